/-! Questions, on both objects. -/
theorem op_piece {S : Hp} {N : Nat} {s : Int} {d : Nat} {h : Hp} {Q : Option AV → Hp → Prop} (hI : gI S h N) (hN : N ≤ 512) (i1 : inR s) (hq : ∀ v h1, inR v → frm S h1 → two S (d + 11) 101 [.inr (.inr 14), .inl s] h1 (some (.inl v)) (N + 1) → Q (some (.inl v)) h1) : wpM (d + 11) 22 [.inr (.inr 0), .inl s] h Q := by
  have key : ∃ b, ga h 3 = b ∧ bAt h 0 b ∧ bdOk b := by
    rcases hI.cases hN with ⟨b, hb, hc, hr⟩ | ⟨n, H, M, ll, hn, hH, hC, hR, hg, hk, hG, hG2⟩
    · exact ⟨b, hc.2.1, hr.2, hb.1.bd⟩
    · exact ⟨_, hC.1.1, hR.1.1, hg.1.1.bd⟩
  obtain ⟨b, e3, eB, hbd⟩ := key
  refine wpM_le (d := 2) (by omega) (w_piece e3 i1 (fun z hz => hq z h ?_ hI.2 ?_))
  · rw [hz]
    by_cases hs : 0 ≤ s ∧ s < 64
    · rw [if_pos hs]
      have := hbd s hs.1 hs.2
      unfold inR; omega
    · rw [if_neg hs]; unfold inR; omega
  · intro Q2 hq2
    exact wpM_le (d := 1) (by omega) (w_mPiece eB i1 (fun z2 hz2 => by rw [hz2, ← hz]; exact hq2 _ hI.up))
theorem op_side {S : Hp} {N : Nat} {d : Nat} {h : Hp} {Q : Option AV → Hp → Prop} (hI : gI S h N) (hN : N ≤ 512) (hq : ∀ v h1, inR v → frm S h1 → two S (d + 11) 102 [.inr (.inr 14)] h1 (some (.inl v)) (N + 1) → Q (some (.inl v)) h1) : wpM (d + 11) 23 [.inr (.inr 0)] h Q := by
  rcases hI.cases hN with ⟨b, hb, hc, hr⟩ | ⟨n, H, M, ll, hn, hH, hC, hR, hg, hk, hG, hG2⟩
  · refine wpM_le (d := 1) (by omega) (w_side hc.1 (Or.inl rfl) rfl (fun z hz => hq z h (by rw [show z = -1 from hz]; unfold inR; decide) hI.2 ?_))
    intro Q2 hq2
    exact wpM_le (d := 1) (by omega) (w_mSide hr.1 (Or.inl rfl) rfl (fun z2 hz2 => by rw [hz2, ← show z = -1 from hz]; exact hq2 _ hI.up))
  · have hsd := hg.1.1.sd
    refine wpM_le (d := 1) (by omega) (w_side hC.2.1 (Or.inr rfl) hC.1.2.2.1 (fun z hz => hq z h (by rw [show z = _ from hz, if_pos rfl]; unfold inR; omega) hI.2 ?_))
    intro Q2 hq2
    exact wpM_le (d := 1) (by omega) (w_mSide hR.2.1 (Or.inr rfl) hR.1.2.1 (fun z2 hz2 => by rw [hz2, ← hz]; exact hq2 _ hI.up))
theorem op_rights {S : Hp} {N : Nat} {d : Nat} {h : Hp} {Q : Option AV → Hp → Prop} (hI : gI S h N) (hN : N ≤ 512) (hq : ∀ v h1, inR v → frm S h1 → two S (d + 11) 103 [.inr (.inr 14)] h1 (some (.inl v)) (N + 1) → Q (some (.inl v)) h1) : wpM (d + 11) 24 [.inr (.inr 0)] h Q := by
  rcases hI.cases hN with ⟨b, hb, hc, hr⟩ | ⟨n, H, M, ll, hn, hH, hC, hR, hg, hk, hG, hG2⟩
  · refine wpM_le (d := 1) (by omega) (w_rights hc.1 (Or.inl rfl) rfl (fun z hz => hq z h (by rw [show z = -1 from hz]; unfold inR; decide) hI.2 ?_))
    intro Q2 hq2
    exact wpM_le (d := 1) (by omega) (w_mRights hr.1 (Or.inl rfl) rfl (fun z2 hz2 => by rw [hz2, ← show z = -1 from hz]; exact hq2 _ hI.up))
  · have hsd := hg.1.1.rg
    refine wpM_le (d := 1) (by omega) (w_rights hC.2.1 (Or.inr rfl) hC.1.2.2.2.1 (fun z hz => hq z h (by rw [show z = _ from hz, if_pos rfl]; unfold inR; omega) hI.2 ?_))
    intro Q2 hq2
    exact wpM_le (d := 1) (by omega) (w_mRights hR.2.1 (Or.inr rfl) hR.1.2.2.1 (fun z2 hz2 => by rw [hz2, ← hz]; exact hq2 _ hI.up))
theorem op_passant {S : Hp} {N : Nat} {d : Nat} {h : Hp} {Q : Option AV → Hp → Prop} (hI : gI S h N) (hN : N ≤ 512) (hq : ∀ v h1, inR v → frm S h1 → two S (d + 11) 104 [.inr (.inr 14)] h1 (some (.inl v)) (N + 1) → Q (some (.inl v)) h1) : wpM (d + 11) 25 [.inr (.inr 0)] h Q := by
  rcases hI.cases hN with ⟨b, hb, hc, hr⟩ | ⟨n, H, M, ll, hn, hH, hC, hR, hg, hk, hG, hG2⟩
  · refine wpM_le (d := 1) (by omega) (w_passant hc.1 (Or.inl rfl) rfl hc.2.2.2 (fun z hz => hq z h (by rw [show z = -1 from hz]; unfold inR; decide) hI.2 ?_))
    intro Q2 hq2
    exact wpM_le (d := 1) (by omega) (w_mPassant hr.1 (Or.inl rfl) rfl (fun z2 hz2 => by rw [hz2, ← show z = -1 from hz]; exact hq2 _ hI.up))
  · have hsd := hg.1.1.ps
    refine wpM_le (d := 1) (by omega) (w_passant hC.2.1 (Or.inr rfl) hC.1.2.2.2.2.1 hsd (fun z hz => hq z h (by rw [show z = _ from hz, if_pos rfl]; unfold inR; omega) hI.2 ?_))
    intro Q2 hq2
    exact wpM_le (d := 1) (by omega) (w_mPassant hR.2.1 (Or.inr rfl) hR.1.2.2.2 (fun z2 hz2 => by rw [hz2, ← hz]; exact hq2 _ hI.up))
theorem op_clock {S : Hp} {N : Nat} {d : Nat} {h : Hp} {Q : Option AV → Hp → Prop} (hI : gI S h N) (hN : N ≤ 512) (hq : ∀ v h1, inR v → frm S h1 → two S (d + 11) 110 [.inr (.inr 14)] h1 (some (.inl v)) (N + 1) → Q (some (.inl v)) h1) : wpM (d + 11) 31 [.inr (.inr 0)] h Q := by
  rcases hI.cases hN with ⟨b, hb, hc, hr⟩ | ⟨n, H, M, ll, hn, hH, hC, hR, hg, hk, hG, hG2⟩
  · refine wpM_le (d := 1) (by omega) (w_clock hc.1 (Or.inl rfl) rfl (fun z hz => hq z h (by rw [show z = 0 from hz]; unfold inR; decide) hI.2 ?_))
    intro Q2 hq2
    exact wpM_le (d := 1) (by omega) (w_mClock hr.1 (Or.inl rfl) rfl (fun z2 hz2 => by rw [show z2 = z from (show z2 = 0 from hz2).trans (show z = 0 from hz).symm]; exact hq2 _ hI.up))
  · refine wpM_le (d := 1) (by omega) (w_clock hC.2.1 (Or.inr rfl) hC.1.2.2.2.2.2 (fun z hz => hq z h (by rw [show z = _ from hz, if_pos rfl]; unfold inR; omega) hI.2 ?_))
    intro Q2 hq2
    exact wpM_le (d := 1) (by omega) (w_mClock hR.2.1 (Or.inr rfl) hR.2.2.2.2.1 (fun z2 hz2 => by rw [hz2, ← hz]; exact hq2 _ hI.up))
theorem op_plies {S : Hp} {N : Nat} {d : Nat} {h : Hp} {Q : Option AV → Hp → Prop} (hI : gI S h N) (hN : N ≤ 512) (hq : ∀ v h1, inR v → frm S h1 → two S (d + 11) 111 [.inr (.inr 14)] h1 (some (.inl v)) (N + 1) → Q (some (.inl v)) h1) : wpM (d + 11) 32 [.inr (.inr 0)] h Q := by
  rcases hI.cases hN with ⟨b, hb, hc, hr⟩ | ⟨n, H, M, ll, hn, hH, hC, hR, hg, hk, hG, hG2⟩
  · refine wpM_le (d := 1) (by omega) (w_plies hc.1 (Or.inl rfl) rfl (fun z hz => hq z h (by rw [show z = 0 from hz]; unfold inR; decide) hI.2 ?_))
    intro Q2 hq2
    exact wpM_le (d := 1) (by omega) (w_mPlies hr.1 (Or.inl rfl) rfl (fun z2 hz2 => by rw [show z2 = z from (show z2 = 0 from hz2).trans (show z = 0 from hz).symm]; exact hq2 _ hI.up))
  · refine wpM_le (d := 1) (by omega) (w_plies hC.2.1 (Or.inr rfl) hC.2.2.1 (fun z hz => hq z h (by rw [show z = _ from hz, if_pos rfl]; unfold inR; omega) hI.2 ?_))
    intro Q2 hq2
    exact wpM_le (d := 1) (by omega) (w_mPlies hR.2.1 (Or.inr rfl) hR.2.2.1 (fun z2 hz2 => by rw [hz2, ← hz]; exact hq2 _ hI.up))
theorem op_moves {S : Hp} {N : Nat} {d : Nat} {h : Hp} {Q : Option AV → Hp → Prop} (hI : gI S h N) (hN : N ≤ 512) (hq : ∀ v h1, inR v → frm S h1 → two S (d + 11) 105 [.inr (.inr 14)] h1 (some (.inl v)) (N + 1) → Q (some (.inl v)) h1) : wpM (d + 11) 26 [.inr (.inr 0)] h Q := by
  rcases hI.cases hN with ⟨b, hb, hc, hr⟩ | ⟨n, H, M, ll, hn, hH, hC, hR, hg, hk, hG, hG2⟩
  · refine wpM_le (d := 1) (by omega) (w_moves hc.1 (Or.inl rfl) rfl (fun z hz => hq z h (by rw [show z = 0 from hz]; unfold inR; decide) hI.2 ?_))
    intro Q2 hq2
    exact wpM_le (d := 1) (by omega) (w_mMoves0 hr.1 (by rw [← show z = 0 from hz]; exact hq2 _ hI.up))
  · have hlen := hC.2.2.2.1.2.1
    refine wpM_le (d := 1) (by omega) (w_moves hC.2.1 (Or.inr rfl) hC.2.2.2.1.1 (fun z hz => hq z h (by rw [show z = _ from hz, if_pos rfl]; unfold inR; omega) hI.2 ?_))
    intro Q2 hq2
    refine wpM_le (d := 9) (by omega) (w_mMoves hG2 (fun h2 z2 x hz2 => ?_))
    rw [hz2, moves_same hC.2.2.2.2.1 hlen, ← show z = ((ll.length : Nat) : Int) from hz]
    exact hq2 _ ⟨Or.inr ⟨n, H, M, ll, by omega, hH, hC.of (offM.lo x), hR.lo x⟩, hI.2.oM (offM.lo x)⟩
theorem op_legal {S : Hp} {N : Nat} {i : Int} {d : Nat} {h : Hp} {Q : Option AV → Hp → Prop} (hI : gI S h N) (hN : N ≤ 512) (i1 : inR i) (hq : ∀ v h1, inR v → frm S h1 → two S (d + 11) 106 [.inr (.inr 14), .inl i] h1 (some (.inl v)) (N + 1) → Q (some (.inl v)) h1) : wpM (d + 11) 27 [.inr (.inr 0), .inl i] h Q := by
  rcases hI.cases hN with ⟨b, hb, hc, hr⟩ | ⟨n, H, M, ll, hn, hH, hC, hR, hg, hk, hG, hG2⟩
  · refine wpM_le (d := 1) (by omega) (w_legal0 hc.1 (Or.inl rfl) i1 (Or.inl rfl) (hq _ h (by unfold inR; omega) hI.2 ?_))
    intro Q2 hq2
    exact wpM_le (d := 1) (by omega) (w_mLegal0 hr.1 (Or.inl rfl) i1 (Or.inl rfl) (hq2 _ hI.up))
  · by_cases hi : i < 0
    · refine wpM_le (d := 1) (by omega) (w_legal0 hC.2.1 (Or.inr rfl) i1 (Or.inr hi) (hq _ h (by unfold inR; omega) hI.2 ?_))
      intro Q2 hq2
      exact wpM_le (d := 1) (by omega) (w_mLegal0 hR.2.1 (Or.inr rfl) i1 (Or.inr hi) (hq2 _ hI.up))
    · have hi2 : 0 ≤ i ∧ i ≤ 2147483647 := by unfold inR at i1; omega
      have hll : ∀ x ∈ ll, 0 ≤ x ∧ x < 32768 := fun x hx => ((hC.2.2.2.2.1.2 x).mp hx).1
      refine wpM_le (d := 2) (by omega) (w_legal hC.2.1 hC.2.2.2.1 hll hi2 (fun z hz => hq z h ?_ hI.2 ?_))
      · rcases hz with ⟨x, hx, hz⟩ | ⟨-, hz⟩
        · have := hll x (List.mem_of_getElem? hx)
          unfold inR; omega
        · unfold inR; omega
      · intro Q2 hq2
        refine wpM_le (d := 8) (by omega) (w_mLegal hG2 hi2 (fun h2 z2 x hz2 => ?_))
        rw [leg_same hC.2.2.2.2.1 hi2.1 hz2 hz]
        exact hq2 _ ⟨Or.inr ⟨n, H, M, ll, by omega, hH, hC.of (offM.lo x), hR.lo x⟩, hI.2.oM (offM.lo x)⟩
theorem op_attackers {S : Hp} {N : Nat} {s sd : Int} {d : Nat} {h : Hp} {Q : Option AV → Hp → Prop} (hI : gI S h N) (hN : N ≤ 512) (i1 : inR s) (i2 : inR sd) (hq : ∀ v h1, inR v → frm S h1 → two S (d + 11) 107 [.inr (.inr 14), .inl s, .inl sd] h1 (some (.inl v)) (N + 1) → Q (some (.inl v)) h1) : wpM (d + 11) 28 [.inr (.inr 0), .inl s, .inl sd] h Q := by
  have key : ∃ b, ga h 3 = b ∧ bAt h 0 b ∧ bdOk b := by
    rcases hI.cases hN with ⟨b, hb, hc, hr⟩ | ⟨n, H, M, ll, hn, hH, hC, hR, hg, hk, hG, hG2⟩
    · exact ⟨b, hc.2.1, hr.2, hb.1.bd⟩
    · exact ⟨_, hC.1.1, hR.1.1, hg.1.1.bd⟩
  obtain ⟨b, e3, eB, hbd⟩ := key
  refine wpM_le (d := 4) (by omega) (w_attackers e3 hbd i1 i2 (fun hno => hq _ h (by unfold inR; omega) hI.2 ?_) (fun hyes => hq _ h ?_ hI.2 ?_))
  · intro Q2 hq2
    exact wpM_le (d := 4) (by omega) (w_mAttackers eB hbd i1 i2 (fun _ => hq2 _ hI.up) (fun z => absurd z hno))
  · rw [cnt_many hbd hyes.2 hyes.1]
    have : 0 ≤ sumF (manF b s sd) 64 ∧ sumF (manF b s sd) 64 ≤ ((64 : Nat) : Int) := sumD_in (p := fun x => ofS (b x) sd ∧ hitS b x s) 64
    unfold inR; omega
  · intro Q2 hq2
    refine wpM_le (d := 4) (by omega) (w_mAttackers eB hbd i1 i2 (fun z => absurd hyes z) (fun _ => ?_))
    rw [← cnt_many hbd hyes.2 hyes.1]
    exact hq2 _ hI.up
theorem op_check {S : Hp} {N : Nat} {d : Nat} {h : Hp} {Q : Option AV → Hp → Prop} (hI : gI S h N) (hN : N ≤ 512) (hq : ∀ v h1, inR v → frm S h1 → two S (d + 11) 108 [.inr (.inr 14)] h1 (some (.inl v)) (N + 1) → Q (some (.inl v)) h1) : wpM (d + 11) 29 [.inr (.inr 0)] h Q := by
  rcases hI.cases hN with ⟨b, hb, hc, hr⟩ | ⟨n, H, M, ll, hn, hH, hC, hR, hg, hk, hG, hG2⟩
  · refine wpM_le (d := 1) (by omega) (w_check0 hc.1 (hq _ h (by unfold inR; omega) hI.2 ?_))
    intro Q2 hq2
    exact wpM_le (d := 1) (by omega) (w_mCheckP0 hr.1 (hq2 _ hI.up))
  · have hsd := hg.1.1.sd
    have hkk := hg.2 _ hsd.1 hsd.2
    refine wpM_le (d := 5) (by omega) (w_check hG (fun z hz => hq z h ?_ hI.2 ?_))
    · have := d01 hz
      unfold inR; omega
    · intro Q2 hq2
      refine wpM_le (d := 5) (by omega) (w_mCheckP hG2 (fun z2 hz2 => ?_))
      rw [hz2, dec_cg (chk_cnt hg.1.1.bd hsd (hg.1.1.me hsd) hkk.1 hkk.2), ← hz]
      exact hq2 _ hI.up
theorem op_verdict {S : Hp} {N : Nat} {d : Nat} {h : Hp} {Q : Option AV → Hp → Prop} (hI : gI S h N) (hN : N ≤ 512) (hq : ∀ v h1, inR v → frm S h1 → two S (d + 11) 94 [.inr (.inr 14)] h1 (some (.inl v)) (N + 1) → Q (some (.inl v)) h1) : wpM (d + 11) 20 [.inr (.inr 0)] h Q := by
  rcases hI.cases hN with ⟨b, hb, hc, hr⟩ | ⟨n, H, M, ll, hn, hH, hC, hR, hg, hk, hG, hG2⟩
  · refine wpM_le (d := 1) (by omega) (w_verdict0 hc.1 (hq _ h (by unfold inR; omega) hI.2 ?_))
    intro Q2 hq2
    exact wpM_le (d := 1) (by omega) (w_mVerdict0 hr.1 (hq2 _ hI.up))
  · refine wpM_le (d := 5) (by omega) (w_verdict hG (fun z hz => hq z h ?_ hI.2 ?_))
    · rw [hz]; unfold verA inR; (repeat' split) <;> omega
    · intro Q2 hq2
      refine wpM_le (d := 9) (by omega) (w_mVerdict hG2 (fun h2 z2 x hz2 => ?_))
      rw [hz2, ← ver_eq hH hC hR, ← hz]
      exact hq2 _ ⟨Or.inr ⟨n, H, M, ll, by omega, hH, hC.of (offM.lo x), hR.lo x⟩, hI.2.oM (offM.lo x)⟩
theorem op_claims {S : Hp} {N : Nat} {d : Nat} {h : Hp} {Q : Option AV → Hp → Prop} (hI : gI S h N) (hN : N ≤ 512) (hq : ∀ v h1, inR v → frm S h1 → two S (d + 11) 109 [.inr (.inr 14)] h1 (some (.inl v)) (N + 1) → Q (some (.inl v)) h1) : wpM (d + 11) 30 [.inr (.inr 0)] h Q := by
  rcases hI.cases hN with ⟨b, hb, hc, hr⟩ | ⟨n, H, M, ll, hn, hH, hC, hR, hg, hk, hG, hG2⟩
  · refine wpM_le (d := 1) (by omega) (w_claims0 hc.1 (hq _ h (by unfold inR; omega) hI.2 ?_))
    intro Q2 hq2
    exact wpM_le (d := 1) (by omega) (w_mClaims0 hr.1 (hq2 _ hI.up))
  · refine wpM_le (d := 3) (by omega) (w_claims hG (fun z hz => hq z h ?_ hI.2 ?_))
    · rw [hz]; unfold clmM inR; split <;> split <;> omega
    · intro Q2 hq2
      refine wpM_le (d := 2) (by omega) (w_mClaims hG2 (fun z2 hz2 => ?_))
      rw [hz2, ← tm_same hH hC hR (n + 1) (Nat.le_refl _), ← hz]
      exact hq2 _ hI.up
theorem op_search {S : Hp} {N : Nat} {dp : Int} {d : Nat} {h : Hp} {Q : Option AV → Hp → Prop} (hI : gI S h N) (hN : N ≤ 512) (i1 : inR dp) (hq : ∀ v h1, inR v → frm S h1 → two S (d + 11) 112 [.inr (.inr 14), .inl dp] h1 (some (.inl v)) (N + 1) → Q (some (.inl v)) h1) : wpM (d + 11) 33 [.inr (.inr 0), .inl dp] h Q := by
  rcases hI.cases hN with ⟨b, hb, hc, hr⟩ | ⟨n, H, M, ll, hn, hH, hC, hR, hg, hk, hG, hG2⟩
  · have no : ¬ schG 0 dp := fun z => by have := z.1; omega
    refine wpM_le (d := 1) (by omega) (w_search0 hc.1 (Or.inl rfl) i1 no (hq _ h (by unfold inR; omega) hI.2 ?_))
    intro Q2 hq2
    exact wpM_le (d := 1) (by omega) (w_mSearch0 hr.1 (Or.inl rfl) i1 no (hq2 _ hI.up))
  · by_cases hd : 0 ≤ dp ∧ dp ≤ 2
    · refine wpM_le (d := 8) (by omega) (w_search hG (gp_fn hg.1.1 hg.2) (hN_of hg (by omega) hC.2.2.2.2.1) hd (fun h1 z s1 hp1 hz => hq z h1 ?_ (hI.2.oC (offC.sm s1 (by decide))) ?_))
      · rw [hz, sch_same hg.1 hg.2 hC.2.2.2.2.1]
        have h1 := bal_in (b := pB (H n)) (sd := pS (H n))
        have h2 := oneM_in (B := pB (H n)) (sd := pS (H n)) (r := pR (H n)) (ps := pP (H n))
        have h3 : -1000 ≤ twoM (pB (H n)) (pS (H n)) (pR (H n)) (pP (H n)) ∧ twoM (pB (H n)) (pS (H n)) (pR (H n)) (pP (H n)) ≤ 1000 := by
          rw [← two_same hg.1 hg.2 hC.2.2.2.2.1]
          unfold twoA nonA
          have := twN_in (b := pB (H n)) (k := pK (H n)) (sd := pS (H n)) (r := pR (H n)) (ps := pP (H n)) (ll := ll) ll.length
          split
          · split <;> omega
          · omega
        unfold schM inR
        split
        · omega
        · split <;> omega
      · have x1 : offC h h1 := offC.sm s1 (by decide)
        have hR1 := hR.of x1
        have hG3 := hR1.G hH (by omega)
        have hcl : clsI h1 n H M ll := by
          obtain ⟨a, b, c, ⟨r1, r2, r3⟩, l, m, u, k⟩ := hC
          refine ⟨hp1, ?_, ?_, ⟨?_, r2, fun i v hv => ?_⟩, l, fun i hi => ⟨?_, fun q' hq' => ?_⟩, fun i hi => ?_, fun j hj => ?_⟩
          · rw [s1.at (by decide)]; exact b
          · rw [s1.at (by decide)]; exact c
          · rw [s1.at (by decide)]; exact r1
          · rw [s1.at (by decide)]; exact r3 i v hv
          · rw [s1.at (by decide)]; exact (m i hi).1
          · show h1.2 12 _ = _
            rw [s1.1]; exact (m i hi).2 q' hq'
          · rw [s1.at (by decide), s1.at (by decide)]; exact u i hi
          · rw [s1.at (by decide)]; exact k j hj
        intro Q2 hq2
        refine wpM_le (d := 10) (by omega) (w_mSearch hG3 hd (fun h2 z2 x hz2 => ?_))
        rw [hz2, ← sch_same hg.1 hg.2 hC.2.2.2.2.1, ← hz]
        exact hq2 _ ⟨Or.inr ⟨n, H, M, ll, by omega, hH, hcl.of (offM.lo x), hR1.lo x⟩, (hI.2.oC x1).oM (offM.lo x)⟩
    · have no : ¬ schG 1 dp := fun z => hd z.2
      refine wpM_le (d := 1) (by omega) (w_search0 hC.2.1 (Or.inr rfl) i1 no (hq _ h (by unfold inR; omega) hI.2 ?_))
      intro Q2 hq2
      exact wpM_le (d := 1) (by omega) (w_mSearch0 hR.2.1 (Or.inr rfl) i1 no (hq2 _ hI.up))
