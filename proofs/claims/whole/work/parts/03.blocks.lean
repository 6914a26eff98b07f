/-! What a program decides of the names. Written by wip/gen/names.py. -/
def ilen : Instr → Nat
  | .iconst _ => 1
  | .lconst _ => 1
  | .iload_n _ => 1
  | .lload_n _ => 1
  | .aload_n _ => 1
  | .istore_n _ => 1
  | .lstore_n _ => 1
  | .astore_n _ => 1
  | .iadd => 1
  | .isub => 1
  | .imul => 1
  | .iand => 1
  | .ior => 1
  | .ixor => 1
  | .idiv => 1
  | .irem => 1
  | .ishl => 1
  | .ishr => 1
  | .ineg => 1
  | .i2l => 1
  | .i2b => 1
  | .i2s => 1
  | .l2i => 1
  | .land => 1
  | .lor => 1
  | .lcmp => 1
  | .lshl => 1
  | .lshr => 1
  | .iaload => 1
  | .baload => 1
  | .saload => 1
  | .laload => 1
  | .iastore => 1
  | .bastore => 1
  | .sastore => 1
  | .lastore => 1
  | .arraylength => 1
  | .dup => 1
  | .ireturn => 1
  | .return_ => 1
  | .bipush _ => 2
  | .ldc _ => 2
  | .iload _ => 2
  | .lload _ => 2
  | .aload _ => 2
  | .istore _ => 2
  | .lstore _ => 2
  | .astore _ => 2
  | .sipush _ => 3
  | .ldc2_w _ => 3
  | .iinc _ _ => 3
  | .getfield _ => 3
  | .putfield _ => 3
  | .getstatic _ => 3
  | .invokestatic _ => 3
  | .invokevirtual _ => 3
  | .if_icmp _ _ => 3
  | .ifCond _ _ => 3
  | .goto _ => 3
  | _ => 0
def hasN (l : List (Nat × Nat × Nat × Nat)) (a b c : Nat) : Bool := l.any (fun q => (q.1 == a) && ((q.2.1 == b) && (q.2.2.1 == c)))
def okA (own nL pc : Nat) (e : CE) : Bool := match e with
  | (.istore k, _, _, _, _) => decide ((k : Nat) < nL)
  | (.istore_n k, _, _, _, _) => decide ((k : Nat) < nL)
  | (.astore k, _, _, _, _) => decide ((k : Nat) < nL)
  | (.astore_n k, _, _, _, _) => decide ((k : Nat) < nL)
  | (.iinc k _, _, _, _, _) => decide ((k : Nat) < nL)
  | (.lstore k, _, _, _, _) => decide ((k : Nat) + 1 < nL)
  | (.lstore_n k, _, _, _, _) => decide ((k : Nat) + 1 < nL)
  | (.ldc k, _, _, _, z) => conI.any (fun q => (q.1 == own) && ((q.2.1 == k) && (q.2.2.1 == z)))
  | (.ldc2_w k, _, _, _, z) => conL.any (fun q => (q.1 == own) && ((q.2.1 == k) && (q.2.2.1 == z)))
  | (.getfield k, _, a, b, _) => linkF.any (fun q => ((q.1 == own) && (q.2.1 == k)) && ((q.2.2.1 == a) && (q.2.2.2.1 == b)))
  | (.putfield k, _, a, b, _) => linkF.any (fun q => ((q.1 == own) && (q.2.1 == k)) && ((q.2.2.1 == a) && (q.2.2.2.1 == b))) && (decide ((FT a b).2.2.2 = false) && decide (fty a b = (if isZ a b = true then .boolean else .int)))
  | (.getstatic k, _, a, _, _) => (decide (24 ≤ a) && decide (a < 32)) && (hasN statS own k a || hasN nestSp own k a)
  | (.invokestatic k, _, 0, _, _) => absL.any (fun q => (q.1 == own) && (q.2.1 == k))
  | (.invokestatic k, _, 1, _, _) => maxL.any (fun q => (q.1 == own) && (q.2.1 == k))
  | (.invokestatic k, _, m + 2, b, _) => (decide (m < nM) && (b == mna m)) && ((mst m == true) && (hasN linkM own k m || hasN nestMp own k m))
  | (.invokevirtual k, _, m + 2, b, _) => (decide (m < nM) && (b == mna m)) && ((mst m == false) && (hasN linkM own k m || hasN nestMp own k m))
  | (.invokevirtual _, _, _, _, _) => false
  | (.if_icmp _ off, _, _, _, _) => decide (0 ≤ (pc : Int) + off)
  | (.ifCond _ off, _, _, _, _) => decide (0 ≤ (pc : Int) + off)
  | (.goto off, _, _, _, _) => decide (0 ≤ (pc : Int) + off)
  | (.tableswitch d lo hi offs, _, _, _, _) => decide ((offs.size : Int) = hi - lo + 1) && (decide (0 ≤ (pc : Int) + d) && offs.toList.all (fun o => decide (0 ≤ (pc : Int) + o)))
  | _ => true
def okE (own nL : Nat) (cc : ByteArray) (pc : Nat) (q : CE) : Bool := (match decode cc pc with | .ok (i, n) => decide (i = q.1) && (n == q.2.1) | .error _ => false) && (((ilen q.1 == 0) || (q.2.1 == ilen q.1)) && okA own nL pc q)
def okBlk (own nL : Nat) (cc : ByteArray) : Nat → List CE → Bool
  | _, [] => true
  | pc, q :: is => okE own nL cc pc q && okBlk own nL cc (pc + q.2.1) is
theorem lkB_ok {own nL : Nat} {cc : ByteArray} : ∀ {l : List (Nat × List CE)} (pc : Nat), l.all (fun q => okBlk own nL cc q.1 q.2) = true → okBlk own nL cc pc (lkB l pc) = true
  | [], _, _ => rfl
  | q :: l, pc, h => by
    rw [List.all_cons, Bool.and_eq_true] at h
    unfold lkB
    cases hq : (q.1 == pc) with
    | true =>
      have e : q.1 = pc := by simpa using hq
      rw [← e]
      exact h.1
    | false => exact lkB_ok pc h.2
theorem ok0 : bl0.all (fun q => okBlk 0 2 prog_1_method_33_code q.1 q.2) = true := by decide +kernel
theorem ok1 : bl1.all (fun q => okBlk 0 4 prog_1_method_21_code q.1 q.2) = true := by decide +kernel
theorem ok2 : bl2.all (fun q => okBlk 0 3 prog_1_method_22_code q.1 q.2) = true := by decide +kernel
theorem ok3 : bl3.all (fun q => okBlk 0 2 prog_1_method_32_code q.1 q.2) = true := by decide +kernel
theorem ok4 : bl4.all (fun q => okBlk 0 1 prog_1_method_31_code q.1 q.2) = true := by decide +kernel
theorem ok5 : bl5.all (fun q => okBlk 0 1 prog_1_method_34_code q.1 q.2) = true := by decide +kernel
theorem ok6 : bl6.all (fun q => okBlk 0 1 prog_1_method_27_code q.1 q.2) = true := by decide +kernel
theorem ok7 : bl7.all (fun q => okBlk 0 3 prog_1_method_35_code q.1 q.2) = true := by decide +kernel
theorem ok8 : bl8.all (fun q => okBlk 0 2 prog_1_method_28_code q.1 q.2) = true := by decide +kernel
theorem ok9 : bl9.all (fun q => okBlk 0 1 prog_1_method_36_code q.1 q.2) = true := by decide +kernel
theorem ok10 : bl10.all (fun q => okBlk 0 1 prog_1_method_37_code q.1 q.2) = true := by decide +kernel
theorem ok11 : bl11.all (fun q => okBlk 0 1 prog_1_method_38_code q.1 q.2) = true := by decide +kernel
theorem ok12 : bl12.all (fun q => okBlk 0 4 prog_1_method_23_code q.1 q.2) = true := by decide +kernel
theorem ok13 : bl13.all (fun q => okBlk 0 1 prog_1_method_2_code q.1 q.2) = true := by decide +kernel
theorem ok14 : bl14.all (fun q => okBlk 0 1 prog_1_method_3_code q.1 q.2) = true := by decide +kernel
theorem ok15 : bl15.all (fun q => okBlk 0 3 prog_1_method_4_code q.1 q.2) = true := by decide +kernel
theorem ok16 : bl16.all (fun q => okBlk 0 3 prog_1_method_30_code q.1 q.2) = true := by decide +kernel
theorem ok17 : bl17.all (fun q => okBlk 0 5 prog_1_method_5_code q.1 q.2) = true := by decide +kernel
theorem ok18 : bl18.all (fun q => okBlk 0 1 prog_1_method_29_code q.1 q.2) = true := by decide +kernel
theorem ok19 : bl19.all (fun q => okBlk 0 5 prog_1_method_6_code q.1 q.2) = true := by decide +kernel
theorem ok20 : bl20.all (fun q => okBlk 0 1 prog_1_method_16_code q.1 q.2) = true := by decide +kernel
theorem ok21 : bl21.all (fun q => okBlk 0 1 prog_1_method_7_code q.1 q.2) = true := by decide +kernel
theorem ok22 : bl22.all (fun q => okBlk 0 2 prog_1_method_8_code q.1 q.2) = true := by decide +kernel
theorem ok23 : bl23.all (fun q => okBlk 0 1 prog_1_method_9_code q.1 q.2) = true := by decide +kernel
theorem ok24 : bl24.all (fun q => okBlk 0 1 prog_1_method_10_code q.1 q.2) = true := by decide +kernel
theorem ok25 : bl25.all (fun q => okBlk 0 1 prog_1_method_11_code q.1 q.2) = true := by decide +kernel
theorem ok26 : bl26.all (fun q => okBlk 0 1 prog_1_method_12_code q.1 q.2) = true := by decide +kernel
theorem ok27 : bl27.all (fun q => okBlk 0 3 prog_1_method_13_code q.1 q.2) = true := by decide +kernel
theorem ok28 : bl28.all (fun q => okBlk 0 3 prog_1_method_14_code q.1 q.2) = true := by decide +kernel
theorem ok29 : bl29.all (fun q => okBlk 0 1 prog_1_method_15_code q.1 q.2) = true := by decide +kernel
theorem ok30 : bl30.all (fun q => okBlk 0 2 prog_1_method_17_code q.1 q.2) = true := by decide +kernel
theorem ok31 : bl31.all (fun q => okBlk 0 1 prog_1_method_18_code q.1 q.2) = true := by decide +kernel
theorem ok32 : bl32.all (fun q => okBlk 0 1 prog_1_method_19_code q.1 q.2) = true := by decide +kernel
theorem ok33 : bl33.all (fun q => okBlk 0 2 prog_1_method_20_code q.1 q.2) = true := by decide +kernel
theorem ok34 : bl34.all (fun q => okBlk 0 5 prog_1_method_24_code q.1 q.2) = true := by decide +kernel
theorem ok35 : bl35.all (fun q => okBlk 0 1 prog_1_method_26_code q.1 q.2) = true := by decide +kernel
theorem ok36 : bl36.all (fun q => okBlk 0 5 prog_1_method_25_code q.1 q.2) = true := by decide +kernel
theorem ok37 : bl37.all (fun q => okBlk 1 4 prog_6_method_2_code q.1 q.2) = true := by decide +kernel
theorem ok38 : bl38.all (fun q => okBlk 1 5 prog_6_method_4_code q.1 q.2) = true := by decide +kernel
theorem ok39 : bl39.all (fun q => okBlk 1 10 prog_6_method_6_code q.1 q.2) = true := by decide +kernel
theorem ok40 : bl40.all (fun q => okBlk 1 3 prog_6_method_8_code q.1 q.2) = true := by decide +kernel
theorem ok41 : bl41.all (fun q => okBlk 1 2 prog_6_method_9_code q.1 q.2) = true := by decide +kernel
theorem ok42 : bl42.all (fun q => okBlk 1 2 prog_6_method_10_code q.1 q.2) = true := by decide +kernel
theorem ok43 : bl43.all (fun q => okBlk 1 3 prog_6_method_11_code q.1 q.2) = true := by decide +kernel
theorem ok44 : bl44.all (fun q => okBlk 1 6 prog_6_method_12_code q.1 q.2) = true := by decide +kernel
theorem ok45 : bl45.all (fun q => okBlk 1 6 prog_6_method_7_code q.1 q.2) = true := by decide +kernel
theorem ok46 : bl46.all (fun q => okBlk 1 1 prog_6_method_3_code q.1 q.2) = true := by decide +kernel
theorem ok47 : bl47.all (fun q => okBlk 1 6 prog_6_method_5_code q.1 q.2) = true := by decide +kernel
theorem ok48 : bl48.all (fun q => okBlk 2 2 prog_2_method_3_code q.1 q.2) = true := by decide +kernel
theorem ok49 : bl49.all (fun q => okBlk 2 1 prog_2_method_2_code q.1 q.2) = true := by decide +kernel
theorem ok50 : bl50.all (fun q => okBlk 2 4 prog_2_method_4_code q.1 q.2) = true := by decide +kernel
theorem ok51 : bl51.all (fun q => okBlk 2 6 prog_2_method_5_code q.1 q.2) = true := by decide +kernel
theorem ok52 : bl52.all (fun q => okBlk 2 6 prog_2_method_6_code q.1 q.2) = true := by decide +kernel
theorem ok53 : bl53.all (fun q => okBlk 2 7 prog_2_method_7_code q.1 q.2) = true := by decide +kernel
theorem ok54 : bl54.all (fun q => okBlk 2 6 prog_2_method_8_code q.1 q.2) = true := by decide +kernel
theorem ok55 : bl55.all (fun q => okBlk 2 7 prog_2_method_10_code q.1 q.2) = true := by decide +kernel
theorem ok56 : bl56.all (fun q => okBlk 2 5 prog_2_method_9_code q.1 q.2) = true := by decide +kernel
theorem ok57 : bl57.all (fun q => okBlk 3 2 prog_5_method_2_code q.1 q.2) = true := by decide +kernel
theorem ok58 : bl58.all (fun q => okBlk 3 3 prog_5_method_3_code q.1 q.2) = true := by decide +kernel
theorem ok59 : bl59.all (fun q => okBlk 3 3 prog_5_method_4_code q.1 q.2) = true := by decide +kernel
theorem ok60 : bl60.all (fun q => okBlk 4 7 prog_3_method_7_code q.1 q.2) = true := by decide +kernel
theorem ok61 : bl61.all (fun q => okBlk 4 3 prog_3_method_8_code q.1 q.2) = true := by decide +kernel
theorem ok62 : bl62.all (fun q => okBlk 4 3 prog_3_method_9_code q.1 q.2) = true := by decide +kernel
theorem ok63 : bl63.all (fun q => okBlk 4 1 prog_3_method_2_code q.1 q.2) = true := by decide +kernel
theorem ok64 : bl64.all (fun q => okBlk 4 3 prog_3_method_3_code q.1 q.2) = true := by decide +kernel
theorem ok65 : bl65.all (fun q => okBlk 4 1 prog_3_method_5_code q.1 q.2) = true := by decide +kernel
theorem ok66 : bl66.all (fun q => okBlk 4 1 prog_3_method_6_code q.1 q.2) = true := by decide +kernel
theorem ok67 : bl67.all (fun q => okBlk 4 1 prog_3_method_4_code q.1 q.2) = true := by decide +kernel
theorem ok68 : bl68.all (fun q => okBlk 5 3 prog_9_method_18_code q.1 q.2) = true := by decide +kernel
theorem ok69 : bl69.all (fun q => okBlk 5 2 prog_9_method_17_code q.1 q.2) = true := by decide +kernel
theorem ok70 : bl70.all (fun q => okBlk 5 4 prog_9_method_19_code q.1 q.2) = true := by decide +kernel
theorem ok71 : bl71.all (fun q => okBlk 5 5 prog_9_method_21_code q.1 q.2) = true := by decide +kernel
theorem ok72 : bl72.all (fun q => okBlk 5 3 prog_9_method_20_code q.1 q.2) = true := by decide +kernel
theorem ok73 : bl73.all (fun q => okBlk 5 1 prog_9_method_2_code q.1 q.2) = true := by decide +kernel
theorem ok74 : bl74.all (fun q => okBlk 5 5 prog_9_method_14_code q.1 q.2) = true := by decide +kernel
theorem ok75 : bl75.all (fun q => okBlk 5 6 prog_9_method_11_code q.1 q.2) = true := by decide +kernel
theorem ok76 : bl76.all (fun q => okBlk 5 2 prog_9_method_3_code q.1 q.2) = true := by decide +kernel
theorem ok77 : bl77.all (fun q => okBlk 5 9 prog_9_method_9_code q.1 q.2) = true := by decide +kernel
theorem ok78 : bl78.all (fun q => okBlk 5 9 prog_9_method_6_code q.1 q.2) = true := by decide +kernel
theorem ok79 : bl79.all (fun q => okBlk 5 1 prog_9_method_4_code q.1 q.2) = true := by decide +kernel
theorem ok80 : bl80.all (fun q => okBlk 5 9 prog_9_method_5_code q.1 q.2) = true := by decide +kernel
theorem ok81 : bl81.all (fun q => okBlk 5 11 prog_9_method_10_code q.1 q.2) = true := by decide +kernel
theorem ok82 : bl82.all (fun q => okBlk 5 4 prog_9_method_8_code q.1 q.2) = true := by decide +kernel
theorem ok83 : bl83.all (fun q => okBlk 5 6 prog_9_method_7_code q.1 q.2) = true := by decide +kernel
theorem ok84 : bl84.all (fun q => okBlk 5 11 prog_9_method_13_code q.1 q.2) = true := by decide +kernel
theorem ok85 : bl85.all (fun q => okBlk 5 3 prog_9_method_12_code q.1 q.2) = true := by decide +kernel
theorem ok86 : bl86.all (fun q => okBlk 5 1 prog_9_method_23_code q.1 q.2) = true := by decide +kernel
theorem ok87 : bl87.all (fun q => okBlk 5 3 prog_9_method_24_code q.1 q.2) = true := by decide +kernel
theorem ok88 : bl88.all (fun q => okBlk 5 4 prog_9_method_29_code q.1 q.2) = true := by decide +kernel
theorem ok89 : bl89.all (fun q => okBlk 5 5 prog_9_method_25_code q.1 q.2) = true := by decide +kernel
theorem ok90 : bl90.all (fun q => okBlk 5 3 prog_9_method_26_code q.1 q.2) = true := by decide +kernel
theorem ok91 : bl91.all (fun q => okBlk 5 8 prog_9_method_27_code q.1 q.2) = true := by decide +kernel
theorem ok92 : bl92.all (fun q => okBlk 5 4 prog_9_method_28_code q.1 q.2) = true := by decide +kernel
theorem ok93 : bl93.all (fun q => okBlk 5 6 prog_9_method_30_code q.1 q.2) = true := by decide +kernel
theorem ok94 : bl94.all (fun q => okBlk 5 1 prog_9_method_42_code q.1 q.2) = true := by decide +kernel
theorem ok95 : bl95.all (fun q => okBlk 5 7 prog_9_method_16_code q.1 q.2) = true := by decide +kernel
theorem ok96 : bl96.all (fun q => okBlk 5 2 prog_9_method_15_code q.1 q.2) = true := by decide +kernel
theorem ok97 : bl97.all (fun q => okBlk 5 8 prog_9_method_40_code q.1 q.2) = true := by decide +kernel
theorem ok98 : bl98.all (fun q => okBlk 5 5 prog_9_method_41_code q.1 q.2) = true := by decide +kernel
theorem ok99 : bl99.all (fun q => okBlk 5 1 prog_9_method_31_code q.1 q.2) = true := by decide +kernel
theorem ok100 : bl100.all (fun q => okBlk 5 2 prog_9_method_22_code q.1 q.2) = true := by decide +kernel
theorem ok101 : bl101.all (fun q => okBlk 5 2 prog_9_method_32_code q.1 q.2) = true := by decide +kernel
theorem ok102 : bl102.all (fun q => okBlk 5 1 prog_9_method_33_code q.1 q.2) = true := by decide +kernel
theorem ok103 : bl103.all (fun q => okBlk 5 1 prog_9_method_34_code q.1 q.2) = true := by decide +kernel
theorem ok104 : bl104.all (fun q => okBlk 5 1 prog_9_method_35_code q.1 q.2) = true := by decide +kernel
theorem ok105 : bl105.all (fun q => okBlk 5 1 prog_9_method_36_code q.1 q.2) = true := by decide +kernel
theorem ok106 : bl106.all (fun q => okBlk 5 6 prog_9_method_37_code q.1 q.2) = true := by decide +kernel
theorem ok107 : bl107.all (fun q => okBlk 5 3 prog_9_method_38_code q.1 q.2) = true := by decide +kernel
theorem ok108 : bl108.all (fun q => okBlk 5 1 prog_9_method_39_code q.1 q.2) = true := by decide +kernel
theorem ok109 : bl109.all (fun q => okBlk 5 1 prog_9_method_43_code q.1 q.2) = true := by decide +kernel
theorem ok110 : bl110.all (fun q => okBlk 5 1 prog_9_method_44_code q.1 q.2) = true := by decide +kernel
theorem ok111 : bl111.all (fun q => okBlk 5 1 prog_9_method_45_code q.1 q.2) = true := by decide +kernel
theorem ok112 : bl112.all (fun q => okBlk 5 2 prog_9_method_50_code q.1 q.2) = true := by decide +kernel
theorem ok113 : bl113.all (fun q => okBlk 5 7 prog_9_method_46_code q.1 q.2) = true := by decide +kernel
theorem ok114 : bl114.all (fun q => okBlk 5 7 prog_9_method_48_code q.1 q.2) = true := by decide +kernel
theorem ok115 : bl115.all (fun q => okBlk 5 2 prog_9_method_47_code q.1 q.2) = true := by decide +kernel
theorem ok116 : bl116.all (fun q => okBlk 5 6 prog_9_method_49_code q.1 q.2) = true := by decide +kernel
theorem ok117 : bl117.all (fun q => okBlk 6 4 prog_4_method_2_code q.1 q.2) = true := by decide +kernel
theorem ok118 : bl118.all (fun q => okBlk 6 7 prog_4_method_5_code q.1 q.2) = true := by decide +kernel
theorem ok119 : bl119.all (fun q => okBlk 6 4 prog_4_method_7_code q.1 q.2) = true := by decide +kernel
theorem ok120 : bl120.all (fun q => okBlk 6 6 prog_4_method_6_code q.1 q.2) = true := by decide +kernel
theorem ok121 : bl121.all (fun q => okBlk 6 6 prog_4_method_3_code q.1 q.2) = true := by decide +kernel
theorem ok122 : bl122.all (fun q => okBlk 6 10 prog_4_method_4_code q.1 q.2) = true := by decide +kernel
theorem ok123 : bl123.all (fun q => okBlk 6 8 prog_4_method_8_code q.1 q.2) = true := by decide +kernel
theorem ok124 : bl124.all (fun q => okBlk 6 4 prog_4_method_9_code q.1 q.2) = true := by decide +kernel
theorem ok125 : bl125.all (fun q => okBlk 7 4 prog_7_method_2_code q.1 q.2) = true := by decide +kernel
theorem ok126 : bl126.all (fun q => okBlk 7 6 prog_7_method_3_code q.1 q.2) = true := by decide +kernel
theorem ok127 : bl127.all (fun q => okBlk 7 2 prog_7_method_4_code q.1 q.2) = true := by decide +kernel
theorem ok128 : bl128.all (fun q => okBlk 7 5 prog_7_method_5_code q.1 q.2) = true := by decide +kernel
theorem ok129 : bl129.all (fun q => okBlk 7 5 prog_7_method_6_code q.1 q.2) = true := by decide +kernel
theorem ok130 : bl130.all (fun q => okBlk 8 4 prog_11_method_103_code q.1 q.2) = true := by decide +kernel
theorem ok131 : bl131.all (fun q => okBlk 9 4 code q.1 q.2) = true := by decide +kernel
theorem f_okm : ∀ m, m < nM → (mbl m).all (fun q => okBlk (mcl m) (mml m) (mby m) q.1 q.2) = true
  | 0, _ => ok0
  | 1, _ => ok1
  | 2, _ => ok2
  | 3, _ => ok3
  | 4, _ => ok4
  | 5, _ => ok5
  | 6, _ => ok6
  | 7, _ => ok7
  | 8, _ => ok8
  | 9, _ => ok9
  | 10, _ => ok10
  | 11, _ => ok11
  | 12, _ => ok12
  | 13, _ => ok13
  | 14, _ => ok14
  | 15, _ => ok15
  | 16, _ => ok16
  | 17, _ => ok17
  | 18, _ => ok18
  | 19, _ => ok19
  | 20, _ => ok20
  | 21, _ => ok21
  | 22, _ => ok22
  | 23, _ => ok23
  | 24, _ => ok24
  | 25, _ => ok25
  | 26, _ => ok26
  | 27, _ => ok27
  | 28, _ => ok28
  | 29, _ => ok29
  | 30, _ => ok30
  | 31, _ => ok31
  | 32, _ => ok32
  | 33, _ => ok33
  | 34, _ => ok34
  | 35, _ => ok35
  | 36, _ => ok36
  | 37, _ => ok37
  | 38, _ => ok38
  | 39, _ => ok39
  | 40, _ => ok40
  | 41, _ => ok41
  | 42, _ => ok42
  | 43, _ => ok43
  | 44, _ => ok44
  | 45, _ => ok45
  | 46, _ => ok46
  | 47, _ => ok47
  | 48, _ => ok48
  | 49, _ => ok49
  | 50, _ => ok50
  | 51, _ => ok51
  | 52, _ => ok52
  | 53, _ => ok53
  | 54, _ => ok54
  | 55, _ => ok55
  | 56, _ => ok56
  | 57, _ => ok57
  | 58, _ => ok58
  | 59, _ => ok59
  | 60, _ => ok60
  | 61, _ => ok61
  | 62, _ => ok62
  | 63, _ => ok63
  | 64, _ => ok64
  | 65, _ => ok65
  | 66, _ => ok66
  | 67, _ => ok67
  | 68, _ => ok68
  | 69, _ => ok69
  | 70, _ => ok70
  | 71, _ => ok71
  | 72, _ => ok72
  | 73, _ => ok73
  | 74, _ => ok74
  | 75, _ => ok75
  | 76, _ => ok76
  | 77, _ => ok77
  | 78, _ => ok78
  | 79, _ => ok79
  | 80, _ => ok80
  | 81, _ => ok81
  | 82, _ => ok82
  | 83, _ => ok83
  | 84, _ => ok84
  | 85, _ => ok85
  | 86, _ => ok86
  | 87, _ => ok87
  | 88, _ => ok88
  | 89, _ => ok89
  | 90, _ => ok90
  | 91, _ => ok91
  | 92, _ => ok92
  | 93, _ => ok93
  | 94, _ => ok94
  | 95, _ => ok95
  | 96, _ => ok96
  | 97, _ => ok97
  | 98, _ => ok98
  | 99, _ => ok99
  | 100, _ => ok100
  | 101, _ => ok101
  | 102, _ => ok102
  | 103, _ => ok103
  | 104, _ => ok104
  | 105, _ => ok105
  | 106, _ => ok106
  | 107, _ => ok107
  | 108, _ => ok108
  | 109, _ => ok109
  | 110, _ => ok110
  | 111, _ => ok111
  | 112, _ => ok112
  | 113, _ => ok113
  | 114, _ => ok114
  | 115, _ => ok115
  | 116, _ => ok116
  | 117, _ => ok117
  | 118, _ => ok118
  | 119, _ => ok119
  | 120, _ => ok120
  | 121, _ => ok121
  | 122, _ => ok122
  | 123, _ => ok123
  | 124, _ => ok124
  | 125, _ => ok125
  | 126, _ => ok126
  | 127, _ => ok127
  | 128, _ => ok128
  | 129, _ => ok129
  | 130, _ => ok130
  | n + 131, h => absurd h (by unfold nM; omega)
theorem f_ok (m : Nat) (hm : m < nM) (pc : Nat) : okBlk (mcl m) (mml m) (mby m) pc (mbk m pc) = true := lkB_ok pc (f_okm m hm)
