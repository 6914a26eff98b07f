/-! The words of the tables, by their places. Written by wip/gen/names.py. -/
theorem linkF_ok : linkF.all (fun q => atW q.2.2.2.2 (fldW q.1 q.2.1 q.2.2.1 q.2.2.2.1) && (decide (q.2.2.1 < nC) && decide (q.2.2.2.1 < nfl q.2.2.1))) = true := by decide +kernel
theorem linkM_ok : linkM.all (fun q => atW q.2.2.2 (mthW q.1 q.2.1 q.2.2.1)) = true := by decide +kernel
theorem statS_ok : statS.all (fun q => atW q.2.2.2 (staW (q.1, q.2.1, q.2.2.1))) = true := by decide +kernel
theorem nestS_ok : nestSp.all (fun q => atN q.2.2.2 (nestSw (q.1, q.2.1, q.2.2.1))) = true := by decide +kernel
theorem nestM_ok : nestMp.all (fun q => atN q.2.2.2 (nestMw (q.1, q.2.1, q.2.2.1))) = true := by decide +kernel
theorem nestS_eq : nestS = nestSp.map (fun q => (q.1, q.2.1, q.2.2.1)) := rfl
theorem nestM_eq : nestM = nestMp.map (fun q => (q.1, q.2.1, q.2.2.1)) := rfl
theorem conI_ok : conI.all (fun q => atW q.2.2.2 (.constant (cn q.1) q.2.1 (Int32.ofInt q.2.2.1))) = true := by decide +kernel
theorem conL_ok : conL.all (fun q => atW q.2.2.2 (.constantLong (cn q.1) q.2.1 (Int64.ofInt q.2.2.1))) = true := by decide +kernel
theorem absL_ok : absL.all (fun q => atW q.2.2 (.methodLink (cn q.1) q.2.1 Lib.Math.abs.name)) = true := by decide +kernel
theorem maxL_ok : maxL.all (fun q => atW q.2.2 (.methodLink (cn q.1) q.2.1 Lib.Math.max.name)) = true := by decide +kernel
theorem abs_st : Cond.static Lib.Math.abs.name ∈ WS := atW_mem (i := 251) (by decide +kernel)
theorem max_st : Cond.static Lib.Math.max.name ∈ WS := atW_mem (i := 480) (by decide +kernel)
theorem math_in : Cond.initialized "java/lang/Math" ∈ WS := atW_mem (i := 8) (by decide +kernel)
theorem abs_cd : Cond.code Lib.Math.abs.name Lib.Math.abs.code 1 (some .int) ∈ WS := atW_mem (i := 252) (by decide +kernel)
theorem max_cd : Cond.code Lib.Math.max.name Lib.Math.max.code 2 (some .int) ∈ WS := atW_mem (i := 481) (by decide +kernel)
theorem stP_ok : (List.range nM).all (fun m => atW (stP.getD m 0) (if mst m = true then .static (my m) else .instanceMethod (my m))) = true := by decide +kernel
theorem inP_ok : (List.range nM).all (fun m => atW (inP.getD m 0) (.initialized (my m).cls)) = true := by decide +kernel
theorem seP_ok : (List.range nM).all (fun m => mst m || (if 0 ≤ seP.getD m 0 then atW (seP.getD m 0).toNat (.selects (my m).cls (my m) (my m)) else atP (-1 - seP.getD m 0).toNat (.selects (my m).cls (my m) (my m)))) = true := by decide +kernel
theorem uwP_ok : (List.range nC).all (fun c => (List.range (nfl c)).all (fun k => atW ((uwP.getD c []).getD k 0) (u_lay (cn c) (FT c) k))) = true := by decide +kernel
theorem memC1 {w : Cond} {i : Nat} (h : tables_1_1[i]? = some w) (g : (w.onTables && w.keeps) = true) : w ∈ WS := List.mem_filter.mpr ⟨List.mem_append_right _ (List.mem_append_left _ (List.mem_of_getElem? h)), g⟩
theorem memC2 {w : Cond} {i : Nat} (h : tables_1_2[i]? = some w) (g : (w.onTables && w.keeps) = true) : w ∈ WS := List.mem_filter.mpr ⟨List.mem_append_right _ (List.mem_append_right _ (List.mem_append_left _ (List.mem_of_getElem? h))), g⟩
theorem memC3 {w : Cond} {i : Nat} (h : tables_1_3[i]? = some w) (g : (w.onTables && w.keeps) = true) : w ∈ WS := List.mem_filter.mpr ⟨List.mem_append_right _ (List.mem_append_right _ (List.mem_append_right _ (List.mem_append_left _ (List.mem_of_getElem? h)))), g⟩
theorem memC4 {w : Cond} {i : Nat} (h : tables_1_4[i]? = some w) (g : (w.onTables && w.keeps) = true) : w ∈ WS := List.mem_filter.mpr ⟨List.mem_append_right _ (List.mem_append_right _ (List.mem_append_right _ (List.mem_append_right _ (List.mem_of_getElem? h)))), g⟩
theorem f_code : ∀ m, m < nM → Cond.code (my m) (mby m) (mml m) (mret m) ∈ WS
  | 0, _ => memC1 (i := 126) rfl rfl
  | 1, _ => memC1 (i := 130) rfl rfl
  | 2, _ => memC1 (i := 142) rfl rfl
  | 3, _ => memC1 (i := 148) rfl rfl
  | 4, _ => memC1 (i := 151) rfl rfl
  | 5, _ => memC1 (i := 157) rfl rfl
  | 6, _ => memC1 (i := 160) rfl rfl
  | 7, _ => memC1 (i := 166) rfl rfl
  | 8, _ => memC1 (i := 176) rfl rfl
  | 9, _ => memC1 (i := 233) rfl rfl
  | 10, _ => memC1 (i := 236) rfl rfl
  | 11, _ => memC2 (i := 5) rfl rfl
  | 12, _ => memC2 (i := 39) rfl rfl
  | 13, _ => memC2 (i := 66) rfl rfl
  | 14, _ => memC2 (i := 70) rfl rfl
  | 15, _ => memC2 (i := 75) rfl rfl
  | 16, _ => memC2 (i := 79) rfl rfl
  | 17, _ => memC2 (i := 83) rfl rfl
  | 18, _ => memC2 (i := 86) rfl rfl
  | 19, _ => memC2 (i := 113) rfl rfl
  | 20, _ => memC2 (i := 117) rfl rfl
  | 21, _ => memC2 (i := 151) rfl rfl
  | 22, _ => memC2 (i := 168) rfl rfl
  | 23, _ => memC2 (i := 172) rfl rfl
  | 24, _ => memC2 (i := 176) rfl rfl
  | 25, _ => memC2 (i := 180) rfl rfl
  | 26, _ => memC2 (i := 184) rfl rfl
  | 27, _ => memC2 (i := 188) rfl rfl
  | 28, _ => memC2 (i := 193) rfl rfl
  | 29, _ => memC2 (i := 198) rfl rfl
  | 30, _ => memC2 (i := 203) rfl rfl
  | 31, _ => memC2 (i := 207) rfl rfl
  | 32, _ => memC2 (i := 211) rfl rfl
  | 33, _ => memC2 (i := 215) rfl rfl
  | 34, _ => memC2 (i := 225) rfl rfl
  | 35, _ => memC2 (i := 234) rfl rfl
  | 36, _ => memC2 (i := 238) rfl rfl
  | 37, _ => memC1 (i := 134) rfl rfl
  | 38, _ => memC1 (i := 226) rfl rfl
  | 39, _ => memC1 (i := 230) rfl rfl
  | 40, _ => memC2 (i := 1) rfl rfl
  | 41, _ => memC2 (i := 9) rfl rfl
  | 42, _ => memC2 (i := 15) rfl rfl
  | 43, _ => memC2 (i := 19) rfl rfl
  | 44, _ => memC2 (i := 23) rfl rfl
  | 45, _ => memC2 (i := 31) rfl rfl
  | 46, _ => memC2 (i := 121) rfl rfl
  | 47, _ => memC2 (i := 229) rfl rfl
  | 48, _ => memC1 (i := 114) rfl rfl
  | 49, _ => memC1 (i := 118) rfl rfl
  | 50, _ => memC1 (i := 138) rfl rfl
  | 51, _ => memC1 (i := 202) rfl rfl
  | 52, _ => memC1 (i := 206) rfl rfl
  | 53, _ => memC1 (i := 214) rfl rfl
  | 54, _ => memC1 (i := 220) rfl rfl
  | 55, _ => memC2 (i := 125) rfl rfl
  | 56, _ => memC2 (i := 219) rfl rfl
  | 57, _ => memC1 (i := 170) rfl rfl
  | 58, _ => memC2 (i := 35) rfl rfl
  | 59, _ => memC2 (i := 142) rfl rfl
  | 60, _ => memC2 (i := 46) rfl rfl
  | 61, _ => memC2 (i := 129) rfl rfl
  | 62, _ => memC2 (i := 133) rfl rfl
  | 63, _ => memC2 (i := 138) rfl rfl
  | 64, _ => memC2 (i := 147) rfl rfl
  | 65, _ => memC2 (i := 155) rfl rfl
  | 66, _ => memC2 (i := 159) rfl rfl
  | 67, _ => memC2 (i := 164) rfl rfl
  | 68, _ => memC3 (i := 11) rfl rfl
  | 69, _ => memC3 (i := 15) rfl rfl
  | 70, _ => memC3 (i := 19) rfl rfl
  | 71, _ => memC3 (i := 23) rfl rfl
  | 72, _ => memC3 (i := 27) rfl rfl
  | 73, _ => memC3 (i := 30) rfl rfl
  | 74, _ => memC3 (i := 34) rfl rfl
  | 75, _ => memC3 (i := 38) rfl rfl
  | 76, _ => memC3 (i := 41) rfl rfl
  | 77, _ => memC3 (i := 45) rfl rfl
  | 78, _ => memC3 (i := 49) rfl rfl
  | 79, _ => memC3 (i := 52) rfl rfl
  | 80, _ => memC3 (i := 56) rfl rfl
  | 81, _ => memC3 (i := 60) rfl rfl
  | 82, _ => memC3 (i := 64) rfl rfl
  | 83, _ => memC3 (i := 68) rfl rfl
  | 84, _ => memC3 (i := 72) rfl rfl
  | 85, _ => memC3 (i := 75) rfl rfl
  | 86, _ => memC3 (i := 122) rfl rfl
  | 87, _ => memC3 (i := 126) rfl rfl
  | 88, _ => memC3 (i := 130) rfl rfl
  | 89, _ => memC3 (i := 134) rfl rfl
  | 90, _ => memC3 (i := 138) rfl rfl
  | 91, _ => memC3 (i := 142) rfl rfl
  | 92, _ => memC3 (i := 146) rfl rfl
  | 93, _ => memC3 (i := 150) rfl rfl
  | 94, _ => memC3 (i := 154) rfl rfl
  | 95, _ => memC3 (i := 158) rfl rfl
  | 96, _ => memC3 (i := 162) rfl rfl
  | 97, _ => memC3 (i := 166) rfl rfl
  | 98, _ => memC3 (i := 170) rfl rfl
  | 99, _ => memC3 (i := 174) rfl rfl
  | 100, _ => memC3 (i := 178) rfl rfl
  | 101, _ => memC3 (i := 183) rfl rfl
  | 102, _ => memC3 (i := 187) rfl rfl
  | 103, _ => memC3 (i := 191) rfl rfl
  | 104, _ => memC3 (i := 195) rfl rfl
  | 105, _ => memC3 (i := 199) rfl rfl
  | 106, _ => memC3 (i := 203) rfl rfl
  | 107, _ => memC3 (i := 207) rfl rfl
  | 108, _ => memC3 (i := 211) rfl rfl
  | 109, _ => memC3 (i := 216) rfl rfl
  | 110, _ => memC3 (i := 220) rfl rfl
  | 111, _ => memC3 (i := 224) rfl rfl
  | 112, _ => memC3 (i := 228) rfl rfl
  | 113, _ => memC3 (i := 232) rfl rfl
  | 114, _ => memC3 (i := 236) rfl rfl
  | 115, _ => memC4 (i := 1) rfl rfl
  | 116, _ => memC4 (i := 5) rfl rfl
  | 117, _ => memC1 (i := 145) rfl rfl
  | 118, _ => memC1 (i := 154) rfl rfl
  | 119, _ => memC1 (i := 163) rfl rfl
  | 120, _ => memC1 (i := 173) rfl rfl
  | 121, _ => memC1 (i := 179) rfl rfl
  | 122, _ => memC1 (i := 190) rfl rfl
  | 123, _ => memC1 (i := 193) rfl rfl
  | 124, _ => memC1 (i := 198) rfl rfl
  | 125, _ => memC2 (i := 89) rfl rfl
  | 126, _ => memC2 (i := 92) rfl rfl
  | 127, _ => memC2 (i := 97) rfl rfl
  | 128, _ => memC2 (i := 102) rfl rfl
  | 129, _ => memC2 (i := 108) rfl rfl
  | 130, _ => memC1 (i := 121) rfl rfl
  | n + 131, h => absurd h (by unfold nM; omega)
theorem desc_ok : (List.range nM).all (fun m => (decide ((my m).cls ≠ "java/lang/invoke/MethodHandle" ∧ (my m).cls ≠ "java/lang/invoke/VarHandle") && decide ((parseMethodDescriptor (my m).desc).map (fun d => d.parameters.length) = some (npar m))) && ((decide (plainName (my m).cls = true) && decide ((my m).cls = cn (mcl m))) && (decide (mna m ≤ mml m) && decide (mml m ≤ 23)))) = true := by decide +kernel
theorem fty_ok : (List.range nC).all (fun c => (List.range (nfl c)).all (fun k => decide (parseFieldDescriptor (FT c k).2.2.1 = some (fty c k)))) = true := by decide +kernel
theorem fnm_ok : (List.range nC).all (fun c => (List.range (nfl c)).all (fun a => (List.range (nfl c)).all (fun b => (a == b) || decide ((FT c a).2.1 ≠ (FT c b).2.1)))) = true := by decide +kernel
