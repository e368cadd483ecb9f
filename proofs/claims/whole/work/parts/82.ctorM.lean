/-! The constructor of the reference: by program (wip/whole/mk81.py). -/
theorem k_1243 : (.methodLink RX10 3 Lib.objectInit : Cond) ∈ tb := tb_in (List.mem_of_getElem? (i := 1243) (by decide +kernel)) (by decide +kernel)
def bX10 (E : En) (a : Nat → Nat) : va_W := (a 0, .inr (10, [.int 0, .ref (a 1), .ref (a 2), .ref (a 3), .ref (a 4), .int 0, .ref (a 5), .int 0, .int 0, .int 0, .int 0, .int 0, .int 0, .int (-1), .ref (a 6), .ref (a 7), .ref (a 8), .ref (a 9), .ref (a 10), .ref (a 11), .int 0, .int 0, .int 0, .int 0, .ref (a 12), .int 0, .int 0, .ref (a 13), .ref (a 14), .ref (a 15), .ref (a 16), .ref (a 17), .ref (a 18), .ref (a 19), .ref (a 20), .ref (a 21), .ref (a 22), .int 0, .int 0, .int 0, .int 0, .long 0, .ref (a 23), .ref (a 24), .int 0, .int 0, .int 0, .int 0, .int 0, .int 0, .int 0, .ref (a 25), .int 0, .int 0, .int 0, .int 0, .ref (a 26), .ref (a 27), .ref (a 28), .ref (a 29), .ref (a 30), .ref (a 31), .ref (a 32), .ref (a 33), .ref (a 34), .ref (a 35), .ref (a 36)])) :: (([] : va_W) ++ [(a 1, .inl (cA E 20, 215, .inl (fun _ => 0)))] ++ [(a 2, .inl (cA E 20, 645, .inl (fun _ => 0)))] ++ [(a 3, .inl (cA E 22, 3, .inl (fun _ => 0)))] ++ [(a 4, .inl (cA E 21, 800, .inl (fun _ => 0)))] ++ [(a 5, .inl (cA E 20, 5, .inl (fun _ => 0)))] ++ [(a 6, .inl (cA E 20, 215, .inl (fun _ => 0)))] ++ [(a 7, .inl (cA E 20, 1608, .inl (fun _ => 0)))] ++ [(a 8, .inl (cA E 20, 201, .inl (fun _ => 0)))] ++ [(a 9, .inl (cA E 20, 240, .inl (fun _ => 0)))] ++ [(a 10, .inl (cA E 20, 240, .inl (fun _ => 0)))] ++ [(a 11, .inl (cA E 20, 240, .inl (fun _ => 0)))] ++ [(a 12, .inl (cA E 20, 6, .inl (fun _ => 0)))] ++ [(a 13, .inl (cA E 20, 80, .inl (fun _ => 0)))] ++ [(a 14, .inl (cA E 20, 80, .inl (fun _ => 0)))] ++ [(a 15, .inl (cA E 20, 80, .inl (fun _ => 0)))] ++ [(a 16, .inl (cA E 20, 16, .inl (fun _ => 0)))] ++ [(a 17, .inl (cA E 20, 8, .inl (fun _ => 0)))] ++ [(a 18, .inl (cA E 20, 8, .inl (fun _ => 0)))] ++ [(a 19, .inl (cA E 20, 8, .inl (fun _ => 0)))] ++ [(a 20, .inl (cA E 20, 8, .inl (fun _ => 0)))] ++ [(a 21, .inl (cA E 20, 8, .inl (fun _ => 0)))] ++ [(a 22, .inl (cA E 20, 48, .inl (fun _ => 0)))] ++ [(a 23, .inl (cA E 20, 6, .inl (fun _ => 0)))] ++ [(a 24, .inl (cA E 20, 6, .inl (fun _ => 0)))] ++ [(a 25, .inl (cA E 20, 3, .inl (fun _ => 0)))] ++ [(a 26, .inl (cA E 20, 240, .inl (fun _ => 0)))] ++ [(a 27, .inl (cA E 20, 240, .inl (fun _ => 0)))] ++ [(a 28, .inl (cA E 20, 240, .inl (fun _ => 0)))] ++ [(a 29, .inl (cA E 20, 240, .inl (fun _ => 0)))] ++ [(a 30, .inl (cA E 20, 240, .inl (fun _ => 0)))] ++ [(a 31, .inl (cA E 20, 240, .inl (fun _ => 0)))] ++ [(a 32, .inl (cA E 20, 8, .inl (fun _ => 0)))] ++ [(a 33, .inl (cA E 20, 30, .inl (fun _ => 0)))] ++ [(a 34, .inl (cA E 20, 4, .inl f4m))] ++ [(a 35, .inl (cA E 20, 4, .inl (fun _ => 0)))] ++ [(a 36, .inl (cA E 23, 240, .inr (.inl (fun _ => 0))))])
set_option maxHeartbeats 400000 in
theorem i_X10 (l : Launch) (E : En) (d : Nat) (hd : 1 ≤ d) (h0 : Nat) : Ci l E yX10_init cX10_init 1 d 36 6503 [.ref h0] [(h0, .inr (10, dfs tyX10 67))] (bX10 E) h0 := by
  refine Ci.mk (ls := [some (.ref h0)]) (by decide +kernel) rfl (Nat.le_of_ble_eq_true rfl) (wc1 _ _) (fun X hXl hXn hR C R => ?_)
  subst hXl
  have hm : (xh X).name = "<init>" := hXn
  have hL : (dfs tyX10 67).length = 67 := by simp [dfs]
  have hc : (xR X).cells = 36 := by rw [hR]; rfl
  have hs : (xR X).slots = 6503 := by rw [hR]; rfl
  refine b_al C 0 rfl rfl dX10_init_0 ?_
  refine b_oi C rfl (by omega) k_1243 k_116 k_117 dX10_init_1 ?_
  refine b_al C 0 rfl rfl dX10_init_4 ?_
  refine b_sipush (v := 215) C (by decide) dX10_init_5 ?_
  refine c_newa (atype := .int) (ty := .int) 0 C (215, .inl (fun _ => 0)) k_208 rfl rfl (fun _ => rfl) (by decide) (by decide) (Nat.le_of_ble_eq_true rfl) (by rw [hc]; exact Nat.le_of_ble_eq_true rfl) (by rw [hs]; exact Nat.le_of_ble_eq_true rfl) dX10_init_8 (fun q1 => ?_)
  refine c_putF (T := TX10) (k := 1) (ty := tyX10 1) C hm rfl uX10 tyX10_ok nmX10 (by decide) k_1244 rfl rfl (by decide +kernel) rfl rfl hL dX10_init_10 (fun hL => ?_)
  refine b_al C 0 rfl rfl dX10_init_13 ?_
  refine b_sipush (v := 645) C (by decide) dX10_init_14 ?_
  refine c_newa (atype := .int) (ty := .int) 0 C (645, .inl (fun _ => 0)) k_208 rfl rfl (fun _ => rfl) (by decide) (by decide) (Nat.le_of_ble_eq_true rfl) (by rw [hc]; exact Nat.le_of_ble_eq_true rfl) (by rw [hs]; exact Nat.le_of_ble_eq_true rfl) dX10_init_17 (fun q2 => ?_)
  refine c_putF (T := TX10) (k := 2) (ty := tyX10 2) C hm rfl uX10 tyX10_ok nmX10 (by decide) k_1245 rfl rfl (by decide +kernel) rfl rfl hL dX10_init_19 (fun hL => ?_)
  refine b_al C 0 rfl rfl dX10_init_22 ?_
  refine b_iconst (v := 3) C (by decide) dX10_init_23 ?_
  refine c_newa (atype := .boolean) (ty := .boolean) 2 C (3, .inl (fun _ => 0)) k_237 rfl rfl (fun _ => rfl) (by decide) (by decide) (Nat.le_of_ble_eq_true rfl) (by rw [hc]; exact Nat.le_of_ble_eq_true rfl) (by rw [hs]; exact Nat.le_of_ble_eq_true rfl) dX10_init_24 (fun q3 => ?_)
  refine c_putF (T := TX10) (k := 3) (ty := tyX10 3) C hm rfl uX10 tyX10_ok nmX10 (by decide) k_1246 rfl rfl (by decide +kernel) rfl rfl hL dX10_init_26 (fun hL => ?_)
  refine b_al C 0 rfl rfl dX10_init_29 ?_
  refine b_sipush (v := 800) C (by decide) dX10_init_30 ?_
  refine c_newa (atype := .byte) (ty := .byte) 1 C (800, .inl (fun _ => 0)) k_152 rfl rfl (fun _ => rfl) (by decide) (by decide) (Nat.le_of_ble_eq_true rfl) (by rw [hc]; exact Nat.le_of_ble_eq_true rfl) (by rw [hs]; exact Nat.le_of_ble_eq_true rfl) dX10_init_33 (fun q4 => ?_)
  refine c_putF (T := TX10) (k := 4) (ty := tyX10 4) C hm rfl uX10 tyX10_ok nmX10 (by decide) k_1247 rfl rfl (by decide +kernel) rfl rfl hL dX10_init_35 (fun hL => ?_)
  refine b_al C 0 rfl rfl dX10_init_38 ?_
  refine b_iconst (v := 5) C (by decide) dX10_init_39 ?_
  refine c_newa (atype := .int) (ty := .int) 0 C (5, .inl (fun _ => 0)) k_208 rfl rfl (fun _ => rfl) (by decide) (by decide) (Nat.le_of_ble_eq_true rfl) (by rw [hc]; exact Nat.le_of_ble_eq_true rfl) (by rw [hs]; exact Nat.le_of_ble_eq_true rfl) dX10_init_40 (fun q5 => ?_)
  refine c_putF (T := TX10) (k := 6) (ty := tyX10 6) C hm rfl uX10 tyX10_ok nmX10 (by decide) k_1249 rfl rfl (by decide +kernel) rfl rfl hL dX10_init_42 (fun hL => ?_)
  refine b_al C 0 rfl rfl dX10_init_45 ?_
  refine b_iconst (v := -1) C (by decide) dX10_init_46 ?_
  refine c_put (T := TX10) (k := 13) (ty := tyX10 13) C rfl uX10 tyX10_ok nmX10 (by decide) k_1256 rfl (by decide +kernel) rfl rfl hL dX10_init_47 (fun hL => ?_)
  refine b_al C 0 rfl rfl dX10_init_50 ?_
  refine b_sipush (v := 215) C (by decide) dX10_init_51 ?_
  refine c_newa (atype := .int) (ty := .int) 0 C (215, .inl (fun _ => 0)) k_208 rfl rfl (fun _ => rfl) (by decide) (by decide) (Nat.le_of_ble_eq_true rfl) (by rw [hc]; exact Nat.le_of_ble_eq_true rfl) (by rw [hs]; exact Nat.le_of_ble_eq_true rfl) dX10_init_54 (fun q6 => ?_)
  refine c_putF (T := TX10) (k := 14) (ty := tyX10 14) C hm rfl uX10 tyX10_ok nmX10 (by decide) k_1257 rfl rfl (by decide +kernel) rfl rfl hL dX10_init_56 (fun hL => ?_)
  refine b_al C 0 rfl rfl dX10_init_59 ?_
  refine b_sipush (v := 1608) C (by decide) dX10_init_60 ?_
  refine c_newa (atype := .int) (ty := .int) 0 C (1608, .inl (fun _ => 0)) k_208 rfl rfl (fun _ => rfl) (by decide) (by decide) (Nat.le_of_ble_eq_true rfl) (by rw [hc]; exact Nat.le_of_ble_eq_true rfl) (by rw [hs]; exact Nat.le_of_ble_eq_true rfl) dX10_init_63 (fun q7 => ?_)
  sorry
