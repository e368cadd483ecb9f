/-! The constructors: by program (wip/whole/mk81.py). -/
def f4m : Nat → Int32 := upd (upd (upd (upd (fun _ => 0) (0 : Int32).toNatClampNeg (-1)) (1 : Int32).toNatClampNeg (-1)) (2 : Int32).toNatClampNeg (-1)) (3 : Int32).toNatClampNeg (-1)
theorem b_sh {E : En} {X : Xc} {ws ws' : va_W} {n o pc : Nat} {ls : List (Option Value)} {st : List Value} (h : ws = ws') (kk : Bd E X ws' n o pc ls st) : Bd E X ws n o pc ls st := by subst h; exact kk
theorem k_158 : (.methodLink RX7 3 Lib.objectInit : Cond) ∈ tb := tb_in (List.mem_of_getElem? (i := 158) (by decide +kernel)) (by decide +kernel)
theorem k_116 : (.instanceMethod Lib.objectInit : Cond) ∈ tb := tb_in (List.mem_of_getElem? (i := 116) (by decide +kernel)) (by decide +kernel)
theorem k_117 : (.code Lib.objectInit ⟨#[0xb1]⟩ 1 none : Cond) ∈ tb := tb_in (List.mem_of_getElem? (i := 117) (by decide +kernel)) (by decide +kernel)
theorem k_208 : (.arrayClass .int : Cond) ∈ tb := tb_in (List.mem_of_getElem? (i := 208) (by decide +kernel)) (by decide +kernel)
theorem k_123 : (.methodLink RX3 3 Lib.objectInit : Cond) ∈ tb := tb_in (List.mem_of_getElem? (i := 123) (by decide +kernel)) (by decide +kernel)
theorem k_152 : (.arrayClass .byte : Cond) ∈ tb := tb_in (List.mem_of_getElem? (i := 152) (by decide +kernel)) (by decide +kernel)
theorem k_215 : (.methodLink RX4 3 Lib.objectInit : Cond) ∈ tb := tb_in (List.mem_of_getElem? (i := 215) (by decide +kernel)) (by decide +kernel)
theorem k_243 : (.methodLink RX8 3 Lib.objectInit : Cond) ∈ tb := tb_in (List.mem_of_getElem? (i := 243) (by decide +kernel)) (by decide +kernel)
theorem k_269 : (.methodLink RX6 3 Lib.objectInit : Cond) ∈ tb := tb_in (List.mem_of_getElem? (i := 269) (by decide +kernel)) (by decide +kernel)
theorem k_349 : (.methodLink RX2 3 Lib.objectInit : Cond) ∈ tb := tb_in (List.mem_of_getElem? (i := 349) (by decide +kernel)) (by decide +kernel)
theorem k_376 : (.methodLink RX0 3 Lib.objectInit : Cond) ∈ tb := tb_in (List.mem_of_getElem? (i := 376) (by decide +kernel)) (by decide +kernel)
theorem k_263 : (.methodLink RX1 3 Lib.objectInit : Cond) ∈ tb := tb_in (List.mem_of_getElem? (i := 263) (by decide +kernel)) (by decide +kernel)
theorem k_264 : (.classLink RX1 9 RX6 : Cond) ∈ tb := tb_in (List.mem_of_getElem? (i := 264) (by decide +kernel)) (by decide +kernel)
theorem k_265 : (.instantiable RX6 19 : Cond) ∈ tb := tb_in (List.mem_of_getElem? (i := 265) (by decide +kernel)) (by decide +kernel)
theorem k_268 : (.code yX6_init cX6_init 1 none : Cond) ∈ tb := tb_in (List.mem_of_getElem? (i := 268) (by decide +kernel)) (by decide +kernel)
theorem k_267 : (.instanceMethod yX6_init : Cond) ∈ tb := tb_in (List.mem_of_getElem? (i := 267) (by decide +kernel)) (by decide +kernel)
theorem k_344 : (.classLink RX1 18 RX2 : Cond) ∈ tb := tb_in (List.mem_of_getElem? (i := 344) (by decide +kernel)) (by decide +kernel)
theorem k_345 : (.instantiable RX2 5 : Cond) ∈ tb := tb_in (List.mem_of_getElem? (i := 345) (by decide +kernel)) (by decide +kernel)
theorem k_348 : (.code yX2_init cX2_init 1 none : Cond) ∈ tb := tb_in (List.mem_of_getElem? (i := 348) (by decide +kernel)) (by decide +kernel)
theorem k_347 : (.instanceMethod yX2_init : Cond) ∈ tb := tb_in (List.mem_of_getElem? (i := 347) (by decide +kernel)) (by decide +kernel)
theorem k_371 : (.classLink RX1 25 RX0 : Cond) ∈ tb := tb_in (List.mem_of_getElem? (i := 371) (by decide +kernel)) (by decide +kernel)
theorem k_372 : (.instantiable RX0 5 : Cond) ∈ tb := tb_in (List.mem_of_getElem? (i := 372) (by decide +kernel)) (by decide +kernel)
theorem k_375 : (.code yX0_init cX0_init 1 none : Cond) ∈ tb := tb_in (List.mem_of_getElem? (i := 375) (by decide +kernel)) (by decide +kernel)
theorem k_374 : (.instanceMethod yX0_init : Cond) ∈ tb := tb_in (List.mem_of_getElem? (i := 374) (by decide +kernel)) (by decide +kernel)
theorem k_439 : (.methodLink RX5 3 Lib.objectInit : Cond) ∈ tb := tb_in (List.mem_of_getElem? (i := 439) (by decide +kernel)) (by decide +kernel)
theorem k_454 : (.arrayClass .long : Cond) ∈ tb := tb_in (List.mem_of_getElem? (i := 454) (by decide +kernel)) (by decide +kernel)
theorem k_440 : (.methodLink RX5 22 yJ7_fill_53178 : Cond) ∈ tb := tb_in (List.mem_of_getElem? (i := 440) (by decide +kernel)) (by decide +kernel)
theorem k_115 : (.methodLink RX9 3 Lib.objectInit : Cond) ∈ tb := tb_in (List.mem_of_getElem? (i := 115) (by decide +kernel)) (by decide +kernel)
theorem k_118 : (.classLink RX9 9 RX3 : Cond) ∈ tb := tb_in (List.mem_of_getElem? (i := 118) (by decide +kernel)) (by decide +kernel)
theorem k_119 : (.instantiable RX3 8 : Cond) ∈ tb := tb_in (List.mem_of_getElem? (i := 119) (by decide +kernel)) (by decide +kernel)
theorem k_122 : (.code yX3_init cX3_init 1 none : Cond) ∈ tb := tb_in (List.mem_of_getElem? (i := 122) (by decide +kernel)) (by decide +kernel)
theorem k_121 : (.instanceMethod yX3_init : Cond) ∈ tb := tb_in (List.mem_of_getElem? (i := 121) (by decide +kernel)) (by decide +kernel)
theorem k_153 : (.classLink RX9 16 RX7 : Cond) ∈ tb := tb_in (List.mem_of_getElem? (i := 153) (by decide +kernel)) (by decide +kernel)
theorem k_154 : (.instantiable RX7 9 : Cond) ∈ tb := tb_in (List.mem_of_getElem? (i := 154) (by decide +kernel)) (by decide +kernel)
theorem k_157 : (.code yX7_init cX7_init 1 none : Cond) ∈ tb := tb_in (List.mem_of_getElem? (i := 157) (by decide +kernel)) (by decide +kernel)
theorem k_156 : (.instanceMethod yX7_init : Cond) ∈ tb := tb_in (List.mem_of_getElem? (i := 156) (by decide +kernel)) (by decide +kernel)
theorem k_237 : (.arrayClass .boolean : Cond) ∈ tb := tb_in (List.mem_of_getElem? (i := 237) (by decide +kernel)) (by decide +kernel)
theorem k_210 : (.classLink RX9 34 RX4 : Cond) ∈ tb := tb_in (List.mem_of_getElem? (i := 210) (by decide +kernel)) (by decide +kernel)
theorem k_211 : (.instantiable RX4 5 : Cond) ∈ tb := tb_in (List.mem_of_getElem? (i := 211) (by decide +kernel)) (by decide +kernel)
theorem k_214 : (.code yX4_init cX4_init 1 none : Cond) ∈ tb := tb_in (List.mem_of_getElem? (i := 214) (by decide +kernel)) (by decide +kernel)
theorem k_213 : (.instanceMethod yX4_init : Cond) ∈ tb := tb_in (List.mem_of_getElem? (i := 213) (by decide +kernel)) (by decide +kernel)
theorem k_238 : (.classLink RX9 41 RX8 : Cond) ∈ tb := tb_in (List.mem_of_getElem? (i := 238) (by decide +kernel)) (by decide +kernel)
theorem k_239 : (.instantiable RX8 3 : Cond) ∈ tb := tb_in (List.mem_of_getElem? (i := 239) (by decide +kernel)) (by decide +kernel)
theorem k_242 : (.code yX8_init cX8_init 1 none : Cond) ∈ tb := tb_in (List.mem_of_getElem? (i := 242) (by decide +kernel)) (by decide +kernel)
theorem k_241 : (.instanceMethod yX8_init : Cond) ∈ tb := tb_in (List.mem_of_getElem? (i := 241) (by decide +kernel)) (by decide +kernel)
theorem k_258 : (.classLink RX9 48 RX1 : Cond) ∈ tb := tb_in (List.mem_of_getElem? (i := 258) (by decide +kernel)) (by decide +kernel)
theorem k_259 : (.instantiable RX1 9 : Cond) ∈ tb := tb_in (List.mem_of_getElem? (i := 259) (by decide +kernel)) (by decide +kernel)
theorem k_262 : (.code yX1_init cX1_init 1 none : Cond) ∈ tb := tb_in (List.mem_of_getElem? (i := 262) (by decide +kernel)) (by decide +kernel)
theorem k_261 : (.instanceMethod yX1_init : Cond) ∈ tb := tb_in (List.mem_of_getElem? (i := 261) (by decide +kernel)) (by decide +kernel)
theorem k_434 : (.classLink RX9 62 RX5 : Cond) ∈ tb := tb_in (List.mem_of_getElem? (i := 434) (by decide +kernel)) (by decide +kernel)
theorem k_435 : (.instantiable RX5 3 : Cond) ∈ tb := tb_in (List.mem_of_getElem? (i := 435) (by decide +kernel)) (by decide +kernel)
theorem k_438 : (.code yX5_init cX5_init 1 none : Cond) ∈ tb := tb_in (List.mem_of_getElem? (i := 438) (by decide +kernel)) (by decide +kernel)
theorem k_437 : (.instanceMethod yX5_init : Cond) ∈ tb := tb_in (List.mem_of_getElem? (i := 437) (by decide +kernel)) (by decide +kernel)
theorem k_436 : (.methodLink RX9 64 yX5_init : Cond) ∈ tb := tb_in (List.mem_of_getElem? (i := 436) (by decide +kernel)) (by decide +kernel)
theorem i_fill (l : Launch) (E : En) (d q : Nat) : Ci l E yJ7_fill_53178 cJ7_fill_53178 4 d 0 0 [.ref q, .int (-1)] [(q, .inl (cA E 20, 4, .inl (fun _ => 0)))] (fun a => [(a 0, .inl (cA E 20, 4, .inl f4m))]) q := by
  refine Ci.mk (ls := [some (.ref q), some (.int (-1)), none, none]) (by decide +kernel) rfl (Nat.le_of_ble_eq_true rfl) (wc1 _ _) (fun X hXl hXn hR C R => ?_)
  subst hXl
  refine b_iconst (v := 0) C (by decide) dJ7_fill_53178_0 ?_
  refine b_is (i := 2) C 2 rfl (Nat.le_of_ble_eq_true rfl) (fun j hj w hw => by cases hj; first | (cases hw; done) | (simp at hw; subst hw; intro z; cases z) | (simp at hw)) dJ7_fill_53178_1 ?_
  refine b_al C 0 rfl rfl dJ7_fill_53178_2 ?_
  refine b_alen (q0 := 0) C rfl dJ7_fill_53178_3 ?_
  refine b_is (i := 3) C 3 rfl (Nat.le_of_ble_eq_true rfl) (fun j hj w hw => by cases hj; first | (cases hw; done) | (simp at hw; subst hw; intro z; cases z) | (simp at hw)) dJ7_fill_53178_4 ?_
  refine b_il C 2 rfl rfl dJ7_fill_53178_5 ?_
  refine b_il C 3 rfl rfl dJ7_fill_53178_6 ?_
  refine b_icge (tgt := 20) C dJ7_fill_53178_7 (by decide) (fun hh => absurd hh (by decide)) (fun _ => ?_)
  refine b_al C 0 rfl rfl dJ7_fill_53178_10 ?_
  refine b_il C 2 rfl rfl dJ7_fill_53178_11 ?_
  refine b_il C 1 rfl rfl dJ7_fill_53178_12 ?_
  refine b_iast (q0 := 0) (N := 4) C rfl (ib_in rfl) dJ7_fill_53178_13 ?_
  refine c_ii (v := 1) (i := 2) C (by decide) rfl (fun j hj w hw => by cases hj; first | (cases hw; done) | (simp at hw; subst hw; intro z; cases z) | (simp at hw)) dJ7_fill_53178_14 ?_
  refine b_goto (tgt := 5) C dJ7_fill_53178_17 (by decide) ?_
  refine b_il C 2 rfl rfl dJ7_fill_53178_5 ?_
  refine b_il C 3 rfl rfl dJ7_fill_53178_6 ?_
  refine b_icge (tgt := 20) C dJ7_fill_53178_7 (by decide) (fun hh => absurd hh (by decide)) (fun _ => ?_)
  refine b_al C 0 rfl rfl dJ7_fill_53178_10 ?_
  refine b_il C 2 rfl rfl dJ7_fill_53178_11 ?_
  refine b_il C 1 rfl rfl dJ7_fill_53178_12 ?_
  refine b_iast (q0 := 0) (N := 4) C rfl (ib_in rfl) dJ7_fill_53178_13 ?_
  refine c_ii (v := 2) (i := 2) C (by decide) rfl (fun j hj w hw => by cases hj; first | (cases hw; done) | (simp at hw; subst hw; intro z; cases z) | (simp at hw)) dJ7_fill_53178_14 ?_
  refine b_goto (tgt := 5) C dJ7_fill_53178_17 (by decide) ?_
  refine b_il C 2 rfl rfl dJ7_fill_53178_5 ?_
  refine b_il C 3 rfl rfl dJ7_fill_53178_6 ?_
  refine b_icge (tgt := 20) C dJ7_fill_53178_7 (by decide) (fun hh => absurd hh (by decide)) (fun _ => ?_)
  refine b_al C 0 rfl rfl dJ7_fill_53178_10 ?_
  refine b_il C 2 rfl rfl dJ7_fill_53178_11 ?_
  refine b_il C 1 rfl rfl dJ7_fill_53178_12 ?_
  refine b_iast (q0 := 0) (N := 4) C rfl (ib_in rfl) dJ7_fill_53178_13 ?_
  refine c_ii (v := 3) (i := 2) C (by decide) rfl (fun j hj w hw => by cases hj; first | (cases hw; done) | (simp at hw; subst hw; intro z; cases z) | (simp at hw)) dJ7_fill_53178_14 ?_
  refine b_goto (tgt := 5) C dJ7_fill_53178_17 (by decide) ?_
  refine b_il C 2 rfl rfl dJ7_fill_53178_5 ?_
  refine b_il C 3 rfl rfl dJ7_fill_53178_6 ?_
  refine b_icge (tgt := 20) C dJ7_fill_53178_7 (by decide) (fun hh => absurd hh (by decide)) (fun _ => ?_)
  refine b_al C 0 rfl rfl dJ7_fill_53178_10 ?_
  refine b_il C 2 rfl rfl dJ7_fill_53178_11 ?_
  refine b_il C 1 rfl rfl dJ7_fill_53178_12 ?_
  refine b_iast (q0 := 0) (N := 4) C rfl (ib_in rfl) dJ7_fill_53178_13 ?_
  refine c_ii (v := 4) (i := 2) C (by decide) rfl (fun j hj w hw => by cases hj; first | (cases hw; done) | (simp at hw; subst hw; intro z; cases z) | (simp at hw)) dJ7_fill_53178_14 ?_
  refine b_goto (tgt := 5) C dJ7_fill_53178_17 (by decide) ?_
  refine b_il C 2 rfl rfl dJ7_fill_53178_5 ?_
  refine b_il C 3 rfl rfl dJ7_fill_53178_6 ?_
  refine b_icge (tgt := 20) C dJ7_fill_53178_7 (by decide) (fun _ => ?_) (fun hh => absurd (by decide) hh)
  exact b_ret (fun _ => q) C R rfl rfl dJ7_fill_53178_20
def bX7 (E : En) (a : Nat → Nat) : va_W := (a 0, .inr (7, [.ref (a 1), .ref (a 2), .ref (a 3), .ref (a 4), .ref (a 5), .int 0, .int 0, .int 0, .int 0])) :: (([] : va_W) ++ [(a 1, .inl (cA E 20, 6, .inl (fun _ => 0)))] ++ [(a 2, .inl (cA E 20, 6, .inl (fun _ => 0)))] ++ [(a 3, .inl (cA E 20, 40, .inl (fun _ => 0)))] ++ [(a 4, .inl (cA E 20, 120, .inl (fun _ => 0)))] ++ [(a 5, .inl (cA E 20, 40, .inl (fun _ => 0)))])
set_option maxHeartbeats 8000000 in
theorem i_X7 (l : Launch) (E : En) (d : Nat) (hd : 1 ≤ d) (h0 : Nat) : Ci l E yX7_init cX7_init 1 d 5 212 [.ref h0] [(h0, .inr (7, dfs tyX7 9))] (bX7 E) h0 := by
  refine Ci.mk (ls := [some (.ref h0)]) (by decide +kernel) rfl (Nat.le_of_ble_eq_true rfl) (wc1 _ _) (fun X hXl hXn hR C R => ?_)
  subst hXl
  have hm : (xh X).name = "<init>" := hXn
  have hL : (dfs tyX7 9).length = 9 := by simp [dfs]
  have hc : (xR X).cells = 5 := by rw [hR]; rfl
  have hs : (xR X).slots = 212 := by rw [hR]; rfl
  refine b_al C 0 rfl rfl dX7_init_0 ?_
  refine b_oi C rfl (by omega) k_158 k_116 k_117 dX7_init_1 ?_
  refine b_al C 0 rfl rfl dX7_init_4 ?_
  refine b_bipush (v := 6) C (by decide) dX7_init_5 ?_
  refine c_newa (atype := .int) (ty := .int) 0 C (6, .inl (fun _ => 0)) k_208 rfl rfl (fun _ => rfl) (by decide) (by decide) (Nat.le_of_ble_eq_true rfl) (by rw [hc]; exact Nat.le_of_ble_eq_true rfl) (by rw [hs]; exact Nat.le_of_ble_eq_true rfl) dX7_init_7 (fun q1 => ?_)
  refine c_putF (T := TX7) (k := 0) (ty := tyX7 0) C hm rfl uX7 tyX7_ok nmX7 (by decide) k_159 rfl rfl (by decide +kernel) rfl rfl hL dX7_init_9 (fun hL => ?_)
  refine b_al C 0 rfl rfl dX7_init_12 ?_
  refine b_bipush (v := 6) C (by decide) dX7_init_13 ?_
  refine c_newa (atype := .int) (ty := .int) 0 C (6, .inl (fun _ => 0)) k_208 rfl rfl (fun _ => rfl) (by decide) (by decide) (Nat.le_of_ble_eq_true rfl) (by rw [hc]; exact Nat.le_of_ble_eq_true rfl) (by rw [hs]; exact Nat.le_of_ble_eq_true rfl) dX7_init_15 (fun q2 => ?_)
  refine c_putF (T := TX7) (k := 1) (ty := tyX7 1) C hm rfl uX7 tyX7_ok nmX7 (by decide) k_165 rfl rfl (by decide +kernel) rfl rfl hL dX7_init_17 (fun hL => ?_)
  refine b_al C 0 rfl rfl dX7_init_20 ?_
  refine b_bipush (v := 40) C (by decide) dX7_init_21 ?_
  refine c_newa (atype := .int) (ty := .int) 0 C (40, .inl (fun _ => 0)) k_208 rfl rfl (fun _ => rfl) (by decide) (by decide) (Nat.le_of_ble_eq_true rfl) (by rw [hc]; exact Nat.le_of_ble_eq_true rfl) (by rw [hs]; exact Nat.le_of_ble_eq_true rfl) dX7_init_23 (fun q3 => ?_)
  refine c_putF (T := TX7) (k := 2) (ty := tyX7 2) C hm rfl uX7 tyX7_ok nmX7 (by decide) k_169 rfl rfl (by decide +kernel) rfl rfl hL dX7_init_25 (fun hL => ?_)
  refine b_al C 0 rfl rfl dX7_init_28 ?_
  refine b_bipush (v := 120) C (by decide) dX7_init_29 ?_
  refine c_newa (atype := .int) (ty := .int) 0 C (120, .inl (fun _ => 0)) k_208 rfl rfl (fun _ => rfl) (by decide) (by decide) (Nat.le_of_ble_eq_true rfl) (by rw [hc]; exact Nat.le_of_ble_eq_true rfl) (by rw [hs]; exact Nat.le_of_ble_eq_true rfl) dX7_init_31 (fun q4 => ?_)
  refine c_putF (T := TX7) (k := 3) (ty := tyX7 3) C hm rfl uX7 tyX7_ok nmX7 (by decide) k_172 rfl rfl (by decide +kernel) rfl rfl hL dX7_init_33 (fun hL => ?_)
  refine b_al C 0 rfl rfl dX7_init_36 ?_
  refine b_bipush (v := 40) C (by decide) dX7_init_37 ?_
  refine c_newa (atype := .int) (ty := .int) 0 C (40, .inl (fun _ => 0)) k_208 rfl rfl (fun _ => rfl) (by decide) (by decide) (Nat.le_of_ble_eq_true rfl) (by rw [hc]; exact Nat.le_of_ble_eq_true rfl) (by rw [hs]; exact Nat.le_of_ble_eq_true rfl) dX7_init_39 (fun q5 => ?_)
  refine c_putF (T := TX7) (k := 4) (ty := tyX7 4) C hm rfl uX7 tyX7_ok nmX7 (by decide) k_175 rfl rfl (by decide +kernel) rfl rfl hL dX7_init_41 (fun hL => ?_)
  exact b_ret (fun i => ([h0, q1, q2, q3, q4, q5] : List Nat).getD i 0) C R rfl rfl dX7_init_44
def bX3 (E : En) (a : Nat → Nat) : va_W := (a 0, .inr (3, [.ref (a 1), .int 0, .int 0, .int (-1), .int 0, .int 0, .int 0, .int 0])) :: (([] : va_W) ++ [(a 1, .inl (cA E 21, 800, .inl (fun _ => 0)))])
set_option maxHeartbeats 8000000 in
theorem i_X3 (l : Launch) (E : En) (d : Nat) (hd : 1 ≤ d) (h0 : Nat) : Ci l E yX3_init cX3_init 1 d 1 800 [.ref h0] [(h0, .inr (3, dfs tyX3 8))] (bX3 E) h0 := by
  refine Ci.mk (ls := [some (.ref h0)]) (by decide +kernel) rfl (Nat.le_of_ble_eq_true rfl) (wc1 _ _) (fun X hXl hXn hR C R => ?_)
  subst hXl
  have hm : (xh X).name = "<init>" := hXn
  have hL : (dfs tyX3 8).length = 8 := by simp [dfs]
  have hc : (xR X).cells = 1 := by rw [hR]; rfl
  have hs : (xR X).slots = 800 := by rw [hR]; rfl
  refine b_al C 0 rfl rfl dX3_init_0 ?_
  refine b_oi C rfl (by omega) k_123 k_116 k_117 dX3_init_1 ?_
  refine b_al C 0 rfl rfl dX3_init_4 ?_
  refine b_sipush (v := 800) C (by decide) dX3_init_5 ?_
  refine c_newa (atype := .byte) (ty := .byte) 1 C (800, .inl (fun _ => 0)) k_152 rfl rfl (fun _ => rfl) (by decide) (by decide) (Nat.le_of_ble_eq_true rfl) (by rw [hc]; exact Nat.le_of_ble_eq_true rfl) (by rw [hs]; exact Nat.le_of_ble_eq_true rfl) dX3_init_8 (fun q1 => ?_)
  refine c_putF (T := TX3) (k := 0) (ty := tyX3 0) C hm rfl uX3 tyX3_ok nmX3 (by decide) k_124 rfl rfl (by decide +kernel) rfl rfl hL dX3_init_10 (fun hL => ?_)
  refine b_al C 0 rfl rfl dX3_init_13 ?_
  refine b_iconst (v := -1) C (by decide) dX3_init_14 ?_
  refine c_put (T := TX3) (k := 3) (ty := tyX3 3) C rfl uX3 tyX3_ok nmX3 (by decide) k_129 rfl (by decide +kernel) rfl rfl hL dX3_init_15 (fun hL => ?_)
  exact b_ret (fun i => ([h0, q1] : List Nat).getD i 0) C R rfl rfl dX3_init_18
def bX4 (E : En) (a : Nat → Nat) : va_W := (a 0, .inr (4, [.ref (a 1), .ref (a 2), .ref (a 3), .int 0, .int 0])) :: (([] : va_W) ++ [(a 1, .inl (cA E 20, 201, .inl (fun _ => 0)))] ++ [(a 2, .inl (cA E 20, 1608, .inl (fun _ => 0)))] ++ [(a 3, .inl (cA E 20, 8, .inl (fun _ => 0)))])
set_option maxHeartbeats 8000000 in
theorem i_X4 (l : Launch) (E : En) (d : Nat) (hd : 1 ≤ d) (h0 : Nat) : Ci l E yX4_init cX4_init 1 d 3 1817 [.ref h0] [(h0, .inr (4, dfs tyX4 5))] (bX4 E) h0 := by
  refine Ci.mk (ls := [some (.ref h0)]) (by decide +kernel) rfl (Nat.le_of_ble_eq_true rfl) (wc1 _ _) (fun X hXl hXn hR C R => ?_)
  subst hXl
  have hm : (xh X).name = "<init>" := hXn
  have hL : (dfs tyX4 5).length = 5 := by simp [dfs]
  have hc : (xR X).cells = 3 := by rw [hR]; rfl
  have hs : (xR X).slots = 1817 := by rw [hR]; rfl
  refine b_al C 0 rfl rfl dX4_init_0 ?_
  refine b_oi C rfl (by omega) k_215 k_116 k_117 dX4_init_1 ?_
  refine b_al C 0 rfl rfl dX4_init_4 ?_
  refine b_sipush (v := 201) C (by decide) dX4_init_5 ?_
  refine c_newa (atype := .int) (ty := .int) 0 C (201, .inl (fun _ => 0)) k_208 rfl rfl (fun _ => rfl) (by decide) (by decide) (Nat.le_of_ble_eq_true rfl) (by rw [hc]; exact Nat.le_of_ble_eq_true rfl) (by rw [hs]; exact Nat.le_of_ble_eq_true rfl) dX4_init_8 (fun q1 => ?_)
  refine c_putF (T := TX4) (k := 0) (ty := tyX4 0) C hm rfl uX4 tyX4_ok nmX4 (by decide) k_216 rfl rfl (by decide +kernel) rfl rfl hL dX4_init_10 (fun hL => ?_)
  refine b_al C 0 rfl rfl dX4_init_13 ?_
  refine b_sipush (v := 1608) C (by decide) dX4_init_14 ?_
  refine c_newa (atype := .int) (ty := .int) 0 C (1608, .inl (fun _ => 0)) k_208 rfl rfl (fun _ => rfl) (by decide) (by decide) (Nat.le_of_ble_eq_true rfl) (by rw [hc]; exact Nat.le_of_ble_eq_true rfl) (by rw [hs]; exact Nat.le_of_ble_eq_true rfl) dX4_init_17 (fun q2 => ?_)
  refine c_putF (T := TX4) (k := 1) (ty := tyX4 1) C hm rfl uX4 tyX4_ok nmX4 (by decide) k_218 rfl rfl (by decide +kernel) rfl rfl hL dX4_init_19 (fun hL => ?_)
  refine b_al C 0 rfl rfl dX4_init_22 ?_
  refine b_bipush (v := 8) C (by decide) dX4_init_23 ?_
  refine c_newa (atype := .int) (ty := .int) 0 C (8, .inl (fun _ => 0)) k_208 rfl rfl (fun _ => rfl) (by decide) (by decide) (Nat.le_of_ble_eq_true rfl) (by rw [hc]; exact Nat.le_of_ble_eq_true rfl) (by rw [hs]; exact Nat.le_of_ble_eq_true rfl) dX4_init_25 (fun q3 => ?_)
  refine c_putF (T := TX4) (k := 2) (ty := tyX4 2) C hm rfl uX4 tyX4_ok nmX4 (by decide) k_220 rfl rfl (by decide +kernel) rfl rfl hL dX4_init_27 (fun hL => ?_)
  exact b_ret (fun i => ([h0, q1, q2, q3] : List Nat).getD i 0) C R rfl rfl dX4_init_30
def bX8 (E : En) (a : Nat → Nat) : va_W := (a 0, .inr (8, [.ref (a 1), .int 0, .int 0])) :: (([] : va_W) ++ [(a 1, .inl (cA E 20, 2160, .inl (fun _ => 0)))])
set_option maxHeartbeats 8000000 in
theorem i_X8 (l : Launch) (E : En) (d : Nat) (hd : 1 ≤ d) (h0 : Nat) : Ci l E yX8_init cX8_init 1 d 1 2160 [.ref h0] [(h0, .inr (8, dfs tyX8 3))] (bX8 E) h0 := by
  refine Ci.mk (ls := [some (.ref h0)]) (by decide +kernel) rfl (Nat.le_of_ble_eq_true rfl) (wc1 _ _) (fun X hXl hXn hR C R => ?_)
  subst hXl
  have hm : (xh X).name = "<init>" := hXn
  have hL : (dfs tyX8 3).length = 3 := by simp [dfs]
  have hc : (xR X).cells = 1 := by rw [hR]; rfl
  have hs : (xR X).slots = 2160 := by rw [hR]; rfl
  refine b_al C 0 rfl rfl dX8_init_0 ?_
  refine b_oi C rfl (by omega) k_243 k_116 k_117 dX8_init_1 ?_
  refine b_al C 0 rfl rfl dX8_init_4 ?_
  refine b_sipush (v := 2160) C (by decide) dX8_init_5 ?_
  refine c_newa (atype := .int) (ty := .int) 0 C (2160, .inl (fun _ => 0)) k_208 rfl rfl (fun _ => rfl) (by decide) (by decide) (Nat.le_of_ble_eq_true rfl) (by rw [hc]; exact Nat.le_of_ble_eq_true rfl) (by rw [hs]; exact Nat.le_of_ble_eq_true rfl) dX8_init_8 (fun q1 => ?_)
  refine c_putF (T := TX8) (k := 0) (ty := tyX8 0) C hm rfl uX8 tyX8_ok nmX8 (by decide) k_244 rfl rfl (by decide +kernel) rfl rfl hL dX8_init_10 (fun hL => ?_)
  exact b_ret (fun i => ([h0, q1] : List Nat).getD i 0) C R rfl rfl dX8_init_13
def bX6 (E : En) (a : Nat → Nat) : va_W := (a 0, .inr (6, [.int 0, .int 0, .int 0, .int 0, .int 0, .ref (a 1), .ref (a 2), .ref (a 3), .ref (a 4), .ref (a 5), .int 0, .int 0, .int 0, .ref (a 6), .int 0, .int 0, .int 0, .int 0, .int 0])) :: (([] : va_W) ++ [(a 1, .inl (cA E 20, 6, .inl (fun _ => 0)))] ++ [(a 2, .inl (cA E 20, 80, .inl (fun _ => 0)))] ++ [(a 3, .inl (cA E 20, 80, .inl (fun _ => 0)))] ++ [(a 4, .inl (cA E 20, 80, .inl (fun _ => 0)))] ++ [(a 5, .inl (cA E 20, 16, .inl (fun _ => 0)))] ++ [(a 6, .inl (cA E 20, 6, .inl (fun _ => 0)))])
set_option maxHeartbeats 8000000 in
theorem i_X6 (l : Launch) (E : En) (d : Nat) (hd : 1 ≤ d) (h0 : Nat) : Ci l E yX6_init cX6_init 1 d 6 268 [.ref h0] [(h0, .inr (6, dfs tyX6 19))] (bX6 E) h0 := by
  refine Ci.mk (ls := [some (.ref h0)]) (by decide +kernel) rfl (Nat.le_of_ble_eq_true rfl) (wc1 _ _) (fun X hXl hXn hR C R => ?_)
  subst hXl
  have hm : (xh X).name = "<init>" := hXn
  have hL : (dfs tyX6 19).length = 19 := by simp [dfs]
  have hc : (xR X).cells = 6 := by rw [hR]; rfl
  have hs : (xR X).slots = 268 := by rw [hR]; rfl
  refine b_al C 0 rfl rfl dX6_init_0 ?_
  refine b_oi C rfl (by omega) k_269 k_116 k_117 dX6_init_1 ?_
  refine b_al C 0 rfl rfl dX6_init_4 ?_
  refine b_bipush (v := 6) C (by decide) dX6_init_5 ?_
  refine c_newa (atype := .int) (ty := .int) 0 C (6, .inl (fun _ => 0)) k_208 rfl rfl (fun _ => rfl) (by decide) (by decide) (Nat.le_of_ble_eq_true rfl) (by rw [hc]; exact Nat.le_of_ble_eq_true rfl) (by rw [hs]; exact Nat.le_of_ble_eq_true rfl) dX6_init_7 (fun q1 => ?_)
  refine c_putF (T := TX6) (k := 5) (ty := tyX6 5) C hm rfl uX6 tyX6_ok nmX6 (by decide) k_276 rfl rfl (by decide +kernel) rfl rfl hL dX6_init_9 (fun hL => ?_)
  refine b_al C 0 rfl rfl dX6_init_12 ?_
  refine b_bipush (v := 80) C (by decide) dX6_init_13 ?_
  refine c_newa (atype := .int) (ty := .int) 0 C (80, .inl (fun _ => 0)) k_208 rfl rfl (fun _ => rfl) (by decide) (by decide) (Nat.le_of_ble_eq_true rfl) (by rw [hc]; exact Nat.le_of_ble_eq_true rfl) (by rw [hs]; exact Nat.le_of_ble_eq_true rfl) dX6_init_15 (fun q2 => ?_)
  refine c_putF (T := TX6) (k := 6) (ty := tyX6 6) C hm rfl uX6 tyX6_ok nmX6 (by decide) k_278 rfl rfl (by decide +kernel) rfl rfl hL dX6_init_17 (fun hL => ?_)
  refine b_al C 0 rfl rfl dX6_init_20 ?_
  refine b_bipush (v := 80) C (by decide) dX6_init_21 ?_
  refine c_newa (atype := .int) (ty := .int) 0 C (80, .inl (fun _ => 0)) k_208 rfl rfl (fun _ => rfl) (by decide) (by decide) (Nat.le_of_ble_eq_true rfl) (by rw [hc]; exact Nat.le_of_ble_eq_true rfl) (by rw [hs]; exact Nat.le_of_ble_eq_true rfl) dX6_init_23 (fun q3 => ?_)
  refine c_putF (T := TX6) (k := 7) (ty := tyX6 7) C hm rfl uX6 tyX6_ok nmX6 (by decide) k_280 rfl rfl (by decide +kernel) rfl rfl hL dX6_init_25 (fun hL => ?_)
  refine b_al C 0 rfl rfl dX6_init_28 ?_
  refine b_bipush (v := 80) C (by decide) dX6_init_29 ?_
  refine c_newa (atype := .int) (ty := .int) 0 C (80, .inl (fun _ => 0)) k_208 rfl rfl (fun _ => rfl) (by decide) (by decide) (Nat.le_of_ble_eq_true rfl) (by rw [hc]; exact Nat.le_of_ble_eq_true rfl) (by rw [hs]; exact Nat.le_of_ble_eq_true rfl) dX6_init_31 (fun q4 => ?_)
  refine c_putF (T := TX6) (k := 8) (ty := tyX6 8) C hm rfl uX6 tyX6_ok nmX6 (by decide) k_282 rfl rfl (by decide +kernel) rfl rfl hL dX6_init_33 (fun hL => ?_)
  refine b_al C 0 rfl rfl dX6_init_36 ?_
  refine b_bipush (v := 16) C (by decide) dX6_init_37 ?_
  refine c_newa (atype := .int) (ty := .int) 0 C (16, .inl (fun _ => 0)) k_208 rfl rfl (fun _ => rfl) (by decide) (by decide) (Nat.le_of_ble_eq_true rfl) (by rw [hc]; exact Nat.le_of_ble_eq_true rfl) (by rw [hs]; exact Nat.le_of_ble_eq_true rfl) dX6_init_39 (fun q5 => ?_)
  refine c_putF (T := TX6) (k := 9) (ty := tyX6 9) C hm rfl uX6 tyX6_ok nmX6 (by decide) k_284 rfl rfl (by decide +kernel) rfl rfl hL dX6_init_41 (fun hL => ?_)
  refine b_al C 0 rfl rfl dX6_init_44 ?_
  refine b_bipush (v := 6) C (by decide) dX6_init_45 ?_
  refine c_newa (atype := .int) (ty := .int) 0 C (6, .inl (fun _ => 0)) k_208 rfl rfl (fun _ => rfl) (by decide) (by decide) (Nat.le_of_ble_eq_true rfl) (by rw [hc]; exact Nat.le_of_ble_eq_true rfl) (by rw [hs]; exact Nat.le_of_ble_eq_true rfl) dX6_init_47 (fun q6 => ?_)
  refine c_putF (T := TX6) (k := 13) (ty := tyX6 13) C hm rfl uX6 tyX6_ok nmX6 (by decide) k_292 rfl rfl (by decide +kernel) rfl rfl hL dX6_init_49 (fun hL => ?_)
  exact b_ret (fun i => ([h0, q1, q2, q3, q4, q5, q6] : List Nat).getD i 0) C R rfl rfl dX6_init_52
def bX2 (E : En) (a : Nat → Nat) : va_W := (a 0, .inr (2, [.ref (a 1), .ref (a 2), .ref (a 3), .ref (a 4), .ref (a 5)])) :: (([] : va_W) ++ [(a 1, .inl (cA E 20, 8, .inl (fun _ => 0)))] ++ [(a 2, .inl (cA E 20, 8, .inl (fun _ => 0)))] ++ [(a 3, .inl (cA E 20, 8, .inl (fun _ => 0)))] ++ [(a 4, .inl (cA E 20, 8, .inl (fun _ => 0)))] ++ [(a 5, .inl (cA E 20, 8, .inl (fun _ => 0)))])
set_option maxHeartbeats 8000000 in
theorem i_X2 (l : Launch) (E : En) (d : Nat) (hd : 1 ≤ d) (h0 : Nat) : Ci l E yX2_init cX2_init 1 d 5 40 [.ref h0] [(h0, .inr (2, dfs tyX2 5))] (bX2 E) h0 := by
  refine Ci.mk (ls := [some (.ref h0)]) (by decide +kernel) rfl (Nat.le_of_ble_eq_true rfl) (wc1 _ _) (fun X hXl hXn hR C R => ?_)
  subst hXl
  have hm : (xh X).name = "<init>" := hXn
  have hL : (dfs tyX2 5).length = 5 := by simp [dfs]
  have hc : (xR X).cells = 5 := by rw [hR]; rfl
  have hs : (xR X).slots = 40 := by rw [hR]; rfl
  refine b_al C 0 rfl rfl dX2_init_0 ?_
  refine b_oi C rfl (by omega) k_349 k_116 k_117 dX2_init_1 ?_
  refine b_al C 0 rfl rfl dX2_init_4 ?_
  refine b_bipush (v := 8) C (by decide) dX2_init_5 ?_
  refine c_newa (atype := .int) (ty := .int) 0 C (8, .inl (fun _ => 0)) k_208 rfl rfl (fun _ => rfl) (by decide) (by decide) (Nat.le_of_ble_eq_true rfl) (by rw [hc]; exact Nat.le_of_ble_eq_true rfl) (by rw [hs]; exact Nat.le_of_ble_eq_true rfl) dX2_init_7 (fun q1 => ?_)
  refine c_putF (T := TX2) (k := 0) (ty := tyX2 0) C hm rfl uX2 tyX2_ok nmX2 (by decide) k_350 rfl rfl (by decide +kernel) rfl rfl hL dX2_init_9 (fun hL => ?_)
  refine b_al C 0 rfl rfl dX2_init_12 ?_
  refine b_bipush (v := 8) C (by decide) dX2_init_13 ?_
  refine c_newa (atype := .int) (ty := .int) 0 C (8, .inl (fun _ => 0)) k_208 rfl rfl (fun _ => rfl) (by decide) (by decide) (Nat.le_of_ble_eq_true rfl) (by rw [hc]; exact Nat.le_of_ble_eq_true rfl) (by rw [hs]; exact Nat.le_of_ble_eq_true rfl) dX2_init_15 (fun q2 => ?_)
  refine c_putF (T := TX2) (k := 1) (ty := tyX2 1) C hm rfl uX2 tyX2_ok nmX2 (by decide) k_352 rfl rfl (by decide +kernel) rfl rfl hL dX2_init_17 (fun hL => ?_)
  refine b_al C 0 rfl rfl dX2_init_20 ?_
  refine b_bipush (v := 8) C (by decide) dX2_init_21 ?_
  refine c_newa (atype := .int) (ty := .int) 0 C (8, .inl (fun _ => 0)) k_208 rfl rfl (fun _ => rfl) (by decide) (by decide) (Nat.le_of_ble_eq_true rfl) (by rw [hc]; exact Nat.le_of_ble_eq_true rfl) (by rw [hs]; exact Nat.le_of_ble_eq_true rfl) dX2_init_23 (fun q3 => ?_)
  refine c_putF (T := TX2) (k := 2) (ty := tyX2 2) C hm rfl uX2 tyX2_ok nmX2 (by decide) k_354 rfl rfl (by decide +kernel) rfl rfl hL dX2_init_25 (fun hL => ?_)
  refine b_al C 0 rfl rfl dX2_init_28 ?_
  refine b_bipush (v := 8) C (by decide) dX2_init_29 ?_
  refine c_newa (atype := .int) (ty := .int) 0 C (8, .inl (fun _ => 0)) k_208 rfl rfl (fun _ => rfl) (by decide) (by decide) (Nat.le_of_ble_eq_true rfl) (by rw [hc]; exact Nat.le_of_ble_eq_true rfl) (by rw [hs]; exact Nat.le_of_ble_eq_true rfl) dX2_init_31 (fun q4 => ?_)
  refine c_putF (T := TX2) (k := 3) (ty := tyX2 3) C hm rfl uX2 tyX2_ok nmX2 (by decide) k_356 rfl rfl (by decide +kernel) rfl rfl hL dX2_init_33 (fun hL => ?_)
  refine b_al C 0 rfl rfl dX2_init_36 ?_
  refine b_bipush (v := 8) C (by decide) dX2_init_37 ?_
  refine c_newa (atype := .int) (ty := .int) 0 C (8, .inl (fun _ => 0)) k_208 rfl rfl (fun _ => rfl) (by decide) (by decide) (Nat.le_of_ble_eq_true rfl) (by rw [hc]; exact Nat.le_of_ble_eq_true rfl) (by rw [hs]; exact Nat.le_of_ble_eq_true rfl) dX2_init_39 (fun q5 => ?_)
  refine c_putF (T := TX2) (k := 4) (ty := tyX2 4) C hm rfl uX2 tyX2_ok nmX2 (by decide) k_358 rfl rfl (by decide +kernel) rfl rfl hL dX2_init_41 (fun hL => ?_)
  exact b_ret (fun i => ([h0, q1, q2, q3, q4, q5] : List Nat).getD i 0) C R rfl rfl dX2_init_44
def bX0 (E : En) (a : Nat → Nat) : va_W := (a 0, .inr (0, [.ref (a 1), .int 0, .ref (a 2), .int 0, .int 0])) :: (([] : va_W) ++ [(a 1, .inl (cA E 20, 48, .inl (fun _ => 0)))] ++ [(a 2, .inl (cA E 20, 3, .inl (fun _ => 0)))])
set_option maxHeartbeats 8000000 in
theorem i_X0 (l : Launch) (E : En) (d : Nat) (hd : 1 ≤ d) (h0 : Nat) : Ci l E yX0_init cX0_init 1 d 2 51 [.ref h0] [(h0, .inr (0, dfs tyX0 5))] (bX0 E) h0 := by
  refine Ci.mk (ls := [some (.ref h0)]) (by decide +kernel) rfl (Nat.le_of_ble_eq_true rfl) (wc1 _ _) (fun X hXl hXn hR C R => ?_)
  subst hXl
  have hm : (xh X).name = "<init>" := hXn
  have hL : (dfs tyX0 5).length = 5 := by simp [dfs]
  have hc : (xR X).cells = 2 := by rw [hR]; rfl
  have hs : (xR X).slots = 51 := by rw [hR]; rfl
  refine b_al C 0 rfl rfl dX0_init_0 ?_
  refine b_oi C rfl (by omega) k_376 k_116 k_117 dX0_init_1 ?_
  refine b_al C 0 rfl rfl dX0_init_4 ?_
  refine b_bipush (v := 48) C (by decide) dX0_init_5 ?_
  refine c_newa (atype := .int) (ty := .int) 0 C (48, .inl (fun _ => 0)) k_208 rfl rfl (fun _ => rfl) (by decide) (by decide) (Nat.le_of_ble_eq_true rfl) (by rw [hc]; exact Nat.le_of_ble_eq_true rfl) (by rw [hs]; exact Nat.le_of_ble_eq_true rfl) dX0_init_7 (fun q1 => ?_)
  refine c_putF (T := TX0) (k := 0) (ty := tyX0 0) C hm rfl uX0 tyX0_ok nmX0 (by decide) k_377 rfl rfl (by decide +kernel) rfl rfl hL dX0_init_9 (fun hL => ?_)
  refine b_al C 0 rfl rfl dX0_init_12 ?_
  refine b_iconst (v := 3) C (by decide) dX0_init_13 ?_
  refine c_newa (atype := .int) (ty := .int) 0 C (3, .inl (fun _ => 0)) k_208 rfl rfl (fun _ => rfl) (by decide) (by decide) (Nat.le_of_ble_eq_true rfl) (by rw [hc]; exact Nat.le_of_ble_eq_true rfl) (by rw [hs]; exact Nat.le_of_ble_eq_true rfl) dX0_init_14 (fun q2 => ?_)
  refine c_putF (T := TX0) (k := 2) (ty := tyX0 2) C hm rfl uX0 tyX0_ok nmX0 (by decide) k_381 rfl rfl (by decide +kernel) rfl rfl hL dX0_init_16 (fun hL => ?_)
  exact b_ret (fun i => ([h0, q1, q2] : List Nat).getD i 0) C R rfl rfl dX0_init_19
theorem wb_X6_init : CwB yX6_init cX6_init 1 none 0 := ⟨k_268, k_98, by decide +kernel, by decide⟩
theorem wb_X2_init : CwB yX2_init cX2_init 1 none 0 := ⟨k_348, k_99, by decide +kernel, by decide⟩
theorem wb_X0_init : CwB yX0_init cX0_init 1 none 0 := ⟨k_375, k_100, by decide +kernel, by decide⟩
def bX1 (E : En) (a : Nat → Nat) : va_W := (a 0, .inr (1, [.ref (a 1), .ref (a 8), .ref (a 14), .int 0, .long 0, .int 0, .int 0, .int 0, .int 0])) :: (([] : va_W) ++ bX6 E (fun i => a (1 + i)) ++ bX2 E (fun i => a (8 + i)) ++ bX0 E (fun i => a (14 + i)))
set_option maxHeartbeats 8000000 in
theorem i_X1 (l : Launch) (E : En) (d : Nat) (hd : 2 ≤ d) (h0 : Nat) : Ci l E yX1_init cX1_init 1 d 16 388 [.ref h0] [(h0, .inr (1, dfs tyX1 9))] (bX1 E) h0 := by
  refine Ci.mk (ls := [some (.ref h0)]) (by decide +kernel) rfl (Nat.le_of_ble_eq_true rfl) (wc1 _ _) (fun X hXl hXn hR C R => ?_)
  subst hXl
  have hm : (xh X).name = "<init>" := hXn
  have hL : (dfs tyX1 9).length = 9 := by simp [dfs]
  have hc : (xR X).cells = 16 := by rw [hR]; rfl
  have hs : (xR X).slots = 388 := by rw [hR]; rfl
  refine b_al C 0 rfl rfl dX1_init_0 ?_
  refine b_oi C rfl (by omega) k_263 k_116 k_117 dX1_init_1 ?_
  refine b_al C 0 rfl rfl dX1_init_4 ?_
  refine c_new (ci := 6) C (dfs tyX6 19) uX6 tyX6_ok k_264 k_265 k_98 rfl (dfs_ok _ _) (by rw [hc]; exact Nat.le_of_ble_eq_true rfl) (by rw [hs]; exact Nat.le_of_ble_eq_true rfl) dX1_init_5 (fun q1 => ?_)
  refine b_dup C rfl dX1_init_8 ?_
  refine c_cN C rfl (by omega) (i_X6 (xl X) E (d - 1) (by omega) q1) wb_X6_init rfl k_267 (List.mem_of_getElem? (i := 5) rfl) (Nat.le_of_ble_eq_true rfl) (by rw [hc]; exact Nat.le_of_ble_eq_true rfl) (by rw [hs]; exact Nat.le_of_ble_eq_true rfl) dX1_init_9 (fun a1 ha1 => ?_)
  subst ha1
  refine c_putF (T := TX1) (k := 0) (ty := tyX1 0) C hm rfl uX1 tyX1_ok nmX1 (by decide) k_396 rfl rfl (by decide +kernel) rfl rfl hL dX1_init_12 (fun hL => ?_)
  refine b_al C 0 rfl rfl dX1_init_15 ?_
  refine c_new (ci := 2) C (dfs tyX2 5) uX2 tyX2_ok k_344 k_345 k_99 rfl (dfs_ok _ _) (by rw [hc]; exact Nat.le_of_ble_eq_true rfl) (by rw [hs]; exact Nat.le_of_ble_eq_true rfl) dX1_init_16 (fun q2 => ?_)
  refine b_dup C rfl dX1_init_19 ?_
  refine c_cN C rfl (by omega) (i_X2 (xl X) E (d - 1) (by omega) q2) wb_X2_init rfl k_347 (List.mem_of_getElem? (i := 6) rfl) (Nat.le_of_ble_eq_true rfl) (by rw [hc]; exact Nat.le_of_ble_eq_true rfl) (by rw [hs]; exact Nat.le_of_ble_eq_true rfl) dX1_init_20 (fun a2 ha2 => ?_)
  subst ha2
  refine c_putF (T := TX1) (k := 1) (ty := tyX1 1) C hm rfl uX1 tyX1_ok nmX1 (by decide) k_399 rfl rfl (by decide +kernel) rfl rfl hL dX1_init_23 (fun hL => ?_)
  refine b_al C 0 rfl rfl dX1_init_26 ?_
  refine c_new (ci := 0) C (dfs tyX0 5) uX0 tyX0_ok k_371 k_372 k_100 rfl (dfs_ok _ _) (by rw [hc]; exact Nat.le_of_ble_eq_true rfl) (by rw [hs]; exact Nat.le_of_ble_eq_true rfl) dX1_init_27 (fun q3 => ?_)
  refine b_dup C rfl dX1_init_30 ?_
  refine c_cN C rfl (by omega) (i_X0 (xl X) E (d - 1) (by omega) q3) wb_X0_init rfl k_374 (List.mem_of_getElem? (i := 7) rfl) (Nat.le_of_ble_eq_true rfl) (by rw [hc]; exact Nat.le_of_ble_eq_true rfl) (by rw [hs]; exact Nat.le_of_ble_eq_true rfl) dX1_init_31 (fun a3 ha3 => ?_)
  subst ha3
  refine c_putF (T := TX1) (k := 2) (ty := tyX1 2) C hm rfl uX1 tyX1_ok nmX1 (by decide) k_401 rfl rfl (by decide +kernel) rfl rfl hL dX1_init_34 (fun hL => ?_)
  exact b_ret (fun i => if i < 1 then h0 else if i < 8 then a1 (i - 1) else if i < 14 then a2 (i - 8) else a3 (i - 14)) C R rfl rfl dX1_init_37
def bX5 (E : En) (a : Nat → Nat) : va_W := (a 0, .inr (5, [.ref (a 1), .ref (a 2), .ref (a 3)])) :: (([] : va_W) ++ [(a 1, .inl (cA E 20, 4, .inl (fun _ => 0)))] ++ [(a 2, .inl (cA E 20, 4, .inl f4m))] ++ [(a 3, .inl (cA E 23, 240, .inr (.inl (fun _ => 0))))])
set_option maxHeartbeats 8000000 in
theorem i_X5 (l : Launch) (E : En) (d : Nat) (hd : 1 ≤ d) (h0 : Nat) : Ci l E yX5_init cX5_init 1 d 3 248 [.ref h0] [(h0, .inr (5, dfs tyX5 3))] (bX5 E) h0 := by
  refine Ci.mk (ls := [some (.ref h0)]) (by decide +kernel) rfl (Nat.le_of_ble_eq_true rfl) (wc1 _ _) (fun X hXl hXn hR C R => ?_)
  subst hXl
  have hm : (xh X).name = "<init>" := hXn
  have hL : (dfs tyX5 3).length = 3 := by simp [dfs]
  have hc : (xR X).cells = 3 := by rw [hR]; rfl
  have hs : (xR X).slots = 248 := by rw [hR]; rfl
  refine b_al C 0 rfl rfl dX5_init_0 ?_
  refine b_oi C rfl (by omega) k_439 k_116 k_117 dX5_init_1 ?_
  refine b_al C 0 rfl rfl dX5_init_4 ?_
  refine b_iconst (v := 4) C (by decide) dX5_init_5 ?_
  refine c_newa (atype := .int) (ty := .int) 0 C (4, .inl (fun _ => 0)) k_208 rfl rfl (fun _ => rfl) (by decide) (by decide) (Nat.le_of_ble_eq_true rfl) (by rw [hc]; exact Nat.le_of_ble_eq_true rfl) (by rw [hs]; exact Nat.le_of_ble_eq_true rfl) dX5_init_6 (fun q1 => ?_)
  refine c_putF (T := TX5) (k := 0) (ty := tyX5 0) C hm rfl uX5 tyX5_ok nmX5 (by decide) k_443 rfl rfl (by decide +kernel) rfl rfl hL dX5_init_8 (fun hL => ?_)
  refine b_al C 0 rfl rfl dX5_init_11 ?_
  refine b_iconst (v := 4) C (by decide) dX5_init_12 ?_
  refine c_newa (atype := .int) (ty := .int) 0 C (4, .inl (fun _ => 0)) k_208 rfl rfl (fun _ => rfl) (by decide) (by decide) (Nat.le_of_ble_eq_true rfl) (by rw [hc]; exact Nat.le_of_ble_eq_true rfl) (by rw [hs]; exact Nat.le_of_ble_eq_true rfl) dX5_init_13 (fun q2 => ?_)
  refine c_putF (T := TX5) (k := 1) (ty := tyX5 1) C hm rfl uX5 tyX5_ok nmX5 (by decide) k_444 rfl rfl (by decide +kernel) rfl rfl hL dX5_init_15 (fun hL => ?_)
  refine b_al C 0 rfl rfl dX5_init_18 ?_
  refine b_sipush (v := 240) C (by decide) dX5_init_19 ?_
  refine c_newa (atype := .long) (ty := .long) 3 C (240, .inr (.inl (fun _ => 0))) k_454 rfl rfl (fun _ => rfl) (by decide) (by decide) (Nat.le_of_ble_eq_true rfl) (by rw [hc]; exact Nat.le_of_ble_eq_true rfl) (by rw [hs]; exact Nat.le_of_ble_eq_true rfl) dX5_init_22 (fun q3 => ?_)
  refine c_putF (T := TX5) (k := 2) (ty := tyX5 2) C hm rfl uX5 tyX5_ok nmX5 (by decide) k_446 rfl rfl (by decide +kernel) rfl rfl hL dX5_init_24 (fun hL => ?_)
  refine b_al C 0 rfl rfl dX5_init_27 ?_
  refine c_get (T := TX5) (k := 1) (v := .ref q2) C rfl uX5 (by decide) k_444 rfl dX5_init_28 ?_
  refine b_iconst (v := -1) C (by decide) dX5_init_31 ?_
  refine b_perm (ws' := (h0, .inr (5, ((((dfs tyX5 3).set 0 (.ref q1)).set 1 (.ref q2)).set 2 (.ref q3)))) :: ([(q1, .inl (cA E 20, 4, .inl (fun _ => 0))), (q3, .inl (cA E 23, 240, .inr (.inl (fun _ => 0))))] ++ [(q2, .inl (cA E 20, 4, .inl (fun _ => 0)))])) [0, 1, 3, 2] [] rfl rfl rfl ?_
  refine c_cS (As := [.ref q2, .int (-1)]) (st := []) C rfl (by omega) (i_fill (xl X) E (d - 1) q2) wb_J7_fill_53178 rfl k_441 k_440 (Nat.le_of_ble_eq_true rfl) (by rw [hc]; exact Nat.le_of_ble_eq_true rfl) (by rw [hs]; exact Nat.le_of_ble_eq_true rfl) dX5_init_32 (fun a2 ha2 => ?_)
  subst ha2
  refine b_perm (ws' := (h0, .inr (5, ((((dfs tyX5 3).set 0 (.ref q1)).set 1 (.ref (a2 0))).set 2 (.ref q3)))) :: [(q1, .inl (cA E 20, 4, .inl (fun _ => 0))), (a2 0, .inl (cA E 20, 4, .inl f4m)), (q3, .inl (cA E 23, 240, .inr (.inl (fun _ => 0))))]) [0, 1, 3, 2] [] rfl rfl rfl ?_
  exact b_ret (fun i => ([h0, q1, (a2 0), q3] : List Nat).getD i 0) C R rfl rfl dX5_init_35
theorem wb_X3_init : CwB yX3_init cX3_init 1 none 0 := ⟨k_122, k_93, by decide +kernel, by decide⟩
theorem wb_X7_init : CwB yX7_init cX7_init 1 none 0 := ⟨k_157, k_94, by decide +kernel, by decide⟩
theorem wb_X4_init : CwB yX4_init cX4_init 1 none 0 := ⟨k_214, k_95, by decide +kernel, by decide⟩
theorem wb_X8_init : CwB yX8_init cX8_init 1 none 0 := ⟨k_242, k_96, by decide +kernel, by decide⟩
theorem wb_X1_init : CwB yX1_init cX1_init 1 none 0 := ⟨k_262, k_97, by decide +kernel, by decide⟩
theorem wb_X5_init : CwB yX5_init cX5_init 1 none 0 := ⟨k_438, k_101, by decide +kernel, by decide⟩
def bX9 (E : En) (a : Nat → Nat) : va_W := (a 0, .inr (9, [.ref (a 1), .ref (a 3), .ref (a 9), .ref (a 15), .ref (a 34), .ref (a 35), .ref (a 39), .ref (a 41), .ref (a 58), .ref (a 75), .ref (a 76)])) :: (([] : va_W) ++ bX3 E (fun i => a (1 + i)) ++ bX7 E (fun i => a (3 + i)) ++ bX7 E (fun i => a (9 + i)) ++ [(a 15, .inl (cA E 24, 3, .inr (.inr (.inr (.inr (va_up (va_up (va_up (fun _ => none) (0 : Int32).toNatClampNeg (some (a 16))) (1 : Int32).toNatClampNeg (some (a 22))) (2 : Int32).toNatClampNeg (some (a 28))))))))] ++ bX7 E (fun i => a (16 + i)) ++ bX7 E (fun i => a (22 + i)) ++ bX7 E (fun i => a (28 + i)) ++ [(a 34, .inl (cA E 22, 3, .inl (fun _ => 0)))] ++ bX4 E (fun i => a (35 + i)) ++ bX8 E (fun i => a (39 + i)) ++ bX1 E (fun i => a (41 + i)) ++ bX1 E (fun i => a (58 + i)) ++ [(a 75, .inl (cA E 20, 30, .inl (fun _ => 0)))] ++ bX5 E (fun i => a (76 + i)))
set_option maxHeartbeats 8000000 in
theorem i_X9 (l : Launch) (E : En) (d : Nat) (hd : 3 ≤ d) (h0 : Nat) : Ci l E yX9_init cX9_init 2 d 79 6979 [.ref h0] [(h0, .inr (9, dfs tyX9 11))] (bX9 E) h0 := by
  refine Ci.mk (ls := [some (.ref h0), none]) (by decide +kernel) rfl (Nat.le_of_ble_eq_true rfl) (wc1 _ _) (fun X hXl hXn hR C R => ?_)
  subst hXl
  have hm : (xh X).name = "<init>" := hXn
  have hL : (dfs tyX9 11).length = 11 := by simp [dfs]
  have hc : (xR X).cells = 79 := by rw [hR]; rfl
  have hs : (xR X).slots = 6979 := by rw [hR]; rfl
  refine b_al C 0 rfl rfl dX9_init_0 ?_
  refine b_oi C rfl (by omega) k_115 k_116 k_117 dX9_init_1 ?_
  refine b_al C 0 rfl rfl dX9_init_4 ?_
  refine c_new (ci := 3) C (dfs tyX3 8) uX3 tyX3_ok k_118 k_119 k_93 rfl (dfs_ok _ _) (by rw [hc]; exact Nat.le_of_ble_eq_true rfl) (by rw [hs]; exact Nat.le_of_ble_eq_true rfl) dX9_init_5 (fun q1 => ?_)
  refine b_dup C rfl dX9_init_8 ?_
  refine c_cN C rfl (by omega) (i_X3 (xl X) E (d - 1) (by omega) q1) wb_X3_init rfl k_121 (List.mem_of_getElem? (i := 0) rfl) (Nat.le_of_ble_eq_true rfl) (by rw [hc]; exact Nat.le_of_ble_eq_true rfl) (by rw [hs]; exact Nat.le_of_ble_eq_true rfl) dX9_init_9 (fun a1 ha1 => ?_)
  subst ha1
  refine c_putF (T := TX9) (k := 0) (ty := tyX9 0) C hm rfl uX9 tyX9_ok nmX9 (by decide) k_455 rfl rfl (by decide +kernel) rfl rfl hL dX9_init_12 (fun hL => ?_)
  refine b_al C 0 rfl rfl dX9_init_15 ?_
  refine c_new (ci := 7) C (dfs tyX7 9) uX7 tyX7_ok k_153 k_154 k_94 rfl (dfs_ok _ _) (by rw [hc]; exact Nat.le_of_ble_eq_true rfl) (by rw [hs]; exact Nat.le_of_ble_eq_true rfl) dX9_init_16 (fun q2 => ?_)
  refine b_dup C rfl dX9_init_19 ?_
  refine c_cN C rfl (by omega) (i_X7 (xl X) E (d - 1) (by omega) q2) wb_X7_init rfl k_156 (List.mem_of_getElem? (i := 1) rfl) (Nat.le_of_ble_eq_true rfl) (by rw [hc]; exact Nat.le_of_ble_eq_true rfl) (by rw [hs]; exact Nat.le_of_ble_eq_true rfl) dX9_init_20 (fun a2 ha2 => ?_)
  subst ha2
  refine c_putF (T := TX9) (k := 1) (ty := tyX9 1) C hm rfl uX9 tyX9_ok nmX9 (by decide) k_456 rfl rfl (by decide +kernel) rfl rfl hL dX9_init_23 (fun hL => ?_)
  refine b_al C 0 rfl rfl dX9_init_26 ?_
  refine c_new (ci := 7) C (dfs tyX7 9) uX7 tyX7_ok k_153 k_154 k_94 rfl (dfs_ok _ _) (by rw [hc]; exact Nat.le_of_ble_eq_true rfl) (by rw [hs]; exact Nat.le_of_ble_eq_true rfl) dX9_init_27 (fun q3 => ?_)
  refine b_dup C rfl dX9_init_30 ?_
  refine c_cN C rfl (by omega) (i_X7 (xl X) E (d - 1) (by omega) q3) wb_X7_init rfl k_156 (List.mem_of_getElem? (i := 1) rfl) (Nat.le_of_ble_eq_true rfl) (by rw [hc]; exact Nat.le_of_ble_eq_true rfl) (by rw [hs]; exact Nat.le_of_ble_eq_true rfl) dX9_init_31 (fun a3 ha3 => ?_)
  subst ha3
  refine c_putF (T := TX9) (k := 2) (ty := tyX9 2) C hm rfl uX9 tyX9_ok nmX9 (by decide) k_457 rfl rfl (by decide +kernel) rfl rfl hL dX9_init_34 (fun hL => ?_)
  refine b_al C 0 rfl rfl dX9_init_37 ?_
  refine b_iconst (v := 3) C (by decide) dX9_init_38 ?_
  refine c_newq (N := 3) C k_153 (by decide) (by decide) (Nat.le_of_ble_eq_true rfl) (by rw [hc]; exact Nat.le_of_ble_eq_true rfl) (by rw [hs]; exact Nat.le_of_ble_eq_true rfl) dX9_init_39 (fun q4 => ?_)
  refine c_putF (T := TX9) (k := 3) (ty := tyX9 3) C hm rfl uX9 tyX9_ok nmX9 (by decide) k_458 rfl rfl (by decide +kernel) rfl rfl hL dX9_init_42 (fun hL => ?_)
  refine b_iconst (v := 0) C (by decide) dX9_init_45 ?_
  refine b_is (i := 1) C 1 rfl (Nat.le_of_ble_eq_true rfl) (fun j hj w hw => by cases hj; simp at hw; subst hw; intro z; cases z) dX9_init_46 ?_
  refine b_il (x := 0) C 1 rfl rfl dX9_init_47 ?_
  refine b_iconst (v := 3) C (by decide) dX9_init_48 ?_
  refine b_icge (tgt := 71) C dX9_init_49 (by decide) (fun hh => absurd hh (by decide)) (fun _ => ?_)
  refine b_al C 0 rfl rfl dX9_init_52 ?_
  refine c_get (T := TX9) (k := 3) (v := .ref q4) C rfl uX9 (by decide) k_458 rfl dX9_init_53 ?_
  refine b_il (x := 0) C 1 rfl rfl dX9_init_56 ?_
  refine c_new (ci := 7) C (dfs tyX7 9) uX7 tyX7_ok k_153 k_154 k_94 rfl (dfs_ok _ _) (by rw [hc]; exact Nat.le_of_ble_eq_true rfl) (by rw [hs]; exact Nat.le_of_ble_eq_true rfl) dX9_init_57 (fun q5 => ?_)
  refine b_dup C rfl dX9_init_60 ?_
  refine c_cN C rfl (by omega) (i_X7 (xl X) E (d - 1) (by omega) q5) wb_X7_init rfl k_156 (List.mem_of_getElem? (i := 1) rfl) (Nat.le_of_ble_eq_true rfl) (by rw [hc]; exact Nat.le_of_ble_eq_true rfl) (by rw [hs]; exact Nat.le_of_ble_eq_true rfl) dX9_init_61 (fun a5 ha5 => ?_)
  subst ha5
  refine b_aast (q0 := 15) (qk := 16) (vs := [.ref (a5 1), .ref (a5 2), .ref (a5 3), .ref (a5 4), .ref (a5 5), .int 0, .int 0, .int 0, .int 0]) C rfl rfl (ib_in rfl) dX9_init_64 ?_
  refine b_sh (ws' := (h0, .inr (9, ((((dfs tyX9 11).set 0 (.ref (a1 0))).set 1 (.ref (a2 0))).set 2 (.ref (a3 0))).set 3 (.ref q4))) :: (((((([] : va_W) ++ bX3 E a1) ++ bX7 E a2) ++ bX7 E a3) ++ [(q4, .inl (cA E 24, 3, .inr (.inr (.inr (.inr (va_up (fun _ => none) (0 : Int32).toNatClampNeg (some (a5 0))))))))]) ++ bX7 E a5)) rfl ?_
  refine c_ii (v := 1) (i := 1) C (by decide) rfl (fun j hj w hw => by cases hj; simp at hw; subst hw; intro z; cases z) dX9_init_65 ?_
  refine b_goto (tgt := 47) C dX9_init_68 (by decide) ?_
  refine b_il (x := 1) C 1 rfl rfl dX9_init_47 ?_
  refine b_iconst (v := 3) C (by decide) dX9_init_48 ?_
  refine b_icge (tgt := 71) C dX9_init_49 (by decide) (fun hh => absurd hh (by decide)) (fun _ => ?_)
  refine b_al C 0 rfl rfl dX9_init_52 ?_
  refine c_get (T := TX9) (k := 3) (v := .ref q4) C rfl uX9 (by decide) k_458 rfl dX9_init_53 ?_
  refine b_il (x := 1) C 1 rfl rfl dX9_init_56 ?_
  refine c_new (ci := 7) C (dfs tyX7 9) uX7 tyX7_ok k_153 k_154 k_94 rfl (dfs_ok _ _) (by rw [hc]; exact Nat.le_of_ble_eq_true rfl) (by rw [hs]; exact Nat.le_of_ble_eq_true rfl) dX9_init_57 (fun q6 => ?_)
  refine b_dup C rfl dX9_init_60 ?_
  refine c_cN C rfl (by omega) (i_X7 (xl X) E (d - 1) (by omega) q6) wb_X7_init rfl k_156 (List.mem_of_getElem? (i := 1) rfl) (Nat.le_of_ble_eq_true rfl) (by rw [hc]; exact Nat.le_of_ble_eq_true rfl) (by rw [hs]; exact Nat.le_of_ble_eq_true rfl) dX9_init_61 (fun a6 ha6 => ?_)
  subst ha6
  refine b_aast (q0 := 15) (qk := 22) (vs := [.ref (a6 1), .ref (a6 2), .ref (a6 3), .ref (a6 4), .ref (a6 5), .int 0, .int 0, .int 0, .int 0]) C rfl rfl (ib_in rfl) dX9_init_64 ?_
  refine b_sh (ws' := (h0, .inr (9, ((((dfs tyX9 11).set 0 (.ref (a1 0))).set 1 (.ref (a2 0))).set 2 (.ref (a3 0))).set 3 (.ref q4))) :: ((((((([] : va_W) ++ bX3 E a1) ++ bX7 E a2) ++ bX7 E a3) ++ [(q4, .inl (cA E 24, 3, .inr (.inr (.inr (.inr (va_up (va_up (fun _ => none) (0 : Int32).toNatClampNeg (some (a5 0))) (1 : Int32).toNatClampNeg (some (a6 0))))))))]) ++ bX7 E a5) ++ bX7 E a6)) rfl ?_
  refine c_ii (v := 2) (i := 1) C (by decide) rfl (fun j hj w hw => by cases hj; simp at hw; subst hw; intro z; cases z) dX9_init_65 ?_
  refine b_goto (tgt := 47) C dX9_init_68 (by decide) ?_
  refine b_il (x := 2) C 1 rfl rfl dX9_init_47 ?_
  refine b_iconst (v := 3) C (by decide) dX9_init_48 ?_
  refine b_icge (tgt := 71) C dX9_init_49 (by decide) (fun hh => absurd hh (by decide)) (fun _ => ?_)
  refine b_al C 0 rfl rfl dX9_init_52 ?_
  refine c_get (T := TX9) (k := 3) (v := .ref q4) C rfl uX9 (by decide) k_458 rfl dX9_init_53 ?_
  refine b_il (x := 2) C 1 rfl rfl dX9_init_56 ?_
  refine c_new (ci := 7) C (dfs tyX7 9) uX7 tyX7_ok k_153 k_154 k_94 rfl (dfs_ok _ _) (by rw [hc]; exact Nat.le_of_ble_eq_true rfl) (by rw [hs]; exact Nat.le_of_ble_eq_true rfl) dX9_init_57 (fun q7 => ?_)
  refine b_dup C rfl dX9_init_60 ?_
  refine c_cN C rfl (by omega) (i_X7 (xl X) E (d - 1) (by omega) q7) wb_X7_init rfl k_156 (List.mem_of_getElem? (i := 1) rfl) (Nat.le_of_ble_eq_true rfl) (by rw [hc]; exact Nat.le_of_ble_eq_true rfl) (by rw [hs]; exact Nat.le_of_ble_eq_true rfl) dX9_init_61 (fun a7 ha7 => ?_)
  subst ha7
  refine b_aast (q0 := 15) (qk := 28) (vs := [.ref (a7 1), .ref (a7 2), .ref (a7 3), .ref (a7 4), .ref (a7 5), .int 0, .int 0, .int 0, .int 0]) C rfl rfl (ib_in rfl) dX9_init_64 ?_
  refine b_sh (ws' := (h0, .inr (9, ((((dfs tyX9 11).set 0 (.ref (a1 0))).set 1 (.ref (a2 0))).set 2 (.ref (a3 0))).set 3 (.ref q4))) :: (((((((([] : va_W) ++ bX3 E a1) ++ bX7 E a2) ++ bX7 E a3) ++ [(q4, .inl (cA E 24, 3, .inr (.inr (.inr (.inr (va_up (va_up (va_up (fun _ => none) (0 : Int32).toNatClampNeg (some (a5 0))) (1 : Int32).toNatClampNeg (some (a6 0))) (2 : Int32).toNatClampNeg (some (a7 0))))))))]) ++ bX7 E a5) ++ bX7 E a6) ++ bX7 E a7)) rfl ?_
  refine c_ii (v := 3) (i := 1) C (by decide) rfl (fun j hj w hw => by cases hj; simp at hw; subst hw; intro z; cases z) dX9_init_65 ?_
  refine b_goto (tgt := 47) C dX9_init_68 (by decide) ?_
  refine b_il (x := 3) C 1 rfl rfl dX9_init_47 ?_
  refine b_iconst (v := 3) C (by decide) dX9_init_48 ?_
  refine b_icge (tgt := 71) C dX9_init_49 (by decide) (fun _ => ?_) (fun hh => absurd (by decide) hh)
  refine b_al C 0 rfl rfl dX9_init_71 ?_
  refine b_iconst (v := 3) C (by decide) dX9_init_72 ?_
  refine c_newa (atype := .boolean) (ty := .boolean) 2 C (3, .inl (fun _ => 0)) k_237 rfl rfl (fun _ => rfl) (by decide) (by decide) (Nat.le_of_ble_eq_true rfl) (by rw [hc]; exact Nat.le_of_ble_eq_true rfl) (by rw [hs]; exact Nat.le_of_ble_eq_true rfl) dX9_init_73 (fun q8 => ?_)
  refine c_putF (T := TX9) (k := 4) (ty := tyX9 4) C hm rfl uX9 tyX9_ok nmX9 (by decide) k_459 rfl rfl (by decide +kernel) rfl rfl hL dX9_init_75 (fun hL => ?_)
  refine b_al C 0 rfl rfl dX9_init_78 ?_
  refine c_new (ci := 4) C (dfs tyX4 5) uX4 tyX4_ok k_210 k_211 k_95 rfl (dfs_ok _ _) (by rw [hc]; exact Nat.le_of_ble_eq_true rfl) (by rw [hs]; exact Nat.le_of_ble_eq_true rfl) dX9_init_79 (fun q9 => ?_)
  refine b_dup C rfl dX9_init_82 ?_
  refine c_cN C rfl (by omega) (i_X4 (xl X) E (d - 1) (by omega) q9) wb_X4_init rfl k_213 (List.mem_of_getElem? (i := 2) rfl) (Nat.le_of_ble_eq_true rfl) (by rw [hc]; exact Nat.le_of_ble_eq_true rfl) (by rw [hs]; exact Nat.le_of_ble_eq_true rfl) dX9_init_83 (fun a9 ha9 => ?_)
  subst ha9
  refine c_putF (T := TX9) (k := 5) (ty := tyX9 5) C hm rfl uX9 tyX9_ok nmX9 (by decide) k_460 rfl rfl (by decide +kernel) rfl rfl hL dX9_init_86 (fun hL => ?_)
  refine b_al C 0 rfl rfl dX9_init_89 ?_
  refine c_new (ci := 8) C (dfs tyX8 3) uX8 tyX8_ok k_238 k_239 k_96 rfl (dfs_ok _ _) (by rw [hc]; exact Nat.le_of_ble_eq_true rfl) (by rw [hs]; exact Nat.le_of_ble_eq_true rfl) dX9_init_90 (fun q10 => ?_)
  refine b_dup C rfl dX9_init_93 ?_
  refine c_cN C rfl (by omega) (i_X8 (xl X) E (d - 1) (by omega) q10) wb_X8_init rfl k_241 (List.mem_of_getElem? (i := 3) rfl) (Nat.le_of_ble_eq_true rfl) (by rw [hc]; exact Nat.le_of_ble_eq_true rfl) (by rw [hs]; exact Nat.le_of_ble_eq_true rfl) dX9_init_94 (fun a10 ha10 => ?_)
  subst ha10
  refine c_putF (T := TX9) (k := 6) (ty := tyX9 6) C hm rfl uX9 tyX9_ok nmX9 (by decide) k_461 rfl rfl (by decide +kernel) rfl rfl hL dX9_init_97 (fun hL => ?_)
  refine b_al C 0 rfl rfl dX9_init_100 ?_
  refine c_new (ci := 1) C (dfs tyX1 9) uX1 tyX1_ok k_258 k_259 k_97 rfl (dfs_ok _ _) (by rw [hc]; exact Nat.le_of_ble_eq_true rfl) (by rw [hs]; exact Nat.le_of_ble_eq_true rfl) dX9_init_101 (fun q11 => ?_)
  refine b_dup C rfl dX9_init_104 ?_
  refine c_cN C rfl (by omega) (i_X1 (xl X) E (d - 1) (by omega) q11) wb_X1_init rfl k_261 (List.mem_of_getElem? (i := 4) rfl) (Nat.le_of_ble_eq_true rfl) (by rw [hc]; exact Nat.le_of_ble_eq_true rfl) (by rw [hs]; exact Nat.le_of_ble_eq_true rfl) dX9_init_105 (fun a11 ha11 => ?_)
  subst ha11
  refine c_putF (T := TX9) (k := 7) (ty := tyX9 7) C hm rfl uX9 tyX9_ok nmX9 (by decide) k_462 rfl rfl (by decide +kernel) rfl rfl hL dX9_init_108 (fun hL => ?_)
  refine b_al C 0 rfl rfl dX9_init_111 ?_
  refine c_new (ci := 1) C (dfs tyX1 9) uX1 tyX1_ok k_258 k_259 k_97 rfl (dfs_ok _ _) (by rw [hc]; exact Nat.le_of_ble_eq_true rfl) (by rw [hs]; exact Nat.le_of_ble_eq_true rfl) dX9_init_112 (fun q12 => ?_)
  refine b_dup C rfl dX9_init_115 ?_
  refine c_cN C rfl (by omega) (i_X1 (xl X) E (d - 1) (by omega) q12) wb_X1_init rfl k_261 (List.mem_of_getElem? (i := 4) rfl) (Nat.le_of_ble_eq_true rfl) (by rw [hc]; exact Nat.le_of_ble_eq_true rfl) (by rw [hs]; exact Nat.le_of_ble_eq_true rfl) dX9_init_116 (fun a12 ha12 => ?_)
  subst ha12
  refine c_putF (T := TX9) (k := 8) (ty := tyX9 8) C hm rfl uX9 tyX9_ok nmX9 (by decide) k_463 rfl rfl (by decide +kernel) rfl rfl hL dX9_init_119 (fun hL => ?_)
  refine b_al C 0 rfl rfl dX9_init_122 ?_
  refine b_bipush (v := 30) C (by decide) dX9_init_123 ?_
  refine c_newa (atype := .int) (ty := .int) 0 C (30, .inl (fun _ => 0)) k_208 rfl rfl (fun _ => rfl) (by decide) (by decide) (Nat.le_of_ble_eq_true rfl) (by rw [hc]; exact Nat.le_of_ble_eq_true rfl) (by rw [hs]; exact Nat.le_of_ble_eq_true rfl) dX9_init_125 (fun q13 => ?_)
  refine c_putF (T := TX9) (k := 9) (ty := tyX9 9) C hm rfl uX9 tyX9_ok nmX9 (by decide) k_464 rfl rfl (by decide +kernel) rfl rfl hL dX9_init_127 (fun hL => ?_)
  refine b_al C 0 rfl rfl dX9_init_130 ?_
  refine c_new (ci := 5) C (dfs tyX5 3) uX5 tyX5_ok k_434 k_435 k_101 rfl (dfs_ok _ _) (by rw [hc]; exact Nat.le_of_ble_eq_true rfl) (by rw [hs]; exact Nat.le_of_ble_eq_true rfl) dX9_init_131 (fun q14 => ?_)
  refine b_dup C rfl dX9_init_134 ?_
  refine c_cI C rfl (by omega) (i_X5 (xl X) E (d - 1) (by omega) q14) wb_X5_init rfl k_437 k_436 (Nat.le_of_ble_eq_true rfl) (by rw [hc]; exact Nat.le_of_ble_eq_true rfl) (by rw [hs]; exact Nat.le_of_ble_eq_true rfl) dX9_init_135 (fun a14 ha14 => ?_)
  subst ha14
  refine c_putF (T := TX9) (k := 10) (ty := tyX9 10) C hm rfl uX9 tyX9_ok nmX9 (by decide) k_465 rfl rfl (by decide +kernel) rfl rfl hL dX9_init_138 (fun hL => ?_)
  exact b_ret (fun i => if i < 1 then h0 else if i < 3 then a1 (i - 1) else if i < 9 then a2 (i - 3) else if i < 15 then a3 (i - 9) else if i < 16 then q4 else if i < 22 then a5 (i - 16) else if i < 28 then a6 (i - 22) else if i < 34 then a7 (i - 28) else if i < 35 then q8 else if i < 39 then a9 (i - 35) else if i < 41 then a10 (i - 39) else if i < 58 then a11 (i - 41) else if i < 75 then a12 (i - 58) else if i < 76 then q13 else a14 (i - 76)) C R rfl rfl dX9_init_141
