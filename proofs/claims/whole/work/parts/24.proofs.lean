set_option maxRecDepth 4000 in
theorem tX9_leastSpan {l : Launch} {E : En} {A : Nat → Prop} {d : Nat} {r : Int32} {M M' : Mem} {o : Nat} {x1 : Int32} (hE : Okk E A) (hd : 0 ≤ d) (ho : kd o = (9, 0)) (h : fX9_leastSpan o x1 M = some (r, M')) : Ct l E A d yX9_leastSpan cX9_leastSpan 2 (some .int) [.ref (ad E o), .int x1] M (some (.int r)) M' := by
  refine Ct.mk (ls := [some (.ref (ad E o)), some (.int x1)]) hE (by decide +kernel) rfl (Nat.le_of_ble_eq_true rfl) (fun X hXl hXA C R => ?_)
  subst hXl; subst hXA
  unfold fX9_leastSpan at h
  refine s_aload0 C dX9_leastSpan_0 ?_
  refine gX9_23 C ho dX9_leastSpan_1 ?_
  refine gX9_429 C (qX9_told ho) dX9_leastSpan_4 ?_
  refine s_iload1 C dX9_leastSpan_7 ?_
  refine s_iconst (v := 1) C (by decide) dX9_leastSpan_8 ?_
  refine s_isub C dX9_leastSpan_9 ?_
  refine s_iald C (qX7_spans (qX9_told ho)) h dX9_leastSpan_10 (fun h => ?_)
  refine s_iconst (v := 1) C (by decide) dX9_leastSpan_11 ?_
  refine s_iadd C dX9_leastSpan_12 ?_
  exact s_iret C R h dX9_leastSpan_13
set_option maxRecDepth 4000 in
theorem tX9_mostSpan {l : Launch} {E : En} {A : Nat → Prop} {d : Nat} {r : Int32} {M M' : Mem} {o : Nat} {x1 : Int32} (hE : Okk E A) (hd : 0 ≤ d) (ho : kd o = (9, 0)) (h : fX9_mostSpan o x1 M = some (r, M')) : Ct l E A d yX9_mostSpan cX9_mostSpan 2 (some .int) [.ref (ad E o), .int x1] M (some (.int r)) M' := by
  refine Ct.mk (ls := [some (.ref (ad E o)), some (.int x1)]) hE (by decide +kernel) rfl (Nat.le_of_ble_eq_true rfl) (fun X hXl hXA C R => ?_)
  subst hXl; subst hXA
  unfold fX9_mostSpan at h
  refine s_iload1 C dX9_mostSpan_0 ?_
  refine s_aload0 C dX9_mostSpan_1 ?_
  refine gX9_23 C ho dX9_mostSpan_2 ?_
  refine gX9_171 C (qX9_told ho) dX9_mostSpan_5 ?_
  refine s_ic_ge (tgt := 27) C h dX9_mostSpan_8 (by decide) ⟨fun h => ?_, fun h => ?_⟩
  · refine s_bipush (v := 40) C (by decide) dX9_mostSpan_27 ?_
    exact s_iret C R h dX9_mostSpan_29
  · refine s_aload0 C dX9_mostSpan_11 ?_
    refine gX9_23 C ho dX9_mostSpan_12 ?_
    refine gX9_429 C (qX9_told ho) dX9_mostSpan_15 ?_
    refine s_iload1 C dX9_mostSpan_18 ?_
    refine s_iconst (v := 1) C (by decide) dX9_mostSpan_19 ?_
    refine s_iadd C dX9_mostSpan_20 ?_
    refine s_iald C (qX7_spans (qX9_told ho)) h dX9_mostSpan_21 (fun h => ?_)
    refine s_iconst (v := 1) C (by decide) dX9_mostSpan_22 ?_
    refine s_isub C dX9_mostSpan_23 ?_
    refine s_goto (tgt := 29) C dX9_mostSpan_24 (by decide) ?_
    exact s_iret C R h dX9_mostSpan_29
set_option maxRecDepth 4000 in
theorem tX9_setRivalSpanned {l : Launch} {E : En} {A : Nat → Prop} {d : Nat} {M M' : Mem} {o : Nat} {x1 : Int32} {x2 : Int32} (hE : Okk E A) (hd : 4 ≤ d) (ho : kd o = (9, 0)) (h : fX9_setRivalSpanned o x1 x2 M = some M') : Ct l E A d yX9_setRivalSpanned cX9_setRivalSpanned 3 none [.ref (ad E o), .int x1, .int x2] M none M' := by
  refine Ct.mk (ls := [some (.ref (ad E o)), some (.int x1), some (.int x2)]) hE (by decide +kernel) rfl (Nat.le_of_ble_eq_true rfl) (fun X hXl hXA C R => ?_)
  subst hXl; subst hXA
  unfold fX9_setRivalSpanned at h
  refine s_aload0 C dX9_setRivalSpanned_0 ?_
  refine gX9_55 C ho dX9_setRivalSpanned_1 ?_
  refine s_aload0 C dX9_setRivalSpanned_4 ?_
  refine gX9_23 C ho dX9_setRivalSpanned_5 ?_
  obtain ⟨M1, hq, h⟩ := bV_e h
  refine s_callV (T := TX1) (As := [.ref (ad E (o + 9))]) (v := none) C rfl (qX9_rival ho) (by decide) rfl (by omega) wX9_350 rfl (Nat.le_of_ble_eq_true rfl) dX9_setRivalSpanned_8 (tX1_setAs C.2.2.2.2.2.2.1 (by omega) (qX9_rival ho) (qX9_told ho) hq) ?_
  refine s_aload0 C dX9_setRivalSpanned_11 ?_
  refine gX9_55 C ho dX9_setRivalSpanned_12 ?_
  refine gX9_197 C (qX9_rival ho) dX9_setRivalSpanned_15 ?_
  refine gX9_426 C (qX1_tables (qX9_rival ho)) dX9_setRivalSpanned_18 ?_
  refine s_iload1 C dX9_setRivalSpanned_21 ?_
  refine s_iload2 C dX9_setRivalSpanned_22 ?_
  refine s_iast C (qX6_spans (qX1_tables (qX9_rival ho))) h dX9_setRivalSpanned_23 (fun h => ?_)
  exact s_vret C R h dX9_setRivalSpanned_24
set_option maxRecDepth 4000 in
theorem tX9_spanned {l : Launch} {E : En} {A : Nat → Prop} {d : Nat} {r : Int32} {M M' : Mem} {o : Nat} {x1 : Int32} {x2 : Int32} (hE : Okk E A) (hd : 6 ≤ d) (ho : kd o = (9, 0)) (h : fX9_spanned o x1 x2 M = some (r, M')) : Ct l E A d yX9_spanned cX9_spanned 3 (some .int) [.ref (ad E o), .int x1, .int x2] M (some (.int r)) M' := by
  refine Ct.mk (ls := [some (.ref (ad E o)), some (.int x1), some (.int x2)]) hE (by decide +kernel) rfl (Nat.le_of_ble_eq_true rfl) (fun X hXl hXA C R => ?_)
  subst hXl; subst hXA
  unfold fX9_spanned at h
  refine s_aload0 C dX9_spanned_0 ?_
  refine s_iload1 C dX9_spanned_1 ?_
  obtain ⟨r2, M1, hq, h⟩ := bI_e h
  refine s_callV (T := TX9) (As := [.int x1]) (v := some (.int r2)) C rfl ho (by decide) rfl (by omega) wX9_194 rfl (Nat.le_of_ble_eq_true rfl) dX9_spanned_2 (tX9_isTable C.2.2.2.2.2.2.1 (by omega) ho hq) ?_
  refine s_if_eq (tgt := 28) C h dX9_spanned_5 (by decide) ⟨fun h => ?_, fun h => ?_⟩
  · refine s_bipush (v := -2) C (by decide) dX9_spanned_28 ?_
    exact s_iret C R h dX9_spanned_30
  · refine s_iload2 C dX9_spanned_8 ?_
    refine s_i2l C dX9_spanned_9 ?_
    refine s_aload0 C dX9_spanned_10 ?_
    refine s_iload1 C dX9_spanned_11 ?_
    obtain ⟨r4, M3, hq, h⟩ := bI_e h
    refine s_callV (T := TX9) (As := [.int x1]) (v := some (.int r4)) C rfl ho (by decide) rfl (by omega) wX9_316 rfl (Nat.le_of_ble_eq_true rfl) dX9_spanned_12 (tX9_leastSpan C.2.2.2.2.2.2.1 (by omega) ho hq) ?_
    refine s_i2l C dX9_spanned_15 ?_
    refine s_aload0 C dX9_spanned_16 ?_
    refine s_iload1 C dX9_spanned_17 ?_
    obtain ⟨r6, M5, hq, h⟩ := bI_e h
    refine s_callV (T := TX9) (As := [.int x1]) (v := some (.int r6)) C rfl ho (by decide) rfl (by omega) wX9_319 rfl (Nat.le_of_ble_eq_true rfl) dX9_spanned_18 (tX9_mostSpan C.2.2.2.2.2.2.1 (by omega) ho hq) ?_
    refine s_i2l C dX9_spanned_21 ?_
    obtain ⟨r8, M7, hq, h⟩ := bI_e h
    refine s_callS (As := [.long (x2).toInt64, .long (r4).toInt64, .long (r6).toInt64]) (v := some (.int r8)) C rfl (by omega) wX9_77 rfl (Nat.le_of_ble_eq_true rfl) dX9_spanned_22 (tX9_within C.2.2.2.2.2.2.1 (by omega)  hq) ?_
    refine s_if_ne (tgt := 31) C h dX9_spanned_25 (by decide) ⟨fun h => ?_, fun h => ?_⟩
    · refine s_aload0 C dX9_spanned_31 ?_
      refine s_iload1 C dX9_spanned_32 ?_
      refine s_iload2 C dX9_spanned_33 ?_
      obtain ⟨M9, hq, h⟩ := bV_e h
      refine s_callV (T := TX9) (As := [.int x1, .int x2]) (v := none) C rfl ho (by decide) rfl (by omega) wX9_322 rfl (Nat.le_of_ble_eq_true rfl) dX9_spanned_34 (tX9_setRivalSpanned C.2.2.2.2.2.2.1 (by omega) ho hq) ?_
      refine s_aload0 C dX9_spanned_37 ?_
      obtain ⟨r11, M10, hq, h⟩ := bI_e h
      refine s_callV (T := TX9) (As := []) (v := some (.int r11)) C rfl ho (by decide) rfl (by omega) wX9_309 rfl (Nat.le_of_ble_eq_true rfl) dX9_spanned_38 (tX9_rivalWrongs C.2.2.2.2.2.2.1 (by omega) ho hq) ?_
      exact s_iret C R h dX9_spanned_41
    · refine s_bipush (v := -2) C (by decide) dX9_spanned_28 ?_
      exact s_iret C R h dX9_spanned_30
set_option maxRecDepth 4000 in
theorem bX9_span_59 {E : En} {X : Xc} {d : Nat} {r : Int32} {M M' : Mem} {o : Nat} {x1 : Int32} {x2 : Int32} {x3 : Int32} {x4 : Int32} (C : Cx E X d cX9_span RX9 6) (R : Rt E X (some .int) (some (.int r)) M') (hd : 6 ≤ d) {k24 : Nat → Int32 → Int32 → Int32 → Int32 → Mem → Option (Int32 × Mem)} (hk24 : ∀ (o : Nat) (x1 : Int32) (x2 : Int32) (x3 : Int32) (x4 : Int32) (M : Mem) (_ : kd o = (9, 0)), k24 o x1 x2 x3 x4 M = some (r, M') → At E X 24 [some (.ref (ad E o)), some (.int x1), some (.int x2), some (.int x3), some (.int x4), none] [] M) (ho : kd o = (9, 0)) (h : fX9_span_59 k24 o x1 x2 x3 x4 M = some (r, M')) : At E X 59 [some (.ref (ad E o)), some (.int x1), some (.int x2), some (.int x3), some (.int x4), none] [] M := by
  unfold fX9_span_59 at h
  refine s_iinc4 (v := 1) C rfl dX9_span_59 (by decide) ?_
  refine s_goto (tgt := 24) C dX9_span_62 (by decide) ?_
  exact hk24 _ _ _ _ _ _ ho h
set_option maxRecDepth 4000 in
theorem bX9_span_24 {E : En} {X : Xc} {d : Nat} {r : Int32} {M' : Mem} (C : Cx E X d cX9_span RX9 6) (R : Rt E X (some .int) (some (.int r)) M') (hd : 6 ≤ d)   : ∀ (n : Nat) (o : Nat) (x1 : Int32) (x2 : Int32) (x3 : Int32) (x4 : Int32) (M : Mem) (_ : kd o = (9, 0)), fX9_span_24  n o x1 x2 x3 x4 M = some (r, M') → At E X 24 [some (.ref (ad E o)), some (.int x1), some (.int x2), some (.int x3), some (.int x4), none] [] M := by
  intro n
  induction n with
  | zero => intro o x1 x2 x3 x4 M ho h; rw [fX9_span_24] at h; cases h
  | succ n ih =>
    intro o x1 x2 x3 x4 M ho h
    rw [fX9_span_24] at h
    refine s_iload4 C dX9_span_24 ?_
    refine s_aload0 C dX9_span_26 ?_
    refine s_iload1 C dX9_span_27 ?_
    obtain ⟨r2, M1, hq, h⟩ := bI_e h
    refine s_callV (T := TX9) (As := [.int x1]) (v := some (.int r2)) C rfl ho (by decide) rfl (by omega) wX9_319 rfl (Nat.le_of_ble_eq_true rfl) dX9_span_28 (tX9_mostSpan C.2.2.2.2.2.2.1 (by omega) ho hq) ?_
    refine s_ic_gt (tgt := 65) C h dX9_span_31 (by decide) ⟨fun h => ?_, fun h => ?_⟩
    · refine s_iload2 C dX9_span_65 ?_
      exact s_iret C R h dX9_span_66
    · refine s_aload0 C dX9_span_34 ?_
      refine s_iload1 C dX9_span_35 ?_
      refine s_iload4 C dX9_span_36 ?_
      obtain ⟨M3, hq, h⟩ := bV_e h
      refine s_callV (T := TX9) (As := [.int x1, .int x4]) (v := none) C rfl ho (by decide) rfl (by omega) wX9_322 rfl (Nat.le_of_ble_eq_true rfl) dX9_span_38 (tX9_setRivalSpanned C.2.2.2.2.2.2.1 (by omega) ho hq) ?_
      refine s_aload0 C dX9_span_41 ?_
      obtain ⟨r5, M4, hq, h⟩ := bI_e h
      refine s_callV (T := TX9) (As := []) (v := some (.int r5)) C rfl ho (by decide) rfl (by omega) wX9_309 rfl (Nat.le_of_ble_eq_true rfl) dX9_span_42 (tX9_rivalWrongs C.2.2.2.2.2.2.1 (by omega) ho hq) ?_
      refine s_istore5 C rfl dX9_span_45 ?_
      refine s_iload5 C dX9_span_47 ?_
      refine s_iload3 C dX9_span_49 ?_
      refine s_ic_ge (tgt := 59) C h dX9_span_50 (by decide) ⟨fun h => ?_, fun h => ?_⟩
      · refine s_fg 5 ?_
        exact bX9_span_59 C R hd (ih) ho h
      · refine s_iload5 C dX9_span_53 ?_
        refine s_istore3 C rfl dX9_span_55 ?_
        refine s_iload4 C dX9_span_56 ?_
        refine s_istore2 C rfl dX9_span_58 ?_
        refine s_fg 5 ?_
        exact bX9_span_59 C R hd (ih) ho h
set_option maxRecDepth 4000 in
theorem tX9_span {l : Launch} {E : En} {A : Nat → Prop} {d : Nat} {r : Int32} {M M' : Mem} {o : Nat} {x1 : Int32} (hE : Okk E A) (hd : 6 ≤ d) (ho : kd o = (9, 0)) (h : fX9_span o x1 M = some (r, M')) : Ct l E A d yX9_span cX9_span 6 (some .int) [.ref (ad E o), .int x1] M (some (.int r)) M' := by
  refine Ct.mk (ls := [some (.ref (ad E o)), some (.int x1), none, none, none, none]) hE (by decide +kernel) rfl (Nat.le_of_ble_eq_true rfl) (fun X hXl hXA C R => ?_)
  subst hXl; subst hXA
  unfold fX9_span at h
  refine s_aload0 C dX9_span_0 ?_
  refine s_iload1 C dX9_span_1 ?_
  obtain ⟨r2, M1, hq, h⟩ := bI_e h
  refine s_callV (T := TX9) (As := [.int x1]) (v := some (.int r2)) C rfl ho (by decide) rfl (by omega) wX9_194 rfl (Nat.le_of_ble_eq_true rfl) dX9_span_2 (tX9_isTable C.2.2.2.2.2.2.1 (by omega) ho hq) ?_
  refine s_if_ne (tgt := 11) C h dX9_span_5 (by decide) ⟨fun h => ?_, fun h => ?_⟩
  · refine s_iconst (v := -1) C (by decide) dX9_span_11 ?_
    refine s_istore2 C rfl dX9_span_12 ?_
    refine s_sipush (v := 241) C (by decide) dX9_span_13 ?_
    refine s_istore3 C rfl dX9_span_16 ?_
    refine s_aload0 C dX9_span_17 ?_
    refine s_iload1 C dX9_span_18 ?_
    obtain ⟨r4, M3, hq, h⟩ := bI_e h
    refine s_callV (T := TX9) (As := [.int x1]) (v := some (.int r4)) C rfl ho (by decide) rfl (by omega) wX9_316 rfl (Nat.le_of_ble_eq_true rfl) dX9_span_19 (tX9_leastSpan C.2.2.2.2.2.2.1 (by omega) ho hq) ?_
    refine s_istore4 C rfl dX9_span_22 ?_
    exact bX9_span_24 C R hd  LF _ _ _ _ _ _ ho h
  · refine s_bipush (v := -2) C (by decide) dX9_span_8 ?_
    exact s_iret C R h dX9_span_10
set_option maxRecDepth 4000 in
theorem tX9_isPattern {l : Launch} {E : En} {A : Nat → Prop} {d : Nat} {r : Int32} {M M' : Mem} {o : Nat} {x1 : Int32} {x2 : Int32} {x3 : Int32} (hE : Okk E A) (hd : 2 ≤ d) (ho : kd o = (9, 0)) (h : fX9_isPattern o x1 x2 x3 M = some (r, M')) : Ct l E A d yX9_isPattern cX9_isPattern 4 (some .boolean) [.ref (ad E o), .int x1, .int x2, .int x3] M (some (.int r)) M' := by
  refine Ct.mk (ls := [some (.ref (ad E o)), some (.int x1), some (.int x2), some (.int x3)]) hE (by decide +kernel) rfl (Nat.le_of_ble_eq_true rfl) (fun X hXl hXA C R => ?_)
  subst hXl; subst hXA
  unfold fX9_isPattern at h
  refine s_aload0 C dX9_isPattern_0 ?_
  obtain ⟨r2, M1, hq, h⟩ := bI_e h
  refine s_callV (T := TX9) (As := []) (v := some (.int r2)) C rfl ho (by decide) rfl (by omega) wX9_113 rfl (Nat.le_of_ble_eq_true rfl) dX9_isPattern_1 (tX9_isTold C.2.2.2.2.2.2.1 (by omega) ho hq) ?_
  refine s_if_eq (tgt := 44) C h dX9_isPattern_4 (by decide) ⟨fun h => ?_, fun h => ?_⟩
  · refine s_iconst (v := 0) C (by decide) dX9_isPattern_44 ?_
    exact s_zret C R h rfl dX9_isPattern_45
  · refine s_iload1 C dX9_isPattern_7 ?_
    obtain ⟨r4, M3, hq, h⟩ := bI_e h
    refine s_callS (As := [.int x1]) (v := some (.int r4)) C rfl (by omega) wX9_150 rfl (Nat.le_of_ble_eq_true rfl) dX9_isPattern_8 (tX9_isAddress C.2.2.2.2.2.2.1 (by omega)  hq) ?_
    refine s_if_eq (tgt := 44) C h dX9_isPattern_11 (by decide) ⟨fun h => ?_, fun h => ?_⟩
    · refine s_iconst (v := 0) C (by decide) dX9_isPattern_44 ?_
      exact s_zret C R h rfl dX9_isPattern_45
    · refine s_iload3 C dX9_isPattern_14 ?_
      refine s_i2l C dX9_isPattern_15 ?_
      refine s_lconst (v := 1) C (by decide) dX9_isPattern_16 ?_
      refine s_ldc2 (v := 16) C k_1130 dX9_isPattern_17 ?_
      obtain ⟨r6, M5, hq, h⟩ := bI_e h
      refine s_callS (As := [.long (x3).toInt64, .long (1 : Int64), .long (16 : Int64)]) (v := some (.int r6)) C rfl (by omega) wX9_77 rfl (Nat.le_of_ble_eq_true rfl) dX9_isPattern_20 (tX9_within C.2.2.2.2.2.2.1 (by omega)  hq) ?_
      refine s_if_eq (tgt := 44) C h dX9_isPattern_23 (by decide) ⟨fun h => ?_, fun h => ?_⟩
      · refine s_iconst (v := 0) C (by decide) dX9_isPattern_44 ?_
        exact s_zret C R h rfl dX9_isPattern_45
      · refine s_iload2 C dX9_isPattern_26 ?_
        refine s_i2l C dX9_isPattern_27 ?_
        refine s_lconst (v := 0) C (by decide) dX9_isPattern_28 ?_
        refine s_iload3 C dX9_isPattern_29 ?_
        obtain ⟨r8, M7, hq, h⟩ := bI_e h
        refine s_callS (As := [.int x3]) (v := some (.int r8)) C rfl (by omega) wX9_183 rfl (Nat.le_of_ble_eq_true rfl) dX9_isPattern_30 (tX9_lowest C.2.2.2.2.2.2.1 (by omega)  hq) ?_
        refine s_i2l C dX9_isPattern_33 ?_
        obtain ⟨r10, M9, hq, h⟩ := bI_e h
        refine s_callS (As := [.long (x2).toInt64, .long (0 : Int64), .long (r8).toInt64]) (v := some (.int r10)) C rfl (by omega) wX9_77 rfl (Nat.le_of_ble_eq_true rfl) dX9_isPattern_34 (tX9_within C.2.2.2.2.2.2.1 (by omega)  hq) ?_
        refine s_if_eq (tgt := 44) C h dX9_isPattern_37 (by decide) ⟨fun h => ?_, fun h => ?_⟩
        · refine s_iconst (v := 0) C (by decide) dX9_isPattern_44 ?_
          exact s_zret C R h rfl dX9_isPattern_45
        · refine s_iconst (v := 1) C (by decide) dX9_isPattern_40 ?_
          refine s_goto (tgt := 45) C dX9_isPattern_41 (by decide) ?_
          exact s_zret C R h rfl dX9_isPattern_45
set_option maxRecDepth 4000 in
theorem bX9_playRounds_70 {E : En} {X : Xc} {d : Nat} {M M' : Mem} {o : Nat} {x1 : Int32} {x2 : Int32} {x3 : Int32} {x4 : Int32} {x5 : Int32} {x6 : Int32} {x7 : Int32} (C : Cx E X d cX9_playRounds RX9 8) (R : Rt E X none none M') (hd : 5 ≤ d) {k32 : Nat → Int32 → Int32 → Int32 → Int32 → Int32 → Int32 → Mem → Option (Mem)} (hk32 : ∀ (o : Nat) (x1 : Int32) (x2 : Int32) (x3 : Int32) (x4 : Int32) (x5 : Int32) (x6 : Int32) (M : Mem) (_ : kd o = (9, 0)), k32 o x1 x2 x3 x4 x5 x6 M = some M' → At E X 32 [some (.ref (ad E o)), some (.int x1), some (.int x2), some (.int x3), some (.int x4), some (.int x5), some (.int x6), none] [] M) (ho : kd o = (9, 0)) (h : fX9_playRounds_70 k32 o x1 x2 x3 x4 x5 x6 x7 M = some M') : At E X 70 [some (.ref (ad E o)), some (.int x1), some (.int x2), some (.int x3), some (.int x4), some (.int x5), some (.int x6), some (.int x7)] [] M := by
  unfold fX9_playRounds_70 at h
  refine s_aload0 C dX9_playRounds_70 ?_
  refine gX9_55 C ho dX9_playRounds_71 ?_
  refine s_iload7 C dX9_playRounds_74 ?_
  obtain ⟨M1, hq, h⟩ := bV_e h
  refine s_callV (T := TX1) (As := [.int x7]) (v := none) C rfl (qX9_rival ho) (by decide) rfl (by omega) wX9_361 rfl (Nat.le_of_ble_eq_true rfl) dX9_playRounds_76 (tX1_learn C.2.2.2.2.2.2.1 (by omega) (qX9_rival ho) hq) ?_
  refine s_iinc6 (v := 1) C rfl dX9_playRounds_79 (by decide) ?_
  refine s_goto (tgt := 32) C dX9_playRounds_82 (by decide) ?_
  refine s_fg 7 ?_
  exact hk32 _ _ _ _ _ _ _ _ ho h
set_option maxRecDepth 4000 in
theorem bX9_playRounds_32 {E : En} {X : Xc} {d : Nat} {M' : Mem} (C : Cx E X d cX9_playRounds RX9 8) (R : Rt E X none none M') (hd : 5 ≤ d) {k14 : Nat → Int32 → Int32 → Int32 → Int32 → Int32 → Mem → Option (Mem)} (hk14 : ∀ (o : Nat) (x1 : Int32) (x2 : Int32) (x3 : Int32) (x4 : Int32) (x5 : Int32) (M : Mem) (_ : kd o = (9, 0)), k14 o x1 x2 x3 x4 x5 M = some M' → At E X 14 [some (.ref (ad E o)), some (.int x1), some (.int x2), some (.int x3), some (.int x4), some (.int x5), none, none] [] M) : ∀ (n : Nat) (o : Nat) (x1 : Int32) (x2 : Int32) (x3 : Int32) (x4 : Int32) (x5 : Int32) (x6 : Int32) (M : Mem) (_ : kd o = (9, 0)), fX9_playRounds_32 k14 n o x1 x2 x3 x4 x5 x6 M = some M' → At E X 32 [some (.ref (ad E o)), some (.int x1), some (.int x2), some (.int x3), some (.int x4), some (.int x5), some (.int x6), none] [] M := by
  intro n
  induction n with
  | zero => intro o x1 x2 x3 x4 x5 x6 M ho h; rw [fX9_playRounds_32] at h; cases h
  | succ n ih =>
    intro o x1 x2 x3 x4 x5 x6 M ho h
    rw [fX9_playRounds_32] at h
    refine s_iload6 C dX9_playRounds_32 ?_
    refine s_iload3 C dX9_playRounds_34 ?_
    refine s_ic_ge (tgt := 85) C h dX9_playRounds_35 (by decide) ⟨fun h => ?_, fun h => ?_⟩
    · refine s_iinc5 (v := 1) C rfl dX9_playRounds_85 (by decide) ?_
      refine s_goto (tgt := 14) C dX9_playRounds_88 (by decide) ?_
      refine s_fg 6 ?_
      exact hk14 _ _ _ _ _ _ _ ho h
    · refine s_iload2 C dX9_playRounds_38 ?_
      refine s_iload6 C dX9_playRounds_39 ?_
      refine s_ishr C dX9_playRounds_41 ?_
      refine s_iconst (v := 1) C (by decide) dX9_playRounds_42 ?_
      refine s_iand C dX9_playRounds_43 ?_
      refine s_istore7 C rfl dX9_playRounds_44 ?_
      refine s_aload0 C dX9_playRounds_46 ?_
      refine gX9_55 C ho dX9_playRounds_47 ?_
      refine s_iload1 C dX9_playRounds_50 ?_
      obtain ⟨r2, M1, hq, h⟩ := bI_e h
      refine s_callV (T := TX1) (As := [.int x1]) (v := some (.int r2)) C rfl (qX9_rival ho) (by decide) rfl (by omega) wX9_358 rfl (Nat.le_of_ble_eq_true rfl) dX9_playRounds_51 (tX1_ask C.2.2.2.2.2.2.1 (by omega) (qX9_rival ho) hq) ?_
      refine s_iload7 C dX9_playRounds_54 ?_
      refine s_ic_eq (tgt := 70) C h dX9_playRounds_56 (by decide) ⟨fun h => ?_, fun h => ?_⟩
      · exact bX9_playRounds_70 C R hd (ih) ho h
      · refine s_aload0 C dX9_playRounds_59 ?_
        refine gX9_58 C ho dX9_playRounds_60 ?_
        refine s_iload5 C dX9_playRounds_63 ?_
        refine s_dup2 C rfl rfl dX9_playRounds_65 ?_
        refine s_iald C (qX9_roundWrongs ho) h dX9_playRounds_66 (fun h => ?_)
        refine s_iconst (v := 1) C (by decide) dX9_playRounds_67 ?_
        refine s_iadd C dX9_playRounds_68 ?_
        refine s_iast C (qX9_roundWrongs ho) h dX9_playRounds_69 (fun h => ?_)
        exact bX9_playRounds_70 C R hd (ih) ho h
set_option maxRecDepth 4000 in
theorem bX9_playRounds_14 {E : En} {X : Xc} {d : Nat} {M' : Mem} (C : Cx E X d cX9_playRounds RX9 8) (R : Rt E X none none M') (hd : 5 ≤ d)   : ∀ (n : Nat) (o : Nat) (x1 : Int32) (x2 : Int32) (x3 : Int32) (x4 : Int32) (x5 : Int32) (M : Mem) (_ : kd o = (9, 0)), fX9_playRounds_14  n o x1 x2 x3 x4 x5 M = some M' → At E X 14 [some (.ref (ad E o)), some (.int x1), some (.int x2), some (.int x3), some (.int x4), some (.int x5), none, none] [] M := by
  intro n
  induction n with
  | zero => intro o x1 x2 x3 x4 x5 M ho h; rw [fX9_playRounds_14] at h; cases h
  | succ n ih =>
    intro o x1 x2 x3 x4 x5 M ho h
    rw [fX9_playRounds_14] at h
    refine s_iload5 C dX9_playRounds_14 ?_
    refine s_iload4 C dX9_playRounds_16 ?_
    refine s_ic_ge (tgt := 91) C h dX9_playRounds_18 (by decide) ⟨fun h => ?_, fun h => ?_⟩
    · exact s_vret C R h dX9_playRounds_91
    · refine s_aload0 C dX9_playRounds_21 ?_
      refine gX9_58 C ho dX9_playRounds_22 ?_
      refine s_iload5 C dX9_playRounds_25 ?_
      refine s_iconst (v := 0) C (by decide) dX9_playRounds_27 ?_
      refine s_iast C (qX9_roundWrongs ho) h dX9_playRounds_28 (fun h => ?_)
      refine s_iconst (v := 0) C (by decide) dX9_playRounds_29 ?_
      refine s_istore6 C rfl dX9_playRounds_30 ?_
      exact bX9_playRounds_32 C R hd (ih) LF _ _ _ _ _ _ _ _ ho h
set_option maxRecDepth 4000 in
theorem tX9_playRounds {l : Launch} {E : En} {A : Nat → Prop} {d : Nat} {M M' : Mem} {o : Nat} {x1 : Int32} {x2 : Int32} {x3 : Int32} {x4 : Int32} (hE : Okk E A) (hd : 5 ≤ d) (ho : kd o = (9, 0)) (h : fX9_playRounds o x1 x2 x3 x4 M = some M') : Ct l E A d yX9_playRounds cX9_playRounds 8 none [.ref (ad E o), .int x1, .int x2, .int x3, .int x4] M none M' := by
  refine Ct.mk (ls := [some (.ref (ad E o)), some (.int x1), some (.int x2), some (.int x3), some (.int x4), none, none, none]) hE (by decide +kernel) rfl (Nat.le_of_ble_eq_true rfl) (fun X hXl hXA C R => ?_)
  subst hXl; subst hXA
  unfold fX9_playRounds at h
  refine s_aload0 C dX9_playRounds_0 ?_
  refine gX9_55 C ho dX9_playRounds_1 ?_
  refine s_aload0 C dX9_playRounds_4 ?_
  refine gX9_23 C ho dX9_playRounds_5 ?_
  obtain ⟨M1, hq, h⟩ := bV_e h
  refine s_callV (T := TX1) (As := [.ref (ad E (o + 9))]) (v := none) C rfl (qX9_rival ho) (by decide) rfl (by omega) wX9_350 rfl (Nat.le_of_ble_eq_true rfl) dX9_playRounds_8 (tX1_setAs C.2.2.2.2.2.2.1 (by omega) (qX9_rival ho) (qX9_told ho) hq) ?_
  refine s_iconst (v := 0) C (by decide) dX9_playRounds_11 ?_
  refine s_istore5 C rfl dX9_playRounds_12 ?_
  exact bX9_playRounds_14 C R hd  LF _ _ _ _ _ _ _ ho h
set_option maxRecDepth 4000 in
theorem tX9_round {l : Launch} {E : En} {A : Nat → Prop} {d : Nat} {r : Int32} {M M' : Mem} {o : Nat} {x1 : Int32} {x2 : Int32} {x3 : Int32} {x4 : Int32} (hE : Okk E A) (hd : 6 ≤ d) (ho : kd o = (9, 0)) (h : fX9_round o x1 x2 x3 x4 M = some (r, M')) : Ct l E A d yX9_round cX9_round 5 (some .int) [.ref (ad E o), .int x1, .int x2, .int x3, .int x4] M (some (.int r)) M' := by
  refine Ct.mk (ls := [some (.ref (ad E o)), some (.int x1), some (.int x2), some (.int x3), some (.int x4)]) hE (by decide +kernel) rfl (Nat.le_of_ble_eq_true rfl) (fun X hXl hXA C R => ?_)
  subst hXl; subst hXA
  unfold fX9_round at h
  refine s_aload0 C dX9_round_0 ?_
  refine s_iload1 C dX9_round_1 ?_
  refine s_iload2 C dX9_round_2 ?_
  refine s_iload3 C dX9_round_3 ?_
  obtain ⟨r2, M1, hq, h⟩ := bI_e h
  refine s_callV (T := TX9) (As := [.int x1, .int x2, .int x3]) (v := some (.int r2)) C rfl ho (by decide) rfl (by omega) wX9_326 rfl (Nat.le_of_ble_eq_true rfl) dX9_round_4 (tX9_isPattern C.2.2.2.2.2.2.1 (by omega) ho hq) ?_
  refine s_if_eq (tgt := 23) C h dX9_round_7 (by decide) ⟨fun h => ?_, fun h => ?_⟩
  · refine s_bipush (v := -2) C (by decide) dX9_round_23 ?_
    exact s_iret C R h dX9_round_25
  · refine s_iload4 C dX9_round_10 ?_
    refine s_i2l C dX9_round_12 ?_
    refine s_lconst (v := 0) C (by decide) dX9_round_13 ?_
    refine s_ldc2 (v := 29) C k_1131 dX9_round_14 ?_
    obtain ⟨r4, M3, hq, h⟩ := bI_e h
    refine s_callS (As := [.long (x4).toInt64, .long (0 : Int64), .long (29 : Int64)]) (v := some (.int r4)) C rfl (by omega) wX9_77 rfl (Nat.le_of_ble_eq_true rfl) dX9_round_17 (tX9_within C.2.2.2.2.2.2.1 (by omega)  hq) ?_
    refine s_if_ne (tgt := 26) C h dX9_round_20 (by decide) ⟨fun h => ?_, fun h => ?_⟩
    · refine s_aload0 C dX9_round_26 ?_
      refine s_iload1 C dX9_round_27 ?_
      refine s_iload2 C dX9_round_28 ?_
      refine s_iload3 C dX9_round_29 ?_
      refine s_iload4 C dX9_round_30 ?_
      refine s_iconst (v := 1) C (by decide) dX9_round_32 ?_
      refine s_iadd C dX9_round_33 ?_
      obtain ⟨M5, hq, h⟩ := bV_e h
      refine s_callV (T := TX9) (As := [.int x1, .int x2, .int x3, .int (x4 + (1 : Int32))]) (v := none) C rfl ho (by decide) rfl (by omega) wX9_332 rfl (Nat.le_of_ble_eq_true rfl) dX9_round_34 (tX9_playRounds C.2.2.2.2.2.2.1 (by omega) ho hq) ?_
      refine s_aload0 C dX9_round_37 ?_
      refine gX9_58 C ho dX9_round_38 ?_
      refine s_iload4 C dX9_round_41 ?_
      refine s_iald C (qX9_roundWrongs ho) h dX9_round_43 (fun h => ?_)
      exact s_iret C R h dX9_round_44
    · refine s_bipush (v := -2) C (by decide) dX9_round_23 ?_
      exact s_iret C R h dX9_round_25
set_option maxRecDepth 4000 in
theorem bX9_firstRightRound_15 {E : En} {X : Xc} {d : Nat} {r : Int32} {M' : Mem} (C : Cx E X d cX9_firstRightRound RX9 2) (R : Rt E X (some .int) (some (.int r)) M') (hd : 0 ≤ d)   : ∀ (n : Nat) (o : Nat) (x1 : Int32) (M : Mem) (_ : kd o = (9, 0)), fX9_firstRightRound_15  n o x1 M = some (r, M') → At E X 15 [some (.ref (ad E o)), some (.int x1)] [] M := by
  intro n
  induction n with
  | zero => intro o x1 M ho h; rw [fX9_firstRightRound_15] at h; cases h
  | succ n ih =>
    intro o x1 M ho h
    rw [fX9_firstRightRound_15] at h
    refine s_iload1 C dX9_firstRightRound_15 ?_
    refine s_if_le (tgt := 36) C h dX9_firstRightRound_16 (by decide) ⟨fun h => ?_, fun h => ?_⟩
    · refine s_iload1 C dX9_firstRightRound_36 ?_
      exact s_iret C R h dX9_firstRightRound_37
    · refine s_aload0 C dX9_firstRightRound_19 ?_
      refine gX9_58 C ho dX9_firstRightRound_20 ?_
      refine s_iload1 C dX9_firstRightRound_23 ?_
      refine s_iconst (v := 1) C (by decide) dX9_firstRightRound_24 ?_
      refine s_isub C dX9_firstRightRound_25 ?_
      refine s_iald C (qX9_roundWrongs ho) h dX9_firstRightRound_26 (fun h => ?_)
      refine s_if_ne (tgt := 36) C h dX9_firstRightRound_27 (by decide) ⟨fun h => ?_, fun h => ?_⟩
      · refine s_iload1 C dX9_firstRightRound_36 ?_
        exact s_iret C R h dX9_firstRightRound_37
      · refine s_iinc1 (v := -1) C rfl dX9_firstRightRound_30 (by decide) ?_
        refine s_goto (tgt := 15) C dX9_firstRightRound_33 (by decide) ?_
        exact ih _ _ _ ho h
set_option maxRecDepth 4000 in
theorem tX9_firstRightRound {l : Launch} {E : En} {A : Nat → Prop} {d : Nat} {r : Int32} {M M' : Mem} {o : Nat} (hE : Okk E A) (hd : 0 ≤ d) (ho : kd o = (9, 0)) (h : fX9_firstRightRound o M = some (r, M')) : Ct l E A d yX9_firstRightRound cX9_firstRightRound 2 (some .int) [.ref (ad E o)] M (some (.int r)) M' := by
  refine Ct.mk (ls := [some (.ref (ad E o)), none]) hE (by decide +kernel) rfl (Nat.le_of_ble_eq_true rfl) (fun X hXl hXA C R => ?_)
  subst hXl; subst hXA
  unfold fX9_firstRightRound at h
  refine s_aload0 C dX9_firstRightRound_0 ?_
  refine gX9_58 C ho dX9_firstRightRound_1 ?_
  refine s_bipush (v := 29) C (by decide) dX9_firstRightRound_4 ?_
  refine s_iald C (qX9_roundWrongs ho) h dX9_firstRightRound_6 (fun h => ?_)
  refine s_if_le (tgt := 12) C h dX9_firstRightRound_7 (by decide) ⟨fun h => ?_, fun h => ?_⟩
  · refine s_bipush (v := 29) C (by decide) dX9_firstRightRound_12 ?_
    refine s_istore1 C rfl dX9_firstRightRound_14 ?_
    exact bX9_firstRightRound_15 C R hd  LF _ _ _ ho h
  · refine s_iconst (v := -1) C (by decide) dX9_firstRightRound_10 ?_
    exact s_iret C R h dX9_firstRightRound_11
set_option maxRecDepth 4000 in
theorem tX9_learnt {l : Launch} {E : En} {A : Nat → Prop} {d : Nat} {r : Int32} {M M' : Mem} {o : Nat} {x1 : Int32} {x2 : Int32} {x3 : Int32} (hE : Okk E A) (hd : 6 ≤ d) (ho : kd o = (9, 0)) (h : fX9_learnt o x1 x2 x3 M = some (r, M')) : Ct l E A d yX9_learnt cX9_learnt 4 (some .int) [.ref (ad E o), .int x1, .int x2, .int x3] M (some (.int r)) M' := by
  refine Ct.mk (ls := [some (.ref (ad E o)), some (.int x1), some (.int x2), some (.int x3)]) hE (by decide +kernel) rfl (Nat.le_of_ble_eq_true rfl) (fun X hXl hXA C R => ?_)
  subst hXl; subst hXA
  unfold fX9_learnt at h
  refine s_aload0 C dX9_learnt_0 ?_
  refine s_iload1 C dX9_learnt_1 ?_
  refine s_iload2 C dX9_learnt_2 ?_
  refine s_iload3 C dX9_learnt_3 ?_
  obtain ⟨r2, M1, hq, h⟩ := bI_e h
  refine s_callV (T := TX9) (As := [.int x1, .int x2, .int x3]) (v := some (.int r2)) C rfl ho (by decide) rfl (by omega) wX9_326 rfl (Nat.le_of_ble_eq_true rfl) dX9_learnt_4 (tX9_isPattern C.2.2.2.2.2.2.1 (by omega) ho hq) ?_
  refine s_if_ne (tgt := 13) C h dX9_learnt_7 (by decide) ⟨fun h => ?_, fun h => ?_⟩
  · refine s_aload0 C dX9_learnt_13 ?_
    refine s_iload1 C dX9_learnt_14 ?_
    refine s_iload2 C dX9_learnt_15 ?_
    refine s_iload3 C dX9_learnt_16 ?_
    refine s_bipush (v := 30) C (by decide) dX9_learnt_17 ?_
    obtain ⟨M3, hq, h⟩ := bV_e h
    refine s_callV (T := TX9) (As := [.int x1, .int x2, .int x3, .int (30 : Int32)]) (v := none) C rfl ho (by decide) rfl (by omega) wX9_332 rfl (Nat.le_of_ble_eq_true rfl) dX9_learnt_19 (tX9_playRounds C.2.2.2.2.2.2.1 (by omega) ho hq) ?_
    refine s_aload0 C dX9_learnt_22 ?_
    obtain ⟨r5, M4, hq, h⟩ := bI_e h
    refine s_callV (T := TX9) (As := []) (v := some (.int r5)) C rfl ho (by decide) rfl (by omega) wX9_336 rfl (Nat.le_of_ble_eq_true rfl) dX9_learnt_23 (tX9_firstRightRound C.2.2.2.2.2.2.1 (by omega) ho hq) ?_
    exact s_iret C R h dX9_learnt_26
  · refine s_bipush (v := -2) C (by decide) dX9_learnt_10 ?_
    exact s_iret C R h dX9_learnt_12
set_option maxRecDepth 4000 in
theorem bX9_learns_66 {E : En} {X : Xc} {d : Nat} {r : Int32} {M M' : Mem} {o : Nat} {x1 : Int32} {x2 : Int32} {x3 : Int32} {x4 : Int32} (C : Cx E X d cX9_learns RX9 5) (R : Rt E X (some .int) (some (.int r)) M') (hd : 6 ≤ d) {k34 : Nat → Int32 → Int32 → Int32 → Int32 → Mem → Option (Int32 × Mem)} (hk34 : ∀ (o : Nat) (x1 : Int32) (x2 : Int32) (x3 : Int32) (x4 : Int32) (M : Mem) (_ : kd o = (9, 0)), k34 o x1 x2 x3 x4 M = some (r, M') → At E X 34 [some (.ref (ad E o)), some (.int x1), some (.int x2), some (.int x3), some (.int x4)] [] M) (ho : kd o = (9, 0)) (h : fX9_learns_66 k34 o x1 x2 x3 x4 M = some (r, M')) : At E X 66 [some (.ref (ad E o)), some (.int x1), some (.int x2), some (.int x3), some (.int x4)] [] M := by
  unfold fX9_learns_66 at h
  refine s_iinc4 (v := 1) C rfl dX9_learns_66 (by decide) ?_
  refine s_goto (tgt := 34) C dX9_learns_69 (by decide) ?_
  exact hk34 _ _ _ _ _ _ ho h
set_option maxRecDepth 4000 in
theorem bX9_learns_34 {E : En} {X : Xc} {d : Nat} {r : Int32} {M' : Mem} (C : Cx E X d cX9_learns RX9 5) (R : Rt E X (some .int) (some (.int r)) M') (hd : 6 ≤ d)   : ∀ (n : Nat) (o : Nat) (x1 : Int32) (x2 : Int32) (x3 : Int32) (x4 : Int32) (M : Mem) (_ : kd o = (9, 0)), fX9_learns_34  n o x1 x2 x3 x4 M = some (r, M') → At E X 34 [some (.ref (ad E o)), some (.int x1), some (.int x2), some (.int x3), some (.int x4)] [] M := by
  intro n
  induction n with
  | zero => intro o x1 x2 x3 x4 M ho h; rw [fX9_learns_34] at h; cases h
  | succ n ih =>
    intro o x1 x2 x3 x4 M ho h
    rw [fX9_learns_34] at h
    refine s_iload4 C dX9_learns_34 ?_
    refine s_iload2 C dX9_learns_36 ?_
    obtain ⟨r2, M1, hq, h⟩ := bI_e h
    refine s_callS (As := [.int x2]) (v := some (.int r2)) C rfl (by omega) wX9_183 rfl (Nat.le_of_ble_eq_true rfl) dX9_learns_37 (tX9_lowest C.2.2.2.2.2.2.1 (by omega)  hq) ?_
    refine s_ic_gt (tgt := 72) C h dX9_learns_40 (by decide) ⟨fun h => ?_, fun h => ?_⟩
    · refine s_iload3 C dX9_learns_72 ?_
      exact s_iret C R h dX9_learns_73
    · refine s_aload0 C dX9_learns_43 ?_
      refine s_iload1 C dX9_learns_44 ?_
      refine s_iload4 C dX9_learns_45 ?_
      refine s_iload2 C dX9_learns_47 ?_
      refine s_bipush (v := 30) C (by decide) dX9_learns_48 ?_
      obtain ⟨M3, hq, h⟩ := bV_e h
      refine s_callV (T := TX9) (As := [.int x1, .int x4, .int x2, .int (30 : Int32)]) (v := none) C rfl ho (by decide) rfl (by omega) wX9_332 rfl (Nat.le_of_ble_eq_true rfl) dX9_learns_50 (tX9_playRounds C.2.2.2.2.2.2.1 (by omega) ho hq) ?_
      refine s_aload0 C dX9_learns_53 ?_
      refine gX9_58 C ho dX9_learns_54 ?_
      refine s_bipush (v := 29) C (by decide) dX9_learns_57 ?_
      refine s_iald C (qX9_roundWrongs ho) h dX9_learns_59 (fun h => ?_)
      refine s_if_ne (tgt := 66) C h dX9_learns_60 (by decide) ⟨fun h => ?_, fun h => ?_⟩
      · exact bX9_learns_66 C R hd (ih) ho h
      · refine s_iinc3 (v := 1) C rfl dX9_learns_63 (by decide) ?_
        exact bX9_learns_66 C R hd (ih) ho h
set_option maxRecDepth 4000 in
theorem tX9_learns {l : Launch} {E : En} {A : Nat → Prop} {d : Nat} {r : Int32} {M M' : Mem} {o : Nat} {x1 : Int32} {x2 : Int32} (hE : Okk E A) (hd : 6 ≤ d) (ho : kd o = (9, 0)) (h : fX9_learns o x1 x2 M = some (r, M')) : Ct l E A d yX9_learns cX9_learns 5 (some .int) [.ref (ad E o), .int x1, .int x2] M (some (.int r)) M' := by
  refine Ct.mk (ls := [some (.ref (ad E o)), some (.int x1), some (.int x2), none, none]) hE (by decide +kernel) rfl (Nat.le_of_ble_eq_true rfl) (fun X hXl hXA C R => ?_)
  subst hXl; subst hXA
  unfold fX9_learns at h
  refine s_aload0 C dX9_learns_0 ?_
  obtain ⟨r2, M1, hq, h⟩ := bI_e h
  refine s_callV (T := TX9) (As := []) (v := some (.int r2)) C rfl ho (by decide) rfl (by omega) wX9_113 rfl (Nat.le_of_ble_eq_true rfl) dX9_learns_1 (tX9_isTold C.2.2.2.2.2.2.1 (by omega) ho hq) ?_
  refine s_if_eq (tgt := 26) C h dX9_learns_4 (by decide) ⟨fun h => ?_, fun h => ?_⟩
  · refine s_bipush (v := -2) C (by decide) dX9_learns_26 ?_
    exact s_iret C R h dX9_learns_28
  · refine s_iload1 C dX9_learns_7 ?_
    obtain ⟨r4, M3, hq, h⟩ := bI_e h
    refine s_callS (As := [.int x1]) (v := some (.int r4)) C rfl (by omega) wX9_150 rfl (Nat.le_of_ble_eq_true rfl) dX9_learns_8 (tX9_isAddress C.2.2.2.2.2.2.1 (by omega)  hq) ?_
    refine s_if_eq (tgt := 26) C h dX9_learns_11 (by decide) ⟨fun h => ?_, fun h => ?_⟩
    · refine s_bipush (v := -2) C (by decide) dX9_learns_26 ?_
      exact s_iret C R h dX9_learns_28
    · refine s_iload2 C dX9_learns_14 ?_
      refine s_i2l C dX9_learns_15 ?_
      refine s_lconst (v := 1) C (by decide) dX9_learns_16 ?_
      refine s_ldc2 (v := 5) C k_1148 dX9_learns_17 ?_
      obtain ⟨r6, M5, hq, h⟩ := bI_e h
      refine s_callS (As := [.long (x2).toInt64, .long (1 : Int64), .long (5 : Int64)]) (v := some (.int r6)) C rfl (by omega) wX9_77 rfl (Nat.le_of_ble_eq_true rfl) dX9_learns_20 (tX9_within C.2.2.2.2.2.2.1 (by omega)  hq) ?_
      refine s_if_ne (tgt := 29) C h dX9_learns_23 (by decide) ⟨fun h => ?_, fun h => ?_⟩
      · refine s_iconst (v := 0) C (by decide) dX9_learns_29 ?_
        refine s_istore3 C rfl dX9_learns_30 ?_
        refine s_iconst (v := 0) C (by decide) dX9_learns_31 ?_
        refine s_istore4 C rfl dX9_learns_32 ?_
        exact bX9_learns_34 C R hd  LF _ _ _ _ _ _ ho h
      · refine s_bipush (v := -2) C (by decide) dX9_learns_26 ?_
        exact s_iret C R h dX9_learns_28
set_option maxRecDepth 4000 in
theorem tX9_isSlot {l : Launch} {E : En} {A : Nat → Prop} {d : Nat} {r : Int32} {M M' : Mem} {x0 : Int32} (hE : Okk E A) (hd : 1 ≤ d)  (h : fX9_isSlot x0 M = some (r, M')) : Ct l E A d yX9_isSlot cX9_isSlot 1 (some .boolean) [.int x0] M (some (.int r)) M' := by
  refine Ct.mk (ls := [some (.int x0)]) hE (by decide +kernel) rfl (Nat.le_of_ble_eq_true rfl) (fun X hXl hXA C R => ?_)
  subst hXl; subst hXA
  unfold fX9_isSlot at h
  refine s_iload0 C dX9_isSlot_0 ?_
  refine s_i2l C dX9_isSlot_1 ?_
  refine s_lconst (v := 0) C (by decide) dX9_isSlot_2 ?_
  refine s_ldc2 (v := 3) C k_867 dX9_isSlot_3 ?_
  obtain ⟨r2, M1, hq, h⟩ := bI_e h
  refine s_callS (As := [.long (x0).toInt64, .long (0 : Int64), .long (3 : Int64)]) (v := some (.int r2)) C rfl (by omega) wX9_77 rfl (Nat.le_of_ble_eq_true rfl) dX9_isSlot_6 (tX9_within C.2.2.2.2.2.2.1 (by omega)  hq) ?_
  obtain ⟨hb, h⟩ := ck_e h
  exact s_zret C R h (isB_n hb).1 dX9_isSlot_9
set_option maxRecDepth 4000 in
theorem tX5_hasRow {l : Launch} {E : En} {A : Nat → Prop} {d : Nat} {r : Int32} {M M' : Mem} {o : Nat} {x1 : Int32} (hE : Okk E A) (hd : 0 ≤ d) (ho : kd o = (5, 0)) (h : fX5_hasRow o x1 M = some (r, M')) : Ct l E A d yX5_hasRow cX5_hasRow 2 (some .boolean) [.ref (ad E o), .int x1] M (some (.int r)) M' := by
  refine Ct.mk (ls := [some (.ref (ad E o)), some (.int x1)]) hE (by decide +kernel) rfl (Nat.le_of_ble_eq_true rfl) (fun X hXl hXA C R => ?_)
  subst hXl; subst hXA
  unfold fX5_hasRow at h
  refine s_aload0 C dX5_hasRow_0 ?_
  refine gX5_15 C ho dX5_hasRow_1 ?_
  refine s_iload1 C dX5_hasRow_4 ?_
  refine s_iald C (qX5_lengths ho) h dX5_hasRow_5 (fun h => ?_)
  refine s_iconst (v := -1) C (by decide) dX5_hasRow_6 ?_
  refine s_ic_eq (tgt := 14) C h dX5_hasRow_7 (by decide) ⟨fun h => ?_, fun h => ?_⟩
  · refine s_iconst (v := 0) C (by decide) dX5_hasRow_14 ?_
    exact s_zret C R h rfl dX5_hasRow_15
  · refine s_iconst (v := 1) C (by decide) dX5_hasRow_10 ?_
    refine s_goto (tgt := 15) C dX5_hasRow_11 (by decide) ?_
    exact s_zret C R h rfl dX5_hasRow_15
set_option maxRecDepth 4000 in
theorem tX5_at {l : Launch} {E : En} {A : Nat → Prop} {d : Nat} {r : Int64} {M M' : Mem} {o : Nat} {x1 : Int32} {x2 : Int32} (hE : Okk E A) (hd : 0 ≤ d) (ho : kd o = (5, 0)) (h : fX5_at o x1 x2 M = some (r, M')) : Ct l E A d yX5_at cX5_at 3 (some .long) [.ref (ad E o), .int x1, .int x2] M (some (.long r)) M' := by
  refine Ct.mk (ls := [some (.ref (ad E o)), some (.int x1), some (.int x2)]) hE (by decide +kernel) rfl (Nat.le_of_ble_eq_true rfl) (fun X hXl hXA C R => ?_)
  subst hXl; subst hXA
  unfold fX5_at at h
  refine s_aload0 C dX5_at_0 ?_
  refine gX5_18 C ho dX5_at_1 ?_
  refine s_bipush (v := 60) C (by decide) dX5_at_4 ?_
  refine s_iload1 C dX5_at_6 ?_
  refine s_imul C dX5_at_7 ?_
  refine s_iload2 C dX5_at_8 ?_
  refine s_iadd C dX5_at_9 ?_
  refine s_lald C (qX5_numbers ho) h dX5_at_10 (fun h => ?_)
  exact s_lret C R h dX5_at_11
set_option maxRecDepth 4000 in
theorem bX5_allWithin_2 {E : En} {X : Xc} {d : Nat} {r : Int32} {M' : Mem} (C : Cx E X d cX5_allWithin RX5 4) (R : Rt E X (some .boolean) (some (.int r)) M') (hd : 1 ≤ d)   : ∀ (n : Nat) (o : Nat) (x1 : Int32) (x2 : Int32) (x3 : Int32) (M : Mem) (_ : kd o = (5, 0)), fX5_allWithin_2  n o x1 x2 x3 M = some (r, M') → At E X 2 [some (.ref (ad E o)), some (.int x1), some (.int x2), some (.int x3)] [] M := by
  intro n
  induction n with
  | zero => intro o x1 x2 x3 M ho h; rw [fX5_allWithin_2] at h; cases h
  | succ n ih =>
    intro o x1 x2 x3 M ho h
    rw [fX5_allWithin_2] at h
    refine s_iload3 C dX5_allWithin_2 ?_
    refine s_aload0 C dX5_allWithin_3 ?_
    refine gX5_15 C ho dX5_allWithin_4 ?_
    refine s_iload1 C dX5_allWithin_7 ?_
    refine s_iald C (qX5_lengths ho) h dX5_allWithin_8 (fun h => ?_)
    refine s_ic_ge (tgt := 35) C h dX5_allWithin_9 (by decide) ⟨fun h => ?_, fun h => ?_⟩
    · refine s_iconst (v := 1) C (by decide) dX5_allWithin_35 ?_
      exact s_zret C R h rfl dX5_allWithin_36
    · refine s_aload0 C dX5_allWithin_12 ?_
      refine s_iload1 C dX5_allWithin_13 ?_
      refine s_iload3 C dX5_allWithin_14 ?_
      obtain ⟨r2, M1, hq, h⟩ := bL_e h
      refine s_callV (T := TX5) (As := [.int x1, .int x3]) (v := some (.long r2)) C rfl ho (by decide) rfl (by omega) wX5_35 rfl (Nat.le_of_ble_eq_true rfl) dX5_allWithin_15 (tX5_at C.2.2.2.2.2.2.1 (by omega) ho hq) ?_
      refine s_lconst (v := 0) C (by decide) dX5_allWithin_18 ?_
      refine s_iload2 C dX5_allWithin_19 ?_
      refine s_i2l C dX5_allWithin_20 ?_
      obtain ⟨r4, M3, hq, h⟩ := bI_e h
      refine s_callN (As := [.long r2, .long (0 : Int64), .long (x2).toInt64]) (v := some (.int r4)) C rfl (by omega) wX5_39 rfl (Nat.le_of_ble_eq_true rfl) dX5_allWithin_21 (tX9_within C.2.2.2.2.2.2.1 (by omega)  hq) ?_
      refine s_if_ne (tgt := 29) C h dX5_allWithin_24 (by decide) ⟨fun h => ?_, fun h => ?_⟩
      · refine s_iinc3 (v := 1) C rfl dX5_allWithin_29 (by decide) ?_
        refine s_goto (tgt := 2) C dX5_allWithin_32 (by decide) ?_
        exact ih _ _ _ _ _ ho h
      · refine s_iconst (v := 0) C (by decide) dX5_allWithin_27 ?_
        exact s_zret C R h rfl dX5_allWithin_28
set_option maxRecDepth 4000 in
theorem tX5_allWithin {l : Launch} {E : En} {A : Nat → Prop} {d : Nat} {r : Int32} {M M' : Mem} {o : Nat} {x1 : Int32} {x2 : Int32} (hE : Okk E A) (hd : 1 ≤ d) (ho : kd o = (5, 0)) (h : fX5_allWithin o x1 x2 M = some (r, M')) : Ct l E A d yX5_allWithin cX5_allWithin 4 (some .boolean) [.ref (ad E o), .int x1, .int x2] M (some (.int r)) M' := by
  refine Ct.mk (ls := [some (.ref (ad E o)), some (.int x1), some (.int x2), none]) hE (by decide +kernel) rfl (Nat.le_of_ble_eq_true rfl) (fun X hXl hXA C R => ?_)
  subst hXl; subst hXA
  unfold fX5_allWithin at h
  refine s_iconst (v := 0) C (by decide) dX5_allWithin_0 ?_
  refine s_istore3 C rfl dX5_allWithin_1 ?_
  exact bX5_allWithin_2 C R hd  LF _ _ _ _ _ ho h
set_option maxRecDepth 4000 in
theorem bX9_trace_108 {E : En} {X : Xc} {d : Nat} {r : Int32} {M M' : Mem} {o : Nat} {x1 : Int32} {x2 : Int32} {x3 : Int32} {x4 : Int32} (C : Cx E X d cX9_trace RX9 5) (R : Rt E X (some .int) (some (.int r)) M') (hd : 5 ≤ d) {k62 : Nat → Int32 → Int32 → Int32 → Mem → Option (Int32 × Mem)} (hk62 : ∀ (o : Nat) (x1 : Int32) (x2 : Int32) (x3 : Int32) (M : Mem) (_ : kd o = (9, 0)), k62 o x1 x2 x3 M = some (r, M') → At E X 62 [some (.ref (ad E o)), some (.int x1), some (.int x2), some (.int x3), none] [] M) (ho : kd o = (9, 0)) (h : fX9_trace_108 k62 o x1 x2 x3 x4 M = some (r, M')) : At E X 108 [some (.ref (ad E o)), some (.int x1), some (.int x2), some (.int x3), some (.int x4)] [] M := by
  unfold fX9_trace_108 at h
  refine s_aload0 C dX9_trace_108 ?_
  refine gX9_55 C ho dX9_trace_109 ?_
  refine s_iload4 C dX9_trace_112 ?_
  refine s_iconst (v := 2) C (by decide) dX9_trace_114 ?_
  refine s_iremc C (by decide) dX9_trace_115 ?_
  obtain ⟨M1, hq, h⟩ := bV_e h
  refine s_callV (T := TX1) (As := [.int (irm x4 (2 : Int32))]) (v := none) C rfl (qX9_rival ho) (by decide) rfl (by omega) wX9_361 rfl (Nat.le_of_ble_eq_true rfl) dX9_trace_116 (tX1_learn C.2.2.2.2.2.2.1 (by omega) (qX9_rival ho) hq) ?_
  refine s_iinc3 (v := 1) C rfl dX9_trace_119 (by decide) ?_
  refine s_goto (tgt := 62) C dX9_trace_122 (by decide) ?_
  refine s_fg 4 ?_
  exact hk62 _ _ _ _ _ ho h
set_option maxRecDepth 4000 in
theorem bX9_trace_62 {E : En} {X : Xc} {d : Nat} {r : Int32} {M' : Mem} (C : Cx E X d cX9_trace RX9 5) (R : Rt E X (some .int) (some (.int r)) M') (hd : 5 ≤ d)   : ∀ (n : Nat) (o : Nat) (x1 : Int32) (x2 : Int32) (x3 : Int32) (M : Mem) (_ : kd o = (9, 0)), fX9_trace_62  n o x1 x2 x3 M = some (r, M') → At E X 62 [some (.ref (ad E o)), some (.int x1), some (.int x2), some (.int x3), none] [] M := by
  intro n
  induction n with
  | zero => intro o x1 x2 x3 M ho h; rw [fX9_trace_62] at h; cases h
  | succ n ih =>
    intro o x1 x2 x3 M ho h
    rw [fX9_trace_62] at h
    refine s_iload3 C dX9_trace_62 ?_
    refine s_aload0 C dX9_trace_63 ?_
    refine gX9_65 C ho dX9_trace_64 ?_
    refine gX9_353 C (qX9_slots ho) dX9_trace_67 ?_
    refine s_iload1 C dX9_trace_70 ?_
    refine s_iald C (qX5_lengths (qX9_slots ho)) h dX9_trace_71 (fun h => ?_)
    refine s_ic_ge (tgt := 125) C h dX9_trace_72 (by decide) ⟨fun h => ?_, fun h => ?_⟩
    · refine s_iload2 C dX9_trace_125 ?_
      exact s_iret C R h dX9_trace_126
    · refine s_aload0 C dX9_trace_75 ?_
      refine gX9_65 C ho dX9_trace_76 ?_
      refine s_iload1 C dX9_trace_79 ?_
      refine s_iload3 C dX9_trace_80 ?_
      obtain ⟨r2, M1, hq, h⟩ := bL_e h
      refine s_callV (T := TX5) (As := [.int x1, .int x3]) (v := some (.long r2)) C rfl (qX9_slots ho) (by decide) rfl (by omega) wX9_354 rfl (Nat.le_of_ble_eq_true rfl) dX9_trace_81 (tX5_at C.2.2.2.2.2.2.1 (by omega) (qX9_slots ho) hq) ?_
      refine s_l2i C dX9_trace_84 ?_
      refine s_istore4 C rfl dX9_trace_85 ?_
      refine s_aload0 C dX9_trace_87 ?_
      refine gX9_55 C ho dX9_trace_88 ?_
      refine s_iload4 C dX9_trace_91 ?_
      refine s_iconst (v := 2) C (by decide) dX9_trace_93 ?_
      refine s_idivc C (by decide) dX9_trace_94 ?_
      obtain ⟨r4, M3, hq, h⟩ := bI_e h
      refine s_callV (T := TX1) (As := [.int ((r2).toInt32 / (2 : Int32))]) (v := some (.int r4)) C rfl (qX9_rival ho) (by decide) rfl (by omega) wX9_358 rfl (Nat.le_of_ble_eq_true rfl) dX9_trace_95 (tX1_ask C.2.2.2.2.2.2.1 (by omega) (qX9_rival ho) hq) ?_
      refine s_iload4 C dX9_trace_98 ?_
      refine s_iconst (v := 2) C (by decide) dX9_trace_100 ?_
      refine s_iremc C (by decide) dX9_trace_101 ?_
      refine s_ic_eq (tgt := 108) C h dX9_trace_102 (by decide) ⟨fun h => ?_, fun h => ?_⟩
      · exact bX9_trace_108 C R hd (ih) ho h
      · refine s_iinc2 (v := 1) C rfl dX9_trace_105 (by decide) ?_
        exact bX9_trace_108 C R hd (ih) ho h
set_option maxRecDepth 4000 in
theorem tX9_trace {l : Launch} {E : En} {A : Nat → Prop} {d : Nat} {r : Int32} {M M' : Mem} {o : Nat} {x1 : Int32} (hE : Okk E A) (hd : 5 ≤ d) (ho : kd o = (9, 0)) (h : fX9_trace o x1 M = some (r, M')) : Ct l E A d yX9_trace cX9_trace 5 (some .int) [.ref (ad E o), .int x1] M (some (.int r)) M' := by
  refine Ct.mk (ls := [some (.ref (ad E o)), some (.int x1), none, none, none]) hE (by decide +kernel) rfl (Nat.le_of_ble_eq_true rfl) (fun X hXl hXA C R => ?_)
  subst hXl; subst hXA
  unfold fX9_trace at h
  refine s_aload0 C dX9_trace_0 ?_
  obtain ⟨r2, M1, hq, h⟩ := bI_e h
  refine s_callV (T := TX9) (As := []) (v := some (.int r2)) C rfl ho (by decide) rfl (by omega) wX9_113 rfl (Nat.le_of_ble_eq_true rfl) dX9_trace_1 (tX9_isTold C.2.2.2.2.2.2.1 (by omega) ho hq) ?_
  refine s_if_eq (tgt := 14) C h dX9_trace_4 (by decide) ⟨fun h => ?_, fun h => ?_⟩
  · refine s_bipush (v := -2) C (by decide) dX9_trace_14 ?_
    exact s_iret C R h dX9_trace_16
  · refine s_iload1 C dX9_trace_7 ?_
    obtain ⟨r4, M3, hq, h⟩ := bI_e h
    refine s_callS (As := [.int x1]) (v := some (.int r4)) C rfl (by omega) wX9_341 rfl (Nat.le_of_ble_eq_true rfl) dX9_trace_8 (tX9_isSlot C.2.2.2.2.2.2.1 (by omega)  hq) ?_
    refine s_if_ne (tgt := 17) C h dX9_trace_11 (by decide) ⟨fun h => ?_, fun h => ?_⟩
    · refine s_aload0 C dX9_trace_17 ?_
      refine gX9_65 C ho dX9_trace_18 ?_
      refine s_iload1 C dX9_trace_21 ?_
      obtain ⟨r6, M5, hq, h⟩ := bI_e h
      refine s_callV (T := TX5) (As := [.int x1]) (v := some (.int r6)) C rfl (qX9_slots ho) (by decide) rfl (by omega) wX9_344 rfl (Nat.le_of_ble_eq_true rfl) dX9_trace_22 (tX5_hasRow C.2.2.2.2.2.2.1 (by omega) (qX9_slots ho) hq) ?_
      refine s_if_ne (tgt := 31) C h dX9_trace_25 (by decide) ⟨fun h => ?_, fun h => ?_⟩
      · refine s_aload0 C dX9_trace_31 ?_
        refine gX9_65 C ho dX9_trace_32 ?_
        refine s_iload1 C dX9_trace_35 ?_
        refine s_bipush (v := 127) C (by decide) dX9_trace_36 ?_
        obtain ⟨r8, M7, hq, h⟩ := bI_e h
        refine s_callV (T := TX5) (As := [.int x1, .int (127 : Int32)]) (v := some (.int r8)) C rfl (qX9_slots ho) (by decide) rfl (by omega) wX9_347 rfl (Nat.le_of_ble_eq_true rfl) dX9_trace_38 (tX5_allWithin C.2.2.2.2.2.2.1 (by omega) (qX9_slots ho) hq) ?_
        refine s_if_ne (tgt := 47) C h dX9_trace_41 (by decide) ⟨fun h => ?_, fun h => ?_⟩
        · refine s_aload0 C dX9_trace_47 ?_
          refine gX9_55 C ho dX9_trace_48 ?_
          refine s_aload0 C dX9_trace_51 ?_
          refine gX9_23 C ho dX9_trace_52 ?_
          obtain ⟨M9, hq, h⟩ := bV_e h
          refine s_callV (T := TX1) (As := [.ref (ad E (o + 9))]) (v := none) C rfl (qX9_rival ho) (by decide) rfl (by omega) wX9_350 rfl (Nat.le_of_ble_eq_true rfl) dX9_trace_55 (tX1_setAs C.2.2.2.2.2.2.1 (by omega) (qX9_rival ho) (qX9_told ho) hq) ?_
          refine s_iconst (v := 0) C (by decide) dX9_trace_58 ?_
          refine s_istore2 C rfl dX9_trace_59 ?_
          refine s_iconst (v := 0) C (by decide) dX9_trace_60 ?_
          refine s_istore3 C rfl dX9_trace_61 ?_
          exact bX9_trace_62 C R hd  LF _ _ _ _ _ ho h
        · refine s_bipush (v := -2) C (by decide) dX9_trace_44 ?_
          exact s_iret C R h dX9_trace_46
      · refine s_bipush (v := -6) C (by decide) dX9_trace_28 ?_
        exact s_iret C R h dX9_trace_30
    · refine s_bipush (v := -2) C (by decide) dX9_trace_14 ?_
      exact s_iret C R h dX9_trace_16
set_option maxRecDepth 4000 in
theorem bX9_rivalGuessesAs_2 {E : En} {X : Xc} {d : Nat} {r : Int32} {M' : Mem} (C : Cx E X d cX9_rivalGuessesAs RX9 3) (R : Rt E X (some .boolean) (some (.int r)) M') (hd : 5 ≤ d)   : ∀ (n : Nat) (o : Nat) (x1 : Int32) (x2 : Int32) (M : Mem) (_ : kd o = (9, 0)), fX9_rivalGuessesAs_2  n o x1 x2 M = some (r, M') → At E X 2 [some (.ref (ad E o)), some (.int x1), some (.int x2)] [] M := by
  intro n
  induction n with
  | zero => intro o x1 x2 M ho h; rw [fX9_rivalGuessesAs_2] at h; cases h
  | succ n ih =>
    intro o x1 x2 M ho h
    rw [fX9_rivalGuessesAs_2] at h
    refine s_iload2 C dX9_rivalGuessesAs_2 ?_
    refine s_aload0 C dX9_rivalGuessesAs_3 ?_
    refine gX9_65 C ho dX9_rivalGuessesAs_4 ?_
    refine gX9_353 C (qX9_slots ho) dX9_rivalGuessesAs_7 ?_
    refine s_iload1 C dX9_rivalGuessesAs_10 ?_
    refine s_iald C (qX5_lengths (qX9_slots ho)) h dX9_rivalGuessesAs_11 (fun h => ?_)
    refine s_ic_ge (tgt := 69) C h dX9_rivalGuessesAs_12 (by decide) ⟨fun h => ?_, fun h => ?_⟩
    · refine s_iconst (v := 1) C (by decide) dX9_rivalGuessesAs_69 ?_
      exact s_zret C R h rfl dX9_rivalGuessesAs_70
    · refine s_aload0 C dX9_rivalGuessesAs_15 ?_
      refine gX9_55 C ho dX9_rivalGuessesAs_16 ?_
      refine s_aload0 C dX9_rivalGuessesAs_19 ?_
      refine gX9_44 C ho dX9_rivalGuessesAs_20 ?_
      refine s_iload2 C dX9_rivalGuessesAs_23 ?_
      refine s_iconst (v := 0) C (by decide) dX9_rivalGuessesAs_24 ?_
      obtain ⟨r2, M1, hq, h⟩ := bI_e h
      refine s_callV (T := TX8) (As := [.int x2, .int (0 : Int32)]) (v := some (.int r2)) C rfl (qX9_trail ho) (by decide) rfl (by omega) wX9_140 rfl (Nat.le_of_ble_eq_true rfl) dX9_rivalGuessesAs_25 (tX8_fact C.2.2.2.2.2.2.1 (by omega) (qX9_trail ho) hq) ?_
      obtain ⟨r4, M3, hq, h⟩ := bI_e h
      refine s_callV (T := TX1) (As := [.int r2]) (v := some (.int r4)) C rfl (qX9_rival ho) (by decide) rfl (by omega) wX9_358 rfl (Nat.le_of_ble_eq_true rfl) dX9_rivalGuessesAs_28 (tX1_ask C.2.2.2.2.2.2.1 (by omega) (qX9_rival ho) hq) ?_
      refine s_i2l C dX9_rivalGuessesAs_31 ?_
      refine s_aload0 C dX9_rivalGuessesAs_32 ?_
      refine gX9_65 C ho dX9_rivalGuessesAs_33 ?_
      refine s_iload1 C dX9_rivalGuessesAs_36 ?_
      refine s_iload2 C dX9_rivalGuessesAs_37 ?_
      obtain ⟨r6, M5, hq, h⟩ := bL_e h
      refine s_callV (T := TX5) (As := [.int x1, .int x2]) (v := some (.long r6)) C rfl (qX9_slots ho) (by decide) rfl (by omega) wX9_354 rfl (Nat.le_of_ble_eq_true rfl) dX9_rivalGuessesAs_38 (tX5_at C.2.2.2.2.2.2.1 (by omega) (qX9_slots ho) hq) ?_
      refine s_lcmp C dX9_rivalGuessesAs_41 ?_
      refine s_if_eq (tgt := 47) C h dX9_rivalGuessesAs_42 (by decide) ⟨fun h => ?_, fun h => ?_⟩
      · refine s_aload0 C dX9_rivalGuessesAs_47 ?_
        refine gX9_55 C ho dX9_rivalGuessesAs_48 ?_
        refine s_aload0 C dX9_rivalGuessesAs_51 ?_
        refine gX9_44 C ho dX9_rivalGuessesAs_52 ?_
        refine s_iload2 C dX9_rivalGuessesAs_55 ?_
        refine s_iconst (v := 1) C (by decide) dX9_rivalGuessesAs_56 ?_
        obtain ⟨r8, M7, hq, h⟩ := bI_e h
        refine s_callV (T := TX8) (As := [.int x2, .int (1 : Int32)]) (v := some (.int r8)) C rfl (qX9_trail ho) (by decide) rfl (by omega) wX9_140 rfl (Nat.le_of_ble_eq_true rfl) dX9_rivalGuessesAs_57 (tX8_fact C.2.2.2.2.2.2.1 (by omega) (qX9_trail ho) hq) ?_
        obtain ⟨M9, hq, h⟩ := bV_e h
        refine s_callV (T := TX1) (As := [.int r8]) (v := none) C rfl (qX9_rival ho) (by decide) rfl (by omega) wX9_361 rfl (Nat.le_of_ble_eq_true rfl) dX9_rivalGuessesAs_60 (tX1_learn C.2.2.2.2.2.2.1 (by omega) (qX9_rival ho) hq) ?_
        refine s_iinc2 (v := 1) C rfl dX9_rivalGuessesAs_63 (by decide) ?_
        refine s_goto (tgt := 2) C dX9_rivalGuessesAs_66 (by decide) ?_
        exact ih _ _ _ _ ho h
      · refine s_iconst (v := 0) C (by decide) dX9_rivalGuessesAs_45 ?_
        exact s_zret C R h rfl dX9_rivalGuessesAs_46
set_option maxRecDepth 4000 in
theorem tX9_rivalGuessesAs {l : Launch} {E : En} {A : Nat → Prop} {d : Nat} {r : Int32} {M M' : Mem} {o : Nat} {x1 : Int32} (hE : Okk E A) (hd : 5 ≤ d) (ho : kd o = (9, 0)) (h : fX9_rivalGuessesAs o x1 M = some (r, M')) : Ct l E A d yX9_rivalGuessesAs cX9_rivalGuessesAs 3 (some .boolean) [.ref (ad E o), .int x1] M (some (.int r)) M' := by
  refine Ct.mk (ls := [some (.ref (ad E o)), some (.int x1), none]) hE (by decide +kernel) rfl (Nat.le_of_ble_eq_true rfl) (fun X hXl hXA C R => ?_)
  subst hXl; subst hXA
  unfold fX9_rivalGuessesAs at h
  refine s_iconst (v := 0) C (by decide) dX9_rivalGuessesAs_0 ?_
  refine s_istore2 C rfl dX9_rivalGuessesAs_1 ?_
  exact bX9_rivalGuessesAs_2 C R hd  LF _ _ _ _ ho h
set_option maxRecDepth 4000 in
theorem bX9_like_94 {E : En} {X : Xc} {d : Nat} {r : Int32} {M M' : Mem} {o : Nat} {x1 : Int32} {x2 : Int32} {x3 : Int32} (C : Cx E X d cX9_like RX9 4) (R : Rt E X (some .int) (some (.int r)) M') (hd : 6 ≤ d) {k69 : Nat → Int32 → Int32 → Int32 → Mem → Option (Int32 × Mem)} (hk69 : ∀ (o : Nat) (x1 : Int32) (x2 : Int32) (x3 : Int32) (M : Mem) (_ : kd o = (9, 0)), k69 o x1 x2 x3 M = some (r, M') → At E X 69 [some (.ref (ad E o)), some (.int x1), some (.int x2), some (.int x3)] [] M) (ho : kd o = (9, 0)) (h : fX9_like_94 k69 o x1 x2 x3 M = some (r, M')) : At E X 94 [some (.ref (ad E o)), some (.int x1), some (.int x2), some (.int x3)] [] M := by
  unfold fX9_like_94 at h
  refine s_iinc3 (v := 1) C rfl dX9_like_94 (by decide) ?_
  refine s_goto (tgt := 69) C dX9_like_97 (by decide) ?_
  exact hk69 _ _ _ _ _ ho h
set_option maxRecDepth 4000 in
theorem bX9_like_69 {E : En} {X : Xc} {d : Nat} {r : Int32} {M' : Mem} (C : Cx E X d cX9_like RX9 4) (R : Rt E X (some .int) (some (.int r)) M') (hd : 6 ≤ d)   : ∀ (n : Nat) (o : Nat) (x1 : Int32) (x2 : Int32) (x3 : Int32) (M : Mem) (_ : kd o = (9, 0)), fX9_like_69  n o x1 x2 x3 M = some (r, M') → At E X 69 [some (.ref (ad E o)), some (.int x1), some (.int x2), some (.int x3)] [] M := by
  intro n
  induction n with
  | zero => intro o x1 x2 x3 M ho h; rw [fX9_like_69] at h; cases h
  | succ n ih =>
    intro o x1 x2 x3 M ho h
    rw [fX9_like_69] at h
    refine s_iload3 C dX9_like_69 ?_
    refine s_bipush (v := 8) C (by decide) dX9_like_70 ?_
    refine s_ic_ge (tgt := 100) C h dX9_like_72 (by decide) ⟨fun h => ?_, fun h => ?_⟩
    · refine s_iload2 C dX9_like_100 ?_
      exact s_iret C R h dX9_like_101
    · refine s_aload0 C dX9_like_75 ?_
      refine s_iload3 C dX9_like_76 ?_
      obtain ⟨M1, hq, h⟩ := bV_e h
      refine s_callV (T := TX9) (As := [.int x3]) (v := none) C rfl ho (by decide) rfl (by omega) wX9_306 rfl (Nat.le_of_ble_eq_true rfl) dX9_like_77 (tX9_setRivalBy C.2.2.2.2.2.2.1 (by omega) ho hq) ?_
      refine s_aload0 C dX9_like_80 ?_
      refine s_iload1 C dX9_like_81 ?_
      obtain ⟨r3, M2, hq, h⟩ := bI_e h
      refine s_callV (T := TX9) (As := [.int x1]) (v := some (.int r3)) C rfl ho (by decide) rfl (by omega) wX9_364 rfl (Nat.le_of_ble_eq_true rfl) dX9_like_82 (tX9_rivalGuessesAs C.2.2.2.2.2.2.1 (by omega) ho hq) ?_
      refine s_if_eq (tgt := 94) C h dX9_like_85 (by decide) ⟨fun h => ?_, fun h => ?_⟩
      · exact bX9_like_94 C R hd (ih) ho h
      · refine s_iload2 C dX9_like_88 ?_
        refine s_iconst (v := 1) C (by decide) dX9_like_89 ?_
        refine s_iload3 C dX9_like_90 ?_
        refine s_ishl C dX9_like_91 ?_
        refine s_ior C dX9_like_92 ?_
        refine s_istore2 C rfl dX9_like_93 ?_
        exact bX9_like_94 C R hd (ih) ho h
set_option maxRecDepth 4000 in
theorem tX9_like {l : Launch} {E : En} {A : Nat → Prop} {d : Nat} {r : Int32} {M M' : Mem} {o : Nat} {x1 : Int32} (hE : Okk E A) (hd : 6 ≤ d) (ho : kd o = (9, 0)) (h : fX9_like o x1 M = some (r, M')) : Ct l E A d yX9_like cX9_like 4 (some .int) [.ref (ad E o), .int x1] M (some (.int r)) M' := by
  refine Ct.mk (ls := [some (.ref (ad E o)), some (.int x1), none, none]) hE (by decide +kernel) rfl (Nat.le_of_ble_eq_true rfl) (fun X hXl hXA C R => ?_)
  subst hXl; subst hXA
  unfold fX9_like at h
  refine s_aload0 C dX9_like_0 ?_
  obtain ⟨r2, M1, hq, h⟩ := bI_e h
  refine s_callV (T := TX9) (As := []) (v := some (.int r2)) C rfl ho (by decide) rfl (by omega) wX9_113 rfl (Nat.le_of_ble_eq_true rfl) dX9_like_1 (tX9_isTold C.2.2.2.2.2.2.1 (by omega) ho hq) ?_
  refine s_if_eq (tgt := 14) C h dX9_like_4 (by decide) ⟨fun h => ?_, fun h => ?_⟩
  · refine s_bipush (v := -2) C (by decide) dX9_like_14 ?_
    exact s_iret C R h dX9_like_16
  · refine s_iload1 C dX9_like_7 ?_
    obtain ⟨r4, M3, hq, h⟩ := bI_e h
    refine s_callS (As := [.int x1]) (v := some (.int r4)) C rfl (by omega) wX9_341 rfl (Nat.le_of_ble_eq_true rfl) dX9_like_8 (tX9_isSlot C.2.2.2.2.2.2.1 (by omega)  hq) ?_
    refine s_if_ne (tgt := 17) C h dX9_like_11 (by decide) ⟨fun h => ?_, fun h => ?_⟩
    · refine s_aload0 C dX9_like_17 ?_
      refine gX9_65 C ho dX9_like_18 ?_
      refine s_iload1 C dX9_like_21 ?_
      obtain ⟨r6, M5, hq, h⟩ := bI_e h
      refine s_callV (T := TX5) (As := [.int x1]) (v := some (.int r6)) C rfl (qX9_slots ho) (by decide) rfl (by omega) wX9_344 rfl (Nat.le_of_ble_eq_true rfl) dX9_like_22 (tX5_hasRow C.2.2.2.2.2.2.1 (by omega) (qX9_slots ho) hq) ?_
      refine s_if_ne (tgt := 31) C h dX9_like_25 (by decide) ⟨fun h => ?_, fun h => ?_⟩
      · refine s_aload0 C dX9_like_31 ?_
        refine gX9_65 C ho dX9_like_32 ?_
        refine s_iload1 C dX9_like_35 ?_
        refine s_iconst (v := 1) C (by decide) dX9_like_36 ?_
        obtain ⟨r8, M7, hq, h⟩ := bI_e h
        refine s_callV (T := TX5) (As := [.int x1, .int (1 : Int32)]) (v := some (.int r8)) C rfl (qX9_slots ho) (by decide) rfl (by omega) wX9_347 rfl (Nat.le_of_ble_eq_true rfl) dX9_like_37 (tX5_allWithin C.2.2.2.2.2.2.1 (by omega) (qX9_slots ho) hq) ?_
        refine s_if_eq (tgt := 62) C h dX9_like_40 (by decide) ⟨fun h => ?_, fun h => ?_⟩
        · refine s_bipush (v := -2) C (by decide) dX9_like_62 ?_
          exact s_iret C R h dX9_like_64
        · refine s_aload0 C dX9_like_43 ?_
          refine gX9_65 C ho dX9_like_44 ?_
          refine gX9_353 C (qX9_slots ho) dX9_like_47 ?_
          refine s_iload1 C dX9_like_50 ?_
          refine s_iald C (qX5_lengths (qX9_slots ho)) h dX9_like_51 (fun h => ?_)
          refine s_aload0 C dX9_like_52 ?_
          refine gX9_44 C ho dX9_like_53 ?_
          refine gX9_157 C (qX9_trail ho) dX9_like_56 ?_
          refine s_ic_le (tgt := 65) C h dX9_like_59 (by decide) ⟨fun h => ?_, fun h => ?_⟩
          · refine s_iconst (v := 0) C (by decide) dX9_like_65 ?_
            refine s_istore2 C rfl dX9_like_66 ?_
            refine s_iconst (v := 0) C (by decide) dX9_like_67 ?_
            refine s_istore3 C rfl dX9_like_68 ?_
            exact bX9_like_69 C R hd  LF _ _ _ _ _ ho h
          · refine s_bipush (v := -2) C (by decide) dX9_like_62 ?_
            exact s_iret C R h dX9_like_64
      · refine s_bipush (v := -6) C (by decide) dX9_like_28 ?_
        exact s_iret C R h dX9_like_30
    · refine s_bipush (v := -2) C (by decide) dX9_like_14 ?_
      exact s_iret C R h dX9_like_16
set_option maxRecDepth 4000 in
theorem tX9_meets {l : Launch} {E : En} {A : Nat → Prop} {d : Nat} {r : Int32} {M M' : Mem} {o : Nat} {x1 : Int32} {x2 : Int32} (hE : Okk E A) (hd : 6 ≤ d) (ho : kd o = (9, 0)) (h : fX9_meets o x1 x2 M = some (r, M')) : Ct l E A d yX9_meets cX9_meets 4 (some .int) [.ref (ad E o), .int x1, .int x2] M (some (.int r)) M' := by
  refine Ct.mk (ls := [some (.ref (ad E o)), some (.int x1), some (.int x2), none]) hE (by decide +kernel) rfl (Nat.le_of_ble_eq_true rfl) (fun X hXl hXA C R => ?_)
  subst hXl; subst hXA
  unfold fX9_meets at h
  refine s_aload0 C dX9_meets_0 ?_
  obtain ⟨r2, M1, hq, h⟩ := bI_e h
  refine s_callV (T := TX9) (As := []) (v := some (.int r2)) C rfl ho (by decide) rfl (by omega) wX9_113 rfl (Nat.le_of_ble_eq_true rfl) dX9_meets_1 (tX9_isTold C.2.2.2.2.2.2.1 (by omega) ho hq) ?_
  refine s_if_eq (tgt := 24) C h dX9_meets_4 (by decide) ⟨fun h => ?_, fun h => ?_⟩
  · refine s_bipush (v := -2) C (by decide) dX9_meets_24 ?_
    exact s_iret C R h dX9_meets_26
  · refine s_iload1 C dX9_meets_7 ?_
    obtain ⟨r4, M3, hq, h⟩ := bI_e h
    refine s_callS (As := [.int x1]) (v := some (.int r4)) C rfl (by omega) wX9_150 rfl (Nat.le_of_ble_eq_true rfl) dX9_meets_8 (tX9_isAddress C.2.2.2.2.2.2.1 (by omega)  hq) ?_
    refine s_if_eq (tgt := 24) C h dX9_meets_11 (by decide) ⟨fun h => ?_, fun h => ?_⟩
    · refine s_bipush (v := -2) C (by decide) dX9_meets_24 ?_
      exact s_iret C R h dX9_meets_26
    · refine s_iload2 C dX9_meets_14 ?_
      refine s_i2l C dX9_meets_15 ?_
      refine s_lconst (v := 0) C (by decide) dX9_meets_16 ?_
      refine s_lconst (v := 1) C (by decide) dX9_meets_17 ?_
      obtain ⟨r6, M5, hq, h⟩ := bI_e h
      refine s_callS (As := [.long (x2).toInt64, .long (0 : Int64), .long (1 : Int64)]) (v := some (.int r6)) C rfl (by omega) wX9_77 rfl (Nat.le_of_ble_eq_true rfl) dX9_meets_18 (tX9_within C.2.2.2.2.2.2.1 (by omega)  hq) ?_
      refine s_if_ne (tgt := 27) C h dX9_meets_21 (by decide) ⟨fun h => ?_, fun h => ?_⟩
      · refine s_aload0 C dX9_meets_27 ?_
        refine gX9_23 C ho dX9_meets_28 ?_
        refine gX9_367 C (qX9_told ho) dX9_meets_31 ?_
        refine s_bipush (v := 40) C (by decide) dX9_meets_34 ?_
        refine s_ic_lt (tgt := 42) C h dX9_meets_36 (by decide) ⟨fun h => ?_, fun h => ?_⟩
        · refine s_aload0 C dX9_meets_42 ?_
          refine gX9_44 C ho dX9_meets_43 ?_
          refine gX9_157 C (qX9_trail ho) dX9_meets_46 ?_
          refine s_istore3 C rfl dX9_meets_49 ?_
          refine s_aload0 C dX9_meets_50 ?_
          refine s_iload3 C dX9_meets_51 ?_
          obtain ⟨M7, hq, h⟩ := bV_e h
          refine s_callV (T := TX9) (As := [.int (M5.1 (o + 39) 1)]) (v := none) C rfl ho (by decide) rfl (by omega) wX9_176 rfl (Nat.le_of_ble_eq_true rfl) dX9_meets_52 (tX9_goTo C.2.2.2.2.2.2.1 (by omega) ho hq) ?_
          refine s_aload0 C dX9_meets_55 ?_
          refine gX9_23 C ho dX9_meets_56 ?_
          refine gX9_370 C (qX9_told ho) dX9_meets_59 ?_
          refine s_aload0 C dX9_meets_62 ?_
          refine gX9_23 C ho dX9_meets_63 ?_
          refine gX9_367 C (qX9_told ho) dX9_meets_66 ?_
          refine s_iconst (v := 2) C (by decide) dX9_meets_69 ?_
          refine s_iload1 C dX9_meets_70 ?_
          refine s_imul C dX9_meets_71 ?_
          refine s_iload2 C dX9_meets_72 ?_
          refine s_iadd C dX9_meets_73 ?_
          refine s_iast C (qX7_acts (qX9_told ho)) h dX9_meets_74 (fun h => ?_)
          refine s_aload0 C dX9_meets_75 ?_
          refine gX9_23 C ho dX9_meets_76 ?_
          refine s_dup C rfl dX9_meets_79 ?_
          refine gX9_367 C (qX9_told ho) dX9_meets_80 ?_
          refine s_iconst (v := 1) C (by decide) dX9_meets_83 ?_
          refine s_iadd C dX9_meets_84 ?_
          refine pX9_367 C (qX9_told ho) dX9_meets_85 ?_
          refine s_aload0 C dX9_meets_88 ?_
          refine gX9_44 C ho dX9_meets_89 ?_
          refine s_iload1 C dX9_meets_92 ?_
          refine s_iload2 C dX9_meets_93 ?_
          refine s_iconst (v := -1) C (by decide) dX9_meets_94 ?_
          obtain ⟨M8, hq, h⟩ := bV_e h
          refine s_callV (T := TX8) (As := [.int x1, .int x2, .int (-1 : Int32)]) (v := none) C rfl (qX9_trail ho) (by decide) rfl (by omega) wX9_373 rfl (Nat.le_of_ble_eq_true rfl) dX9_meets_95 (tX8_add C.2.2.2.2.2.2.1 (by omega) (qX9_trail ho) hq) ?_
          refine s_aload0 C dX9_meets_98 ?_
          refine s_iload3 C dX9_meets_99 ?_
          obtain ⟨M9, hq, h⟩ := bV_e h
          refine s_callV (T := TX9) (As := [.int (M5.1 (o + 39) 1)]) (v := none) C rfl ho (by decide) rfl (by omega) wX9_377 rfl (Nat.le_of_ble_eq_true rfl) dX9_meets_100 (tX9_record C.2.2.2.2.2.2.1 (by omega) ho hq) ?_
          refine s_aload0 C dX9_meets_103 ?_
          refine gX9_44 C ho dX9_meets_104 ?_
          refine s_iload3 C dX9_meets_107 ?_
          obtain ⟨r11, M10, hq, h⟩ := bI_e h
          refine s_callV (T := TX8) (As := [.int (M5.1 (o + 39) 1)]) (v := some (.int r11)) C rfl (qX9_trail ho) (by decide) rfl (by omega) wX9_147 rfl (Nat.le_of_ble_eq_true rfl) dX9_meets_108 (tX8_isWrong C.2.2.2.2.2.2.1 (by omega) (qX9_trail ho) hq) ?_
          refine s_if_eq (tgt := 118) C h dX9_meets_111 (by decide) ⟨fun h => ?_, fun h => ?_⟩
          · refine s_iconst (v := 1) C (by decide) dX9_meets_118 ?_
            exact s_iret C R h dX9_meets_119
          · refine s_iconst (v := 0) C (by decide) dX9_meets_114 ?_
            refine s_goto (tgt := 119) C dX9_meets_115 (by decide) ?_
            exact s_iret C R h dX9_meets_119
        · refine s_bipush (v := -5) C (by decide) dX9_meets_39 ?_
          exact s_iret C R h dX9_meets_41
      · refine s_bipush (v := -2) C (by decide) dX9_meets_24 ?_
        exact s_iret C R h dX9_meets_26
set_option maxRecDepth 4000 in
theorem tX9_keepActs {l : Launch} {E : En} {A : Nat → Prop} {d : Nat} {M M' : Mem} {o : Nat} {x1 : Int32} (hE : Okk E A) (hd : 0 ≤ d) (ho : kd o = (9, 0)) (h : fX9_keepActs o x1 M = some M') : Ct l E A d yX9_keepActs cX9_keepActs 2 none [.ref (ad E o), .int x1] M none M' := by
  refine Ct.mk (ls := [some (.ref (ad E o)), some (.int x1)]) hE (by decide +kernel) rfl (Nat.le_of_ble_eq_true rfl) (fun X hXl hXA C R => ?_)
  subst hXl; subst hXA
  unfold fX9_keepActs at h
  refine s_aload0 C dX9_keepActs_0 ?_
  refine gX9_23 C ho dX9_keepActs_1 ?_
  refine s_iload1 C dX9_keepActs_4 ?_
  refine pX9_367 C (qX9_told ho) dX9_keepActs_5 ?_
  refine s_aload0 C dX9_keepActs_8 ?_
  refine gX9_44 C ho dX9_keepActs_9 ?_
  refine s_aload0 C dX9_keepActs_12 ?_
  refine gX9_44 C ho dX9_keepActs_13 ?_
  refine gX9_291 C (qX9_trail ho) dX9_keepActs_16 ?_
  refine s_iload1 C dX9_keepActs_19 ?_
  refine s_iadd C dX9_keepActs_20 ?_
  refine pX9_157 C (qX9_trail ho) dX9_keepActs_21 ?_
  exact s_vret C R h dX9_keepActs_24
set_option maxRecDepth 4000 in
theorem tX9_undo {l : Launch} {E : En} {A : Nat → Prop} {d : Nat} {r : Int32} {M M' : Mem} {o : Nat} (hE : Okk E A) (hd : 1 ≤ d) (ho : kd o = (9, 0)) (h : fX9_undo o M = some (r, M')) : Ct l E A d yX9_undo cX9_undo 1 (some .int) [.ref (ad E o)] M (some (.int r)) M' := by
  refine Ct.mk (ls := [some (.ref (ad E o))]) hE (by decide +kernel) rfl (Nat.le_of_ble_eq_true rfl) (fun X hXl hXA C R => ?_)
  subst hXl; subst hXA
  unfold fX9_undo at h
  refine s_aload0 C dX9_undo_0 ?_
  obtain ⟨r2, M1, hq, h⟩ := bI_e h
  refine s_callV (T := TX9) (As := []) (v := some (.int r2)) C rfl ho (by decide) rfl (by omega) wX9_113 rfl (Nat.le_of_ble_eq_true rfl) dX9_undo_1 (tX9_isTold C.2.2.2.2.2.2.1 (by omega) ho hq) ?_
  refine s_if_ne (tgt := 10) C h dX9_undo_4 (by decide) ⟨fun h => ?_, fun h => ?_⟩
  · refine s_aload0 C dX9_undo_10 ?_
    refine gX9_23 C ho dX9_undo_11 ?_
    refine gX9_367 C (qX9_told ho) dX9_undo_14 ?_
    refine s_if_ne (tgt := 23) C h dX9_undo_17 (by decide) ⟨fun h => ?_, fun h => ?_⟩
    · refine s_aload0 C dX9_undo_23 ?_
      refine s_aload0 C dX9_undo_24 ?_
      refine gX9_23 C ho dX9_undo_25 ?_
      refine gX9_367 C (qX9_told ho) dX9_undo_28 ?_
      refine s_iconst (v := 1) C (by decide) dX9_undo_31 ?_
      refine s_isub C dX9_undo_32 ?_
      obtain ⟨M3, hq, h⟩ := bV_e h
      refine s_callV (T := TX9) (As := [.int ((M1.1 (o + 9) 8) - (1 : Int32))]) (v := none) C rfl ho (by decide) rfl (by omega) wX9_380 rfl (Nat.le_of_ble_eq_true rfl) dX9_undo_33 (tX9_keepActs C.2.2.2.2.2.2.1 (by omega) ho hq) ?_
      refine s_aload0 C dX9_undo_36 ?_
      refine gX9_23 C ho dX9_undo_37 ?_
      refine gX9_367 C (qX9_told ho) dX9_undo_40 ?_
      exact s_iret C R h dX9_undo_43
    · refine s_bipush (v := -5) C (by decide) dX9_undo_20 ?_
      exact s_iret C R h dX9_undo_22
  · refine s_bipush (v := -2) C (by decide) dX9_undo_7 ?_
    exact s_iret C R h dX9_undo_9
set_option maxRecDepth 4000 in
theorem tX9_anew {l : Launch} {E : En} {A : Nat → Prop} {d : Nat} {r : Int32} {M M' : Mem} {o : Nat} (hE : Okk E A) (hd : 1 ≤ d) (ho : kd o = (9, 0)) (h : fX9_anew o M = some (r, M')) : Ct l E A d yX9_anew cX9_anew 2 (some .int) [.ref (ad E o)] M (some (.int r)) M' := by
  refine Ct.mk (ls := [some (.ref (ad E o)), none]) hE (by decide +kernel) rfl (Nat.le_of_ble_eq_true rfl) (fun X hXl hXA C R => ?_)
  subst hXl; subst hXA
  unfold fX9_anew at h
  refine s_aload0 C dX9_anew_0 ?_
  obtain ⟨r2, M1, hq, h⟩ := bI_e h
  refine s_callV (T := TX9) (As := []) (v := some (.int r2)) C rfl ho (by decide) rfl (by omega) wX9_113 rfl (Nat.le_of_ble_eq_true rfl) dX9_anew_1 (tX9_isTold C.2.2.2.2.2.2.1 (by omega) ho hq) ?_
  refine s_if_ne (tgt := 10) C h dX9_anew_4 (by decide) ⟨fun h => ?_, fun h => ?_⟩
  · refine s_aload0 C dX9_anew_10 ?_
    refine gX9_23 C ho dX9_anew_11 ?_
    refine gX9_367 C (qX9_told ho) dX9_anew_14 ?_
    refine s_istore1 C rfl dX9_anew_17 ?_
    refine s_aload0 C dX9_anew_18 ?_
    refine s_iconst (v := 0) C (by decide) dX9_anew_19 ?_
    obtain ⟨M3, hq, h⟩ := bV_e h
    refine s_callV (T := TX9) (As := [.int (0 : Int32)]) (v := none) C rfl ho (by decide) rfl (by omega) wX9_380 rfl (Nat.le_of_ble_eq_true rfl) dX9_anew_20 (tX9_keepActs C.2.2.2.2.2.2.1 (by omega) ho hq) ?_
    refine s_iload1 C dX9_anew_23 ?_
    exact s_iret C R h dX9_anew_24
  · refine s_bipush (v := -2) C (by decide) dX9_anew_7 ?_
    exact s_iret C R h dX9_anew_9
set_option maxRecDepth 4000 in
theorem bX5_used_20 {E : En} {X : Xc} {d : Nat} {r : Int32} {M M' : Mem} {o : Nat} {x1 : Int32} {x2 : Int32} (C : Cx E X d cX5_used RX5 3) (R : Rt E X (some .int) (some (.int r)) M') (hd : 1 ≤ d) {k4 : Nat → Int32 → Int32 → Mem → Option (Int32 × Mem)} (hk4 : ∀ (o : Nat) (x1 : Int32) (x2 : Int32) (M : Mem) (_ : kd o = (5, 0)), k4 o x1 x2 M = some (r, M') → At E X 4 [some (.ref (ad E o)), some (.int x1), some (.int x2)] [] M) (ho : kd o = (5, 0)) (h : fX5_used_20 k4 o x1 x2 M = some (r, M')) : At E X 20 [some (.ref (ad E o)), some (.int x1), some (.int x2)] [] M := by
  unfold fX5_used_20 at h
  refine s_iinc2 (v := 1) C rfl dX5_used_20 (by decide) ?_
  refine s_goto (tgt := 4) C dX5_used_23 (by decide) ?_
  exact hk4 _ _ _ _ ho h
set_option maxRecDepth 4000 in
theorem bX5_used_4 {E : En} {X : Xc} {d : Nat} {r : Int32} {M' : Mem} (C : Cx E X d cX5_used RX5 3) (R : Rt E X (some .int) (some (.int r)) M') (hd : 1 ≤ d)   : ∀ (n : Nat) (o : Nat) (x1 : Int32) (x2 : Int32) (M : Mem) (_ : kd o = (5, 0)), fX5_used_4  n o x1 x2 M = some (r, M') → At E X 4 [some (.ref (ad E o)), some (.int x1), some (.int x2)] [] M := by
  intro n
  induction n with
  | zero => intro o x1 x2 M ho h; rw [fX5_used_4] at h; cases h
  | succ n ih =>
    intro o x1 x2 M ho h
    rw [fX5_used_4] at h
    refine s_iload2 C dX5_used_4 ?_
    refine s_iconst (v := 4) C (by decide) dX5_used_5 ?_
    refine s_ic_ge (tgt := 26) C h dX5_used_6 (by decide) ⟨fun h => ?_, fun h => ?_⟩
    · refine s_iload1 C dX5_used_26 ?_
      exact s_iret C R h dX5_used_27
    · refine s_aload0 C dX5_used_9 ?_
      refine s_iload2 C dX5_used_10 ?_
      obtain ⟨r2, M1, hq, h⟩ := bI_e h
      refine s_callV (T := TX5) (As := [.int x2]) (v := some (.int r2)) C rfl ho (by decide) rfl (by omega) wX5_28 rfl (Nat.le_of_ble_eq_true rfl) dX5_used_11 (tX5_hasRow C.2.2.2.2.2.2.1 (by omega) ho hq) ?_
      refine s_if_eq (tgt := 20) C h dX5_used_14 (by decide) ⟨fun h => ?_, fun h => ?_⟩
      · exact bX5_used_20 C R hd (ih) ho h
      · refine s_iinc1 (v := 1) C rfl dX5_used_17 (by decide) ?_
        exact bX5_used_20 C R hd (ih) ho h
set_option maxRecDepth 4000 in
theorem tX5_used {l : Launch} {E : En} {A : Nat → Prop} {d : Nat} {r : Int32} {M M' : Mem} {o : Nat} (hE : Okk E A) (hd : 1 ≤ d) (ho : kd o = (5, 0)) (h : fX5_used o M = some (r, M')) : Ct l E A d yX5_used cX5_used 3 (some .int) [.ref (ad E o)] M (some (.int r)) M' := by
  refine Ct.mk (ls := [some (.ref (ad E o)), none, none]) hE (by decide +kernel) rfl (Nat.le_of_ble_eq_true rfl) (fun X hXl hXA C R => ?_)
  subst hXl; subst hXA
  unfold fX5_used at h
  refine s_iconst (v := 0) C (by decide) dX5_used_0 ?_
  refine s_istore1 C rfl dX5_used_1 ?_
  refine s_iconst (v := 0) C (by decide) dX5_used_2 ?_
  refine s_istore2 C rfl dX5_used_3 ?_
  exact bX5_used_4 C R hd  LF _ _ _ _ ho h
set_option maxRecDepth 4000 in
theorem tX9_count {l : Launch} {E : En} {A : Nat → Prop} {d : Nat} {r : Int32} {M M' : Mem} {o : Nat} {x1 : Int32} (hE : Okk E A) (hd : 2 ≤ d) (ho : kd o = (9, 0)) (h : fX9_count o x1 M = some (r, M')) : Ct l E A d yX9_count cX9_count 2 (some .int) [.ref (ad E o), .int x1] M (some (.int r)) M' := by
  refine Ct.mk (ls := [some (.ref (ad E o)), some (.int x1)]) hE (by decide +kernel) rfl (Nat.le_of_ble_eq_true rfl) (fun X hXl hXA C R => ?_)
  subst hXl; subst hXA
  unfold fX9_count at h
  refine s_iload1 C dX9_count_0 ?_
  refine s_i2l C dX9_count_1 ?_
  refine s_lconst (v := 0) C (by decide) dX9_count_2 ?_
  refine s_ldc2 (v := 5) C k_1148 dX9_count_3 ?_
  obtain ⟨r2, M1, hq, h⟩ := bI_e h
  refine s_callS (As := [.long (x1).toInt64, .long (0 : Int64), .long (5 : Int64)]) (v := some (.int r2)) C rfl (by omega) wX9_77 rfl (Nat.le_of_ble_eq_true rfl) dX9_count_6 (tX9_within C.2.2.2.2.2.2.1 (by omega)  hq) ?_
  refine s_if_eq (tgt := 22) C h dX9_count_9 (by decide) ⟨fun h => ?_, fun h => ?_⟩
  · refine s_iload1 C dX9_count_22 ?_
    rcases if_e h with ⟨e, h⟩ | ⟨e6, h⟩
    · refine s_tin (j := 0) (tgt := 64) C dX9_count_23 (by rw [e]; decide) (by decide) rfl (by decide) ?_
      refine s_aload0 C dX9_count_64 ?_
      refine gX9_23 C ho dX9_count_65 ?_
      refine gX9_171 C (qX9_told ho) dX9_count_68 ?_
      exact s_iret C R h dX9_count_71
    rcases if_e h with ⟨e, h⟩ | ⟨e7, h⟩
    · refine s_tin (j := 1) (tgt := 72) C dX9_count_23 (by rw [e]; decide) (by decide) rfl (by decide) ?_
      refine s_aload0 C dX9_count_72 ?_
      refine gX9_23 C ho dX9_count_73 ?_
      refine gX9_383 C (qX9_told ho) dX9_count_76 ?_
      exact s_iret C R h dX9_count_79
    rcases if_e h with ⟨e, h⟩ | ⟨e8, h⟩
    · refine s_tin (j := 2) (tgt := 80) C dX9_count_23 (by rw [e]; decide) (by decide) rfl (by decide) ?_
      refine s_aload0 C dX9_count_80 ?_
      refine gX9_44 C ho dX9_count_81 ?_
      refine gX9_291 C (qX9_trail ho) dX9_count_84 ?_
      exact s_iret C R h dX9_count_87
    rcases if_e h with ⟨e, h⟩ | ⟨e9, h⟩
    · refine s_tin (j := 3) (tgt := 88) C dX9_count_23 (by rw [e]; decide) (by decide) rfl (by decide) ?_
      refine s_aload0 C dX9_count_88 ?_
      refine gX9_23 C ho dX9_count_89 ?_
      refine gX9_367 C (qX9_told ho) dX9_count_92 ?_
      exact s_iret C R h dX9_count_95
    rcases if_e h with ⟨e, h⟩ | ⟨e10, h⟩
    · refine s_tin (j := 4) (tgt := 96) C dX9_count_23 (by rw [e]; decide) (by decide) rfl (by decide) ?_
      refine s_aload0 C dX9_count_96 ?_
      refine gX9_23 C ho dX9_count_97 ?_
      refine gX9_92 C (qX9_told ho) dX9_count_100 ?_
      exact s_iret C R h dX9_count_103
    rcases if_e h with ⟨e, h⟩ | ⟨e11, h⟩
    · refine s_tin (j := 5) (tgt := 104) C dX9_count_23 (by rw [e]; decide) (by decide) rfl (by decide) ?_
      refine s_aload0 C dX9_count_104 ?_
      refine gX9_12 C ho dX9_count_105 ?_
      refine gX9_69 C (qX9_reader ho) dX9_count_108 ?_
      exact s_iret C R h dX9_count_111
    rcases if_e h with ⟨e, h⟩ | ⟨e12, h⟩
    · refine s_tin (j := 6) (tgt := 112) C dX9_count_23 (by rw [e]; decide) (by decide) rfl (by decide) ?_
      refine s_aload0 C dX9_count_112 ?_
      refine gX9_65 C ho dX9_count_113 ?_
      obtain ⟨r4, M3, hq, h⟩ := bI_e h
      refine s_callV (T := TX5) (As := []) (v := some (.int r4)) C rfl (qX9_slots ho) (by decide) rfl (by omega) wX9_386 rfl (Nat.le_of_ble_eq_true rfl) dX9_count_116 (tX5_used C.2.2.2.2.2.2.1 (by omega) (qX9_slots ho) hq) ?_
      exact s_iret C R h dX9_count_119
    have g6 := ne_int e6
    have g7 := ne_int e7
    have g8 := ne_int e8
    have g9 := ne_int e9
    have g10 := ne_int e10
    have g11 := ne_int e11
    have g12 := ne_int e12
    refine s_tout (tgt := 120) C dX9_count_23 (by simp only [show (6 : Int32).toInt = 6 from by decide, show (7 : Int32).toInt = 7 from by decide, show (8 : Int32).toInt = 8 from by decide, show (9 : Int32).toInt = 9 from by decide, show (10 : Int32).toInt = 10 from by decide, show (11 : Int32).toInt = 11 from by decide, show (12 : Int32).toInt = 12 from by decide] at g6 g7 g8 g9 g10 g11 g12; omega) (by decide) ?_
    refine s_iconst (v := -1) C (by decide) dX9_count_120 ?_
    exact s_iret C R h dX9_count_121
  · refine s_aload0 C dX9_count_12 ?_
    refine gX9_23 C ho dX9_count_13 ?_
    refine gX9_231 C (qX9_told ho) dX9_count_16 ?_
    refine s_iload1 C dX9_count_19 ?_
    refine s_iald C (qX7_head (qX9_told ho)) h dX9_count_20 (fun h => ?_)
    exact s_iret C R h dX9_count_21
set_option maxRecDepth 4000 in
theorem tX9_image {l : Launch} {E : En} {A : Nat → Prop} {d : Nat} {r : Int32} {M M' : Mem} {o : Nat} {x1 : Int32} (hE : Okk E A) (hd : 2 ≤ d) (ho : kd o = (9, 0)) (h : fX9_image o x1 M = some (r, M')) : Ct l E A d yX9_image cX9_image 2 (some .int) [.ref (ad E o), .int x1] M (some (.int r)) M' := by
  refine Ct.mk (ls := [some (.ref (ad E o)), some (.int x1)]) hE (by decide +kernel) rfl (Nat.le_of_ble_eq_true rfl) (fun X hXl hXA C R => ?_)
  subst hXl; subst hXA
  unfold fX9_image at h
  refine s_iload1 C dX9_image_0 ?_
  refine s_i2l C dX9_image_1 ?_
  refine s_lconst (v := 0) C (by decide) dX9_image_2 ?_
  refine s_ldc2 (v := 2) C k_946 dX9_image_3 ?_
  obtain ⟨r2, M1, hq, h⟩ := bI_e h
  refine s_callS (As := [.long (x1).toInt64, .long (0 : Int64), .long (2 : Int64)]) (v := some (.int r2)) C rfl (by omega) wX9_77 rfl (Nat.le_of_ble_eq_true rfl) dX9_image_6 (tX9_within C.2.2.2.2.2.2.1 (by omega)  hq) ?_
  refine s_if_ne (tgt := 15) C h dX9_image_9 (by decide) ⟨fun h => ?_, fun h => ?_⟩
  · refine s_aload0 C dX9_image_15 ?_
    refine gX9_26 C ho dX9_image_16 ?_
    refine s_iload1 C dX9_image_19 ?_
    have hib := (ck_e h).1
    refine s_aald C (qX9_images ho) h dX9_image_20 (fun h => ?_)
    refine s_aload0 C dX9_image_21 ?_
    refine gX9_23 C ho dX9_image_22 ?_
    obtain ⟨M3, hq, h⟩ := bV_e h
    refine s_callV (T := TX7) (As := [.ref (ad E (o + 9))]) (v := none) C rfl (q_img (qX9_images ho) hib) (by decide) rfl (by omega) wX9_85 rfl (Nat.le_of_ble_eq_true rfl) dX9_image_25 (tX7_copyFrom C.2.2.2.2.2.2.1 (by omega) (q_img (qX9_images ho) hib) (qX9_told ho) hq) ?_
    refine s_aload0 C dX9_image_28 ?_
    refine gX9_30 C ho dX9_image_29 ?_
    refine s_iload1 C dX9_image_32 ?_
    refine s_iconst (v := 1) C (by decide) dX9_image_33 ?_
    refine s_zast C (qX9_kept ho) h dX9_image_34 (fun h => ?_)
    refine s_iconst (v := 0) C (by decide) dX9_image_35 ?_
    exact s_iret C R h dX9_image_36
  · refine s_bipush (v := -2) C (by decide) dX9_image_12 ?_
    exact s_iret C R h dX9_image_14
set_option maxRecDepth 4000 in
theorem tX9_back {l : Launch} {E : En} {A : Nat → Prop} {d : Nat} {r : Int32} {M M' : Mem} {o : Nat} {x1 : Int32} (hE : Okk E A) (hd : 7 ≤ d) (ho : kd o = (9, 0)) (h : fX9_back o x1 M = some (r, M')) : Ct l E A d yX9_back cX9_back 2 (some .int) [.ref (ad E o), .int x1] M (some (.int r)) M' := by
  refine Ct.mk (ls := [some (.ref (ad E o)), some (.int x1)]) hE (by decide +kernel) rfl (Nat.le_of_ble_eq_true rfl) (fun X hXl hXA C R => ?_)
  subst hXl; subst hXA
  unfold fX9_back at h
  refine s_iload1 C dX9_back_0 ?_
  refine s_i2l C dX9_back_1 ?_
  refine s_lconst (v := 0) C (by decide) dX9_back_2 ?_
  refine s_ldc2 (v := 2) C k_946 dX9_back_3 ?_
  obtain ⟨r2, M1, hq, h⟩ := bI_e h
  refine s_callS (As := [.long (x1).toInt64, .long (0 : Int64), .long (2 : Int64)]) (v := some (.int r2)) C rfl (by omega) wX9_77 rfl (Nat.le_of_ble_eq_true rfl) dX9_back_6 (tX9_within C.2.2.2.2.2.2.1 (by omega)  hq) ?_
  refine s_if_ne (tgt := 15) C h dX9_back_9 (by decide) ⟨fun h => ?_, fun h => ?_⟩
  · refine s_aload0 C dX9_back_15 ?_
    refine gX9_30 C ho dX9_back_16 ?_
    refine s_iload1 C dX9_back_19 ?_
    refine s_zald C (qX9_kept ho) h dX9_back_20 (fun h => ?_)
    refine s_if_ne (tgt := 27) C h dX9_back_21 (by decide) ⟨fun h => ?_, fun h => ?_⟩
    · refine s_aload0 C dX9_back_27 ?_
      refine gX9_23 C ho dX9_back_28 ?_
      refine s_aload0 C dX9_back_31 ?_
      refine gX9_26 C ho dX9_back_32 ?_
      refine s_iload1 C dX9_back_35 ?_
      have hib := (ck_e h).1
      refine s_aald C (qX9_images ho) h dX9_back_36 (fun h => ?_)
      obtain ⟨M3, hq, h⟩ := bV_e h
      refine s_callV (T := TX7) (As := [.ref (ad E ((o + 15) + 1 + 6 * tn x1))]) (v := none) C rfl (qX9_told ho) (by decide) rfl (by omega) wX9_85 rfl (Nat.le_of_ble_eq_true rfl) dX9_back_37 (tX7_copyFrom C.2.2.2.2.2.2.1 (by omega) (qX9_told ho) (q_img (qX9_images ho) hib) hq) ?_
      refine s_aload0 C dX9_back_40 ?_
      obtain ⟨M4, hq, h⟩ := bV_e h
      refine s_callV (T := TX9) (As := []) (v := none) C rfl ho (by decide) rfl (by omega) wX9_89 rfl (Nat.le_of_ble_eq_true rfl) dX9_back_41 (tX9_rebuild C.2.2.2.2.2.2.1 (by omega) ho hq) ?_
      refine s_iconst (v := 0) C (by decide) dX9_back_44 ?_
      exact s_iret C R h dX9_back_45
    · refine s_bipush (v := -6) C (by decide) dX9_back_24 ?_
      exact s_iret C R h dX9_back_26
  · refine s_bipush (v := -2) C (by decide) dX9_back_12 ?_
    exact s_iret C R h dX9_back_14
set_option maxRecDepth 4000 in
theorem tJ7_rangeCheck_23922 {l : Launch} {E : En} {A : Nat → Prop} {d : Nat} {M M' : Mem} {x0 : Int32} {x1 : Int32} {x2 : Int32} (hE : Okk E A) (hd : 0 ≤ d)  (h : fJ7_rangeCheck_23922 x0 x1 x2 M = some M') : Ct l E A d yJ7_rangeCheck_23922 cJ7_rangeCheck_23922 3 none [.int x0, .int x1, .int x2] M none M' := by
  refine Ct.mk (ls := [some (.int x0), some (.int x1), some (.int x2)]) hE (by decide +kernel) rfl (Nat.le_of_ble_eq_true rfl) (fun X hXl hXA C R => ?_)
  subst hXl; subst hXA
  unfold fJ7_rangeCheck_23922 at h
  refine s_iload1 C dJ7_rangeCheck_23922_0 ?_
  refine s_iload2 C dJ7_rangeCheck_23922_1 ?_
  refine s_ic_le (tgt := 46) C h dJ7_rangeCheck_23922_2 (by decide) ⟨fun h => ?_, fun h => ?_⟩
  · refine s_iload1 C dJ7_rangeCheck_23922_46 ?_
    refine s_if_ge (tgt := 59) C h dJ7_rangeCheck_23922_47 (by decide) ⟨fun h => ?_, fun h => ?_⟩
    · refine s_iload2 C dJ7_rangeCheck_23922_59 ?_
      refine s_iload0 C dJ7_rangeCheck_23922_60 ?_
      refine s_ic_le (tgt := 73) C h dJ7_rangeCheck_23922_61 (by decide) ⟨fun h => ?_, fun h => ?_⟩
      · exact s_vret C R h dJ7_rangeCheck_23922_73
      · cases h
    · cases h
  · cases h
set_option maxRecDepth 4000 in
theorem bJ7_fill_bad5a_10 {E : En} {X : Xc} {d : Nat} {M' : Mem} (C : Cx E X d cJ7_fill_bad5a RJ7 6) (R : Rt E X none none M') (hd : 1 ≤ d)   : ∀ (n : Nat) (c0 : Nat) (x2 : Int32) (l3 : Int64) (x5 : Int32) (M : Mem) (_ : kd c0 = (23, (kd c0).2)), fJ7_fill_bad5a_10  n c0 x2 l3 x5 M = some M' → At E X 10 [some (.ref (ad E c0)), none, some (.int x2), some (.long l3), none, some (.int x5)] [] M := by
  intro n
  induction n with
  | zero => intro c0 x2 l3 x5 M hc0 h; rw [fJ7_fill_bad5a_10] at h; cases h
  | succ n ih =>
    intro c0 x2 l3 x5 M hc0 h
    rw [fJ7_fill_bad5a_10] at h
    refine s_iload5 C dJ7_fill_bad5a_10 ?_
    refine s_iload2 C dJ7_fill_bad5a_12 ?_
    refine s_ic_ge (tgt := 27) C h dJ7_fill_bad5a_13 (by decide) ⟨fun h => ?_, fun h => ?_⟩
    · exact s_vret C R h dJ7_fill_bad5a_27
    · refine s_aload0 C dJ7_fill_bad5a_16 ?_
      refine s_iload5 C dJ7_fill_bad5a_17 ?_
      refine s_lload3 C dJ7_fill_bad5a_19 ?_
      refine s_last C hc0 h dJ7_fill_bad5a_20 (fun h => ?_)
      refine s_iinc5 (v := 1) C rfl dJ7_fill_bad5a_21 (by decide) ?_
      refine s_goto (tgt := 10) C dJ7_fill_bad5a_24 (by decide) ?_
      exact ih _ _ _ _ _ hc0 h
set_option maxRecDepth 4000 in
theorem tJ7_fill_bad5a {l : Launch} {E : En} {A : Nat → Prop} {d : Nat} {M M' : Mem} {c0 : Nat} {x1 : Int32} {x2 : Int32} {l3 : Int64} (hE : Okk E A) (hd : 1 ≤ d) (hc0 : kd c0 = (23, (kd c0).2)) (h : fJ7_fill_bad5a c0 x1 x2 l3 M = some M') : Ct l E A d yJ7_fill_bad5a cJ7_fill_bad5a 6 none [.ref (ad E c0), .int x1, .int x2, .long l3] M none M' := by
  refine Ct.mk (ls := [some (.ref (ad E c0)), some (.int x1), some (.int x2), some (.long l3), none, none]) hE (by decide +kernel) rfl (Nat.le_of_ble_eq_true rfl) (fun X hXl hXA C R => ?_)
  subst hXl; subst hXA
  unfold fJ7_fill_bad5a at h
  refine s_aload0 C dJ7_fill_bad5a_0 ?_
  refine s_alen23 C hc0 dJ7_fill_bad5a_1 ?_
  refine s_iload1 C dJ7_fill_bad5a_2 ?_
  refine s_iload2 C dJ7_fill_bad5a_3 ?_
  obtain ⟨M1, hq, h⟩ := bV_e h
  refine s_callS (As := [.int (nI (kd c0).2), .int x1, .int x2]) (v := none) C rfl (by omega) wJ7_13 rfl (Nat.le_of_ble_eq_true rfl) dJ7_fill_bad5a_4 (tJ7_rangeCheck_23922 C.2.2.2.2.2.2.1 (by omega)  hq) ?_
  refine s_iload1 C dJ7_fill_bad5a_7 ?_
  refine s_istore5 C rfl dJ7_fill_bad5a_8 ?_
  refine s_fg 1 ?_
  exact bJ7_fill_bad5a_10 C R hd  LF _ _ _ _ _ hc0 h
set_option maxRecDepth 4000 in
theorem tX5_renew {l : Launch} {E : En} {A : Nat → Prop} {d : Nat} {M M' : Mem} {o : Nat} {x1 : Int32} {x2 : Int32} {x3 : Int32} (hE : Okk E A) (hd : 2 ≤ d) (ho : kd o = (5, 0)) (h : fX5_renew o x1 x2 x3 M = some M') : Ct l E A d yX5_renew cX5_renew 4 none [.ref (ad E o), .int x1, .int x2, .int x3] M none M' := by
  refine Ct.mk (ls := [some (.ref (ad E o)), some (.int x1), some (.int x2), some (.int x3)]) hE (by decide +kernel) rfl (Nat.le_of_ble_eq_true rfl) (fun X hXl hXA C R => ?_)
  subst hXl; subst hXA
  unfold fX5_renew at h
  refine s_aload0 C dX5_renew_0 ?_
  refine gX5_9 C ho dX5_renew_1 ?_
  refine s_iload1 C dX5_renew_4 ?_
  refine s_iload2 C dX5_renew_5 ?_
  refine s_iast C (qX5_widths ho) h dX5_renew_6 (fun h => ?_)
  refine s_aload0 C dX5_renew_7 ?_
  refine gX5_15 C ho dX5_renew_8 ?_
  refine s_iload1 C dX5_renew_11 ?_
  refine s_iload3 C dX5_renew_12 ?_
  refine s_iast C (qX5_lengths ho) h dX5_renew_13 (fun h => ?_)
  refine s_aload0 C dX5_renew_14 ?_
  refine gX5_18 C ho dX5_renew_15 ?_
  refine s_bipush (v := 60) C (by decide) dX5_renew_18 ?_
  refine s_iload1 C dX5_renew_20 ?_
  refine s_imul C dX5_renew_21 ?_
  refine s_bipush (v := 60) C (by decide) dX5_renew_22 ?_
  refine s_iload1 C dX5_renew_24 ?_
  refine s_iconst (v := 1) C (by decide) dX5_renew_25 ?_
  refine s_iadd C dX5_renew_26 ?_
  refine s_imul C dX5_renew_27 ?_
  refine s_lconst (v := 0) C (by decide) dX5_renew_28 ?_
  obtain ⟨M1, hq, h⟩ := bV_e h
  refine s_callS (As := [.ref (ad E (o + 3)), .int ((60 : Int32) * x1), .int ((60 : Int32) * (x1 + (1 : Int32))), .long (0 : Int64)]) (v := none) C rfl (by omega) wX5_32 rfl (Nat.le_of_ble_eq_true rfl) dX5_renew_29 (tJ7_fill_bad5a C.2.2.2.2.2.2.1 (by omega) (kd_any (qX5_numbers ho)) hq) ?_
  exact s_vret C R h dX5_renew_32
set_option maxRecDepth 4000 in
theorem tX9_row {l : Launch} {E : En} {A : Nat → Prop} {d : Nat} {r : Int32} {M M' : Mem} {o : Nat} {x1 : Int32} {x2 : Int32} {x3 : Int32} (hE : Okk E A) (hd : 3 ≤ d) (ho : kd o = (9, 0)) (h : fX9_row o x1 x2 x3 M = some (r, M')) : Ct l E A d yX9_row cX9_row 4 (some .int) [.ref (ad E o), .int x1, .int x2, .int x3] M (some (.int r)) M' := by
  refine Ct.mk (ls := [some (.ref (ad E o)), some (.int x1), some (.int x2), some (.int x3)]) hE (by decide +kernel) rfl (Nat.le_of_ble_eq_true rfl) (fun X hXl hXA C R => ?_)
  subst hXl; subst hXA
  unfold fX9_row at h
  refine s_iload1 C dX9_row_0 ?_
  obtain ⟨r2, M1, hq, h⟩ := bI_e h
  refine s_callS (As := [.int x1]) (v := some (.int r2)) C rfl (by omega) wX9_341 rfl (Nat.le_of_ble_eq_true rfl) dX9_row_1 (tX9_isSlot C.2.2.2.2.2.2.1 (by omega)  hq) ?_
  refine s_if_eq (tgt := 23) C h dX9_row_4 (by decide) ⟨fun h => ?_, fun h => ?_⟩
  · refine s_bipush (v := -2) C (by decide) dX9_row_23 ?_
    exact s_iret C R h dX9_row_25
  · refine s_iload2 C dX9_row_7 ?_
    refine s_i2l C dX9_row_8 ?_
    refine s_lconst (v := 0) C (by decide) dX9_row_9 ?_
    refine s_lconst (v := 1) C (by decide) dX9_row_10 ?_
    obtain ⟨r4, M3, hq, h⟩ := bI_e h
    refine s_callS (As := [.long (x2).toInt64, .long (0 : Int64), .long (1 : Int64)]) (v := some (.int r4)) C rfl (by omega) wX9_77 rfl (Nat.le_of_ble_eq_true rfl) dX9_row_11 (tX9_within C.2.2.2.2.2.2.1 (by omega)  hq) ?_
    refine s_if_eq (tgt := 23) C h dX9_row_14 (by decide) ⟨fun h => ?_, fun h => ?_⟩
    · refine s_bipush (v := -2) C (by decide) dX9_row_23 ?_
      exact s_iret C R h dX9_row_25
    · refine s_iload3 C dX9_row_17 ?_
      refine s_bipush (v := 60) C (by decide) dX9_row_18 ?_
      refine s_ic_le (tgt := 26) C h dX9_row_20 (by decide) ⟨fun h => ?_, fun h => ?_⟩
      · refine s_iload3 C dX9_row_26 ?_
        refine s_if_ge (tgt := 33) C h dX9_row_27 (by decide) ⟨fun h => ?_, fun h => ?_⟩
        · refine s_aload0 C dX9_row_33 ?_
          refine gX9_65 C ho dX9_row_34 ?_
          refine s_iload1 C dX9_row_37 ?_
          refine s_iload2 C dX9_row_38 ?_
          refine s_iload3 C dX9_row_39 ?_
          obtain ⟨M5, hq, h⟩ := bV_e h
          refine s_callV (T := TX5) (As := [.int x1, .int x2, .int x3]) (v := none) C rfl (qX9_slots ho) (by decide) rfl (by omega) wX9_389 rfl (Nat.le_of_ble_eq_true rfl) dX9_row_40 (tX5_renew C.2.2.2.2.2.2.1 (by omega) (qX9_slots ho) hq) ?_
          refine s_iconst (v := 0) C (by decide) dX9_row_43 ?_
          exact s_iret C R h dX9_row_44
        · refine s_bipush (v := -3) C (by decide) dX9_row_30 ?_
          exact s_iret C R h dX9_row_32
      · refine s_bipush (v := -2) C (by decide) dX9_row_23 ?_
        exact s_iret C R h dX9_row_25
set_option maxRecDepth 4000 in
theorem tX5_set {l : Launch} {E : En} {A : Nat → Prop} {d : Nat} {M M' : Mem} {o : Nat} {x1 : Int32} {x2 : Int32} {l3 : Int64} (hE : Okk E A) (hd : 0 ≤ d) (ho : kd o = (5, 0)) (h : fX5_set o x1 x2 l3 M = some M') : Ct l E A d yX5_set cX5_set 5 none [.ref (ad E o), .int x1, .int x2, .long l3] M none M' := by
  refine Ct.mk (ls := [some (.ref (ad E o)), some (.int x1), some (.int x2), some (.long l3), none]) hE (by decide +kernel) rfl (Nat.le_of_ble_eq_true rfl) (fun X hXl hXA C R => ?_)
  subst hXl; subst hXA
  unfold fX5_set at h
  refine s_aload0 C dX5_set_0 ?_
  refine gX5_18 C ho dX5_set_1 ?_
  refine s_bipush (v := 60) C (by decide) dX5_set_4 ?_
  refine s_iload1 C dX5_set_6 ?_
  refine s_imul C dX5_set_7 ?_
  refine s_iload2 C dX5_set_8 ?_
  refine s_iadd C dX5_set_9 ?_
  refine s_aload0 C dX5_set_10 ?_
  refine gX5_9 C ho dX5_set_11 ?_
  refine s_iload1 C dX5_set_14 ?_
  refine s_iald C (qX5_widths ho) h dX5_set_15 (fun h => ?_)
  refine s_if_ne (tgt := 25) C h dX5_set_16 (by decide) ⟨fun h => ?_, fun h => ?_⟩
  · refine s_lload3 C dX5_set_25 ?_
    refine s_last C (qX5_numbers ho) h dX5_set_26 (fun h => ?_)
    exact s_vret C R h dX5_set_27
  · refine s_lload3 C dX5_set_19 ?_
    refine s_l2i C dX5_set_20 ?_
    refine s_i2l C dX5_set_21 ?_
    refine s_goto (tgt := 26) C dX5_set_22 (by decide) ?_
    refine s_last C (qX5_numbers ho) h dX5_set_26 (fun h => ?_)
    exact s_vret C R h dX5_set_27
set_option maxRecDepth 4000 in
theorem tX9_write {l : Launch} {E : En} {A : Nat → Prop} {d : Nat} {r : Int32} {M M' : Mem} {o : Nat} {x1 : Int32} {x2 : Int32} {l3 : Int64} (hE : Okk E A) (hd : 2 ≤ d) (ho : kd o = (9, 0)) (h : fX9_write o x1 x2 l3 M = some (r, M')) : Ct l E A d yX9_write cX9_write 5 (some .int) [.ref (ad E o), .int x1, .int x2, .long l3] M (some (.int r)) M' := by
  refine Ct.mk (ls := [some (.ref (ad E o)), some (.int x1), some (.int x2), some (.long l3), none]) hE (by decide +kernel) rfl (Nat.le_of_ble_eq_true rfl) (fun X hXl hXA C R => ?_)
  subst hXl; subst hXA
  unfold fX9_write at h
  refine s_iload1 C dX9_write_0 ?_
  obtain ⟨r2, M1, hq, h⟩ := bI_e h
  refine s_callS (As := [.int x1]) (v := some (.int r2)) C rfl (by omega) wX9_341 rfl (Nat.le_of_ble_eq_true rfl) dX9_write_1 (tX9_isSlot C.2.2.2.2.2.2.1 (by omega)  hq) ?_
  refine s_if_ne (tgt := 10) C h dX9_write_4 (by decide) ⟨fun h => ?_, fun h => ?_⟩
  · refine s_aload0 C dX9_write_10 ?_
    refine gX9_65 C ho dX9_write_11 ?_
    refine s_iload1 C dX9_write_14 ?_
    obtain ⟨r4, M3, hq, h⟩ := bI_e h
    refine s_callV (T := TX5) (As := [.int x1]) (v := some (.int r4)) C rfl (qX9_slots ho) (by decide) rfl (by omega) wX9_344 rfl (Nat.le_of_ble_eq_true rfl) dX9_write_15 (tX5_hasRow C.2.2.2.2.2.2.1 (by omega) (qX9_slots ho) hq) ?_
    refine s_if_ne (tgt := 24) C h dX9_write_18 (by decide) ⟨fun h => ?_, fun h => ?_⟩
    · refine s_iload2 C dX9_write_24 ?_
      refine s_i2l C dX9_write_25 ?_
      refine s_lconst (v := 0) C (by decide) dX9_write_26 ?_
      refine s_aload0 C dX9_write_27 ?_
      refine gX9_65 C ho dX9_write_28 ?_
      refine gX9_353 C (qX9_slots ho) dX9_write_31 ?_
      refine s_iload1 C dX9_write_34 ?_
      refine s_iald C (qX5_lengths (qX9_slots ho)) h dX9_write_35 (fun h => ?_)
      refine s_iconst (v := 1) C (by decide) dX9_write_36 ?_
      refine s_isub C dX9_write_37 ?_
      refine s_i2l C dX9_write_38 ?_
      obtain ⟨r6, M5, hq, h⟩ := bI_e h
      refine s_callS (As := [.long (x2).toInt64, .long (0 : Int64), .long (((M3.1 ((o + 76) + 2) (tn x1)) - (1 : Int32))).toInt64]) (v := some (.int r6)) C rfl (by omega) wX9_77 rfl (Nat.le_of_ble_eq_true rfl) dX9_write_39 (tX9_within C.2.2.2.2.2.2.1 (by omega)  hq) ?_
      refine s_if_ne (tgt := 48) C h dX9_write_42 (by decide) ⟨fun h => ?_, fun h => ?_⟩
      · refine s_aload0 C dX9_write_48 ?_
        refine gX9_65 C ho dX9_write_49 ?_
        refine s_iload1 C dX9_write_52 ?_
        refine s_iload2 C dX9_write_53 ?_
        refine s_lload3 C dX9_write_54 ?_
        obtain ⟨M7, hq, h⟩ := bV_e h
        refine s_callV (T := TX5) (As := [.int x1, .int x2, .long l3]) (v := none) C rfl (qX9_slots ho) (by decide) rfl (by omega) wX9_392 rfl (Nat.le_of_ble_eq_true rfl) dX9_write_55 (tX5_set C.2.2.2.2.2.2.1 (by omega) (qX9_slots ho) hq) ?_
        refine s_iconst (v := 0) C (by decide) dX9_write_58 ?_
        exact s_iret C R h dX9_write_59
      · refine s_bipush (v := -7) C (by decide) dX9_write_45 ?_
        exact s_iret C R h dX9_write_47
    · refine s_bipush (v := -6) C (by decide) dX9_write_21 ?_
      exact s_iret C R h dX9_write_23
  · refine s_bipush (v := -2) C (by decide) dX9_write_7 ?_
    exact s_iret C R h dX9_write_9
set_option maxRecDepth 4000 in
theorem tX9_number {l : Launch} {E : En} {A : Nat → Prop} {d : Nat} {r : Int64} {M M' : Mem} {o : Nat} {x1 : Int32} {x2 : Int32} (hE : Okk E A) (hd : 2 ≤ d) (ho : kd o = (9, 0)) (h : fX9_number o x1 x2 M = some (r, M')) : Ct l E A d yX9_number cX9_number 3 (some .long) [.ref (ad E o), .int x1, .int x2] M (some (.long r)) M' := by
  refine Ct.mk (ls := [some (.ref (ad E o)), some (.int x1), some (.int x2)]) hE (by decide +kernel) rfl (Nat.le_of_ble_eq_true rfl) (fun X hXl hXA C R => ?_)
  subst hXl; subst hXA
  unfold fX9_number at h
  refine s_iload1 C dX9_number_0 ?_
  obtain ⟨r2, M1, hq, h⟩ := bI_e h
  refine s_callS (As := [.int x1]) (v := some (.int r2)) C rfl (by omega) wX9_341 rfl (Nat.le_of_ble_eq_true rfl) dX9_number_1 (tX9_isSlot C.2.2.2.2.2.2.1 (by omega)  hq) ?_
  refine s_if_eq (tgt := 28) C h dX9_number_4 (by decide) ⟨fun h => ?_, fun h => ?_⟩
  · refine s_ldc2 (v := -1000) C k_1237 dX9_number_28 ?_
    exact s_lret C R h dX9_number_31
  · refine s_iload2 C dX9_number_7 ?_
    refine s_i2l C dX9_number_8 ?_
    refine s_lconst (v := 0) C (by decide) dX9_number_9 ?_
    refine s_aload0 C dX9_number_10 ?_
    refine gX9_65 C ho dX9_number_11 ?_
    refine gX9_353 C (qX9_slots ho) dX9_number_14 ?_
    refine s_iload1 C dX9_number_17 ?_
    refine s_iald C (qX5_lengths (qX9_slots ho)) h dX9_number_18 (fun h => ?_)
    refine s_iconst (v := 1) C (by decide) dX9_number_19 ?_
    refine s_isub C dX9_number_20 ?_
    refine s_i2l C dX9_number_21 ?_
    obtain ⟨r4, M3, hq, h⟩ := bI_e h
    refine s_callS (As := [.long (x2).toInt64, .long (0 : Int64), .long (((M1.1 ((o + 76) + 2) (tn x1)) - (1 : Int32))).toInt64]) (v := some (.int r4)) C rfl (by omega) wX9_77 rfl (Nat.le_of_ble_eq_true rfl) dX9_number_22 (tX9_within C.2.2.2.2.2.2.1 (by omega)  hq) ?_
    refine s_if_ne (tgt := 32) C h dX9_number_25 (by decide) ⟨fun h => ?_, fun h => ?_⟩
    · refine s_aload0 C dX9_number_32 ?_
      refine gX9_65 C ho dX9_number_33 ?_
      refine s_iload1 C dX9_number_36 ?_
      refine s_iload2 C dX9_number_37 ?_
      obtain ⟨r6, M5, hq, h⟩ := bL_e h
      refine s_callV (T := TX5) (As := [.int x1, .int x2]) (v := some (.long r6)) C rfl (qX9_slots ho) (by decide) rfl (by omega) wX9_354 rfl (Nat.le_of_ble_eq_true rfl) dX9_number_38 (tX5_at C.2.2.2.2.2.2.1 (by omega) (qX9_slots ho) hq) ?_
      exact s_lret C R h dX9_number_41
    · refine s_ldc2 (v := -1000) C k_1237 dX9_number_28 ?_
      exact s_lret C R h dX9_number_31
set_option maxRecDepth 4000 in
theorem tX10_in {l : Launch} {E : En} {A : Nat → Prop} {d : Nat} {r : Int32} {M M' : Mem} {l0 : Int64} {l2 : Int64} {l4 : Int64} (hE : Okk E A) (hd : 0 ≤ d)  (h : fX10_in l0 l2 l4 M = some (r, M')) : Ct l E A d yX10_in cX10_in 6 (some .boolean) [.long l0, .long l2, .long l4] M (some (.int r)) M' := by
  refine Ct.mk (ls := [some (.long l0), none, some (.long l2), none, some (.long l4), none]) hE (by decide +kernel) rfl (Nat.le_of_ble_eq_true rfl) (fun X hXl hXA C R => ?_)
  subst hXl; subst hXA
  unfold fX10_in at h
  refine s_lload0 C dX10_in_0 ?_
  refine s_lload2 C dX10_in_1 ?_
  refine s_lcmp C dX10_in_2 ?_
  refine s_if_lt (tgt := 17) C h dX10_in_3 (by decide) ⟨fun h => ?_, fun h => ?_⟩
  · refine s_iconst (v := 0) C (by decide) dX10_in_17 ?_
    exact s_zret C R h rfl dX10_in_18
  · refine s_lload0 C dX10_in_6 ?_
    refine s_lload4 C dX10_in_7 ?_
    refine s_lcmp C dX10_in_9 ?_
    refine s_if_gt (tgt := 17) C h dX10_in_10 (by decide) ⟨fun h => ?_, fun h => ?_⟩
    · refine s_iconst (v := 0) C (by decide) dX10_in_17 ?_
      exact s_zret C R h rfl dX10_in_18
    · refine s_iconst (v := 1) C (by decide) dX10_in_13 ?_
      refine s_goto (tgt := 18) C dX10_in_14 (by decide) ?_
      exact s_zret C R h rfl dX10_in_18
set_option maxRecDepth 4000 in
theorem tX10_between {l : Launch} {E : En} {A : Nat → Prop} {d : Nat} {r : Int32} {M M' : Mem} {x0 : Int32} {x1 : Int32} {x2 : Int32} (hE : Okk E A) (hd : 1 ≤ d)  (h : fX10_between x0 x1 x2 M = some (r, M')) : Ct l E A d yX10_between cX10_between 3 (some .int) [.int x0, .int x1, .int x2] M (some (.int r)) M' := by
  refine Ct.mk (ls := [some (.int x0), some (.int x1), some (.int x2)]) hE (by decide +kernel) rfl (Nat.le_of_ble_eq_true rfl) (fun X hXl hXA C R => ?_)
  subst hXl; subst hXA
  unfold fX10_between at h
  refine s_iload1 C dX10_between_0 ?_
  refine s_iload2 C dX10_between_1 ?_
  refine s_iload0 C dX10_between_2 ?_
  refine s_min C rfl (by omega) wX10_128 (Nat.le_of_ble_eq_true rfl) dX10_between_3 ?_
  refine s_max C rfl (by omega) wX10_134 (Nat.le_of_ble_eq_true rfl) dX10_between_6 ?_
  exact s_iret C R h dX10_between_9
set_option maxRecDepth 4000 in
theorem bX10_image_17 {E : En} {X : Xc} {d : Nat} {r : Int32} {M' : Mem} (C : Cx E X d cX10_image RX10 3) (R : Rt E X (some .int) (some (.int r)) M') (hd : 1 ≤ d)   : ∀ (n : Nat) (o : Nat) (x1 : Int32) (x2 : Int32) (M : Mem) (_ : kd o = (10, 0)), fX10_image_17  n o x1 x2 M = some (r, M') → At E X 17 [some (.ref (ad E o)), some (.int x1), some (.int x2)] [] M := by
  intro n
  induction n with
  | zero => intro o x1 x2 M ho h; rw [fX10_image_17] at h; cases h
  | succ n ih =>
    intro o x1 x2 M ho h
    rw [fX10_image_17] at h
    refine s_iload2 C dX10_image_17 ?_
    refine s_sipush (v := 215) C (by decide) dX10_image_18 ?_
    refine s_ic_ge (tgt := 48) C h dX10_image_21 (by decide) ⟨fun h => ?_, fun h => ?_⟩
    · refine s_aload0 C dX10_image_48 ?_
      refine gX10_16 C ho dX10_image_49 ?_
      refine s_iload1 C dX10_image_52 ?_
      refine s_iconst (v := 1) C (by decide) dX10_image_53 ?_
      refine s_zast C (qX10_hasImage ho) h dX10_image_54 (fun h => ?_)
      refine s_iconst (v := 0) C (by decide) dX10_image_55 ?_
      exact s_iret C R h dX10_image_56
    · refine s_aload0 C dX10_image_24 ?_
      refine gX10_13 C ho dX10_image_25 ?_
      refine s_sipush (v := 215) C (by decide) dX10_image_28 ?_
      refine s_iload1 C dX10_image_31 ?_
      refine s_imul C dX10_image_32 ?_
      refine s_iload2 C dX10_image_33 ?_
      refine s_iadd C dX10_image_34 ?_
      refine s_aload0 C dX10_image_35 ?_
      refine gX10_9 C ho dX10_image_36 ?_
      refine s_iload2 C dX10_image_39 ?_
      refine s_iald C (qX10_world ho) h dX10_image_40 (fun h => ?_)
      refine s_iast C (qX10_images ho) h dX10_image_41 (fun h => ?_)
      refine s_iinc2 (v := 1) C rfl dX10_image_42 (by decide) ?_
      refine s_goto (tgt := 17) C dX10_image_45 (by decide) ?_
      exact ih _ _ _ _ ho h
set_option maxRecDepth 4000 in
theorem tX10_image {l : Launch} {E : En} {A : Nat → Prop} {d : Nat} {r : Int32} {M M' : Mem} {o : Nat} {x1 : Int32} (hE : Okk E A) (hd : 1 ≤ d) (ho : kd o = (10, 0)) (h : fX10_image o x1 M = some (r, M')) : Ct l E A d yX10_image cX10_image 3 (some .int) [.ref (ad E o), .int x1] M (some (.int r)) M' := by
  refine Ct.mk (ls := [some (.ref (ad E o)), some (.int x1), none]) hE (by decide +kernel) rfl (Nat.le_of_ble_eq_true rfl) (fun X hXl hXA C R => ?_)
  subst hXl; subst hXA
  unfold fX10_image at h
  refine s_iload1 C dX10_image_0 ?_
  refine s_i2l C dX10_image_1 ?_
  refine s_lconst (v := 0) C (by decide) dX10_image_2 ?_
  refine s_ldc2 (v := 2) C k_1449 dX10_image_3 ?_
  obtain ⟨r2, M1, hq, h⟩ := bI_e h
  refine s_callS (As := [.long (x1).toInt64, .long (0 : Int64), .long (2 : Int64)]) (v := some (.int r2)) C rfl (by omega) wX10_139 rfl (Nat.le_of_ble_eq_true rfl) dX10_image_6 (tX10_in C.2.2.2.2.2.2.1 (by omega)  hq) ?_
  refine s_if_ne (tgt := 15) C h dX10_image_9 (by decide) ⟨fun h => ?_, fun h => ?_⟩
  · refine s_iconst (v := 0) C (by decide) dX10_image_15 ?_
    refine s_istore2 C rfl dX10_image_16 ?_
    exact bX10_image_17 C R hd  LF _ _ _ _ ho h
  · refine s_bipush (v := -2) C (by decide) dX10_image_12 ?_
    exact s_iret C R h dX10_image_14
set_option maxRecDepth 4000 in
theorem bX10_back_29 {E : En} {X : Xc} {d : Nat} {r : Int32} {M' : Mem} (C : Cx E X d cX10_back RX10 3) (R : Rt E X (some .int) (some (.int r)) M') (hd : 1 ≤ d)   : ∀ (n : Nat) (o : Nat) (x1 : Int32) (x2 : Int32) (M : Mem) (_ : kd o = (10, 0)), fX10_back_29  n o x1 x2 M = some (r, M') → At E X 29 [some (.ref (ad E o)), some (.int x1), some (.int x2)] [] M := by
  intro n
  induction n with
  | zero => intro o x1 x2 M ho h; rw [fX10_back_29] at h; cases h
  | succ n ih =>
    intro o x1 x2 M ho h
    rw [fX10_back_29] at h
    refine s_iload2 C dX10_back_29 ?_
    refine s_sipush (v := 215) C (by decide) dX10_back_30 ?_
    refine s_ic_ge (tgt := 60) C h dX10_back_33 (by decide) ⟨fun h => ?_, fun h => ?_⟩
    · refine s_iconst (v := 0) C (by decide) dX10_back_60 ?_
      exact s_iret C R h dX10_back_61
    · refine s_aload0 C dX10_back_36 ?_
      refine gX10_9 C ho dX10_back_37 ?_
      refine s_iload2 C dX10_back_40 ?_
      refine s_aload0 C dX10_back_41 ?_
      refine gX10_13 C ho dX10_back_42 ?_
      refine s_sipush (v := 215) C (by decide) dX10_back_45 ?_
      refine s_iload1 C dX10_back_48 ?_
      refine s_imul C dX10_back_49 ?_
      refine s_iload2 C dX10_back_50 ?_
      refine s_iadd C dX10_back_51 ?_
      refine s_iald C (qX10_images ho) h dX10_back_52 (fun h => ?_)
      refine s_iast C (qX10_world ho) h dX10_back_53 (fun h => ?_)
      refine s_iinc2 (v := 1) C rfl dX10_back_54 (by decide) ?_
      refine s_goto (tgt := 29) C dX10_back_57 (by decide) ?_
      exact ih _ _ _ _ ho h
set_option maxRecDepth 4000 in
theorem tX10_back {l : Launch} {E : En} {A : Nat → Prop} {d : Nat} {r : Int32} {M M' : Mem} {o : Nat} {x1 : Int32} (hE : Okk E A) (hd : 1 ≤ d) (ho : kd o = (10, 0)) (h : fX10_back o x1 M = some (r, M')) : Ct l E A d yX10_back cX10_back 3 (some .int) [.ref (ad E o), .int x1] M (some (.int r)) M' := by
  refine Ct.mk (ls := [some (.ref (ad E o)), some (.int x1), none]) hE (by decide +kernel) rfl (Nat.le_of_ble_eq_true rfl) (fun X hXl hXA C R => ?_)
  subst hXl; subst hXA
  unfold fX10_back at h
  refine s_iload1 C dX10_back_0 ?_
  refine s_i2l C dX10_back_1 ?_
  refine s_lconst (v := 0) C (by decide) dX10_back_2 ?_
  refine s_ldc2 (v := 2) C k_1449 dX10_back_3 ?_
  obtain ⟨r2, M1, hq, h⟩ := bI_e h
  refine s_callS (As := [.long (x1).toInt64, .long (0 : Int64), .long (2 : Int64)]) (v := some (.int r2)) C rfl (by omega) wX10_139 rfl (Nat.le_of_ble_eq_true rfl) dX10_back_6 (tX10_in C.2.2.2.2.2.2.1 (by omega)  hq) ?_
  refine s_if_ne (tgt := 15) C h dX10_back_9 (by decide) ⟨fun h => ?_, fun h => ?_⟩
  · refine s_aload0 C dX10_back_15 ?_
    refine gX10_16 C ho dX10_back_16 ?_
    refine s_iload1 C dX10_back_19 ?_
    refine s_zald C (qX10_hasImage ho) h dX10_back_20 (fun h => ?_)
    refine s_if_ne (tgt := 27) C h dX10_back_21 (by decide) ⟨fun h => ?_, fun h => ?_⟩
    · refine s_iconst (v := 0) C (by decide) dX10_back_27 ?_
      refine s_istore2 C rfl dX10_back_28 ?_
      exact bX10_back_29 C R hd  LF _ _ _ _ ho h
    · refine s_bipush (v := -6) C (by decide) dX10_back_24 ?_
      exact s_iret C R h dX10_back_26
  · refine s_bipush (v := -2) C (by decide) dX10_back_12 ?_
    exact s_iret C R h dX10_back_14
