set_option maxRecDepth 4000 in
theorem bX3_append_3 {E : En} {X : Xc} {d : Nat} {M' : Mem} (C : Cx E X d cX3_append RX3 3) (R : Rt E X none none M') (hd : 0 ≤ d)   : ∀ (n : Nat) (o : Nat) (x1 : Int32) (x2 : Int32) (M : Mem) (_ : kd o = (3, 0)), fX3_append_3  n o x1 x2 M = some M' → At E X 3 [some (.ref (ad E o)), some (.int x1), some (.int x2)] [] M := by
  intro n
  induction n with
  | zero => intro o x1 x2 M ho h; rw [fX3_append_3] at h; cases h
  | succ n ih =>
    intro o x1 x2 M ho h
    rw [fX3_append_3] at h
    refine s_iload2 C dX3_append_3 ?_
    refine s_if_lt (tgt := 36) C h dX3_append_4 (by decide) ⟨fun h => ?_, fun h => ?_⟩
    · exact s_vret C R h dX3_append_36
    · refine s_aload0 C dX3_append_7 ?_
      refine gX3_9 C ho dX3_append_8 ?_
      refine s_aload0 C dX3_append_11 ?_
      refine gX3_19 C ho dX3_append_12 ?_
      refine s_iload1 C dX3_append_15 ?_
      refine s_iload2 C dX3_append_16 ?_
      refine s_ishr C dX3_append_17 ?_
      refine s_i2b C dX3_append_18 ?_
      refine s_bast C (qX3_bytes ho) h dX3_append_19 (fun h => ?_)
      refine s_aload0 C dX3_append_20 ?_
      refine s_dup C rfl dX3_append_21 ?_
      refine gX3_19 C ho dX3_append_22 ?_
      refine s_iconst (v := 1) C (by decide) dX3_append_25 ?_
      refine s_iadd C dX3_append_26 ?_
      refine pX3_19 C ho dX3_append_27 ?_
      refine s_iinc2 (v := -8) C rfl dX3_append_30 (by decide) ?_
      refine s_goto (tgt := 3) C dX3_append_33 (by decide) ?_
      exact ih _ _ _ _ ho h
set_option maxRecDepth 4000 in
theorem tX3_append {l : Launch} {E : En} {A : Nat → Prop} {d : Nat} {M M' : Mem} {o : Nat} {x1 : Int32} (hE : Okk E A) (hd : 0 ≤ d) (ho : kd o = (3, 0)) (h : fX3_append o x1 M = some M') : Ct l E A d yX3_append cX3_append 3 none [.ref (ad E o), .int x1] M none M' := by
  refine Ct.mk (ls := [some (.ref (ad E o)), some (.int x1), none]) hE (by decide +kernel) rfl (Nat.le_of_ble_eq_true rfl) (fun X hXl hXA C R => ?_)
  subst hXl; subst hXA
  unfold fX3_append at h
  refine s_bipush (v := 24) C (by decide) dX3_append_0 ?_
  refine s_istore2 C rfl dX3_append_2 ?_
  exact bX3_append_3 C R hd  LF _ _ _ _ ho h
set_option maxRecDepth 4000 in
theorem tX9_feed {l : Launch} {E : En} {A : Nat → Prop} {d : Nat} {r : Int32} {M M' : Mem} {o : Nat} {x1 : Int32} {x2 : Int32} {x3 : Int32} {x4 : Int32} {x5 : Int32} (hE : Okk E A) (hd : 1 ≤ d) (ho : kd o = (9, 0)) (h : fX9_feed o x1 x2 x3 x4 x5 M = some (r, M')) : Ct l E A d yX9_feed cX9_feed 6 (some .int) [.ref (ad E o), .int x1, .int x2, .int x3, .int x4, .int x5] M (some (.int r)) M' := by
  refine Ct.mk (ls := [some (.ref (ad E o)), some (.int x1), some (.int x2), some (.int x3), some (.int x4), some (.int x5)]) hE (by decide +kernel) rfl (Nat.le_of_ble_eq_true rfl) (fun X hXl hXA C R => ?_)
  subst hXl; subst hXA
  unfold fX9_feed at h
  refine s_aload0 C dX9_feed_0 ?_
  refine gX9_12 C ho dX9_feed_1 ?_
  refine gX9_69 C (qX9_reader ho) dX9_feed_4 ?_
  refine s_bipush (v := 20) C (by decide) dX9_feed_7 ?_
  refine s_iadd C dX9_feed_9 ?_
  refine s_sipush (v := 800) C (by decide) dX9_feed_10 ?_
  refine s_ic_le (tgt := 18) C h dX9_feed_13 (by decide) ⟨fun h => ?_, fun h => ?_⟩
  · refine s_aload0 C dX9_feed_18 ?_
    refine gX9_12 C ho dX9_feed_19 ?_
    refine s_iload1 C dX9_feed_22 ?_
    obtain ⟨M1, hq, h⟩ := bV_e h
    refine s_callV (T := TX3) (As := [.int x1]) (v := none) C rfl (qX9_reader ho) (by decide) rfl (by omega) wX9_73 rfl (Nat.le_of_ble_eq_true rfl) dX9_feed_23 (tX3_append C.2.2.2.2.2.2.1 (by omega) (qX9_reader ho) hq) ?_
    refine s_aload0 C dX9_feed_26 ?_
    refine gX9_12 C ho dX9_feed_27 ?_
    refine s_iload2 C dX9_feed_30 ?_
    obtain ⟨M2, hq, h⟩ := bV_e h
    refine s_callV (T := TX3) (As := [.int x2]) (v := none) C rfl (qX9_reader ho) (by decide) rfl (by omega) wX9_73 rfl (Nat.le_of_ble_eq_true rfl) dX9_feed_31 (tX3_append C.2.2.2.2.2.2.1 (by omega) (qX9_reader ho) hq) ?_
    refine s_aload0 C dX9_feed_34 ?_
    refine gX9_12 C ho dX9_feed_35 ?_
    refine s_iload3 C dX9_feed_38 ?_
    obtain ⟨M3, hq, h⟩ := bV_e h
    refine s_callV (T := TX3) (As := [.int x3]) (v := none) C rfl (qX9_reader ho) (by decide) rfl (by omega) wX9_73 rfl (Nat.le_of_ble_eq_true rfl) dX9_feed_39 (tX3_append C.2.2.2.2.2.2.1 (by omega) (qX9_reader ho) hq) ?_
    refine s_aload0 C dX9_feed_42 ?_
    refine gX9_12 C ho dX9_feed_43 ?_
    refine s_iload4 C dX9_feed_46 ?_
    obtain ⟨M4, hq, h⟩ := bV_e h
    refine s_callV (T := TX3) (As := [.int x4]) (v := none) C rfl (qX9_reader ho) (by decide) rfl (by omega) wX9_73 rfl (Nat.le_of_ble_eq_true rfl) dX9_feed_48 (tX3_append C.2.2.2.2.2.2.1 (by omega) (qX9_reader ho) hq) ?_
    refine s_aload0 C dX9_feed_51 ?_
    refine gX9_12 C ho dX9_feed_52 ?_
    refine s_iload5 C dX9_feed_55 ?_
    obtain ⟨M5, hq, h⟩ := bV_e h
    refine s_callV (T := TX3) (As := [.int x5]) (v := none) C rfl (qX9_reader ho) (by decide) rfl (by omega) wX9_73 rfl (Nat.le_of_ble_eq_true rfl) dX9_feed_57 (tX3_append C.2.2.2.2.2.2.1 (by omega) (qX9_reader ho) hq) ?_
    refine s_aload0 C dX9_feed_60 ?_
    refine gX9_12 C ho dX9_feed_61 ?_
    refine gX9_69 C (qX9_reader ho) dX9_feed_64 ?_
    exact s_iret C R h dX9_feed_67
  · refine s_iconst (v := -1) C (by decide) dX9_feed_16 ?_
    exact s_iret C R h dX9_feed_17
set_option maxRecDepth 4000 in
theorem tX9_within {l : Launch} {E : En} {A : Nat → Prop} {d : Nat} {r : Int32} {M M' : Mem} {l0 : Int64} {l2 : Int64} {l4 : Int64} (hE : Okk E A) (hd : 0 ≤ d)  (h : fX9_within l0 l2 l4 M = some (r, M')) : Ct l E A d yX9_within cX9_within 6 (some .boolean) [.long l0, .long l2, .long l4] M (some (.int r)) M' := by
  refine Ct.mk (ls := [some (.long l0), none, some (.long l2), none, some (.long l4), none]) hE (by decide +kernel) rfl (Nat.le_of_ble_eq_true rfl) (fun X hXl hXA C R => ?_)
  subst hXl; subst hXA
  unfold fX9_within at h
  refine s_lload0 C dX9_within_0 ?_
  refine s_lload2 C dX9_within_1 ?_
  refine s_lcmp C dX9_within_2 ?_
  refine s_if_lt (tgt := 17) C h dX9_within_3 (by decide) ⟨fun h => ?_, fun h => ?_⟩
  · refine s_iconst (v := 0) C (by decide) dX9_within_17 ?_
    exact s_zret C R h rfl dX9_within_18
  · refine s_lload0 C dX9_within_6 ?_
    refine s_lload4 C dX9_within_7 ?_
    refine s_lcmp C dX9_within_9 ?_
    refine s_if_gt (tgt := 17) C h dX9_within_10 (by decide) ⟨fun h => ?_, fun h => ?_⟩
    · refine s_iconst (v := 0) C (by decide) dX9_within_17 ?_
      exact s_zret C R h rfl dX9_within_18
    · refine s_iconst (v := 1) C (by decide) dX9_within_13 ?_
      refine s_goto (tgt := 18) C dX9_within_14 (by decide) ?_
      exact s_zret C R h rfl dX9_within_18
set_option maxRecDepth 4000 in
theorem tX9_end {l : Launch} {E : En} {A : Nat → Prop} {d : Nat} {r : Int32} {M M' : Mem} {o : Nat} {x1 : Int32} (hE : Okk E A) (hd : 1 ≤ d) (ho : kd o = (9, 0)) (h : fX9_end o x1 M = some (r, M')) : Ct l E A d yX9_end cX9_end 2 (some .int) [.ref (ad E o), .int x1] M (some (.int r)) M' := by
  refine Ct.mk (ls := [some (.ref (ad E o)), some (.int x1)]) hE (by decide +kernel) rfl (Nat.le_of_ble_eq_true rfl) (fun X hXl hXA C R => ?_)
  subst hXl; subst hXA
  unfold fX9_end at h
  refine s_iload1 C dX9_end_0 ?_
  refine s_i2l C dX9_end_1 ?_
  refine s_lconst (v := 0) C (by decide) dX9_end_2 ?_
  refine s_aload0 C dX9_end_3 ?_
  refine gX9_12 C ho dX9_end_4 ?_
  refine gX9_69 C (qX9_reader ho) dX9_end_7 ?_
  refine s_i2l C dX9_end_10 ?_
  obtain ⟨r2, M1, hq, h⟩ := bI_e h
  refine s_callS (As := [.long (x1).toInt64, .long (0 : Int64), .long ((M.1 (o + 1) 1)).toInt64]) (v := some (.int r2)) C rfl (by omega) wX9_77 rfl (Nat.le_of_ble_eq_true rfl) dX9_end_11 (tX9_within C.2.2.2.2.2.2.1 (by omega)  hq) ?_
  refine s_if_ne (tgt := 19) C h dX9_end_14 (by decide) ⟨fun h => ?_, fun h => ?_⟩
  · refine s_aload0 C dX9_end_19 ?_
    refine gX9_12 C ho dX9_end_20 ?_
    refine s_iload1 C dX9_end_23 ?_
    refine pX9_69 C (qX9_reader ho) dX9_end_24 ?_
    refine s_iload1 C dX9_end_27 ?_
    exact s_iret C R h dX9_end_28
  · refine s_iconst (v := -1) C (by decide) dX9_end_17 ?_
    exact s_iret C R h dX9_end_18
set_option maxRecDepth 4000 in
theorem bJ7_fill_53178_5 {E : En} {X : Xc} {d : Nat} {M' : Mem} (C : Cx E X d cJ7_fill_53178 RJ7 4) (R : Rt E X none none M') (hd : 0 ≤ d)   : ∀ (n : Nat) (c0 : Nat) (x1 : Int32) (x2 : Int32) (x3 : Int32) (M : Mem) (_ : kd c0 = (20, (kd c0).2)), fJ7_fill_53178_5  n c0 x1 x2 x3 M = some M' → At E X 5 [some (.ref (ad E c0)), some (.int x1), some (.int x2), some (.int x3)] [] M := by
  intro n
  induction n with
  | zero => intro c0 x1 x2 x3 M hc0 h; rw [fJ7_fill_53178_5] at h; cases h
  | succ n ih =>
    intro c0 x1 x2 x3 M hc0 h
    rw [fJ7_fill_53178_5] at h
    refine s_iload2 C dJ7_fill_53178_5 ?_
    refine s_iload3 C dJ7_fill_53178_6 ?_
    refine s_ic_ge (tgt := 20) C h dJ7_fill_53178_7 (by decide) ⟨fun h => ?_, fun h => ?_⟩
    · exact s_vret C R h dJ7_fill_53178_20
    · refine s_aload0 C dJ7_fill_53178_10 ?_
      refine s_iload2 C dJ7_fill_53178_11 ?_
      refine s_iload1 C dJ7_fill_53178_12 ?_
      refine s_iast C hc0 h dJ7_fill_53178_13 (fun h => ?_)
      refine s_iinc2 (v := 1) C rfl dJ7_fill_53178_14 (by decide) ?_
      refine s_goto (tgt := 5) C dJ7_fill_53178_17 (by decide) ?_
      exact ih _ _ _ _ _ hc0 h
set_option maxRecDepth 4000 in
theorem tJ7_fill_53178 {l : Launch} {E : En} {A : Nat → Prop} {d : Nat} {M M' : Mem} {c0 : Nat} {x1 : Int32} (hE : Okk E A) (hd : 0 ≤ d) (hc0 : kd c0 = (20, (kd c0).2)) (h : fJ7_fill_53178 c0 x1 M = some M') : Ct l E A d yJ7_fill_53178 cJ7_fill_53178 4 none [.ref (ad E c0), .int x1] M none M' := by
  refine Ct.mk (ls := [some (.ref (ad E c0)), some (.int x1), none, none]) hE (by decide +kernel) rfl (Nat.le_of_ble_eq_true rfl) (fun X hXl hXA C R => ?_)
  subst hXl; subst hXA
  unfold fJ7_fill_53178 at h
  refine s_iconst (v := 0) C (by decide) dJ7_fill_53178_0 ?_
  refine s_istore2 C rfl dJ7_fill_53178_1 ?_
  refine s_aload0 C dJ7_fill_53178_2 ?_
  refine s_alen20 C hc0 dJ7_fill_53178_3 ?_
  refine s_istore3 C rfl dJ7_fill_53178_4 ?_
  exact bJ7_fill_53178_5 C R hd  LF _ _ _ _ _ hc0 h
set_option maxRecDepth 4000 in
theorem tX7_clear {l : Launch} {E : En} {A : Nat → Prop} {d : Nat} {M M' : Mem} {o : Nat} (hE : Okk E A) (hd : 1 ≤ d) (ho : kd o = (7, 0)) (h : fX7_clear o M = some M') : Ct l E A d yX7_clear cX7_clear 1 none [.ref (ad E o)] M none M' := by
  refine Ct.mk (ls := [some (.ref (ad E o))]) hE (by decide +kernel) rfl (Nat.le_of_ble_eq_true rfl) (fun X hXl hXA C R => ?_)
  subst hXl; subst hXA
  unfold fX7_clear at h
  refine s_aload0 C dX7_clear_0 ?_
  refine gX7_9 C ho dX7_clear_1 ?_
  refine s_iconst (v := 0) C (by decide) dX7_clear_4 ?_
  obtain ⟨M1, hq, h⟩ := bV_e h
  refine s_callS (As := [.ref (ad E (o + 1)), .int (0 : Int32)]) (v := none) C rfl (by omega) wX7_27 rfl (Nat.le_of_ble_eq_true rfl) dX7_clear_5 (tJ7_fill_53178 C.2.2.2.2.2.2.1 (by omega) (kd_any (qX7_head ho)) hq) ?_
  refine s_aload0 C dX7_clear_8 ?_
  refine gX7_21 C ho dX7_clear_9 ?_
  refine s_iconst (v := -1) C (by decide) dX7_clear_12 ?_
  obtain ⟨M2, hq, h⟩ := bV_e h
  refine s_callS (As := [.ref (ad E (o + 4)), .int (-1 : Int32)]) (v := none) C rfl (by omega) wX7_27 rfl (Nat.le_of_ble_eq_true rfl) dX7_clear_13 (tJ7_fill_53178 C.2.2.2.2.2.2.1 (by omega) (kd_any (qX7_numbers ho)) hq) ?_
  refine s_aload0 C dX7_clear_16 ?_
  refine s_iconst (v := 0) C (by decide) dX7_clear_17 ?_
  refine pX7_33 C ho dX7_clear_18 ?_
  refine s_aload0 C dX7_clear_21 ?_
  refine s_iconst (v := 0) C (by decide) dX7_clear_22 ?_
  refine pX7_37 C ho dX7_clear_23 ?_
  refine s_aload0 C dX7_clear_26 ?_
  refine s_iconst (v := 0) C (by decide) dX7_clear_27 ?_
  refine pX7_40 C ho dX7_clear_28 ?_
  refine s_aload0 C dX7_clear_31 ?_
  refine s_iconst (v := 0) C (by decide) dX7_clear_32 ?_
  refine pX7_43 C ho dX7_clear_33 ?_
  exact s_vret C R h dX7_clear_36
set_option maxRecDepth 4000 in
theorem tX3_isLetter {l : Launch} {E : En} {A : Nat → Prop} {d : Nat} {r : Int32} {M M' : Mem} {x0 : Int32} (hE : Okk E A) (hd : 0 ≤ d)  (h : fX3_isLetter x0 M = some (r, M')) : Ct l E A d yX3_isLetter cX3_isLetter 1 (some .boolean) [.int x0] M (some (.int r)) M' := by
  refine Ct.mk (ls := [some (.int x0)]) hE (by decide +kernel) rfl (Nat.le_of_ble_eq_true rfl) (fun X hXl hXA C R => ?_)
  subst hXl; subst hXA
  unfold fX3_isLetter at h
  refine s_iload0 C dX3_isLetter_0 ?_
  refine s_bipush (v := 97) C (by decide) dX3_isLetter_1 ?_
  refine s_ic_lt (tgt := 16) C h dX3_isLetter_3 (by decide) ⟨fun h => ?_, fun h => ?_⟩
  · refine s_iconst (v := 0) C (by decide) dX3_isLetter_16 ?_
    exact s_zret C R h rfl dX3_isLetter_17
  · refine s_iload0 C dX3_isLetter_6 ?_
    refine s_bipush (v := 122) C (by decide) dX3_isLetter_7 ?_
    refine s_ic_gt (tgt := 16) C h dX3_isLetter_9 (by decide) ⟨fun h => ?_, fun h => ?_⟩
    · refine s_iconst (v := 0) C (by decide) dX3_isLetter_16 ?_
      exact s_zret C R h rfl dX3_isLetter_17
    · refine s_iconst (v := 1) C (by decide) dX3_isLetter_12 ?_
      refine s_goto (tgt := 17) C dX3_isLetter_13 (by decide) ?_
      exact s_zret C R h rfl dX3_isLetter_17
set_option maxRecDepth 4000 in
theorem tX3_isDigit {l : Launch} {E : En} {A : Nat → Prop} {d : Nat} {r : Int32} {M M' : Mem} {x0 : Int32} (hE : Okk E A) (hd : 0 ≤ d)  (h : fX3_isDigit x0 M = some (r, M')) : Ct l E A d yX3_isDigit cX3_isDigit 1 (some .boolean) [.int x0] M (some (.int r)) M' := by
  refine Ct.mk (ls := [some (.int x0)]) hE (by decide +kernel) rfl (Nat.le_of_ble_eq_true rfl) (fun X hXl hXA C R => ?_)
  subst hXl; subst hXA
  unfold fX3_isDigit at h
  refine s_iload0 C dX3_isDigit_0 ?_
  refine s_bipush (v := 48) C (by decide) dX3_isDigit_1 ?_
  refine s_ic_lt (tgt := 16) C h dX3_isDigit_3 (by decide) ⟨fun h => ?_, fun h => ?_⟩
  · refine s_iconst (v := 0) C (by decide) dX3_isDigit_16 ?_
    exact s_zret C R h rfl dX3_isDigit_17
  · refine s_iload0 C dX3_isDigit_6 ?_
    refine s_bipush (v := 57) C (by decide) dX3_isDigit_7 ?_
    refine s_ic_gt (tgt := 16) C h dX3_isDigit_9 (by decide) ⟨fun h => ?_, fun h => ?_⟩
    · refine s_iconst (v := 0) C (by decide) dX3_isDigit_16 ?_
      exact s_zret C R h rfl dX3_isDigit_17
    · refine s_iconst (v := 1) C (by decide) dX3_isDigit_12 ?_
      refine s_goto (tgt := 17) C dX3_isDigit_13 (by decide) ?_
      exact s_zret C R h rfl dX3_isDigit_17
set_option maxRecDepth 4000 in
theorem bX3_advance_259 {E : En} {X : Xc} {d : Nat} {M M' : Mem} {o : Nat} {so0 : Nat} {sx1 : Int32} (C : Cx E X d cX3_advance RX3 1) (R : Rt E X none none M') (hd : 1 ≤ d)   (ho : kd o = (3, 0)) (hso0 : kd so0 = (3, 0)) (h : fX3_advance_259  o so0 sx1 M = some M') : At E X 259 [some (.ref (ad E o))] [.int sx1, .ref (ad E so0)] M := by
  unfold fX3_advance_259 at h
  refine pX3_36 C hso0 dX3_advance_259 ?_
  refine s_aload0 C dX3_advance_262 ?_
  refine s_dup C rfl dX3_advance_263 ?_
  refine gX3_30 C ho dX3_advance_264 ?_
  refine s_iconst (v := 1) C (by decide) dX3_advance_267 ?_
  refine s_iadd C dX3_advance_268 ?_
  refine pX3_30 C ho dX3_advance_269 ?_
  exact s_vret C R h dX3_advance_272
set_option maxRecDepth 4000 in
theorem bX3_advance_171 {E : En} {X : Xc} {d : Nat} {M' : Mem} (C : Cx E X d cX3_advance RX3 1) (R : Rt E X none none M') (hd : 1 ≤ d)   : ∀ (n : Nat) (o : Nat) (M : Mem) (_ : kd o = (3, 0)), fX3_advance_171  n o M = some M' → At E X 171 [some (.ref (ad E o))] [] M := by
  intro n
  induction n with
  | zero => intro o M ho h; rw [fX3_advance_171] at h; cases h
  | succ n ih =>
    intro o M ho h
    rw [fX3_advance_171] at h
    refine s_aload0 C dX3_advance_171 ?_
    refine gX3_30 C ho dX3_advance_172 ?_
    refine s_aload0 C dX3_advance_175 ?_
    refine gX3_19 C ho dX3_advance_176 ?_
    refine s_ic_ge (tgt := 272) C h dX3_advance_179 (by decide) ⟨fun h => ?_, fun h => ?_⟩
    · exact s_vret C R h dX3_advance_272
    · refine s_aload0 C dX3_advance_182 ?_
      refine gX3_9 C ho dX3_advance_183 ?_
      refine s_aload0 C dX3_advance_186 ?_
      refine gX3_30 C ho dX3_advance_187 ?_
      refine s_bald C (qX3_bytes ho) h dX3_advance_190 (fun h => ?_)
      obtain ⟨r2, M1, hq, h⟩ := bI_e h
      refine s_callS (As := [.int (M.1 (o + 1) (tn (M.1 o 5)))]) (v := some (.int r2)) C rfl (by omega) wX3_137 rfl (Nat.le_of_ble_eq_true rfl) dX3_advance_191 (tX3_isDigit C.2.2.2.2.2.2.1 (by omega)  hq) ?_
      refine s_if_eq (tgt := 272) C h dX3_advance_194 (by decide) ⟨fun h => ?_, fun h => ?_⟩
      · exact s_vret C R h dX3_advance_272
      · refine s_aload0 C dX3_advance_197 ?_
        refine s_ldc (v := 100000) C k_527 dX3_advance_198 ?_
        refine s_bipush (v := 10) C (by decide) dX3_advance_200 ?_
        refine s_aload0 C dX3_advance_202 ?_
        refine gX3_123 C ho dX3_advance_203 ?_
        refine s_imul C dX3_advance_206 ?_
        refine s_aload0 C dX3_advance_207 ?_
        refine gX3_9 C ho dX3_advance_208 ?_
        refine s_aload0 C dX3_advance_211 ?_
        refine gX3_30 C ho dX3_advance_212 ?_
        refine s_bald C (qX3_bytes ho) h dX3_advance_215 (fun h => ?_)
        refine s_iadd C dX3_advance_216 ?_
        refine s_bipush (v := 48) C (by decide) dX3_advance_217 ?_
        refine s_isub C dX3_advance_219 ?_
        refine s_min C rfl (by omega) wX3_141 (Nat.le_of_ble_eq_true rfl) dX3_advance_220 ?_
        refine pX3_123 C ho dX3_advance_223 ?_
        refine s_aload0 C dX3_advance_226 ?_
        refine s_dup C rfl dX3_advance_227 ?_
        refine gX3_30 C ho dX3_advance_228 ?_
        refine s_iconst (v := 1) C (by decide) dX3_advance_231 ?_
        refine s_iadd C dX3_advance_232 ?_
        refine pX3_30 C ho dX3_advance_233 ?_
        refine s_goto (tgt := 171) C dX3_advance_236 (by decide) ?_
        exact ih _ _ ho h
set_option maxRecDepth 4000 in
theorem bX3_advance_107 {E : En} {X : Xc} {d : Nat} {M' : Mem} (C : Cx E X d cX3_advance RX3 1) (R : Rt E X none none M') (hd : 1 ≤ d)   : ∀ (n : Nat) (o : Nat) (M : Mem) (_ : kd o = (3, 0)), fX3_advance_107  n o M = some M' → At E X 107 [some (.ref (ad E o))] [] M := by
  intro n
  induction n with
  | zero => intro o M ho h; rw [fX3_advance_107] at h; cases h
  | succ n ih =>
    intro o M ho h
    rw [fX3_advance_107] at h
    refine s_aload0 C dX3_advance_107 ?_
    refine gX3_30 C ho dX3_advance_108 ?_
    refine s_aload0 C dX3_advance_111 ?_
    refine gX3_19 C ho dX3_advance_112 ?_
    refine s_ic_ge (tgt := 272) C h dX3_advance_115 (by decide) ⟨fun h => ?_, fun h => ?_⟩
    · exact s_vret C R h dX3_advance_272
    · refine s_aload0 C dX3_advance_118 ?_
      refine gX3_9 C ho dX3_advance_119 ?_
      refine s_aload0 C dX3_advance_122 ?_
      refine gX3_30 C ho dX3_advance_123 ?_
      refine s_bald C (qX3_bytes ho) h dX3_advance_126 (fun h => ?_)
      obtain ⟨r2, M1, hq, h⟩ := bI_e h
      refine s_callS (As := [.int (M.1 (o + 1) (tn (M.1 o 5)))]) (v := some (.int r2)) C rfl (by omega) wX3_133 rfl (Nat.le_of_ble_eq_true rfl) dX3_advance_127 (tX3_isLetter C.2.2.2.2.2.2.1 (by omega)  hq) ?_
      refine s_if_eq (tgt := 272) C h dX3_advance_130 (by decide) ⟨fun h => ?_, fun h => ?_⟩
      · exact s_vret C R h dX3_advance_272
      · refine s_aload0 C dX3_advance_133 ?_
        refine s_dup C rfl dX3_advance_134 ?_
        refine gX3_30 C ho dX3_advance_135 ?_
        refine s_iconst (v := 1) C (by decide) dX3_advance_138 ?_
        refine s_iadd C dX3_advance_139 ?_
        refine pX3_30 C ho dX3_advance_140 ?_
        refine s_goto (tgt := 107) C dX3_advance_143 (by decide) ?_
        exact ih _ _ ho h
set_option maxRecDepth 4000 in
theorem bX3_advance_60 {E : En} {X : Xc} {d : Nat} {M M' : Mem} {o : Nat} (C : Cx E X d cX3_advance RX3 1) (R : Rt E X none none M') (hd : 1 ≤ d)   (ho : kd o = (3, 0)) (h : fX3_advance_60  o M = some M') : At E X 60 [some (.ref (ad E o))] [] M := by
  unfold fX3_advance_60 at h
  refine s_aload0 C dX3_advance_60 ?_
  refine s_aload0 C dX3_advance_61 ?_
  refine gX3_130 C ho dX3_advance_62 ?_
  refine pX3_30 C ho dX3_advance_65 ?_
  refine s_aload0 C dX3_advance_68 ?_
  refine gX3_130 C ho dX3_advance_69 ?_
  refine s_aload0 C dX3_advance_72 ?_
  refine gX3_19 C ho dX3_advance_73 ?_
  refine s_ic_ne (tgt := 87) C h dX3_advance_76 (by decide) ⟨fun h => ?_, fun h => ?_⟩
  · refine s_aload0 C dX3_advance_87 ?_
    refine gX3_9 C ho dX3_advance_88 ?_
    refine s_aload0 C dX3_advance_91 ?_
    refine gX3_130 C ho dX3_advance_92 ?_
    refine s_bald C (qX3_bytes ho) h dX3_advance_95 (fun h => ?_)
    obtain ⟨r2, M1, hq, h⟩ := bI_e h
    refine s_callS (As := [.int ((pI M o 5 (M.1 o 4)).1 (o + 1) (tn ((pI M o 5 (M.1 o 4)).1 o 4)))]) (v := some (.int r2)) C rfl (by omega) wX3_133 rfl (Nat.le_of_ble_eq_true rfl) dX3_advance_96 (tX3_isLetter C.2.2.2.2.2.2.1 (by omega)  hq) ?_
    refine s_if_eq (tgt := 146) C h dX3_advance_99 (by decide) ⟨fun h => ?_, fun h => ?_⟩
    · refine s_aload0 C dX3_advance_146 ?_
      refine gX3_9 C ho dX3_advance_147 ?_
      refine s_aload0 C dX3_advance_150 ?_
      refine gX3_130 C ho dX3_advance_151 ?_
      refine s_bald C (qX3_bytes ho) h dX3_advance_154 (fun h => ?_)
      obtain ⟨r4, M3, hq, h⟩ := bI_e h
      refine s_callS (As := [.int (M1.1 (o + 1) (tn (M1.1 o 4)))]) (v := some (.int r4)) C rfl (by omega) wX3_137 rfl (Nat.le_of_ble_eq_true rfl) dX3_advance_155 (tX3_isDigit C.2.2.2.2.2.2.1 (by omega)  hq) ?_
      refine s_if_eq (tgt := 239) C h dX3_advance_158 (by decide) ⟨fun h => ?_, fun h => ?_⟩
      · refine s_aload0 C dX3_advance_239 ?_
        refine s_aload0 C dX3_advance_240 ?_
        refine gX3_9 C ho dX3_advance_241 ?_
        refine s_aload0 C dX3_advance_244 ?_
        refine gX3_130 C ho dX3_advance_245 ?_
        refine s_bald C (qX3_bytes ho) h dX3_advance_248 (fun h => ?_)
        refine s_bipush (v := 59) C (by decide) dX3_advance_249 ?_
        refine s_ic_ne (tgt := 258) C h dX3_advance_251 (by decide) ⟨fun h => ?_, fun h => ?_⟩
        · refine s_iconst (v := 4) C (by decide) dX3_advance_258 ?_
          exact bX3_advance_259 C R hd  ho ho h
        · refine s_iconst (v := 3) C (by decide) dX3_advance_254 ?_
          refine s_goto (tgt := 259) C dX3_advance_255 (by decide) ?_
          exact bX3_advance_259 C R hd  ho ho h
      · refine s_aload0 C dX3_advance_161 ?_
        refine s_iconst (v := 2) C (by decide) dX3_advance_162 ?_
        refine pX3_36 C ho dX3_advance_163 ?_
        refine s_aload0 C dX3_advance_166 ?_
        refine s_iconst (v := 0) C (by decide) dX3_advance_167 ?_
        refine pX3_123 C ho dX3_advance_168 ?_
        exact bX3_advance_171 C R hd  LF _ _ ho h
    · refine s_aload0 C dX3_advance_102 ?_
      refine s_iconst (v := 1) C (by decide) dX3_advance_103 ?_
      refine pX3_36 C ho dX3_advance_104 ?_
      exact bX3_advance_107 C R hd  LF _ _ ho h
  · refine s_aload0 C dX3_advance_79 ?_
    refine s_iconst (v := 0) C (by decide) dX3_advance_80 ?_
    refine pX3_36 C ho dX3_advance_81 ?_
    refine s_goto (tgt := 272) C dX3_advance_84 (by decide) ?_
    exact s_vret C R h dX3_advance_272
set_option maxRecDepth 4000 in
theorem bX3_advance_47 {E : En} {X : Xc} {d : Nat} {M M' : Mem} {o : Nat} (C : Cx E X d cX3_advance RX3 1) (R : Rt E X none none M') (hd : 1 ≤ d) {k8 : Nat → Mem → Option (Mem)} (hk8 : ∀ (o : Nat) (M : Mem) (_ : kd o = (3, 0)), k8 o M = some M' → At E X 8 [some (.ref (ad E o))] [] M) (ho : kd o = (3, 0)) (h : fX3_advance_47 k8 o M = some M') : At E X 47 [some (.ref (ad E o))] [] M := by
  unfold fX3_advance_47 at h
  refine s_aload0 C dX3_advance_47 ?_
  refine s_dup C rfl dX3_advance_48 ?_
  refine gX3_130 C ho dX3_advance_49 ?_
  refine s_iconst (v := 1) C (by decide) dX3_advance_52 ?_
  refine s_iadd C dX3_advance_53 ?_
  refine pX3_130 C ho dX3_advance_54 ?_
  refine s_goto (tgt := 8) C dX3_advance_57 (by decide) ?_
  exact hk8 _ _ ho h
set_option maxRecDepth 4000 in
theorem bX3_advance_8 {E : En} {X : Xc} {d : Nat} {M' : Mem} (C : Cx E X d cX3_advance RX3 1) (R : Rt E X none none M') (hd : 1 ≤ d)   : ∀ (n : Nat) (o : Nat) (M : Mem) (_ : kd o = (3, 0)), fX3_advance_8  n o M = some M' → At E X 8 [some (.ref (ad E o))] [] M := by
  intro n
  induction n with
  | zero => intro o M ho h; rw [fX3_advance_8] at h; cases h
  | succ n ih =>
    intro o M ho h
    rw [fX3_advance_8] at h
    refine s_aload0 C dX3_advance_8 ?_
    refine gX3_130 C ho dX3_advance_9 ?_
    refine s_aload0 C dX3_advance_12 ?_
    refine gX3_19 C ho dX3_advance_13 ?_
    refine s_ic_ge (tgt := 60) C h dX3_advance_16 (by decide) ⟨fun h => ?_, fun h => ?_⟩
    · exact bX3_advance_60 C R hd  ho h
    · refine s_aload0 C dX3_advance_19 ?_
      refine gX3_9 C ho dX3_advance_20 ?_
      refine s_aload0 C dX3_advance_23 ?_
      refine gX3_130 C ho dX3_advance_24 ?_
      refine s_bald C (qX3_bytes ho) h dX3_advance_27 (fun h => ?_)
      refine s_bipush (v := 32) C (by decide) dX3_advance_28 ?_
      refine s_ic_eq (tgt := 47) C h dX3_advance_30 (by decide) ⟨fun h => ?_, fun h => ?_⟩
      · exact bX3_advance_47 C R hd (ih) ho h
      · refine s_aload0 C dX3_advance_33 ?_
        refine gX3_9 C ho dX3_advance_34 ?_
        refine s_aload0 C dX3_advance_37 ?_
        refine gX3_130 C ho dX3_advance_38 ?_
        refine s_bald C (qX3_bytes ho) h dX3_advance_41 (fun h => ?_)
        refine s_bipush (v := 10) C (by decide) dX3_advance_42 ?_
        refine s_ic_ne (tgt := 60) C h dX3_advance_44 (by decide) ⟨fun h => ?_, fun h => ?_⟩
        · exact bX3_advance_60 C R hd  ho h
        · exact bX3_advance_47 C R hd (ih) ho h
set_option maxRecDepth 4000 in
theorem tX3_advance {l : Launch} {E : En} {A : Nat → Prop} {d : Nat} {M M' : Mem} {o : Nat} (hE : Okk E A) (hd : 1 ≤ d) (ho : kd o = (3, 0)) (h : fX3_advance o M = some M') : Ct l E A d yX3_advance cX3_advance 1 none [.ref (ad E o)] M none M' := by
  refine Ct.mk (ls := [some (.ref (ad E o))]) hE (by decide +kernel) rfl (Nat.le_of_ble_eq_true rfl) (fun X hXl hXA C R => ?_)
  subst hXl; subst hXA
  unfold fX3_advance at h
  refine s_aload0 C dX3_advance_0 ?_
  refine s_aload0 C dX3_advance_1 ?_
  refine gX3_30 C ho dX3_advance_2 ?_
  refine pX3_130 C ho dX3_advance_5 ?_
  exact bX3_advance_8 C R hd  LF _ _ ho h
set_option maxRecDepth 4000 in
theorem bX3_isWord_28 {E : En} {X : Xc} {d : Nat} {r : Int32} {M' : Mem} (C : Cx E X d cX3_isWord RX3 3) (R : Rt E X (some .boolean) (some (.int r)) M') (hd : 5 ≤ d)   : ∀ (n : Nat) (o : Nat) (j1 : Nat) (x2 : Int32) (M : Mem) (_ : kd o = (3, 0)) (_ : j1 < NS), fX3_isWord_28  n o j1 x2 M = some (r, M') → At E X 28 [some (.ref (ad E o)), some (.ref (aK E j1)), some (.int x2)] [] M := by
  intro n
  induction n with
  | zero => intro o j1 x2 M ho hj1 h; rw [fX3_isWord_28] at h; cases h
  | succ n ih =>
    intro o j1 x2 M ho hj1 h
    rw [fX3_isWord_28] at h
    refine s_iload2 C dX3_isWord_28 ?_
    refine s_aload1 C dX3_isWord_29 ?_
    refine s_callVS (As := []) (v := some (.int (nI (sl j1)))) C rfl hj1 (by omega) wX3_105 rfl (Nat.le_of_ble_eq_true rfl) dX3_isWord_30 (ct_length C.2.2.2.2.2.2.1 (by omega) hj1) ?_
    refine s_ic_ge (tgt := 63) C h dX3_isWord_33 (by decide) ⟨fun h => ?_, fun h => ?_⟩
    · refine s_iconst (v := 1) C (by decide) dX3_isWord_63 ?_
      exact s_zret C R h rfl dX3_isWord_64
    · refine s_aload0 C dX3_isWord_36 ?_
      refine gX3_9 C ho dX3_isWord_37 ?_
      refine s_aload0 C dX3_isWord_40 ?_
      refine gX3_130 C ho dX3_isWord_41 ?_
      refine s_iload2 C dX3_isWord_44 ?_
      refine s_iadd C dX3_isWord_45 ?_
      refine s_bald C (qX3_bytes ho) h dX3_isWord_46 (fun h => ?_)
      refine s_aload1 C dX3_isWord_47 ?_
      refine s_iload2 C dX3_isWord_48 ?_
      obtain ⟨hib, h⟩ := ck_e h
      refine s_callVS (As := [.int x2]) (v := some (.int (sc j1 (tn x2)))) C rfl hj1 (by omega) wX3_112 rfl (Nat.le_of_ble_eq_true rfl) dX3_isWord_49 (ct_charAt C.2.2.2.2.2.2.1 (by omega) hj1 hib) ?_
      refine s_ic_eq (tgt := 57) C h dX3_isWord_52 (by decide) ⟨fun h => ?_, fun h => ?_⟩
      · refine s_iinc2 (v := 1) C rfl dX3_isWord_57 (by decide) ?_
        refine s_goto (tgt := 28) C dX3_isWord_60 (by decide) ?_
        exact ih _ _ _ _ ho hj1 h
      · refine s_iconst (v := 0) C (by decide) dX3_isWord_55 ?_
        exact s_zret C R h rfl dX3_isWord_56
set_option maxRecDepth 4000 in
theorem tX3_isWord {l : Launch} {E : En} {A : Nat → Prop} {d : Nat} {r : Int32} {M M' : Mem} {o : Nat} {j1 : Nat} (hE : Okk E A) (hd : 5 ≤ d) (ho : kd o = (3, 0)) (hj1 : j1 < NS) (h : fX3_isWord o j1 M = some (r, M')) : Ct l E A d yX3_isWord cX3_isWord 3 (some .boolean) [.ref (ad E o), .ref (aK E j1)] M (some (.int r)) M' := by
  refine Ct.mk (ls := [some (.ref (ad E o)), some (.ref (aK E j1)), none]) hE (by decide +kernel) rfl (Nat.le_of_ble_eq_true rfl) (fun X hXl hXA C R => ?_)
  subst hXl; subst hXA
  unfold fX3_isWord at h
  refine s_aload0 C dX3_isWord_0 ?_
  refine gX3_36 C ho dX3_isWord_1 ?_
  refine s_iconst (v := 1) C (by decide) dX3_isWord_4 ?_
  refine s_ic_ne (tgt := 24) C h dX3_isWord_5 (by decide) ⟨fun h => ?_, fun h => ?_⟩
  · refine s_iconst (v := 0) C (by decide) dX3_isWord_24 ?_
    exact s_zret C R h rfl dX3_isWord_25
  · refine s_aload0 C dX3_isWord_8 ?_
    refine gX3_30 C ho dX3_isWord_9 ?_
    refine s_aload0 C dX3_isWord_12 ?_
    refine gX3_130 C ho dX3_isWord_13 ?_
    refine s_isub C dX3_isWord_16 ?_
    refine s_aload1 C dX3_isWord_17 ?_
    refine s_callVS (As := []) (v := some (.int (nI (sl j1)))) C rfl hj1 (by omega) wX3_105 rfl (Nat.le_of_ble_eq_true rfl) dX3_isWord_18 (ct_length C.2.2.2.2.2.2.1 (by omega) hj1) ?_
    refine s_ic_eq (tgt := 26) C h dX3_isWord_21 (by decide) ⟨fun h => ?_, fun h => ?_⟩
    · refine s_iconst (v := 0) C (by decide) dX3_isWord_26 ?_
      refine s_istore2 C rfl dX3_isWord_27 ?_
      exact bX3_isWord_28 C R hd  LF _ _ _ _ ho hj1 h
    · refine s_iconst (v := 0) C (by decide) dX3_isWord_24 ?_
      exact s_zret C R h rfl dX3_isWord_25
set_option maxRecDepth 4000 in
theorem tX3_fail {l : Launch} {E : En} {A : Nat → Prop} {d : Nat} {M M' : Mem} {o : Nat} {x1 : Int32} (hE : Okk E A) (hd : 0 ≤ d) (ho : kd o = (3, 0)) (h : fX3_fail o x1 M = some M') : Ct l E A d yX3_fail cX3_fail 2 none [.ref (ad E o), .int x1] M none M' := by
  refine Ct.mk (ls := [some (.ref (ad E o)), some (.int x1)]) hE (by decide +kernel) rfl (Nat.le_of_ble_eq_true rfl) (fun X hXl hXA C R => ?_)
  subst hXl; subst hXA
  unfold fX3_fail at h
  refine s_aload0 C dX3_fail_0 ?_
  refine s_iload1 C dX3_fail_1 ?_
  refine pX3_27 C ho dX3_fail_2 ?_
  refine s_aload0 C dX3_fail_5 ?_
  refine s_aload0 C dX3_fail_6 ?_
  refine gX3_130 C ho dX3_fail_7 ?_
  refine pX3_15 C ho dX3_fail_10 ?_
  exact s_vret C R h dX3_fail_13
set_option maxRecDepth 4000 in
theorem tX3_takeWord {l : Launch} {E : En} {A : Nat → Prop} {d : Nat} {M M' : Mem} {o : Nat} {j1 : Nat} (hE : Okk E A) (hd : 6 ≤ d) (ho : kd o = (3, 0)) (hj1 : j1 < NS) (h : fX3_takeWord o j1 M = some M') : Ct l E A d yX3_takeWord cX3_takeWord 2 none [.ref (ad E o), .ref (aK E j1)] M none M' := by
  refine Ct.mk (ls := [some (.ref (ad E o)), some (.ref (aK E j1))]) hE (by decide +kernel) rfl (Nat.le_of_ble_eq_true rfl) (fun X hXl hXA C R => ?_)
  subst hXl; subst hXA
  unfold fX3_takeWord at h
  refine s_aload0 C dX3_takeWord_0 ?_
  refine gX3_27 C ho dX3_takeWord_1 ?_
  refine s_if_eq (tgt := 8) C h dX3_takeWord_4 (by decide) ⟨fun h => ?_, fun h => ?_⟩
  · refine s_aload0 C dX3_takeWord_8 ?_
    refine s_aload1 C dX3_takeWord_9 ?_
    obtain ⟨r2, M1, hq, h⟩ := bI_e h
    refine s_callV (T := TX3) (As := [.ref (aK E j1)]) (v := some (.int r2)) C rfl ho (by decide) rfl (by omega) wX3_51 rfl (Nat.le_of_ble_eq_true rfl) dX3_takeWord_10 (tX3_isWord C.2.2.2.2.2.2.1 (by omega) ho hj1 hq) ?_
    refine s_if_eq (tgt := 23) C h dX3_takeWord_13 (by decide) ⟨fun h => ?_, fun h => ?_⟩
    · refine s_aload0 C dX3_takeWord_23 ?_
      refine s_iconst (v := 1) C (by decide) dX3_takeWord_24 ?_
      obtain ⟨M3, hq, h⟩ := bV_e h
      refine s_callV (T := TX3) (As := [.int (1 : Int32)]) (v := none) C rfl ho (by decide) rfl (by omega) wX3_61 rfl (Nat.le_of_ble_eq_true rfl) dX3_takeWord_25 (tX3_fail C.2.2.2.2.2.2.1 (by omega) ho hq) ?_
      exact s_vret C R h dX3_takeWord_28
    · refine s_aload0 C dX3_takeWord_16 ?_
      obtain ⟨M4, hq, h⟩ := bV_e h
      refine s_callV (T := TX3) (As := []) (v := none) C rfl ho (by decide) rfl (by omega) wX3_33 rfl (Nat.le_of_ble_eq_true rfl) dX3_takeWord_17 (tX3_advance C.2.2.2.2.2.2.1 (by omega) ho hq) ?_
      refine s_goto (tgt := 28) C dX3_takeWord_20 (by decide) ?_
      exact s_vret C R h dX3_takeWord_28
  · exact s_vret C R h dX3_takeWord_7
set_option maxRecDepth 4000 in
theorem tX3_headWord {l : Launch} {E : En} {A : Nat → Prop} {d : Nat} {r : Nat} {M M' : Mem} {x0 : Int32} (hE : Okk E A) (hd : 0 ≤ d)  (h : fX3_headWord x0 M = some (r, M')) : Ct l E A d yX3_headWord cX3_headWord 1 (some (.object "java/lang/String")) [.int x0] M (some (.ref (aK E r))) M' := by
  refine Ct.mk (ls := [some (.int x0)]) hE (by decide +kernel) rfl (Nat.le_of_ble_eq_true rfl) (fun X hXl hXA C R => ?_)
  subst hXl; subst hXA
  unfold fX3_headWord at h
  refine s_iload0 C dX3_headWord_0 ?_
  rcases if_e h with ⟨e, h⟩ | ⟨e0, h⟩
  · refine s_tin (j := 0) (tgt := 36) C dX3_headWord_1 (by rw [e]; decide) (by decide) rfl (by decide) ?_
    refine s_ldcs (j := 2) (tx := "rows") C rfl dX3_headWord_36 ?_
    exact s_sret C R h dX3_headWord_38
  rcases if_e h with ⟨e, h⟩ | ⟨e1, h⟩
  · refine s_tin (j := 1) (tgt := 39) C dX3_headWord_1 (by rw [e]; decide) (by decide) rfl (by decide) ?_
    refine s_ldcs (j := 3) (tx := "tag") C rfl dX3_headWord_39 ?_
    exact s_sret C R h dX3_headWord_41
  rcases if_e h with ⟨e, h⟩ | ⟨e2, h⟩
  · refine s_tin (j := 2) (tgt := 42) C dX3_headWord_1 (by rw [e]; decide) (by decide) rfl (by decide) ?_
    refine s_ldcs (j := 4) (tx := "age") C rfl dX3_headWord_42 ?_
    exact s_sret C R h dX3_headWord_44
  rcases if_e h with ⟨e, h⟩ | ⟨e3, h⟩
  · refine s_tin (j := 3) (tgt := 45) C dX3_headWord_1 (by rw [e]; decide) (by decide) rfl (by decide) ?_
    refine s_ldcs (j := 5) (tx := "cost") C rfl dX3_headWord_45 ?_
    exact s_sret C R h dX3_headWord_47
  rcases if_e h with ⟨e, h⟩ | ⟨e4, h⟩
  · refine s_tin (j := 4) (tgt := 48) C dX3_headWord_1 (by rw [e]; decide) (by decide) rfl (by decide) ?_
    refine s_ldcs (j := 6) (tx := "deep") C rfl dX3_headWord_48 ?_
    exact s_sret C R h dX3_headWord_50
  have g0 := ne_int e0
  have g1 := ne_int e1
  have g2 := ne_int e2
  have g3 := ne_int e3
  have g4 := ne_int e4
  refine s_tout (tgt := 51) C dX3_headWord_1 (by simp only [show (0 : Int32).toInt = 0 from by decide, show (1 : Int32).toInt = 1 from by decide, show (2 : Int32).toInt = 2 from by decide, show (3 : Int32).toInt = 3 from by decide, show (4 : Int32).toInt = 4 from by decide] at g0 g1 g2 g3 g4; omega) (by decide) ?_
  refine s_ldcs (j := 7) (tx := "parts") C rfl dX3_headWord_51 ?_
  exact s_sret C R h dX3_headWord_53
set_option maxRecDepth 4000 in
theorem tX3_takeNumber {l : Launch} {E : En} {A : Nat → Prop} {d : Nat} {r : Int32} {M M' : Mem} {o : Nat} {x1 : Int32} {x2 : Int32} (hE : Okk E A) (hd : 2 ≤ d) (ho : kd o = (3, 0)) (h : fX3_takeNumber o x1 x2 M = some (r, M')) : Ct l E A d yX3_takeNumber cX3_takeNumber 4 (some .int) [.ref (ad E o), .int x1, .int x2] M (some (.int r)) M' := by
  refine Ct.mk (ls := [some (.ref (ad E o)), some (.int x1), some (.int x2), none]) hE (by decide +kernel) rfl (Nat.le_of_ble_eq_true rfl) (fun X hXl hXA C R => ?_)
  subst hXl; subst hXA
  unfold fX3_takeNumber at h
  refine s_aload0 C dX3_takeNumber_0 ?_
  refine gX3_27 C ho dX3_takeNumber_1 ?_
  refine s_if_eq (tgt := 9) C h dX3_takeNumber_4 (by decide) ⟨fun h => ?_, fun h => ?_⟩
  · refine s_aload0 C dX3_takeNumber_9 ?_
    refine gX3_36 C ho dX3_takeNumber_10 ?_
    refine s_iconst (v := 2) C (by decide) dX3_takeNumber_13 ?_
    refine s_ic_eq (tgt := 24) C h dX3_takeNumber_14 (by decide) ⟨fun h => ?_, fun h => ?_⟩
    · refine s_aload0 C dX3_takeNumber_24 ?_
      refine gX3_123 C ho dX3_takeNumber_25 ?_
      refine s_i2l C dX3_takeNumber_28 ?_
      refine s_iload1 C dX3_takeNumber_29 ?_
      refine s_i2l C dX3_takeNumber_30 ?_
      refine s_iload2 C dX3_takeNumber_31 ?_
      refine s_i2l C dX3_takeNumber_32 ?_
      obtain ⟨r2, M1, hq, h⟩ := bI_e h
      refine s_callN (As := [.long ((M.1 o 7)).toInt64, .long (x1).toInt64, .long (x2).toInt64]) (v := some (.int r2)) C rfl (by omega) wX3_126 rfl (Nat.le_of_ble_eq_true rfl) dX3_takeNumber_33 (tX9_within C.2.2.2.2.2.2.1 (by omega)  hq) ?_
      refine s_if_ne (tgt := 46) C h dX3_takeNumber_36 (by decide) ⟨fun h => ?_, fun h => ?_⟩
      · refine s_aload0 C dX3_takeNumber_46 ?_
        refine gX3_123 C ho dX3_takeNumber_47 ?_
        refine s_istore3 C rfl dX3_takeNumber_50 ?_
        refine s_aload0 C dX3_takeNumber_51 ?_
        obtain ⟨M3, hq, h⟩ := bV_e h
        refine s_callV (T := TX3) (As := []) (v := none) C rfl ho (by decide) rfl (by omega) wX3_33 rfl (Nat.le_of_ble_eq_true rfl) dX3_takeNumber_52 (tX3_advance C.2.2.2.2.2.2.1 (by omega) ho hq) ?_
        refine s_iload3 C dX3_takeNumber_55 ?_
        exact s_iret C R h dX3_takeNumber_56
      · refine s_aload0 C dX3_takeNumber_39 ?_
        refine s_iconst (v := 2) C (by decide) dX3_takeNumber_40 ?_
        obtain ⟨M4, hq, h⟩ := bV_e h
        refine s_callV (T := TX3) (As := [.int (2 : Int32)]) (v := none) C rfl ho (by decide) rfl (by omega) wX3_61 rfl (Nat.le_of_ble_eq_true rfl) dX3_takeNumber_41 (tX3_fail C.2.2.2.2.2.2.1 (by omega) ho hq) ?_
        refine s_iconst (v := 0) C (by decide) dX3_takeNumber_44 ?_
        exact s_iret C R h dX3_takeNumber_45
    · refine s_aload0 C dX3_takeNumber_17 ?_
      refine s_iconst (v := 1) C (by decide) dX3_takeNumber_18 ?_
      obtain ⟨M5, hq, h⟩ := bV_e h
      refine s_callV (T := TX3) (As := [.int (1 : Int32)]) (v := none) C rfl ho (by decide) rfl (by omega) wX3_61 rfl (Nat.le_of_ble_eq_true rfl) dX3_takeNumber_19 (tX3_fail C.2.2.2.2.2.2.1 (by omega) ho hq) ?_
      refine s_iconst (v := 0) C (by decide) dX3_takeNumber_22 ?_
      exact s_iret C R h dX3_takeNumber_23
  · refine s_iconst (v := 0) C (by decide) dX3_takeNumber_7 ?_
    exact s_iret C R h dX3_takeNumber_8
set_option maxRecDepth 4000 in
theorem bX3_readHead_8 {E : En} {X : Xc} {d : Nat} {M' : Mem} (C : Cx E X d cX3_readHead RX3 3) (R : Rt E X none none M') (hd : 7 ≤ d)   : ∀ (n : Nat) (o : Nat) (o1 : Nat) (x2 : Int32) (M : Mem) (_ : kd o = (3, 0)) (_ : kd o1 = (7, 0)), fX3_readHead_8  n o o1 x2 M = some M' → At E X 8 [some (.ref (ad E o)), some (.ref (ad E o1)), some (.int x2)] [] M := by
  intro n
  induction n with
  | zero => intro o o1 x2 M ho ho1 h; rw [fX3_readHead_8] at h; cases h
  | succ n ih =>
    intro o o1 x2 M ho ho1 h
    rw [fX3_readHead_8] at h
    refine s_iload2 C dX3_readHead_8 ?_
    refine s_bipush (v := 6) C (by decide) dX3_readHead_9 ?_
    refine s_ic_ge (tgt := 48) C h dX3_readHead_11 (by decide) ⟨fun h => ?_, fun h => ?_⟩
    · exact s_vret C R h dX3_readHead_48
    · refine s_aload0 C dX3_readHead_14 ?_
      refine s_iload2 C dX3_readHead_15 ?_
      obtain ⟨r2, M1, hq, h⟩ := bS_e h
      have hsr2 := sb_X3_headWord hq
      refine s_callS (As := [.int x2]) (v := some (.ref (aK E r2))) C rfl (by omega) wX3_71 rfl (Nat.le_of_ble_eq_true rfl) dX3_readHead_16 (tX3_headWord C.2.2.2.2.2.2.1 (by omega)  hq) ?_
      obtain ⟨M3, hq, h⟩ := bV_e h
      refine s_callV (T := TX3) (As := [.ref (aK E r2)]) (v := none) C rfl ho (by decide) rfl (by omega) wX3_67 rfl (Nat.le_of_ble_eq_true rfl) dX3_readHead_19 (tX3_takeWord C.2.2.2.2.2.2.1 (by omega) ho hsr2 hq) ?_
      refine s_aload1 C dX3_readHead_22 ?_
      refine gX3_75 C ho1 dX3_readHead_23 ?_
      refine s_iload2 C dX3_readHead_26 ?_
      refine s_aload0 C dX3_readHead_27 ?_
      refine s_stHL C (List.mem_of_getElem? (i := 8) rfl) dX3_readHead_28 ?_
      refine s_iload2 C dX3_readHead_31 ?_
      refine s_ildHL C h dX3_readHead_32 (fun h => ?_)
      refine s_stHM C (List.mem_of_getElem? (i := 9) rfl) dX3_readHead_33 ?_
      refine s_iload2 C dX3_readHead_36 ?_
      refine s_ildHM C h dX3_readHead_37 (fun h => ?_)
      obtain ⟨r5, M4, hq, h⟩ := bI_e h
      refine s_callV (T := TX3) (As := [.int (hdL.getD (tn x2) 0), .int (hdM.getD (tn x2) 0)]) (v := some (.int r5)) C rfl ho (by decide) rfl (by omega) wX3_85 rfl (Nat.le_of_ble_eq_true rfl) dX3_readHead_38 (tX3_takeNumber C.2.2.2.2.2.2.1 (by omega) ho hq) ?_
      refine s_iast C (qX7_head ho1) h dX3_readHead_41 (fun h => ?_)
      refine s_iinc2 (v := 1) C rfl dX3_readHead_42 (by decide) ?_
      refine s_goto (tgt := 8) C dX3_readHead_45 (by decide) ?_
      exact ih _ _ _ _ ho ho1 h
set_option maxRecDepth 4000 in
theorem tX3_readHead {l : Launch} {E : En} {A : Nat → Prop} {d : Nat} {M M' : Mem} {o : Nat} {o1 : Nat} (hE : Okk E A) (hd : 7 ≤ d) (ho : kd o = (3, 0)) (ho1 : kd o1 = (7, 0)) (h : fX3_readHead o o1 M = some M') : Ct l E A d yX3_readHead cX3_readHead 3 none [.ref (ad E o), .ref (ad E o1)] M none M' := by
  refine Ct.mk (ls := [some (.ref (ad E o)), some (.ref (ad E o1)), none]) hE (by decide +kernel) rfl (Nat.le_of_ble_eq_true rfl) (fun X hXl hXA C R => ?_)
  subst hXl; subst hXA
  unfold fX3_readHead at h
  refine s_aload0 C dX3_readHead_0 ?_
  refine s_ldcs (j := 1) (tx := "guesser") C rfl dX3_readHead_1 ?_
  obtain ⟨M1, hq, h⟩ := bV_e h
  refine s_callV (T := TX3) (As := [.ref (aK E 1)]) (v := none) C rfl ho (by decide) rfl (by omega) wX3_67 rfl (Nat.le_of_ble_eq_true rfl) dX3_readHead_3 (tX3_takeWord C.2.2.2.2.2.2.1 (by omega) ho (by decide) hq) ?_
  refine s_iconst (v := 0) C (by decide) dX3_readHead_6 ?_
  refine s_istore2 C rfl dX3_readHead_7 ?_
  exact bX3_readHead_8 C R hd  LF _ _ _ _ ho ho1 h
set_option maxRecDepth 4000 in
theorem tX3_readSpan {l : Launch} {E : En} {A : Nat → Prop} {d : Nat} {M M' : Mem} {o : Nat} {o1 : Nat} (hE : Okk E A) (hd : 3 ≤ d) (ho : kd o = (3, 0)) (ho1 : kd o1 = (7, 0)) (h : fX3_readSpan o o1 M = some M') : Ct l E A d yX3_readSpan cX3_readSpan 3 none [.ref (ad E o), .ref (ad E o1)] M none M' := by
  refine Ct.mk (ls := [some (.ref (ad E o)), some (.ref (ad E o1)), none]) hE (by decide +kernel) rfl (Nat.le_of_ble_eq_true rfl) (fun X hXl hXA C R => ?_)
  subst hXl; subst hXA
  unfold fX3_readSpan at h
  refine s_aload1 C dX3_readSpan_0 ?_
  refine gX3_89 C ho1 dX3_readSpan_1 ?_
  refine s_if_le (tgt := 15) C h dX3_readSpan_4 (by decide) ⟨fun h => ?_, fun h => ?_⟩
  · refine s_aload1 C dX3_readSpan_15 ?_
    refine gX3_92 C ho1 dX3_readSpan_16 ?_
    refine s_iconst (v := 5) C (by decide) dX3_readSpan_19 ?_
    refine s_ic_ne (tgt := 31) C h dX3_readSpan_20 (by decide) ⟨fun h => ?_, fun h => ?_⟩
    · refine s_aload0 C dX3_readSpan_31 ?_
      obtain ⟨M1, hq, h⟩ := bV_e h
      refine s_callV (T := TX3) (As := []) (v := none) C rfl ho (by decide) rfl (by omega) wX3_33 rfl (Nat.le_of_ble_eq_true rfl) dX3_readSpan_32 (tX3_advance C.2.2.2.2.2.2.1 (by omega) ho hq) ?_
      refine s_aload0 C dX3_readSpan_35 ?_
      refine s_aload1 C dX3_readSpan_36 ?_
      refine gX3_95 C ho1 dX3_readSpan_37 ?_
      refine s_aload1 C dX3_readSpan_40 ?_
      refine gX3_92 C ho1 dX3_readSpan_41 ?_
      refine s_iald C (qX7_spans ho1) h dX3_readSpan_44 (fun h => ?_)
      refine s_iconst (v := 1) C (by decide) dX3_readSpan_45 ?_
      refine s_iadd C dX3_readSpan_46 ?_
      refine s_bipush (v := 40) C (by decide) dX3_readSpan_47 ?_
      obtain ⟨r3, M2, hq, h⟩ := bI_e h
      refine s_callV (T := TX3) (As := [.int ((M1.1 (o1 + 2) (tn (M1.1 o1 6))) + (1 : Int32)), .int (40 : Int32)]) (v := some (.int r3)) C rfl ho (by decide) rfl (by omega) wX3_85 rfl (Nat.le_of_ble_eq_true rfl) dX3_readSpan_49 (tX3_takeNumber C.2.2.2.2.2.2.1 (by omega) ho hq) ?_
      refine s_istore2 C rfl dX3_readSpan_52 ?_
      refine s_aload1 C dX3_readSpan_53 ?_
      refine s_dup C rfl dX3_readSpan_54 ?_
      refine gX3_92 C ho1 dX3_readSpan_55 ?_
      refine s_iconst (v := 1) C (by decide) dX3_readSpan_58 ?_
      refine s_iadd C dX3_readSpan_59 ?_
      refine pX3_92 C ho1 dX3_readSpan_60 ?_
      refine s_aload1 C dX3_readSpan_63 ?_
      refine gX3_95 C ho1 dX3_readSpan_64 ?_
      refine s_aload1 C dX3_readSpan_67 ?_
      refine gX3_92 C ho1 dX3_readSpan_68 ?_
      refine s_iload2 C dX3_readSpan_71 ?_
      refine s_iast C (qX7_spans ho1) h dX3_readSpan_72 (fun h => ?_)
      exact s_vret C R h dX3_readSpan_73
    · refine s_aload0 C dX3_readSpan_23 ?_
      refine s_iconst (v := 3) C (by decide) dX3_readSpan_24 ?_
      obtain ⟨M4, hq, h⟩ := bV_e h
      refine s_callV (T := TX3) (As := [.int (3 : Int32)]) (v := none) C rfl ho (by decide) rfl (by omega) wX3_61 rfl (Nat.le_of_ble_eq_true rfl) dX3_readSpan_25 (tX3_fail C.2.2.2.2.2.2.1 (by omega) ho hq) ?_
      refine s_goto (tgt := 73) C dX3_readSpan_28 (by decide) ?_
      exact s_vret C R h dX3_readSpan_73
  · refine s_aload0 C dX3_readSpan_7 ?_
    refine s_iconst (v := 1) C (by decide) dX3_readSpan_8 ?_
    obtain ⟨M5, hq, h⟩ := bV_e h
    refine s_callV (T := TX3) (As := [.int (1 : Int32)]) (v := none) C rfl ho (by decide) rfl (by omega) wX3_61 rfl (Nat.le_of_ble_eq_true rfl) dX3_readSpan_9 (tX3_fail C.2.2.2.2.2.2.1 (by omega) ho hq) ?_
    refine s_goto (tgt := 73) C dX3_readSpan_12 (by decide) ?_
    exact s_vret C R h dX3_readSpan_73
set_option maxRecDepth 4000 in
theorem tX3_opWord {l : Launch} {E : En} {A : Nat → Prop} {d : Nat} {r : Nat} {M M' : Mem} {x0 : Int32} (hE : Okk E A) (hd : 0 ≤ d)  (h : fX3_opWord x0 M = some (r, M')) : Ct l E A d yX3_opWord cX3_opWord 1 (some (.object "java/lang/String")) [.int x0] M (some (.ref (aK E r))) M' := by
  refine Ct.mk (ls := [some (.int x0)]) hE (by decide +kernel) rfl (Nat.le_of_ble_eq_true rfl) (fun X hXl hXA C R => ?_)
  subst hXl; subst hXA
  unfold fX3_opWord at h
  refine s_iload0 C dX3_opWord_0 ?_
  rcases if_e h with ⟨e, h⟩ | ⟨e0, h⟩
  · refine s_tin (j := 0) (tgt := 56) C dX3_opWord_1 (by rw [e]; decide) (by decide) rfl (by decide) ?_
    refine s_ldcs (j := 8) (tx := "put") C rfl dX3_opWord_56 ?_
    exact s_sret C R h dX3_opWord_58
  rcases if_e h with ⟨e, h⟩ | ⟨e1, h⟩
  · refine s_tin (j := 1) (tgt := 59) C dX3_opWord_1 (by rw [e]; decide) (by decide) rfl (by decide) ?_
    refine s_ldcs (j := 9) (tx := "add") C rfl dX3_opWord_59 ?_
    exact s_sret C R h dX3_opWord_61
  rcases if_e h with ⟨e, h⟩ | ⟨e2, h⟩
  · refine s_tin (j := 2) (tgt := 62) C dX3_opWord_1 (by rw [e]; decide) (by decide) rfl (by decide) ?_
    refine s_ldcs (j := 10) (tx := "take") C rfl dX3_opWord_62 ?_
    exact s_sret C R h dX3_opWord_64
  rcases if_e h with ⟨e, h⟩ | ⟨e3, h⟩
  · refine s_tin (j := 3) (tgt := 65) C dX3_opWord_1 (by rw [e]; decide) (by decide) rfl (by decide) ?_
    refine s_ldcs (j := 11) (tx := "copy") C rfl dX3_opWord_65 ?_
    exact s_sret C R h dX3_opWord_67
  rcases if_e h with ⟨e, h⟩ | ⟨e4, h⟩
  · refine s_tin (j := 4) (tgt := 68) C dX3_opWord_1 (by rw [e]; decide) (by decide) rfl (by decide) ?_
    refine s_ldcs (j := 12) (tx := "sum") C rfl dX3_opWord_68 ?_
    exact s_sret C R h dX3_opWord_70
  rcases if_e h with ⟨e, h⟩ | ⟨e5, h⟩
  · refine s_tin (j := 5) (tgt := 71) C dX3_opWord_1 (by rw [e]; decide) (by decide) rfl (by decide) ?_
    refine s_ldcs (j := 13) (tx := "less") C rfl dX3_opWord_71 ?_
    exact s_sret C R h dX3_opWord_73
  rcases if_e h with ⟨e, h⟩ | ⟨e6, h⟩
  · refine s_tin (j := 6) (tgt := 74) C dX3_opWord_1 (by rw [e]; decide) (by decide) rfl (by decide) ?_
    refine s_ldcs (j := 14) (tx := "below") C rfl dX3_opWord_74 ?_
    exact s_sret C R h dX3_opWord_76
  rcases if_e h with ⟨e, h⟩ | ⟨e7, h⟩
  · refine s_tin (j := 7) (tgt := 77) C dX3_opWord_1 (by rw [e]; decide) (by decide) rfl (by decide) ?_
    refine s_ldcs (j := 15) (tx := "same") C rfl dX3_opWord_77 ?_
    exact s_sret C R h dX3_opWord_79
  rcases if_e h with ⟨e, h⟩ | ⟨e8, h⟩
  · refine s_tin (j := 8) (tgt := 80) C dX3_opWord_1 (by rw [e]; decide) (by decide) rfl (by decide) ?_
    refine s_ldcs (j := 16) (tx := "odd") C rfl dX3_opWord_80 ?_
    exact s_sret C R h dX3_opWord_82
  rcases if_e h with ⟨e, h⟩ | ⟨e9, h⟩
  · refine s_tin (j := 9) (tgt := 83) C dX3_opWord_1 (by rw [e]; decide) (by decide) rfl (by decide) ?_
    refine s_ldcs (j := 17) (tx := "go") C rfl dX3_opWord_83 ?_
    exact s_sret C R h dX3_opWord_85
  have g0 := ne_int e0
  have g1 := ne_int e1
  have g2 := ne_int e2
  have g3 := ne_int e3
  have g4 := ne_int e4
  have g5 := ne_int e5
  have g6 := ne_int e6
  have g7 := ne_int e7
  have g8 := ne_int e8
  have g9 := ne_int e9
  refine s_tout (tgt := 86) C dX3_opWord_1 (by simp only [show (0 : Int32).toInt = 0 from by decide, show (1 : Int32).toInt = 1 from by decide, show (2 : Int32).toInt = 2 from by decide, show (3 : Int32).toInt = 3 from by decide, show (4 : Int32).toInt = 4 from by decide, show (5 : Int32).toInt = 5 from by decide, show (6 : Int32).toInt = 6 from by decide, show (7 : Int32).toInt = 7 from by decide, show (8 : Int32).toInt = 8 from by decide, show (9 : Int32).toInt = 9 from by decide] at g0 g1 g2 g3 g4 g5 g6 g7 g8 g9; omega) (by decide) ?_
  refine s_ldcs (j := 18) (tx := "stop") C rfl dX3_opWord_86 ?_
  exact s_sret C R h dX3_opWord_88
set_option maxRecDepth 4000 in
theorem bX3_kindOfWord_2 {E : En} {X : Xc} {d : Nat} {r : Int32} {M' : Mem} (C : Cx E X d cX3_kindOfWord RX3 2) (R : Rt E X (some .int) (some (.int r)) M') (hd : 6 ≤ d)   : ∀ (n : Nat) (o : Nat) (x1 : Int32) (M : Mem) (_ : kd o = (3, 0)), fX3_kindOfWord_2  n o x1 M = some (r, M') → At E X 2 [some (.ref (ad E o)), some (.int x1)] [] M := by
  intro n
  induction n with
  | zero => intro o x1 M ho h; rw [fX3_kindOfWord_2] at h; cases h
  | succ n ih =>
    intro o x1 M ho h
    rw [fX3_kindOfWord_2] at h
    refine s_iload1 C dX3_kindOfWord_2 ?_
    refine s_bipush (v := 10) C (by decide) dX3_kindOfWord_3 ?_
    refine s_ic_gt (tgt := 27) C h dX3_kindOfWord_5 (by decide) ⟨fun h => ?_, fun h => ?_⟩
    · refine s_iconst (v := -1) C (by decide) dX3_kindOfWord_27 ?_
      exact s_iret C R h dX3_kindOfWord_28
    · refine s_aload0 C dX3_kindOfWord_8 ?_
      refine s_iload1 C dX3_kindOfWord_9 ?_
      obtain ⟨r2, M1, hq, h⟩ := bS_e h
      have hsr2 := sb_X3_opWord hq
      refine s_callS (As := [.int x1]) (v := some (.ref (aK E r2))) C rfl (by omega) wX3_146 rfl (Nat.le_of_ble_eq_true rfl) dX3_kindOfWord_10 (tX3_opWord C.2.2.2.2.2.2.1 (by omega)  hq) ?_
      obtain ⟨r4, M3, hq, h⟩ := bI_e h
      refine s_callV (T := TX3) (As := [.ref (aK E r2)]) (v := some (.int r4)) C rfl ho (by decide) rfl (by omega) wX3_51 rfl (Nat.le_of_ble_eq_true rfl) dX3_kindOfWord_13 (tX3_isWord C.2.2.2.2.2.2.1 (by omega) ho hsr2 hq) ?_
      refine s_if_eq (tgt := 21) C h dX3_kindOfWord_16 (by decide) ⟨fun h => ?_, fun h => ?_⟩
      · refine s_iinc1 (v := 1) C rfl dX3_kindOfWord_21 (by decide) ?_
        refine s_goto (tgt := 2) C dX3_kindOfWord_24 (by decide) ?_
        exact ih _ _ _ ho h
      · refine s_iload1 C dX3_kindOfWord_19 ?_
        exact s_iret C R h dX3_kindOfWord_20
set_option maxRecDepth 4000 in
theorem tX3_kindOfWord {l : Launch} {E : En} {A : Nat → Prop} {d : Nat} {r : Int32} {M M' : Mem} {o : Nat} (hE : Okk E A) (hd : 6 ≤ d) (ho : kd o = (3, 0)) (h : fX3_kindOfWord o M = some (r, M')) : Ct l E A d yX3_kindOfWord cX3_kindOfWord 2 (some .int) [.ref (ad E o)] M (some (.int r)) M' := by
  refine Ct.mk (ls := [some (.ref (ad E o)), none]) hE (by decide +kernel) rfl (Nat.le_of_ble_eq_true rfl) (fun X hXl hXA C R => ?_)
  subst hXl; subst hXA
  unfold fX3_kindOfWord at h
  refine s_iconst (v := 0) C (by decide) dX3_kindOfWord_0 ?_
  refine s_istore1 C rfl dX3_kindOfWord_1 ?_
  exact bX3_kindOfWord_2 C R hd  LF _ _ _ ho h
set_option maxRecDepth 4000 in
theorem tX3_formOf {l : Launch} {E : En} {A : Nat → Prop} {d : Nat} {r : Nat} {M M' : Mem} {x0 : Int32} (hE : Okk E A) (hd : 0 ≤ d)  (h : fX3_formOf x0 M = some (r, M')) : Ct l E A d yX3_formOf cX3_formOf 1 (some (.object "java/lang/String")) [.int x0] M (some (.ref (aK E r))) M' := by
  refine Ct.mk (ls := [some (.int x0)]) hE (by decide +kernel) rfl (Nat.le_of_ble_eq_true rfl) (fun X hXl hXA C R => ?_)
  subst hXl; subst hXA
  unfold fX3_formOf at h
  refine s_iload0 C dX3_formOf_0 ?_
  rcases if_e h with ⟨e, h⟩ | ⟨e0, h⟩
  · refine s_tin (j := 0) (tgt := 56) C dX3_formOf_1 (by rw [e]; decide) (by decide) rfl (by decide) ?_
    refine s_ldcs (j := 19) (tx := "RN") C rfl dX3_formOf_56 ?_
    exact s_sret C R h dX3_formOf_58
  rcases if_e h with ⟨e, h⟩ | ⟨e1, h⟩
  · refine s_tin (j := 1) (tgt := 56) C dX3_formOf_1 (by rw [e]; decide) (by decide) rfl (by decide) ?_
    refine s_ldcs (j := 19) (tx := "RN") C rfl dX3_formOf_56 ?_
    exact s_sret C R h dX3_formOf_58
  rcases if_e h with ⟨e, h⟩ | ⟨e2, h⟩
  · refine s_tin (j := 2) (tgt := 56) C dX3_formOf_1 (by rw [e]; decide) (by decide) rfl (by decide) ?_
    refine s_ldcs (j := 19) (tx := "RN") C rfl dX3_formOf_56 ?_
    exact s_sret C R h dX3_formOf_58
  rcases if_e h with ⟨e, h⟩ | ⟨e3, h⟩
  · refine s_tin (j := 3) (tgt := 59) C dX3_formOf_1 (by rw [e]; decide) (by decide) rfl (by decide) ?_
    refine s_ldcs (j := 20) (tx := "RR") C rfl dX3_formOf_59 ?_
    exact s_sret C R h dX3_formOf_61
  rcases if_e h with ⟨e, h⟩ | ⟨e4, h⟩
  · refine s_tin (j := 4) (tgt := 59) C dX3_formOf_1 (by rw [e]; decide) (by decide) rfl (by decide) ?_
    refine s_ldcs (j := 20) (tx := "RR") C rfl dX3_formOf_59 ?_
    exact s_sret C R h dX3_formOf_61
  rcases if_e h with ⟨e, h⟩ | ⟨e5, h⟩
  · refine s_tin (j := 5) (tgt := 59) C dX3_formOf_1 (by rw [e]; decide) (by decide) rfl (by decide) ?_
    refine s_ldcs (j := 20) (tx := "RR") C rfl dX3_formOf_59 ?_
    exact s_sret C R h dX3_formOf_61
  rcases if_e h with ⟨e, h⟩ | ⟨e6, h⟩
  · refine s_tin (j := 6) (tgt := 62) C dX3_formOf_1 (by rw [e]; decide) (by decide) rfl (by decide) ?_
    refine s_ldcs (j := 21) (tx := "RRL") C rfl dX3_formOf_62 ?_
    exact s_sret C R h dX3_formOf_64
  rcases if_e h with ⟨e, h⟩ | ⟨e7, h⟩
  · refine s_tin (j := 7) (tgt := 62) C dX3_formOf_1 (by rw [e]; decide) (by decide) rfl (by decide) ?_
    refine s_ldcs (j := 21) (tx := "RRL") C rfl dX3_formOf_62 ?_
    exact s_sret C R h dX3_formOf_64
  rcases if_e h with ⟨e, h⟩ | ⟨e8, h⟩
  · refine s_tin (j := 8) (tgt := 65) C dX3_formOf_1 (by rw [e]; decide) (by decide) rfl (by decide) ?_
    refine s_ldcs (j := 22) (tx := "RL") C rfl dX3_formOf_65 ?_
    exact s_sret C R h dX3_formOf_67
  rcases if_e h with ⟨e, h⟩ | ⟨e9, h⟩
  · refine s_tin (j := 9) (tgt := 68) C dX3_formOf_1 (by rw [e]; decide) (by decide) rfl (by decide) ?_
    refine s_ldcs (j := 23) (tx := "L") C rfl dX3_formOf_68 ?_
    exact s_sret C R h dX3_formOf_70
  have g0 := ne_int e0
  have g1 := ne_int e1
  have g2 := ne_int e2
  have g3 := ne_int e3
  have g4 := ne_int e4
  have g5 := ne_int e5
  have g6 := ne_int e6
  have g7 := ne_int e7
  have g8 := ne_int e8
  have g9 := ne_int e9
  refine s_tout (tgt := 71) C dX3_formOf_1 (by simp only [show (0 : Int32).toInt = 0 from by decide, show (1 : Int32).toInt = 1 from by decide, show (2 : Int32).toInt = 2 from by decide, show (3 : Int32).toInt = 3 from by decide, show (4 : Int32).toInt = 4 from by decide, show (5 : Int32).toInt = 5 from by decide, show (6 : Int32).toInt = 6 from by decide, show (7 : Int32).toInt = 7 from by decide, show (8 : Int32).toInt = 8 from by decide, show (9 : Int32).toInt = 9 from by decide] at g0 g1 g2 g3 g4 g5 g6 g7 g8 g9; omega) (by decide) ?_
  refine s_ldcs (j := 24) (tx := "") C rfl dX3_formOf_71 ?_
  exact s_sret C R h dX3_formOf_73
set_option maxRecDepth 4000 in
theorem tX3_mostOf {l : Launch} {E : En} {A : Nat → Prop} {d : Nat} {r : Int32} {M M' : Mem} {x0 : Int32} (hE : Okk E A) (hd : 0 ≤ d)  (h : fX3_mostOf x0 M = some (r, M')) : Ct l E A d yX3_mostOf cX3_mostOf 1 (some .int) [.int x0] M (some (.int r)) M' := by
  refine Ct.mk (ls := [some (.int x0)]) hE (by decide +kernel) rfl (Nat.le_of_ble_eq_true rfl) (fun X hXl hXA C R => ?_)
  subst hXl; subst hXA
  unfold fX3_mostOf at h
  refine s_iload0 C dX3_mostOf_0 ?_
  refine s_bipush (v := 82) C (by decide) dX3_mostOf_1 ?_
  refine s_ic_ne (tgt := 9) C h dX3_mostOf_3 (by decide) ⟨fun h => ?_, fun h => ?_⟩
  · refine s_iload0 C dX3_mostOf_9 ?_
    refine s_bipush (v := 78) C (by decide) dX3_mostOf_10 ?_
    refine s_ic_ne (tgt := 21) C h dX3_mostOf_12 (by decide) ⟨fun h => ?_, fun h => ?_⟩
    · refine s_bipush (v := 39) C (by decide) dX3_mostOf_21 ?_
      exact s_iret C R h dX3_mostOf_23
    · refine s_sipush (v := 999) C (by decide) dX3_mostOf_15 ?_
      refine s_goto (tgt := 23) C dX3_mostOf_18 (by decide) ?_
      exact s_iret C R h dX3_mostOf_23
  · refine s_bipush (v := 7) C (by decide) dX3_mostOf_6 ?_
    exact s_iret C R h dX3_mostOf_8
set_option maxRecDepth 4000 in
theorem bX3_readOp_47 {E : En} {X : Xc} {d : Nat} {M' : Mem} (C : Cx E X d cX3_readOp RX3 5) (R : Rt E X none none M') (hd : 7 ≤ d)   : ∀ (n : Nat) (o : Nat) (o1 : Nat) (x2 : Int32) (j3 : Nat) (x4 : Int32) (M : Mem) (_ : kd o = (3, 0)) (_ : kd o1 = (7, 0)) (_ : j3 < NS), fX3_readOp_47  n o o1 x2 j3 x4 M = some M' → At E X 47 [some (.ref (ad E o)), some (.ref (ad E o1)), some (.int x2), some (.ref (aK E j3)), some (.int x4)] [] M := by
  intro n
  induction n with
  | zero => intro o o1 x2 j3 x4 M ho ho1 hj3 h; rw [fX3_readOp_47] at h; cases h
  | succ n ih =>
    intro o o1 x2 j3 x4 M ho ho1 hj3 h
    rw [fX3_readOp_47] at h
    refine s_iload4 C dX3_readOp_47 ?_
    refine s_aload3 C dX3_readOp_49 ?_
    refine s_callVS (As := []) (v := some (.int (nI (sl j3)))) C rfl hj3 (by omega) wX3_105 rfl (Nat.le_of_ble_eq_true rfl) dX3_readOp_50 (ct_length C.2.2.2.2.2.2.1 (by omega) hj3) ?_
    refine s_ic_ge (tgt := 90) C h dX3_readOp_53 (by decide) ⟨fun h => ?_, fun h => ?_⟩
    · refine s_aload1 C dX3_readOp_90 ?_
      refine gX3_120 C ho1 dX3_readOp_91 ?_
      refine s_aload1 C dX3_readOp_94 ?_
      refine gX3_89 C ho1 dX3_readOp_95 ?_
      refine s_iload2 C dX3_readOp_98 ?_
      refine s_iast C (qX7_kinds ho1) h dX3_readOp_99 (fun h => ?_)
      refine s_aload1 C dX3_readOp_100 ?_
      refine s_dup C rfl dX3_readOp_101 ?_
      refine gX3_89 C ho1 dX3_readOp_102 ?_
      refine s_iconst (v := 1) C (by decide) dX3_readOp_105 ?_
      refine s_iadd C dX3_readOp_106 ?_
      refine pX3_89 C ho1 dX3_readOp_107 ?_
      exact s_vret C R h dX3_readOp_110
    · refine s_aload1 C dX3_readOp_56 ?_
      refine gX3_109 C ho1 dX3_readOp_57 ?_
      refine s_iconst (v := 3) C (by decide) dX3_readOp_60 ?_
      refine s_aload1 C dX3_readOp_61 ?_
      refine gX3_89 C ho1 dX3_readOp_62 ?_
      refine s_imul C dX3_readOp_65 ?_
      refine s_iload4 C dX3_readOp_66 ?_
      refine s_iadd C dX3_readOp_68 ?_
      refine s_aload0 C dX3_readOp_69 ?_
      refine s_iconst (v := 0) C (by decide) dX3_readOp_70 ?_
      refine s_aload3 C dX3_readOp_71 ?_
      refine s_iload4 C dX3_readOp_72 ?_
      obtain ⟨hib, h⟩ := ck_e h
      refine s_callVS (As := [.int x4]) (v := some (.int (sc j3 (tn x4)))) C rfl hj3 (by omega) wX3_112 rfl (Nat.le_of_ble_eq_true rfl) dX3_readOp_74 (ct_charAt C.2.2.2.2.2.2.1 (by omega) hj3 hib) ?_
      obtain ⟨r2, M1, hq, h⟩ := bI_e h
      refine s_callS (As := [.int (sc j3 (tn x4))]) (v := some (.int r2)) C rfl (by omega) wX3_116 rfl (Nat.le_of_ble_eq_true rfl) dX3_readOp_77 (tX3_mostOf C.2.2.2.2.2.2.1 (by omega)  hq) ?_
      obtain ⟨r4, M3, hq, h⟩ := bI_e h
      refine s_callV (T := TX3) (As := [.int (0 : Int32), .int r2]) (v := some (.int r4)) C rfl ho (by decide) rfl (by omega) wX3_85 rfl (Nat.le_of_ble_eq_true rfl) dX3_readOp_80 (tX3_takeNumber C.2.2.2.2.2.2.1 (by omega) ho hq) ?_
      refine s_iast C (qX7_numbers ho1) h dX3_readOp_83 (fun h => ?_)
      refine s_iinc4 (v := 1) C rfl dX3_readOp_84 (by decide) ?_
      refine s_goto (tgt := 47) C dX3_readOp_87 (by decide) ?_
      exact ih _ _ _ _ _ _ ho ho1 hj3 h
set_option maxRecDepth 4000 in
theorem tX3_readOp {l : Launch} {E : En} {A : Nat → Prop} {d : Nat} {M M' : Mem} {o : Nat} {o1 : Nat} (hE : Okk E A) (hd : 7 ≤ d) (ho : kd o = (3, 0)) (ho1 : kd o1 = (7, 0)) (h : fX3_readOp o o1 M = some M') : Ct l E A d yX3_readOp cX3_readOp 5 none [.ref (ad E o), .ref (ad E o1)] M none M' := by
  refine Ct.mk (ls := [some (.ref (ad E o)), some (.ref (ad E o1)), none, none, none]) hE (by decide +kernel) rfl (Nat.le_of_ble_eq_true rfl) (fun X hXl hXA C R => ?_)
  subst hXl; subst hXA
  unfold fX3_readOp at h
  refine s_aload0 C dX3_readOp_0 ?_
  obtain ⟨r2, M1, hq, h⟩ := bI_e h
  refine s_callV (T := TX3) (As := []) (v := some (.int r2)) C rfl ho (by decide) rfl (by omega) wX3_98 rfl (Nat.le_of_ble_eq_true rfl) dX3_readOp_1 (tX3_kindOfWord C.2.2.2.2.2.2.1 (by omega) ho hq) ?_
  refine s_istore2 C rfl dX3_readOp_4 ?_
  refine s_iload2 C dX3_readOp_5 ?_
  refine s_iconst (v := -1) C (by decide) dX3_readOp_6 ?_
  refine s_ic_ne (tgt := 18) C h dX3_readOp_7 (by decide) ⟨fun h => ?_, fun h => ?_⟩
  · refine s_aload1 C dX3_readOp_18 ?_
    refine gX3_89 C ho1 dX3_readOp_19 ?_
    refine s_bipush (v := 40) C (by decide) dX3_readOp_22 ?_
    refine s_ic_ne (tgt := 35) C h dX3_readOp_24 (by decide) ⟨fun h => ?_, fun h => ?_⟩
    · refine s_aload0 C dX3_readOp_35 ?_
      obtain ⟨M3, hq, h⟩ := bV_e h
      refine s_callV (T := TX3) (As := []) (v := none) C rfl ho (by decide) rfl (by omega) wX3_33 rfl (Nat.le_of_ble_eq_true rfl) dX3_readOp_36 (tX3_advance C.2.2.2.2.2.2.1 (by omega) ho hq) ?_
      refine s_iload2 C dX3_readOp_39 ?_
      obtain ⟨r5, M4, hq, h⟩ := bS_e h
      have hsr5 := sb_X3_formOf hq
      refine s_callS (As := [.int r2]) (v := some (.ref (aK E r5))) C rfl (by omega) wX3_102 rfl (Nat.le_of_ble_eq_true rfl) dX3_readOp_40 (tX3_formOf C.2.2.2.2.2.2.1 (by omega)  hq) ?_
      refine s_astore3 C rfl dX3_readOp_43 ?_
      refine s_iconst (v := 0) C (by decide) dX3_readOp_44 ?_
      refine s_istore4 C rfl dX3_readOp_45 ?_
      exact bX3_readOp_47 C R hd  LF _ _ _ _ _ _ ho ho1 hsr5 h
    · refine s_aload0 C dX3_readOp_27 ?_
      refine s_iconst (v := 3) C (by decide) dX3_readOp_28 ?_
      obtain ⟨M6, hq, h⟩ := bV_e h
      refine s_callV (T := TX3) (As := [.int (3 : Int32)]) (v := none) C rfl ho (by decide) rfl (by omega) wX3_61 rfl (Nat.le_of_ble_eq_true rfl) dX3_readOp_29 (tX3_fail C.2.2.2.2.2.2.1 (by omega) ho hq) ?_
      refine s_goto (tgt := 110) C dX3_readOp_32 (by decide) ?_
      exact s_vret C R h dX3_readOp_110
  · refine s_aload0 C dX3_readOp_10 ?_
    refine s_iconst (v := 1) C (by decide) dX3_readOp_11 ?_
    obtain ⟨M7, hq, h⟩ := bV_e h
    refine s_callV (T := TX3) (As := [.int (1 : Int32)]) (v := none) C rfl ho (by decide) rfl (by omega) wX3_61 rfl (Nat.le_of_ble_eq_true rfl) dX3_readOp_12 (tX3_fail C.2.2.2.2.2.2.1 (by omega) ho hq) ?_
    refine s_goto (tgt := 110) C dX3_readOp_15 (by decide) ?_
    exact s_vret C R h dX3_readOp_110
set_option maxRecDepth 4000 in
theorem bX3_readLine_57 {E : En} {X : Xc} {d : Nat} {M M' : Mem} {o : Nat} {o1 : Nat} (C : Cx E X d cX3_readLine RX3 2) (R : Rt E X none none M') (hd : 8 ≤ d)   (ho : kd o = (3, 0)) (ho1 : kd o1 = (7, 0)) (h : fX3_readLine_57  o o1 M = some M') : At E X 57 [some (.ref (ad E o)), some (.ref (ad E o1))] [] M := by
  unfold fX3_readLine_57 at h
  refine s_aload0 C dX3_readLine_57 ?_
  refine gX3_27 C ho dX3_readLine_58 ?_
  refine s_if_ne (tgt := 78) C h dX3_readLine_61 (by decide) ⟨fun h => ?_, fun h => ?_⟩
  · exact s_vret C R h dX3_readLine_78
  · refine s_aload1 C dX3_readLine_64 ?_
    refine s_dup C rfl dX3_readLine_65 ?_
    refine gX3_43 C ho1 dX3_readLine_66 ?_
    refine s_iconst (v := 1) C (by decide) dX3_readLine_69 ?_
    refine s_iadd C dX3_readLine_70 ?_
    refine pX3_43 C ho1 dX3_readLine_71 ?_
    refine s_aload0 C dX3_readLine_74 ?_
    obtain ⟨M1, hq, h⟩ := bV_e h
    refine s_callV (T := TX3) (As := []) (v := none) C rfl ho (by decide) rfl (by omega) wX3_33 rfl (Nat.le_of_ble_eq_true rfl) dX3_readLine_75 (tX3_advance C.2.2.2.2.2.2.1 (by omega) ho hq) ?_
    exact s_vret C R h dX3_readLine_78
set_option maxRecDepth 4000 in
theorem bX3_readLine_37 {E : En} {X : Xc} {d : Nat} {M M' : Mem} {o : Nat} {o1 : Nat} (C : Cx E X d cX3_readLine RX3 2) (R : Rt E X none none M') (hd : 8 ≤ d)   (ho : kd o = (3, 0)) (ho1 : kd o1 = (7, 0)) (h : fX3_readLine_37  o o1 M = some M') : At E X 37 [some (.ref (ad E o)), some (.ref (ad E o1))] [] M := by
  unfold fX3_readLine_37 at h
  refine s_aload0 C dX3_readLine_37 ?_
  refine gX3_27 C ho dX3_readLine_38 ?_
  refine s_if_ne (tgt := 57) C h dX3_readLine_41 (by decide) ⟨fun h => ?_, fun h => ?_⟩
  · exact bX3_readLine_57 C R hd  ho ho1 h
  · refine s_aload0 C dX3_readLine_44 ?_
    refine gX3_36 C ho dX3_readLine_45 ?_
    refine s_iconst (v := 3) C (by decide) dX3_readLine_48 ?_
    refine s_ic_eq (tgt := 57) C h dX3_readLine_49 (by decide) ⟨fun h => ?_, fun h => ?_⟩
    · exact bX3_readLine_57 C R hd  ho ho1 h
    · refine s_aload0 C dX3_readLine_52 ?_
      refine s_iconst (v := 1) C (by decide) dX3_readLine_53 ?_
      obtain ⟨M1, hq, h⟩ := bV_e h
      refine s_callV (T := TX3) (As := [.int (1 : Int32)]) (v := none) C rfl ho (by decide) rfl (by omega) wX3_61 rfl (Nat.le_of_ble_eq_true rfl) dX3_readLine_54 (tX3_fail C.2.2.2.2.2.2.1 (by omega) ho hq) ?_
      exact bX3_readLine_57 C R hd  ho ho1 h
set_option maxRecDepth 4000 in
theorem tX3_readLine {l : Launch} {E : En} {A : Nat → Prop} {d : Nat} {M M' : Mem} {o : Nat} {o1 : Nat} (hE : Okk E A) (hd : 8 ≤ d) (ho : kd o = (3, 0)) (ho1 : kd o1 = (7, 0)) (h : fX3_readLine o o1 M = some M') : Ct l E A d yX3_readLine cX3_readLine 2 none [.ref (ad E o), .ref (ad E o1)] M none M' := by
  refine Ct.mk (ls := [some (.ref (ad E o)), some (.ref (ad E o1))]) hE (by decide +kernel) rfl (Nat.le_of_ble_eq_true rfl) (fun X hXl hXA C R => ?_)
  subst hXl; subst hXA
  unfold fX3_readLine at h
  refine s_aload1 C dX3_readLine_0 ?_
  refine gX3_43 C ho1 dX3_readLine_1 ?_
  refine s_if_ne (tgt := 15) C h dX3_readLine_4 (by decide) ⟨fun h => ?_, fun h => ?_⟩
  · refine s_aload0 C dX3_readLine_15 ?_
    refine s_ldcs (j := 0) (tx := "span") C rfl dX3_readLine_16 ?_
    obtain ⟨r2, M1, hq, h⟩ := bI_e h
    refine s_callV (T := TX3) (As := [.ref (aK E 0)]) (v := some (.int r2)) C rfl ho (by decide) rfl (by omega) wX3_51 rfl (Nat.le_of_ble_eq_true rfl) dX3_readLine_18 (tX3_isWord C.2.2.2.2.2.2.1 (by omega) ho (by decide) hq) ?_
    refine s_if_eq (tgt := 32) C h dX3_readLine_21 (by decide) ⟨fun h => ?_, fun h => ?_⟩
    · refine s_aload0 C dX3_readLine_32 ?_
      refine s_aload1 C dX3_readLine_33 ?_
      obtain ⟨M3, hq, h⟩ := bV_e h
      refine s_callV (T := TX3) (As := [.ref (ad E o1)]) (v := none) C rfl ho (by decide) rfl (by omega) wX3_58 rfl (Nat.le_of_ble_eq_true rfl) dX3_readLine_34 (tX3_readOp C.2.2.2.2.2.2.1 (by omega) ho ho1 hq) ?_
      exact bX3_readLine_37 C R hd  ho ho1 h
    · refine s_aload0 C dX3_readLine_24 ?_
      refine s_aload1 C dX3_readLine_25 ?_
      obtain ⟨M4, hq, h⟩ := bV_e h
      refine s_callV (T := TX3) (As := [.ref (ad E o1)]) (v := none) C rfl ho (by decide) rfl (by omega) wX3_55 rfl (Nat.le_of_ble_eq_true rfl) dX3_readLine_26 (tX3_readSpan C.2.2.2.2.2.2.1 (by omega) ho ho1 hq) ?_
      refine s_goto (tgt := 37) C dX3_readLine_29 (by decide) ?_
      exact bX3_readLine_37 C R hd  ho ho1 h
  · refine s_aload0 C dX3_readLine_7 ?_
    refine s_aload1 C dX3_readLine_8 ?_
    obtain ⟨M5, hq, h⟩ := bV_e h
    refine s_callV (T := TX3) (As := [.ref (ad E o1)]) (v := none) C rfl ho (by decide) rfl (by omega) wX3_46 rfl (Nat.le_of_ble_eq_true rfl) dX3_readLine_9 (tX3_readHead C.2.2.2.2.2.2.1 (by omega) ho ho1 hq) ?_
    refine s_goto (tgt := 37) C dX3_readLine_12 (by decide) ?_
    exact bX3_readLine_37 C R hd  ho ho1 h
set_option maxRecDepth 4000 in
theorem bX3_readInto_57 {E : En} {X : Xc} {d : Nat} {r : Int32} {M M' : Mem} {o : Nat} (C : Cx E X d cX3_readInto RX3 3) (R : Rt E X (some .boolean) (some (.int r)) M') (hd : 9 ≤ d)   (ho : kd o = (3, 0)) (h : fX3_readInto_57  o M = some (r, M')) : At E X 57 [some (.ref (ad E o)), none, none] [] M := by
  unfold fX3_readInto_57 at h
  refine s_aload0 C dX3_readInto_57 ?_
  refine s_iconst (v := 0) C (by decide) dX3_readInto_58 ?_
  refine pX3_19 C ho dX3_readInto_59 ?_
  refine s_aload0 C dX3_readInto_62 ?_
  refine gX3_27 C ho dX3_readInto_63 ?_
  refine s_if_ne (tgt := 73) C h dX3_readInto_66 (by decide) ⟨fun h => ?_, fun h => ?_⟩
  · refine s_iconst (v := 0) C (by decide) dX3_readInto_73 ?_
    exact s_zret C R h rfl dX3_readInto_74
  · refine s_iconst (v := 1) C (by decide) dX3_readInto_69 ?_
    refine s_goto (tgt := 74) C dX3_readInto_70 (by decide) ?_
    exact s_zret C R h rfl dX3_readInto_74
set_option maxRecDepth 4000 in
theorem bX3_readInto_25 {E : En} {X : Xc} {d : Nat} {r : Int32} {M' : Mem} (C : Cx E X d cX3_readInto RX3 3) (R : Rt E X (some .boolean) (some (.int r)) M') (hd : 9 ≤ d)   : ∀ (n : Nat) (o : Nat) (o1 : Nat) (x2 : Int32) (M : Mem) (_ : kd o = (3, 0)) (_ : kd o1 = (7, 0)), fX3_readInto_25  n o o1 x2 M = some (r, M') → At E X 25 [some (.ref (ad E o)), some (.ref (ad E o1)), some (.int x2)] [] M := by
  intro n
  induction n with
  | zero => intro o o1 x2 M ho ho1 h; rw [fX3_readInto_25] at h; cases h
  | succ n ih =>
    intro o o1 x2 M ho ho1 h
    rw [fX3_readInto_25] at h
    refine s_iload2 C dX3_readInto_25 ?_
    refine s_sipush (v := 800) C (by decide) dX3_readInto_26 ?_
    refine s_ic_ge (tgt := 57) C h dX3_readInto_29 (by decide) ⟨fun h => ?_, fun h => ?_⟩
    · refine s_fg 1 ?_
      refine s_fg 2 ?_
      exact bX3_readInto_57 C R hd  ho h
    · refine s_aload0 C dX3_readInto_32 ?_
      refine gX3_27 C ho dX3_readInto_33 ?_
      refine s_if_ne (tgt := 57) C h dX3_readInto_36 (by decide) ⟨fun h => ?_, fun h => ?_⟩
      · refine s_fg 1 ?_
        refine s_fg 2 ?_
        exact bX3_readInto_57 C R hd  ho h
      · refine s_aload0 C dX3_readInto_39 ?_
        refine gX3_36 C ho dX3_readInto_40 ?_
        refine s_if_eq (tgt := 57) C h dX3_readInto_43 (by decide) ⟨fun h => ?_, fun h => ?_⟩
        · refine s_fg 1 ?_
          refine s_fg 2 ?_
          exact bX3_readInto_57 C R hd  ho h
        · refine s_aload0 C dX3_readInto_46 ?_
          refine s_aload1 C dX3_readInto_47 ?_
          obtain ⟨M1, hq, h⟩ := bV_e h
          refine s_callV (T := TX3) (As := [.ref (ad E o1)]) (v := none) C rfl ho (by decide) rfl (by omega) wX3_39 rfl (Nat.le_of_ble_eq_true rfl) dX3_readInto_48 (tX3_readLine C.2.2.2.2.2.2.1 (by omega) ho ho1 hq) ?_
          refine s_iinc2 (v := 1) C rfl dX3_readInto_51 (by decide) ?_
          refine s_goto (tgt := 25) C dX3_readInto_54 (by decide) ?_
          exact ih _ _ _ _ ho ho1 h
set_option maxRecDepth 4000 in
theorem tX3_readInto {l : Launch} {E : En} {A : Nat → Prop} {d : Nat} {r : Int32} {M M' : Mem} {o : Nat} {o1 : Nat} (hE : Okk E A) (hd : 9 ≤ d) (ho : kd o = (3, 0)) (ho1 : kd o1 = (7, 0)) (h : fX3_readInto o o1 M = some (r, M')) : Ct l E A d yX3_readInto cX3_readInto 3 (some .boolean) [.ref (ad E o), .ref (ad E o1)] M (some (.int r)) M' := by
  refine Ct.mk (ls := [some (.ref (ad E o)), some (.ref (ad E o1)), none]) hE (by decide +kernel) rfl (Nat.le_of_ble_eq_true rfl) (fun X hXl hXA C R => ?_)
  subst hXl; subst hXA
  unfold fX3_readInto at h
  refine s_aload1 C dX3_readInto_0 ?_
  obtain ⟨M1, hq, h⟩ := bV_e h
  refine s_callV (T := TX7) (As := []) (v := none) C rfl ho1 (by decide) rfl (by omega) wX3_22 rfl (Nat.le_of_ble_eq_true rfl) dX3_readInto_1 (tX7_clear C.2.2.2.2.2.2.1 (by omega) ho1 hq) ?_
  refine s_aload0 C dX3_readInto_4 ?_
  refine s_iconst (v := 0) C (by decide) dX3_readInto_5 ?_
  refine pX3_27 C ho dX3_readInto_6 ?_
  refine s_aload0 C dX3_readInto_9 ?_
  refine s_iconst (v := -1) C (by decide) dX3_readInto_10 ?_
  refine pX3_15 C ho dX3_readInto_11 ?_
  refine s_aload0 C dX3_readInto_14 ?_
  refine s_iconst (v := 0) C (by decide) dX3_readInto_15 ?_
  refine pX3_30 C ho dX3_readInto_16 ?_
  refine s_aload0 C dX3_readInto_19 ?_
  obtain ⟨M2, hq, h⟩ := bV_e h
  refine s_callV (T := TX3) (As := []) (v := none) C rfl ho (by decide) rfl (by omega) wX3_33 rfl (Nat.le_of_ble_eq_true rfl) dX3_readInto_20 (tX3_advance C.2.2.2.2.2.2.1 (by omega) ho hq) ?_
  refine s_iconst (v := 0) C (by decide) dX3_readInto_23 ?_
  refine s_istore2 C rfl dX3_readInto_24 ?_
  exact bX3_readInto_25 C R hd  LF _ _ _ _ ho ho1 h
set_option maxRecDepth 4000 in
theorem tX7_copyFrom {l : Launch} {E : En} {A : Nat → Prop} {d : Nat} {M M' : Mem} {o : Nat} {o1 : Nat} (hE : Okk E A) (hd : 1 ≤ d) (ho : kd o = (7, 0)) (ho1 : kd o1 = (7, 0)) (h : fX7_copyFrom o o1 M = some M') : Ct l E A d yX7_copyFrom cX7_copyFrom 2 none [.ref (ad E o), .ref (ad E o1)] M none M' := by
  refine Ct.mk (ls := [some (.ref (ad E o)), some (.ref (ad E o1))]) hE (by decide +kernel) rfl (Nat.le_of_ble_eq_true rfl) (fun X hXl hXA C R => ?_)
  subst hXl; subst hXA
  unfold fX7_copyFrom at h
  refine s_aload1 C dX7_copyFrom_0 ?_
  refine gX7_9 C ho1 dX7_copyFrom_1 ?_
  refine s_iconst (v := 0) C (by decide) dX7_copyFrom_4 ?_
  refine s_aload0 C dX7_copyFrom_5 ?_
  refine gX7_9 C ho dX7_copyFrom_6 ?_
  refine s_iconst (v := 0) C (by decide) dX7_copyFrom_9 ?_
  refine s_aload0 C dX7_copyFrom_10 ?_
  refine gX7_9 C ho dX7_copyFrom_11 ?_
  refine s_alen20 C (qX7_head ho) dX7_copyFrom_14 ?_
  refine s_copy C rfl (by omega) wX7_46 (Nat.le_of_ble_eq_true rfl) (qX7_head ho1) (qX7_head ho) h dX7_copyFrom_15 (fun h => ?_)
  refine s_aload1 C dX7_copyFrom_18 ?_
  refine gX7_15 C ho1 dX7_copyFrom_19 ?_
  refine s_iconst (v := 0) C (by decide) dX7_copyFrom_22 ?_
  refine s_aload0 C dX7_copyFrom_23 ?_
  refine gX7_15 C ho dX7_copyFrom_24 ?_
  refine s_iconst (v := 0) C (by decide) dX7_copyFrom_27 ?_
  refine s_aload0 C dX7_copyFrom_28 ?_
  refine gX7_15 C ho dX7_copyFrom_29 ?_
  refine s_alen20 C (qX7_spans ho) dX7_copyFrom_32 ?_
  refine s_copy C rfl (by omega) wX7_46 (Nat.le_of_ble_eq_true rfl) (qX7_spans ho1) (qX7_spans ho) h dX7_copyFrom_33 (fun h => ?_)
  refine s_aload1 C dX7_copyFrom_36 ?_
  refine gX7_18 C ho1 dX7_copyFrom_37 ?_
  refine s_iconst (v := 0) C (by decide) dX7_copyFrom_40 ?_
  refine s_aload0 C dX7_copyFrom_41 ?_
  refine gX7_18 C ho dX7_copyFrom_42 ?_
  refine s_iconst (v := 0) C (by decide) dX7_copyFrom_45 ?_
  refine s_aload0 C dX7_copyFrom_46 ?_
  refine gX7_18 C ho dX7_copyFrom_47 ?_
  refine s_alen20 C (qX7_kinds ho) dX7_copyFrom_50 ?_
  refine s_copy C rfl (by omega) wX7_46 (Nat.le_of_ble_eq_true rfl) (qX7_kinds ho1) (qX7_kinds ho) h dX7_copyFrom_51 (fun h => ?_)
  refine s_aload1 C dX7_copyFrom_54 ?_
  refine gX7_21 C ho1 dX7_copyFrom_55 ?_
  refine s_iconst (v := 0) C (by decide) dX7_copyFrom_58 ?_
  refine s_aload0 C dX7_copyFrom_59 ?_
  refine gX7_21 C ho dX7_copyFrom_60 ?_
  refine s_iconst (v := 0) C (by decide) dX7_copyFrom_63 ?_
  refine s_aload0 C dX7_copyFrom_64 ?_
  refine gX7_21 C ho dX7_copyFrom_65 ?_
  refine s_alen20 C (qX7_numbers ho) dX7_copyFrom_68 ?_
  refine s_copy C rfl (by omega) wX7_46 (Nat.le_of_ble_eq_true rfl) (qX7_numbers ho1) (qX7_numbers ho) h dX7_copyFrom_69 (fun h => ?_)
  refine s_aload1 C dX7_copyFrom_72 ?_
  refine gX7_24 C ho1 dX7_copyFrom_73 ?_
  refine s_iconst (v := 0) C (by decide) dX7_copyFrom_76 ?_
  refine s_aload0 C dX7_copyFrom_77 ?_
  refine gX7_24 C ho dX7_copyFrom_78 ?_
  refine s_iconst (v := 0) C (by decide) dX7_copyFrom_81 ?_
  refine s_aload0 C dX7_copyFrom_82 ?_
  refine gX7_24 C ho dX7_copyFrom_83 ?_
  refine s_alen20 C (qX7_acts ho) dX7_copyFrom_86 ?_
  refine s_copy C rfl (by omega) wX7_46 (Nat.le_of_ble_eq_true rfl) (qX7_acts ho1) (qX7_acts ho) h dX7_copyFrom_87 (fun h => ?_)
  refine s_aload0 C dX7_copyFrom_90 ?_
  refine s_aload1 C dX7_copyFrom_91 ?_
  refine gX7_33 C ho1 dX7_copyFrom_92 ?_
  refine pX7_33 C ho dX7_copyFrom_95 ?_
  refine s_aload0 C dX7_copyFrom_98 ?_
  refine s_aload1 C dX7_copyFrom_99 ?_
  refine gX7_37 C ho1 dX7_copyFrom_100 ?_
  refine pX7_37 C ho dX7_copyFrom_103 ?_
  refine s_aload0 C dX7_copyFrom_106 ?_
  refine s_aload1 C dX7_copyFrom_107 ?_
  refine gX7_40 C ho1 dX7_copyFrom_108 ?_
  refine pX7_40 C ho dX7_copyFrom_111 ?_
  refine s_aload0 C dX7_copyFrom_114 ?_
  refine s_aload1 C dX7_copyFrom_115 ?_
  refine gX7_43 C ho1 dX7_copyFrom_116 ?_
  refine pX7_43 C ho dX7_copyFrom_119 ?_
  exact s_vret C R h dX7_copyFrom_122
set_option maxRecDepth 4000 in
theorem tX8_clear {l : Launch} {E : En} {A : Nat → Prop} {d : Nat} {M M' : Mem} {o : Nat} (hE : Okk E A) (hd : 0 ≤ d) (ho : kd o = (8, 0)) (h : fX8_clear o M = some M') : Ct l E A d yX8_clear cX8_clear 1 none [.ref (ad E o)] M none M' := by
  refine Ct.mk (ls := [some (.ref (ad E o))]) hE (by decide +kernel) rfl (Nat.le_of_ble_eq_true rfl) (fun X hXl hXA C R => ?_)
  subst hXl; subst hXA
  unfold fX8_clear at h
  refine s_aload0 C dX8_clear_0 ?_
  refine s_iconst (v := 0) C (by decide) dX8_clear_1 ?_
  refine pX8_15 C ho dX8_clear_2 ?_
  refine s_aload0 C dX8_clear_5 ?_
  refine s_iconst (v := 0) C (by decide) dX8_clear_6 ?_
  refine pX8_19 C ho dX8_clear_7 ?_
  exact s_vret C R h dX8_clear_10
set_option maxRecDepth 4000 in
theorem tX6_setAs {l : Launch} {E : En} {A : Nat → Prop} {d : Nat} {M M' : Mem} {o : Nat} {o1 : Nat} (hE : Okk E A) (hd : 1 ≤ d) (ho : kd o = (6, 0)) (ho1 : kd o1 = (7, 0)) (h : fX6_setAs o o1 M = some M') : Ct l E A d yX6_setAs cX6_setAs 2 none [.ref (ad E o), .ref (ad E o1)] M none M' := by
  refine Ct.mk (ls := [some (.ref (ad E o)), some (.ref (ad E o1))]) hE (by decide +kernel) rfl (Nat.le_of_ble_eq_true rfl) (fun X hXl hXA C R => ?_)
  subst hXl; subst hXA
  unfold fX6_setAs at h
  refine s_aload0 C dX6_setAs_0 ?_
  refine s_aload1 C dX6_setAs_1 ?_
  refine gX6_30 C ho1 dX6_setAs_2 ?_
  refine s_iconst (v := 0) C (by decide) dX6_setAs_5 ?_
  refine s_iald C (qX7_head ho1) h dX6_setAs_6 (fun h => ?_)
  refine pX6_35 C ho dX6_setAs_7 ?_
  refine s_aload0 C dX6_setAs_10 ?_
  refine s_aload1 C dX6_setAs_11 ?_
  refine gX6_30 C ho1 dX6_setAs_12 ?_
  refine s_iconst (v := 1) C (by decide) dX6_setAs_15 ?_
  refine s_iald C (qX7_head ho1) h dX6_setAs_16 (fun h => ?_)
  refine pX6_39 C ho dX6_setAs_17 ?_
  refine s_aload0 C dX6_setAs_20 ?_
  refine s_aload1 C dX6_setAs_21 ?_
  refine gX6_30 C ho1 dX6_setAs_22 ?_
  refine s_iconst (v := 2) C (by decide) dX6_setAs_25 ?_
  refine s_iald C (qX7_head ho1) h dX6_setAs_26 (fun h => ?_)
  refine pX6_42 C ho dX6_setAs_27 ?_
  refine s_aload0 C dX6_setAs_30 ?_
  refine s_aload1 C dX6_setAs_31 ?_
  refine gX6_45 C ho1 dX6_setAs_32 ?_
  refine pX6_48 C ho dX6_setAs_35 ?_
  refine s_aload0 C dX6_setAs_38 ?_
  refine s_iconst (v := -1) C (by decide) dX6_setAs_39 ?_
  refine pX6_51 C ho dX6_setAs_40 ?_
  refine s_aload1 C dX6_setAs_43 ?_
  refine gX6_54 C ho1 dX6_setAs_44 ?_
  refine s_iconst (v := 0) C (by decide) dX6_setAs_47 ?_
  refine s_aload0 C dX6_setAs_48 ?_
  refine gX6_9 C ho dX6_setAs_49 ?_
  refine s_iconst (v := 0) C (by decide) dX6_setAs_52 ?_
  refine s_aload0 C dX6_setAs_53 ?_
  refine gX6_9 C ho dX6_setAs_54 ?_
  refine s_alen20 C (qX6_spans ho) dX6_setAs_57 ?_
  refine s_copy C rfl (by omega) wX6_55 (Nat.le_of_ble_eq_true rfl) (qX7_spans ho1) (qX6_spans ho) h dX6_setAs_58 (fun h => ?_)
  exact s_vret C R h dX6_setAs_61
set_option maxRecDepth 4000 in
theorem tX6_clear {l : Launch} {E : En} {A : Nat → Prop} {d : Nat} {M M' : Mem} {o : Nat} (hE : Okk E A) (hd : 1 ≤ d) (ho : kd o = (6, 0)) (h : fX6_clear o M = some M') : Ct l E A d yX6_clear cX6_clear 1 none [.ref (ad E o)] M none M' := by
  refine Ct.mk (ls := [some (.ref (ad E o))]) hE (by decide +kernel) rfl (Nat.le_of_ble_eq_true rfl) (fun X hXl hXA C R => ?_)
  subst hXl; subst hXA
  unfold fX6_clear at h
  refine s_aload0 C dX6_clear_0 ?_
  refine gX6_15 C ho dX6_clear_1 ?_
  refine s_iconst (v := -1) C (by decide) dX6_clear_4 ?_
  obtain ⟨M1, hq, h⟩ := bV_e h
  refine s_callS (As := [.ref (ad E (o + 2)), .int (-1 : Int32)]) (v := none) C rfl (by omega) wX6_61 rfl (Nat.le_of_ble_eq_true rfl) dX6_clear_5 (tJ7_fill_53178 C.2.2.2.2.2.2.1 (by omega) (kd_any (qX6_tags ho)) hq) ?_
  refine s_aload0 C dX6_clear_8 ?_
  refine gX6_18 C ho dX6_clear_9 ?_
  refine s_iconst (v := 0) C (by decide) dX6_clear_12 ?_
  obtain ⟨M2, hq, h⟩ := bV_e h
  refine s_callS (As := [.ref (ad E (o + 3)), .int (0 : Int32)]) (v := none) C rfl (by omega) wX6_61 rfl (Nat.le_of_ble_eq_true rfl) dX6_clear_13 (tJ7_fill_53178 C.2.2.2.2.2.2.1 (by omega) (kd_any (qX6_counts ho)) hq) ?_
  refine s_aload0 C dX6_clear_16 ?_
  refine gX6_21 C ho dX6_clear_17 ?_
  refine s_iconst (v := 0) C (by decide) dX6_clear_20 ?_
  obtain ⟨M3, hq, h⟩ := bV_e h
  refine s_callS (As := [.ref (ad E (o + 4)), .int (0 : Int32)]) (v := none) C rfl (by omega) wX6_61 rfl (Nat.le_of_ble_eq_true rfl) dX6_clear_21 (tJ7_fill_53178 C.2.2.2.2.2.2.1 (by omega) (kd_any (qX6_uses ho)) hq) ?_
  refine s_aload0 C dX6_clear_24 ?_
  refine gX6_24 C ho dX6_clear_25 ?_
  refine s_iconst (v := 1) C (by decide) dX6_clear_28 ?_
  obtain ⟨M4, hq, h⟩ := bV_e h
  refine s_callS (As := [.ref (ad E (o + 5)), .int (1 : Int32)]) (v := none) C rfl (by omega) wX6_61 rfl (Nat.le_of_ble_eq_true rfl) dX6_clear_29 (tJ7_fill_53178 C.2.2.2.2.2.2.1 (by omega) (kd_any (qX6_bases ho)) hq) ?_
  refine s_aload0 C dX6_clear_32 ?_
  refine s_bipush (v := 8) C (by decide) dX6_clear_33 ?_
  refine pX6_67 C ho dX6_clear_35 ?_
  refine s_aload0 C dX6_clear_38 ?_
  refine s_iconst (v := 0) C (by decide) dX6_clear_39 ?_
  refine pX6_70 C ho dX6_clear_40 ?_
  refine s_aload0 C dX6_clear_43 ?_
  refine s_iconst (v := 0) C (by decide) dX6_clear_44 ?_
  refine pX6_73 C ho dX6_clear_45 ?_
  exact s_vret C R h dX6_clear_48
set_option maxRecDepth 4000 in
theorem tX2_give {l : Launch} {E : En} {A : Nat → Prop} {d : Nat} {M M' : Mem} {o : Nat} {x1 : Int32} {x2 : Int32} {x3 : Int32} (hE : Okk E A) (hd : 0 ≤ d) (ho : kd o = (2, 0)) (h : fX2_give o x1 x2 x3 M = some M') : Ct l E A d yX2_give cX2_give 4 none [.ref (ad E o), .int x1, .int x2, .int x3] M none M' := by
  refine Ct.mk (ls := [some (.ref (ad E o)), some (.int x1), some (.int x2), some (.int x3)]) hE (by decide +kernel) rfl (Nat.le_of_ble_eq_true rfl) (fun X hXl hXA C R => ?_)
  subst hXl; subst hXA
  unfold fX2_give at h
  refine s_aload0 C dX2_give_0 ?_
  refine gX2_11 C ho dX2_give_1 ?_
  refine s_iload1 C dX2_give_4 ?_
  refine s_iload2 C dX2_give_5 ?_
  refine s_iast C (qX2_owners ho) h dX2_give_6 (fun h => ?_)
  refine s_aload0 C dX2_give_7 ?_
  refine gX2_15 C ho dX2_give_8 ?_
  refine s_iload1 C dX2_give_11 ?_
  refine s_iconst (v := -1) C (by decide) dX2_give_12 ?_
  refine s_iast C (qX2_lengths ho) h dX2_give_13 (fun h => ?_)
  refine s_aload0 C dX2_give_14 ?_
  refine gX2_18 C ho dX2_give_15 ?_
  refine s_iload1 C dX2_give_18 ?_
  refine s_iconst (v := 0) C (by decide) dX2_give_19 ?_
  refine s_iast C (qX2_runs ho) h dX2_give_20 (fun h => ?_)
  refine s_aload0 C dX2_give_21 ?_
  refine gX2_21 C ho dX2_give_22 ?_
  refine s_iload1 C dX2_give_25 ?_
  refine s_iconst (v := 0) C (by decide) dX2_give_26 ?_
  refine s_iast C (qX2_sures ho) h dX2_give_27 (fun h => ?_)
  refine s_aload0 C dX2_give_28 ?_
  refine gX2_24 C ho dX2_give_29 ?_
  refine s_iload1 C dX2_give_32 ?_
  refine s_iload3 C dX2_give_33 ?_
  refine s_iast C (qX2_ages ho) h dX2_give_34 (fun h => ?_)
  exact s_vret C R h dX2_give_35
set_option maxRecDepth 4000 in
theorem bX2_clear_2 {E : En} {X : Xc} {d : Nat} {M' : Mem} (C : Cx E X d cX2_clear RX2 2) (R : Rt E X none none M') (hd : 1 ≤ d)   : ∀ (n : Nat) (o : Nat) (x1 : Int32) (M : Mem) (_ : kd o = (2, 0)), fX2_clear_2  n o x1 M = some M' → At E X 2 [some (.ref (ad E o)), some (.int x1)] [] M := by
  intro n
  induction n with
  | zero => intro o x1 M ho h; rw [fX2_clear_2] at h; cases h
  | succ n ih =>
    intro o x1 M ho h
    rw [fX2_clear_2] at h
    refine s_iload1 C dX2_clear_2 ?_
    refine s_bipush (v := 8) C (by decide) dX2_clear_3 ?_
    refine s_ic_ge (tgt := 21) C h dX2_clear_5 (by decide) ⟨fun h => ?_, fun h => ?_⟩
    · exact s_vret C R h dX2_clear_21
    · refine s_aload0 C dX2_clear_8 ?_
      refine s_iload1 C dX2_clear_9 ?_
      refine s_iconst (v := -1) C (by decide) dX2_clear_10 ?_
      refine s_iconst (v := 0) C (by decide) dX2_clear_11 ?_
      obtain ⟨M1, hq, h⟩ := bV_e h
      refine s_callV (T := TX2) (As := [.int x1, .int (-1 : Int32), .int (0 : Int32)]) (v := none) C rfl ho (by decide) rfl (by omega) wX2_27 rfl (Nat.le_of_ble_eq_true rfl) dX2_clear_12 (tX2_give C.2.2.2.2.2.2.1 (by omega) ho hq) ?_
      refine s_iinc1 (v := 1) C rfl dX2_clear_15 (by decide) ?_
      refine s_goto (tgt := 2) C dX2_clear_18 (by decide) ?_
      exact ih _ _ _ ho h
set_option maxRecDepth 4000 in
theorem tX2_clear {l : Launch} {E : En} {A : Nat → Prop} {d : Nat} {M M' : Mem} {o : Nat} (hE : Okk E A) (hd : 1 ≤ d) (ho : kd o = (2, 0)) (h : fX2_clear o M = some M') : Ct l E A d yX2_clear cX2_clear 2 none [.ref (ad E o)] M none M' := by
  refine Ct.mk (ls := [some (.ref (ad E o)), none]) hE (by decide +kernel) rfl (Nat.le_of_ble_eq_true rfl) (fun X hXl hXA C R => ?_)
  subst hXl; subst hXA
  unfold fX2_clear at h
  refine s_iconst (v := 0) C (by decide) dX2_clear_0 ?_
  refine s_istore1 C rfl dX2_clear_1 ?_
  exact bX2_clear_2 C R hd  LF _ _ _ ho h
set_option maxRecDepth 4000 in
theorem tX0_clear {l : Launch} {E : En} {A : Nat → Prop} {d : Nat} {M M' : Mem} {o : Nat} (hE : Okk E A) (hd : 1 ≤ d) (ho : kd o = (0, 0)) (h : fX0_clear o M = some M') : Ct l E A d yX0_clear cX0_clear 1 none [.ref (ad E o)] M none M' := by
  refine Ct.mk (ls := [some (.ref (ad E o))]) hE (by decide +kernel) rfl (Nat.le_of_ble_eq_true rfl) (fun X hXl hXA C R => ?_)
  subst hXl; subst hXA
  unfold fX0_clear at h
  refine s_aload0 C dX0_clear_0 ?_
  refine gX0_11 C ho dX0_clear_1 ?_
  refine s_iconst (v := 0) C (by decide) dX0_clear_4 ?_
  obtain ⟨M1, hq, h⟩ := bV_e h
  refine s_callS (As := [.ref (ad E (o + 1)), .int (0 : Int32)]) (v := none) C rfl (by omega) wX0_18 rfl (Nat.le_of_ble_eq_true rfl) dX0_clear_5 (tJ7_fill_53178 C.2.2.2.2.2.2.1 (by omega) (kd_any (qX0_counts ho)) hq) ?_
  refine s_aload0 C dX0_clear_8 ?_
  refine s_iconst (v := 4) C (by decide) dX0_clear_9 ?_
  refine pX0_24 C ho dX0_clear_10 ?_
  exact s_vret C R h dX0_clear_13
set_option maxRecDepth 4000 in
theorem tX1_clear {l : Launch} {E : En} {A : Nat → Prop} {d : Nat} {M M' : Mem} {o : Nat} (hE : Okk E A) (hd : 2 ≤ d) (ho : kd o = (1, 0)) (h : fX1_clear o M = some M') : Ct l E A d yX1_clear cX1_clear 1 none [.ref (ad E o)] M none M' := by
  refine Ct.mk (ls := [some (.ref (ad E o))]) hE (by decide +kernel) rfl (Nat.le_of_ble_eq_true rfl) (fun X hXl hXA C R => ?_)
  subst hXl; subst hXA
  unfold fX1_clear at h
  refine s_aload0 C dX1_clear_0 ?_
  refine gX1_12 C ho dX1_clear_1 ?_
  obtain ⟨M1, hq, h⟩ := bV_e h
  refine s_callV (T := TX6) (As := []) (v := none) C rfl (qX1_tables ho) (by decide) rfl (by omega) wX1_49 rfl (Nat.le_of_ble_eq_true rfl) dX1_clear_4 (tX6_clear C.2.2.2.2.2.2.1 (by omega) (qX1_tables ho) hq) ?_
  refine s_aload0 C dX1_clear_7 ?_
  refine gX1_21 C ho dX1_clear_8 ?_
  obtain ⟨M2, hq, h⟩ := bV_e h
  refine s_callV (T := TX2) (As := []) (v := none) C rfl (qX1_loops ho) (by decide) rfl (by omega) wX1_50 rfl (Nat.le_of_ble_eq_true rfl) dX1_clear_11 (tX2_clear C.2.2.2.2.2.2.1 (by omega) (qX1_loops ho) hq) ?_
  refine s_aload0 C dX1_clear_14 ?_
  refine gX1_28 C ho dX1_clear_15 ?_
  obtain ⟨M3, hq, h⟩ := bV_e h
  refine s_callV (T := TX0) (As := []) (v := none) C rfl (qX1_corrector ho) (by decide) rfl (by omega) wX1_51 rfl (Nat.le_of_ble_eq_true rfl) dX1_clear_18 (tX0_clear C.2.2.2.2.2.2.1 (by omega) (qX1_corrector ho) hq) ?_
  refine s_aload0 C dX1_clear_21 ?_
  refine s_lconst (v := 0) C (by decide) dX1_clear_22 ?_
  refine pX1_52 C ho dX1_clear_23 ?_
  refine s_aload0 C dX1_clear_26 ?_
  refine s_iconst (v := 0) C (by decide) dX1_clear_27 ?_
  refine pX1_56 C ho dX1_clear_28 ?_
  exact s_vret C R h dX1_clear_31
set_option maxRecDepth 4000 in
theorem tX1_setAs {l : Launch} {E : En} {A : Nat → Prop} {d : Nat} {M M' : Mem} {o : Nat} {o1 : Nat} (hE : Okk E A) (hd : 3 ≤ d) (ho : kd o = (1, 0)) (ho1 : kd o1 = (7, 0)) (h : fX1_setAs o o1 M = some M') : Ct l E A d yX1_setAs cX1_setAs 2 none [.ref (ad E o), .ref (ad E o1)] M none M' := by
  refine Ct.mk (ls := [some (.ref (ad E o)), some (.ref (ad E o1))]) hE (by decide +kernel) rfl (Nat.le_of_ble_eq_true rfl) (fun X hXl hXA C R => ?_)
  subst hXl; subst hXA
  unfold fX1_setAs at h
  refine s_aload0 C dX1_setAs_0 ?_
  refine gX1_12 C ho dX1_setAs_1 ?_
  refine s_aload1 C dX1_setAs_4 ?_
  obtain ⟨M1, hq, h⟩ := bV_e h
  refine s_callV (T := TX6) (As := [.ref (ad E o1)]) (v := none) C rfl (qX1_tables ho) (by decide) rfl (by omega) wX1_32 rfl (Nat.le_of_ble_eq_true rfl) dX1_setAs_5 (tX6_setAs C.2.2.2.2.2.2.1 (by omega) (qX1_tables ho) ho1 hq) ?_
  refine s_aload0 C dX1_setAs_8 ?_
  refine s_aload1 C dX1_setAs_9 ?_
  refine gX1_36 C ho1 dX1_setAs_10 ?_
  refine s_iconst (v := 5) C (by decide) dX1_setAs_13 ?_
  refine s_iald C (qX7_head ho1) h dX1_setAs_14 (fun h => ?_)
  refine pX1_42 C ho dX1_setAs_15 ?_
  refine s_aload0 C dX1_setAs_18 ?_
  obtain ⟨M2, hq, h⟩ := bV_e h
  refine s_callV (T := TX1) (As := []) (v := none) C rfl ho (by decide) rfl (by omega) wX1_46 rfl (Nat.le_of_ble_eq_true rfl) dX1_setAs_19 (tX1_clear C.2.2.2.2.2.2.1 (by omega) ho hq) ?_
  exact s_vret C R h dX1_setAs_22
set_option maxRecDepth 4000 in
theorem tX7_hasOp {l : Launch} {E : En} {A : Nat → Prop} {d : Nat} {r : Int32} {M M' : Mem} {o : Nat} {x1 : Int32} (hE : Okk E A) (hd : 1 ≤ d) (ho : kd o = (7, 0)) (h : fX7_hasOp o x1 M = some (r, M')) : Ct l E A d yX7_hasOp cX7_hasOp 2 (some .boolean) [.ref (ad E o), .int x1] M (some (.int r)) M' := by
  refine Ct.mk (ls := [some (.ref (ad E o)), some (.int x1)]) hE (by decide +kernel) rfl (Nat.le_of_ble_eq_true rfl) (fun X hXl hXA C R => ?_)
  subst hXl; subst hXA
  unfold fX7_hasOp at h
  refine s_iload1 C dX7_hasOp_0 ?_
  refine s_i2l C dX7_hasOp_1 ?_
  refine s_lconst (v := 0) C (by decide) dX7_hasOp_2 ?_
  refine s_aload0 C dX7_hasOp_3 ?_
  refine gX7_40 C ho dX7_hasOp_4 ?_
  refine s_iconst (v := 1) C (by decide) dX7_hasOp_7 ?_
  refine s_isub C dX7_hasOp_8 ?_
  refine s_i2l C dX7_hasOp_9 ?_
  obtain ⟨r2, M1, hq, h⟩ := bI_e h
  refine s_callN (As := [.long (x1).toInt64, .long (0 : Int64), .long (((M.1 o 7) - (1 : Int32))).toInt64]) (v := some (.int r2)) C rfl (by omega) wX7_52 rfl (Nat.le_of_ble_eq_true rfl) dX7_hasOp_10 (tX9_within C.2.2.2.2.2.2.1 (by omega)  hq) ?_
  obtain ⟨hb, h⟩ := ck_e h
  exact s_zret C R h (isB_n hb).1 dX7_hasOp_13
set_option maxRecDepth 4000 in
theorem tX7_canDo {l : Launch} {E : En} {A : Nat → Prop} {d : Nat} {r : Int32} {M M' : Mem} {o : Nat} {x1 : Int32} (hE : Okk E A) (hd : 2 ≤ d) (ho : kd o = (7, 0)) (h : fX7_canDo o x1 M = some (r, M')) : Ct l E A d yX7_canDo cX7_canDo 2 (some .boolean) [.ref (ad E o), .int x1] M (some (.int r)) M' := by
  refine Ct.mk (ls := [some (.ref (ad E o)), some (.int x1)]) hE (by decide +kernel) rfl (Nat.le_of_ble_eq_true rfl) (fun X hXl hXA C R => ?_)
  subst hXl; subst hXA
  unfold fX7_canDo at h
  refine s_aload0 C dX7_canDo_0 ?_
  refine s_iload1 C dX7_canDo_1 ?_
  obtain ⟨r2, M1, hq, h⟩ := bI_e h
  refine s_callV (T := TX7) (As := [.int x1]) (v := some (.int r2)) C rfl ho (by decide) rfl (by omega) wX7_56 rfl (Nat.le_of_ble_eq_true rfl) dX7_canDo_2 (tX7_hasOp C.2.2.2.2.2.2.1 (by omega) ho hq) ?_
  refine s_if_eq (tgt := 23) C h dX7_canDo_5 (by decide) ⟨fun h => ?_, fun h => ?_⟩
  · refine s_iconst (v := 0) C (by decide) dX7_canDo_23 ?_
    exact s_zret C R h rfl dX7_canDo_24
  · refine s_aload0 C dX7_canDo_8 ?_
    refine gX7_18 C ho dX7_canDo_9 ?_
    refine s_iload1 C dX7_canDo_12 ?_
    refine s_iald C (qX7_kinds ho) h dX7_canDo_13 (fun h => ?_)
    refine s_bipush (v := 10) C (by decide) dX7_canDo_14 ?_
    refine s_ic_eq (tgt := 23) C h dX7_canDo_16 (by decide) ⟨fun h => ?_, fun h => ?_⟩
    · refine s_iconst (v := 0) C (by decide) dX7_canDo_23 ?_
      exact s_zret C R h rfl dX7_canDo_24
    · refine s_iconst (v := 1) C (by decide) dX7_canDo_19 ?_
      refine s_goto (tgt := 24) C dX7_canDo_20 (by decide) ?_
      exact s_zret C R h rfl dX7_canDo_24
set_option maxRecDepth 4000 in
theorem bX7_branches_33 {E : En} {X : Xc} {d : Nat} {r : Int32} {M M' : Mem}  (C : Cx E X d cX7_branches RX7 2) (R : Rt E X (some .boolean) (some (.int r)) M') (hd : 0 ≤ d)    (h : fX7_branches_33   M = some (r, M')) : At E X 33 [none, none] [] M := by
  unfold fX7_branches_33 at h
  refine s_iconst (v := 1) C (by decide) dX7_branches_33 ?_
  refine s_goto (tgt := 38) C dX7_branches_34 (by decide) ?_
  exact s_zret C R h rfl dX7_branches_38
set_option maxRecDepth 4000 in
theorem tX7_branches {l : Launch} {E : En} {A : Nat → Prop} {d : Nat} {r : Int32} {M M' : Mem} {o : Nat} {x1 : Int32} (hE : Okk E A) (hd : 0 ≤ d) (ho : kd o = (7, 0)) (h : fX7_branches o x1 M = some (r, M')) : Ct l E A d yX7_branches cX7_branches 2 (some .boolean) [.ref (ad E o), .int x1] M (some (.int r)) M' := by
  refine Ct.mk (ls := [some (.ref (ad E o)), some (.int x1)]) hE (by decide +kernel) rfl (Nat.le_of_ble_eq_true rfl) (fun X hXl hXA C R => ?_)
  subst hXl; subst hXA
  unfold fX7_branches at h
  refine s_aload0 C dX7_branches_0 ?_
  refine gX7_18 C ho dX7_branches_1 ?_
  refine s_iload1 C dX7_branches_4 ?_
  refine s_iald C (qX7_kinds ho) h dX7_branches_5 (fun h => ?_)
  refine s_bipush (v := 6) C (by decide) dX7_branches_6 ?_
  refine s_ic_eq (tgt := 33) C h dX7_branches_8 (by decide) ⟨fun h => ?_, fun h => ?_⟩
  · refine s_fg 0 ?_
    refine s_fg 1 ?_
    exact bX7_branches_33 C R hd  h
  · refine s_aload0 C dX7_branches_11 ?_
    refine gX7_18 C ho dX7_branches_12 ?_
    refine s_iload1 C dX7_branches_15 ?_
    refine s_iald C (qX7_kinds ho) h dX7_branches_16 (fun h => ?_)
    refine s_bipush (v := 7) C (by decide) dX7_branches_17 ?_
    refine s_ic_eq (tgt := 33) C h dX7_branches_19 (by decide) ⟨fun h => ?_, fun h => ?_⟩
    · refine s_fg 0 ?_
      refine s_fg 1 ?_
      exact bX7_branches_33 C R hd  h
    · refine s_aload0 C dX7_branches_22 ?_
      refine gX7_18 C ho dX7_branches_23 ?_
      refine s_iload1 C dX7_branches_26 ?_
      refine s_iald C (qX7_kinds ho) h dX7_branches_27 (fun h => ?_)
      refine s_bipush (v := 8) C (by decide) dX7_branches_28 ?_
      refine s_ic_ne (tgt := 37) C h dX7_branches_30 (by decide) ⟨fun h => ?_, fun h => ?_⟩
      · refine s_iconst (v := 0) C (by decide) dX7_branches_37 ?_
        exact s_zret C R h rfl dX7_branches_38
      · refine s_fg 0 ?_
        refine s_fg 1 ?_
        exact bX7_branches_33 C R hd  h
