set_option maxRecDepth 4000 in
theorem bX9_goTo_26 {E : En} {X : Xc} {d : Nat} {M' : Mem} (C : Cx E X d cX9_goTo RX9 3) (R : Rt E X none none M') (hd : 5 ≤ d)   : ∀ (n : Nat) (o : Nat) (x1 : Int32) (x2 : Int32) (M : Mem) (_ : kd o = (9, 0)), fX9_goTo_26  n o x1 x2 M = some M' → At E X 26 [some (.ref (ad E o)), some (.int x1), some (.int x2)] [] M := by
  intro n
  induction n with
  | zero => intro o x1 x2 M ho h; rw [fX9_goTo_26] at h; cases h
  | succ n ih =>
    intro o x1 x2 M ho h
    rw [fX9_goTo_26] at h
    refine s_iload2 C dX9_goTo_26 ?_
    refine s_iload1 C dX9_goTo_27 ?_
    refine s_ic_ge (tgt := 70) C h dX9_goTo_28 (by decide) ⟨fun h => ?_, fun h => ?_⟩
    · exact s_vret C R h dX9_goTo_70
    · refine s_aload0 C dX9_goTo_31 ?_
      refine gX9_51 C ho dX9_goTo_32 ?_
      refine s_aload0 C dX9_goTo_35 ?_
      refine gX9_44 C ho dX9_goTo_36 ?_
      refine s_iload2 C dX9_goTo_39 ?_
      refine s_iconst (v := 0) C (by decide) dX9_goTo_40 ?_
      obtain ⟨r2, M1, hq, h⟩ := bI_e h
      refine s_callV (T := TX8) (As := [.int x2, .int (0 : Int32)]) (v := some (.int r2)) C rfl (qX9_trail ho) (by decide) rfl (by omega) wX9_140 rfl (Nat.le_of_ble_eq_true rfl) dX9_goTo_41 (tX8_fact C.2.2.2.2.2.2.1 (by omega) (qX9_trail ho) hq) ?_
      obtain ⟨r4, M3, hq, h⟩ := bI_e h
      refine s_callV (T := TX1) (As := [.int r2]) (v := some (.int r4)) C rfl (qX9_own ho) (by decide) rfl (by omega) wX9_358 rfl (Nat.le_of_ble_eq_true rfl) dX9_goTo_44 (tX1_ask C.2.2.2.2.2.2.1 (by omega) (qX9_own ho) hq) ?_
      refine s_pop C rfl dX9_goTo_47 ?_
      refine s_aload0 C dX9_goTo_48 ?_
      refine gX9_51 C ho dX9_goTo_49 ?_
      refine s_aload0 C dX9_goTo_52 ?_
      refine gX9_44 C ho dX9_goTo_53 ?_
      refine s_iload2 C dX9_goTo_56 ?_
      refine s_iconst (v := 1) C (by decide) dX9_goTo_57 ?_
      obtain ⟨r6, M5, hq, h⟩ := bI_e h
      refine s_callV (T := TX8) (As := [.int x2, .int (1 : Int32)]) (v := some (.int r6)) C rfl (qX9_trail ho) (by decide) rfl (by omega) wX9_140 rfl (Nat.le_of_ble_eq_true rfl) dX9_goTo_58 (tX8_fact C.2.2.2.2.2.2.1 (by omega) (qX9_trail ho) hq) ?_
      obtain ⟨M7, hq, h⟩ := bV_e h
      refine s_callV (T := TX1) (As := [.int r6]) (v := none) C rfl (qX9_own ho) (by decide) rfl (by omega) wX9_361 rfl (Nat.le_of_ble_eq_true rfl) dX9_goTo_61 (tX1_learn C.2.2.2.2.2.2.1 (by omega) (qX9_own ho) hq) ?_
      refine s_iinc2 (v := 1) C rfl dX9_goTo_64 (by decide) ?_
      refine s_goto (tgt := 26) C dX9_goTo_67 (by decide) ?_
      exact ih _ _ _ _ ho h
set_option maxRecDepth 4000 in
theorem bX9_goTo_18 {E : En} {X : Xc} {d : Nat} {M M' : Mem} {o : Nat} {x1 : Int32} (C : Cx E X d cX9_goTo RX9 3) (R : Rt E X none none M') (hd : 5 ≤ d)   (ho : kd o = (9, 0)) (h : fX9_goTo_18  o x1 M = some M') : At E X 18 [some (.ref (ad E o)), some (.int x1), none] [] M := by
  unfold fX9_goTo_18 at h
  refine s_aload0 C dX9_goTo_18 ?_
  refine gX9_51 C ho dX9_goTo_19 ?_
  refine gX9_413 C (qX9_own ho) dX9_goTo_22 ?_
  refine s_istore2 C rfl dX9_goTo_25 ?_
  exact bX9_goTo_26 C R hd  LF _ _ _ _ ho h
set_option maxRecDepth 4000 in
theorem tX9_goTo {l : Launch} {E : En} {A : Nat → Prop} {d : Nat} {M M' : Mem} {o : Nat} {x1 : Int32} (hE : Okk E A) (hd : 5 ≤ d) (ho : kd o = (9, 0)) (h : fX9_goTo o x1 M = some M') : Ct l E A d yX9_goTo cX9_goTo 3 none [.ref (ad E o), .int x1] M none M' := by
  refine Ct.mk (ls := [some (.ref (ad E o)), some (.int x1), none]) hE (by decide +kernel) rfl (Nat.le_of_ble_eq_true rfl) (fun X hXl hXA C R => ?_)
  subst hXl; subst hXA
  unfold fX9_goTo at h
  refine s_aload0 C dX9_goTo_0 ?_
  refine gX9_51 C ho dX9_goTo_1 ?_
  refine gX9_413 C (qX9_own ho) dX9_goTo_4 ?_
  refine s_iload1 C dX9_goTo_7 ?_
  refine s_ic_le (tgt := 18) C h dX9_goTo_8 (by decide) ⟨fun h => ?_, fun h => ?_⟩
  · exact bX9_goTo_18 C R hd  ho h
  · refine s_aload0 C dX9_goTo_11 ?_
    refine gX9_51 C ho dX9_goTo_12 ?_
    obtain ⟨M1, hq, h⟩ := bV_e h
    refine s_callV (T := TX1) (As := []) (v := none) C rfl (qX9_own ho) (by decide) rfl (by omega) wX9_416 rfl (Nat.le_of_ble_eq_true rfl) dX9_goTo_15 (tX1_clear C.2.2.2.2.2.2.1 (by omega) (qX9_own ho) hq) ?_
    exact bX9_goTo_18 C R hd  ho h
set_option maxRecDepth 4000 in
theorem tX9_history {l : Launch} {E : En} {A : Nat → Prop} {d : Nat} {r : Int32} {M M' : Mem} {o : Nat} {x1 : Int32} {x2 : Int32} (hE : Okk E A) (hd : 6 ≤ d) (ho : kd o = (9, 0)) (h : fX9_history o x1 x2 M = some (r, M')) : Ct l E A d yX9_history cX9_history 3 (some .int) [.ref (ad E o), .int x1, .int x2] M (some (.int r)) M' := by
  refine Ct.mk (ls := [some (.ref (ad E o)), some (.int x1), some (.int x2)]) hE (by decide +kernel) rfl (Nat.le_of_ble_eq_true rfl) (fun X hXl hXA C R => ?_)
  subst hXl; subst hXA
  unfold fX9_history at h
  refine s_aload0 C dX9_history_0 ?_
  refine s_iload1 C dX9_history_1 ?_
  obtain ⟨r2, M1, hq, h⟩ := bI_e h
  refine s_callV (T := TX9) (As := [.int x1]) (v := some (.int r2)) C rfl ho (by decide) rfl (by omega) wX9_144 rfl (Nat.le_of_ble_eq_true rfl) dX9_history_2 (tX9_isMoment C.2.2.2.2.2.2.1 (by omega) ho hq) ?_
  refine s_if_eq (tgt := 20) C h dX9_history_5 (by decide) ⟨fun h => ?_, fun h => ?_⟩
  · refine s_bipush (v := -2) C (by decide) dX9_history_20 ?_
    exact s_iret C R h dX9_history_22
  · refine s_iload2 C dX9_history_8 ?_
    refine s_i2l C dX9_history_9 ?_
    refine s_lconst (v := 0) C (by decide) dX9_history_10 ?_
    refine s_ldc2 (v := 30) C k_963 dX9_history_11 ?_
    obtain ⟨r4, M3, hq, h⟩ := bI_e h
    refine s_callS (As := [.long (x2).toInt64, .long (0 : Int64), .long (30 : Int64)]) (v := some (.int r4)) C rfl (by omega) wX9_77 rfl (Nat.le_of_ble_eq_true rfl) dX9_history_14 (tX9_within C.2.2.2.2.2.2.1 (by omega)  hq) ?_
    refine s_if_ne (tgt := 23) C h dX9_history_17 (by decide) ⟨fun h => ?_, fun h => ?_⟩
    · refine s_aload0 C dX9_history_23 ?_
      refine s_iload1 C dX9_history_24 ?_
      obtain ⟨M5, hq, h⟩ := bV_e h
      refine s_callV (T := TX9) (As := [.int x1]) (v := none) C rfl ho (by decide) rfl (by omega) wX9_176 rfl (Nat.le_of_ble_eq_true rfl) dX9_history_25 (tX9_goTo C.2.2.2.2.2.2.1 (by omega) ho hq) ?_
      refine s_aload0 C dX9_history_28 ?_
      refine gX9_51 C ho dX9_history_29 ?_
      refine gX9_179 C (qX9_own ho) dX9_history_32 ?_
      refine s_l2i C dX9_history_35 ?_
      refine s_iload2 C dX9_history_36 ?_
      obtain ⟨r7, M6, hq, h⟩ := bI_e h
      refine s_callS (As := [.int x2]) (v := some (.int r7)) C rfl (by omega) wX9_183 rfl (Nat.le_of_ble_eq_true rfl) dX9_history_37 (tX9_lowest C.2.2.2.2.2.2.1 (by omega)  hq) ?_
      refine s_iand C dX9_history_40 ?_
      exact s_iret C R h dX9_history_41
    · refine s_bipush (v := -2) C (by decide) dX9_history_20 ?_
      exact s_iret C R h dX9_history_22
set_option maxRecDepth 4000 in
theorem tX9_fold {l : Launch} {E : En} {A : Nat → Prop} {d : Nat} {r : Int32} {M M' : Mem} {o : Nat} {x1 : Int32} {x2 : Int32} {x3 : Int32} (hE : Okk E A) (hd : 6 ≤ d) (ho : kd o = (9, 0)) (h : fX9_fold o x1 x2 x3 M = some (r, M')) : Ct l E A d yX9_fold cX9_fold 4 (some .int) [.ref (ad E o), .int x1, .int x2, .int x3] M (some (.int r)) M' := by
  refine Ct.mk (ls := [some (.ref (ad E o)), some (.int x1), some (.int x2), some (.int x3)]) hE (by decide +kernel) rfl (Nat.le_of_ble_eq_true rfl) (fun X hXl hXA C R => ?_)
  subst hXl; subst hXA
  unfold fX9_fold at h
  refine s_aload0 C dX9_fold_0 ?_
  refine s_iload1 C dX9_fold_1 ?_
  obtain ⟨r2, M1, hq, h⟩ := bI_e h
  refine s_callV (T := TX9) (As := [.int x1]) (v := some (.int r2)) C rfl ho (by decide) rfl (by omega) wX9_144 rfl (Nat.le_of_ble_eq_true rfl) dX9_fold_2 (tX9_isMoment C.2.2.2.2.2.2.1 (by omega) ho hq) ?_
  refine s_if_eq (tgt := 32) C h dX9_fold_5 (by decide) ⟨fun h => ?_, fun h => ?_⟩
  · refine s_bipush (v := -2) C (by decide) dX9_fold_32 ?_
    exact s_iret C R h dX9_fold_34
  · refine s_iload2 C dX9_fold_8 ?_
    refine s_i2l C dX9_fold_9 ?_
    refine s_lconst (v := 1) C (by decide) dX9_fold_10 ?_
    refine s_ldc2 (v := 40) C k_974 dX9_fold_11 ?_
    obtain ⟨r4, M3, hq, h⟩ := bI_e h
    refine s_callS (As := [.long (x2).toInt64, .long (1 : Int64), .long (40 : Int64)]) (v := some (.int r4)) C rfl (by omega) wX9_77 rfl (Nat.le_of_ble_eq_true rfl) dX9_fold_14 (tX9_within C.2.2.2.2.2.2.1 (by omega)  hq) ?_
    refine s_if_eq (tgt := 32) C h dX9_fold_17 (by decide) ⟨fun h => ?_, fun h => ?_⟩
    · refine s_bipush (v := -2) C (by decide) dX9_fold_32 ?_
      exact s_iret C R h dX9_fold_34
    · refine s_iload3 C dX9_fold_20 ?_
      refine s_i2l C dX9_fold_21 ?_
      refine s_lconst (v := 1) C (by decide) dX9_fold_22 ?_
      refine s_ldc2 (v := 10) C k_975 dX9_fold_23 ?_
      obtain ⟨r6, M5, hq, h⟩ := bI_e h
      refine s_callS (As := [.long (x3).toInt64, .long (1 : Int64), .long (10 : Int64)]) (v := some (.int r6)) C rfl (by omega) wX9_77 rfl (Nat.le_of_ble_eq_true rfl) dX9_fold_26 (tX9_within C.2.2.2.2.2.2.1 (by omega)  hq) ?_
      refine s_if_ne (tgt := 35) C h dX9_fold_29 (by decide) ⟨fun h => ?_, fun h => ?_⟩
      · refine s_aload0 C dX9_fold_35 ?_
        refine s_iload1 C dX9_fold_36 ?_
        obtain ⟨M7, hq, h⟩ := bV_e h
        refine s_callV (T := TX9) (As := [.int x1]) (v := none) C rfl ho (by decide) rfl (by omega) wX9_176 rfl (Nat.le_of_ble_eq_true rfl) dX9_fold_37 (tX9_goTo C.2.2.2.2.2.2.1 (by omega) ho hq) ?_
        refine s_aload0 C dX9_fold_40 ?_
        refine gX9_51 C ho dX9_fold_41 ?_
        refine gX9_179 C (qX9_own ho) dX9_fold_44 ?_
        refine s_iload2 C dX9_fold_47 ?_
        refine s_iload3 C dX9_fold_48 ?_
        obtain ⟨r9, M8, hq, h⟩ := bI_e h
        refine s_callS (As := [.long (M7.2 (o + 41) 4), .int x2, .int x3]) (v := some (.int r9)) C rfl (by omega) wX9_190 rfl (Nat.le_of_ble_eq_true rfl) dX9_fold_49 (tX9_folded C.2.2.2.2.2.2.1 (by omega)  hq) ?_
        exact s_iret C R h dX9_fold_52
      · refine s_bipush (v := -2) C (by decide) dX9_fold_32 ?_
        exact s_iret C R h dX9_fold_34
set_option maxRecDepth 4000 in
theorem tX9_isTable {l : Launch} {E : En} {A : Nat → Prop} {d : Nat} {r : Int32} {M M' : Mem} {o : Nat} {x1 : Int32} (hE : Okk E A) (hd : 1 ≤ d) (ho : kd o = (9, 0)) (h : fX9_isTable o x1 M = some (r, M')) : Ct l E A d yX9_isTable cX9_isTable 2 (some .boolean) [.ref (ad E o), .int x1] M (some (.int r)) M' := by
  refine Ct.mk (ls := [some (.ref (ad E o)), some (.int x1)]) hE (by decide +kernel) rfl (Nat.le_of_ble_eq_true rfl) (fun X hXl hXA C R => ?_)
  subst hXl; subst hXA
  unfold fX9_isTable at h
  refine s_iload1 C dX9_isTable_0 ?_
  refine s_i2l C dX9_isTable_1 ?_
  refine s_lconst (v := 1) C (by decide) dX9_isTable_2 ?_
  refine s_aload0 C dX9_isTable_3 ?_
  refine gX9_23 C ho dX9_isTable_4 ?_
  refine gX9_171 C (qX9_told ho) dX9_isTable_7 ?_
  refine s_i2l C dX9_isTable_10 ?_
  obtain ⟨r2, M1, hq, h⟩ := bI_e h
  refine s_callS (As := [.long (x1).toInt64, .long (1 : Int64), .long ((M.1 (o + 9) 6)).toInt64]) (v := some (.int r2)) C rfl (by omega) wX9_77 rfl (Nat.le_of_ble_eq_true rfl) dX9_isTable_11 (tX9_within C.2.2.2.2.2.2.1 (by omega)  hq) ?_
  obtain ⟨hb, h⟩ := ck_e h
  exact s_zret C R h (isB_n hb).1 dX9_isTable_14
set_option maxRecDepth 4000 in
theorem tX9_index {l : Launch} {E : En} {A : Nat → Prop} {d : Nat} {r : Int32} {M M' : Mem} {o : Nat} {x1 : Int32} {x2 : Int32} {x3 : Int32} (hE : Okk E A) (hd : 6 ≤ d) (ho : kd o = (9, 0)) (h : fX9_index o x1 x2 x3 M = some (r, M')) : Ct l E A d yX9_index cX9_index 4 (some .int) [.ref (ad E o), .int x1, .int x2, .int x3] M (some (.int r)) M' := by
  refine Ct.mk (ls := [some (.ref (ad E o)), some (.int x1), some (.int x2), some (.int x3)]) hE (by decide +kernel) rfl (Nat.le_of_ble_eq_true rfl) (fun X hXl hXA C R => ?_)
  subst hXl; subst hXA
  unfold fX9_index at h
  refine s_aload0 C dX9_index_0 ?_
  refine s_iload3 C dX9_index_1 ?_
  obtain ⟨r2, M1, hq, h⟩ := bI_e h
  refine s_callV (T := TX9) (As := [.int x3]) (v := some (.int r2)) C rfl ho (by decide) rfl (by omega) wX9_144 rfl (Nat.le_of_ble_eq_true rfl) dX9_index_2 (tX9_isMoment C.2.2.2.2.2.2.1 (by omega) ho hq) ?_
  refine s_if_eq (tgt := 23) C h dX9_index_5 (by decide) ⟨fun h => ?_, fun h => ?_⟩
  · refine s_bipush (v := -2) C (by decide) dX9_index_23 ?_
    exact s_iret C R h dX9_index_25
  · refine s_aload0 C dX9_index_8 ?_
    refine s_iload1 C dX9_index_9 ?_
    obtain ⟨r4, M3, hq, h⟩ := bI_e h
    refine s_callV (T := TX9) (As := [.int x1]) (v := some (.int r4)) C rfl ho (by decide) rfl (by omega) wX9_194 rfl (Nat.le_of_ble_eq_true rfl) dX9_index_10 (tX9_isTable C.2.2.2.2.2.2.1 (by omega) ho hq) ?_
    refine s_if_eq (tgt := 23) C h dX9_index_13 (by decide) ⟨fun h => ?_, fun h => ?_⟩
    · refine s_bipush (v := -2) C (by decide) dX9_index_23 ?_
      exact s_iret C R h dX9_index_25
    · refine s_iload2 C dX9_index_16 ?_
      obtain ⟨r6, M5, hq, h⟩ := bI_e h
      refine s_callS (As := [.int x2]) (v := some (.int r6)) C rfl (by omega) wX9_150 rfl (Nat.le_of_ble_eq_true rfl) dX9_index_17 (tX9_isAddress C.2.2.2.2.2.2.1 (by omega)  hq) ?_
      refine s_if_ne (tgt := 26) C h dX9_index_20 (by decide) ⟨fun h => ?_, fun h => ?_⟩
      · refine s_aload0 C dX9_index_26 ?_
        refine s_iload3 C dX9_index_27 ?_
        obtain ⟨M7, hq, h⟩ := bV_e h
        refine s_callV (T := TX9) (As := [.int x3]) (v := none) C rfl ho (by decide) rfl (by omega) wX9_176 rfl (Nat.le_of_ble_eq_true rfl) dX9_index_28 (tX9_goTo C.2.2.2.2.2.2.1 (by omega) ho hq) ?_
        refine s_aload0 C dX9_index_31 ?_
        refine gX9_51 C ho dX9_index_32 ?_
        refine gX9_197 C (qX9_own ho) dX9_index_35 ?_
        refine s_iload1 C dX9_index_38 ?_
        refine s_iload2 C dX9_index_39 ?_
        refine s_aload0 C dX9_index_40 ?_
        refine gX9_51 C ho dX9_index_41 ?_
        refine gX9_179 C (qX9_own ho) dX9_index_44 ?_
        obtain ⟨r9, M8, hq, h⟩ := bI_e h
        refine s_callV (T := TX6) (As := [.int x1, .int x2, .long (M7.2 (o + 41) 4)]) (v := some (.int r9)) C rfl (qX1_tables (qX9_own ho)) (by decide) rfl (by omega) wX9_200 rfl (Nat.le_of_ble_eq_true rfl) dX9_index_47 (tX6_indexOf C.2.2.2.2.2.2.1 (by omega) (qX1_tables (qX9_own ho)) hq) ?_
        exact s_iret C R h dX9_index_50
      · refine s_bipush (v := -2) C (by decide) dX9_index_23 ?_
        exact s_iret C R h dX9_index_25
set_option maxRecDepth 4000 in
theorem tX9_tag {l : Launch} {E : En} {A : Nat → Prop} {d : Nat} {r : Int32} {M M' : Mem} {o : Nat} {x1 : Int32} {x2 : Int32} {x3 : Int32} (hE : Okk E A) (hd : 6 ≤ d) (ho : kd o = (9, 0)) (h : fX9_tag o x1 x2 x3 M = some (r, M')) : Ct l E A d yX9_tag cX9_tag 4 (some .int) [.ref (ad E o), .int x1, .int x2, .int x3] M (some (.int r)) M' := by
  refine Ct.mk (ls := [some (.ref (ad E o)), some (.int x1), some (.int x2), some (.int x3)]) hE (by decide +kernel) rfl (Nat.le_of_ble_eq_true rfl) (fun X hXl hXA C R => ?_)
  subst hXl; subst hXA
  unfold fX9_tag at h
  refine s_aload0 C dX9_tag_0 ?_
  refine s_iload3 C dX9_tag_1 ?_
  obtain ⟨r2, M1, hq, h⟩ := bI_e h
  refine s_callV (T := TX9) (As := [.int x3]) (v := some (.int r2)) C rfl ho (by decide) rfl (by omega) wX9_144 rfl (Nat.le_of_ble_eq_true rfl) dX9_tag_2 (tX9_isMoment C.2.2.2.2.2.2.1 (by omega) ho hq) ?_
  refine s_if_eq (tgt := 23) C h dX9_tag_5 (by decide) ⟨fun h => ?_, fun h => ?_⟩
  · refine s_bipush (v := -2) C (by decide) dX9_tag_23 ?_
    exact s_iret C R h dX9_tag_25
  · refine s_aload0 C dX9_tag_8 ?_
    refine s_iload1 C dX9_tag_9 ?_
    obtain ⟨r4, M3, hq, h⟩ := bI_e h
    refine s_callV (T := TX9) (As := [.int x1]) (v := some (.int r4)) C rfl ho (by decide) rfl (by omega) wX9_194 rfl (Nat.le_of_ble_eq_true rfl) dX9_tag_10 (tX9_isTable C.2.2.2.2.2.2.1 (by omega) ho hq) ?_
    refine s_if_eq (tgt := 23) C h dX9_tag_13 (by decide) ⟨fun h => ?_, fun h => ?_⟩
    · refine s_bipush (v := -2) C (by decide) dX9_tag_23 ?_
      exact s_iret C R h dX9_tag_25
    · refine s_iload2 C dX9_tag_16 ?_
      obtain ⟨r6, M5, hq, h⟩ := bI_e h
      refine s_callS (As := [.int x2]) (v := some (.int r6)) C rfl (by omega) wX9_150 rfl (Nat.le_of_ble_eq_true rfl) dX9_tag_17 (tX9_isAddress C.2.2.2.2.2.2.1 (by omega)  hq) ?_
      refine s_if_ne (tgt := 26) C h dX9_tag_20 (by decide) ⟨fun h => ?_, fun h => ?_⟩
      · refine s_aload0 C dX9_tag_26 ?_
        refine s_iload3 C dX9_tag_27 ?_
        obtain ⟨M7, hq, h⟩ := bV_e h
        refine s_callV (T := TX9) (As := [.int x3]) (v := none) C rfl ho (by decide) rfl (by omega) wX9_176 rfl (Nat.le_of_ble_eq_true rfl) dX9_tag_28 (tX9_goTo C.2.2.2.2.2.2.1 (by omega) ho hq) ?_
        refine s_aload0 C dX9_tag_31 ?_
        refine gX9_51 C ho dX9_tag_32 ?_
        refine gX9_197 C (qX9_own ho) dX9_tag_35 ?_
        refine s_iload1 C dX9_tag_38 ?_
        refine s_iload2 C dX9_tag_39 ?_
        refine s_aload0 C dX9_tag_40 ?_
        refine gX9_51 C ho dX9_tag_41 ?_
        refine gX9_179 C (qX9_own ho) dX9_tag_44 ?_
        obtain ⟨r9, M8, hq, h⟩ := bI_e h
        refine s_callV (T := TX6) (As := [.int x1, .int x2, .long (M7.2 (o + 41) 4)]) (v := some (.int r9)) C rfl (qX1_tables (qX9_own ho)) (by decide) rfl (by omega) wX9_206 rfl (Nat.le_of_ble_eq_true rfl) dX9_tag_47 (tX6_tagOf C.2.2.2.2.2.2.1 (by omega) (qX1_tables (qX9_own ho)) hq) ?_
        exact s_iret C R h dX9_tag_50
      · refine s_bipush (v := -2) C (by decide) dX9_tag_23 ?_
        exact s_iret C R h dX9_tag_25
set_option maxRecDepth 4000 in
theorem tX9_askedAt {l : Launch} {E : En} {A : Nat → Prop} {d : Nat} {r : Int32} {M M' : Mem} {o : Nat} {x1 : Int32} {x2 : Int32} (hE : Okk E A) (hd : 6 ≤ d) (ho : kd o = (9, 0)) (h : fX9_askedAt o x1 x2 M = some (r, M')) : Ct l E A d yX9_askedAt cX9_askedAt 3 (some .boolean) [.ref (ad E o), .int x1, .int x2] M (some (.int r)) M' := by
  refine Ct.mk (ls := [some (.ref (ad E o)), some (.int x1), some (.int x2)]) hE (by decide +kernel) rfl (Nat.le_of_ble_eq_true rfl) (fun X hXl hXA C R => ?_)
  subst hXl; subst hXA
  unfold fX9_askedAt at h
  refine s_aload0 C dX9_askedAt_0 ?_
  refine s_iload2 C dX9_askedAt_1 ?_
  obtain ⟨r2, M1, hq, h⟩ := bI_e h
  refine s_callV (T := TX9) (As := [.int x2]) (v := some (.int r2)) C rfl ho (by decide) rfl (by omega) wX9_144 rfl (Nat.le_of_ble_eq_true rfl) dX9_askedAt_2 (tX9_isMoment C.2.2.2.2.2.2.1 (by omega) ho hq) ?_
  refine s_if_eq (tgt := 15) C h dX9_askedAt_5 (by decide) ⟨fun h => ?_, fun h => ?_⟩
  · refine s_iconst (v := 0) C (by decide) dX9_askedAt_15 ?_
    exact s_zret C R h rfl dX9_askedAt_16
  · refine s_iload1 C dX9_askedAt_8 ?_
    obtain ⟨r4, M3, hq, h⟩ := bI_e h
    refine s_callS (As := [.int x1]) (v := some (.int r4)) C rfl (by omega) wX9_150 rfl (Nat.le_of_ble_eq_true rfl) dX9_askedAt_9 (tX9_isAddress C.2.2.2.2.2.2.1 (by omega)  hq) ?_
    refine s_if_ne (tgt := 17) C h dX9_askedAt_12 (by decide) ⟨fun h => ?_, fun h => ?_⟩
    · refine s_aload0 C dX9_askedAt_17 ?_
      refine s_iload2 C dX9_askedAt_18 ?_
      obtain ⟨M5, hq, h⟩ := bV_e h
      refine s_callV (T := TX9) (As := [.int x2]) (v := none) C rfl ho (by decide) rfl (by omega) wX9_176 rfl (Nat.le_of_ble_eq_true rfl) dX9_askedAt_19 (tX9_goTo C.2.2.2.2.2.2.1 (by omega) ho hq) ?_
      refine s_aload0 C dX9_askedAt_22 ?_
      refine gX9_51 C ho dX9_askedAt_23 ?_
      refine s_iload1 C dX9_askedAt_26 ?_
      obtain ⟨r7, M6, hq, h⟩ := bI_e h
      refine s_callV (T := TX1) (As := [.int x1]) (v := some (.int r7)) C rfl (qX9_own ho) (by decide) rfl (by omega) wX9_358 rfl (Nat.le_of_ble_eq_true rfl) dX9_askedAt_27 (tX1_ask C.2.2.2.2.2.2.1 (by omega) (qX9_own ho) hq) ?_
      refine s_pop C rfl dX9_askedAt_30 ?_
      refine s_iconst (v := 1) C (by decide) dX9_askedAt_31 ?_
      exact s_zret C R h rfl dX9_askedAt_32
    · refine s_iconst (v := 0) C (by decide) dX9_askedAt_15 ?_
      exact s_zret C R h rfl dX9_askedAt_16
set_option maxRecDepth 4000 in
theorem tX9_provider {l : Launch} {E : En} {A : Nat → Prop} {d : Nat} {r : Int32} {M M' : Mem} {o : Nat} {x1 : Int32} {x2 : Int32} (hE : Okk E A) (hd : 7 ≤ d) (ho : kd o = (9, 0)) (h : fX9_provider o x1 x2 M = some (r, M')) : Ct l E A d yX9_provider cX9_provider 3 (some .int) [.ref (ad E o), .int x1, .int x2] M (some (.int r)) M' := by
  refine Ct.mk (ls := [some (.ref (ad E o)), some (.int x1), some (.int x2)]) hE (by decide +kernel) rfl (Nat.le_of_ble_eq_true rfl) (fun X hXl hXA C R => ?_)
  subst hXl; subst hXA
  unfold fX9_provider at h
  refine s_aload0 C dX9_provider_0 ?_
  refine s_iload1 C dX9_provider_1 ?_
  refine s_iload2 C dX9_provider_2 ?_
  obtain ⟨r2, M1, hq, h⟩ := bI_e h
  refine s_callV (T := TX9) (As := [.int x1, .int x2]) (v := some (.int r2)) C rfl ho (by decide) rfl (by omega) wX9_209 rfl (Nat.le_of_ble_eq_true rfl) dX9_provider_3 (tX9_askedAt C.2.2.2.2.2.2.1 (by omega) ho hq) ?_
  refine s_if_eq (tgt := 22) C h dX9_provider_6 (by decide) ⟨fun h => ?_, fun h => ?_⟩
  · refine s_bipush (v := -2) C (by decide) dX9_provider_22 ?_
    exact s_iret C R h dX9_provider_24
  · refine s_aload0 C dX9_provider_9 ?_
    refine gX9_51 C ho dX9_provider_10 ?_
    refine gX9_197 C (qX9_own ho) dX9_provider_13 ?_
    refine gX9_213 C (qX1_tables (qX9_own ho)) dX9_provider_16 ?_
    refine s_goto (tgt := 24) C dX9_provider_19 (by decide) ?_
    exact s_iret C R h dX9_provider_24
set_option maxRecDepth 4000 in
theorem tX9_alternate {l : Launch} {E : En} {A : Nat → Prop} {d : Nat} {r : Int32} {M M' : Mem} {o : Nat} {x1 : Int32} {x2 : Int32} (hE : Okk E A) (hd : 7 ≤ d) (ho : kd o = (9, 0)) (h : fX9_alternate o x1 x2 M = some (r, M')) : Ct l E A d yX9_alternate cX9_alternate 3 (some .int) [.ref (ad E o), .int x1, .int x2] M (some (.int r)) M' := by
  refine Ct.mk (ls := [some (.ref (ad E o)), some (.int x1), some (.int x2)]) hE (by decide +kernel) rfl (Nat.le_of_ble_eq_true rfl) (fun X hXl hXA C R => ?_)
  subst hXl; subst hXA
  unfold fX9_alternate at h
  refine s_aload0 C dX9_alternate_0 ?_
  refine s_iload1 C dX9_alternate_1 ?_
  refine s_iload2 C dX9_alternate_2 ?_
  obtain ⟨r2, M1, hq, h⟩ := bI_e h
  refine s_callV (T := TX9) (As := [.int x1, .int x2]) (v := some (.int r2)) C rfl ho (by decide) rfl (by omega) wX9_209 rfl (Nat.le_of_ble_eq_true rfl) dX9_alternate_3 (tX9_askedAt C.2.2.2.2.2.2.1 (by omega) ho hq) ?_
  refine s_if_eq (tgt := 22) C h dX9_alternate_6 (by decide) ⟨fun h => ?_, fun h => ?_⟩
  · refine s_bipush (v := -2) C (by decide) dX9_alternate_22 ?_
    exact s_iret C R h dX9_alternate_24
  · refine s_aload0 C dX9_alternate_9 ?_
    refine gX9_51 C ho dX9_alternate_10 ?_
    refine gX9_197 C (qX9_own ho) dX9_alternate_13 ?_
    refine gX9_216 C (qX1_tables (qX9_own ho)) dX9_alternate_16 ?_
    refine s_goto (tgt := 24) C dX9_alternate_19 (by decide) ?_
    exact s_iret C R h dX9_alternate_24
set_option maxRecDepth 4000 in
theorem tX9_guess {l : Launch} {E : En} {A : Nat → Prop} {d : Nat} {r : Int32} {M M' : Mem} {o : Nat} {x1 : Int32} {x2 : Int32} (hE : Okk E A) (hd : 7 ≤ d) (ho : kd o = (9, 0)) (h : fX9_guess o x1 x2 M = some (r, M')) : Ct l E A d yX9_guess cX9_guess 3 (some .int) [.ref (ad E o), .int x1, .int x2] M (some (.int r)) M' := by
  refine Ct.mk (ls := [some (.ref (ad E o)), some (.int x1), some (.int x2)]) hE (by decide +kernel) rfl (Nat.le_of_ble_eq_true rfl) (fun X hXl hXA C R => ?_)
  subst hXl; subst hXA
  unfold fX9_guess at h
  refine s_aload0 C dX9_guess_0 ?_
  refine s_iload1 C dX9_guess_1 ?_
  refine s_iload2 C dX9_guess_2 ?_
  obtain ⟨r2, M1, hq, h⟩ := bI_e h
  refine s_callV (T := TX9) (As := [.int x1, .int x2]) (v := some (.int r2)) C rfl ho (by decide) rfl (by omega) wX9_209 rfl (Nat.le_of_ble_eq_true rfl) dX9_guess_3 (tX9_askedAt C.2.2.2.2.2.2.1 (by omega) ho hq) ?_
  refine s_if_eq (tgt := 19) C h dX9_guess_6 (by decide) ⟨fun h => ?_, fun h => ?_⟩
  · refine s_bipush (v := -2) C (by decide) dX9_guess_19 ?_
    exact s_iret C R h dX9_guess_21
  · refine s_aload0 C dX9_guess_9 ?_
    refine gX9_51 C ho dX9_guess_10 ?_
    refine gX9_219 C (qX9_own ho) dX9_guess_13 ?_
    refine s_goto (tgt := 21) C dX9_guess_16 (by decide) ?_
    exact s_iret C R h dX9_guess_21
set_option maxRecDepth 4000 in
theorem tX9_adds {l : Launch} {E : En} {A : Nat → Prop} {d : Nat} {r : Int32} {M M' : Mem} {o : Nat} {x1 : Int32} {x2 : Int32} (hE : Okk E A) (hd : 7 ≤ d) (ho : kd o = (9, 0)) (h : fX9_adds o x1 x2 M = some (r, M')) : Ct l E A d yX9_adds cX9_adds 3 (some .int) [.ref (ad E o), .int x1, .int x2] M (some (.int r)) M' := by
  refine Ct.mk (ls := [some (.ref (ad E o)), some (.int x1), some (.int x2)]) hE (by decide +kernel) rfl (Nat.le_of_ble_eq_true rfl) (fun X hXl hXA C R => ?_)
  subst hXl; subst hXA
  unfold fX9_adds at h
  refine s_aload0 C dX9_adds_0 ?_
  refine s_iload1 C dX9_adds_1 ?_
  refine s_iload2 C dX9_adds_2 ?_
  obtain ⟨r2, M1, hq, h⟩ := bI_e h
  refine s_callV (T := TX9) (As := [.int x1, .int x2]) (v := some (.int r2)) C rfl ho (by decide) rfl (by omega) wX9_209 rfl (Nat.le_of_ble_eq_true rfl) dX9_adds_3 (tX9_askedAt C.2.2.2.2.2.2.1 (by omega) ho hq) ?_
  refine s_if_eq (tgt := 22) C h dX9_adds_6 (by decide) ⟨fun h => ?_, fun h => ?_⟩
  · refine s_sipush (v := -1000) C (by decide) dX9_adds_22 ?_
    exact s_iret C R h dX9_adds_25
  · refine s_aload0 C dX9_adds_9 ?_
    refine gX9_51 C ho dX9_adds_10 ?_
    refine gX9_222 C (qX9_own ho) dX9_adds_13 ?_
    refine gX9_226 C (qX1_corrector (qX9_own ho)) dX9_adds_16 ?_
    refine s_goto (tgt := 25) C dX9_adds_19 (by decide) ?_
    exact s_iret C R h dX9_adds_25
set_option maxRecDepth 4000 in
theorem tX9_entry {l : Launch} {E : En} {A : Nat → Prop} {d : Nat} {r : Int32} {M M' : Mem} {o : Nat} {x1 : Int32} {x2 : Int32} {x3 : Int32} {x4 : Int32} (hE : Okk E A) (hd : 6 ≤ d) (ho : kd o = (9, 0)) (h : fX9_entry o x1 x2 x3 x4 M = some (r, M')) : Ct l E A d yX9_entry cX9_entry 6 (some .int) [.ref (ad E o), .int x1, .int x2, .int x3, .int x4] M (some (.int r)) M' := by
  refine Ct.mk (ls := [some (.ref (ad E o)), some (.int x1), some (.int x2), some (.int x3), some (.int x4), none]) hE (by decide +kernel) rfl (Nat.le_of_ble_eq_true rfl) (fun X hXl hXA C R => ?_)
  subst hXl; subst hXA
  unfold fX9_entry at h
  refine s_aload0 C dX9_entry_0 ?_
  refine s_iload4 C dX9_entry_1 ?_
  obtain ⟨r2, M1, hq, h⟩ := bI_e h
  refine s_callV (T := TX9) (As := [.int x4]) (v := some (.int r2)) C rfl ho (by decide) rfl (by omega) wX9_144 rfl (Nat.le_of_ble_eq_true rfl) dX9_entry_3 (tX9_isMoment C.2.2.2.2.2.2.1 (by omega) ho hq) ?_
  refine s_if_eq (tgt := 51) C h dX9_entry_6 (by decide) ⟨fun h => ?_, fun h => ?_⟩
  · refine s_sipush (v := -1000) C (by decide) dX9_entry_51 ?_
    exact s_iret C R h dX9_entry_54
  · refine s_aload0 C dX9_entry_9 ?_
    refine s_iload1 C dX9_entry_10 ?_
    obtain ⟨r4, M3, hq, h⟩ := bI_e h
    refine s_callV (T := TX9) (As := [.int x1]) (v := some (.int r4)) C rfl ho (by decide) rfl (by omega) wX9_194 rfl (Nat.le_of_ble_eq_true rfl) dX9_entry_11 (tX9_isTable C.2.2.2.2.2.2.1 (by omega) ho hq) ?_
    refine s_if_eq (tgt := 51) C h dX9_entry_14 (by decide) ⟨fun h => ?_, fun h => ?_⟩
    · refine s_sipush (v := -1000) C (by decide) dX9_entry_51 ?_
      exact s_iret C R h dX9_entry_54
    · refine s_iload2 C dX9_entry_17 ?_
      refine s_i2l C dX9_entry_18 ?_
      refine s_lconst (v := 0) C (by decide) dX9_entry_19 ?_
      refine s_aload0 C dX9_entry_20 ?_
      refine gX9_23 C ho dX9_entry_21 ?_
      refine gX9_231 C (qX9_told ho) dX9_entry_24 ?_
      refine s_iconst (v := 0) C (by decide) dX9_entry_27 ?_
      refine s_iald C (qX7_head (qX9_told ho)) h dX9_entry_28 (fun h => ?_)
      obtain ⟨r6, M5, hq, h⟩ := bI_e h
      refine s_callS (As := [.int (M3.1 ((o + 9) + 1) (tn (0 : Int32)))]) (v := some (.int r6)) C rfl (by omega) wX9_183 rfl (Nat.le_of_ble_eq_true rfl) dX9_entry_29 (tX9_lowest C.2.2.2.2.2.2.1 (by omega)  hq) ?_
      refine s_i2l C dX9_entry_32 ?_
      obtain ⟨r8, M7, hq, h⟩ := bI_e h
      refine s_callS (As := [.long (x2).toInt64, .long (0 : Int64), .long (r6).toInt64]) (v := some (.int r8)) C rfl (by omega) wX9_77 rfl (Nat.le_of_ble_eq_true rfl) dX9_entry_33 (tX9_within C.2.2.2.2.2.2.1 (by omega)  hq) ?_
      refine s_if_eq (tgt := 51) C h dX9_entry_36 (by decide) ⟨fun h => ?_, fun h => ?_⟩
      · refine s_sipush (v := -1000) C (by decide) dX9_entry_51 ?_
        exact s_iret C R h dX9_entry_54
      · refine s_iload3 C dX9_entry_39 ?_
        refine s_i2l C dX9_entry_40 ?_
        refine s_lconst (v := 0) C (by decide) dX9_entry_41 ?_
        refine s_ldc2 (v := 2) C k_946 dX9_entry_42 ?_
        obtain ⟨r10, M9, hq, h⟩ := bI_e h
        refine s_callS (As := [.long (x3).toInt64, .long (0 : Int64), .long (2 : Int64)]) (v := some (.int r10)) C rfl (by omega) wX9_77 rfl (Nat.le_of_ble_eq_true rfl) dX9_entry_45 (tX9_within C.2.2.2.2.2.2.1 (by omega)  hq) ?_
        refine s_if_ne (tgt := 55) C h dX9_entry_48 (by decide) ⟨fun h => ?_, fun h => ?_⟩
        · refine s_aload0 C dX9_entry_55 ?_
          refine s_iload4 C dX9_entry_56 ?_
          obtain ⟨M11, hq, h⟩ := bV_e h
          refine s_callV (T := TX9) (As := [.int x4]) (v := none) C rfl ho (by decide) rfl (by omega) wX9_176 rfl (Nat.le_of_ble_eq_true rfl) dX9_entry_58 (tX9_goTo C.2.2.2.2.2.2.1 (by omega) ho hq) ?_
          refine s_bipush (v := 16) C (by decide) dX9_entry_61 ?_
          refine s_iload1 C dX9_entry_63 ?_
          refine s_iconst (v := 1) C (by decide) dX9_entry_64 ?_
          refine s_isub C dX9_entry_65 ?_
          refine s_imul C dX9_entry_66 ?_
          refine s_iload2 C dX9_entry_67 ?_
          refine s_iadd C dX9_entry_68 ?_
          refine s_istore5 C rfl dX9_entry_69 ?_
          refine s_iload3 C dX9_entry_71 ?_
          refine s_if_ne (tgt := 89) C h dX9_entry_72 (by decide) ⟨fun h => ?_, fun h => ?_⟩
          · refine s_iload3 C dX9_entry_89 ?_
            refine s_iconst (v := 1) C (by decide) dX9_entry_90 ?_
            refine s_ic_ne (tgt := 110) C h dX9_entry_91 (by decide) ⟨fun h => ?_, fun h => ?_⟩
            · refine s_aload0 C dX9_entry_110 ?_
              refine gX9_51 C ho dX9_entry_111 ?_
              refine gX9_197 C (qX9_own ho) dX9_entry_114 ?_
              refine gX9_242 C (qX1_tables (qX9_own ho)) dX9_entry_117 ?_
              refine s_iload5 C dX9_entry_120 ?_
              refine s_iald C (qX6_uses (qX1_tables (qX9_own ho))) h dX9_entry_122 (fun h => ?_)
              exact s_iret C R h dX9_entry_123
            · refine s_aload0 C dX9_entry_94 ?_
              refine gX9_51 C ho dX9_entry_95 ?_
              refine gX9_197 C (qX9_own ho) dX9_entry_98 ?_
              refine gX9_239 C (qX1_tables (qX9_own ho)) dX9_entry_101 ?_
              refine s_iload5 C dX9_entry_104 ?_
              refine s_iald C (qX6_counts (qX1_tables (qX9_own ho))) h dX9_entry_106 (fun h => ?_)
              refine s_goto (tgt := 123) C dX9_entry_107 (by decide) ?_
              exact s_iret C R h dX9_entry_123
          · refine s_aload0 C dX9_entry_75 ?_
            refine gX9_51 C ho dX9_entry_76 ?_
            refine gX9_197 C (qX9_own ho) dX9_entry_79 ?_
            refine gX9_236 C (qX1_tables (qX9_own ho)) dX9_entry_82 ?_
            refine s_iload5 C dX9_entry_85 ?_
            refine s_iald C (qX6_tags (qX1_tables (qX9_own ho))) h dX9_entry_87 (fun h => ?_)
            exact s_iret C R h dX9_entry_88
        · refine s_sipush (v := -1000) C (by decide) dX9_entry_51 ?_
          exact s_iret C R h dX9_entry_54
set_option maxRecDepth 4000 in
theorem bX6_heldWithin_25 {E : En} {X : Xc} {d : Nat} {r : Int32} {M M' : Mem} {o : Nat} {x2 : Int32} {x3 : Int32} {x4 : Int32} (C : Cx E X d cX6_heldWithin RX6 5) (R : Rt E X (some .int) (some (.int r)) M') (hd : 0 ≤ d) {k5 : Nat → Int32 → Int32 → Int32 → Mem → Option (Int32 × Mem)} (hk5 : ∀ (o : Nat) (x2 : Int32) (x3 : Int32) (x4 : Int32) (M : Mem) (_ : kd o = (6, 0)), k5 o x2 x3 x4 M = some (r, M') → At E X 5 [some (.ref (ad E o)), none, some (.int x2), some (.int x3), some (.int x4)] [] M) (ho : kd o = (6, 0)) (h : fX6_heldWithin_25 k5 o x2 x3 x4 M = some (r, M')) : At E X 25 [some (.ref (ad E o)), none, some (.int x2), some (.int x3), some (.int x4)] [] M := by
  unfold fX6_heldWithin_25 at h
  refine s_iinc4 (v := 1) C rfl dX6_heldWithin_25 (by decide) ?_
  refine s_goto (tgt := 5) C dX6_heldWithin_28 (by decide) ?_
  exact hk5 _ _ _ _ _ ho h
set_option maxRecDepth 4000 in
theorem bX6_heldWithin_5 {E : En} {X : Xc} {d : Nat} {r : Int32} {M' : Mem} (C : Cx E X d cX6_heldWithin RX6 5) (R : Rt E X (some .int) (some (.int r)) M') (hd : 0 ≤ d)   : ∀ (n : Nat) (o : Nat) (x2 : Int32) (x3 : Int32) (x4 : Int32) (M : Mem) (_ : kd o = (6, 0)), fX6_heldWithin_5  n o x2 x3 x4 M = some (r, M') → At E X 5 [some (.ref (ad E o)), none, some (.int x2), some (.int x3), some (.int x4)] [] M := by
  intro n
  induction n with
  | zero => intro o x2 x3 x4 M ho h; rw [fX6_heldWithin_5] at h; cases h
  | succ n ih =>
    intro o x2 x3 x4 M ho h
    rw [fX6_heldWithin_5] at h
    refine s_iload4 C dX6_heldWithin_5 ?_
    refine s_iload2 C dX6_heldWithin_7 ?_
    refine s_ic_ge (tgt := 31) C h dX6_heldWithin_8 (by decide) ⟨fun h => ?_, fun h => ?_⟩
    · refine s_iload3 C dX6_heldWithin_31 ?_
      exact s_iret C R h dX6_heldWithin_32
    · refine s_aload0 C dX6_heldWithin_11 ?_
      refine gX6_15 C ho dX6_heldWithin_12 ?_
      refine s_iload4 C dX6_heldWithin_15 ?_
      refine s_iald C (qX6_tags ho) h dX6_heldWithin_17 (fun h => ?_)
      refine s_iconst (v := -1) C (by decide) dX6_heldWithin_18 ?_
      refine s_ic_eq (tgt := 25) C h dX6_heldWithin_19 (by decide) ⟨fun h => ?_, fun h => ?_⟩
      · exact bX6_heldWithin_25 C R hd (ih) ho h
      · refine s_iinc3 (v := 1) C rfl dX6_heldWithin_22 (by decide) ?_
        exact bX6_heldWithin_25 C R hd (ih) ho h
set_option maxRecDepth 4000 in
theorem tX6_heldWithin {l : Launch} {E : En} {A : Nat → Prop} {d : Nat} {r : Int32} {M M' : Mem} {o : Nat} {x1 : Int32} {x2 : Int32} (hE : Okk E A) (hd : 0 ≤ d) (ho : kd o = (6, 0)) (h : fX6_heldWithin o x1 x2 M = some (r, M')) : Ct l E A d yX6_heldWithin cX6_heldWithin 5 (some .int) [.ref (ad E o), .int x1, .int x2] M (some (.int r)) M' := by
  refine Ct.mk (ls := [some (.ref (ad E o)), some (.int x1), some (.int x2), none, none]) hE (by decide +kernel) rfl (Nat.le_of_ble_eq_true rfl) (fun X hXl hXA C R => ?_)
  subst hXl; subst hXA
  unfold fX6_heldWithin at h
  refine s_iconst (v := 0) C (by decide) dX6_heldWithin_0 ?_
  refine s_istore3 C rfl dX6_heldWithin_1 ?_
  refine s_iload1 C dX6_heldWithin_2 ?_
  refine s_istore4 C rfl dX6_heldWithin_3 ?_
  refine s_fg 1 ?_
  exact bX6_heldWithin_5 C R hd  LF _ _ _ _ _ ho h
set_option maxRecDepth 4000 in
theorem tX9_held {l : Launch} {E : En} {A : Nat → Prop} {d : Nat} {r : Int32} {M M' : Mem} {o : Nat} {x1 : Int32} {x2 : Int32} (hE : Okk E A) (hd : 6 ≤ d) (ho : kd o = (9, 0)) (h : fX9_held o x1 x2 M = some (r, M')) : Ct l E A d yX9_held cX9_held 3 (some .int) [.ref (ad E o), .int x1, .int x2] M (some (.int r)) M' := by
  refine Ct.mk (ls := [some (.ref (ad E o)), some (.int x1), some (.int x2)]) hE (by decide +kernel) rfl (Nat.le_of_ble_eq_true rfl) (fun X hXl hXA C R => ?_)
  subst hXl; subst hXA
  unfold fX9_held at h
  refine s_aload0 C dX9_held_0 ?_
  refine s_iload2 C dX9_held_1 ?_
  obtain ⟨r2, M1, hq, h⟩ := bI_e h
  refine s_callV (T := TX9) (As := [.int x2]) (v := some (.int r2)) C rfl ho (by decide) rfl (by omega) wX9_144 rfl (Nat.le_of_ble_eq_true rfl) dX9_held_2 (tX9_isMoment C.2.2.2.2.2.2.1 (by omega) ho hq) ?_
  refine s_if_eq (tgt := 25) C h dX9_held_5 (by decide) ⟨fun h => ?_, fun h => ?_⟩
  · refine s_bipush (v := -2) C (by decide) dX9_held_25 ?_
    exact s_iret C R h dX9_held_27
  · refine s_iload1 C dX9_held_8 ?_
    refine s_i2l C dX9_held_9 ?_
    refine s_lconst (v := 0) C (by decide) dX9_held_10 ?_
    refine s_aload0 C dX9_held_11 ?_
    refine gX9_23 C ho dX9_held_12 ?_
    refine gX9_171 C (qX9_told ho) dX9_held_15 ?_
    refine s_i2l C dX9_held_18 ?_
    obtain ⟨r4, M3, hq, h⟩ := bI_e h
    refine s_callS (As := [.long (x1).toInt64, .long (0 : Int64), .long ((M1.1 (o + 9) 6)).toInt64]) (v := some (.int r4)) C rfl (by omega) wX9_77 rfl (Nat.le_of_ble_eq_true rfl) dX9_held_19 (tX9_within C.2.2.2.2.2.2.1 (by omega)  hq) ?_
    refine s_if_ne (tgt := 28) C h dX9_held_22 (by decide) ⟨fun h => ?_, fun h => ?_⟩
    · refine s_aload0 C dX9_held_28 ?_
      refine s_iload2 C dX9_held_29 ?_
      obtain ⟨M5, hq, h⟩ := bV_e h
      refine s_callV (T := TX9) (As := [.int x2]) (v := none) C rfl ho (by decide) rfl (by omega) wX9_176 rfl (Nat.le_of_ble_eq_true rfl) dX9_held_30 (tX9_goTo C.2.2.2.2.2.2.1 (by omega) ho hq) ?_
      refine s_iload1 C dX9_held_33 ?_
      refine s_if_ne (tgt := 53) C h dX9_held_34 (by decide) ⟨fun h => ?_, fun h => ?_⟩
      · refine s_aload0 C dX9_held_53 ?_
        refine gX9_51 C ho dX9_held_54 ?_
        refine gX9_197 C (qX9_own ho) dX9_held_57 ?_
        refine s_bipush (v := 16) C (by decide) dX9_held_60 ?_
        refine s_iload1 C dX9_held_62 ?_
        refine s_iconst (v := 1) C (by decide) dX9_held_63 ?_
        refine s_isub C dX9_held_64 ?_
        refine s_imul C dX9_held_65 ?_
        refine s_bipush (v := 16) C (by decide) dX9_held_66 ?_
        refine s_iload1 C dX9_held_68 ?_
        refine s_imul C dX9_held_69 ?_
        obtain ⟨r7, M6, hq, h⟩ := bI_e h
        refine s_callV (T := TX6) (As := [.int ((16 : Int32) * (x1 - (1 : Int32))), .int ((16 : Int32) * x1)]) (v := some (.int r7)) C rfl (qX1_tables (qX9_own ho)) (by decide) rfl (by omega) wX9_245 rfl (Nat.le_of_ble_eq_true rfl) dX9_held_70 (tX6_heldWithin C.2.2.2.2.2.2.1 (by omega) (qX1_tables (qX9_own ho)) hq) ?_
        exact s_iret C R h dX9_held_73
      · refine s_aload0 C dX9_held_37 ?_
        refine gX9_51 C ho dX9_held_38 ?_
        refine gX9_197 C (qX9_own ho) dX9_held_41 ?_
        refine s_iconst (v := 0) C (by decide) dX9_held_44 ?_
        refine s_bipush (v := 80) C (by decide) dX9_held_45 ?_
        obtain ⟨r9, M8, hq, h⟩ := bI_e h
        refine s_callV (T := TX6) (As := [.int (0 : Int32), .int (80 : Int32)]) (v := some (.int r9)) C rfl (qX1_tables (qX9_own ho)) (by decide) rfl (by omega) wX9_245 rfl (Nat.le_of_ble_eq_true rfl) dX9_held_47 (tX6_heldWithin C.2.2.2.2.2.2.1 (by omega) (qX1_tables (qX9_own ho)) hq) ?_
        refine s_goto (tgt := 73) C dX9_held_50 (by decide) ?_
        exact s_iret C R h dX9_held_73
    · refine s_bipush (v := -2) C (by decide) dX9_held_25 ?_
      exact s_iret C R h dX9_held_27
set_option maxRecDepth 4000 in
theorem tX9_base {l : Launch} {E : En} {A : Nat → Prop} {d : Nat} {r : Int32} {M M' : Mem} {o : Nat} {x1 : Int32} {x2 : Int32} (hE : Okk E A) (hd : 6 ≤ d) (ho : kd o = (9, 0)) (h : fX9_base o x1 x2 M = some (r, M')) : Ct l E A d yX9_base cX9_base 3 (some .int) [.ref (ad E o), .int x1, .int x2] M (some (.int r)) M' := by
  refine Ct.mk (ls := [some (.ref (ad E o)), some (.int x1), some (.int x2)]) hE (by decide +kernel) rfl (Nat.le_of_ble_eq_true rfl) (fun X hXl hXA C R => ?_)
  subst hXl; subst hXA
  unfold fX9_base at h
  refine s_aload0 C dX9_base_0 ?_
  refine s_iload2 C dX9_base_1 ?_
  obtain ⟨r2, M1, hq, h⟩ := bI_e h
  refine s_callV (T := TX9) (As := [.int x2]) (v := some (.int r2)) C rfl ho (by decide) rfl (by omega) wX9_144 rfl (Nat.le_of_ble_eq_true rfl) dX9_base_2 (tX9_isMoment C.2.2.2.2.2.2.1 (by omega) ho hq) ?_
  refine s_if_eq (tgt := 20) C h dX9_base_5 (by decide) ⟨fun h => ?_, fun h => ?_⟩
  · refine s_bipush (v := -2) C (by decide) dX9_base_20 ?_
    exact s_iret C R h dX9_base_22
  · refine s_iload1 C dX9_base_8 ?_
    refine s_i2l C dX9_base_9 ?_
    refine s_lconst (v := 0) C (by decide) dX9_base_10 ?_
    refine s_ldc2 (v := 15) C k_1027 dX9_base_11 ?_
    obtain ⟨r4, M3, hq, h⟩ := bI_e h
    refine s_callS (As := [.long (x1).toInt64, .long (0 : Int64), .long (15 : Int64)]) (v := some (.int r4)) C rfl (by omega) wX9_77 rfl (Nat.le_of_ble_eq_true rfl) dX9_base_14 (tX9_within C.2.2.2.2.2.2.1 (by omega)  hq) ?_
    refine s_if_ne (tgt := 23) C h dX9_base_17 (by decide) ⟨fun h => ?_, fun h => ?_⟩
    · refine s_aload0 C dX9_base_23 ?_
      refine s_iload2 C dX9_base_24 ?_
      obtain ⟨M5, hq, h⟩ := bV_e h
      refine s_callV (T := TX9) (As := [.int x2]) (v := none) C rfl ho (by decide) rfl (by omega) wX9_176 rfl (Nat.le_of_ble_eq_true rfl) dX9_base_25 (tX9_goTo C.2.2.2.2.2.2.1 (by omega) ho hq) ?_
      refine s_aload0 C dX9_base_28 ?_
      refine gX9_51 C ho dX9_base_29 ?_
      refine gX9_197 C (qX9_own ho) dX9_base_32 ?_
      refine gX9_250 C (qX1_tables (qX9_own ho)) dX9_base_35 ?_
      refine s_iload1 C dX9_base_38 ?_
      refine s_iald C (qX6_bases (qX1_tables (qX9_own ho))) h dX9_base_39 (fun h => ?_)
      exact s_iret C R h dX9_base_40
    · refine s_bipush (v := -2) C (by decide) dX9_base_20 ?_
      exact s_iret C R h dX9_base_22
set_option maxRecDepth 4000 in
theorem tX9_gauge {l : Launch} {E : En} {A : Nat → Prop} {d : Nat} {r : Int32} {M M' : Mem} {o : Nat} {x1 : Int32} {x2 : Int32} (hE : Okk E A) (hd : 6 ≤ d) (ho : kd o = (9, 0)) (h : fX9_gauge o x1 x2 M = some (r, M')) : Ct l E A d yX9_gauge cX9_gauge 3 (some .int) [.ref (ad E o), .int x1, .int x2] M (some (.int r)) M' := by
  refine Ct.mk (ls := [some (.ref (ad E o)), some (.int x1), some (.int x2)]) hE (by decide +kernel) rfl (Nat.le_of_ble_eq_true rfl) (fun X hXl hXA C R => ?_)
  subst hXl; subst hXA
  unfold fX9_gauge at h
  refine s_aload0 C dX9_gauge_0 ?_
  refine s_iload2 C dX9_gauge_1 ?_
  obtain ⟨r2, M1, hq, h⟩ := bI_e h
  refine s_callV (T := TX9) (As := [.int x2]) (v := some (.int r2)) C rfl ho (by decide) rfl (by omega) wX9_144 rfl (Nat.le_of_ble_eq_true rfl) dX9_gauge_2 (tX9_isMoment C.2.2.2.2.2.2.1 (by omega) ho hq) ?_
  refine s_if_eq (tgt := 20) C h dX9_gauge_5 (by decide) ⟨fun h => ?_, fun h => ?_⟩
  · refine s_bipush (v := -2) C (by decide) dX9_gauge_20 ?_
    exact s_iret C R h dX9_gauge_22
  · refine s_iload1 C dX9_gauge_8 ?_
    refine s_i2l C dX9_gauge_9 ?_
    refine s_lconst (v := 0) C (by decide) dX9_gauge_10 ?_
    refine s_ldc2 (v := 3) C k_867 dX9_gauge_11 ?_
    obtain ⟨r4, M3, hq, h⟩ := bI_e h
    refine s_callS (As := [.long (x1).toInt64, .long (0 : Int64), .long (3 : Int64)]) (v := some (.int r4)) C rfl (by omega) wX9_77 rfl (Nat.le_of_ble_eq_true rfl) dX9_gauge_14 (tX9_within C.2.2.2.2.2.2.1 (by omega)  hq) ?_
    refine s_if_ne (tgt := 23) C h dX9_gauge_17 (by decide) ⟨fun h => ?_, fun h => ?_⟩
    · refine s_aload0 C dX9_gauge_23 ?_
      refine s_iload2 C dX9_gauge_24 ?_
      obtain ⟨M5, hq, h⟩ := bV_e h
      refine s_callV (T := TX9) (As := [.int x2]) (v := none) C rfl ho (by decide) rfl (by omega) wX9_176 rfl (Nat.le_of_ble_eq_true rfl) dX9_gauge_25 (tX9_goTo C.2.2.2.2.2.2.1 (by omega) ho hq) ?_
      refine s_iload1 C dX9_gauge_28 ?_
      refine s_if_ne (tgt := 43) C h dX9_gauge_29 (by decide) ⟨fun h => ?_, fun h => ?_⟩
      · refine s_iload1 C dX9_gauge_43 ?_
        refine s_iconst (v := 1) C (by decide) dX9_gauge_44 ?_
        refine s_ic_ne (tgt := 59) C h dX9_gauge_45 (by decide) ⟨fun h => ?_, fun h => ?_⟩
        · refine s_iload1 C dX9_gauge_59 ?_
          refine s_iconst (v := 2) C (by decide) dX9_gauge_60 ?_
          refine s_ic_ne (tgt := 77) C h dX9_gauge_61 (by decide) ⟨fun h => ?_, fun h => ?_⟩
          · refine s_aload0 C dX9_gauge_77 ?_
            refine gX9_51 C ho dX9_gauge_78 ?_
            refine gX9_197 C (qX9_own ho) dX9_gauge_81 ?_
            refine gX9_262 C (qX1_tables (qX9_own ho)) dX9_gauge_84 ?_
            exact s_iret C R h dX9_gauge_87
          · refine s_aload0 C dX9_gauge_64 ?_
            refine gX9_51 C ho dX9_gauge_65 ?_
            refine gX9_222 C (qX9_own ho) dX9_gauge_68 ?_
            refine gX9_259 C (qX1_corrector (qX9_own ho)) dX9_gauge_71 ?_
            refine s_goto (tgt := 87) C dX9_gauge_74 (by decide) ?_
            exact s_iret C R h dX9_gauge_87
        · refine s_aload0 C dX9_gauge_48 ?_
          refine gX9_51 C ho dX9_gauge_49 ?_
          refine gX9_197 C (qX9_own ho) dX9_gauge_52 ?_
          refine gX9_256 C (qX1_tables (qX9_own ho)) dX9_gauge_55 ?_
          exact s_iret C R h dX9_gauge_58
      · refine s_aload0 C dX9_gauge_32 ?_
        refine gX9_51 C ho dX9_gauge_33 ?_
        refine gX9_197 C (qX9_own ho) dX9_gauge_36 ?_
        refine gX9_253 C (qX1_tables (qX9_own ho)) dX9_gauge_39 ?_
        exact s_iret C R h dX9_gauge_42
    · refine s_bipush (v := -2) C (by decide) dX9_gauge_20 ?_
      exact s_iret C R h dX9_gauge_22
set_option maxRecDepth 4000 in
theorem tX9_loop {l : Launch} {E : En} {A : Nat → Prop} {d : Nat} {r : Int32} {M M' : Mem} {o : Nat} {x1 : Int32} {x2 : Int32} {x3 : Int32} (hE : Okk E A) (hd : 6 ≤ d) (ho : kd o = (9, 0)) (h : fX9_loop o x1 x2 x3 M = some (r, M')) : Ct l E A d yX9_loop cX9_loop 4 (some .int) [.ref (ad E o), .int x1, .int x2, .int x3] M (some (.int r)) M' := by
  refine Ct.mk (ls := [some (.ref (ad E o)), some (.int x1), some (.int x2), some (.int x3)]) hE (by decide +kernel) rfl (Nat.le_of_ble_eq_true rfl) (fun X hXl hXA C R => ?_)
  subst hXl; subst hXA
  unfold fX9_loop at h
  refine s_aload0 C dX9_loop_0 ?_
  refine s_iload3 C dX9_loop_1 ?_
  obtain ⟨r2, M1, hq, h⟩ := bI_e h
  refine s_callV (T := TX9) (As := [.int x3]) (v := some (.int r2)) C rfl ho (by decide) rfl (by omega) wX9_144 rfl (Nat.le_of_ble_eq_true rfl) dX9_loop_2 (tX9_isMoment C.2.2.2.2.2.2.1 (by omega) ho hq) ?_
  refine s_if_eq (tgt := 32) C h dX9_loop_5 (by decide) ⟨fun h => ?_, fun h => ?_⟩
  · refine s_bipush (v := -2) C (by decide) dX9_loop_32 ?_
    exact s_iret C R h dX9_loop_34
  · refine s_iload1 C dX9_loop_8 ?_
    refine s_i2l C dX9_loop_9 ?_
    refine s_lconst (v := 0) C (by decide) dX9_loop_10 ?_
    refine s_ldc2 (v := 7) C k_895 dX9_loop_11 ?_
    obtain ⟨r4, M3, hq, h⟩ := bI_e h
    refine s_callS (As := [.long (x1).toInt64, .long (0 : Int64), .long (7 : Int64)]) (v := some (.int r4)) C rfl (by omega) wX9_77 rfl (Nat.le_of_ble_eq_true rfl) dX9_loop_14 (tX9_within C.2.2.2.2.2.2.1 (by omega)  hq) ?_
    refine s_if_eq (tgt := 32) C h dX9_loop_17 (by decide) ⟨fun h => ?_, fun h => ?_⟩
    · refine s_bipush (v := -2) C (by decide) dX9_loop_32 ?_
      exact s_iret C R h dX9_loop_34
    · refine s_iload2 C dX9_loop_20 ?_
      refine s_i2l C dX9_loop_21 ?_
      refine s_lconst (v := 0) C (by decide) dX9_loop_22 ?_
      refine s_ldc2 (v := 4) C k_1036 dX9_loop_23 ?_
      obtain ⟨r6, M5, hq, h⟩ := bI_e h
      refine s_callS (As := [.long (x2).toInt64, .long (0 : Int64), .long (4 : Int64)]) (v := some (.int r6)) C rfl (by omega) wX9_77 rfl (Nat.le_of_ble_eq_true rfl) dX9_loop_26 (tX9_within C.2.2.2.2.2.2.1 (by omega)  hq) ?_
      refine s_if_ne (tgt := 35) C h dX9_loop_29 (by decide) ⟨fun h => ?_, fun h => ?_⟩
      · refine s_aload0 C dX9_loop_35 ?_
        refine s_iload3 C dX9_loop_36 ?_
        obtain ⟨M7, hq, h⟩ := bV_e h
        refine s_callV (T := TX9) (As := [.int x3]) (v := none) C rfl ho (by decide) rfl (by omega) wX9_176 rfl (Nat.le_of_ble_eq_true rfl) dX9_loop_37 (tX9_goTo C.2.2.2.2.2.2.1 (by omega) ho hq) ?_
        refine s_iload2 C dX9_loop_40 ?_
        refine s_if_ne (tgt := 57) C h dX9_loop_41 (by decide) ⟨fun h => ?_, fun h => ?_⟩
        · refine s_iload2 C dX9_loop_57 ?_
          refine s_iconst (v := 1) C (by decide) dX9_loop_58 ?_
          refine s_ic_ne (tgt := 75) C h dX9_loop_59 (by decide) ⟨fun h => ?_, fun h => ?_⟩
          · refine s_iload2 C dX9_loop_75 ?_
            refine s_iconst (v := 2) C (by decide) dX9_loop_76 ?_
            refine s_ic_ne (tgt := 93) C h dX9_loop_77 (by decide) ⟨fun h => ?_, fun h => ?_⟩
            · refine s_iload2 C dX9_loop_93 ?_
              refine s_iconst (v := 3) C (by decide) dX9_loop_94 ?_
              refine s_ic_ne (tgt := 113) C h dX9_loop_95 (by decide) ⟨fun h => ?_, fun h => ?_⟩
              · refine s_aload0 C dX9_loop_113 ?_
                refine gX9_51 C ho dX9_loop_114 ?_
                refine gX9_271 C (qX9_own ho) dX9_loop_117 ?_
                refine gX9_287 C (qX1_loops (qX9_own ho)) dX9_loop_120 ?_
                refine s_iload1 C dX9_loop_123 ?_
                refine s_iald C (qX2_ages (qX1_loops (qX9_own ho))) h dX9_loop_124 (fun h => ?_)
                exact s_iret C R h dX9_loop_125
              · refine s_aload0 C dX9_loop_98 ?_
                refine gX9_51 C ho dX9_loop_99 ?_
                refine gX9_271 C (qX9_own ho) dX9_loop_102 ?_
                refine gX9_284 C (qX1_loops (qX9_own ho)) dX9_loop_105 ?_
                refine s_iload1 C dX9_loop_108 ?_
                refine s_iald C (qX2_sures (qX1_loops (qX9_own ho))) h dX9_loop_109 (fun h => ?_)
                refine s_goto (tgt := 125) C dX9_loop_110 (by decide) ?_
                exact s_iret C R h dX9_loop_125
            · refine s_aload0 C dX9_loop_80 ?_
              refine gX9_51 C ho dX9_loop_81 ?_
              refine gX9_271 C (qX9_own ho) dX9_loop_84 ?_
              refine gX9_281 C (qX1_loops (qX9_own ho)) dX9_loop_87 ?_
              refine s_iload1 C dX9_loop_90 ?_
              refine s_iald C (qX2_runs (qX1_loops (qX9_own ho))) h dX9_loop_91 (fun h => ?_)
              exact s_iret C R h dX9_loop_92
          · refine s_aload0 C dX9_loop_62 ?_
            refine gX9_51 C ho dX9_loop_63 ?_
            refine gX9_271 C (qX9_own ho) dX9_loop_66 ?_
            refine gX9_278 C (qX1_loops (qX9_own ho)) dX9_loop_69 ?_
            refine s_iload1 C dX9_loop_72 ?_
            refine s_iald C (qX2_lengths (qX1_loops (qX9_own ho))) h dX9_loop_73 (fun h => ?_)
            exact s_iret C R h dX9_loop_74
        · refine s_aload0 C dX9_loop_44 ?_
          refine gX9_51 C ho dX9_loop_45 ?_
          refine gX9_271 C (qX9_own ho) dX9_loop_48 ?_
          refine gX9_275 C (qX1_loops (qX9_own ho)) dX9_loop_51 ?_
          refine s_iload1 C dX9_loop_54 ?_
          refine s_iald C (qX2_owners (qX1_loops (qX9_own ho))) h dX9_loop_55 (fun h => ?_)
          exact s_iret C R h dX9_loop_56
      · refine s_bipush (v := -2) C (by decide) dX9_loop_32 ?_
        exact s_iret C R h dX9_loop_34
set_option maxRecDepth 4000 in
theorem tX9_corrector {l : Launch} {E : En} {A : Nat → Prop} {d : Nat} {r : Int32} {M M' : Mem} {o : Nat} {x1 : Int32} {x2 : Int32} {x3 : Int32} (hE : Okk E A) (hd : 6 ≤ d) (ho : kd o = (9, 0)) (h : fX9_corrector o x1 x2 x3 M = some (r, M')) : Ct l E A d yX9_corrector cX9_corrector 4 (some .int) [.ref (ad E o), .int x1, .int x2, .int x3] M (some (.int r)) M' := by
  refine Ct.mk (ls := [some (.ref (ad E o)), some (.int x1), some (.int x2), some (.int x3)]) hE (by decide +kernel) rfl (Nat.le_of_ble_eq_true rfl) (fun X hXl hXA C R => ?_)
  subst hXl; subst hXA
  unfold fX9_corrector at h
  refine s_aload0 C dX9_corrector_0 ?_
  refine s_iload3 C dX9_corrector_1 ?_
  obtain ⟨r2, M1, hq, h⟩ := bI_e h
  refine s_callV (T := TX9) (As := [.int x3]) (v := some (.int r2)) C rfl ho (by decide) rfl (by omega) wX9_144 rfl (Nat.le_of_ble_eq_true rfl) dX9_corrector_2 (tX9_isMoment C.2.2.2.2.2.2.1 (by omega) ho hq) ?_
  refine s_if_eq (tgt := 32) C h dX9_corrector_5 (by decide) ⟨fun h => ?_, fun h => ?_⟩
  · refine s_sipush (v := -1000) C (by decide) dX9_corrector_32 ?_
    exact s_iret C R h dX9_corrector_35
  · refine s_iload1 C dX9_corrector_8 ?_
    refine s_i2l C dX9_corrector_9 ?_
    refine s_lconst (v := 0) C (by decide) dX9_corrector_10 ?_
    refine s_ldc2 (v := 2) C k_946 dX9_corrector_11 ?_
    obtain ⟨r4, M3, hq, h⟩ := bI_e h
    refine s_callS (As := [.long (x1).toInt64, .long (0 : Int64), .long (2 : Int64)]) (v := some (.int r4)) C rfl (by omega) wX9_77 rfl (Nat.le_of_ble_eq_true rfl) dX9_corrector_14 (tX9_within C.2.2.2.2.2.2.1 (by omega)  hq) ?_
    refine s_if_eq (tgt := 32) C h dX9_corrector_17 (by decide) ⟨fun h => ?_, fun h => ?_⟩
    · refine s_sipush (v := -1000) C (by decide) dX9_corrector_32 ?_
      exact s_iret C R h dX9_corrector_35
    · refine s_iload2 C dX9_corrector_20 ?_
      refine s_i2l C dX9_corrector_21 ?_
      refine s_lconst (v := 0) C (by decide) dX9_corrector_22 ?_
      refine s_ldc2 (v := 15) C k_1027 dX9_corrector_23 ?_
      obtain ⟨r6, M5, hq, h⟩ := bI_e h
      refine s_callS (As := [.long (x2).toInt64, .long (0 : Int64), .long (15 : Int64)]) (v := some (.int r6)) C rfl (by omega) wX9_77 rfl (Nat.le_of_ble_eq_true rfl) dX9_corrector_26 (tX9_within C.2.2.2.2.2.2.1 (by omega)  hq) ?_
      refine s_if_ne (tgt := 36) C h dX9_corrector_29 (by decide) ⟨fun h => ?_, fun h => ?_⟩
      · refine s_aload0 C dX9_corrector_36 ?_
        refine s_iload3 C dX9_corrector_37 ?_
        obtain ⟨M7, hq, h⟩ := bV_e h
        refine s_callV (T := TX9) (As := [.int x3]) (v := none) C rfl ho (by decide) rfl (by omega) wX9_176 rfl (Nat.le_of_ble_eq_true rfl) dX9_corrector_38 (tX9_goTo C.2.2.2.2.2.2.1 (by omega) ho hq) ?_
        refine s_aload0 C dX9_corrector_41 ?_
        refine gX9_51 C ho dX9_corrector_42 ?_
        refine gX9_222 C (qX9_own ho) dX9_corrector_45 ?_
        refine gX9_290 C (qX1_corrector (qX9_own ho)) dX9_corrector_48 ?_
        refine s_bipush (v := 16) C (by decide) dX9_corrector_51 ?_
        refine s_iload1 C dX9_corrector_53 ?_
        refine s_imul C dX9_corrector_54 ?_
        refine s_iload2 C dX9_corrector_55 ?_
        refine s_iadd C dX9_corrector_56 ?_
        refine s_iald C (qX0_counts (qX1_corrector (qX9_own ho))) h dX9_corrector_57 (fun h => ?_)
        exact s_iret C R h dX9_corrector_58
      · refine s_sipush (v := -1000) C (by decide) dX9_corrector_32 ?_
        exact s_iret C R h dX9_corrector_35
set_option maxRecDepth 4000 in
theorem bX9_clash_137 {E : En} {X : Xc} {d : Nat} {r : Int32} {M M' : Mem} {o : Nat} {x1 : Int32} {x2 : Int32} {x4 : Int32} {x5 : Int32} (C : Cx E X d cX9_clash RX9 6) (R : Rt E X (some .int) (some (.int r)) M') (hd : 6 ≤ d) {k36 : Nat → Int32 → Int32 → Int32 → Int32 → Mem → Option (Int32 × Mem)} (hk36 : ∀ (o : Nat) (x1 : Int32) (x2 : Int32) (x4 : Int32) (x5 : Int32) (M : Mem) (_ : kd o = (9, 0)), k36 o x1 x2 x4 x5 M = some (r, M') → At E X 36 [some (.ref (ad E o)), some (.int x1), some (.int x2), none, some (.int x4), some (.int x5)] [] M) (ho : kd o = (9, 0)) (h : fX9_clash_137 k36 o x1 x2 x4 x5 M = some (r, M')) : At E X 137 [some (.ref (ad E o)), some (.int x1), some (.int x2), none, some (.int x4), some (.int x5)] [] M := by
  unfold fX9_clash_137 at h
  refine s_iinc5 (v := 1) C rfl dX9_clash_137 (by decide) ?_
  refine s_goto (tgt := 36) C dX9_clash_140 (by decide) ?_
  exact hk36 _ _ _ _ _ _ ho h
set_option maxRecDepth 4000 in
theorem bX9_clash_36 {E : En} {X : Xc} {d : Nat} {r : Int32} {M' : Mem} (C : Cx E X d cX9_clash RX9 6) (R : Rt E X (some .int) (some (.int r)) M') (hd : 6 ≤ d)   : ∀ (n : Nat) (o : Nat) (x1 : Int32) (x2 : Int32) (x4 : Int32) (x5 : Int32) (M : Mem) (_ : kd o = (9, 0)), fX9_clash_36  n o x1 x2 x4 x5 M = some (r, M') → At E X 36 [some (.ref (ad E o)), some (.int x1), some (.int x2), none, some (.int x4), some (.int x5)] [] M := by
  intro n
  induction n with
  | zero => intro o x1 x2 x4 x5 M ho h; rw [fX9_clash_36] at h; cases h
  | succ n ih =>
    intro o x1 x2 x4 x5 M ho h
    rw [fX9_clash_36] at h
    refine s_iload5 C dX9_clash_36 ?_
    refine s_aload0 C dX9_clash_38 ?_
    refine gX9_23 C ho dX9_clash_39 ?_
    refine gX9_171 C (qX9_told ho) dX9_clash_42 ?_
    refine s_ic_gt (tgt := 143) C h dX9_clash_45 (by decide) ⟨fun h => ?_, fun h => ?_⟩
    · refine s_iload4 C dX9_clash_143 ?_
      exact s_iret C R h dX9_clash_145
    · refine s_aload0 C dX9_clash_48 ?_
      refine gX9_51 C ho dX9_clash_49 ?_
      refine gX9_197 C (qX9_own ho) dX9_clash_52 ?_
      refine s_iload5 C dX9_clash_55 ?_
      refine s_iload1 C dX9_clash_57 ?_
      refine s_aload0 C dX9_clash_58 ?_
      refine gX9_51 C ho dX9_clash_59 ?_
      refine gX9_179 C (qX9_own ho) dX9_clash_62 ?_
      obtain ⟨r2, M1, hq, h⟩ := bI_e h
      refine s_callV (T := TX6) (As := [.int x5, .int x1, .long (M.2 (o + 41) 4)]) (v := some (.int r2)) C rfl (qX1_tables (qX9_own ho)) (by decide) rfl (by omega) wX9_200 rfl (Nat.le_of_ble_eq_true rfl) dX9_clash_65 (tX6_indexOf C.2.2.2.2.2.2.1 (by omega) (qX1_tables (qX9_own ho)) hq) ?_
      refine s_aload0 C dX9_clash_68 ?_
      refine gX9_51 C ho dX9_clash_69 ?_
      refine gX9_197 C (qX9_own ho) dX9_clash_72 ?_
      refine s_iload5 C dX9_clash_75 ?_
      refine s_iload2 C dX9_clash_77 ?_
      refine s_aload0 C dX9_clash_78 ?_
      refine gX9_51 C ho dX9_clash_79 ?_
      refine gX9_179 C (qX9_own ho) dX9_clash_82 ?_
      obtain ⟨r4, M3, hq, h⟩ := bI_e h
      refine s_callV (T := TX6) (As := [.int x5, .int x2, .long (M1.2 (o + 41) 4)]) (v := some (.int r4)) C rfl (qX1_tables (qX9_own ho)) (by decide) rfl (by omega) wX9_200 rfl (Nat.le_of_ble_eq_true rfl) dX9_clash_85 (tX6_indexOf C.2.2.2.2.2.2.1 (by omega) (qX1_tables (qX9_own ho)) hq) ?_
      refine s_ic_ne (tgt := 137) C h dX9_clash_88 (by decide) ⟨fun h => ?_, fun h => ?_⟩
      · exact bX9_clash_137 C R hd (ih) ho h
      · refine s_aload0 C dX9_clash_91 ?_
        refine gX9_51 C ho dX9_clash_92 ?_
        refine gX9_197 C (qX9_own ho) dX9_clash_95 ?_
        refine s_iload5 C dX9_clash_98 ?_
        refine s_iload1 C dX9_clash_100 ?_
        refine s_aload0 C dX9_clash_101 ?_
        refine gX9_51 C ho dX9_clash_102 ?_
        refine gX9_179 C (qX9_own ho) dX9_clash_105 ?_
        obtain ⟨r6, M5, hq, h⟩ := bI_e h
        refine s_callV (T := TX6) (As := [.int x5, .int x1, .long (M3.2 (o + 41) 4)]) (v := some (.int r6)) C rfl (qX1_tables (qX9_own ho)) (by decide) rfl (by omega) wX9_206 rfl (Nat.le_of_ble_eq_true rfl) dX9_clash_108 (tX6_tagOf C.2.2.2.2.2.2.1 (by omega) (qX1_tables (qX9_own ho)) hq) ?_
        refine s_aload0 C dX9_clash_111 ?_
        refine gX9_51 C ho dX9_clash_112 ?_
        refine gX9_197 C (qX9_own ho) dX9_clash_115 ?_
        refine s_iload5 C dX9_clash_118 ?_
        refine s_iload2 C dX9_clash_120 ?_
        refine s_aload0 C dX9_clash_121 ?_
        refine gX9_51 C ho dX9_clash_122 ?_
        refine gX9_179 C (qX9_own ho) dX9_clash_125 ?_
        obtain ⟨r8, M7, hq, h⟩ := bI_e h
        refine s_callV (T := TX6) (As := [.int x5, .int x2, .long (M5.2 (o + 41) 4)]) (v := some (.int r8)) C rfl (qX1_tables (qX9_own ho)) (by decide) rfl (by omega) wX9_206 rfl (Nat.le_of_ble_eq_true rfl) dX9_clash_128 (tX6_tagOf C.2.2.2.2.2.2.1 (by omega) (qX1_tables (qX9_own ho)) hq) ?_
        refine s_ic_ne (tgt := 137) C h dX9_clash_131 (by decide) ⟨fun h => ?_, fun h => ?_⟩
        · exact bX9_clash_137 C R hd (ih) ho h
        · refine s_iinc4 (v := 1) C rfl dX9_clash_134 (by decide) ?_
          exact bX9_clash_137 C R hd (ih) ho h
set_option maxRecDepth 4000 in
theorem tX9_clash {l : Launch} {E : En} {A : Nat → Prop} {d : Nat} {r : Int32} {M M' : Mem} {o : Nat} {x1 : Int32} {x2 : Int32} {x3 : Int32} (hE : Okk E A) (hd : 6 ≤ d) (ho : kd o = (9, 0)) (h : fX9_clash o x1 x2 x3 M = some (r, M')) : Ct l E A d yX9_clash cX9_clash 6 (some .int) [.ref (ad E o), .int x1, .int x2, .int x3] M (some (.int r)) M' := by
  refine Ct.mk (ls := [some (.ref (ad E o)), some (.int x1), some (.int x2), some (.int x3), none, none]) hE (by decide +kernel) rfl (Nat.le_of_ble_eq_true rfl) (fun X hXl hXA C R => ?_)
  subst hXl; subst hXA
  unfold fX9_clash at h
  refine s_aload0 C dX9_clash_0 ?_
  refine s_iload3 C dX9_clash_1 ?_
  obtain ⟨r2, M1, hq, h⟩ := bI_e h
  refine s_callV (T := TX9) (As := [.int x3]) (v := some (.int r2)) C rfl ho (by decide) rfl (by omega) wX9_144 rfl (Nat.le_of_ble_eq_true rfl) dX9_clash_2 (tX9_isMoment C.2.2.2.2.2.2.1 (by omega) ho hq) ?_
  refine s_if_eq (tgt := 22) C h dX9_clash_5 (by decide) ⟨fun h => ?_, fun h => ?_⟩
  · refine s_bipush (v := -2) C (by decide) dX9_clash_22 ?_
    exact s_iret C R h dX9_clash_24
  · refine s_iload1 C dX9_clash_8 ?_
    obtain ⟨r4, M3, hq, h⟩ := bI_e h
    refine s_callS (As := [.int x1]) (v := some (.int r4)) C rfl (by omega) wX9_150 rfl (Nat.le_of_ble_eq_true rfl) dX9_clash_9 (tX9_isAddress C.2.2.2.2.2.2.1 (by omega)  hq) ?_
    refine s_if_eq (tgt := 22) C h dX9_clash_12 (by decide) ⟨fun h => ?_, fun h => ?_⟩
    · refine s_bipush (v := -2) C (by decide) dX9_clash_22 ?_
      exact s_iret C R h dX9_clash_24
    · refine s_iload2 C dX9_clash_15 ?_
      obtain ⟨r6, M5, hq, h⟩ := bI_e h
      refine s_callS (As := [.int x2]) (v := some (.int r6)) C rfl (by omega) wX9_150 rfl (Nat.le_of_ble_eq_true rfl) dX9_clash_16 (tX9_isAddress C.2.2.2.2.2.2.1 (by omega)  hq) ?_
      refine s_if_ne (tgt := 25) C h dX9_clash_19 (by decide) ⟨fun h => ?_, fun h => ?_⟩
      · refine s_aload0 C dX9_clash_25 ?_
        refine s_iload3 C dX9_clash_26 ?_
        obtain ⟨M7, hq, h⟩ := bV_e h
        refine s_callV (T := TX9) (As := [.int x3]) (v := none) C rfl ho (by decide) rfl (by omega) wX9_176 rfl (Nat.le_of_ble_eq_true rfl) dX9_clash_27 (tX9_goTo C.2.2.2.2.2.2.1 (by omega) ho hq) ?_
        refine s_iconst (v := 0) C (by decide) dX9_clash_30 ?_
        refine s_istore4 C rfl dX9_clash_31 ?_
        refine s_iconst (v := 1) C (by decide) dX9_clash_33 ?_
        refine s_istore5 C rfl dX9_clash_34 ?_
        refine s_fg 3 ?_
        exact bX9_clash_36 C R hd  LF _ _ _ _ _ _ ho h
      · refine s_bipush (v := -2) C (by decide) dX9_clash_22 ?_
        exact s_iret C R h dX9_clash_24
set_option maxRecDepth 4000 in
theorem bX4_wander_49 {E : En} {X : Xc} {d : Nat} {r : Int32} {M' : Mem} (C : Cx E X d cX4_wander RX4 6) (R : Rt E X (some .int) (some (.int r)) M') (hd : 3 ≤ d)   : ∀ (n : Nat) (o : Nat) (o1 : Nat) (x4 : Int32) (x5 : Int32) (M : Mem) (_ : kd o = (4, 0)) (_ : kd o1 = (7, 0)), fX4_wander_49  n o o1 x4 x5 M = some (r, M') → At E X 49 [some (.ref (ad E o)), some (.ref (ad E o1)), none, none, some (.int x4), some (.int x5)] [] M := by
  intro n
  induction n with
  | zero => intro o o1 x4 x5 M ho ho1 h; rw [fX4_wander_49] at h; cases h
  | succ n ih =>
    intro o o1 x4 x5 M ho ho1 h
    rw [fX4_wander_49] at h
    refine s_iload5 C dX4_wander_49 ?_
    refine s_aload1 C dX4_wander_51 ?_
    refine gX4_74 C ho1 dX4_wander_52 ?_
    refine s_iconst (v := 4) C (by decide) dX4_wander_55 ?_
    refine s_iald C (qX7_head ho1) h dX4_wander_56 (fun h => ?_)
    refine s_ic_ge (tgt := 97) C h dX4_wander_57 (by decide) ⟨fun h => ?_, fun h => ?_⟩
    · refine s_iload5 C dX4_wander_97 ?_
      exact s_iret C R h dX4_wander_99
    · refine s_aload1 C dX4_wander_60 ?_
      refine s_iload4 C dX4_wander_61 ?_
      obtain ⟨r2, M1, hq, h⟩ := bI_e h
      refine s_callV (T := TX7) (As := [.int x4]) (v := some (.int r2)) C rfl ho1 (by decide) rfl (by omega) wX4_25 rfl (Nat.le_of_ble_eq_true rfl) dX4_wander_63 (tX7_canDo C.2.2.2.2.2.2.1 (by omega) ho1 hq) ?_
      refine s_if_eq (tgt := 97) C h dX4_wander_66 (by decide) ⟨fun h => ?_, fun h => ?_⟩
      · refine s_iload5 C dX4_wander_97 ?_
        exact s_iret C R h dX4_wander_99
      · refine s_aload1 C dX4_wander_69 ?_
        refine s_iload4 C dX4_wander_70 ?_
        obtain ⟨r4, M3, hq, h⟩ := bI_e h
        refine s_callV (T := TX7) (As := [.int x4]) (v := some (.int r4)) C rfl ho1 (by decide) rfl (by omega) wX4_55 rfl (Nat.le_of_ble_eq_true rfl) dX4_wander_72 (tX7_branches C.2.2.2.2.2.2.1 (by omega) ho1 hq) ?_
        refine s_if_ne (tgt := 97) C h dX4_wander_75 (by decide) ⟨fun h => ?_, fun h => ?_⟩
        · refine s_iload5 C dX4_wander_97 ?_
          exact s_iret C R h dX4_wander_99
        · refine s_aload1 C dX4_wander_78 ?_
          refine s_iload4 C dX4_wander_79 ?_
          refine s_aload0 C dX4_wander_81 ?_
          refine gX4_18 C ho dX4_wander_82 ?_
          refine s_iconst (v := 0) C (by decide) dX4_wander_85 ?_
          obtain ⟨r6, M5, hq, h⟩ := bI_e h
          refine s_callV (T := TX7) (As := [.int x4, .ref (ad E (o + 3)), .int (0 : Int32)]) (v := some (.int r6)) C rfl ho1 (by decide) rfl (by omega) wX4_66 rfl (Nat.le_of_ble_eq_true rfl) dX4_wander_86 (tX7_perform C.2.2.2.2.2.2.1 (by omega) ho1 (kd_any (qX4_strayed ho)) hq) ?_
          refine s_istore4 C rfl dX4_wander_89 ?_
          refine s_iinc5 (v := 1) C rfl dX4_wander_91 (by decide) ?_
          refine s_goto (tgt := 49) C dX4_wander_94 (by decide) ?_
          exact ih _ _ _ _ _ ho ho1 h
set_option maxRecDepth 4000 in
theorem bX4_wander_44 {E : En} {X : Xc} {d : Nat} {r : Int32} {M M' : Mem} {o : Nat} {o1 : Nat} {sx0 : Int32} (C : Cx E X d cX4_wander RX4 6) (R : Rt E X (some .int) (some (.int r)) M') (hd : 3 ≤ d)   (ho : kd o = (4, 0)) (ho1 : kd o1 = (7, 0)) (h : fX4_wander_44  o o1 sx0 M = some (r, M')) : At E X 44 [some (.ref (ad E o)), some (.ref (ad E o1)), none, none, none, none] [.int sx0] M := by
  unfold fX4_wander_44 at h
  refine s_istore4 C rfl dX4_wander_44 ?_
  refine s_iconst (v := 0) C (by decide) dX4_wander_46 ?_
  refine s_istore5 C rfl dX4_wander_47 ?_
  exact bX4_wander_49 C R hd  LF _ _ _ _ _ ho ho1 h
set_option maxRecDepth 4000 in
theorem tX4_wander {l : Launch} {E : En} {A : Nat → Prop} {d : Nat} {r : Int32} {M M' : Mem} {o : Nat} {o1 : Nat} {x2 : Int32} {x3 : Int32} (hE : Okk E A) (hd : 3 ≤ d) (ho : kd o = (4, 0)) (ho1 : kd o1 = (7, 0)) (h : fX4_wander o o1 x2 x3 M = some (r, M')) : Ct l E A d yX4_wander cX4_wander 6 (some .int) [.ref (ad E o), .ref (ad E o1), .int x2, .int x3] M (some (.int r)) M' := by
  refine Ct.mk (ls := [some (.ref (ad E o)), some (.ref (ad E o1)), some (.int x2), some (.int x3), none, none]) hE (by decide +kernel) rfl (Nat.le_of_ble_eq_true rfl) (fun X hXl hXA C R => ?_)
  subst hXl; subst hXA
  unfold fX4_wander at h
  refine s_aload0 C dX4_wander_0 ?_
  refine gX4_15 C ho dX4_wander_1 ?_
  refine s_bipush (v := 8) C (by decide) dX4_wander_4 ?_
  refine s_iload2 C dX4_wander_6 ?_
  refine s_imul C dX4_wander_7 ?_
  refine s_aload0 C dX4_wander_8 ?_
  refine gX4_18 C ho dX4_wander_9 ?_
  refine s_iconst (v := 0) C (by decide) dX4_wander_12 ?_
  refine s_bipush (v := 8) C (by decide) dX4_wander_13 ?_
  refine s_copy C rfl (by omega) wX4_49 (Nat.le_of_ble_eq_true rfl) (qX4_registers ho) (qX4_strayed ho) h dX4_wander_15 (fun h => ?_)
  refine s_iload3 C dX4_wander_18 ?_
  refine s_iconst (v := 1) C (by decide) dX4_wander_19 ?_
  refine s_ic_ne (tgt := 34) C h dX4_wander_20 (by decide) ⟨fun h => ?_, fun h => ?_⟩
  · refine s_aload1 C dX4_wander_34 ?_
    refine s_aload0 C dX4_wander_35 ?_
    refine gX4_9 C ho dX4_wander_36 ?_
    refine s_iload2 C dX4_wander_39 ?_
    refine s_iald C (qX4_nexts ho) h dX4_wander_40 (fun h => ?_)
    obtain ⟨r2, M1, hq, h⟩ := bI_e h
    refine s_callV (T := TX7) (As := [.int ((pC M (o + 2) (o + 3) (tn ((8 : Int32) * x2)) (tn (0 : Int32)) (tn (8 : Int32))).1 (o + 1) (tn x2))]) (v := some (.int r2)) C rfl ho1 (by decide) rfl (by omega) wX4_70 rfl (Nat.le_of_ble_eq_true rfl) dX4_wander_41 (tX7_target C.2.2.2.2.2.2.1 (by omega) ho1 hq) ?_
    refine s_fg 2 ?_
    refine s_fg 3 ?_
    exact bX4_wander_44 C R hd  ho ho1 h
  · refine s_aload0 C dX4_wander_23 ?_
    refine gX4_9 C ho dX4_wander_24 ?_
    refine s_iload2 C dX4_wander_27 ?_
    refine s_iald C (qX4_nexts ho) h dX4_wander_28 (fun h => ?_)
    refine s_iconst (v := 1) C (by decide) dX4_wander_29 ?_
    refine s_iadd C dX4_wander_30 ?_
    refine s_goto (tgt := 44) C dX4_wander_31 (by decide) ?_
    refine s_fg 2 ?_
    refine s_fg 3 ?_
    exact bX4_wander_44 C R hd  ho ho1 h
set_option maxRecDepth 4000 in
theorem tX9_wander {l : Launch} {E : En} {A : Nat → Prop} {d : Nat} {r : Int32} {M M' : Mem} {o : Nat} {x1 : Int32} (hE : Okk E A) (hd : 4 ≤ d) (ho : kd o = (9, 0)) (h : fX9_wander o x1 M = some (r, M')) : Ct l E A d yX9_wander cX9_wander 2 (some .int) [.ref (ad E o), .int x1] M (some (.int r)) M' := by
  refine Ct.mk (ls := [some (.ref (ad E o)), some (.int x1)]) hE (by decide +kernel) rfl (Nat.le_of_ble_eq_true rfl) (fun X hXl hXA C R => ?_)
  subst hXl; subst hXA
  unfold fX9_wander at h
  refine s_aload0 C dX9_wander_0 ?_
  refine gX9_37 C ho dX9_wander_1 ?_
  refine s_aload0 C dX9_wander_4 ?_
  refine gX9_23 C ho dX9_wander_5 ?_
  refine s_aload0 C dX9_wander_8 ?_
  refine gX9_44 C ho dX9_wander_9 ?_
  refine s_iload1 C dX9_wander_12 ?_
  refine s_bipush (v := 8) C (by decide) dX9_wander_13 ?_
  obtain ⟨r2, M1, hq, h⟩ := bI_e h
  refine s_callV (T := TX8) (As := [.int x1, .int (8 : Int32)]) (v := some (.int r2)) C rfl (qX9_trail ho) (by decide) rfl (by omega) wX9_140 rfl (Nat.le_of_ble_eq_true rfl) dX9_wander_15 (tX8_fact C.2.2.2.2.2.2.1 (by omega) (qX9_trail ho) hq) ?_
  refine s_aload0 C dX9_wander_18 ?_
  refine gX9_44 C ho dX9_wander_19 ?_
  refine s_iload1 C dX9_wander_22 ?_
  refine s_iconst (v := 1) C (by decide) dX9_wander_23 ?_
  obtain ⟨r4, M3, hq, h⟩ := bI_e h
  refine s_callV (T := TX8) (As := [.int x1, .int (1 : Int32)]) (v := some (.int r4)) C rfl (qX9_trail ho) (by decide) rfl (by omega) wX9_140 rfl (Nat.le_of_ble_eq_true rfl) dX9_wander_24 (tX8_fact C.2.2.2.2.2.2.1 (by omega) (qX9_trail ho) hq) ?_
  obtain ⟨r6, M5, hq, h⟩ := bI_e h
  refine s_callV (T := TX4) (As := [.ref (ad E (o + 9)), .int r2, .int r4]) (v := some (.int r6)) C rfl (qX9_run ho) (by decide) rfl (by omega) wX9_417 rfl (Nat.le_of_ble_eq_true rfl) dX9_wander_27 (tX4_wander C.2.2.2.2.2.2.1 (by omega) (qX9_run ho) (qX9_told ho) hq) ?_
  exact s_iret C R h dX9_wander_30
set_option maxRecDepth 4000 in
theorem tX9_strays {l : Launch} {E : En} {A : Nat → Prop} {d : Nat} {r : Int32} {M M' : Mem} {o : Nat} {x1 : Int32} (hE : Okk E A) (hd : 5 ≤ d) (ho : kd o = (9, 0)) (h : fX9_strays o x1 M = some (r, M')) : Ct l E A d yX9_strays cX9_strays 2 (some .int) [.ref (ad E o), .int x1] M (some (.int r)) M' := by
  refine Ct.mk (ls := [some (.ref (ad E o)), some (.int x1)]) hE (by decide +kernel) rfl (Nat.le_of_ble_eq_true rfl) (fun X hXl hXA C R => ?_)
  subst hXl; subst hXA
  unfold fX9_strays at h
  refine s_iload1 C dX9_strays_0 ?_
  refine s_i2l C dX9_strays_1 ?_
  refine s_lconst (v := 0) C (by decide) dX9_strays_2 ?_
  refine s_aload0 C dX9_strays_3 ?_
  refine gX9_44 C ho dX9_strays_4 ?_
  refine gX9_291 C (qX9_trail ho) dX9_strays_7 ?_
  refine s_iconst (v := 1) C (by decide) dX9_strays_10 ?_
  refine s_isub C dX9_strays_11 ?_
  refine s_i2l C dX9_strays_12 ?_
  obtain ⟨r2, M1, hq, h⟩ := bI_e h
  refine s_callS (As := [.long (x1).toInt64, .long (0 : Int64), .long (((M.1 (o + 39) 2) - (1 : Int32))).toInt64]) (v := some (.int r2)) C rfl (by omega) wX9_77 rfl (Nat.le_of_ble_eq_true rfl) dX9_strays_13 (tX9_within C.2.2.2.2.2.2.1 (by omega)  hq) ?_
  refine s_if_ne (tgt := 22) C h dX9_strays_16 (by decide) ⟨fun h => ?_, fun h => ?_⟩
  · refine s_aload0 C dX9_strays_22 ?_
    refine gX9_44 C ho dX9_strays_23 ?_
    refine s_iload1 C dX9_strays_26 ?_
    obtain ⟨r4, M3, hq, h⟩ := bI_e h
    refine s_callV (T := TX8) (As := [.int x1]) (v := some (.int r4)) C rfl (qX9_trail ho) (by decide) rfl (by omega) wX9_147 rfl (Nat.le_of_ble_eq_true rfl) dX9_strays_27 (tX8_isWrong C.2.2.2.2.2.2.1 (by omega) (qX9_trail ho) hq) ?_
    refine s_if_eq (tgt := 41) C h dX9_strays_30 (by decide) ⟨fun h => ?_, fun h => ?_⟩
    · refine s_iconst (v := 0) C (by decide) dX9_strays_41 ?_
      exact s_iret C R h dX9_strays_42
    · refine s_aload0 C dX9_strays_33 ?_
      refine s_iload1 C dX9_strays_34 ?_
      obtain ⟨r6, M5, hq, h⟩ := bI_e h
      refine s_callV (T := TX9) (As := [.int x1]) (v := some (.int r6)) C rfl ho (by decide) rfl (by omega) wX9_294 rfl (Nat.le_of_ble_eq_true rfl) dX9_strays_35 (tX9_wander C.2.2.2.2.2.2.1 (by omega) ho hq) ?_
      refine s_goto (tgt := 42) C dX9_strays_38 (by decide) ?_
      exact s_iret C R h dX9_strays_42
  · refine s_bipush (v := -2) C (by decide) dX9_strays_19 ?_
    exact s_iret C R h dX9_strays_21
set_option maxRecDepth 4000 in
theorem tX9_stray {l : Launch} {E : En} {A : Nat → Prop} {d : Nat} {r : Int32} {M M' : Mem} {o : Nat} {x1 : Int32} {x2 : Int32} (hE : Okk E A) (hd : 5 ≤ d) (ho : kd o = (9, 0)) (h : fX9_stray o x1 x2 M = some (r, M')) : Ct l E A d yX9_stray cX9_stray 3 (some .int) [.ref (ad E o), .int x1, .int x2] M (some (.int r)) M' := by
  refine Ct.mk (ls := [some (.ref (ad E o)), some (.int x1), some (.int x2)]) hE (by decide +kernel) rfl (Nat.le_of_ble_eq_true rfl) (fun X hXl hXA C R => ?_)
  subst hXl; subst hXA
  unfold fX9_stray at h
  refine s_iload1 C dX9_stray_0 ?_
  refine s_i2l C dX9_stray_1 ?_
  refine s_lconst (v := 0) C (by decide) dX9_stray_2 ?_
  refine s_aload0 C dX9_stray_3 ?_
  refine gX9_44 C ho dX9_stray_4 ?_
  refine gX9_291 C (qX9_trail ho) dX9_stray_7 ?_
  refine s_iconst (v := 1) C (by decide) dX9_stray_10 ?_
  refine s_isub C dX9_stray_11 ?_
  refine s_i2l C dX9_stray_12 ?_
  obtain ⟨r2, M1, hq, h⟩ := bI_e h
  refine s_callS (As := [.long (x1).toInt64, .long (0 : Int64), .long (((M.1 (o + 39) 2) - (1 : Int32))).toInt64]) (v := some (.int r2)) C rfl (by omega) wX9_77 rfl (Nat.le_of_ble_eq_true rfl) dX9_stray_13 (tX9_within C.2.2.2.2.2.2.1 (by omega)  hq) ?_
  refine s_if_eq (tgt := 26) C h dX9_stray_16 (by decide) ⟨fun h => ?_, fun h => ?_⟩
  · refine s_bipush (v := -2) C (by decide) dX9_stray_26 ?_
    exact s_iret C R h dX9_stray_28
  · refine s_iload2 C dX9_stray_19 ?_
    obtain ⟨r4, M3, hq, h⟩ := bI_e h
    refine s_callS (As := [.int x2]) (v := some (.int r4)) C rfl (by omega) wX9_129 rfl (Nat.le_of_ble_eq_true rfl) dX9_stray_20 (tX9_isRegister C.2.2.2.2.2.2.1 (by omega)  hq) ?_
    refine s_if_ne (tgt := 29) C h dX9_stray_23 (by decide) ⟨fun h => ?_, fun h => ?_⟩
    · refine s_aload0 C dX9_stray_29 ?_
      refine gX9_44 C ho dX9_stray_30 ?_
      refine s_iload1 C dX9_stray_33 ?_
      obtain ⟨r6, M5, hq, h⟩ := bI_e h
      refine s_callV (T := TX8) (As := [.int x1]) (v := some (.int r6)) C rfl (qX9_trail ho) (by decide) rfl (by omega) wX9_147 rfl (Nat.le_of_ble_eq_true rfl) dX9_stray_34 (tX8_isWrong C.2.2.2.2.2.2.1 (by omega) (qX9_trail ho) hq) ?_
      refine s_if_ne (tgt := 42) C h dX9_stray_37 (by decide) ⟨fun h => ?_, fun h => ?_⟩
      · refine s_aload0 C dX9_stray_42 ?_
        refine s_iload1 C dX9_stray_43 ?_
        obtain ⟨r8, M7, hq, h⟩ := bI_e h
        refine s_callV (T := TX9) (As := [.int x1]) (v := some (.int r8)) C rfl ho (by decide) rfl (by omega) wX9_294 rfl (Nat.le_of_ble_eq_true rfl) dX9_stray_44 (tX9_wander C.2.2.2.2.2.2.1 (by omega) ho hq) ?_
        refine s_pop C rfl dX9_stray_47 ?_
        refine s_aload0 C dX9_stray_48 ?_
        refine gX9_37 C ho dX9_stray_49 ?_
        refine gX9_297 C (qX9_run ho) dX9_stray_52 ?_
        refine s_iload2 C dX9_stray_55 ?_
        refine s_iald C (qX4_strayed (qX9_run ho)) h dX9_stray_56 (fun h => ?_)
        exact s_iret C R h dX9_stray_57
      · refine s_iconst (v := -1) C (by decide) dX9_stray_40 ?_
        exact s_iret C R h dX9_stray_41
    · refine s_bipush (v := -2) C (by decide) dX9_stray_26 ?_
      exact s_iret C R h dX9_stray_28
set_option maxRecDepth 4000 in
theorem tX9_setRivalBy {l : Launch} {E : En} {A : Nat → Prop} {d : Nat} {M M' : Mem} {o : Nat} {x1 : Int32} (hE : Okk E A) (hd : 4 ≤ d) (ho : kd o = (9, 0)) (h : fX9_setRivalBy o x1 M = some M') : Ct l E A d yX9_setRivalBy cX9_setRivalBy 2 none [.ref (ad E o), .int x1] M none M' := by
  refine Ct.mk (ls := [some (.ref (ad E o)), some (.int x1)]) hE (by decide +kernel) rfl (Nat.le_of_ble_eq_true rfl) (fun X hXl hXA C R => ?_)
  subst hXl; subst hXA
  unfold fX9_setRivalBy at h
  refine s_aload0 C dX9_setRivalBy_0 ?_
  refine gX9_55 C ho dX9_setRivalBy_1 ?_
  refine s_aload0 C dX9_setRivalBy_4 ?_
  refine gX9_23 C ho dX9_setRivalBy_5 ?_
  obtain ⟨M1, hq, h⟩ := bV_e h
  refine s_callV (T := TX1) (As := [.ref (ad E (o + 9))]) (v := none) C rfl (qX9_rival ho) (by decide) rfl (by omega) wX9_350 rfl (Nat.le_of_ble_eq_true rfl) dX9_setRivalBy_8 (tX1_setAs C.2.2.2.2.2.2.1 (by omega) (qX9_rival ho) (qX9_told ho) hq) ?_
  refine s_aload0 C dX9_setRivalBy_11 ?_
  refine gX9_55 C ho dX9_setRivalBy_12 ?_
  refine s_iload1 C dX9_setRivalBy_15 ?_
  refine pX9_420 C (qX9_rival ho) dX9_setRivalBy_16 ?_
  exact s_vret C R h dX9_setRivalBy_19
set_option maxRecDepth 4000 in
theorem bX9_costBy_72 {E : En} {X : Xc} {d : Nat} {r : Int32} {M M' : Mem} {o : Nat} {x2 : Int32} {x3 : Int32} (C : Cx E X d cX9_costBy RX9 4) (R : Rt E X (some .int) (some (.int r)) M') (hd : 5 ≤ d) {k15 : Nat → Int32 → Int32 → Mem → Option (Int32 × Mem)} (hk15 : ∀ (o : Nat) (x2 : Int32) (x3 : Int32) (M : Mem) (_ : kd o = (9, 0)), k15 o x2 x3 M = some (r, M') → At E X 15 [some (.ref (ad E o)), none, some (.int x2), some (.int x3)] [] M) (ho : kd o = (9, 0)) (h : fX9_costBy_72 k15 o x2 x3 M = some (r, M')) : At E X 72 [some (.ref (ad E o)), none, some (.int x2), some (.int x3)] [] M := by
  unfold fX9_costBy_72 at h
  refine s_aload0 C dX9_costBy_72 ?_
  refine gX9_55 C ho dX9_costBy_73 ?_
  refine s_aload0 C dX9_costBy_76 ?_
  refine gX9_44 C ho dX9_costBy_77 ?_
  refine s_iload3 C dX9_costBy_80 ?_
  refine s_iconst (v := 1) C (by decide) dX9_costBy_81 ?_
  obtain ⟨r2, M1, hq, h⟩ := bI_e h
  refine s_callV (T := TX8) (As := [.int x3, .int (1 : Int32)]) (v := some (.int r2)) C rfl (qX9_trail ho) (by decide) rfl (by omega) wX9_140 rfl (Nat.le_of_ble_eq_true rfl) dX9_costBy_82 (tX8_fact C.2.2.2.2.2.2.1 (by omega) (qX9_trail ho) hq) ?_
  obtain ⟨M3, hq, h⟩ := bV_e h
  refine s_callV (T := TX1) (As := [.int r2]) (v := none) C rfl (qX9_rival ho) (by decide) rfl (by omega) wX9_361 rfl (Nat.le_of_ble_eq_true rfl) dX9_costBy_85 (tX1_learn C.2.2.2.2.2.2.1 (by omega) (qX9_rival ho) hq) ?_
  refine s_iinc3 (v := 1) C rfl dX9_costBy_88 (by decide) ?_
  refine s_goto (tgt := 15) C dX9_costBy_91 (by decide) ?_
  exact hk15 _ _ _ _ ho h
set_option maxRecDepth 4000 in
theorem bX9_costBy_15 {E : En} {X : Xc} {d : Nat} {r : Int32} {M' : Mem} (C : Cx E X d cX9_costBy RX9 4) (R : Rt E X (some .int) (some (.int r)) M') (hd : 5 ≤ d)   : ∀ (n : Nat) (o : Nat) (x2 : Int32) (x3 : Int32) (M : Mem) (_ : kd o = (9, 0)), fX9_costBy_15  n o x2 x3 M = some (r, M') → At E X 15 [some (.ref (ad E o)), none, some (.int x2), some (.int x3)] [] M := by
  intro n
  induction n with
  | zero => intro o x2 x3 M ho h; rw [fX9_costBy_15] at h; cases h
  | succ n ih =>
    intro o x2 x3 M ho h
    rw [fX9_costBy_15] at h
    refine s_iload3 C dX9_costBy_15 ?_
    refine s_aload0 C dX9_costBy_16 ?_
    refine gX9_44 C ho dX9_costBy_17 ?_
    refine gX9_291 C (qX9_trail ho) dX9_costBy_20 ?_
    refine s_ic_ge (tgt := 94) C h dX9_costBy_23 (by decide) ⟨fun h => ?_, fun h => ?_⟩
    · refine s_iload2 C dX9_costBy_94 ?_
      exact s_iret C R h dX9_costBy_95
    · refine s_aload0 C dX9_costBy_26 ?_
      refine gX9_55 C ho dX9_costBy_27 ?_
      refine s_aload0 C dX9_costBy_30 ?_
      refine gX9_44 C ho dX9_costBy_31 ?_
      refine s_iload3 C dX9_costBy_34 ?_
      refine s_iconst (v := 0) C (by decide) dX9_costBy_35 ?_
      obtain ⟨r2, M1, hq, h⟩ := bI_e h
      refine s_callV (T := TX8) (As := [.int x3, .int (0 : Int32)]) (v := some (.int r2)) C rfl (qX9_trail ho) (by decide) rfl (by omega) wX9_140 rfl (Nat.le_of_ble_eq_true rfl) dX9_costBy_36 (tX8_fact C.2.2.2.2.2.2.1 (by omega) (qX9_trail ho) hq) ?_
      obtain ⟨r4, M3, hq, h⟩ := bI_e h
      refine s_callV (T := TX1) (As := [.int r2]) (v := some (.int r4)) C rfl (qX9_rival ho) (by decide) rfl (by omega) wX9_358 rfl (Nat.le_of_ble_eq_true rfl) dX9_costBy_39 (tX1_ask C.2.2.2.2.2.2.1 (by omega) (qX9_rival ho) hq) ?_
      refine s_aload0 C dX9_costBy_42 ?_
      refine gX9_44 C ho dX9_costBy_43 ?_
      refine s_iload3 C dX9_costBy_46 ?_
      refine s_iconst (v := 1) C (by decide) dX9_costBy_47 ?_
      obtain ⟨r6, M5, hq, h⟩ := bI_e h
      refine s_callV (T := TX8) (As := [.int x3, .int (1 : Int32)]) (v := some (.int r6)) C rfl (qX9_trail ho) (by decide) rfl (by omega) wX9_140 rfl (Nat.le_of_ble_eq_true rfl) dX9_costBy_48 (tX8_fact C.2.2.2.2.2.2.1 (by omega) (qX9_trail ho) hq) ?_
      refine s_ic_eq (tgt := 72) C h dX9_costBy_51 (by decide) ⟨fun h => ?_, fun h => ?_⟩
      · exact bX9_costBy_72 C R hd (ih) ho h
      · refine s_iload2 C dX9_costBy_54 ?_
        refine s_aload0 C dX9_costBy_55 ?_
        refine gX9_23 C ho dX9_costBy_56 ?_
        refine gX9_231 C (qX9_told ho) dX9_costBy_59 ?_
        refine s_iconst (v := 3) C (by decide) dX9_costBy_62 ?_
        refine s_iald C (qX7_head (qX9_told ho)) h dX9_costBy_63 (fun h => ?_)
        refine s_aload0 C dX9_costBy_64 ?_
        refine s_iload3 C dX9_costBy_65 ?_
        obtain ⟨r8, M7, hq, h⟩ := bI_e h
        refine s_callV (T := TX9) (As := [.int x3]) (v := some (.int r8)) C rfl ho (by decide) rfl (by omega) wX9_294 rfl (Nat.le_of_ble_eq_true rfl) dX9_costBy_66 (tX9_wander C.2.2.2.2.2.2.1 (by omega) ho hq) ?_
        refine s_iadd C dX9_costBy_69 ?_
        refine s_iadd C dX9_costBy_70 ?_
        refine s_istore2 C rfl dX9_costBy_71 ?_
        exact bX9_costBy_72 C R hd (ih) ho h
set_option maxRecDepth 4000 in
theorem tX9_costBy {l : Launch} {E : En} {A : Nat → Prop} {d : Nat} {r : Int32} {M M' : Mem} {o : Nat} {x1 : Int32} (hE : Okk E A) (hd : 5 ≤ d) (ho : kd o = (9, 0)) (h : fX9_costBy o x1 M = some (r, M')) : Ct l E A d yX9_costBy cX9_costBy 4 (some .int) [.ref (ad E o), .int x1] M (some (.int r)) M' := by
  refine Ct.mk (ls := [some (.ref (ad E o)), some (.int x1), none, none]) hE (by decide +kernel) rfl (Nat.le_of_ble_eq_true rfl) (fun X hXl hXA C R => ?_)
  subst hXl; subst hXA
  unfold fX9_costBy at h
  refine s_aload0 C dX9_costBy_0 ?_
  refine s_iload1 C dX9_costBy_1 ?_
  obtain ⟨M1, hq, h⟩ := bV_e h
  refine s_callV (T := TX9) (As := [.int x1]) (v := none) C rfl ho (by decide) rfl (by omega) wX9_306 rfl (Nat.le_of_ble_eq_true rfl) dX9_costBy_2 (tX9_setRivalBy C.2.2.2.2.2.2.1 (by omega) ho hq) ?_
  refine s_aload0 C dX9_costBy_5 ?_
  refine gX9_37 C ho dX9_costBy_6 ?_
  refine gX9_117 C (qX9_run ho) dX9_costBy_9 ?_
  refine s_istore2 C rfl dX9_costBy_12 ?_
  refine s_iconst (v := 0) C (by decide) dX9_costBy_13 ?_
  refine s_istore3 C rfl dX9_costBy_14 ?_
  refine s_fg 1 ?_
  exact bX9_costBy_15 C R hd  LF _ _ _ _ ho h
set_option maxRecDepth 4000 in
theorem tX9_cycles {l : Launch} {E : En} {A : Nat → Prop} {d : Nat} {r : Int32} {M M' : Mem} {o : Nat} (hE : Okk E A) (hd : 6 ≤ d) (ho : kd o = (9, 0)) (h : fX9_cycles o M = some (r, M')) : Ct l E A d yX9_cycles cX9_cycles 1 (some .int) [.ref (ad E o)] M (some (.int r)) M' := by
  refine Ct.mk (ls := [some (.ref (ad E o))]) hE (by decide +kernel) rfl (Nat.le_of_ble_eq_true rfl) (fun X hXl hXA C R => ?_)
  subst hXl; subst hXA
  unfold fX9_cycles at h
  refine s_aload0 C dX9_cycles_0 ?_
  obtain ⟨r2, M1, hq, h⟩ := bI_e h
  refine s_callV (T := TX9) (As := []) (v := some (.int r2)) C rfl ho (by decide) rfl (by omega) wX9_113 rfl (Nat.le_of_ble_eq_true rfl) dX9_cycles_1 (tX9_isTold C.2.2.2.2.2.2.1 (by omega) ho hq) ?_
  refine s_if_eq (tgt := 23) C h dX9_cycles_4 (by decide) ⟨fun h => ?_, fun h => ?_⟩
  · refine s_bipush (v := -2) C (by decide) dX9_cycles_23 ?_
    exact s_iret C R h dX9_cycles_25
  · refine s_aload0 C dX9_cycles_7 ?_
    refine s_aload0 C dX9_cycles_8 ?_
    refine gX9_23 C ho dX9_cycles_9 ?_
    refine gX9_231 C (qX9_told ho) dX9_cycles_12 ?_
    refine s_iconst (v := 5) C (by decide) dX9_cycles_15 ?_
    refine s_iald C (qX7_head (qX9_told ho)) h dX9_cycles_16 (fun h => ?_)
    obtain ⟨r4, M3, hq, h⟩ := bI_e h
    refine s_callV (T := TX9) (As := [.int (M1.1 ((o + 9) + 1) (tn (5 : Int32)))]) (v := some (.int r4)) C rfl ho (by decide) rfl (by omega) wX9_300 rfl (Nat.le_of_ble_eq_true rfl) dX9_cycles_17 (tX9_costBy C.2.2.2.2.2.2.1 (by omega) ho hq) ?_
    refine s_goto (tgt := 25) C dX9_cycles_20 (by decide) ?_
    exact s_iret C R h dX9_cycles_25
set_option maxRecDepth 4000 in
theorem bX9_cheapest_18 {E : En} {X : Xc} {d : Nat} {r : Int32} {M' : Mem} (C : Cx E X d cX9_cheapest RX9 3) (R : Rt E X (some .int) (some (.int r)) M') (hd : 6 ≤ d)   : ∀ (n : Nat) (o : Nat) (x1 : Int32) (x2 : Int32) (M : Mem) (_ : kd o = (9, 0)), fX9_cheapest_18  n o x1 x2 M = some (r, M') → At E X 18 [some (.ref (ad E o)), some (.int x1), some (.int x2)] [] M := by
  intro n
  induction n with
  | zero => intro o x1 x2 M ho h; rw [fX9_cheapest_18] at h; cases h
  | succ n ih =>
    intro o x1 x2 M ho h
    rw [fX9_cheapest_18] at h
    refine s_iload2 C dX9_cheapest_18 ?_
    refine s_bipush (v := 8) C (by decide) dX9_cheapest_19 ?_
    refine s_ic_ge (tgt := 40) C h dX9_cheapest_21 (by decide) ⟨fun h => ?_, fun h => ?_⟩
    · refine s_iload1 C dX9_cheapest_40 ?_
      exact s_iret C R h dX9_cheapest_41
    · refine s_iload1 C dX9_cheapest_24 ?_
      refine s_aload0 C dX9_cheapest_25 ?_
      refine s_iload2 C dX9_cheapest_26 ?_
      obtain ⟨r2, M1, hq, h⟩ := bI_e h
      refine s_callV (T := TX9) (As := [.int x2]) (v := some (.int r2)) C rfl ho (by decide) rfl (by omega) wX9_300 rfl (Nat.le_of_ble_eq_true rfl) dX9_cheapest_27 (tX9_costBy C.2.2.2.2.2.2.1 (by omega) ho hq) ?_
      refine s_min C rfl (by omega) wX9_303 (Nat.le_of_ble_eq_true rfl) dX9_cheapest_30 ?_
      refine s_istore1 C rfl dX9_cheapest_33 ?_
      refine s_iinc2 (v := 1) C rfl dX9_cheapest_34 (by decide) ?_
      refine s_goto (tgt := 18) C dX9_cheapest_37 (by decide) ?_
      exact ih _ _ _ _ ho h
set_option maxRecDepth 4000 in
theorem tX9_cheapest {l : Launch} {E : En} {A : Nat → Prop} {d : Nat} {r : Int32} {M M' : Mem} {o : Nat} (hE : Okk E A) (hd : 6 ≤ d) (ho : kd o = (9, 0)) (h : fX9_cheapest o M = some (r, M')) : Ct l E A d yX9_cheapest cX9_cheapest 3 (some .int) [.ref (ad E o)] M (some (.int r)) M' := by
  refine Ct.mk (ls := [some (.ref (ad E o)), none, none]) hE (by decide +kernel) rfl (Nat.le_of_ble_eq_true rfl) (fun X hXl hXA C R => ?_)
  subst hXl; subst hXA
  unfold fX9_cheapest at h
  refine s_aload0 C dX9_cheapest_0 ?_
  obtain ⟨r2, M1, hq, h⟩ := bI_e h
  refine s_callV (T := TX9) (As := []) (v := some (.int r2)) C rfl ho (by decide) rfl (by omega) wX9_113 rfl (Nat.le_of_ble_eq_true rfl) dX9_cheapest_1 (tX9_isTold C.2.2.2.2.2.2.1 (by omega) ho hq) ?_
  refine s_if_ne (tgt := 10) C h dX9_cheapest_4 (by decide) ⟨fun h => ?_, fun h => ?_⟩
  · refine s_aload0 C dX9_cheapest_10 ?_
    refine s_iconst (v := 0) C (by decide) dX9_cheapest_11 ?_
    obtain ⟨r4, M3, hq, h⟩ := bI_e h
    refine s_callV (T := TX9) (As := [.int (0 : Int32)]) (v := some (.int r4)) C rfl ho (by decide) rfl (by omega) wX9_300 rfl (Nat.le_of_ble_eq_true rfl) dX9_cheapest_12 (tX9_costBy C.2.2.2.2.2.2.1 (by omega) ho hq) ?_
    refine s_istore1 C rfl dX9_cheapest_15 ?_
    refine s_iconst (v := 1) C (by decide) dX9_cheapest_16 ?_
    refine s_istore2 C rfl dX9_cheapest_17 ?_
    exact bX9_cheapest_18 C R hd  LF _ _ _ _ ho h
  · refine s_bipush (v := -2) C (by decide) dX9_cheapest_7 ?_
    exact s_iret C R h dX9_cheapest_9
set_option maxRecDepth 4000 in
theorem bX9_rivalWrongs_46 {E : En} {X : Xc} {d : Nat} {r : Int32} {M M' : Mem} {o : Nat} {x1 : Int32} {x2 : Int32} (C : Cx E X d cX9_rivalWrongs RX9 3) (R : Rt E X (some .int) (some (.int r)) M') (hd : 5 ≤ d) {k4 : Nat → Int32 → Int32 → Mem → Option (Int32 × Mem)} (hk4 : ∀ (o : Nat) (x1 : Int32) (x2 : Int32) (M : Mem) (_ : kd o = (9, 0)), k4 o x1 x2 M = some (r, M') → At E X 4 [some (.ref (ad E o)), some (.int x1), some (.int x2)] [] M) (ho : kd o = (9, 0)) (h : fX9_rivalWrongs_46 k4 o x1 x2 M = some (r, M')) : At E X 46 [some (.ref (ad E o)), some (.int x1), some (.int x2)] [] M := by
  unfold fX9_rivalWrongs_46 at h
  refine s_aload0 C dX9_rivalWrongs_46 ?_
  refine gX9_55 C ho dX9_rivalWrongs_47 ?_
  refine s_aload0 C dX9_rivalWrongs_50 ?_
  refine gX9_44 C ho dX9_rivalWrongs_51 ?_
  refine s_iload2 C dX9_rivalWrongs_54 ?_
  refine s_iconst (v := 1) C (by decide) dX9_rivalWrongs_55 ?_
  obtain ⟨r2, M1, hq, h⟩ := bI_e h
  refine s_callV (T := TX8) (As := [.int x2, .int (1 : Int32)]) (v := some (.int r2)) C rfl (qX9_trail ho) (by decide) rfl (by omega) wX9_140 rfl (Nat.le_of_ble_eq_true rfl) dX9_rivalWrongs_56 (tX8_fact C.2.2.2.2.2.2.1 (by omega) (qX9_trail ho) hq) ?_
  obtain ⟨M3, hq, h⟩ := bV_e h
  refine s_callV (T := TX1) (As := [.int r2]) (v := none) C rfl (qX9_rival ho) (by decide) rfl (by omega) wX9_361 rfl (Nat.le_of_ble_eq_true rfl) dX9_rivalWrongs_59 (tX1_learn C.2.2.2.2.2.2.1 (by omega) (qX9_rival ho) hq) ?_
  refine s_iinc2 (v := 1) C rfl dX9_rivalWrongs_62 (by decide) ?_
  refine s_goto (tgt := 4) C dX9_rivalWrongs_65 (by decide) ?_
  exact hk4 _ _ _ _ ho h
set_option maxRecDepth 4000 in
theorem bX9_rivalWrongs_4 {E : En} {X : Xc} {d : Nat} {r : Int32} {M' : Mem} (C : Cx E X d cX9_rivalWrongs RX9 3) (R : Rt E X (some .int) (some (.int r)) M') (hd : 5 ≤ d)   : ∀ (n : Nat) (o : Nat) (x1 : Int32) (x2 : Int32) (M : Mem) (_ : kd o = (9, 0)), fX9_rivalWrongs_4  n o x1 x2 M = some (r, M') → At E X 4 [some (.ref (ad E o)), some (.int x1), some (.int x2)] [] M := by
  intro n
  induction n with
  | zero => intro o x1 x2 M ho h; rw [fX9_rivalWrongs_4] at h; cases h
  | succ n ih =>
    intro o x1 x2 M ho h
    rw [fX9_rivalWrongs_4] at h
    refine s_iload2 C dX9_rivalWrongs_4 ?_
    refine s_aload0 C dX9_rivalWrongs_5 ?_
    refine gX9_44 C ho dX9_rivalWrongs_6 ?_
    refine gX9_157 C (qX9_trail ho) dX9_rivalWrongs_9 ?_
    refine s_ic_ge (tgt := 68) C h dX9_rivalWrongs_12 (by decide) ⟨fun h => ?_, fun h => ?_⟩
    · refine s_iload1 C dX9_rivalWrongs_68 ?_
      exact s_iret C R h dX9_rivalWrongs_69
    · refine s_aload0 C dX9_rivalWrongs_15 ?_
      refine gX9_55 C ho dX9_rivalWrongs_16 ?_
      refine s_aload0 C dX9_rivalWrongs_19 ?_
      refine gX9_44 C ho dX9_rivalWrongs_20 ?_
      refine s_iload2 C dX9_rivalWrongs_23 ?_
      refine s_iconst (v := 0) C (by decide) dX9_rivalWrongs_24 ?_
      obtain ⟨r2, M1, hq, h⟩ := bI_e h
      refine s_callV (T := TX8) (As := [.int x2, .int (0 : Int32)]) (v := some (.int r2)) C rfl (qX9_trail ho) (by decide) rfl (by omega) wX9_140 rfl (Nat.le_of_ble_eq_true rfl) dX9_rivalWrongs_25 (tX8_fact C.2.2.2.2.2.2.1 (by omega) (qX9_trail ho) hq) ?_
      obtain ⟨r4, M3, hq, h⟩ := bI_e h
      refine s_callV (T := TX1) (As := [.int r2]) (v := some (.int r4)) C rfl (qX9_rival ho) (by decide) rfl (by omega) wX9_358 rfl (Nat.le_of_ble_eq_true rfl) dX9_rivalWrongs_28 (tX1_ask C.2.2.2.2.2.2.1 (by omega) (qX9_rival ho) hq) ?_
      refine s_aload0 C dX9_rivalWrongs_31 ?_
      refine gX9_44 C ho dX9_rivalWrongs_32 ?_
      refine s_iload2 C dX9_rivalWrongs_35 ?_
      refine s_iconst (v := 1) C (by decide) dX9_rivalWrongs_36 ?_
      obtain ⟨r6, M5, hq, h⟩ := bI_e h
      refine s_callV (T := TX8) (As := [.int x2, .int (1 : Int32)]) (v := some (.int r6)) C rfl (qX9_trail ho) (by decide) rfl (by omega) wX9_140 rfl (Nat.le_of_ble_eq_true rfl) dX9_rivalWrongs_37 (tX8_fact C.2.2.2.2.2.2.1 (by omega) (qX9_trail ho) hq) ?_
      refine s_ic_eq (tgt := 46) C h dX9_rivalWrongs_40 (by decide) ⟨fun h => ?_, fun h => ?_⟩
      · exact bX9_rivalWrongs_46 C R hd (ih) ho h
      · refine s_iinc1 (v := 1) C rfl dX9_rivalWrongs_43 (by decide) ?_
        exact bX9_rivalWrongs_46 C R hd (ih) ho h
set_option maxRecDepth 4000 in
theorem tX9_rivalWrongs {l : Launch} {E : En} {A : Nat → Prop} {d : Nat} {r : Int32} {M M' : Mem} {o : Nat} (hE : Okk E A) (hd : 5 ≤ d) (ho : kd o = (9, 0)) (h : fX9_rivalWrongs o M = some (r, M')) : Ct l E A d yX9_rivalWrongs cX9_rivalWrongs 3 (some .int) [.ref (ad E o)] M (some (.int r)) M' := by
  refine Ct.mk (ls := [some (.ref (ad E o)), none, none]) hE (by decide +kernel) rfl (Nat.le_of_ble_eq_true rfl) (fun X hXl hXA C R => ?_)
  subst hXl; subst hXA
  unfold fX9_rivalWrongs at h
  refine s_iconst (v := 0) C (by decide) dX9_rivalWrongs_0 ?_
  refine s_istore1 C rfl dX9_rivalWrongs_1 ?_
  refine s_iconst (v := 0) C (by decide) dX9_rivalWrongs_2 ?_
  refine s_istore2 C rfl dX9_rivalWrongs_3 ?_
  exact bX9_rivalWrongs_4 C R hd  LF _ _ _ _ ho h
set_option maxRecDepth 4000 in
theorem tX9_by {l : Launch} {E : En} {A : Nat → Prop} {d : Nat} {r : Int32} {M M' : Mem} {o : Nat} {x1 : Int32} (hE : Okk E A) (hd : 6 ≤ d) (ho : kd o = (9, 0)) (h : fX9_by o x1 M = some (r, M')) : Ct l E A d yX9_by cX9_by 2 (some .int) [.ref (ad E o), .int x1] M (some (.int r)) M' := by
  refine Ct.mk (ls := [some (.ref (ad E o)), some (.int x1)]) hE (by decide +kernel) rfl (Nat.le_of_ble_eq_true rfl) (fun X hXl hXA C R => ?_)
  subst hXl; subst hXA
  unfold fX9_by at h
  refine s_aload0 C dX9_by_0 ?_
  obtain ⟨r2, M1, hq, h⟩ := bI_e h
  refine s_callV (T := TX9) (As := []) (v := some (.int r2)) C rfl ho (by decide) rfl (by omega) wX9_113 rfl (Nat.le_of_ble_eq_true rfl) dX9_by_1 (tX9_isTold C.2.2.2.2.2.2.1 (by omega) ho hq) ?_
  refine s_if_eq (tgt := 19) C h dX9_by_4 (by decide) ⟨fun h => ?_, fun h => ?_⟩
  · refine s_bipush (v := -2) C (by decide) dX9_by_19 ?_
    exact s_iret C R h dX9_by_21
  · refine s_iload1 C dX9_by_7 ?_
    refine s_i2l C dX9_by_8 ?_
    refine s_lconst (v := 0) C (by decide) dX9_by_9 ?_
    refine s_ldc2 (v := 7) C k_895 dX9_by_10 ?_
    obtain ⟨r4, M3, hq, h⟩ := bI_e h
    refine s_callS (As := [.long (x1).toInt64, .long (0 : Int64), .long (7 : Int64)]) (v := some (.int r4)) C rfl (by omega) wX9_77 rfl (Nat.le_of_ble_eq_true rfl) dX9_by_13 (tX9_within C.2.2.2.2.2.2.1 (by omega)  hq) ?_
    refine s_if_ne (tgt := 22) C h dX9_by_16 (by decide) ⟨fun h => ?_, fun h => ?_⟩
    · refine s_aload0 C dX9_by_22 ?_
      refine s_iload1 C dX9_by_23 ?_
      obtain ⟨M5, hq, h⟩ := bV_e h
      refine s_callV (T := TX9) (As := [.int x1]) (v := none) C rfl ho (by decide) rfl (by omega) wX9_306 rfl (Nat.le_of_ble_eq_true rfl) dX9_by_24 (tX9_setRivalBy C.2.2.2.2.2.2.1 (by omega) ho hq) ?_
      refine s_aload0 C dX9_by_27 ?_
      obtain ⟨r7, M6, hq, h⟩ := bI_e h
      refine s_callV (T := TX9) (As := []) (v := some (.int r7)) C rfl ho (by decide) rfl (by omega) wX9_309 rfl (Nat.le_of_ble_eq_true rfl) dX9_by_28 (tX9_rivalWrongs C.2.2.2.2.2.2.1 (by omega) ho hq) ?_
      exact s_iret C R h dX9_by_31
    · refine s_bipush (v := -2) C (by decide) dX9_by_19 ?_
      exact s_iret C R h dX9_by_21
set_option maxRecDepth 4000 in
theorem bX9_ideal_46 {E : En} {X : Xc} {d : Nat} {r : Int32} {M M' : Mem} {o : Nat} {x1 : Int32} {x2 : Int32} {x3 : Int32} (C : Cx E X d cX9_ideal RX9 5) (R : Rt E X (some .int) (some (.int r)) M') (hd : 6 ≤ d) {k18 : Nat → Int32 → Int32 → Int32 → Mem → Option (Int32 × Mem)} (hk18 : ∀ (o : Nat) (x1 : Int32) (x2 : Int32) (x3 : Int32) (M : Mem) (_ : kd o = (9, 0)), k18 o x1 x2 x3 M = some (r, M') → At E X 18 [some (.ref (ad E o)), some (.int x1), some (.int x2), some (.int x3), none] [] M) (ho : kd o = (9, 0)) (h : fX9_ideal_46 k18 o x1 x2 x3 M = some (r, M')) : At E X 46 [some (.ref (ad E o)), some (.int x1), some (.int x2), some (.int x3), none] [] M := by
  unfold fX9_ideal_46 at h
  refine s_iinc3 (v := 1) C rfl dX9_ideal_46 (by decide) ?_
  refine s_goto (tgt := 18) C dX9_ideal_49 (by decide) ?_
  exact hk18 _ _ _ _ _ ho h
set_option maxRecDepth 4000 in
theorem bX9_ideal_18 {E : En} {X : Xc} {d : Nat} {r : Int32} {M' : Mem} (C : Cx E X d cX9_ideal RX9 5) (R : Rt E X (some .int) (some (.int r)) M') (hd : 6 ≤ d)   : ∀ (n : Nat) (o : Nat) (x1 : Int32) (x2 : Int32) (x3 : Int32) (M : Mem) (_ : kd o = (9, 0)), fX9_ideal_18  n o x1 x2 x3 M = some (r, M') → At E X 18 [some (.ref (ad E o)), some (.int x1), some (.int x2), some (.int x3), none] [] M := by
  intro n
  induction n with
  | zero => intro o x1 x2 x3 M ho h; rw [fX9_ideal_18] at h; cases h
  | succ n ih =>
    intro o x1 x2 x3 M ho h
    rw [fX9_ideal_18] at h
    refine s_iload3 C dX9_ideal_18 ?_
    refine s_bipush (v := 8) C (by decide) dX9_ideal_19 ?_
    refine s_ic_ge (tgt := 52) C h dX9_ideal_21 (by decide) ⟨fun h => ?_, fun h => ?_⟩
    · refine s_iload1 C dX9_ideal_52 ?_
      exact s_iret C R h dX9_ideal_53
    · refine s_aload0 C dX9_ideal_24 ?_
      refine s_iload3 C dX9_ideal_25 ?_
      obtain ⟨M1, hq, h⟩ := bV_e h
      refine s_callV (T := TX9) (As := [.int x3]) (v := none) C rfl ho (by decide) rfl (by omega) wX9_306 rfl (Nat.le_of_ble_eq_true rfl) dX9_ideal_26 (tX9_setRivalBy C.2.2.2.2.2.2.1 (by omega) ho hq) ?_
      refine s_aload0 C dX9_ideal_29 ?_
      obtain ⟨r3, M2, hq, h⟩ := bI_e h
      refine s_callV (T := TX9) (As := []) (v := some (.int r3)) C rfl ho (by decide) rfl (by omega) wX9_309 rfl (Nat.le_of_ble_eq_true rfl) dX9_ideal_30 (tX9_rivalWrongs C.2.2.2.2.2.2.1 (by omega) ho hq) ?_
      refine s_istore4 C rfl dX9_ideal_33 ?_
      refine s_iload4 C dX9_ideal_35 ?_
      refine s_iload2 C dX9_ideal_37 ?_
      refine s_ic_ge (tgt := 46) C h dX9_ideal_38 (by decide) ⟨fun h => ?_, fun h => ?_⟩
      · refine s_fg 4 ?_
        exact bX9_ideal_46 C R hd (ih) ho h
      · refine s_iload4 C dX9_ideal_41 ?_
        refine s_istore2 C rfl dX9_ideal_43 ?_
        refine s_iload3 C dX9_ideal_44 ?_
        refine s_istore1 C rfl dX9_ideal_45 ?_
        refine s_fg 4 ?_
        exact bX9_ideal_46 C R hd (ih) ho h
set_option maxRecDepth 4000 in
theorem tX9_ideal {l : Launch} {E : En} {A : Nat → Prop} {d : Nat} {r : Int32} {M M' : Mem} {o : Nat} (hE : Okk E A) (hd : 6 ≤ d) (ho : kd o = (9, 0)) (h : fX9_ideal o M = some (r, M')) : Ct l E A d yX9_ideal cX9_ideal 5 (some .int) [.ref (ad E o)] M (some (.int r)) M' := by
  refine Ct.mk (ls := [some (.ref (ad E o)), none, none, none, none]) hE (by decide +kernel) rfl (Nat.le_of_ble_eq_true rfl) (fun X hXl hXA C R => ?_)
  subst hXl; subst hXA
  unfold fX9_ideal at h
  refine s_aload0 C dX9_ideal_0 ?_
  obtain ⟨r2, M1, hq, h⟩ := bI_e h
  refine s_callV (T := TX9) (As := []) (v := some (.int r2)) C rfl ho (by decide) rfl (by omega) wX9_113 rfl (Nat.le_of_ble_eq_true rfl) dX9_ideal_1 (tX9_isTold C.2.2.2.2.2.2.1 (by omega) ho hq) ?_
  refine s_if_ne (tgt := 10) C h dX9_ideal_4 (by decide) ⟨fun h => ?_, fun h => ?_⟩
  · refine s_iconst (v := -1) C (by decide) dX9_ideal_10 ?_
    refine s_istore1 C rfl dX9_ideal_11 ?_
    refine s_sipush (v := 241) C (by decide) dX9_ideal_12 ?_
    refine s_istore2 C rfl dX9_ideal_15 ?_
    refine s_iconst (v := 0) C (by decide) dX9_ideal_16 ?_
    refine s_istore3 C rfl dX9_ideal_17 ?_
    exact bX9_ideal_18 C R hd  LF _ _ _ _ _ ho h
  · refine s_bipush (v := -2) C (by decide) dX9_ideal_7 ?_
    exact s_iret C R h dX9_ideal_9
set_option maxRecDepth 4000 in
theorem tX9_setRivalWithout {l : Launch} {E : En} {A : Nat → Prop} {d : Nat} {M M' : Mem} {o : Nat} {x1 : Int32} (hE : Okk E A) (hd : 4 ≤ d) (ho : kd o = (9, 0)) (h : fX9_setRivalWithout o x1 M = some M') : Ct l E A d yX9_setRivalWithout cX9_setRivalWithout 2 none [.ref (ad E o), .int x1] M none M' := by
  refine Ct.mk (ls := [some (.ref (ad E o)), some (.int x1)]) hE (by decide +kernel) rfl (Nat.le_of_ble_eq_true rfl) (fun X hXl hXA C R => ?_)
  subst hXl; subst hXA
  unfold fX9_setRivalWithout at h
  refine s_aload0 C dX9_setRivalWithout_0 ?_
  refine gX9_55 C ho dX9_setRivalWithout_1 ?_
  refine s_aload0 C dX9_setRivalWithout_4 ?_
  refine gX9_23 C ho dX9_setRivalWithout_5 ?_
  obtain ⟨M1, hq, h⟩ := bV_e h
  refine s_callV (T := TX1) (As := [.ref (ad E (o + 9))]) (v := none) C rfl (qX9_rival ho) (by decide) rfl (by omega) wX9_350 rfl (Nat.le_of_ble_eq_true rfl) dX9_setRivalWithout_8 (tX1_setAs C.2.2.2.2.2.2.1 (by omega) (qX9_rival ho) (qX9_told ho) hq) ?_
  refine s_aload0 C dX9_setRivalWithout_11 ?_
  refine gX9_55 C ho dX9_setRivalWithout_12 ?_
  refine gX9_197 C (qX9_rival ho) dX9_setRivalWithout_15 ?_
  refine s_iload1 C dX9_setRivalWithout_18 ?_
  refine pX9_423 C (qX1_tables (qX9_rival ho)) dX9_setRivalWithout_19 ?_
  exact s_vret C R h dX9_setRivalWithout_22
set_option maxRecDepth 4000 in
theorem tX9_without {l : Launch} {E : En} {A : Nat → Prop} {d : Nat} {r : Int32} {M M' : Mem} {o : Nat} {x1 : Int32} (hE : Okk E A) (hd : 6 ≤ d) (ho : kd o = (9, 0)) (h : fX9_without o x1 M = some (r, M')) : Ct l E A d yX9_without cX9_without 2 (some .int) [.ref (ad E o), .int x1] M (some (.int r)) M' := by
  refine Ct.mk (ls := [some (.ref (ad E o)), some (.int x1)]) hE (by decide +kernel) rfl (Nat.le_of_ble_eq_true rfl) (fun X hXl hXA C R => ?_)
  subst hXl; subst hXA
  unfold fX9_without at h
  refine s_aload0 C dX9_without_0 ?_
  refine s_iload1 C dX9_without_1 ?_
  obtain ⟨r2, M1, hq, h⟩ := bI_e h
  refine s_callV (T := TX9) (As := [.int x1]) (v := some (.int r2)) C rfl ho (by decide) rfl (by omega) wX9_194 rfl (Nat.le_of_ble_eq_true rfl) dX9_without_2 (tX9_isTable C.2.2.2.2.2.2.1 (by omega) ho hq) ?_
  refine s_if_ne (tgt := 11) C h dX9_without_5 (by decide) ⟨fun h => ?_, fun h => ?_⟩
  · refine s_aload0 C dX9_without_11 ?_
    refine s_iload1 C dX9_without_12 ?_
    obtain ⟨M3, hq, h⟩ := bV_e h
    refine s_callV (T := TX9) (As := [.int x1]) (v := none) C rfl ho (by decide) rfl (by omega) wX9_313 rfl (Nat.le_of_ble_eq_true rfl) dX9_without_13 (tX9_setRivalWithout C.2.2.2.2.2.2.1 (by omega) ho hq) ?_
    refine s_aload0 C dX9_without_16 ?_
    obtain ⟨r5, M4, hq, h⟩ := bI_e h
    refine s_callV (T := TX9) (As := []) (v := some (.int r5)) C rfl ho (by decide) rfl (by omega) wX9_309 rfl (Nat.le_of_ble_eq_true rfl) dX9_without_17 (tX9_rivalWrongs C.2.2.2.2.2.2.1 (by omega) ho hq) ?_
    exact s_iret C R h dX9_without_20
  · refine s_bipush (v := -2) C (by decide) dX9_without_8 ?_
    exact s_iret C R h dX9_without_10
set_option maxRecDepth 4000 in
theorem bX9_spare_51 {E : En} {X : Xc} {d : Nat} {r : Int32} {M M' : Mem} {o : Nat} {x1 : Int32} {x2 : Int32} {x3 : Int32} (C : Cx E X d cX9_spare RX9 5) (R : Rt E X (some .int) (some (.int r)) M') (hd : 6 ≤ d) {k18 : Nat → Int32 → Int32 → Int32 → Mem → Option (Int32 × Mem)} (hk18 : ∀ (o : Nat) (x1 : Int32) (x2 : Int32) (x3 : Int32) (M : Mem) (_ : kd o = (9, 0)), k18 o x1 x2 x3 M = some (r, M') → At E X 18 [some (.ref (ad E o)), some (.int x1), some (.int x2), some (.int x3), none] [] M) (ho : kd o = (9, 0)) (h : fX9_spare_51 k18 o x1 x2 x3 M = some (r, M')) : At E X 51 [some (.ref (ad E o)), some (.int x1), some (.int x2), some (.int x3), none] [] M := by
  unfold fX9_spare_51 at h
  refine s_iinc3 (v := 1) C rfl dX9_spare_51 (by decide) ?_
  refine s_goto (tgt := 18) C dX9_spare_54 (by decide) ?_
  exact hk18 _ _ _ _ _ ho h
set_option maxRecDepth 4000 in
theorem bX9_spare_18 {E : En} {X : Xc} {d : Nat} {r : Int32} {M' : Mem} (C : Cx E X d cX9_spare RX9 5) (R : Rt E X (some .int) (some (.int r)) M') (hd : 6 ≤ d)   : ∀ (n : Nat) (o : Nat) (x1 : Int32) (x2 : Int32) (x3 : Int32) (M : Mem) (_ : kd o = (9, 0)), fX9_spare_18  n o x1 x2 x3 M = some (r, M') → At E X 18 [some (.ref (ad E o)), some (.int x1), some (.int x2), some (.int x3), none] [] M := by
  intro n
  induction n with
  | zero => intro o x1 x2 x3 M ho h; rw [fX9_spare_18] at h; cases h
  | succ n ih =>
    intro o x1 x2 x3 M ho h
    rw [fX9_spare_18] at h
    refine s_iload3 C dX9_spare_18 ?_
    refine s_aload0 C dX9_spare_19 ?_
    refine gX9_23 C ho dX9_spare_20 ?_
    refine gX9_171 C (qX9_told ho) dX9_spare_23 ?_
    refine s_ic_gt (tgt := 57) C h dX9_spare_26 (by decide) ⟨fun h => ?_, fun h => ?_⟩
    · refine s_iload1 C dX9_spare_57 ?_
      exact s_iret C R h dX9_spare_58
    · refine s_aload0 C dX9_spare_29 ?_
      refine s_iload3 C dX9_spare_30 ?_
      obtain ⟨M1, hq, h⟩ := bV_e h
      refine s_callV (T := TX9) (As := [.int x3]) (v := none) C rfl ho (by decide) rfl (by omega) wX9_313 rfl (Nat.le_of_ble_eq_true rfl) dX9_spare_31 (tX9_setRivalWithout C.2.2.2.2.2.2.1 (by omega) ho hq) ?_
      refine s_aload0 C dX9_spare_34 ?_
      obtain ⟨r3, M2, hq, h⟩ := bI_e h
      refine s_callV (T := TX9) (As := []) (v := some (.int r3)) C rfl ho (by decide) rfl (by omega) wX9_309 rfl (Nat.le_of_ble_eq_true rfl) dX9_spare_35 (tX9_rivalWrongs C.2.2.2.2.2.2.1 (by omega) ho hq) ?_
      refine s_istore4 C rfl dX9_spare_38 ?_
      refine s_iload4 C dX9_spare_40 ?_
      refine s_iload2 C dX9_spare_42 ?_
      refine s_ic_ge (tgt := 51) C h dX9_spare_43 (by decide) ⟨fun h => ?_, fun h => ?_⟩
      · refine s_fg 4 ?_
        exact bX9_spare_51 C R hd (ih) ho h
      · refine s_iload4 C dX9_spare_46 ?_
        refine s_istore2 C rfl dX9_spare_48 ?_
        refine s_iload3 C dX9_spare_49 ?_
        refine s_istore1 C rfl dX9_spare_50 ?_
        refine s_fg 4 ?_
        exact bX9_spare_51 C R hd (ih) ho h
set_option maxRecDepth 4000 in
theorem tX9_spare {l : Launch} {E : En} {A : Nat → Prop} {d : Nat} {r : Int32} {M M' : Mem} {o : Nat} (hE : Okk E A) (hd : 6 ≤ d) (ho : kd o = (9, 0)) (h : fX9_spare o M = some (r, M')) : Ct l E A d yX9_spare cX9_spare 5 (some .int) [.ref (ad E o)] M (some (.int r)) M' := by
  refine Ct.mk (ls := [some (.ref (ad E o)), none, none, none, none]) hE (by decide +kernel) rfl (Nat.le_of_ble_eq_true rfl) (fun X hXl hXA C R => ?_)
  subst hXl; subst hXA
  unfold fX9_spare at h
  refine s_aload0 C dX9_spare_0 ?_
  obtain ⟨r2, M1, hq, h⟩ := bI_e h
  refine s_callV (T := TX9) (As := []) (v := some (.int r2)) C rfl ho (by decide) rfl (by omega) wX9_113 rfl (Nat.le_of_ble_eq_true rfl) dX9_spare_1 (tX9_isTold C.2.2.2.2.2.2.1 (by omega) ho hq) ?_
  refine s_if_ne (tgt := 10) C h dX9_spare_4 (by decide) ⟨fun h => ?_, fun h => ?_⟩
  · refine s_iconst (v := -1) C (by decide) dX9_spare_10 ?_
    refine s_istore1 C rfl dX9_spare_11 ?_
    refine s_sipush (v := 241) C (by decide) dX9_spare_12 ?_
    refine s_istore2 C rfl dX9_spare_15 ?_
    refine s_iconst (v := 1) C (by decide) dX9_spare_16 ?_
    refine s_istore3 C rfl dX9_spare_17 ?_
    exact bX9_spare_18 C R hd  LF _ _ _ _ _ ho h
  · refine s_bipush (v := -2) C (by decide) dX9_spare_7 ?_
    exact s_iret C R h dX9_spare_9
