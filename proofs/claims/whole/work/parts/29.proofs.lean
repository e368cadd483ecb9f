set_option maxRecDepth 4000 in
theorem tX10_asksPattern {l : Launch} {E : En} {A : Nat → Prop} {d : Nat} {r : Int32} {M M' : Mem} {o : Nat} {x1 : Int32} {x2 : Int32} {x3 : Int32} (hE : Okk E A) (hd : 5 ≤ d) (ho : kd o = (10, 0)) (h : fX10_asksPattern o x1 x2 x3 M = some (r, M')) : Ct l E A d yX10_asksPattern cX10_asksPattern 4 (some .boolean) [.ref (ad E o), .int x1, .int x2, .int x3] M (some (.int r)) M' := by
  refine Ct.mk (ls := [some (.ref (ad E o)), some (.int x1), some (.int x2), some (.int x3)]) hE (by decide +kernel) rfl (Nat.le_of_ble_eq_true rfl) (fun X hXl hXA C R => ?_)
  subst hXl; subst hXA
  unfold fX10_asksPattern at h
  refine s_aload0 C dX10_asksPattern_0 ?_
  obtain ⟨r2, M1, hq, h⟩ := bI_e h
  refine s_callV (T := TX10) (As := []) (v := some (.int r2)) C rfl ho (by decide) rfl (by omega) wX10_471 rfl (Nat.le_of_ble_eq_true rfl) dX10_asksPattern_1 (tX10_lays C.2.2.2.2.2.2.1 (by omega) ho hq) ?_
  refine s_if_eq (tgt := 42) C h dX10_asksPattern_4 (by decide) ⟨fun h => ?_, fun h => ?_⟩
  · refine s_iconst (v := 0) C (by decide) dX10_asksPattern_42 ?_
    exact s_zret C R h rfl dX10_asksPattern_43
  · refine s_iload1 C dX10_asksPattern_7 ?_
    refine s_i2l C dX10_asksPattern_8 ?_
    obtain ⟨r4, M3, hq, h⟩ := bI_e h
    refine s_callS (As := [.long (x1).toInt64]) (v := some (.int r4)) C rfl (by omega) wX10_492 rfl (Nat.le_of_ble_eq_true rfl) dX10_asksPattern_9 (tX10_isAddress C.2.2.2.2.2.2.1 (by omega)  hq) ?_
    refine s_if_eq (tgt := 42) C h dX10_asksPattern_12 (by decide) ⟨fun h => ?_, fun h => ?_⟩
    · refine s_iconst (v := 0) C (by decide) dX10_asksPattern_42 ?_
      exact s_zret C R h rfl dX10_asksPattern_43
    · refine s_iload3 C dX10_asksPattern_15 ?_
      refine s_i2l C dX10_asksPattern_16 ?_
      refine s_lconst (v := 1) C (by decide) dX10_asksPattern_17 ?_
      refine s_ldc2 (v := 16) C k_1954 dX10_asksPattern_18 ?_
      obtain ⟨r6, M5, hq, h⟩ := bI_e h
      refine s_callS (As := [.long (x3).toInt64, .long (1 : Int64), .long (16 : Int64)]) (v := some (.int r6)) C rfl (by omega) wX10_139 rfl (Nat.le_of_ble_eq_true rfl) dX10_asksPattern_21 (tX10_in C.2.2.2.2.2.2.1 (by omega)  hq) ?_
      refine s_if_eq (tgt := 42) C h dX10_asksPattern_24 (by decide) ⟨fun h => ?_, fun h => ?_⟩
      · refine s_iconst (v := 0) C (by decide) dX10_asksPattern_42 ?_
        exact s_zret C R h rfl dX10_asksPattern_43
      · refine s_iload2 C dX10_asksPattern_27 ?_
        refine s_i2l C dX10_asksPattern_28 ?_
        refine s_lconst (v := 0) C (by decide) dX10_asksPattern_29 ?_
        refine s_iconst (v := 1) C (by decide) dX10_asksPattern_30 ?_
        refine s_iload3 C dX10_asksPattern_31 ?_
        refine s_ishl C dX10_asksPattern_32 ?_
        refine s_iconst (v := 1) C (by decide) dX10_asksPattern_33 ?_
        refine s_isub C dX10_asksPattern_34 ?_
        refine s_i2l C dX10_asksPattern_35 ?_
        obtain ⟨r8, M7, hq, h⟩ := bI_e h
        refine s_callS (As := [.long (x2).toInt64, .long (0 : Int64), .long ((((1 : Int32) <<< (x3 &&& 31)) - (1 : Int32))).toInt64]) (v := some (.int r8)) C rfl (by omega) wX10_139 rfl (Nat.le_of_ble_eq_true rfl) dX10_asksPattern_36 (tX10_in C.2.2.2.2.2.2.1 (by omega)  hq) ?_
        refine s_if_ne (tgt := 44) C h dX10_asksPattern_39 (by decide) ⟨fun h => ?_, fun h => ?_⟩
        · refine s_aload0 C dX10_asksPattern_44 ?_
          refine s_iload1 C dX10_asksPattern_45 ?_
          refine s_iload2 C dX10_asksPattern_46 ?_
          refine s_iload3 C dX10_asksPattern_47 ?_
          obtain ⟨M9, hq, h⟩ := bV_e h
          refine s_callV (T := TX10) (As := [.int x1, .int x2, .int x3]) (v := none) C rfl ho (by decide) rfl (by omega) wX10_546 rfl (Nat.le_of_ble_eq_true rfl) dX10_asksPattern_48 (tX10_playPattern C.2.2.2.2.2.2.1 (by omega) ho hq) ?_
          refine s_iconst (v := 1) C (by decide) dX10_asksPattern_51 ?_
          exact s_zret C R h rfl dX10_asksPattern_52
        · refine s_iconst (v := 0) C (by decide) dX10_asksPattern_42 ?_
          exact s_zret C R h rfl dX10_asksPattern_43
set_option maxRecDepth 4000 in
theorem bX10_learntNow_24 {E : En} {X : Xc} {d : Nat} {r : Int32} {M M' : Mem} {x1 : Int32} (C : Cx E X d cX10_learntNow RX10 2) (R : Rt E X (some .int) (some (.int r)) M') (hd : 0 ≤ d)    (h : fX10_learntNow_24  x1 M = some (r, M')) : At E X 24 [none, some (.int x1)] [] M := by
  unfold fX10_learntNow_24 at h
  refine s_iload1 C dX10_learntNow_24 ?_
  refine s_bipush (v := 30) C (by decide) dX10_learntNow_25 ?_
  refine s_ic_ne (tgt := 34) C h dX10_learntNow_27 (by decide) ⟨fun h => ?_, fun h => ?_⟩
  · refine s_iload1 C dX10_learntNow_34 ?_
    exact s_iret C R h dX10_learntNow_35
  · refine s_iconst (v := -1) C (by decide) dX10_learntNow_30 ?_
    refine s_goto (tgt := 35) C dX10_learntNow_31 (by decide) ?_
    exact s_iret C R h dX10_learntNow_35
set_option maxRecDepth 4000 in
theorem bX10_learntNow_3 {E : En} {X : Xc} {d : Nat} {r : Int32} {M' : Mem} (C : Cx E X d cX10_learntNow RX10 2) (R : Rt E X (some .int) (some (.int r)) M') (hd : 0 ≤ d)   : ∀ (n : Nat) (o : Nat) (x1 : Int32) (M : Mem) (_ : kd o = (10, 0)), fX10_learntNow_3  n o x1 M = some (r, M') → At E X 3 [some (.ref (ad E o)), some (.int x1)] [] M := by
  intro n
  induction n with
  | zero => intro o x1 M ho h; rw [fX10_learntNow_3] at h; cases h
  | succ n ih =>
    intro o x1 M ho h
    rw [fX10_learntNow_3] at h
    refine s_iload1 C dX10_learntNow_3 ?_
    refine s_if_le (tgt := 24) C h dX10_learntNow_4 (by decide) ⟨fun h => ?_, fun h => ?_⟩
    · refine s_fg 0 ?_
      exact bX10_learntNow_24 C R hd  h
    · refine s_aload0 C dX10_learntNow_7 ?_
      refine gX10_112 C ho dX10_learntNow_8 ?_
      refine s_iload1 C dX10_learntNow_11 ?_
      refine s_iconst (v := 1) C (by decide) dX10_learntNow_12 ?_
      refine s_isub C dX10_learntNow_13 ?_
      refine s_iald C (qX10_wrongIn ho) h dX10_learntNow_14 (fun h => ?_)
      refine s_if_ne (tgt := 24) C h dX10_learntNow_15 (by decide) ⟨fun h => ?_, fun h => ?_⟩
      · refine s_fg 0 ?_
        exact bX10_learntNow_24 C R hd  h
      · refine s_iinc1 (v := -1) C rfl dX10_learntNow_18 (by decide) ?_
        refine s_goto (tgt := 3) C dX10_learntNow_21 (by decide) ?_
        exact ih _ _ _ ho h
set_option maxRecDepth 4000 in
theorem tX10_learntNow {l : Launch} {E : En} {A : Nat → Prop} {d : Nat} {r : Int32} {M M' : Mem} {o : Nat} (hE : Okk E A) (hd : 0 ≤ d) (ho : kd o = (10, 0)) (h : fX10_learntNow o M = some (r, M')) : Ct l E A d yX10_learntNow cX10_learntNow 2 (some .int) [.ref (ad E o)] M (some (.int r)) M' := by
  refine Ct.mk (ls := [some (.ref (ad E o)), none]) hE (by decide +kernel) rfl (Nat.le_of_ble_eq_true rfl) (fun X hXl hXA C R => ?_)
  subst hXl; subst hXA
  unfold fX10_learntNow at h
  refine s_bipush (v := 30) C (by decide) dX10_learntNow_0 ?_
  refine s_istore1 C rfl dX10_learntNow_2 ?_
  exact bX10_learntNow_3 C R hd  LF _ _ _ ho h
set_option maxRecDepth 4000 in
theorem tX10_round {l : Launch} {E : En} {A : Nat → Prop} {d : Nat} {r : Int32} {M M' : Mem} {o : Nat} {x1 : Int32} {x2 : Int32} {x3 : Int32} {x4 : Int32} (hE : Okk E A) (hd : 6 ≤ d) (ho : kd o = (10, 0)) (h : fX10_round o x1 x2 x3 x4 M = some (r, M')) : Ct l E A d yX10_round cX10_round 5 (some .int) [.ref (ad E o), .int x1, .int x2, .int x3, .int x4] M (some (.int r)) M' := by
  refine Ct.mk (ls := [some (.ref (ad E o)), some (.int x1), some (.int x2), some (.int x3), some (.int x4)]) hE (by decide +kernel) rfl (Nat.le_of_ble_eq_true rfl) (fun X hXl hXA C R => ?_)
  subst hXl; subst hXA
  unfold fX10_round at h
  refine s_iload4 C dX10_round_0 ?_
  refine s_i2l C dX10_round_2 ?_
  refine s_lconst (v := 0) C (by decide) dX10_round_3 ?_
  refine s_ldc2 (v := 29) C k_1949 dX10_round_4 ?_
  obtain ⟨r2, M1, hq, h⟩ := bI_e h
  refine s_callS (As := [.long (x4).toInt64, .long (0 : Int64), .long (29 : Int64)]) (v := some (.int r2)) C rfl (by omega) wX10_139 rfl (Nat.le_of_ble_eq_true rfl) dX10_round_7 (tX10_in C.2.2.2.2.2.2.1 (by omega)  hq) ?_
  refine s_if_eq (tgt := 33) C h dX10_round_10 (by decide) ⟨fun h => ?_, fun h => ?_⟩
  · refine s_bipush (v := -2) C (by decide) dX10_round_33 ?_
    exact s_iret C R h dX10_round_35
  · refine s_aload0 C dX10_round_13 ?_
    refine s_iload1 C dX10_round_14 ?_
    refine s_iload2 C dX10_round_15 ?_
    refine s_iload3 C dX10_round_16 ?_
    obtain ⟨r4, M3, hq, h⟩ := bI_e h
    refine s_callV (T := TX10) (As := [.int x1, .int x2, .int x3]) (v := some (.int r4)) C rfl ho (by decide) rfl (by omega) wX10_551 rfl (Nat.le_of_ble_eq_true rfl) dX10_round_17 (tX10_asksPattern C.2.2.2.2.2.2.1 (by omega) ho hq) ?_
    refine s_if_eq (tgt := 33) C h dX10_round_20 (by decide) ⟨fun h => ?_, fun h => ?_⟩
    · refine s_bipush (v := -2) C (by decide) dX10_round_33 ?_
      exact s_iret C R h dX10_round_35
    · refine s_aload0 C dX10_round_23 ?_
      refine gX10_112 C ho dX10_round_24 ?_
      refine s_iload4 C dX10_round_27 ?_
      refine s_iald C (qX10_wrongIn ho) h dX10_round_29 (fun h => ?_)
      refine s_goto (tgt := 35) C dX10_round_30 (by decide) ?_
      exact s_iret C R h dX10_round_35
set_option maxRecDepth 4000 in
theorem tX10_learnt {l : Launch} {E : En} {A : Nat → Prop} {d : Nat} {r : Int32} {M M' : Mem} {o : Nat} {x1 : Int32} {x2 : Int32} {x3 : Int32} (hE : Okk E A) (hd : 6 ≤ d) (ho : kd o = (10, 0)) (h : fX10_learnt o x1 x2 x3 M = some (r, M')) : Ct l E A d yX10_learnt cX10_learnt 4 (some .int) [.ref (ad E o), .int x1, .int x2, .int x3] M (some (.int r)) M' := by
  refine Ct.mk (ls := [some (.ref (ad E o)), some (.int x1), some (.int x2), some (.int x3)]) hE (by decide +kernel) rfl (Nat.le_of_ble_eq_true rfl) (fun X hXl hXA C R => ?_)
  subst hXl; subst hXA
  unfold fX10_learnt at h
  refine s_aload0 C dX10_learnt_0 ?_
  refine s_iload1 C dX10_learnt_1 ?_
  refine s_iload2 C dX10_learnt_2 ?_
  refine s_iload3 C dX10_learnt_3 ?_
  obtain ⟨r2, M1, hq, h⟩ := bI_e h
  refine s_callV (T := TX10) (As := [.int x1, .int x2, .int x3]) (v := some (.int r2)) C rfl ho (by decide) rfl (by omega) wX10_551 rfl (Nat.le_of_ble_eq_true rfl) dX10_learnt_4 (tX10_asksPattern C.2.2.2.2.2.2.1 (by omega) ho hq) ?_
  refine s_if_eq (tgt := 17) C h dX10_learnt_7 (by decide) ⟨fun h => ?_, fun h => ?_⟩
  · refine s_bipush (v := -2) C (by decide) dX10_learnt_17 ?_
    exact s_iret C R h dX10_learnt_19
  · refine s_aload0 C dX10_learnt_10 ?_
    obtain ⟨r4, M3, hq, h⟩ := bI_e h
    refine s_callV (T := TX10) (As := []) (v := some (.int r4)) C rfl ho (by decide) rfl (by omega) wX10_555 rfl (Nat.le_of_ble_eq_true rfl) dX10_learnt_11 (tX10_learntNow C.2.2.2.2.2.2.1 (by omega) ho hq) ?_
    refine s_goto (tgt := 19) C dX10_learnt_14 (by decide) ?_
    exact s_iret C R h dX10_learnt_19
set_option maxRecDepth 4000 in
theorem bX10_learns_65 {E : En} {X : Xc} {d : Nat} {r : Int32} {M M' : Mem} {o : Nat} {x1 : Int32} {x2 : Int32} {x4 : Int32} {sx0 : Int32} {sx1 : Int32} (C : Cx E X d cX10_learns RX10 5) (R : Rt E X (some .int) (some (.int r)) M') (hd : 5 ≤ d) {k35 : Nat → Int32 → Int32 → Int32 → Int32 → Mem → Option (Int32 × Mem)} (hk35 : ∀ (o : Nat) (x1 : Int32) (x2 : Int32) (x3 : Int32) (x4 : Int32) (M : Mem) (_ : kd o = (10, 0)), k35 o x1 x2 x3 x4 M = some (r, M') → At E X 35 [some (.ref (ad E o)), some (.int x1), some (.int x2), some (.int x3), some (.int x4)] [] M) (ho : kd o = (10, 0)) (h : fX10_learns_65 k35 o x1 x2 x4 sx0 sx1 M = some (r, M')) : At E X 65 [some (.ref (ad E o)), some (.int x1), some (.int x2), none, some (.int x4)] [.int sx1, .int sx0] M := by
  unfold fX10_learns_65 at h
  refine s_iadd C dX10_learns_65 ?_
  refine s_istore3 C rfl dX10_learns_66 ?_
  refine s_iinc4 (v := 1) C rfl dX10_learns_67 (by decide) ?_
  refine s_goto (tgt := 35) C dX10_learns_70 (by decide) ?_
  exact hk35 _ _ _ _ _ _ ho h
set_option maxRecDepth 4000 in
theorem bX10_learns_35 {E : En} {X : Xc} {d : Nat} {r : Int32} {M' : Mem} (C : Cx E X d cX10_learns RX10 5) (R : Rt E X (some .int) (some (.int r)) M') (hd : 5 ≤ d)   : ∀ (n : Nat) (o : Nat) (x1 : Int32) (x2 : Int32) (x3 : Int32) (x4 : Int32) (M : Mem) (_ : kd o = (10, 0)), fX10_learns_35  n o x1 x2 x3 x4 M = some (r, M') → At E X 35 [some (.ref (ad E o)), some (.int x1), some (.int x2), some (.int x3), some (.int x4)] [] M := by
  intro n
  induction n with
  | zero => intro o x1 x2 x3 x4 M ho h; rw [fX10_learns_35] at h; cases h
  | succ n ih =>
    intro o x1 x2 x3 x4 M ho h
    rw [fX10_learns_35] at h
    refine s_iload4 C dX10_learns_35 ?_
    refine s_iconst (v := 1) C (by decide) dX10_learns_37 ?_
    refine s_iload2 C dX10_learns_38 ?_
    refine s_ishl C dX10_learns_39 ?_
    refine s_ic_ge (tgt := 73) C h dX10_learns_40 (by decide) ⟨fun h => ?_, fun h => ?_⟩
    · refine s_iload3 C dX10_learns_73 ?_
      exact s_iret C R h dX10_learns_74
    · refine s_aload0 C dX10_learns_43 ?_
      refine s_iload1 C dX10_learns_44 ?_
      refine s_iload4 C dX10_learns_45 ?_
      refine s_iload2 C dX10_learns_47 ?_
      obtain ⟨M1, hq, h⟩ := bV_e h
      refine s_callV (T := TX10) (As := [.int x1, .int x4, .int x2]) (v := none) C rfl ho (by decide) rfl (by omega) wX10_546 rfl (Nat.le_of_ble_eq_true rfl) dX10_learns_48 (tX10_playPattern C.2.2.2.2.2.2.1 (by omega) ho hq) ?_
      refine s_iload3 C dX10_learns_51 ?_
      refine s_aload0 C dX10_learns_52 ?_
      obtain ⟨r3, M2, hq, h⟩ := bI_e h
      refine s_callV (T := TX10) (As := []) (v := some (.int r3)) C rfl ho (by decide) rfl (by omega) wX10_555 rfl (Nat.le_of_ble_eq_true rfl) dX10_learns_53 (tX10_learntNow C.2.2.2.2.2.2.1 (by omega) ho hq) ?_
      refine s_iconst (v := -1) C (by decide) dX10_learns_56 ?_
      refine s_ic_ne (tgt := 64) C h dX10_learns_57 (by decide) ⟨fun h => ?_, fun h => ?_⟩
      · refine s_iconst (v := 1) C (by decide) dX10_learns_64 ?_
        refine s_fg 3 ?_
        exact bX10_learns_65 C R hd (ih) ho h
      · refine s_iconst (v := 0) C (by decide) dX10_learns_60 ?_
        refine s_goto (tgt := 65) C dX10_learns_61 (by decide) ?_
        refine s_fg 3 ?_
        exact bX10_learns_65 C R hd (ih) ho h
set_option maxRecDepth 4000 in
theorem tX10_learns {l : Launch} {E : En} {A : Nat → Prop} {d : Nat} {r : Int32} {M M' : Mem} {o : Nat} {x1 : Int32} {x2 : Int32} (hE : Okk E A) (hd : 5 ≤ d) (ho : kd o = (10, 0)) (h : fX10_learns o x1 x2 M = some (r, M')) : Ct l E A d yX10_learns cX10_learns 5 (some .int) [.ref (ad E o), .int x1, .int x2] M (some (.int r)) M' := by
  refine Ct.mk (ls := [some (.ref (ad E o)), some (.int x1), some (.int x2), none, none]) hE (by decide +kernel) rfl (Nat.le_of_ble_eq_true rfl) (fun X hXl hXA C R => ?_)
  subst hXl; subst hXA
  unfold fX10_learns at h
  refine s_aload0 C dX10_learns_0 ?_
  obtain ⟨r2, M1, hq, h⟩ := bI_e h
  refine s_callV (T := TX10) (As := []) (v := some (.int r2)) C rfl ho (by decide) rfl (by omega) wX10_471 rfl (Nat.le_of_ble_eq_true rfl) dX10_learns_1 (tX10_lays C.2.2.2.2.2.2.1 (by omega) ho hq) ?_
  refine s_if_eq (tgt := 27) C h dX10_learns_4 (by decide) ⟨fun h => ?_, fun h => ?_⟩
  · refine s_bipush (v := -2) C (by decide) dX10_learns_27 ?_
    exact s_iret C R h dX10_learns_29
  · refine s_iload1 C dX10_learns_7 ?_
    refine s_i2l C dX10_learns_8 ?_
    obtain ⟨r4, M3, hq, h⟩ := bI_e h
    refine s_callS (As := [.long (x1).toInt64]) (v := some (.int r4)) C rfl (by omega) wX10_492 rfl (Nat.le_of_ble_eq_true rfl) dX10_learns_9 (tX10_isAddress C.2.2.2.2.2.2.1 (by omega)  hq) ?_
    refine s_if_eq (tgt := 27) C h dX10_learns_12 (by decide) ⟨fun h => ?_, fun h => ?_⟩
    · refine s_bipush (v := -2) C (by decide) dX10_learns_27 ?_
      exact s_iret C R h dX10_learns_29
    · refine s_iload2 C dX10_learns_15 ?_
      refine s_i2l C dX10_learns_16 ?_
      refine s_lconst (v := 1) C (by decide) dX10_learns_17 ?_
      refine s_ldc2 (v := 5) C k_1971 dX10_learns_18 ?_
      obtain ⟨r6, M5, hq, h⟩ := bI_e h
      refine s_callS (As := [.long (x2).toInt64, .long (1 : Int64), .long (5 : Int64)]) (v := some (.int r6)) C rfl (by omega) wX10_139 rfl (Nat.le_of_ble_eq_true rfl) dX10_learns_21 (tX10_in C.2.2.2.2.2.2.1 (by omega)  hq) ?_
      refine s_if_ne (tgt := 30) C h dX10_learns_24 (by decide) ⟨fun h => ?_, fun h => ?_⟩
      · refine s_iconst (v := 0) C (by decide) dX10_learns_30 ?_
        refine s_istore3 C rfl dX10_learns_31 ?_
        refine s_iconst (v := 0) C (by decide) dX10_learns_32 ?_
        refine s_istore4 C rfl dX10_learns_33 ?_
        exact bX10_learns_35 C R hd  LF _ _ _ _ _ _ ho h
      · refine s_bipush (v := -2) C (by decide) dX10_learns_27 ?_
        exact s_iret C R h dX10_learns_29
set_option maxRecDepth 4000 in
theorem tX10_numberIn {l : Launch} {E : En} {A : Nat → Prop} {d : Nat} {r : Int64} {M M' : Mem} {o : Nat} {x1 : Int32} {x2 : Int32} (hE : Okk E A) (hd : 0 ≤ d) (ho : kd o = (10, 0)) (h : fX10_numberIn o x1 x2 M = some (r, M')) : Ct l E A d yX10_numberIn cX10_numberIn 3 (some .long) [.ref (ad E o), .int x1, .int x2] M (some (.long r)) M' := by
  refine Ct.mk (ls := [some (.ref (ad E o)), some (.int x1), some (.int x2)]) hE (by decide +kernel) rfl (Nat.le_of_ble_eq_true rfl) (fun X hXl hXA C R => ?_)
  subst hXl; subst hXA
  unfold fX10_numberIn at h
  refine s_aload0 C dX10_numberIn_0 ?_
  refine gX10_121 C ho dX10_numberIn_1 ?_
  refine s_bipush (v := 60) C (by decide) dX10_numberIn_4 ?_
  refine s_iload1 C dX10_numberIn_6 ?_
  refine s_imul C dX10_numberIn_7 ?_
  refine s_iload2 C dX10_numberIn_8 ?_
  refine s_iadd C dX10_numberIn_9 ?_
  refine s_lald C (qX10_numbers ho) h dX10_numberIn_10 (fun h => ?_)
  exact s_lret C R h dX10_numberIn_11
set_option maxRecDepth 4000 in
theorem bX10_areIn_41 {E : En} {X : Xc} {d : Nat} {r : Int32} {M M' : Mem} {o : Nat} {x1 : Int32} {x2 : Int32} {x4 : Int32} {sx0 : Int32} (C : Cx E X d cX10_areIn RX10 5) (R : Rt E X (some .boolean) (some (.int r)) M') (hd : 1 ≤ d) {k5 : Nat → Int32 → Int32 → Int32 → Int32 → Mem → Option (Int32 × Mem)} (hk5 : ∀ (o : Nat) (x1 : Int32) (x2 : Int32) (x3 : Int32) (x4 : Int32) (M : Mem) (_ : kd o = (10, 0)), k5 o x1 x2 x3 x4 M = some (r, M') → At E X 5 [some (.ref (ad E o)), some (.int x1), some (.int x2), some (.int x3), some (.int x4)] [] M) (ho : kd o = (10, 0)) (h : fX10_areIn_41 k5 o x1 x2 x4 sx0 M = some (r, M')) : At E X 41 [some (.ref (ad E o)), some (.int x1), some (.int x2), none, some (.int x4)] [.int sx0] M := by
  unfold fX10_areIn_41 at h
  refine s_istore3 C rfl dX10_areIn_41 ?_
  refine s_iinc4 (v := 1) C rfl dX10_areIn_42 (by decide) ?_
  refine s_goto (tgt := 5) C dX10_areIn_45 (by decide) ?_
  exact hk5 _ _ _ _ _ _ ho h
set_option maxRecDepth 4000 in
theorem bX10_areIn_40 {E : En} {X : Xc} {d : Nat} {r : Int32} {M M' : Mem} {o : Nat} {x1 : Int32} {x2 : Int32} {x4 : Int32} (C : Cx E X d cX10_areIn RX10 5) (R : Rt E X (some .boolean) (some (.int r)) M') (hd : 1 ≤ d) {k5 : Nat → Int32 → Int32 → Int32 → Int32 → Mem → Option (Int32 × Mem)} (hk5 : ∀ (o : Nat) (x1 : Int32) (x2 : Int32) (x3 : Int32) (x4 : Int32) (M : Mem) (_ : kd o = (10, 0)), k5 o x1 x2 x3 x4 M = some (r, M') → At E X 5 [some (.ref (ad E o)), some (.int x1), some (.int x2), some (.int x3), some (.int x4)] [] M) (ho : kd o = (10, 0)) (h : fX10_areIn_40 k5 o x1 x2 x4 M = some (r, M')) : At E X 40 [some (.ref (ad E o)), some (.int x1), some (.int x2), none, some (.int x4)] [] M := by
  unfold fX10_areIn_40 at h
  refine s_iconst (v := 0) C (by decide) dX10_areIn_40 ?_
  exact bX10_areIn_41 C R hd (hk5) ho h
set_option maxRecDepth 4000 in
theorem bX10_areIn_5 {E : En} {X : Xc} {d : Nat} {r : Int32} {M' : Mem} (C : Cx E X d cX10_areIn RX10 5) (R : Rt E X (some .boolean) (some (.int r)) M') (hd : 1 ≤ d)   : ∀ (n : Nat) (o : Nat) (x1 : Int32) (x2 : Int32) (x3 : Int32) (x4 : Int32) (M : Mem) (_ : kd o = (10, 0)), fX10_areIn_5  n o x1 x2 x3 x4 M = some (r, M') → At E X 5 [some (.ref (ad E o)), some (.int x1), some (.int x2), some (.int x3), some (.int x4)] [] M := by
  intro n
  induction n with
  | zero => intro o x1 x2 x3 x4 M ho h; rw [fX10_areIn_5] at h; cases h
  | succ n ih =>
    intro o x1 x2 x3 x4 M ho h
    rw [fX10_areIn_5] at h
    refine s_iload4 C dX10_areIn_5 ?_
    refine s_aload0 C dX10_areIn_7 ?_
    refine gX10_115 C ho dX10_areIn_8 ?_
    refine s_iload1 C dX10_areIn_11 ?_
    refine s_iald C (qX10_many ho) h dX10_areIn_12 (fun h => ?_)
    refine s_ic_ge (tgt := 48) C h dX10_areIn_13 (by decide) ⟨fun h => ?_, fun h => ?_⟩
    · refine s_iload3 C dX10_areIn_48 ?_
      obtain ⟨hb, h⟩ := ck_e h
      exact s_zret C R h (isB_n hb).1 dX10_areIn_49
    · refine s_iload3 C dX10_areIn_16 ?_
      refine s_if_eq (tgt := 40) C h dX10_areIn_17 (by decide) ⟨fun h => ?_, fun h => ?_⟩
      · refine s_fg 3 ?_
        exact bX10_areIn_40 C R hd (ih) ho h
      · refine s_aload0 C dX10_areIn_20 ?_
        refine s_iload1 C dX10_areIn_21 ?_
        refine s_iload4 C dX10_areIn_22 ?_
        obtain ⟨r2, M1, hq, h⟩ := bL_e h
        refine s_callV (T := TX10) (As := [.int x1, .int x4]) (v := some (.long r2)) C rfl ho (by decide) rfl (by omega) wX10_560 rfl (Nat.le_of_ble_eq_true rfl) dX10_areIn_24 (tX10_numberIn C.2.2.2.2.2.2.1 (by omega) ho hq) ?_
        refine s_lconst (v := 0) C (by decide) dX10_areIn_27 ?_
        refine s_iload2 C dX10_areIn_28 ?_
        refine s_i2l C dX10_areIn_29 ?_
        obtain ⟨r4, M3, hq, h⟩ := bI_e h
        refine s_callS (As := [.long r2, .long (0 : Int64), .long (x2).toInt64]) (v := some (.int r4)) C rfl (by omega) wX10_139 rfl (Nat.le_of_ble_eq_true rfl) dX10_areIn_30 (tX10_in C.2.2.2.2.2.2.1 (by omega)  hq) ?_
        refine s_if_eq (tgt := 40) C h dX10_areIn_33 (by decide) ⟨fun h => ?_, fun h => ?_⟩
        · refine s_fg 3 ?_
          exact bX10_areIn_40 C R hd (ih) ho h
        · refine s_iconst (v := 1) C (by decide) dX10_areIn_36 ?_
          refine s_goto (tgt := 41) C dX10_areIn_37 (by decide) ?_
          refine s_fg 3 ?_
          exact bX10_areIn_41 C R hd (ih) ho h
set_option maxRecDepth 4000 in
theorem tX10_areIn {l : Launch} {E : En} {A : Nat → Prop} {d : Nat} {r : Int32} {M M' : Mem} {o : Nat} {x1 : Int32} {x2 : Int32} (hE : Okk E A) (hd : 1 ≤ d) (ho : kd o = (10, 0)) (h : fX10_areIn o x1 x2 M = some (r, M')) : Ct l E A d yX10_areIn cX10_areIn 5 (some .boolean) [.ref (ad E o), .int x1, .int x2] M (some (.int r)) M' := by
  refine Ct.mk (ls := [some (.ref (ad E o)), some (.int x1), some (.int x2), none, none]) hE (by decide +kernel) rfl (Nat.le_of_ble_eq_true rfl) (fun X hXl hXA C R => ?_)
  subst hXl; subst hXA
  unfold fX10_areIn at h
  refine s_iconst (v := 1) C (by decide) dX10_areIn_0 ?_
  refine s_istore3 C rfl dX10_areIn_1 ?_
  refine s_iconst (v := 0) C (by decide) dX10_areIn_2 ?_
  refine s_istore4 C rfl dX10_areIn_3 ?_
  exact bX10_areIn_5 C R hd  LF _ _ _ _ _ _ ho h
set_option maxRecDepth 4000 in
theorem tX10_isSlot {l : Launch} {E : En} {A : Nat → Prop} {d : Nat} {r : Int32} {M M' : Mem} {x0 : Int32} (hE : Okk E A) (hd : 1 ≤ d)  (h : fX10_isSlot x0 M = some (r, M')) : Ct l E A d yX10_isSlot cX10_isSlot 1 (some .boolean) [.int x0] M (some (.int r)) M' := by
  refine Ct.mk (ls := [some (.int x0)]) hE (by decide +kernel) rfl (Nat.le_of_ble_eq_true rfl) (fun X hXl hXA C R => ?_)
  subst hXl; subst hXA
  unfold fX10_isSlot at h
  refine s_iload0 C dX10_isSlot_0 ?_
  refine s_i2l C dX10_isSlot_1 ?_
  refine s_lconst (v := 0) C (by decide) dX10_isSlot_2 ?_
  refine s_ldc2 (v := 3) C k_1569 dX10_isSlot_3 ?_
  obtain ⟨r2, M1, hq, h⟩ := bI_e h
  refine s_callS (As := [.long (x0).toInt64, .long (0 : Int64), .long (3 : Int64)]) (v := some (.int r2)) C rfl (by omega) wX10_139 rfl (Nat.le_of_ble_eq_true rfl) dX10_isSlot_6 (tX10_in C.2.2.2.2.2.2.1 (by omega)  hq) ?_
  obtain ⟨hb, h⟩ := ck_e h
  exact s_zret C R h (isB_n hb).1 dX10_isSlot_9
set_option maxRecDepth 4000 in
theorem bX10_trace_95 {E : En} {X : Xc} {d : Nat} {r : Int32} {M M' : Mem} {o : Nat} {x1 : Int32} {x3 : Int32} {x4 : Int32} {sx0 : Int32} {sx1 : Int32} (C : Cx E X d cX10_trace RX10 5) (R : Rt E X (some .int) (some (.int r)) M') (hd : 5 ≤ d) {k51 : Nat → Int32 → Int32 → Int32 → Mem → Option (Int32 × Mem)} (hk51 : ∀ (o : Nat) (x1 : Int32) (x2 : Int32) (x3 : Int32) (M : Mem) (_ : kd o = (10, 0)), k51 o x1 x2 x3 M = some (r, M') → At E X 51 [some (.ref (ad E o)), some (.int x1), some (.int x2), some (.int x3), none] [] M) (ho : kd o = (10, 0)) (h : fX10_trace_95 k51 o x1 x3 x4 sx0 sx1 M = some (r, M')) : At E X 95 [some (.ref (ad E o)), some (.int x1), none, some (.int x3), some (.int x4)] [.int sx1, .int sx0] M := by
  unfold fX10_trace_95 at h
  refine s_iadd C dX10_trace_95 ?_
  refine s_istore2 C rfl dX10_trace_96 ?_
  refine s_aload0 C dX10_trace_97 ?_
  refine s_iload4 C dX10_trace_98 ?_
  refine s_iconst (v := 2) C (by decide) dX10_trace_100 ?_
  refine s_iremc C (by decide) dX10_trace_101 ?_
  obtain ⟨M1, hq, h⟩ := bV_e h
  refine s_callV (T := TX10) (As := [.int (irm x4 (2 : Int32))]) (v := none) C rfl ho (by decide) rfl (by omega) wX10_459 rfl (Nat.le_of_ble_eq_true rfl) dX10_trace_102 (tX10_learn C.2.2.2.2.2.2.1 (by omega) ho hq) ?_
  refine s_iinc3 (v := 1) C rfl dX10_trace_105 (by decide) ?_
  refine s_goto (tgt := 51) C dX10_trace_108 (by decide) ?_
  refine s_fg 4 ?_
  exact hk51 _ _ _ _ _ ho h
set_option maxRecDepth 4000 in
theorem bX10_trace_51 {E : En} {X : Xc} {d : Nat} {r : Int32} {M' : Mem} (C : Cx E X d cX10_trace RX10 5) (R : Rt E X (some .int) (some (.int r)) M') (hd : 5 ≤ d)   : ∀ (n : Nat) (o : Nat) (x1 : Int32) (x2 : Int32) (x3 : Int32) (M : Mem) (_ : kd o = (10, 0)), fX10_trace_51  n o x1 x2 x3 M = some (r, M') → At E X 51 [some (.ref (ad E o)), some (.int x1), some (.int x2), some (.int x3), none] [] M := by
  intro n
  induction n with
  | zero => intro o x1 x2 x3 M ho h; rw [fX10_trace_51] at h; cases h
  | succ n ih =>
    intro o x1 x2 x3 M ho h
    rw [fX10_trace_51] at h
    refine s_iload3 C dX10_trace_51 ?_
    refine s_aload0 C dX10_trace_52 ?_
    refine gX10_115 C ho dX10_trace_53 ?_
    refine s_iload1 C dX10_trace_56 ?_
    refine s_iald C (qX10_many ho) h dX10_trace_57 (fun h => ?_)
    refine s_ic_ge (tgt := 111) C h dX10_trace_58 (by decide) ⟨fun h => ?_, fun h => ?_⟩
    · refine s_iload2 C dX10_trace_111 ?_
      exact s_iret C R h dX10_trace_112
    · refine s_aload0 C dX10_trace_61 ?_
      refine s_iload1 C dX10_trace_62 ?_
      refine s_iload3 C dX10_trace_63 ?_
      obtain ⟨r2, M1, hq, h⟩ := bL_e h
      refine s_callV (T := TX10) (As := [.int x1, .int x3]) (v := some (.long r2)) C rfl ho (by decide) rfl (by omega) wX10_560 rfl (Nat.le_of_ble_eq_true rfl) dX10_trace_64 (tX10_numberIn C.2.2.2.2.2.2.1 (by omega) ho hq) ?_
      refine s_l2i C dX10_trace_67 ?_
      refine s_istore4 C rfl dX10_trace_68 ?_
      refine s_aload0 C dX10_trace_70 ?_
      refine s_iload4 C dX10_trace_71 ?_
      refine s_iconst (v := 2) C (by decide) dX10_trace_73 ?_
      refine s_idivc C (by decide) dX10_trace_74 ?_
      obtain ⟨M3, hq, h⟩ := bV_e h
      refine s_callV (T := TX10) (As := [.int ((r2).toInt32 / (2 : Int32))]) (v := none) C rfl ho (by decide) rfl (by omega) wX10_456 rfl (Nat.le_of_ble_eq_true rfl) dX10_trace_75 (tX10_ask C.2.2.2.2.2.2.1 (by omega) ho hq) ?_
      refine s_iload2 C dX10_trace_78 ?_
      refine s_aload0 C dX10_trace_79 ?_
      refine gX10_422 C ho dX10_trace_80 ?_
      refine s_iload4 C dX10_trace_83 ?_
      refine s_iconst (v := 2) C (by decide) dX10_trace_85 ?_
      refine s_iremc C (by decide) dX10_trace_86 ?_
      refine s_ic_ne (tgt := 94) C h dX10_trace_87 (by decide) ⟨fun h => ?_, fun h => ?_⟩
      · refine s_iconst (v := 1) C (by decide) dX10_trace_94 ?_
        refine s_fg 2 ?_
        exact bX10_trace_95 C R hd (ih) ho h
      · refine s_iconst (v := 0) C (by decide) dX10_trace_90 ?_
        refine s_goto (tgt := 95) C dX10_trace_91 (by decide) ?_
        refine s_fg 2 ?_
        exact bX10_trace_95 C R hd (ih) ho h
set_option maxRecDepth 4000 in
theorem tX10_trace {l : Launch} {E : En} {A : Nat → Prop} {d : Nat} {r : Int32} {M M' : Mem} {o : Nat} {x1 : Int32} (hE : Okk E A) (hd : 5 ≤ d) (ho : kd o = (10, 0)) (h : fX10_trace o x1 M = some (r, M')) : Ct l E A d yX10_trace cX10_trace 5 (some .int) [.ref (ad E o), .int x1] M (some (.int r)) M' := by
  refine Ct.mk (ls := [some (.ref (ad E o)), some (.int x1), none, none, none]) hE (by decide +kernel) rfl (Nat.le_of_ble_eq_true rfl) (fun X hXl hXA C R => ?_)
  subst hXl; subst hXA
  unfold fX10_trace at h
  refine s_iload1 C dX10_trace_0 ?_
  obtain ⟨r2, M1, hq, h⟩ := bI_e h
  refine s_callS (As := [.int x1]) (v := some (.int r2)) C rfl (by omega) wX10_564 rfl (Nat.le_of_ble_eq_true rfl) dX10_trace_1 (tX10_isSlot C.2.2.2.2.2.2.1 (by omega)  hq) ?_
  refine s_if_eq (tgt := 14) C h dX10_trace_4 (by decide) ⟨fun h => ?_, fun h => ?_⟩
  · refine s_bipush (v := -2) C (by decide) dX10_trace_14 ?_
    exact s_iret C R h dX10_trace_16
  · refine s_aload0 C dX10_trace_7 ?_
    obtain ⟨r4, M3, hq, h⟩ := bI_e h
    refine s_callV (T := TX10) (As := []) (v := some (.int r4)) C rfl ho (by decide) rfl (by omega) wX10_471 rfl (Nat.le_of_ble_eq_true rfl) dX10_trace_8 (tX10_lays C.2.2.2.2.2.2.1 (by omega) ho hq) ?_
    refine s_if_ne (tgt := 17) C h dX10_trace_11 (by decide) ⟨fun h => ?_, fun h => ?_⟩
    · refine s_aload0 C dX10_trace_17 ?_
      refine gX10_115 C ho dX10_trace_18 ?_
      refine s_iload1 C dX10_trace_21 ?_
      refine s_iald C (qX10_many ho) h dX10_trace_22 (fun h => ?_)
      refine s_iconst (v := -1) C (by decide) dX10_trace_23 ?_
      refine s_ic_ne (tgt := 30) C h dX10_trace_24 (by decide) ⟨fun h => ?_, fun h => ?_⟩
      · refine s_aload0 C dX10_trace_30 ?_
        refine s_iload1 C dX10_trace_31 ?_
        refine s_bipush (v := 127) C (by decide) dX10_trace_32 ?_
        obtain ⟨r6, M5, hq, h⟩ := bI_e h
        refine s_callV (T := TX10) (As := [.int x1, .int (127 : Int32)]) (v := some (.int r6)) C rfl ho (by decide) rfl (by omega) wX10_567 rfl (Nat.le_of_ble_eq_true rfl) dX10_trace_34 (tX10_areIn C.2.2.2.2.2.2.1 (by omega) ho hq) ?_
        refine s_if_ne (tgt := 43) C h dX10_trace_37 (by decide) ⟨fun h => ?_, fun h => ?_⟩
        · refine s_iconst (v := 0) C (by decide) dX10_trace_43 ?_
          refine s_istore2 C rfl dX10_trace_44 ?_
          refine s_aload0 C dX10_trace_45 ?_
          obtain ⟨M7, hq, h⟩ := bV_e h
          refine s_callV (T := TX10) (As := []) (v := none) C rfl ho (by decide) rfl (by omega) wX10_453 rfl (Nat.le_of_ble_eq_true rfl) dX10_trace_46 (tX10_beginGuesser C.2.2.2.2.2.2.1 (by omega) ho hq) ?_
          refine s_iconst (v := 0) C (by decide) dX10_trace_49 ?_
          refine s_istore3 C rfl dX10_trace_50 ?_
          exact bX10_trace_51 C R hd  LF _ _ _ _ _ ho h
        · refine s_bipush (v := -2) C (by decide) dX10_trace_40 ?_
          exact s_iret C R h dX10_trace_42
      · refine s_bipush (v := -6) C (by decide) dX10_trace_27 ?_
        exact s_iret C R h dX10_trace_29
    · refine s_bipush (v := -2) C (by decide) dX10_trace_14 ?_
      exact s_iret C R h dX10_trace_16
set_option maxRecDepth 4000 in
theorem bX10_like_137 {E : En} {X : Xc} {d : Nat} {r : Int32} {M M' : Mem} {o : Nat} {x1 : Int32} {x3 : Int32} {sx0 : Int32} {sx1 : Int32} (C : Cx E X d cX10_like RX10 6) (R : Rt E X (some .int) (some (.int r)) M') (hd : 6 ≤ d) {k59 : Nat → Int32 → Int32 → Int32 → Mem → Option (Int32 × Mem)} (hk59 : ∀ (o : Nat) (x1 : Int32) (x2 : Int32) (x3 : Int32) (M : Mem) (_ : kd o = (10, 0)), k59 o x1 x2 x3 M = some (r, M') → At E X 59 [some (.ref (ad E o)), some (.int x1), some (.int x2), some (.int x3), none, none] [] M) (ho : kd o = (10, 0)) (h : fX10_like_137 k59 o x1 x3 sx0 sx1 M = some (r, M')) : At E X 137 [some (.ref (ad E o)), some (.int x1), none, some (.int x3), none, none] [.int sx1, .int sx0] M := by
  unfold fX10_like_137 at h
  refine s_ior C dX10_like_137 ?_
  refine s_istore2 C rfl dX10_like_138 ?_
  refine s_iinc3 (v := 1) C rfl dX10_like_139 (by decide) ?_
  refine s_goto (tgt := 59) C dX10_like_142 (by decide) ?_
  exact hk59 _ _ _ _ _ ho h
set_option maxRecDepth 4000 in
theorem bX10_like_116 {E : En} {X : Xc} {d : Nat} {r : Int32} {M M' : Mem} {o : Nat} {x1 : Int32} {x2 : Int32} {x3 : Int32} {x5 : Int32} {sx0 : Int32} (C : Cx E X d cX10_like RX10 6) (R : Rt E X (some .int) (some (.int r)) M') (hd : 6 ≤ d) {k76 : Nat → Int32 → Int32 → Int32 → Int32 → Int32 → Mem → Option (Int32 × Mem)} (hk76 : ∀ (o : Nat) (x1 : Int32) (x2 : Int32) (x3 : Int32) (x4 : Int32) (x5 : Int32) (M : Mem) (_ : kd o = (10, 0)), k76 o x1 x2 x3 x4 x5 M = some (r, M') → At E X 76 [some (.ref (ad E o)), some (.int x1), some (.int x2), some (.int x3), some (.int x4), some (.int x5)] [] M) (ho : kd o = (10, 0)) (h : fX10_like_116 k76 o x1 x2 x3 x5 sx0 M = some (r, M')) : At E X 116 [some (.ref (ad E o)), some (.int x1), some (.int x2), some (.int x3), none, some (.int x5)] [.int sx0] M := by
  unfold fX10_like_116 at h
  refine s_istore4 C rfl dX10_like_116 ?_
  refine s_iinc5 (v := 1) C rfl dX10_like_118 (by decide) ?_
  refine s_goto (tgt := 76) C dX10_like_121 (by decide) ?_
  exact hk76 _ _ _ _ _ _ _ ho h
set_option maxRecDepth 4000 in
theorem bX10_like_115 {E : En} {X : Xc} {d : Nat} {r : Int32} {M M' : Mem} {o : Nat} {x1 : Int32} {x2 : Int32} {x3 : Int32} {x5 : Int32} (C : Cx E X d cX10_like RX10 6) (R : Rt E X (some .int) (some (.int r)) M') (hd : 6 ≤ d) {k76 : Nat → Int32 → Int32 → Int32 → Int32 → Int32 → Mem → Option (Int32 × Mem)} (hk76 : ∀ (o : Nat) (x1 : Int32) (x2 : Int32) (x3 : Int32) (x4 : Int32) (x5 : Int32) (M : Mem) (_ : kd o = (10, 0)), k76 o x1 x2 x3 x4 x5 M = some (r, M') → At E X 76 [some (.ref (ad E o)), some (.int x1), some (.int x2), some (.int x3), some (.int x4), some (.int x5)] [] M) (ho : kd o = (10, 0)) (h : fX10_like_115 k76 o x1 x2 x3 x5 M = some (r, M')) : At E X 115 [some (.ref (ad E o)), some (.int x1), some (.int x2), some (.int x3), none, some (.int x5)] [] M := by
  unfold fX10_like_115 at h
  refine s_iconst (v := 0) C (by decide) dX10_like_115 ?_
  exact bX10_like_116 C R hd (hk76) ho h
set_option maxRecDepth 4000 in
theorem bX10_like_76 {E : En} {X : Xc} {d : Nat} {r : Int32} {M' : Mem} (C : Cx E X d cX10_like RX10 6) (R : Rt E X (some .int) (some (.int r)) M') (hd : 6 ≤ d) {k59 : Nat → Int32 → Int32 → Int32 → Mem → Option (Int32 × Mem)} (hk59 : ∀ (o : Nat) (x1 : Int32) (x2 : Int32) (x3 : Int32) (M : Mem) (_ : kd o = (10, 0)), k59 o x1 x2 x3 M = some (r, M') → At E X 59 [some (.ref (ad E o)), some (.int x1), some (.int x2), some (.int x3), none, none] [] M) : ∀ (n : Nat) (o : Nat) (x1 : Int32) (x2 : Int32) (x3 : Int32) (x4 : Int32) (x5 : Int32) (M : Mem) (_ : kd o = (10, 0)), fX10_like_76 k59 n o x1 x2 x3 x4 x5 M = some (r, M') → At E X 76 [some (.ref (ad E o)), some (.int x1), some (.int x2), some (.int x3), some (.int x4), some (.int x5)] [] M := by
  intro n
  induction n with
  | zero => intro o x1 x2 x3 x4 x5 M ho h; rw [fX10_like_76] at h; cases h
  | succ n ih =>
    intro o x1 x2 x3 x4 x5 M ho h
    rw [fX10_like_76] at h
    refine s_iload5 C dX10_like_76 ?_
    refine s_aload0 C dX10_like_78 ?_
    refine gX10_115 C ho dX10_like_79 ?_
    refine s_iload1 C dX10_like_82 ?_
    refine s_iald C (qX10_many ho) h dX10_like_83 (fun h => ?_)
    refine s_ic_ge (tgt := 124) C h dX10_like_84 (by decide) ⟨fun h => ?_, fun h => ?_⟩
    · refine s_iload2 C dX10_like_124 ?_
      refine s_iload4 C dX10_like_125 ?_
      refine s_if_eq (tgt := 136) C h dX10_like_127 (by decide) ⟨fun h => ?_, fun h => ?_⟩
      · refine s_iconst (v := 0) C (by decide) dX10_like_136 ?_
        refine s_fg 2 ?_
        refine s_fg 4 ?_
        refine s_fg 5 ?_
        exact bX10_like_137 C R hd (hk59) ho h
      · refine s_iconst (v := 1) C (by decide) dX10_like_130 ?_
        refine s_iload3 C dX10_like_131 ?_
        refine s_ishl C dX10_like_132 ?_
        refine s_goto (tgt := 137) C dX10_like_133 (by decide) ?_
        refine s_fg 2 ?_
        refine s_fg 4 ?_
        refine s_fg 5 ?_
        exact bX10_like_137 C R hd (hk59) ho h
    · refine s_iload4 C dX10_like_87 ?_
      refine s_if_eq (tgt := 115) C h dX10_like_89 (by decide) ⟨fun h => ?_, fun h => ?_⟩
      · refine s_fg 4 ?_
        exact bX10_like_115 C R hd (ih) ho h
      · refine s_aload0 C dX10_like_92 ?_
        refine gX10_91 C ho dX10_like_93 ?_
        refine s_iload5 C dX10_like_96 ?_
        refine s_iald C (qX10_guessOf ho) h dX10_like_98 (fun h => ?_)
        refine s_i2l C dX10_like_99 ?_
        refine s_aload0 C dX10_like_100 ?_
        refine s_iload1 C dX10_like_101 ?_
        refine s_iload5 C dX10_like_102 ?_
        obtain ⟨r2, M1, hq, h⟩ := bL_e h
        refine s_callV (T := TX10) (As := [.int x1, .int x5]) (v := some (.long r2)) C rfl ho (by decide) rfl (by omega) wX10_560 rfl (Nat.le_of_ble_eq_true rfl) dX10_like_104 (tX10_numberIn C.2.2.2.2.2.2.1 (by omega) ho hq) ?_
        refine s_lcmp C dX10_like_107 ?_
        refine s_if_ne (tgt := 115) C h dX10_like_108 (by decide) ⟨fun h => ?_, fun h => ?_⟩
        · refine s_fg 4 ?_
          exact bX10_like_115 C R hd (ih) ho h
        · refine s_iconst (v := 1) C (by decide) dX10_like_111 ?_
          refine s_goto (tgt := 116) C dX10_like_112 (by decide) ?_
          refine s_fg 4 ?_
          exact bX10_like_116 C R hd (ih) ho h
set_option maxRecDepth 4000 in
theorem bX10_like_59 {E : En} {X : Xc} {d : Nat} {r : Int32} {M' : Mem} (C : Cx E X d cX10_like RX10 6) (R : Rt E X (some .int) (some (.int r)) M') (hd : 6 ≤ d)   : ∀ (n : Nat) (o : Nat) (x1 : Int32) (x2 : Int32) (x3 : Int32) (M : Mem) (_ : kd o = (10, 0)), fX10_like_59  n o x1 x2 x3 M = some (r, M') → At E X 59 [some (.ref (ad E o)), some (.int x1), some (.int x2), some (.int x3), none, none] [] M := by
  intro n
  induction n with
  | zero => intro o x1 x2 x3 M ho h; rw [fX10_like_59] at h; cases h
  | succ n ih =>
    intro o x1 x2 x3 M ho h
    rw [fX10_like_59] at h
    refine s_iload3 C dX10_like_59 ?_
    refine s_bipush (v := 8) C (by decide) dX10_like_60 ?_
    refine s_ic_ge (tgt := 145) C h dX10_like_62 (by decide) ⟨fun h => ?_, fun h => ?_⟩
    · refine s_iload2 C dX10_like_145 ?_
      exact s_iret C R h dX10_like_146
    · refine s_aload0 C dX10_like_65 ?_
      refine s_iload3 C dX10_like_66 ?_
      obtain ⟨M1, hq, h⟩ := bV_e h
      refine s_callV (T := TX10) (As := [.int x3]) (v := none) C rfl ho (by decide) rfl (by omega) wX10_526 rfl (Nat.le_of_ble_eq_true rfl) dX10_like_67 (tX10_playBy C.2.2.2.2.2.2.1 (by omega) ho hq) ?_
      refine s_iconst (v := 1) C (by decide) dX10_like_70 ?_
      refine s_istore4 C rfl dX10_like_71 ?_
      refine s_iconst (v := 0) C (by decide) dX10_like_73 ?_
      refine s_istore5 C rfl dX10_like_74 ?_
      exact bX10_like_76 C R hd (ih) LF _ _ _ _ _ _ _ ho h
set_option maxRecDepth 4000 in
theorem tX10_like {l : Launch} {E : En} {A : Nat → Prop} {d : Nat} {r : Int32} {M M' : Mem} {o : Nat} {x1 : Int32} (hE : Okk E A) (hd : 6 ≤ d) (ho : kd o = (10, 0)) (h : fX10_like o x1 M = some (r, M')) : Ct l E A d yX10_like cX10_like 6 (some .int) [.ref (ad E o), .int x1] M (some (.int r)) M' := by
  refine Ct.mk (ls := [some (.ref (ad E o)), some (.int x1), none, none, none, none]) hE (by decide +kernel) rfl (Nat.le_of_ble_eq_true rfl) (fun X hXl hXA C R => ?_)
  subst hXl; subst hXA
  unfold fX10_like at h
  refine s_iload1 C dX10_like_0 ?_
  obtain ⟨r2, M1, hq, h⟩ := bI_e h
  refine s_callS (As := [.int x1]) (v := some (.int r2)) C rfl (by omega) wX10_564 rfl (Nat.le_of_ble_eq_true rfl) dX10_like_1 (tX10_isSlot C.2.2.2.2.2.2.1 (by omega)  hq) ?_
  refine s_if_eq (tgt := 14) C h dX10_like_4 (by decide) ⟨fun h => ?_, fun h => ?_⟩
  · refine s_bipush (v := -2) C (by decide) dX10_like_14 ?_
    exact s_iret C R h dX10_like_16
  · refine s_aload0 C dX10_like_7 ?_
    obtain ⟨r4, M3, hq, h⟩ := bI_e h
    refine s_callV (T := TX10) (As := []) (v := some (.int r4)) C rfl ho (by decide) rfl (by omega) wX10_471 rfl (Nat.le_of_ble_eq_true rfl) dX10_like_8 (tX10_lays C.2.2.2.2.2.2.1 (by omega) ho hq) ?_
    refine s_if_ne (tgt := 17) C h dX10_like_11 (by decide) ⟨fun h => ?_, fun h => ?_⟩
    · refine s_aload0 C dX10_like_17 ?_
      refine gX10_115 C ho dX10_like_18 ?_
      refine s_iload1 C dX10_like_21 ?_
      refine s_iald C (qX10_many ho) h dX10_like_22 (fun h => ?_)
      refine s_iconst (v := -1) C (by decide) dX10_like_23 ?_
      refine s_ic_ne (tgt := 30) C h dX10_like_24 (by decide) ⟨fun h => ?_, fun h => ?_⟩
      · refine s_aload0 C dX10_like_30 ?_
        refine s_iload1 C dX10_like_31 ?_
        refine s_iconst (v := 1) C (by decide) dX10_like_32 ?_
        obtain ⟨r6, M5, hq, h⟩ := bI_e h
        refine s_callV (T := TX10) (As := [.int x1, .int (1 : Int32)]) (v := some (.int r6)) C rfl ho (by decide) rfl (by omega) wX10_567 rfl (Nat.le_of_ble_eq_true rfl) dX10_like_33 (tX10_areIn C.2.2.2.2.2.2.1 (by omega) ho hq) ?_
        refine s_if_eq (tgt := 52) C h dX10_like_36 (by decide) ⟨fun h => ?_, fun h => ?_⟩
        · refine s_bipush (v := -2) C (by decide) dX10_like_52 ?_
          exact s_iret C R h dX10_like_54
        · refine s_aload0 C dX10_like_39 ?_
          refine gX10_115 C ho dX10_like_40 ?_
          refine s_iload1 C dX10_like_43 ?_
          refine s_iald C (qX10_many ho) h dX10_like_44 (fun h => ?_)
          refine s_aload0 C dX10_like_45 ?_
          refine gX10_289 C ho dX10_like_46 ?_
          refine s_ic_le (tgt := 55) C h dX10_like_49 (by decide) ⟨fun h => ?_, fun h => ?_⟩
          · refine s_iconst (v := 0) C (by decide) dX10_like_55 ?_
            refine s_istore2 C rfl dX10_like_56 ?_
            refine s_iconst (v := 0) C (by decide) dX10_like_57 ?_
            refine s_istore3 C rfl dX10_like_58 ?_
            exact bX10_like_59 C R hd  LF _ _ _ _ _ ho h
          · refine s_bipush (v := -2) C (by decide) dX10_like_52 ?_
            exact s_iret C R h dX10_like_54
      · refine s_bipush (v := -6) C (by decide) dX10_like_27 ?_
        exact s_iret C R h dX10_like_29
    · refine s_bipush (v := -2) C (by decide) dX10_like_14 ?_
      exact s_iret C R h dX10_like_16
set_option maxRecDepth 4000 in
theorem tX10_meets {l : Launch} {E : En} {A : Nat → Prop} {d : Nat} {r : Int32} {M M' : Mem} {o : Nat} {x1 : Int32} {x2 : Int32} (hE : Okk E A) (hd : 6 ≤ d) (ho : kd o = (10, 0)) (h : fX10_meets o x1 x2 M = some (r, M')) : Ct l E A d yX10_meets cX10_meets 3 (some .int) [.ref (ad E o), .int x1, .int x2] M (some (.int r)) M' := by
  refine Ct.mk (ls := [some (.ref (ad E o)), some (.int x1), some (.int x2)]) hE (by decide +kernel) rfl (Nat.le_of_ble_eq_true rfl) (fun X hXl hXA C R => ?_)
  subst hXl; subst hXA
  unfold fX10_meets at h
  refine s_aload0 C dX10_meets_0 ?_
  obtain ⟨r2, M1, hq, h⟩ := bI_e h
  refine s_callV (T := TX10) (As := []) (v := some (.int r2)) C rfl ho (by decide) rfl (by omega) wX10_468 rfl (Nat.le_of_ble_eq_true rfl) dX10_meets_1 (tX10_isProgram C.2.2.2.2.2.2.1 (by omega) ho hq) ?_
  refine s_if_eq (tgt := 25) C h dX10_meets_4 (by decide) ⟨fun h => ?_, fun h => ?_⟩
  · refine s_bipush (v := -2) C (by decide) dX10_meets_25 ?_
    exact s_iret C R h dX10_meets_27
  · refine s_iload1 C dX10_meets_7 ?_
    refine s_i2l C dX10_meets_8 ?_
    obtain ⟨r4, M3, hq, h⟩ := bI_e h
    refine s_callS (As := [.long (x1).toInt64]) (v := some (.int r4)) C rfl (by omega) wX10_492 rfl (Nat.le_of_ble_eq_true rfl) dX10_meets_9 (tX10_isAddress C.2.2.2.2.2.2.1 (by omega)  hq) ?_
    refine s_if_eq (tgt := 25) C h dX10_meets_12 (by decide) ⟨fun h => ?_, fun h => ?_⟩
    · refine s_bipush (v := -2) C (by decide) dX10_meets_25 ?_
      exact s_iret C R h dX10_meets_27
    · refine s_iload2 C dX10_meets_15 ?_
      refine s_i2l C dX10_meets_16 ?_
      refine s_lconst (v := 0) C (by decide) dX10_meets_17 ?_
      refine s_lconst (v := 1) C (by decide) dX10_meets_18 ?_
      obtain ⟨r6, M5, hq, h⟩ := bI_e h
      refine s_callS (As := [.long (x2).toInt64, .long (0 : Int64), .long (1 : Int64)]) (v := some (.int r6)) C rfl (by omega) wX10_139 rfl (Nat.le_of_ble_eq_true rfl) dX10_meets_19 (tX10_in C.2.2.2.2.2.2.1 (by omega)  hq) ?_
      refine s_if_ne (tgt := 28) C h dX10_meets_22 (by decide) ⟨fun h => ?_, fun h => ?_⟩
      · refine s_aload0 C dX10_meets_28 ?_
        refine gX10_9 C ho dX10_meets_29 ?_
        refine s_bipush (v := 8) C (by decide) dX10_meets_32 ?_
        refine s_iald C (qX10_world ho) h dX10_meets_34 (fun h => ?_)
        refine s_bipush (v := 40) C (by decide) dX10_meets_35 ?_
        refine s_ic_ne (tgt := 43) C h dX10_meets_37 (by decide) ⟨fun h => ?_, fun h => ?_⟩
        · refine s_aload0 C dX10_meets_43 ?_
          refine gX10_9 C ho dX10_meets_44 ?_
          refine s_sipush (v := 175) C (by decide) dX10_meets_47 ?_
          refine s_aload0 C dX10_meets_50 ?_
          refine gX10_9 C ho dX10_meets_51 ?_
          refine s_bipush (v := 8) C (by decide) dX10_meets_54 ?_
          refine s_iald C (qX10_world ho) h dX10_meets_56 (fun h => ?_)
          refine s_iadd C dX10_meets_57 ?_
          refine s_iconst (v := 2) C (by decide) dX10_meets_58 ?_
          refine s_iload1 C dX10_meets_59 ?_
          refine s_imul C dX10_meets_60 ?_
          refine s_iload2 C dX10_meets_61 ?_
          refine s_iadd C dX10_meets_62 ?_
          refine s_iast C (qX10_world ho) h dX10_meets_63 (fun h => ?_)
          refine s_aload0 C dX10_meets_64 ?_
          refine gX10_9 C ho dX10_meets_65 ?_
          refine s_bipush (v := 8) C (by decide) dX10_meets_68 ?_
          refine s_dup2 C rfl rfl dX10_meets_70 ?_
          refine s_iald C (qX10_world ho) h dX10_meets_71 (fun h => ?_)
          refine s_iconst (v := 1) C (by decide) dX10_meets_72 ?_
          refine s_iadd C dX10_meets_73 ?_
          refine s_iast C (qX10_world ho) h dX10_meets_74 (fun h => ?_)
          refine s_aload0 C dX10_meets_75 ?_
          obtain ⟨r8, M7, hq, h⟩ := bI_e h
          refine s_callV (T := TX10) (As := []) (v := some (.int r8)) C rfl ho (by decide) rfl (by omega) wX10_484 rfl (Nat.le_of_ble_eq_true rfl) dX10_meets_76 (tX10_asks C.2.2.2.2.2.2.1 (by omega) ho hq) ?_
          refine s_pop C rfl dX10_meets_79 ?_
          refine s_aload0 C dX10_meets_80 ?_
          refine s_aload0 C dX10_meets_81 ?_
          refine gX10_289 C ho dX10_meets_82 ?_
          refine s_iconst (v := 1) C (by decide) dX10_meets_85 ?_
          refine s_isub C dX10_meets_86 ?_
          obtain ⟨r10, M9, hq, h⟩ := bI_e h
          refine s_callV (T := TX10) (As := [.int ((M7.1 o 23) - (1 : Int32))]) (v := some (.int r10)) C rfl ho (by decide) rfl (by omega) wX10_477 rfl (Nat.le_of_ble_eq_true rfl) dX10_meets_87 (tX10_isWrong C.2.2.2.2.2.2.1 (by omega) ho hq) ?_
          refine s_if_eq (tgt := 97) C h dX10_meets_90 (by decide) ⟨fun h => ?_, fun h => ?_⟩
          · refine s_iconst (v := 1) C (by decide) dX10_meets_97 ?_
            exact s_iret C R h dX10_meets_98
          · refine s_iconst (v := 0) C (by decide) dX10_meets_93 ?_
            refine s_goto (tgt := 98) C dX10_meets_94 (by decide) ?_
            exact s_iret C R h dX10_meets_98
        · refine s_bipush (v := -5) C (by decide) dX10_meets_40 ?_
          exact s_iret C R h dX10_meets_42
      · refine s_bipush (v := -2) C (by decide) dX10_meets_25 ?_
        exact s_iret C R h dX10_meets_27
set_option maxRecDepth 4000 in
theorem tX10_undo {l : Launch} {E : En} {A : Nat → Prop} {d : Nat} {r : Int32} {M M' : Mem} {o : Nat} (hE : Okk E A) (hd : 1 ≤ d) (ho : kd o = (10, 0)) (h : fX10_undo o M = some (r, M')) : Ct l E A d yX10_undo cX10_undo 1 (some .int) [.ref (ad E o)] M (some (.int r)) M' := by
  refine Ct.mk (ls := [some (.ref (ad E o))]) hE (by decide +kernel) rfl (Nat.le_of_ble_eq_true rfl) (fun X hXl hXA C R => ?_)
  subst hXl; subst hXA
  unfold fX10_undo at h
  refine s_aload0 C dX10_undo_0 ?_
  obtain ⟨r2, M1, hq, h⟩ := bI_e h
  refine s_callV (T := TX10) (As := []) (v := some (.int r2)) C rfl ho (by decide) rfl (by omega) wX10_468 rfl (Nat.le_of_ble_eq_true rfl) dX10_undo_1 (tX10_isProgram C.2.2.2.2.2.2.1 (by omega) ho hq) ?_
  refine s_if_ne (tgt := 10) C h dX10_undo_4 (by decide) ⟨fun h => ?_, fun h => ?_⟩
  · refine s_aload0 C dX10_undo_10 ?_
    refine gX10_9 C ho dX10_undo_11 ?_
    refine s_bipush (v := 8) C (by decide) dX10_undo_14 ?_
    refine s_iald C (qX10_world ho) h dX10_undo_16 (fun h => ?_)
    refine s_if_ne (tgt := 23) C h dX10_undo_17 (by decide) ⟨fun h => ?_, fun h => ?_⟩
    · refine s_aload0 C dX10_undo_23 ?_
      refine gX10_9 C ho dX10_undo_24 ?_
      refine s_bipush (v := 8) C (by decide) dX10_undo_27 ?_
      refine s_dup2 C rfl rfl dX10_undo_29 ?_
      refine s_iald C (qX10_world ho) h dX10_undo_30 (fun h => ?_)
      refine s_iconst (v := 1) C (by decide) dX10_undo_31 ?_
      refine s_isub C dX10_undo_32 ?_
      refine s_iast C (qX10_world ho) h dX10_undo_33 (fun h => ?_)
      refine s_aload0 C dX10_undo_34 ?_
      refine gX10_9 C ho dX10_undo_35 ?_
      refine s_bipush (v := 8) C (by decide) dX10_undo_38 ?_
      refine s_iald C (qX10_world ho) h dX10_undo_40 (fun h => ?_)
      exact s_iret C R h dX10_undo_41
    · refine s_bipush (v := -5) C (by decide) dX10_undo_20 ?_
      exact s_iret C R h dX10_undo_22
  · refine s_bipush (v := -2) C (by decide) dX10_undo_7 ?_
    exact s_iret C R h dX10_undo_9
set_option maxRecDepth 4000 in
theorem tX10_anew {l : Launch} {E : En} {A : Nat → Prop} {d : Nat} {r : Int32} {M M' : Mem} {o : Nat} (hE : Okk E A) (hd : 1 ≤ d) (ho : kd o = (10, 0)) (h : fX10_anew o M = some (r, M')) : Ct l E A d yX10_anew cX10_anew 2 (some .int) [.ref (ad E o)] M (some (.int r)) M' := by
  refine Ct.mk (ls := [some (.ref (ad E o)), none]) hE (by decide +kernel) rfl (Nat.le_of_ble_eq_true rfl) (fun X hXl hXA C R => ?_)
  subst hXl; subst hXA
  unfold fX10_anew at h
  refine s_aload0 C dX10_anew_0 ?_
  obtain ⟨r2, M1, hq, h⟩ := bI_e h
  refine s_callV (T := TX10) (As := []) (v := some (.int r2)) C rfl ho (by decide) rfl (by omega) wX10_468 rfl (Nat.le_of_ble_eq_true rfl) dX10_anew_1 (tX10_isProgram C.2.2.2.2.2.2.1 (by omega) ho hq) ?_
  refine s_if_ne (tgt := 10) C h dX10_anew_4 (by decide) ⟨fun h => ?_, fun h => ?_⟩
  · refine s_aload0 C dX10_anew_10 ?_
    refine gX10_9 C ho dX10_anew_11 ?_
    refine s_bipush (v := 8) C (by decide) dX10_anew_14 ?_
    refine s_iald C (qX10_world ho) h dX10_anew_16 (fun h => ?_)
    refine s_istore1 C rfl dX10_anew_17 ?_
    refine s_aload0 C dX10_anew_18 ?_
    refine gX10_9 C ho dX10_anew_19 ?_
    refine s_bipush (v := 8) C (by decide) dX10_anew_22 ?_
    refine s_iconst (v := 0) C (by decide) dX10_anew_24 ?_
    refine s_iast C (qX10_world ho) h dX10_anew_25 (fun h => ?_)
    refine s_iload1 C dX10_anew_26 ?_
    exact s_iret C R h dX10_anew_27
  · refine s_bipush (v := -2) C (by decide) dX10_anew_7 ?_
    exact s_iret C R h dX10_anew_9
set_option maxRecDepth 4000 in
theorem bX10_count_113 {E : En} {X : Xc} {d : Nat} {r : Int32} {M M' : Mem} {o : Nat} {x3 : Int32} {sx0 : Int32} {sx1 : Int32} (C : Cx E X d cX10_count RX10 4) (R : Rt E X (some .int) (some (.int r)) M') (hd : 5 ≤ d) {k92 : Nat → Int32 → Int32 → Mem → Option (Int32 × Mem)} (hk92 : ∀ (o : Nat) (x2 : Int32) (x3 : Int32) (M : Mem) (_ : kd o = (10, 0)), k92 o x2 x3 M = some (r, M') → At E X 92 [some (.ref (ad E o)), none, some (.int x2), some (.int x3)] [] M) (ho : kd o = (10, 0)) (h : fX10_count_113 k92 o x3 sx0 sx1 M = some (r, M')) : At E X 113 [some (.ref (ad E o)), none, none, some (.int x3)] [.int sx1, .int sx0] M := by
  unfold fX10_count_113 at h
  refine s_iadd C dX10_count_113 ?_
  refine s_istore2 C rfl dX10_count_114 ?_
  refine s_iinc3 (v := 1) C rfl dX10_count_115 (by decide) ?_
  refine s_goto (tgt := 92) C dX10_count_118 (by decide) ?_
  exact hk92 _ _ _ _ ho h
set_option maxRecDepth 4000 in
theorem bX10_count_92 {E : En} {X : Xc} {d : Nat} {r : Int32} {M' : Mem} (C : Cx E X d cX10_count RX10 4) (R : Rt E X (some .int) (some (.int r)) M') (hd : 5 ≤ d)   : ∀ (n : Nat) (o : Nat) (x2 : Int32) (x3 : Int32) (M : Mem) (_ : kd o = (10, 0)), fX10_count_92  n o x2 x3 M = some (r, M') → At E X 92 [some (.ref (ad E o)), none, some (.int x2), some (.int x3)] [] M := by
  intro n
  induction n with
  | zero => intro o x2 x3 M ho h; rw [fX10_count_92] at h; cases h
  | succ n ih =>
    intro o x2 x3 M ho h
    rw [fX10_count_92] at h
    refine s_iload3 C dX10_count_92 ?_
    refine s_iconst (v := 4) C (by decide) dX10_count_93 ?_
    refine s_ic_ge (tgt := 121) C h dX10_count_94 (by decide) ⟨fun h => ?_, fun h => ?_⟩
    · refine s_iload2 C dX10_count_121 ?_
      exact s_iret C R h dX10_count_122
    · refine s_iload2 C dX10_count_97 ?_
      refine s_aload0 C dX10_count_98 ?_
      refine gX10_115 C ho dX10_count_99 ?_
      refine s_iload3 C dX10_count_102 ?_
      refine s_iald C (qX10_many ho) h dX10_count_103 (fun h => ?_)
      refine s_iconst (v := -1) C (by decide) dX10_count_104 ?_
      refine s_ic_ne (tgt := 112) C h dX10_count_105 (by decide) ⟨fun h => ?_, fun h => ?_⟩
      · refine s_iconst (v := 1) C (by decide) dX10_count_112 ?_
        refine s_fg 2 ?_
        exact bX10_count_113 C R hd (ih) ho h
      · refine s_iconst (v := 0) C (by decide) dX10_count_108 ?_
        refine s_goto (tgt := 113) C dX10_count_109 (by decide) ?_
        refine s_fg 2 ?_
        exact bX10_count_113 C R hd (ih) ho h
set_option maxRecDepth 4000 in
theorem tX10_count {l : Launch} {E : En} {A : Nat → Prop} {d : Nat} {r : Int32} {M M' : Mem} {o : Nat} {x1 : Int32} (hE : Okk E A) (hd : 5 ≤ d) (ho : kd o = (10, 0)) (h : fX10_count o x1 M = some (r, M')) : Ct l E A d yX10_count cX10_count 4 (some .int) [.ref (ad E o), .int x1] M (some (.int r)) M' := by
  refine Ct.mk (ls := [some (.ref (ad E o)), some (.int x1), none, none]) hE (by decide +kernel) rfl (Nat.le_of_ble_eq_true rfl) (fun X hXl hXA C R => ?_)
  subst hXl; subst hXA
  unfold fX10_count at h
  refine s_iload1 C dX10_count_0 ?_
  refine s_i2l C dX10_count_1 ?_
  refine s_lconst (v := 0) C (by decide) dX10_count_2 ?_
  refine s_ldc2 (v := 7) C k_1645 dX10_count_3 ?_
  obtain ⟨r2, M1, hq, h⟩ := bI_e h
  refine s_callS (As := [.long (x1).toInt64, .long (0 : Int64), .long (7 : Int64)]) (v := some (.int r2)) C rfl (by omega) wX10_139 rfl (Nat.le_of_ble_eq_true rfl) dX10_count_6 (tX10_in C.2.2.2.2.2.2.1 (by omega)  hq) ?_
  refine s_if_eq (tgt := 19) C h dX10_count_9 (by decide) ⟨fun h => ?_, fun h => ?_⟩
  · refine s_iload1 C dX10_count_19 ?_
    refine s_bipush (v := 8) C (by decide) dX10_count_20 ?_
    refine s_ic_ne (tgt := 41) C h dX10_count_22 (by decide) ⟨fun h => ?_, fun h => ?_⟩
    · refine s_iload1 C dX10_count_41 ?_
      refine s_bipush (v := 9) C (by decide) dX10_count_42 ?_
      refine s_ic_ne (tgt := 55) C h dX10_count_44 (by decide) ⟨fun h => ?_, fun h => ?_⟩
      · refine s_iload1 C dX10_count_55 ?_
        refine s_bipush (v := 10) C (by decide) dX10_count_56 ?_
        refine s_ic_ne (tgt := 69) C h dX10_count_58 (by decide) ⟨fun h => ?_, fun h => ?_⟩
        · refine s_iload1 C dX10_count_69 ?_
          refine s_bipush (v := 11) C (by decide) dX10_count_70 ?_
          refine s_ic_ne (tgt := 80) C h dX10_count_72 (by decide) ⟨fun h => ?_, fun h => ?_⟩
          · refine s_iload1 C dX10_count_80 ?_
            refine s_bipush (v := 12) C (by decide) dX10_count_81 ?_
            refine s_ic_eq (tgt := 88) C h dX10_count_83 (by decide) ⟨fun h => ?_, fun h => ?_⟩
            · refine s_iconst (v := 0) C (by decide) dX10_count_88 ?_
              refine s_istore2 C rfl dX10_count_89 ?_
              refine s_iconst (v := 0) C (by decide) dX10_count_90 ?_
              refine s_istore3 C rfl dX10_count_91 ?_
              refine s_fg 1 ?_
              exact bX10_count_92 C R hd  LF _ _ _ _ ho h
            · refine s_iconst (v := -1) C (by decide) dX10_count_86 ?_
              exact s_iret C R h dX10_count_87
          · refine s_aload0 C dX10_count_75 ?_
            refine gX10_169 C ho dX10_count_76 ?_
            exact s_iret C R h dX10_count_79
        · refine s_aload0 C dX10_count_61 ?_
          refine gX10_9 C ho dX10_count_62 ?_
          refine s_bipush (v := 9) C (by decide) dX10_count_65 ?_
          refine s_iald C (qX10_world ho) h dX10_count_67 (fun h => ?_)
          exact s_iret C R h dX10_count_68
      · refine s_aload0 C dX10_count_47 ?_
        refine gX10_9 C ho dX10_count_48 ?_
        refine s_bipush (v := 8) C (by decide) dX10_count_51 ?_
        refine s_iald C (qX10_world ho) h dX10_count_53 (fun h => ?_)
        exact s_iret C R h dX10_count_54
    · refine s_aload0 C dX10_count_25 ?_
      obtain ⟨r4, M3, hq, h⟩ := bI_e h
      refine s_callV (T := TX10) (As := []) (v := some (.int r4)) C rfl ho (by decide) rfl (by omega) wX10_471 rfl (Nat.le_of_ble_eq_true rfl) dX10_count_26 (tX10_lays C.2.2.2.2.2.2.1 (by omega) ho hq) ?_
      refine s_if_eq (tgt := 39) C h dX10_count_29 (by decide) ⟨fun h => ?_, fun h => ?_⟩
      · refine s_iconst (v := 0) C (by decide) dX10_count_39 ?_
        exact s_iret C R h dX10_count_40
      · refine s_aload0 C dX10_count_32 ?_
        refine gX10_326 C ho dX10_count_33 ?_
        refine s_goto (tgt := 40) C dX10_count_36 (by decide) ?_
        exact s_iret C R h dX10_count_40
  · refine s_aload0 C dX10_count_12 ?_
    refine gX10_9 C ho dX10_count_13 ?_
    refine s_iload1 C dX10_count_16 ?_
    refine s_iald C (qX10_world ho) h dX10_count_17 (fun h => ?_)
    exact s_iret C R h dX10_count_18
set_option maxRecDepth 4000 in
theorem bX10_row_50 {E : En} {X : Xc} {d : Nat} {r : Int32} {M' : Mem} (C : Cx E X d cX10_row RX10 5) (R : Rt E X (some .int) (some (.int r)) M') (hd : 2 ≤ d)   : ∀ (n : Nat) (o : Nat) (x1 : Int32) (x4 : Int32) (M : Mem) (_ : kd o = (10, 0)), fX10_row_50  n o x1 x4 M = some (r, M') → At E X 50 [some (.ref (ad E o)), some (.int x1), none, none, some (.int x4)] [] M := by
  intro n
  induction n with
  | zero => intro o x1 x4 M ho h; rw [fX10_row_50] at h; cases h
  | succ n ih =>
    intro o x1 x4 M ho h
    rw [fX10_row_50] at h
    refine s_iload4 C dX10_row_50 ?_
    refine s_bipush (v := 60) C (by decide) dX10_row_52 ?_
    refine s_ic_ge (tgt := 76) C h dX10_row_54 (by decide) ⟨fun h => ?_, fun h => ?_⟩
    · refine s_iconst (v := 0) C (by decide) dX10_row_76 ?_
      exact s_iret C R h dX10_row_77
    · refine s_aload0 C dX10_row_57 ?_
      refine gX10_121 C ho dX10_row_58 ?_
      refine s_bipush (v := 60) C (by decide) dX10_row_61 ?_
      refine s_iload1 C dX10_row_63 ?_
      refine s_imul C dX10_row_64 ?_
      refine s_iload4 C dX10_row_65 ?_
      refine s_iadd C dX10_row_67 ?_
      refine s_lconst (v := 0) C (by decide) dX10_row_68 ?_
      refine s_last C (qX10_numbers ho) h dX10_row_69 (fun h => ?_)
      refine s_iinc4 (v := 1) C rfl dX10_row_70 (by decide) ?_
      refine s_goto (tgt := 50) C dX10_row_73 (by decide) ?_
      exact ih _ _ _ _ ho h
set_option maxRecDepth 4000 in
theorem tX10_row {l : Launch} {E : En} {A : Nat → Prop} {d : Nat} {r : Int32} {M M' : Mem} {o : Nat} {x1 : Int32} {x2 : Int32} {x3 : Int32} (hE : Okk E A) (hd : 2 ≤ d) (ho : kd o = (10, 0)) (h : fX10_row o x1 x2 x3 M = some (r, M')) : Ct l E A d yX10_row cX10_row 5 (some .int) [.ref (ad E o), .int x1, .int x2, .int x3] M (some (.int r)) M' := by
  refine Ct.mk (ls := [some (.ref (ad E o)), some (.int x1), some (.int x2), some (.int x3), none]) hE (by decide +kernel) rfl (Nat.le_of_ble_eq_true rfl) (fun X hXl hXA C R => ?_)
  subst hXl; subst hXA
  unfold fX10_row at h
  refine s_iload1 C dX10_row_0 ?_
  obtain ⟨r2, M1, hq, h⟩ := bI_e h
  refine s_callS (As := [.int x1]) (v := some (.int r2)) C rfl (by omega) wX10_564 rfl (Nat.le_of_ble_eq_true rfl) dX10_row_1 (tX10_isSlot C.2.2.2.2.2.2.1 (by omega)  hq) ?_
  refine s_if_eq (tgt := 23) C h dX10_row_4 (by decide) ⟨fun h => ?_, fun h => ?_⟩
  · refine s_bipush (v := -2) C (by decide) dX10_row_23 ?_
    exact s_iret C R h dX10_row_25
  · refine s_iload2 C dX10_row_7 ?_
    refine s_i2l C dX10_row_8 ?_
    refine s_lconst (v := 0) C (by decide) dX10_row_9 ?_
    refine s_lconst (v := 1) C (by decide) dX10_row_10 ?_
    obtain ⟨r4, M3, hq, h⟩ := bI_e h
    refine s_callS (As := [.long (x2).toInt64, .long (0 : Int64), .long (1 : Int64)]) (v := some (.int r4)) C rfl (by omega) wX10_139 rfl (Nat.le_of_ble_eq_true rfl) dX10_row_11 (tX10_in C.2.2.2.2.2.2.1 (by omega)  hq) ?_
    refine s_if_eq (tgt := 23) C h dX10_row_14 (by decide) ⟨fun h => ?_, fun h => ?_⟩
    · refine s_bipush (v := -2) C (by decide) dX10_row_23 ?_
      exact s_iret C R h dX10_row_25
    · refine s_iload3 C dX10_row_17 ?_
      refine s_bipush (v := 60) C (by decide) dX10_row_18 ?_
      refine s_ic_le (tgt := 26) C h dX10_row_20 (by decide) ⟨fun h => ?_, fun h => ?_⟩
      · refine s_iload3 C dX10_row_26 ?_
        refine s_if_ge (tgt := 33) C h dX10_row_27 (by decide) ⟨fun h => ?_, fun h => ?_⟩
        · refine s_aload0 C dX10_row_33 ?_
          refine gX10_115 C ho dX10_row_34 ?_
          refine s_iload1 C dX10_row_37 ?_
          refine s_iload3 C dX10_row_38 ?_
          refine s_iast C (qX10_many ho) h dX10_row_39 (fun h => ?_)
          refine s_aload0 C dX10_row_40 ?_
          refine gX10_118 C ho dX10_row_41 ?_
          refine s_iload1 C dX10_row_44 ?_
          refine s_iload2 C dX10_row_45 ?_
          refine s_iast C (qX10_width ho) h dX10_row_46 (fun h => ?_)
          refine s_iconst (v := 0) C (by decide) dX10_row_47 ?_
          refine s_istore4 C rfl dX10_row_48 ?_
          refine s_fg 2 ?_
          refine s_fg 3 ?_
          exact bX10_row_50 C R hd  LF _ _ _ _ ho h
        · refine s_bipush (v := -3) C (by decide) dX10_row_30 ?_
          exact s_iret C R h dX10_row_32
      · refine s_bipush (v := -2) C (by decide) dX10_row_23 ?_
        exact s_iret C R h dX10_row_25
set_option maxRecDepth 4000 in
theorem tX10_write {l : Launch} {E : En} {A : Nat → Prop} {d : Nat} {r : Int32} {M M' : Mem} {o : Nat} {x1 : Int32} {x2 : Int32} {l3 : Int64} (hE : Okk E A) (hd : 2 ≤ d) (ho : kd o = (10, 0)) (h : fX10_write o x1 x2 l3 M = some (r, M')) : Ct l E A d yX10_write cX10_write 5 (some .int) [.ref (ad E o), .int x1, .int x2, .long l3] M (some (.int r)) M' := by
  refine Ct.mk (ls := [some (.ref (ad E o)), some (.int x1), some (.int x2), some (.long l3), none]) hE (by decide +kernel) rfl (Nat.le_of_ble_eq_true rfl) (fun X hXl hXA C R => ?_)
  subst hXl; subst hXA
  unfold fX10_write at h
  refine s_iload1 C dX10_write_0 ?_
  obtain ⟨r2, M1, hq, h⟩ := bI_e h
  refine s_callS (As := [.int x1]) (v := some (.int r2)) C rfl (by omega) wX10_564 rfl (Nat.le_of_ble_eq_true rfl) dX10_write_1 (tX10_isSlot C.2.2.2.2.2.2.1 (by omega)  hq) ?_
  refine s_if_ne (tgt := 10) C h dX10_write_4 (by decide) ⟨fun h => ?_, fun h => ?_⟩
  · refine s_aload0 C dX10_write_10 ?_
    refine gX10_115 C ho dX10_write_11 ?_
    refine s_iload1 C dX10_write_14 ?_
    refine s_iald C (qX10_many ho) h dX10_write_15 (fun h => ?_)
    refine s_iconst (v := -1) C (by decide) dX10_write_16 ?_
    refine s_ic_ne (tgt := 23) C h dX10_write_17 (by decide) ⟨fun h => ?_, fun h => ?_⟩
    · refine s_iload2 C dX10_write_23 ?_
      refine s_i2l C dX10_write_24 ?_
      refine s_lconst (v := 0) C (by decide) dX10_write_25 ?_
      refine s_aload0 C dX10_write_26 ?_
      refine gX10_115 C ho dX10_write_27 ?_
      refine s_iload1 C dX10_write_30 ?_
      refine s_iald C (qX10_many ho) h dX10_write_31 (fun h => ?_)
      refine s_iconst (v := 1) C (by decide) dX10_write_32 ?_
      refine s_isub C dX10_write_33 ?_
      refine s_i2l C dX10_write_34 ?_
      obtain ⟨r4, M3, hq, h⟩ := bI_e h
      refine s_callS (As := [.long (x2).toInt64, .long (0 : Int64), .long (((M1.1 (o + 34) (tn x1)) - (1 : Int32))).toInt64]) (v := some (.int r4)) C rfl (by omega) wX10_139 rfl (Nat.le_of_ble_eq_true rfl) dX10_write_35 (tX10_in C.2.2.2.2.2.2.1 (by omega)  hq) ?_
      refine s_if_ne (tgt := 44) C h dX10_write_38 (by decide) ⟨fun h => ?_, fun h => ?_⟩
      · refine s_aload0 C dX10_write_44 ?_
        refine gX10_121 C ho dX10_write_45 ?_
        refine s_bipush (v := 60) C (by decide) dX10_write_48 ?_
        refine s_iload1 C dX10_write_50 ?_
        refine s_imul C dX10_write_51 ?_
        refine s_iload2 C dX10_write_52 ?_
        refine s_iadd C dX10_write_53 ?_
        refine s_aload0 C dX10_write_54 ?_
        refine gX10_118 C ho dX10_write_55 ?_
        refine s_iload1 C dX10_write_58 ?_
        refine s_iald C (qX10_width ho) h dX10_write_59 (fun h => ?_)
        refine s_if_ne (tgt := 69) C h dX10_write_60 (by decide) ⟨fun h => ?_, fun h => ?_⟩
        · refine s_lload3 C dX10_write_69 ?_
          refine s_last C (qX10_numbers ho) h dX10_write_70 (fun h => ?_)
          refine s_iconst (v := 0) C (by decide) dX10_write_71 ?_
          exact s_iret C R h dX10_write_72
        · refine s_lload3 C dX10_write_63 ?_
          refine s_l2i C dX10_write_64 ?_
          refine s_i2l C dX10_write_65 ?_
          refine s_goto (tgt := 70) C dX10_write_66 (by decide) ?_
          refine s_last C (qX10_numbers ho) h dX10_write_70 (fun h => ?_)
          refine s_iconst (v := 0) C (by decide) dX10_write_71 ?_
          exact s_iret C R h dX10_write_72
      · refine s_bipush (v := -7) C (by decide) dX10_write_41 ?_
        exact s_iret C R h dX10_write_43
    · refine s_bipush (v := -6) C (by decide) dX10_write_20 ?_
      exact s_iret C R h dX10_write_22
  · refine s_bipush (v := -2) C (by decide) dX10_write_7 ?_
    exact s_iret C R h dX10_write_9
set_option maxRecDepth 4000 in
theorem tX10_number {l : Launch} {E : En} {A : Nat → Prop} {d : Nat} {r : Int64} {M M' : Mem} {o : Nat} {x1 : Int32} {x2 : Int32} (hE : Okk E A) (hd : 2 ≤ d) (ho : kd o = (10, 0)) (h : fX10_number o x1 x2 M = some (r, M')) : Ct l E A d yX10_number cX10_number 3 (some .long) [.ref (ad E o), .int x1, .int x2] M (some (.long r)) M' := by
  refine Ct.mk (ls := [some (.ref (ad E o)), some (.int x1), some (.int x2)]) hE (by decide +kernel) rfl (Nat.le_of_ble_eq_true rfl) (fun X hXl hXA C R => ?_)
  subst hXl; subst hXA
  unfold fX10_number at h
  refine s_iload1 C dX10_number_0 ?_
  obtain ⟨r2, M1, hq, h⟩ := bI_e h
  refine s_callS (As := [.int x1]) (v := some (.int r2)) C rfl (by omega) wX10_564 rfl (Nat.le_of_ble_eq_true rfl) dX10_number_1 (tX10_isSlot C.2.2.2.2.2.2.1 (by omega)  hq) ?_
  refine s_if_eq (tgt := 35) C h dX10_number_4 (by decide) ⟨fun h => ?_, fun h => ?_⟩
  · refine s_ldc2 (v := -1000) C k_2019 dX10_number_35 ?_
    exact s_lret C R h dX10_number_38
  · refine s_aload0 C dX10_number_7 ?_
    refine gX10_115 C ho dX10_number_8 ?_
    refine s_iload1 C dX10_number_11 ?_
    refine s_iald C (qX10_many ho) h dX10_number_12 (fun h => ?_)
    refine s_iconst (v := -1) C (by decide) dX10_number_13 ?_
    refine s_ic_eq (tgt := 35) C h dX10_number_14 (by decide) ⟨fun h => ?_, fun h => ?_⟩
    · refine s_ldc2 (v := -1000) C k_2019 dX10_number_35 ?_
      exact s_lret C R h dX10_number_38
    · refine s_iload2 C dX10_number_17 ?_
      refine s_i2l C dX10_number_18 ?_
      refine s_lconst (v := 0) C (by decide) dX10_number_19 ?_
      refine s_aload0 C dX10_number_20 ?_
      refine gX10_115 C ho dX10_number_21 ?_
      refine s_iload1 C dX10_number_24 ?_
      refine s_iald C (qX10_many ho) h dX10_number_25 (fun h => ?_)
      refine s_iconst (v := 1) C (by decide) dX10_number_26 ?_
      refine s_isub C dX10_number_27 ?_
      refine s_i2l C dX10_number_28 ?_
      obtain ⟨r4, M3, hq, h⟩ := bI_e h
      refine s_callS (As := [.long (x2).toInt64, .long (0 : Int64), .long (((M1.1 (o + 34) (tn x1)) - (1 : Int32))).toInt64]) (v := some (.int r4)) C rfl (by omega) wX10_139 rfl (Nat.le_of_ble_eq_true rfl) dX10_number_29 (tX10_in C.2.2.2.2.2.2.1 (by omega)  hq) ?_
      refine s_if_ne (tgt := 39) C h dX10_number_32 (by decide) ⟨fun h => ?_, fun h => ?_⟩
      · refine s_aload0 C dX10_number_39 ?_
        refine s_iload1 C dX10_number_40 ?_
        refine s_iload2 C dX10_number_41 ?_
        obtain ⟨r6, M5, hq, h⟩ := bL_e h
        refine s_callV (T := TX10) (As := [.int x1, .int x2]) (v := some (.long r6)) C rfl ho (by decide) rfl (by omega) wX10_560 rfl (Nat.le_of_ble_eq_true rfl) dX10_number_42 (tX10_numberIn C.2.2.2.2.2.2.1 (by omega) ho hq) ?_
        exact s_lret C R h dX10_number_45
      · refine s_ldc2 (v := -1000) C k_2019 dX10_number_35 ?_
        exact s_lret C R h dX10_number_38
