set_option maxRecDepth 4000 in
theorem tX10_tag {l : Launch} {E : En} {A : Nat → Prop} {d : Nat} {r : Int32} {M M' : Mem} {o : Nat} {x1 : Int32} {x2 : Int32} {x3 : Int32} (hE : Okk E A) (hd : 6 ≤ d) (ho : kd o = (10, 0)) (h : fX10_tag o x1 x2 x3 M = some (r, M')) : Ct l E A d yX10_tag cX10_tag 4 (some .int) [.ref (ad E o), .int x1, .int x2, .int x3] M (some (.int r)) M' := by
  refine Ct.mk (ls := [some (.ref (ad E o)), some (.int x1), some (.int x2), some (.int x3)]) hE (by decide +kernel) rfl (Nat.le_of_ble_eq_true rfl) (fun X hXl hXA C R => ?_)
  subst hXl; subst hXA
  unfold fX10_tag at h
  refine s_aload0 C dX10_tag_0 ?_
  refine s_iload3 C dX10_tag_1 ?_
  obtain ⟨r2, M1, hq, h⟩ := bI_e h
  refine s_callV (T := TX10) (As := [.int x3]) (v := some (.int r2)) C rfl ho (by decide) rfl (by omega) wX10_499 rfl (Nat.le_of_ble_eq_true rfl) dX10_tag_2 (tX10_asksAt C.2.2.2.2.2.2.1 (by omega) ho hq) ?_
  refine s_if_eq (tgt := 33) C h dX10_tag_5 (by decide) ⟨fun h => ?_, fun h => ?_⟩
  · refine s_bipush (v := -2) C (by decide) dX10_tag_33 ?_
    exact s_iret C R h dX10_tag_35
  · refine s_aload0 C dX10_tag_8 ?_
    refine s_iload1 C dX10_tag_9 ?_
    obtain ⟨r4, M3, hq, h⟩ := bI_e h
    refine s_callV (T := TX10) (As := [.int x1]) (v := some (.int r4)) C rfl ho (by decide) rfl (by omega) wX10_508 rfl (Nat.le_of_ble_eq_true rfl) dX10_tag_10 (tX10_isTable C.2.2.2.2.2.2.1 (by omega) ho hq) ?_
    refine s_if_eq (tgt := 33) C h dX10_tag_13 (by decide) ⟨fun h => ?_, fun h => ?_⟩
    · refine s_bipush (v := -2) C (by decide) dX10_tag_33 ?_
      exact s_iret C R h dX10_tag_35
    · refine s_iload2 C dX10_tag_16 ?_
      refine s_i2l C dX10_tag_17 ?_
      obtain ⟨r6, M5, hq, h⟩ := bI_e h
      refine s_callS (As := [.long (x2).toInt64]) (v := some (.int r6)) C rfl (by omega) wX10_492 rfl (Nat.le_of_ble_eq_true rfl) dX10_tag_18 (tX10_isAddress C.2.2.2.2.2.2.1 (by omega)  hq) ?_
      refine s_if_eq (tgt := 33) C h dX10_tag_21 (by decide) ⟨fun h => ?_, fun h => ?_⟩
      · refine s_bipush (v := -2) C (by decide) dX10_tag_33 ?_
        exact s_iret C R h dX10_tag_35
      · refine s_aload0 C dX10_tag_24 ?_
        refine s_iload1 C dX10_tag_25 ?_
        refine s_iload2 C dX10_tag_26 ?_
        obtain ⟨r8, M7, hq, h⟩ := bI_e h
        refine s_callV (T := TX10) (As := [.int x1, .int x2]) (v := some (.int r8)) C rfl ho (by decide) rfl (by omega) wX10_372 rfl (Nat.le_of_ble_eq_true rfl) dX10_tag_27 (tX10_tagOf C.2.2.2.2.2.2.1 (by omega) ho hq) ?_
        refine s_goto (tgt := 35) C dX10_tag_30 (by decide) ?_
        exact s_iret C R h dX10_tag_35
set_option maxRecDepth 4000 in
theorem tX10_asksOf {l : Launch} {E : En} {A : Nat → Prop} {d : Nat} {r : Int32} {M M' : Mem} {o : Nat} {x1 : Int32} {x2 : Int32} (hE : Okk E A) (hd : 6 ≤ d) (ho : kd o = (10, 0)) (h : fX10_asksOf o x1 x2 M = some (r, M')) : Ct l E A d yX10_asksOf cX10_asksOf 3 (some .boolean) [.ref (ad E o), .int x1, .int x2] M (some (.int r)) M' := by
  refine Ct.mk (ls := [some (.ref (ad E o)), some (.int x1), some (.int x2)]) hE (by decide +kernel) rfl (Nat.le_of_ble_eq_true rfl) (fun X hXl hXA C R => ?_)
  subst hXl; subst hXA
  unfold fX10_asksOf at h
  refine s_aload0 C dX10_asksOf_0 ?_
  refine s_iload2 C dX10_asksOf_1 ?_
  obtain ⟨r2, M1, hq, h⟩ := bI_e h
  refine s_callV (T := TX10) (As := [.int x2]) (v := some (.int r2)) C rfl ho (by decide) rfl (by omega) wX10_499 rfl (Nat.le_of_ble_eq_true rfl) dX10_asksOf_2 (tX10_asksAt C.2.2.2.2.2.2.1 (by omega) ho hq) ?_
  refine s_if_eq (tgt := 16) C h dX10_asksOf_5 (by decide) ⟨fun h => ?_, fun h => ?_⟩
  · refine s_iconst (v := 0) C (by decide) dX10_asksOf_16 ?_
    exact s_zret C R h rfl dX10_asksOf_17
  · refine s_iload1 C dX10_asksOf_8 ?_
    refine s_i2l C dX10_asksOf_9 ?_
    obtain ⟨r4, M3, hq, h⟩ := bI_e h
    refine s_callS (As := [.long (x1).toInt64]) (v := some (.int r4)) C rfl (by omega) wX10_492 rfl (Nat.le_of_ble_eq_true rfl) dX10_asksOf_10 (tX10_isAddress C.2.2.2.2.2.2.1 (by omega)  hq) ?_
    refine s_if_ne (tgt := 18) C h dX10_asksOf_13 (by decide) ⟨fun h => ?_, fun h => ?_⟩
    · refine s_aload0 C dX10_asksOf_18 ?_
      refine s_iload1 C dX10_asksOf_19 ?_
      obtain ⟨M5, hq, h⟩ := bV_e h
      refine s_callV (T := TX10) (As := [.int x1]) (v := none) C rfl ho (by decide) rfl (by omega) wX10_456 rfl (Nat.le_of_ble_eq_true rfl) dX10_asksOf_20 (tX10_ask C.2.2.2.2.2.2.1 (by omega) ho hq) ?_
      refine s_iconst (v := 1) C (by decide) dX10_asksOf_23 ?_
      exact s_zret C R h rfl dX10_asksOf_24
    · refine s_iconst (v := 0) C (by decide) dX10_asksOf_16 ?_
      exact s_zret C R h rfl dX10_asksOf_17
set_option maxRecDepth 4000 in
theorem tX10_provider {l : Launch} {E : En} {A : Nat → Prop} {d : Nat} {r : Int32} {M M' : Mem} {o : Nat} {x1 : Int32} {x2 : Int32} (hE : Okk E A) (hd : 7 ≤ d) (ho : kd o = (10, 0)) (h : fX10_provider o x1 x2 M = some (r, M')) : Ct l E A d yX10_provider cX10_provider 3 (some .int) [.ref (ad E o), .int x1, .int x2] M (some (.int r)) M' := by
  refine Ct.mk (ls := [some (.ref (ad E o)), some (.int x1), some (.int x2)]) hE (by decide +kernel) rfl (Nat.le_of_ble_eq_true rfl) (fun X hXl hXA C R => ?_)
  subst hXl; subst hXA
  unfold fX10_provider at h
  refine s_aload0 C dX10_provider_0 ?_
  refine s_iload1 C dX10_provider_1 ?_
  refine s_iload2 C dX10_provider_2 ?_
  obtain ⟨r2, M1, hq, h⟩ := bI_e h
  refine s_callV (T := TX10) (As := [.int x1, .int x2]) (v := some (.int r2)) C rfl ho (by decide) rfl (by omega) wX10_511 rfl (Nat.le_of_ble_eq_true rfl) dX10_provider_3 (tX10_asksOf C.2.2.2.2.2.2.1 (by omega) ho hq) ?_
  refine s_if_eq (tgt := 16) C h dX10_provider_6 (by decide) ⟨fun h => ?_, fun h => ?_⟩
  · refine s_bipush (v := -2) C (by decide) dX10_provider_16 ?_
    exact s_iret C R h dX10_provider_18
  · refine s_aload0 C dX10_provider_9 ?_
    refine gX10_378 C ho dX10_provider_10 ?_
    refine s_goto (tgt := 18) C dX10_provider_13 (by decide) ?_
    exact s_iret C R h dX10_provider_18
set_option maxRecDepth 4000 in
theorem tX10_alternate {l : Launch} {E : En} {A : Nat → Prop} {d : Nat} {r : Int32} {M M' : Mem} {o : Nat} {x1 : Int32} {x2 : Int32} (hE : Okk E A) (hd : 7 ≤ d) (ho : kd o = (10, 0)) (h : fX10_alternate o x1 x2 M = some (r, M')) : Ct l E A d yX10_alternate cX10_alternate 3 (some .int) [.ref (ad E o), .int x1, .int x2] M (some (.int r)) M' := by
  refine Ct.mk (ls := [some (.ref (ad E o)), some (.int x1), some (.int x2)]) hE (by decide +kernel) rfl (Nat.le_of_ble_eq_true rfl) (fun X hXl hXA C R => ?_)
  subst hXl; subst hXA
  unfold fX10_alternate at h
  refine s_aload0 C dX10_alternate_0 ?_
  refine s_iload1 C dX10_alternate_1 ?_
  refine s_iload2 C dX10_alternate_2 ?_
  obtain ⟨r2, M1, hq, h⟩ := bI_e h
  refine s_callV (T := TX10) (As := [.int x1, .int x2]) (v := some (.int r2)) C rfl ho (by decide) rfl (by omega) wX10_511 rfl (Nat.le_of_ble_eq_true rfl) dX10_alternate_3 (tX10_asksOf C.2.2.2.2.2.2.1 (by omega) ho hq) ?_
  refine s_if_eq (tgt := 16) C h dX10_alternate_6 (by decide) ⟨fun h => ?_, fun h => ?_⟩
  · refine s_bipush (v := -2) C (by decide) dX10_alternate_16 ?_
    exact s_iret C R h dX10_alternate_18
  · refine s_aload0 C dX10_alternate_9 ?_
    refine gX10_381 C ho dX10_alternate_10 ?_
    refine s_goto (tgt := 18) C dX10_alternate_13 (by decide) ?_
    exact s_iret C R h dX10_alternate_18
set_option maxRecDepth 4000 in
theorem tX10_guess {l : Launch} {E : En} {A : Nat → Prop} {d : Nat} {r : Int32} {M M' : Mem} {o : Nat} {x1 : Int32} {x2 : Int32} (hE : Okk E A) (hd : 7 ≤ d) (ho : kd o = (10, 0)) (h : fX10_guess o x1 x2 M = some (r, M')) : Ct l E A d yX10_guess cX10_guess 3 (some .int) [.ref (ad E o), .int x1, .int x2] M (some (.int r)) M' := by
  refine Ct.mk (ls := [some (.ref (ad E o)), some (.int x1), some (.int x2)]) hE (by decide +kernel) rfl (Nat.le_of_ble_eq_true rfl) (fun X hXl hXA C R => ?_)
  subst hXl; subst hXA
  unfold fX10_guess at h
  refine s_aload0 C dX10_guess_0 ?_
  refine s_iload1 C dX10_guess_1 ?_
  refine s_iload2 C dX10_guess_2 ?_
  obtain ⟨r2, M1, hq, h⟩ := bI_e h
  refine s_callV (T := TX10) (As := [.int x1, .int x2]) (v := some (.int r2)) C rfl ho (by decide) rfl (by omega) wX10_511 rfl (Nat.le_of_ble_eq_true rfl) dX10_guess_3 (tX10_asksOf C.2.2.2.2.2.2.1 (by omega) ho hq) ?_
  refine s_if_eq (tgt := 16) C h dX10_guess_6 (by decide) ⟨fun h => ?_, fun h => ?_⟩
  · refine s_bipush (v := -2) C (by decide) dX10_guess_16 ?_
    exact s_iret C R h dX10_guess_18
  · refine s_aload0 C dX10_guess_9 ?_
    refine gX10_422 C ho dX10_guess_10 ?_
    refine s_goto (tgt := 18) C dX10_guess_13 (by decide) ?_
    exact s_iret C R h dX10_guess_18
set_option maxRecDepth 4000 in
theorem tX10_adds {l : Launch} {E : En} {A : Nat → Prop} {d : Nat} {r : Int32} {M M' : Mem} {o : Nat} {x1 : Int32} {x2 : Int32} (hE : Okk E A) (hd : 7 ≤ d) (ho : kd o = (10, 0)) (h : fX10_adds o x1 x2 M = some (r, M')) : Ct l E A d yX10_adds cX10_adds 3 (some .int) [.ref (ad E o), .int x1, .int x2] M (some (.int r)) M' := by
  refine Ct.mk (ls := [some (.ref (ad E o)), some (.int x1), some (.int x2)]) hE (by decide +kernel) rfl (Nat.le_of_ble_eq_true rfl) (fun X hXl hXA C R => ?_)
  subst hXl; subst hXA
  unfold fX10_adds at h
  refine s_aload0 C dX10_adds_0 ?_
  refine s_iload1 C dX10_adds_1 ?_
  refine s_iload2 C dX10_adds_2 ?_
  obtain ⟨r2, M1, hq, h⟩ := bI_e h
  refine s_callV (T := TX10) (As := [.int x1, .int x2]) (v := some (.int r2)) C rfl ho (by decide) rfl (by omega) wX10_511 rfl (Nat.le_of_ble_eq_true rfl) dX10_adds_3 (tX10_asksOf C.2.2.2.2.2.2.1 (by omega) ho hq) ?_
  refine s_if_eq (tgt := 16) C h dX10_adds_6 (by decide) ⟨fun h => ?_, fun h => ?_⟩
  · refine s_sipush (v := -1000) C (by decide) dX10_adds_16 ?_
    exact s_iret C R h dX10_adds_19
  · refine s_aload0 C dX10_adds_9 ?_
    refine gX10_407 C ho dX10_adds_10 ?_
    refine s_goto (tgt := 19) C dX10_adds_13 (by decide) ?_
    exact s_iret C R h dX10_adds_19
set_option maxRecDepth 4000 in
theorem tX10_entry {l : Launch} {E : En} {A : Nat → Prop} {d : Nat} {r : Int32} {M M' : Mem} {o : Nat} {x1 : Int32} {x2 : Int32} {x3 : Int32} {x4 : Int32} (hE : Okk E A) (hd : 6 ≤ d) (ho : kd o = (10, 0)) (h : fX10_entry o x1 x2 x3 x4 M = some (r, M')) : Ct l E A d yX10_entry cX10_entry 6 (some .int) [.ref (ad E o), .int x1, .int x2, .int x3, .int x4] M (some (.int r)) M' := by
  refine Ct.mk (ls := [some (.ref (ad E o)), some (.int x1), some (.int x2), some (.int x3), some (.int x4), none]) hE (by decide +kernel) rfl (Nat.le_of_ble_eq_true rfl) (fun X hXl hXA C R => ?_)
  subst hXl; subst hXA
  unfold fX10_entry at h
  refine s_aload0 C dX10_entry_0 ?_
  refine s_iload4 C dX10_entry_1 ?_
  obtain ⟨r2, M1, hq, h⟩ := bI_e h
  refine s_callV (T := TX10) (As := [.int x4]) (v := some (.int r2)) C rfl ho (by decide) rfl (by omega) wX10_499 rfl (Nat.le_of_ble_eq_true rfl) dX10_entry_3 (tX10_asksAt C.2.2.2.2.2.2.1 (by omega) ho hq) ?_
  refine s_if_eq (tgt := 45) C h dX10_entry_6 (by decide) ⟨fun h => ?_, fun h => ?_⟩
  · refine s_sipush (v := -1000) C (by decide) dX10_entry_45 ?_
    exact s_iret C R h dX10_entry_48
  · refine s_aload0 C dX10_entry_9 ?_
    refine s_iload1 C dX10_entry_10 ?_
    obtain ⟨r4, M3, hq, h⟩ := bI_e h
    refine s_callV (T := TX10) (As := [.int x1]) (v := some (.int r4)) C rfl ho (by decide) rfl (by omega) wX10_508 rfl (Nat.le_of_ble_eq_true rfl) dX10_entry_11 (tX10_isTable C.2.2.2.2.2.2.1 (by omega) ho hq) ?_
    refine s_if_eq (tgt := 45) C h dX10_entry_14 (by decide) ⟨fun h => ?_, fun h => ?_⟩
    · refine s_sipush (v := -1000) C (by decide) dX10_entry_45 ?_
      exact s_iret C R h dX10_entry_48
    · refine s_iload2 C dX10_entry_17 ?_
      refine s_i2l C dX10_entry_18 ?_
      refine s_lconst (v := 0) C (by decide) dX10_entry_19 ?_
      refine s_aload0 C dX10_entry_20 ?_
      obtain ⟨r6, M5, hq, h⟩ := bI_e h
      refine s_callV (T := TX10) (As := []) (v := some (.int r6)) C rfl ho (by decide) rfl (by omega) wX10_360 rfl (Nat.le_of_ble_eq_true rfl) dX10_entry_21 (tX10_rowsOf C.2.2.2.2.2.2.1 (by omega) ho hq) ?_
      refine s_iconst (v := 1) C (by decide) dX10_entry_24 ?_
      refine s_isub C dX10_entry_25 ?_
      refine s_i2l C dX10_entry_26 ?_
      obtain ⟨r8, M7, hq, h⟩ := bI_e h
      refine s_callS (As := [.long (x2).toInt64, .long (0 : Int64), .long ((r6 - (1 : Int32))).toInt64]) (v := some (.int r8)) C rfl (by omega) wX10_139 rfl (Nat.le_of_ble_eq_true rfl) dX10_entry_27 (tX10_in C.2.2.2.2.2.2.1 (by omega)  hq) ?_
      refine s_if_eq (tgt := 45) C h dX10_entry_30 (by decide) ⟨fun h => ?_, fun h => ?_⟩
      · refine s_sipush (v := -1000) C (by decide) dX10_entry_45 ?_
        exact s_iret C R h dX10_entry_48
      · refine s_iload3 C dX10_entry_33 ?_
        refine s_i2l C dX10_entry_34 ?_
        refine s_lconst (v := 0) C (by decide) dX10_entry_35 ?_
        refine s_ldc2 (v := 2) C k_1449 dX10_entry_36 ?_
        obtain ⟨r10, M9, hq, h⟩ := bI_e h
        refine s_callS (As := [.long (x3).toInt64, .long (0 : Int64), .long (2 : Int64)]) (v := some (.int r10)) C rfl (by omega) wX10_139 rfl (Nat.le_of_ble_eq_true rfl) dX10_entry_39 (tX10_in C.2.2.2.2.2.2.1 (by omega)  hq) ?_
        refine s_if_ne (tgt := 49) C h dX10_entry_42 (by decide) ⟨fun h => ?_, fun h => ?_⟩
        · refine s_bipush (v := 16) C (by decide) dX10_entry_49 ?_
          refine s_iload1 C dX10_entry_51 ?_
          refine s_iconst (v := 1) C (by decide) dX10_entry_52 ?_
          refine s_isub C dX10_entry_53 ?_
          refine s_imul C dX10_entry_54 ?_
          refine s_iload2 C dX10_entry_55 ?_
          refine s_iadd C dX10_entry_56 ?_
          refine s_istore5 C rfl dX10_entry_57 ?_
          refine s_iload3 C dX10_entry_59 ?_
          refine s_if_ne (tgt := 73) C h dX10_entry_60 (by decide) ⟨fun h => ?_, fun h => ?_⟩
          · refine s_iload3 C dX10_entry_73 ?_
            refine s_iconst (v := 1) C (by decide) dX10_entry_74 ?_
            refine s_ic_ne (tgt := 88) C h dX10_entry_75 (by decide) ⟨fun h => ?_, fun h => ?_⟩
            · refine s_aload0 C dX10_entry_88 ?_
              refine gX10_58 C ho dX10_entry_89 ?_
              refine s_iload5 C dX10_entry_92 ?_
              refine s_iald C (qX10_useAt ho) h dX10_entry_94 (fun h => ?_)
              exact s_iret C R h dX10_entry_95
            · refine s_aload0 C dX10_entry_78 ?_
              refine gX10_55 C ho dX10_entry_79 ?_
              refine s_iload5 C dX10_entry_82 ?_
              refine s_iald C (qX10_countAt ho) h dX10_entry_84 (fun h => ?_)
              refine s_goto (tgt := 95) C dX10_entry_85 (by decide) ?_
              exact s_iret C R h dX10_entry_95
          · refine s_aload0 C dX10_entry_63 ?_
            refine gX10_52 C ho dX10_entry_64 ?_
            refine s_iload5 C dX10_entry_67 ?_
            refine s_iald C (qX10_tagAt ho) h dX10_entry_69 (fun h => ?_)
            refine s_goto (tgt := 95) C dX10_entry_70 (by decide) ?_
            exact s_iret C R h dX10_entry_95
        · refine s_sipush (v := -1000) C (by decide) dX10_entry_45 ?_
          exact s_iret C R h dX10_entry_48
set_option maxRecDepth 4000 in
theorem bX10_held_69 {E : En} {X : Xc} {d : Nat} {r : Int32} {M M' : Mem} {o : Nat} {x1 : Int32} {x4 : Int32} {sx0 : Int32} {sx1 : Int32} (C : Cx E X d cX10_held RX10 5) (R : Rt E X (some .int) (some (.int r)) M') (hd : 6 ≤ d) {k30 : Nat → Int32 → Int32 → Int32 → Mem → Option (Int32 × Mem)} (hk30 : ∀ (o : Nat) (x1 : Int32) (x3 : Int32) (x4 : Int32) (M : Mem) (_ : kd o = (10, 0)), k30 o x1 x3 x4 M = some (r, M') → At E X 30 [some (.ref (ad E o)), some (.int x1), none, some (.int x3), some (.int x4)] [] M) (ho : kd o = (10, 0)) (h : fX10_held_69 k30 o x1 x4 sx0 sx1 M = some (r, M')) : At E X 69 [some (.ref (ad E o)), some (.int x1), none, none, some (.int x4)] [.int sx1, .int sx0] M := by
  unfold fX10_held_69 at h
  refine s_iadd C dX10_held_69 ?_
  refine s_istore3 C rfl dX10_held_70 ?_
  refine s_iinc4 (v := 1) C rfl dX10_held_71 (by decide) ?_
  refine s_goto (tgt := 30) C dX10_held_74 (by decide) ?_
  exact hk30 _ _ _ _ _ ho h
set_option maxRecDepth 4000 in
theorem bX10_held_68 {E : En} {X : Xc} {d : Nat} {r : Int32} {M M' : Mem} {o : Nat} {x1 : Int32} {x4 : Int32} {sx0 : Int32} (C : Cx E X d cX10_held RX10 5) (R : Rt E X (some .int) (some (.int r)) M') (hd : 6 ≤ d) {k30 : Nat → Int32 → Int32 → Int32 → Mem → Option (Int32 × Mem)} (hk30 : ∀ (o : Nat) (x1 : Int32) (x3 : Int32) (x4 : Int32) (M : Mem) (_ : kd o = (10, 0)), k30 o x1 x3 x4 M = some (r, M') → At E X 30 [some (.ref (ad E o)), some (.int x1), none, some (.int x3), some (.int x4)] [] M) (ho : kd o = (10, 0)) (h : fX10_held_68 k30 o x1 x4 sx0 M = some (r, M')) : At E X 68 [some (.ref (ad E o)), some (.int x1), none, none, some (.int x4)] [.int sx0] M := by
  unfold fX10_held_68 at h
  refine s_iconst (v := 0) C (by decide) dX10_held_68 ?_
  exact bX10_held_69 C R hd (hk30) ho h
set_option maxRecDepth 4000 in
theorem bX10_held_64 {E : En} {X : Xc} {d : Nat} {r : Int32} {M M' : Mem} {o : Nat} {x1 : Int32} {x4 : Int32} {sx0 : Int32} (C : Cx E X d cX10_held RX10 5) (R : Rt E X (some .int) (some (.int r)) M') (hd : 6 ≤ d) {k30 : Nat → Int32 → Int32 → Int32 → Mem → Option (Int32 × Mem)} (hk30 : ∀ (o : Nat) (x1 : Int32) (x3 : Int32) (x4 : Int32) (M : Mem) (_ : kd o = (10, 0)), k30 o x1 x3 x4 M = some (r, M') → At E X 30 [some (.ref (ad E o)), some (.int x1), none, some (.int x3), some (.int x4)] [] M) (ho : kd o = (10, 0)) (h : fX10_held_64 k30 o x1 x4 sx0 M = some (r, M')) : At E X 64 [some (.ref (ad E o)), some (.int x1), none, none, some (.int x4)] [.int sx0] M := by
  unfold fX10_held_64 at h
  refine s_iconst (v := 1) C (by decide) dX10_held_64 ?_
  refine s_goto (tgt := 69) C dX10_held_65 (by decide) ?_
  exact bX10_held_69 C R hd (hk30) ho h
set_option maxRecDepth 4000 in
theorem bX10_held_30 {E : En} {X : Xc} {d : Nat} {r : Int32} {M' : Mem} (C : Cx E X d cX10_held RX10 5) (R : Rt E X (some .int) (some (.int r)) M') (hd : 6 ≤ d)   : ∀ (n : Nat) (o : Nat) (x1 : Int32) (x3 : Int32) (x4 : Int32) (M : Mem) (_ : kd o = (10, 0)), fX10_held_30  n o x1 x3 x4 M = some (r, M') → At E X 30 [some (.ref (ad E o)), some (.int x1), none, some (.int x3), some (.int x4)] [] M := by
  intro n
  induction n with
  | zero => intro o x1 x3 x4 M ho h; rw [fX10_held_30] at h; cases h
  | succ n ih =>
    intro o x1 x3 x4 M ho h
    rw [fX10_held_30] at h
    refine s_iload4 C dX10_held_30 ?_
    refine s_bipush (v := 80) C (by decide) dX10_held_32 ?_
    refine s_ic_ge (tgt := 77) C h dX10_held_34 (by decide) ⟨fun h => ?_, fun h => ?_⟩
    · refine s_iload3 C dX10_held_77 ?_
      exact s_iret C R h dX10_held_78
    · refine s_iload3 C dX10_held_37 ?_
      refine s_aload0 C dX10_held_38 ?_
      refine gX10_52 C ho dX10_held_39 ?_
      refine s_iload4 C dX10_held_42 ?_
      refine s_iald C (qX10_tagAt ho) h dX10_held_44 (fun h => ?_)
      refine s_iconst (v := -1) C (by decide) dX10_held_45 ?_
      refine s_ic_eq (tgt := 68) C h dX10_held_46 (by decide) ⟨fun h => ?_, fun h => ?_⟩
      · refine s_fg 3 ?_
        exact bX10_held_68 C R hd (ih) ho h
      · refine s_iload1 C dX10_held_49 ?_
        refine s_if_eq (tgt := 64) C h dX10_held_50 (by decide) ⟨fun h => ?_, fun h => ?_⟩
        · refine s_fg 3 ?_
          exact bX10_held_64 C R hd (ih) ho h
        · refine s_iload4 C dX10_held_53 ?_
          refine s_bipush (v := 16) C (by decide) dX10_held_55 ?_
          refine s_idivc C (by decide) dX10_held_57 ?_
          refine s_iload1 C dX10_held_58 ?_
          refine s_iconst (v := 1) C (by decide) dX10_held_59 ?_
          refine s_isub C dX10_held_60 ?_
          refine s_ic_ne (tgt := 68) C h dX10_held_61 (by decide) ⟨fun h => ?_, fun h => ?_⟩
          · refine s_fg 3 ?_
            exact bX10_held_68 C R hd (ih) ho h
          · refine s_fg 3 ?_
            exact bX10_held_64 C R hd (ih) ho h
set_option maxRecDepth 4000 in
theorem tX10_held {l : Launch} {E : En} {A : Nat → Prop} {d : Nat} {r : Int32} {M M' : Mem} {o : Nat} {x1 : Int32} {x2 : Int32} (hE : Okk E A) (hd : 6 ≤ d) (ho : kd o = (10, 0)) (h : fX10_held o x1 x2 M = some (r, M')) : Ct l E A d yX10_held cX10_held 5 (some .int) [.ref (ad E o), .int x1, .int x2] M (some (.int r)) M' := by
  refine Ct.mk (ls := [some (.ref (ad E o)), some (.int x1), some (.int x2), none, none]) hE (by decide +kernel) rfl (Nat.le_of_ble_eq_true rfl) (fun X hXl hXA C R => ?_)
  subst hXl; subst hXA
  unfold fX10_held at h
  refine s_aload0 C dX10_held_0 ?_
  refine s_iload2 C dX10_held_1 ?_
  obtain ⟨r2, M1, hq, h⟩ := bI_e h
  refine s_callV (T := TX10) (As := [.int x2]) (v := some (.int r2)) C rfl ho (by decide) rfl (by omega) wX10_499 rfl (Nat.le_of_ble_eq_true rfl) dX10_held_2 (tX10_asksAt C.2.2.2.2.2.2.1 (by omega) ho hq) ?_
  refine s_if_eq (tgt := 22) C h dX10_held_5 (by decide) ⟨fun h => ?_, fun h => ?_⟩
  · refine s_bipush (v := -2) C (by decide) dX10_held_22 ?_
    exact s_iret C R h dX10_held_24
  · refine s_iload1 C dX10_held_8 ?_
    refine s_i2l C dX10_held_9 ?_
    refine s_lconst (v := 0) C (by decide) dX10_held_10 ?_
    refine s_aload0 C dX10_held_11 ?_
    obtain ⟨r4, M3, hq, h⟩ := bI_e h
    refine s_callV (T := TX10) (As := []) (v := some (.int r4)) C rfl ho (by decide) rfl (by omega) wX10_335 rfl (Nat.le_of_ble_eq_true rfl) dX10_held_12 (tX10_tables C.2.2.2.2.2.2.1 (by omega) ho hq) ?_
    refine s_i2l C dX10_held_15 ?_
    obtain ⟨r6, M5, hq, h⟩ := bI_e h
    refine s_callS (As := [.long (x1).toInt64, .long (0 : Int64), .long (r4).toInt64]) (v := some (.int r6)) C rfl (by omega) wX10_139 rfl (Nat.le_of_ble_eq_true rfl) dX10_held_16 (tX10_in C.2.2.2.2.2.2.1 (by omega)  hq) ?_
    refine s_if_ne (tgt := 25) C h dX10_held_19 (by decide) ⟨fun h => ?_, fun h => ?_⟩
    · refine s_iconst (v := 0) C (by decide) dX10_held_25 ?_
      refine s_istore3 C rfl dX10_held_26 ?_
      refine s_iconst (v := 0) C (by decide) dX10_held_27 ?_
      refine s_istore4 C rfl dX10_held_28 ?_
      refine s_fg 2 ?_
      exact bX10_held_30 C R hd  LF _ _ _ _ _ ho h
    · refine s_bipush (v := -2) C (by decide) dX10_held_22 ?_
      exact s_iret C R h dX10_held_24
set_option maxRecDepth 4000 in
theorem tX10_base {l : Launch} {E : En} {A : Nat → Prop} {d : Nat} {r : Int32} {M M' : Mem} {o : Nat} {x1 : Int32} {x2 : Int32} (hE : Okk E A) (hd : 6 ≤ d) (ho : kd o = (10, 0)) (h : fX10_base o x1 x2 M = some (r, M')) : Ct l E A d yX10_base cX10_base 3 (some .int) [.ref (ad E o), .int x1, .int x2] M (some (.int r)) M' := by
  refine Ct.mk (ls := [some (.ref (ad E o)), some (.int x1), some (.int x2)]) hE (by decide +kernel) rfl (Nat.le_of_ble_eq_true rfl) (fun X hXl hXA C R => ?_)
  subst hXl; subst hXA
  unfold fX10_base at h
  refine s_aload0 C dX10_base_0 ?_
  refine s_iload2 C dX10_base_1 ?_
  obtain ⟨r2, M1, hq, h⟩ := bI_e h
  refine s_callV (T := TX10) (As := [.int x2]) (v := some (.int r2)) C rfl ho (by decide) rfl (by omega) wX10_499 rfl (Nat.le_of_ble_eq_true rfl) dX10_base_2 (tX10_asksAt C.2.2.2.2.2.2.1 (by omega) ho hq) ?_
  refine s_if_eq (tgt := 29) C h dX10_base_5 (by decide) ⟨fun h => ?_, fun h => ?_⟩
  · refine s_bipush (v := -2) C (by decide) dX10_base_29 ?_
    exact s_iret C R h dX10_base_31
  · refine s_iload1 C dX10_base_8 ?_
    refine s_i2l C dX10_base_9 ?_
    refine s_lconst (v := 0) C (by decide) dX10_base_10 ?_
    refine s_ldc2 (v := 15) C k_1711 dX10_base_11 ?_
    obtain ⟨r4, M3, hq, h⟩ := bI_e h
    refine s_callS (As := [.long (x1).toInt64, .long (0 : Int64), .long (15 : Int64)]) (v := some (.int r4)) C rfl (by omega) wX10_139 rfl (Nat.le_of_ble_eq_true rfl) dX10_base_14 (tX10_in C.2.2.2.2.2.2.1 (by omega)  hq) ?_
    refine s_if_eq (tgt := 29) C h dX10_base_17 (by decide) ⟨fun h => ?_, fun h => ?_⟩
    · refine s_bipush (v := -2) C (by decide) dX10_base_29 ?_
      exact s_iret C R h dX10_base_31
    · refine s_aload0 C dX10_base_20 ?_
      refine gX10_61 C ho dX10_base_21 ?_
      refine s_iload1 C dX10_base_24 ?_
      refine s_iald C (qX10_baseAt ho) h dX10_base_25 (fun h => ?_)
      refine s_goto (tgt := 31) C dX10_base_26 (by decide) ?_
      exact s_iret C R h dX10_base_31
set_option maxRecDepth 4000 in
theorem tX10_gauge {l : Launch} {E : En} {A : Nat → Prop} {d : Nat} {r : Int32} {M M' : Mem} {o : Nat} {x1 : Int32} {x2 : Int32} (hE : Okk E A) (hd : 6 ≤ d) (ho : kd o = (10, 0)) (h : fX10_gauge o x1 x2 M = some (r, M')) : Ct l E A d yX10_gauge cX10_gauge 3 (some .int) [.ref (ad E o), .int x1, .int x2] M (some (.int r)) M' := by
  refine Ct.mk (ls := [some (.ref (ad E o)), some (.int x1), some (.int x2)]) hE (by decide +kernel) rfl (Nat.le_of_ble_eq_true rfl) (fun X hXl hXA C R => ?_)
  subst hXl; subst hXA
  unfold fX10_gauge at h
  refine s_aload0 C dX10_gauge_0 ?_
  refine s_iload2 C dX10_gauge_1 ?_
  obtain ⟨r2, M1, hq, h⟩ := bI_e h
  refine s_callV (T := TX10) (As := [.int x2]) (v := some (.int r2)) C rfl ho (by decide) rfl (by omega) wX10_499 rfl (Nat.le_of_ble_eq_true rfl) dX10_gauge_2 (tX10_asksAt C.2.2.2.2.2.2.1 (by omega) ho hq) ?_
  refine s_if_eq (tgt := 20) C h dX10_gauge_5 (by decide) ⟨fun h => ?_, fun h => ?_⟩
  · refine s_bipush (v := -2) C (by decide) dX10_gauge_20 ?_
    exact s_iret C R h dX10_gauge_22
  · refine s_iload1 C dX10_gauge_8 ?_
    refine s_i2l C dX10_gauge_9 ?_
    refine s_lconst (v := 0) C (by decide) dX10_gauge_10 ?_
    refine s_ldc2 (v := 3) C k_1569 dX10_gauge_11 ?_
    obtain ⟨r4, M3, hq, h⟩ := bI_e h
    refine s_callS (As := [.long (x1).toInt64, .long (0 : Int64), .long (3 : Int64)]) (v := some (.int r4)) C rfl (by omega) wX10_139 rfl (Nat.le_of_ble_eq_true rfl) dX10_gauge_14 (tX10_in C.2.2.2.2.2.2.1 (by omega)  hq) ?_
    refine s_if_ne (tgt := 23) C h dX10_gauge_17 (by decide) ⟨fun h => ?_, fun h => ?_⟩
    · refine s_iload1 C dX10_gauge_23 ?_
      refine s_if_ne (tgt := 34) C h dX10_gauge_24 (by decide) ⟨fun h => ?_, fun h => ?_⟩
      · refine s_iload1 C dX10_gauge_34 ?_
        refine s_iconst (v := 1) C (by decide) dX10_gauge_35 ?_
        refine s_ic_ne (tgt := 46) C h dX10_gauge_36 (by decide) ⟨fun h => ?_, fun h => ?_⟩
        · refine s_iload1 C dX10_gauge_46 ?_
          refine s_iconst (v := 2) C (by decide) dX10_gauge_47 ?_
          refine s_ic_ne (tgt := 58) C h dX10_gauge_48 (by decide) ⟨fun h => ?_, fun h => ?_⟩
          · refine s_aload0 C dX10_gauge_58 ?_
            refine gX10_350 C ho dX10_gauge_59 ?_
            exact s_iret C R h dX10_gauge_62
          · refine s_aload0 C dX10_gauge_51 ?_
            refine gX10_347 C ho dX10_gauge_52 ?_
            refine s_goto (tgt := 62) C dX10_gauge_55 (by decide) ?_
            exact s_iret C R h dX10_gauge_62
        · refine s_aload0 C dX10_gauge_39 ?_
          refine gX10_344 C ho dX10_gauge_40 ?_
          refine s_goto (tgt := 62) C dX10_gauge_43 (by decide) ?_
          exact s_iret C R h dX10_gauge_62
      · refine s_aload0 C dX10_gauge_27 ?_
        refine gX10_341 C ho dX10_gauge_28 ?_
        refine s_goto (tgt := 62) C dX10_gauge_31 (by decide) ?_
        exact s_iret C R h dX10_gauge_62
    · refine s_bipush (v := -2) C (by decide) dX10_gauge_20 ?_
      exact s_iret C R h dX10_gauge_22
set_option maxRecDepth 4000 in
theorem tX10_loop {l : Launch} {E : En} {A : Nat → Prop} {d : Nat} {r : Int32} {M M' : Mem} {o : Nat} {x1 : Int32} {x2 : Int32} {x3 : Int32} (hE : Okk E A) (hd : 6 ≤ d) (ho : kd o = (10, 0)) (h : fX10_loop o x1 x2 x3 M = some (r, M')) : Ct l E A d yX10_loop cX10_loop 4 (some .int) [.ref (ad E o), .int x1, .int x2, .int x3] M (some (.int r)) M' := by
  refine Ct.mk (ls := [some (.ref (ad E o)), some (.int x1), some (.int x2), some (.int x3)]) hE (by decide +kernel) rfl (Nat.le_of_ble_eq_true rfl) (fun X hXl hXA C R => ?_)
  subst hXl; subst hXA
  unfold fX10_loop at h
  refine s_aload0 C dX10_loop_0 ?_
  refine s_iload3 C dX10_loop_1 ?_
  obtain ⟨r2, M1, hq, h⟩ := bI_e h
  refine s_callV (T := TX10) (As := [.int x3]) (v := some (.int r2)) C rfl ho (by decide) rfl (by omega) wX10_499 rfl (Nat.le_of_ble_eq_true rfl) dX10_loop_2 (tX10_asksAt C.2.2.2.2.2.2.1 (by omega) ho hq) ?_
  refine s_if_eq (tgt := 20) C h dX10_loop_5 (by decide) ⟨fun h => ?_, fun h => ?_⟩
  · refine s_bipush (v := -2) C (by decide) dX10_loop_20 ?_
    exact s_iret C R h dX10_loop_22
  · refine s_iload1 C dX10_loop_8 ?_
    refine s_i2l C dX10_loop_9 ?_
    refine s_lconst (v := 0) C (by decide) dX10_loop_10 ?_
    refine s_ldc2 (v := 7) C k_1645 dX10_loop_11 ?_
    obtain ⟨r4, M3, hq, h⟩ := bI_e h
    refine s_callS (As := [.long (x1).toInt64, .long (0 : Int64), .long (7 : Int64)]) (v := some (.int r4)) C rfl (by omega) wX10_139 rfl (Nat.le_of_ble_eq_true rfl) dX10_loop_14 (tX10_in C.2.2.2.2.2.2.1 (by omega)  hq) ?_
    refine s_if_ne (tgt := 23) C h dX10_loop_17 (by decide) ⟨fun h => ?_, fun h => ?_⟩
    · refine s_iload2 C dX10_loop_23 ?_
      rcases if_e h with ⟨e, h⟩ | ⟨e0, h⟩
      · refine s_tin (j := 0) (tgt := 60) C dX10_loop_24 (by rw [e]; decide) (by decide) rfl (by decide) ?_
        refine s_aload0 C dX10_loop_60 ?_
        refine gX10_64 C ho dX10_loop_61 ?_
        refine s_iload1 C dX10_loop_64 ?_
        refine s_iald C (qX10_whose ho) h dX10_loop_65 (fun h => ?_)
        exact s_iret C R h dX10_loop_66
      rcases if_e h with ⟨e, h⟩ | ⟨e1, h⟩
      · refine s_tin (j := 1) (tgt := 67) C dX10_loop_24 (by rw [e]; decide) (by decide) rfl (by decide) ?_
        refine s_aload0 C dX10_loop_67 ?_
        refine gX10_67 C ho dX10_loop_68 ?_
        refine s_iload1 C dX10_loop_71 ?_
        refine s_iald C (qX10_lengthAt ho) h dX10_loop_72 (fun h => ?_)
        exact s_iret C R h dX10_loop_73
      rcases if_e h with ⟨e, h⟩ | ⟨e2, h⟩
      · refine s_tin (j := 2) (tgt := 74) C dX10_loop_24 (by rw [e]; decide) (by decide) rfl (by decide) ?_
        refine s_aload0 C dX10_loop_74 ?_
        refine gX10_70 C ho dX10_loop_75 ?_
        refine s_iload1 C dX10_loop_78 ?_
        refine s_iald C (qX10_runAt ho) h dX10_loop_79 (fun h => ?_)
        exact s_iret C R h dX10_loop_80
      rcases if_e h with ⟨e, h⟩ | ⟨e3, h⟩
      · refine s_tin (j := 3) (tgt := 81) C dX10_loop_24 (by rw [e]; decide) (by decide) rfl (by decide) ?_
        refine s_aload0 C dX10_loop_81 ?_
        refine gX10_73 C ho dX10_loop_82 ?_
        refine s_iload1 C dX10_loop_85 ?_
        refine s_iald C (qX10_sureAt ho) h dX10_loop_86 (fun h => ?_)
        exact s_iret C R h dX10_loop_87
      rcases if_e h with ⟨e, h⟩ | ⟨e4, h⟩
      · refine s_tin (j := 4) (tgt := 88) C dX10_loop_24 (by rw [e]; decide) (by decide) rfl (by decide) ?_
        refine s_aload0 C dX10_loop_88 ?_
        refine gX10_76 C ho dX10_loop_89 ?_
        refine s_iload1 C dX10_loop_92 ?_
        refine s_iald C (qX10_ageAt ho) h dX10_loop_93 (fun h => ?_)
        exact s_iret C R h dX10_loop_94
      have g0 := ne_int e0
      have g1 := ne_int e1
      have g2 := ne_int e2
      have g3 := ne_int e3
      have g4 := ne_int e4
      refine s_tout (tgt := 95) C dX10_loop_24 (by simp only [show (0 : Int32).toInt = 0 from by decide, show (1 : Int32).toInt = 1 from by decide, show (2 : Int32).toInt = 2 from by decide, show (3 : Int32).toInt = 3 from by decide, show (4 : Int32).toInt = 4 from by decide] at g0 g1 g2 g3 g4; omega) (by decide) ?_
      refine s_bipush (v := -2) C (by decide) dX10_loop_95 ?_
      exact s_iret C R h dX10_loop_97
    · refine s_bipush (v := -2) C (by decide) dX10_loop_20 ?_
      exact s_iret C R h dX10_loop_22
set_option maxRecDepth 4000 in
theorem tX10_corrector {l : Launch} {E : En} {A : Nat → Prop} {d : Nat} {r : Int32} {M M' : Mem} {o : Nat} {x1 : Int32} {x2 : Int32} {x3 : Int32} (hE : Okk E A) (hd : 6 ≤ d) (ho : kd o = (10, 0)) (h : fX10_corrector o x1 x2 x3 M = some (r, M')) : Ct l E A d yX10_corrector cX10_corrector 4 (some .int) [.ref (ad E o), .int x1, .int x2, .int x3] M (some (.int r)) M' := by
  refine Ct.mk (ls := [some (.ref (ad E o)), some (.int x1), some (.int x2), some (.int x3)]) hE (by decide +kernel) rfl (Nat.le_of_ble_eq_true rfl) (fun X hXl hXA C R => ?_)
  subst hXl; subst hXA
  unfold fX10_corrector at h
  refine s_aload0 C dX10_corrector_0 ?_
  refine s_iload3 C dX10_corrector_1 ?_
  obtain ⟨r2, M1, hq, h⟩ := bI_e h
  refine s_callV (T := TX10) (As := [.int x3]) (v := some (.int r2)) C rfl ho (by decide) rfl (by omega) wX10_499 rfl (Nat.le_of_ble_eq_true rfl) dX10_corrector_2 (tX10_asksAt C.2.2.2.2.2.2.1 (by omega) ho hq) ?_
  refine s_if_eq (tgt := 46) C h dX10_corrector_5 (by decide) ⟨fun h => ?_, fun h => ?_⟩
  · refine s_sipush (v := -1000) C (by decide) dX10_corrector_46 ?_
    exact s_iret C R h dX10_corrector_49
  · refine s_iload1 C dX10_corrector_8 ?_
    refine s_i2l C dX10_corrector_9 ?_
    refine s_lconst (v := 0) C (by decide) dX10_corrector_10 ?_
    refine s_ldc2 (v := 2) C k_1449 dX10_corrector_11 ?_
    obtain ⟨r4, M3, hq, h⟩ := bI_e h
    refine s_callS (As := [.long (x1).toInt64, .long (0 : Int64), .long (2 : Int64)]) (v := some (.int r4)) C rfl (by omega) wX10_139 rfl (Nat.le_of_ble_eq_true rfl) dX10_corrector_14 (tX10_in C.2.2.2.2.2.2.1 (by omega)  hq) ?_
    refine s_if_eq (tgt := 46) C h dX10_corrector_17 (by decide) ⟨fun h => ?_, fun h => ?_⟩
    · refine s_sipush (v := -1000) C (by decide) dX10_corrector_46 ?_
      exact s_iret C R h dX10_corrector_49
    · refine s_iload2 C dX10_corrector_20 ?_
      refine s_i2l C dX10_corrector_21 ?_
      refine s_lconst (v := 0) C (by decide) dX10_corrector_22 ?_
      refine s_ldc2 (v := 15) C k_1711 dX10_corrector_23 ?_
      obtain ⟨r6, M5, hq, h⟩ := bI_e h
      refine s_callS (As := [.long (x2).toInt64, .long (0 : Int64), .long (15 : Int64)]) (v := some (.int r6)) C rfl (by omega) wX10_139 rfl (Nat.le_of_ble_eq_true rfl) dX10_corrector_26 (tX10_in C.2.2.2.2.2.2.1 (by omega)  hq) ?_
      refine s_if_eq (tgt := 46) C h dX10_corrector_29 (by decide) ⟨fun h => ?_, fun h => ?_⟩
      · refine s_sipush (v := -1000) C (by decide) dX10_corrector_46 ?_
        exact s_iret C R h dX10_corrector_49
      · refine s_aload0 C dX10_corrector_32 ?_
        refine gX10_79 C ho dX10_corrector_33 ?_
        refine s_bipush (v := 16) C (by decide) dX10_corrector_36 ?_
        refine s_iload1 C dX10_corrector_38 ?_
        refine s_imul C dX10_corrector_39 ?_
        refine s_iload2 C dX10_corrector_40 ?_
        refine s_iadd C dX10_corrector_41 ?_
        refine s_iald C (qX10_correctAt ho) h dX10_corrector_42 (fun h => ?_)
        refine s_goto (tgt := 49) C dX10_corrector_43 (by decide) ?_
        exact s_iret C R h dX10_corrector_49
set_option maxRecDepth 4000 in
theorem bX10_clash_83 {E : En} {X : Xc} {d : Nat} {r : Int32} {M M' : Mem} {o : Nat} {x1 : Int32} {x2 : Int32} {x5 : Int32} {sx0 : Int32} {sx1 : Int32} (C : Cx E X d cX10_clash RX10 6) (R : Rt E X (some .int) (some (.int r)) M') (hd : 6 ≤ d) {k33 : Nat → Int32 → Int32 → Int32 → Int32 → Mem → Option (Int32 × Mem)} (hk33 : ∀ (o : Nat) (x1 : Int32) (x2 : Int32) (x4 : Int32) (x5 : Int32) (M : Mem) (_ : kd o = (10, 0)), k33 o x1 x2 x4 x5 M = some (r, M') → At E X 33 [some (.ref (ad E o)), some (.int x1), some (.int x2), none, some (.int x4), some (.int x5)] [] M) (ho : kd o = (10, 0)) (h : fX10_clash_83 k33 o x1 x2 x5 sx0 sx1 M = some (r, M')) : At E X 83 [some (.ref (ad E o)), some (.int x1), some (.int x2), none, none, some (.int x5)] [.int sx1, .int sx0] M := by
  unfold fX10_clash_83 at h
  refine s_iadd C dX10_clash_83 ?_
  refine s_istore4 C rfl dX10_clash_84 ?_
  refine s_iinc5 (v := 1) C rfl dX10_clash_86 (by decide) ?_
  refine s_goto (tgt := 33) C dX10_clash_89 (by decide) ?_
  exact hk33 _ _ _ _ _ _ ho h
set_option maxRecDepth 4000 in
theorem bX10_clash_82 {E : En} {X : Xc} {d : Nat} {r : Int32} {M M' : Mem} {o : Nat} {x1 : Int32} {x2 : Int32} {x5 : Int32} {sx0 : Int32} (C : Cx E X d cX10_clash RX10 6) (R : Rt E X (some .int) (some (.int r)) M') (hd : 6 ≤ d) {k33 : Nat → Int32 → Int32 → Int32 → Int32 → Mem → Option (Int32 × Mem)} (hk33 : ∀ (o : Nat) (x1 : Int32) (x2 : Int32) (x4 : Int32) (x5 : Int32) (M : Mem) (_ : kd o = (10, 0)), k33 o x1 x2 x4 x5 M = some (r, M') → At E X 33 [some (.ref (ad E o)), some (.int x1), some (.int x2), none, some (.int x4), some (.int x5)] [] M) (ho : kd o = (10, 0)) (h : fX10_clash_82 k33 o x1 x2 x5 sx0 M = some (r, M')) : At E X 82 [some (.ref (ad E o)), some (.int x1), some (.int x2), none, none, some (.int x5)] [.int sx0] M := by
  unfold fX10_clash_82 at h
  refine s_iconst (v := 0) C (by decide) dX10_clash_82 ?_
  exact bX10_clash_83 C R hd (hk33) ho h
set_option maxRecDepth 4000 in
theorem bX10_clash_33 {E : En} {X : Xc} {d : Nat} {r : Int32} {M' : Mem} (C : Cx E X d cX10_clash RX10 6) (R : Rt E X (some .int) (some (.int r)) M') (hd : 6 ≤ d)   : ∀ (n : Nat) (o : Nat) (x1 : Int32) (x2 : Int32) (x4 : Int32) (x5 : Int32) (M : Mem) (_ : kd o = (10, 0)), fX10_clash_33  n o x1 x2 x4 x5 M = some (r, M') → At E X 33 [some (.ref (ad E o)), some (.int x1), some (.int x2), none, some (.int x4), some (.int x5)] [] M := by
  intro n
  induction n with
  | zero => intro o x1 x2 x4 x5 M ho h; rw [fX10_clash_33] at h; cases h
  | succ n ih =>
    intro o x1 x2 x4 x5 M ho h
    rw [fX10_clash_33] at h
    refine s_iload5 C dX10_clash_33 ?_
    refine s_aload0 C dX10_clash_35 ?_
    obtain ⟨r2, M1, hq, h⟩ := bI_e h
    refine s_callV (T := TX10) (As := []) (v := some (.int r2)) C rfl ho (by decide) rfl (by omega) wX10_335 rfl (Nat.le_of_ble_eq_true rfl) dX10_clash_36 (tX10_tables C.2.2.2.2.2.2.1 (by omega) ho hq) ?_
    refine s_ic_gt (tgt := 92) C h dX10_clash_39 (by decide) ⟨fun h => ?_, fun h => ?_⟩
    · refine s_iload4 C dX10_clash_92 ?_
      exact s_iret C R h dX10_clash_94
    · refine s_iload4 C dX10_clash_42 ?_
      refine s_aload0 C dX10_clash_44 ?_
      refine s_iload5 C dX10_clash_45 ?_
      refine s_iload1 C dX10_clash_47 ?_
      obtain ⟨r4, M3, hq, h⟩ := bI_e h
      refine s_callV (T := TX10) (As := [.int x5, .int x1]) (v := some (.int r4)) C rfl ho (by decide) rfl (by omega) wX10_369 rfl (Nat.le_of_ble_eq_true rfl) dX10_clash_48 (tX10_indexOf C.2.2.2.2.2.2.1 (by omega) ho hq) ?_
      refine s_aload0 C dX10_clash_51 ?_
      refine s_iload5 C dX10_clash_52 ?_
      refine s_iload2 C dX10_clash_54 ?_
      obtain ⟨r6, M5, hq, h⟩ := bI_e h
      refine s_callV (T := TX10) (As := [.int x5, .int x2]) (v := some (.int r6)) C rfl ho (by decide) rfl (by omega) wX10_369 rfl (Nat.le_of_ble_eq_true rfl) dX10_clash_55 (tX10_indexOf C.2.2.2.2.2.2.1 (by omega) ho hq) ?_
      refine s_ic_ne (tgt := 82) C h dX10_clash_58 (by decide) ⟨fun h => ?_, fun h => ?_⟩
      · refine s_fg 4 ?_
        exact bX10_clash_82 C R hd (ih) ho h
      · refine s_aload0 C dX10_clash_61 ?_
        refine s_iload5 C dX10_clash_62 ?_
        refine s_iload1 C dX10_clash_64 ?_
        obtain ⟨r8, M7, hq, h⟩ := bI_e h
        refine s_callV (T := TX10) (As := [.int x5, .int x1]) (v := some (.int r8)) C rfl ho (by decide) rfl (by omega) wX10_372 rfl (Nat.le_of_ble_eq_true rfl) dX10_clash_65 (tX10_tagOf C.2.2.2.2.2.2.1 (by omega) ho hq) ?_
        refine s_aload0 C dX10_clash_68 ?_
        refine s_iload5 C dX10_clash_69 ?_
        refine s_iload2 C dX10_clash_71 ?_
        obtain ⟨r10, M9, hq, h⟩ := bI_e h
        refine s_callV (T := TX10) (As := [.int x5, .int x2]) (v := some (.int r10)) C rfl ho (by decide) rfl (by omega) wX10_372 rfl (Nat.le_of_ble_eq_true rfl) dX10_clash_72 (tX10_tagOf C.2.2.2.2.2.2.1 (by omega) ho hq) ?_
        refine s_ic_ne (tgt := 82) C h dX10_clash_75 (by decide) ⟨fun h => ?_, fun h => ?_⟩
        · refine s_fg 4 ?_
          exact bX10_clash_82 C R hd (ih) ho h
        · refine s_iconst (v := 1) C (by decide) dX10_clash_78 ?_
          refine s_goto (tgt := 83) C dX10_clash_79 (by decide) ?_
          refine s_fg 4 ?_
          exact bX10_clash_83 C R hd (ih) ho h
set_option maxRecDepth 4000 in
theorem tX10_clash {l : Launch} {E : En} {A : Nat → Prop} {d : Nat} {r : Int32} {M M' : Mem} {o : Nat} {x1 : Int32} {x2 : Int32} {x3 : Int32} (hE : Okk E A) (hd : 6 ≤ d) (ho : kd o = (10, 0)) (h : fX10_clash o x1 x2 x3 M = some (r, M')) : Ct l E A d yX10_clash cX10_clash 6 (some .int) [.ref (ad E o), .int x1, .int x2, .int x3] M (some (.int r)) M' := by
  refine Ct.mk (ls := [some (.ref (ad E o)), some (.int x1), some (.int x2), some (.int x3), none, none]) hE (by decide +kernel) rfl (Nat.le_of_ble_eq_true rfl) (fun X hXl hXA C R => ?_)
  subst hXl; subst hXA
  unfold fX10_clash at h
  refine s_aload0 C dX10_clash_0 ?_
  refine s_iload3 C dX10_clash_1 ?_
  obtain ⟨r2, M1, hq, h⟩ := bI_e h
  refine s_callV (T := TX10) (As := [.int x3]) (v := some (.int r2)) C rfl ho (by decide) rfl (by omega) wX10_499 rfl (Nat.le_of_ble_eq_true rfl) dX10_clash_2 (tX10_asksAt C.2.2.2.2.2.2.1 (by omega) ho hq) ?_
  refine s_if_eq (tgt := 24) C h dX10_clash_5 (by decide) ⟨fun h => ?_, fun h => ?_⟩
  · refine s_bipush (v := -2) C (by decide) dX10_clash_24 ?_
    exact s_iret C R h dX10_clash_26
  · refine s_iload1 C dX10_clash_8 ?_
    refine s_i2l C dX10_clash_9 ?_
    obtain ⟨r4, M3, hq, h⟩ := bI_e h
    refine s_callS (As := [.long (x1).toInt64]) (v := some (.int r4)) C rfl (by omega) wX10_492 rfl (Nat.le_of_ble_eq_true rfl) dX10_clash_10 (tX10_isAddress C.2.2.2.2.2.2.1 (by omega)  hq) ?_
    refine s_if_eq (tgt := 24) C h dX10_clash_13 (by decide) ⟨fun h => ?_, fun h => ?_⟩
    · refine s_bipush (v := -2) C (by decide) dX10_clash_24 ?_
      exact s_iret C R h dX10_clash_26
    · refine s_iload2 C dX10_clash_16 ?_
      refine s_i2l C dX10_clash_17 ?_
      obtain ⟨r6, M5, hq, h⟩ := bI_e h
      refine s_callS (As := [.long (x2).toInt64]) (v := some (.int r6)) C rfl (by omega) wX10_492 rfl (Nat.le_of_ble_eq_true rfl) dX10_clash_18 (tX10_isAddress C.2.2.2.2.2.2.1 (by omega)  hq) ?_
      refine s_if_ne (tgt := 27) C h dX10_clash_21 (by decide) ⟨fun h => ?_, fun h => ?_⟩
      · refine s_iconst (v := 0) C (by decide) dX10_clash_27 ?_
        refine s_istore4 C rfl dX10_clash_28 ?_
        refine s_iconst (v := 1) C (by decide) dX10_clash_30 ?_
        refine s_istore5 C rfl dX10_clash_31 ?_
        refine s_fg 3 ?_
        exact bX10_clash_33 C R hd  LF _ _ _ _ _ _ ho h
      · refine s_bipush (v := -2) C (by decide) dX10_clash_24 ?_
        exact s_iret C R h dX10_clash_26
set_option maxRecDepth 4000 in
theorem tX10_isPlain {l : Launch} {E : En} {A : Nat → Prop} {d : Nat} {r : Int32} {M M' : Mem} {o : Nat} {x1 : Int32} (hE : Okk E A) (hd : 2 ≤ d) (ho : kd o = (10, 0)) (h : fX10_isPlain o x1 M = some (r, M')) : Ct l E A d yX10_isPlain cX10_isPlain 2 (some .boolean) [.ref (ad E o), .int x1] M (some (.int r)) M' := by
  refine Ct.mk (ls := [some (.ref (ad E o)), some (.int x1)]) hE (by decide +kernel) rfl (Nat.le_of_ble_eq_true rfl) (fun X hXl hXA C R => ?_)
  subst hXl; subst hXA
  unfold fX10_isPlain at h
  refine s_aload0 C dX10_isPlain_0 ?_
  refine s_iload1 C dX10_isPlain_1 ?_
  obtain ⟨r2, M1, hq, h⟩ := bI_e h
  refine s_callV (T := TX10) (As := [.int x1]) (v := some (.int r2)) C rfl ho (by decide) rfl (by omega) wX10_314 rfl (Nat.le_of_ble_eq_true rfl) dX10_isPlain_2 (tX10_isOp C.2.2.2.2.2.2.1 (by omega) ho hq) ?_
  refine s_if_eq (tgt := 33) C h dX10_isPlain_5 (by decide) ⟨fun h => ?_, fun h => ?_⟩
  · refine s_iconst (v := 0) C (by decide) dX10_isPlain_33 ?_
    exact s_zret C R h rfl dX10_isPlain_34
  · refine s_aload0 C dX10_isPlain_8 ?_
    refine s_iload1 C dX10_isPlain_9 ?_
    obtain ⟨r4, M3, hq, h⟩ := bI_e h
    refine s_callV (T := TX10) (As := [.int x1]) (v := some (.int r4)) C rfl ho (by decide) rfl (by omega) wX10_283 rfl (Nat.le_of_ble_eq_true rfl) dX10_isPlain_10 (tX10_kindOf C.2.2.2.2.2.2.1 (by omega) ho hq) ?_
    obtain ⟨r6, M5, hq, h⟩ := bI_e h
    refine s_callS (As := [.int r4]) (v := some (.int r6)) C rfl (by omega) wX10_295 rfl (Nat.le_of_ble_eq_true rfl) dX10_isPlain_13 (tX10_isBranch C.2.2.2.2.2.2.1 (by omega)  hq) ?_
    refine s_if_ne (tgt := 33) C h dX10_isPlain_16 (by decide) ⟨fun h => ?_, fun h => ?_⟩
    · refine s_iconst (v := 0) C (by decide) dX10_isPlain_33 ?_
      exact s_zret C R h rfl dX10_isPlain_34
    · refine s_aload0 C dX10_isPlain_19 ?_
      refine s_iload1 C dX10_isPlain_20 ?_
      obtain ⟨r8, M7, hq, h⟩ := bI_e h
      refine s_callV (T := TX10) (As := [.int x1]) (v := some (.int r8)) C rfl ho (by decide) rfl (by omega) wX10_283 rfl (Nat.le_of_ble_eq_true rfl) dX10_isPlain_21 (tX10_kindOf C.2.2.2.2.2.2.1 (by omega) ho hq) ?_
      refine s_bipush (v := 10) C (by decide) dX10_isPlain_24 ?_
      refine s_ic_eq (tgt := 33) C h dX10_isPlain_26 (by decide) ⟨fun h => ?_, fun h => ?_⟩
      · refine s_iconst (v := 0) C (by decide) dX10_isPlain_33 ?_
        exact s_zret C R h rfl dX10_isPlain_34
      · refine s_iconst (v := 1) C (by decide) dX10_isPlain_29 ?_
        refine s_goto (tgt := 34) C dX10_isPlain_30 (by decide) ?_
        exact s_zret C R h rfl dX10_isPlain_34
set_option maxRecDepth 4000 in
theorem bX10_goAstray_147 {E : En} {X : Xc} {d : Nat} {r : Int32} {M M' : Mem} {o : Nat} {x4 : Int32} {sx0 : Int32} (C : Cx E X d cX10_goAstray RX10 6) (R : Rt E X (some .int) (some (.int r)) M') (hd : 3 ≤ d) {k72 : Nat → Int32 → Int32 → Mem → Option (Int32 × Mem)} (hk72 : ∀ (o : Nat) (x3 : Int32) (x4 : Int32) (M : Mem) (_ : kd o = (10, 0)), k72 o x3 x4 M = some (r, M') → At E X 72 [some (.ref (ad E o)), none, none, some (.int x3), some (.int x4), none] [] M) (ho : kd o = (10, 0)) (h : fX10_goAstray_147 k72 o x4 sx0 M = some (r, M')) : At E X 147 [some (.ref (ad E o)), none, none, none, some (.int x4), none] [.int sx0] M := by
  unfold fX10_goAstray_147 at h
  refine s_istore3 C rfl dX10_goAstray_147 ?_
  refine s_iinc4 (v := 1) C rfl dX10_goAstray_148 (by decide) ?_
  refine s_goto (tgt := 72) C dX10_goAstray_151 (by decide) ?_
  exact hk72 _ _ _ _ ho h
set_option maxRecDepth 4000 in
theorem bX10_goAstray_126 {E : En} {X : Xc} {d : Nat} {r : Int32} {M M' : Mem} {o : Nat} {x3 : Int32} {x4 : Int32} (C : Cx E X d cX10_goAstray RX10 6) (R : Rt E X (some .int) (some (.int r)) M') (hd : 3 ≤ d) {k72 : Nat → Int32 → Int32 → Mem → Option (Int32 × Mem)} (hk72 : ∀ (o : Nat) (x3 : Int32) (x4 : Int32) (M : Mem) (_ : kd o = (10, 0)), k72 o x3 x4 M = some (r, M') → At E X 72 [some (.ref (ad E o)), none, none, some (.int x3), some (.int x4), none] [] M) (ho : kd o = (10, 0)) (h : fX10_goAstray_126 k72 o x3 x4 M = some (r, M')) : At E X 126 [some (.ref (ad E o)), none, none, some (.int x3), some (.int x4), none] [] M := by
  unfold fX10_goAstray_126 at h
  refine s_aload0 C dX10_goAstray_126 ?_
  refine s_iload3 C dX10_goAstray_127 ?_
  obtain ⟨r2, M1, hq, h⟩ := bI_e h
  refine s_callV (T := TX10) (As := [.int x3]) (v := some (.int r2)) C rfl ho (by decide) rfl (by omega) wX10_283 rfl (Nat.le_of_ble_eq_true rfl) dX10_goAstray_128 (tX10_kindOf C.2.2.2.2.2.2.1 (by omega) ho hq) ?_
  refine s_bipush (v := 9) C (by decide) dX10_goAstray_131 ?_
  refine s_ic_ne (tgt := 144) C h dX10_goAstray_133 (by decide) ⟨fun h => ?_, fun h => ?_⟩
  · refine s_iload3 C dX10_goAstray_144 ?_
    refine s_iconst (v := 1) C (by decide) dX10_goAstray_145 ?_
    refine s_iadd C dX10_goAstray_146 ?_
    refine s_fg 3 ?_
    exact bX10_goAstray_147 C R hd (hk72) ho h
  · refine s_aload0 C dX10_goAstray_136 ?_
    refine s_iload3 C dX10_goAstray_137 ?_
    obtain ⟨r4, M3, hq, h⟩ := bI_e h
    refine s_callV (T := TX10) (As := [.int x3]) (v := some (.int r4)) C rfl ho (by decide) rfl (by omega) wX10_307 rfl (Nat.le_of_ble_eq_true rfl) dX10_goAstray_138 (tX10_goalOf C.2.2.2.2.2.2.1 (by omega) ho hq) ?_
    refine s_goto (tgt := 147) C dX10_goAstray_141 (by decide) ?_
    refine s_fg 3 ?_
    exact bX10_goAstray_147 C R hd (hk72) ho h
set_option maxRecDepth 4000 in
theorem bX10_goAstray_72 {E : En} {X : Xc} {d : Nat} {r : Int32} {M' : Mem} (C : Cx E X d cX10_goAstray RX10 6) (R : Rt E X (some .int) (some (.int r)) M') (hd : 3 ≤ d)   : ∀ (n : Nat) (o : Nat) (x3 : Int32) (x4 : Int32) (M : Mem) (_ : kd o = (10, 0)), fX10_goAstray_72  n o x3 x4 M = some (r, M') → At E X 72 [some (.ref (ad E o)), none, none, some (.int x3), some (.int x4), none] [] M := by
  intro n
  induction n with
  | zero => intro o x3 x4 M ho h; rw [fX10_goAstray_72] at h; cases h
  | succ n ih =>
    intro o x3 x4 M ho h
    rw [fX10_goAstray_72] at h
    refine s_iload4 C dX10_goAstray_72 ?_
    refine s_aload0 C dX10_goAstray_74 ?_
    refine gX10_9 C ho dX10_goAstray_75 ?_
    refine s_iconst (v := 4) C (by decide) dX10_goAstray_78 ?_
    refine s_iald C (qX10_world ho) h dX10_goAstray_79 (fun h => ?_)
    refine s_ic_ge (tgt := 154) C h dX10_goAstray_80 (by decide) ⟨fun h => ?_, fun h => ?_⟩
    · refine s_iload4 C dX10_goAstray_154 ?_
      exact s_iret C R h dX10_goAstray_156
    · refine s_aload0 C dX10_goAstray_83 ?_
      refine s_iload3 C dX10_goAstray_84 ?_
      obtain ⟨r2, M1, hq, h⟩ := bI_e h
      refine s_callV (T := TX10) (As := [.int x3]) (v := some (.int r2)) C rfl ho (by decide) rfl (by omega) wX10_514 rfl (Nat.le_of_ble_eq_true rfl) dX10_goAstray_85 (tX10_isPlain C.2.2.2.2.2.2.1 (by omega) ho hq) ?_
      refine s_if_eq (tgt := 154) C h dX10_goAstray_88 (by decide) ⟨fun h => ?_, fun h => ?_⟩
      · refine s_iload4 C dX10_goAstray_154 ?_
        exact s_iret C R h dX10_goAstray_156
      · refine s_aload0 C dX10_goAstray_91 ?_
        refine s_iload3 C dX10_goAstray_92 ?_
        obtain ⟨r4, M3, hq, h⟩ := bI_e h
        refine s_callV (T := TX10) (As := [.int x3]) (v := some (.int r4)) C rfl ho (by decide) rfl (by omega) wX10_283 rfl (Nat.le_of_ble_eq_true rfl) dX10_goAstray_93 (tX10_kindOf C.2.2.2.2.2.2.1 (by omega) ho hq) ?_
        refine s_bipush (v := 9) C (by decide) dX10_goAstray_96 ?_
        refine s_ic_eq (tgt := 126) C h dX10_goAstray_98 (by decide) ⟨fun h => ?_, fun h => ?_⟩
        · exact bX10_goAstray_126 C R hd (ih) ho h
        · refine s_aload0 C dX10_goAstray_101 ?_
          refine s_iload3 C dX10_goAstray_102 ?_
          obtain ⟨r6, M5, hq, h⟩ := bI_e h
          refine s_callV (T := TX10) (As := [.int x3]) (v := some (.int r6)) C rfl ho (by decide) rfl (by omega) wX10_283 rfl (Nat.le_of_ble_eq_true rfl) dX10_goAstray_103 (tX10_kindOf C.2.2.2.2.2.2.1 (by omega) ho hq) ?_
          refine s_aload0 C dX10_goAstray_106 ?_
          refine s_iload3 C dX10_goAstray_107 ?_
          refine s_iconst (v := 0) C (by decide) dX10_goAstray_108 ?_
          obtain ⟨r8, M7, hq, h⟩ := bI_e h
          refine s_callV (T := TX10) (As := [.int x3, .int (0 : Int32)]) (v := some (.int r8)) C rfl ho (by decide) rfl (by omega) wX10_286 rfl (Nat.le_of_ble_eq_true rfl) dX10_goAstray_109 (tX10_numberOf C.2.2.2.2.2.2.1 (by omega) ho hq) ?_
          refine s_aload0 C dX10_goAstray_112 ?_
          refine s_iload3 C dX10_goAstray_113 ?_
          refine s_iconst (v := 1) C (by decide) dX10_goAstray_114 ?_
          obtain ⟨r10, M9, hq, h⟩ := bI_e h
          refine s_callV (T := TX10) (As := [.int x3, .int (1 : Int32)]) (v := some (.int r10)) C rfl ho (by decide) rfl (by omega) wX10_286 rfl (Nat.le_of_ble_eq_true rfl) dX10_goAstray_115 (tX10_numberOf C.2.2.2.2.2.2.1 (by omega) ho hq) ?_
          refine s_aload0 C dX10_goAstray_118 ?_
          refine gX10_109 C ho dX10_goAstray_119 ?_
          refine s_iconst (v := 0) C (by decide) dX10_goAstray_122 ?_
          obtain ⟨M11, hq, h⟩ := bV_e h
          refine s_callS (As := [.int r6, .int r8, .int r10, .ref (ad E (o + 32)), .int (0 : Int32)]) (v := none) C rfl (by omega) wX10_310 rfl (Nat.le_of_ble_eq_true rfl) dX10_goAstray_123 (tX10_obey C.2.2.2.2.2.2.1 (by omega) (kd_any (qX10_strayNow ho)) hq) ?_
          exact bX10_goAstray_126 C R hd (ih) ho h
set_option maxRecDepth 4000 in
theorem bX10_goAstray_35 {E : En} {X : Xc} {d : Nat} {r : Int32} {M' : Mem} (C : Cx E X d cX10_goAstray RX10 6) (R : Rt E X (some .int) (some (.int r)) M') (hd : 3 ≤ d)   : ∀ (n : Nat) (o : Nat) (x1 : Int32) (x3 : Int32) (x4 : Int32) (x5 : Int32) (M : Mem) (_ : kd o = (10, 0)), fX10_goAstray_35  n o x1 x3 x4 x5 M = some (r, M') → At E X 35 [some (.ref (ad E o)), some (.int x1), none, some (.int x3), some (.int x4), some (.int x5)] [] M := by
  intro n
  induction n with
  | zero => intro o x1 x3 x4 x5 M ho h; rw [fX10_goAstray_35] at h; cases h
  | succ n ih =>
    intro o x1 x3 x4 x5 M ho h
    rw [fX10_goAstray_35] at h
    refine s_iload5 C dX10_goAstray_35 ?_
    refine s_bipush (v := 8) C (by decide) dX10_goAstray_37 ?_
    refine s_ic_ge (tgt := 72) C h dX10_goAstray_39 (by decide) ⟨fun h => ?_, fun h => ?_⟩
    · refine s_fg 1 ?_
      refine s_fg 5 ?_
      exact bX10_goAstray_72 C R hd  LF _ _ _ _ ho h
    · refine s_aload0 C dX10_goAstray_42 ?_
      refine gX10_109 C ho dX10_goAstray_43 ?_
      refine s_iload5 C dX10_goAstray_46 ?_
      refine s_aload0 C dX10_goAstray_48 ?_
      refine gX10_34 C ho dX10_goAstray_49 ?_
      refine s_bipush (v := 8) C (by decide) dX10_goAstray_52 ?_
      refine s_aload0 C dX10_goAstray_54 ?_
      refine gX10_46 C ho dX10_goAstray_55 ?_
      refine s_iload1 C dX10_goAstray_58 ?_
      refine s_iald C (qX10_stepOf ho) h dX10_goAstray_59 (fun h => ?_)
      refine s_imul C dX10_goAstray_60 ?_
      refine s_iload5 C dX10_goAstray_61 ?_
      refine s_iadd C dX10_goAstray_63 ?_
      refine s_iald C (qX10_registers ho) h dX10_goAstray_64 (fun h => ?_)
      refine s_iast C (qX10_strayNow ho) h dX10_goAstray_65 (fun h => ?_)
      refine s_iinc5 (v := 1) C rfl dX10_goAstray_66 (by decide) ?_
      refine s_goto (tgt := 35) C dX10_goAstray_69 (by decide) ?_
      exact ih _ _ _ _ _ _ ho h
set_option maxRecDepth 4000 in
theorem bX10_goAstray_28 {E : En} {X : Xc} {d : Nat} {r : Int32} {M M' : Mem} {o : Nat} {x1 : Int32} {sx0 : Int32} (C : Cx E X d cX10_goAstray RX10 6) (R : Rt E X (some .int) (some (.int r)) M') (hd : 3 ≤ d)   (ho : kd o = (10, 0)) (h : fX10_goAstray_28  o x1 sx0 M = some (r, M')) : At E X 28 [some (.ref (ad E o)), some (.int x1), none, none, none, none] [.int sx0] M := by
  unfold fX10_goAstray_28 at h
  refine s_istore3 C rfl dX10_goAstray_28 ?_
  refine s_iconst (v := 0) C (by decide) dX10_goAstray_29 ?_
  refine s_istore4 C rfl dX10_goAstray_30 ?_
  refine s_iconst (v := 0) C (by decide) dX10_goAstray_32 ?_
  refine s_istore5 C rfl dX10_goAstray_33 ?_
  exact bX10_goAstray_35 C R hd  LF _ _ _ _ _ _ ho h
set_option maxRecDepth 4000 in
theorem tX10_goAstray {l : Launch} {E : En} {A : Nat → Prop} {d : Nat} {r : Int32} {M M' : Mem} {o : Nat} {x1 : Int32} (hE : Okk E A) (hd : 3 ≤ d) (ho : kd o = (10, 0)) (h : fX10_goAstray o x1 M = some (r, M')) : Ct l E A d yX10_goAstray cX10_goAstray 6 (some .int) [.ref (ad E o), .int x1] M (some (.int r)) M' := by
  refine Ct.mk (ls := [some (.ref (ad E o)), some (.int x1), none, none, none, none]) hE (by decide +kernel) rfl (Nat.le_of_ble_eq_true rfl) (fun X hXl hXA C R => ?_)
  subst hXl; subst hXA
  unfold fX10_goAstray at h
  refine s_aload0 C dX10_goAstray_0 ?_
  refine gX10_40 C ho dX10_goAstray_1 ?_
  refine s_iload1 C dX10_goAstray_4 ?_
  refine s_iald C (qX10_addressOf ho) h dX10_goAstray_5 (fun h => ?_)
  refine s_istore2 C rfl dX10_goAstray_6 ?_
  refine s_aload0 C dX10_goAstray_7 ?_
  refine gX10_91 C ho dX10_goAstray_8 ?_
  refine s_iload1 C dX10_goAstray_11 ?_
  refine s_iald C (qX10_guessOf ho) h dX10_goAstray_12 (fun h => ?_)
  refine s_iconst (v := 1) C (by decide) dX10_goAstray_13 ?_
  refine s_ic_ne (tgt := 25) C h dX10_goAstray_14 (by decide) ⟨fun h => ?_, fun h => ?_⟩
  · refine s_iload2 C dX10_goAstray_25 ?_
    refine s_iconst (v := 1) C (by decide) dX10_goAstray_26 ?_
    refine s_iadd C dX10_goAstray_27 ?_
    refine s_fg 2 ?_
    exact bX10_goAstray_28 C R hd  ho h
  · refine s_aload0 C dX10_goAstray_17 ?_
    refine s_iload2 C dX10_goAstray_18 ?_
    obtain ⟨r2, M1, hq, h⟩ := bI_e h
    refine s_callV (T := TX10) (As := [.int (M.1 (o + 9) (tn x1))]) (v := some (.int r2)) C rfl ho (by decide) rfl (by omega) wX10_307 rfl (Nat.le_of_ble_eq_true rfl) dX10_goAstray_19 (tX10_goalOf C.2.2.2.2.2.2.1 (by omega) ho hq) ?_
    refine s_goto (tgt := 28) C dX10_goAstray_22 (by decide) ?_
    refine s_fg 2 ?_
    exact bX10_goAstray_28 C R hd  ho h
set_option maxRecDepth 4000 in
theorem tX10_isOfRun {l : Launch} {E : En} {A : Nat → Prop} {d : Nat} {r : Int32} {M M' : Mem} {o : Nat} {x1 : Int32} (hE : Okk E A) (hd : 1 ≤ d) (ho : kd o = (10, 0)) (h : fX10_isOfRun o x1 M = some (r, M')) : Ct l E A d yX10_isOfRun cX10_isOfRun 2 (some .boolean) [.ref (ad E o), .int x1] M (some (.int r)) M' := by
  refine Ct.mk (ls := [some (.ref (ad E o)), some (.int x1)]) hE (by decide +kernel) rfl (Nat.le_of_ble_eq_true rfl) (fun X hXl hXA C R => ?_)
  subst hXl; subst hXA
  unfold fX10_isOfRun at h
  refine s_iload1 C dX10_isOfRun_0 ?_
  refine s_i2l C dX10_isOfRun_1 ?_
  refine s_lconst (v := 0) C (by decide) dX10_isOfRun_2 ?_
  refine s_aload0 C dX10_isOfRun_3 ?_
  refine gX10_326 C ho dX10_isOfRun_4 ?_
  refine s_iconst (v := 1) C (by decide) dX10_isOfRun_7 ?_
  refine s_isub C dX10_isOfRun_8 ?_
  refine s_i2l C dX10_isOfRun_9 ?_
  obtain ⟨r2, M1, hq, h⟩ := bI_e h
  refine s_callS (As := [.long (x1).toInt64, .long (0 : Int64), .long (((M.1 o 22) - (1 : Int32))).toInt64]) (v := some (.int r2)) C rfl (by omega) wX10_139 rfl (Nat.le_of_ble_eq_true rfl) dX10_isOfRun_10 (tX10_in C.2.2.2.2.2.2.1 (by omega)  hq) ?_
  obtain ⟨hb, h⟩ := ck_e h
  exact s_zret C R h (isB_n hb).1 dX10_isOfRun_13
set_option maxRecDepth 4000 in
theorem tX10_strays {l : Launch} {E : En} {A : Nat → Prop} {d : Nat} {r : Int32} {M M' : Mem} {o : Nat} {x1 : Int32} (hE : Okk E A) (hd : 6 ≤ d) (ho : kd o = (10, 0)) (h : fX10_strays o x1 M = some (r, M')) : Ct l E A d yX10_strays cX10_strays 2 (some .int) [.ref (ad E o), .int x1] M (some (.int r)) M' := by
  refine Ct.mk (ls := [some (.ref (ad E o)), some (.int x1)]) hE (by decide +kernel) rfl (Nat.le_of_ble_eq_true rfl) (fun X hXl hXA C R => ?_)
  subst hXl; subst hXA
  unfold fX10_strays at h
  refine s_aload0 C dX10_strays_0 ?_
  obtain ⟨r2, M1, hq, h⟩ := bI_e h
  refine s_callV (T := TX10) (As := []) (v := some (.int r2)) C rfl ho (by decide) rfl (by omega) wX10_484 rfl (Nat.le_of_ble_eq_true rfl) dX10_strays_1 (tX10_asks C.2.2.2.2.2.2.1 (by omega) ho hq) ?_
  refine s_if_eq (tgt := 15) C h dX10_strays_4 (by decide) ⟨fun h => ?_, fun h => ?_⟩
  · refine s_bipush (v := -2) C (by decide) dX10_strays_15 ?_
    exact s_iret C R h dX10_strays_17
  · refine s_aload0 C dX10_strays_7 ?_
    refine s_iload1 C dX10_strays_8 ?_
    obtain ⟨r4, M3, hq, h⟩ := bI_e h
    refine s_callV (T := TX10) (As := [.int x1]) (v := some (.int r4)) C rfl ho (by decide) rfl (by omega) wX10_517 rfl (Nat.le_of_ble_eq_true rfl) dX10_strays_9 (tX10_isOfRun C.2.2.2.2.2.2.1 (by omega) ho hq) ?_
    refine s_if_ne (tgt := 18) C h dX10_strays_12 (by decide) ⟨fun h => ?_, fun h => ?_⟩
    · refine s_aload0 C dX10_strays_18 ?_
      refine s_iload1 C dX10_strays_19 ?_
      obtain ⟨r6, M5, hq, h⟩ := bI_e h
      refine s_callV (T := TX10) (As := [.int x1]) (v := some (.int r6)) C rfl ho (by decide) rfl (by omega) wX10_477 rfl (Nat.le_of_ble_eq_true rfl) dX10_strays_20 (tX10_isWrong C.2.2.2.2.2.2.1 (by omega) ho hq) ?_
      refine s_if_eq (tgt := 34) C h dX10_strays_23 (by decide) ⟨fun h => ?_, fun h => ?_⟩
      · refine s_iconst (v := 0) C (by decide) dX10_strays_34 ?_
        exact s_iret C R h dX10_strays_35
      · refine s_aload0 C dX10_strays_26 ?_
        refine s_iload1 C dX10_strays_27 ?_
        obtain ⟨r8, M7, hq, h⟩ := bI_e h
        refine s_callV (T := TX10) (As := [.int x1]) (v := some (.int r8)) C rfl ho (by decide) rfl (by omega) wX10_520 rfl (Nat.le_of_ble_eq_true rfl) dX10_strays_28 (tX10_goAstray C.2.2.2.2.2.2.1 (by omega) ho hq) ?_
        refine s_goto (tgt := 35) C dX10_strays_31 (by decide) ?_
        exact s_iret C R h dX10_strays_35
    · refine s_bipush (v := -2) C (by decide) dX10_strays_15 ?_
      exact s_iret C R h dX10_strays_17
set_option maxRecDepth 4000 in
theorem tX10_stray {l : Launch} {E : En} {A : Nat → Prop} {d : Nat} {r : Int32} {M M' : Mem} {o : Nat} {x1 : Int32} {x2 : Int32} (hE : Okk E A) (hd : 6 ≤ d) (ho : kd o = (10, 0)) (h : fX10_stray o x1 x2 M = some (r, M')) : Ct l E A d yX10_stray cX10_stray 3 (some .int) [.ref (ad E o), .int x1, .int x2] M (some (.int r)) M' := by
  refine Ct.mk (ls := [some (.ref (ad E o)), some (.int x1), some (.int x2)]) hE (by decide +kernel) rfl (Nat.le_of_ble_eq_true rfl) (fun X hXl hXA C R => ?_)
  subst hXl; subst hXA
  unfold fX10_stray at h
  refine s_aload0 C dX10_stray_0 ?_
  obtain ⟨r2, M1, hq, h⟩ := bI_e h
  refine s_callV (T := TX10) (As := []) (v := some (.int r2)) C rfl ho (by decide) rfl (by omega) wX10_484 rfl (Nat.le_of_ble_eq_true rfl) dX10_stray_1 (tX10_asks C.2.2.2.2.2.2.1 (by omega) ho hq) ?_
  refine s_if_eq (tgt := 27) C h dX10_stray_4 (by decide) ⟨fun h => ?_, fun h => ?_⟩
  · refine s_bipush (v := -2) C (by decide) dX10_stray_27 ?_
    exact s_iret C R h dX10_stray_29
  · refine s_aload0 C dX10_stray_7 ?_
    refine s_iload1 C dX10_stray_8 ?_
    obtain ⟨r4, M3, hq, h⟩ := bI_e h
    refine s_callV (T := TX10) (As := [.int x1]) (v := some (.int r4)) C rfl ho (by decide) rfl (by omega) wX10_517 rfl (Nat.le_of_ble_eq_true rfl) dX10_stray_9 (tX10_isOfRun C.2.2.2.2.2.2.1 (by omega) ho hq) ?_
    refine s_if_eq (tgt := 27) C h dX10_stray_12 (by decide) ⟨fun h => ?_, fun h => ?_⟩
    · refine s_bipush (v := -2) C (by decide) dX10_stray_27 ?_
      exact s_iret C R h dX10_stray_29
    · refine s_iload2 C dX10_stray_15 ?_
      refine s_i2l C dX10_stray_16 ?_
      refine s_lconst (v := 0) C (by decide) dX10_stray_17 ?_
      refine s_ldc2 (v := 7) C k_1645 dX10_stray_18 ?_
      obtain ⟨r6, M5, hq, h⟩ := bI_e h
      refine s_callS (As := [.long (x2).toInt64, .long (0 : Int64), .long (7 : Int64)]) (v := some (.int r6)) C rfl (by omega) wX10_139 rfl (Nat.le_of_ble_eq_true rfl) dX10_stray_21 (tX10_in C.2.2.2.2.2.2.1 (by omega)  hq) ?_
      refine s_if_ne (tgt := 30) C h dX10_stray_24 (by decide) ⟨fun h => ?_, fun h => ?_⟩
      · refine s_aload0 C dX10_stray_30 ?_
        refine s_iload1 C dX10_stray_31 ?_
        obtain ⟨r8, M7, hq, h⟩ := bI_e h
        refine s_callV (T := TX10) (As := [.int x1]) (v := some (.int r8)) C rfl ho (by decide) rfl (by omega) wX10_477 rfl (Nat.le_of_ble_eq_true rfl) dX10_stray_32 (tX10_isWrong C.2.2.2.2.2.2.1 (by omega) ho hq) ?_
        refine s_if_ne (tgt := 40) C h dX10_stray_35 (by decide) ⟨fun h => ?_, fun h => ?_⟩
        · refine s_aload0 C dX10_stray_40 ?_
          refine s_iload1 C dX10_stray_41 ?_
          obtain ⟨r10, M9, hq, h⟩ := bI_e h
          refine s_callV (T := TX10) (As := [.int x1]) (v := some (.int r10)) C rfl ho (by decide) rfl (by omega) wX10_520 rfl (Nat.le_of_ble_eq_true rfl) dX10_stray_42 (tX10_goAstray C.2.2.2.2.2.2.1 (by omega) ho hq) ?_
          refine s_pop C rfl dX10_stray_45 ?_
          refine s_aload0 C dX10_stray_46 ?_
          refine gX10_109 C ho dX10_stray_47 ?_
          refine s_iload2 C dX10_stray_50 ?_
          refine s_iald C (qX10_strayNow ho) h dX10_stray_51 (fun h => ?_)
          exact s_iret C R h dX10_stray_52
        · refine s_iconst (v := -1) C (by decide) dX10_stray_38 ?_
          exact s_iret C R h dX10_stray_39
      · refine s_bipush (v := -2) C (by decide) dX10_stray_27 ?_
        exact s_iret C R h dX10_stray_29
set_option maxRecDepth 4000 in
theorem bX10_costNow_38 {E : En} {X : Xc} {d : Nat} {r : Int32} {M M' : Mem} {o : Nat} {x1 : Int32} {x2 : Int32} (C : Cx E X d cX10_costNow RX10 3) (R : Rt E X (some .int) (some (.int r)) M') (hd : 4 ≤ d) {k7 : Nat → Int32 → Int32 → Mem → Option (Int32 × Mem)} (hk7 : ∀ (o : Nat) (x1 : Int32) (x2 : Int32) (M : Mem) (_ : kd o = (10, 0)), k7 o x1 x2 M = some (r, M') → At E X 7 [some (.ref (ad E o)), some (.int x1), some (.int x2)] [] M) (ho : kd o = (10, 0)) (h : fX10_costNow_38 k7 o x1 x2 M = some (r, M')) : At E X 38 [some (.ref (ad E o)), some (.int x1), some (.int x2)] [] M := by
  unfold fX10_costNow_38 at h
  refine s_iinc2 (v := 1) C rfl dX10_costNow_38 (by decide) ?_
  refine s_goto (tgt := 7) C dX10_costNow_41 (by decide) ?_
  exact hk7 _ _ _ _ ho h
set_option maxRecDepth 4000 in
theorem bX10_costNow_7 {E : En} {X : Xc} {d : Nat} {r : Int32} {M' : Mem} (C : Cx E X d cX10_costNow RX10 3) (R : Rt E X (some .int) (some (.int r)) M') (hd : 4 ≤ d)   : ∀ (n : Nat) (o : Nat) (x1 : Int32) (x2 : Int32) (M : Mem) (_ : kd o = (10, 0)), fX10_costNow_7  n o x1 x2 M = some (r, M') → At E X 7 [some (.ref (ad E o)), some (.int x1), some (.int x2)] [] M := by
  intro n
  induction n with
  | zero => intro o x1 x2 M ho h; rw [fX10_costNow_7] at h; cases h
  | succ n ih =>
    intro o x1 x2 M ho h
    rw [fX10_costNow_7] at h
    refine s_iload2 C dX10_costNow_7 ?_
    refine s_aload0 C dX10_costNow_8 ?_
    refine gX10_326 C ho dX10_costNow_9 ?_
    refine s_ic_ge (tgt := 44) C h dX10_costNow_12 (by decide) ⟨fun h => ?_, fun h => ?_⟩
    · refine s_iload1 C dX10_costNow_44 ?_
      exact s_iret C R h dX10_costNow_45
    · refine s_aload0 C dX10_costNow_15 ?_
      refine s_iload2 C dX10_costNow_16 ?_
      obtain ⟨r2, M1, hq, h⟩ := bI_e h
      refine s_callV (T := TX10) (As := [.int x2]) (v := some (.int r2)) C rfl ho (by decide) rfl (by omega) wX10_477 rfl (Nat.le_of_ble_eq_true rfl) dX10_costNow_17 (tX10_isWrong C.2.2.2.2.2.2.1 (by omega) ho hq) ?_
      refine s_if_eq (tgt := 38) C h dX10_costNow_20 (by decide) ⟨fun h => ?_, fun h => ?_⟩
      · exact bX10_costNow_38 C R hd (ih) ho h
      · refine s_iload1 C dX10_costNow_23 ?_
        refine s_aload0 C dX10_costNow_24 ?_
        refine gX10_9 C ho dX10_costNow_25 ?_
        refine s_iconst (v := 3) C (by decide) dX10_costNow_28 ?_
        refine s_iald C (qX10_world ho) h dX10_costNow_29 (fun h => ?_)
        refine s_aload0 C dX10_costNow_30 ?_
        refine s_iload2 C dX10_costNow_31 ?_
        obtain ⟨r4, M3, hq, h⟩ := bI_e h
        refine s_callV (T := TX10) (As := [.int x2]) (v := some (.int r4)) C rfl ho (by decide) rfl (by omega) wX10_520 rfl (Nat.le_of_ble_eq_true rfl) dX10_costNow_32 (tX10_goAstray C.2.2.2.2.2.2.1 (by omega) ho hq) ?_
        refine s_iadd C dX10_costNow_35 ?_
        refine s_iadd C dX10_costNow_36 ?_
        refine s_istore1 C rfl dX10_costNow_37 ?_
        exact bX10_costNow_38 C R hd (ih) ho h
set_option maxRecDepth 4000 in
theorem tX10_costNow {l : Launch} {E : En} {A : Nat → Prop} {d : Nat} {r : Int32} {M M' : Mem} {o : Nat} (hE : Okk E A) (hd : 4 ≤ d) (ho : kd o = (10, 0)) (h : fX10_costNow o M = some (r, M')) : Ct l E A d yX10_costNow cX10_costNow 3 (some .int) [.ref (ad E o)] M (some (.int r)) M' := by
  refine Ct.mk (ls := [some (.ref (ad E o)), none, none]) hE (by decide +kernel) rfl (Nat.le_of_ble_eq_true rfl) (fun X hXl hXA C R => ?_)
  subst hXl; subst hXA
  unfold fX10_costNow at h
  refine s_aload0 C dX10_costNow_0 ?_
  refine gX10_292 C ho dX10_costNow_1 ?_
  refine s_istore1 C rfl dX10_costNow_4 ?_
  refine s_iconst (v := 0) C (by decide) dX10_costNow_5 ?_
  refine s_istore2 C rfl dX10_costNow_6 ?_
  exact bX10_costNow_7 C R hd  LF _ _ _ _ ho h
set_option maxRecDepth 4000 in
theorem tX10_cycles {l : Launch} {E : En} {A : Nat → Prop} {d : Nat} {r : Int32} {M M' : Mem} {o : Nat} (hE : Okk E A) (hd : 6 ≤ d) (ho : kd o = (10, 0)) (h : fX10_cycles o M = some (r, M')) : Ct l E A d yX10_cycles cX10_cycles 1 (some .int) [.ref (ad E o)] M (some (.int r)) M' := by
  refine Ct.mk (ls := [some (.ref (ad E o))]) hE (by decide +kernel) rfl (Nat.le_of_ble_eq_true rfl) (fun X hXl hXA C R => ?_)
  subst hXl; subst hXA
  unfold fX10_cycles at h
  refine s_aload0 C dX10_cycles_0 ?_
  obtain ⟨r2, M1, hq, h⟩ := bI_e h
  refine s_callV (T := TX10) (As := []) (v := some (.int r2)) C rfl ho (by decide) rfl (by omega) wX10_484 rfl (Nat.le_of_ble_eq_true rfl) dX10_cycles_1 (tX10_asks C.2.2.2.2.2.2.1 (by omega) ho hq) ?_
  refine s_if_eq (tgt := 14) C h dX10_cycles_4 (by decide) ⟨fun h => ?_, fun h => ?_⟩
  · refine s_bipush (v := -2) C (by decide) dX10_cycles_14 ?_
    exact s_iret C R h dX10_cycles_16
  · refine s_aload0 C dX10_cycles_7 ?_
    obtain ⟨r4, M3, hq, h⟩ := bI_e h
    refine s_callV (T := TX10) (As := []) (v := some (.int r4)) C rfl ho (by decide) rfl (by omega) wX10_523 rfl (Nat.le_of_ble_eq_true rfl) dX10_cycles_8 (tX10_costNow C.2.2.2.2.2.2.1 (by omega) ho hq) ?_
    refine s_goto (tgt := 16) C dX10_cycles_11 (by decide) ?_
    exact s_iret C R h dX10_cycles_16
set_option maxRecDepth 4000 in
theorem tX10_playBy {l : Launch} {E : En} {A : Nat → Prop} {d : Nat} {M M' : Mem} {o : Nat} {x1 : Int32} (hE : Okk E A) (hd : 5 ≤ d) (ho : kd o = (10, 0)) (h : fX10_playBy o x1 M = some M') : Ct l E A d yX10_playBy cX10_playBy 2 none [.ref (ad E o), .int x1] M none M' := by
  refine Ct.mk (ls := [some (.ref (ad E o)), some (.int x1)]) hE (by decide +kernel) rfl (Nat.le_of_ble_eq_true rfl) (fun X hXl hXA C R => ?_)
  subst hXl; subst hXA
  unfold fX10_playBy at h
  refine s_aload0 C dX10_playBy_0 ?_
  refine s_iload1 C dX10_playBy_1 ?_
  refine pX10_329 C ho dX10_playBy_2 ?_
  refine s_aload0 C dX10_playBy_5 ?_
  refine s_aload0 C dX10_playBy_6 ?_
  refine gX10_289 C ho dX10_playBy_7 ?_
  obtain ⟨M1, hq, h⟩ := bV_e h
  refine s_callV (T := TX10) (As := [.int ((pI M o 25 x1).1 o 23)]) (v := none) C rfl ho (by decide) rfl (by omega) wX10_474 rfl (Nat.le_of_ble_eq_true rfl) dX10_playBy_10 (tX10_play C.2.2.2.2.2.2.1 (by omega) ho hq) ?_
  exact s_vret C R h dX10_playBy_13
set_option maxRecDepth 4000 in
theorem bX10_cheapest_17 {E : En} {X : Xc} {d : Nat} {r : Int32} {M' : Mem} (C : Cx E X d cX10_cheapest RX10 3) (R : Rt E X (some .int) (some (.int r)) M') (hd : 6 ≤ d)   : ∀ (n : Nat) (o : Nat) (x1 : Int32) (x2 : Int32) (M : Mem) (_ : kd o = (10, 0)), fX10_cheapest_17  n o x1 x2 M = some (r, M') → At E X 17 [some (.ref (ad E o)), some (.int x1), some (.int x2)] [] M := by
  intro n
  induction n with
  | zero => intro o x1 x2 M ho h; rw [fX10_cheapest_17] at h; cases h
  | succ n ih =>
    intro o x1 x2 M ho h
    rw [fX10_cheapest_17] at h
    refine s_iload2 C dX10_cheapest_17 ?_
    refine s_bipush (v := 8) C (by decide) dX10_cheapest_18 ?_
    refine s_ic_ge (tgt := 43) C h dX10_cheapest_20 (by decide) ⟨fun h => ?_, fun h => ?_⟩
    · refine s_iload1 C dX10_cheapest_43 ?_
      exact s_iret C R h dX10_cheapest_44
    · refine s_aload0 C dX10_cheapest_23 ?_
      refine s_iload2 C dX10_cheapest_24 ?_
      obtain ⟨M1, hq, h⟩ := bV_e h
      refine s_callV (T := TX10) (As := [.int x2]) (v := none) C rfl ho (by decide) rfl (by omega) wX10_526 rfl (Nat.le_of_ble_eq_true rfl) dX10_cheapest_25 (tX10_playBy C.2.2.2.2.2.2.1 (by omega) ho hq) ?_
      refine s_iload1 C dX10_cheapest_28 ?_
      refine s_aload0 C dX10_cheapest_29 ?_
      obtain ⟨r3, M2, hq, h⟩ := bI_e h
      refine s_callV (T := TX10) (As := []) (v := some (.int r3)) C rfl ho (by decide) rfl (by omega) wX10_523 rfl (Nat.le_of_ble_eq_true rfl) dX10_cheapest_30 (tX10_costNow C.2.2.2.2.2.2.1 (by omega) ho hq) ?_
      refine s_min C rfl (by omega) wX10_128 (Nat.le_of_ble_eq_true rfl) dX10_cheapest_33 ?_
      refine s_istore1 C rfl dX10_cheapest_36 ?_
      refine s_iinc2 (v := 1) C rfl dX10_cheapest_37 (by decide) ?_
      refine s_goto (tgt := 17) C dX10_cheapest_40 (by decide) ?_
      exact ih _ _ _ _ ho h
set_option maxRecDepth 4000 in
theorem tX10_cheapest {l : Launch} {E : En} {A : Nat → Prop} {d : Nat} {r : Int32} {M M' : Mem} {o : Nat} (hE : Okk E A) (hd : 6 ≤ d) (ho : kd o = (10, 0)) (h : fX10_cheapest o M = some (r, M')) : Ct l E A d yX10_cheapest cX10_cheapest 3 (some .int) [.ref (ad E o)] M (some (.int r)) M' := by
  refine Ct.mk (ls := [some (.ref (ad E o)), none, none]) hE (by decide +kernel) rfl (Nat.le_of_ble_eq_true rfl) (fun X hXl hXA C R => ?_)
  subst hXl; subst hXA
  unfold fX10_cheapest at h
  refine s_aload0 C dX10_cheapest_0 ?_
  obtain ⟨r2, M1, hq, h⟩ := bI_e h
  refine s_callV (T := TX10) (As := []) (v := some (.int r2)) C rfl ho (by decide) rfl (by omega) wX10_484 rfl (Nat.le_of_ble_eq_true rfl) dX10_cheapest_1 (tX10_asks C.2.2.2.2.2.2.1 (by omega) ho hq) ?_
  refine s_if_ne (tgt := 10) C h dX10_cheapest_4 (by decide) ⟨fun h => ?_, fun h => ?_⟩
  · refine s_aload0 C dX10_cheapest_10 ?_
    obtain ⟨r4, M3, hq, h⟩ := bI_e h
    refine s_callV (T := TX10) (As := []) (v := some (.int r4)) C rfl ho (by decide) rfl (by omega) wX10_523 rfl (Nat.le_of_ble_eq_true rfl) dX10_cheapest_11 (tX10_costNow C.2.2.2.2.2.2.1 (by omega) ho hq) ?_
    refine s_istore1 C rfl dX10_cheapest_14 ?_
    refine s_iconst (v := 0) C (by decide) dX10_cheapest_15 ?_
    refine s_istore2 C rfl dX10_cheapest_16 ?_
    exact bX10_cheapest_17 C R hd  LF _ _ _ _ ho h
  · refine s_bipush (v := -2) C (by decide) dX10_cheapest_7 ?_
    exact s_iret C R h dX10_cheapest_9
set_option maxRecDepth 4000 in
theorem tX10_wrongWith {l : Launch} {E : En} {A : Nat → Prop} {d : Nat} {r : Int32} {M M' : Mem} {o : Nat} {x1 : Int32} (hE : Okk E A) (hd : 6 ≤ d) (ho : kd o = (10, 0)) (h : fX10_wrongWith o x1 M = some (r, M')) : Ct l E A d yX10_wrongWith cX10_wrongWith 2 (some .int) [.ref (ad E o), .int x1] M (some (.int r)) M' := by
  refine Ct.mk (ls := [some (.ref (ad E o)), some (.int x1)]) hE (by decide +kernel) rfl (Nat.le_of_ble_eq_true rfl) (fun X hXl hXA C R => ?_)
  subst hXl; subst hXA
  unfold fX10_wrongWith at h
  refine s_aload0 C dX10_wrongWith_0 ?_
  refine s_iload1 C dX10_wrongWith_1 ?_
  obtain ⟨M1, hq, h⟩ := bV_e h
  refine s_callV (T := TX10) (As := [.int x1]) (v := none) C rfl ho (by decide) rfl (by omega) wX10_526 rfl (Nat.le_of_ble_eq_true rfl) dX10_wrongWith_2 (tX10_playBy C.2.2.2.2.2.2.1 (by omega) ho hq) ?_
  refine s_aload0 C dX10_wrongWith_5 ?_
  refine s_aload0 C dX10_wrongWith_6 ?_
  refine gX10_289 C ho dX10_wrongWith_7 ?_
  obtain ⟨r3, M2, hq, h⟩ := bI_e h
  refine s_callV (T := TX10) (As := [.int (M1.1 o 23)]) (v := some (.int r3)) C rfl ho (by decide) rfl (by omega) wX10_487 rfl (Nat.le_of_ble_eq_true rfl) dX10_wrongWith_10 (tX10_wrongBy C.2.2.2.2.2.2.1 (by omega) ho hq) ?_
  exact s_iret C R h dX10_wrongWith_13
set_option maxRecDepth 4000 in
theorem tX10_by {l : Launch} {E : En} {A : Nat → Prop} {d : Nat} {r : Int32} {M M' : Mem} {o : Nat} {x1 : Int32} (hE : Okk E A) (hd : 7 ≤ d) (ho : kd o = (10, 0)) (h : fX10_by o x1 M = some (r, M')) : Ct l E A d yX10_by cX10_by 2 (some .int) [.ref (ad E o), .int x1] M (some (.int r)) M' := by
  refine Ct.mk (ls := [some (.ref (ad E o)), some (.int x1)]) hE (by decide +kernel) rfl (Nat.le_of_ble_eq_true rfl) (fun X hXl hXA C R => ?_)
  subst hXl; subst hXA
  unfold fX10_by at h
  refine s_aload0 C dX10_by_0 ?_
  obtain ⟨r2, M1, hq, h⟩ := bI_e h
  refine s_callV (T := TX10) (As := []) (v := some (.int r2)) C rfl ho (by decide) rfl (by omega) wX10_471 rfl (Nat.le_of_ble_eq_true rfl) dX10_by_1 (tX10_lays C.2.2.2.2.2.2.1 (by omega) ho hq) ?_
  refine s_if_eq (tgt := 27) C h dX10_by_4 (by decide) ⟨fun h => ?_, fun h => ?_⟩
  · refine s_bipush (v := -2) C (by decide) dX10_by_27 ?_
    exact s_iret C R h dX10_by_29
  · refine s_iload1 C dX10_by_7 ?_
    refine s_i2l C dX10_by_8 ?_
    refine s_lconst (v := 0) C (by decide) dX10_by_9 ?_
    refine s_ldc2 (v := 7) C k_1645 dX10_by_10 ?_
    obtain ⟨r4, M3, hq, h⟩ := bI_e h
    refine s_callS (As := [.long (x1).toInt64, .long (0 : Int64), .long (7 : Int64)]) (v := some (.int r4)) C rfl (by omega) wX10_139 rfl (Nat.le_of_ble_eq_true rfl) dX10_by_13 (tX10_in C.2.2.2.2.2.2.1 (by omega)  hq) ?_
    refine s_if_eq (tgt := 27) C h dX10_by_16 (by decide) ⟨fun h => ?_, fun h => ?_⟩
    · refine s_bipush (v := -2) C (by decide) dX10_by_27 ?_
      exact s_iret C R h dX10_by_29
    · refine s_aload0 C dX10_by_19 ?_
      refine s_iload1 C dX10_by_20 ?_
      obtain ⟨r6, M5, hq, h⟩ := bI_e h
      refine s_callV (T := TX10) (As := [.int x1]) (v := some (.int r6)) C rfl ho (by decide) rfl (by omega) wX10_529 rfl (Nat.le_of_ble_eq_true rfl) dX10_by_21 (tX10_wrongWith C.2.2.2.2.2.2.1 (by omega) ho hq) ?_
      refine s_goto (tgt := 29) C dX10_by_24 (by decide) ?_
      exact s_iret C R h dX10_by_29
set_option maxRecDepth 4000 in
theorem bX10_ideal_47 {E : En} {X : Xc} {d : Nat} {r : Int32} {M M' : Mem} {o : Nat} {x1 : Int32} {x2 : Int32} {x3 : Int32} (C : Cx E X d cX10_ideal RX10 5) (R : Rt E X (some .int) (some (.int r)) M') (hd : 7 ≤ d) {k20 : Nat → Int32 → Int32 → Int32 → Mem → Option (Int32 × Mem)} (hk20 : ∀ (o : Nat) (x1 : Int32) (x2 : Int32) (x3 : Int32) (M : Mem) (_ : kd o = (10, 0)), k20 o x1 x2 x3 M = some (r, M') → At E X 20 [some (.ref (ad E o)), some (.int x1), some (.int x2), some (.int x3), none] [] M) (ho : kd o = (10, 0)) (h : fX10_ideal_47 k20 o x1 x2 x3 M = some (r, M')) : At E X 47 [some (.ref (ad E o)), some (.int x1), some (.int x2), some (.int x3), none] [] M := by
  unfold fX10_ideal_47 at h
  refine s_iinc3 (v := 1) C rfl dX10_ideal_47 (by decide) ?_
  refine s_goto (tgt := 20) C dX10_ideal_50 (by decide) ?_
  exact hk20 _ _ _ _ _ ho h
set_option maxRecDepth 4000 in
theorem bX10_ideal_20 {E : En} {X : Xc} {d : Nat} {r : Int32} {M' : Mem} (C : Cx E X d cX10_ideal RX10 5) (R : Rt E X (some .int) (some (.int r)) M') (hd : 7 ≤ d)   : ∀ (n : Nat) (o : Nat) (x1 : Int32) (x2 : Int32) (x3 : Int32) (M : Mem) (_ : kd o = (10, 0)), fX10_ideal_20  n o x1 x2 x3 M = some (r, M') → At E X 20 [some (.ref (ad E o)), some (.int x1), some (.int x2), some (.int x3), none] [] M := by
  intro n
  induction n with
  | zero => intro o x1 x2 x3 M ho h; rw [fX10_ideal_20] at h; cases h
  | succ n ih =>
    intro o x1 x2 x3 M ho h
    rw [fX10_ideal_20] at h
    refine s_iload3 C dX10_ideal_20 ?_
    refine s_bipush (v := 8) C (by decide) dX10_ideal_21 ?_
    refine s_ic_ge (tgt := 53) C h dX10_ideal_23 (by decide) ⟨fun h => ?_, fun h => ?_⟩
    · refine s_iload1 C dX10_ideal_53 ?_
      exact s_iret C R h dX10_ideal_54
    · refine s_aload0 C dX10_ideal_26 ?_
      refine s_iload3 C dX10_ideal_27 ?_
      obtain ⟨r2, M1, hq, h⟩ := bI_e h
      refine s_callV (T := TX10) (As := [.int x3]) (v := some (.int r2)) C rfl ho (by decide) rfl (by omega) wX10_529 rfl (Nat.le_of_ble_eq_true rfl) dX10_ideal_28 (tX10_wrongWith C.2.2.2.2.2.2.1 (by omega) ho hq) ?_
      refine s_istore4 C rfl dX10_ideal_31 ?_
      refine s_iload4 C dX10_ideal_33 ?_
      refine s_iload2 C dX10_ideal_35 ?_
      refine s_ic_lt (tgt := 42) C h dX10_ideal_36 (by decide) ⟨fun h => ?_, fun h => ?_⟩
      · refine s_iload4 C dX10_ideal_42 ?_
        refine s_istore2 C rfl dX10_ideal_44 ?_
        refine s_iload3 C dX10_ideal_45 ?_
        refine s_istore1 C rfl dX10_ideal_46 ?_
        refine s_fg 4 ?_
        exact bX10_ideal_47 C R hd (ih) ho h
      · refine s_goto (tgt := 47) C dX10_ideal_39 (by decide) ?_
        refine s_fg 4 ?_
        exact bX10_ideal_47 C R hd (ih) ho h
set_option maxRecDepth 4000 in
theorem tX10_ideal {l : Launch} {E : En} {A : Nat → Prop} {d : Nat} {r : Int32} {M M' : Mem} {o : Nat} (hE : Okk E A) (hd : 7 ≤ d) (ho : kd o = (10, 0)) (h : fX10_ideal o M = some (r, M')) : Ct l E A d yX10_ideal cX10_ideal 5 (some .int) [.ref (ad E o)] M (some (.int r)) M' := by
  refine Ct.mk (ls := [some (.ref (ad E o)), none, none, none, none]) hE (by decide +kernel) rfl (Nat.le_of_ble_eq_true rfl) (fun X hXl hXA C R => ?_)
  subst hXl; subst hXA
  unfold fX10_ideal at h
  refine s_aload0 C dX10_ideal_0 ?_
  obtain ⟨r2, M1, hq, h⟩ := bI_e h
  refine s_callV (T := TX10) (As := []) (v := some (.int r2)) C rfl ho (by decide) rfl (by omega) wX10_471 rfl (Nat.le_of_ble_eq_true rfl) dX10_ideal_1 (tX10_lays C.2.2.2.2.2.2.1 (by omega) ho hq) ?_
  refine s_if_ne (tgt := 10) C h dX10_ideal_4 (by decide) ⟨fun h => ?_, fun h => ?_⟩
  · refine s_iconst (v := 0) C (by decide) dX10_ideal_10 ?_
    refine s_istore1 C rfl dX10_ideal_11 ?_
    refine s_aload0 C dX10_ideal_12 ?_
    refine s_iconst (v := 0) C (by decide) dX10_ideal_13 ?_
    obtain ⟨r4, M3, hq, h⟩ := bI_e h
    refine s_callV (T := TX10) (As := [.int (0 : Int32)]) (v := some (.int r4)) C rfl ho (by decide) rfl (by omega) wX10_529 rfl (Nat.le_of_ble_eq_true rfl) dX10_ideal_14 (tX10_wrongWith C.2.2.2.2.2.2.1 (by omega) ho hq) ?_
    refine s_istore2 C rfl dX10_ideal_17 ?_
    refine s_iconst (v := 1) C (by decide) dX10_ideal_18 ?_
    refine s_istore3 C rfl dX10_ideal_19 ?_
    exact bX10_ideal_20 C R hd  LF _ _ _ _ _ ho h
  · refine s_bipush (v := -2) C (by decide) dX10_ideal_7 ?_
    exact s_iret C R h dX10_ideal_9
set_option maxRecDepth 4000 in
theorem tX10_wrongWithout {l : Launch} {E : En} {A : Nat → Prop} {d : Nat} {r : Int32} {M M' : Mem} {o : Nat} {x1 : Int32} (hE : Okk E A) (hd : 5 ≤ d) (ho : kd o = (10, 0)) (h : fX10_wrongWithout o x1 M = some (r, M')) : Ct l E A d yX10_wrongWithout cX10_wrongWithout 2 (some .int) [.ref (ad E o), .int x1] M (some (.int r)) M' := by
  refine Ct.mk (ls := [some (.ref (ad E o)), some (.int x1)]) hE (by decide +kernel) rfl (Nat.le_of_ble_eq_true rfl) (fun X hXl hXA C R => ?_)
  subst hXl; subst hXA
  unfold fX10_wrongWithout at h
  refine s_aload0 C dX10_wrongWithout_0 ?_
  obtain ⟨M1, hq, h⟩ := bV_e h
  refine s_callV (T := TX10) (As := []) (v := none) C rfl ho (by decide) rfl (by omega) wX10_465 rfl (Nat.le_of_ble_eq_true rfl) dX10_wrongWithout_1 (tX10_asTold C.2.2.2.2.2.2.1 (by omega) ho hq) ?_
  refine s_aload0 C dX10_wrongWithout_4 ?_
  refine s_iload1 C dX10_wrongWithout_5 ?_
  refine pX10_332 C ho dX10_wrongWithout_6 ?_
  refine s_aload0 C dX10_wrongWithout_9 ?_
  refine s_aload0 C dX10_wrongWithout_10 ?_
  refine gX10_289 C ho dX10_wrongWithout_11 ?_
  obtain ⟨M2, hq, h⟩ := bV_e h
  refine s_callV (T := TX10) (As := [.int ((pI M1 o 26 x1).1 o 23)]) (v := none) C rfl ho (by decide) rfl (by omega) wX10_474 rfl (Nat.le_of_ble_eq_true rfl) dX10_wrongWithout_14 (tX10_play C.2.2.2.2.2.2.1 (by omega) ho hq) ?_
  refine s_aload0 C dX10_wrongWithout_17 ?_
  refine s_aload0 C dX10_wrongWithout_18 ?_
  refine gX10_289 C ho dX10_wrongWithout_19 ?_
  obtain ⟨r4, M3, hq, h⟩ := bI_e h
  refine s_callV (T := TX10) (As := [.int (M2.1 o 23)]) (v := some (.int r4)) C rfl ho (by decide) rfl (by omega) wX10_487 rfl (Nat.le_of_ble_eq_true rfl) dX10_wrongWithout_22 (tX10_wrongBy C.2.2.2.2.2.2.1 (by omega) ho hq) ?_
  exact s_iret C R h dX10_wrongWithout_25
set_option maxRecDepth 4000 in
theorem tX10_without {l : Launch} {E : En} {A : Nat → Prop} {d : Nat} {r : Int32} {M M' : Mem} {o : Nat} {x1 : Int32} (hE : Okk E A) (hd : 6 ≤ d) (ho : kd o = (10, 0)) (h : fX10_without o x1 M = some (r, M')) : Ct l E A d yX10_without cX10_without 2 (some .int) [.ref (ad E o), .int x1] M (some (.int r)) M' := by
  refine Ct.mk (ls := [some (.ref (ad E o)), some (.int x1)]) hE (by decide +kernel) rfl (Nat.le_of_ble_eq_true rfl) (fun X hXl hXA C R => ?_)
  subst hXl; subst hXA
  unfold fX10_without at h
  refine s_aload0 C dX10_without_0 ?_
  obtain ⟨r2, M1, hq, h⟩ := bI_e h
  refine s_callV (T := TX10) (As := []) (v := some (.int r2)) C rfl ho (by decide) rfl (by omega) wX10_471 rfl (Nat.le_of_ble_eq_true rfl) dX10_without_1 (tX10_lays C.2.2.2.2.2.2.1 (by omega) ho hq) ?_
  refine s_if_eq (tgt := 23) C h dX10_without_4 (by decide) ⟨fun h => ?_, fun h => ?_⟩
  · refine s_bipush (v := -2) C (by decide) dX10_without_23 ?_
    exact s_iret C R h dX10_without_25
  · refine s_aload0 C dX10_without_7 ?_
    refine s_iload1 C dX10_without_8 ?_
    obtain ⟨r4, M3, hq, h⟩ := bI_e h
    refine s_callV (T := TX10) (As := [.int x1]) (v := some (.int r4)) C rfl ho (by decide) rfl (by omega) wX10_508 rfl (Nat.le_of_ble_eq_true rfl) dX10_without_9 (tX10_isTable C.2.2.2.2.2.2.1 (by omega) ho hq) ?_
    refine s_if_eq (tgt := 23) C h dX10_without_12 (by decide) ⟨fun h => ?_, fun h => ?_⟩
    · refine s_bipush (v := -2) C (by decide) dX10_without_23 ?_
      exact s_iret C R h dX10_without_25
    · refine s_aload0 C dX10_without_15 ?_
      refine s_iload1 C dX10_without_16 ?_
      obtain ⟨r6, M5, hq, h⟩ := bI_e h
      refine s_callV (T := TX10) (As := [.int x1]) (v := some (.int r6)) C rfl ho (by decide) rfl (by omega) wX10_532 rfl (Nat.le_of_ble_eq_true rfl) dX10_without_17 (tX10_wrongWithout C.2.2.2.2.2.2.1 (by omega) ho hq) ?_
      refine s_goto (tgt := 25) C dX10_without_20 (by decide) ?_
      exact s_iret C R h dX10_without_25
set_option maxRecDepth 4000 in
theorem bX10_spare_50 {E : En} {X : Xc} {d : Nat} {r : Int32} {M M' : Mem} {o : Nat} {x1 : Int32} {x2 : Int32} {x3 : Int32} (C : Cx E X d cX10_spare RX10 5) (R : Rt E X (some .int) (some (.int r)) M') (hd : 6 ≤ d) {k16 : Nat → Int32 → Int32 → Int32 → Mem → Option (Int32 × Mem)} (hk16 : ∀ (o : Nat) (x1 : Int32) (x2 : Int32) (x3 : Int32) (M : Mem) (_ : kd o = (10, 0)), k16 o x1 x2 x3 M = some (r, M') → At E X 16 [some (.ref (ad E o)), some (.int x1), some (.int x2), some (.int x3), none] [] M) (ho : kd o = (10, 0)) (h : fX10_spare_50 k16 o x1 x2 x3 M = some (r, M')) : At E X 50 [some (.ref (ad E o)), some (.int x1), some (.int x2), some (.int x3), none] [] M := by
  unfold fX10_spare_50 at h
  refine s_iinc3 (v := 1) C rfl dX10_spare_50 (by decide) ?_
  refine s_goto (tgt := 16) C dX10_spare_53 (by decide) ?_
  exact hk16 _ _ _ _ _ ho h
set_option maxRecDepth 4000 in
theorem bX10_spare_45 {E : En} {X : Xc} {d : Nat} {r : Int32} {M M' : Mem} {o : Nat} {x3 : Int32} {x4 : Int32} (C : Cx E X d cX10_spare RX10 5) (R : Rt E X (some .int) (some (.int r)) M') (hd : 6 ≤ d) {k16 : Nat → Int32 → Int32 → Int32 → Mem → Option (Int32 × Mem)} (hk16 : ∀ (o : Nat) (x1 : Int32) (x2 : Int32) (x3 : Int32) (M : Mem) (_ : kd o = (10, 0)), k16 o x1 x2 x3 M = some (r, M') → At E X 16 [some (.ref (ad E o)), some (.int x1), some (.int x2), some (.int x3), none] [] M) (ho : kd o = (10, 0)) (h : fX10_spare_45 k16 o x3 x4 M = some (r, M')) : At E X 45 [some (.ref (ad E o)), none, none, some (.int x3), some (.int x4)] [] M := by
  unfold fX10_spare_45 at h
  refine s_iload4 C dX10_spare_45 ?_
  refine s_istore2 C rfl dX10_spare_47 ?_
  refine s_iload3 C dX10_spare_48 ?_
  refine s_istore1 C rfl dX10_spare_49 ?_
  refine s_fg 4 ?_
  exact bX10_spare_50 C R hd (hk16) ho h
set_option maxRecDepth 4000 in
theorem bX10_spare_16 {E : En} {X : Xc} {d : Nat} {r : Int32} {M' : Mem} (C : Cx E X d cX10_spare RX10 5) (R : Rt E X (some .int) (some (.int r)) M') (hd : 6 ≤ d)   : ∀ (n : Nat) (o : Nat) (x1 : Int32) (x2 : Int32) (x3 : Int32) (M : Mem) (_ : kd o = (10, 0)), fX10_spare_16  n o x1 x2 x3 M = some (r, M') → At E X 16 [some (.ref (ad E o)), some (.int x1), some (.int x2), some (.int x3), none] [] M := by
  intro n
  induction n with
  | zero => intro o x1 x2 x3 M ho h; rw [fX10_spare_16] at h; cases h
  | succ n ih =>
    intro o x1 x2 x3 M ho h
    rw [fX10_spare_16] at h
    refine s_iload3 C dX10_spare_16 ?_
    refine s_aload0 C dX10_spare_17 ?_
    obtain ⟨r2, M1, hq, h⟩ := bI_e h
    refine s_callV (T := TX10) (As := []) (v := some (.int r2)) C rfl ho (by decide) rfl (by omega) wX10_335 rfl (Nat.le_of_ble_eq_true rfl) dX10_spare_18 (tX10_tables C.2.2.2.2.2.2.1 (by omega) ho hq) ?_
    refine s_ic_gt (tgt := 56) C h dX10_spare_21 (by decide) ⟨fun h => ?_, fun h => ?_⟩
    · refine s_iload1 C dX10_spare_56 ?_
      exact s_iret C R h dX10_spare_57
    · refine s_aload0 C dX10_spare_24 ?_
      refine s_iload3 C dX10_spare_25 ?_
      obtain ⟨r4, M3, hq, h⟩ := bI_e h
      refine s_callV (T := TX10) (As := [.int x3]) (v := some (.int r4)) C rfl ho (by decide) rfl (by omega) wX10_532 rfl (Nat.le_of_ble_eq_true rfl) dX10_spare_26 (tX10_wrongWithout C.2.2.2.2.2.2.1 (by omega) ho hq) ?_
      refine s_istore4 C rfl dX10_spare_29 ?_
      refine s_iload1 C dX10_spare_31 ?_
      refine s_iconst (v := -1) C (by decide) dX10_spare_32 ?_
      refine s_ic_eq (tgt := 45) C h dX10_spare_33 (by decide) ⟨fun h => ?_, fun h => ?_⟩
      · refine s_fg 1 ?_
        refine s_fg 2 ?_
        exact bX10_spare_45 C R hd (ih) ho h
      · refine s_iload4 C dX10_spare_36 ?_
        refine s_iload2 C dX10_spare_38 ?_
        refine s_ic_lt (tgt := 45) C h dX10_spare_39 (by decide) ⟨fun h => ?_, fun h => ?_⟩
        · refine s_fg 1 ?_
          refine s_fg 2 ?_
          exact bX10_spare_45 C R hd (ih) ho h
        · refine s_goto (tgt := 50) C dX10_spare_42 (by decide) ?_
          refine s_fg 4 ?_
          exact bX10_spare_50 C R hd (ih) ho h
set_option maxRecDepth 4000 in
theorem tX10_spare {l : Launch} {E : En} {A : Nat → Prop} {d : Nat} {r : Int32} {M M' : Mem} {o : Nat} (hE : Okk E A) (hd : 6 ≤ d) (ho : kd o = (10, 0)) (h : fX10_spare o M = some (r, M')) : Ct l E A d yX10_spare cX10_spare 5 (some .int) [.ref (ad E o)] M (some (.int r)) M' := by
  refine Ct.mk (ls := [some (.ref (ad E o)), none, none, none, none]) hE (by decide +kernel) rfl (Nat.le_of_ble_eq_true rfl) (fun X hXl hXA C R => ?_)
  subst hXl; subst hXA
  unfold fX10_spare at h
  refine s_aload0 C dX10_spare_0 ?_
  obtain ⟨r2, M1, hq, h⟩ := bI_e h
  refine s_callV (T := TX10) (As := []) (v := some (.int r2)) C rfl ho (by decide) rfl (by omega) wX10_471 rfl (Nat.le_of_ble_eq_true rfl) dX10_spare_1 (tX10_lays C.2.2.2.2.2.2.1 (by omega) ho hq) ?_
  refine s_if_ne (tgt := 10) C h dX10_spare_4 (by decide) ⟨fun h => ?_, fun h => ?_⟩
  · refine s_iconst (v := -1) C (by decide) dX10_spare_10 ?_
    refine s_istore1 C rfl dX10_spare_11 ?_
    refine s_iconst (v := 0) C (by decide) dX10_spare_12 ?_
    refine s_istore2 C rfl dX10_spare_13 ?_
    refine s_iconst (v := 1) C (by decide) dX10_spare_14 ?_
    refine s_istore3 C rfl dX10_spare_15 ?_
    exact bX10_spare_16 C R hd  LF _ _ _ _ _ ho h
  · refine s_bipush (v := -2) C (by decide) dX10_spare_7 ?_
    exact s_iret C R h dX10_spare_9
set_option maxRecDepth 4000 in
theorem tX10_lowOf {l : Launch} {E : En} {A : Nat → Prop} {d : Nat} {r : Int32} {M M' : Mem} {o : Nat} {x1 : Int32} (hE : Okk E A) (hd : 0 ≤ d) (ho : kd o = (10, 0)) (h : fX10_lowOf o x1 M = some (r, M')) : Ct l E A d yX10_lowOf cX10_lowOf 2 (some .int) [.ref (ad E o), .int x1] M (some (.int r)) M' := by
  refine Ct.mk (ls := [some (.ref (ad E o)), some (.int x1)]) hE (by decide +kernel) rfl (Nat.le_of_ble_eq_true rfl) (fun X hXl hXA C R => ?_)
  subst hXl; subst hXA
  unfold fX10_lowOf at h
  refine s_iload1 C dX10_lowOf_0 ?_
  refine s_iconst (v := 1) C (by decide) dX10_lowOf_1 ?_
  refine s_ic_ne (tgt := 9) C h dX10_lowOf_2 (by decide) ⟨fun h => ?_, fun h => ?_⟩
  · refine s_aload0 C dX10_lowOf_9 ?_
    refine gX10_9 C ho dX10_lowOf_10 ?_
    refine s_bipush (v := 10) C (by decide) dX10_lowOf_13 ?_
    refine s_iload1 C dX10_lowOf_15 ?_
    refine s_iadd C dX10_lowOf_16 ?_
    refine s_iconst (v := 2) C (by decide) dX10_lowOf_17 ?_
    refine s_isub C dX10_lowOf_18 ?_
    refine s_iald C (qX10_world ho) h dX10_lowOf_19 (fun h => ?_)
    refine s_iconst (v := 1) C (by decide) dX10_lowOf_20 ?_
    refine s_iadd C dX10_lowOf_21 ?_
    exact s_iret C R h dX10_lowOf_22
  · refine s_iconst (v := 1) C (by decide) dX10_lowOf_5 ?_
    refine s_goto (tgt := 22) C dX10_lowOf_6 (by decide) ?_
    exact s_iret C R h dX10_lowOf_22
set_option maxRecDepth 4000 in
theorem tX10_farOf {l : Launch} {E : En} {A : Nat → Prop} {d : Nat} {r : Int32} {M M' : Mem} {o : Nat} {x1 : Int32} (hE : Okk E A) (hd : 1 ≤ d) (ho : kd o = (10, 0)) (h : fX10_farOf o x1 M = some (r, M')) : Ct l E A d yX10_farOf cX10_farOf 2 (some .int) [.ref (ad E o), .int x1] M (some (.int r)) M' := by
  refine Ct.mk (ls := [some (.ref (ad E o)), some (.int x1)]) hE (by decide +kernel) rfl (Nat.le_of_ble_eq_true rfl) (fun X hXl hXA C R => ?_)
  subst hXl; subst hXA
  unfold fX10_farOf at h
  refine s_iload1 C dX10_farOf_0 ?_
  refine s_aload0 C dX10_farOf_1 ?_
  obtain ⟨r2, M1, hq, h⟩ := bI_e h
  refine s_callV (T := TX10) (As := []) (v := some (.int r2)) C rfl ho (by decide) rfl (by omega) wX10_335 rfl (Nat.le_of_ble_eq_true rfl) dX10_farOf_2 (tX10_tables C.2.2.2.2.2.2.1 (by omega) ho hq) ?_
  refine s_ic_ne (tgt := 13) C h dX10_farOf_5 (by decide) ⟨fun h => ?_, fun h => ?_⟩
  · refine s_aload0 C dX10_farOf_13 ?_
    refine gX10_9 C ho dX10_farOf_14 ?_
    refine s_bipush (v := 10) C (by decide) dX10_farOf_17 ?_
    refine s_iload1 C dX10_farOf_19 ?_
    refine s_iadd C dX10_farOf_20 ?_
    refine s_iald C (qX10_world ho) h dX10_farOf_21 (fun h => ?_)
    refine s_iconst (v := 1) C (by decide) dX10_farOf_22 ?_
    refine s_isub C dX10_farOf_23 ?_
    exact s_iret C R h dX10_farOf_24
  · refine s_bipush (v := 40) C (by decide) dX10_farOf_8 ?_
    refine s_goto (tgt := 24) C dX10_farOf_10 (by decide) ?_
    exact s_iret C R h dX10_farOf_24
set_option maxRecDepth 4000 in
theorem tX10_wrongSpanned {l : Launch} {E : En} {A : Nat → Prop} {d : Nat} {r : Int32} {M M' : Mem} {o : Nat} {x1 : Int32} {x2 : Int32} (hE : Okk E A) (hd : 5 ≤ d) (ho : kd o = (10, 0)) (h : fX10_wrongSpanned o x1 x2 M = some (r, M')) : Ct l E A d yX10_wrongSpanned cX10_wrongSpanned 3 (some .int) [.ref (ad E o), .int x1, .int x2] M (some (.int r)) M' := by
  refine Ct.mk (ls := [some (.ref (ad E o)), some (.int x1), some (.int x2)]) hE (by decide +kernel) rfl (Nat.le_of_ble_eq_true rfl) (fun X hXl hXA C R => ?_)
  subst hXl; subst hXA
  unfold fX10_wrongSpanned at h
  refine s_aload0 C dX10_wrongSpanned_0 ?_
  obtain ⟨M1, hq, h⟩ := bV_e h
  refine s_callV (T := TX10) (As := []) (v := none) C rfl ho (by decide) rfl (by omega) wX10_465 rfl (Nat.le_of_ble_eq_true rfl) dX10_wrongSpanned_1 (tX10_asTold C.2.2.2.2.2.2.1 (by omega) ho hq) ?_
  refine s_aload0 C dX10_wrongSpanned_4 ?_
  refine gX10_49 C ho dX10_wrongSpanned_5 ?_
  refine s_iload1 C dX10_wrongSpanned_8 ?_
  refine s_iload2 C dX10_wrongSpanned_9 ?_
  refine s_iast C (qX10_spanNow ho) h dX10_wrongSpanned_10 (fun h => ?_)
  refine s_aload0 C dX10_wrongSpanned_11 ?_
  refine s_aload0 C dX10_wrongSpanned_12 ?_
  refine gX10_289 C ho dX10_wrongSpanned_13 ?_
  obtain ⟨M2, hq, h⟩ := bV_e h
  refine s_callV (T := TX10) (As := [.int ((pI M1 (o + 12) (tn x1) x2).1 o 23)]) (v := none) C rfl ho (by decide) rfl (by omega) wX10_474 rfl (Nat.le_of_ble_eq_true rfl) dX10_wrongSpanned_16 (tX10_play C.2.2.2.2.2.2.1 (by omega) ho hq) ?_
  refine s_aload0 C dX10_wrongSpanned_19 ?_
  refine s_aload0 C dX10_wrongSpanned_20 ?_
  refine gX10_289 C ho dX10_wrongSpanned_21 ?_
  obtain ⟨r4, M3, hq, h⟩ := bI_e h
  refine s_callV (T := TX10) (As := [.int (M2.1 o 23)]) (v := some (.int r4)) C rfl ho (by decide) rfl (by omega) wX10_487 rfl (Nat.le_of_ble_eq_true rfl) dX10_wrongSpanned_24 (tX10_wrongBy C.2.2.2.2.2.2.1 (by omega) ho hq) ?_
  exact s_iret C R h dX10_wrongSpanned_27
set_option maxRecDepth 4000 in
theorem tX10_spanned {l : Launch} {E : En} {A : Nat → Prop} {d : Nat} {r : Int32} {M M' : Mem} {o : Nat} {x1 : Int32} {x2 : Int32} (hE : Okk E A) (hd : 6 ≤ d) (ho : kd o = (10, 0)) (h : fX10_spanned o x1 x2 M = some (r, M')) : Ct l E A d yX10_spanned cX10_spanned 3 (some .int) [.ref (ad E o), .int x1, .int x2] M (some (.int r)) M' := by
  refine Ct.mk (ls := [some (.ref (ad E o)), some (.int x1), some (.int x2)]) hE (by decide +kernel) rfl (Nat.le_of_ble_eq_true rfl) (fun X hXl hXA C R => ?_)
  subst hXl; subst hXA
  unfold fX10_spanned at h
  refine s_aload0 C dX10_spanned_0 ?_
  obtain ⟨r2, M1, hq, h⟩ := bI_e h
  refine s_callV (T := TX10) (As := []) (v := some (.int r2)) C rfl ho (by decide) rfl (by omega) wX10_471 rfl (Nat.le_of_ble_eq_true rfl) dX10_spanned_1 (tX10_lays C.2.2.2.2.2.2.1 (by omega) ho hq) ?_
  refine s_if_eq (tgt := 44) C h dX10_spanned_4 (by decide) ⟨fun h => ?_, fun h => ?_⟩
  · refine s_bipush (v := -2) C (by decide) dX10_spanned_44 ?_
    exact s_iret C R h dX10_spanned_46
  · refine s_aload0 C dX10_spanned_7 ?_
    refine s_iload1 C dX10_spanned_8 ?_
    obtain ⟨r4, M3, hq, h⟩ := bI_e h
    refine s_callV (T := TX10) (As := [.int x1]) (v := some (.int r4)) C rfl ho (by decide) rfl (by omega) wX10_508 rfl (Nat.le_of_ble_eq_true rfl) dX10_spanned_9 (tX10_isTable C.2.2.2.2.2.2.1 (by omega) ho hq) ?_
    refine s_if_eq (tgt := 44) C h dX10_spanned_12 (by decide) ⟨fun h => ?_, fun h => ?_⟩
    · refine s_bipush (v := -2) C (by decide) dX10_spanned_44 ?_
      exact s_iret C R h dX10_spanned_46
    · refine s_iload2 C dX10_spanned_15 ?_
      refine s_i2l C dX10_spanned_16 ?_
      refine s_aload0 C dX10_spanned_17 ?_
      refine s_iload1 C dX10_spanned_18 ?_
      obtain ⟨r6, M5, hq, h⟩ := bI_e h
      refine s_callV (T := TX10) (As := [.int x1]) (v := some (.int r6)) C rfl ho (by decide) rfl (by omega) wX10_535 rfl (Nat.le_of_ble_eq_true rfl) dX10_spanned_19 (tX10_lowOf C.2.2.2.2.2.2.1 (by omega) ho hq) ?_
      refine s_i2l C dX10_spanned_22 ?_
      refine s_aload0 C dX10_spanned_23 ?_
      refine s_iload1 C dX10_spanned_24 ?_
      obtain ⟨r8, M7, hq, h⟩ := bI_e h
      refine s_callV (T := TX10) (As := [.int x1]) (v := some (.int r8)) C rfl ho (by decide) rfl (by omega) wX10_538 rfl (Nat.le_of_ble_eq_true rfl) dX10_spanned_25 (tX10_farOf C.2.2.2.2.2.2.1 (by omega) ho hq) ?_
      refine s_i2l C dX10_spanned_28 ?_
      obtain ⟨r10, M9, hq, h⟩ := bI_e h
      refine s_callS (As := [.long (x2).toInt64, .long (r6).toInt64, .long (r8).toInt64]) (v := some (.int r10)) C rfl (by omega) wX10_139 rfl (Nat.le_of_ble_eq_true rfl) dX10_spanned_29 (tX10_in C.2.2.2.2.2.2.1 (by omega)  hq) ?_
      refine s_if_eq (tgt := 44) C h dX10_spanned_32 (by decide) ⟨fun h => ?_, fun h => ?_⟩
      · refine s_bipush (v := -2) C (by decide) dX10_spanned_44 ?_
        exact s_iret C R h dX10_spanned_46
      · refine s_aload0 C dX10_spanned_35 ?_
        refine s_iload1 C dX10_spanned_36 ?_
        refine s_iload2 C dX10_spanned_37 ?_
        obtain ⟨r12, M11, hq, h⟩ := bI_e h
        refine s_callV (T := TX10) (As := [.int x1, .int x2]) (v := some (.int r12)) C rfl ho (by decide) rfl (by omega) wX10_541 rfl (Nat.le_of_ble_eq_true rfl) dX10_spanned_38 (tX10_wrongSpanned C.2.2.2.2.2.2.1 (by omega) ho hq) ?_
        refine s_goto (tgt := 46) C dX10_spanned_41 (by decide) ?_
        exact s_iret C R h dX10_spanned_46
set_option maxRecDepth 4000 in
theorem bX10_span_70 {E : En} {X : Xc} {d : Nat} {r : Int32} {M M' : Mem} {o : Nat} {x1 : Int32} {x2 : Int32} {x3 : Int32} {x4 : Int32} (C : Cx E X d cX10_span RX10 6) (R : Rt E X (some .int) (some (.int r)) M') (hd : 6 ≤ d) {k36 : Nat → Int32 → Int32 → Int32 → Int32 → Mem → Option (Int32 × Mem)} (hk36 : ∀ (o : Nat) (x1 : Int32) (x2 : Int32) (x3 : Int32) (x4 : Int32) (M : Mem) (_ : kd o = (10, 0)), k36 o x1 x2 x3 x4 M = some (r, M') → At E X 36 [some (.ref (ad E o)), some (.int x1), some (.int x2), some (.int x3), some (.int x4), none] [] M) (ho : kd o = (10, 0)) (h : fX10_span_70 k36 o x1 x2 x3 x4 M = some (r, M')) : At E X 70 [some (.ref (ad E o)), some (.int x1), some (.int x2), some (.int x3), some (.int x4), none] [] M := by
  unfold fX10_span_70 at h
  refine s_iinc4 (v := 1) C rfl dX10_span_70 (by decide) ?_
  refine s_goto (tgt := 36) C dX10_span_73 (by decide) ?_
  exact hk36 _ _ _ _ _ _ ho h
set_option maxRecDepth 4000 in
theorem bX10_span_36 {E : En} {X : Xc} {d : Nat} {r : Int32} {M' : Mem} (C : Cx E X d cX10_span RX10 6) (R : Rt E X (some .int) (some (.int r)) M') (hd : 6 ≤ d)   : ∀ (n : Nat) (o : Nat) (x1 : Int32) (x2 : Int32) (x3 : Int32) (x4 : Int32) (M : Mem) (_ : kd o = (10, 0)), fX10_span_36  n o x1 x2 x3 x4 M = some (r, M') → At E X 36 [some (.ref (ad E o)), some (.int x1), some (.int x2), some (.int x3), some (.int x4), none] [] M := by
  intro n
  induction n with
  | zero => intro o x1 x2 x3 x4 M ho h; rw [fX10_span_36] at h; cases h
  | succ n ih =>
    intro o x1 x2 x3 x4 M ho h
    rw [fX10_span_36] at h
    refine s_iload4 C dX10_span_36 ?_
    refine s_aload0 C dX10_span_38 ?_
    refine s_iload1 C dX10_span_39 ?_
    obtain ⟨r2, M1, hq, h⟩ := bI_e h
    refine s_callV (T := TX10) (As := [.int x1]) (v := some (.int r2)) C rfl ho (by decide) rfl (by omega) wX10_538 rfl (Nat.le_of_ble_eq_true rfl) dX10_span_40 (tX10_farOf C.2.2.2.2.2.2.1 (by omega) ho hq) ?_
    refine s_ic_gt (tgt := 76) C h dX10_span_43 (by decide) ⟨fun h => ?_, fun h => ?_⟩
    · refine s_iload2 C dX10_span_76 ?_
      exact s_iret C R h dX10_span_77
    · refine s_aload0 C dX10_span_46 ?_
      refine s_iload1 C dX10_span_47 ?_
      refine s_iload4 C dX10_span_48 ?_
      obtain ⟨r4, M3, hq, h⟩ := bI_e h
      refine s_callV (T := TX10) (As := [.int x1, .int x4]) (v := some (.int r4)) C rfl ho (by decide) rfl (by omega) wX10_541 rfl (Nat.le_of_ble_eq_true rfl) dX10_span_50 (tX10_wrongSpanned C.2.2.2.2.2.2.1 (by omega) ho hq) ?_
      refine s_istore5 C rfl dX10_span_53 ?_
      refine s_iload5 C dX10_span_55 ?_
      refine s_iload3 C dX10_span_57 ?_
      refine s_ic_lt (tgt := 64) C h dX10_span_58 (by decide) ⟨fun h => ?_, fun h => ?_⟩
      · refine s_iload5 C dX10_span_64 ?_
        refine s_istore3 C rfl dX10_span_66 ?_
        refine s_iload4 C dX10_span_67 ?_
        refine s_istore2 C rfl dX10_span_69 ?_
        refine s_fg 5 ?_
        exact bX10_span_70 C R hd (ih) ho h
      · refine s_goto (tgt := 70) C dX10_span_61 (by decide) ?_
        refine s_fg 5 ?_
        exact bX10_span_70 C R hd (ih) ho h
set_option maxRecDepth 4000 in
theorem tX10_span {l : Launch} {E : En} {A : Nat → Prop} {d : Nat} {r : Int32} {M M' : Mem} {o : Nat} {x1 : Int32} (hE : Okk E A) (hd : 6 ≤ d) (ho : kd o = (10, 0)) (h : fX10_span o x1 M = some (r, M')) : Ct l E A d yX10_span cX10_span 6 (some .int) [.ref (ad E o), .int x1] M (some (.int r)) M' := by
  refine Ct.mk (ls := [some (.ref (ad E o)), some (.int x1), none, none, none, none]) hE (by decide +kernel) rfl (Nat.le_of_ble_eq_true rfl) (fun X hXl hXA C R => ?_)
  subst hXl; subst hXA
  unfold fX10_span at h
  refine s_aload0 C dX10_span_0 ?_
  obtain ⟨r2, M1, hq, h⟩ := bI_e h
  refine s_callV (T := TX10) (As := []) (v := some (.int r2)) C rfl ho (by decide) rfl (by omega) wX10_471 rfl (Nat.le_of_ble_eq_true rfl) dX10_span_1 (tX10_lays C.2.2.2.2.2.2.1 (by omega) ho hq) ?_
  refine s_if_eq (tgt := 15) C h dX10_span_4 (by decide) ⟨fun h => ?_, fun h => ?_⟩
  · refine s_bipush (v := -2) C (by decide) dX10_span_15 ?_
    exact s_iret C R h dX10_span_17
  · refine s_aload0 C dX10_span_7 ?_
    refine s_iload1 C dX10_span_8 ?_
    obtain ⟨r4, M3, hq, h⟩ := bI_e h
    refine s_callV (T := TX10) (As := [.int x1]) (v := some (.int r4)) C rfl ho (by decide) rfl (by omega) wX10_508 rfl (Nat.le_of_ble_eq_true rfl) dX10_span_9 (tX10_isTable C.2.2.2.2.2.2.1 (by omega) ho hq) ?_
    refine s_if_ne (tgt := 18) C h dX10_span_12 (by decide) ⟨fun h => ?_, fun h => ?_⟩
    · refine s_aload0 C dX10_span_18 ?_
      refine s_iload1 C dX10_span_19 ?_
      obtain ⟨r6, M5, hq, h⟩ := bI_e h
      refine s_callV (T := TX10) (As := [.int x1]) (v := some (.int r6)) C rfl ho (by decide) rfl (by omega) wX10_535 rfl (Nat.le_of_ble_eq_true rfl) dX10_span_20 (tX10_lowOf C.2.2.2.2.2.2.1 (by omega) ho hq) ?_
      refine s_istore2 C rfl dX10_span_23 ?_
      refine s_aload0 C dX10_span_24 ?_
      refine s_iload1 C dX10_span_25 ?_
      refine s_iload2 C dX10_span_26 ?_
      obtain ⟨r8, M7, hq, h⟩ := bI_e h
      refine s_callV (T := TX10) (As := [.int x1, .int r6]) (v := some (.int r8)) C rfl ho (by decide) rfl (by omega) wX10_541 rfl (Nat.le_of_ble_eq_true rfl) dX10_span_27 (tX10_wrongSpanned C.2.2.2.2.2.2.1 (by omega) ho hq) ?_
      refine s_istore3 C rfl dX10_span_30 ?_
      refine s_iload2 C dX10_span_31 ?_
      refine s_iconst (v := 1) C (by decide) dX10_span_32 ?_
      refine s_iadd C dX10_span_33 ?_
      refine s_istore4 C rfl dX10_span_34 ?_
      exact bX10_span_36 C R hd  LF _ _ _ _ _ _ ho h
    · refine s_bipush (v := -2) C (by decide) dX10_span_15 ?_
      exact s_iret C R h dX10_span_17
set_option maxRecDepth 4000 in
theorem bX10_playPattern_66 {E : En} {X : Xc} {d : Nat} {M M' : Mem} {o : Nat} {x1 : Int32} {x2 : Int32} {x3 : Int32} {x4 : Int32} {x5 : Int32} {x6 : Int32} {sc0 : Nat} {sx1 : Int32} {sx2 : Int32} {sx3 : Int32} (C : Cx E X d cX10_playPattern RX10 7) (R : Rt E X none none M') (hd : 4 ≤ d) {k25 : Nat → Int32 → Int32 → Int32 → Int32 → Int32 → Mem → Option (Mem)} (hk25 : ∀ (o : Nat) (x1 : Int32) (x2 : Int32) (x3 : Int32) (x4 : Int32) (x5 : Int32) (M : Mem) (_ : kd o = (10, 0)), k25 o x1 x2 x3 x4 x5 M = some M' → At E X 25 [some (.ref (ad E o)), some (.int x1), some (.int x2), some (.int x3), some (.int x4), some (.int x5), none] [] M) (ho : kd o = (10, 0)) (hsc0 : kd sc0 = (20, 30)) (h : fX10_playPattern_66 k25 o x1 x2 x3 x4 x5 x6 sc0 sx1 sx2 sx3 M = some M') : At E X 66 [some (.ref (ad E o)), some (.int x1), some (.int x2), some (.int x3), some (.int x4), some (.int x5), some (.int x6)] [.int sx3, .int sx2, .int sx1, .ref (ad E sc0)] M := by
  unfold fX10_playPattern_66 at h
  refine s_iadd C dX10_playPattern_66 ?_
  refine s_iast C hsc0 h dX10_playPattern_67 (fun h => ?_)
  refine s_aload0 C dX10_playPattern_68 ?_
  refine s_iload6 C dX10_playPattern_69 ?_
  obtain ⟨M1, hq, h⟩ := bV_e h
  refine s_callV (T := TX10) (As := [.int x6]) (v := none) C rfl ho (by decide) rfl (by omega) wX10_459 rfl (Nat.le_of_ble_eq_true rfl) dX10_playPattern_71 (tX10_learn C.2.2.2.2.2.2.1 (by omega) ho hq) ?_
  refine s_iinc5 (v := 1) C rfl dX10_playPattern_74 (by decide) ?_
  refine s_goto (tgt := 25) C dX10_playPattern_77 (by decide) ?_
  refine s_fg 6 ?_
  exact hk25 _ _ _ _ _ _ _ ho h
set_option maxRecDepth 4000 in
theorem bX10_playPattern_25 {E : En} {X : Xc} {d : Nat} {M' : Mem} (C : Cx E X d cX10_playPattern RX10 7) (R : Rt E X none none M') (hd : 4 ≤ d) {k7 : Nat → Int32 → Int32 → Int32 → Int32 → Mem → Option (Mem)} (hk7 : ∀ (o : Nat) (x1 : Int32) (x2 : Int32) (x3 : Int32) (x4 : Int32) (M : Mem) (_ : kd o = (10, 0)), k7 o x1 x2 x3 x4 M = some M' → At E X 7 [some (.ref (ad E o)), some (.int x1), some (.int x2), some (.int x3), some (.int x4), none, none] [] M) : ∀ (n : Nat) (o : Nat) (x1 : Int32) (x2 : Int32) (x3 : Int32) (x4 : Int32) (x5 : Int32) (M : Mem) (_ : kd o = (10, 0)), fX10_playPattern_25 k7 n o x1 x2 x3 x4 x5 M = some M' → At E X 25 [some (.ref (ad E o)), some (.int x1), some (.int x2), some (.int x3), some (.int x4), some (.int x5), none] [] M := by
  intro n
  induction n with
  | zero => intro o x1 x2 x3 x4 x5 M ho h; rw [fX10_playPattern_25] at h; cases h
  | succ n ih =>
    intro o x1 x2 x3 x4 x5 M ho h
    rw [fX10_playPattern_25] at h
    refine s_iload5 C dX10_playPattern_25 ?_
    refine s_iload3 C dX10_playPattern_27 ?_
    refine s_ic_ge (tgt := 80) C h dX10_playPattern_28 (by decide) ⟨fun h => ?_, fun h => ?_⟩
    · refine s_iinc4 (v := 1) C rfl dX10_playPattern_80 (by decide) ?_
      refine s_goto (tgt := 7) C dX10_playPattern_83 (by decide) ?_
      refine s_fg 5 ?_
      exact hk7 _ _ _ _ _ _ ho h
    · refine s_iload2 C dX10_playPattern_31 ?_
      refine s_iload5 C dX10_playPattern_32 ?_
      refine s_ishr C dX10_playPattern_34 ?_
      refine s_iconst (v := 1) C (by decide) dX10_playPattern_35 ?_
      refine s_iand C dX10_playPattern_36 ?_
      refine s_istore6 C rfl dX10_playPattern_37 ?_
      refine s_aload0 C dX10_playPattern_39 ?_
      refine s_iload1 C dX10_playPattern_40 ?_
      obtain ⟨M1, hq, h⟩ := bV_e h
      refine s_callV (T := TX10) (As := [.int x1]) (v := none) C rfl ho (by decide) rfl (by omega) wX10_456 rfl (Nat.le_of_ble_eq_true rfl) dX10_playPattern_41 (tX10_ask C.2.2.2.2.2.2.1 (by omega) ho hq) ?_
      refine s_aload0 C dX10_playPattern_44 ?_
      refine gX10_112 C ho dX10_playPattern_45 ?_
      refine s_iload4 C dX10_playPattern_48 ?_
      refine s_dup2 C rfl rfl dX10_playPattern_50 ?_
      refine s_iald C (qX10_wrongIn ho) h dX10_playPattern_51 (fun h => ?_)
      refine s_aload0 C dX10_playPattern_52 ?_
      refine gX10_422 C ho dX10_playPattern_53 ?_
      refine s_iload6 C dX10_playPattern_56 ?_
      refine s_ic_ne (tgt := 65) C h dX10_playPattern_58 (by decide) ⟨fun h => ?_, fun h => ?_⟩
      · refine s_iconst (v := 1) C (by decide) dX10_playPattern_65 ?_
        exact bX10_playPattern_66 C R hd (ih) ho (qX10_wrongIn ho) h
      · refine s_iconst (v := 0) C (by decide) dX10_playPattern_61 ?_
        refine s_goto (tgt := 66) C dX10_playPattern_62 (by decide) ?_
        exact bX10_playPattern_66 C R hd (ih) ho (qX10_wrongIn ho) h
set_option maxRecDepth 4000 in
theorem bX10_playPattern_7 {E : En} {X : Xc} {d : Nat} {M' : Mem} (C : Cx E X d cX10_playPattern RX10 7) (R : Rt E X none none M') (hd : 4 ≤ d)   : ∀ (n : Nat) (o : Nat) (x1 : Int32) (x2 : Int32) (x3 : Int32) (x4 : Int32) (M : Mem) (_ : kd o = (10, 0)), fX10_playPattern_7  n o x1 x2 x3 x4 M = some M' → At E X 7 [some (.ref (ad E o)), some (.int x1), some (.int x2), some (.int x3), some (.int x4), none, none] [] M := by
  intro n
  induction n with
  | zero => intro o x1 x2 x3 x4 M ho h; rw [fX10_playPattern_7] at h; cases h
  | succ n ih =>
    intro o x1 x2 x3 x4 M ho h
    rw [fX10_playPattern_7] at h
    refine s_iload4 C dX10_playPattern_7 ?_
    refine s_bipush (v := 30) C (by decide) dX10_playPattern_9 ?_
    refine s_ic_ge (tgt := 86) C h dX10_playPattern_11 (by decide) ⟨fun h => ?_, fun h => ?_⟩
    · exact s_vret C R h dX10_playPattern_86
    · refine s_aload0 C dX10_playPattern_14 ?_
      refine gX10_112 C ho dX10_playPattern_15 ?_
      refine s_iload4 C dX10_playPattern_18 ?_
      refine s_iconst (v := 0) C (by decide) dX10_playPattern_20 ?_
      refine s_iast C (qX10_wrongIn ho) h dX10_playPattern_21 (fun h => ?_)
      refine s_iconst (v := 0) C (by decide) dX10_playPattern_22 ?_
      refine s_istore5 C rfl dX10_playPattern_23 ?_
      exact bX10_playPattern_25 C R hd (ih) LF _ _ _ _ _ _ _ ho h
set_option maxRecDepth 4000 in
theorem tX10_playPattern {l : Launch} {E : En} {A : Nat → Prop} {d : Nat} {M M' : Mem} {o : Nat} {x1 : Int32} {x2 : Int32} {x3 : Int32} (hE : Okk E A) (hd : 4 ≤ d) (ho : kd o = (10, 0)) (h : fX10_playPattern o x1 x2 x3 M = some M') : Ct l E A d yX10_playPattern cX10_playPattern 7 none [.ref (ad E o), .int x1, .int x2, .int x3] M none M' := by
  refine Ct.mk (ls := [some (.ref (ad E o)), some (.int x1), some (.int x2), some (.int x3), none, none, none]) hE (by decide +kernel) rfl (Nat.le_of_ble_eq_true rfl) (fun X hXl hXA C R => ?_)
  subst hXl; subst hXA
  unfold fX10_playPattern at h
  refine s_aload0 C dX10_playPattern_0 ?_
  obtain ⟨M1, hq, h⟩ := bV_e h
  refine s_callV (T := TX10) (As := []) (v := none) C rfl ho (by decide) rfl (by omega) wX10_453 rfl (Nat.le_of_ble_eq_true rfl) dX10_playPattern_1 (tX10_beginGuesser C.2.2.2.2.2.2.1 (by omega) ho hq) ?_
  refine s_iconst (v := 0) C (by decide) dX10_playPattern_4 ?_
  refine s_istore4 C rfl dX10_playPattern_5 ?_
  exact bX10_playPattern_7 C R hd  LF _ _ _ _ _ _ ho h
