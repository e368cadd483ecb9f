set_option maxRecDepth 4000 in
theorem tX10_isProgram {l : Launch} {E : En} {A : Nat → Prop} {d : Nat} {r : Int32} {M M' : Mem} {o : Nat} (hE : Okk E A) (hd : 0 ≤ d) (ho : kd o = (10, 0)) (h : fX10_isProgram o M = some (r, M')) : Ct l E A d yX10_isProgram cX10_isProgram 1 (some .boolean) [.ref (ad E o)] M (some (.int r)) M' := by
  refine Ct.mk (ls := [some (.ref (ad E o))]) hE (by decide +kernel) rfl (Nat.le_of_ble_eq_true rfl) (fun X hXl hXA C R => ?_)
  subst hXl; subst hXA
  unfold fX10_isProgram at h
  refine s_aload0 C dX10_isProgram_0 ?_
  refine gX10_9 C ho dX10_isProgram_1 ?_
  refine s_bipush (v := 9) C (by decide) dX10_isProgram_4 ?_
  refine s_iald C (qX10_world ho) h dX10_isProgram_6 (fun h => ?_)
  refine s_if_le (tgt := 14) C h dX10_isProgram_7 (by decide) ⟨fun h => ?_, fun h => ?_⟩
  · refine s_iconst (v := 0) C (by decide) dX10_isProgram_14 ?_
    exact s_zret C R h rfl dX10_isProgram_15
  · refine s_iconst (v := 1) C (by decide) dX10_isProgram_10 ?_
    refine s_goto (tgt := 15) C dX10_isProgram_11 (by decide) ?_
    exact s_zret C R h rfl dX10_isProgram_15
set_option maxRecDepth 4000 in
theorem tX10_isOp {l : Launch} {E : En} {A : Nat → Prop} {d : Nat} {r : Int32} {M M' : Mem} {o : Nat} {x1 : Int32} (hE : Okk E A) (hd : 1 ≤ d) (ho : kd o = (10, 0)) (h : fX10_isOp o x1 M = some (r, M')) : Ct l E A d yX10_isOp cX10_isOp 2 (some .boolean) [.ref (ad E o), .int x1] M (some (.int r)) M' := by
  refine Ct.mk (ls := [some (.ref (ad E o)), some (.int x1)]) hE (by decide +kernel) rfl (Nat.le_of_ble_eq_true rfl) (fun X hXl hXA C R => ?_)
  subst hXl; subst hXA
  unfold fX10_isOp at h
  refine s_iload1 C dX10_isOp_0 ?_
  refine s_i2l C dX10_isOp_1 ?_
  refine s_lconst (v := 0) C (by decide) dX10_isOp_2 ?_
  refine s_aload0 C dX10_isOp_3 ?_
  refine gX10_9 C ho dX10_isOp_4 ?_
  refine s_bipush (v := 7) C (by decide) dX10_isOp_7 ?_
  refine s_iald C (qX10_world ho) h dX10_isOp_9 (fun h => ?_)
  refine s_iconst (v := 1) C (by decide) dX10_isOp_10 ?_
  refine s_isub C dX10_isOp_11 ?_
  refine s_i2l C dX10_isOp_12 ?_
  obtain ⟨r2, M1, hq, h⟩ := bI_e h
  refine s_callS (As := [.long (x1).toInt64, .long (0 : Int64), .long (((M.1 (o + 1) (tn (7 : Int32))) - (1 : Int32))).toInt64]) (v := some (.int r2)) C rfl (by omega) wX10_139 rfl (Nat.le_of_ble_eq_true rfl) dX10_isOp_13 (tX10_in C.2.2.2.2.2.2.1 (by omega)  hq) ?_
  obtain ⟨hb, h⟩ := ck_e h
  exact s_zret C R h (isB_n hb).1 dX10_isOp_16
set_option maxRecDepth 4000 in
theorem tX10_kindOf {l : Launch} {E : En} {A : Nat → Prop} {d : Nat} {r : Int32} {M M' : Mem} {o : Nat} {x1 : Int32} (hE : Okk E A) (hd : 0 ≤ d) (ho : kd o = (10, 0)) (h : fX10_kindOf o x1 M = some (r, M')) : Ct l E A d yX10_kindOf cX10_kindOf 2 (some .int) [.ref (ad E o), .int x1] M (some (.int r)) M' := by
  refine Ct.mk (ls := [some (.ref (ad E o)), some (.int x1)]) hE (by decide +kernel) rfl (Nat.le_of_ble_eq_true rfl) (fun X hXl hXA C R => ?_)
  subst hXl; subst hXA
  unfold fX10_kindOf at h
  refine s_aload0 C dX10_kindOf_0 ?_
  refine gX10_9 C ho dX10_kindOf_1 ?_
  refine s_bipush (v := 15) C (by decide) dX10_kindOf_4 ?_
  refine s_iconst (v := 4) C (by decide) dX10_kindOf_6 ?_
  refine s_iload1 C dX10_kindOf_7 ?_
  refine s_imul C dX10_kindOf_8 ?_
  refine s_iadd C dX10_kindOf_9 ?_
  refine s_iald C (qX10_world ho) h dX10_kindOf_10 (fun h => ?_)
  exact s_iret C R h dX10_kindOf_11
set_option maxRecDepth 4000 in
theorem tX10_numberOf {l : Launch} {E : En} {A : Nat → Prop} {d : Nat} {r : Int32} {M M' : Mem} {o : Nat} {x1 : Int32} {x2 : Int32} (hE : Okk E A) (hd : 0 ≤ d) (ho : kd o = (10, 0)) (h : fX10_numberOf o x1 x2 M = some (r, M')) : Ct l E A d yX10_numberOf cX10_numberOf 3 (some .int) [.ref (ad E o), .int x1, .int x2] M (some (.int r)) M' := by
  refine Ct.mk (ls := [some (.ref (ad E o)), some (.int x1), some (.int x2)]) hE (by decide +kernel) rfl (Nat.le_of_ble_eq_true rfl) (fun X hXl hXA C R => ?_)
  subst hXl; subst hXA
  unfold fX10_numberOf at h
  refine s_aload0 C dX10_numberOf_0 ?_
  refine gX10_9 C ho dX10_numberOf_1 ?_
  refine s_bipush (v := 15) C (by decide) dX10_numberOf_4 ?_
  refine s_iconst (v := 4) C (by decide) dX10_numberOf_6 ?_
  refine s_iload1 C dX10_numberOf_7 ?_
  refine s_imul C dX10_numberOf_8 ?_
  refine s_iadd C dX10_numberOf_9 ?_
  refine s_iconst (v := 1) C (by decide) dX10_numberOf_10 ?_
  refine s_iadd C dX10_numberOf_11 ?_
  refine s_iload2 C dX10_numberOf_12 ?_
  refine s_iadd C dX10_numberOf_13 ?_
  refine s_iald C (qX10_world ho) h dX10_numberOf_14 (fun h => ?_)
  exact s_iret C R h dX10_numberOf_15
set_option maxRecDepth 4000 in
theorem tX10_numbersOf {l : Launch} {E : En} {A : Nat → Prop} {d : Nat} {r : Int32} {M M' : Mem} {x0 : Int32} (hE : Okk E A) (hd : 0 ≤ d)  (h : fX10_numbersOf x0 M = some (r, M')) : Ct l E A d yX10_numbersOf cX10_numbersOf 1 (some .int) [.int x0] M (some (.int r)) M' := by
  refine Ct.mk (ls := [some (.int x0)]) hE (by decide +kernel) rfl (Nat.le_of_ble_eq_true rfl) (fun X hXl hXA C R => ?_)
  subst hXl; subst hXA
  unfold fX10_numbersOf at h
  refine s_iload0 C dX10_numbersOf_0 ?_
  refine s_bipush (v := 6) C (by decide) dX10_numbersOf_1 ?_
  refine s_ic_eq (tgt := 12) C h dX10_numbersOf_3 (by decide) ⟨fun h => ?_, fun h => ?_⟩
  · refine s_iconst (v := 3) C (by decide) dX10_numbersOf_12 ?_
    exact s_iret C R h dX10_numbersOf_13
  · refine s_iload0 C dX10_numbersOf_6 ?_
    refine s_bipush (v := 7) C (by decide) dX10_numbersOf_7 ?_
    refine s_ic_ne (tgt := 14) C h dX10_numbersOf_9 (by decide) ⟨fun h => ?_, fun h => ?_⟩
    · refine s_iload0 C dX10_numbersOf_14 ?_
      refine s_bipush (v := 9) C (by decide) dX10_numbersOf_15 ?_
      refine s_ic_ne (tgt := 24) C h dX10_numbersOf_17 (by decide) ⟨fun h => ?_, fun h => ?_⟩
      · refine s_iload0 C dX10_numbersOf_24 ?_
        refine s_bipush (v := 10) C (by decide) dX10_numbersOf_25 ?_
        refine s_ic_ne (tgt := 34) C h dX10_numbersOf_27 (by decide) ⟨fun h => ?_, fun h => ?_⟩
        · refine s_iconst (v := 2) C (by decide) dX10_numbersOf_34 ?_
          exact s_iret C R h dX10_numbersOf_35
        · refine s_iconst (v := 0) C (by decide) dX10_numbersOf_30 ?_
          refine s_goto (tgt := 35) C dX10_numbersOf_31 (by decide) ?_
          exact s_iret C R h dX10_numbersOf_35
      · refine s_iconst (v := 1) C (by decide) dX10_numbersOf_20 ?_
        refine s_goto (tgt := 35) C dX10_numbersOf_21 (by decide) ?_
        exact s_iret C R h dX10_numbersOf_35
    · refine s_iconst (v := 3) C (by decide) dX10_numbersOf_12 ?_
      exact s_iret C R h dX10_numbersOf_13
set_option maxRecDepth 4000 in
theorem bX10_highOf_19 {E : En} {X : Xc} {d : Nat} {r : Int32} {M M' : Mem} {x0 : Int32} {x1 : Int32} (C : Cx E X d cX10_highOf RX10 2) (R : Rt E X (some .int) (some (.int r)) M') (hd : 1 ≤ d)    (h : fX10_highOf_19  x0 x1 M = some (r, M')) : At E X 19 [some (.int x0), some (.int x1)] [] M := by
  unfold fX10_highOf_19 at h
  refine s_iload1 C dX10_highOf_19 ?_
  refine s_iconst (v := 1) C (by decide) dX10_highOf_20 ?_
  refine s_ic_ne (tgt := 35) C h dX10_highOf_21 (by decide) ⟨fun h => ?_, fun h => ?_⟩
  · refine s_bipush (v := 7) C (by decide) dX10_highOf_35 ?_
    exact s_iret C R h dX10_highOf_37
  · refine s_iload0 C dX10_highOf_24 ?_
    refine s_iconst (v := 3) C (by decide) dX10_highOf_25 ?_
    refine s_ic_ge (tgt := 35) C h dX10_highOf_26 (by decide) ⟨fun h => ?_, fun h => ?_⟩
    · refine s_bipush (v := 7) C (by decide) dX10_highOf_35 ?_
      exact s_iret C R h dX10_highOf_37
    · refine s_sipush (v := 999) C (by decide) dX10_highOf_29 ?_
      refine s_goto (tgt := 37) C dX10_highOf_32 (by decide) ?_
      exact s_iret C R h dX10_highOf_37
set_option maxRecDepth 4000 in
theorem tX10_highOf {l : Launch} {E : En} {A : Nat → Prop} {d : Nat} {r : Int32} {M M' : Mem} {x0 : Int32} {x1 : Int32} (hE : Okk E A) (hd : 1 ≤ d)  (h : fX10_highOf x0 x1 M = some (r, M')) : Ct l E A d yX10_highOf cX10_highOf 2 (some .int) [.int x0, .int x1] M (some (.int r)) M' := by
  refine Ct.mk (ls := [some (.int x0), some (.int x1)]) hE (by decide +kernel) rfl (Nat.le_of_ble_eq_true rfl) (fun X hXl hXA C R => ?_)
  subst hXl; subst hXA
  unfold fX10_highOf at h
  refine s_iload1 C dX10_highOf_0 ?_
  refine s_iload0 C dX10_highOf_1 ?_
  obtain ⟨r2, M1, hq, h⟩ := bI_e h
  refine s_callS (As := [.int x0]) (v := some (.int r2)) C rfl (by omega) wX10_143 rfl (Nat.le_of_ble_eq_true rfl) dX10_highOf_2 (tX10_numbersOf C.2.2.2.2.2.2.1 (by omega)  hq) ?_
  refine s_iconst (v := 1) C (by decide) dX10_highOf_5 ?_
  refine s_isub C dX10_highOf_6 ?_
  refine s_ic_ne (tgt := 19) C h dX10_highOf_7 (by decide) ⟨fun h => ?_, fun h => ?_⟩
  · exact bX10_highOf_19 C R hd  h
  · refine s_iload0 C dX10_highOf_10 ?_
    refine s_bipush (v := 6) C (by decide) dX10_highOf_11 ?_
    refine s_ic_lt (tgt := 19) C h dX10_highOf_13 (by decide) ⟨fun h => ?_, fun h => ?_⟩
    · exact bX10_highOf_19 C R hd  h
    · refine s_bipush (v := 39) C (by decide) dX10_highOf_16 ?_
      exact s_iret C R h dX10_highOf_18
set_option maxRecDepth 4000 in
theorem tX10_wordOf {l : Launch} {E : En} {A : Nat → Prop} {d : Nat} {r : Nat} {M M' : Mem} {x0 : Int32} (hE : Okk E A) (hd : 0 ≤ d)  (h : fX10_wordOf x0 M = some (r, M')) : Ct l E A d yX10_wordOf cX10_wordOf 1 (some (.object "java/lang/String")) [.int x0] M (some (.ref (aK E r))) M' := by
  refine Ct.mk (ls := [some (.int x0)]) hE (by decide +kernel) rfl (Nat.le_of_ble_eq_true rfl) (fun X hXl hXA C R => ?_)
  subst hXl; subst hXA
  unfold fX10_wordOf at h
  refine s_iload0 C dX10_wordOf_0 ?_
  rcases if_e h with ⟨e, h⟩ | ⟨e0, h⟩
  · refine s_tin (j := 0) (tgt := 56) C dX10_wordOf_1 (by rw [e]; decide) (by decide) rfl (by decide) ?_
    refine s_ldcs (j := 25) (tx := "put") C rfl dX10_wordOf_56 ?_
    exact s_sret C R h dX10_wordOf_58
  rcases if_e h with ⟨e, h⟩ | ⟨e1, h⟩
  · refine s_tin (j := 1) (tgt := 59) C dX10_wordOf_1 (by rw [e]; decide) (by decide) rfl (by decide) ?_
    refine s_ldcs (j := 26) (tx := "add") C rfl dX10_wordOf_59 ?_
    exact s_sret C R h dX10_wordOf_61
  rcases if_e h with ⟨e, h⟩ | ⟨e2, h⟩
  · refine s_tin (j := 2) (tgt := 62) C dX10_wordOf_1 (by rw [e]; decide) (by decide) rfl (by decide) ?_
    refine s_ldcs (j := 27) (tx := "take") C rfl dX10_wordOf_62 ?_
    exact s_sret C R h dX10_wordOf_64
  rcases if_e h with ⟨e, h⟩ | ⟨e3, h⟩
  · refine s_tin (j := 3) (tgt := 65) C dX10_wordOf_1 (by rw [e]; decide) (by decide) rfl (by decide) ?_
    refine s_ldcs (j := 28) (tx := "copy") C rfl dX10_wordOf_65 ?_
    exact s_sret C R h dX10_wordOf_67
  rcases if_e h with ⟨e, h⟩ | ⟨e4, h⟩
  · refine s_tin (j := 4) (tgt := 68) C dX10_wordOf_1 (by rw [e]; decide) (by decide) rfl (by decide) ?_
    refine s_ldcs (j := 29) (tx := "sum") C rfl dX10_wordOf_68 ?_
    exact s_sret C R h dX10_wordOf_70
  rcases if_e h with ⟨e, h⟩ | ⟨e5, h⟩
  · refine s_tin (j := 5) (tgt := 71) C dX10_wordOf_1 (by rw [e]; decide) (by decide) rfl (by decide) ?_
    refine s_ldcs (j := 30) (tx := "less") C rfl dX10_wordOf_71 ?_
    exact s_sret C R h dX10_wordOf_73
  rcases if_e h with ⟨e, h⟩ | ⟨e6, h⟩
  · refine s_tin (j := 6) (tgt := 74) C dX10_wordOf_1 (by rw [e]; decide) (by decide) rfl (by decide) ?_
    refine s_ldcs (j := 31) (tx := "below") C rfl dX10_wordOf_74 ?_
    exact s_sret C R h dX10_wordOf_76
  rcases if_e h with ⟨e, h⟩ | ⟨e7, h⟩
  · refine s_tin (j := 7) (tgt := 77) C dX10_wordOf_1 (by rw [e]; decide) (by decide) rfl (by decide) ?_
    refine s_ldcs (j := 32) (tx := "same") C rfl dX10_wordOf_77 ?_
    exact s_sret C R h dX10_wordOf_79
  rcases if_e h with ⟨e, h⟩ | ⟨e8, h⟩
  · refine s_tin (j := 8) (tgt := 80) C dX10_wordOf_1 (by rw [e]; decide) (by decide) rfl (by decide) ?_
    refine s_ldcs (j := 33) (tx := "odd") C rfl dX10_wordOf_80 ?_
    exact s_sret C R h dX10_wordOf_82
  rcases if_e h with ⟨e, h⟩ | ⟨e9, h⟩
  · refine s_tin (j := 9) (tgt := 83) C dX10_wordOf_1 (by rw [e]; decide) (by decide) rfl (by decide) ?_
    refine s_ldcs (j := 34) (tx := "go") C rfl dX10_wordOf_83 ?_
    exact s_sret C R h dX10_wordOf_85
  have g0 := ne_int e0
  have g1 := ne_int e1
  have g2 := ne_int e2
  have g3 := ne_int e3
  have g4 := ne_int e4
  have g5 := ne_int e5
  have g6 := ne_int e6
  have g7 := ne_int e7
  have g8 := ne_int e8
  have g9 := ne_int e9
  refine s_tout (tgt := 86) C dX10_wordOf_1 (by simp only [show (0 : Int32).toInt = 0 from by decide, show (1 : Int32).toInt = 1 from by decide, show (2 : Int32).toInt = 2 from by decide, show (3 : Int32).toInt = 3 from by decide, show (4 : Int32).toInt = 4 from by decide, show (5 : Int32).toInt = 5 from by decide, show (6 : Int32).toInt = 6 from by decide, show (7 : Int32).toInt = 7 from by decide, show (8 : Int32).toInt = 8 from by decide, show (9 : Int32).toInt = 9 from by decide] at g0 g1 g2 g3 g4 g5 g6 g7 g8 g9; omega) (by decide) ?_
  refine s_ldcs (j := 35) (tx := "stop") C rfl dX10_wordOf_86 ?_
  exact s_sret C R h dX10_wordOf_88
set_option maxRecDepth 4000 in
theorem bX10_feed_55 {E : En} {X : Xc} {d : Nat} {r : Int32} {M' : Mem} (C : Cx E X d cX10_feed RX10 7) (R : Rt E X (some .int) (some (.int r)) M') (hd : 0 ≤ d)   : ∀ (n : Nat) (o : Nat) (x6 : Int32) (M : Mem) (_ : kd o = (10, 0)), fX10_feed_55  n o x6 M = some (r, M') → At E X 55 [some (.ref (ad E o)), none, none, none, none, none, some (.int x6)] [] M := by
  intro n
  induction n with
  | zero => intro o x6 M ho h; rw [fX10_feed_55] at h; cases h
  | succ n ih =>
    intro o x6 M ho h
    rw [fX10_feed_55] at h
    refine s_iload6 C dX10_feed_55 ?_
    refine s_bipush (v := 20) C (by decide) dX10_feed_57 ?_
    refine s_ic_ge (tgt := 101) C h dX10_feed_59 (by decide) ⟨fun h => ?_, fun h => ?_⟩
    · refine s_aload0 C dX10_feed_101 ?_
      refine s_dup C rfl dX10_feed_102 ?_
      refine gX10_169 C ho dX10_feed_103 ?_
      refine s_bipush (v := 20) C (by decide) dX10_feed_106 ?_
      refine s_iadd C dX10_feed_108 ?_
      refine pX10_169 C ho dX10_feed_109 ?_
      refine s_aload0 C dX10_feed_112 ?_
      refine gX10_169 C ho dX10_feed_113 ?_
      exact s_iret C R h dX10_feed_116
    · refine s_aload0 C dX10_feed_62 ?_
      refine gX10_20 C ho dX10_feed_63 ?_
      refine s_aload0 C dX10_feed_66 ?_
      refine gX10_169 C ho dX10_feed_67 ?_
      refine s_iload6 C dX10_feed_70 ?_
      refine s_iadd C dX10_feed_72 ?_
      refine s_aload0 C dX10_feed_73 ?_
      refine gX10_24 C ho dX10_feed_74 ?_
      refine s_iload6 C dX10_feed_77 ?_
      refine s_iconst (v := 4) C (by decide) dX10_feed_79 ?_
      refine s_idivc C (by decide) dX10_feed_80 ?_
      refine s_iald C (qX10_five ho) h dX10_feed_81 (fun h => ?_)
      refine s_bipush (v := 24) C (by decide) dX10_feed_82 ?_
      refine s_bipush (v := 8) C (by decide) dX10_feed_84 ?_
      refine s_iload6 C dX10_feed_86 ?_
      refine s_iconst (v := 4) C (by decide) dX10_feed_88 ?_
      refine s_iremc C (by decide) dX10_feed_89 ?_
      refine s_imul C dX10_feed_90 ?_
      refine s_isub C dX10_feed_91 ?_
      refine s_ishr C dX10_feed_92 ?_
      refine s_i2b C dX10_feed_93 ?_
      refine s_bast C (qX10_tape ho) h dX10_feed_94 (fun h => ?_)
      refine s_iinc6 (v := 1) C rfl dX10_feed_95 (by decide) ?_
      refine s_goto (tgt := 55) C dX10_feed_98 (by decide) ?_
      exact ih _ _ _ ho h
set_option maxRecDepth 4000 in
theorem tX10_feed {l : Launch} {E : En} {A : Nat → Prop} {d : Nat} {r : Int32} {M M' : Mem} {o : Nat} {x1 : Int32} {x2 : Int32} {x3 : Int32} {x4 : Int32} {x5 : Int32} (hE : Okk E A) (hd : 0 ≤ d) (ho : kd o = (10, 0)) (h : fX10_feed o x1 x2 x3 x4 x5 M = some (r, M')) : Ct l E A d yX10_feed cX10_feed 7 (some .int) [.ref (ad E o), .int x1, .int x2, .int x3, .int x4, .int x5] M (some (.int r)) M' := by
  refine Ct.mk (ls := [some (.ref (ad E o)), some (.int x1), some (.int x2), some (.int x3), some (.int x4), some (.int x5), none]) hE (by decide +kernel) rfl (Nat.le_of_ble_eq_true rfl) (fun X hXl hXA C R => ?_)
  subst hXl; subst hXA
  unfold fX10_feed at h
  refine s_aload0 C dX10_feed_0 ?_
  refine gX10_169 C ho dX10_feed_1 ?_
  refine s_bipush (v := 20) C (by decide) dX10_feed_4 ?_
  refine s_iadd C dX10_feed_6 ?_
  refine s_sipush (v := 800) C (by decide) dX10_feed_7 ?_
  refine s_ic_le (tgt := 15) C h dX10_feed_10 (by decide) ⟨fun h => ?_, fun h => ?_⟩
  · refine s_aload0 C dX10_feed_15 ?_
    refine gX10_24 C ho dX10_feed_16 ?_
    refine s_iconst (v := 0) C (by decide) dX10_feed_19 ?_
    refine s_iload1 C dX10_feed_20 ?_
    refine s_iast C (qX10_five ho) h dX10_feed_21 (fun h => ?_)
    refine s_aload0 C dX10_feed_22 ?_
    refine gX10_24 C ho dX10_feed_23 ?_
    refine s_iconst (v := 1) C (by decide) dX10_feed_26 ?_
    refine s_iload2 C dX10_feed_27 ?_
    refine s_iast C (qX10_five ho) h dX10_feed_28 (fun h => ?_)
    refine s_aload0 C dX10_feed_29 ?_
    refine gX10_24 C ho dX10_feed_30 ?_
    refine s_iconst (v := 2) C (by decide) dX10_feed_33 ?_
    refine s_iload3 C dX10_feed_34 ?_
    refine s_iast C (qX10_five ho) h dX10_feed_35 (fun h => ?_)
    refine s_aload0 C dX10_feed_36 ?_
    refine gX10_24 C ho dX10_feed_37 ?_
    refine s_iconst (v := 3) C (by decide) dX10_feed_40 ?_
    refine s_iload4 C dX10_feed_41 ?_
    refine s_iast C (qX10_five ho) h dX10_feed_43 (fun h => ?_)
    refine s_aload0 C dX10_feed_44 ?_
    refine gX10_24 C ho dX10_feed_45 ?_
    refine s_iconst (v := 4) C (by decide) dX10_feed_48 ?_
    refine s_iload5 C dX10_feed_49 ?_
    refine s_iast C (qX10_five ho) h dX10_feed_51 (fun h => ?_)
    refine s_iconst (v := 0) C (by decide) dX10_feed_52 ?_
    refine s_istore6 C rfl dX10_feed_53 ?_
    refine s_fg 1 ?_
    refine s_fg 2 ?_
    refine s_fg 3 ?_
    refine s_fg 4 ?_
    refine s_fg 5 ?_
    exact bX10_feed_55 C R hd  LF _ _ _ ho h
  · refine s_iconst (v := -1) C (by decide) dX10_feed_13 ?_
    exact s_iret C R h dX10_feed_14
set_option maxRecDepth 4000 in
theorem tX10_end {l : Launch} {E : En} {A : Nat → Prop} {d : Nat} {r : Int32} {M M' : Mem} {o : Nat} {x1 : Int32} (hE : Okk E A) (hd : 1 ≤ d) (ho : kd o = (10, 0)) (h : fX10_end o x1 M = some (r, M')) : Ct l E A d yX10_end cX10_end 2 (some .int) [.ref (ad E o), .int x1] M (some (.int r)) M' := by
  refine Ct.mk (ls := [some (.ref (ad E o)), some (.int x1)]) hE (by decide +kernel) rfl (Nat.le_of_ble_eq_true rfl) (fun X hXl hXA C R => ?_)
  subst hXl; subst hXA
  unfold fX10_end at h
  refine s_iload1 C dX10_end_0 ?_
  refine s_i2l C dX10_end_1 ?_
  refine s_lconst (v := 0) C (by decide) dX10_end_2 ?_
  refine s_aload0 C dX10_end_3 ?_
  refine gX10_169 C ho dX10_end_4 ?_
  refine s_i2l C dX10_end_7 ?_
  obtain ⟨r2, M1, hq, h⟩ := bI_e h
  refine s_callS (As := [.long (x1).toInt64, .long (0 : Int64), .long ((M.1 o 5)).toInt64]) (v := some (.int r2)) C rfl (by omega) wX10_139 rfl (Nat.le_of_ble_eq_true rfl) dX10_end_8 (tX10_in C.2.2.2.2.2.2.1 (by omega)  hq) ?_
  refine s_if_ne (tgt := 16) C h dX10_end_11 (by decide) ⟨fun h => ?_, fun h => ?_⟩
  · refine s_aload0 C dX10_end_16 ?_
    refine s_iload1 C dX10_end_17 ?_
    refine pX10_169 C ho dX10_end_18 ?_
    refine s_iload1 C dX10_end_21 ?_
    exact s_iret C R h dX10_end_22
  · refine s_iconst (v := -1) C (by decide) dX10_end_14 ?_
    exact s_iret C R h dX10_end_15
set_option maxRecDepth 4000 in
theorem tX10_see {l : Launch} {E : En} {A : Nat → Prop} {d : Nat} {r : Int32} {M M' : Mem} {o : Nat} {x1 : Int32} (hE : Okk E A) (hd : 0 ≤ d) (ho : kd o = (10, 0)) (h : fX10_see o x1 M = some (r, M')) : Ct l E A d yX10_see cX10_see 2 (some .int) [.ref (ad E o), .int x1] M (some (.int r)) M' := by
  refine Ct.mk (ls := [some (.ref (ad E o)), some (.int x1)]) hE (by decide +kernel) rfl (Nat.le_of_ble_eq_true rfl) (fun X hXl hXA C R => ?_)
  subst hXl; subst hXA
  unfold fX10_see at h
  refine s_iload1 C dX10_see_0 ?_
  refine s_aload0 C dX10_see_1 ?_
  refine gX10_172 C ho dX10_see_2 ?_
  refine s_ic_ge (tgt := 21) C h dX10_see_5 (by decide) ⟨fun h => ?_, fun h => ?_⟩
  · refine s_iconst (v := -1) C (by decide) dX10_see_21 ?_
    exact s_iret C R h dX10_see_22
  · refine s_aload0 C dX10_see_8 ?_
    refine gX10_20 C ho dX10_see_9 ?_
    refine s_iload1 C dX10_see_12 ?_
    refine s_bald C (qX10_tape ho) h dX10_see_13 (fun h => ?_)
    refine s_sipush (v := 255) C (by decide) dX10_see_14 ?_
    refine s_iand C dX10_see_17 ?_
    refine s_goto (tgt := 22) C dX10_see_18 (by decide) ?_
    exact s_iret C R h dX10_see_22
set_option maxRecDepth 4000 in
theorem bX10_advance_26 {E : En} {X : Xc} {d : Nat} {M M' : Mem} {o : Nat} (C : Cx E X d cX10_advance RX10 2) (R : Rt E X none none M') (hd : 1 ≤ d) {k0 : Nat → Mem → Option (Mem)} (hk0 : ∀ (o : Nat) (M : Mem) (_ : kd o = (10, 0)), k0 o M = some M' → At E X 0 [some (.ref (ad E o)), none] [] M) (ho : kd o = (10, 0)) (h : fX10_advance_26 k0 o M = some M') : At E X 26 [some (.ref (ad E o)), none] [] M := by
  unfold fX10_advance_26 at h
  refine s_aload0 C dX10_advance_26 ?_
  refine s_dup C rfl dX10_advance_27 ?_
  refine gX10_175 C ho dX10_advance_28 ?_
  refine s_iconst (v := 1) C (by decide) dX10_advance_31 ?_
  refine s_iadd C dX10_advance_32 ?_
  refine pX10_175 C ho dX10_advance_33 ?_
  refine s_goto (tgt := 0) C dX10_advance_36 (by decide) ?_
  exact hk0 _ _ ho h
set_option maxRecDepth 4000 in
theorem bX10_advance_226 {E : En} {X : Xc} {d : Nat} {M M' : Mem} {o : Nat} {so0 : Nat} {sx1 : Int32} (C : Cx E X d cX10_advance RX10 2) (R : Rt E X none none M') (hd : 1 ≤ d)   (ho : kd o = (10, 0)) (hso0 : kd so0 = (10, 0)) (h : fX10_advance_226  o so0 sx1 M = some M') : At E X 226 [some (.ref (ad E o)), none] [.int sx1, .ref (ad E so0)] M := by
  unfold fX10_advance_226 at h
  refine pX10_184 C hso0 dX10_advance_226 ?_
  refine s_aload0 C dX10_advance_229 ?_
  refine s_dup C rfl dX10_advance_230 ?_
  refine gX10_175 C ho dX10_advance_231 ?_
  refine s_iconst (v := 1) C (by decide) dX10_advance_234 ?_
  refine s_iadd C dX10_advance_235 ?_
  refine pX10_175 C ho dX10_advance_236 ?_
  exact s_vret C R h dX10_advance_239
set_option maxRecDepth 4000 in
theorem bX10_advance_144 {E : En} {X : Xc} {d : Nat} {M' : Mem} (C : Cx E X d cX10_advance RX10 2) (R : Rt E X none none M') (hd : 1 ≤ d)   : ∀ (n : Nat) (o : Nat) (M : Mem) (_ : kd o = (10, 0)), fX10_advance_144  n o M = some M' → At E X 144 [some (.ref (ad E o)), none] [] M := by
  intro n
  induction n with
  | zero => intro o M ho h; rw [fX10_advance_144] at h; cases h
  | succ n ih =>
    intro o M ho h
    rw [fX10_advance_144] at h
    refine s_aload0 C dX10_advance_144 ?_
    refine s_aload0 C dX10_advance_145 ?_
    refine gX10_175 C ho dX10_advance_146 ?_
    obtain ⟨r2, M1, hq, h⟩ := bI_e h
    refine s_callV (T := TX10) (As := [.int (M.1 o 8)]) (v := some (.int r2)) C rfl ho (by decide) rfl (by omega) wX10_178 rfl (Nat.le_of_ble_eq_true rfl) dX10_advance_149 (tX10_see C.2.2.2.2.2.2.1 (by omega) ho hq) ?_
    refine s_i2l C dX10_advance_152 ?_
    refine s_ldc2 (v := 48) C k_1483 dX10_advance_153 ?_
    refine s_ldc2 (v := 57) C k_1484 dX10_advance_156 ?_
    obtain ⟨r4, M3, hq, h⟩ := bI_e h
    refine s_callS (As := [.long (r2).toInt64, .long (48 : Int64), .long (57 : Int64)]) (v := some (.int r4)) C rfl (by omega) wX10_139 rfl (Nat.le_of_ble_eq_true rfl) dX10_advance_159 (tX10_in C.2.2.2.2.2.2.1 (by omega)  hq) ?_
    refine s_if_eq (tgt := 206) C h dX10_advance_162 (by decide) ⟨fun h => ?_, fun h => ?_⟩
    · refine s_aload0 C dX10_advance_206 ?_
      refine s_iconst (v := 2) C (by decide) dX10_advance_207 ?_
      refine pX10_184 C ho dX10_advance_208 ?_
      refine s_goto (tgt := 239) C dX10_advance_211 (by decide) ?_
      exact s_vret C R h dX10_advance_239
    · refine s_aload0 C dX10_advance_165 ?_
      refine s_ldc (v := 99999) C k_1485 dX10_advance_166 ?_
      refine s_bipush (v := 10) C (by decide) dX10_advance_168 ?_
      refine s_aload0 C dX10_advance_170 ?_
      refine gX10_195 C ho dX10_advance_171 ?_
      refine s_imul C dX10_advance_174 ?_
      refine s_aload0 C dX10_advance_175 ?_
      refine s_aload0 C dX10_advance_176 ?_
      refine gX10_175 C ho dX10_advance_177 ?_
      obtain ⟨r6, M5, hq, h⟩ := bI_e h
      refine s_callV (T := TX10) (As := [.int (M3.1 o 8)]) (v := some (.int r6)) C rfl ho (by decide) rfl (by omega) wX10_178 rfl (Nat.le_of_ble_eq_true rfl) dX10_advance_180 (tX10_see C.2.2.2.2.2.2.1 (by omega) ho hq) ?_
      refine s_iadd C dX10_advance_183 ?_
      refine s_bipush (v := 48) C (by decide) dX10_advance_184 ?_
      refine s_isub C dX10_advance_186 ?_
      refine s_min C rfl (by omega) wX10_128 (Nat.le_of_ble_eq_true rfl) dX10_advance_187 ?_
      refine pX10_195 C ho dX10_advance_190 ?_
      refine s_aload0 C dX10_advance_193 ?_
      refine s_dup C rfl dX10_advance_194 ?_
      refine gX10_175 C ho dX10_advance_195 ?_
      refine s_iconst (v := 1) C (by decide) dX10_advance_198 ?_
      refine s_iadd C dX10_advance_199 ?_
      refine pX10_175 C ho dX10_advance_200 ?_
      refine s_goto (tgt := 144) C dX10_advance_203 (by decide) ?_
      exact ih _ _ ho h
set_option maxRecDepth 4000 in
theorem bX10_advance_83 {E : En} {X : Xc} {d : Nat} {M' : Mem} (C : Cx E X d cX10_advance RX10 2) (R : Rt E X none none M') (hd : 1 ≤ d)   : ∀ (n : Nat) (o : Nat) (M : Mem) (_ : kd o = (10, 0)), fX10_advance_83  n o M = some M' → At E X 83 [some (.ref (ad E o)), none] [] M := by
  intro n
  induction n with
  | zero => intro o M ho h; rw [fX10_advance_83] at h; cases h
  | succ n ih =>
    intro o M ho h
    rw [fX10_advance_83] at h
    refine s_aload0 C dX10_advance_83 ?_
    refine s_aload0 C dX10_advance_84 ?_
    refine gX10_175 C ho dX10_advance_85 ?_
    obtain ⟨r2, M1, hq, h⟩ := bI_e h
    refine s_callV (T := TX10) (As := [.int (M.1 o 8)]) (v := some (.int r2)) C rfl ho (by decide) rfl (by omega) wX10_178 rfl (Nat.le_of_ble_eq_true rfl) dX10_advance_88 (tX10_see C.2.2.2.2.2.2.1 (by omega) ho hq) ?_
    refine s_i2l C dX10_advance_91 ?_
    refine s_ldc2 (v := 97) C k_1481 dX10_advance_92 ?_
    refine s_ldc2 (v := 122) C k_1482 dX10_advance_95 ?_
    obtain ⟨r4, M3, hq, h⟩ := bI_e h
    refine s_callS (As := [.long (r2).toInt64, .long (97 : Int64), .long (122 : Int64)]) (v := some (.int r4)) C rfl (by omega) wX10_139 rfl (Nat.le_of_ble_eq_true rfl) dX10_advance_98 (tX10_in C.2.2.2.2.2.2.1 (by omega)  hq) ?_
    refine s_if_eq (tgt := 117) C h dX10_advance_101 (by decide) ⟨fun h => ?_, fun h => ?_⟩
    · refine s_aload0 C dX10_advance_117 ?_
      refine s_iconst (v := 1) C (by decide) dX10_advance_118 ?_
      refine pX10_184 C ho dX10_advance_119 ?_
      refine s_goto (tgt := 239) C dX10_advance_122 (by decide) ?_
      exact s_vret C R h dX10_advance_239
    · refine s_aload0 C dX10_advance_104 ?_
      refine s_dup C rfl dX10_advance_105 ?_
      refine gX10_175 C ho dX10_advance_106 ?_
      refine s_iconst (v := 1) C (by decide) dX10_advance_109 ?_
      refine s_iadd C dX10_advance_110 ?_
      refine pX10_175 C ho dX10_advance_111 ?_
      refine s_goto (tgt := 83) C dX10_advance_114 (by decide) ?_
      exact ih _ _ ho h
set_option maxRecDepth 4000 in
theorem bX10_advance_0 {E : En} {X : Xc} {d : Nat} {M' : Mem} (C : Cx E X d cX10_advance RX10 2) (R : Rt E X none none M') (hd : 1 ≤ d)   : ∀ (n : Nat) (o : Nat) (M : Mem) (_ : kd o = (10, 0)), fX10_advance_0  n o M = some M' → At E X 0 [some (.ref (ad E o)), none] [] M := by
  intro n
  induction n with
  | zero => intro o M ho h; rw [fX10_advance_0] at h; cases h
  | succ n ih =>
    intro o M ho h
    rw [fX10_advance_0] at h
    refine s_aload0 C dX10_advance_0 ?_
    refine s_aload0 C dX10_advance_1 ?_
    refine gX10_175 C ho dX10_advance_2 ?_
    obtain ⟨r2, M1, hq, h⟩ := bI_e h
    refine s_callV (T := TX10) (As := [.int (M.1 o 8)]) (v := some (.int r2)) C rfl ho (by decide) rfl (by omega) wX10_178 rfl (Nat.le_of_ble_eq_true rfl) dX10_advance_5 (tX10_see C.2.2.2.2.2.2.1 (by omega) ho hq) ?_
    refine s_bipush (v := 32) C (by decide) dX10_advance_8 ?_
    refine s_ic_eq (tgt := 26) C h dX10_advance_10 (by decide) ⟨fun h => ?_, fun h => ?_⟩
    · exact bX10_advance_26 C R hd (ih) ho h
    · refine s_aload0 C dX10_advance_13 ?_
      refine s_aload0 C dX10_advance_14 ?_
      refine gX10_175 C ho dX10_advance_15 ?_
      obtain ⟨r4, M3, hq, h⟩ := bI_e h
      refine s_callV (T := TX10) (As := [.int (M1.1 o 8)]) (v := some (.int r4)) C rfl ho (by decide) rfl (by omega) wX10_178 rfl (Nat.le_of_ble_eq_true rfl) dX10_advance_18 (tX10_see C.2.2.2.2.2.2.1 (by omega) ho hq) ?_
      refine s_bipush (v := 10) C (by decide) dX10_advance_21 ?_
      refine s_ic_ne (tgt := 39) C h dX10_advance_23 (by decide) ⟨fun h => ?_, fun h => ?_⟩
      · refine s_aload0 C dX10_advance_39 ?_
        refine s_aload0 C dX10_advance_40 ?_
        refine gX10_175 C ho dX10_advance_41 ?_
        refine pX10_181 C ho dX10_advance_44 ?_
        refine s_aload0 C dX10_advance_47 ?_
        refine s_aload0 C dX10_advance_48 ?_
        refine gX10_175 C ho dX10_advance_49 ?_
        obtain ⟨r6, M5, hq, h⟩ := bI_e h
        refine s_callV (T := TX10) (As := [.int ((pI M3 o 9 (M3.1 o 8)).1 o 8)]) (v := some (.int r6)) C rfl ho (by decide) rfl (by omega) wX10_178 rfl (Nat.le_of_ble_eq_true rfl) dX10_advance_52 (tX10_see C.2.2.2.2.2.2.1 (by omega) ho hq) ?_
        refine s_istore1 C rfl dX10_advance_55 ?_
        refine s_iload1 C dX10_advance_56 ?_
        refine s_iconst (v := -1) C (by decide) dX10_advance_57 ?_
        refine s_ic_ne (tgt := 69) C h dX10_advance_58 (by decide) ⟨fun h => ?_, fun h => ?_⟩
        · refine s_iload1 C dX10_advance_69 ?_
          refine s_i2l C dX10_advance_70 ?_
          refine s_ldc2 (v := 97) C k_1481 dX10_advance_71 ?_
          refine s_ldc2 (v := 122) C k_1482 dX10_advance_74 ?_
          obtain ⟨r8, M7, hq, h⟩ := bI_e h
          refine s_callS (As := [.long (r6).toInt64, .long (97 : Int64), .long (122 : Int64)]) (v := some (.int r8)) C rfl (by omega) wX10_139 rfl (Nat.le_of_ble_eq_true rfl) dX10_advance_77 (tX10_in C.2.2.2.2.2.2.1 (by omega)  hq) ?_
          refine s_if_eq (tgt := 125) C h dX10_advance_80 (by decide) ⟨fun h => ?_, fun h => ?_⟩
          · refine s_iload1 C dX10_advance_125 ?_
            refine s_i2l C dX10_advance_126 ?_
            refine s_ldc2 (v := 48) C k_1483 dX10_advance_127 ?_
            refine s_ldc2 (v := 57) C k_1484 dX10_advance_130 ?_
            obtain ⟨r10, M9, hq, h⟩ := bI_e h
            refine s_callS (As := [.long (r6).toInt64, .long (48 : Int64), .long (57 : Int64)]) (v := some (.int r10)) C rfl (by omega) wX10_139 rfl (Nat.le_of_ble_eq_true rfl) dX10_advance_133 (tX10_in C.2.2.2.2.2.2.1 (by omega)  hq) ?_
            refine s_if_eq (tgt := 214) C h dX10_advance_136 (by decide) ⟨fun h => ?_, fun h => ?_⟩
            · refine s_aload0 C dX10_advance_214 ?_
              refine s_iload1 C dX10_advance_215 ?_
              refine s_bipush (v := 59) C (by decide) dX10_advance_216 ?_
              refine s_ic_ne (tgt := 225) C h dX10_advance_218 (by decide) ⟨fun h => ?_, fun h => ?_⟩
              · refine s_iconst (v := 4) C (by decide) dX10_advance_225 ?_
                refine s_fg 1 ?_
                exact bX10_advance_226 C R hd  ho ho h
              · refine s_iconst (v := 3) C (by decide) dX10_advance_221 ?_
                refine s_goto (tgt := 226) C dX10_advance_222 (by decide) ?_
                refine s_fg 1 ?_
                exact bX10_advance_226 C R hd  ho ho h
            · refine s_aload0 C dX10_advance_139 ?_
              refine s_iconst (v := 0) C (by decide) dX10_advance_140 ?_
              refine pX10_195 C ho dX10_advance_141 ?_
              refine s_fg 1 ?_
              exact bX10_advance_144 C R hd  LF _ _ ho h
          · refine s_fg 1 ?_
            exact bX10_advance_83 C R hd  LF _ _ ho h
        · refine s_aload0 C dX10_advance_61 ?_
          refine s_iconst (v := 0) C (by decide) dX10_advance_62 ?_
          refine pX10_184 C ho dX10_advance_63 ?_
          refine s_goto (tgt := 239) C dX10_advance_66 (by decide) ?_
          exact s_vret C R h dX10_advance_239
      · exact bX10_advance_26 C R hd (ih) ho h
set_option maxRecDepth 4000 in
theorem tX10_advance {l : Launch} {E : En} {A : Nat → Prop} {d : Nat} {M M' : Mem} {o : Nat} (hE : Okk E A) (hd : 1 ≤ d) (ho : kd o = (10, 0)) (h : fX10_advance o M = some M') : Ct l E A d yX10_advance cX10_advance 2 none [.ref (ad E o)] M none M' := by
  refine Ct.mk (ls := [some (.ref (ad E o)), none]) hE (by decide +kernel) rfl (Nat.le_of_ble_eq_true rfl) (fun X hXl hXA C R => ?_)
  subst hXl; subst hXA
  unfold fX10_advance at h
  exact bX10_advance_0 C R hd  LF _ _ ho h
set_option maxRecDepth 4000 in
theorem tX10_good {l : Launch} {E : En} {A : Nat → Prop} {d : Nat} {r : Int32} {M M' : Mem} {o : Nat} (hE : Okk E A) (hd : 0 ≤ d) (ho : kd o = (10, 0)) (h : fX10_good o M = some (r, M')) : Ct l E A d yX10_good cX10_good 1 (some .boolean) [.ref (ad E o)] M (some (.int r)) M' := by
  refine Ct.mk (ls := [some (.ref (ad E o))]) hE (by decide +kernel) rfl (Nat.le_of_ble_eq_true rfl) (fun X hXl hXA C R => ?_)
  subst hXl; subst hXA
  unfold fX10_good at h
  refine s_aload0 C dX10_good_0 ?_
  refine gX10_199 C ho dX10_good_1 ?_
  refine s_if_ne (tgt := 11) C h dX10_good_4 (by decide) ⟨fun h => ?_, fun h => ?_⟩
  · refine s_iconst (v := 0) C (by decide) dX10_good_11 ?_
    exact s_zret C R h rfl dX10_good_12
  · refine s_iconst (v := 1) C (by decide) dX10_good_7 ?_
    refine s_goto (tgt := 12) C dX10_good_8 (by decide) ?_
    exact s_zret C R h rfl dX10_good_12
set_option maxRecDepth 4000 in
theorem tX10_errs {l : Launch} {E : En} {A : Nat → Prop} {d : Nat} {M M' : Mem} {o : Nat} {x1 : Int32} (hE : Okk E A) (hd : 1 ≤ d) (ho : kd o = (10, 0)) (h : fX10_errs o x1 M = some M') : Ct l E A d yX10_errs cX10_errs 2 none [.ref (ad E o), .int x1] M none M' := by
  refine Ct.mk (ls := [some (.ref (ad E o)), some (.int x1)]) hE (by decide +kernel) rfl (Nat.le_of_ble_eq_true rfl) (fun X hXl hXA C R => ?_)
  subst hXl; subst hXA
  unfold fX10_errs at h
  refine s_aload0 C dX10_errs_0 ?_
  obtain ⟨r2, M1, hq, h⟩ := bI_e h
  refine s_callV (T := TX10) (As := []) (v := some (.int r2)) C rfl ho (by decide) rfl (by omega) wX10_202 rfl (Nat.le_of_ble_eq_true rfl) dX10_errs_1 (tX10_good C.2.2.2.2.2.2.1 (by omega) ho hq) ?_
  refine s_if_ne (tgt := 8) C h dX10_errs_4 (by decide) ⟨fun h => ?_, fun h => ?_⟩
  · refine s_aload0 C dX10_errs_8 ?_
    refine s_iload1 C dX10_errs_9 ?_
    refine pX10_199 C ho dX10_errs_10 ?_
    refine s_aload0 C dX10_errs_13 ?_
    refine s_aload0 C dX10_errs_14 ?_
    refine gX10_181 C ho dX10_errs_15 ?_
    refine pX10_27 C ho dX10_errs_18 ?_
    exact s_vret C R h dX10_errs_21
  · exact s_vret C R h dX10_errs_7
set_option maxRecDepth 4000 in
theorem bX10_is_75 {E : En} {X : Xc} {d : Nat} {r : Int32} {M M' : Mem} {o : Nat} {j1 : Nat} {x3 : Int32} {sx0 : Int32} (C : Cx E X d cX10_is RX10 4) (R : Rt E X (some .boolean) (some (.int r)) M') (hd : 5 ≤ d) {k39 : Nat → Nat → Int32 → Int32 → Mem → Option (Int32 × Mem)} (hk39 : ∀ (o : Nat) (j1 : Nat) (x2 : Int32) (x3 : Int32) (M : Mem) (_ : kd o = (10, 0)) (_ : j1 < NS), k39 o j1 x2 x3 M = some (r, M') → At E X 39 [some (.ref (ad E o)), some (.ref (aK E j1)), some (.int x2), some (.int x3)] [] M) (ho : kd o = (10, 0)) (hj1 : j1 < NS) (h : fX10_is_75 k39 o j1 x3 sx0 M = some (r, M')) : At E X 75 [some (.ref (ad E o)), some (.ref (aK E j1)), none, some (.int x3)] [.int sx0] M := by
  unfold fX10_is_75 at h
  refine s_istore2 C rfl dX10_is_75 ?_
  refine s_iinc3 (v := 1) C rfl dX10_is_76 (by decide) ?_
  refine s_goto (tgt := 39) C dX10_is_79 (by decide) ?_
  exact hk39 _ _ _ _ _ ho hj1 h
set_option maxRecDepth 4000 in
theorem bX10_is_39 {E : En} {X : Xc} {d : Nat} {r : Int32} {M' : Mem} (C : Cx E X d cX10_is RX10 4) (R : Rt E X (some .boolean) (some (.int r)) M') (hd : 5 ≤ d)   : ∀ (n : Nat) (o : Nat) (j1 : Nat) (x2 : Int32) (x3 : Int32) (M : Mem) (_ : kd o = (10, 0)) (_ : j1 < NS), fX10_is_39  n o j1 x2 x3 M = some (r, M') → At E X 39 [some (.ref (ad E o)), some (.ref (aK E j1)), some (.int x2), some (.int x3)] [] M := by
  intro n
  induction n with
  | zero => intro o j1 x2 x3 M ho hj1 h; rw [fX10_is_39] at h; cases h
  | succ n ih =>
    intro o j1 x2 x3 M ho hj1 h
    rw [fX10_is_39] at h
    refine s_iload3 C dX10_is_39 ?_
    refine s_aload1 C dX10_is_40 ?_
    refine s_callVS (As := []) (v := some (.int (nI (sl j1)))) C rfl hj1 (by omega) wX10_206 rfl (Nat.le_of_ble_eq_true rfl) dX10_is_41 (ct_length C.2.2.2.2.2.2.1 (by omega) hj1) ?_
    refine s_ic_ge (tgt := 82) C h dX10_is_44 (by decide) ⟨fun h => ?_, fun h => ?_⟩
    · refine s_iload2 C dX10_is_82 ?_
      obtain ⟨hb, h⟩ := ck_e h
      exact s_zret C R h (isB_n hb).1 dX10_is_83
    · refine s_iload2 C dX10_is_47 ?_
      refine s_if_eq (tgt := 82) C h dX10_is_48 (by decide) ⟨fun h => ?_, fun h => ?_⟩
      · refine s_iload2 C dX10_is_82 ?_
        obtain ⟨hb, h⟩ := ck_e h
        exact s_zret C R h (isB_n hb).1 dX10_is_83
      · refine s_aload0 C dX10_is_51 ?_
        refine gX10_20 C ho dX10_is_52 ?_
        refine s_aload0 C dX10_is_55 ?_
        refine gX10_181 C ho dX10_is_56 ?_
        refine s_iload3 C dX10_is_59 ?_
        refine s_iadd C dX10_is_60 ?_
        refine s_bald C (qX10_tape ho) h dX10_is_61 (fun h => ?_)
        refine s_aload1 C dX10_is_62 ?_
        refine s_iload3 C dX10_is_63 ?_
        obtain ⟨hib, h⟩ := ck_e h
        refine s_callVS (As := [.int x3]) (v := some (.int (sc j1 (tn x3)))) C rfl hj1 (by omega) wX10_212 rfl (Nat.le_of_ble_eq_true rfl) dX10_is_64 (ct_charAt C.2.2.2.2.2.2.1 (by omega) hj1 hib) ?_
        refine s_ic_ne (tgt := 74) C h dX10_is_67 (by decide) ⟨fun h => ?_, fun h => ?_⟩
        · refine s_iconst (v := 0) C (by decide) dX10_is_74 ?_
          refine s_fg 2 ?_
          exact bX10_is_75 C R hd (ih) ho hj1 h
        · refine s_iconst (v := 1) C (by decide) dX10_is_70 ?_
          refine s_goto (tgt := 75) C dX10_is_71 (by decide) ?_
          refine s_fg 2 ?_
          exact bX10_is_75 C R hd (ih) ho hj1 h
set_option maxRecDepth 4000 in
theorem bX10_is_36 {E : En} {X : Xc} {d : Nat} {r : Int32} {M M' : Mem} {o : Nat} {j1 : Nat} {sx0 : Int32} (C : Cx E X d cX10_is RX10 4) (R : Rt E X (some .boolean) (some (.int r)) M') (hd : 5 ≤ d)   (ho : kd o = (10, 0)) (hj1 : j1 < NS) (h : fX10_is_36  o j1 sx0 M = some (r, M')) : At E X 36 [some (.ref (ad E o)), some (.ref (aK E j1)), none, none] [.int sx0] M := by
  unfold fX10_is_36 at h
  refine s_istore2 C rfl dX10_is_36 ?_
  refine s_iconst (v := 0) C (by decide) dX10_is_37 ?_
  refine s_istore3 C rfl dX10_is_38 ?_
  exact bX10_is_39 C R hd  LF _ _ _ _ _ ho hj1 h
set_option maxRecDepth 4000 in
theorem bX10_is_35 {E : En} {X : Xc} {d : Nat} {r : Int32} {M M' : Mem} {o : Nat} {j1 : Nat} (C : Cx E X d cX10_is RX10 4) (R : Rt E X (some .boolean) (some (.int r)) M') (hd : 5 ≤ d)   (ho : kd o = (10, 0)) (hj1 : j1 < NS) (h : fX10_is_35  o j1 M = some (r, M')) : At E X 35 [some (.ref (ad E o)), some (.ref (aK E j1)), none, none] [] M := by
  unfold fX10_is_35 at h
  refine s_iconst (v := 0) C (by decide) dX10_is_35 ?_
  exact bX10_is_36 C R hd  ho hj1 h
set_option maxRecDepth 4000 in
theorem tX10_is {l : Launch} {E : En} {A : Nat → Prop} {d : Nat} {r : Int32} {M M' : Mem} {o : Nat} {j1 : Nat} (hE : Okk E A) (hd : 5 ≤ d) (ho : kd o = (10, 0)) (hj1 : j1 < NS) (h : fX10_is o j1 M = some (r, M')) : Ct l E A d yX10_is cX10_is 4 (some .boolean) [.ref (ad E o), .ref (aK E j1)] M (some (.int r)) M' := by
  refine Ct.mk (ls := [some (.ref (ad E o)), some (.ref (aK E j1)), none, none]) hE (by decide +kernel) rfl (Nat.le_of_ble_eq_true rfl) (fun X hXl hXA C R => ?_)
  subst hXl; subst hXA
  unfold fX10_is at h
  refine s_aload0 C dX10_is_0 ?_
  obtain ⟨r2, M1, hq, h⟩ := bI_e h
  refine s_callV (T := TX10) (As := []) (v := some (.int r2)) C rfl ho (by decide) rfl (by omega) wX10_202 rfl (Nat.le_of_ble_eq_true rfl) dX10_is_1 (tX10_good C.2.2.2.2.2.2.1 (by omega) ho hq) ?_
  refine s_if_eq (tgt := 35) C h dX10_is_4 (by decide) ⟨fun h => ?_, fun h => ?_⟩
  · exact bX10_is_35 C R hd  ho hj1 h
  · refine s_aload0 C dX10_is_7 ?_
    refine gX10_184 C ho dX10_is_8 ?_
    refine s_iconst (v := 1) C (by decide) dX10_is_11 ?_
    refine s_ic_ne (tgt := 35) C h dX10_is_12 (by decide) ⟨fun h => ?_, fun h => ?_⟩
    · exact bX10_is_35 C R hd  ho hj1 h
    · refine s_aload0 C dX10_is_15 ?_
      refine gX10_175 C ho dX10_is_16 ?_
      refine s_aload0 C dX10_is_19 ?_
      refine gX10_181 C ho dX10_is_20 ?_
      refine s_isub C dX10_is_23 ?_
      refine s_aload1 C dX10_is_24 ?_
      refine s_callVS (As := []) (v := some (.int (nI (sl j1)))) C rfl hj1 (by omega) wX10_206 rfl (Nat.le_of_ble_eq_true rfl) dX10_is_25 (ct_length C.2.2.2.2.2.2.1 (by omega) hj1) ?_
      refine s_ic_ne (tgt := 35) C h dX10_is_28 (by decide) ⟨fun h => ?_, fun h => ?_⟩
      · exact bX10_is_35 C R hd  ho hj1 h
      · refine s_iconst (v := 1) C (by decide) dX10_is_31 ?_
        refine s_goto (tgt := 36) C dX10_is_32 (by decide) ?_
        exact bX10_is_36 C R hd  ho hj1 h
set_option maxRecDepth 4000 in
theorem tX10_expects {l : Launch} {E : En} {A : Nat → Prop} {d : Nat} {M M' : Mem} {o : Nat} {j1 : Nat} (hE : Okk E A) (hd : 6 ≤ d) (ho : kd o = (10, 0)) (hj1 : j1 < NS) (h : fX10_expects o j1 M = some M') : Ct l E A d yX10_expects cX10_expects 2 none [.ref (ad E o), .ref (aK E j1)] M none M' := by
  refine Ct.mk (ls := [some (.ref (ad E o)), some (.ref (aK E j1))]) hE (by decide +kernel) rfl (Nat.le_of_ble_eq_true rfl) (fun X hXl hXA C R => ?_)
  subst hXl; subst hXA
  unfold fX10_expects at h
  refine s_aload0 C dX10_expects_0 ?_
  refine s_aload1 C dX10_expects_1 ?_
  obtain ⟨r2, M1, hq, h⟩ := bI_e h
  refine s_callV (T := TX10) (As := [.ref (aK E j1)]) (v := some (.int r2)) C rfl ho (by decide) rfl (by omega) wX10_216 rfl (Nat.le_of_ble_eq_true rfl) dX10_expects_2 (tX10_is C.2.2.2.2.2.2.1 (by omega) ho hj1 hq) ?_
  refine s_if_eq (tgt := 15) C h dX10_expects_5 (by decide) ⟨fun h => ?_, fun h => ?_⟩
  · refine s_aload0 C dX10_expects_15 ?_
    refine s_iconst (v := 1) C (by decide) dX10_expects_16 ?_
    obtain ⟨M3, hq, h⟩ := bV_e h
    refine s_callV (T := TX10) (As := [.int (1 : Int32)]) (v := none) C rfl ho (by decide) rfl (by omega) wX10_223 rfl (Nat.le_of_ble_eq_true rfl) dX10_expects_17 (tX10_errs C.2.2.2.2.2.2.1 (by omega) ho hq) ?_
    exact s_vret C R h dX10_expects_20
  · refine s_aload0 C dX10_expects_8 ?_
    obtain ⟨M4, hq, h⟩ := bV_e h
    refine s_callV (T := TX10) (As := []) (v := none) C rfl ho (by decide) rfl (by omega) wX10_220 rfl (Nat.le_of_ble_eq_true rfl) dX10_expects_9 (tX10_advance C.2.2.2.2.2.2.1 (by omega) ho hq) ?_
    refine s_goto (tgt := 20) C dX10_expects_12 (by decide) ?_
    exact s_vret C R h dX10_expects_20
set_option maxRecDepth 4000 in
theorem bX10_takes_47 {E : En} {X : Xc} {d : Nat} {r : Int32} {M M' : Mem} {o : Nat} (C : Cx E X d cX10_takes RX10 4) (R : Rt E X (some .int) (some (.int r)) M') (hd : 2 ≤ d)   (ho : kd o = (10, 0)) (h : fX10_takes_47  o M = some (r, M')) : At E X 47 [some (.ref (ad E o)), none, none, none] [] M := by
  unfold fX10_takes_47 at h
  refine s_aload0 C dX10_takes_47 ?_
  obtain ⟨r2, M1, hq, h⟩ := bI_e h
  refine s_callV (T := TX10) (As := []) (v := some (.int r2)) C rfl ho (by decide) rfl (by omega) wX10_202 rfl (Nat.le_of_ble_eq_true rfl) dX10_takes_48 (tX10_good C.2.2.2.2.2.2.1 (by omega) ho hq) ?_
  refine s_if_ne (tgt := 56) C h dX10_takes_51 (by decide) ⟨fun h => ?_, fun h => ?_⟩
  · refine s_aload0 C dX10_takes_56 ?_
    refine gX10_195 C ho dX10_takes_57 ?_
    refine s_istore3 C rfl dX10_takes_60 ?_
    refine s_aload0 C dX10_takes_61 ?_
    obtain ⟨M3, hq, h⟩ := bV_e h
    refine s_callV (T := TX10) (As := []) (v := none) C rfl ho (by decide) rfl (by omega) wX10_220 rfl (Nat.le_of_ble_eq_true rfl) dX10_takes_62 (tX10_advance C.2.2.2.2.2.2.1 (by omega) ho hq) ?_
    refine s_iload3 C dX10_takes_65 ?_
    exact s_iret C R h dX10_takes_66
  · refine s_iconst (v := 0) C (by decide) dX10_takes_54 ?_
    exact s_iret C R h dX10_takes_55
set_option maxRecDepth 4000 in
theorem bX10_takes_20 {E : En} {X : Xc} {d : Nat} {r : Int32} {M M' : Mem} {o : Nat} {x1 : Int32} {x2 : Int32} (C : Cx E X d cX10_takes RX10 4) (R : Rt E X (some .int) (some (.int r)) M') (hd : 2 ≤ d)   (ho : kd o = (10, 0)) (h : fX10_takes_20  o x1 x2 M = some (r, M')) : At E X 20 [some (.ref (ad E o)), some (.int x1), some (.int x2), none] [] M := by
  unfold fX10_takes_20 at h
  refine s_aload0 C dX10_takes_20 ?_
  obtain ⟨r2, M1, hq, h⟩ := bI_e h
  refine s_callV (T := TX10) (As := []) (v := some (.int r2)) C rfl ho (by decide) rfl (by omega) wX10_202 rfl (Nat.le_of_ble_eq_true rfl) dX10_takes_21 (tX10_good C.2.2.2.2.2.2.1 (by omega) ho hq) ?_
  refine s_if_eq (tgt := 47) C h dX10_takes_24 (by decide) ⟨fun h => ?_, fun h => ?_⟩
  · refine s_fg 1 ?_
    refine s_fg 2 ?_
    exact bX10_takes_47 C R hd  ho h
  · refine s_aload0 C dX10_takes_27 ?_
    refine gX10_195 C ho dX10_takes_28 ?_
    refine s_i2l C dX10_takes_31 ?_
    refine s_iload1 C dX10_takes_32 ?_
    refine s_i2l C dX10_takes_33 ?_
    refine s_iload2 C dX10_takes_34 ?_
    refine s_i2l C dX10_takes_35 ?_
    obtain ⟨r4, M3, hq, h⟩ := bI_e h
    refine s_callS (As := [.long ((M1.1 o 11)).toInt64, .long (x1).toInt64, .long (x2).toInt64]) (v := some (.int r4)) C rfl (by omega) wX10_139 rfl (Nat.le_of_ble_eq_true rfl) dX10_takes_36 (tX10_in C.2.2.2.2.2.2.1 (by omega)  hq) ?_
    refine s_if_ne (tgt := 47) C h dX10_takes_39 (by decide) ⟨fun h => ?_, fun h => ?_⟩
    · refine s_fg 1 ?_
      refine s_fg 2 ?_
      exact bX10_takes_47 C R hd  ho h
    · refine s_aload0 C dX10_takes_42 ?_
      refine s_iconst (v := 2) C (by decide) dX10_takes_43 ?_
      obtain ⟨M5, hq, h⟩ := bV_e h
      refine s_callV (T := TX10) (As := [.int (2 : Int32)]) (v := none) C rfl ho (by decide) rfl (by omega) wX10_223 rfl (Nat.le_of_ble_eq_true rfl) dX10_takes_44 (tX10_errs C.2.2.2.2.2.2.1 (by omega) ho hq) ?_
      refine s_fg 1 ?_
      refine s_fg 2 ?_
      exact bX10_takes_47 C R hd  ho h
set_option maxRecDepth 4000 in
theorem tX10_takes {l : Launch} {E : En} {A : Nat → Prop} {d : Nat} {r : Int32} {M M' : Mem} {o : Nat} {x1 : Int32} {x2 : Int32} (hE : Okk E A) (hd : 2 ≤ d) (ho : kd o = (10, 0)) (h : fX10_takes o x1 x2 M = some (r, M')) : Ct l E A d yX10_takes cX10_takes 4 (some .int) [.ref (ad E o), .int x1, .int x2] M (some (.int r)) M' := by
  refine Ct.mk (ls := [some (.ref (ad E o)), some (.int x1), some (.int x2), none]) hE (by decide +kernel) rfl (Nat.le_of_ble_eq_true rfl) (fun X hXl hXA C R => ?_)
  subst hXl; subst hXA
  unfold fX10_takes at h
  refine s_aload0 C dX10_takes_0 ?_
  obtain ⟨r2, M1, hq, h⟩ := bI_e h
  refine s_callV (T := TX10) (As := []) (v := some (.int r2)) C rfl ho (by decide) rfl (by omega) wX10_202 rfl (Nat.le_of_ble_eq_true rfl) dX10_takes_1 (tX10_good C.2.2.2.2.2.2.1 (by omega) ho hq) ?_
  refine s_if_eq (tgt := 20) C h dX10_takes_4 (by decide) ⟨fun h => ?_, fun h => ?_⟩
  · exact bX10_takes_20 C R hd  ho h
  · refine s_aload0 C dX10_takes_7 ?_
    refine gX10_184 C ho dX10_takes_8 ?_
    refine s_iconst (v := 2) C (by decide) dX10_takes_11 ?_
    refine s_ic_eq (tgt := 20) C h dX10_takes_12 (by decide) ⟨fun h => ?_, fun h => ?_⟩
    · exact bX10_takes_20 C R hd  ho h
    · refine s_aload0 C dX10_takes_15 ?_
      refine s_iconst (v := 1) C (by decide) dX10_takes_16 ?_
      obtain ⟨M3, hq, h⟩ := bV_e h
      refine s_callV (T := TX10) (As := [.int (1 : Int32)]) (v := none) C rfl ho (by decide) rfl (by omega) wX10_223 rfl (Nat.le_of_ble_eq_true rfl) dX10_takes_17 (tX10_errs C.2.2.2.2.2.2.1 (by omega) ho hq) ?_
      exact bX10_takes_20 C R hd  ho h
set_option maxRecDepth 4000 in
theorem tX10_toldBy {l : Launch} {E : En} {A : Nat → Prop} {d : Nat} {r : Int32} {M M' : Mem} {o : Nat} {j1 : Nat} {x2 : Int32} {x3 : Int32} (hE : Okk E A) (hd : 7 ≤ d) (ho : kd o = (10, 0)) (hj1 : j1 < NS) (h : fX10_toldBy o j1 x2 x3 M = some (r, M')) : Ct l E A d yX10_toldBy cX10_toldBy 4 (some .int) [.ref (ad E o), .ref (aK E j1), .int x2, .int x3] M (some (.int r)) M' := by
  refine Ct.mk (ls := [some (.ref (ad E o)), some (.ref (aK E j1)), some (.int x2), some (.int x3)]) hE (by decide +kernel) rfl (Nat.le_of_ble_eq_true rfl) (fun X hXl hXA C R => ?_)
  subst hXl; subst hXA
  unfold fX10_toldBy at h
  refine s_aload0 C dX10_toldBy_0 ?_
  refine s_aload1 C dX10_toldBy_1 ?_
  obtain ⟨M1, hq, h⟩ := bV_e h
  refine s_callV (T := TX10) (As := [.ref (aK E j1)]) (v := none) C rfl ho (by decide) rfl (by omega) wX10_227 rfl (Nat.le_of_ble_eq_true rfl) dX10_toldBy_2 (tX10_expects C.2.2.2.2.2.2.1 (by omega) ho hj1 hq) ?_
  refine s_aload0 C dX10_toldBy_5 ?_
  refine s_iload2 C dX10_toldBy_6 ?_
  refine s_iload3 C dX10_toldBy_7 ?_
  obtain ⟨r3, M2, hq, h⟩ := bI_e h
  refine s_callV (T := TX10) (As := [.int x2, .int x3]) (v := some (.int r3)) C rfl ho (by decide) rfl (by omega) wX10_231 rfl (Nat.le_of_ble_eq_true rfl) dX10_toldBy_8 (tX10_takes C.2.2.2.2.2.2.1 (by omega) ho hq) ?_
  exact s_iret C R h dX10_toldBy_11
set_option maxRecDepth 4000 in
theorem tX10_fault {l : Launch} {E : En} {A : Nat → Prop} {d : Nat} {r : Int32} {M M' : Mem} {o : Nat} {x1 : Int32} (hE : Okk E A) (hd : 0 ≤ d) (ho : kd o = (10, 0)) (h : fX10_fault o x1 M = some (r, M')) : Ct l E A d yX10_fault cX10_fault 2 (some .int) [.ref (ad E o), .int x1] M (some (.int r)) M' := by
  refine Ct.mk (ls := [some (.ref (ad E o)), some (.int x1)]) hE (by decide +kernel) rfl (Nat.le_of_ble_eq_true rfl) (fun X hXl hXA C R => ?_)
  subst hXl; subst hXA
  unfold fX10_fault at h
  refine s_iload1 C dX10_fault_0 ?_
  refine s_if_ne (tgt := 11) C h dX10_fault_1 (by decide) ⟨fun h => ?_, fun h => ?_⟩
  · refine s_iload1 C dX10_fault_11 ?_
    refine s_iconst (v := 1) C (by decide) dX10_fault_12 ?_
    refine s_ic_ne (tgt := 23) C h dX10_fault_13 (by decide) ⟨fun h => ?_, fun h => ?_⟩
    · refine s_iconst (v := -1) C (by decide) dX10_fault_23 ?_
      exact s_iret C R h dX10_fault_24
    · refine s_aload0 C dX10_fault_16 ?_
      refine gX10_27 C ho dX10_fault_17 ?_
      refine s_goto (tgt := 24) C dX10_fault_20 (by decide) ?_
      exact s_iret C R h dX10_fault_24
  · refine s_aload0 C dX10_fault_4 ?_
    refine gX10_199 C ho dX10_fault_5 ?_
    refine s_goto (tgt := 24) C dX10_fault_8 (by decide) ?_
    exact s_iret C R h dX10_fault_24
set_option maxRecDepth 4000 in
theorem tX10_readFirst {l : Launch} {E : En} {A : Nat → Prop} {d : Nat} {M M' : Mem} {o : Nat} (hE : Okk E A) (hd : 8 ≤ d) (ho : kd o = (10, 0)) (h : fX10_readFirst o M = some M') : Ct l E A d yX10_readFirst cX10_readFirst 1 none [.ref (ad E o)] M none M' := by
  refine Ct.mk (ls := [some (.ref (ad E o))]) hE (by decide +kernel) rfl (Nat.le_of_ble_eq_true rfl) (fun X hXl hXA C R => ?_)
  subst hXl; subst hXA
  unfold fX10_readFirst at h
  refine s_aload0 C dX10_readFirst_0 ?_
  refine s_ldcs (j := 36) (tx := "guesser") C rfl dX10_readFirst_1 ?_
  obtain ⟨M1, hq, h⟩ := bV_e h
  refine s_callV (T := TX10) (As := [.ref (aK E 36)]) (v := none) C rfl ho (by decide) rfl (by omega) wX10_227 rfl (Nat.le_of_ble_eq_true rfl) dX10_readFirst_3 (tX10_expects C.2.2.2.2.2.2.1 (by omega) ho (by decide) hq) ?_
  refine s_aload0 C dX10_readFirst_6 ?_
  refine gX10_31 C ho dX10_readFirst_7 ?_
  refine s_iconst (v := 0) C (by decide) dX10_readFirst_10 ?_
  refine s_aload0 C dX10_readFirst_11 ?_
  refine s_ldcs (j := 37) (tx := "rows") C rfl dX10_readFirst_12 ?_
  refine s_iconst (v := 1) C (by decide) dX10_readFirst_14 ?_
  refine s_iconst (v := 4) C (by decide) dX10_readFirst_15 ?_
  obtain ⟨r3, M2, hq, h⟩ := bI_e h
  refine s_callV (T := TX10) (As := [.ref (aK E 37), .int (1 : Int32), .int (4 : Int32)]) (v := some (.int r3)) C rfl ho (by decide) rfl (by omega) wX10_238 rfl (Nat.le_of_ble_eq_true rfl) dX10_readFirst_16 (tX10_toldBy C.2.2.2.2.2.2.1 (by omega) ho (by decide) hq) ?_
  refine s_iast C (qX10_fresh ho) h dX10_readFirst_19 (fun h => ?_)
  refine s_aload0 C dX10_readFirst_20 ?_
  refine gX10_31 C ho dX10_readFirst_21 ?_
  refine s_iconst (v := 1) C (by decide) dX10_readFirst_24 ?_
  refine s_aload0 C dX10_readFirst_25 ?_
  refine s_ldcs (j := 38) (tx := "tag") C rfl dX10_readFirst_26 ?_
  refine s_iconst (v := 2) C (by decide) dX10_readFirst_28 ?_
  refine s_bipush (v := 6) C (by decide) dX10_readFirst_29 ?_
  obtain ⟨r5, M4, hq, h⟩ := bI_e h
  refine s_callV (T := TX10) (As := [.ref (aK E 38), .int (2 : Int32), .int (6 : Int32)]) (v := some (.int r5)) C rfl ho (by decide) rfl (by omega) wX10_238 rfl (Nat.le_of_ble_eq_true rfl) dX10_readFirst_31 (tX10_toldBy C.2.2.2.2.2.2.1 (by omega) ho (by decide) hq) ?_
  refine s_iast C (qX10_fresh ho) h dX10_readFirst_34 (fun h => ?_)
  refine s_aload0 C dX10_readFirst_35 ?_
  refine gX10_31 C ho dX10_readFirst_36 ?_
  refine s_iconst (v := 2) C (by decide) dX10_readFirst_39 ?_
  refine s_aload0 C dX10_readFirst_40 ?_
  refine s_ldcs (j := 39) (tx := "age") C rfl dX10_readFirst_41 ?_
  refine s_iconst (v := 1) C (by decide) dX10_readFirst_43 ?_
  refine s_bipush (v := 9) C (by decide) dX10_readFirst_44 ?_
  obtain ⟨r7, M6, hq, h⟩ := bI_e h
  refine s_callV (T := TX10) (As := [.ref (aK E 39), .int (1 : Int32), .int (9 : Int32)]) (v := some (.int r7)) C rfl ho (by decide) rfl (by omega) wX10_238 rfl (Nat.le_of_ble_eq_true rfl) dX10_readFirst_46 (tX10_toldBy C.2.2.2.2.2.2.1 (by omega) ho (by decide) hq) ?_
  refine s_iast C (qX10_fresh ho) h dX10_readFirst_49 (fun h => ?_)
  refine s_aload0 C dX10_readFirst_50 ?_
  refine gX10_31 C ho dX10_readFirst_51 ?_
  refine s_iconst (v := 3) C (by decide) dX10_readFirst_54 ?_
  refine s_aload0 C dX10_readFirst_55 ?_
  refine s_ldcs (j := 40) (tx := "cost") C rfl dX10_readFirst_56 ?_
  refine s_iconst (v := 0) C (by decide) dX10_readFirst_58 ?_
  refine s_bipush (v := 20) C (by decide) dX10_readFirst_59 ?_
  obtain ⟨r9, M8, hq, h⟩ := bI_e h
  refine s_callV (T := TX10) (As := [.ref (aK E 40), .int (0 : Int32), .int (20 : Int32)]) (v := some (.int r9)) C rfl ho (by decide) rfl (by omega) wX10_238 rfl (Nat.le_of_ble_eq_true rfl) dX10_readFirst_61 (tX10_toldBy C.2.2.2.2.2.2.1 (by omega) ho (by decide) hq) ?_
  refine s_iast C (qX10_fresh ho) h dX10_readFirst_64 (fun h => ?_)
  refine s_aload0 C dX10_readFirst_65 ?_
  refine gX10_31 C ho dX10_readFirst_66 ?_
  refine s_iconst (v := 4) C (by decide) dX10_readFirst_69 ?_
  refine s_aload0 C dX10_readFirst_70 ?_
  refine s_ldcs (j := 41) (tx := "deep") C rfl dX10_readFirst_71 ?_
  refine s_iconst (v := 0) C (by decide) dX10_readFirst_73 ?_
  refine s_bipush (v := 9) C (by decide) dX10_readFirst_74 ?_
  obtain ⟨r11, M10, hq, h⟩ := bI_e h
  refine s_callV (T := TX10) (As := [.ref (aK E 41), .int (0 : Int32), .int (9 : Int32)]) (v := some (.int r11)) C rfl ho (by decide) rfl (by omega) wX10_238 rfl (Nat.le_of_ble_eq_true rfl) dX10_readFirst_76 (tX10_toldBy C.2.2.2.2.2.2.1 (by omega) ho (by decide) hq) ?_
  refine s_iast C (qX10_fresh ho) h dX10_readFirst_79 (fun h => ?_)
  refine s_aload0 C dX10_readFirst_80 ?_
  refine gX10_31 C ho dX10_readFirst_81 ?_
  refine s_iconst (v := 5) C (by decide) dX10_readFirst_84 ?_
  refine s_aload0 C dX10_readFirst_85 ?_
  refine s_ldcs (j := 42) (tx := "parts") C rfl dX10_readFirst_86 ?_
  refine s_iconst (v := 0) C (by decide) dX10_readFirst_88 ?_
  refine s_bipush (v := 7) C (by decide) dX10_readFirst_89 ?_
  obtain ⟨r13, M12, hq, h⟩ := bI_e h
  refine s_callV (T := TX10) (As := [.ref (aK E 42), .int (0 : Int32), .int (7 : Int32)]) (v := some (.int r13)) C rfl ho (by decide) rfl (by omega) wX10_238 rfl (Nat.le_of_ble_eq_true rfl) dX10_readFirst_91 (tX10_toldBy C.2.2.2.2.2.2.1 (by omega) ho (by decide) hq) ?_
  refine s_iast C (qX10_fresh ho) h dX10_readFirst_94 (fun h => ?_)
  exact s_vret C R h dX10_readFirst_95
set_option maxRecDepth 4000 in
theorem bX10_readSpan_76 {E : En} {X : Xc} {d : Nat} {M M' : Mem} {o : Nat} {sx0 : Int32} (C : Cx E X d cX10_readSpan RX10 2) (R : Rt E X none none M') (hd : 3 ≤ d)   (ho : kd o = (10, 0)) (h : fX10_readSpan_76  o sx0 M = some M') : At E X 76 [some (.ref (ad E o)), none] [.int sx0] M := by
  unfold fX10_readSpan_76 at h
  refine s_istore1 C rfl dX10_readSpan_76 ?_
  refine s_aload0 C dX10_readSpan_77 ?_
  refine gX10_31 C ho dX10_readSpan_78 ?_
  refine s_bipush (v := 10) C (by decide) dX10_readSpan_81 ?_
  refine s_aload0 C dX10_readSpan_83 ?_
  refine gX10_31 C ho dX10_readSpan_84 ?_
  refine s_bipush (v := 6) C (by decide) dX10_readSpan_87 ?_
  refine s_iald C (qX10_fresh ho) h dX10_readSpan_89 (fun h => ?_)
  refine s_iadd C dX10_readSpan_90 ?_
  refine s_aload0 C dX10_readSpan_91 ?_
  refine s_iload1 C dX10_readSpan_92 ?_
  refine s_bipush (v := 40) C (by decide) dX10_readSpan_93 ?_
  obtain ⟨r2, M1, hq, h⟩ := bI_e h
  refine s_callV (T := TX10) (As := [.int sx0, .int (40 : Int32)]) (v := some (.int r2)) C rfl ho (by decide) rfl (by omega) wX10_231 rfl (Nat.le_of_ble_eq_true rfl) dX10_readSpan_95 (tX10_takes C.2.2.2.2.2.2.1 (by omega) ho hq) ?_
  refine s_iast C (qX10_fresh ho) h dX10_readSpan_98 (fun h => ?_)
  refine s_aload0 C dX10_readSpan_99 ?_
  refine gX10_31 C ho dX10_readSpan_100 ?_
  refine s_bipush (v := 6) C (by decide) dX10_readSpan_103 ?_
  refine s_dup2 C rfl rfl dX10_readSpan_105 ?_
  refine s_iald C (qX10_fresh ho) h dX10_readSpan_106 (fun h => ?_)
  refine s_iconst (v := 1) C (by decide) dX10_readSpan_107 ?_
  refine s_iadd C dX10_readSpan_108 ?_
  refine s_iast C (qX10_fresh ho) h dX10_readSpan_109 (fun h => ?_)
  exact s_vret C R h dX10_readSpan_110
set_option maxRecDepth 4000 in
theorem bX10_readSpan_31 {E : En} {X : Xc} {d : Nat} {M M' : Mem} {o : Nat} (C : Cx E X d cX10_readSpan RX10 2) (R : Rt E X none none M') (hd : 3 ≤ d)   (ho : kd o = (10, 0)) (h : fX10_readSpan_31  o M = some M') : At E X 31 [some (.ref (ad E o)), none] [] M := by
  unfold fX10_readSpan_31 at h
  refine s_aload0 C dX10_readSpan_31 ?_
  obtain ⟨r2, M1, hq, h⟩ := bI_e h
  refine s_callV (T := TX10) (As := []) (v := some (.int r2)) C rfl ho (by decide) rfl (by omega) wX10_202 rfl (Nat.le_of_ble_eq_true rfl) dX10_readSpan_32 (tX10_good C.2.2.2.2.2.2.1 (by omega) ho hq) ?_
  refine s_if_ne (tgt := 39) C h dX10_readSpan_35 (by decide) ⟨fun h => ?_, fun h => ?_⟩
  · refine s_aload0 C dX10_readSpan_39 ?_
    obtain ⟨M3, hq, h⟩ := bV_e h
    refine s_callV (T := TX10) (As := []) (v := none) C rfl ho (by decide) rfl (by omega) wX10_220 rfl (Nat.le_of_ble_eq_true rfl) dX10_readSpan_40 (tX10_advance C.2.2.2.2.2.2.1 (by omega) ho hq) ?_
    refine s_aload0 C dX10_readSpan_43 ?_
    refine gX10_31 C ho dX10_readSpan_44 ?_
    refine s_bipush (v := 6) C (by decide) dX10_readSpan_47 ?_
    refine s_iald C (qX10_fresh ho) h dX10_readSpan_49 (fun h => ?_)
    refine s_if_ne (tgt := 57) C h dX10_readSpan_50 (by decide) ⟨fun h => ?_, fun h => ?_⟩
    · refine s_aload0 C dX10_readSpan_57 ?_
      refine gX10_31 C ho dX10_readSpan_58 ?_
      refine s_bipush (v := 10) C (by decide) dX10_readSpan_61 ?_
      refine s_aload0 C dX10_readSpan_63 ?_
      refine gX10_31 C ho dX10_readSpan_64 ?_
      refine s_bipush (v := 6) C (by decide) dX10_readSpan_67 ?_
      refine s_iald C (qX10_fresh ho) h dX10_readSpan_69 (fun h => ?_)
      refine s_iadd C dX10_readSpan_70 ?_
      refine s_iconst (v := 1) C (by decide) dX10_readSpan_71 ?_
      refine s_isub C dX10_readSpan_72 ?_
      refine s_iald C (qX10_fresh ho) h dX10_readSpan_73 (fun h => ?_)
      refine s_iconst (v := 1) C (by decide) dX10_readSpan_74 ?_
      refine s_iadd C dX10_readSpan_75 ?_
      exact bX10_readSpan_76 C R hd  ho h
    · refine s_iconst (v := 1) C (by decide) dX10_readSpan_53 ?_
      refine s_goto (tgt := 76) C dX10_readSpan_54 (by decide) ?_
      exact bX10_readSpan_76 C R hd  ho h
  · exact s_vret C R h dX10_readSpan_38
set_option maxRecDepth 4000 in
theorem bX10_readSpan_15 {E : En} {X : Xc} {d : Nat} {M M' : Mem} {o : Nat} (C : Cx E X d cX10_readSpan RX10 2) (R : Rt E X none none M') (hd : 3 ≤ d)   (ho : kd o = (10, 0)) (h : fX10_readSpan_15  o M = some M') : At E X 15 [some (.ref (ad E o)), none] [] M := by
  unfold fX10_readSpan_15 at h
  refine s_aload0 C dX10_readSpan_15 ?_
  refine gX10_31 C ho dX10_readSpan_16 ?_
  refine s_bipush (v := 6) C (by decide) dX10_readSpan_19 ?_
  refine s_iald C (qX10_fresh ho) h dX10_readSpan_21 (fun h => ?_)
  refine s_iconst (v := 5) C (by decide) dX10_readSpan_22 ?_
  refine s_ic_ne (tgt := 31) C h dX10_readSpan_23 (by decide) ⟨fun h => ?_, fun h => ?_⟩
  · exact bX10_readSpan_31 C R hd  ho h
  · refine s_aload0 C dX10_readSpan_26 ?_
    refine s_iconst (v := 3) C (by decide) dX10_readSpan_27 ?_
    obtain ⟨M1, hq, h⟩ := bV_e h
    refine s_callV (T := TX10) (As := [.int (3 : Int32)]) (v := none) C rfl ho (by decide) rfl (by omega) wX10_223 rfl (Nat.le_of_ble_eq_true rfl) dX10_readSpan_28 (tX10_errs C.2.2.2.2.2.2.1 (by omega) ho hq) ?_
    exact bX10_readSpan_31 C R hd  ho h
set_option maxRecDepth 4000 in
theorem tX10_readSpan {l : Launch} {E : En} {A : Nat → Prop} {d : Nat} {M M' : Mem} {o : Nat} (hE : Okk E A) (hd : 3 ≤ d) (ho : kd o = (10, 0)) (h : fX10_readSpan o M = some M') : Ct l E A d yX10_readSpan cX10_readSpan 2 none [.ref (ad E o)] M none M' := by
  refine Ct.mk (ls := [some (.ref (ad E o)), none]) hE (by decide +kernel) rfl (Nat.le_of_ble_eq_true rfl) (fun X hXl hXA C R => ?_)
  subst hXl; subst hXA
  unfold fX10_readSpan at h
  refine s_aload0 C dX10_readSpan_0 ?_
  refine gX10_31 C ho dX10_readSpan_1 ?_
  refine s_bipush (v := 7) C (by decide) dX10_readSpan_4 ?_
  refine s_iald C (qX10_fresh ho) h dX10_readSpan_6 (fun h => ?_)
  refine s_if_le (tgt := 15) C h dX10_readSpan_7 (by decide) ⟨fun h => ?_, fun h => ?_⟩
  · exact bX10_readSpan_15 C R hd  ho h
  · refine s_aload0 C dX10_readSpan_10 ?_
    refine s_iconst (v := 1) C (by decide) dX10_readSpan_11 ?_
    obtain ⟨M1, hq, h⟩ := bV_e h
    refine s_callV (T := TX10) (As := [.int (1 : Int32)]) (v := none) C rfl ho (by decide) rfl (by omega) wX10_223 rfl (Nat.le_of_ble_eq_true rfl) dX10_readSpan_12 (tX10_errs C.2.2.2.2.2.2.1 (by omega) ho hq) ?_
    exact bX10_readSpan_15 C R hd  ho h
set_option maxRecDepth 4000 in
theorem bX10_kindRead_2 {E : En} {X : Xc} {d : Nat} {r : Int32} {M' : Mem} (C : Cx E X d cX10_kindRead RX10 2) (R : Rt E X (some .int) (some (.int r)) M') (hd : 6 ≤ d)   : ∀ (n : Nat) (o : Nat) (x1 : Int32) (M : Mem) (_ : kd o = (10, 0)), fX10_kindRead_2  n o x1 M = some (r, M') → At E X 2 [some (.ref (ad E o)), some (.int x1)] [] M := by
  intro n
  induction n with
  | zero => intro o x1 M ho h; rw [fX10_kindRead_2] at h; cases h
  | succ n ih =>
    intro o x1 M ho h
    rw [fX10_kindRead_2] at h
    refine s_iload1 C dX10_kindRead_2 ?_
    refine s_bipush (v := 10) C (by decide) dX10_kindRead_3 ?_
    refine s_ic_gt (tgt := 27) C h dX10_kindRead_5 (by decide) ⟨fun h => ?_, fun h => ?_⟩
    · refine s_iconst (v := -1) C (by decide) dX10_kindRead_27 ?_
      exact s_iret C R h dX10_kindRead_28
    · refine s_aload0 C dX10_kindRead_8 ?_
      refine s_iload1 C dX10_kindRead_9 ?_
      obtain ⟨r2, M1, hq, h⟩ := bS_e h
      have hsr2 := sb_X10_wordOf hq
      refine s_callS (As := [.int x1]) (v := some (.ref (aK E r2))) C rfl (by omega) wX10_252 rfl (Nat.le_of_ble_eq_true rfl) dX10_kindRead_10 (tX10_wordOf C.2.2.2.2.2.2.1 (by omega)  hq) ?_
      obtain ⟨r4, M3, hq, h⟩ := bI_e h
      refine s_callV (T := TX10) (As := [.ref (aK E r2)]) (v := some (.int r4)) C rfl ho (by decide) rfl (by omega) wX10_216 rfl (Nat.le_of_ble_eq_true rfl) dX10_kindRead_13 (tX10_is C.2.2.2.2.2.2.1 (by omega) ho hsr2 hq) ?_
      refine s_if_eq (tgt := 21) C h dX10_kindRead_16 (by decide) ⟨fun h => ?_, fun h => ?_⟩
      · refine s_iinc1 (v := 1) C rfl dX10_kindRead_21 (by decide) ?_
        refine s_goto (tgt := 2) C dX10_kindRead_24 (by decide) ?_
        exact ih _ _ _ ho h
      · refine s_iload1 C dX10_kindRead_19 ?_
        exact s_iret C R h dX10_kindRead_20
set_option maxRecDepth 4000 in
theorem tX10_kindRead {l : Launch} {E : En} {A : Nat → Prop} {d : Nat} {r : Int32} {M M' : Mem} {o : Nat} (hE : Okk E A) (hd : 6 ≤ d) (ho : kd o = (10, 0)) (h : fX10_kindRead o M = some (r, M')) : Ct l E A d yX10_kindRead cX10_kindRead 2 (some .int) [.ref (ad E o)] M (some (.int r)) M' := by
  refine Ct.mk (ls := [some (.ref (ad E o)), none]) hE (by decide +kernel) rfl (Nat.le_of_ble_eq_true rfl) (fun X hXl hXA C R => ?_)
  subst hXl; subst hXA
  unfold fX10_kindRead at h
  refine s_iconst (v := 0) C (by decide) dX10_kindRead_0 ?_
  refine s_istore1 C rfl dX10_kindRead_1 ?_
  exact bX10_kindRead_2 C R hd  LF _ _ _ ho h
set_option maxRecDepth 4000 in
theorem bX10_readOp_102 {E : En} {X : Xc} {d : Nat} {M M' : Mem} {o : Nat} {x1 : Int32} {x2 : Int32} {x3 : Int32} {sc0 : Nat} {sx1 : Int32} {sx2 : Int32} (C : Cx E X d cX10_readOp RX10 4) (R : Rt E X none none M') (hd : 7 ≤ d) {k66 : Nat → Int32 → Int32 → Int32 → Mem → Option (Mem)} (hk66 : ∀ (o : Nat) (x1 : Int32) (x2 : Int32) (x3 : Int32) (M : Mem) (_ : kd o = (10, 0)), k66 o x1 x2 x3 M = some M' → At E X 66 [some (.ref (ad E o)), some (.int x1), some (.int x2), some (.int x3)] [] M) (ho : kd o = (10, 0)) (hsc0 : kd sc0 = (20, 215)) (h : fX10_readOp_102 k66 o x1 x2 x3 sc0 sx1 sx2 M = some M') : At E X 102 [some (.ref (ad E o)), some (.int x1), some (.int x2), some (.int x3)] [.int sx2, .int sx1, .ref (ad E sc0)] M := by
  unfold fX10_readOp_102 at h
  refine s_iast C hsc0 h dX10_readOp_102 (fun h => ?_)
  refine s_iinc3 (v := 1) C rfl dX10_readOp_103 (by decide) ?_
  refine s_goto (tgt := 66) C dX10_readOp_106 (by decide) ?_
  exact hk66 _ _ _ _ _ ho h
set_option maxRecDepth 4000 in
theorem bX10_readOp_66 {E : En} {X : Xc} {d : Nat} {M' : Mem} (C : Cx E X d cX10_readOp RX10 4) (R : Rt E X none none M') (hd : 7 ≤ d)   : ∀ (n : Nat) (o : Nat) (x1 : Int32) (x2 : Int32) (x3 : Int32) (M : Mem) (_ : kd o = (10, 0)), fX10_readOp_66  n o x1 x2 x3 M = some M' → At E X 66 [some (.ref (ad E o)), some (.int x1), some (.int x2), some (.int x3)] [] M := by
  intro n
  induction n with
  | zero => intro o x1 x2 x3 M ho h; rw [fX10_readOp_66] at h; cases h
  | succ n ih =>
    intro o x1 x2 x3 M ho h
    rw [fX10_readOp_66] at h
    refine s_iload3 C dX10_readOp_66 ?_
    refine s_iconst (v := 3) C (by decide) dX10_readOp_67 ?_
    refine s_ic_ge (tgt := 109) C h dX10_readOp_68 (by decide) ⟨fun h => ?_, fun h => ?_⟩
    · refine s_aload0 C dX10_readOp_109 ?_
      refine gX10_31 C ho dX10_readOp_110 ?_
      refine s_bipush (v := 7) C (by decide) dX10_readOp_113 ?_
      refine s_dup2 C rfl rfl dX10_readOp_115 ?_
      refine s_iald C (qX10_fresh ho) h dX10_readOp_116 (fun h => ?_)
      refine s_iconst (v := 1) C (by decide) dX10_readOp_117 ?_
      refine s_iadd C dX10_readOp_118 ?_
      refine s_iast C (qX10_fresh ho) h dX10_readOp_119 (fun h => ?_)
      exact s_vret C R h dX10_readOp_120
    · refine s_aload0 C dX10_readOp_71 ?_
      refine gX10_31 C ho dX10_readOp_72 ?_
      refine s_iload2 C dX10_readOp_75 ?_
      refine s_iconst (v := 1) C (by decide) dX10_readOp_76 ?_
      refine s_iadd C dX10_readOp_77 ?_
      refine s_iload3 C dX10_readOp_78 ?_
      refine s_iadd C dX10_readOp_79 ?_
      refine s_iload3 C dX10_readOp_80 ?_
      refine s_iload1 C dX10_readOp_81 ?_
      obtain ⟨r2, M1, hq, h⟩ := bI_e h
      refine s_callS (As := [.int x1]) (v := some (.int r2)) C rfl (by omega) wX10_143 rfl (Nat.le_of_ble_eq_true rfl) dX10_readOp_82 (tX10_numbersOf C.2.2.2.2.2.2.1 (by omega)  hq) ?_
      refine s_ic_ge (tgt := 101) C h dX10_readOp_85 (by decide) ⟨fun h => ?_, fun h => ?_⟩
      · refine s_iconst (v := -1) C (by decide) dX10_readOp_101 ?_
        exact bX10_readOp_102 C R hd (ih) ho (qX10_fresh ho) h
      · refine s_aload0 C dX10_readOp_88 ?_
        refine s_iconst (v := 0) C (by decide) dX10_readOp_89 ?_
        refine s_iload1 C dX10_readOp_90 ?_
        refine s_iload3 C dX10_readOp_91 ?_
        obtain ⟨r4, M3, hq, h⟩ := bI_e h
        refine s_callS (As := [.int x1, .int x3]) (v := some (.int r4)) C rfl (by omega) wX10_259 rfl (Nat.le_of_ble_eq_true rfl) dX10_readOp_92 (tX10_highOf C.2.2.2.2.2.2.1 (by omega)  hq) ?_
        obtain ⟨r6, M5, hq, h⟩ := bI_e h
        refine s_callV (T := TX10) (As := [.int (0 : Int32), .int r4]) (v := some (.int r6)) C rfl ho (by decide) rfl (by omega) wX10_231 rfl (Nat.le_of_ble_eq_true rfl) dX10_readOp_95 (tX10_takes C.2.2.2.2.2.2.1 (by omega) ho hq) ?_
        refine s_goto (tgt := 102) C dX10_readOp_98 (by decide) ?_
        exact bX10_readOp_102 C R hd (ih) ho (qX10_fresh ho) h
set_option maxRecDepth 4000 in
theorem bX10_readOp_32 {E : En} {X : Xc} {d : Nat} {M M' : Mem} {o : Nat} {x1 : Int32} (C : Cx E X d cX10_readOp RX10 4) (R : Rt E X none none M') (hd : 7 ≤ d)   (ho : kd o = (10, 0)) (h : fX10_readOp_32  o x1 M = some M') : At E X 32 [some (.ref (ad E o)), some (.int x1), none, none] [] M := by
  unfold fX10_readOp_32 at h
  refine s_aload0 C dX10_readOp_32 ?_
  obtain ⟨r2, M1, hq, h⟩ := bI_e h
  refine s_callV (T := TX10) (As := []) (v := some (.int r2)) C rfl ho (by decide) rfl (by omega) wX10_202 rfl (Nat.le_of_ble_eq_true rfl) dX10_readOp_33 (tX10_good C.2.2.2.2.2.2.1 (by omega) ho hq) ?_
  refine s_if_ne (tgt := 40) C h dX10_readOp_36 (by decide) ⟨fun h => ?_, fun h => ?_⟩
  · refine s_aload0 C dX10_readOp_40 ?_
    obtain ⟨M3, hq, h⟩ := bV_e h
    refine s_callV (T := TX10) (As := []) (v := none) C rfl ho (by decide) rfl (by omega) wX10_220 rfl (Nat.le_of_ble_eq_true rfl) dX10_readOp_41 (tX10_advance C.2.2.2.2.2.2.1 (by omega) ho hq) ?_
    refine s_bipush (v := 15) C (by decide) dX10_readOp_44 ?_
    refine s_iconst (v := 4) C (by decide) dX10_readOp_46 ?_
    refine s_aload0 C dX10_readOp_47 ?_
    refine gX10_31 C ho dX10_readOp_48 ?_
    refine s_bipush (v := 7) C (by decide) dX10_readOp_51 ?_
    refine s_iald C (qX10_fresh ho) h dX10_readOp_53 (fun h => ?_)
    refine s_imul C dX10_readOp_54 ?_
    refine s_iadd C dX10_readOp_55 ?_
    refine s_istore2 C rfl dX10_readOp_56 ?_
    refine s_aload0 C dX10_readOp_57 ?_
    refine gX10_31 C ho dX10_readOp_58 ?_
    refine s_iload2 C dX10_readOp_61 ?_
    refine s_iload1 C dX10_readOp_62 ?_
    refine s_iast C (qX10_fresh ho) h dX10_readOp_63 (fun h => ?_)
    refine s_iconst (v := 0) C (by decide) dX10_readOp_64 ?_
    refine s_istore3 C rfl dX10_readOp_65 ?_
    exact bX10_readOp_66 C R hd  LF _ _ _ _ _ ho h
  · exact s_vret C R h dX10_readOp_39
set_option maxRecDepth 4000 in
theorem bX10_readOp_15 {E : En} {X : Xc} {d : Nat} {M M' : Mem} {o : Nat} {x1 : Int32} (C : Cx E X d cX10_readOp RX10 4) (R : Rt E X none none M') (hd : 7 ≤ d)   (ho : kd o = (10, 0)) (h : fX10_readOp_15  o x1 M = some M') : At E X 15 [some (.ref (ad E o)), some (.int x1), none, none] [] M := by
  unfold fX10_readOp_15 at h
  refine s_aload0 C dX10_readOp_15 ?_
  refine gX10_31 C ho dX10_readOp_16 ?_
  refine s_bipush (v := 7) C (by decide) dX10_readOp_19 ?_
  refine s_iald C (qX10_fresh ho) h dX10_readOp_21 (fun h => ?_)
  refine s_bipush (v := 40) C (by decide) dX10_readOp_22 ?_
  refine s_ic_ne (tgt := 32) C h dX10_readOp_24 (by decide) ⟨fun h => ?_, fun h => ?_⟩
  · exact bX10_readOp_32 C R hd  ho h
  · refine s_aload0 C dX10_readOp_27 ?_
    refine s_iconst (v := 3) C (by decide) dX10_readOp_28 ?_
    obtain ⟨M1, hq, h⟩ := bV_e h
    refine s_callV (T := TX10) (As := [.int (3 : Int32)]) (v := none) C rfl ho (by decide) rfl (by omega) wX10_223 rfl (Nat.le_of_ble_eq_true rfl) dX10_readOp_29 (tX10_errs C.2.2.2.2.2.2.1 (by omega) ho hq) ?_
    exact bX10_readOp_32 C R hd  ho h
set_option maxRecDepth 4000 in
theorem tX10_readOp {l : Launch} {E : En} {A : Nat → Prop} {d : Nat} {M M' : Mem} {o : Nat} (hE : Okk E A) (hd : 7 ≤ d) (ho : kd o = (10, 0)) (h : fX10_readOp o M = some M') : Ct l E A d yX10_readOp cX10_readOp 4 none [.ref (ad E o)] M none M' := by
  refine Ct.mk (ls := [some (.ref (ad E o)), none, none, none]) hE (by decide +kernel) rfl (Nat.le_of_ble_eq_true rfl) (fun X hXl hXA C R => ?_)
  subst hXl; subst hXA
  unfold fX10_readOp at h
  refine s_aload0 C dX10_readOp_0 ?_
  obtain ⟨r2, M1, hq, h⟩ := bI_e h
  refine s_callV (T := TX10) (As := []) (v := some (.int r2)) C rfl ho (by decide) rfl (by omega) wX10_256 rfl (Nat.le_of_ble_eq_true rfl) dX10_readOp_1 (tX10_kindRead C.2.2.2.2.2.2.1 (by omega) ho hq) ?_
  refine s_istore1 C rfl dX10_readOp_4 ?_
  refine s_iload1 C dX10_readOp_5 ?_
  refine s_iconst (v := -1) C (by decide) dX10_readOp_6 ?_
  refine s_ic_ne (tgt := 15) C h dX10_readOp_7 (by decide) ⟨fun h => ?_, fun h => ?_⟩
  · exact bX10_readOp_15 C R hd  ho h
  · refine s_aload0 C dX10_readOp_10 ?_
    refine s_iconst (v := 1) C (by decide) dX10_readOp_11 ?_
    obtain ⟨M3, hq, h⟩ := bV_e h
    refine s_callV (T := TX10) (As := [.int (1 : Int32)]) (v := none) C rfl ho (by decide) rfl (by omega) wX10_223 rfl (Nat.le_of_ble_eq_true rfl) dX10_readOp_12 (tX10_errs C.2.2.2.2.2.2.1 (by omega) ho hq) ?_
    exact bX10_readOp_15 C R hd  ho h
set_option maxRecDepth 4000 in
theorem bX10_readText_69 {E : En} {X : Xc} {d : Nat} {M M' : Mem} {o : Nat} (C : Cx E X d cX10_readText RX10 1) (R : Rt E X none none M') (hd : 9 ≤ d)   (ho : kd o = (10, 0)) (h : fX10_readText_69  o M = some M') : At E X 69 [some (.ref (ad E o))] [] M := by
  unfold fX10_readText_69 at h
  refine s_aload0 C dX10_readText_69 ?_
  refine gX10_31 C ho dX10_readText_70 ?_
  refine s_bipush (v := 9) C (by decide) dX10_readText_73 ?_
  refine s_dup2 C rfl rfl dX10_readText_75 ?_
  refine s_iald C (qX10_fresh ho) h dX10_readText_76 (fun h => ?_)
  refine s_iconst (v := 1) C (by decide) dX10_readText_77 ?_
  refine s_iadd C dX10_readText_78 ?_
  refine s_iast C (qX10_fresh ho) h dX10_readText_79 (fun h => ?_)
  exact s_vret C R h dX10_readText_80
set_option maxRecDepth 4000 in
theorem bX10_readText_58 {E : En} {X : Xc} {d : Nat} {M M' : Mem} {o : Nat} (C : Cx E X d cX10_readText RX10 1) (R : Rt E X none none M') (hd : 9 ≤ d)   (ho : kd o = (10, 0)) (h : fX10_readText_58  o M = some M') : At E X 58 [some (.ref (ad E o))] [] M := by
  unfold fX10_readText_58 at h
  refine s_aload0 C dX10_readText_58 ?_
  obtain ⟨r2, M1, hq, h⟩ := bI_e h
  refine s_callV (T := TX10) (As := []) (v := some (.int r2)) C rfl ho (by decide) rfl (by omega) wX10_202 rfl (Nat.le_of_ble_eq_true rfl) dX10_readText_59 (tX10_good C.2.2.2.2.2.2.1 (by omega) ho hq) ?_
  refine s_if_eq (tgt := 69) C h dX10_readText_62 (by decide) ⟨fun h => ?_, fun h => ?_⟩
  · exact bX10_readText_69 C R hd  ho h
  · refine s_aload0 C dX10_readText_65 ?_
    obtain ⟨M3, hq, h⟩ := bV_e h
    refine s_callV (T := TX10) (As := []) (v := none) C rfl ho (by decide) rfl (by omega) wX10_220 rfl (Nat.le_of_ble_eq_true rfl) dX10_readText_66 (tX10_advance C.2.2.2.2.2.2.1 (by omega) ho hq) ?_
    exact bX10_readText_69 C R hd  ho h
set_option maxRecDepth 4000 in
theorem bX10_readText_38 {E : En} {X : Xc} {d : Nat} {M M' : Mem} {o : Nat} (C : Cx E X d cX10_readText RX10 1) (R : Rt E X none none M') (hd : 9 ≤ d)   (ho : kd o = (10, 0)) (h : fX10_readText_38  o M = some M') : At E X 38 [some (.ref (ad E o))] [] M := by
  unfold fX10_readText_38 at h
  refine s_aload0 C dX10_readText_38 ?_
  obtain ⟨r2, M1, hq, h⟩ := bI_e h
  refine s_callV (T := TX10) (As := []) (v := some (.int r2)) C rfl ho (by decide) rfl (by omega) wX10_202 rfl (Nat.le_of_ble_eq_true rfl) dX10_readText_39 (tX10_good C.2.2.2.2.2.2.1 (by omega) ho hq) ?_
  refine s_if_eq (tgt := 58) C h dX10_readText_42 (by decide) ⟨fun h => ?_, fun h => ?_⟩
  · exact bX10_readText_58 C R hd  ho h
  · refine s_aload0 C dX10_readText_45 ?_
    refine gX10_184 C ho dX10_readText_46 ?_
    refine s_iconst (v := 3) C (by decide) dX10_readText_49 ?_
    refine s_ic_eq (tgt := 58) C h dX10_readText_50 (by decide) ⟨fun h => ?_, fun h => ?_⟩
    · exact bX10_readText_58 C R hd  ho h
    · refine s_aload0 C dX10_readText_53 ?_
      refine s_iconst (v := 1) C (by decide) dX10_readText_54 ?_
      obtain ⟨M3, hq, h⟩ := bV_e h
      refine s_callV (T := TX10) (As := [.int (1 : Int32)]) (v := none) C rfl ho (by decide) rfl (by omega) wX10_223 rfl (Nat.le_of_ble_eq_true rfl) dX10_readText_55 (tX10_errs C.2.2.2.2.2.2.1 (by omega) ho hq) ?_
      exact bX10_readText_58 C R hd  ho h
set_option maxRecDepth 4000 in
theorem tX10_readText {l : Launch} {E : En} {A : Nat → Prop} {d : Nat} {M M' : Mem} {o : Nat} (hE : Okk E A) (hd : 9 ≤ d) (ho : kd o = (10, 0)) (h : fX10_readText o M = some M') : Ct l E A d yX10_readText cX10_readText 1 none [.ref (ad E o)] M none M' := by
  refine Ct.mk (ls := [some (.ref (ad E o))]) hE (by decide +kernel) rfl (Nat.le_of_ble_eq_true rfl) (fun X hXl hXA C R => ?_)
  subst hXl; subst hXA
  unfold fX10_readText at h
  refine s_aload0 C dX10_readText_0 ?_
  refine gX10_31 C ho dX10_readText_1 ?_
  refine s_bipush (v := 9) C (by decide) dX10_readText_4 ?_
  refine s_iald C (qX10_fresh ho) h dX10_readText_6 (fun h => ?_)
  refine s_if_ne (tgt := 17) C h dX10_readText_7 (by decide) ⟨fun h => ?_, fun h => ?_⟩
  · refine s_aload0 C dX10_readText_17 ?_
    refine s_ldcsw (j := 43) (tx := "span") C rfl dX10_readText_18 ?_
    obtain ⟨r2, M1, hq, h⟩ := bI_e h
    refine s_callV (T := TX10) (As := [.ref (aK E 43)]) (v := some (.int r2)) C rfl ho (by decide) rfl (by omega) wX10_216 rfl (Nat.le_of_ble_eq_true rfl) dX10_readText_21 (tX10_is C.2.2.2.2.2.2.1 (by omega) ho (by decide) hq) ?_
    refine s_if_eq (tgt := 34) C h dX10_readText_24 (by decide) ⟨fun h => ?_, fun h => ?_⟩
    · refine s_aload0 C dX10_readText_34 ?_
      obtain ⟨M3, hq, h⟩ := bV_e h
      refine s_callV (T := TX10) (As := []) (v := none) C rfl ho (by decide) rfl (by omega) wX10_270 rfl (Nat.le_of_ble_eq_true rfl) dX10_readText_35 (tX10_readOp C.2.2.2.2.2.2.1 (by omega) ho hq) ?_
      exact bX10_readText_38 C R hd  ho h
    · refine s_aload0 C dX10_readText_27 ?_
      obtain ⟨M4, hq, h⟩ := bV_e h
      refine s_callV (T := TX10) (As := []) (v := none) C rfl ho (by decide) rfl (by omega) wX10_267 rfl (Nat.le_of_ble_eq_true rfl) dX10_readText_28 (tX10_readSpan C.2.2.2.2.2.2.1 (by omega) ho hq) ?_
      refine s_goto (tgt := 38) C dX10_readText_31 (by decide) ?_
      exact bX10_readText_38 C R hd  ho h
  · refine s_aload0 C dX10_readText_10 ?_
    obtain ⟨M5, hq, h⟩ := bV_e h
    refine s_callV (T := TX10) (As := []) (v := none) C rfl ho (by decide) rfl (by omega) wX10_262 rfl (Nat.le_of_ble_eq_true rfl) dX10_readText_11 (tX10_readFirst C.2.2.2.2.2.2.1 (by omega) ho hq) ?_
    refine s_goto (tgt := 38) C dX10_readText_14 (by decide) ?_
    exact bX10_readText_38 C R hd  ho h
set_option maxRecDepth 4000 in
theorem bX10_program_87 {E : En} {X : Xc} {d : Nat} {r : Int32} {M' : Mem} (C : Cx E X d cX10_program RX10 2) (R : Rt E X (some .int) (some (.int r)) M') (hd : 10 ≤ d)   : ∀ (n : Nat) (o : Nat) (x1 : Int32) (M : Mem) (_ : kd o = (10, 0)), fX10_program_87  n o x1 M = some (r, M') → At E X 87 [some (.ref (ad E o)), some (.int x1)] [] M := by
  intro n
  induction n with
  | zero => intro o x1 M ho h; rw [fX10_program_87] at h; cases h
  | succ n ih =>
    intro o x1 M ho h
    rw [fX10_program_87] at h
    refine s_iload1 C dX10_program_87 ?_
    refine s_sipush (v := 215) C (by decide) dX10_program_88 ?_
    refine s_ic_ge (tgt := 112) C h dX10_program_91 (by decide) ⟨fun h => ?_, fun h => ?_⟩
    · refine s_aload0 C dX10_program_112 ?_
      refine gX10_9 C ho dX10_program_113 ?_
      refine s_bipush (v := 9) C (by decide) dX10_program_116 ?_
      refine s_iald C (qX10_world ho) h dX10_program_118 (fun h => ?_)
      exact s_iret C R h dX10_program_119
    · refine s_aload0 C dX10_program_94 ?_
      refine gX10_9 C ho dX10_program_95 ?_
      refine s_iload1 C dX10_program_98 ?_
      refine s_aload0 C dX10_program_99 ?_
      refine gX10_31 C ho dX10_program_100 ?_
      refine s_iload1 C dX10_program_103 ?_
      refine s_iald C (qX10_fresh ho) h dX10_program_104 (fun h => ?_)
      refine s_iast C (qX10_world ho) h dX10_program_105 (fun h => ?_)
      refine s_iinc1 (v := 1) C rfl dX10_program_106 (by decide) ?_
      refine s_goto (tgt := 87) C dX10_program_109 (by decide) ?_
      exact ih _ _ _ ho h
set_option maxRecDepth 4000 in
theorem bX10_program_75 {E : En} {X : Xc} {d : Nat} {r : Int32} {M M' : Mem} {o : Nat} (C : Cx E X d cX10_program RX10 2) (R : Rt E X (some .int) (some (.int r)) M') (hd : 10 ≤ d)   (ho : kd o = (10, 0)) (h : fX10_program_75  o M = some (r, M')) : At E X 75 [some (.ref (ad E o)), none] [] M := by
  unfold fX10_program_75 at h
  refine s_aload0 C dX10_program_75 ?_
  obtain ⟨r2, M1, hq, h⟩ := bI_e h
  refine s_callV (T := TX10) (As := []) (v := some (.int r2)) C rfl ho (by decide) rfl (by omega) wX10_202 rfl (Nat.le_of_ble_eq_true rfl) dX10_program_76 (tX10_good C.2.2.2.2.2.2.1 (by omega) ho hq) ?_
  refine s_if_ne (tgt := 85) C h dX10_program_79 (by decide) ⟨fun h => ?_, fun h => ?_⟩
  · refine s_iconst (v := 0) C (by decide) dX10_program_85 ?_
    refine s_istore1 C rfl dX10_program_86 ?_
    exact bX10_program_87 C R hd  LF _ _ _ ho h
  · refine s_bipush (v := -4) C (by decide) dX10_program_82 ?_
    exact s_iret C R h dX10_program_84
set_option maxRecDepth 4000 in
theorem bX10_program_54 {E : En} {X : Xc} {d : Nat} {r : Int32} {M' : Mem} (C : Cx E X d cX10_program RX10 2) (R : Rt E X (some .int) (some (.int r)) M') (hd : 10 ≤ d)   : ∀ (n : Nat) (o : Nat) (M : Mem) (_ : kd o = (10, 0)), fX10_program_54  n o M = some (r, M') → At E X 54 [some (.ref (ad E o)), none] [] M := by
  intro n
  induction n with
  | zero => intro o M ho h; rw [fX10_program_54] at h; cases h
  | succ n ih =>
    intro o M ho h
    rw [fX10_program_54] at h
    refine s_aload0 C dX10_program_54 ?_
    obtain ⟨r2, M1, hq, h⟩ := bI_e h
    refine s_callV (T := TX10) (As := []) (v := some (.int r2)) C rfl ho (by decide) rfl (by omega) wX10_202 rfl (Nat.le_of_ble_eq_true rfl) dX10_program_55 (tX10_good C.2.2.2.2.2.2.1 (by omega) ho hq) ?_
    refine s_if_eq (tgt := 75) C h dX10_program_58 (by decide) ⟨fun h => ?_, fun h => ?_⟩
    · exact bX10_program_75 C R hd  ho h
    · refine s_aload0 C dX10_program_61 ?_
      refine gX10_184 C ho dX10_program_62 ?_
      refine s_if_eq (tgt := 75) C h dX10_program_65 (by decide) ⟨fun h => ?_, fun h => ?_⟩
      · exact bX10_program_75 C R hd  ho h
      · refine s_aload0 C dX10_program_68 ?_
        obtain ⟨M3, hq, h⟩ := bV_e h
        refine s_callV (T := TX10) (As := []) (v := none) C rfl ho (by decide) rfl (by omega) wX10_273 rfl (Nat.le_of_ble_eq_true rfl) dX10_program_69 (tX10_readText C.2.2.2.2.2.2.1 (by omega) ho hq) ?_
        refine s_goto (tgt := 54) C dX10_program_72 (by decide) ?_
        exact ih _ _ ho h
set_option maxRecDepth 4000 in
theorem bX10_program_30 {E : En} {X : Xc} {d : Nat} {r : Int32} {M' : Mem} (C : Cx E X d cX10_program RX10 2) (R : Rt E X (some .int) (some (.int r)) M') (hd : 10 ≤ d)   : ∀ (n : Nat) (o : Nat) (x1 : Int32) (M : Mem) (_ : kd o = (10, 0)), fX10_program_30  n o x1 M = some (r, M') → At E X 30 [some (.ref (ad E o)), some (.int x1)] [] M := by
  intro n
  induction n with
  | zero => intro o x1 M ho h; rw [fX10_program_30] at h; cases h
  | succ n ih =>
    intro o x1 M ho h
    rw [fX10_program_30] at h
    refine s_iload1 C dX10_program_30 ?_
    refine s_sipush (v := 215) C (by decide) dX10_program_31 ?_
    refine s_ic_ge (tgt := 50) C h dX10_program_34 (by decide) ⟨fun h => ?_, fun h => ?_⟩
    · refine s_aload0 C dX10_program_50 ?_
      obtain ⟨M1, hq, h⟩ := bV_e h
      refine s_callV (T := TX10) (As := []) (v := none) C rfl ho (by decide) rfl (by omega) wX10_220 rfl (Nat.le_of_ble_eq_true rfl) dX10_program_51 (tX10_advance C.2.2.2.2.2.2.1 (by omega) ho hq) ?_
      refine s_fg 1 ?_
      exact bX10_program_54 C R hd  LF _ _ ho h
    · refine s_aload0 C dX10_program_37 ?_
      refine gX10_31 C ho dX10_program_38 ?_
      refine s_iload1 C dX10_program_41 ?_
      refine s_iconst (v := 0) C (by decide) dX10_program_42 ?_
      refine s_iast C (qX10_fresh ho) h dX10_program_43 (fun h => ?_)
      refine s_iinc1 (v := 1) C rfl dX10_program_44 (by decide) ?_
      refine s_goto (tgt := 30) C dX10_program_47 (by decide) ?_
      exact ih _ _ _ ho h
set_option maxRecDepth 4000 in
theorem tX10_program {l : Launch} {E : En} {A : Nat → Prop} {d : Nat} {r : Int32} {M M' : Mem} {o : Nat} (hE : Okk E A) (hd : 10 ≤ d) (ho : kd o = (10, 0)) (h : fX10_program o M = some (r, M')) : Ct l E A d yX10_program cX10_program 2 (some .int) [.ref (ad E o)] M (some (.int r)) M' := by
  refine Ct.mk (ls := [some (.ref (ad E o)), none]) hE (by decide +kernel) rfl (Nat.le_of_ble_eq_true rfl) (fun X hXl hXA C R => ?_)
  subst hXl; subst hXA
  unfold fX10_program at h
  refine s_aload0 C dX10_program_0 ?_
  refine s_aload0 C dX10_program_1 ?_
  refine gX10_169 C ho dX10_program_2 ?_
  refine pX10_172 C ho dX10_program_5 ?_
  refine s_aload0 C dX10_program_8 ?_
  refine s_iconst (v := 0) C (by decide) dX10_program_9 ?_
  refine pX10_169 C ho dX10_program_10 ?_
  refine s_aload0 C dX10_program_13 ?_
  refine s_iconst (v := 0) C (by decide) dX10_program_14 ?_
  refine pX10_175 C ho dX10_program_15 ?_
  refine s_aload0 C dX10_program_18 ?_
  refine s_iconst (v := 0) C (by decide) dX10_program_19 ?_
  refine pX10_199 C ho dX10_program_20 ?_
  refine s_aload0 C dX10_program_23 ?_
  refine s_iconst (v := -1) C (by decide) dX10_program_24 ?_
  refine pX10_27 C ho dX10_program_25 ?_
  refine s_iconst (v := 0) C (by decide) dX10_program_28 ?_
  refine s_istore1 C rfl dX10_program_29 ?_
  exact bX10_program_30 C R hd  LF _ _ _ ho h
set_option maxRecDepth 4000 in
theorem tX10_modulo {l : Launch} {E : En} {A : Nat → Prop} {d : Nat} {r : Int32} {M M' : Mem} {x0 : Int32} (hE : Okk E A) (hd : 0 ≤ d)  (h : fX10_modulo x0 M = some (r, M')) : Ct l E A d yX10_modulo cX10_modulo 1 (some .int) [.int x0] M (some (.int r)) M' := by
  refine Ct.mk (ls := [some (.int x0)]) hE (by decide +kernel) rfl (Nat.le_of_ble_eq_true rfl) (fun X hXl hXA C R => ?_)
  subst hXl; subst hXA
  unfold fX10_modulo at h
  refine s_iload0 C dX10_modulo_0 ?_
  refine s_sipush (v := 1000) C (by decide) dX10_modulo_1 ?_
  refine s_iadd C dX10_modulo_4 ?_
  refine s_sipush (v := 1000) C (by decide) dX10_modulo_5 ?_
  refine s_iremc C (by decide) dX10_modulo_8 ?_
  exact s_iret C R h dX10_modulo_9
set_option maxRecDepth 4000 in
theorem tX10_obey {l : Launch} {E : En} {A : Nat → Prop} {d : Nat} {M M' : Mem} {x0 : Int32} {x1 : Int32} {x2 : Int32} {c3 : Nat} {x4 : Int32} (hE : Okk E A) (hd : 1 ≤ d) (hc3 : kd c3 = (20, (kd c3).2)) (h : fX10_obey x0 x1 x2 c3 x4 M = some M') : Ct l E A d yX10_obey cX10_obey 5 none [.int x0, .int x1, .int x2, .ref (ad E c3), .int x4] M none M' := by
  refine Ct.mk (ls := [some (.int x0), some (.int x1), some (.int x2), some (.ref (ad E c3)), some (.int x4)]) hE (by decide +kernel) rfl (Nat.le_of_ble_eq_true rfl) (fun X hXl hXA C R => ?_)
  subst hXl; subst hXA
  unfold fX10_obey at h
  refine s_iload0 C dX10_obey_0 ?_
  rcases if_e h with ⟨e, h⟩ | ⟨e0, h⟩
  · refine s_tin (j := 0) (tgt := 36) C dX10_obey_1 (by rw [e]; decide) (by decide) rfl (by decide) ?_
    refine s_aload3 C dX10_obey_36 ?_
    refine s_iload4 C dX10_obey_37 ?_
    refine s_iload1 C dX10_obey_39 ?_
    refine s_iadd C dX10_obey_40 ?_
    refine s_iload2 C dX10_obey_41 ?_
    refine s_iast C hc3 h dX10_obey_42 (fun h => ?_)
    refine s_goto (tgt := 148) C dX10_obey_43 (by decide) ?_
    exact s_vret C R h dX10_obey_148
  rcases if_e h with ⟨e, h⟩ | ⟨e1, h⟩
  · refine s_tin (j := 1) (tgt := 46) C dX10_obey_1 (by rw [e]; decide) (by decide) rfl (by decide) ?_
    refine s_aload3 C dX10_obey_46 ?_
    refine s_iload4 C dX10_obey_47 ?_
    refine s_iload1 C dX10_obey_49 ?_
    refine s_iadd C dX10_obey_50 ?_
    refine s_aload3 C dX10_obey_51 ?_
    refine s_iload4 C dX10_obey_52 ?_
    refine s_iload1 C dX10_obey_54 ?_
    refine s_iadd C dX10_obey_55 ?_
    refine s_iald C hc3 h dX10_obey_56 (fun h => ?_)
    refine s_iload2 C dX10_obey_57 ?_
    refine s_iadd C dX10_obey_58 ?_
    obtain ⟨r2, M1, hq, h⟩ := bI_e h
    refine s_callS (As := [.int ((M.1 c3 (tn (x4 + x1))) + x2)]) (v := some (.int r2)) C rfl (by omega) wX10_276 rfl (Nat.le_of_ble_eq_true rfl) dX10_obey_59 (tX10_modulo C.2.2.2.2.2.2.1 (by omega)  hq) ?_
    refine s_iast C hc3 h dX10_obey_62 (fun h => ?_)
    refine s_goto (tgt := 148) C dX10_obey_63 (by decide) ?_
    exact s_vret C R h dX10_obey_148
  rcases if_e h with ⟨e, h⟩ | ⟨e2, h⟩
  · refine s_tin (j := 2) (tgt := 66) C dX10_obey_1 (by rw [e]; decide) (by decide) rfl (by decide) ?_
    refine s_aload3 C dX10_obey_66 ?_
    refine s_iload4 C dX10_obey_67 ?_
    refine s_iload1 C dX10_obey_69 ?_
    refine s_iadd C dX10_obey_70 ?_
    refine s_aload3 C dX10_obey_71 ?_
    refine s_iload4 C dX10_obey_72 ?_
    refine s_iload1 C dX10_obey_74 ?_
    refine s_iadd C dX10_obey_75 ?_
    refine s_iald C hc3 h dX10_obey_76 (fun h => ?_)
    refine s_iload2 C dX10_obey_77 ?_
    refine s_isub C dX10_obey_78 ?_
    obtain ⟨r4, M3, hq, h⟩ := bI_e h
    refine s_callS (As := [.int ((M.1 c3 (tn (x4 + x1))) - x2)]) (v := some (.int r4)) C rfl (by omega) wX10_276 rfl (Nat.le_of_ble_eq_true rfl) dX10_obey_79 (tX10_modulo C.2.2.2.2.2.2.1 (by omega)  hq) ?_
    refine s_iast C hc3 h dX10_obey_82 (fun h => ?_)
    refine s_goto (tgt := 148) C dX10_obey_83 (by decide) ?_
    exact s_vret C R h dX10_obey_148
  rcases if_e h with ⟨e, h⟩ | ⟨e3, h⟩
  · refine s_tin (j := 3) (tgt := 86) C dX10_obey_1 (by rw [e]; decide) (by decide) rfl (by decide) ?_
    refine s_aload3 C dX10_obey_86 ?_
    refine s_iload4 C dX10_obey_87 ?_
    refine s_iload1 C dX10_obey_89 ?_
    refine s_iadd C dX10_obey_90 ?_
    refine s_aload3 C dX10_obey_91 ?_
    refine s_iload4 C dX10_obey_92 ?_
    refine s_iload2 C dX10_obey_94 ?_
    refine s_iadd C dX10_obey_95 ?_
    refine s_iald C hc3 h dX10_obey_96 (fun h => ?_)
    refine s_iast C hc3 h dX10_obey_97 (fun h => ?_)
    refine s_goto (tgt := 148) C dX10_obey_98 (by decide) ?_
    exact s_vret C R h dX10_obey_148
  rcases if_e h with ⟨e, h⟩ | ⟨e4, h⟩
  · refine s_tin (j := 4) (tgt := 101) C dX10_obey_1 (by rw [e]; decide) (by decide) rfl (by decide) ?_
    refine s_aload3 C dX10_obey_101 ?_
    refine s_iload4 C dX10_obey_102 ?_
    refine s_iload1 C dX10_obey_104 ?_
    refine s_iadd C dX10_obey_105 ?_
    refine s_aload3 C dX10_obey_106 ?_
    refine s_iload4 C dX10_obey_107 ?_
    refine s_iload1 C dX10_obey_109 ?_
    refine s_iadd C dX10_obey_110 ?_
    refine s_iald C hc3 h dX10_obey_111 (fun h => ?_)
    refine s_aload3 C dX10_obey_112 ?_
    refine s_iload4 C dX10_obey_113 ?_
    refine s_iload2 C dX10_obey_115 ?_
    refine s_iadd C dX10_obey_116 ?_
    refine s_iald C hc3 h dX10_obey_117 (fun h => ?_)
    refine s_iadd C dX10_obey_118 ?_
    obtain ⟨r6, M5, hq, h⟩ := bI_e h
    refine s_callS (As := [.int ((M.1 c3 (tn (x4 + x1))) + (M.1 c3 (tn (x4 + x2))))]) (v := some (.int r6)) C rfl (by omega) wX10_276 rfl (Nat.le_of_ble_eq_true rfl) dX10_obey_119 (tX10_modulo C.2.2.2.2.2.2.1 (by omega)  hq) ?_
    refine s_iast C hc3 h dX10_obey_122 (fun h => ?_)
    refine s_goto (tgt := 148) C dX10_obey_123 (by decide) ?_
    exact s_vret C R h dX10_obey_148
  have g0 := ne_int e0
  have g1 := ne_int e1
  have g2 := ne_int e2
  have g3 := ne_int e3
  have g4 := ne_int e4
  refine s_tout (tgt := 126) C dX10_obey_1 (by simp only [show (0 : Int32).toInt = 0 from by decide, show (1 : Int32).toInt = 1 from by decide, show (2 : Int32).toInt = 2 from by decide, show (3 : Int32).toInt = 3 from by decide, show (4 : Int32).toInt = 4 from by decide] at g0 g1 g2 g3 g4; omega) (by decide) ?_
  refine s_aload3 C dX10_obey_126 ?_
  refine s_iload4 C dX10_obey_127 ?_
  refine s_iload1 C dX10_obey_129 ?_
  refine s_iadd C dX10_obey_130 ?_
  refine s_aload3 C dX10_obey_131 ?_
  refine s_iload4 C dX10_obey_132 ?_
  refine s_iload1 C dX10_obey_134 ?_
  refine s_iadd C dX10_obey_135 ?_
  refine s_iald C hc3 h dX10_obey_136 (fun h => ?_)
  refine s_aload3 C dX10_obey_137 ?_
  refine s_iload4 C dX10_obey_138 ?_
  refine s_iload2 C dX10_obey_140 ?_
  refine s_iadd C dX10_obey_141 ?_
  refine s_iald C hc3 h dX10_obey_142 (fun h => ?_)
  refine s_isub C dX10_obey_143 ?_
  obtain ⟨r8, M7, hq, h⟩ := bI_e h
  refine s_callS (As := [.int ((M.1 c3 (tn (x4 + x1))) - (M.1 c3 (tn (x4 + x2))))]) (v := some (.int r8)) C rfl (by omega) wX10_276 rfl (Nat.le_of_ble_eq_true rfl) dX10_obey_144 (tX10_modulo C.2.2.2.2.2.2.1 (by omega)  hq) ?_
  refine s_iast C hc3 h dX10_obey_147 (fun h => ?_)
  exact s_vret C R h dX10_obey_148
set_option maxRecDepth 4000 in
theorem tX10_isBranch {l : Launch} {E : En} {A : Nat → Prop} {d : Nat} {r : Int32} {M M' : Mem} {x0 : Int32} (hE : Okk E A) (hd : 1 ≤ d)  (h : fX10_isBranch x0 M = some (r, M')) : Ct l E A d yX10_isBranch cX10_isBranch 1 (some .boolean) [.int x0] M (some (.int r)) M' := by
  refine Ct.mk (ls := [some (.int x0)]) hE (by decide +kernel) rfl (Nat.le_of_ble_eq_true rfl) (fun X hXl hXA C R => ?_)
  subst hXl; subst hXA
  unfold fX10_isBranch at h
  refine s_iload0 C dX10_isBranch_0 ?_
  refine s_i2l C dX10_isBranch_1 ?_
  refine s_ldc2 (v := 6) C k_1601 dX10_isBranch_2 ?_
  refine s_ldc2 (v := 8) C k_1602 dX10_isBranch_5 ?_
  obtain ⟨r2, M1, hq, h⟩ := bI_e h
  refine s_callS (As := [.long (x0).toInt64, .long (6 : Int64), .long (8 : Int64)]) (v := some (.int r2)) C rfl (by omega) wX10_139 rfl (Nat.le_of_ble_eq_true rfl) dX10_isBranch_8 (tX10_in C.2.2.2.2.2.2.1 (by omega)  hq) ?_
  obtain ⟨hb, h⟩ := ck_e h
  exact s_zret C R h (isB_n hb).1 dX10_isBranch_11
set_option maxRecDepth 4000 in
theorem tX10_goalOf {l : Launch} {E : En} {A : Nat → Prop} {d : Nat} {r : Int32} {M M' : Mem} {o : Nat} {x1 : Int32} (hE : Okk E A) (hd : 1 ≤ d) (ho : kd o = (10, 0)) (h : fX10_goalOf o x1 M = some (r, M')) : Ct l E A d yX10_goalOf cX10_goalOf 2 (some .int) [.ref (ad E o), .int x1] M (some (.int r)) M' := by
  refine Ct.mk (ls := [some (.ref (ad E o)), some (.int x1)]) hE (by decide +kernel) rfl (Nat.le_of_ble_eq_true rfl) (fun X hXl hXA C R => ?_)
  subst hXl; subst hXA
  unfold fX10_goalOf at h
  refine s_aload0 C dX10_goalOf_0 ?_
  refine s_iload1 C dX10_goalOf_1 ?_
  refine s_aload0 C dX10_goalOf_2 ?_
  refine s_iload1 C dX10_goalOf_3 ?_
  obtain ⟨r2, M1, hq, h⟩ := bI_e h
  refine s_callV (T := TX10) (As := [.int x1]) (v := some (.int r2)) C rfl ho (by decide) rfl (by omega) wX10_283 rfl (Nat.le_of_ble_eq_true rfl) dX10_goalOf_4 (tX10_kindOf C.2.2.2.2.2.2.1 (by omega) ho hq) ?_
  obtain ⟨r4, M3, hq, h⟩ := bI_e h
  refine s_callS (As := [.int r2]) (v := some (.int r4)) C rfl (by omega) wX10_143 rfl (Nat.le_of_ble_eq_true rfl) dX10_goalOf_7 (tX10_numbersOf C.2.2.2.2.2.2.1 (by omega)  hq) ?_
  refine s_iconst (v := 1) C (by decide) dX10_goalOf_10 ?_
  refine s_isub C dX10_goalOf_11 ?_
  obtain ⟨r6, M5, hq, h⟩ := bI_e h
  refine s_callV (T := TX10) (As := [.int x1, .int (r4 - (1 : Int32))]) (v := some (.int r6)) C rfl ho (by decide) rfl (by omega) wX10_286 rfl (Nat.le_of_ble_eq_true rfl) dX10_goalOf_12 (tX10_numberOf C.2.2.2.2.2.2.1 (by omega) ho hq) ?_
  exact s_iret C R h dX10_goalOf_15
set_option maxRecDepth 4000 in
theorem tX10_isTaken {l : Launch} {E : En} {A : Nat → Prop} {d : Nat} {r : Int32} {M M' : Mem} {o : Nat} {x1 : Int32} {x2 : Int32} (hE : Okk E A) (hd : 1 ≤ d) (ho : kd o = (10, 0)) (h : fX10_isTaken o x1 x2 M = some (r, M')) : Ct l E A d yX10_isTaken cX10_isTaken 5 (some .boolean) [.ref (ad E o), .int x1, .int x2] M (some (.int r)) M' := by
  refine Ct.mk (ls := [some (.ref (ad E o)), some (.int x1), some (.int x2), none, none]) hE (by decide +kernel) rfl (Nat.le_of_ble_eq_true rfl) (fun X hXl hXA C R => ?_)
  subst hXl; subst hXA
  unfold fX10_isTaken at h
  refine s_aload0 C dX10_isTaken_0 ?_
  refine gX10_34 C ho dX10_isTaken_1 ?_
  refine s_iload2 C dX10_isTaken_4 ?_
  refine s_aload0 C dX10_isTaken_5 ?_
  refine s_iload1 C dX10_isTaken_6 ?_
  refine s_iconst (v := 0) C (by decide) dX10_isTaken_7 ?_
  obtain ⟨r2, M1, hq, h⟩ := bI_e h
  refine s_callV (T := TX10) (As := [.int x1, .int (0 : Int32)]) (v := some (.int r2)) C rfl ho (by decide) rfl (by omega) wX10_286 rfl (Nat.le_of_ble_eq_true rfl) dX10_isTaken_8 (tX10_numberOf C.2.2.2.2.2.2.1 (by omega) ho hq) ?_
  refine s_iadd C dX10_isTaken_11 ?_
  refine s_iald C (qX10_registers ho) h dX10_isTaken_12 (fun h => ?_)
  refine s_istore3 C rfl dX10_isTaken_13 ?_
  refine s_aload0 C dX10_isTaken_14 ?_
  refine s_iload1 C dX10_isTaken_15 ?_
  obtain ⟨r4, M3, hq, h⟩ := bI_e h
  refine s_callV (T := TX10) (As := [.int x1]) (v := some (.int r4)) C rfl ho (by decide) rfl (by omega) wX10_283 rfl (Nat.le_of_ble_eq_true rfl) dX10_isTaken_16 (tX10_kindOf C.2.2.2.2.2.2.1 (by omega) ho hq) ?_
  refine s_bipush (v := 8) C (by decide) dX10_isTaken_19 ?_
  refine s_ic_ne (tgt := 37) C h dX10_isTaken_21 (by decide) ⟨fun h => ?_, fun h => ?_⟩
  · refine s_aload0 C dX10_isTaken_37 ?_
    refine gX10_34 C ho dX10_isTaken_38 ?_
    refine s_iload2 C dX10_isTaken_41 ?_
    refine s_aload0 C dX10_isTaken_42 ?_
    refine s_iload1 C dX10_isTaken_43 ?_
    refine s_iconst (v := 1) C (by decide) dX10_isTaken_44 ?_
    obtain ⟨r6, M5, hq, h⟩ := bI_e h
    refine s_callV (T := TX10) (As := [.int x1, .int (1 : Int32)]) (v := some (.int r6)) C rfl ho (by decide) rfl (by omega) wX10_286 rfl (Nat.le_of_ble_eq_true rfl) dX10_isTaken_45 (tX10_numberOf C.2.2.2.2.2.2.1 (by omega) ho hq) ?_
    refine s_iadd C dX10_isTaken_48 ?_
    refine s_iald C (qX10_registers ho) h dX10_isTaken_49 (fun h => ?_)
    refine s_istore4 C rfl dX10_isTaken_50 ?_
    refine s_aload0 C dX10_isTaken_52 ?_
    refine s_iload1 C dX10_isTaken_53 ?_
    obtain ⟨r8, M7, hq, h⟩ := bI_e h
    refine s_callV (T := TX10) (As := [.int x1]) (v := some (.int r8)) C rfl ho (by decide) rfl (by omega) wX10_283 rfl (Nat.le_of_ble_eq_true rfl) dX10_isTaken_54 (tX10_kindOf C.2.2.2.2.2.2.1 (by omega) ho hq) ?_
    refine s_bipush (v := 6) C (by decide) dX10_isTaken_57 ?_
    refine s_ic_ne (tgt := 76) C h dX10_isTaken_59 (by decide) ⟨fun h => ?_, fun h => ?_⟩
    · refine s_iload3 C dX10_isTaken_76 ?_
      refine s_iload4 C dX10_isTaken_77 ?_
      refine s_ic_ne (tgt := 86) C h dX10_isTaken_79 (by decide) ⟨fun h => ?_, fun h => ?_⟩
      · refine s_iconst (v := 0) C (by decide) dX10_isTaken_86 ?_
        exact s_zret C R h rfl dX10_isTaken_87
      · refine s_iconst (v := 1) C (by decide) dX10_isTaken_82 ?_
        refine s_goto (tgt := 87) C dX10_isTaken_83 (by decide) ?_
        exact s_zret C R h rfl dX10_isTaken_87
    · refine s_iload3 C dX10_isTaken_62 ?_
      refine s_iload4 C dX10_isTaken_63 ?_
      refine s_ic_ge (tgt := 72) C h dX10_isTaken_65 (by decide) ⟨fun h => ?_, fun h => ?_⟩
      · refine s_iconst (v := 0) C (by decide) dX10_isTaken_72 ?_
        refine s_goto (tgt := 87) C dX10_isTaken_73 (by decide) ?_
        exact s_zret C R h rfl dX10_isTaken_87
      · refine s_iconst (v := 1) C (by decide) dX10_isTaken_68 ?_
        refine s_goto (tgt := 87) C dX10_isTaken_69 (by decide) ?_
        exact s_zret C R h rfl dX10_isTaken_87
  · refine s_iload3 C dX10_isTaken_24 ?_
    refine s_iconst (v := 2) C (by decide) dX10_isTaken_25 ?_
    refine s_iremc C (by decide) dX10_isTaken_26 ?_
    refine s_iconst (v := 1) C (by decide) dX10_isTaken_27 ?_
    refine s_ic_ne (tgt := 35) C h dX10_isTaken_28 (by decide) ⟨fun h => ?_, fun h => ?_⟩
    · refine s_iconst (v := 0) C (by decide) dX10_isTaken_35 ?_
      exact s_zret C R h rfl dX10_isTaken_36
    · refine s_iconst (v := 1) C (by decide) dX10_isTaken_31 ?_
      refine s_goto (tgt := 36) C dX10_isTaken_32 (by decide) ?_
      exact s_zret C R h rfl dX10_isTaken_36
