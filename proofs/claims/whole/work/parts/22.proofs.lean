set_option maxRecDepth 4000 in
theorem tX9_bounded {l : Launch} {E : En} {A : Nat → Prop} {d : Nat} {r : Int32} {M M' : Mem} {x0 : Int32} {x1 : Int32} {x2 : Int32} (hE : Okk E A) (hd : 1 ≤ d)  (h : fX9_bounded x0 x1 x2 M = some (r, M')) : Ct l E A d yX9_bounded cX9_bounded 3 (some .int) [.int x0, .int x1, .int x2] M (some (.int r)) M' := by
  refine Ct.mk (ls := [some (.int x0), some (.int x1), some (.int x2)]) hE (by decide +kernel) rfl (Nat.le_of_ble_eq_true rfl) (fun X hXl hXA C R => ?_)
  subst hXl; subst hXA
  unfold fX9_bounded at h
  refine s_iload1 C dX9_bounded_0 ?_
  refine s_iload2 C dX9_bounded_1 ?_
  refine s_iload0 C dX9_bounded_2 ?_
  refine s_min C rfl (by omega) wX9_303 (Nat.le_of_ble_eq_true rfl) dX9_bounded_3 ?_
  refine s_max C rfl (by omega) wX9_160 (Nat.le_of_ble_eq_true rfl) dX9_bounded_6 ?_
  exact s_iret C R h dX9_bounded_9
set_option maxRecDepth 4000 in
theorem bX0_learn_103 {E : En} {X : Xc} {d : Nat} {M M' : Mem} {o : Nat} {x1 : Int32} {x3 : Int32} {sc0 : Nat} {sx1 : Int32} {sx2 : Int32} {sx3 : Int32} (C : Cx E X d cX0_learn RX0 4) (R : Rt E X none none M') (hd : 2 ≤ d) {k67 : Nat → Int32 → Int32 → Mem → Option (Mem)} (hk67 : ∀ (o : Nat) (x1 : Int32) (x3 : Int32) (M : Mem) (_ : kd o = (0, 0)), k67 o x1 x3 M = some M' → At E X 67 [some (.ref (ad E o)), some (.int x1), none, some (.int x3)] [] M) (ho : kd o = (0, 0)) (hsc0 : kd sc0 = (20, 48)) (h : fX0_learn_103 k67 o x1 x3 sc0 sx1 sx2 sx3 M = some M') : At E X 103 [some (.ref (ad E o)), some (.int x1), none, some (.int x3)] [.int sx3, .int sx2, .int sx1, .ref (ad E sc0)] M := by
  unfold fX0_learn_103 at h
  refine s_iadd C dX0_learn_103 ?_
  refine s_bipush (v := -8) C (by decide) dX0_learn_104 ?_
  refine s_bipush (v := 7) C (by decide) dX0_learn_106 ?_
  obtain ⟨r2, M1, hq, h⟩ := bI_e h
  refine s_callN (As := [.int (sx2 + sx3), .int (-8 : Int32), .int (7 : Int32)]) (v := some (.int r2)) C rfl (by omega) wX0_48 rfl (Nat.le_of_ble_eq_true rfl) dX0_learn_108 (tX9_bounded C.2.2.2.2.2.2.1 (by omega)  hq) ?_
  refine s_iast C hsc0 h dX0_learn_111 (fun h => ?_)
  refine s_iinc3 (v := 1) C rfl dX0_learn_112 (by decide) ?_
  refine s_goto (tgt := 67) C dX0_learn_115 (by decide) ?_
  exact hk67 _ _ _ _ ho h
set_option maxRecDepth 4000 in
theorem bX0_learn_67 {E : En} {X : Xc} {d : Nat} {M' : Mem} (C : Cx E X d cX0_learn RX0 4) (R : Rt E X none none M') (hd : 2 ≤ d)   : ∀ (n : Nat) (o : Nat) (x1 : Int32) (x3 : Int32) (M : Mem) (_ : kd o = (0, 0)), fX0_learn_67  n o x1 x3 M = some M' → At E X 67 [some (.ref (ad E o)), some (.int x1), none, some (.int x3)] [] M := by
  intro n
  induction n with
  | zero => intro o x1 x3 M ho h; rw [fX0_learn_67] at h; cases h
  | succ n ih =>
    intro o x1 x3 M ho h
    rw [fX0_learn_67] at h
    refine s_iload3 C dX0_learn_67 ?_
    refine s_iconst (v := 3) C (by decide) dX0_learn_68 ?_
    refine s_ic_ge (tgt := 118) C h dX0_learn_69 (by decide) ⟨fun h => ?_, fun h => ?_⟩
    · exact s_vret C R h dX0_learn_118
    · refine s_aload0 C dX0_learn_72 ?_
      refine gX0_11 C ho dX0_learn_73 ?_
      refine s_aload0 C dX0_learn_76 ?_
      refine gX0_15 C ho dX0_learn_77 ?_
      refine s_iload3 C dX0_learn_80 ?_
      refine s_iald C (qX0_places ho) h dX0_learn_81 (fun h => ?_)
      refine s_aload0 C dX0_learn_82 ?_
      refine gX0_11 C ho dX0_learn_83 ?_
      refine s_aload0 C dX0_learn_86 ?_
      refine gX0_15 C ho dX0_learn_87 ?_
      refine s_iload3 C dX0_learn_90 ?_
      refine s_iald C (qX0_places ho) h dX0_learn_91 (fun h => ?_)
      refine s_iald C (qX0_counts ho) h dX0_learn_92 (fun h => ?_)
      refine s_iload1 C dX0_learn_93 ?_
      refine s_iconst (v := 1) C (by decide) dX0_learn_94 ?_
      refine s_ic_ne (tgt := 102) C h dX0_learn_95 (by decide) ⟨fun h => ?_, fun h => ?_⟩
      · refine s_iconst (v := -1) C (by decide) dX0_learn_102 ?_
        exact bX0_learn_103 C R hd (ih) ho (qX0_counts ho) h
      · refine s_iconst (v := 1) C (by decide) dX0_learn_98 ?_
        refine s_goto (tgt := 103) C dX0_learn_99 (by decide) ?_
        exact bX0_learn_103 C R hd (ih) ho (qX0_counts ho) h
set_option maxRecDepth 4000 in
theorem bX0_learn_65 {E : En} {X : Xc} {d : Nat} {M M' : Mem} {o : Nat} {x1 : Int32} (C : Cx E X d cX0_learn RX0 4) (R : Rt E X none none M') (hd : 2 ≤ d)   (ho : kd o = (0, 0)) (h : fX0_learn_65  o x1 M = some M') : At E X 65 [some (.ref (ad E o)), some (.int x1), none, none] [] M := by
  unfold fX0_learn_65 at h
  refine s_iconst (v := 0) C (by decide) dX0_learn_65 ?_
  refine s_istore3 C rfl dX0_learn_66 ?_
  exact bX0_learn_67 C R hd  LF _ _ _ _ ho h
set_option maxRecDepth 4000 in
theorem bX0_learn_49 {E : En} {X : Xc} {d : Nat} {M M' : Mem} {o : Nat} {x1 : Int32} {x2 : Int32} (C : Cx E X d cX0_learn RX0 4) (R : Rt E X none none M') (hd : 2 ≤ d)   (ho : kd o = (0, 0)) (h : fX0_learn_49  o x1 x2 M = some M') : At E X 49 [some (.ref (ad E o)), some (.int x1), some (.int x2), none] [] M := by
  unfold fX0_learn_49 at h
  refine s_iload2 C dX0_learn_49 ?_
  refine s_if_eq (tgt := 65) C h dX0_learn_50 (by decide) ⟨fun h => ?_, fun h => ?_⟩
  · refine s_fg 2 ?_
    exact bX0_learn_65 C R hd  ho h
  · refine s_aload0 C dX0_learn_53 ?_
    refine gX0_35 C ho dX0_learn_54 ?_
    refine s_abs C rfl (by omega) wX0_42 (Nat.le_of_ble_eq_true rfl) dX0_learn_57 ?_
    refine s_bipush (v := 12) C (by decide) dX0_learn_60 ?_
    refine s_ic_ge (tgt := 118) C h dX0_learn_62 (by decide) ⟨fun h => ?_, fun h => ?_⟩
    · exact s_vret C R h dX0_learn_118
    · refine s_fg 2 ?_
      exact bX0_learn_65 C R hd  ho h
set_option maxRecDepth 4000 in
theorem bX0_learn_39 {E : En} {X : Xc} {d : Nat} {M M' : Mem} {o : Nat} {x1 : Int32} {x2 : Int32} {so0 : Nat} {sx1 : Int32} {sx2 : Int32} (C : Cx E X d cX0_learn RX0 4) (R : Rt E X none none M') (hd : 2 ≤ d)   (ho : kd o = (0, 0)) (hso0 : kd so0 = (0, 0)) (h : fX0_learn_39  o x1 x2 so0 sx1 sx2 M = some M') : At E X 39 [some (.ref (ad E o)), some (.int x1), some (.int x2), none] [.int sx2, .int sx1, .ref (ad E so0)] M := by
  unfold fX0_learn_39 at h
  refine s_iadd C dX0_learn_39 ?_
  refine s_iconst (v := 1) C (by decide) dX0_learn_40 ?_
  refine s_bipush (v := 15) C (by decide) dX0_learn_41 ?_
  obtain ⟨r2, M1, hq, h⟩ := bI_e h
  refine s_callN (As := [.int (sx1 + sx2), .int (1 : Int32), .int (15 : Int32)]) (v := some (.int r2)) C rfl (by omega) wX0_48 rfl (Nat.le_of_ble_eq_true rfl) dX0_learn_43 (tX9_bounded C.2.2.2.2.2.2.1 (by omega)  hq) ?_
  refine pX0_24 C hso0 dX0_learn_46 ?_
  exact bX0_learn_49 C R hd  ho h
set_option maxRecDepth 4000 in
theorem bX0_learn_13 {E : En} {X : Xc} {d : Nat} {M M' : Mem} {o : Nat} {x1 : Int32} {sx0 : Int32} (C : Cx E X d cX0_learn RX0 4) (R : Rt E X none none M') (hd : 2 ≤ d)   (ho : kd o = (0, 0)) (h : fX0_learn_13  o x1 sx0 M = some M') : At E X 13 [some (.ref (ad E o)), some (.int x1), none, none] [.int sx0] M := by
  unfold fX0_learn_13 at h
  refine s_istore2 C rfl dX0_learn_13 ?_
  refine s_aload0 C dX0_learn_14 ?_
  obtain ⟨r2, M1, hq, h⟩ := bI_e h
  refine s_callV (T := TX0) (As := []) (v := some (.int r2)) C rfl ho (by decide) rfl (by omega) wX0_38 rfl (Nat.le_of_ble_eq_true rfl) dX0_learn_15 (tX0_side C.2.2.2.2.2.2.1 (by omega) ho hq) ?_
  refine s_aload0 C dX0_learn_18 ?_
  refine gX0_28 C ho dX0_learn_19 ?_
  refine s_ic_eq (tgt := 49) C h dX0_learn_22 (by decide) ⟨fun h => ?_, fun h => ?_⟩
  · exact bX0_learn_49 C R hd  ho h
  · refine s_aload0 C dX0_learn_25 ?_
    refine s_aload0 C dX0_learn_26 ?_
    refine gX0_24 C ho dX0_learn_27 ?_
    refine s_iload2 C dX0_learn_30 ?_
    refine s_if_eq (tgt := 38) C h dX0_learn_31 (by decide) ⟨fun h => ?_, fun h => ?_⟩
    · refine s_iconst (v := 1) C (by decide) dX0_learn_38 ?_
      exact bX0_learn_39 C R hd  ho ho h
    · refine s_iconst (v := -1) C (by decide) dX0_learn_34 ?_
      refine s_goto (tgt := 39) C dX0_learn_35 (by decide) ?_
      exact bX0_learn_39 C R hd  ho ho h
set_option maxRecDepth 4000 in
theorem tX0_learn {l : Launch} {E : En} {A : Nat → Prop} {d : Nat} {M M' : Mem} {o : Nat} {x1 : Int32} (hE : Okk E A) (hd : 2 ≤ d) (ho : kd o = (0, 0)) (h : fX0_learn o x1 M = some M') : Ct l E A d yX0_learn cX0_learn 4 none [.ref (ad E o), .int x1] M none M' := by
  refine Ct.mk (ls := [some (.ref (ad E o)), some (.int x1), none, none]) hE (by decide +kernel) rfl (Nat.le_of_ble_eq_true rfl) (fun X hXl hXA C R => ?_)
  subst hXl; subst hXA
  unfold fX0_learn at h
  refine s_aload0 C dX0_learn_0 ?_
  obtain ⟨r2, M1, hq, h⟩ := bI_e h
  refine s_callV (T := TX0) (As := []) (v := some (.int r2)) C rfl ho (by decide) rfl (by omega) wX0_38 rfl (Nat.le_of_ble_eq_true rfl) dX0_learn_1 (tX0_side C.2.2.2.2.2.2.1 (by omega) ho hq) ?_
  refine s_iload1 C dX0_learn_4 ?_
  refine s_ic_ne (tgt := 12) C h dX0_learn_5 (by decide) ⟨fun h => ?_, fun h => ?_⟩
  · refine s_iconst (v := 0) C (by decide) dX0_learn_12 ?_
    exact bX0_learn_13 C R hd  ho h
  · refine s_iconst (v := 1) C (by decide) dX0_learn_8 ?_
    refine s_goto (tgt := 13) C dX0_learn_9 (by decide) ?_
    exact bX0_learn_13 C R hd  ho h
set_option maxRecDepth 4000 in
theorem bX6_move_10 {E : En} {X : Xc} {d : Nat} {M M' : Mem} {o : Nat} {x1 : Int32} {sx0 : Int32} (C : Cx E X d cX6_move RX6 4) (R : Rt E X none none M') (hd : 2 ≤ d)   (ho : kd o = (6, 0)) (h : fX6_move_10  o x1 sx0 M = some M') : At E X 10 [some (.ref (ad E o)), some (.int x1), none, none] [.int sx0] M := by
  unfold fX6_move_10 at h
  refine s_istore3 C rfl dX6_move_10 ?_
  refine s_iload1 C dX6_move_11 ?_
  refine s_if_ne (tgt := 43) C h dX6_move_12 (by decide) ⟨fun h => ?_, fun h => ?_⟩
  · refine s_aload0 C dX6_move_43 ?_
    refine gX6_18 C ho dX6_move_44 ?_
    refine s_aload0 C dX6_move_47 ?_
    refine gX6_27 C ho dX6_move_48 ?_
    refine s_iload1 C dX6_move_51 ?_
    refine s_iald C (qX6_places ho) h dX6_move_52 (fun h => ?_)
    refine s_aload0 C dX6_move_53 ?_
    refine gX6_18 C ho dX6_move_54 ?_
    refine s_aload0 C dX6_move_57 ?_
    refine gX6_27 C ho dX6_move_58 ?_
    refine s_iload1 C dX6_move_61 ?_
    refine s_iald C (qX6_places ho) h dX6_move_62 (fun h => ?_)
    refine s_iald C (qX6_counts ho) h dX6_move_63 (fun h => ?_)
    refine s_iload3 C dX6_move_64 ?_
    refine s_iadd C dX6_move_65 ?_
    refine s_bipush (v := -4) C (by decide) dX6_move_66 ?_
    refine s_iconst (v := 3) C (by decide) dX6_move_68 ?_
    obtain ⟨r2, M1, hq, h⟩ := bI_e h
    refine s_callN (As := [.int ((M.1 (o + 3) (tn (M.1 (o + 6) (tn x1)))) + sx0), .int (-4 : Int32), .int (3 : Int32)]) (v := some (.int r2)) C rfl (by omega) wX6_116 rfl (Nat.le_of_ble_eq_true rfl) dX6_move_69 (tX9_bounded C.2.2.2.2.2.2.1 (by omega)  hq) ?_
    refine s_iast C (qX6_counts ho) h dX6_move_72 (fun h => ?_)
    exact s_vret C R h dX6_move_73
  · refine s_aload0 C dX6_move_15 ?_
    refine gX6_24 C ho dX6_move_16 ?_
    refine s_aload0 C dX6_move_19 ?_
    refine gX6_84 C ho dX6_move_20 ?_
    refine s_aload0 C dX6_move_23 ?_
    refine gX6_24 C ho dX6_move_24 ?_
    refine s_aload0 C dX6_move_27 ?_
    refine gX6_84 C ho dX6_move_28 ?_
    refine s_iald C (qX6_bases ho) h dX6_move_31 (fun h => ?_)
    refine s_iload3 C dX6_move_32 ?_
    refine s_iadd C dX6_move_33 ?_
    refine s_iconst (v := 0) C (by decide) dX6_move_34 ?_
    refine s_iconst (v := 3) C (by decide) dX6_move_35 ?_
    obtain ⟨r4, M3, hq, h⟩ := bI_e h
    refine s_callN (As := [.int ((M.1 (o + 5) (tn (M.1 o 14))) + sx0), .int (0 : Int32), .int (3 : Int32)]) (v := some (.int r4)) C rfl (by omega) wX6_116 rfl (Nat.le_of_ble_eq_true rfl) dX6_move_36 (tX9_bounded C.2.2.2.2.2.2.1 (by omega)  hq) ?_
    refine s_iast C (qX6_bases ho) h dX6_move_39 (fun h => ?_)
    refine s_goto (tgt := 73) C dX6_move_40 (by decide) ?_
    exact s_vret C R h dX6_move_73
set_option maxRecDepth 4000 in
theorem tX6_move {l : Launch} {E : En} {A : Nat → Prop} {d : Nat} {M M' : Mem} {o : Nat} {x1 : Int32} {x2 : Int32} (hE : Okk E A) (hd : 2 ≤ d) (ho : kd o = (6, 0)) (h : fX6_move o x1 x2 M = some M') : Ct l E A d yX6_move cX6_move 4 none [.ref (ad E o), .int x1, .int x2] M none M' := by
  refine Ct.mk (ls := [some (.ref (ad E o)), some (.int x1), some (.int x2), none]) hE (by decide +kernel) rfl (Nat.le_of_ble_eq_true rfl) (fun X hXl hXA C R => ?_)
  subst hXl; subst hXA
  unfold fX6_move at h
  refine s_iload2 C dX6_move_0 ?_
  refine s_iconst (v := 1) C (by decide) dX6_move_1 ?_
  refine s_ic_ne (tgt := 9) C h dX6_move_2 (by decide) ⟨fun h => ?_, fun h => ?_⟩
  · refine s_iconst (v := -1) C (by decide) dX6_move_9 ?_
    refine s_fg 2 ?_
    exact bX6_move_10 C R hd  ho h
  · refine s_iconst (v := 1) C (by decide) dX6_move_5 ?_
    refine s_goto (tgt := 10) C dX6_move_6 (by decide) ?_
    refine s_fg 2 ?_
    exact bX6_move_10 C R hd  ho h
set_option maxRecDepth 4000 in
theorem bX6_learn_123 {E : En} {X : Xc} {d : Nat} {M M' : Mem} {o : Nat} {x1 : Int32} (C : Cx E X d cX6_learn RX6 6) (R : Rt E X none none M') (hd : 3 ≤ d)   (ho : kd o = (6, 0)) (h : fX6_learn_123  o x1 M = some M') : At E X 123 [some (.ref (ad E o)), some (.int x1), none, none, none, none] [] M := by
  unfold fX6_learn_123 at h
  refine s_aload0 C dX6_learn_123 ?_
  refine s_aload0 C dX6_learn_124 ?_
  refine gX6_87 C ho dX6_learn_125 ?_
  refine s_iload1 C dX6_learn_128 ?_
  obtain ⟨M1, hq, h⟩ := bV_e h
  refine s_callV (T := TX6) (As := [.int (M.1 o 15), .int x1]) (v := none) C rfl ho (by decide) rfl (by omega) wX6_120 rfl (Nat.le_of_ble_eq_true rfl) dX6_learn_129 (tX6_move C.2.2.2.2.2.2.1 (by omega) ho hq) ?_
  refine s_aload0 C dX6_learn_132 ?_
  refine gX6_106 C ho dX6_learn_133 ?_
  refine s_if_eq (tgt := 148) C h dX6_learn_136 (by decide) ⟨fun h => ?_, fun h => ?_⟩
  · exact s_vret C R h dX6_learn_148
  · refine s_aload0 C dX6_learn_139 ?_
    refine s_aload0 C dX6_learn_140 ?_
    refine gX6_90 C ho dX6_learn_141 ?_
    refine s_iload1 C dX6_learn_144 ?_
    obtain ⟨M2, hq, h⟩ := bV_e h
    refine s_callV (T := TX6) (As := [.int (M1.1 o 16), .int x1]) (v := none) C rfl ho (by decide) rfl (by omega) wX6_120 rfl (Nat.le_of_ble_eq_true rfl) dX6_learn_145 (tX6_move C.2.2.2.2.2.2.1 (by omega) ho hq) ?_
    exact s_vret C R h dX6_learn_148
set_option maxRecDepth 4000 in
theorem bX6_learn_99 {E : En} {X : Xc} {d : Nat} {M M' : Mem} {o : Nat} {x1 : Int32} {sx0 : Int32} {sx1 : Int32} (C : Cx E X d cX6_learn RX6 6) (R : Rt E X none none M') (hd : 3 ≤ d)   (ho : kd o = (6, 0)) (h : fX6_learn_99  o x1 sx0 sx1 M = some M') : At E X 99 [some (.ref (ad E o)), some (.int x1), none, none, none, none] [.int sx1, .int sx0] M := by
  unfold fX6_learn_99 at h
  refine s_iadd C dX6_learn_99 ?_
  refine s_istore5 C rfl dX6_learn_100 ?_
  refine s_aload0 C dX6_learn_102 ?_
  refine gX6_21 C ho dX6_learn_103 ?_
  refine s_aload0 C dX6_learn_106 ?_
  refine gX6_27 C ho dX6_learn_107 ?_
  refine s_aload0 C dX6_learn_110 ?_
  refine gX6_87 C ho dX6_learn_111 ?_
  refine s_iald C (qX6_places ho) h dX6_learn_114 (fun h => ?_)
  refine s_iload5 C dX6_learn_115 ?_
  refine s_iconst (v := 0) C (by decide) dX6_learn_117 ?_
  refine s_iconst (v := 3) C (by decide) dX6_learn_118 ?_
  obtain ⟨r2, M1, hq, h⟩ := bI_e h
  refine s_callN (As := [.int (sx0 + sx1), .int (0 : Int32), .int (3 : Int32)]) (v := some (.int r2)) C rfl (by omega) wX6_116 rfl (Nat.le_of_ble_eq_true rfl) dX6_learn_119 (tX9_bounded C.2.2.2.2.2.2.1 (by omega)  hq) ?_
  refine s_iast C (qX6_uses ho) h dX6_learn_122 (fun h => ?_)
  refine s_fg 5 ?_
  exact bX6_learn_123 C R hd  ho h
set_option maxRecDepth 4000 in
theorem bX6_learn_62 {E : En} {X : Xc} {d : Nat} {M M' : Mem} {o : Nat} {x1 : Int32} {x3 : Int32} {x4 : Int32} (C : Cx E X d cX6_learn RX6 6) (R : Rt E X none none M') (hd : 3 ≤ d)   (ho : kd o = (6, 0)) (h : fX6_learn_62  o x1 x3 x4 M = some M') : At E X 62 [some (.ref (ad E o)), some (.int x1), none, some (.int x3), some (.int x4), none] [] M := by
  unfold fX6_learn_62 at h
  refine s_aload0 C dX6_learn_62 ?_
  refine gX6_87 C ho dX6_learn_63 ?_
  refine s_if_le (tgt := 123) C h dX6_learn_66 (by decide) ⟨fun h => ?_, fun h => ?_⟩
  · refine s_fg 3 ?_
    refine s_fg 4 ?_
    exact bX6_learn_123 C R hd  ho h
  · refine s_iload3 C dX6_learn_69 ?_
    refine s_iload4 C dX6_learn_70 ?_
    refine s_ic_eq (tgt := 123) C h dX6_learn_72 (by decide) ⟨fun h => ?_, fun h => ?_⟩
    · refine s_fg 3 ?_
      refine s_fg 4 ?_
      exact bX6_learn_123 C R hd  ho h
    · refine s_aload0 C dX6_learn_75 ?_
      refine gX6_21 C ho dX6_learn_76 ?_
      refine s_aload0 C dX6_learn_79 ?_
      refine gX6_27 C ho dX6_learn_80 ?_
      refine s_aload0 C dX6_learn_83 ?_
      refine gX6_87 C ho dX6_learn_84 ?_
      refine s_iald C (qX6_places ho) h dX6_learn_87 (fun h => ?_)
      refine s_iald C (qX6_uses ho) h dX6_learn_88 (fun h => ?_)
      refine s_iload3 C dX6_learn_89 ?_
      refine s_iload1 C dX6_learn_90 ?_
      refine s_ic_ne (tgt := 98) C h dX6_learn_91 (by decide) ⟨fun h => ?_, fun h => ?_⟩
      · refine s_iconst (v := -1) C (by decide) dX6_learn_98 ?_
        refine s_fg 3 ?_
        refine s_fg 4 ?_
        exact bX6_learn_99 C R hd  ho h
      · refine s_iconst (v := 1) C (by decide) dX6_learn_94 ?_
        refine s_goto (tgt := 99) C dX6_learn_95 (by decide) ?_
        refine s_fg 3 ?_
        refine s_fg 4 ?_
        exact bX6_learn_99 C R hd  ho h
set_option maxRecDepth 4000 in
theorem bX6_learn_52 {E : En} {X : Xc} {d : Nat} {M M' : Mem} {o : Nat} {x1 : Int32} {x3 : Int32} {x4 : Int32} {so0 : Nat} {sx1 : Int32} {sx2 : Int32} (C : Cx E X d cX6_learn RX6 6) (R : Rt E X none none M') (hd : 3 ≤ d)   (ho : kd o = (6, 0)) (hso0 : kd so0 = (6, 0)) (h : fX6_learn_52  o x1 x3 x4 so0 sx1 sx2 M = some M') : At E X 52 [some (.ref (ad E o)), some (.int x1), none, some (.int x3), some (.int x4), none] [.int sx2, .int sx1, .ref (ad E so0)] M := by
  unfold fX6_learn_52 at h
  refine s_iadd C dX6_learn_52 ?_
  refine s_iconst (v := 0) C (by decide) dX6_learn_53 ?_
  refine s_bipush (v := 15) C (by decide) dX6_learn_54 ?_
  obtain ⟨r2, M1, hq, h⟩ := bI_e h
  refine s_callN (As := [.int (sx1 + sx2), .int (0 : Int32), .int (15 : Int32)]) (v := some (.int r2)) C rfl (by omega) wX6_116 rfl (Nat.le_of_ble_eq_true rfl) dX6_learn_56 (tX9_bounded C.2.2.2.2.2.2.1 (by omega)  hq) ?_
  refine pX6_67 C hso0 dX6_learn_59 ?_
  exact bX6_learn_62 C R hd  ho h
set_option maxRecDepth 4000 in
theorem tX6_learn {l : Launch} {E : En} {A : Nat → Prop} {d : Nat} {M M' : Mem} {o : Nat} {x1 : Int32} {x2 : Int32} (hE : Okk E A) (hd : 3 ≤ d) (ho : kd o = (6, 0)) (h : fX6_learn o x1 x2 M = some M') : Ct l E A d yX6_learn cX6_learn 6 none [.ref (ad E o), .int x1, .int x2] M none M' := by
  refine Ct.mk (ls := [some (.ref (ad E o)), some (.int x1), some (.int x2), none, none, none]) hE (by decide +kernel) rfl (Nat.le_of_ble_eq_true rfl) (fun X hXl hXA C R => ?_)
  subst hXl; subst hXA
  unfold fX6_learn at h
  refine s_aload0 C dX6_learn_0 ?_
  refine s_aload0 C dX6_learn_1 ?_
  refine gX6_87 C ho dX6_learn_2 ?_
  obtain ⟨r2, M1, hq, h⟩ := bI_e h
  refine s_callV (T := TX6) (As := [.int (M.1 o 15)]) (v := some (.int r2)) C rfl ho (by decide) rfl (by omega) wX6_110 rfl (Nat.le_of_ble_eq_true rfl) dX6_learn_5 (tX6_says C.2.2.2.2.2.2.1 (by omega) ho hq) ?_
  refine s_istore3 C rfl dX6_learn_8 ?_
  refine s_aload0 C dX6_learn_9 ?_
  refine s_aload0 C dX6_learn_10 ?_
  refine gX6_90 C ho dX6_learn_11 ?_
  obtain ⟨r4, M3, hq, h⟩ := bI_e h
  refine s_callV (T := TX6) (As := [.int (M1.1 o 16)]) (v := some (.int r4)) C rfl ho (by decide) rfl (by omega) wX6_110 rfl (Nat.le_of_ble_eq_true rfl) dX6_learn_14 (tX6_says C.2.2.2.2.2.2.1 (by omega) ho hq) ?_
  refine s_istore4 C rfl dX6_learn_17 ?_
  refine s_iload2 C dX6_learn_19 ?_
  refine s_if_eq (tgt := 62) C h dX6_learn_20 (by decide) ⟨fun h => ?_, fun h => ?_⟩
  · refine s_fg 2 ?_
    exact bX6_learn_62 C R hd  ho h
  · refine s_aload0 C dX6_learn_23 ?_
    refine gX6_106 C ho dX6_learn_24 ?_
    refine s_if_eq (tgt := 62) C h dX6_learn_27 (by decide) ⟨fun h => ?_, fun h => ?_⟩
    · refine s_fg 2 ?_
      exact bX6_learn_62 C R hd  ho h
    · refine s_iload3 C dX6_learn_30 ?_
      refine s_iload4 C dX6_learn_31 ?_
      refine s_ic_eq (tgt := 62) C h dX6_learn_33 (by decide) ⟨fun h => ?_, fun h => ?_⟩
      · refine s_fg 2 ?_
        exact bX6_learn_62 C R hd  ho h
      · refine s_aload0 C dX6_learn_36 ?_
        refine s_aload0 C dX6_learn_37 ?_
        refine gX6_67 C ho dX6_learn_38 ?_
        refine s_iload4 C dX6_learn_41 ?_
        refine s_iload1 C dX6_learn_43 ?_
        refine s_ic_ne (tgt := 51) C h dX6_learn_44 (by decide) ⟨fun h => ?_, fun h => ?_⟩
        · refine s_iconst (v := -1) C (by decide) dX6_learn_51 ?_
          refine s_fg 2 ?_
          exact bX6_learn_52 C R hd  ho ho h
        · refine s_iconst (v := 1) C (by decide) dX6_learn_47 ?_
          refine s_goto (tgt := 52) C dX6_learn_48 (by decide) ?_
          refine s_fg 2 ?_
          exact bX6_learn_52 C R hd  ho ho h
set_option maxRecDepth 4000 in
theorem bX6_strainRows_67 {E : En} {X : Xc} {d : Nat} {M' : Mem} (C : Cx E X d cX6_strainRows RX6 2) (R : Rt E X none none M') (hd : 0 ≤ d)   : ∀ (n : Nat) (o : Nat) (x1 : Int32) (M : Mem) (_ : kd o = (6, 0)), fX6_strainRows_67  n o x1 M = some M' → At E X 67 [some (.ref (ad E o)), some (.int x1)] [] M := by
  intro n
  induction n with
  | zero => intro o x1 M ho h; rw [fX6_strainRows_67] at h; cases h
  | succ n ih =>
    intro o x1 M ho h
    rw [fX6_strainRows_67] at h
    refine s_iload1 C dX6_strainRows_67 ?_
    refine s_aload0 C dX6_strainRows_68 ?_
    refine gX6_21 C ho dX6_strainRows_69 ?_
    refine s_alen20 C (qX6_uses ho) dX6_strainRows_72 ?_
    refine s_ic_ge (tgt := 92) C h dX6_strainRows_73 (by decide) ⟨fun h => ?_, fun h => ?_⟩
    · refine s_aload0 C dX6_strainRows_92 ?_
      refine s_iconst (v := 0) C (by decide) dX6_strainRows_93 ?_
      refine pX6_70 C ho dX6_strainRows_94 ?_
      refine s_aload0 C dX6_strainRows_97 ?_
      refine s_dup C rfl dX6_strainRows_98 ?_
      refine gX6_73 C ho dX6_strainRows_99 ?_
      refine s_iconst (v := 1) C (by decide) dX6_strainRows_102 ?_
      refine s_iadd C dX6_strainRows_103 ?_
      refine pX6_73 C ho dX6_strainRows_104 ?_
      exact s_vret C R h dX6_strainRows_107
    · refine s_aload0 C dX6_strainRows_76 ?_
      refine gX6_21 C ho dX6_strainRows_77 ?_
      refine s_iload1 C dX6_strainRows_80 ?_
      refine s_dup2 C rfl rfl dX6_strainRows_81 ?_
      refine s_iald C (qX6_uses ho) h dX6_strainRows_82 (fun h => ?_)
      refine s_iconst (v := 2) C (by decide) dX6_strainRows_83 ?_
      refine s_idivc C (by decide) dX6_strainRows_84 ?_
      refine s_iast C (qX6_uses ho) h dX6_strainRows_85 (fun h => ?_)
      refine s_iinc1 (v := 1) C rfl dX6_strainRows_86 (by decide) ?_
      refine s_goto (tgt := 67) C dX6_strainRows_89 (by decide) ?_
      exact ih _ _ _ ho h
set_option maxRecDepth 4000 in
theorem bX6_strainRows_38 {E : En} {X : Xc} {d : Nat} {M M' : Mem} {o : Nat} {x1 : Int32} (C : Cx E X d cX6_strainRows RX6 2) (R : Rt E X none none M') (hd : 0 ≤ d) {k7 : Nat → Int32 → Mem → Option (Mem)} (hk7 : ∀ (o : Nat) (x1 : Int32) (M : Mem) (_ : kd o = (6, 0)), k7 o x1 M = some M' → At E X 7 [some (.ref (ad E o)), some (.int x1)] [] M) (ho : kd o = (6, 0)) (h : fX6_strainRows_38 k7 o x1 M = some M') : At E X 38 [some (.ref (ad E o)), some (.int x1)] [] M := by
  unfold fX6_strainRows_38 at h
  refine s_iinc1 (v := 1) C rfl dX6_strainRows_38 (by decide) ?_
  refine s_goto (tgt := 7) C dX6_strainRows_41 (by decide) ?_
  exact hk7 _ _ _ ho h
set_option maxRecDepth 4000 in
theorem bX6_strainRows_7 {E : En} {X : Xc} {d : Nat} {M' : Mem} (C : Cx E X d cX6_strainRows RX6 2) (R : Rt E X none none M') (hd : 0 ≤ d)   : ∀ (n : Nat) (o : Nat) (x1 : Int32) (M : Mem) (_ : kd o = (6, 0)), fX6_strainRows_7  n o x1 M = some M' → At E X 7 [some (.ref (ad E o)), some (.int x1)] [] M := by
  intro n
  induction n with
  | zero => intro o x1 M ho h; rw [fX6_strainRows_7] at h; cases h
  | succ n ih =>
    intro o x1 M ho h
    rw [fX6_strainRows_7] at h
    refine s_iload1 C dX6_strainRows_7 ?_
    refine s_aload0 C dX6_strainRows_8 ?_
    refine gX6_48 C ho dX6_strainRows_9 ?_
    refine s_ic_gt (tgt := 44) C h dX6_strainRows_12 (by decide) ⟨fun h => ?_, fun h => ?_⟩
    · refine s_aload0 C dX6_strainRows_44 ?_
      refine s_dup C rfl dX6_strainRows_45 ?_
      refine gX6_70 C ho dX6_strainRows_46 ?_
      refine s_iconst (v := 1) C (by decide) dX6_strainRows_49 ?_
      refine s_iadd C dX6_strainRows_50 ?_
      refine pX6_70 C ho dX6_strainRows_51 ?_
      refine s_aload0 C dX6_strainRows_54 ?_
      refine gX6_70 C ho dX6_strainRows_55 ?_
      refine s_aload0 C dX6_strainRows_58 ?_
      refine gX6_42 C ho dX6_strainRows_59 ?_
      refine s_ic_ne (tgt := 107) C h dX6_strainRows_62 (by decide) ⟨fun h => ?_, fun h => ?_⟩
      · exact s_vret C R h dX6_strainRows_107
      · refine s_iconst (v := 0) C (by decide) dX6_strainRows_65 ?_
        refine s_istore1 C rfl dX6_strainRows_66 ?_
        exact bX6_strainRows_67 C R hd  LF _ _ _ ho h
    · refine s_iload1 C dX6_strainRows_15 ?_
      refine s_aload0 C dX6_strainRows_16 ?_
      refine gX6_51 C ho dX6_strainRows_17 ?_
      refine s_ic_eq (tgt := 38) C h dX6_strainRows_20 (by decide) ⟨fun h => ?_, fun h => ?_⟩
      · exact bX6_strainRows_38 C R hd (ih) ho h
      · refine s_aload0 C dX6_strainRows_23 ?_
        refine gX6_21 C ho dX6_strainRows_24 ?_
        refine s_aload0 C dX6_strainRows_27 ?_
        refine gX6_27 C ho dX6_strainRows_28 ?_
        refine s_iload1 C dX6_strainRows_31 ?_
        refine s_iald C (qX6_places ho) h dX6_strainRows_32 (fun h => ?_)
        refine s_dup2 C rfl rfl dX6_strainRows_33 ?_
        refine s_iald C (qX6_uses ho) h dX6_strainRows_34 (fun h => ?_)
        refine s_iconst (v := 1) C (by decide) dX6_strainRows_35 ?_
        refine s_isub C dX6_strainRows_36 ?_
        refine s_iast C (qX6_uses ho) h dX6_strainRows_37 (fun h => ?_)
        exact bX6_strainRows_38 C R hd (ih) ho h
set_option maxRecDepth 4000 in
theorem tX6_strainRows {l : Launch} {E : En} {A : Nat → Prop} {d : Nat} {M M' : Mem} {o : Nat} (hE : Okk E A) (hd : 0 ≤ d) (ho : kd o = (6, 0)) (h : fX6_strainRows o M = some M') : Ct l E A d yX6_strainRows cX6_strainRows 2 none [.ref (ad E o)] M none M' := by
  refine Ct.mk (ls := [some (.ref (ad E o)), none]) hE (by decide +kernel) rfl (Nat.le_of_ble_eq_true rfl) (fun X hXl hXA C R => ?_)
  subst hXl; subst hXA
  unfold fX6_strainRows at h
  refine s_aload0 C dX6_strainRows_0 ?_
  refine gX6_87 C ho dX6_strainRows_1 ?_
  refine s_iconst (v := 1) C (by decide) dX6_strainRows_4 ?_
  refine s_iadd C dX6_strainRows_5 ?_
  refine s_istore1 C rfl dX6_strainRows_6 ?_
  exact bX6_strainRows_7 C R hd  LF _ _ _ ho h
set_option maxRecDepth 4000 in
theorem bX6_takeRow_94 {E : En} {X : Xc} {d : Nat} {M M' : Mem} {o : Nat} {x1 : Int32} {l2 : Int64} {x4 : Int32} {x5 : Int32} {x6 : Int32} (C : Cx E X d cX6_takeRow RX6 7) (R : Rt E X none none M') (hd : 2 ≤ d) {k11 : Nat → Int32 → Int64 → Int32 → Int32 → Int32 → Mem → Option (Mem)} (hk11 : ∀ (o : Nat) (x1 : Int32) (l2 : Int64) (x4 : Int32) (x5 : Int32) (x6 : Int32) (M : Mem) (_ : kd o = (6, 0)), k11 o x1 l2 x4 x5 x6 M = some M' → At E X 11 [some (.ref (ad E o)), some (.int x1), some (.long l2), none, some (.int x4), some (.int x5), some (.int x6)] [] M) (ho : kd o = (6, 0)) (h : fX6_takeRow_94 k11 o x1 l2 x4 x5 x6 M = some M') : At E X 94 [some (.ref (ad E o)), some (.int x1), some (.long l2), none, some (.int x4), some (.int x5), some (.int x6)] [] M := by
  unfold fX6_takeRow_94 at h
  refine s_iinc6 (v := 1) C rfl dX6_takeRow_94 (by decide) ?_
  refine s_goto (tgt := 11) C dX6_takeRow_97 (by decide) ?_
  exact hk11 _ _ _ _ _ _ _ ho h
set_option maxRecDepth 4000 in
theorem bX6_takeRow_11 {E : En} {X : Xc} {d : Nat} {M' : Mem} (C : Cx E X d cX6_takeRow RX6 7) (R : Rt E X none none M') (hd : 2 ≤ d)   : ∀ (n : Nat) (o : Nat) (x1 : Int32) (l2 : Int64) (x4 : Int32) (x5 : Int32) (x6 : Int32) (M : Mem) (_ : kd o = (6, 0)), fX6_takeRow_11  n o x1 l2 x4 x5 x6 M = some M' → At E X 11 [some (.ref (ad E o)), some (.int x1), some (.long l2), none, some (.int x4), some (.int x5), some (.int x6)] [] M := by
  intro n
  induction n with
  | zero => intro o x1 l2 x4 x5 x6 M ho h; rw [fX6_takeRow_11] at h; cases h
  | succ n ih =>
    intro o x1 l2 x4 x5 x6 M ho h
    rw [fX6_takeRow_11] at h
    refine s_iload6 C dX6_takeRow_11 ?_
    refine s_aload0 C dX6_takeRow_13 ?_
    refine gX6_48 C ho dX6_takeRow_14 ?_
    refine s_ic_gt (tgt := 100) C h dX6_takeRow_17 (by decide) ⟨fun h => ?_, fun h => ?_⟩
    · refine s_iload5 C dX6_takeRow_100 ?_
      refine s_if_eq (tgt := 109) C h dX6_takeRow_102 (by decide) ⟨fun h => ?_, fun h => ?_⟩
      · exact s_vret C R h dX6_takeRow_109
      · refine s_aload0 C dX6_takeRow_105 ?_
        obtain ⟨M1, hq, h⟩ := bV_e h
        refine s_callV (T := TX6) (As := []) (v := none) C rfl ho (by decide) rfl (by omega) wX6_124 rfl (Nat.le_of_ble_eq_true rfl) dX6_takeRow_106 (tX6_strainRows C.2.2.2.2.2.2.1 (by omega) ho hq) ?_
        exact s_vret C R h dX6_takeRow_109
    · refine s_iload6 C dX6_takeRow_20 ?_
      refine s_aload0 C dX6_takeRow_22 ?_
      refine gX6_51 C ho dX6_takeRow_23 ?_
      refine s_ic_ne (tgt := 32) C h dX6_takeRow_26 (by decide) ⟨fun h => ?_, fun h => ?_⟩
      · refine s_iconst (v := 1) C (by decide) dX6_takeRow_32 ?_
        refine s_istore5 C rfl dX6_takeRow_33 ?_
        refine s_aload0 C dX6_takeRow_35 ?_
        refine gX6_21 C ho dX6_takeRow_36 ?_
        refine s_aload0 C dX6_takeRow_39 ?_
        refine gX6_27 C ho dX6_takeRow_40 ?_
        refine s_iload6 C dX6_takeRow_43 ?_
        refine s_iald C (qX6_places ho) h dX6_takeRow_45 (fun h => ?_)
        refine s_iald C (qX6_uses ho) h dX6_takeRow_46 (fun h => ?_)
        refine s_if_ne (tgt := 94) C h dX6_takeRow_47 (by decide) ⟨fun h => ?_, fun h => ?_⟩
        · exact bX6_takeRow_94 C R hd (ih) ho h
        · refine s_aload0 C dX6_takeRow_50 ?_
          refine gX6_15 C ho dX6_takeRow_51 ?_
          refine s_aload0 C dX6_takeRow_54 ?_
          refine gX6_27 C ho dX6_takeRow_55 ?_
          refine s_iload6 C dX6_takeRow_58 ?_
          refine s_iald C (qX6_places ho) h dX6_takeRow_60 (fun h => ?_)
          refine s_aload0 C dX6_takeRow_61 ?_
          refine s_iload6 C dX6_takeRow_62 ?_
          refine s_iload1 C dX6_takeRow_64 ?_
          refine s_lload2 C dX6_takeRow_65 ?_
          obtain ⟨r3, M2, hq, h⟩ := bI_e h
          refine s_callV (T := TX6) (As := [.int x6, .int x1, .long l2]) (v := some (.int r3)) C rfl ho (by decide) rfl (by omega) wX6_97 rfl (Nat.le_of_ble_eq_true rfl) dX6_takeRow_66 (tX6_tagOf C.2.2.2.2.2.2.1 (by omega) ho hq) ?_
          refine s_iast C (qX6_tags ho) h dX6_takeRow_69 (fun h => ?_)
          refine s_aload0 C dX6_takeRow_70 ?_
          refine gX6_18 C ho dX6_takeRow_71 ?_
          refine s_aload0 C dX6_takeRow_74 ?_
          refine gX6_27 C ho dX6_takeRow_75 ?_
          refine s_iload6 C dX6_takeRow_78 ?_
          refine s_iald C (qX6_places ho) h dX6_takeRow_80 (fun h => ?_)
          refine s_iload4 C dX6_takeRow_81 ?_
          refine s_iconst (v := 1) C (by decide) dX6_takeRow_83 ?_
          refine s_ic_ne (tgt := 91) C h dX6_takeRow_84 (by decide) ⟨fun h => ?_, fun h => ?_⟩
          · refine s_iconst (v := -1) C (by decide) dX6_takeRow_91 ?_
            refine s_iast C (qX6_counts ho) h dX6_takeRow_92 (fun h => ?_)
            exact s_vret C R h dX6_takeRow_93
          · refine s_iconst (v := 0) C (by decide) dX6_takeRow_87 ?_
            refine s_goto (tgt := 92) C dX6_takeRow_88 (by decide) ?_
            refine s_iast C (qX6_counts ho) h dX6_takeRow_92 (fun h => ?_)
            exact s_vret C R h dX6_takeRow_93
      · refine s_goto (tgt := 94) C dX6_takeRow_29 (by decide) ?_
        exact bX6_takeRow_94 C R hd (ih) ho h
set_option maxRecDepth 4000 in
theorem tX6_takeRow {l : Launch} {E : En} {A : Nat → Prop} {d : Nat} {M M' : Mem} {o : Nat} {x1 : Int32} {l2 : Int64} {x4 : Int32} (hE : Okk E A) (hd : 2 ≤ d) (ho : kd o = (6, 0)) (h : fX6_takeRow o x1 l2 x4 M = some M') : Ct l E A d yX6_takeRow cX6_takeRow 7 none [.ref (ad E o), .int x1, .long l2, .int x4] M none M' := by
  refine Ct.mk (ls := [some (.ref (ad E o)), some (.int x1), some (.long l2), none, some (.int x4), none, none]) hE (by decide +kernel) rfl (Nat.le_of_ble_eq_true rfl) (fun X hXl hXA C R => ?_)
  subst hXl; subst hXA
  unfold fX6_takeRow at h
  refine s_iconst (v := 0) C (by decide) dX6_takeRow_0 ?_
  refine s_istore5 C rfl dX6_takeRow_1 ?_
  refine s_aload0 C dX6_takeRow_3 ?_
  refine gX6_87 C ho dX6_takeRow_4 ?_
  refine s_iconst (v := 1) C (by decide) dX6_takeRow_7 ?_
  refine s_iadd C dX6_takeRow_8 ?_
  refine s_istore6 C rfl dX6_takeRow_9 ?_
  exact bX6_takeRow_11 C R hd  LF _ _ _ _ _ _ _ ho h
set_option maxRecDepth 4000 in
theorem bX1_learn_89 {E : En} {X : Xc} {d : Nat} {M M' : Mem} {o : Nat} {x1 : Int32} (C : Cx E X d cX1_learn RX1 2) (R : Rt E X none none M') (hd : 4 ≤ d)   (ho : kd o = (1, 0)) (h : fX1_learn_89  o x1 M = some M') : At E X 89 [some (.ref (ad E o)), some (.int x1)] [] M := by
  unfold fX1_learn_89 at h
  refine s_aload0 C dX1_learn_89 ?_
  refine s_aload0 C dX1_learn_90 ?_
  refine gX1_52 C ho dX1_learn_91 ?_
  refine s_iconst (v := 1) C (by decide) dX1_learn_94 ?_
  refine s_lshl C dX1_learn_95 ?_
  refine s_iload1 C dX1_learn_96 ?_
  refine s_i2l C dX1_learn_97 ?_
  refine s_lor C dX1_learn_98 ?_
  refine pX1_52 C ho dX1_learn_99 ?_
  refine s_aload0 C dX1_learn_102 ?_
  refine s_dup C rfl dX1_learn_103 ?_
  refine gX1_56 C ho dX1_learn_104 ?_
  refine s_iconst (v := 1) C (by decide) dX1_learn_107 ?_
  refine s_iadd C dX1_learn_108 ?_
  refine pX1_56 C ho dX1_learn_109 ?_
  exact s_vret C R h dX1_learn_112
set_option maxRecDepth 4000 in
theorem bX1_learn_49 {E : En} {X : Xc} {d : Nat} {M M' : Mem} {o : Nat} {x1 : Int32} (C : Cx E X d cX1_learn RX1 2) (R : Rt E X none none M') (hd : 4 ≤ d)   (ho : kd o = (1, 0)) (h : fX1_learn_49  o x1 M = some M') : At E X 49 [some (.ref (ad E o)), some (.int x1)] [] M := by
  unfold fX1_learn_49 at h
  refine s_aload0 C dX1_learn_49 ?_
  refine gX1_12 C ho dX1_learn_50 ?_
  refine s_iload1 C dX1_learn_53 ?_
  refine s_aload0 C dX1_learn_54 ?_
  refine s_iconst (v := 4) C (by decide) dX1_learn_55 ?_
  obtain ⟨r2, M1, hq, h⟩ := bI_e h
  refine s_callV (T := TX1) (As := [.int (4 : Int32)]) (v := some (.int r2)) C rfl ho (by decide) rfl (by omega) wX1_62 rfl (Nat.le_of_ble_eq_true rfl) dX1_learn_56 (tX1_has C.2.2.2.2.2.2.1 (by omega) ho hq) ?_
  obtain ⟨M3, hq, h⟩ := bV_e h
  refine s_callV (T := TX6) (As := [.int x1, .int r2]) (v := none) C rfl (qX1_tables ho) (by decide) rfl (by omega) wX1_97 rfl (Nat.le_of_ble_eq_true rfl) dX1_learn_59 (tX6_learn C.2.2.2.2.2.2.1 (by omega) (qX1_tables ho) hq) ?_
  refine s_aload0 C dX1_learn_62 ?_
  refine gX1_12 C ho dX1_learn_63 ?_
  refine gX1_70 C (qX1_tables ho) dX1_learn_66 ?_
  refine s_iload1 C dX1_learn_69 ?_
  refine s_ic_eq (tgt := 89) C h dX1_learn_70 (by decide) ⟨fun h => ?_, fun h => ?_⟩
  · exact bX1_learn_89 C R hd  ho h
  · refine s_aload0 C dX1_learn_73 ?_
    refine gX1_12 C ho dX1_learn_74 ?_
    refine s_aload0 C dX1_learn_77 ?_
    refine gX1_59 C ho dX1_learn_78 ?_
    refine s_aload0 C dX1_learn_81 ?_
    refine gX1_52 C ho dX1_learn_82 ?_
    refine s_iload1 C dX1_learn_85 ?_
    obtain ⟨M4, hq, h⟩ := bV_e h
    refine s_callV (T := TX6) (As := [.int (M3.1 o 6), .long (M3.2 o 4), .int x1]) (v := none) C rfl (qX1_tables ho) (by decide) rfl (by omega) wX1_100 rfl (Nat.le_of_ble_eq_true rfl) dX1_learn_86 (tX6_takeRow C.2.2.2.2.2.2.1 (by omega) (qX1_tables ho) hq) ?_
    exact bX1_learn_89 C R hd  ho h
set_option maxRecDepth 4000 in
theorem bX1_learn_33 {E : En} {X : Xc} {d : Nat} {M M' : Mem} {o : Nat} {x1 : Int32} (C : Cx E X d cX1_learn RX1 2) (R : Rt E X none none M') (hd : 4 ≤ d)   (ho : kd o = (1, 0)) (h : fX1_learn_33  o x1 M = some M') : At E X 33 [some (.ref (ad E o)), some (.int x1)] [] M := by
  unfold fX1_learn_33 at h
  refine s_aload0 C dX1_learn_33 ?_
  refine s_iconst (v := 2) C (by decide) dX1_learn_34 ?_
  obtain ⟨r2, M1, hq, h⟩ := bI_e h
  refine s_callV (T := TX1) (As := [.int (2 : Int32)]) (v := some (.int r2)) C rfl ho (by decide) rfl (by omega) wX1_62 rfl (Nat.le_of_ble_eq_true rfl) dX1_learn_35 (tX1_has C.2.2.2.2.2.2.1 (by omega) ho hq) ?_
  refine s_if_eq (tgt := 49) C h dX1_learn_38 (by decide) ⟨fun h => ?_, fun h => ?_⟩
  · exact bX1_learn_49 C R hd  ho h
  · refine s_aload0 C dX1_learn_41 ?_
    refine gX1_28 C ho dX1_learn_42 ?_
    refine s_iload1 C dX1_learn_45 ?_
    obtain ⟨M3, hq, h⟩ := bV_e h
    refine s_callV (T := TX0) (As := [.int x1]) (v := none) C rfl (qX1_corrector ho) (by decide) rfl (by omega) wX1_94 rfl (Nat.le_of_ble_eq_true rfl) dX1_learn_46 (tX0_learn C.2.2.2.2.2.2.1 (by omega) (qX1_corrector ho) hq) ?_
    exact bX1_learn_49 C R hd  ho h
set_option maxRecDepth 4000 in
theorem bX1_learn_30 {E : En} {X : Xc} {d : Nat} {M M' : Mem} {o : Nat} {x1 : Int32} {so0 : Nat} {sx1 : Int32} {sx2 : Int32} {sx3 : Int32} (C : Cx E X d cX1_learn RX1 2) (R : Rt E X none none M') (hd : 4 ≤ d)   (ho : kd o = (1, 0)) (hso0 : kd so0 = (2, 0)) (h : fX1_learn_30  o x1 so0 sx1 sx2 sx3 M = some M') : At E X 30 [some (.ref (ad E o)), some (.int x1)] [.int sx3, .int sx2, .int sx1, .ref (ad E so0)] M := by
  unfold fX1_learn_30 at h
  obtain ⟨M1, hq, h⟩ := bV_e h
  refine s_callV (T := TX2) (As := [.int sx1, .int sx2, .int sx3]) (v := none) C rfl hso0 (by decide) rfl (by omega) wX1_90 rfl (Nat.le_of_ble_eq_true rfl) dX1_learn_30 (tX2_learn C.2.2.2.2.2.2.1 (by omega) hso0 hq) ?_
  exact bX1_learn_33 C R hd  ho h
set_option maxRecDepth 4000 in
theorem tX1_learn {l : Launch} {E : En} {A : Nat → Prop} {d : Nat} {M M' : Mem} {o : Nat} {x1 : Int32} (hE : Okk E A) (hd : 4 ≤ d) (ho : kd o = (1, 0)) (h : fX1_learn o x1 M = some M') : Ct l E A d yX1_learn cX1_learn 2 none [.ref (ad E o), .int x1] M none M' := by
  refine Ct.mk (ls := [some (.ref (ad E o)), some (.int x1)]) hE (by decide +kernel) rfl (Nat.le_of_ble_eq_true rfl) (fun X hXl hXA C R => ?_)
  subst hXl; subst hXA
  unfold fX1_learn at h
  refine s_aload0 C dX1_learn_0 ?_
  refine s_iconst (v := 1) C (by decide) dX1_learn_1 ?_
  obtain ⟨r2, M1, hq, h⟩ := bI_e h
  refine s_callV (T := TX1) (As := [.int (1 : Int32)]) (v := some (.int r2)) C rfl ho (by decide) rfl (by omega) wX1_62 rfl (Nat.le_of_ble_eq_true rfl) dX1_learn_2 (tX1_has C.2.2.2.2.2.2.1 (by omega) ho hq) ?_
  refine s_if_eq (tgt := 33) C h dX1_learn_5 (by decide) ⟨fun h => ?_, fun h => ?_⟩
  · exact bX1_learn_33 C R hd  ho h
  · refine s_aload0 C dX1_learn_8 ?_
    refine gX1_21 C ho dX1_learn_9 ?_
    refine s_aload0 C dX1_learn_12 ?_
    refine gX1_59 C ho dX1_learn_13 ?_
    refine s_iload1 C dX1_learn_16 ?_
    refine s_aload0 C dX1_learn_17 ?_
    refine gX1_81 C ho dX1_learn_18 ?_
    refine s_iload1 C dX1_learn_21 ?_
    refine s_ic_eq (tgt := 29) C h dX1_learn_22 (by decide) ⟨fun h => ?_, fun h => ?_⟩
    · refine s_iconst (v := 0) C (by decide) dX1_learn_29 ?_
      exact bX1_learn_30 C R hd  ho (qX1_loops ho) h
    · refine s_iconst (v := 1) C (by decide) dX1_learn_25 ?_
      refine s_goto (tgt := 30) C dX1_learn_26 (by decide) ?_
      exact bX1_learn_30 C R hd  ho (qX1_loops ho) h
set_option maxRecDepth 4000 in
theorem tX9_record {l : Launch} {E : En} {A : Nat → Prop} {d : Nat} {M M' : Mem} {o : Nat} {x1 : Int32} (hE : Okk E A) (hd : 5 ≤ d) (ho : kd o = (9, 0)) (h : fX9_record o x1 M = some M') : Ct l E A d yX9_record cX9_record 2 none [.ref (ad E o), .int x1] M none M' := by
  refine Ct.mk (ls := [some (.ref (ad E o)), some (.int x1)]) hE (by decide +kernel) rfl (Nat.le_of_ble_eq_true rfl) (fun X hXl hXA C R => ?_)
  subst hXl; subst hXA
  unfold fX9_record at h
  refine s_aload0 C dX9_record_0 ?_
  refine gX9_51 C ho dX9_record_1 ?_
  refine s_aload0 C dX9_record_4 ?_
  refine gX9_44 C ho dX9_record_5 ?_
  refine s_iload1 C dX9_record_8 ?_
  refine s_iconst (v := 0) C (by decide) dX9_record_9 ?_
  obtain ⟨r2, M1, hq, h⟩ := bI_e h
  refine s_callV (T := TX8) (As := [.int x1, .int (0 : Int32)]) (v := some (.int r2)) C rfl (qX9_trail ho) (by decide) rfl (by omega) wX9_140 rfl (Nat.le_of_ble_eq_true rfl) dX9_record_10 (tX8_fact C.2.2.2.2.2.2.1 (by omega) (qX9_trail ho) hq) ?_
  obtain ⟨r4, M3, hq, h⟩ := bI_e h
  refine s_callV (T := TX1) (As := [.int r2]) (v := some (.int r4)) C rfl (qX9_own ho) (by decide) rfl (by omega) wX9_358 rfl (Nat.le_of_ble_eq_true rfl) dX9_record_13 (tX1_ask C.2.2.2.2.2.2.1 (by omega) (qX9_own ho) hq) ?_
  refine s_pop C rfl dX9_record_16 ?_
  refine s_aload0 C dX9_record_17 ?_
  refine gX9_44 C ho dX9_record_18 ?_
  refine s_iload1 C dX9_record_21 ?_
  refine s_aload0 C dX9_record_22 ?_
  refine gX9_51 C ho dX9_record_23 ?_
  obtain ⟨M5, hq, h⟩ := bV_e h
  refine s_callV (T := TX8) (As := [.int x1, .ref (ad E (o + 41))]) (v := none) C rfl (qX9_trail ho) (by decide) rfl (by omega) wX9_409 rfl (Nat.le_of_ble_eq_true rfl) dX9_record_26 (tX8_note C.2.2.2.2.2.2.1 (by omega) (qX9_trail ho) (qX9_own ho) hq) ?_
  refine s_aload0 C dX9_record_29 ?_
  refine gX9_51 C ho dX9_record_30 ?_
  refine s_aload0 C dX9_record_33 ?_
  refine gX9_44 C ho dX9_record_34 ?_
  refine s_iload1 C dX9_record_37 ?_
  refine s_iconst (v := 1) C (by decide) dX9_record_38 ?_
  obtain ⟨r7, M6, hq, h⟩ := bI_e h
  refine s_callV (T := TX8) (As := [.int x1, .int (1 : Int32)]) (v := some (.int r7)) C rfl (qX9_trail ho) (by decide) rfl (by omega) wX9_140 rfl (Nat.le_of_ble_eq_true rfl) dX9_record_39 (tX8_fact C.2.2.2.2.2.2.1 (by omega) (qX9_trail ho) hq) ?_
  obtain ⟨M8, hq, h⟩ := bV_e h
  refine s_callV (T := TX1) (As := [.int r7]) (v := none) C rfl (qX9_own ho) (by decide) rfl (by omega) wX9_361 rfl (Nat.le_of_ble_eq_true rfl) dX9_record_42 (tX1_learn C.2.2.2.2.2.2.1 (by omega) (qX9_own ho) hq) ?_
  exact s_vret C R h dX9_record_45
set_option maxRecDepth 4000 in
theorem bX9_rebuild_84 {E : En} {X : Xc} {d : Nat} {M' : Mem} (C : Cx E X d cX9_rebuild RX9 2) (R : Rt E X none none M') (hd : 6 ≤ d)   : ∀ (n : Nat) (o : Nat) (x1 : Int32) (M : Mem) (_ : kd o = (9, 0)), fX9_rebuild_84  n o x1 M = some M' → At E X 84 [some (.ref (ad E o)), some (.int x1)] [] M := by
  intro n
  induction n with
  | zero => intro o x1 M ho h; rw [fX9_rebuild_84] at h; cases h
  | succ n ih =>
    intro o x1 M ho h
    rw [fX9_rebuild_84] at h
    refine s_iload1 C dX9_rebuild_84 ?_
    refine s_aload0 C dX9_rebuild_85 ?_
    refine gX9_44 C ho dX9_rebuild_86 ?_
    refine gX9_157 C (qX9_trail ho) dX9_rebuild_89 ?_
    refine s_ic_ge (tgt := 106) C h dX9_rebuild_92 (by decide) ⟨fun h => ?_, fun h => ?_⟩
    · exact s_vret C R h dX9_rebuild_106
    · refine s_aload0 C dX9_rebuild_95 ?_
      refine s_iload1 C dX9_rebuild_96 ?_
      obtain ⟨M1, hq, h⟩ := bV_e h
      refine s_callV (T := TX9) (As := [.int x1]) (v := none) C rfl ho (by decide) rfl (by omega) wX9_377 rfl (Nat.le_of_ble_eq_true rfl) dX9_rebuild_97 (tX9_record C.2.2.2.2.2.2.1 (by omega) ho hq) ?_
      refine s_iinc1 (v := 1) C rfl dX9_rebuild_100 (by decide) ?_
      refine s_goto (tgt := 84) C dX9_rebuild_103 (by decide) ?_
      exact ih _ _ _ ho h
set_option maxRecDepth 4000 in
theorem bX9_rebuild_35 {E : En} {X : Xc} {d : Nat} {M' : Mem} (C : Cx E X d cX9_rebuild RX9 2) (R : Rt E X none none M') (hd : 6 ≤ d)   : ∀ (n : Nat) (o : Nat) (x1 : Int32) (M : Mem) (_ : kd o = (9, 0)), fX9_rebuild_35  n o x1 M = some M' → At E X 35 [some (.ref (ad E o)), some (.int x1)] [] M := by
  intro n
  induction n with
  | zero => intro o x1 M ho h; rw [fX9_rebuild_35] at h; cases h
  | succ n ih =>
    intro o x1 M ho h
    rw [fX9_rebuild_35] at h
    refine s_iload1 C dX9_rebuild_35 ?_
    refine s_aload0 C dX9_rebuild_36 ?_
    refine gX9_23 C ho dX9_rebuild_37 ?_
    refine gX9_367 C (qX9_told ho) dX9_rebuild_40 ?_
    refine s_ic_ge (tgt := 82) C h dX9_rebuild_43 (by decide) ⟨fun h => ?_, fun h => ?_⟩
    · refine s_iconst (v := 0) C (by decide) dX9_rebuild_82 ?_
      refine s_istore1 C rfl dX9_rebuild_83 ?_
      exact bX9_rebuild_84 C R hd  LF _ _ _ ho h
    · refine s_aload0 C dX9_rebuild_46 ?_
      refine gX9_44 C ho dX9_rebuild_47 ?_
      refine s_aload0 C dX9_rebuild_50 ?_
      refine gX9_23 C ho dX9_rebuild_51 ?_
      refine gX9_370 C (qX9_told ho) dX9_rebuild_54 ?_
      refine s_iload1 C dX9_rebuild_57 ?_
      refine s_iald C (qX7_acts (qX9_told ho)) h dX9_rebuild_58 (fun h => ?_)
      refine s_iconst (v := 2) C (by decide) dX9_rebuild_59 ?_
      refine s_idivc C (by decide) dX9_rebuild_60 ?_
      refine s_aload0 C dX9_rebuild_61 ?_
      refine gX9_23 C ho dX9_rebuild_62 ?_
      refine gX9_370 C (qX9_told ho) dX9_rebuild_65 ?_
      refine s_iload1 C dX9_rebuild_68 ?_
      refine s_iald C (qX7_acts (qX9_told ho)) h dX9_rebuild_69 (fun h => ?_)
      refine s_iconst (v := 2) C (by decide) dX9_rebuild_70 ?_
      refine s_iremc C (by decide) dX9_rebuild_71 ?_
      refine s_iconst (v := -1) C (by decide) dX9_rebuild_72 ?_
      obtain ⟨M1, hq, h⟩ := bV_e h
      refine s_callV (T := TX8) (As := [.int ((M.1 ((o + 9) + 5) (tn x1)) / (2 : Int32)), .int (irm (M.1 ((o + 9) + 5) (tn x1)) (2 : Int32)), .int (-1 : Int32)]) (v := none) C rfl (qX9_trail ho) (by decide) rfl (by omega) wX9_373 rfl (Nat.le_of_ble_eq_true rfl) dX9_rebuild_73 (tX8_add C.2.2.2.2.2.2.1 (by omega) (qX9_trail ho) hq) ?_
      refine s_iinc1 (v := 1) C rfl dX9_rebuild_76 (by decide) ?_
      refine s_goto (tgt := 35) C dX9_rebuild_79 (by decide) ?_
      exact ih _ _ _ ho h
set_option maxRecDepth 4000 in
theorem tX9_rebuild {l : Launch} {E : En} {A : Nat → Prop} {d : Nat} {M M' : Mem} {o : Nat} (hE : Okk E A) (hd : 6 ≤ d) (ho : kd o = (9, 0)) (h : fX9_rebuild o M = some M') : Ct l E A d yX9_rebuild cX9_rebuild 2 none [.ref (ad E o)] M none M' := by
  refine Ct.mk (ls := [some (.ref (ad E o)), none]) hE (by decide +kernel) rfl (Nat.le_of_ble_eq_true rfl) (fun X hXl hXA C R => ?_)
  subst hXl; subst hXA
  unfold fX9_rebuild at h
  refine s_aload0 C dX9_rebuild_0 ?_
  refine gX9_44 C ho dX9_rebuild_1 ?_
  obtain ⟨M1, hq, h⟩ := bV_e h
  refine s_callV (T := TX8) (As := []) (v := none) C rfl (qX9_trail ho) (by decide) rfl (by omega) wX9_402 rfl (Nat.le_of_ble_eq_true rfl) dX9_rebuild_4 (tX8_clear C.2.2.2.2.2.2.1 (by omega) (qX9_trail ho) hq) ?_
  refine s_aload0 C dX9_rebuild_7 ?_
  refine gX9_51 C ho dX9_rebuild_8 ?_
  refine s_aload0 C dX9_rebuild_11 ?_
  refine gX9_23 C ho dX9_rebuild_12 ?_
  obtain ⟨M2, hq, h⟩ := bV_e h
  refine s_callV (T := TX1) (As := [.ref (ad E (o + 9))]) (v := none) C rfl (qX9_own ho) (by decide) rfl (by omega) wX9_350 rfl (Nat.le_of_ble_eq_true rfl) dX9_rebuild_15 (tX1_setAs C.2.2.2.2.2.2.1 (by omega) (qX9_own ho) (qX9_told ho) hq) ?_
  refine s_aload0 C dX9_rebuild_18 ?_
  refine gX9_37 C ho dX9_rebuild_19 ?_
  refine s_aload0 C dX9_rebuild_22 ?_
  refine gX9_23 C ho dX9_rebuild_23 ?_
  refine s_aload0 C dX9_rebuild_26 ?_
  refine gX9_44 C ho dX9_rebuild_27 ?_
  obtain ⟨M3, hq, h⟩ := bV_e h
  refine s_callV (T := TX4) (As := [.ref (ad E (o + 9)), .ref (ad E (o + 39))]) (v := none) C rfl (qX9_run ho) (by decide) rfl (by omega) wX9_405 rfl (Nat.le_of_ble_eq_true rfl) dX9_rebuild_30 (tX4_follow C.2.2.2.2.2.2.1 (by omega) (qX9_run ho) (qX9_told ho) (qX9_trail ho) hq) ?_
  refine s_iconst (v := 0) C (by decide) dX9_rebuild_33 ?_
  refine s_istore1 C rfl dX9_rebuild_34 ?_
  exact bX9_rebuild_35 C R hd  LF _ _ _ ho h
set_option maxRecDepth 4000 in
theorem tX9_program {l : Launch} {E : En} {A : Nat → Prop} {d : Nat} {r : Int32} {M M' : Mem} {o : Nat} (hE : Okk E A) (hd : 10 ≤ d) (ho : kd o = (9, 0)) (h : fX9_program o M = some (r, M')) : Ct l E A d yX9_program cX9_program 1 (some .int) [.ref (ad E o)] M (some (.int r)) M' := by
  refine Ct.mk (ls := [some (.ref (ad E o))]) hE (by decide +kernel) rfl (Nat.le_of_ble_eq_true rfl) (fun X hXl hXA C R => ?_)
  subst hXl; subst hXA
  unfold fX9_program at h
  refine s_aload0 C dX9_program_0 ?_
  refine gX9_12 C ho dX9_program_1 ?_
  refine s_aload0 C dX9_program_4 ?_
  refine gX9_19 C ho dX9_program_5 ?_
  obtain ⟨r2, M1, hq, h⟩ := bI_e h
  refine s_callV (T := TX3) (As := [.ref (ad E (o + 3))]) (v := some (.int r2)) C rfl (qX9_reader ho) (by decide) rfl (by omega) wX9_81 rfl (Nat.le_of_ble_eq_true rfl) dX9_program_8 (tX3_readInto C.2.2.2.2.2.2.1 (by omega) (qX9_reader ho) (qX9_draft ho) hq) ?_
  refine s_if_ne (tgt := 17) C h dX9_program_11 (by decide) ⟨fun h => ?_, fun h => ?_⟩
  · refine s_aload0 C dX9_program_17 ?_
    refine gX9_23 C ho dX9_program_18 ?_
    refine s_aload0 C dX9_program_21 ?_
    refine gX9_19 C ho dX9_program_22 ?_
    obtain ⟨M3, hq, h⟩ := bV_e h
    refine s_callV (T := TX7) (As := [.ref (ad E (o + 3))]) (v := none) C rfl (qX9_told ho) (by decide) rfl (by omega) wX9_85 rfl (Nat.le_of_ble_eq_true rfl) dX9_program_25 (tX7_copyFrom C.2.2.2.2.2.2.1 (by omega) (qX9_told ho) (qX9_draft ho) hq) ?_
    refine s_aload0 C dX9_program_28 ?_
    obtain ⟨M4, hq, h⟩ := bV_e h
    refine s_callV (T := TX9) (As := []) (v := none) C rfl ho (by decide) rfl (by omega) wX9_89 rfl (Nat.le_of_ble_eq_true rfl) dX9_program_29 (tX9_rebuild C.2.2.2.2.2.2.1 (by omega) ho hq) ?_
    refine s_aload0 C dX9_program_32 ?_
    refine gX9_23 C ho dX9_program_33 ?_
    refine gX9_92 C (qX9_told ho) dX9_program_36 ?_
    exact s_iret C R h dX9_program_39
  · refine s_bipush (v := -4) C (by decide) dX9_program_14 ?_
    exact s_iret C R h dX9_program_16
set_option maxRecDepth 4000 in
theorem tX9_fault {l : Launch} {E : En} {A : Nat → Prop} {d : Nat} {r : Int32} {M M' : Mem} {o : Nat} {x1 : Int32} (hE : Okk E A) (hd : 0 ≤ d) (ho : kd o = (9, 0)) (h : fX9_fault o x1 M = some (r, M')) : Ct l E A d yX9_fault cX9_fault 2 (some .int) [.ref (ad E o), .int x1] M (some (.int r)) M' := by
  refine Ct.mk (ls := [some (.ref (ad E o)), some (.int x1)]) hE (by decide +kernel) rfl (Nat.le_of_ble_eq_true rfl) (fun X hXl hXA C R => ?_)
  subst hXl; subst hXA
  unfold fX9_fault at h
  refine s_iload1 C dX9_fault_0 ?_
  refine s_if_ne (tgt := 12) C h dX9_fault_1 (by decide) ⟨fun h => ?_, fun h => ?_⟩
  · refine s_iload1 C dX9_fault_12 ?_
    refine s_iconst (v := 1) C (by decide) dX9_fault_13 ?_
    refine s_ic_ne (tgt := 27) C h dX9_fault_14 (by decide) ⟨fun h => ?_, fun h => ?_⟩
    · refine s_iconst (v := -1) C (by decide) dX9_fault_27 ?_
      exact s_iret C R h dX9_fault_28
    · refine s_aload0 C dX9_fault_17 ?_
      refine gX9_12 C ho dX9_fault_18 ?_
      refine gX9_98 C (qX9_reader ho) dX9_fault_21 ?_
      refine s_goto (tgt := 28) C dX9_fault_24 (by decide) ?_
      exact s_iret C R h dX9_fault_28
  · refine s_aload0 C dX9_fault_4 ?_
    refine gX9_12 C ho dX9_fault_5 ?_
    refine gX9_95 C (qX9_reader ho) dX9_fault_8 ?_
    exact s_iret C R h dX9_fault_11
set_option maxRecDepth 4000 in
theorem tX9_op {l : Launch} {E : En} {A : Nat → Prop} {d : Nat} {r : Int32} {M M' : Mem} {o : Nat} {x1 : Int32} {x2 : Int32} (hE : Okk E A) (hd : 2 ≤ d) (ho : kd o = (9, 0)) (h : fX9_op o x1 x2 M = some (r, M')) : Ct l E A d yX9_op cX9_op 3 (some .int) [.ref (ad E o), .int x1, .int x2] M (some (.int r)) M' := by
  refine Ct.mk (ls := [some (.ref (ad E o)), some (.int x1), some (.int x2)]) hE (by decide +kernel) rfl (Nat.le_of_ble_eq_true rfl) (fun X hXl hXA C R => ?_)
  subst hXl; subst hXA
  unfold fX9_op at h
  refine s_aload0 C dX9_op_0 ?_
  refine gX9_23 C ho dX9_op_1 ?_
  refine s_iload1 C dX9_op_4 ?_
  obtain ⟨r2, M1, hq, h⟩ := bI_e h
  refine s_callV (T := TX7) (As := [.int x1]) (v := some (.int r2)) C rfl (qX9_told ho) (by decide) rfl (by omega) wX9_101 rfl (Nat.le_of_ble_eq_true rfl) dX9_op_5 (tX7_hasOp C.2.2.2.2.2.2.1 (by omega) (qX9_told ho) hq) ?_
  refine s_if_eq (tgt := 23) C h dX9_op_8 (by decide) ⟨fun h => ?_, fun h => ?_⟩
  · refine s_bipush (v := -2) C (by decide) dX9_op_23 ?_
    exact s_iret C R h dX9_op_25
  · refine s_iload2 C dX9_op_11 ?_
    refine s_i2l C dX9_op_12 ?_
    refine s_lconst (v := 0) C (by decide) dX9_op_13 ?_
    refine s_ldc2 (v := 3) C k_867 dX9_op_14 ?_
    obtain ⟨r4, M3, hq, h⟩ := bI_e h
    refine s_callS (As := [.long (x2).toInt64, .long (0 : Int64), .long (3 : Int64)]) (v := some (.int r4)) C rfl (by omega) wX9_77 rfl (Nat.le_of_ble_eq_true rfl) dX9_op_17 (tX9_within C.2.2.2.2.2.2.1 (by omega)  hq) ?_
    refine s_if_ne (tgt := 26) C h dX9_op_20 (by decide) ⟨fun h => ?_, fun h => ?_⟩
    · refine s_iload2 C dX9_op_26 ?_
      refine s_if_ne (tgt := 42) C h dX9_op_27 (by decide) ⟨fun h => ?_, fun h => ?_⟩
      · refine s_aload0 C dX9_op_42 ?_
        refine gX9_23 C ho dX9_op_43 ?_
        refine gX9_110 C (qX9_told ho) dX9_op_46 ?_
        refine s_iconst (v := 3) C (by decide) dX9_op_49 ?_
        refine s_iload1 C dX9_op_50 ?_
        refine s_imul C dX9_op_51 ?_
        refine s_iload2 C dX9_op_52 ?_
        refine s_iadd C dX9_op_53 ?_
        refine s_iconst (v := 1) C (by decide) dX9_op_54 ?_
        refine s_isub C dX9_op_55 ?_
        refine s_iald C (qX7_numbers (qX9_told ho)) h dX9_op_56 (fun h => ?_)
        exact s_iret C R h dX9_op_57
      · refine s_aload0 C dX9_op_30 ?_
        refine gX9_23 C ho dX9_op_31 ?_
        refine gX9_107 C (qX9_told ho) dX9_op_34 ?_
        refine s_iload1 C dX9_op_37 ?_
        refine s_iald C (qX7_kinds (qX9_told ho)) h dX9_op_38 (fun h => ?_)
        refine s_goto (tgt := 57) C dX9_op_39 (by decide) ?_
        exact s_iret C R h dX9_op_57
    · refine s_bipush (v := -2) C (by decide) dX9_op_23 ?_
      exact s_iret C R h dX9_op_25
set_option maxRecDepth 4000 in
theorem tX9_isTold {l : Launch} {E : En} {A : Nat → Prop} {d : Nat} {r : Int32} {M M' : Mem} {o : Nat} (hE : Okk E A) (hd : 0 ≤ d) (ho : kd o = (9, 0)) (h : fX9_isTold o M = some (r, M')) : Ct l E A d yX9_isTold cX9_isTold 1 (some .boolean) [.ref (ad E o)] M (some (.int r)) M' := by
  refine Ct.mk (ls := [some (.ref (ad E o))]) hE (by decide +kernel) rfl (Nat.le_of_ble_eq_true rfl) (fun X hXl hXA C R => ?_)
  subst hXl; subst hXA
  unfold fX9_isTold at h
  refine s_aload0 C dX9_isTold_0 ?_
  refine gX9_23 C ho dX9_isTold_1 ?_
  refine gX9_92 C (qX9_told ho) dX9_isTold_4 ?_
  refine s_if_le (tgt := 14) C h dX9_isTold_7 (by decide) ⟨fun h => ?_, fun h => ?_⟩
  · refine s_iconst (v := 0) C (by decide) dX9_isTold_14 ?_
    exact s_zret C R h rfl dX9_isTold_15
  · refine s_iconst (v := 1) C (by decide) dX9_isTold_10 ?_
    refine s_goto (tgt := 15) C dX9_isTold_11 (by decide) ?_
    exact s_zret C R h rfl dX9_isTold_15
set_option maxRecDepth 4000 in
theorem tX9_steps {l : Launch} {E : En} {A : Nat → Prop} {d : Nat} {r : Int32} {M M' : Mem} {o : Nat} (hE : Okk E A) (hd : 1 ≤ d) (ho : kd o = (9, 0)) (h : fX9_steps o M = some (r, M')) : Ct l E A d yX9_steps cX9_steps 1 (some .int) [.ref (ad E o)] M (some (.int r)) M' := by
  refine Ct.mk (ls := [some (.ref (ad E o))]) hE (by decide +kernel) rfl (Nat.le_of_ble_eq_true rfl) (fun X hXl hXA C R => ?_)
  subst hXl; subst hXA
  unfold fX9_steps at h
  refine s_aload0 C dX9_steps_0 ?_
  obtain ⟨r2, M1, hq, h⟩ := bI_e h
  refine s_callV (T := TX9) (As := []) (v := some (.int r2)) C rfl ho (by decide) rfl (by omega) wX9_113 rfl (Nat.le_of_ble_eq_true rfl) dX9_steps_1 (tX9_isTold C.2.2.2.2.2.2.1 (by omega) ho hq) ?_
  refine s_if_eq (tgt := 17) C h dX9_steps_4 (by decide) ⟨fun h => ?_, fun h => ?_⟩
  · refine s_bipush (v := -2) C (by decide) dX9_steps_17 ?_
    exact s_iret C R h dX9_steps_19
  · refine s_aload0 C dX9_steps_7 ?_
    refine gX9_37 C ho dX9_steps_8 ?_
    refine gX9_117 C (qX9_run ho) dX9_steps_11 ?_
    refine s_goto (tgt := 19) C dX9_steps_14 (by decide) ?_
    exact s_iret C R h dX9_steps_19
set_option maxRecDepth 4000 in
theorem tX9_why {l : Launch} {E : En} {A : Nat → Prop} {d : Nat} {r : Int32} {M M' : Mem} {o : Nat} (hE : Okk E A) (hd : 1 ≤ d) (ho : kd o = (9, 0)) (h : fX9_why o M = some (r, M')) : Ct l E A d yX9_why cX9_why 1 (some .int) [.ref (ad E o)] M (some (.int r)) M' := by
  refine Ct.mk (ls := [some (.ref (ad E o))]) hE (by decide +kernel) rfl (Nat.le_of_ble_eq_true rfl) (fun X hXl hXA C R => ?_)
  subst hXl; subst hXA
  unfold fX9_why at h
  refine s_aload0 C dX9_why_0 ?_
  obtain ⟨r2, M1, hq, h⟩ := bI_e h
  refine s_callV (T := TX9) (As := []) (v := some (.int r2)) C rfl ho (by decide) rfl (by omega) wX9_113 rfl (Nat.le_of_ble_eq_true rfl) dX9_why_1 (tX9_isTold C.2.2.2.2.2.2.1 (by omega) ho hq) ?_
  refine s_if_eq (tgt := 17) C h dX9_why_4 (by decide) ⟨fun h => ?_, fun h => ?_⟩
  · refine s_bipush (v := -2) C (by decide) dX9_why_17 ?_
    exact s_iret C R h dX9_why_19
  · refine s_aload0 C dX9_why_7 ?_
    refine gX9_37 C ho dX9_why_8 ?_
    refine gX9_120 C (qX9_run ho) dX9_why_11 ?_
    refine s_goto (tgt := 19) C dX9_why_14 (by decide) ?_
    exact s_iret C R h dX9_why_19
set_option maxRecDepth 4000 in
theorem tX9_isStep {l : Launch} {E : En} {A : Nat → Prop} {d : Nat} {r : Int32} {M M' : Mem} {o : Nat} {x1 : Int32} (hE : Okk E A) (hd : 1 ≤ d) (ho : kd o = (9, 0)) (h : fX9_isStep o x1 M = some (r, M')) : Ct l E A d yX9_isStep cX9_isStep 2 (some .boolean) [.ref (ad E o), .int x1] M (some (.int r)) M' := by
  refine Ct.mk (ls := [some (.ref (ad E o)), some (.int x1)]) hE (by decide +kernel) rfl (Nat.le_of_ble_eq_true rfl) (fun X hXl hXA C R => ?_)
  subst hXl; subst hXA
  unfold fX9_isStep at h
  refine s_aload0 C dX9_isStep_0 ?_
  obtain ⟨r2, M1, hq, h⟩ := bI_e h
  refine s_callV (T := TX9) (As := []) (v := some (.int r2)) C rfl ho (by decide) rfl (by omega) wX9_113 rfl (Nat.le_of_ble_eq_true rfl) dX9_isStep_1 (tX9_isTold C.2.2.2.2.2.2.1 (by omega) ho hq) ?_
  refine s_if_eq (tgt := 28) C h dX9_isStep_4 (by decide) ⟨fun h => ?_, fun h => ?_⟩
  · refine s_iconst (v := 0) C (by decide) dX9_isStep_28 ?_
    exact s_zret C R h rfl dX9_isStep_29
  · refine s_iload1 C dX9_isStep_7 ?_
    refine s_i2l C dX9_isStep_8 ?_
    refine s_lconst (v := 0) C (by decide) dX9_isStep_9 ?_
    refine s_aload0 C dX9_isStep_10 ?_
    refine gX9_37 C ho dX9_isStep_11 ?_
    refine gX9_117 C (qX9_run ho) dX9_isStep_14 ?_
    refine s_i2l C dX9_isStep_17 ?_
    obtain ⟨r4, M3, hq, h⟩ := bI_e h
    refine s_callS (As := [.long (x1).toInt64, .long (0 : Int64), .long ((M1.1 (o + 35) 3)).toInt64]) (v := some (.int r4)) C rfl (by omega) wX9_77 rfl (Nat.le_of_ble_eq_true rfl) dX9_isStep_18 (tX9_within C.2.2.2.2.2.2.1 (by omega)  hq) ?_
    refine s_if_eq (tgt := 28) C h dX9_isStep_21 (by decide) ⟨fun h => ?_, fun h => ?_⟩
    · refine s_iconst (v := 0) C (by decide) dX9_isStep_28 ?_
      exact s_zret C R h rfl dX9_isStep_29
    · refine s_iconst (v := 1) C (by decide) dX9_isStep_24 ?_
      refine s_goto (tgt := 29) C dX9_isStep_25 (by decide) ?_
      exact s_zret C R h rfl dX9_isStep_29
set_option maxRecDepth 4000 in
theorem tX9_next {l : Launch} {E : En} {A : Nat → Prop} {d : Nat} {r : Int32} {M M' : Mem} {o : Nat} {x1 : Int32} (hE : Okk E A) (hd : 2 ≤ d) (ho : kd o = (9, 0)) (h : fX9_next o x1 M = some (r, M')) : Ct l E A d yX9_next cX9_next 2 (some .int) [.ref (ad E o), .int x1] M (some (.int r)) M' := by
  refine Ct.mk (ls := [some (.ref (ad E o)), some (.int x1)]) hE (by decide +kernel) rfl (Nat.le_of_ble_eq_true rfl) (fun X hXl hXA C R => ?_)
  subst hXl; subst hXA
  unfold fX9_next at h
  refine s_aload0 C dX9_next_0 ?_
  refine s_iload1 C dX9_next_1 ?_
  obtain ⟨r2, M1, hq, h⟩ := bI_e h
  refine s_callV (T := TX9) (As := [.int x1]) (v := some (.int r2)) C rfl ho (by decide) rfl (by omega) wX9_123 rfl (Nat.le_of_ble_eq_true rfl) dX9_next_2 (tX9_isStep C.2.2.2.2.2.2.1 (by omega) ho hq) ?_
  refine s_if_eq (tgt := 20) C h dX9_next_5 (by decide) ⟨fun h => ?_, fun h => ?_⟩
  · refine s_bipush (v := -2) C (by decide) dX9_next_20 ?_
    exact s_iret C R h dX9_next_22
  · refine s_aload0 C dX9_next_8 ?_
    refine gX9_37 C ho dX9_next_9 ?_
    refine gX9_126 C (qX9_run ho) dX9_next_12 ?_
    refine s_iload1 C dX9_next_15 ?_
    refine s_iald C (qX4_nexts (qX9_run ho)) h dX9_next_16 (fun h => ?_)
    refine s_goto (tgt := 22) C dX9_next_17 (by decide) ?_
    exact s_iret C R h dX9_next_22
set_option maxRecDepth 4000 in
theorem tX9_isRegister {l : Launch} {E : En} {A : Nat → Prop} {d : Nat} {r : Int32} {M M' : Mem} {x0 : Int32} (hE : Okk E A) (hd : 1 ≤ d)  (h : fX9_isRegister x0 M = some (r, M')) : Ct l E A d yX9_isRegister cX9_isRegister 1 (some .boolean) [.int x0] M (some (.int r)) M' := by
  refine Ct.mk (ls := [some (.int x0)]) hE (by decide +kernel) rfl (Nat.le_of_ble_eq_true rfl) (fun X hXl hXA C R => ?_)
  subst hXl; subst hXA
  unfold fX9_isRegister at h
  refine s_iload0 C dX9_isRegister_0 ?_
  refine s_i2l C dX9_isRegister_1 ?_
  refine s_lconst (v := 0) C (by decide) dX9_isRegister_2 ?_
  refine s_ldc2 (v := 7) C k_895 dX9_isRegister_3 ?_
  obtain ⟨r2, M1, hq, h⟩ := bI_e h
  refine s_callS (As := [.long (x0).toInt64, .long (0 : Int64), .long (7 : Int64)]) (v := some (.int r2)) C rfl (by omega) wX9_77 rfl (Nat.le_of_ble_eq_true rfl) dX9_isRegister_6 (tX9_within C.2.2.2.2.2.2.1 (by omega)  hq) ?_
  obtain ⟨hb, h⟩ := ck_e h
  exact s_zret C R h (isB_n hb).1 dX9_isRegister_9
set_option maxRecDepth 4000 in
theorem tX9_register {l : Launch} {E : En} {A : Nat → Prop} {d : Nat} {r : Int32} {M M' : Mem} {o : Nat} {x1 : Int32} {x2 : Int32} (hE : Okk E A) (hd : 2 ≤ d) (ho : kd o = (9, 0)) (h : fX9_register o x1 x2 M = some (r, M')) : Ct l E A d yX9_register cX9_register 3 (some .int) [.ref (ad E o), .int x1, .int x2] M (some (.int r)) M' := by
  refine Ct.mk (ls := [some (.ref (ad E o)), some (.int x1), some (.int x2)]) hE (by decide +kernel) rfl (Nat.le_of_ble_eq_true rfl) (fun X hXl hXA C R => ?_)
  subst hXl; subst hXA
  unfold fX9_register at h
  refine s_aload0 C dX9_register_0 ?_
  refine s_iload2 C dX9_register_1 ?_
  obtain ⟨r2, M1, hq, h⟩ := bI_e h
  refine s_callV (T := TX9) (As := [.int x2]) (v := some (.int r2)) C rfl ho (by decide) rfl (by omega) wX9_123 rfl (Nat.le_of_ble_eq_true rfl) dX9_register_2 (tX9_isStep C.2.2.2.2.2.2.1 (by omega) ho hq) ?_
  refine s_if_eq (tgt := 15) C h dX9_register_5 (by decide) ⟨fun h => ?_, fun h => ?_⟩
  · refine s_bipush (v := -2) C (by decide) dX9_register_15 ?_
    exact s_iret C R h dX9_register_17
  · refine s_iload1 C dX9_register_8 ?_
    obtain ⟨r4, M3, hq, h⟩ := bI_e h
    refine s_callS (As := [.int x1]) (v := some (.int r4)) C rfl (by omega) wX9_129 rfl (Nat.le_of_ble_eq_true rfl) dX9_register_9 (tX9_isRegister C.2.2.2.2.2.2.1 (by omega)  hq) ?_
    refine s_if_ne (tgt := 18) C h dX9_register_12 (by decide) ⟨fun h => ?_, fun h => ?_⟩
    · refine s_aload0 C dX9_register_18 ?_
      refine gX9_37 C ho dX9_register_19 ?_
      refine gX9_132 C (qX9_run ho) dX9_register_22 ?_
      refine s_bipush (v := 8) C (by decide) dX9_register_25 ?_
      refine s_iload2 C dX9_register_27 ?_
      refine s_imul C dX9_register_28 ?_
      refine s_iload1 C dX9_register_29 ?_
      refine s_iadd C dX9_register_30 ?_
      refine s_iald C (qX4_registers (qX9_run ho)) h dX9_register_31 (fun h => ?_)
      exact s_iret C R h dX9_register_32
    · refine s_bipush (v := -2) C (by decide) dX9_register_15 ?_
      exact s_iret C R h dX9_register_17
set_option maxRecDepth 4000 in
theorem tX9_isBranch {l : Launch} {E : En} {A : Nat → Prop} {d : Nat} {r : Int32} {M M' : Mem} {o : Nat} {x1 : Int32} (hE : Okk E A) (hd : 1 ≤ d) (ho : kd o = (9, 0)) (h : fX9_isBranch o x1 M = some (r, M')) : Ct l E A d yX9_isBranch cX9_isBranch 2 (some .boolean) [.ref (ad E o), .int x1] M (some (.int r)) M' := by
  refine Ct.mk (ls := [some (.ref (ad E o)), some (.int x1)]) hE (by decide +kernel) rfl (Nat.le_of_ble_eq_true rfl) (fun X hXl hXA C R => ?_)
  subst hXl; subst hXA
  unfold fX9_isBranch at h
  refine s_iload1 C dX9_isBranch_0 ?_
  refine s_i2l C dX9_isBranch_1 ?_
  refine s_lconst (v := 0) C (by decide) dX9_isBranch_2 ?_
  refine s_aload0 C dX9_isBranch_3 ?_
  refine gX9_44 C ho dX9_isBranch_4 ?_
  refine gX9_157 C (qX9_trail ho) dX9_isBranch_7 ?_
  refine s_iconst (v := 1) C (by decide) dX9_isBranch_10 ?_
  refine s_isub C dX9_isBranch_11 ?_
  refine s_i2l C dX9_isBranch_12 ?_
  obtain ⟨r2, M1, hq, h⟩ := bI_e h
  refine s_callS (As := [.long (x1).toInt64, .long (0 : Int64), .long (((M.1 (o + 39) 1) - (1 : Int32))).toInt64]) (v := some (.int r2)) C rfl (by omega) wX9_77 rfl (Nat.le_of_ble_eq_true rfl) dX9_isBranch_13 (tX9_within C.2.2.2.2.2.2.1 (by omega)  hq) ?_
  obtain ⟨hb, h⟩ := ck_e h
  exact s_zret C R h (isB_n hb).1 dX9_isBranch_16
set_option maxRecDepth 4000 in
theorem tX9_branch {l : Launch} {E : En} {A : Nat → Prop} {d : Nat} {r : Int32} {M M' : Mem} {o : Nat} {x1 : Int32} {x2 : Int32} (hE : Okk E A) (hd : 2 ≤ d) (ho : kd o = (9, 0)) (h : fX9_branch o x1 x2 M = some (r, M')) : Ct l E A d yX9_branch cX9_branch 3 (some .int) [.ref (ad E o), .int x1, .int x2] M (some (.int r)) M' := by
  refine Ct.mk (ls := [some (.ref (ad E o)), some (.int x1), some (.int x2)]) hE (by decide +kernel) rfl (Nat.le_of_ble_eq_true rfl) (fun X hXl hXA C R => ?_)
  subst hXl; subst hXA
  unfold fX9_branch at h
  refine s_aload0 C dX9_branch_0 ?_
  refine s_iload1 C dX9_branch_1 ?_
  obtain ⟨r2, M1, hq, h⟩ := bI_e h
  refine s_callV (T := TX9) (As := [.int x1]) (v := some (.int r2)) C rfl ho (by decide) rfl (by omega) wX9_135 rfl (Nat.le_of_ble_eq_true rfl) dX9_branch_2 (tX9_isBranch C.2.2.2.2.2.2.1 (by omega) ho hq) ?_
  refine s_if_eq (tgt := 20) C h dX9_branch_5 (by decide) ⟨fun h => ?_, fun h => ?_⟩
  · refine s_bipush (v := -2) C (by decide) dX9_branch_20 ?_
    exact s_iret C R h dX9_branch_22
  · refine s_iload2 C dX9_branch_8 ?_
    refine s_i2l C dX9_branch_9 ?_
    refine s_lconst (v := 0) C (by decide) dX9_branch_10 ?_
    refine s_ldc2 (v := 8) C k_904 dX9_branch_11 ?_
    obtain ⟨r4, M3, hq, h⟩ := bI_e h
    refine s_callS (As := [.long (x2).toInt64, .long (0 : Int64), .long (8 : Int64)]) (v := some (.int r4)) C rfl (by omega) wX9_77 rfl (Nat.le_of_ble_eq_true rfl) dX9_branch_14 (tX9_within C.2.2.2.2.2.2.1 (by omega)  hq) ?_
    refine s_if_ne (tgt := 23) C h dX9_branch_17 (by decide) ⟨fun h => ?_, fun h => ?_⟩
    · refine s_aload0 C dX9_branch_23 ?_
      refine gX9_44 C ho dX9_branch_24 ?_
      refine s_iload1 C dX9_branch_27 ?_
      refine s_iload2 C dX9_branch_28 ?_
      obtain ⟨r6, M5, hq, h⟩ := bI_e h
      refine s_callV (T := TX8) (As := [.int x1, .int x2]) (v := some (.int r6)) C rfl (qX9_trail ho) (by decide) rfl (by omega) wX9_140 rfl (Nat.le_of_ble_eq_true rfl) dX9_branch_29 (tX8_fact C.2.2.2.2.2.2.1 (by omega) (qX9_trail ho) hq) ?_
      exact s_iret C R h dX9_branch_32
    · refine s_bipush (v := -2) C (by decide) dX9_branch_20 ?_
      exact s_iret C R h dX9_branch_22
set_option maxRecDepth 4000 in
theorem tX9_isMoment {l : Launch} {E : En} {A : Nat → Prop} {d : Nat} {r : Int32} {M M' : Mem} {o : Nat} {x1 : Int32} (hE : Okk E A) (hd : 1 ≤ d) (ho : kd o = (9, 0)) (h : fX9_isMoment o x1 M = some (r, M')) : Ct l E A d yX9_isMoment cX9_isMoment 2 (some .boolean) [.ref (ad E o), .int x1] M (some (.int r)) M' := by
  refine Ct.mk (ls := [some (.ref (ad E o)), some (.int x1)]) hE (by decide +kernel) rfl (Nat.le_of_ble_eq_true rfl) (fun X hXl hXA C R => ?_)
  subst hXl; subst hXA
  unfold fX9_isMoment at h
  refine s_aload0 C dX9_isMoment_0 ?_
  obtain ⟨r2, M1, hq, h⟩ := bI_e h
  refine s_callV (T := TX9) (As := []) (v := some (.int r2)) C rfl ho (by decide) rfl (by omega) wX9_113 rfl (Nat.le_of_ble_eq_true rfl) dX9_isMoment_1 (tX9_isTold C.2.2.2.2.2.2.1 (by omega) ho hq) ?_
  refine s_if_eq (tgt := 28) C h dX9_isMoment_4 (by decide) ⟨fun h => ?_, fun h => ?_⟩
  · refine s_iconst (v := 0) C (by decide) dX9_isMoment_28 ?_
    exact s_zret C R h rfl dX9_isMoment_29
  · refine s_iload1 C dX9_isMoment_7 ?_
    refine s_i2l C dX9_isMoment_8 ?_
    refine s_lconst (v := 0) C (by decide) dX9_isMoment_9 ?_
    refine s_aload0 C dX9_isMoment_10 ?_
    refine gX9_44 C ho dX9_isMoment_11 ?_
    refine gX9_157 C (qX9_trail ho) dX9_isMoment_14 ?_
    refine s_i2l C dX9_isMoment_17 ?_
    obtain ⟨r4, M3, hq, h⟩ := bI_e h
    refine s_callS (As := [.long (x1).toInt64, .long (0 : Int64), .long ((M1.1 (o + 39) 1)).toInt64]) (v := some (.int r4)) C rfl (by omega) wX9_77 rfl (Nat.le_of_ble_eq_true rfl) dX9_isMoment_18 (tX9_within C.2.2.2.2.2.2.1 (by omega)  hq) ?_
    refine s_if_eq (tgt := 28) C h dX9_isMoment_21 (by decide) ⟨fun h => ?_, fun h => ?_⟩
    · refine s_iconst (v := 0) C (by decide) dX9_isMoment_28 ?_
      exact s_zret C R h rfl dX9_isMoment_29
    · refine s_iconst (v := 1) C (by decide) dX9_isMoment_24 ?_
      refine s_goto (tgt := 29) C dX9_isMoment_25 (by decide) ?_
      exact s_zret C R h rfl dX9_isMoment_29
set_option maxRecDepth 4000 in
theorem tX8_isWrong {l : Launch} {E : En} {A : Nat → Prop} {d : Nat} {r : Int32} {M M' : Mem} {o : Nat} {x1 : Int32} (hE : Okk E A) (hd : 1 ≤ d) (ho : kd o = (8, 0)) (h : fX8_isWrong o x1 M = some (r, M')) : Ct l E A d yX8_isWrong cX8_isWrong 2 (some .boolean) [.ref (ad E o), .int x1] M (some (.int r)) M' := by
  refine Ct.mk (ls := [some (.ref (ad E o)), some (.int x1)]) hE (by decide +kernel) rfl (Nat.le_of_ble_eq_true rfl) (fun X hXl hXA C R => ?_)
  subst hXl; subst hXA
  unfold fX8_isWrong at h
  refine s_aload0 C dX8_isWrong_0 ?_
  refine s_iload1 C dX8_isWrong_1 ?_
  refine s_iconst (v := 2) C (by decide) dX8_isWrong_2 ?_
  obtain ⟨r2, M1, hq, h⟩ := bI_e h
  refine s_callV (T := TX8) (As := [.int x1, .int (2 : Int32)]) (v := some (.int r2)) C rfl ho (by decide) rfl (by omega) wX8_53 rfl (Nat.le_of_ble_eq_true rfl) dX8_isWrong_3 (tX8_fact C.2.2.2.2.2.2.1 (by omega) ho hq) ?_
  refine s_aload0 C dX8_isWrong_6 ?_
  refine s_iload1 C dX8_isWrong_7 ?_
  refine s_iconst (v := 1) C (by decide) dX8_isWrong_8 ?_
  obtain ⟨r4, M3, hq, h⟩ := bI_e h
  refine s_callV (T := TX8) (As := [.int x1, .int (1 : Int32)]) (v := some (.int r4)) C rfl ho (by decide) rfl (by omega) wX8_53 rfl (Nat.le_of_ble_eq_true rfl) dX8_isWrong_9 (tX8_fact C.2.2.2.2.2.2.1 (by omega) ho hq) ?_
  refine s_ic_eq (tgt := 19) C h dX8_isWrong_12 (by decide) ⟨fun h => ?_, fun h => ?_⟩
  · refine s_iconst (v := 0) C (by decide) dX8_isWrong_19 ?_
    exact s_zret C R h rfl dX8_isWrong_20
  · refine s_iconst (v := 1) C (by decide) dX8_isWrong_15 ?_
    refine s_goto (tgt := 20) C dX8_isWrong_16 (by decide) ?_
    exact s_zret C R h rfl dX8_isWrong_20
set_option maxRecDepth 4000 in
theorem bX9_wrong_34 {E : En} {X : Xc} {d : Nat} {r : Int32} {M M' : Mem} {o : Nat} {x1 : Int32} {x2 : Int32} {x3 : Int32} (C : Cx E X d cX9_wrong RX9 4) (R : Rt E X (some .int) (some (.int r)) M') (hd : 2 ≤ d) {k15 : Nat → Int32 → Int32 → Int32 → Mem → Option (Int32 × Mem)} (hk15 : ∀ (o : Nat) (x1 : Int32) (x2 : Int32) (x3 : Int32) (M : Mem) (_ : kd o = (9, 0)), k15 o x1 x2 x3 M = some (r, M') → At E X 15 [some (.ref (ad E o)), some (.int x1), some (.int x2), some (.int x3)] [] M) (ho : kd o = (9, 0)) (h : fX9_wrong_34 k15 o x1 x2 x3 M = some (r, M')) : At E X 34 [some (.ref (ad E o)), some (.int x1), some (.int x2), some (.int x3)] [] M := by
  unfold fX9_wrong_34 at h
  refine s_iinc3 (v := 1) C rfl dX9_wrong_34 (by decide) ?_
  refine s_goto (tgt := 15) C dX9_wrong_37 (by decide) ?_
  exact hk15 _ _ _ _ _ ho h
set_option maxRecDepth 4000 in
theorem bX9_wrong_15 {E : En} {X : Xc} {d : Nat} {r : Int32} {M' : Mem} (C : Cx E X d cX9_wrong RX9 4) (R : Rt E X (some .int) (some (.int r)) M') (hd : 2 ≤ d)   : ∀ (n : Nat) (o : Nat) (x1 : Int32) (x2 : Int32) (x3 : Int32) (M : Mem) (_ : kd o = (9, 0)), fX9_wrong_15  n o x1 x2 x3 M = some (r, M') → At E X 15 [some (.ref (ad E o)), some (.int x1), some (.int x2), some (.int x3)] [] M := by
  intro n
  induction n with
  | zero => intro o x1 x2 x3 M ho h; rw [fX9_wrong_15] at h; cases h
  | succ n ih =>
    intro o x1 x2 x3 M ho h
    rw [fX9_wrong_15] at h
    refine s_iload3 C dX9_wrong_15 ?_
    refine s_iload1 C dX9_wrong_16 ?_
    refine s_ic_ge (tgt := 40) C h dX9_wrong_17 (by decide) ⟨fun h => ?_, fun h => ?_⟩
    · refine s_iload2 C dX9_wrong_40 ?_
      exact s_iret C R h dX9_wrong_41
    · refine s_aload0 C dX9_wrong_20 ?_
      refine gX9_44 C ho dX9_wrong_21 ?_
      refine s_iload3 C dX9_wrong_24 ?_
      obtain ⟨r2, M1, hq, h⟩ := bI_e h
      refine s_callV (T := TX8) (As := [.int x3]) (v := some (.int r2)) C rfl (qX9_trail ho) (by decide) rfl (by omega) wX9_147 rfl (Nat.le_of_ble_eq_true rfl) dX9_wrong_25 (tX8_isWrong C.2.2.2.2.2.2.1 (by omega) (qX9_trail ho) hq) ?_
      refine s_if_eq (tgt := 34) C h dX9_wrong_28 (by decide) ⟨fun h => ?_, fun h => ?_⟩
      · exact bX9_wrong_34 C R hd (ih) ho h
      · refine s_iinc2 (v := 1) C rfl dX9_wrong_31 (by decide) ?_
        exact bX9_wrong_34 C R hd (ih) ho h
set_option maxRecDepth 4000 in
theorem tX9_wrong {l : Launch} {E : En} {A : Nat → Prop} {d : Nat} {r : Int32} {M M' : Mem} {o : Nat} {x1 : Int32} (hE : Okk E A) (hd : 2 ≤ d) (ho : kd o = (9, 0)) (h : fX9_wrong o x1 M = some (r, M')) : Ct l E A d yX9_wrong cX9_wrong 4 (some .int) [.ref (ad E o), .int x1] M (some (.int r)) M' := by
  refine Ct.mk (ls := [some (.ref (ad E o)), some (.int x1), none, none]) hE (by decide +kernel) rfl (Nat.le_of_ble_eq_true rfl) (fun X hXl hXA C R => ?_)
  subst hXl; subst hXA
  unfold fX9_wrong at h
  refine s_aload0 C dX9_wrong_0 ?_
  refine s_iload1 C dX9_wrong_1 ?_
  obtain ⟨r2, M1, hq, h⟩ := bI_e h
  refine s_callV (T := TX9) (As := [.int x1]) (v := some (.int r2)) C rfl ho (by decide) rfl (by omega) wX9_144 rfl (Nat.le_of_ble_eq_true rfl) dX9_wrong_2 (tX9_isMoment C.2.2.2.2.2.2.1 (by omega) ho hq) ?_
  refine s_if_ne (tgt := 11) C h dX9_wrong_5 (by decide) ⟨fun h => ?_, fun h => ?_⟩
  · refine s_iconst (v := 0) C (by decide) dX9_wrong_11 ?_
    refine s_istore2 C rfl dX9_wrong_12 ?_
    refine s_iconst (v := 0) C (by decide) dX9_wrong_13 ?_
    refine s_istore3 C rfl dX9_wrong_14 ?_
    exact bX9_wrong_15 C R hd  LF _ _ _ _ _ ho h
  · refine s_bipush (v := -2) C (by decide) dX9_wrong_8 ?_
    exact s_iret C R h dX9_wrong_10
set_option maxRecDepth 4000 in
theorem tX9_isAddress {l : Launch} {E : En} {A : Nat → Prop} {d : Nat} {r : Int32} {M M' : Mem} {x0 : Int32} (hE : Okk E A) (hd : 1 ≤ d)  (h : fX9_isAddress x0 M = some (r, M')) : Ct l E A d yX9_isAddress cX9_isAddress 1 (some .boolean) [.int x0] M (some (.int r)) M' := by
  refine Ct.mk (ls := [some (.int x0)]) hE (by decide +kernel) rfl (Nat.le_of_ble_eq_true rfl) (fun X hXl hXA C R => ?_)
  subst hXl; subst hXA
  unfold fX9_isAddress at h
  refine s_iload0 C dX9_isAddress_0 ?_
  refine s_i2l C dX9_isAddress_1 ?_
  refine s_lconst (v := 0) C (by decide) dX9_isAddress_2 ?_
  refine s_ldc2 (v := 63) C k_925 dX9_isAddress_3 ?_
  obtain ⟨r2, M1, hq, h⟩ := bI_e h
  refine s_callS (As := [.long (x0).toInt64, .long (0 : Int64), .long (63 : Int64)]) (v := some (.int r2)) C rfl (by omega) wX9_77 rfl (Nat.le_of_ble_eq_true rfl) dX9_isAddress_6 (tX9_within C.2.2.2.2.2.2.1 (by omega)  hq) ?_
  obtain ⟨hb, h⟩ := ck_e h
  exact s_zret C R h (isB_n hb).1 dX9_isAddress_9
set_option maxRecDepth 4000 in
theorem bX8_wrongsAt_33 {E : En} {X : Xc} {d : Nat} {r : Int32} {M M' : Mem} {o : Nat} {x1 : Int32} {x2 : Int32} {x3 : Int32} (C : Cx E X d cX8_wrongsAt RX8 4) (R : Rt E X (some .int) (some (.int r)) M') (hd : 2 ≤ d) {k4 : Nat → Int32 → Int32 → Int32 → Mem → Option (Int32 × Mem)} (hk4 : ∀ (o : Nat) (x1 : Int32) (x2 : Int32) (x3 : Int32) (M : Mem) (_ : kd o = (8, 0)), k4 o x1 x2 x3 M = some (r, M') → At E X 4 [some (.ref (ad E o)), some (.int x1), some (.int x2), some (.int x3)] [] M) (ho : kd o = (8, 0)) (h : fX8_wrongsAt_33 k4 o x1 x2 x3 M = some (r, M')) : At E X 33 [some (.ref (ad E o)), some (.int x1), some (.int x2), some (.int x3)] [] M := by
  unfold fX8_wrongsAt_33 at h
  refine s_iinc3 (v := 1) C rfl dX8_wrongsAt_33 (by decide) ?_
  refine s_goto (tgt := 4) C dX8_wrongsAt_36 (by decide) ?_
  exact hk4 _ _ _ _ _ ho h
set_option maxRecDepth 4000 in
theorem bX8_wrongsAt_4 {E : En} {X : Xc} {d : Nat} {r : Int32} {M' : Mem} (C : Cx E X d cX8_wrongsAt RX8 4) (R : Rt E X (some .int) (some (.int r)) M') (hd : 2 ≤ d)   : ∀ (n : Nat) (o : Nat) (x1 : Int32) (x2 : Int32) (x3 : Int32) (M : Mem) (_ : kd o = (8, 0)), fX8_wrongsAt_4  n o x1 x2 x3 M = some (r, M') → At E X 4 [some (.ref (ad E o)), some (.int x1), some (.int x2), some (.int x3)] [] M := by
  intro n
  induction n with
  | zero => intro o x1 x2 x3 M ho h; rw [fX8_wrongsAt_4] at h; cases h
  | succ n ih =>
    intro o x1 x2 x3 M ho h
    rw [fX8_wrongsAt_4] at h
    refine s_iload3 C dX8_wrongsAt_4 ?_
    refine s_aload0 C dX8_wrongsAt_5 ?_
    refine gX8_15 C ho dX8_wrongsAt_6 ?_
    refine s_ic_ge (tgt := 39) C h dX8_wrongsAt_9 (by decide) ⟨fun h => ?_, fun h => ?_⟩
    · refine s_iload2 C dX8_wrongsAt_39 ?_
      exact s_iret C R h dX8_wrongsAt_40
    · refine s_aload0 C dX8_wrongsAt_12 ?_
      refine s_iload3 C dX8_wrongsAt_13 ?_
      obtain ⟨r2, M1, hq, h⟩ := bI_e h
      refine s_callV (T := TX8) (As := [.int x3]) (v := some (.int r2)) C rfl ho (by decide) rfl (by omega) wX8_57 rfl (Nat.le_of_ble_eq_true rfl) dX8_wrongsAt_14 (tX8_isWrong C.2.2.2.2.2.2.1 (by omega) ho hq) ?_
      refine s_if_eq (tgt := 33) C h dX8_wrongsAt_17 (by decide) ⟨fun h => ?_, fun h => ?_⟩
      · exact bX8_wrongsAt_33 C R hd (ih) ho h
      · refine s_aload0 C dX8_wrongsAt_20 ?_
        refine s_iload3 C dX8_wrongsAt_21 ?_
        refine s_iconst (v := 0) C (by decide) dX8_wrongsAt_22 ?_
        obtain ⟨r4, M3, hq, h⟩ := bI_e h
        refine s_callV (T := TX8) (As := [.int x3, .int (0 : Int32)]) (v := some (.int r4)) C rfl ho (by decide) rfl (by omega) wX8_53 rfl (Nat.le_of_ble_eq_true rfl) dX8_wrongsAt_23 (tX8_fact C.2.2.2.2.2.2.1 (by omega) ho hq) ?_
        refine s_iload1 C dX8_wrongsAt_26 ?_
        refine s_ic_ne (tgt := 33) C h dX8_wrongsAt_27 (by decide) ⟨fun h => ?_, fun h => ?_⟩
        · exact bX8_wrongsAt_33 C R hd (ih) ho h
        · refine s_iinc2 (v := 1) C rfl dX8_wrongsAt_30 (by decide) ?_
          exact bX8_wrongsAt_33 C R hd (ih) ho h
set_option maxRecDepth 4000 in
theorem tX8_wrongsAt {l : Launch} {E : En} {A : Nat → Prop} {d : Nat} {r : Int32} {M M' : Mem} {o : Nat} {x1 : Int32} (hE : Okk E A) (hd : 2 ≤ d) (ho : kd o = (8, 0)) (h : fX8_wrongsAt o x1 M = some (r, M')) : Ct l E A d yX8_wrongsAt cX8_wrongsAt 4 (some .int) [.ref (ad E o), .int x1] M (some (.int r)) M' := by
  refine Ct.mk (ls := [some (.ref (ad E o)), some (.int x1), none, none]) hE (by decide +kernel) rfl (Nat.le_of_ble_eq_true rfl) (fun X hXl hXA C R => ?_)
  subst hXl; subst hXA
  unfold fX8_wrongsAt at h
  refine s_iconst (v := 0) C (by decide) dX8_wrongsAt_0 ?_
  refine s_istore2 C rfl dX8_wrongsAt_1 ?_
  refine s_iconst (v := 0) C (by decide) dX8_wrongsAt_2 ?_
  refine s_istore3 C rfl dX8_wrongsAt_3 ?_
  exact bX8_wrongsAt_4 C R hd  LF _ _ _ _ _ ho h
set_option maxRecDepth 4000 in
theorem tX9_wrongs {l : Launch} {E : En} {A : Nat → Prop} {d : Nat} {r : Int32} {M M' : Mem} {o : Nat} {x1 : Int32} (hE : Okk E A) (hd : 3 ≤ d) (ho : kd o = (9, 0)) (h : fX9_wrongs o x1 M = some (r, M')) : Ct l E A d yX9_wrongs cX9_wrongs 2 (some .int) [.ref (ad E o), .int x1] M (some (.int r)) M' := by
  refine Ct.mk (ls := [some (.ref (ad E o)), some (.int x1)]) hE (by decide +kernel) rfl (Nat.le_of_ble_eq_true rfl) (fun X hXl hXA C R => ?_)
  subst hXl; subst hXA
  unfold fX9_wrongs at h
  refine s_aload0 C dX9_wrongs_0 ?_
  obtain ⟨r2, M1, hq, h⟩ := bI_e h
  refine s_callV (T := TX9) (As := []) (v := some (.int r2)) C rfl ho (by decide) rfl (by omega) wX9_113 rfl (Nat.le_of_ble_eq_true rfl) dX9_wrongs_1 (tX9_isTold C.2.2.2.2.2.2.1 (by omega) ho hq) ?_
  refine s_if_eq (tgt := 25) C h dX9_wrongs_4 (by decide) ⟨fun h => ?_, fun h => ?_⟩
  · refine s_bipush (v := -2) C (by decide) dX9_wrongs_25 ?_
    exact s_iret C R h dX9_wrongs_27
  · refine s_iload1 C dX9_wrongs_7 ?_
    obtain ⟨r4, M3, hq, h⟩ := bI_e h
    refine s_callS (As := [.int x1]) (v := some (.int r4)) C rfl (by omega) wX9_150 rfl (Nat.le_of_ble_eq_true rfl) dX9_wrongs_8 (tX9_isAddress C.2.2.2.2.2.2.1 (by omega)  hq) ?_
    refine s_if_eq (tgt := 25) C h dX9_wrongs_11 (by decide) ⟨fun h => ?_, fun h => ?_⟩
    · refine s_bipush (v := -2) C (by decide) dX9_wrongs_25 ?_
      exact s_iret C R h dX9_wrongs_27
    · refine s_aload0 C dX9_wrongs_14 ?_
      refine gX9_44 C ho dX9_wrongs_15 ?_
      refine s_iload1 C dX9_wrongs_18 ?_
      obtain ⟨r6, M5, hq, h⟩ := bI_e h
      refine s_callV (T := TX8) (As := [.int x1]) (v := some (.int r6)) C rfl (qX9_trail ho) (by decide) rfl (by omega) wX9_153 rfl (Nat.le_of_ble_eq_true rfl) dX9_wrongs_19 (tX8_wrongsAt C.2.2.2.2.2.2.1 (by omega) (qX9_trail ho) hq) ?_
      refine s_goto (tgt := 27) C dX9_wrongs_22 (by decide) ?_
      exact s_iret C R h dX9_wrongs_27
set_option maxRecDepth 4000 in
theorem bX9_worst_43 {E : En} {X : Xc} {d : Nat} {r : Int32} {M M' : Mem} {o : Nat} {x1 : Int32} {x2 : Int32} {x3 : Int32} (C : Cx E X d cX9_worst RX9 5) (R : Rt E X (some .int) (some (.int r)) M') (hd : 3 ≤ d) {k16 : Nat → Int32 → Int32 → Int32 → Mem → Option (Int32 × Mem)} (hk16 : ∀ (o : Nat) (x1 : Int32) (x2 : Int32) (x3 : Int32) (M : Mem) (_ : kd o = (9, 0)), k16 o x1 x2 x3 M = some (r, M') → At E X 16 [some (.ref (ad E o)), some (.int x1), some (.int x2), some (.int x3), none] [] M) (ho : kd o = (9, 0)) (h : fX9_worst_43 k16 o x1 x2 x3 M = some (r, M')) : At E X 43 [some (.ref (ad E o)), some (.int x1), some (.int x2), some (.int x3), none] [] M := by
  unfold fX9_worst_43 at h
  refine s_iinc3 (v := 1) C rfl dX9_worst_43 (by decide) ?_
  refine s_goto (tgt := 16) C dX9_worst_46 (by decide) ?_
  exact hk16 _ _ _ _ _ ho h
set_option maxRecDepth 4000 in
theorem bX9_worst_16 {E : En} {X : Xc} {d : Nat} {r : Int32} {M' : Mem} (C : Cx E X d cX9_worst RX9 5) (R : Rt E X (some .int) (some (.int r)) M') (hd : 3 ≤ d)   : ∀ (n : Nat) (o : Nat) (x1 : Int32) (x2 : Int32) (x3 : Int32) (M : Mem) (_ : kd o = (9, 0)), fX9_worst_16  n o x1 x2 x3 M = some (r, M') → At E X 16 [some (.ref (ad E o)), some (.int x1), some (.int x2), some (.int x3), none] [] M := by
  intro n
  induction n with
  | zero => intro o x1 x2 x3 M ho h; rw [fX9_worst_16] at h; cases h
  | succ n ih =>
    intro o x1 x2 x3 M ho h
    rw [fX9_worst_16] at h
    refine s_iload3 C dX9_worst_16 ?_
    refine s_bipush (v := 63) C (by decide) dX9_worst_17 ?_
    refine s_ic_gt (tgt := 49) C h dX9_worst_19 (by decide) ⟨fun h => ?_, fun h => ?_⟩
    · refine s_iload1 C dX9_worst_49 ?_
      exact s_iret C R h dX9_worst_50
    · refine s_aload0 C dX9_worst_22 ?_
      refine gX9_44 C ho dX9_worst_23 ?_
      refine s_iload3 C dX9_worst_26 ?_
      obtain ⟨r2, M1, hq, h⟩ := bI_e h
      refine s_callV (T := TX8) (As := [.int x3]) (v := some (.int r2)) C rfl (qX9_trail ho) (by decide) rfl (by omega) wX9_153 rfl (Nat.le_of_ble_eq_true rfl) dX9_worst_27 (tX8_wrongsAt C.2.2.2.2.2.2.1 (by omega) (qX9_trail ho) hq) ?_
      refine s_istore4 C rfl dX9_worst_30 ?_
      refine s_iload4 C dX9_worst_32 ?_
      refine s_iload2 C dX9_worst_34 ?_
      refine s_ic_le (tgt := 43) C h dX9_worst_35 (by decide) ⟨fun h => ?_, fun h => ?_⟩
      · refine s_fg 4 ?_
        exact bX9_worst_43 C R hd (ih) ho h
      · refine s_iload4 C dX9_worst_38 ?_
        refine s_istore2 C rfl dX9_worst_40 ?_
        refine s_iload3 C dX9_worst_41 ?_
        refine s_istore1 C rfl dX9_worst_42 ?_
        refine s_fg 4 ?_
        exact bX9_worst_43 C R hd (ih) ho h
set_option maxRecDepth 4000 in
theorem tX9_worst {l : Launch} {E : En} {A : Nat → Prop} {d : Nat} {r : Int32} {M M' : Mem} {o : Nat} (hE : Okk E A) (hd : 3 ≤ d) (ho : kd o = (9, 0)) (h : fX9_worst o M = some (r, M')) : Ct l E A d yX9_worst cX9_worst 5 (some .int) [.ref (ad E o)] M (some (.int r)) M' := by
  refine Ct.mk (ls := [some (.ref (ad E o)), none, none, none, none]) hE (by decide +kernel) rfl (Nat.le_of_ble_eq_true rfl) (fun X hXl hXA C R => ?_)
  subst hXl; subst hXA
  unfold fX9_worst at h
  refine s_aload0 C dX9_worst_0 ?_
  obtain ⟨r2, M1, hq, h⟩ := bI_e h
  refine s_callV (T := TX9) (As := []) (v := some (.int r2)) C rfl ho (by decide) rfl (by omega) wX9_113 rfl (Nat.le_of_ble_eq_true rfl) dX9_worst_1 (tX9_isTold C.2.2.2.2.2.2.1 (by omega) ho hq) ?_
  refine s_if_ne (tgt := 10) C h dX9_worst_4 (by decide) ⟨fun h => ?_, fun h => ?_⟩
  · refine s_iconst (v := -1) C (by decide) dX9_worst_10 ?_
    refine s_istore1 C rfl dX9_worst_11 ?_
    refine s_iconst (v := 0) C (by decide) dX9_worst_12 ?_
    refine s_istore2 C rfl dX9_worst_13 ?_
    refine s_iconst (v := 0) C (by decide) dX9_worst_14 ?_
    refine s_istore3 C rfl dX9_worst_15 ?_
    exact bX9_worst_16 C R hd  LF _ _ _ _ _ ho h
  · refine s_bipush (v := -2) C (by decide) dX9_worst_7 ?_
    exact s_iret C R h dX9_worst_9
set_option maxRecDepth 4000 in
theorem bX9_streak_45 {E : En} {X : Xc} {d : Nat} {r : Int32} {M M' : Mem} {o : Nat} {x1 : Int32} {x3 : Int32} {sx0 : Int32} (C : Cx E X d cX9_streak RX9 4) (R : Rt E X (some .int) (some (.int r)) M') (hd : 2 ≤ d) {k16 : Nat → Int32 → Int32 → Int32 → Mem → Option (Int32 × Mem)} (hk16 : ∀ (o : Nat) (x1 : Int32) (x2 : Int32) (x3 : Int32) (M : Mem) (_ : kd o = (9, 0)), k16 o x1 x2 x3 M = some (r, M') → At E X 16 [some (.ref (ad E o)), some (.int x1), some (.int x2), some (.int x3)] [] M) (ho : kd o = (9, 0)) (h : fX9_streak_45 k16 o x1 x3 sx0 M = some (r, M')) : At E X 45 [some (.ref (ad E o)), some (.int x1), none, some (.int x3)] [.int sx0] M := by
  unfold fX9_streak_45 at h
  refine s_istore2 C rfl dX9_streak_45 ?_
  refine s_iload1 C dX9_streak_46 ?_
  refine s_iload2 C dX9_streak_47 ?_
  refine s_max C rfl (by omega) wX9_160 (Nat.le_of_ble_eq_true rfl) dX9_streak_48 ?_
  refine s_istore1 C rfl dX9_streak_51 ?_
  refine s_iinc3 (v := 1) C rfl dX9_streak_52 (by decide) ?_
  refine s_goto (tgt := 16) C dX9_streak_55 (by decide) ?_
  exact hk16 _ _ _ _ _ ho h
set_option maxRecDepth 4000 in
theorem bX9_streak_16 {E : En} {X : Xc} {d : Nat} {r : Int32} {M' : Mem} (C : Cx E X d cX9_streak RX9 4) (R : Rt E X (some .int) (some (.int r)) M') (hd : 2 ≤ d)   : ∀ (n : Nat) (o : Nat) (x1 : Int32) (x2 : Int32) (x3 : Int32) (M : Mem) (_ : kd o = (9, 0)), fX9_streak_16  n o x1 x2 x3 M = some (r, M') → At E X 16 [some (.ref (ad E o)), some (.int x1), some (.int x2), some (.int x3)] [] M := by
  intro n
  induction n with
  | zero => intro o x1 x2 x3 M ho h; rw [fX9_streak_16] at h; cases h
  | succ n ih =>
    intro o x1 x2 x3 M ho h
    rw [fX9_streak_16] at h
    refine s_iload3 C dX9_streak_16 ?_
    refine s_aload0 C dX9_streak_17 ?_
    refine gX9_44 C ho dX9_streak_18 ?_
    refine gX9_157 C (qX9_trail ho) dX9_streak_21 ?_
    refine s_ic_ge (tgt := 58) C h dX9_streak_24 (by decide) ⟨fun h => ?_, fun h => ?_⟩
    · refine s_iload1 C dX9_streak_58 ?_
      exact s_iret C R h dX9_streak_59
    · refine s_aload0 C dX9_streak_27 ?_
      refine gX9_44 C ho dX9_streak_28 ?_
      refine s_iload3 C dX9_streak_31 ?_
      obtain ⟨r2, M1, hq, h⟩ := bI_e h
      refine s_callV (T := TX8) (As := [.int x3]) (v := some (.int r2)) C rfl (qX9_trail ho) (by decide) rfl (by omega) wX9_147 rfl (Nat.le_of_ble_eq_true rfl) dX9_streak_32 (tX8_isWrong C.2.2.2.2.2.2.1 (by omega) (qX9_trail ho) hq) ?_
      refine s_if_eq (tgt := 42) C h dX9_streak_35 (by decide) ⟨fun h => ?_, fun h => ?_⟩
      · refine s_iload2 C dX9_streak_42 ?_
        refine s_iconst (v := 1) C (by decide) dX9_streak_43 ?_
        refine s_iadd C dX9_streak_44 ?_
        refine s_fg 2 ?_
        exact bX9_streak_45 C R hd (ih) ho h
      · refine s_iconst (v := 0) C (by decide) dX9_streak_38 ?_
        refine s_goto (tgt := 45) C dX9_streak_39 (by decide) ?_
        refine s_fg 2 ?_
        exact bX9_streak_45 C R hd (ih) ho h
set_option maxRecDepth 4000 in
theorem tX9_streak {l : Launch} {E : En} {A : Nat → Prop} {d : Nat} {r : Int32} {M M' : Mem} {o : Nat} (hE : Okk E A) (hd : 2 ≤ d) (ho : kd o = (9, 0)) (h : fX9_streak o M = some (r, M')) : Ct l E A d yX9_streak cX9_streak 4 (some .int) [.ref (ad E o)] M (some (.int r)) M' := by
  refine Ct.mk (ls := [some (.ref (ad E o)), none, none, none]) hE (by decide +kernel) rfl (Nat.le_of_ble_eq_true rfl) (fun X hXl hXA C R => ?_)
  subst hXl; subst hXA
  unfold fX9_streak at h
  refine s_aload0 C dX9_streak_0 ?_
  obtain ⟨r2, M1, hq, h⟩ := bI_e h
  refine s_callV (T := TX9) (As := []) (v := some (.int r2)) C rfl ho (by decide) rfl (by omega) wX9_113 rfl (Nat.le_of_ble_eq_true rfl) dX9_streak_1 (tX9_isTold C.2.2.2.2.2.2.1 (by omega) ho hq) ?_
  refine s_if_ne (tgt := 10) C h dX9_streak_4 (by decide) ⟨fun h => ?_, fun h => ?_⟩
  · refine s_iconst (v := 0) C (by decide) dX9_streak_10 ?_
    refine s_istore1 C rfl dX9_streak_11 ?_
    refine s_iconst (v := 0) C (by decide) dX9_streak_12 ?_
    refine s_istore2 C rfl dX9_streak_13 ?_
    refine s_iconst (v := 0) C (by decide) dX9_streak_14 ?_
    refine s_istore3 C rfl dX9_streak_15 ?_
    exact bX9_streak_16 C R hd  LF _ _ _ _ _ ho h
  · refine s_bipush (v := -2) C (by decide) dX9_streak_7 ?_
    exact s_iret C R h dX9_streak_9
set_option maxRecDepth 4000 in
theorem tX9_isWho {l : Launch} {E : En} {A : Nat → Prop} {d : Nat} {r : Int32} {M M' : Mem} {x0 : Int32} (hE : Okk E A) (hd : 1 ≤ d)  (h : fX9_isWho x0 M = some (r, M')) : Ct l E A d yX9_isWho cX9_isWho 1 (some .boolean) [.int x0] M (some (.int r)) M' := by
  refine Ct.mk (ls := [some (.int x0)]) hE (by decide +kernel) rfl (Nat.le_of_ble_eq_true rfl) (fun X hXl hXA C R => ?_)
  subst hXl; subst hXA
  unfold fX9_isWho at h
  refine s_iload0 C dX9_isWho_0 ?_
  refine s_i2l C dX9_isWho_1 ?_
  refine s_lconst (v := 0) C (by decide) dX9_isWho_2 ?_
  refine s_ldc2 (v := 2) C k_946 dX9_isWho_3 ?_
  obtain ⟨r2, M1, hq, h⟩ := bI_e h
  refine s_callS (As := [.long (x0).toInt64, .long (0 : Int64), .long (2 : Int64)]) (v := some (.int r2)) C rfl (by omega) wX9_77 rfl (Nat.le_of_ble_eq_true rfl) dX9_isWho_6 (tX9_within C.2.2.2.2.2.2.1 (by omega)  hq) ?_
  obtain ⟨hb, h⟩ := ck_e h
  exact s_zret C R h (isB_n hb).1 dX9_isWho_9
set_option maxRecDepth 4000 in
theorem bX8_countOf_28 {E : En} {X : Xc} {d : Nat} {r : Int32} {M M' : Mem} {o : Nat} {x1 : Int32} {x2 : Int32} {x3 : Int32} {x4 : Int32} (C : Cx E X d cX8_countOf RX8 5) (R : Rt E X (some .int) (some (.int r)) M') (hd : 1 ≤ d) {k5 : Nat → Int32 → Int32 → Int32 → Int32 → Mem → Option (Int32 × Mem)} (hk5 : ∀ (o : Nat) (x1 : Int32) (x2 : Int32) (x3 : Int32) (x4 : Int32) (M : Mem) (_ : kd o = (8, 0)), k5 o x1 x2 x3 x4 M = some (r, M') → At E X 5 [some (.ref (ad E o)), some (.int x1), some (.int x2), some (.int x3), some (.int x4)] [] M) (ho : kd o = (8, 0)) (h : fX8_countOf_28 k5 o x1 x2 x3 x4 M = some (r, M')) : At E X 28 [some (.ref (ad E o)), some (.int x1), some (.int x2), some (.int x3), some (.int x4)] [] M := by
  unfold fX8_countOf_28 at h
  refine s_iinc4 (v := 1) C rfl dX8_countOf_28 (by decide) ?_
  refine s_goto (tgt := 5) C dX8_countOf_31 (by decide) ?_
  exact hk5 _ _ _ _ _ _ ho h
set_option maxRecDepth 4000 in
theorem bX8_countOf_5 {E : En} {X : Xc} {d : Nat} {r : Int32} {M' : Mem} (C : Cx E X d cX8_countOf RX8 5) (R : Rt E X (some .int) (some (.int r)) M') (hd : 1 ≤ d)   : ∀ (n : Nat) (o : Nat) (x1 : Int32) (x2 : Int32) (x3 : Int32) (x4 : Int32) (M : Mem) (_ : kd o = (8, 0)), fX8_countOf_5  n o x1 x2 x3 x4 M = some (r, M') → At E X 5 [some (.ref (ad E o)), some (.int x1), some (.int x2), some (.int x3), some (.int x4)] [] M := by
  intro n
  induction n with
  | zero => intro o x1 x2 x3 x4 M ho h; rw [fX8_countOf_5] at h; cases h
  | succ n ih =>
    intro o x1 x2 x3 x4 M ho h
    rw [fX8_countOf_5] at h
    refine s_iload4 C dX8_countOf_5 ?_
    refine s_aload0 C dX8_countOf_7 ?_
    refine gX8_15 C ho dX8_countOf_8 ?_
    refine s_ic_ge (tgt := 34) C h dX8_countOf_11 (by decide) ⟨fun h => ?_, fun h => ?_⟩
    · refine s_iload3 C dX8_countOf_34 ?_
      exact s_iret C R h dX8_countOf_35
    · refine s_aload0 C dX8_countOf_14 ?_
      refine s_iload4 C dX8_countOf_15 ?_
      refine s_iload1 C dX8_countOf_17 ?_
      obtain ⟨r2, M1, hq, h⟩ := bI_e h
      refine s_callV (T := TX8) (As := [.int x4, .int x1]) (v := some (.int r2)) C rfl ho (by decide) rfl (by omega) wX8_53 rfl (Nat.le_of_ble_eq_true rfl) dX8_countOf_18 (tX8_fact C.2.2.2.2.2.2.1 (by omega) ho hq) ?_
      refine s_iload2 C dX8_countOf_21 ?_
      refine s_ic_ne (tgt := 28) C h dX8_countOf_22 (by decide) ⟨fun h => ?_, fun h => ?_⟩
      · exact bX8_countOf_28 C R hd (ih) ho h
      · refine s_iinc3 (v := 1) C rfl dX8_countOf_25 (by decide) ?_
        exact bX8_countOf_28 C R hd (ih) ho h
set_option maxRecDepth 4000 in
theorem tX8_countOf {l : Launch} {E : En} {A : Nat → Prop} {d : Nat} {r : Int32} {M M' : Mem} {o : Nat} {x1 : Int32} {x2 : Int32} (hE : Okk E A) (hd : 1 ≤ d) (ho : kd o = (8, 0)) (h : fX8_countOf o x1 x2 M = some (r, M')) : Ct l E A d yX8_countOf cX8_countOf 5 (some .int) [.ref (ad E o), .int x1, .int x2] M (some (.int r)) M' := by
  refine Ct.mk (ls := [some (.ref (ad E o)), some (.int x1), some (.int x2), none, none]) hE (by decide +kernel) rfl (Nat.le_of_ble_eq_true rfl) (fun X hXl hXA C R => ?_)
  subst hXl; subst hXA
  unfold fX8_countOf at h
  refine s_iconst (v := 0) C (by decide) dX8_countOf_0 ?_
  refine s_istore3 C rfl dX8_countOf_1 ?_
  refine s_iconst (v := 0) C (by decide) dX8_countOf_2 ?_
  refine s_istore4 C rfl dX8_countOf_3 ?_
  exact bX8_countOf_5 C R hd  LF _ _ _ _ _ _ ho h
set_option maxRecDepth 4000 in
theorem tX9_said {l : Launch} {E : En} {A : Nat → Prop} {d : Nat} {r : Int32} {M M' : Mem} {o : Nat} {x1 : Int32} (hE : Okk E A) (hd : 2 ≤ d) (ho : kd o = (9, 0)) (h : fX9_said o x1 M = some (r, M')) : Ct l E A d yX9_said cX9_said 2 (some .int) [.ref (ad E o), .int x1] M (some (.int r)) M' := by
  refine Ct.mk (ls := [some (.ref (ad E o)), some (.int x1)]) hE (by decide +kernel) rfl (Nat.le_of_ble_eq_true rfl) (fun X hXl hXA C R => ?_)
  subst hXl; subst hXA
  unfold fX9_said at h
  refine s_aload0 C dX9_said_0 ?_
  obtain ⟨r2, M1, hq, h⟩ := bI_e h
  refine s_callV (T := TX9) (As := []) (v := some (.int r2)) C rfl ho (by decide) rfl (by omega) wX9_113 rfl (Nat.le_of_ble_eq_true rfl) dX9_said_1 (tX9_isTold C.2.2.2.2.2.2.1 (by omega) ho hq) ?_
  refine s_if_eq (tgt := 14) C h dX9_said_4 (by decide) ⟨fun h => ?_, fun h => ?_⟩
  · refine s_bipush (v := -2) C (by decide) dX9_said_14 ?_
    exact s_iret C R h dX9_said_16
  · refine s_iload1 C dX9_said_7 ?_
    obtain ⟨r4, M3, hq, h⟩ := bI_e h
    refine s_callS (As := [.int x1]) (v := some (.int r4)) C rfl (by omega) wX9_165 rfl (Nat.le_of_ble_eq_true rfl) dX9_said_8 (tX9_isWho C.2.2.2.2.2.2.1 (by omega)  hq) ?_
    refine s_if_ne (tgt := 17) C h dX9_said_11 (by decide) ⟨fun h => ?_, fun h => ?_⟩
    · refine s_aload0 C dX9_said_17 ?_
      refine gX9_44 C ho dX9_said_18 ?_
      refine s_bipush (v := 7) C (by decide) dX9_said_21 ?_
      refine s_iload1 C dX9_said_23 ?_
      obtain ⟨r6, M5, hq, h⟩ := bI_e h
      refine s_callV (T := TX8) (As := [.int (7 : Int32), .int x1]) (v := some (.int r6)) C rfl (qX9_trail ho) (by decide) rfl (by omega) wX9_168 rfl (Nat.le_of_ble_eq_true rfl) dX9_said_24 (tX8_countOf C.2.2.2.2.2.2.1 (by omega) (qX9_trail ho) hq) ?_
      exact s_iret C R h dX9_said_27
    · refine s_bipush (v := -2) C (by decide) dX9_said_14 ?_
      exact s_iret C R h dX9_said_16
set_option maxRecDepth 4000 in
theorem bX9_gained_88 {E : En} {X : Xc} {d : Nat} {r : Int32} {M M' : Mem} {o : Nat} {x1 : Int32} {x2 : Int32} {x3 : Int32} (C : Cx E X d cX9_gained RX9 4) (R : Rt E X (some .int) (some (.int r)) M') (hd : 2 ≤ d) {k22 : Nat → Int32 → Int32 → Int32 → Mem → Option (Int32 × Mem)} (hk22 : ∀ (o : Nat) (x1 : Int32) (x2 : Int32) (x3 : Int32) (M : Mem) (_ : kd o = (9, 0)), k22 o x1 x2 x3 M = some (r, M') → At E X 22 [some (.ref (ad E o)), some (.int x1), some (.int x2), some (.int x3)] [] M) (ho : kd o = (9, 0)) (h : fX9_gained_88 k22 o x1 x2 x3 M = some (r, M')) : At E X 88 [some (.ref (ad E o)), some (.int x1), some (.int x2), some (.int x3)] [] M := by
  unfold fX9_gained_88 at h
  refine s_iinc3 (v := 1) C rfl dX9_gained_88 (by decide) ?_
  refine s_goto (tgt := 22) C dX9_gained_91 (by decide) ?_
  exact hk22 _ _ _ _ _ ho h
set_option maxRecDepth 4000 in
theorem bX9_gained_86 {E : En} {X : Xc} {d : Nat} {r : Int32} {M M' : Mem} {o : Nat} {x1 : Int32} {x3 : Int32} {sx0 : Int32} {sx1 : Int32} (C : Cx E X d cX9_gained RX9 4) (R : Rt E X (some .int) (some (.int r)) M') (hd : 2 ≤ d) {k22 : Nat → Int32 → Int32 → Int32 → Mem → Option (Int32 × Mem)} (hk22 : ∀ (o : Nat) (x1 : Int32) (x2 : Int32) (x3 : Int32) (M : Mem) (_ : kd o = (9, 0)), k22 o x1 x2 x3 M = some (r, M') → At E X 22 [some (.ref (ad E o)), some (.int x1), some (.int x2), some (.int x3)] [] M) (ho : kd o = (9, 0)) (h : fX9_gained_86 k22 o x1 x3 sx0 sx1 M = some (r, M')) : At E X 86 [some (.ref (ad E o)), some (.int x1), none, some (.int x3)] [.int sx1, .int sx0] M := by
  unfold fX9_gained_86 at h
  refine s_iadd C dX9_gained_86 ?_
  refine s_istore2 C rfl dX9_gained_87 ?_
  exact bX9_gained_88 C R hd (hk22) ho h
set_option maxRecDepth 4000 in
theorem bX9_gained_22 {E : En} {X : Xc} {d : Nat} {r : Int32} {M' : Mem} (C : Cx E X d cX9_gained RX9 4) (R : Rt E X (some .int) (some (.int r)) M') (hd : 2 ≤ d)   : ∀ (n : Nat) (o : Nat) (x1 : Int32) (x2 : Int32) (x3 : Int32) (M : Mem) (_ : kd o = (9, 0)), fX9_gained_22  n o x1 x2 x3 M = some (r, M') → At E X 22 [some (.ref (ad E o)), some (.int x1), some (.int x2), some (.int x3)] [] M := by
  intro n
  induction n with
  | zero => intro o x1 x2 x3 M ho h; rw [fX9_gained_22] at h; cases h
  | succ n ih =>
    intro o x1 x2 x3 M ho h
    rw [fX9_gained_22] at h
    refine s_iload3 C dX9_gained_22 ?_
    refine s_aload0 C dX9_gained_23 ?_
    refine gX9_44 C ho dX9_gained_24 ?_
    refine gX9_157 C (qX9_trail ho) dX9_gained_27 ?_
    refine s_ic_ge (tgt := 94) C h dX9_gained_30 (by decide) ⟨fun h => ?_, fun h => ?_⟩
    · refine s_iload2 C dX9_gained_94 ?_
      exact s_iret C R h dX9_gained_95
    · refine s_aload0 C dX9_gained_33 ?_
      refine gX9_44 C ho dX9_gained_34 ?_
      refine s_iload3 C dX9_gained_37 ?_
      refine s_bipush (v := 7) C (by decide) dX9_gained_38 ?_
      obtain ⟨r2, M1, hq, h⟩ := bI_e h
      refine s_callV (T := TX8) (As := [.int x3, .int (7 : Int32)]) (v := some (.int r2)) C rfl (qX9_trail ho) (by decide) rfl (by omega) wX9_140 rfl (Nat.le_of_ble_eq_true rfl) dX9_gained_40 (tX8_fact C.2.2.2.2.2.2.1 (by omega) (qX9_trail ho) hq) ?_
      refine s_iload1 C dX9_gained_43 ?_
      refine s_ic_ne (tgt := 88) C h dX9_gained_44 (by decide) ⟨fun h => ?_, fun h => ?_⟩
      · exact bX9_gained_88 C R hd (ih) ho h
      · refine s_aload0 C dX9_gained_47 ?_
        refine gX9_44 C ho dX9_gained_48 ?_
        refine s_iload3 C dX9_gained_51 ?_
        refine s_iconst (v := 2) C (by decide) dX9_gained_52 ?_
        obtain ⟨r4, M3, hq, h⟩ := bI_e h
        refine s_callV (T := TX8) (As := [.int x3, .int (2 : Int32)]) (v := some (.int r4)) C rfl (qX9_trail ho) (by decide) rfl (by omega) wX9_140 rfl (Nat.le_of_ble_eq_true rfl) dX9_gained_53 (tX8_fact C.2.2.2.2.2.2.1 (by omega) (qX9_trail ho) hq) ?_
        refine s_aload0 C dX9_gained_56 ?_
        refine gX9_44 C ho dX9_gained_57 ?_
        refine s_iload3 C dX9_gained_60 ?_
        refine s_bipush (v := 6) C (by decide) dX9_gained_61 ?_
        obtain ⟨r6, M5, hq, h⟩ := bI_e h
        refine s_callV (T := TX8) (As := [.int x3, .int (6 : Int32)]) (v := some (.int r6)) C rfl (qX9_trail ho) (by decide) rfl (by omega) wX9_140 rfl (Nat.le_of_ble_eq_true rfl) dX9_gained_63 (tX8_fact C.2.2.2.2.2.2.1 (by omega) (qX9_trail ho) hq) ?_
        refine s_ic_eq (tgt := 88) C h dX9_gained_66 (by decide) ⟨fun h => ?_, fun h => ?_⟩
        · exact bX9_gained_88 C R hd (ih) ho h
        · refine s_iload2 C dX9_gained_69 ?_
          refine s_aload0 C dX9_gained_70 ?_
          refine gX9_44 C ho dX9_gained_71 ?_
          refine s_iload3 C dX9_gained_74 ?_
          obtain ⟨r8, M7, hq, h⟩ := bI_e h
          refine s_callV (T := TX8) (As := [.int x3]) (v := some (.int r8)) C rfl (qX9_trail ho) (by decide) rfl (by omega) wX9_147 rfl (Nat.le_of_ble_eq_true rfl) dX9_gained_75 (tX8_isWrong C.2.2.2.2.2.2.1 (by omega) (qX9_trail ho) hq) ?_
          refine s_if_eq (tgt := 85) C h dX9_gained_78 (by decide) ⟨fun h => ?_, fun h => ?_⟩
          · refine s_iconst (v := 1) C (by decide) dX9_gained_85 ?_
            refine s_fg 2 ?_
            exact bX9_gained_86 C R hd (ih) ho h
          · refine s_iconst (v := -1) C (by decide) dX9_gained_81 ?_
            refine s_goto (tgt := 86) C dX9_gained_82 (by decide) ?_
            refine s_fg 2 ?_
            exact bX9_gained_86 C R hd (ih) ho h
set_option maxRecDepth 4000 in
theorem tX9_gained {l : Launch} {E : En} {A : Nat → Prop} {d : Nat} {r : Int32} {M M' : Mem} {o : Nat} {x1 : Int32} (hE : Okk E A) (hd : 2 ≤ d) (ho : kd o = (9, 0)) (h : fX9_gained o x1 M = some (r, M')) : Ct l E A d yX9_gained cX9_gained 4 (some .int) [.ref (ad E o), .int x1] M (some (.int r)) M' := by
  refine Ct.mk (ls := [some (.ref (ad E o)), some (.int x1), none, none]) hE (by decide +kernel) rfl (Nat.le_of_ble_eq_true rfl) (fun X hXl hXA C R => ?_)
  subst hXl; subst hXA
  unfold fX9_gained at h
  refine s_aload0 C dX9_gained_0 ?_
  obtain ⟨r2, M1, hq, h⟩ := bI_e h
  refine s_callV (T := TX9) (As := []) (v := some (.int r2)) C rfl ho (by decide) rfl (by omega) wX9_113 rfl (Nat.le_of_ble_eq_true rfl) dX9_gained_1 (tX9_isTold C.2.2.2.2.2.2.1 (by omega) ho hq) ?_
  refine s_if_eq (tgt := 14) C h dX9_gained_4 (by decide) ⟨fun h => ?_, fun h => ?_⟩
  · refine s_sipush (v := -1000) C (by decide) dX9_gained_14 ?_
    exact s_iret C R h dX9_gained_17
  · refine s_iload1 C dX9_gained_7 ?_
    obtain ⟨r4, M3, hq, h⟩ := bI_e h
    refine s_callS (As := [.int x1]) (v := some (.int r4)) C rfl (by omega) wX9_165 rfl (Nat.le_of_ble_eq_true rfl) dX9_gained_8 (tX9_isWho C.2.2.2.2.2.2.1 (by omega)  hq) ?_
    refine s_if_ne (tgt := 18) C h dX9_gained_11 (by decide) ⟨fun h => ?_, fun h => ?_⟩
    · refine s_iconst (v := 0) C (by decide) dX9_gained_18 ?_
      refine s_istore2 C rfl dX9_gained_19 ?_
      refine s_iconst (v := 0) C (by decide) dX9_gained_20 ?_
      refine s_istore3 C rfl dX9_gained_21 ?_
      exact bX9_gained_22 C R hd  LF _ _ _ _ _ ho h
    · refine s_sipush (v := -1000) C (by decide) dX9_gained_14 ?_
      exact s_iret C R h dX9_gained_17
set_option maxRecDepth 4000 in
theorem tX9_provided {l : Launch} {E : En} {A : Nat → Prop} {d : Nat} {r : Int32} {M M' : Mem} {o : Nat} {x1 : Int32} (hE : Okk E A) (hd : 2 ≤ d) (ho : kd o = (9, 0)) (h : fX9_provided o x1 M = some (r, M')) : Ct l E A d yX9_provided cX9_provided 2 (some .int) [.ref (ad E o), .int x1] M (some (.int r)) M' := by
  refine Ct.mk (ls := [some (.ref (ad E o)), some (.int x1)]) hE (by decide +kernel) rfl (Nat.le_of_ble_eq_true rfl) (fun X hXl hXA C R => ?_)
  subst hXl; subst hXA
  unfold fX9_provided at h
  refine s_aload0 C dX9_provided_0 ?_
  obtain ⟨r2, M1, hq, h⟩ := bI_e h
  refine s_callV (T := TX9) (As := []) (v := some (.int r2)) C rfl ho (by decide) rfl (by omega) wX9_113 rfl (Nat.le_of_ble_eq_true rfl) dX9_provided_1 (tX9_isTold C.2.2.2.2.2.2.1 (by omega) ho hq) ?_
  refine s_if_eq (tgt := 24) C h dX9_provided_4 (by decide) ⟨fun h => ?_, fun h => ?_⟩
  · refine s_bipush (v := -2) C (by decide) dX9_provided_24 ?_
    exact s_iret C R h dX9_provided_26
  · refine s_iload1 C dX9_provided_7 ?_
    refine s_i2l C dX9_provided_8 ?_
    refine s_lconst (v := 0) C (by decide) dX9_provided_9 ?_
    refine s_aload0 C dX9_provided_10 ?_
    refine gX9_23 C ho dX9_provided_11 ?_
    refine gX9_171 C (qX9_told ho) dX9_provided_14 ?_
    refine s_i2l C dX9_provided_17 ?_
    obtain ⟨r4, M3, hq, h⟩ := bI_e h
    refine s_callS (As := [.long (x1).toInt64, .long (0 : Int64), .long ((M1.1 (o + 9) 6)).toInt64]) (v := some (.int r4)) C rfl (by omega) wX9_77 rfl (Nat.le_of_ble_eq_true rfl) dX9_provided_18 (tX9_within C.2.2.2.2.2.2.1 (by omega)  hq) ?_
    refine s_if_ne (tgt := 27) C h dX9_provided_21 (by decide) ⟨fun h => ?_, fun h => ?_⟩
    · refine s_aload0 C dX9_provided_27 ?_
      refine gX9_44 C ho dX9_provided_28 ?_
      refine s_iconst (v := 3) C (by decide) dX9_provided_31 ?_
      refine s_iload1 C dX9_provided_32 ?_
      obtain ⟨r6, M5, hq, h⟩ := bI_e h
      refine s_callV (T := TX8) (As := [.int (3 : Int32), .int x1]) (v := some (.int r6)) C rfl (qX9_trail ho) (by decide) rfl (by omega) wX9_168 rfl (Nat.le_of_ble_eq_true rfl) dX9_provided_33 (tX8_countOf C.2.2.2.2.2.2.1 (by omega) (qX9_trail ho) hq) ?_
      exact s_iret C R h dX9_provided_36
    · refine s_bipush (v := -2) C (by decide) dX9_provided_24 ?_
      exact s_iret C R h dX9_provided_26
