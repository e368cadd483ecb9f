set_option maxRecDepth 4000 in
theorem tX10_branches {l : Launch} {E : En} {A : Nat → Prop} {d : Nat} {M M' : Mem} {o : Nat} {x1 : Int32} {x2 : Int32} {x3 : Int32} (hE : Okk E A) (hd : 0 ≤ d) (ho : kd o = (10, 0)) (h : fX10_branches o x1 x2 x3 M = some M') : Ct l E A d yX10_branches cX10_branches 4 none [.ref (ad E o), .int x1, .int x2, .int x3] M none M' := by
  refine Ct.mk (ls := [some (.ref (ad E o)), some (.int x1), some (.int x2), some (.int x3)]) hE (by decide +kernel) rfl (Nat.le_of_ble_eq_true rfl) (fun X hXl hXA C R => ?_)
  subst hXl; subst hXA
  unfold fX10_branches at h
  refine s_aload0 C dX10_branches_0 ?_
  refine gX10_40 C ho dX10_branches_1 ?_
  refine s_aload0 C dX10_branches_4 ?_
  refine gX10_289 C ho dX10_branches_5 ?_
  refine s_iload1 C dX10_branches_8 ?_
  refine s_iast C (qX10_addressOf ho) h dX10_branches_9 (fun h => ?_)
  refine s_aload0 C dX10_branches_10 ?_
  refine gX10_43 C ho dX10_branches_11 ?_
  refine s_aload0 C dX10_branches_14 ?_
  refine gX10_289 C ho dX10_branches_15 ?_
  refine s_iload2 C dX10_branches_18 ?_
  refine s_iast C (qX10_takenOf ho) h dX10_branches_19 (fun h => ?_)
  refine s_aload0 C dX10_branches_20 ?_
  refine gX10_46 C ho dX10_branches_21 ?_
  refine s_aload0 C dX10_branches_24 ?_
  refine gX10_289 C ho dX10_branches_25 ?_
  refine s_iload3 C dX10_branches_28 ?_
  refine s_iast C (qX10_stepOf ho) h dX10_branches_29 (fun h => ?_)
  refine s_aload0 C dX10_branches_30 ?_
  refine s_dup C rfl dX10_branches_31 ?_
  refine gX10_289 C ho dX10_branches_32 ?_
  refine s_iconst (v := 1) C (by decide) dX10_branches_35 ?_
  refine s_iadd C dX10_branches_36 ?_
  refine pX10_289 C ho dX10_branches_37 ?_
  exact s_vret C R h dX10_branches_40
set_option maxRecDepth 4000 in
theorem bX10_step_152 {E : En} {X : Xc} {d : Nat} {M M' : Mem} {o : Nat} {x3 : Int32} (C : Cx E X d cX10_step RX10 5) (R : Rt E X none none M') (hd : 2 ≤ d)   (ho : kd o = (10, 0)) (h : fX10_step_152  o x3 M = some M') : At E X 152 [some (.ref (ad E o)), none, none, some (.int x3), none] [] M := by
  unfold fX10_step_152 at h
  refine s_aload0 C dX10_step_152 ?_
  refine s_dup C rfl dX10_step_153 ?_
  refine gX10_292 C ho dX10_step_154 ?_
  refine s_iconst (v := 1) C (by decide) dX10_step_157 ?_
  refine s_iadd C dX10_step_158 ?_
  refine pX10_292 C ho dX10_step_159 ?_
  refine s_aload0 C dX10_step_162 ?_
  refine gX10_37 C ho dX10_step_163 ?_
  refine s_aload0 C dX10_step_166 ?_
  refine gX10_292 C ho dX10_step_167 ?_
  refine s_iload3 C dX10_step_170 ?_
  refine s_iast C (qX10_nexts ho) h dX10_step_171 (fun h => ?_)
  exact s_vret C R h dX10_step_172
set_option maxRecDepth 4000 in
theorem bX10_step_101 {E : En} {X : Xc} {d : Nat} {M M' : Mem} {o : Nat} {sx0 : Int32} (C : Cx E X d cX10_step RX10 5) (R : Rt E X none none M') (hd : 2 ≤ d)   (ho : kd o = (10, 0)) (h : fX10_step_101  o sx0 M = some M') : At E X 101 [some (.ref (ad E o)), none, none, none, none] [.int sx0] M := by
  unfold fX10_step_101 at h
  refine s_istore3 C rfl dX10_step_101 ?_
  refine s_goto (tgt := 152) C dX10_step_102 (by decide) ?_
  exact bX10_step_152 C R hd  ho h
set_option maxRecDepth 4000 in
theorem bX10_step_80 {E : En} {X : Xc} {d : Nat} {M M' : Mem} {o : Nat} {x1 : Int32} {x3 : Int32} {x4 : Int32} {so0 : Nat} {sx1 : Int32} {sx2 : Int32} (C : Cx E X d cX10_step RX10 5) (R : Rt E X none none M') (hd : 2 ≤ d)   (ho : kd o = (10, 0)) (hso0 : kd so0 = (10, 0)) (h : fX10_step_80  o x1 x3 x4 so0 sx1 sx2 M = some M') : At E X 80 [some (.ref (ad E o)), some (.int x1), none, some (.int x3), some (.int x4)] [.int sx2, .int sx1, .ref (ad E so0)] M := by
  unfold fX10_step_80 at h
  refine s_aload0 C dX10_step_80 ?_
  refine gX10_292 C ho dX10_step_81 ?_
  obtain ⟨M1, hq, h⟩ := bV_e h
  refine s_callV (T := TX10) (As := [.int sx1, .int sx2, .int (M.1 o 20)]) (v := none) C rfl hso0 (by decide) rfl (by omega) wX10_303 rfl (Nat.le_of_ble_eq_true rfl) dX10_step_84 (tX10_branches C.2.2.2.2.2.2.1 (by omega) hso0 hq) ?_
  refine s_iload4 C dX10_step_87 ?_
  refine s_if_eq (tgt := 100) C h dX10_step_89 (by decide) ⟨fun h => ?_, fun h => ?_⟩
  · refine s_iload3 C dX10_step_100 ?_
    refine s_fg 1 ?_
    refine s_fg 3 ?_
    refine s_fg 4 ?_
    exact bX10_step_101 C R hd  ho h
  · refine s_aload0 C dX10_step_92 ?_
    refine s_iload1 C dX10_step_93 ?_
    obtain ⟨r3, M2, hq, h⟩ := bI_e h
    refine s_callV (T := TX10) (As := [.int x1]) (v := some (.int r3)) C rfl ho (by decide) rfl (by omega) wX10_307 rfl (Nat.le_of_ble_eq_true rfl) dX10_step_94 (tX10_goalOf C.2.2.2.2.2.2.1 (by omega) ho hq) ?_
    refine s_goto (tgt := 101) C dX10_step_97 (by decide) ?_
    refine s_fg 1 ?_
    refine s_fg 3 ?_
    refine s_fg 4 ?_
    exact bX10_step_101 C R hd  ho h
set_option maxRecDepth 4000 in
theorem bX10_step_15 {E : En} {X : Xc} {d : Nat} {M' : Mem} (C : Cx E X d cX10_step RX10 5) (R : Rt E X none none M') (hd : 2 ≤ d)   : ∀ (n : Nat) (o : Nat) (x1 : Int32) (x2 : Int32) (x3 : Int32) (x4 : Int32) (M : Mem) (_ : kd o = (10, 0)), fX10_step_15  n o x1 x2 x3 x4 M = some M' → At E X 15 [some (.ref (ad E o)), some (.int x1), some (.int x2), some (.int x3), some (.int x4)] [] M := by
  intro n
  induction n with
  | zero => intro o x1 x2 x3 x4 M ho h; rw [fX10_step_15] at h; cases h
  | succ n ih =>
    intro o x1 x2 x3 x4 M ho h
    rw [fX10_step_15] at h
    refine s_iload4 C dX10_step_15 ?_
    refine s_bipush (v := 8) C (by decide) dX10_step_17 ?_
    refine s_ic_ge (tgt := 49) C h dX10_step_19 (by decide) ⟨fun h => ?_, fun h => ?_⟩
    · refine s_aload0 C dX10_step_49 ?_
      refine s_iload1 C dX10_step_50 ?_
      obtain ⟨r2, M1, hq, h⟩ := bI_e h
      refine s_callV (T := TX10) (As := [.int x1]) (v := some (.int r2)) C rfl ho (by decide) rfl (by omega) wX10_283 rfl (Nat.le_of_ble_eq_true rfl) dX10_step_51 (tX10_kindOf C.2.2.2.2.2.2.1 (by omega) ho hq) ?_
      obtain ⟨r4, M3, hq, h⟩ := bI_e h
      refine s_callS (As := [.int r2]) (v := some (.int r4)) C rfl (by omega) wX10_295 rfl (Nat.le_of_ble_eq_true rfl) dX10_step_54 (tX10_isBranch C.2.2.2.2.2.2.1 (by omega)  hq) ?_
      refine s_if_eq (tgt := 105) C h dX10_step_57 (by decide) ⟨fun h => ?_, fun h => ?_⟩
      · refine s_aload0 C dX10_step_105 ?_
        refine s_iload1 C dX10_step_106 ?_
        obtain ⟨r6, M5, hq, h⟩ := bI_e h
        refine s_callV (T := TX10) (As := [.int x1]) (v := some (.int r6)) C rfl ho (by decide) rfl (by omega) wX10_283 rfl (Nat.le_of_ble_eq_true rfl) dX10_step_107 (tX10_kindOf C.2.2.2.2.2.2.1 (by omega) ho hq) ?_
        refine s_bipush (v := 9) C (by decide) dX10_step_110 ?_
        refine s_ic_ne (tgt := 124) C h dX10_step_112 (by decide) ⟨fun h => ?_, fun h => ?_⟩
        · refine s_aload0 C dX10_step_124 ?_
          refine s_iload1 C dX10_step_125 ?_
          obtain ⟨r8, M7, hq, h⟩ := bI_e h
          refine s_callV (T := TX10) (As := [.int x1]) (v := some (.int r8)) C rfl ho (by decide) rfl (by omega) wX10_283 rfl (Nat.le_of_ble_eq_true rfl) dX10_step_126 (tX10_kindOf C.2.2.2.2.2.2.1 (by omega) ho hq) ?_
          refine s_aload0 C dX10_step_129 ?_
          refine s_iload1 C dX10_step_130 ?_
          refine s_iconst (v := 0) C (by decide) dX10_step_131 ?_
          obtain ⟨r10, M9, hq, h⟩ := bI_e h
          refine s_callV (T := TX10) (As := [.int x1, .int (0 : Int32)]) (v := some (.int r10)) C rfl ho (by decide) rfl (by omega) wX10_286 rfl (Nat.le_of_ble_eq_true rfl) dX10_step_132 (tX10_numberOf C.2.2.2.2.2.2.1 (by omega) ho hq) ?_
          refine s_aload0 C dX10_step_135 ?_
          refine s_iload1 C dX10_step_136 ?_
          refine s_iconst (v := 1) C (by decide) dX10_step_137 ?_
          obtain ⟨r12, M11, hq, h⟩ := bI_e h
          refine s_callV (T := TX10) (As := [.int x1, .int (1 : Int32)]) (v := some (.int r12)) C rfl ho (by decide) rfl (by omega) wX10_286 rfl (Nat.le_of_ble_eq_true rfl) dX10_step_138 (tX10_numberOf C.2.2.2.2.2.2.1 (by omega) ho hq) ?_
          refine s_aload0 C dX10_step_141 ?_
          refine gX10_34 C ho dX10_step_142 ?_
          refine s_iload2 C dX10_step_145 ?_
          refine s_bipush (v := 8) C (by decide) dX10_step_146 ?_
          refine s_iadd C dX10_step_148 ?_
          obtain ⟨M13, hq, h⟩ := bV_e h
          refine s_callS (As := [.int r8, .int r10, .int r12, .ref (ad E (o + 7)), .int (x2 + (8 : Int32))]) (v := none) C rfl (by omega) wX10_310 rfl (Nat.le_of_ble_eq_true rfl) dX10_step_149 (tX10_obey C.2.2.2.2.2.2.1 (by omega) (kd_any (qX10_registers ho)) hq) ?_
          refine s_fg 1 ?_
          refine s_fg 2 ?_
          refine s_fg 4 ?_
          exact bX10_step_152 C R hd  ho h
        · refine s_aload0 C dX10_step_115 ?_
          refine s_iload1 C dX10_step_116 ?_
          obtain ⟨r15, M14, hq, h⟩ := bI_e h
          refine s_callV (T := TX10) (As := [.int x1]) (v := some (.int r15)) C rfl ho (by decide) rfl (by omega) wX10_307 rfl (Nat.le_of_ble_eq_true rfl) dX10_step_117 (tX10_goalOf C.2.2.2.2.2.2.1 (by omega) ho hq) ?_
          refine s_istore3 C rfl dX10_step_120 ?_
          refine s_goto (tgt := 152) C dX10_step_121 (by decide) ?_
          refine s_fg 1 ?_
          refine s_fg 2 ?_
          refine s_fg 4 ?_
          exact bX10_step_152 C R hd  ho h
      · refine s_aload0 C dX10_step_60 ?_
        refine s_iload1 C dX10_step_61 ?_
        refine s_iload2 C dX10_step_62 ?_
        obtain ⟨r17, M16, hq, h⟩ := bI_e h
        refine s_callV (T := TX10) (As := [.int x1, .int x2]) (v := some (.int r17)) C rfl ho (by decide) rfl (by omega) wX10_299 rfl (Nat.le_of_ble_eq_true rfl) dX10_step_63 (tX10_isTaken C.2.2.2.2.2.2.1 (by omega) ho hq) ?_
        refine s_istore4 C rfl dX10_step_66 ?_
        refine s_aload0 C dX10_step_68 ?_
        refine s_iload1 C dX10_step_69 ?_
        refine s_iload4 C dX10_step_70 ?_
        refine s_if_eq (tgt := 79) C h dX10_step_72 (by decide) ⟨fun h => ?_, fun h => ?_⟩
        · refine s_iconst (v := 0) C (by decide) dX10_step_79 ?_
          refine s_fg 2 ?_
          exact bX10_step_80 C R hd  ho ho h
        · refine s_iconst (v := 1) C (by decide) dX10_step_75 ?_
          refine s_goto (tgt := 80) C dX10_step_76 (by decide) ?_
          refine s_fg 2 ?_
          exact bX10_step_80 C R hd  ho ho h
    · refine s_aload0 C dX10_step_22 ?_
      refine gX10_34 C ho dX10_step_23 ?_
      refine s_iload2 C dX10_step_26 ?_
      refine s_bipush (v := 8) C (by decide) dX10_step_27 ?_
      refine s_iadd C dX10_step_29 ?_
      refine s_iload4 C dX10_step_30 ?_
      refine s_iadd C dX10_step_32 ?_
      refine s_aload0 C dX10_step_33 ?_
      refine gX10_34 C ho dX10_step_34 ?_
      refine s_iload2 C dX10_step_37 ?_
      refine s_iload4 C dX10_step_38 ?_
      refine s_iadd C dX10_step_40 ?_
      refine s_iald C (qX10_registers ho) h dX10_step_41 (fun h => ?_)
      refine s_iast C (qX10_registers ho) h dX10_step_42 (fun h => ?_)
      refine s_iinc4 (v := 1) C rfl dX10_step_43 (by decide) ?_
      refine s_goto (tgt := 15) C dX10_step_46 (by decide) ?_
      exact ih _ _ _ _ _ _ ho h
set_option maxRecDepth 4000 in
theorem tX10_step {l : Launch} {E : En} {A : Nat → Prop} {d : Nat} {M M' : Mem} {o : Nat} {x1 : Int32} (hE : Okk E A) (hd : 2 ≤ d) (ho : kd o = (10, 0)) (h : fX10_step o x1 M = some M') : Ct l E A d yX10_step cX10_step 5 none [.ref (ad E o), .int x1] M none M' := by
  refine Ct.mk (ls := [some (.ref (ad E o)), some (.int x1), none, none, none]) hE (by decide +kernel) rfl (Nat.le_of_ble_eq_true rfl) (fun X hXl hXA C R => ?_)
  subst hXl; subst hXA
  unfold fX10_step at h
  refine s_bipush (v := 8) C (by decide) dX10_step_0 ?_
  refine s_aload0 C dX10_step_2 ?_
  refine gX10_292 C ho dX10_step_3 ?_
  refine s_imul C dX10_step_6 ?_
  refine s_istore2 C rfl dX10_step_7 ?_
  refine s_iload1 C dX10_step_8 ?_
  refine s_iconst (v := 1) C (by decide) dX10_step_9 ?_
  refine s_iadd C dX10_step_10 ?_
  refine s_istore3 C rfl dX10_step_11 ?_
  refine s_iconst (v := 0) C (by decide) dX10_step_12 ?_
  refine s_istore4 C rfl dX10_step_13 ?_
  exact bX10_step_15 C R hd  LF _ _ _ _ _ _ ho h
set_option maxRecDepth 4000 in
theorem tX10_endNow {l : Launch} {E : En} {A : Nat → Prop} {d : Nat} {r : Int32} {M M' : Mem} {o : Nat} (hE : Okk E A) (hd : 2 ≤ d) (ho : kd o = (10, 0)) (h : fX10_endNow o M = some (r, M')) : Ct l E A d yX10_endNow cX10_endNow 1 (some .int) [.ref (ad E o)] M (some (.int r)) M' := by
  refine Ct.mk (ls := [some (.ref (ad E o))]) hE (by decide +kernel) rfl (Nat.le_of_ble_eq_true rfl) (fun X hXl hXA C R => ?_)
  subst hXl; subst hXA
  unfold fX10_endNow at h
  refine s_aload0 C dX10_endNow_0 ?_
  refine gX10_292 C ho dX10_endNow_1 ?_
  refine s_sipush (v := 200) C (by decide) dX10_endNow_4 ?_
  refine s_ic_ne (tgt := 12) C h dX10_endNow_7 (by decide) ⟨fun h => ?_, fun h => ?_⟩
  · refine s_aload0 C dX10_endNow_12 ?_
    refine s_aload0 C dX10_endNow_13 ?_
    refine gX10_37 C ho dX10_endNow_14 ?_
    refine s_aload0 C dX10_endNow_17 ?_
    refine gX10_292 C ho dX10_endNow_18 ?_
    refine s_iald C (qX10_nexts ho) h dX10_endNow_21 (fun h => ?_)
    obtain ⟨r2, M1, hq, h⟩ := bI_e h
    refine s_callV (T := TX10) (As := [.int (M.1 (o + 8) (tn (M.1 o 20)))]) (v := some (.int r2)) C rfl ho (by decide) rfl (by omega) wX10_314 rfl (Nat.le_of_ble_eq_true rfl) dX10_endNow_22 (tX10_isOp C.2.2.2.2.2.2.1 (by omega) ho hq) ?_
    refine s_if_ne (tgt := 30) C h dX10_endNow_25 (by decide) ⟨fun h => ?_, fun h => ?_⟩
    · refine s_aload0 C dX10_endNow_30 ?_
      refine s_aload0 C dX10_endNow_31 ?_
      refine gX10_37 C ho dX10_endNow_32 ?_
      refine s_aload0 C dX10_endNow_35 ?_
      refine gX10_292 C ho dX10_endNow_36 ?_
      refine s_iald C (qX10_nexts ho) h dX10_endNow_39 (fun h => ?_)
      obtain ⟨r4, M3, hq, h⟩ := bI_e h
      refine s_callV (T := TX10) (As := [.int (M1.1 (o + 8) (tn (M1.1 o 20)))]) (v := some (.int r4)) C rfl ho (by decide) rfl (by omega) wX10_283 rfl (Nat.le_of_ble_eq_true rfl) dX10_endNow_40 (tX10_kindOf C.2.2.2.2.2.2.1 (by omega) ho hq) ?_
      refine s_bipush (v := 10) C (by decide) dX10_endNow_43 ?_
      refine s_ic_ne (tgt := 52) C h dX10_endNow_45 (by decide) ⟨fun h => ?_, fun h => ?_⟩
      · refine s_iconst (v := 0) C (by decide) dX10_endNow_52 ?_
        exact s_iret C R h dX10_endNow_53
      · refine s_iconst (v := 1) C (by decide) dX10_endNow_48 ?_
        refine s_goto (tgt := 53) C dX10_endNow_49 (by decide) ?_
        exact s_iret C R h dX10_endNow_53
    · refine s_iconst (v := 2) C (by decide) dX10_endNow_28 ?_
      exact s_iret C R h dX10_endNow_29
  · refine s_iconst (v := 3) C (by decide) dX10_endNow_10 ?_
    exact s_iret C R h dX10_endNow_11
set_option maxRecDepth 4000 in
theorem bX10_layRun_87 {E : En} {X : Xc} {d : Nat} {M' : Mem} (C : Cx E X d cX10_layRun RX10 2) (R : Rt E X none none M') (hd : 3 ≤ d)   : ∀ (n : Nat) (o : Nat) (x1 : Int32) (M : Mem) (_ : kd o = (10, 0)), fX10_layRun_87  n o x1 M = some M' → At E X 87 [some (.ref (ad E o)), some (.int x1)] [] M := by
  intro n
  induction n with
  | zero => intro o x1 M ho h; rw [fX10_layRun_87] at h; cases h
  | succ n ih =>
    intro o x1 M ho h
    rw [fX10_layRun_87] at h
    refine s_iload1 C dX10_layRun_87 ?_
    refine s_aload0 C dX10_layRun_88 ?_
    refine gX10_9 C ho dX10_layRun_89 ?_
    refine s_bipush (v := 8) C (by decide) dX10_layRun_92 ?_
    refine s_iald C (qX10_world ho) h dX10_layRun_94 (fun h => ?_)
    refine s_ic_ge (tgt := 133) C h dX10_layRun_95 (by decide) ⟨fun h => ?_, fun h => ?_⟩
    · exact s_vret C R h dX10_layRun_133
    · refine s_aload0 C dX10_layRun_98 ?_
      refine s_aload0 C dX10_layRun_99 ?_
      refine gX10_9 C ho dX10_layRun_100 ?_
      refine s_sipush (v := 175) C (by decide) dX10_layRun_103 ?_
      refine s_iload1 C dX10_layRun_106 ?_
      refine s_iadd C dX10_layRun_107 ?_
      refine s_iald C (qX10_world ho) h dX10_layRun_108 (fun h => ?_)
      refine s_iconst (v := 2) C (by decide) dX10_layRun_109 ?_
      refine s_idivc C (by decide) dX10_layRun_110 ?_
      refine s_aload0 C dX10_layRun_111 ?_
      refine gX10_9 C ho dX10_layRun_112 ?_
      refine s_sipush (v := 175) C (by decide) dX10_layRun_115 ?_
      refine s_iload1 C dX10_layRun_118 ?_
      refine s_iadd C dX10_layRun_119 ?_
      refine s_iald C (qX10_world ho) h dX10_layRun_120 (fun h => ?_)
      refine s_iconst (v := 2) C (by decide) dX10_layRun_121 ?_
      refine s_iremc C (by decide) dX10_layRun_122 ?_
      refine s_iconst (v := -1) C (by decide) dX10_layRun_123 ?_
      obtain ⟨M1, hq, h⟩ := bV_e h
      refine s_callV (T := TX10) (As := [.int ((M.1 (o + 1) (tn ((175 : Int32) + x1))) / (2 : Int32)), .int (irm (M.1 (o + 1) (tn ((175 : Int32) + x1))) (2 : Int32)), .int (-1 : Int32)]) (v := none) C rfl ho (by decide) rfl (by omega) wX10_303 rfl (Nat.le_of_ble_eq_true rfl) dX10_layRun_124 (tX10_branches C.2.2.2.2.2.2.1 (by omega) ho hq) ?_
      refine s_iinc1 (v := 1) C rfl dX10_layRun_127 (by decide) ?_
      refine s_goto (tgt := 87) C dX10_layRun_130 (by decide) ?_
      exact ih _ _ _ ho h
set_option maxRecDepth 4000 in
theorem bX10_layRun_46 {E : En} {X : Xc} {d : Nat} {M' : Mem} (C : Cx E X d cX10_layRun RX10 2) (R : Rt E X none none M') (hd : 3 ≤ d)   : ∀ (n : Nat) (o : Nat) (M : Mem) (_ : kd o = (10, 0)), fX10_layRun_46  n o M = some M' → At E X 46 [some (.ref (ad E o)), none] [] M := by
  intro n
  induction n with
  | zero => intro o M ho h; rw [fX10_layRun_46] at h; cases h
  | succ n ih =>
    intro o M ho h
    rw [fX10_layRun_46] at h
    refine s_aload0 C dX10_layRun_46 ?_
    refine gX10_320 C ho dX10_layRun_47 ?_
    refine s_if_ne (tgt := 77) C h dX10_layRun_50 (by decide) ⟨fun h => ?_, fun h => ?_⟩
    · refine s_aload0 C dX10_layRun_77 ?_
      refine s_aload0 C dX10_layRun_78 ?_
      refine gX10_289 C ho dX10_layRun_79 ?_
      refine pX10_326 C ho dX10_layRun_82 ?_
      refine s_iconst (v := 0) C (by decide) dX10_layRun_85 ?_
      refine s_istore1 C rfl dX10_layRun_86 ?_
      exact bX10_layRun_87 C R hd  LF _ _ _ ho h
    · refine s_aload0 C dX10_layRun_53 ?_
      refine s_aload0 C dX10_layRun_54 ?_
      refine gX10_37 C ho dX10_layRun_55 ?_
      refine s_aload0 C dX10_layRun_58 ?_
      refine gX10_292 C ho dX10_layRun_59 ?_
      refine s_iald C (qX10_nexts ho) h dX10_layRun_62 (fun h => ?_)
      obtain ⟨M1, hq, h⟩ := bV_e h
      refine s_callV (T := TX10) (As := [.int (M.1 (o + 8) (tn (M.1 o 20)))]) (v := none) C rfl ho (by decide) rfl (by omega) wX10_323 rfl (Nat.le_of_ble_eq_true rfl) dX10_layRun_63 (tX10_step C.2.2.2.2.2.2.1 (by omega) ho hq) ?_
      refine s_aload0 C dX10_layRun_66 ?_
      refine s_aload0 C dX10_layRun_67 ?_
      obtain ⟨r3, M2, hq, h⟩ := bI_e h
      refine s_callV (T := TX10) (As := []) (v := some (.int r3)) C rfl ho (by decide) rfl (by omega) wX10_317 rfl (Nat.le_of_ble_eq_true rfl) dX10_layRun_68 (tX10_endNow C.2.2.2.2.2.2.1 (by omega) ho hq) ?_
      refine pX10_320 C ho dX10_layRun_71 ?_
      refine s_goto (tgt := 46) C dX10_layRun_74 (by decide) ?_
      exact ih _ _ ho h
set_option maxRecDepth 4000 in
theorem bX10_layRun_19 {E : En} {X : Xc} {d : Nat} {M' : Mem} (C : Cx E X d cX10_layRun RX10 2) (R : Rt E X none none M') (hd : 3 ≤ d)   : ∀ (n : Nat) (o : Nat) (x1 : Int32) (M : Mem) (_ : kd o = (10, 0)), fX10_layRun_19  n o x1 M = some M' → At E X 19 [some (.ref (ad E o)), some (.int x1)] [] M := by
  intro n
  induction n with
  | zero => intro o x1 M ho h; rw [fX10_layRun_19] at h; cases h
  | succ n ih =>
    intro o x1 M ho h
    rw [fX10_layRun_19] at h
    refine s_iload1 C dX10_layRun_19 ?_
    refine s_bipush (v := 8) C (by decide) dX10_layRun_20 ?_
    refine s_ic_ge (tgt := 38) C h dX10_layRun_22 (by decide) ⟨fun h => ?_, fun h => ?_⟩
    · refine s_aload0 C dX10_layRun_38 ?_
      refine s_aload0 C dX10_layRun_39 ?_
      obtain ⟨r2, M1, hq, h⟩ := bI_e h
      refine s_callV (T := TX10) (As := []) (v := some (.int r2)) C rfl ho (by decide) rfl (by omega) wX10_317 rfl (Nat.le_of_ble_eq_true rfl) dX10_layRun_40 (tX10_endNow C.2.2.2.2.2.2.1 (by omega) ho hq) ?_
      refine pX10_320 C ho dX10_layRun_43 ?_
      refine s_fg 1 ?_
      exact bX10_layRun_46 C R hd  LF _ _ ho h
    · refine s_aload0 C dX10_layRun_25 ?_
      refine gX10_34 C ho dX10_layRun_26 ?_
      refine s_iload1 C dX10_layRun_29 ?_
      refine s_iconst (v := 0) C (by decide) dX10_layRun_30 ?_
      refine s_iast C (qX10_registers ho) h dX10_layRun_31 (fun h => ?_)
      refine s_iinc1 (v := 1) C rfl dX10_layRun_32 (by decide) ?_
      refine s_goto (tgt := 19) C dX10_layRun_35 (by decide) ?_
      exact ih _ _ _ ho h
set_option maxRecDepth 4000 in
theorem tX10_layRun {l : Launch} {E : En} {A : Nat → Prop} {d : Nat} {M M' : Mem} {o : Nat} (hE : Okk E A) (hd : 3 ≤ d) (ho : kd o = (10, 0)) (h : fX10_layRun o M = some M') : Ct l E A d yX10_layRun cX10_layRun 2 none [.ref (ad E o)] M none M' := by
  refine Ct.mk (ls := [some (.ref (ad E o)), none]) hE (by decide +kernel) rfl (Nat.le_of_ble_eq_true rfl) (fun X hXl hXA C R => ?_)
  subst hXl; subst hXA
  unfold fX10_layRun at h
  refine s_aload0 C dX10_layRun_0 ?_
  refine s_iconst (v := 0) C (by decide) dX10_layRun_1 ?_
  refine pX10_292 C ho dX10_layRun_2 ?_
  refine s_aload0 C dX10_layRun_5 ?_
  refine s_iconst (v := 0) C (by decide) dX10_layRun_6 ?_
  refine pX10_289 C ho dX10_layRun_7 ?_
  refine s_aload0 C dX10_layRun_10 ?_
  refine gX10_37 C ho dX10_layRun_11 ?_
  refine s_iconst (v := 0) C (by decide) dX10_layRun_14 ?_
  refine s_iconst (v := 0) C (by decide) dX10_layRun_15 ?_
  refine s_iast C (qX10_nexts ho) h dX10_layRun_16 (fun h => ?_)
  refine s_iconst (v := 0) C (by decide) dX10_layRun_17 ?_
  refine s_istore1 C rfl dX10_layRun_18 ?_
  exact bX10_layRun_19 C R hd  LF _ _ _ ho h
set_option maxRecDepth 4000 in
theorem tX10_has {l : Launch} {E : En} {A : Nat → Prop} {d : Nat} {r : Int32} {M M' : Mem} {o : Nat} {x1 : Int32} (hE : Okk E A) (hd : 0 ≤ d) (ho : kd o = (10, 0)) (h : fX10_has o x1 M = some (r, M')) : Ct l E A d yX10_has cX10_has 2 (some .boolean) [.ref (ad E o), .int x1] M (some (.int r)) M' := by
  refine Ct.mk (ls := [some (.ref (ad E o)), some (.int x1)]) hE (by decide +kernel) rfl (Nat.le_of_ble_eq_true rfl) (fun X hXl hXA C R => ?_)
  subst hXl; subst hXA
  unfold fX10_has at h
  refine s_aload0 C dX10_has_0 ?_
  refine gX10_329 C ho dX10_has_1 ?_
  refine s_iload1 C dX10_has_4 ?_
  refine s_iand C dX10_has_5 ?_
  refine s_if_eq (tgt := 13) C h dX10_has_6 (by decide) ⟨fun h => ?_, fun h => ?_⟩
  · refine s_iconst (v := 0) C (by decide) dX10_has_13 ?_
    exact s_zret C R h rfl dX10_has_14
  · refine s_iconst (v := 1) C (by decide) dX10_has_9 ?_
    refine s_goto (tgt := 14) C dX10_has_10 (by decide) ?_
    exact s_zret C R h rfl dX10_has_14
set_option maxRecDepth 4000 in
theorem tX10_tables {l : Launch} {E : En} {A : Nat → Prop} {d : Nat} {r : Int32} {M M' : Mem} {o : Nat} (hE : Okk E A) (hd : 0 ≤ d) (ho : kd o = (10, 0)) (h : fX10_tables o M = some (r, M')) : Ct l E A d yX10_tables cX10_tables 1 (some .int) [.ref (ad E o)] M (some (.int r)) M' := by
  refine Ct.mk (ls := [some (.ref (ad E o))]) hE (by decide +kernel) rfl (Nat.le_of_ble_eq_true rfl) (fun X hXl hXA C R => ?_)
  subst hXl; subst hXA
  unfold fX10_tables at h
  refine s_aload0 C dX10_tables_0 ?_
  refine gX10_9 C ho dX10_tables_1 ?_
  refine s_bipush (v := 6) C (by decide) dX10_tables_4 ?_
  refine s_iald C (qX10_world ho) h dX10_tables_6 (fun h => ?_)
  exact s_iret C R h dX10_tables_7
set_option maxRecDepth 4000 in
theorem tX10_rowsOf {l : Launch} {E : En} {A : Nat → Prop} {d : Nat} {r : Int32} {M M' : Mem} {o : Nat} (hE : Okk E A) (hd : 0 ≤ d) (ho : kd o = (10, 0)) (h : fX10_rowsOf o M = some (r, M')) : Ct l E A d yX10_rowsOf cX10_rowsOf 1 (some .int) [.ref (ad E o)] M (some (.int r)) M' := by
  refine Ct.mk (ls := [some (.ref (ad E o))]) hE (by decide +kernel) rfl (Nat.le_of_ble_eq_true rfl) (fun X hXl hXA C R => ?_)
  subst hXl; subst hXA
  unfold fX10_rowsOf at h
  refine s_iconst (v := 1) C (by decide) dX10_rowsOf_0 ?_
  refine s_aload0 C dX10_rowsOf_1 ?_
  refine gX10_9 C ho dX10_rowsOf_2 ?_
  refine s_iconst (v := 0) C (by decide) dX10_rowsOf_5 ?_
  refine s_iald C (qX10_world ho) h dX10_rowsOf_6 (fun h => ?_)
  refine s_ishl C dX10_rowsOf_7 ?_
  exact s_iret C R h dX10_rowsOf_8
set_option maxRecDepth 4000 in
theorem bX10_asTold_17 {E : En} {X : Xc} {d : Nat} {M' : Mem} (C : Cx E X d cX10_asTold RX10 2) (R : Rt E X none none M') (hd : 1 ≤ d)   : ∀ (n : Nat) (o : Nat) (x1 : Int32) (M : Mem) (_ : kd o = (10, 0)), fX10_asTold_17  n o x1 M = some M' → At E X 17 [some (.ref (ad E o)), some (.int x1)] [] M := by
  intro n
  induction n with
  | zero => intro o x1 M ho h; rw [fX10_asTold_17] at h; cases h
  | succ n ih =>
    intro o x1 M ho h
    rw [fX10_asTold_17] at h
    refine s_iload1 C dX10_asTold_17 ?_
    refine s_aload0 C dX10_asTold_18 ?_
    obtain ⟨r2, M1, hq, h⟩ := bI_e h
    refine s_callV (T := TX10) (As := []) (v := some (.int r2)) C rfl ho (by decide) rfl (by omega) wX10_335 rfl (Nat.le_of_ble_eq_true rfl) dX10_asTold_19 (tX10_tables C.2.2.2.2.2.2.1 (by omega) ho hq) ?_
    refine s_ic_gt (tgt := 48) C h dX10_asTold_22 (by decide) ⟨fun h => ?_, fun h => ?_⟩
    · exact s_vret C R h dX10_asTold_48
    · refine s_aload0 C dX10_asTold_25 ?_
      refine gX10_49 C ho dX10_asTold_26 ?_
      refine s_iload1 C dX10_asTold_29 ?_
      refine s_aload0 C dX10_asTold_30 ?_
      refine gX10_9 C ho dX10_asTold_31 ?_
      refine s_bipush (v := 10) C (by decide) dX10_asTold_34 ?_
      refine s_iload1 C dX10_asTold_36 ?_
      refine s_iadd C dX10_asTold_37 ?_
      refine s_iconst (v := 1) C (by decide) dX10_asTold_38 ?_
      refine s_isub C dX10_asTold_39 ?_
      refine s_iald C (qX10_world ho) h dX10_asTold_40 (fun h => ?_)
      refine s_iast C (qX10_spanNow ho) h dX10_asTold_41 (fun h => ?_)
      refine s_iinc1 (v := 1) C rfl dX10_asTold_42 (by decide) ?_
      refine s_goto (tgt := 17) C dX10_asTold_45 (by decide) ?_
      exact ih _ _ _ ho h
set_option maxRecDepth 4000 in
theorem tX10_asTold {l : Launch} {E : En} {A : Nat → Prop} {d : Nat} {M M' : Mem} {o : Nat} (hE : Okk E A) (hd : 1 ≤ d) (ho : kd o = (10, 0)) (h : fX10_asTold o M = some M') : Ct l E A d yX10_asTold cX10_asTold 2 none [.ref (ad E o)] M none M' := by
  refine Ct.mk (ls := [some (.ref (ad E o)), none]) hE (by decide +kernel) rfl (Nat.le_of_ble_eq_true rfl) (fun X hXl hXA C R => ?_)
  subst hXl; subst hXA
  unfold fX10_asTold at h
  refine s_aload0 C dX10_asTold_0 ?_
  refine s_aload0 C dX10_asTold_1 ?_
  refine gX10_9 C ho dX10_asTold_2 ?_
  refine s_iconst (v := 5) C (by decide) dX10_asTold_5 ?_
  refine s_iald C (qX10_world ho) h dX10_asTold_6 (fun h => ?_)
  refine pX10_329 C ho dX10_asTold_7 ?_
  refine s_aload0 C dX10_asTold_10 ?_
  refine s_iconst (v := 0) C (by decide) dX10_asTold_11 ?_
  refine pX10_332 C ho dX10_asTold_12 ?_
  refine s_iconst (v := 1) C (by decide) dX10_asTold_15 ?_
  refine s_istore1 C rfl dX10_asTold_16 ?_
  exact bX10_asTold_17 C R hd  LF _ _ _ ho h
set_option maxRecDepth 4000 in
theorem tX10_empties {l : Launch} {E : En} {A : Nat → Prop} {d : Nat} {M M' : Mem} {o : Nat} {x1 : Int32} (hE : Okk E A) (hd : 0 ≤ d) (ho : kd o = (10, 0)) (h : fX10_empties o x1 M = some M') : Ct l E A d yX10_empties cX10_empties 2 none [.ref (ad E o), .int x1] M none M' := by
  refine Ct.mk (ls := [some (.ref (ad E o)), some (.int x1)]) hE (by decide +kernel) rfl (Nat.le_of_ble_eq_true rfl) (fun X hXl hXA C R => ?_)
  subst hXl; subst hXA
  unfold fX10_empties at h
  refine s_aload0 C dX10_empties_0 ?_
  refine gX10_64 C ho dX10_empties_1 ?_
  refine s_iload1 C dX10_empties_4 ?_
  refine s_iconst (v := -1) C (by decide) dX10_empties_5 ?_
  refine s_iast C (qX10_whose ho) h dX10_empties_6 (fun h => ?_)
  refine s_aload0 C dX10_empties_7 ?_
  refine gX10_67 C ho dX10_empties_8 ?_
  refine s_iload1 C dX10_empties_11 ?_
  refine s_iconst (v := -1) C (by decide) dX10_empties_12 ?_
  refine s_iast C (qX10_lengthAt ho) h dX10_empties_13 (fun h => ?_)
  refine s_aload0 C dX10_empties_14 ?_
  refine gX10_70 C ho dX10_empties_15 ?_
  refine s_iload1 C dX10_empties_18 ?_
  refine s_iconst (v := 0) C (by decide) dX10_empties_19 ?_
  refine s_iast C (qX10_runAt ho) h dX10_empties_20 (fun h => ?_)
  refine s_aload0 C dX10_empties_21 ?_
  refine gX10_73 C ho dX10_empties_22 ?_
  refine s_iload1 C dX10_empties_25 ?_
  refine s_iconst (v := 0) C (by decide) dX10_empties_26 ?_
  refine s_iast C (qX10_sureAt ho) h dX10_empties_27 (fun h => ?_)
  exact s_vret C R h dX10_empties_28
set_option maxRecDepth 4000 in
theorem bX10_beginGuesser_84 {E : En} {X : Xc} {d : Nat} {M' : Mem} (C : Cx E X d cX10_beginGuesser RX10 2) (R : Rt E X none none M') (hd : 1 ≤ d)   : ∀ (n : Nat) (o : Nat) (x1 : Int32) (M : Mem) (_ : kd o = (10, 0)), fX10_beginGuesser_84  n o x1 M = some M' → At E X 84 [some (.ref (ad E o)), some (.int x1)] [] M := by
  intro n
  induction n with
  | zero => intro o x1 M ho h; rw [fX10_beginGuesser_84] at h; cases h
  | succ n ih =>
    intro o x1 M ho h
    rw [fX10_beginGuesser_84] at h
    refine s_iload1 C dX10_beginGuesser_84 ?_
    refine s_bipush (v := 48) C (by decide) dX10_beginGuesser_85 ?_
    refine s_ic_ge (tgt := 103) C h dX10_beginGuesser_87 (by decide) ⟨fun h => ?_, fun h => ?_⟩
    · refine s_aload0 C dX10_beginGuesser_103 ?_
      refine s_bipush (v := 8) C (by decide) dX10_beginGuesser_104 ?_
      refine pX10_341 C ho dX10_beginGuesser_106 ?_
      refine s_aload0 C dX10_beginGuesser_109 ?_
      refine s_iconst (v := 0) C (by decide) dX10_beginGuesser_110 ?_
      refine pX10_344 C ho dX10_beginGuesser_111 ?_
      refine s_aload0 C dX10_beginGuesser_114 ?_
      refine s_iconst (v := 4) C (by decide) dX10_beginGuesser_115 ?_
      refine pX10_347 C ho dX10_beginGuesser_116 ?_
      refine s_aload0 C dX10_beginGuesser_119 ?_
      refine s_iconst (v := 0) C (by decide) dX10_beginGuesser_120 ?_
      refine pX10_350 C ho dX10_beginGuesser_121 ?_
      refine s_aload0 C dX10_beginGuesser_124 ?_
      refine s_lconst (v := 0) C (by decide) dX10_beginGuesser_125 ?_
      refine pX10_353 C ho dX10_beginGuesser_126 ?_
      exact s_vret C R h dX10_beginGuesser_129
    · refine s_aload0 C dX10_beginGuesser_90 ?_
      refine gX10_79 C ho dX10_beginGuesser_91 ?_
      refine s_iload1 C dX10_beginGuesser_94 ?_
      refine s_iconst (v := 0) C (by decide) dX10_beginGuesser_95 ?_
      refine s_iast C (qX10_correctAt ho) h dX10_beginGuesser_96 (fun h => ?_)
      refine s_iinc1 (v := 1) C rfl dX10_beginGuesser_97 (by decide) ?_
      refine s_goto (tgt := 84) C dX10_beginGuesser_100 (by decide) ?_
      exact ih _ _ _ ho h
set_option maxRecDepth 4000 in
theorem bX10_beginGuesser_58 {E : En} {X : Xc} {d : Nat} {M' : Mem} (C : Cx E X d cX10_beginGuesser RX10 2) (R : Rt E X none none M') (hd : 1 ≤ d)   : ∀ (n : Nat) (o : Nat) (x1 : Int32) (M : Mem) (_ : kd o = (10, 0)), fX10_beginGuesser_58  n o x1 M = some M' → At E X 58 [some (.ref (ad E o)), some (.int x1)] [] M := by
  intro n
  induction n with
  | zero => intro o x1 M ho h; rw [fX10_beginGuesser_58] at h; cases h
  | succ n ih =>
    intro o x1 M ho h
    rw [fX10_beginGuesser_58] at h
    refine s_iload1 C dX10_beginGuesser_58 ?_
    refine s_bipush (v := 8) C (by decide) dX10_beginGuesser_59 ?_
    refine s_ic_ge (tgt := 82) C h dX10_beginGuesser_61 (by decide) ⟨fun h => ?_, fun h => ?_⟩
    · refine s_iconst (v := 0) C (by decide) dX10_beginGuesser_82 ?_
      refine s_istore1 C rfl dX10_beginGuesser_83 ?_
      exact bX10_beginGuesser_84 C R hd  LF _ _ _ ho h
    · refine s_aload0 C dX10_beginGuesser_64 ?_
      refine s_iload1 C dX10_beginGuesser_65 ?_
      obtain ⟨M1, hq, h⟩ := bV_e h
      refine s_callV (T := TX10) (As := [.int x1]) (v := none) C rfl ho (by decide) rfl (by omega) wX10_338 rfl (Nat.le_of_ble_eq_true rfl) dX10_beginGuesser_66 (tX10_empties C.2.2.2.2.2.2.1 (by omega) ho hq) ?_
      refine s_aload0 C dX10_beginGuesser_69 ?_
      refine gX10_76 C ho dX10_beginGuesser_70 ?_
      refine s_iload1 C dX10_beginGuesser_73 ?_
      refine s_iconst (v := 0) C (by decide) dX10_beginGuesser_74 ?_
      refine s_iast C (qX10_ageAt ho) h dX10_beginGuesser_75 (fun h => ?_)
      refine s_iinc1 (v := 1) C rfl dX10_beginGuesser_76 (by decide) ?_
      refine s_goto (tgt := 58) C dX10_beginGuesser_79 (by decide) ?_
      exact ih _ _ _ ho h
set_option maxRecDepth 4000 in
theorem bX10_beginGuesser_37 {E : En} {X : Xc} {d : Nat} {M' : Mem} (C : Cx E X d cX10_beginGuesser RX10 2) (R : Rt E X none none M') (hd : 1 ≤ d)   : ∀ (n : Nat) (o : Nat) (x1 : Int32) (M : Mem) (_ : kd o = (10, 0)), fX10_beginGuesser_37  n o x1 M = some M' → At E X 37 [some (.ref (ad E o)), some (.int x1)] [] M := by
  intro n
  induction n with
  | zero => intro o x1 M ho h; rw [fX10_beginGuesser_37] at h; cases h
  | succ n ih =>
    intro o x1 M ho h
    rw [fX10_beginGuesser_37] at h
    refine s_iload1 C dX10_beginGuesser_37 ?_
    refine s_bipush (v := 16) C (by decide) dX10_beginGuesser_38 ?_
    refine s_ic_ge (tgt := 56) C h dX10_beginGuesser_40 (by decide) ⟨fun h => ?_, fun h => ?_⟩
    · refine s_iconst (v := 0) C (by decide) dX10_beginGuesser_56 ?_
      refine s_istore1 C rfl dX10_beginGuesser_57 ?_
      exact bX10_beginGuesser_58 C R hd  LF _ _ _ ho h
    · refine s_aload0 C dX10_beginGuesser_43 ?_
      refine gX10_61 C ho dX10_beginGuesser_44 ?_
      refine s_iload1 C dX10_beginGuesser_47 ?_
      refine s_iconst (v := 1) C (by decide) dX10_beginGuesser_48 ?_
      refine s_iast C (qX10_baseAt ho) h dX10_beginGuesser_49 (fun h => ?_)
      refine s_iinc1 (v := 1) C rfl dX10_beginGuesser_50 (by decide) ?_
      refine s_goto (tgt := 37) C dX10_beginGuesser_53 (by decide) ?_
      exact ih _ _ _ ho h
set_option maxRecDepth 4000 in
theorem bX10_beginGuesser_2 {E : En} {X : Xc} {d : Nat} {M' : Mem} (C : Cx E X d cX10_beginGuesser RX10 2) (R : Rt E X none none M') (hd : 1 ≤ d)   : ∀ (n : Nat) (o : Nat) (x1 : Int32) (M : Mem) (_ : kd o = (10, 0)), fX10_beginGuesser_2  n o x1 M = some M' → At E X 2 [some (.ref (ad E o)), some (.int x1)] [] M := by
  intro n
  induction n with
  | zero => intro o x1 M ho h; rw [fX10_beginGuesser_2] at h; cases h
  | succ n ih =>
    intro o x1 M ho h
    rw [fX10_beginGuesser_2] at h
    refine s_iload1 C dX10_beginGuesser_2 ?_
    refine s_bipush (v := 80) C (by decide) dX10_beginGuesser_3 ?_
    refine s_ic_ge (tgt := 35) C h dX10_beginGuesser_5 (by decide) ⟨fun h => ?_, fun h => ?_⟩
    · refine s_iconst (v := 0) C (by decide) dX10_beginGuesser_35 ?_
      refine s_istore1 C rfl dX10_beginGuesser_36 ?_
      exact bX10_beginGuesser_37 C R hd  LF _ _ _ ho h
    · refine s_aload0 C dX10_beginGuesser_8 ?_
      refine gX10_52 C ho dX10_beginGuesser_9 ?_
      refine s_iload1 C dX10_beginGuesser_12 ?_
      refine s_iconst (v := -1) C (by decide) dX10_beginGuesser_13 ?_
      refine s_iast C (qX10_tagAt ho) h dX10_beginGuesser_14 (fun h => ?_)
      refine s_aload0 C dX10_beginGuesser_15 ?_
      refine gX10_55 C ho dX10_beginGuesser_16 ?_
      refine s_iload1 C dX10_beginGuesser_19 ?_
      refine s_iconst (v := 0) C (by decide) dX10_beginGuesser_20 ?_
      refine s_iast C (qX10_countAt ho) h dX10_beginGuesser_21 (fun h => ?_)
      refine s_aload0 C dX10_beginGuesser_22 ?_
      refine gX10_58 C ho dX10_beginGuesser_23 ?_
      refine s_iload1 C dX10_beginGuesser_26 ?_
      refine s_iconst (v := 0) C (by decide) dX10_beginGuesser_27 ?_
      refine s_iast C (qX10_useAt ho) h dX10_beginGuesser_28 (fun h => ?_)
      refine s_iinc1 (v := 1) C rfl dX10_beginGuesser_29 (by decide) ?_
      refine s_goto (tgt := 2) C dX10_beginGuesser_32 (by decide) ?_
      exact ih _ _ _ ho h
set_option maxRecDepth 4000 in
theorem tX10_beginGuesser {l : Launch} {E : En} {A : Nat → Prop} {d : Nat} {M M' : Mem} {o : Nat} (hE : Okk E A) (hd : 1 ≤ d) (ho : kd o = (10, 0)) (h : fX10_beginGuesser o M = some M') : Ct l E A d yX10_beginGuesser cX10_beginGuesser 2 none [.ref (ad E o)] M none M' := by
  refine Ct.mk (ls := [some (.ref (ad E o)), none]) hE (by decide +kernel) rfl (Nat.le_of_ble_eq_true rfl) (fun X hXl hXA C R => ?_)
  subst hXl; subst hXA
  unfold fX10_beginGuesser at h
  refine s_iconst (v := 0) C (by decide) dX10_beginGuesser_0 ?_
  refine s_istore1 C rfl dX10_beginGuesser_1 ?_
  exact bX10_beginGuesser_2 C R hd  LF _ _ _ ho h
set_option maxRecDepth 4000 in
theorem bX10_foldOf_34 {E : En} {X : Xc} {d : Nat} {r : Int32} {M M' : Mem} {o : Nat} {x1 : Int32} {x2 : Int32} {x3 : Int32} {x4 : Int32} (C : Cx E X d cX10_foldOf RX10 5) (R : Rt E X (some .int) (some (.int r)) M') (hd : 0 ≤ d) {k5 : Nat → Int32 → Int32 → Int32 → Int32 → Mem → Option (Int32 × Mem)} (hk5 : ∀ (o : Nat) (x1 : Int32) (x2 : Int32) (x3 : Int32) (x4 : Int32) (M : Mem) (_ : kd o = (10, 0)), k5 o x1 x2 x3 x4 M = some (r, M') → At E X 5 [some (.ref (ad E o)), some (.int x1), some (.int x2), some (.int x3), some (.int x4)] [] M) (ho : kd o = (10, 0)) (h : fX10_foldOf_34 k5 o x1 x2 x3 x4 M = some (r, M')) : At E X 34 [some (.ref (ad E o)), some (.int x1), some (.int x2), some (.int x3), some (.int x4)] [] M := by
  unfold fX10_foldOf_34 at h
  refine s_iinc4 (v := 1) C rfl dX10_foldOf_34 (by decide) ?_
  refine s_goto (tgt := 5) C dX10_foldOf_37 (by decide) ?_
  exact hk5 _ _ _ _ _ _ ho h
set_option maxRecDepth 4000 in
theorem bX10_foldOf_5 {E : En} {X : Xc} {d : Nat} {r : Int32} {M' : Mem} (C : Cx E X d cX10_foldOf RX10 5) (R : Rt E X (some .int) (some (.int r)) M') (hd : 0 ≤ d)   : ∀ (n : Nat) (o : Nat) (x1 : Int32) (x2 : Int32) (x3 : Int32) (x4 : Int32) (M : Mem) (_ : kd o = (10, 0)), fX10_foldOf_5  n o x1 x2 x3 x4 M = some (r, M') → At E X 5 [some (.ref (ad E o)), some (.int x1), some (.int x2), some (.int x3), some (.int x4)] [] M := by
  intro n
  induction n with
  | zero => intro o x1 x2 x3 x4 M ho h; rw [fX10_foldOf_5] at h; cases h
  | succ n ih =>
    intro o x1 x2 x3 x4 M ho h
    rw [fX10_foldOf_5] at h
    refine s_iload4 C dX10_foldOf_5 ?_
    refine s_iload1 C dX10_foldOf_7 ?_
    refine s_ic_ge (tgt := 40) C h dX10_foldOf_8 (by decide) ⟨fun h => ?_, fun h => ?_⟩
    · refine s_iload3 C dX10_foldOf_40 ?_
      exact s_iret C R h dX10_foldOf_41
    · refine s_aload0 C dX10_foldOf_11 ?_
      refine gX10_353 C ho dX10_foldOf_12 ?_
      refine s_iload4 C dX10_foldOf_15 ?_
      refine s_lshr C dX10_foldOf_17 ?_
      refine s_lconst (v := 1) C (by decide) dX10_foldOf_18 ?_
      refine s_land C dX10_foldOf_19 ?_
      refine s_lconst (v := 1) C (by decide) dX10_foldOf_20 ?_
      refine s_lcmp C dX10_foldOf_21 ?_
      refine s_if_ne (tgt := 34) C h dX10_foldOf_22 (by decide) ⟨fun h => ?_, fun h => ?_⟩
      · exact bX10_foldOf_34 C R hd (ih) ho h
      · refine s_iload3 C dX10_foldOf_25 ?_
        refine s_iconst (v := 1) C (by decide) dX10_foldOf_26 ?_
        refine s_iload4 C dX10_foldOf_27 ?_
        refine s_iload2 C dX10_foldOf_29 ?_
        refine s_irem C h dX10_foldOf_30 (fun h => ?_)
        refine s_ishl C dX10_foldOf_31 ?_
        refine s_ixor C dX10_foldOf_32 ?_
        refine s_istore3 C rfl dX10_foldOf_33 ?_
        exact bX10_foldOf_34 C R hd (ih) ho h
set_option maxRecDepth 4000 in
theorem tX10_foldOf {l : Launch} {E : En} {A : Nat → Prop} {d : Nat} {r : Int32} {M M' : Mem} {o : Nat} {x1 : Int32} {x2 : Int32} (hE : Okk E A) (hd : 0 ≤ d) (ho : kd o = (10, 0)) (h : fX10_foldOf o x1 x2 M = some (r, M')) : Ct l E A d yX10_foldOf cX10_foldOf 5 (some .int) [.ref (ad E o), .int x1, .int x2] M (some (.int r)) M' := by
  refine Ct.mk (ls := [some (.ref (ad E o)), some (.int x1), some (.int x2), none, none]) hE (by decide +kernel) rfl (Nat.le_of_ble_eq_true rfl) (fun X hXl hXA C R => ?_)
  subst hXl; subst hXA
  unfold fX10_foldOf at h
  refine s_iconst (v := 0) C (by decide) dX10_foldOf_0 ?_
  refine s_istore3 C rfl dX10_foldOf_1 ?_
  refine s_iconst (v := 0) C (by decide) dX10_foldOf_2 ?_
  refine s_istore4 C rfl dX10_foldOf_3 ?_
  exact bX10_foldOf_5 C R hd  LF _ _ _ _ _ _ ho h
set_option maxRecDepth 4000 in
theorem tX10_indexOf {l : Launch} {E : En} {A : Nat → Prop} {d : Nat} {r : Int32} {M M' : Mem} {o : Nat} {x1 : Int32} {x2 : Int32} (hE : Okk E A) (hd : 1 ≤ d) (ho : kd o = (10, 0)) (h : fX10_indexOf o x1 x2 M = some (r, M')) : Ct l E A d yX10_indexOf cX10_indexOf 4 (some .int) [.ref (ad E o), .int x1, .int x2] M (some (.int r)) M' := by
  refine Ct.mk (ls := [some (.ref (ad E o)), some (.int x1), some (.int x2), none]) hE (by decide +kernel) rfl (Nat.le_of_ble_eq_true rfl) (fun X hXl hXA C R => ?_)
  subst hXl; subst hXA
  unfold fX10_indexOf at h
  refine s_aload0 C dX10_indexOf_0 ?_
  refine gX10_9 C ho dX10_indexOf_1 ?_
  refine s_iconst (v := 0) C (by decide) dX10_indexOf_4 ?_
  refine s_iald C (qX10_world ho) h dX10_indexOf_5 (fun h => ?_)
  refine s_istore3 C rfl dX10_indexOf_6 ?_
  refine s_iload2 C dX10_indexOf_7 ?_
  refine s_iload2 C dX10_indexOf_8 ?_
  refine s_iload3 C dX10_indexOf_9 ?_
  refine s_ishr C dX10_indexOf_10 ?_
  refine s_ixor C dX10_indexOf_11 ?_
  refine s_aload0 C dX10_indexOf_12 ?_
  refine s_aload0 C dX10_indexOf_13 ?_
  refine gX10_49 C ho dX10_indexOf_14 ?_
  refine s_iload1 C dX10_indexOf_17 ?_
  refine s_iald C (qX10_spanNow ho) h dX10_indexOf_18 (fun h => ?_)
  refine s_iload3 C dX10_indexOf_19 ?_
  obtain ⟨r2, M1, hq, h⟩ := bI_e h
  refine s_callV (T := TX10) (As := [.int (M.1 (o + 12) (tn x1)), .int (M.1 (o + 1) (tn (0 : Int32)))]) (v := some (.int r2)) C rfl ho (by decide) rfl (by omega) wX10_357 rfl (Nat.le_of_ble_eq_true rfl) dX10_indexOf_20 (tX10_foldOf C.2.2.2.2.2.2.1 (by omega) ho hq) ?_
  refine s_ixor C dX10_indexOf_23 ?_
  refine s_iload1 C dX10_indexOf_24 ?_
  refine s_ixor C dX10_indexOf_25 ?_
  refine s_aload0 C dX10_indexOf_26 ?_
  obtain ⟨r4, M3, hq, h⟩ := bI_e h
  refine s_callV (T := TX10) (As := []) (v := some (.int r4)) C rfl ho (by decide) rfl (by omega) wX10_360 rfl (Nat.le_of_ble_eq_true rfl) dX10_indexOf_27 (tX10_rowsOf C.2.2.2.2.2.2.1 (by omega) ho hq) ?_
  refine s_iconst (v := 1) C (by decide) dX10_indexOf_30 ?_
  refine s_isub C dX10_indexOf_31 ?_
  refine s_iand C dX10_indexOf_32 ?_
  exact s_iret C R h dX10_indexOf_33
set_option maxRecDepth 4000 in
theorem tX10_tagOf {l : Launch} {E : En} {A : Nat → Prop} {d : Nat} {r : Int32} {M M' : Mem} {o : Nat} {x1 : Int32} {x2 : Int32} (hE : Okk E A) (hd : 1 ≤ d) (ho : kd o = (10, 0)) (h : fX10_tagOf o x1 x2 M = some (r, M')) : Ct l E A d yX10_tagOf cX10_tagOf 4 (some .int) [.ref (ad E o), .int x1, .int x2] M (some (.int r)) M' := by
  refine Ct.mk (ls := [some (.ref (ad E o)), some (.int x1), some (.int x2), none]) hE (by decide +kernel) rfl (Nat.le_of_ble_eq_true rfl) (fun X hXl hXA C R => ?_)
  subst hXl; subst hXA
  unfold fX10_tagOf at h
  refine s_aload0 C dX10_tagOf_0 ?_
  refine gX10_9 C ho dX10_tagOf_1 ?_
  refine s_iconst (v := 1) C (by decide) dX10_tagOf_4 ?_
  refine s_iald C (qX10_world ho) h dX10_tagOf_5 (fun h => ?_)
  refine s_istore3 C rfl dX10_tagOf_6 ?_
  refine s_iload2 C dX10_tagOf_7 ?_
  refine s_iconst (v := 1) C (by decide) dX10_tagOf_8 ?_
  refine s_iload3 C dX10_tagOf_9 ?_
  refine s_ishl C dX10_tagOf_10 ?_
  refine s_iconst (v := 1) C (by decide) dX10_tagOf_11 ?_
  refine s_isub C dX10_tagOf_12 ?_
  refine s_iand C dX10_tagOf_13 ?_
  refine s_aload0 C dX10_tagOf_14 ?_
  refine s_aload0 C dX10_tagOf_15 ?_
  refine gX10_49 C ho dX10_tagOf_16 ?_
  refine s_iload1 C dX10_tagOf_19 ?_
  refine s_iald C (qX10_spanNow ho) h dX10_tagOf_20 (fun h => ?_)
  refine s_iload3 C dX10_tagOf_21 ?_
  obtain ⟨r2, M1, hq, h⟩ := bI_e h
  refine s_callV (T := TX10) (As := [.int (M.1 (o + 12) (tn x1)), .int (M.1 (o + 1) (tn (1 : Int32)))]) (v := some (.int r2)) C rfl ho (by decide) rfl (by omega) wX10_357 rfl (Nat.le_of_ble_eq_true rfl) dX10_tagOf_22 (tX10_foldOf C.2.2.2.2.2.2.1 (by omega) ho hq) ?_
  refine s_ixor C dX10_tagOf_25 ?_
  refine s_iconst (v := 2) C (by decide) dX10_tagOf_26 ?_
  refine s_aload0 C dX10_tagOf_27 ?_
  refine s_aload0 C dX10_tagOf_28 ?_
  refine gX10_49 C ho dX10_tagOf_29 ?_
  refine s_iload1 C dX10_tagOf_32 ?_
  refine s_iald C (qX10_spanNow ho) h dX10_tagOf_33 (fun h => ?_)
  refine s_iload3 C dX10_tagOf_34 ?_
  refine s_iconst (v := 1) C (by decide) dX10_tagOf_35 ?_
  refine s_isub C dX10_tagOf_36 ?_
  obtain ⟨r4, M3, hq, h⟩ := bI_e h
  refine s_callV (T := TX10) (As := [.int (M1.1 (o + 12) (tn x1)), .int ((M.1 (o + 1) (tn (1 : Int32))) - (1 : Int32))]) (v := some (.int r4)) C rfl ho (by decide) rfl (by omega) wX10_357 rfl (Nat.le_of_ble_eq_true rfl) dX10_tagOf_37 (tX10_foldOf C.2.2.2.2.2.2.1 (by omega) ho hq) ?_
  refine s_imul C dX10_tagOf_40 ?_
  refine s_ixor C dX10_tagOf_41 ?_
  exact s_iret C R h dX10_tagOf_42
set_option maxRecDepth 4000 in
theorem tX10_saysOf {l : Launch} {E : En} {A : Nat → Prop} {d : Nat} {r : Int32} {M M' : Mem} {o : Nat} {x1 : Int32} (hE : Okk E A) (hd : 0 ≤ d) (ho : kd o = (10, 0)) (h : fX10_saysOf o x1 M = some (r, M')) : Ct l E A d yX10_saysOf cX10_saysOf 2 (some .int) [.ref (ad E o), .int x1] M (some (.int r)) M' := by
  refine Ct.mk (ls := [some (.ref (ad E o)), some (.int x1)]) hE (by decide +kernel) rfl (Nat.le_of_ble_eq_true rfl) (fun X hXl hXA C R => ?_)
  subst hXl; subst hXA
  unfold fX10_saysOf at h
  refine s_iload1 C dX10_saysOf_0 ?_
  refine s_if_ne (tgt := 26) C h dX10_saysOf_1 (by decide) ⟨fun h => ?_, fun h => ?_⟩
  · refine s_aload0 C dX10_saysOf_26 ?_
    refine gX10_55 C ho dX10_saysOf_27 ?_
    refine s_aload0 C dX10_saysOf_30 ?_
    refine gX10_82 C ho dX10_saysOf_31 ?_
    refine s_iload1 C dX10_saysOf_34 ?_
    refine s_iald C (qX10_placeOf ho) h dX10_saysOf_35 (fun h => ?_)
    refine s_iald C (qX10_countAt ho) h dX10_saysOf_36 (fun h => ?_)
    refine s_if_lt (tgt := 44) C h dX10_saysOf_37 (by decide) ⟨fun h => ?_, fun h => ?_⟩
    · refine s_iconst (v := 0) C (by decide) dX10_saysOf_44 ?_
      exact s_iret C R h dX10_saysOf_45
    · refine s_iconst (v := 1) C (by decide) dX10_saysOf_40 ?_
      refine s_goto (tgt := 45) C dX10_saysOf_41 (by decide) ?_
      exact s_iret C R h dX10_saysOf_45
  · refine s_aload0 C dX10_saysOf_4 ?_
    refine gX10_61 C ho dX10_saysOf_5 ?_
    refine s_aload0 C dX10_saysOf_8 ?_
    refine gX10_363 C ho dX10_saysOf_9 ?_
    refine s_bipush (v := 16) C (by decide) dX10_saysOf_12 ?_
    refine s_iremc C (by decide) dX10_saysOf_14 ?_
    refine s_iald C (qX10_baseAt ho) h dX10_saysOf_15 (fun h => ?_)
    refine s_iconst (v := 2) C (by decide) dX10_saysOf_16 ?_
    refine s_ic_lt (tgt := 24) C h dX10_saysOf_17 (by decide) ⟨fun h => ?_, fun h => ?_⟩
    · refine s_iconst (v := 0) C (by decide) dX10_saysOf_24 ?_
      exact s_iret C R h dX10_saysOf_25
    · refine s_iconst (v := 1) C (by decide) dX10_saysOf_20 ?_
      refine s_goto (tgt := 25) C dX10_saysOf_21 (by decide) ?_
      exact s_iret C R h dX10_saysOf_25
set_option maxRecDepth 4000 in
theorem tX10_matches {l : Launch} {E : En} {A : Nat → Prop} {d : Nat} {r : Int32} {M M' : Mem} {o : Nat} {x1 : Int32} (hE : Okk E A) (hd : 0 ≤ d) (ho : kd o = (10, 0)) (h : fX10_matches o x1 M = some (r, M')) : Ct l E A d yX10_matches cX10_matches 2 (some .boolean) [.ref (ad E o), .int x1] M (some (.int r)) M' := by
  refine Ct.mk (ls := [some (.ref (ad E o)), some (.int x1)]) hE (by decide +kernel) rfl (Nat.le_of_ble_eq_true rfl) (fun X hXl hXA C R => ?_)
  subst hXl; subst hXA
  unfold fX10_matches at h
  refine s_iload1 C dX10_matches_0 ?_
  refine s_aload0 C dX10_matches_1 ?_
  refine gX10_332 C ho dX10_matches_2 ?_
  refine s_ic_eq (tgt := 32) C h dX10_matches_5 (by decide) ⟨fun h => ?_, fun h => ?_⟩
  · refine s_iconst (v := 0) C (by decide) dX10_matches_32 ?_
    exact s_zret C R h rfl dX10_matches_33
  · refine s_aload0 C dX10_matches_8 ?_
    refine gX10_52 C ho dX10_matches_9 ?_
    refine s_aload0 C dX10_matches_12 ?_
    refine gX10_82 C ho dX10_matches_13 ?_
    refine s_iload1 C dX10_matches_16 ?_
    refine s_iald C (qX10_placeOf ho) h dX10_matches_17 (fun h => ?_)
    refine s_iald C (qX10_tagAt ho) h dX10_matches_18 (fun h => ?_)
    refine s_aload0 C dX10_matches_19 ?_
    refine gX10_85 C ho dX10_matches_20 ?_
    refine s_iload1 C dX10_matches_23 ?_
    refine s_iald C (qX10_markOf ho) h dX10_matches_24 (fun h => ?_)
    refine s_ic_ne (tgt := 32) C h dX10_matches_25 (by decide) ⟨fun h => ?_, fun h => ?_⟩
    · refine s_iconst (v := 0) C (by decide) dX10_matches_32 ?_
      exact s_zret C R h rfl dX10_matches_33
    · refine s_iconst (v := 1) C (by decide) dX10_matches_28 ?_
      refine s_goto (tgt := 33) C dX10_matches_29 (by decide) ?_
      exact s_zret C R h rfl dX10_matches_33
set_option maxRecDepth 4000 in
theorem bX10_matching_4 {E : En} {X : Xc} {d : Nat} {r : Int32} {M' : Mem} (C : Cx E X d cX10_matching RX10 3) (R : Rt E X (some .int) (some (.int r)) M') (hd : 1 ≤ d)   : ∀ (n : Nat) (o : Nat) (x2 : Int32) (M : Mem) (_ : kd o = (10, 0)), fX10_matching_4  n o x2 M = some (r, M') → At E X 4 [some (.ref (ad E o)), none, some (.int x2)] [] M := by
  intro n
  induction n with
  | zero => intro o x2 M ho h; rw [fX10_matching_4] at h; cases h
  | succ n ih =>
    intro o x2 M ho h
    rw [fX10_matching_4] at h
    refine s_iload2 C dX10_matching_4 ?_
    refine s_if_le (tgt := 22) C h dX10_matching_5 (by decide) ⟨fun h => ?_, fun h => ?_⟩
    · refine s_iload2 C dX10_matching_22 ?_
      exact s_iret C R h dX10_matching_23
    · refine s_aload0 C dX10_matching_8 ?_
      refine s_iload2 C dX10_matching_9 ?_
      obtain ⟨r2, M1, hq, h⟩ := bI_e h
      refine s_callV (T := TX10) (As := [.int x2]) (v := some (.int r2)) C rfl ho (by decide) rfl (by omega) wX10_366 rfl (Nat.le_of_ble_eq_true rfl) dX10_matching_10 (tX10_matches C.2.2.2.2.2.2.1 (by omega) ho hq) ?_
      refine s_if_ne (tgt := 22) C h dX10_matching_13 (by decide) ⟨fun h => ?_, fun h => ?_⟩
      · refine s_iload2 C dX10_matching_22 ?_
        exact s_iret C R h dX10_matching_23
      · refine s_iinc2 (v := -1) C rfl dX10_matching_16 (by decide) ?_
        refine s_goto (tgt := 4) C dX10_matching_19 (by decide) ?_
        exact ih _ _ _ ho h
set_option maxRecDepth 4000 in
theorem tX10_matching {l : Launch} {E : En} {A : Nat → Prop} {d : Nat} {r : Int32} {M M' : Mem} {o : Nat} {x1 : Int32} (hE : Okk E A) (hd : 1 ≤ d) (ho : kd o = (10, 0)) (h : fX10_matching o x1 M = some (r, M')) : Ct l E A d yX10_matching cX10_matching 3 (some .int) [.ref (ad E o), .int x1] M (some (.int r)) M' := by
  refine Ct.mk (ls := [some (.ref (ad E o)), some (.int x1), none]) hE (by decide +kernel) rfl (Nat.le_of_ble_eq_true rfl) (fun X hXl hXA C R => ?_)
  subst hXl; subst hXA
  unfold fX10_matching at h
  refine s_iload1 C dX10_matching_0 ?_
  refine s_iconst (v := 1) C (by decide) dX10_matching_1 ?_
  refine s_isub C dX10_matching_2 ?_
  refine s_istore2 C rfl dX10_matching_3 ?_
  refine s_fg 1 ?_
  exact bX10_matching_4 C R hd  LF _ _ _ ho h
set_option maxRecDepth 4000 in
theorem bX10_askTables_163 {E : En} {X : Xc} {d : Nat} {M M' : Mem} {o : Nat} {so0 : Nat} {sx1 : Int32} (C : Cx E X d cX10_askTables RX10 2) (R : Rt E X none none M') (hd : 2 ≤ d)   (ho : kd o = (10, 0)) (hso0 : kd so0 = (10, 0)) (h : fX10_askTables_163  o so0 sx1 M = some M') : At E X 163 [some (.ref (ad E o)), none] [.int sx1, .ref (ad E so0)] M := by
  unfold fX10_askTables_163 at h
  obtain ⟨hb, h⟩ := ck_e h
  refine pX10_395 C hso0 hb dX10_askTables_163 ?_
  refine s_aload0 C dX10_askTables_166 ?_
  refine s_aload0 C dX10_askTables_167 ?_
  refine gX10_395 C ho dX10_askTables_168 ?_
  refine s_if_eq (tgt := 198) C h dX10_askTables_171 (by decide) ⟨fun h => ?_, fun h => ?_⟩
  · refine s_aload0 C dX10_askTables_198 ?_
    refine gX10_387 C ho dX10_askTables_199 ?_
    refine pX10_402 C ho dX10_askTables_202 ?_
    exact s_vret C R h dX10_askTables_205
  · refine s_aload0 C dX10_askTables_174 ?_
    refine s_iconst (v := 4) C (by decide) dX10_askTables_175 ?_
    obtain ⟨r2, M1, hq, h⟩ := bI_e h
    refine s_callV (T := TX10) (As := [.int (4 : Int32)]) (v := some (.int r2)) C rfl ho (by decide) rfl (by omega) wX10_399 rfl (Nat.le_of_ble_eq_true rfl) dX10_askTables_176 (tX10_has C.2.2.2.2.2.2.1 (by omega) ho hq) ?_
    refine s_if_eq (tgt := 198) C h dX10_askTables_179 (by decide) ⟨fun h => ?_, fun h => ?_⟩
    · refine s_aload0 C dX10_askTables_198 ?_
      refine gX10_387 C ho dX10_askTables_199 ?_
      refine pX10_402 C ho dX10_askTables_202 ?_
      exact s_vret C R h dX10_askTables_205
    · refine s_aload0 C dX10_askTables_182 ?_
      refine gX10_341 C ho dX10_askTables_183 ?_
      refine s_bipush (v := 7) C (by decide) dX10_askTables_186 ?_
      refine s_ic_le (tgt := 198) C h dX10_askTables_188 (by decide) ⟨fun h => ?_, fun h => ?_⟩
      · refine s_aload0 C dX10_askTables_198 ?_
        refine gX10_387 C ho dX10_askTables_199 ?_
        refine pX10_402 C ho dX10_askTables_202 ?_
        exact s_vret C R h dX10_askTables_205
      · refine s_aload0 C dX10_askTables_191 ?_
        refine gX10_390 C ho dX10_askTables_192 ?_
        refine s_goto (tgt := 202) C dX10_askTables_195 (by decide) ?_
        refine pX10_402 C ho dX10_askTables_202 ?_
        exact s_vret C R h dX10_askTables_205
set_option maxRecDepth 4000 in
theorem bX10_askTables_162 {E : En} {X : Xc} {d : Nat} {M M' : Mem} {o : Nat} {so0 : Nat} (C : Cx E X d cX10_askTables RX10 2) (R : Rt E X none none M') (hd : 2 ≤ d)   (ho : kd o = (10, 0)) (hso0 : kd so0 = (10, 0)) (h : fX10_askTables_162  o so0 M = some M') : At E X 162 [some (.ref (ad E o)), none] [.ref (ad E so0)] M := by
  unfold fX10_askTables_162 at h
  refine s_iconst (v := 0) C (by decide) dX10_askTables_162 ?_
  exact bX10_askTables_163 C R hd  ho hso0 h
set_option maxRecDepth 4000 in
theorem bX10_askTables_87 {E : En} {X : Xc} {d : Nat} {M M' : Mem} {o : Nat} {so0 : Nat} {sx1 : Int32} (C : Cx E X d cX10_askTables RX10 2) (R : Rt E X none none M') (hd : 2 ≤ d)   (ho : kd o = (10, 0)) (hso0 : kd so0 = (10, 0)) (h : fX10_askTables_87  o so0 sx1 M = some M') : At E X 87 [some (.ref (ad E o)), none] [.int sx1, .ref (ad E so0)] M := by
  unfold fX10_askTables_87 at h
  refine pX10_381 C hso0 dX10_askTables_87 ?_
  refine s_aload0 C dX10_askTables_90 ?_
  refine s_aload0 C dX10_askTables_91 ?_
  refine s_aload0 C dX10_askTables_92 ?_
  refine gX10_378 C ho dX10_askTables_93 ?_
  obtain ⟨r2, M1, hq, h⟩ := bI_e h
  refine s_callV (T := TX10) (As := [.int ((pI M so0 46 sx1).1 o 45)]) (v := some (.int r2)) C rfl ho (by decide) rfl (by omega) wX10_384 rfl (Nat.le_of_ble_eq_true rfl) dX10_askTables_96 (tX10_saysOf C.2.2.2.2.2.2.1 (by omega) ho hq) ?_
  refine pX10_387 C ho dX10_askTables_99 ?_
  refine s_aload0 C dX10_askTables_102 ?_
  refine s_aload0 C dX10_askTables_103 ?_
  refine s_aload0 C dX10_askTables_104 ?_
  refine gX10_381 C ho dX10_askTables_105 ?_
  obtain ⟨r4, M3, hq, h⟩ := bI_e h
  refine s_callV (T := TX10) (As := [.int ((pI M1 o 47 r2).1 o 46)]) (v := some (.int r4)) C rfl ho (by decide) rfl (by omega) wX10_384 rfl (Nat.le_of_ble_eq_true rfl) dX10_askTables_108 (tX10_saysOf C.2.2.2.2.2.2.1 (by omega) ho hq) ?_
  refine pX10_390 C ho dX10_askTables_111 ?_
  refine s_aload0 C dX10_askTables_114 ?_
  refine gX10_82 C ho dX10_askTables_115 ?_
  refine s_aload0 C dX10_askTables_118 ?_
  refine gX10_378 C ho dX10_askTables_119 ?_
  refine s_iald C (qX10_placeOf ho) h dX10_askTables_122 (fun h => ?_)
  refine s_istore1 C rfl dX10_askTables_123 ?_
  refine s_aload0 C dX10_askTables_124 ?_
  refine s_aload0 C dX10_askTables_125 ?_
  refine gX10_378 C ho dX10_askTables_126 ?_
  refine s_if_le (tgt := 162) C h dX10_askTables_129 (by decide) ⟨fun h => ?_, fun h => ?_⟩
  · refine s_fg 1 ?_
    exact bX10_askTables_162 C R hd  ho ho h
  · refine s_aload0 C dX10_askTables_132 ?_
    refine gX10_55 C ho dX10_askTables_133 ?_
    refine s_iload1 C dX10_askTables_136 ?_
    refine s_iald C (qX10_countAt ho) h dX10_askTables_137 (fun h => ?_)
    refine s_i2l C dX10_askTables_138 ?_
    refine s_ldc2 (v := -1) C k_1702 dX10_askTables_139 ?_
    refine s_lconst (v := 0) C (by decide) dX10_askTables_142 ?_
    obtain ⟨r6, M5, hq, h⟩ := bI_e h
    refine s_callS (As := [.long (((pI M3 o 48 r4).1 (o + 14) (tn ((pI M3 o 48 r4).1 (o + 23) (tn ((pI M3 o 48 r4).1 o 45)))))).toInt64, .long (-1 : Int64), .long (0 : Int64)]) (v := some (.int r6)) C rfl (by omega) wX10_139 rfl (Nat.le_of_ble_eq_true rfl) dX10_askTables_143 (tX10_in C.2.2.2.2.2.2.1 (by omega)  hq) ?_
    refine s_if_eq (tgt := 162) C h dX10_askTables_146 (by decide) ⟨fun h => ?_, fun h => ?_⟩
    · refine s_fg 1 ?_
      exact bX10_askTables_162 C R hd  ho ho h
    · refine s_aload0 C dX10_askTables_149 ?_
      refine gX10_58 C ho dX10_askTables_150 ?_
      refine s_iload1 C dX10_askTables_153 ?_
      refine s_iald C (qX10_useAt ho) h dX10_askTables_154 (fun h => ?_)
      refine s_if_ne (tgt := 162) C h dX10_askTables_155 (by decide) ⟨fun h => ?_, fun h => ?_⟩
      · refine s_fg 1 ?_
        exact bX10_askTables_162 C R hd  ho ho h
      · refine s_iconst (v := 1) C (by decide) dX10_askTables_158 ?_
        refine s_goto (tgt := 163) C dX10_askTables_159 (by decide) ?_
        refine s_fg 1 ?_
        exact bX10_askTables_163 C R hd  ho ho h
set_option maxRecDepth 4000 in
theorem bX10_askTables_2 {E : En} {X : Xc} {d : Nat} {M' : Mem} (C : Cx E X d cX10_askTables RX10 2) (R : Rt E X none none M') (hd : 2 ≤ d)   : ∀ (n : Nat) (o : Nat) (x1 : Int32) (M : Mem) (_ : kd o = (10, 0)), fX10_askTables_2  n o x1 M = some M' → At E X 2 [some (.ref (ad E o)), some (.int x1)] [] M := by
  intro n
  induction n with
  | zero => intro o x1 M ho h; rw [fX10_askTables_2] at h; cases h
  | succ n ih =>
    intro o x1 M ho h
    rw [fX10_askTables_2] at h
    refine s_iload1 C dX10_askTables_2 ?_
    refine s_aload0 C dX10_askTables_3 ?_
    obtain ⟨r2, M1, hq, h⟩ := bI_e h
    refine s_callV (T := TX10) (As := []) (v := some (.int r2)) C rfl ho (by decide) rfl (by omega) wX10_335 rfl (Nat.le_of_ble_eq_true rfl) dX10_askTables_4 (tX10_tables C.2.2.2.2.2.2.1 (by omega) ho hq) ?_
    refine s_ic_gt (tgt := 53) C h dX10_askTables_7 (by decide) ⟨fun h => ?_, fun h => ?_⟩
    · refine s_aload0 C dX10_askTables_53 ?_
      refine s_aload0 C dX10_askTables_54 ?_
      refine s_aload0 C dX10_askTables_55 ?_
      obtain ⟨r4, M3, hq, h⟩ := bI_e h
      refine s_callV (T := TX10) (As := []) (v := some (.int r4)) C rfl ho (by decide) rfl (by omega) wX10_335 rfl (Nat.le_of_ble_eq_true rfl) dX10_askTables_56 (tX10_tables C.2.2.2.2.2.2.1 (by omega) ho hq) ?_
      refine s_iconst (v := 1) C (by decide) dX10_askTables_59 ?_
      refine s_iadd C dX10_askTables_60 ?_
      obtain ⟨r6, M5, hq, h⟩ := bI_e h
      refine s_callV (T := TX10) (As := [.int (r4 + (1 : Int32))]) (v := some (.int r6)) C rfl ho (by decide) rfl (by omega) wX10_375 rfl (Nat.le_of_ble_eq_true rfl) dX10_askTables_61 (tX10_matching C.2.2.2.2.2.2.1 (by omega) ho hq) ?_
      refine pX10_378 C ho dX10_askTables_64 ?_
      refine s_aload0 C dX10_askTables_67 ?_
      refine s_aload0 C dX10_askTables_68 ?_
      refine gX10_378 C ho dX10_askTables_69 ?_
      refine s_if_ne (tgt := 79) C h dX10_askTables_72 (by decide) ⟨fun h => ?_, fun h => ?_⟩
      · refine s_aload0 C dX10_askTables_79 ?_
        refine s_aload0 C dX10_askTables_80 ?_
        refine gX10_378 C ho dX10_askTables_81 ?_
        obtain ⟨r8, M7, hq, h⟩ := bI_e h
        refine s_callV (T := TX10) (As := [.int ((pI M5 o 45 r6).1 o 45)]) (v := some (.int r8)) C rfl ho (by decide) rfl (by omega) wX10_375 rfl (Nat.le_of_ble_eq_true rfl) dX10_askTables_84 (tX10_matching C.2.2.2.2.2.2.1 (by omega) ho hq) ?_
        refine s_fg 1 ?_
        exact bX10_askTables_87 C R hd  ho ho h
      · refine s_iconst (v := 0) C (by decide) dX10_askTables_75 ?_
        refine s_goto (tgt := 87) C dX10_askTables_76 (by decide) ?_
        refine s_fg 1 ?_
        exact bX10_askTables_87 C R hd  ho ho h
    · refine s_aload0 C dX10_askTables_10 ?_
      refine gX10_82 C ho dX10_askTables_11 ?_
      refine s_iload1 C dX10_askTables_14 ?_
      refine s_bipush (v := 16) C (by decide) dX10_askTables_15 ?_
      refine s_iload1 C dX10_askTables_17 ?_
      refine s_iconst (v := 1) C (by decide) dX10_askTables_18 ?_
      refine s_isub C dX10_askTables_19 ?_
      refine s_imul C dX10_askTables_20 ?_
      refine s_aload0 C dX10_askTables_21 ?_
      refine s_iload1 C dX10_askTables_22 ?_
      refine s_aload0 C dX10_askTables_23 ?_
      refine gX10_363 C ho dX10_askTables_24 ?_
      obtain ⟨r10, M9, hq, h⟩ := bI_e h
      refine s_callV (T := TX10) (As := [.int x1, .int (M1.1 o 44)]) (v := some (.int r10)) C rfl ho (by decide) rfl (by omega) wX10_369 rfl (Nat.le_of_ble_eq_true rfl) dX10_askTables_27 (tX10_indexOf C.2.2.2.2.2.2.1 (by omega) ho hq) ?_
      refine s_iadd C dX10_askTables_30 ?_
      refine s_iast C (qX10_placeOf ho) h dX10_askTables_31 (fun h => ?_)
      refine s_aload0 C dX10_askTables_32 ?_
      refine gX10_85 C ho dX10_askTables_33 ?_
      refine s_iload1 C dX10_askTables_36 ?_
      refine s_aload0 C dX10_askTables_37 ?_
      refine s_iload1 C dX10_askTables_38 ?_
      refine s_aload0 C dX10_askTables_39 ?_
      refine gX10_363 C ho dX10_askTables_40 ?_
      obtain ⟨r12, M11, hq, h⟩ := bI_e h
      refine s_callV (T := TX10) (As := [.int x1, .int ((pI M9 (o + 23) (tn x1) (((16 : Int32) * (x1 - (1 : Int32))) + r10)).1 o 44)]) (v := some (.int r12)) C rfl ho (by decide) rfl (by omega) wX10_372 rfl (Nat.le_of_ble_eq_true rfl) dX10_askTables_43 (tX10_tagOf C.2.2.2.2.2.2.1 (by omega) ho hq) ?_
      refine s_iast C (qX10_markOf ho) h dX10_askTables_46 (fun h => ?_)
      refine s_iinc1 (v := 1) C rfl dX10_askTables_47 (by decide) ?_
      refine s_goto (tgt := 2) C dX10_askTables_50 (by decide) ?_
      exact ih _ _ _ ho h
set_option maxRecDepth 4000 in
theorem tX10_askTables {l : Launch} {E : En} {A : Nat → Prop} {d : Nat} {M M' : Mem} {o : Nat} (hE : Okk E A) (hd : 2 ≤ d) (ho : kd o = (10, 0)) (h : fX10_askTables o M = some M') : Ct l E A d yX10_askTables cX10_askTables 2 none [.ref (ad E o)] M none M' := by
  refine Ct.mk (ls := [some (.ref (ad E o)), none]) hE (by decide +kernel) rfl (Nat.le_of_ble_eq_true rfl) (fun X hXl hXA C R => ?_)
  subst hXl; subst hXA
  unfold fX10_askTables at h
  refine s_iconst (v := 1) C (by decide) dX10_askTables_0 ?_
  refine s_istore1 C rfl dX10_askTables_1 ?_
  exact bX10_askTables_2 C R hd  LF _ _ _ ho h
set_option maxRecDepth 4000 in
theorem tX10_loopSays {l : Launch} {E : En} {A : Nat → Prop} {d : Nat} {r : Int32} {M M' : Mem} {o : Nat} (hE : Okk E A) (hd : 1 ≤ d) (ho : kd o = (10, 0)) (h : fX10_loopSays o M = some (r, M')) : Ct l E A d yX10_loopSays cX10_loopSays 2 (some .int) [.ref (ad E o)] M (some (.int r)) M' := by
  refine Ct.mk (ls := [some (.ref (ad E o)), none]) hE (by decide +kernel) rfl (Nat.le_of_ble_eq_true rfl) (fun X hXl hXA C R => ?_)
  subst hXl; subst hXA
  unfold fX10_loopSays at h
  refine s_aload0 C dX10_loopSays_0 ?_
  refine gX10_363 C ho dX10_loopSays_1 ?_
  refine s_bipush (v := 8) C (by decide) dX10_loopSays_4 ?_
  refine s_iremc C (by decide) dX10_loopSays_6 ?_
  refine s_istore1 C rfl dX10_loopSays_7 ?_
  refine s_aload0 C dX10_loopSays_8 ?_
  refine s_iconst (v := 1) C (by decide) dX10_loopSays_9 ?_
  obtain ⟨r2, M1, hq, h⟩ := bI_e h
  refine s_callV (T := TX10) (As := [.int (1 : Int32)]) (v := some (.int r2)) C rfl ho (by decide) rfl (by omega) wX10_399 rfl (Nat.le_of_ble_eq_true rfl) dX10_loopSays_10 (tX10_has C.2.2.2.2.2.2.1 (by omega) ho hq) ?_
  refine s_if_eq (tgt := 39) C h dX10_loopSays_13 (by decide) ⟨fun h => ?_, fun h => ?_⟩
  · refine s_iconst (v := -1) C (by decide) dX10_loopSays_39 ?_
    exact s_iret C R h dX10_loopSays_40
  · refine s_aload0 C dX10_loopSays_16 ?_
    refine gX10_64 C ho dX10_loopSays_17 ?_
    refine s_iload1 C dX10_loopSays_20 ?_
    refine s_iald C (qX10_whose ho) h dX10_loopSays_21 (fun h => ?_)
    refine s_aload0 C dX10_loopSays_22 ?_
    refine gX10_363 C ho dX10_loopSays_23 ?_
    refine s_ic_ne (tgt := 39) C h dX10_loopSays_26 (by decide) ⟨fun h => ?_, fun h => ?_⟩
    · refine s_iconst (v := -1) C (by decide) dX10_loopSays_39 ?_
      exact s_iret C R h dX10_loopSays_40
    · refine s_aload0 C dX10_loopSays_29 ?_
      refine gX10_73 C ho dX10_loopSays_30 ?_
      refine s_iload1 C dX10_loopSays_33 ?_
      refine s_iald C (qX10_sureAt ho) h dX10_loopSays_34 (fun h => ?_)
      refine s_iconst (v := 3) C (by decide) dX10_loopSays_35 ?_
      refine s_ic_eq (tgt := 41) C h dX10_loopSays_36 (by decide) ⟨fun h => ?_, fun h => ?_⟩
      · refine s_aload0 C dX10_loopSays_41 ?_
        refine gX10_70 C ho dX10_loopSays_42 ?_
        refine s_iload1 C dX10_loopSays_45 ?_
        refine s_iald C (qX10_runAt ho) h dX10_loopSays_46 (fun h => ?_)
        refine s_aload0 C dX10_loopSays_47 ?_
        refine gX10_67 C ho dX10_loopSays_48 ?_
        refine s_iload1 C dX10_loopSays_51 ?_
        refine s_iald C (qX10_lengthAt ho) h dX10_loopSays_52 (fun h => ?_)
        refine s_ic_ge (tgt := 60) C h dX10_loopSays_53 (by decide) ⟨fun h => ?_, fun h => ?_⟩
        · refine s_iconst (v := 0) C (by decide) dX10_loopSays_60 ?_
          exact s_iret C R h dX10_loopSays_61
        · refine s_iconst (v := 1) C (by decide) dX10_loopSays_56 ?_
          refine s_goto (tgt := 61) C dX10_loopSays_57 (by decide) ?_
          exact s_iret C R h dX10_loopSays_61
      · refine s_iconst (v := -1) C (by decide) dX10_loopSays_39 ?_
        exact s_iret C R h dX10_loopSays_40
set_option maxRecDepth 4000 in
theorem bX10_askCorrector_91 {E : En} {X : Xc} {d : Nat} {M' : Mem} (C : Cx E X d cX10_askCorrector RX10 2) (R : Rt E X none none M') (hd : 1 ≤ d)   : ∀ (n : Nat) (o : Nat) (x1 : Int32) (M : Mem) (_ : kd o = (10, 0)), fX10_askCorrector_91  n o x1 M = some M' → At E X 91 [some (.ref (ad E o)), some (.int x1)] [] M := by
  intro n
  induction n with
  | zero => intro o x1 M ho h; rw [fX10_askCorrector_91] at h; cases h
  | succ n ih =>
    intro o x1 M ho h
    rw [fX10_askCorrector_91] at h
    refine s_iload1 C dX10_askCorrector_91 ?_
    refine s_iconst (v := 3) C (by decide) dX10_askCorrector_92 ?_
    refine s_ic_ge (tgt := 126) C h dX10_askCorrector_93 (by decide) ⟨fun h => ?_, fun h => ?_⟩
    · refine s_aload0 C dX10_askCorrector_126 ?_
      refine s_aload0 C dX10_askCorrector_127 ?_
      refine gX10_407 C ho dX10_askCorrector_128 ?_
      refine s_if_le (tgt := 138) C h dX10_askCorrector_131 (by decide) ⟨fun h => ?_, fun h => ?_⟩
      · refine s_iconst (v := 0) C (by decide) dX10_askCorrector_138 ?_
        refine pX10_410 C ho dX10_askCorrector_139 ?_
        exact s_vret C R h dX10_askCorrector_142
      · refine s_iconst (v := 1) C (by decide) dX10_askCorrector_134 ?_
        refine s_goto (tgt := 139) C dX10_askCorrector_135 (by decide) ?_
        refine pX10_410 C ho dX10_askCorrector_139 ?_
        exact s_vret C R h dX10_askCorrector_142
    · refine s_aload0 C dX10_askCorrector_96 ?_
      refine s_dup C rfl dX10_askCorrector_97 ?_
      refine gX10_407 C ho dX10_askCorrector_98 ?_
      refine s_iconst (v := 2) C (by decide) dX10_askCorrector_101 ?_
      refine s_aload0 C dX10_askCorrector_102 ?_
      refine gX10_79 C ho dX10_askCorrector_103 ?_
      refine s_aload0 C dX10_askCorrector_106 ?_
      refine gX10_88 C ho dX10_askCorrector_107 ?_
      refine s_iload1 C dX10_askCorrector_110 ?_
      refine s_iald C (qX10_correctPlace ho) h dX10_askCorrector_111 (fun h => ?_)
      refine s_iald C (qX10_correctAt ho) h dX10_askCorrector_112 (fun h => ?_)
      refine s_imul C dX10_askCorrector_113 ?_
      refine s_iconst (v := 1) C (by decide) dX10_askCorrector_114 ?_
      refine s_iadd C dX10_askCorrector_115 ?_
      refine s_iadd C dX10_askCorrector_116 ?_
      refine pX10_407 C ho dX10_askCorrector_117 ?_
      refine s_iinc1 (v := 1) C rfl dX10_askCorrector_120 (by decide) ?_
      refine s_goto (tgt := 91) C dX10_askCorrector_123 (by decide) ?_
      exact ih _ _ _ ho h
set_option maxRecDepth 4000 in
theorem bX10_askCorrector_86 {E : En} {X : Xc} {d : Nat} {M M' : Mem} {o : Nat} {so0 : Nat} {sx1 : Int32} (C : Cx E X d cX10_askCorrector RX10 2) (R : Rt E X none none M') (hd : 1 ≤ d)   (ho : kd o = (10, 0)) (hso0 : kd so0 = (10, 0)) (h : fX10_askCorrector_86  o so0 sx1 M = some M') : At E X 86 [some (.ref (ad E o)), none] [.int sx1, .ref (ad E so0)] M := by
  unfold fX10_askCorrector_86 at h
  refine pX10_407 C hso0 dX10_askCorrector_86 ?_
  refine s_iconst (v := 0) C (by decide) dX10_askCorrector_89 ?_
  refine s_istore1 C rfl dX10_askCorrector_90 ?_
  exact bX10_askCorrector_91 C R hd  LF _ _ _ ho h
set_option maxRecDepth 4000 in
theorem tX10_askCorrector {l : Launch} {E : En} {A : Nat → Prop} {d : Nat} {M M' : Mem} {o : Nat} (hE : Okk E A) (hd : 1 ≤ d) (ho : kd o = (10, 0)) (h : fX10_askCorrector o M = some M') : Ct l E A d yX10_askCorrector cX10_askCorrector 2 none [.ref (ad E o)] M none M' := by
  refine Ct.mk (ls := [some (.ref (ad E o)), none]) hE (by decide +kernel) rfl (Nat.le_of_ble_eq_true rfl) (fun X hXl hXA C R => ?_)
  subst hXl; subst hXA
  unfold fX10_askCorrector at h
  refine s_aload0 C dX10_askCorrector_0 ?_
  refine gX10_88 C ho dX10_askCorrector_1 ?_
  refine s_iconst (v := 0) C (by decide) dX10_askCorrector_4 ?_
  refine s_iconst (v := 2) C (by decide) dX10_askCorrector_5 ?_
  refine s_aload0 C dX10_askCorrector_6 ?_
  refine gX10_363 C ho dX10_askCorrector_7 ?_
  refine s_bipush (v := 8) C (by decide) dX10_askCorrector_10 ?_
  refine s_iremc C (by decide) dX10_askCorrector_12 ?_
  refine s_imul C dX10_askCorrector_13 ?_
  refine s_aload0 C dX10_askCorrector_14 ?_
  refine gX10_402 C ho dX10_askCorrector_15 ?_
  refine s_iadd C dX10_askCorrector_18 ?_
  refine s_iast C (qX10_correctPlace ho) h dX10_askCorrector_19 (fun h => ?_)
  refine s_aload0 C dX10_askCorrector_20 ?_
  refine gX10_88 C ho dX10_askCorrector_21 ?_
  refine s_iconst (v := 1) C (by decide) dX10_askCorrector_24 ?_
  refine s_bipush (v := 16) C (by decide) dX10_askCorrector_25 ?_
  refine s_aload0 C dX10_askCorrector_27 ?_
  refine gX10_363 C ho dX10_askCorrector_28 ?_
  refine s_aload0 C dX10_askCorrector_31 ?_
  refine gX10_353 C ho dX10_askCorrector_32 ?_
  refine s_ldc2 (v := 15) C k_1711 dX10_askCorrector_35 ?_
  refine s_land C dX10_askCorrector_38 ?_
  refine s_l2i C dX10_askCorrector_39 ?_
  refine s_ixor C dX10_askCorrector_40 ?_
  refine s_bipush (v := 16) C (by decide) dX10_askCorrector_41 ?_
  refine s_iremc C (by decide) dX10_askCorrector_43 ?_
  refine s_iadd C dX10_askCorrector_44 ?_
  refine s_iast C (qX10_correctPlace ho) h dX10_askCorrector_45 (fun h => ?_)
  refine s_aload0 C dX10_askCorrector_46 ?_
  refine gX10_88 C ho dX10_askCorrector_47 ?_
  refine s_iconst (v := 2) C (by decide) dX10_askCorrector_50 ?_
  refine s_bipush (v := 32) C (by decide) dX10_askCorrector_51 ?_
  refine s_aload0 C dX10_askCorrector_53 ?_
  refine gX10_363 C ho dX10_askCorrector_54 ?_
  refine s_aload0 C dX10_askCorrector_57 ?_
  refine s_bipush (v := 12) C (by decide) dX10_askCorrector_58 ?_
  refine s_iconst (v := 4) C (by decide) dX10_askCorrector_60 ?_
  obtain ⟨r2, M1, hq, h⟩ := bI_e h
  refine s_callV (T := TX10) (As := [.int (12 : Int32), .int (4 : Int32)]) (v := some (.int r2)) C rfl ho (by decide) rfl (by omega) wX10_357 rfl (Nat.le_of_ble_eq_true rfl) dX10_askCorrector_61 (tX10_foldOf C.2.2.2.2.2.2.1 (by omega) ho hq) ?_
  refine s_ixor C dX10_askCorrector_64 ?_
  refine s_bipush (v := 16) C (by decide) dX10_askCorrector_65 ?_
  refine s_iremc C (by decide) dX10_askCorrector_67 ?_
  refine s_iadd C dX10_askCorrector_68 ?_
  refine s_iast C (qX10_correctPlace ho) h dX10_askCorrector_69 (fun h => ?_)
  refine s_aload0 C dX10_askCorrector_70 ?_
  refine s_aload0 C dX10_askCorrector_71 ?_
  refine gX10_402 C ho dX10_askCorrector_72 ?_
  refine s_iconst (v := 1) C (by decide) dX10_askCorrector_75 ?_
  refine s_ic_ne (tgt := 84) C h dX10_askCorrector_76 (by decide) ⟨fun h => ?_, fun h => ?_⟩
  · refine s_bipush (v := -6) C (by decide) dX10_askCorrector_84 ?_
    exact bX10_askCorrector_86 C R hd  ho ho h
  · refine s_bipush (v := 6) C (by decide) dX10_askCorrector_79 ?_
    refine s_goto (tgt := 86) C dX10_askCorrector_81 (by decide) ?_
    exact bX10_askCorrector_86 C R hd  ho ho h
set_option maxRecDepth 4000 in
theorem bX10_ask_72 {E : En} {X : Xc} {d : Nat} {M M' : Mem} {o : Nat} (C : Cx E X d cX10_ask RX10 3) (R : Rt E X none none M') (hd : 3 ≤ d)   (ho : kd o = (10, 0)) (h : fX10_ask_72  o M = some M') : At E X 72 [some (.ref (ad E o)), none, none] [] M := by
  unfold fX10_ask_72 at h
  refine s_aload0 C dX10_ask_72 ?_
  obtain ⟨r2, M1, hq, h⟩ := bI_e h
  refine s_callV (T := TX10) (As := []) (v := some (.int r2)) C rfl ho (by decide) rfl (by omega) wX10_428 rfl (Nat.le_of_ble_eq_true rfl) dX10_ask_73 (tX10_loopSays C.2.2.2.2.2.2.1 (by omega) ho hq) ?_
  refine s_istore2 C rfl dX10_ask_76 ?_
  refine s_iload2 C dX10_ask_77 ?_
  refine s_iconst (v := -1) C (by decide) dX10_ask_78 ?_
  refine s_ic_ne (tgt := 83) C h dX10_ask_79 (by decide) ⟨fun h => ?_, fun h => ?_⟩
  · refine s_aload0 C dX10_ask_83 ?_
    refine s_iconst (v := 1) C (by decide) dX10_ask_84 ?_
    refine pX10_419 C ho dX10_ask_85 ?_
    refine s_aload0 C dX10_ask_88 ?_
    refine s_iload2 C dX10_ask_89 ?_
    refine pX10_422 C ho dX10_ask_90 ?_
    exact s_vret C R h dX10_ask_93
  · exact s_vret C R h dX10_ask_82
set_option maxRecDepth 4000 in
theorem tX10_ask {l : Launch} {E : En} {A : Nat → Prop} {d : Nat} {M M' : Mem} {o : Nat} {x1 : Int32} (hE : Okk E A) (hd : 3 ≤ d) (ho : kd o = (10, 0)) (h : fX10_ask o x1 M = some M') : Ct l E A d yX10_ask cX10_ask 3 none [.ref (ad E o), .int x1] M none M' := by
  refine Ct.mk (ls := [some (.ref (ad E o)), some (.int x1), none]) hE (by decide +kernel) rfl (Nat.le_of_ble_eq_true rfl) (fun X hXl hXA C R => ?_)
  subst hXl; subst hXA
  unfold fX10_ask at h
  refine s_aload0 C dX10_ask_0 ?_
  refine s_iload1 C dX10_ask_1 ?_
  refine pX10_363 C ho dX10_ask_2 ?_
  refine s_aload0 C dX10_ask_5 ?_
  obtain ⟨M1, hq, h⟩ := bV_e h
  refine s_callV (T := TX10) (As := []) (v := none) C rfl ho (by decide) rfl (by omega) wX10_413 rfl (Nat.le_of_ble_eq_true rfl) dX10_ask_6 (tX10_askTables C.2.2.2.2.2.2.1 (by omega) ho hq) ?_
  refine s_aload0 C dX10_ask_9 ?_
  obtain ⟨M2, hq, h⟩ := bV_e h
  refine s_callV (T := TX10) (As := []) (v := none) C rfl ho (by decide) rfl (by omega) wX10_416 rfl (Nat.le_of_ble_eq_true rfl) dX10_ask_10 (tX10_askCorrector C.2.2.2.2.2.2.1 (by omega) ho hq) ?_
  refine s_aload0 C dX10_ask_13 ?_
  refine s_iconst (v := 0) C (by decide) dX10_ask_14 ?_
  refine pX10_419 C ho dX10_ask_15 ?_
  refine s_aload0 C dX10_ask_18 ?_
  refine s_aload0 C dX10_ask_19 ?_
  refine gX10_402 C ho dX10_ask_20 ?_
  refine pX10_422 C ho dX10_ask_23 ?_
  refine s_aload0 C dX10_ask_26 ?_
  refine s_iconst (v := 2) C (by decide) dX10_ask_27 ?_
  obtain ⟨r4, M3, hq, h⟩ := bI_e h
  refine s_callV (T := TX10) (As := [.int (2 : Int32)]) (v := some (.int r4)) C rfl ho (by decide) rfl (by omega) wX10_399 rfl (Nat.le_of_ble_eq_true rfl) dX10_ask_28 (tX10_has C.2.2.2.2.2.2.1 (by omega) ho hq) ?_
  refine s_if_eq (tgt := 72) C h dX10_ask_31 (by decide) ⟨fun h => ?_, fun h => ?_⟩
  · refine s_fg 1 ?_
    exact bX10_ask_72 C R hd  ho h
  · refine s_aload0 C dX10_ask_34 ?_
    refine gX10_410 C ho dX10_ask_35 ?_
    refine s_aload0 C dX10_ask_38 ?_
    refine gX10_402 C ho dX10_ask_39 ?_
    refine s_ic_eq (tgt := 72) C h dX10_ask_42 (by decide) ⟨fun h => ?_, fun h => ?_⟩
    · refine s_fg 1 ?_
      exact bX10_ask_72 C R hd  ho h
    · refine s_aload0 C dX10_ask_45 ?_
      refine gX10_407 C ho dX10_ask_46 ?_
      refine s_abs C rfl (by omega) wX10_425 (Nat.le_of_ble_eq_true rfl) dX10_ask_49 ?_
      refine s_aload0 C dX10_ask_52 ?_
      refine gX10_347 C ho dX10_ask_53 ?_
      refine s_ic_lt (tgt := 72) C h dX10_ask_56 (by decide) ⟨fun h => ?_, fun h => ?_⟩
      · refine s_fg 1 ?_
        exact bX10_ask_72 C R hd  ho h
      · refine s_aload0 C dX10_ask_59 ?_
        refine s_iconst (v := 2) C (by decide) dX10_ask_60 ?_
        refine pX10_419 C ho dX10_ask_61 ?_
        refine s_aload0 C dX10_ask_64 ?_
        refine s_aload0 C dX10_ask_65 ?_
        refine gX10_410 C ho dX10_ask_66 ?_
        refine pX10_422 C ho dX10_ask_69 ?_
        refine s_fg 1 ?_
        exact bX10_ask_72 C R hd  ho h
set_option maxRecDepth 4000 in
theorem bX10_learnLoop_202 {E : En} {X : Xc} {d : Nat} {M M' : Mem} {o : Nat} {x2 : Int32} {sc0 : Nat} {sx1 : Int32} {sx2 : Int32} (C : Cx E X d cX10_learnLoop RX10 4) (R : Rt E X none none M') (hd : 1 ≤ d)   (ho : kd o = (10, 0)) (hsc0 : kd sc0 = (20, 8)) (h : fX10_learnLoop_202  o x2 sc0 sx1 sx2 M = some M') : At E X 202 [some (.ref (ad E o)), none, some (.int x2), none] [.int sx2, .int sx1, .ref (ad E sc0)] M := by
  unfold fX10_learnLoop_202 at h
  refine s_iast C hsc0 h dX10_learnLoop_202 (fun h => ?_)
  refine s_aload0 C dX10_learnLoop_203 ?_
  refine gX10_67 C ho dX10_learnLoop_204 ?_
  refine s_iload2 C dX10_learnLoop_207 ?_
  refine s_aload0 C dX10_learnLoop_208 ?_
  refine gX10_70 C ho dX10_learnLoop_209 ?_
  refine s_iload2 C dX10_learnLoop_212 ?_
  refine s_iald C (qX10_runAt ho) h dX10_learnLoop_213 (fun h => ?_)
  refine s_iast C (qX10_lengthAt ho) h dX10_learnLoop_214 (fun h => ?_)
  refine s_aload0 C dX10_learnLoop_215 ?_
  refine gX10_70 C ho dX10_learnLoop_216 ?_
  refine s_iload2 C dX10_learnLoop_219 ?_
  refine s_iconst (v := 0) C (by decide) dX10_learnLoop_220 ?_
  refine s_iast C (qX10_runAt ho) h dX10_learnLoop_221 (fun h => ?_)
  exact s_vret C R h dX10_learnLoop_222
set_option maxRecDepth 4000 in
theorem bX10_learnLoop_176 {E : En} {X : Xc} {d : Nat} {M M' : Mem} {o : Nat} {x2 : Int32} {sx0 : Int32} (C : Cx E X d cX10_learnLoop RX10 4) (R : Rt E X none none M') (hd : 1 ≤ d)   (ho : kd o = (10, 0)) (h : fX10_learnLoop_176  o x2 sx0 M = some M') : At E X 176 [some (.ref (ad E o)), none, some (.int x2), none] [.int sx0] M := by
  unfold fX10_learnLoop_176 at h
  refine s_istore3 C rfl dX10_learnLoop_176 ?_
  refine s_aload0 C dX10_learnLoop_177 ?_
  refine gX10_73 C ho dX10_learnLoop_178 ?_
  refine s_iload2 C dX10_learnLoop_181 ?_
  refine s_iload3 C dX10_learnLoop_182 ?_
  refine s_if_eq (tgt := 201) C h dX10_learnLoop_183 (by decide) ⟨fun h => ?_, fun h => ?_⟩
  · refine s_iconst (v := 0) C (by decide) dX10_learnLoop_201 ?_
    refine s_fg 3 ?_
    exact bX10_learnLoop_202 C R hd  ho (qX10_sureAt ho) h
  · refine s_iconst (v := 3) C (by decide) dX10_learnLoop_186 ?_
    refine s_aload0 C dX10_learnLoop_187 ?_
    refine gX10_73 C ho dX10_learnLoop_188 ?_
    refine s_iload2 C dX10_learnLoop_191 ?_
    refine s_iald C (qX10_sureAt ho) h dX10_learnLoop_192 (fun h => ?_)
    refine s_iconst (v := 1) C (by decide) dX10_learnLoop_193 ?_
    refine s_iadd C dX10_learnLoop_194 ?_
    refine s_min C rfl (by omega) wX10_128 (Nat.le_of_ble_eq_true rfl) dX10_learnLoop_195 ?_
    refine s_goto (tgt := 202) C dX10_learnLoop_198 (by decide) ?_
    refine s_fg 3 ?_
    exact bX10_learnLoop_202 C R hd  ho (qX10_sureAt ho) h
set_option maxRecDepth 4000 in
theorem bX10_learnLoop_129 {E : En} {X : Xc} {d : Nat} {M M' : Mem} {o : Nat} {x2 : Int32} (C : Cx E X d cX10_learnLoop RX10 4) (R : Rt E X none none M') (hd : 1 ≤ d)   (ho : kd o = (10, 0)) (h : fX10_learnLoop_129  o x2 M = some M') : At E X 129 [some (.ref (ad E o)), none, some (.int x2), none] [] M := by
  unfold fX10_learnLoop_129 at h
  refine s_aload0 C dX10_learnLoop_129 ?_
  refine gX10_70 C ho dX10_learnLoop_130 ?_
  refine s_iload2 C dX10_learnLoop_133 ?_
  refine s_iald C (qX10_runAt ho) h dX10_learnLoop_134 (fun h => ?_)
  refine s_bipush (v := 60) C (by decide) dX10_learnLoop_135 ?_
  refine s_ic_ge (tgt := 141) C h dX10_learnLoop_137 (by decide) ⟨fun h => ?_, fun h => ?_⟩
  · refine s_aload0 C dX10_learnLoop_141 ?_
    refine s_iload2 C dX10_learnLoop_142 ?_
    obtain ⟨M1, hq, h⟩ := bV_e h
    refine s_callV (T := TX10) (As := [.int x2]) (v := none) C rfl ho (by decide) rfl (by omega) wX10_338 rfl (Nat.le_of_ble_eq_true rfl) dX10_learnLoop_143 (tX10_empties C.2.2.2.2.2.2.1 (by omega) ho hq) ?_
    refine s_aload0 C dX10_learnLoop_146 ?_
    refine gX10_76 C ho dX10_learnLoop_147 ?_
    refine s_iload2 C dX10_learnLoop_150 ?_
    refine s_iconst (v := 0) C (by decide) dX10_learnLoop_151 ?_
    refine s_iast C (qX10_ageAt ho) h dX10_learnLoop_152 (fun h => ?_)
    refine s_goto (tgt := 222) C dX10_learnLoop_153 (by decide) ?_
    exact s_vret C R h dX10_learnLoop_222
  · exact s_vret C R h dX10_learnLoop_140
set_option maxRecDepth 4000 in
theorem tX10_learnLoop {l : Launch} {E : En} {A : Nat → Prop} {d : Nat} {M M' : Mem} {o : Nat} {x1 : Int32} (hE : Okk E A) (hd : 1 ≤ d) (ho : kd o = (10, 0)) (h : fX10_learnLoop o x1 M = some M') : Ct l E A d yX10_learnLoop cX10_learnLoop 4 none [.ref (ad E o), .int x1] M none M' := by
  refine Ct.mk (ls := [some (.ref (ad E o)), some (.int x1), none, none]) hE (by decide +kernel) rfl (Nat.le_of_ble_eq_true rfl) (fun X hXl hXA C R => ?_)
  subst hXl; subst hXA
  unfold fX10_learnLoop at h
  refine s_aload0 C dX10_learnLoop_0 ?_
  refine gX10_363 C ho dX10_learnLoop_1 ?_
  refine s_bipush (v := 8) C (by decide) dX10_learnLoop_4 ?_
  refine s_iremc C (by decide) dX10_learnLoop_6 ?_
  refine s_istore2 C rfl dX10_learnLoop_7 ?_
  refine s_aload0 C dX10_learnLoop_8 ?_
  refine gX10_64 C ho dX10_learnLoop_9 ?_
  refine s_iload2 C dX10_learnLoop_12 ?_
  refine s_iald C (qX10_whose ho) h dX10_learnLoop_13 (fun h => ?_)
  refine s_aload0 C dX10_learnLoop_14 ?_
  refine gX10_363 C ho dX10_learnLoop_15 ?_
  refine s_ic_eq (tgt := 75) C h dX10_learnLoop_18 (by decide) ⟨fun h => ?_, fun h => ?_⟩
  · refine s_iload1 C dX10_learnLoop_75 ?_
    refine s_iconst (v := 1) C (by decide) dX10_learnLoop_76 ?_
    refine s_ic_ne (tgt := 156) C h dX10_learnLoop_77 (by decide) ⟨fun h => ?_, fun h => ?_⟩
    · refine s_aload0 C dX10_learnLoop_156 ?_
      refine gX10_70 C ho dX10_learnLoop_157 ?_
      refine s_iload2 C dX10_learnLoop_160 ?_
      refine s_iald C (qX10_runAt ho) h dX10_learnLoop_161 (fun h => ?_)
      refine s_aload0 C dX10_learnLoop_162 ?_
      refine gX10_67 C ho dX10_learnLoop_163 ?_
      refine s_iload2 C dX10_learnLoop_166 ?_
      refine s_iald C (qX10_lengthAt ho) h dX10_learnLoop_167 (fun h => ?_)
      refine s_ic_ne (tgt := 175) C h dX10_learnLoop_168 (by decide) ⟨fun h => ?_, fun h => ?_⟩
      · refine s_iconst (v := 0) C (by decide) dX10_learnLoop_175 ?_
        refine s_fg 1 ?_
        exact bX10_learnLoop_176 C R hd  ho h
      · refine s_iconst (v := 1) C (by decide) dX10_learnLoop_171 ?_
        refine s_goto (tgt := 176) C dX10_learnLoop_172 (by decide) ?_
        refine s_fg 1 ?_
        exact bX10_learnLoop_176 C R hd  ho h
    · refine s_aload0 C dX10_learnLoop_80 ?_
      refine gX10_70 C ho dX10_learnLoop_81 ?_
      refine s_iload2 C dX10_learnLoop_84 ?_
      refine s_dup2 C rfl rfl dX10_learnLoop_85 ?_
      refine s_iald C (qX10_runAt ho) h dX10_learnLoop_86 (fun h => ?_)
      refine s_iconst (v := 1) C (by decide) dX10_learnLoop_87 ?_
      refine s_iadd C dX10_learnLoop_88 ?_
      refine s_iast C (qX10_runAt ho) h dX10_learnLoop_89 (fun h => ?_)
      refine s_aload0 C dX10_learnLoop_90 ?_
      refine gX10_67 C ho dX10_learnLoop_91 ?_
      refine s_iload2 C dX10_learnLoop_94 ?_
      refine s_iald C (qX10_lengthAt ho) h dX10_learnLoop_95 (fun h => ?_)
      refine s_iconst (v := -1) C (by decide) dX10_learnLoop_96 ?_
      refine s_ic_eq (tgt := 129) C h dX10_learnLoop_97 (by decide) ⟨fun h => ?_, fun h => ?_⟩
      · refine s_fg 1 ?_
        exact bX10_learnLoop_129 C R hd  ho h
      · refine s_aload0 C dX10_learnLoop_100 ?_
        refine gX10_70 C ho dX10_learnLoop_101 ?_
        refine s_iload2 C dX10_learnLoop_104 ?_
        refine s_iald C (qX10_runAt ho) h dX10_learnLoop_105 (fun h => ?_)
        refine s_aload0 C dX10_learnLoop_106 ?_
        refine gX10_67 C ho dX10_learnLoop_107 ?_
        refine s_iload2 C dX10_learnLoop_110 ?_
        refine s_iald C (qX10_lengthAt ho) h dX10_learnLoop_111 (fun h => ?_)
        refine s_ic_le (tgt := 129) C h dX10_learnLoop_112 (by decide) ⟨fun h => ?_, fun h => ?_⟩
        · refine s_fg 1 ?_
          exact bX10_learnLoop_129 C R hd  ho h
        · refine s_aload0 C dX10_learnLoop_115 ?_
          refine gX10_67 C ho dX10_learnLoop_116 ?_
          refine s_iload2 C dX10_learnLoop_119 ?_
          refine s_iconst (v := -1) C (by decide) dX10_learnLoop_120 ?_
          refine s_iast C (qX10_lengthAt ho) h dX10_learnLoop_121 (fun h => ?_)
          refine s_aload0 C dX10_learnLoop_122 ?_
          refine gX10_73 C ho dX10_learnLoop_123 ?_
          refine s_iload2 C dX10_learnLoop_126 ?_
          refine s_iconst (v := 0) C (by decide) dX10_learnLoop_127 ?_
          refine s_iast C (qX10_sureAt ho) h dX10_learnLoop_128 (fun h => ?_)
          refine s_fg 1 ?_
          exact bX10_learnLoop_129 C R hd  ho h
  · refine s_aload0 C dX10_learnLoop_21 ?_
    refine gX10_422 C ho dX10_learnLoop_22 ?_
    refine s_iload1 C dX10_learnLoop_25 ?_
    refine s_ic_ne (tgt := 30) C h dX10_learnLoop_26 (by decide) ⟨fun h => ?_, fun h => ?_⟩
    · refine s_aload0 C dX10_learnLoop_30 ?_
      refine gX10_76 C ho dX10_learnLoop_31 ?_
      refine s_iload2 C dX10_learnLoop_34 ?_
      refine s_iald C (qX10_ageAt ho) h dX10_learnLoop_35 (fun h => ?_)
      refine s_if_le (tgt := 50) C h dX10_learnLoop_36 (by decide) ⟨fun h => ?_, fun h => ?_⟩
      · refine s_aload0 C dX10_learnLoop_50 ?_
        refine s_iload2 C dX10_learnLoop_51 ?_
        obtain ⟨M1, hq, h⟩ := bV_e h
        refine s_callV (T := TX10) (As := [.int (irm (M.1 o 44) (8 : Int32))]) (v := none) C rfl ho (by decide) rfl (by omega) wX10_338 rfl (Nat.le_of_ble_eq_true rfl) dX10_learnLoop_52 (tX10_empties C.2.2.2.2.2.2.1 (by omega) ho hq) ?_
        refine s_aload0 C dX10_learnLoop_55 ?_
        refine gX10_64 C ho dX10_learnLoop_56 ?_
        refine s_iload2 C dX10_learnLoop_59 ?_
        refine s_aload0 C dX10_learnLoop_60 ?_
        refine gX10_363 C ho dX10_learnLoop_61 ?_
        refine s_iast C (qX10_whose ho) h dX10_learnLoop_64 (fun h => ?_)
        refine s_aload0 C dX10_learnLoop_65 ?_
        refine gX10_76 C ho dX10_learnLoop_66 ?_
        refine s_iload2 C dX10_learnLoop_69 ?_
        refine s_iconst (v := 3) C (by decide) dX10_learnLoop_70 ?_
        refine s_iast C (qX10_ageAt ho) h dX10_learnLoop_71 (fun h => ?_)
        refine s_goto (tgt := 222) C dX10_learnLoop_72 (by decide) ?_
        exact s_vret C R h dX10_learnLoop_222
      · refine s_aload0 C dX10_learnLoop_39 ?_
        refine gX10_76 C ho dX10_learnLoop_40 ?_
        refine s_iload2 C dX10_learnLoop_43 ?_
        refine s_dup2 C rfl rfl dX10_learnLoop_44 ?_
        refine s_iald C (qX10_ageAt ho) h dX10_learnLoop_45 (fun h => ?_)
        refine s_iconst (v := 1) C (by decide) dX10_learnLoop_46 ?_
        refine s_isub C dX10_learnLoop_47 ?_
        refine s_iast C (qX10_ageAt ho) h dX10_learnLoop_48 (fun h => ?_)
        exact s_vret C R h dX10_learnLoop_49
    · exact s_vret C R h dX10_learnLoop_29
set_option maxRecDepth 4000 in
theorem bX10_learnCorrector_67 {E : En} {X : Xc} {d : Nat} {M' : Mem} (C : Cx E X d cX10_learnCorrector RX10 3) (R : Rt E X none none M') (hd : 2 ≤ d)   : ∀ (n : Nat) (o : Nat) (x1 : Int32) (x2 : Int32) (M : Mem) (_ : kd o = (10, 0)), fX10_learnCorrector_67  n o x1 x2 M = some M' → At E X 67 [some (.ref (ad E o)), some (.int x1), some (.int x2)] [] M := by
  intro n
  induction n with
  | zero => intro o x1 x2 M ho h; rw [fX10_learnCorrector_67] at h; cases h
  | succ n ih =>
    intro o x1 x2 M ho h
    rw [fX10_learnCorrector_67] at h
    refine s_iload2 C dX10_learnCorrector_67 ?_
    refine s_iconst (v := 3) C (by decide) dX10_learnCorrector_68 ?_
    refine s_ic_ge (tgt := 113) C h dX10_learnCorrector_69 (by decide) ⟨fun h => ?_, fun h => ?_⟩
    · exact s_vret C R h dX10_learnCorrector_113
    · refine s_aload0 C dX10_learnCorrector_72 ?_
      refine gX10_79 C ho dX10_learnCorrector_73 ?_
      refine s_aload0 C dX10_learnCorrector_76 ?_
      refine gX10_88 C ho dX10_learnCorrector_77 ?_
      refine s_iload2 C dX10_learnCorrector_80 ?_
      refine s_iald C (qX10_correctPlace ho) h dX10_learnCorrector_81 (fun h => ?_)
      refine s_aload0 C dX10_learnCorrector_82 ?_
      refine gX10_79 C ho dX10_learnCorrector_83 ?_
      refine s_aload0 C dX10_learnCorrector_86 ?_
      refine gX10_88 C ho dX10_learnCorrector_87 ?_
      refine s_iload2 C dX10_learnCorrector_90 ?_
      refine s_iald C (qX10_correctPlace ho) h dX10_learnCorrector_91 (fun h => ?_)
      refine s_iald C (qX10_correctAt ho) h dX10_learnCorrector_92 (fun h => ?_)
      refine s_iconst (v := 2) C (by decide) dX10_learnCorrector_93 ?_
      refine s_iload1 C dX10_learnCorrector_94 ?_
      refine s_imul C dX10_learnCorrector_95 ?_
      refine s_iadd C dX10_learnCorrector_96 ?_
      refine s_iconst (v := 1) C (by decide) dX10_learnCorrector_97 ?_
      refine s_isub C dX10_learnCorrector_98 ?_
      refine s_bipush (v := -8) C (by decide) dX10_learnCorrector_99 ?_
      refine s_bipush (v := 7) C (by decide) dX10_learnCorrector_101 ?_
      obtain ⟨r2, M1, hq, h⟩ := bI_e h
      refine s_callS (As := [.int (((M.1 (o + 22) (tn (M.1 (o + 25) (tn x2)))) + ((2 : Int32) * x1)) - (1 : Int32)), .int (-8 : Int32), .int (7 : Int32)]) (v := some (.int r2)) C rfl (by omega) wX10_431 rfl (Nat.le_of_ble_eq_true rfl) dX10_learnCorrector_103 (tX10_between C.2.2.2.2.2.2.1 (by omega)  hq) ?_
      refine s_iast C (qX10_correctAt ho) h dX10_learnCorrector_106 (fun h => ?_)
      refine s_iinc2 (v := 1) C rfl dX10_learnCorrector_107 (by decide) ?_
      refine s_goto (tgt := 67) C dX10_learnCorrector_110 (by decide) ?_
      exact ih _ _ _ _ ho h
set_option maxRecDepth 4000 in
theorem bX10_learnCorrector_65 {E : En} {X : Xc} {d : Nat} {M M' : Mem} {o : Nat} {x1 : Int32} (C : Cx E X d cX10_learnCorrector RX10 3) (R : Rt E X none none M') (hd : 2 ≤ d)   (ho : kd o = (10, 0)) (h : fX10_learnCorrector_65  o x1 M = some M') : At E X 65 [some (.ref (ad E o)), some (.int x1), none] [] M := by
  unfold fX10_learnCorrector_65 at h
  refine s_iconst (v := 0) C (by decide) dX10_learnCorrector_65 ?_
  refine s_istore2 C rfl dX10_learnCorrector_66 ?_
  exact bX10_learnCorrector_67 C R hd  LF _ _ _ _ ho h
set_option maxRecDepth 4000 in
theorem bX10_learnCorrector_44 {E : En} {X : Xc} {d : Nat} {M M' : Mem} {o : Nat} {x1 : Int32} (C : Cx E X d cX10_learnCorrector RX10 3) (R : Rt E X none none M') (hd : 2 ≤ d)   (ho : kd o = (10, 0)) (h : fX10_learnCorrector_44  o x1 M = some M') : At E X 44 [some (.ref (ad E o)), some (.int x1), none] [] M := by
  unfold fX10_learnCorrector_44 at h
  refine s_aload0 C dX10_learnCorrector_44 ?_
  refine gX10_410 C ho dX10_learnCorrector_45 ?_
  refine s_iload1 C dX10_learnCorrector_48 ?_
  refine s_ic_ne (tgt := 65) C h dX10_learnCorrector_49 (by decide) ⟨fun h => ?_, fun h => ?_⟩
  · exact bX10_learnCorrector_65 C R hd  ho h
  · refine s_aload0 C dX10_learnCorrector_52 ?_
    refine gX10_407 C ho dX10_learnCorrector_53 ?_
    refine s_abs C rfl (by omega) wX10_425 (Nat.le_of_ble_eq_true rfl) dX10_learnCorrector_56 ?_
    refine s_bipush (v := 12) C (by decide) dX10_learnCorrector_59 ?_
    refine s_ic_lt (tgt := 65) C h dX10_learnCorrector_61 (by decide) ⟨fun h => ?_, fun h => ?_⟩
    · exact bX10_learnCorrector_65 C R hd  ho h
    · exact s_vret C R h dX10_learnCorrector_64
set_option maxRecDepth 4000 in
theorem bX10_learnCorrector_35 {E : En} {X : Xc} {d : Nat} {M M' : Mem} {o : Nat} {x1 : Int32} {so0 : Nat} {sx1 : Int32} (C : Cx E X d cX10_learnCorrector RX10 3) (R : Rt E X none none M') (hd : 2 ≤ d)   (ho : kd o = (10, 0)) (hso0 : kd so0 = (10, 0)) (h : fX10_learnCorrector_35  o x1 so0 sx1 M = some M') : At E X 35 [some (.ref (ad E o)), some (.int x1), none] [.int sx1, .ref (ad E so0)] M := by
  unfold fX10_learnCorrector_35 at h
  refine s_iconst (v := 1) C (by decide) dX10_learnCorrector_35 ?_
  refine s_bipush (v := 15) C (by decide) dX10_learnCorrector_36 ?_
  obtain ⟨r2, M1, hq, h⟩ := bI_e h
  refine s_callS (As := [.int sx1, .int (1 : Int32), .int (15 : Int32)]) (v := some (.int r2)) C rfl (by omega) wX10_431 rfl (Nat.le_of_ble_eq_true rfl) dX10_learnCorrector_38 (tX10_between C.2.2.2.2.2.2.1 (by omega)  hq) ?_
  refine pX10_347 C hso0 dX10_learnCorrector_41 ?_
  exact bX10_learnCorrector_44 C R hd  ho h
set_option maxRecDepth 4000 in
theorem tX10_learnCorrector {l : Launch} {E : En} {A : Nat → Prop} {d : Nat} {M M' : Mem} {o : Nat} {x1 : Int32} (hE : Okk E A) (hd : 2 ≤ d) (ho : kd o = (10, 0)) (h : fX10_learnCorrector o x1 M = some M') : Ct l E A d yX10_learnCorrector cX10_learnCorrector 3 none [.ref (ad E o), .int x1] M none M' := by
  refine Ct.mk (ls := [some (.ref (ad E o)), some (.int x1), none]) hE (by decide +kernel) rfl (Nat.le_of_ble_eq_true rfl) (fun X hXl hXA C R => ?_)
  subst hXl; subst hXA
  unfold fX10_learnCorrector at h
  refine s_aload0 C dX10_learnCorrector_0 ?_
  refine gX10_410 C ho dX10_learnCorrector_1 ?_
  refine s_aload0 C dX10_learnCorrector_4 ?_
  refine gX10_402 C ho dX10_learnCorrector_5 ?_
  refine s_ic_eq (tgt := 44) C h dX10_learnCorrector_8 (by decide) ⟨fun h => ?_, fun h => ?_⟩
  · exact bX10_learnCorrector_44 C R hd  ho h
  · refine s_aload0 C dX10_learnCorrector_11 ?_
    refine s_aload0 C dX10_learnCorrector_12 ?_
    refine gX10_410 C ho dX10_learnCorrector_13 ?_
    refine s_iload1 C dX10_learnCorrector_16 ?_
    refine s_ic_ne (tgt := 29) C h dX10_learnCorrector_17 (by decide) ⟨fun h => ?_, fun h => ?_⟩
    · refine s_aload0 C dX10_learnCorrector_29 ?_
      refine gX10_347 C ho dX10_learnCorrector_30 ?_
      refine s_iconst (v := 1) C (by decide) dX10_learnCorrector_33 ?_
      refine s_iadd C dX10_learnCorrector_34 ?_
      exact bX10_learnCorrector_35 C R hd  ho ho h
    · refine s_aload0 C dX10_learnCorrector_20 ?_
      refine gX10_347 C ho dX10_learnCorrector_21 ?_
      refine s_iconst (v := 1) C (by decide) dX10_learnCorrector_24 ?_
      refine s_isub C dX10_learnCorrector_25 ?_
      refine s_goto (tgt := 35) C dX10_learnCorrector_26 (by decide) ?_
      exact bX10_learnCorrector_35 C R hd  ho ho h
