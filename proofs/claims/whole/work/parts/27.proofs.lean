set_option maxRecDepth 4000 in
theorem tX10_learnCount {l : Launch} {E : En} {A : Nat → Prop} {d : Nat} {M M' : Mem} {o : Nat} {x1 : Int32} {x2 : Int32} (hE : Okk E A) (hd : 2 ≤ d) (ho : kd o = (10, 0)) (h : fX10_learnCount o x1 x2 M = some M') : Ct l E A d yX10_learnCount cX10_learnCount 4 none [.ref (ad E o), .int x1, .int x2] M none M' := by
  refine Ct.mk (ls := [some (.ref (ad E o)), some (.int x1), some (.int x2), none]) hE (by decide +kernel) rfl (Nat.le_of_ble_eq_true rfl) (fun X hXl hXA C R => ?_)
  subst hXl; subst hXA
  unfold fX10_learnCount at h
  refine s_iconst (v := 2) C (by decide) dX10_learnCount_0 ?_
  refine s_iload2 C dX10_learnCount_1 ?_
  refine s_imul C dX10_learnCount_2 ?_
  refine s_iconst (v := 1) C (by decide) dX10_learnCount_3 ?_
  refine s_isub C dX10_learnCount_4 ?_
  refine s_istore3 C rfl dX10_learnCount_5 ?_
  refine s_iload1 C dX10_learnCount_6 ?_
  refine s_if_ne (tgt := 44) C h dX10_learnCount_7 (by decide) ⟨fun h => ?_, fun h => ?_⟩
  · refine s_aload0 C dX10_learnCount_44 ?_
    refine gX10_55 C ho dX10_learnCount_45 ?_
    refine s_aload0 C dX10_learnCount_48 ?_
    refine gX10_82 C ho dX10_learnCount_49 ?_
    refine s_iload1 C dX10_learnCount_52 ?_
    refine s_iald C (qX10_placeOf ho) h dX10_learnCount_53 (fun h => ?_)
    refine s_aload0 C dX10_learnCount_54 ?_
    refine gX10_55 C ho dX10_learnCount_55 ?_
    refine s_aload0 C dX10_learnCount_58 ?_
    refine gX10_82 C ho dX10_learnCount_59 ?_
    refine s_iload1 C dX10_learnCount_62 ?_
    refine s_iald C (qX10_placeOf ho) h dX10_learnCount_63 (fun h => ?_)
    refine s_iald C (qX10_countAt ho) h dX10_learnCount_64 (fun h => ?_)
    refine s_iload3 C dX10_learnCount_65 ?_
    refine s_iadd C dX10_learnCount_66 ?_
    refine s_bipush (v := -4) C (by decide) dX10_learnCount_67 ?_
    refine s_iconst (v := 3) C (by decide) dX10_learnCount_69 ?_
    obtain ⟨r2, M1, hq, h⟩ := bI_e h
    refine s_callS (As := [.int ((M.1 (o + 14) (tn (M.1 (o + 23) (tn x1)))) + (((2 : Int32) * x2) - (1 : Int32))), .int (-4 : Int32), .int (3 : Int32)]) (v := some (.int r2)) C rfl (by omega) wX10_431 rfl (Nat.le_of_ble_eq_true rfl) dX10_learnCount_70 (tX10_between C.2.2.2.2.2.2.1 (by omega)  hq) ?_
    refine s_iast C (qX10_countAt ho) h dX10_learnCount_73 (fun h => ?_)
    exact s_vret C R h dX10_learnCount_74
  · refine s_aload0 C dX10_learnCount_10 ?_
    refine gX10_61 C ho dX10_learnCount_11 ?_
    refine s_aload0 C dX10_learnCount_14 ?_
    refine gX10_363 C ho dX10_learnCount_15 ?_
    refine s_bipush (v := 16) C (by decide) dX10_learnCount_18 ?_
    refine s_iremc C (by decide) dX10_learnCount_20 ?_
    refine s_aload0 C dX10_learnCount_21 ?_
    refine gX10_61 C ho dX10_learnCount_22 ?_
    refine s_aload0 C dX10_learnCount_25 ?_
    refine gX10_363 C ho dX10_learnCount_26 ?_
    refine s_bipush (v := 16) C (by decide) dX10_learnCount_29 ?_
    refine s_iremc C (by decide) dX10_learnCount_31 ?_
    refine s_iald C (qX10_baseAt ho) h dX10_learnCount_32 (fun h => ?_)
    refine s_iload3 C dX10_learnCount_33 ?_
    refine s_iadd C dX10_learnCount_34 ?_
    refine s_iconst (v := 0) C (by decide) dX10_learnCount_35 ?_
    refine s_iconst (v := 3) C (by decide) dX10_learnCount_36 ?_
    obtain ⟨r4, M3, hq, h⟩ := bI_e h
    refine s_callS (As := [.int ((M.1 (o + 16) (tn (irm (M.1 o 44) (16 : Int32)))) + (((2 : Int32) * x2) - (1 : Int32))), .int (0 : Int32), .int (3 : Int32)]) (v := some (.int r4)) C rfl (by omega) wX10_431 rfl (Nat.le_of_ble_eq_true rfl) dX10_learnCount_37 (tX10_between C.2.2.2.2.2.2.1 (by omega)  hq) ?_
    refine s_iast C (qX10_baseAt ho) h dX10_learnCount_40 (fun h => ?_)
    refine s_goto (tgt := 74) C dX10_learnCount_41 (by decide) ?_
    exact s_vret C R h dX10_learnCount_74
set_option maxRecDepth 4000 in
theorem bX10_halve_2 {E : En} {X : Xc} {d : Nat} {M' : Mem} (C : Cx E X d cX10_halve RX10 2) (R : Rt E X none none M') (hd : 0 ≤ d)   : ∀ (n : Nat) (o : Nat) (x1 : Int32) (M : Mem) (_ : kd o = (10, 0)), fX10_halve_2  n o x1 M = some M' → At E X 2 [some (.ref (ad E o)), some (.int x1)] [] M := by
  intro n
  induction n with
  | zero => intro o x1 M ho h; rw [fX10_halve_2] at h; cases h
  | succ n ih =>
    intro o x1 M ho h
    rw [fX10_halve_2] at h
    refine s_iload1 C dX10_halve_2 ?_
    refine s_bipush (v := 80) C (by decide) dX10_halve_3 ?_
    refine s_ic_ge (tgt := 24) C h dX10_halve_5 (by decide) ⟨fun h => ?_, fun h => ?_⟩
    · refine s_aload0 C dX10_halve_24 ?_
      refine s_iconst (v := 0) C (by decide) dX10_halve_25 ?_
      refine pX10_344 C ho dX10_halve_26 ?_
      refine s_aload0 C dX10_halve_29 ?_
      refine s_dup C rfl dX10_halve_30 ?_
      refine gX10_350 C ho dX10_halve_31 ?_
      refine s_iconst (v := 1) C (by decide) dX10_halve_34 ?_
      refine s_iadd C dX10_halve_35 ?_
      refine pX10_350 C ho dX10_halve_36 ?_
      exact s_vret C R h dX10_halve_39
    · refine s_aload0 C dX10_halve_8 ?_
      refine gX10_58 C ho dX10_halve_9 ?_
      refine s_iload1 C dX10_halve_12 ?_
      refine s_dup2 C rfl rfl dX10_halve_13 ?_
      refine s_iald C (qX10_useAt ho) h dX10_halve_14 (fun h => ?_)
      refine s_iconst (v := 2) C (by decide) dX10_halve_15 ?_
      refine s_idivc C (by decide) dX10_halve_16 ?_
      refine s_iast C (qX10_useAt ho) h dX10_halve_17 (fun h => ?_)
      refine s_iinc1 (v := 1) C rfl dX10_halve_18 (by decide) ?_
      refine s_goto (tgt := 2) C dX10_halve_21 (by decide) ?_
      exact ih _ _ _ ho h
set_option maxRecDepth 4000 in
theorem tX10_halve {l : Launch} {E : En} {A : Nat → Prop} {d : Nat} {M M' : Mem} {o : Nat} (hE : Okk E A) (hd : 0 ≤ d) (ho : kd o = (10, 0)) (h : fX10_halve o M = some M') : Ct l E A d yX10_halve cX10_halve 2 none [.ref (ad E o)] M none M' := by
  refine Ct.mk (ls := [some (.ref (ad E o)), none]) hE (by decide +kernel) rfl (Nat.le_of_ble_eq_true rfl) (fun X hXl hXA C R => ?_)
  subst hXl; subst hXA
  unfold fX10_halve at h
  refine s_iconst (v := 0) C (by decide) dX10_halve_0 ?_
  refine s_istore1 C rfl dX10_halve_1 ?_
  exact bX10_halve_2 C R hd  LF _ _ _ ho h
set_option maxRecDepth 4000 in
theorem bX10_takeRow_144 {E : En} {X : Xc} {d : Nat} {M M' : Mem} {o : Nat} {x3 : Int32} (C : Cx E X d cX10_takeRow RX10 5) (R : Rt E X none none M') (hd : 1 ≤ d) {k113 : Nat → Int32 → Mem → Option (Mem)} (hk113 : ∀ (o : Nat) (x3 : Int32) (M : Mem) (_ : kd o = (10, 0)), k113 o x3 M = some M' → At E X 113 [some (.ref (ad E o)), none, none, some (.int x3), none] [] M) (ho : kd o = (10, 0)) (h : fX10_takeRow_144 k113 o x3 M = some M') : At E X 144 [some (.ref (ad E o)), none, none, some (.int x3), none] [] M := by
  unfold fX10_takeRow_144 at h
  refine s_iinc3 (v := 1) C rfl dX10_takeRow_144 (by decide) ?_
  refine s_goto (tgt := 113) C dX10_takeRow_147 (by decide) ?_
  exact hk113 _ _ _ ho h
set_option maxRecDepth 4000 in
theorem bX10_takeRow_113 {E : En} {X : Xc} {d : Nat} {M' : Mem} (C : Cx E X d cX10_takeRow RX10 5) (R : Rt E X none none M') (hd : 1 ≤ d)   : ∀ (n : Nat) (o : Nat) (x3 : Int32) (M : Mem) (_ : kd o = (10, 0)), fX10_takeRow_113  n o x3 M = some M' → At E X 113 [some (.ref (ad E o)), none, none, some (.int x3), none] [] M := by
  intro n
  induction n with
  | zero => intro o x3 M ho h; rw [fX10_takeRow_113] at h; cases h
  | succ n ih =>
    intro o x3 M ho h
    rw [fX10_takeRow_113] at h
    refine s_iload3 C dX10_takeRow_113 ?_
    refine s_aload0 C dX10_takeRow_114 ?_
    obtain ⟨r2, M1, hq, h⟩ := bI_e h
    refine s_callV (T := TX10) (As := []) (v := some (.int r2)) C rfl ho (by decide) rfl (by omega) wX10_335 rfl (Nat.le_of_ble_eq_true rfl) dX10_takeRow_115 (tX10_tables C.2.2.2.2.2.2.1 (by omega) ho hq) ?_
    refine s_ic_gt (tgt := 150) C h dX10_takeRow_118 (by decide) ⟨fun h => ?_, fun h => ?_⟩
    · refine s_aload0 C dX10_takeRow_150 ?_
      refine s_dup C rfl dX10_takeRow_151 ?_
      refine gX10_344 C ho dX10_takeRow_152 ?_
      refine s_iconst (v := 1) C (by decide) dX10_takeRow_155 ?_
      refine s_iadd C dX10_takeRow_156 ?_
      refine pX10_344 C ho dX10_takeRow_157 ?_
      refine s_aload0 C dX10_takeRow_160 ?_
      refine gX10_344 C ho dX10_takeRow_161 ?_
      refine s_aload0 C dX10_takeRow_164 ?_
      refine gX10_9 C ho dX10_takeRow_165 ?_
      refine s_iconst (v := 2) C (by decide) dX10_takeRow_168 ?_
      refine s_iald C (qX10_world ho) h dX10_takeRow_169 (fun h => ?_)
      refine s_ic_ne (tgt := 177) C h dX10_takeRow_170 (by decide) ⟨fun h => ?_, fun h => ?_⟩
      · exact s_vret C R h dX10_takeRow_177
      · refine s_aload0 C dX10_takeRow_173 ?_
        obtain ⟨M3, hq, h⟩ := bV_e h
        refine s_callV (T := TX10) (As := []) (v := none) C rfl ho (by decide) rfl (by omega) wX10_435 rfl (Nat.le_of_ble_eq_true rfl) dX10_takeRow_174 (tX10_halve C.2.2.2.2.2.2.1 (by omega) ho hq) ?_
        exact s_vret C R h dX10_takeRow_177
    · refine s_iload3 C dX10_takeRow_121 ?_
      refine s_aload0 C dX10_takeRow_122 ?_
      refine gX10_332 C ho dX10_takeRow_123 ?_
      refine s_ic_eq (tgt := 144) C h dX10_takeRow_126 (by decide) ⟨fun h => ?_, fun h => ?_⟩
      · exact bX10_takeRow_144 C R hd (ih) ho h
      · refine s_aload0 C dX10_takeRow_129 ?_
        refine gX10_58 C ho dX10_takeRow_130 ?_
        refine s_aload0 C dX10_takeRow_133 ?_
        refine gX10_82 C ho dX10_takeRow_134 ?_
        refine s_iload3 C dX10_takeRow_137 ?_
        refine s_iald C (qX10_placeOf ho) h dX10_takeRow_138 (fun h => ?_)
        refine s_dup2 C rfl rfl dX10_takeRow_139 ?_
        refine s_iald C (qX10_useAt ho) h dX10_takeRow_140 (fun h => ?_)
        refine s_iconst (v := 1) C (by decide) dX10_takeRow_141 ?_
        refine s_isub C dX10_takeRow_142 ?_
        refine s_iast C (qX10_useAt ho) h dX10_takeRow_143 (fun h => ?_)
        exact bX10_takeRow_144 C R hd (ih) ho h
set_option maxRecDepth 4000 in
theorem bX10_takeRow_63 {E : En} {X : Xc} {d : Nat} {M M' : Mem} {o : Nat} {x1 : Int32} {x3 : Int32} {x4 : Int32} (C : Cx E X d cX10_takeRow RX10 5) (R : Rt E X none none M') (hd : 1 ≤ d)   (ho : kd o = (10, 0)) (h : fX10_takeRow_63  o x1 x3 x4 M = some M') : At E X 63 [some (.ref (ad E o)), some (.int x1), none, some (.int x3), some (.int x4)] [] M := by
  unfold fX10_takeRow_63 at h
  refine s_aload0 C dX10_takeRow_63 ?_
  refine gX10_52 C ho dX10_takeRow_64 ?_
  refine s_iload4 C dX10_takeRow_67 ?_
  refine s_aload0 C dX10_takeRow_69 ?_
  refine gX10_85 C ho dX10_takeRow_70 ?_
  refine s_iload3 C dX10_takeRow_73 ?_
  refine s_iald C (qX10_markOf ho) h dX10_takeRow_74 (fun h => ?_)
  refine s_iast C (qX10_tagAt ho) h dX10_takeRow_75 (fun h => ?_)
  refine s_aload0 C dX10_takeRow_76 ?_
  refine gX10_55 C ho dX10_takeRow_77 ?_
  refine s_iload4 C dX10_takeRow_80 ?_
  refine s_iload1 C dX10_takeRow_82 ?_
  refine s_iconst (v := 1) C (by decide) dX10_takeRow_83 ?_
  refine s_isub C dX10_takeRow_84 ?_
  refine s_iast C (qX10_countAt ho) h dX10_takeRow_85 (fun h => ?_)
  refine s_aload0 C dX10_takeRow_86 ?_
  refine gX10_58 C ho dX10_takeRow_87 ?_
  refine s_iload4 C dX10_takeRow_90 ?_
  refine s_iconst (v := 0) C (by decide) dX10_takeRow_92 ?_
  refine s_iast C (qX10_useAt ho) h dX10_takeRow_93 (fun h => ?_)
  exact s_vret C R h dX10_takeRow_94
set_option maxRecDepth 4000 in
theorem bX10_takeRow_95 {E : En} {X : Xc} {d : Nat} {M M' : Mem} {o : Nat} {x1 : Int32} {x2 : Int32} {x3 : Int32} (C : Cx E X d cX10_takeRow RX10 5) (R : Rt E X none none M') (hd : 1 ≤ d) {k9 : Nat → Int32 → Int32 → Int32 → Mem → Option (Mem)} (hk9 : ∀ (o : Nat) (x1 : Int32) (x2 : Int32) (x3 : Int32) (M : Mem) (_ : kd o = (10, 0)), k9 o x1 x2 x3 M = some M' → At E X 9 [some (.ref (ad E o)), some (.int x1), some (.int x2), some (.int x3), none] [] M) (ho : kd o = (10, 0)) (h : fX10_takeRow_95 k9 o x1 x2 x3 M = some M') : At E X 95 [some (.ref (ad E o)), some (.int x1), some (.int x2), some (.int x3), none] [] M := by
  unfold fX10_takeRow_95 at h
  refine s_iinc3 (v := 1) C rfl dX10_takeRow_95 (by decide) ?_
  refine s_goto (tgt := 9) C dX10_takeRow_98 (by decide) ?_
  exact hk9 _ _ _ _ _ ho h
set_option maxRecDepth 4000 in
theorem bX10_takeRow_9 {E : En} {X : Xc} {d : Nat} {M' : Mem} (C : Cx E X d cX10_takeRow RX10 5) (R : Rt E X none none M') (hd : 1 ≤ d)   : ∀ (n : Nat) (o : Nat) (x1 : Int32) (x2 : Int32) (x3 : Int32) (M : Mem) (_ : kd o = (10, 0)), fX10_takeRow_9  n o x1 x2 x3 M = some M' → At E X 9 [some (.ref (ad E o)), some (.int x1), some (.int x2), some (.int x3), none] [] M := by
  intro n
  induction n with
  | zero => intro o x1 x2 x3 M ho h; rw [fX10_takeRow_9] at h; cases h
  | succ n ih =>
    intro o x1 x2 x3 M ho h
    rw [fX10_takeRow_9] at h
    refine s_iload3 C dX10_takeRow_9 ?_
    refine s_aload0 C dX10_takeRow_10 ?_
    obtain ⟨r2, M1, hq, h⟩ := bI_e h
    refine s_callV (T := TX10) (As := []) (v := some (.int r2)) C rfl ho (by decide) rfl (by omega) wX10_335 rfl (Nat.le_of_ble_eq_true rfl) dX10_takeRow_11 (tX10_tables C.2.2.2.2.2.2.1 (by omega) ho hq) ?_
    refine s_ic_gt (tgt := 101) C h dX10_takeRow_14 (by decide) ⟨fun h => ?_, fun h => ?_⟩
    · refine s_iload2 C dX10_takeRow_101 ?_
      refine s_if_ne (tgt := 106) C h dX10_takeRow_102 (by decide) ⟨fun h => ?_, fun h => ?_⟩
      · refine s_aload0 C dX10_takeRow_106 ?_
        refine gX10_378 C ho dX10_takeRow_107 ?_
        refine s_iconst (v := 1) C (by decide) dX10_takeRow_110 ?_
        refine s_iadd C dX10_takeRow_111 ?_
        refine s_istore3 C rfl dX10_takeRow_112 ?_
        refine s_fg 1 ?_
        refine s_fg 2 ?_
        exact bX10_takeRow_113 C R hd  LF _ _ _ ho h
      · exact s_vret C R h dX10_takeRow_105
    · refine s_iload3 C dX10_takeRow_17 ?_
      refine s_aload0 C dX10_takeRow_18 ?_
      refine gX10_332 C ho dX10_takeRow_19 ?_
      refine s_ic_ne (tgt := 28) C h dX10_takeRow_22 (by decide) ⟨fun h => ?_, fun h => ?_⟩
      · refine s_iinc2 (v := 1) C rfl dX10_takeRow_28 (by decide) ?_
        refine s_aload0 C dX10_takeRow_31 ?_
        refine gX10_82 C ho dX10_takeRow_32 ?_
        refine s_iload3 C dX10_takeRow_35 ?_
        refine s_iald C (qX10_placeOf ho) h dX10_takeRow_36 (fun h => ?_)
        refine s_istore4 C rfl dX10_takeRow_37 ?_
        refine s_aload0 C dX10_takeRow_39 ?_
        refine gX10_52 C ho dX10_takeRow_40 ?_
        refine s_iload4 C dX10_takeRow_43 ?_
        refine s_iald C (qX10_tagAt ho) h dX10_takeRow_45 (fun h => ?_)
        refine s_iconst (v := -1) C (by decide) dX10_takeRow_46 ?_
        refine s_ic_eq (tgt := 63) C h dX10_takeRow_47 (by decide) ⟨fun h => ?_, fun h => ?_⟩
        · refine s_fg 2 ?_
          exact bX10_takeRow_63 C R hd  ho h
        · refine s_aload0 C dX10_takeRow_50 ?_
          refine gX10_58 C ho dX10_takeRow_51 ?_
          refine s_iload4 C dX10_takeRow_54 ?_
          refine s_iald C (qX10_useAt ho) h dX10_takeRow_56 (fun h => ?_)
          refine s_if_le (tgt := 63) C h dX10_takeRow_57 (by decide) ⟨fun h => ?_, fun h => ?_⟩
          · refine s_fg 2 ?_
            exact bX10_takeRow_63 C R hd  ho h
          · refine s_goto (tgt := 95) C dX10_takeRow_60 (by decide) ?_
            refine s_fg 4 ?_
            exact bX10_takeRow_95 C R hd (ih) ho h
      · refine s_goto (tgt := 95) C dX10_takeRow_25 (by decide) ?_
        exact bX10_takeRow_95 C R hd (ih) ho h
set_option maxRecDepth 4000 in
theorem tX10_takeRow {l : Launch} {E : En} {A : Nat → Prop} {d : Nat} {M M' : Mem} {o : Nat} {x1 : Int32} (hE : Okk E A) (hd : 1 ≤ d) (ho : kd o = (10, 0)) (h : fX10_takeRow o x1 M = some M') : Ct l E A d yX10_takeRow cX10_takeRow 5 none [.ref (ad E o), .int x1] M none M' := by
  refine Ct.mk (ls := [some (.ref (ad E o)), some (.int x1), none, none, none]) hE (by decide +kernel) rfl (Nat.le_of_ble_eq_true rfl) (fun X hXl hXA C R => ?_)
  subst hXl; subst hXA
  unfold fX10_takeRow at h
  refine s_iconst (v := 0) C (by decide) dX10_takeRow_0 ?_
  refine s_istore2 C rfl dX10_takeRow_1 ?_
  refine s_aload0 C dX10_takeRow_2 ?_
  refine gX10_378 C ho dX10_takeRow_3 ?_
  refine s_iconst (v := 1) C (by decide) dX10_takeRow_6 ?_
  refine s_iadd C dX10_takeRow_7 ?_
  refine s_istore3 C rfl dX10_takeRow_8 ?_
  exact bX10_takeRow_9 C R hd  LF _ _ _ _ _ ho h
set_option maxRecDepth 4000 in
theorem bX10_learn_192 {E : En} {X : Xc} {d : Nat} {M M' : Mem} {o : Nat} {x1 : Int32} (C : Cx E X d cX10_learn RX10 4) (R : Rt E X none none M') (hd : 3 ≤ d)   (ho : kd o = (10, 0)) (h : fX10_learn_192  o x1 M = some M') : At E X 192 [some (.ref (ad E o)), some (.int x1), none, none] [] M := by
  unfold fX10_learn_192 at h
  refine s_aload0 C dX10_learn_192 ?_
  refine s_aload0 C dX10_learn_193 ?_
  refine gX10_353 C ho dX10_learn_194 ?_
  refine s_iconst (v := 1) C (by decide) dX10_learn_197 ?_
  refine s_lshl C dX10_learn_198 ?_
  refine s_iload1 C dX10_learn_199 ?_
  refine s_i2l C dX10_learn_200 ?_
  refine s_lor C dX10_learn_201 ?_
  refine s_ldc2 (v := 1099511627775) C k_1745 dX10_learn_202 ?_
  refine s_land C dX10_learn_205 ?_
  refine pX10_353 C ho dX10_learn_206 ?_
  exact s_vret C R h dX10_learn_209
set_option maxRecDepth 4000 in
theorem bX10_learn_179 {E : En} {X : Xc} {d : Nat} {M M' : Mem} {o : Nat} {x1 : Int32} (C : Cx E X d cX10_learn RX10 4) (R : Rt E X none none M') (hd : 3 ≤ d)   (ho : kd o = (10, 0)) (h : fX10_learn_179  o x1 M = some M') : At E X 179 [some (.ref (ad E o)), some (.int x1), none, none] [] M := by
  unfold fX10_learn_179 at h
  refine s_aload0 C dX10_learn_179 ?_
  refine gX10_402 C ho dX10_learn_180 ?_
  refine s_iload1 C dX10_learn_183 ?_
  refine s_ic_eq (tgt := 192) C h dX10_learn_184 (by decide) ⟨fun h => ?_, fun h => ?_⟩
  · exact bX10_learn_192 C R hd  ho h
  · refine s_aload0 C dX10_learn_187 ?_
    refine s_iload1 C dX10_learn_188 ?_
    obtain ⟨M1, hq, h⟩ := bV_e h
    refine s_callV (T := TX10) (As := [.int x1]) (v := none) C rfl ho (by decide) rfl (by omega) wX10_448 rfl (Nat.le_of_ble_eq_true rfl) dX10_learn_189 (tX10_takeRow C.2.2.2.2.2.2.1 (by omega) ho hq) ?_
    exact bX10_learn_192 C R hd  ho h
set_option maxRecDepth 4000 in
theorem bX10_learn_154 {E : En} {X : Xc} {d : Nat} {M M' : Mem} {o : Nat} {x1 : Int32} (C : Cx E X d cX10_learn RX10 4) (R : Rt E X none none M') (hd : 3 ≤ d)   (ho : kd o = (10, 0)) (h : fX10_learn_154  o x1 M = some M') : At E X 154 [some (.ref (ad E o)), some (.int x1), none, none] [] M := by
  unfold fX10_learn_154 at h
  refine s_aload0 C dX10_learn_154 ?_
  refine s_aload0 C dX10_learn_155 ?_
  refine gX10_378 C ho dX10_learn_156 ?_
  refine s_iload1 C dX10_learn_159 ?_
  obtain ⟨M1, hq, h⟩ := bV_e h
  refine s_callV (T := TX10) (As := [.int (M.1 o 45), .int x1]) (v := none) C rfl ho (by decide) rfl (by omega) wX10_444 rfl (Nat.le_of_ble_eq_true rfl) dX10_learn_160 (tX10_learnCount C.2.2.2.2.2.2.1 (by omega) ho hq) ?_
  refine s_aload0 C dX10_learn_163 ?_
  refine gX10_395 C ho dX10_learn_164 ?_
  refine s_if_eq (tgt := 179) C h dX10_learn_167 (by decide) ⟨fun h => ?_, fun h => ?_⟩
  · exact bX10_learn_179 C R hd  ho h
  · refine s_aload0 C dX10_learn_170 ?_
    refine s_aload0 C dX10_learn_171 ?_
    refine gX10_381 C ho dX10_learn_172 ?_
    refine s_iload1 C dX10_learn_175 ?_
    obtain ⟨M2, hq, h⟩ := bV_e h
    refine s_callV (T := TX10) (As := [.int (M1.1 o 46), .int x1]) (v := none) C rfl ho (by decide) rfl (by omega) wX10_444 rfl (Nat.le_of_ble_eq_true rfl) dX10_learn_176 (tX10_learnCount C.2.2.2.2.2.2.1 (by omega) ho hq) ?_
    exact bX10_learn_179 C R hd  ho h
set_option maxRecDepth 4000 in
theorem bX10_learn_148 {E : En} {X : Xc} {d : Nat} {M M' : Mem} {o : Nat} {x1 : Int32} {sc0 : Nat} {sx1 : Int32} {sx2 : Int32} (C : Cx E X d cX10_learn RX10 4) (R : Rt E X none none M') (hd : 3 ≤ d)   (ho : kd o = (10, 0)) (hsc0 : kd sc0 = (20, 80)) (h : fX10_learn_148  o x1 sc0 sx1 sx2 M = some M') : At E X 148 [some (.ref (ad E o)), some (.int x1), none, none] [.int sx2, .int sx1, .ref (ad E sc0)] M := by
  unfold fX10_learn_148 at h
  refine s_iconst (v := 0) C (by decide) dX10_learn_148 ?_
  refine s_iconst (v := 3) C (by decide) dX10_learn_149 ?_
  obtain ⟨r2, M1, hq, h⟩ := bI_e h
  refine s_callS (As := [.int sx2, .int (0 : Int32), .int (3 : Int32)]) (v := some (.int r2)) C rfl (by omega) wX10_431 rfl (Nat.le_of_ble_eq_true rfl) dX10_learn_150 (tX10_between C.2.2.2.2.2.2.1 (by omega)  hq) ?_
  refine s_iast C hsc0 h dX10_learn_153 (fun h => ?_)
  exact bX10_learn_154 C R hd  ho h
set_option maxRecDepth 4000 in
theorem bX10_learn_95 {E : En} {X : Xc} {d : Nat} {M M' : Mem} {o : Nat} {x1 : Int32} {x2 : Int32} (C : Cx E X d cX10_learn RX10 4) (R : Rt E X none none M') (hd : 3 ≤ d)   (ho : kd o = (10, 0)) (h : fX10_learn_95  o x1 x2 M = some M') : At E X 95 [some (.ref (ad E o)), some (.int x1), some (.int x2), none] [] M := by
  unfold fX10_learn_95 at h
  refine s_aload0 C dX10_learn_95 ?_
  refine gX10_82 C ho dX10_learn_96 ?_
  refine s_aload0 C dX10_learn_99 ?_
  refine gX10_378 C ho dX10_learn_100 ?_
  refine s_iald C (qX10_placeOf ho) h dX10_learn_103 (fun h => ?_)
  refine s_istore3 C rfl dX10_learn_104 ?_
  refine s_aload0 C dX10_learn_105 ?_
  refine gX10_378 C ho dX10_learn_106 ?_
  refine s_if_le (tgt := 154) C h dX10_learn_109 (by decide) ⟨fun h => ?_, fun h => ?_⟩
  · refine s_fg 2 ?_
    refine s_fg 3 ?_
    exact bX10_learn_154 C R hd  ho h
  · refine s_iload2 C dX10_learn_112 ?_
    refine s_if_eq (tgt := 154) C h dX10_learn_113 (by decide) ⟨fun h => ?_, fun h => ?_⟩
    · refine s_fg 2 ?_
      refine s_fg 3 ?_
      exact bX10_learn_154 C R hd  ho h
    · refine s_aload0 C dX10_learn_116 ?_
      refine gX10_58 C ho dX10_learn_117 ?_
      refine s_iload3 C dX10_learn_120 ?_
      refine s_aload0 C dX10_learn_121 ?_
      refine gX10_387 C ho dX10_learn_122 ?_
      refine s_iload1 C dX10_learn_125 ?_
      refine s_ic_ne (tgt := 140) C h dX10_learn_126 (by decide) ⟨fun h => ?_, fun h => ?_⟩
      · refine s_aload0 C dX10_learn_140 ?_
        refine gX10_58 C ho dX10_learn_141 ?_
        refine s_iload3 C dX10_learn_144 ?_
        refine s_iald C (qX10_useAt ho) h dX10_learn_145 (fun h => ?_)
        refine s_iconst (v := 1) C (by decide) dX10_learn_146 ?_
        refine s_isub C dX10_learn_147 ?_
        refine s_fg 2 ?_
        refine s_fg 3 ?_
        exact bX10_learn_148 C R hd  ho (qX10_useAt ho) h
      · refine s_aload0 C dX10_learn_129 ?_
        refine gX10_58 C ho dX10_learn_130 ?_
        refine s_iload3 C dX10_learn_133 ?_
        refine s_iald C (qX10_useAt ho) h dX10_learn_134 (fun h => ?_)
        refine s_iconst (v := 1) C (by decide) dX10_learn_135 ?_
        refine s_iadd C dX10_learn_136 ?_
        refine s_goto (tgt := 148) C dX10_learn_137 (by decide) ?_
        refine s_fg 2 ?_
        refine s_fg 3 ?_
        exact bX10_learn_148 C R hd  ho (qX10_useAt ho) h
set_option maxRecDepth 4000 in
theorem bX10_learn_86 {E : En} {X : Xc} {d : Nat} {M M' : Mem} {o : Nat} {x1 : Int32} {x2 : Int32} {so0 : Nat} {sx1 : Int32} (C : Cx E X d cX10_learn RX10 4) (R : Rt E X none none M') (hd : 3 ≤ d)   (ho : kd o = (10, 0)) (hso0 : kd so0 = (10, 0)) (h : fX10_learn_86  o x1 x2 so0 sx1 M = some M') : At E X 86 [some (.ref (ad E o)), some (.int x1), some (.int x2), none] [.int sx1, .ref (ad E so0)] M := by
  unfold fX10_learn_86 at h
  refine s_iconst (v := 0) C (by decide) dX10_learn_86 ?_
  refine s_bipush (v := 15) C (by decide) dX10_learn_87 ?_
  obtain ⟨r2, M1, hq, h⟩ := bI_e h
  refine s_callS (As := [.int sx1, .int (0 : Int32), .int (15 : Int32)]) (v := some (.int r2)) C rfl (by omega) wX10_431 rfl (Nat.le_of_ble_eq_true rfl) dX10_learn_89 (tX10_between C.2.2.2.2.2.2.1 (by omega)  hq) ?_
  refine pX10_341 C hso0 dX10_learn_92 ?_
  exact bX10_learn_95 C R hd  ho h
set_option maxRecDepth 4000 in
theorem bX10_learn_42 {E : En} {X : Xc} {d : Nat} {M M' : Mem} {o : Nat} {x1 : Int32} {sx0 : Int32} (C : Cx E X d cX10_learn RX10 4) (R : Rt E X none none M') (hd : 3 ≤ d)   (ho : kd o = (10, 0)) (h : fX10_learn_42  o x1 sx0 M = some M') : At E X 42 [some (.ref (ad E o)), some (.int x1), none, none] [.int sx0] M := by
  unfold fX10_learn_42 at h
  refine s_istore2 C rfl dX10_learn_42 ?_
  refine s_aload0 C dX10_learn_43 ?_
  refine s_iconst (v := 4) C (by decide) dX10_learn_44 ?_
  obtain ⟨r2, M1, hq, h⟩ := bI_e h
  refine s_callV (T := TX10) (As := [.int (4 : Int32)]) (v := some (.int r2)) C rfl ho (by decide) rfl (by omega) wX10_399 rfl (Nat.le_of_ble_eq_true rfl) dX10_learn_45 (tX10_has C.2.2.2.2.2.2.1 (by omega) ho hq) ?_
  refine s_if_eq (tgt := 95) C h dX10_learn_48 (by decide) ⟨fun h => ?_, fun h => ?_⟩
  · exact bX10_learn_95 C R hd  ho h
  · refine s_aload0 C dX10_learn_51 ?_
    refine gX10_395 C ho dX10_learn_52 ?_
    refine s_if_eq (tgt := 95) C h dX10_learn_55 (by decide) ⟨fun h => ?_, fun h => ?_⟩
    · exact bX10_learn_95 C R hd  ho h
    · refine s_iload2 C dX10_learn_58 ?_
      refine s_if_eq (tgt := 95) C h dX10_learn_59 (by decide) ⟨fun h => ?_, fun h => ?_⟩
      · exact bX10_learn_95 C R hd  ho h
      · refine s_aload0 C dX10_learn_62 ?_
        refine s_aload0 C dX10_learn_63 ?_
        refine gX10_390 C ho dX10_learn_64 ?_
        refine s_iload1 C dX10_learn_67 ?_
        refine s_ic_ne (tgt := 80) C h dX10_learn_68 (by decide) ⟨fun h => ?_, fun h => ?_⟩
        · refine s_aload0 C dX10_learn_80 ?_
          refine gX10_341 C ho dX10_learn_81 ?_
          refine s_iconst (v := 1) C (by decide) dX10_learn_84 ?_
          refine s_isub C dX10_learn_85 ?_
          exact bX10_learn_86 C R hd  ho ho h
        · refine s_aload0 C dX10_learn_71 ?_
          refine gX10_341 C ho dX10_learn_72 ?_
          refine s_iconst (v := 1) C (by decide) dX10_learn_75 ?_
          refine s_iadd C dX10_learn_76 ?_
          refine s_goto (tgt := 86) C dX10_learn_77 (by decide) ?_
          exact bX10_learn_86 C R hd  ho ho h
set_option maxRecDepth 4000 in
theorem bX10_learn_26 {E : En} {X : Xc} {d : Nat} {M M' : Mem} {o : Nat} {x1 : Int32} (C : Cx E X d cX10_learn RX10 4) (R : Rt E X none none M') (hd : 3 ≤ d)   (ho : kd o = (10, 0)) (h : fX10_learn_26  o x1 M = some M') : At E X 26 [some (.ref (ad E o)), some (.int x1), none, none] [] M := by
  unfold fX10_learn_26 at h
  refine s_aload0 C dX10_learn_26 ?_
  refine gX10_387 C ho dX10_learn_27 ?_
  refine s_aload0 C dX10_learn_30 ?_
  refine gX10_390 C ho dX10_learn_31 ?_
  refine s_ic_eq (tgt := 41) C h dX10_learn_34 (by decide) ⟨fun h => ?_, fun h => ?_⟩
  · refine s_iconst (v := 0) C (by decide) dX10_learn_41 ?_
    exact bX10_learn_42 C R hd  ho h
  · refine s_iconst (v := 1) C (by decide) dX10_learn_37 ?_
    refine s_goto (tgt := 42) C dX10_learn_38 (by decide) ?_
    exact bX10_learn_42 C R hd  ho h
set_option maxRecDepth 4000 in
theorem bX10_learn_13 {E : En} {X : Xc} {d : Nat} {M M' : Mem} {o : Nat} {x1 : Int32} (C : Cx E X d cX10_learn RX10 4) (R : Rt E X none none M') (hd : 3 ≤ d)   (ho : kd o = (10, 0)) (h : fX10_learn_13  o x1 M = some M') : At E X 13 [some (.ref (ad E o)), some (.int x1), none, none] [] M := by
  unfold fX10_learn_13 at h
  refine s_aload0 C dX10_learn_13 ?_
  refine s_iconst (v := 2) C (by decide) dX10_learn_14 ?_
  obtain ⟨r2, M1, hq, h⟩ := bI_e h
  refine s_callV (T := TX10) (As := [.int (2 : Int32)]) (v := some (.int r2)) C rfl ho (by decide) rfl (by omega) wX10_399 rfl (Nat.le_of_ble_eq_true rfl) dX10_learn_15 (tX10_has C.2.2.2.2.2.2.1 (by omega) ho hq) ?_
  refine s_if_eq (tgt := 26) C h dX10_learn_18 (by decide) ⟨fun h => ?_, fun h => ?_⟩
  · exact bX10_learn_26 C R hd  ho h
  · refine s_aload0 C dX10_learn_21 ?_
    refine s_iload1 C dX10_learn_22 ?_
    obtain ⟨M3, hq, h⟩ := bV_e h
    refine s_callV (T := TX10) (As := [.int x1]) (v := none) C rfl ho (by decide) rfl (by omega) wX10_441 rfl (Nat.le_of_ble_eq_true rfl) dX10_learn_23 (tX10_learnCorrector C.2.2.2.2.2.2.1 (by omega) ho hq) ?_
    exact bX10_learn_26 C R hd  ho h
set_option maxRecDepth 4000 in
theorem tX10_learn {l : Launch} {E : En} {A : Nat → Prop} {d : Nat} {M M' : Mem} {o : Nat} {x1 : Int32} (hE : Okk E A) (hd : 3 ≤ d) (ho : kd o = (10, 0)) (h : fX10_learn o x1 M = some M') : Ct l E A d yX10_learn cX10_learn 4 none [.ref (ad E o), .int x1] M none M' := by
  refine Ct.mk (ls := [some (.ref (ad E o)), some (.int x1), none, none]) hE (by decide +kernel) rfl (Nat.le_of_ble_eq_true rfl) (fun X hXl hXA C R => ?_)
  subst hXl; subst hXA
  unfold fX10_learn at h
  refine s_aload0 C dX10_learn_0 ?_
  refine s_iconst (v := 1) C (by decide) dX10_learn_1 ?_
  obtain ⟨r2, M1, hq, h⟩ := bI_e h
  refine s_callV (T := TX10) (As := [.int (1 : Int32)]) (v := some (.int r2)) C rfl ho (by decide) rfl (by omega) wX10_399 rfl (Nat.le_of_ble_eq_true rfl) dX10_learn_2 (tX10_has C.2.2.2.2.2.2.1 (by omega) ho hq) ?_
  refine s_if_eq (tgt := 13) C h dX10_learn_5 (by decide) ⟨fun h => ?_, fun h => ?_⟩
  · exact bX10_learn_13 C R hd  ho h
  · refine s_aload0 C dX10_learn_8 ?_
    refine s_iload1 C dX10_learn_9 ?_
    obtain ⟨M3, hq, h⟩ := bV_e h
    refine s_callV (T := TX10) (As := [.int x1]) (v := none) C rfl ho (by decide) rfl (by omega) wX10_438 rfl (Nat.le_of_ble_eq_true rfl) dX10_learn_10 (tX10_learnLoop C.2.2.2.2.2.2.1 (by omega) ho hq) ?_
    exact bX10_learn_13 C R hd  ho h
set_option maxRecDepth 4000 in
theorem bX10_play_68 {E : En} {X : Xc} {d : Nat} {M M' : Mem} {o : Nat} {x1 : Int32} {x2 : Int32} {sc0 : Nat} {sx1 : Int32} {sx2 : Int32} (C : Cx E X d cX10_play RX10 3) (R : Rt E X none none M') (hd : 4 ≤ d) {k6 : Nat → Int32 → Int32 → Mem → Option (Mem)} (hk6 : ∀ (o : Nat) (x1 : Int32) (x2 : Int32) (M : Mem) (_ : kd o = (10, 0)), k6 o x1 x2 M = some M' → At E X 6 [some (.ref (ad E o)), some (.int x1), some (.int x2)] [] M) (ho : kd o = (10, 0)) (hsc0 : kd sc0 = (20, 240)) (h : fX10_play_68 k6 o x1 x2 sc0 sx1 sx2 M = some M') : At E X 68 [some (.ref (ad E o)), some (.int x1), some (.int x2)] [.int sx2, .int sx1, .ref (ad E sc0)] M := by
  unfold fX10_play_68 at h
  refine s_iast C hsc0 h dX10_play_68 (fun h => ?_)
  refine s_aload0 C dX10_play_69 ?_
  refine gX10_103 C ho dX10_play_70 ?_
  refine s_iload2 C dX10_play_73 ?_
  refine s_aload0 C dX10_play_74 ?_
  refine gX10_402 C ho dX10_play_75 ?_
  refine s_iast C (qX10_firstOf ho) h dX10_play_78 (fun h => ?_)
  refine s_aload0 C dX10_play_79 ?_
  refine gX10_106 C ho dX10_play_80 ?_
  refine s_iload2 C dX10_play_83 ?_
  refine s_aload0 C dX10_play_84 ?_
  refine gX10_419 C ho dX10_play_85 ?_
  refine s_iast C (qX10_whoOf ho) h dX10_play_88 (fun h => ?_)
  refine s_aload0 C dX10_play_89 ?_
  refine s_aload0 C dX10_play_90 ?_
  refine gX10_43 C ho dX10_play_91 ?_
  refine s_iload2 C dX10_play_94 ?_
  refine s_iald C (qX10_takenOf ho) h dX10_play_95 (fun h => ?_)
  obtain ⟨M1, hq, h⟩ := bV_e h
  refine s_callV (T := TX10) (As := [.int ((pI (pI (pI M sc0 (tn sx1) sx2) (o + 30) (tn x2) ((pI M sc0 (tn sx1) sx2).1 o 50)) (o + 31) (tn x2) ((pI (pI M sc0 (tn sx1) sx2) (o + 30) (tn x2) ((pI M sc0 (tn sx1) sx2).1 o 50)).1 o 55)).1 (o + 10) (tn x2))]) (v := none) C rfl ho (by decide) rfl (by omega) wX10_459 rfl (Nat.le_of_ble_eq_true rfl) dX10_play_96 (tX10_learn C.2.2.2.2.2.2.1 (by omega) ho hq) ?_
  refine s_iinc2 (v := 1) C rfl dX10_play_99 (by decide) ?_
  refine s_goto (tgt := 6) C dX10_play_102 (by decide) ?_
  exact hk6 _ _ _ _ ho h
set_option maxRecDepth 4000 in
theorem bX10_play_6 {E : En} {X : Xc} {d : Nat} {M' : Mem} (C : Cx E X d cX10_play RX10 3) (R : Rt E X none none M') (hd : 4 ≤ d)   : ∀ (n : Nat) (o : Nat) (x1 : Int32) (x2 : Int32) (M : Mem) (_ : kd o = (10, 0)), fX10_play_6  n o x1 x2 M = some M' → At E X 6 [some (.ref (ad E o)), some (.int x1), some (.int x2)] [] M := by
  intro n
  induction n with
  | zero => intro o x1 x2 M ho h; rw [fX10_play_6] at h; cases h
  | succ n ih =>
    intro o x1 x2 M ho h
    rw [fX10_play_6] at h
    refine s_iload2 C dX10_play_6 ?_
    refine s_iload1 C dX10_play_7 ?_
    refine s_ic_ge (tgt := 105) C h dX10_play_8 (by decide) ⟨fun h => ?_, fun h => ?_⟩
    · exact s_vret C R h dX10_play_105
    · refine s_aload0 C dX10_play_11 ?_
      refine s_aload0 C dX10_play_12 ?_
      refine gX10_40 C ho dX10_play_13 ?_
      refine s_iload2 C dX10_play_16 ?_
      refine s_iald C (qX10_addressOf ho) h dX10_play_17 (fun h => ?_)
      obtain ⟨M1, hq, h⟩ := bV_e h
      refine s_callV (T := TX10) (As := [.int (M.1 (o + 9) (tn x2))]) (v := none) C rfl ho (by decide) rfl (by omega) wX10_456 rfl (Nat.le_of_ble_eq_true rfl) dX10_play_18 (tX10_ask C.2.2.2.2.2.2.1 (by omega) ho hq) ?_
      refine s_aload0 C dX10_play_21 ?_
      refine gX10_91 C ho dX10_play_22 ?_
      refine s_iload2 C dX10_play_25 ?_
      refine s_aload0 C dX10_play_26 ?_
      refine gX10_422 C ho dX10_play_27 ?_
      refine s_iast C (qX10_guessOf ho) h dX10_play_30 (fun h => ?_)
      refine s_aload0 C dX10_play_31 ?_
      refine gX10_94 C ho dX10_play_32 ?_
      refine s_iload2 C dX10_play_35 ?_
      refine s_aload0 C dX10_play_36 ?_
      refine gX10_378 C ho dX10_play_37 ?_
      refine s_iast C (qX10_providerOf ho) h dX10_play_40 (fun h => ?_)
      refine s_aload0 C dX10_play_41 ?_
      refine gX10_97 C ho dX10_play_42 ?_
      refine s_iload2 C dX10_play_45 ?_
      refine s_aload0 C dX10_play_46 ?_
      refine gX10_381 C ho dX10_play_47 ?_
      refine s_iast C (qX10_alternateOf ho) h dX10_play_50 (fun h => ?_)
      refine s_aload0 C dX10_play_51 ?_
      refine gX10_100 C ho dX10_play_52 ?_
      refine s_iload2 C dX10_play_55 ?_
      refine s_aload0 C dX10_play_56 ?_
      refine gX10_395 C ho dX10_play_57 ?_
      refine s_if_eq (tgt := 67) C h dX10_play_60 (by decide) ⟨fun h => ?_, fun h => ?_⟩
      · refine s_iconst (v := 0) C (by decide) dX10_play_67 ?_
        exact bX10_play_68 C R hd (ih) ho (qX10_weakOf ho) h
      · refine s_iconst (v := 1) C (by decide) dX10_play_63 ?_
        refine s_goto (tgt := 68) C dX10_play_64 (by decide) ?_
        exact bX10_play_68 C R hd (ih) ho (qX10_weakOf ho) h
set_option maxRecDepth 4000 in
theorem tX10_play {l : Launch} {E : En} {A : Nat → Prop} {d : Nat} {M M' : Mem} {o : Nat} {x1 : Int32} (hE : Okk E A) (hd : 4 ≤ d) (ho : kd o = (10, 0)) (h : fX10_play o x1 M = some M') : Ct l E A d yX10_play cX10_play 3 none [.ref (ad E o), .int x1] M none M' := by
  refine Ct.mk (ls := [some (.ref (ad E o)), some (.int x1), none]) hE (by decide +kernel) rfl (Nat.le_of_ble_eq_true rfl) (fun X hXl hXA C R => ?_)
  subst hXl; subst hXA
  unfold fX10_play at h
  refine s_aload0 C dX10_play_0 ?_
  obtain ⟨M1, hq, h⟩ := bV_e h
  refine s_callV (T := TX10) (As := []) (v := none) C rfl ho (by decide) rfl (by omega) wX10_453 rfl (Nat.le_of_ble_eq_true rfl) dX10_play_1 (tX10_beginGuesser C.2.2.2.2.2.2.1 (by omega) ho hq) ?_
  refine s_iconst (v := 0) C (by decide) dX10_play_4 ?_
  refine s_istore2 C rfl dX10_play_5 ?_
  exact bX10_play_6 C R hd  LF _ _ _ _ ho h
set_option maxRecDepth 4000 in
theorem tX10_lays {l : Launch} {E : En} {A : Nat → Prop} {d : Nat} {r : Int32} {M M' : Mem} {o : Nat} (hE : Okk E A) (hd : 4 ≤ d) (ho : kd o = (10, 0)) (h : fX10_lays o M = some (r, M')) : Ct l E A d yX10_lays cX10_lays 1 (some .boolean) [.ref (ad E o)] M (some (.int r)) M' := by
  refine Ct.mk (ls := [some (.ref (ad E o))]) hE (by decide +kernel) rfl (Nat.le_of_ble_eq_true rfl) (fun X hXl hXA C R => ?_)
  subst hXl; subst hXA
  unfold fX10_lays at h
  refine s_aload0 C dX10_lays_0 ?_
  obtain ⟨M1, hq, h⟩ := bV_e h
  refine s_callV (T := TX10) (As := []) (v := none) C rfl ho (by decide) rfl (by omega) wX10_462 rfl (Nat.le_of_ble_eq_true rfl) dX10_lays_1 (tX10_layRun C.2.2.2.2.2.2.1 (by omega) ho hq) ?_
  refine s_aload0 C dX10_lays_4 ?_
  obtain ⟨M2, hq, h⟩ := bV_e h
  refine s_callV (T := TX10) (As := []) (v := none) C rfl ho (by decide) rfl (by omega) wX10_465 rfl (Nat.le_of_ble_eq_true rfl) dX10_lays_5 (tX10_asTold C.2.2.2.2.2.2.1 (by omega) ho hq) ?_
  refine s_aload0 C dX10_lays_8 ?_
  obtain ⟨r4, M3, hq, h⟩ := bI_e h
  refine s_callV (T := TX10) (As := []) (v := some (.int r4)) C rfl ho (by decide) rfl (by omega) wX10_468 rfl (Nat.le_of_ble_eq_true rfl) dX10_lays_9 (tX10_isProgram C.2.2.2.2.2.2.1 (by omega) ho hq) ?_
  obtain ⟨hb, h⟩ := ck_e h
  exact s_zret C R h (isB_n hb).1 dX10_lays_12
set_option maxRecDepth 4000 in
theorem tX10_asks {l : Launch} {E : En} {A : Nat → Prop} {d : Nat} {r : Int32} {M M' : Mem} {o : Nat} (hE : Okk E A) (hd : 5 ≤ d) (ho : kd o = (10, 0)) (h : fX10_asks o M = some (r, M')) : Ct l E A d yX10_asks cX10_asks 2 (some .boolean) [.ref (ad E o)] M (some (.int r)) M' := by
  refine Ct.mk (ls := [some (.ref (ad E o)), none]) hE (by decide +kernel) rfl (Nat.le_of_ble_eq_true rfl) (fun X hXl hXA C R => ?_)
  subst hXl; subst hXA
  unfold fX10_asks at h
  refine s_aload0 C dX10_asks_0 ?_
  obtain ⟨r2, M1, hq, h⟩ := bI_e h
  refine s_callV (T := TX10) (As := []) (v := some (.int r2)) C rfl ho (by decide) rfl (by omega) wX10_471 rfl (Nat.le_of_ble_eq_true rfl) dX10_asks_1 (tX10_lays C.2.2.2.2.2.2.1 (by omega) ho hq) ?_
  refine s_istore1 C rfl dX10_asks_4 ?_
  refine s_iload1 C dX10_asks_5 ?_
  refine s_if_eq (tgt := 17) C h dX10_asks_6 (by decide) ⟨fun h => ?_, fun h => ?_⟩
  · refine s_iload1 C dX10_asks_17 ?_
    obtain ⟨hb, h⟩ := ck_e h
    exact s_zret C R h (isB_n hb).1 dX10_asks_18
  · refine s_aload0 C dX10_asks_9 ?_
    refine s_aload0 C dX10_asks_10 ?_
    refine gX10_289 C ho dX10_asks_11 ?_
    obtain ⟨M3, hq, h⟩ := bV_e h
    refine s_callV (T := TX10) (As := [.int (M1.1 o 23)]) (v := none) C rfl ho (by decide) rfl (by omega) wX10_474 rfl (Nat.le_of_ble_eq_true rfl) dX10_asks_14 (tX10_play C.2.2.2.2.2.2.1 (by omega) ho hq) ?_
    refine s_iload1 C dX10_asks_17 ?_
    obtain ⟨hb, h⟩ := ck_e h
    exact s_zret C R h (isB_n hb).1 dX10_asks_18
set_option maxRecDepth 4000 in
theorem tX10_asksAt {l : Launch} {E : En} {A : Nat → Prop} {d : Nat} {r : Int32} {M M' : Mem} {o : Nat} {x1 : Int32} (hE : Okk E A) (hd : 5 ≤ d) (ho : kd o = (10, 0)) (h : fX10_asksAt o x1 M = some (r, M')) : Ct l E A d yX10_asksAt cX10_asksAt 2 (some .boolean) [.ref (ad E o), .int x1] M (some (.int r)) M' := by
  refine Ct.mk (ls := [some (.ref (ad E o)), some (.int x1)]) hE (by decide +kernel) rfl (Nat.le_of_ble_eq_true rfl) (fun X hXl hXA C R => ?_)
  subst hXl; subst hXA
  unfold fX10_asksAt at h
  refine s_aload0 C dX10_asksAt_0 ?_
  obtain ⟨r2, M1, hq, h⟩ := bI_e h
  refine s_callV (T := TX10) (As := []) (v := some (.int r2)) C rfl ho (by decide) rfl (by omega) wX10_471 rfl (Nat.le_of_ble_eq_true rfl) dX10_asksAt_1 (tX10_lays C.2.2.2.2.2.2.1 (by omega) ho hq) ?_
  refine s_if_eq (tgt := 21) C h dX10_asksAt_4 (by decide) ⟨fun h => ?_, fun h => ?_⟩
  · refine s_iconst (v := 0) C (by decide) dX10_asksAt_21 ?_
    exact s_zret C R h rfl dX10_asksAt_22
  · refine s_iload1 C dX10_asksAt_7 ?_
    refine s_i2l C dX10_asksAt_8 ?_
    refine s_lconst (v := 0) C (by decide) dX10_asksAt_9 ?_
    refine s_aload0 C dX10_asksAt_10 ?_
    refine gX10_289 C ho dX10_asksAt_11 ?_
    refine s_i2l C dX10_asksAt_14 ?_
    obtain ⟨r4, M3, hq, h⟩ := bI_e h
    refine s_callS (As := [.long (x1).toInt64, .long (0 : Int64), .long ((M1.1 o 23)).toInt64]) (v := some (.int r4)) C rfl (by omega) wX10_139 rfl (Nat.le_of_ble_eq_true rfl) dX10_asksAt_15 (tX10_in C.2.2.2.2.2.2.1 (by omega)  hq) ?_
    refine s_if_ne (tgt := 23) C h dX10_asksAt_18 (by decide) ⟨fun h => ?_, fun h => ?_⟩
    · refine s_aload0 C dX10_asksAt_23 ?_
      refine s_iload1 C dX10_asksAt_24 ?_
      obtain ⟨M5, hq, h⟩ := bV_e h
      refine s_callV (T := TX10) (As := [.int x1]) (v := none) C rfl ho (by decide) rfl (by omega) wX10_474 rfl (Nat.le_of_ble_eq_true rfl) dX10_asksAt_25 (tX10_play C.2.2.2.2.2.2.1 (by omega) ho hq) ?_
      refine s_iconst (v := 1) C (by decide) dX10_asksAt_28 ?_
      exact s_zret C R h rfl dX10_asksAt_29
    · refine s_iconst (v := 0) C (by decide) dX10_asksAt_21 ?_
      exact s_zret C R h rfl dX10_asksAt_22
set_option maxRecDepth 4000 in
theorem tX10_isWrong {l : Launch} {E : En} {A : Nat → Prop} {d : Nat} {r : Int32} {M M' : Mem} {o : Nat} {x1 : Int32} (hE : Okk E A) (hd : 0 ≤ d) (ho : kd o = (10, 0)) (h : fX10_isWrong o x1 M = some (r, M')) : Ct l E A d yX10_isWrong cX10_isWrong 2 (some .boolean) [.ref (ad E o), .int x1] M (some (.int r)) M' := by
  refine Ct.mk (ls := [some (.ref (ad E o)), some (.int x1)]) hE (by decide +kernel) rfl (Nat.le_of_ble_eq_true rfl) (fun X hXl hXA C R => ?_)
  subst hXl; subst hXA
  unfold fX10_isWrong at h
  refine s_aload0 C dX10_isWrong_0 ?_
  refine gX10_91 C ho dX10_isWrong_1 ?_
  refine s_iload1 C dX10_isWrong_4 ?_
  refine s_iald C (qX10_guessOf ho) h dX10_isWrong_5 (fun h => ?_)
  refine s_aload0 C dX10_isWrong_6 ?_
  refine gX10_43 C ho dX10_isWrong_7 ?_
  refine s_iload1 C dX10_isWrong_10 ?_
  refine s_iald C (qX10_takenOf ho) h dX10_isWrong_11 (fun h => ?_)
  refine s_ic_eq (tgt := 19) C h dX10_isWrong_12 (by decide) ⟨fun h => ?_, fun h => ?_⟩
  · refine s_iconst (v := 0) C (by decide) dX10_isWrong_19 ?_
    exact s_zret C R h rfl dX10_isWrong_20
  · refine s_iconst (v := 1) C (by decide) dX10_isWrong_15 ?_
    refine s_goto (tgt := 20) C dX10_isWrong_16 (by decide) ?_
    exact s_zret C R h rfl dX10_isWrong_20
set_option maxRecDepth 4000 in
theorem bX10_wrongBy_23 {E : En} {X : Xc} {d : Nat} {r : Int32} {M M' : Mem} {o : Nat} {x1 : Int32} {x3 : Int32} {sx0 : Int32} {sx1 : Int32} (C : Cx E X d cX10_wrongBy RX10 4) (R : Rt E X (some .int) (some (.int r)) M') (hd : 1 ≤ d) {k4 : Nat → Int32 → Int32 → Int32 → Mem → Option (Int32 × Mem)} (hk4 : ∀ (o : Nat) (x1 : Int32) (x2 : Int32) (x3 : Int32) (M : Mem) (_ : kd o = (10, 0)), k4 o x1 x2 x3 M = some (r, M') → At E X 4 [some (.ref (ad E o)), some (.int x1), some (.int x2), some (.int x3)] [] M) (ho : kd o = (10, 0)) (h : fX10_wrongBy_23 k4 o x1 x3 sx0 sx1 M = some (r, M')) : At E X 23 [some (.ref (ad E o)), some (.int x1), none, some (.int x3)] [.int sx1, .int sx0] M := by
  unfold fX10_wrongBy_23 at h
  refine s_iadd C dX10_wrongBy_23 ?_
  refine s_istore2 C rfl dX10_wrongBy_24 ?_
  refine s_iinc3 (v := 1) C rfl dX10_wrongBy_25 (by decide) ?_
  refine s_goto (tgt := 4) C dX10_wrongBy_28 (by decide) ?_
  exact hk4 _ _ _ _ _ ho h
set_option maxRecDepth 4000 in
theorem bX10_wrongBy_4 {E : En} {X : Xc} {d : Nat} {r : Int32} {M' : Mem} (C : Cx E X d cX10_wrongBy RX10 4) (R : Rt E X (some .int) (some (.int r)) M') (hd : 1 ≤ d)   : ∀ (n : Nat) (o : Nat) (x1 : Int32) (x2 : Int32) (x3 : Int32) (M : Mem) (_ : kd o = (10, 0)), fX10_wrongBy_4  n o x1 x2 x3 M = some (r, M') → At E X 4 [some (.ref (ad E o)), some (.int x1), some (.int x2), some (.int x3)] [] M := by
  intro n
  induction n with
  | zero => intro o x1 x2 x3 M ho h; rw [fX10_wrongBy_4] at h; cases h
  | succ n ih =>
    intro o x1 x2 x3 M ho h
    rw [fX10_wrongBy_4] at h
    refine s_iload3 C dX10_wrongBy_4 ?_
    refine s_iload1 C dX10_wrongBy_5 ?_
    refine s_ic_ge (tgt := 31) C h dX10_wrongBy_6 (by decide) ⟨fun h => ?_, fun h => ?_⟩
    · refine s_iload2 C dX10_wrongBy_31 ?_
      exact s_iret C R h dX10_wrongBy_32
    · refine s_iload2 C dX10_wrongBy_9 ?_
      refine s_aload0 C dX10_wrongBy_10 ?_
      refine s_iload3 C dX10_wrongBy_11 ?_
      obtain ⟨r2, M1, hq, h⟩ := bI_e h
      refine s_callV (T := TX10) (As := [.int x3]) (v := some (.int r2)) C rfl ho (by decide) rfl (by omega) wX10_477 rfl (Nat.le_of_ble_eq_true rfl) dX10_wrongBy_12 (tX10_isWrong C.2.2.2.2.2.2.1 (by omega) ho hq) ?_
      refine s_if_eq (tgt := 22) C h dX10_wrongBy_15 (by decide) ⟨fun h => ?_, fun h => ?_⟩
      · refine s_iconst (v := 0) C (by decide) dX10_wrongBy_22 ?_
        refine s_fg 2 ?_
        exact bX10_wrongBy_23 C R hd (ih) ho h
      · refine s_iconst (v := 1) C (by decide) dX10_wrongBy_18 ?_
        refine s_goto (tgt := 23) C dX10_wrongBy_19 (by decide) ?_
        refine s_fg 2 ?_
        exact bX10_wrongBy_23 C R hd (ih) ho h
set_option maxRecDepth 4000 in
theorem tX10_wrongBy {l : Launch} {E : En} {A : Nat → Prop} {d : Nat} {r : Int32} {M M' : Mem} {o : Nat} {x1 : Int32} (hE : Okk E A) (hd : 1 ≤ d) (ho : kd o = (10, 0)) (h : fX10_wrongBy o x1 M = some (r, M')) : Ct l E A d yX10_wrongBy cX10_wrongBy 4 (some .int) [.ref (ad E o), .int x1] M (some (.int r)) M' := by
  refine Ct.mk (ls := [some (.ref (ad E o)), some (.int x1), none, none]) hE (by decide +kernel) rfl (Nat.le_of_ble_eq_true rfl) (fun X hXl hXA C R => ?_)
  subst hXl; subst hXA
  unfold fX10_wrongBy at h
  refine s_iconst (v := 0) C (by decide) dX10_wrongBy_0 ?_
  refine s_istore2 C rfl dX10_wrongBy_1 ?_
  refine s_iconst (v := 0) C (by decide) dX10_wrongBy_2 ?_
  refine s_istore3 C rfl dX10_wrongBy_3 ?_
  exact bX10_wrongBy_4 C R hd  LF _ _ _ _ _ ho h
set_option maxRecDepth 4000 in
theorem tX10_op {l : Launch} {E : En} {A : Nat → Prop} {d : Nat} {r : Int32} {M M' : Mem} {o : Nat} {x1 : Int32} {x2 : Int32} (hE : Okk E A) (hd : 2 ≤ d) (ho : kd o = (10, 0)) (h : fX10_op o x1 x2 M = some (r, M')) : Ct l E A d yX10_op cX10_op 3 (some .int) [.ref (ad E o), .int x1, .int x2] M (some (.int r)) M' := by
  refine Ct.mk (ls := [some (.ref (ad E o)), some (.int x1), some (.int x2)]) hE (by decide +kernel) rfl (Nat.le_of_ble_eq_true rfl) (fun X hXl hXA C R => ?_)
  subst hXl; subst hXA
  unfold fX10_op at h
  refine s_aload0 C dX10_op_0 ?_
  refine s_iload1 C dX10_op_1 ?_
  obtain ⟨r2, M1, hq, h⟩ := bI_e h
  refine s_callV (T := TX10) (As := [.int x1]) (v := some (.int r2)) C rfl ho (by decide) rfl (by omega) wX10_314 rfl (Nat.le_of_ble_eq_true rfl) dX10_op_2 (tX10_isOp C.2.2.2.2.2.2.1 (by omega) ho hq) ?_
  refine s_if_eq (tgt := 20) C h dX10_op_5 (by decide) ⟨fun h => ?_, fun h => ?_⟩
  · refine s_bipush (v := -2) C (by decide) dX10_op_20 ?_
    exact s_iret C R h dX10_op_22
  · refine s_iload2 C dX10_op_8 ?_
    refine s_i2l C dX10_op_9 ?_
    refine s_lconst (v := 0) C (by decide) dX10_op_10 ?_
    refine s_ldc2 (v := 3) C k_1569 dX10_op_11 ?_
    obtain ⟨r4, M3, hq, h⟩ := bI_e h
    refine s_callS (As := [.long (x2).toInt64, .long (0 : Int64), .long (3 : Int64)]) (v := some (.int r4)) C rfl (by omega) wX10_139 rfl (Nat.le_of_ble_eq_true rfl) dX10_op_14 (tX10_in C.2.2.2.2.2.2.1 (by omega)  hq) ?_
    refine s_if_ne (tgt := 23) C h dX10_op_17 (by decide) ⟨fun h => ?_, fun h => ?_⟩
    · refine s_iload2 C dX10_op_23 ?_
      refine s_if_ne (tgt := 35) C h dX10_op_24 (by decide) ⟨fun h => ?_, fun h => ?_⟩
      · refine s_aload0 C dX10_op_35 ?_
        refine s_iload1 C dX10_op_36 ?_
        refine s_iload2 C dX10_op_37 ?_
        refine s_iconst (v := 1) C (by decide) dX10_op_38 ?_
        refine s_isub C dX10_op_39 ?_
        obtain ⟨r6, M5, hq, h⟩ := bI_e h
        refine s_callV (T := TX10) (As := [.int x1, .int (x2 - (1 : Int32))]) (v := some (.int r6)) C rfl ho (by decide) rfl (by omega) wX10_286 rfl (Nat.le_of_ble_eq_true rfl) dX10_op_40 (tX10_numberOf C.2.2.2.2.2.2.1 (by omega) ho hq) ?_
        exact s_iret C R h dX10_op_43
      · refine s_aload0 C dX10_op_27 ?_
        refine s_iload1 C dX10_op_28 ?_
        obtain ⟨r8, M7, hq, h⟩ := bI_e h
        refine s_callV (T := TX10) (As := [.int x1]) (v := some (.int r8)) C rfl ho (by decide) rfl (by omega) wX10_283 rfl (Nat.le_of_ble_eq_true rfl) dX10_op_29 (tX10_kindOf C.2.2.2.2.2.2.1 (by omega) ho hq) ?_
        refine s_goto (tgt := 43) C dX10_op_32 (by decide) ?_
        exact s_iret C R h dX10_op_43
    · refine s_bipush (v := -2) C (by decide) dX10_op_20 ?_
      exact s_iret C R h dX10_op_22
set_option maxRecDepth 4000 in
theorem tX10_steps {l : Launch} {E : En} {A : Nat → Prop} {d : Nat} {r : Int32} {M M' : Mem} {o : Nat} (hE : Okk E A) (hd : 5 ≤ d) (ho : kd o = (10, 0)) (h : fX10_steps o M = some (r, M')) : Ct l E A d yX10_steps cX10_steps 1 (some .int) [.ref (ad E o)] M (some (.int r)) M' := by
  refine Ct.mk (ls := [some (.ref (ad E o))]) hE (by decide +kernel) rfl (Nat.le_of_ble_eq_true rfl) (fun X hXl hXA C R => ?_)
  subst hXl; subst hXA
  unfold fX10_steps at h
  refine s_aload0 C dX10_steps_0 ?_
  obtain ⟨r2, M1, hq, h⟩ := bI_e h
  refine s_callV (T := TX10) (As := []) (v := some (.int r2)) C rfl ho (by decide) rfl (by omega) wX10_471 rfl (Nat.le_of_ble_eq_true rfl) dX10_steps_1 (tX10_lays C.2.2.2.2.2.2.1 (by omega) ho hq) ?_
  refine s_if_eq (tgt := 14) C h dX10_steps_4 (by decide) ⟨fun h => ?_, fun h => ?_⟩
  · refine s_bipush (v := -2) C (by decide) dX10_steps_14 ?_
    exact s_iret C R h dX10_steps_16
  · refine s_aload0 C dX10_steps_7 ?_
    refine gX10_292 C ho dX10_steps_8 ?_
    refine s_goto (tgt := 16) C dX10_steps_11 (by decide) ?_
    exact s_iret C R h dX10_steps_16
set_option maxRecDepth 4000 in
theorem tX10_why {l : Launch} {E : En} {A : Nat → Prop} {d : Nat} {r : Int32} {M M' : Mem} {o : Nat} (hE : Okk E A) (hd : 5 ≤ d) (ho : kd o = (10, 0)) (h : fX10_why o M = some (r, M')) : Ct l E A d yX10_why cX10_why 1 (some .int) [.ref (ad E o)] M (some (.int r)) M' := by
  refine Ct.mk (ls := [some (.ref (ad E o))]) hE (by decide +kernel) rfl (Nat.le_of_ble_eq_true rfl) (fun X hXl hXA C R => ?_)
  subst hXl; subst hXA
  unfold fX10_why at h
  refine s_aload0 C dX10_why_0 ?_
  obtain ⟨r2, M1, hq, h⟩ := bI_e h
  refine s_callV (T := TX10) (As := []) (v := some (.int r2)) C rfl ho (by decide) rfl (by omega) wX10_471 rfl (Nat.le_of_ble_eq_true rfl) dX10_why_1 (tX10_lays C.2.2.2.2.2.2.1 (by omega) ho hq) ?_
  refine s_if_eq (tgt := 14) C h dX10_why_4 (by decide) ⟨fun h => ?_, fun h => ?_⟩
  · refine s_bipush (v := -2) C (by decide) dX10_why_14 ?_
    exact s_iret C R h dX10_why_16
  · refine s_aload0 C dX10_why_7 ?_
    refine gX10_320 C ho dX10_why_8 ?_
    refine s_goto (tgt := 16) C dX10_why_11 (by decide) ?_
    exact s_iret C R h dX10_why_16
set_option maxRecDepth 4000 in
theorem tX10_next {l : Launch} {E : En} {A : Nat → Prop} {d : Nat} {r : Int32} {M M' : Mem} {o : Nat} {x1 : Int32} (hE : Okk E A) (hd : 5 ≤ d) (ho : kd o = (10, 0)) (h : fX10_next o x1 M = some (r, M')) : Ct l E A d yX10_next cX10_next 2 (some .int) [.ref (ad E o), .int x1] M (some (.int r)) M' := by
  refine Ct.mk (ls := [some (.ref (ad E o)), some (.int x1)]) hE (by decide +kernel) rfl (Nat.le_of_ble_eq_true rfl) (fun X hXl hXA C R => ?_)
  subst hXl; subst hXA
  unfold fX10_next at h
  refine s_aload0 C dX10_next_0 ?_
  obtain ⟨r2, M1, hq, h⟩ := bI_e h
  refine s_callV (T := TX10) (As := []) (v := some (.int r2)) C rfl ho (by decide) rfl (by omega) wX10_471 rfl (Nat.le_of_ble_eq_true rfl) dX10_next_1 (tX10_lays C.2.2.2.2.2.2.1 (by omega) ho hq) ?_
  refine s_if_eq (tgt := 30) C h dX10_next_4 (by decide) ⟨fun h => ?_, fun h => ?_⟩
  · refine s_bipush (v := -2) C (by decide) dX10_next_30 ?_
    exact s_iret C R h dX10_next_32
  · refine s_iload1 C dX10_next_7 ?_
    refine s_i2l C dX10_next_8 ?_
    refine s_lconst (v := 0) C (by decide) dX10_next_9 ?_
    refine s_aload0 C dX10_next_10 ?_
    refine gX10_292 C ho dX10_next_11 ?_
    refine s_i2l C dX10_next_14 ?_
    obtain ⟨r4, M3, hq, h⟩ := bI_e h
    refine s_callS (As := [.long (x1).toInt64, .long (0 : Int64), .long ((M1.1 o 20)).toInt64]) (v := some (.int r4)) C rfl (by omega) wX10_139 rfl (Nat.le_of_ble_eq_true rfl) dX10_next_15 (tX10_in C.2.2.2.2.2.2.1 (by omega)  hq) ?_
    refine s_if_eq (tgt := 30) C h dX10_next_18 (by decide) ⟨fun h => ?_, fun h => ?_⟩
    · refine s_bipush (v := -2) C (by decide) dX10_next_30 ?_
      exact s_iret C R h dX10_next_32
    · refine s_aload0 C dX10_next_21 ?_
      refine gX10_37 C ho dX10_next_22 ?_
      refine s_iload1 C dX10_next_25 ?_
      refine s_iald C (qX10_nexts ho) h dX10_next_26 (fun h => ?_)
      refine s_goto (tgt := 32) C dX10_next_27 (by decide) ?_
      exact s_iret C R h dX10_next_32
set_option maxRecDepth 4000 in
theorem tX10_register {l : Launch} {E : En} {A : Nat → Prop} {d : Nat} {r : Int32} {M M' : Mem} {o : Nat} {x1 : Int32} {x2 : Int32} (hE : Okk E A) (hd : 5 ≤ d) (ho : kd o = (10, 0)) (h : fX10_register o x1 x2 M = some (r, M')) : Ct l E A d yX10_register cX10_register 3 (some .int) [.ref (ad E o), .int x1, .int x2] M (some (.int r)) M' := by
  refine Ct.mk (ls := [some (.ref (ad E o)), some (.int x1), some (.int x2)]) hE (by decide +kernel) rfl (Nat.le_of_ble_eq_true rfl) (fun X hXl hXA C R => ?_)
  subst hXl; subst hXA
  unfold fX10_register at h
  refine s_aload0 C dX10_register_0 ?_
  obtain ⟨r2, M1, hq, h⟩ := bI_e h
  refine s_callV (T := TX10) (As := []) (v := some (.int r2)) C rfl ho (by decide) rfl (by omega) wX10_471 rfl (Nat.le_of_ble_eq_true rfl) dX10_register_1 (tX10_lays C.2.2.2.2.2.2.1 (by omega) ho hq) ?_
  refine s_if_eq (tgt := 47) C h dX10_register_4 (by decide) ⟨fun h => ?_, fun h => ?_⟩
  · refine s_bipush (v := -2) C (by decide) dX10_register_47 ?_
    exact s_iret C R h dX10_register_49
  · refine s_iload2 C dX10_register_7 ?_
    refine s_i2l C dX10_register_8 ?_
    refine s_lconst (v := 0) C (by decide) dX10_register_9 ?_
    refine s_aload0 C dX10_register_10 ?_
    refine gX10_292 C ho dX10_register_11 ?_
    refine s_i2l C dX10_register_14 ?_
    obtain ⟨r4, M3, hq, h⟩ := bI_e h
    refine s_callS (As := [.long (x2).toInt64, .long (0 : Int64), .long ((M1.1 o 20)).toInt64]) (v := some (.int r4)) C rfl (by omega) wX10_139 rfl (Nat.le_of_ble_eq_true rfl) dX10_register_15 (tX10_in C.2.2.2.2.2.2.1 (by omega)  hq) ?_
    refine s_if_eq (tgt := 47) C h dX10_register_18 (by decide) ⟨fun h => ?_, fun h => ?_⟩
    · refine s_bipush (v := -2) C (by decide) dX10_register_47 ?_
      exact s_iret C R h dX10_register_49
    · refine s_iload1 C dX10_register_21 ?_
      refine s_i2l C dX10_register_22 ?_
      refine s_lconst (v := 0) C (by decide) dX10_register_23 ?_
      refine s_ldc2 (v := 7) C k_1645 dX10_register_24 ?_
      obtain ⟨r6, M5, hq, h⟩ := bI_e h
      refine s_callS (As := [.long (x1).toInt64, .long (0 : Int64), .long (7 : Int64)]) (v := some (.int r6)) C rfl (by omega) wX10_139 rfl (Nat.le_of_ble_eq_true rfl) dX10_register_27 (tX10_in C.2.2.2.2.2.2.1 (by omega)  hq) ?_
      refine s_if_eq (tgt := 47) C h dX10_register_30 (by decide) ⟨fun h => ?_, fun h => ?_⟩
      · refine s_bipush (v := -2) C (by decide) dX10_register_47 ?_
        exact s_iret C R h dX10_register_49
      · refine s_aload0 C dX10_register_33 ?_
        refine gX10_34 C ho dX10_register_34 ?_
        refine s_bipush (v := 8) C (by decide) dX10_register_37 ?_
        refine s_iload2 C dX10_register_39 ?_
        refine s_imul C dX10_register_40 ?_
        refine s_iload1 C dX10_register_41 ?_
        refine s_iadd C dX10_register_42 ?_
        refine s_iald C (qX10_registers ho) h dX10_register_43 (fun h => ?_)
        refine s_goto (tgt := 49) C dX10_register_44 (by decide) ?_
        exact s_iret C R h dX10_register_49
set_option maxRecDepth 4000 in
theorem tX10_branch {l : Launch} {E : En} {A : Nat → Prop} {d : Nat} {r : Int32} {M M' : Mem} {o : Nat} {x1 : Int32} {x2 : Int32} (hE : Okk E A) (hd : 6 ≤ d) (ho : kd o = (10, 0)) (h : fX10_branch o x1 x2 M = some (r, M')) : Ct l E A d yX10_branch cX10_branch 3 (some .int) [.ref (ad E o), .int x1, .int x2] M (some (.int r)) M' := by
  refine Ct.mk (ls := [some (.ref (ad E o)), some (.int x1), some (.int x2)]) hE (by decide +kernel) rfl (Nat.le_of_ble_eq_true rfl) (fun X hXl hXA C R => ?_)
  subst hXl; subst hXA
  unfold fX10_branch at h
  refine s_aload0 C dX10_branch_0 ?_
  obtain ⟨r2, M1, hq, h⟩ := bI_e h
  refine s_callV (T := TX10) (As := []) (v := some (.int r2)) C rfl ho (by decide) rfl (by omega) wX10_484 rfl (Nat.le_of_ble_eq_true rfl) dX10_branch_1 (tX10_asks C.2.2.2.2.2.2.1 (by omega) ho hq) ?_
  refine s_if_eq (tgt := 23) C h dX10_branch_4 (by decide) ⟨fun h => ?_, fun h => ?_⟩
  · refine s_bipush (v := -2) C (by decide) dX10_branch_23 ?_
    exact s_iret C R h dX10_branch_25
  · refine s_iload1 C dX10_branch_7 ?_
    refine s_i2l C dX10_branch_8 ?_
    refine s_lconst (v := 0) C (by decide) dX10_branch_9 ?_
    refine s_aload0 C dX10_branch_10 ?_
    refine gX10_289 C ho dX10_branch_11 ?_
    refine s_iconst (v := 1) C (by decide) dX10_branch_14 ?_
    refine s_isub C dX10_branch_15 ?_
    refine s_i2l C dX10_branch_16 ?_
    obtain ⟨r4, M3, hq, h⟩ := bI_e h
    refine s_callS (As := [.long (x1).toInt64, .long (0 : Int64), .long (((M1.1 o 23) - (1 : Int32))).toInt64]) (v := some (.int r4)) C rfl (by omega) wX10_139 rfl (Nat.le_of_ble_eq_true rfl) dX10_branch_17 (tX10_in C.2.2.2.2.2.2.1 (by omega)  hq) ?_
    refine s_if_ne (tgt := 26) C h dX10_branch_20 (by decide) ⟨fun h => ?_, fun h => ?_⟩
    · refine s_iload2 C dX10_branch_26 ?_
      rcases if_e h with ⟨e, h⟩ | ⟨e0, h⟩
      · refine s_tin (j := 0) (tgt := 76) C dX10_branch_27 (by rw [e]; decide) (by decide) rfl (by decide) ?_
        refine s_aload0 C dX10_branch_76 ?_
        refine gX10_40 C ho dX10_branch_77 ?_
        refine s_iload1 C dX10_branch_80 ?_
        refine s_iald C (qX10_addressOf ho) h dX10_branch_81 (fun h => ?_)
        exact s_iret C R h dX10_branch_82
      rcases if_e h with ⟨e, h⟩ | ⟨e1, h⟩
      · refine s_tin (j := 1) (tgt := 83) C dX10_branch_27 (by rw [e]; decide) (by decide) rfl (by decide) ?_
        refine s_aload0 C dX10_branch_83 ?_
        refine gX10_43 C ho dX10_branch_84 ?_
        refine s_iload1 C dX10_branch_87 ?_
        refine s_iald C (qX10_takenOf ho) h dX10_branch_88 (fun h => ?_)
        exact s_iret C R h dX10_branch_89
      rcases if_e h with ⟨e, h⟩ | ⟨e2, h⟩
      · refine s_tin (j := 2) (tgt := 90) C dX10_branch_27 (by rw [e]; decide) (by decide) rfl (by decide) ?_
        refine s_aload0 C dX10_branch_90 ?_
        refine gX10_91 C ho dX10_branch_91 ?_
        refine s_iload1 C dX10_branch_94 ?_
        refine s_iald C (qX10_guessOf ho) h dX10_branch_95 (fun h => ?_)
        exact s_iret C R h dX10_branch_96
      rcases if_e h with ⟨e, h⟩ | ⟨e3, h⟩
      · refine s_tin (j := 3) (tgt := 97) C dX10_branch_27 (by rw [e]; decide) (by decide) rfl (by decide) ?_
        refine s_aload0 C dX10_branch_97 ?_
        refine gX10_94 C ho dX10_branch_98 ?_
        refine s_iload1 C dX10_branch_101 ?_
        refine s_iald C (qX10_providerOf ho) h dX10_branch_102 (fun h => ?_)
        exact s_iret C R h dX10_branch_103
      rcases if_e h with ⟨e, h⟩ | ⟨e4, h⟩
      · refine s_tin (j := 4) (tgt := 104) C dX10_branch_27 (by rw [e]; decide) (by decide) rfl (by decide) ?_
        refine s_aload0 C dX10_branch_104 ?_
        refine gX10_97 C ho dX10_branch_105 ?_
        refine s_iload1 C dX10_branch_108 ?_
        refine s_iald C (qX10_alternateOf ho) h dX10_branch_109 (fun h => ?_)
        exact s_iret C R h dX10_branch_110
      rcases if_e h with ⟨e, h⟩ | ⟨e5, h⟩
      · refine s_tin (j := 5) (tgt := 111) C dX10_branch_27 (by rw [e]; decide) (by decide) rfl (by decide) ?_
        refine s_aload0 C dX10_branch_111 ?_
        refine gX10_100 C ho dX10_branch_112 ?_
        refine s_iload1 C dX10_branch_115 ?_
        refine s_iald C (qX10_weakOf ho) h dX10_branch_116 (fun h => ?_)
        exact s_iret C R h dX10_branch_117
      rcases if_e h with ⟨e, h⟩ | ⟨e6, h⟩
      · refine s_tin (j := 6) (tgt := 118) C dX10_branch_27 (by rw [e]; decide) (by decide) rfl (by decide) ?_
        refine s_aload0 C dX10_branch_118 ?_
        refine gX10_103 C ho dX10_branch_119 ?_
        refine s_iload1 C dX10_branch_122 ?_
        refine s_iald C (qX10_firstOf ho) h dX10_branch_123 (fun h => ?_)
        exact s_iret C R h dX10_branch_124
      rcases if_e h with ⟨e, h⟩ | ⟨e7, h⟩
      · refine s_tin (j := 7) (tgt := 125) C dX10_branch_27 (by rw [e]; decide) (by decide) rfl (by decide) ?_
        refine s_aload0 C dX10_branch_125 ?_
        refine gX10_106 C ho dX10_branch_126 ?_
        refine s_iload1 C dX10_branch_129 ?_
        refine s_iald C (qX10_whoOf ho) h dX10_branch_130 (fun h => ?_)
        exact s_iret C R h dX10_branch_131
      rcases if_e h with ⟨e, h⟩ | ⟨e8, h⟩
      · refine s_tin (j := 8) (tgt := 132) C dX10_branch_27 (by rw [e]; decide) (by decide) rfl (by decide) ?_
        refine s_aload0 C dX10_branch_132 ?_
        refine gX10_46 C ho dX10_branch_133 ?_
        refine s_iload1 C dX10_branch_136 ?_
        refine s_iald C (qX10_stepOf ho) h dX10_branch_137 (fun h => ?_)
        exact s_iret C R h dX10_branch_138
      have g0 := ne_int e0
      have g1 := ne_int e1
      have g2 := ne_int e2
      have g3 := ne_int e3
      have g4 := ne_int e4
      have g5 := ne_int e5
      have g6 := ne_int e6
      have g7 := ne_int e7
      have g8 := ne_int e8
      refine s_tout (tgt := 139) C dX10_branch_27 (by simp only [show (0 : Int32).toInt = 0 from by decide, show (1 : Int32).toInt = 1 from by decide, show (2 : Int32).toInt = 2 from by decide, show (3 : Int32).toInt = 3 from by decide, show (4 : Int32).toInt = 4 from by decide, show (5 : Int32).toInt = 5 from by decide, show (6 : Int32).toInt = 6 from by decide, show (7 : Int32).toInt = 7 from by decide, show (8 : Int32).toInt = 8 from by decide] at g0 g1 g2 g3 g4 g5 g6 g7 g8; omega) (by decide) ?_
      refine s_bipush (v := -2) C (by decide) dX10_branch_139 ?_
      exact s_iret C R h dX10_branch_141
    · refine s_bipush (v := -2) C (by decide) dX10_branch_23 ?_
      exact s_iret C R h dX10_branch_25
set_option maxRecDepth 4000 in
theorem tX10_wrong {l : Launch} {E : En} {A : Nat → Prop} {d : Nat} {r : Int32} {M M' : Mem} {o : Nat} {x1 : Int32} (hE : Okk E A) (hd : 6 ≤ d) (ho : kd o = (10, 0)) (h : fX10_wrong o x1 M = some (r, M')) : Ct l E A d yX10_wrong cX10_wrong 2 (some .int) [.ref (ad E o), .int x1] M (some (.int r)) M' := by
  refine Ct.mk (ls := [some (.ref (ad E o)), some (.int x1)]) hE (by decide +kernel) rfl (Nat.le_of_ble_eq_true rfl) (fun X hXl hXA C R => ?_)
  subst hXl; subst hXA
  unfold fX10_wrong at h
  refine s_aload0 C dX10_wrong_0 ?_
  obtain ⟨r2, M1, hq, h⟩ := bI_e h
  refine s_callV (T := TX10) (As := []) (v := some (.int r2)) C rfl ho (by decide) rfl (by omega) wX10_484 rfl (Nat.le_of_ble_eq_true rfl) dX10_wrong_1 (tX10_asks C.2.2.2.2.2.2.1 (by omega) ho hq) ?_
  refine s_if_eq (tgt := 29) C h dX10_wrong_4 (by decide) ⟨fun h => ?_, fun h => ?_⟩
  · refine s_bipush (v := -2) C (by decide) dX10_wrong_29 ?_
    exact s_iret C R h dX10_wrong_31
  · refine s_iload1 C dX10_wrong_7 ?_
    refine s_i2l C dX10_wrong_8 ?_
    refine s_lconst (v := 0) C (by decide) dX10_wrong_9 ?_
    refine s_aload0 C dX10_wrong_10 ?_
    refine gX10_289 C ho dX10_wrong_11 ?_
    refine s_i2l C dX10_wrong_14 ?_
    obtain ⟨r4, M3, hq, h⟩ := bI_e h
    refine s_callS (As := [.long (x1).toInt64, .long (0 : Int64), .long ((M1.1 o 23)).toInt64]) (v := some (.int r4)) C rfl (by omega) wX10_139 rfl (Nat.le_of_ble_eq_true rfl) dX10_wrong_15 (tX10_in C.2.2.2.2.2.2.1 (by omega)  hq) ?_
    refine s_if_eq (tgt := 29) C h dX10_wrong_18 (by decide) ⟨fun h => ?_, fun h => ?_⟩
    · refine s_bipush (v := -2) C (by decide) dX10_wrong_29 ?_
      exact s_iret C R h dX10_wrong_31
    · refine s_aload0 C dX10_wrong_21 ?_
      refine s_iload1 C dX10_wrong_22 ?_
      obtain ⟨r6, M5, hq, h⟩ := bI_e h
      refine s_callV (T := TX10) (As := [.int x1]) (v := some (.int r6)) C rfl ho (by decide) rfl (by omega) wX10_487 rfl (Nat.le_of_ble_eq_true rfl) dX10_wrong_23 (tX10_wrongBy C.2.2.2.2.2.2.1 (by omega) ho hq) ?_
      refine s_goto (tgt := 31) C dX10_wrong_26 (by decide) ?_
      exact s_iret C R h dX10_wrong_31
set_option maxRecDepth 4000 in
theorem tX10_isAddress {l : Launch} {E : En} {A : Nat → Prop} {d : Nat} {r : Int32} {M M' : Mem} {l0 : Int64} (hE : Okk E A) (hd : 1 ≤ d)  (h : fX10_isAddress l0 M = some (r, M')) : Ct l E A d yX10_isAddress cX10_isAddress 2 (some .boolean) [.long l0] M (some (.int r)) M' := by
  refine Ct.mk (ls := [some (.long l0), none]) hE (by decide +kernel) rfl (Nat.le_of_ble_eq_true rfl) (fun X hXl hXA C R => ?_)
  subst hXl; subst hXA
  unfold fX10_isAddress at h
  refine s_lload0 C dX10_isAddress_0 ?_
  refine s_lconst (v := 0) C (by decide) dX10_isAddress_1 ?_
  refine s_ldc2 (v := 63) C k_1765 dX10_isAddress_2 ?_
  obtain ⟨r2, M1, hq, h⟩ := bI_e h
  refine s_callS (As := [.long l0, .long (0 : Int64), .long (63 : Int64)]) (v := some (.int r2)) C rfl (by omega) wX10_139 rfl (Nat.le_of_ble_eq_true rfl) dX10_isAddress_5 (tX10_in C.2.2.2.2.2.2.1 (by omega)  hq) ?_
  obtain ⟨hb, h⟩ := ck_e h
  exact s_zret C R h (isB_n hb).1 dX10_isAddress_8
set_option maxRecDepth 4000 in
theorem bX10_wrongsAt_36 {E : En} {X : Xc} {d : Nat} {r : Int32} {M M' : Mem} {o : Nat} {x1 : Int32} {x3 : Int32} {sx0 : Int32} {sx1 : Int32} (C : Cx E X d cX10_wrongsAt RX10 4) (R : Rt E X (some .int) (some (.int r)) M') (hd : 1 ≤ d) {k4 : Nat → Int32 → Int32 → Int32 → Mem → Option (Int32 × Mem)} (hk4 : ∀ (o : Nat) (x1 : Int32) (x2 : Int32) (x3 : Int32) (M : Mem) (_ : kd o = (10, 0)), k4 o x1 x2 x3 M = some (r, M') → At E X 4 [some (.ref (ad E o)), some (.int x1), some (.int x2), some (.int x3)] [] M) (ho : kd o = (10, 0)) (h : fX10_wrongsAt_36 k4 o x1 x3 sx0 sx1 M = some (r, M')) : At E X 36 [some (.ref (ad E o)), some (.int x1), none, some (.int x3)] [.int sx1, .int sx0] M := by
  unfold fX10_wrongsAt_36 at h
  refine s_iadd C dX10_wrongsAt_36 ?_
  refine s_istore2 C rfl dX10_wrongsAt_37 ?_
  refine s_iinc3 (v := 1) C rfl dX10_wrongsAt_38 (by decide) ?_
  refine s_goto (tgt := 4) C dX10_wrongsAt_41 (by decide) ?_
  exact hk4 _ _ _ _ _ ho h
set_option maxRecDepth 4000 in
theorem bX10_wrongsAt_35 {E : En} {X : Xc} {d : Nat} {r : Int32} {M M' : Mem} {o : Nat} {x1 : Int32} {x3 : Int32} {sx0 : Int32} (C : Cx E X d cX10_wrongsAt RX10 4) (R : Rt E X (some .int) (some (.int r)) M') (hd : 1 ≤ d) {k4 : Nat → Int32 → Int32 → Int32 → Mem → Option (Int32 × Mem)} (hk4 : ∀ (o : Nat) (x1 : Int32) (x2 : Int32) (x3 : Int32) (M : Mem) (_ : kd o = (10, 0)), k4 o x1 x2 x3 M = some (r, M') → At E X 4 [some (.ref (ad E o)), some (.int x1), some (.int x2), some (.int x3)] [] M) (ho : kd o = (10, 0)) (h : fX10_wrongsAt_35 k4 o x1 x3 sx0 M = some (r, M')) : At E X 35 [some (.ref (ad E o)), some (.int x1), none, some (.int x3)] [.int sx0] M := by
  unfold fX10_wrongsAt_35 at h
  refine s_iconst (v := 0) C (by decide) dX10_wrongsAt_35 ?_
  exact bX10_wrongsAt_36 C R hd (hk4) ho h
set_option maxRecDepth 4000 in
theorem bX10_wrongsAt_4 {E : En} {X : Xc} {d : Nat} {r : Int32} {M' : Mem} (C : Cx E X d cX10_wrongsAt RX10 4) (R : Rt E X (some .int) (some (.int r)) M') (hd : 1 ≤ d)   : ∀ (n : Nat) (o : Nat) (x1 : Int32) (x2 : Int32) (x3 : Int32) (M : Mem) (_ : kd o = (10, 0)), fX10_wrongsAt_4  n o x1 x2 x3 M = some (r, M') → At E X 4 [some (.ref (ad E o)), some (.int x1), some (.int x2), some (.int x3)] [] M := by
  intro n
  induction n with
  | zero => intro o x1 x2 x3 M ho h; rw [fX10_wrongsAt_4] at h; cases h
  | succ n ih =>
    intro o x1 x2 x3 M ho h
    rw [fX10_wrongsAt_4] at h
    refine s_iload3 C dX10_wrongsAt_4 ?_
    refine s_aload0 C dX10_wrongsAt_5 ?_
    refine gX10_289 C ho dX10_wrongsAt_6 ?_
    refine s_ic_ge (tgt := 44) C h dX10_wrongsAt_9 (by decide) ⟨fun h => ?_, fun h => ?_⟩
    · refine s_iload2 C dX10_wrongsAt_44 ?_
      exact s_iret C R h dX10_wrongsAt_45
    · refine s_iload2 C dX10_wrongsAt_12 ?_
      refine s_aload0 C dX10_wrongsAt_13 ?_
      refine gX10_40 C ho dX10_wrongsAt_14 ?_
      refine s_iload3 C dX10_wrongsAt_17 ?_
      refine s_iald C (qX10_addressOf ho) h dX10_wrongsAt_18 (fun h => ?_)
      refine s_iload1 C dX10_wrongsAt_19 ?_
      refine s_ic_ne (tgt := 35) C h dX10_wrongsAt_20 (by decide) ⟨fun h => ?_, fun h => ?_⟩
      · refine s_fg 2 ?_
        exact bX10_wrongsAt_35 C R hd (ih) ho h
      · refine s_aload0 C dX10_wrongsAt_23 ?_
        refine s_iload3 C dX10_wrongsAt_24 ?_
        obtain ⟨r2, M1, hq, h⟩ := bI_e h
        refine s_callV (T := TX10) (As := [.int x3]) (v := some (.int r2)) C rfl ho (by decide) rfl (by omega) wX10_477 rfl (Nat.le_of_ble_eq_true rfl) dX10_wrongsAt_25 (tX10_isWrong C.2.2.2.2.2.2.1 (by omega) ho hq) ?_
        refine s_if_eq (tgt := 35) C h dX10_wrongsAt_28 (by decide) ⟨fun h => ?_, fun h => ?_⟩
        · refine s_fg 2 ?_
          exact bX10_wrongsAt_35 C R hd (ih) ho h
        · refine s_iconst (v := 1) C (by decide) dX10_wrongsAt_31 ?_
          refine s_goto (tgt := 36) C dX10_wrongsAt_32 (by decide) ?_
          refine s_fg 2 ?_
          exact bX10_wrongsAt_36 C R hd (ih) ho h
set_option maxRecDepth 4000 in
theorem tX10_wrongsAt {l : Launch} {E : En} {A : Nat → Prop} {d : Nat} {r : Int32} {M M' : Mem} {o : Nat} {x1 : Int32} (hE : Okk E A) (hd : 1 ≤ d) (ho : kd o = (10, 0)) (h : fX10_wrongsAt o x1 M = some (r, M')) : Ct l E A d yX10_wrongsAt cX10_wrongsAt 4 (some .int) [.ref (ad E o), .int x1] M (some (.int r)) M' := by
  refine Ct.mk (ls := [some (.ref (ad E o)), some (.int x1), none, none]) hE (by decide +kernel) rfl (Nat.le_of_ble_eq_true rfl) (fun X hXl hXA C R => ?_)
  subst hXl; subst hXA
  unfold fX10_wrongsAt at h
  refine s_iconst (v := 0) C (by decide) dX10_wrongsAt_0 ?_
  refine s_istore2 C rfl dX10_wrongsAt_1 ?_
  refine s_iconst (v := 0) C (by decide) dX10_wrongsAt_2 ?_
  refine s_istore3 C rfl dX10_wrongsAt_3 ?_
  exact bX10_wrongsAt_4 C R hd  LF _ _ _ _ _ ho h
set_option maxRecDepth 4000 in
theorem tX10_wrongs {l : Launch} {E : En} {A : Nat → Prop} {d : Nat} {r : Int32} {M M' : Mem} {o : Nat} {x1 : Int32} (hE : Okk E A) (hd : 6 ≤ d) (ho : kd o = (10, 0)) (h : fX10_wrongs o x1 M = some (r, M')) : Ct l E A d yX10_wrongs cX10_wrongs 2 (some .int) [.ref (ad E o), .int x1] M (some (.int r)) M' := by
  refine Ct.mk (ls := [some (.ref (ad E o)), some (.int x1)]) hE (by decide +kernel) rfl (Nat.le_of_ble_eq_true rfl) (fun X hXl hXA C R => ?_)
  subst hXl; subst hXA
  unfold fX10_wrongs at h
  refine s_aload0 C dX10_wrongs_0 ?_
  obtain ⟨r2, M1, hq, h⟩ := bI_e h
  refine s_callV (T := TX10) (As := []) (v := some (.int r2)) C rfl ho (by decide) rfl (by omega) wX10_484 rfl (Nat.le_of_ble_eq_true rfl) dX10_wrongs_1 (tX10_asks C.2.2.2.2.2.2.1 (by omega) ho hq) ?_
  refine s_if_eq (tgt := 23) C h dX10_wrongs_4 (by decide) ⟨fun h => ?_, fun h => ?_⟩
  · refine s_bipush (v := -2) C (by decide) dX10_wrongs_23 ?_
    exact s_iret C R h dX10_wrongs_25
  · refine s_iload1 C dX10_wrongs_7 ?_
    refine s_i2l C dX10_wrongs_8 ?_
    obtain ⟨r4, M3, hq, h⟩ := bI_e h
    refine s_callS (As := [.long (x1).toInt64]) (v := some (.int r4)) C rfl (by omega) wX10_492 rfl (Nat.le_of_ble_eq_true rfl) dX10_wrongs_9 (tX10_isAddress C.2.2.2.2.2.2.1 (by omega)  hq) ?_
    refine s_if_eq (tgt := 23) C h dX10_wrongs_12 (by decide) ⟨fun h => ?_, fun h => ?_⟩
    · refine s_bipush (v := -2) C (by decide) dX10_wrongs_23 ?_
      exact s_iret C R h dX10_wrongs_25
    · refine s_aload0 C dX10_wrongs_15 ?_
      refine s_iload1 C dX10_wrongs_16 ?_
      obtain ⟨r6, M5, hq, h⟩ := bI_e h
      refine s_callV (T := TX10) (As := [.int x1]) (v := some (.int r6)) C rfl ho (by decide) rfl (by omega) wX10_496 rfl (Nat.le_of_ble_eq_true rfl) dX10_wrongs_17 (tX10_wrongsAt C.2.2.2.2.2.2.1 (by omega) ho hq) ?_
      refine s_goto (tgt := 25) C dX10_wrongs_20 (by decide) ?_
      exact s_iret C R h dX10_wrongs_25
set_option maxRecDepth 4000 in
theorem bX10_worst_42 {E : En} {X : Xc} {d : Nat} {r : Int32} {M M' : Mem} {o : Nat} {x1 : Int32} {x2 : Int32} {x3 : Int32} (C : Cx E X d cX10_worst RX10 4) (R : Rt E X (some .int) (some (.int r)) M') (hd : 6 ≤ d) {k16 : Nat → Int32 → Int32 → Int32 → Mem → Option (Int32 × Mem)} (hk16 : ∀ (o : Nat) (x1 : Int32) (x2 : Int32) (x3 : Int32) (M : Mem) (_ : kd o = (10, 0)), k16 o x1 x2 x3 M = some (r, M') → At E X 16 [some (.ref (ad E o)), some (.int x1), some (.int x2), some (.int x3)] [] M) (ho : kd o = (10, 0)) (h : fX10_worst_42 k16 o x1 x2 x3 M = some (r, M')) : At E X 42 [some (.ref (ad E o)), some (.int x1), some (.int x2), some (.int x3)] [] M := by
  unfold fX10_worst_42 at h
  refine s_iinc3 (v := 1) C rfl dX10_worst_42 (by decide) ?_
  refine s_goto (tgt := 16) C dX10_worst_45 (by decide) ?_
  exact hk16 _ _ _ _ _ ho h
set_option maxRecDepth 4000 in
theorem bX10_worst_16 {E : En} {X : Xc} {d : Nat} {r : Int32} {M' : Mem} (C : Cx E X d cX10_worst RX10 4) (R : Rt E X (some .int) (some (.int r)) M') (hd : 6 ≤ d)   : ∀ (n : Nat) (o : Nat) (x1 : Int32) (x2 : Int32) (x3 : Int32) (M : Mem) (_ : kd o = (10, 0)), fX10_worst_16  n o x1 x2 x3 M = some (r, M') → At E X 16 [some (.ref (ad E o)), some (.int x1), some (.int x2), some (.int x3)] [] M := by
  intro n
  induction n with
  | zero => intro o x1 x2 x3 M ho h; rw [fX10_worst_16] at h; cases h
  | succ n ih =>
    intro o x1 x2 x3 M ho h
    rw [fX10_worst_16] at h
    refine s_iload3 C dX10_worst_16 ?_
    refine s_bipush (v := 64) C (by decide) dX10_worst_17 ?_
    refine s_ic_ge (tgt := 48) C h dX10_worst_19 (by decide) ⟨fun h => ?_, fun h => ?_⟩
    · refine s_iload1 C dX10_worst_48 ?_
      exact s_iret C R h dX10_worst_49
    · refine s_aload0 C dX10_worst_22 ?_
      refine s_iload3 C dX10_worst_23 ?_
      obtain ⟨r2, M1, hq, h⟩ := bI_e h
      refine s_callV (T := TX10) (As := [.int x3]) (v := some (.int r2)) C rfl ho (by decide) rfl (by omega) wX10_496 rfl (Nat.le_of_ble_eq_true rfl) dX10_worst_24 (tX10_wrongsAt C.2.2.2.2.2.2.1 (by omega) ho hq) ?_
      refine s_iload2 C dX10_worst_27 ?_
      refine s_ic_gt (tgt := 34) C h dX10_worst_28 (by decide) ⟨fun h => ?_, fun h => ?_⟩
      · refine s_aload0 C dX10_worst_34 ?_
        refine s_iload3 C dX10_worst_35 ?_
        obtain ⟨r4, M3, hq, h⟩ := bI_e h
        refine s_callV (T := TX10) (As := [.int x3]) (v := some (.int r4)) C rfl ho (by decide) rfl (by omega) wX10_496 rfl (Nat.le_of_ble_eq_true rfl) dX10_worst_36 (tX10_wrongsAt C.2.2.2.2.2.2.1 (by omega) ho hq) ?_
        refine s_istore2 C rfl dX10_worst_39 ?_
        refine s_iload3 C dX10_worst_40 ?_
        refine s_istore1 C rfl dX10_worst_41 ?_
        exact bX10_worst_42 C R hd (ih) ho h
      · refine s_goto (tgt := 42) C dX10_worst_31 (by decide) ?_
        exact bX10_worst_42 C R hd (ih) ho h
set_option maxRecDepth 4000 in
theorem tX10_worst {l : Launch} {E : En} {A : Nat → Prop} {d : Nat} {r : Int32} {M M' : Mem} {o : Nat} (hE : Okk E A) (hd : 6 ≤ d) (ho : kd o = (10, 0)) (h : fX10_worst o M = some (r, M')) : Ct l E A d yX10_worst cX10_worst 4 (some .int) [.ref (ad E o)] M (some (.int r)) M' := by
  refine Ct.mk (ls := [some (.ref (ad E o)), none, none, none]) hE (by decide +kernel) rfl (Nat.le_of_ble_eq_true rfl) (fun X hXl hXA C R => ?_)
  subst hXl; subst hXA
  unfold fX10_worst at h
  refine s_aload0 C dX10_worst_0 ?_
  obtain ⟨r2, M1, hq, h⟩ := bI_e h
  refine s_callV (T := TX10) (As := []) (v := some (.int r2)) C rfl ho (by decide) rfl (by omega) wX10_484 rfl (Nat.le_of_ble_eq_true rfl) dX10_worst_1 (tX10_asks C.2.2.2.2.2.2.1 (by omega) ho hq) ?_
  refine s_if_ne (tgt := 10) C h dX10_worst_4 (by decide) ⟨fun h => ?_, fun h => ?_⟩
  · refine s_iconst (v := -1) C (by decide) dX10_worst_10 ?_
    refine s_istore1 C rfl dX10_worst_11 ?_
    refine s_iconst (v := 0) C (by decide) dX10_worst_12 ?_
    refine s_istore2 C rfl dX10_worst_13 ?_
    refine s_iconst (v := 0) C (by decide) dX10_worst_14 ?_
    refine s_istore3 C rfl dX10_worst_15 ?_
    exact bX10_worst_16 C R hd  LF _ _ _ _ _ ho h
  · refine s_bipush (v := -2) C (by decide) dX10_worst_7 ?_
    exact s_iret C R h dX10_worst_9
set_option maxRecDepth 4000 in
theorem bX10_streak_39 {E : En} {X : Xc} {d : Nat} {r : Int32} {M M' : Mem} {o : Nat} {x1 : Int32} {x3 : Int32} {sx0 : Int32} (C : Cx E X d cX10_streak RX10 4) (R : Rt E X (some .int) (some (.int r)) M') (hd : 6 ≤ d) {k16 : Nat → Int32 → Int32 → Int32 → Mem → Option (Int32 × Mem)} (hk16 : ∀ (o : Nat) (x1 : Int32) (x2 : Int32) (x3 : Int32) (M : Mem) (_ : kd o = (10, 0)), k16 o x1 x2 x3 M = some (r, M') → At E X 16 [some (.ref (ad E o)), some (.int x1), some (.int x2), some (.int x3)] [] M) (ho : kd o = (10, 0)) (h : fX10_streak_39 k16 o x1 x3 sx0 M = some (r, M')) : At E X 39 [some (.ref (ad E o)), some (.int x1), none, some (.int x3)] [.int sx0] M := by
  unfold fX10_streak_39 at h
  refine s_istore2 C rfl dX10_streak_39 ?_
  refine s_iload1 C dX10_streak_40 ?_
  refine s_iload2 C dX10_streak_41 ?_
  refine s_max C rfl (by omega) wX10_134 (Nat.le_of_ble_eq_true rfl) dX10_streak_42 ?_
  refine s_istore1 C rfl dX10_streak_45 ?_
  refine s_iinc3 (v := 1) C rfl dX10_streak_46 (by decide) ?_
  refine s_goto (tgt := 16) C dX10_streak_49 (by decide) ?_
  exact hk16 _ _ _ _ _ ho h
set_option maxRecDepth 4000 in
theorem bX10_streak_16 {E : En} {X : Xc} {d : Nat} {r : Int32} {M' : Mem} (C : Cx E X d cX10_streak RX10 4) (R : Rt E X (some .int) (some (.int r)) M') (hd : 6 ≤ d)   : ∀ (n : Nat) (o : Nat) (x1 : Int32) (x2 : Int32) (x3 : Int32) (M : Mem) (_ : kd o = (10, 0)), fX10_streak_16  n o x1 x2 x3 M = some (r, M') → At E X 16 [some (.ref (ad E o)), some (.int x1), some (.int x2), some (.int x3)] [] M := by
  intro n
  induction n with
  | zero => intro o x1 x2 x3 M ho h; rw [fX10_streak_16] at h; cases h
  | succ n ih =>
    intro o x1 x2 x3 M ho h
    rw [fX10_streak_16] at h
    refine s_iload3 C dX10_streak_16 ?_
    refine s_aload0 C dX10_streak_17 ?_
    refine gX10_289 C ho dX10_streak_18 ?_
    refine s_ic_ge (tgt := 52) C h dX10_streak_21 (by decide) ⟨fun h => ?_, fun h => ?_⟩
    · refine s_iload1 C dX10_streak_52 ?_
      exact s_iret C R h dX10_streak_53
    · refine s_aload0 C dX10_streak_24 ?_
      refine s_iload3 C dX10_streak_25 ?_
      obtain ⟨r2, M1, hq, h⟩ := bI_e h
      refine s_callV (T := TX10) (As := [.int x3]) (v := some (.int r2)) C rfl ho (by decide) rfl (by omega) wX10_477 rfl (Nat.le_of_ble_eq_true rfl) dX10_streak_26 (tX10_isWrong C.2.2.2.2.2.2.1 (by omega) ho hq) ?_
      refine s_if_eq (tgt := 36) C h dX10_streak_29 (by decide) ⟨fun h => ?_, fun h => ?_⟩
      · refine s_iload2 C dX10_streak_36 ?_
        refine s_iconst (v := 1) C (by decide) dX10_streak_37 ?_
        refine s_iadd C dX10_streak_38 ?_
        refine s_fg 2 ?_
        exact bX10_streak_39 C R hd (ih) ho h
      · refine s_iconst (v := 0) C (by decide) dX10_streak_32 ?_
        refine s_goto (tgt := 39) C dX10_streak_33 (by decide) ?_
        refine s_fg 2 ?_
        exact bX10_streak_39 C R hd (ih) ho h
set_option maxRecDepth 4000 in
theorem tX10_streak {l : Launch} {E : En} {A : Nat → Prop} {d : Nat} {r : Int32} {M M' : Mem} {o : Nat} (hE : Okk E A) (hd : 6 ≤ d) (ho : kd o = (10, 0)) (h : fX10_streak o M = some (r, M')) : Ct l E A d yX10_streak cX10_streak 4 (some .int) [.ref (ad E o)] M (some (.int r)) M' := by
  refine Ct.mk (ls := [some (.ref (ad E o)), none, none, none]) hE (by decide +kernel) rfl (Nat.le_of_ble_eq_true rfl) (fun X hXl hXA C R => ?_)
  subst hXl; subst hXA
  unfold fX10_streak at h
  refine s_aload0 C dX10_streak_0 ?_
  obtain ⟨r2, M1, hq, h⟩ := bI_e h
  refine s_callV (T := TX10) (As := []) (v := some (.int r2)) C rfl ho (by decide) rfl (by omega) wX10_484 rfl (Nat.le_of_ble_eq_true rfl) dX10_streak_1 (tX10_asks C.2.2.2.2.2.2.1 (by omega) ho hq) ?_
  refine s_if_ne (tgt := 10) C h dX10_streak_4 (by decide) ⟨fun h => ?_, fun h => ?_⟩
  · refine s_iconst (v := 0) C (by decide) dX10_streak_10 ?_
    refine s_istore1 C rfl dX10_streak_11 ?_
    refine s_iconst (v := 0) C (by decide) dX10_streak_12 ?_
    refine s_istore2 C rfl dX10_streak_13 ?_
    refine s_iconst (v := 0) C (by decide) dX10_streak_14 ?_
    refine s_istore3 C rfl dX10_streak_15 ?_
    exact bX10_streak_16 C R hd  LF _ _ _ _ _ ho h
  · refine s_bipush (v := -2) C (by decide) dX10_streak_7 ?_
    exact s_iret C R h dX10_streak_9
set_option maxRecDepth 4000 in
theorem bX10_said_50 {E : En} {X : Xc} {d : Nat} {r : Int32} {M M' : Mem} {o : Nat} {x1 : Int32} {x3 : Int32} {sx0 : Int32} {sx1 : Int32} (C : Cx E X d cX10_said RX10 4) (R : Rt E X (some .int) (some (.int r)) M') (hd : 6 ≤ d) {k26 : Nat → Int32 → Int32 → Int32 → Mem → Option (Int32 × Mem)} (hk26 : ∀ (o : Nat) (x1 : Int32) (x2 : Int32) (x3 : Int32) (M : Mem) (_ : kd o = (10, 0)), k26 o x1 x2 x3 M = some (r, M') → At E X 26 [some (.ref (ad E o)), some (.int x1), some (.int x2), some (.int x3)] [] M) (ho : kd o = (10, 0)) (h : fX10_said_50 k26 o x1 x3 sx0 sx1 M = some (r, M')) : At E X 50 [some (.ref (ad E o)), some (.int x1), none, some (.int x3)] [.int sx1, .int sx0] M := by
  unfold fX10_said_50 at h
  refine s_iadd C dX10_said_50 ?_
  refine s_istore2 C rfl dX10_said_51 ?_
  refine s_iinc3 (v := 1) C rfl dX10_said_52 (by decide) ?_
  refine s_goto (tgt := 26) C dX10_said_55 (by decide) ?_
  exact hk26 _ _ _ _ _ ho h
set_option maxRecDepth 4000 in
theorem bX10_said_26 {E : En} {X : Xc} {d : Nat} {r : Int32} {M' : Mem} (C : Cx E X d cX10_said RX10 4) (R : Rt E X (some .int) (some (.int r)) M') (hd : 6 ≤ d)   : ∀ (n : Nat) (o : Nat) (x1 : Int32) (x2 : Int32) (x3 : Int32) (M : Mem) (_ : kd o = (10, 0)), fX10_said_26  n o x1 x2 x3 M = some (r, M') → At E X 26 [some (.ref (ad E o)), some (.int x1), some (.int x2), some (.int x3)] [] M := by
  intro n
  induction n with
  | zero => intro o x1 x2 x3 M ho h; rw [fX10_said_26] at h; cases h
  | succ n ih =>
    intro o x1 x2 x3 M ho h
    rw [fX10_said_26] at h
    refine s_iload3 C dX10_said_26 ?_
    refine s_aload0 C dX10_said_27 ?_
    refine gX10_289 C ho dX10_said_28 ?_
    refine s_ic_ge (tgt := 58) C h dX10_said_31 (by decide) ⟨fun h => ?_, fun h => ?_⟩
    · refine s_iload2 C dX10_said_58 ?_
      exact s_iret C R h dX10_said_59
    · refine s_iload2 C dX10_said_34 ?_
      refine s_aload0 C dX10_said_35 ?_
      refine gX10_106 C ho dX10_said_36 ?_
      refine s_iload3 C dX10_said_39 ?_
      refine s_iald C (qX10_whoOf ho) h dX10_said_40 (fun h => ?_)
      refine s_iload1 C dX10_said_41 ?_
      refine s_ic_ne (tgt := 49) C h dX10_said_42 (by decide) ⟨fun h => ?_, fun h => ?_⟩
      · refine s_iconst (v := 0) C (by decide) dX10_said_49 ?_
        refine s_fg 2 ?_
        exact bX10_said_50 C R hd (ih) ho h
      · refine s_iconst (v := 1) C (by decide) dX10_said_45 ?_
        refine s_goto (tgt := 50) C dX10_said_46 (by decide) ?_
        refine s_fg 2 ?_
        exact bX10_said_50 C R hd (ih) ho h
set_option maxRecDepth 4000 in
theorem tX10_said {l : Launch} {E : En} {A : Nat → Prop} {d : Nat} {r : Int32} {M M' : Mem} {o : Nat} {x1 : Int32} (hE : Okk E A) (hd : 6 ≤ d) (ho : kd o = (10, 0)) (h : fX10_said o x1 M = some (r, M')) : Ct l E A d yX10_said cX10_said 4 (some .int) [.ref (ad E o), .int x1] M (some (.int r)) M' := by
  refine Ct.mk (ls := [some (.ref (ad E o)), some (.int x1), none, none]) hE (by decide +kernel) rfl (Nat.le_of_ble_eq_true rfl) (fun X hXl hXA C R => ?_)
  subst hXl; subst hXA
  unfold fX10_said at h
  refine s_aload0 C dX10_said_0 ?_
  obtain ⟨r2, M1, hq, h⟩ := bI_e h
  refine s_callV (T := TX10) (As := []) (v := some (.int r2)) C rfl ho (by decide) rfl (by omega) wX10_484 rfl (Nat.le_of_ble_eq_true rfl) dX10_said_1 (tX10_asks C.2.2.2.2.2.2.1 (by omega) ho hq) ?_
  refine s_if_eq (tgt := 19) C h dX10_said_4 (by decide) ⟨fun h => ?_, fun h => ?_⟩
  · refine s_bipush (v := -2) C (by decide) dX10_said_19 ?_
    exact s_iret C R h dX10_said_21
  · refine s_iload1 C dX10_said_7 ?_
    refine s_i2l C dX10_said_8 ?_
    refine s_lconst (v := 0) C (by decide) dX10_said_9 ?_
    refine s_ldc2 (v := 2) C k_1449 dX10_said_10 ?_
    obtain ⟨r4, M3, hq, h⟩ := bI_e h
    refine s_callS (As := [.long (x1).toInt64, .long (0 : Int64), .long (2 : Int64)]) (v := some (.int r4)) C rfl (by omega) wX10_139 rfl (Nat.le_of_ble_eq_true rfl) dX10_said_13 (tX10_in C.2.2.2.2.2.2.1 (by omega)  hq) ?_
    refine s_if_ne (tgt := 22) C h dX10_said_16 (by decide) ⟨fun h => ?_, fun h => ?_⟩
    · refine s_iconst (v := 0) C (by decide) dX10_said_22 ?_
      refine s_istore2 C rfl dX10_said_23 ?_
      refine s_iconst (v := 0) C (by decide) dX10_said_24 ?_
      refine s_istore3 C rfl dX10_said_25 ?_
      exact bX10_said_26 C R hd  LF _ _ _ _ _ ho h
    · refine s_bipush (v := -2) C (by decide) dX10_said_19 ?_
      exact s_iret C R h dX10_said_21
set_option maxRecDepth 4000 in
theorem bX10_gained_76 {E : En} {X : Xc} {d : Nat} {r : Int32} {M M' : Mem} {o : Nat} {x1 : Int32} {x2 : Int32} {x3 : Int32} (C : Cx E X d cX10_gained RX10 4) (R : Rt E X (some .int) (some (.int r)) M') (hd : 6 ≤ d) {k27 : Nat → Int32 → Int32 → Int32 → Mem → Option (Int32 × Mem)} (hk27 : ∀ (o : Nat) (x1 : Int32) (x2 : Int32) (x3 : Int32) (M : Mem) (_ : kd o = (10, 0)), k27 o x1 x2 x3 M = some (r, M') → At E X 27 [some (.ref (ad E o)), some (.int x1), some (.int x2), some (.int x3)] [] M) (ho : kd o = (10, 0)) (h : fX10_gained_76 k27 o x1 x2 x3 M = some (r, M')) : At E X 76 [some (.ref (ad E o)), some (.int x1), some (.int x2), some (.int x3)] [] M := by
  unfold fX10_gained_76 at h
  refine s_iinc3 (v := 1) C rfl dX10_gained_76 (by decide) ?_
  refine s_goto (tgt := 27) C dX10_gained_79 (by decide) ?_
  exact hk27 _ _ _ _ _ ho h
set_option maxRecDepth 4000 in
theorem bX10_gained_74 {E : En} {X : Xc} {d : Nat} {r : Int32} {M M' : Mem} {o : Nat} {x1 : Int32} {x3 : Int32} {sx0 : Int32} {sx1 : Int32} (C : Cx E X d cX10_gained RX10 4) (R : Rt E X (some .int) (some (.int r)) M') (hd : 6 ≤ d) {k27 : Nat → Int32 → Int32 → Int32 → Mem → Option (Int32 × Mem)} (hk27 : ∀ (o : Nat) (x1 : Int32) (x2 : Int32) (x3 : Int32) (M : Mem) (_ : kd o = (10, 0)), k27 o x1 x2 x3 M = some (r, M') → At E X 27 [some (.ref (ad E o)), some (.int x1), some (.int x2), some (.int x3)] [] M) (ho : kd o = (10, 0)) (h : fX10_gained_74 k27 o x1 x3 sx0 sx1 M = some (r, M')) : At E X 74 [some (.ref (ad E o)), some (.int x1), none, some (.int x3)] [.int sx1, .int sx0] M := by
  unfold fX10_gained_74 at h
  refine s_iadd C dX10_gained_74 ?_
  refine s_istore2 C rfl dX10_gained_75 ?_
  exact bX10_gained_76 C R hd (hk27) ho h
set_option maxRecDepth 4000 in
theorem bX10_gained_27 {E : En} {X : Xc} {d : Nat} {r : Int32} {M' : Mem} (C : Cx E X d cX10_gained RX10 4) (R : Rt E X (some .int) (some (.int r)) M') (hd : 6 ≤ d)   : ∀ (n : Nat) (o : Nat) (x1 : Int32) (x2 : Int32) (x3 : Int32) (M : Mem) (_ : kd o = (10, 0)), fX10_gained_27  n o x1 x2 x3 M = some (r, M') → At E X 27 [some (.ref (ad E o)), some (.int x1), some (.int x2), some (.int x3)] [] M := by
  intro n
  induction n with
  | zero => intro o x1 x2 x3 M ho h; rw [fX10_gained_27] at h; cases h
  | succ n ih =>
    intro o x1 x2 x3 M ho h
    rw [fX10_gained_27] at h
    refine s_iload3 C dX10_gained_27 ?_
    refine s_aload0 C dX10_gained_28 ?_
    refine gX10_289 C ho dX10_gained_29 ?_
    refine s_ic_ge (tgt := 82) C h dX10_gained_32 (by decide) ⟨fun h => ?_, fun h => ?_⟩
    · refine s_iload2 C dX10_gained_82 ?_
      exact s_iret C R h dX10_gained_83
    · refine s_aload0 C dX10_gained_35 ?_
      refine gX10_106 C ho dX10_gained_36 ?_
      refine s_iload3 C dX10_gained_39 ?_
      refine s_iald C (qX10_whoOf ho) h dX10_gained_40 (fun h => ?_)
      refine s_iload1 C dX10_gained_41 ?_
      refine s_ic_ne (tgt := 76) C h dX10_gained_42 (by decide) ⟨fun h => ?_, fun h => ?_⟩
      · exact bX10_gained_76 C R hd (ih) ho h
      · refine s_aload0 C dX10_gained_45 ?_
        refine gX10_91 C ho dX10_gained_46 ?_
        refine s_iload3 C dX10_gained_49 ?_
        refine s_iald C (qX10_guessOf ho) h dX10_gained_50 (fun h => ?_)
        refine s_aload0 C dX10_gained_51 ?_
        refine gX10_103 C ho dX10_gained_52 ?_
        refine s_iload3 C dX10_gained_55 ?_
        refine s_iald C (qX10_firstOf ho) h dX10_gained_56 (fun h => ?_)
        refine s_ic_eq (tgt := 76) C h dX10_gained_57 (by decide) ⟨fun h => ?_, fun h => ?_⟩
        · exact bX10_gained_76 C R hd (ih) ho h
        · refine s_iload2 C dX10_gained_60 ?_
          refine s_aload0 C dX10_gained_61 ?_
          refine s_iload3 C dX10_gained_62 ?_
          obtain ⟨r2, M1, hq, h⟩ := bI_e h
          refine s_callV (T := TX10) (As := [.int x3]) (v := some (.int r2)) C rfl ho (by decide) rfl (by omega) wX10_477 rfl (Nat.le_of_ble_eq_true rfl) dX10_gained_63 (tX10_isWrong C.2.2.2.2.2.2.1 (by omega) ho hq) ?_
          refine s_if_eq (tgt := 73) C h dX10_gained_66 (by decide) ⟨fun h => ?_, fun h => ?_⟩
          · refine s_iconst (v := 1) C (by decide) dX10_gained_73 ?_
            refine s_fg 2 ?_
            exact bX10_gained_74 C R hd (ih) ho h
          · refine s_iconst (v := -1) C (by decide) dX10_gained_69 ?_
            refine s_goto (tgt := 74) C dX10_gained_70 (by decide) ?_
            refine s_fg 2 ?_
            exact bX10_gained_74 C R hd (ih) ho h
set_option maxRecDepth 4000 in
theorem tX10_gained {l : Launch} {E : En} {A : Nat → Prop} {d : Nat} {r : Int32} {M M' : Mem} {o : Nat} {x1 : Int32} (hE : Okk E A) (hd : 6 ≤ d) (ho : kd o = (10, 0)) (h : fX10_gained o x1 M = some (r, M')) : Ct l E A d yX10_gained cX10_gained 4 (some .int) [.ref (ad E o), .int x1] M (some (.int r)) M' := by
  refine Ct.mk (ls := [some (.ref (ad E o)), some (.int x1), none, none]) hE (by decide +kernel) rfl (Nat.le_of_ble_eq_true rfl) (fun X hXl hXA C R => ?_)
  subst hXl; subst hXA
  unfold fX10_gained at h
  refine s_aload0 C dX10_gained_0 ?_
  obtain ⟨r2, M1, hq, h⟩ := bI_e h
  refine s_callV (T := TX10) (As := []) (v := some (.int r2)) C rfl ho (by decide) rfl (by omega) wX10_484 rfl (Nat.le_of_ble_eq_true rfl) dX10_gained_1 (tX10_asks C.2.2.2.2.2.2.1 (by omega) ho hq) ?_
  refine s_if_eq (tgt := 19) C h dX10_gained_4 (by decide) ⟨fun h => ?_, fun h => ?_⟩
  · refine s_sipush (v := -1000) C (by decide) dX10_gained_19 ?_
    exact s_iret C R h dX10_gained_22
  · refine s_iload1 C dX10_gained_7 ?_
    refine s_i2l C dX10_gained_8 ?_
    refine s_lconst (v := 0) C (by decide) dX10_gained_9 ?_
    refine s_ldc2 (v := 2) C k_1449 dX10_gained_10 ?_
    obtain ⟨r4, M3, hq, h⟩ := bI_e h
    refine s_callS (As := [.long (x1).toInt64, .long (0 : Int64), .long (2 : Int64)]) (v := some (.int r4)) C rfl (by omega) wX10_139 rfl (Nat.le_of_ble_eq_true rfl) dX10_gained_13 (tX10_in C.2.2.2.2.2.2.1 (by omega)  hq) ?_
    refine s_if_ne (tgt := 23) C h dX10_gained_16 (by decide) ⟨fun h => ?_, fun h => ?_⟩
    · refine s_iconst (v := 0) C (by decide) dX10_gained_23 ?_
      refine s_istore2 C rfl dX10_gained_24 ?_
      refine s_iconst (v := 0) C (by decide) dX10_gained_25 ?_
      refine s_istore3 C rfl dX10_gained_26 ?_
      exact bX10_gained_27 C R hd  LF _ _ _ _ _ ho h
    · refine s_sipush (v := -1000) C (by decide) dX10_gained_19 ?_
      exact s_iret C R h dX10_gained_22
set_option maxRecDepth 4000 in
theorem bX10_provided_52 {E : En} {X : Xc} {d : Nat} {r : Int32} {M M' : Mem} {o : Nat} {x1 : Int32} {x3 : Int32} {sx0 : Int32} {sx1 : Int32} (C : Cx E X d cX10_provided RX10 4) (R : Rt E X (some .int) (some (.int r)) M') (hd : 6 ≤ d) {k28 : Nat → Int32 → Int32 → Int32 → Mem → Option (Int32 × Mem)} (hk28 : ∀ (o : Nat) (x1 : Int32) (x2 : Int32) (x3 : Int32) (M : Mem) (_ : kd o = (10, 0)), k28 o x1 x2 x3 M = some (r, M') → At E X 28 [some (.ref (ad E o)), some (.int x1), some (.int x2), some (.int x3)] [] M) (ho : kd o = (10, 0)) (h : fX10_provided_52 k28 o x1 x3 sx0 sx1 M = some (r, M')) : At E X 52 [some (.ref (ad E o)), some (.int x1), none, some (.int x3)] [.int sx1, .int sx0] M := by
  unfold fX10_provided_52 at h
  refine s_iadd C dX10_provided_52 ?_
  refine s_istore2 C rfl dX10_provided_53 ?_
  refine s_iinc3 (v := 1) C rfl dX10_provided_54 (by decide) ?_
  refine s_goto (tgt := 28) C dX10_provided_57 (by decide) ?_
  exact hk28 _ _ _ _ _ ho h
set_option maxRecDepth 4000 in
theorem bX10_provided_28 {E : En} {X : Xc} {d : Nat} {r : Int32} {M' : Mem} (C : Cx E X d cX10_provided RX10 4) (R : Rt E X (some .int) (some (.int r)) M') (hd : 6 ≤ d)   : ∀ (n : Nat) (o : Nat) (x1 : Int32) (x2 : Int32) (x3 : Int32) (M : Mem) (_ : kd o = (10, 0)), fX10_provided_28  n o x1 x2 x3 M = some (r, M') → At E X 28 [some (.ref (ad E o)), some (.int x1), some (.int x2), some (.int x3)] [] M := by
  intro n
  induction n with
  | zero => intro o x1 x2 x3 M ho h; rw [fX10_provided_28] at h; cases h
  | succ n ih =>
    intro o x1 x2 x3 M ho h
    rw [fX10_provided_28] at h
    refine s_iload3 C dX10_provided_28 ?_
    refine s_aload0 C dX10_provided_29 ?_
    refine gX10_289 C ho dX10_provided_30 ?_
    refine s_ic_ge (tgt := 60) C h dX10_provided_33 (by decide) ⟨fun h => ?_, fun h => ?_⟩
    · refine s_iload2 C dX10_provided_60 ?_
      exact s_iret C R h dX10_provided_61
    · refine s_iload2 C dX10_provided_36 ?_
      refine s_aload0 C dX10_provided_37 ?_
      refine gX10_94 C ho dX10_provided_38 ?_
      refine s_iload3 C dX10_provided_41 ?_
      refine s_iald C (qX10_providerOf ho) h dX10_provided_42 (fun h => ?_)
      refine s_iload1 C dX10_provided_43 ?_
      refine s_ic_ne (tgt := 51) C h dX10_provided_44 (by decide) ⟨fun h => ?_, fun h => ?_⟩
      · refine s_iconst (v := 0) C (by decide) dX10_provided_51 ?_
        refine s_fg 2 ?_
        exact bX10_provided_52 C R hd (ih) ho h
      · refine s_iconst (v := 1) C (by decide) dX10_provided_47 ?_
        refine s_goto (tgt := 52) C dX10_provided_48 (by decide) ?_
        refine s_fg 2 ?_
        exact bX10_provided_52 C R hd (ih) ho h
set_option maxRecDepth 4000 in
theorem tX10_provided {l : Launch} {E : En} {A : Nat → Prop} {d : Nat} {r : Int32} {M M' : Mem} {o : Nat} {x1 : Int32} (hE : Okk E A) (hd : 6 ≤ d) (ho : kd o = (10, 0)) (h : fX10_provided o x1 M = some (r, M')) : Ct l E A d yX10_provided cX10_provided 4 (some .int) [.ref (ad E o), .int x1] M (some (.int r)) M' := by
  refine Ct.mk (ls := [some (.ref (ad E o)), some (.int x1), none, none]) hE (by decide +kernel) rfl (Nat.le_of_ble_eq_true rfl) (fun X hXl hXA C R => ?_)
  subst hXl; subst hXA
  unfold fX10_provided at h
  refine s_aload0 C dX10_provided_0 ?_
  obtain ⟨r2, M1, hq, h⟩ := bI_e h
  refine s_callV (T := TX10) (As := []) (v := some (.int r2)) C rfl ho (by decide) rfl (by omega) wX10_484 rfl (Nat.le_of_ble_eq_true rfl) dX10_provided_1 (tX10_asks C.2.2.2.2.2.2.1 (by omega) ho hq) ?_
  refine s_if_eq (tgt := 21) C h dX10_provided_4 (by decide) ⟨fun h => ?_, fun h => ?_⟩
  · refine s_bipush (v := -2) C (by decide) dX10_provided_21 ?_
    exact s_iret C R h dX10_provided_23
  · refine s_iload1 C dX10_provided_7 ?_
    refine s_i2l C dX10_provided_8 ?_
    refine s_lconst (v := 0) C (by decide) dX10_provided_9 ?_
    refine s_aload0 C dX10_provided_10 ?_
    obtain ⟨r4, M3, hq, h⟩ := bI_e h
    refine s_callV (T := TX10) (As := []) (v := some (.int r4)) C rfl ho (by decide) rfl (by omega) wX10_335 rfl (Nat.le_of_ble_eq_true rfl) dX10_provided_11 (tX10_tables C.2.2.2.2.2.2.1 (by omega) ho hq) ?_
    refine s_i2l C dX10_provided_14 ?_
    obtain ⟨r6, M5, hq, h⟩ := bI_e h
    refine s_callS (As := [.long (x1).toInt64, .long (0 : Int64), .long (r4).toInt64]) (v := some (.int r6)) C rfl (by omega) wX10_139 rfl (Nat.le_of_ble_eq_true rfl) dX10_provided_15 (tX10_in C.2.2.2.2.2.2.1 (by omega)  hq) ?_
    refine s_if_ne (tgt := 24) C h dX10_provided_18 (by decide) ⟨fun h => ?_, fun h => ?_⟩
    · refine s_iconst (v := 0) C (by decide) dX10_provided_24 ?_
      refine s_istore2 C rfl dX10_provided_25 ?_
      refine s_iconst (v := 0) C (by decide) dX10_provided_26 ?_
      refine s_istore3 C rfl dX10_provided_27 ?_
      exact bX10_provided_28 C R hd  LF _ _ _ _ _ ho h
    · refine s_bipush (v := -2) C (by decide) dX10_provided_21 ?_
      exact s_iret C R h dX10_provided_23
set_option maxRecDepth 4000 in
theorem tX10_history {l : Launch} {E : En} {A : Nat → Prop} {d : Nat} {r : Int32} {M M' : Mem} {o : Nat} {x1 : Int32} {x2 : Int32} (hE : Okk E A) (hd : 6 ≤ d) (ho : kd o = (10, 0)) (h : fX10_history o x1 x2 M = some (r, M')) : Ct l E A d yX10_history cX10_history 3 (some .int) [.ref (ad E o), .int x1, .int x2] M (some (.int r)) M' := by
  refine Ct.mk (ls := [some (.ref (ad E o)), some (.int x1), some (.int x2)]) hE (by decide +kernel) rfl (Nat.le_of_ble_eq_true rfl) (fun X hXl hXA C R => ?_)
  subst hXl; subst hXA
  unfold fX10_history at h
  refine s_aload0 C dX10_history_0 ?_
  refine s_iload1 C dX10_history_1 ?_
  obtain ⟨r2, M1, hq, h⟩ := bI_e h
  refine s_callV (T := TX10) (As := [.int x1]) (v := some (.int r2)) C rfl ho (by decide) rfl (by omega) wX10_499 rfl (Nat.le_of_ble_eq_true rfl) dX10_history_2 (tX10_asksAt C.2.2.2.2.2.2.1 (by omega) ho hq) ?_
  refine s_if_eq (tgt := 34) C h dX10_history_5 (by decide) ⟨fun h => ?_, fun h => ?_⟩
  · refine s_bipush (v := -2) C (by decide) dX10_history_34 ?_
    exact s_iret C R h dX10_history_36
  · refine s_iload2 C dX10_history_8 ?_
    refine s_i2l C dX10_history_9 ?_
    refine s_lconst (v := 0) C (by decide) dX10_history_10 ?_
    refine s_ldc2 (v := 30) C k_1798 dX10_history_11 ?_
    obtain ⟨r4, M3, hq, h⟩ := bI_e h
    refine s_callS (As := [.long (x2).toInt64, .long (0 : Int64), .long (30 : Int64)]) (v := some (.int r4)) C rfl (by omega) wX10_139 rfl (Nat.le_of_ble_eq_true rfl) dX10_history_14 (tX10_in C.2.2.2.2.2.2.1 (by omega)  hq) ?_
    refine s_if_eq (tgt := 34) C h dX10_history_17 (by decide) ⟨fun h => ?_, fun h => ?_⟩
    · refine s_bipush (v := -2) C (by decide) dX10_history_34 ?_
      exact s_iret C R h dX10_history_36
    · refine s_aload0 C dX10_history_20 ?_
      refine gX10_353 C ho dX10_history_21 ?_
      refine s_lconst (v := 1) C (by decide) dX10_history_24 ?_
      refine s_iload2 C dX10_history_25 ?_
      refine s_lshl C dX10_history_26 ?_
      refine s_lconst (v := 1) C (by decide) dX10_history_27 ?_
      refine s_lsub C dX10_history_28 ?_
      refine s_land C dX10_history_29 ?_
      refine s_l2i C dX10_history_30 ?_
      refine s_goto (tgt := 36) C dX10_history_31 (by decide) ?_
      exact s_iret C R h dX10_history_36
set_option maxRecDepth 4000 in
theorem tX10_fold {l : Launch} {E : En} {A : Nat → Prop} {d : Nat} {r : Int32} {M M' : Mem} {o : Nat} {x1 : Int32} {x2 : Int32} {x3 : Int32} (hE : Okk E A) (hd : 6 ≤ d) (ho : kd o = (10, 0)) (h : fX10_fold o x1 x2 x3 M = some (r, M')) : Ct l E A d yX10_fold cX10_fold 4 (some .int) [.ref (ad E o), .int x1, .int x2, .int x3] M (some (.int r)) M' := by
  refine Ct.mk (ls := [some (.ref (ad E o)), some (.int x1), some (.int x2), some (.int x3)]) hE (by decide +kernel) rfl (Nat.le_of_ble_eq_true rfl) (fun X hXl hXA C R => ?_)
  subst hXl; subst hXA
  unfold fX10_fold at h
  refine s_aload0 C dX10_fold_0 ?_
  refine s_iload1 C dX10_fold_1 ?_
  obtain ⟨r2, M1, hq, h⟩ := bI_e h
  refine s_callV (T := TX10) (As := [.int x1]) (v := some (.int r2)) C rfl ho (by decide) rfl (by omega) wX10_499 rfl (Nat.le_of_ble_eq_true rfl) dX10_fold_2 (tX10_asksAt C.2.2.2.2.2.2.1 (by omega) ho hq) ?_
  refine s_if_eq (tgt := 41) C h dX10_fold_5 (by decide) ⟨fun h => ?_, fun h => ?_⟩
  · refine s_bipush (v := -2) C (by decide) dX10_fold_41 ?_
    exact s_iret C R h dX10_fold_43
  · refine s_iload2 C dX10_fold_8 ?_
    refine s_i2l C dX10_fold_9 ?_
    refine s_lconst (v := 1) C (by decide) dX10_fold_10 ?_
    refine s_ldc2 (v := 40) C k_1803 dX10_fold_11 ?_
    obtain ⟨r4, M3, hq, h⟩ := bI_e h
    refine s_callS (As := [.long (x2).toInt64, .long (1 : Int64), .long (40 : Int64)]) (v := some (.int r4)) C rfl (by omega) wX10_139 rfl (Nat.le_of_ble_eq_true rfl) dX10_fold_14 (tX10_in C.2.2.2.2.2.2.1 (by omega)  hq) ?_
    refine s_if_eq (tgt := 41) C h dX10_fold_17 (by decide) ⟨fun h => ?_, fun h => ?_⟩
    · refine s_bipush (v := -2) C (by decide) dX10_fold_41 ?_
      exact s_iret C R h dX10_fold_43
    · refine s_iload3 C dX10_fold_20 ?_
      refine s_i2l C dX10_fold_21 ?_
      refine s_lconst (v := 1) C (by decide) dX10_fold_22 ?_
      refine s_ldc2 (v := 10) C k_1804 dX10_fold_23 ?_
      obtain ⟨r6, M5, hq, h⟩ := bI_e h
      refine s_callS (As := [.long (x3).toInt64, .long (1 : Int64), .long (10 : Int64)]) (v := some (.int r6)) C rfl (by omega) wX10_139 rfl (Nat.le_of_ble_eq_true rfl) dX10_fold_26 (tX10_in C.2.2.2.2.2.2.1 (by omega)  hq) ?_
      refine s_if_eq (tgt := 41) C h dX10_fold_29 (by decide) ⟨fun h => ?_, fun h => ?_⟩
      · refine s_bipush (v := -2) C (by decide) dX10_fold_41 ?_
        exact s_iret C R h dX10_fold_43
      · refine s_aload0 C dX10_fold_32 ?_
        refine s_iload2 C dX10_fold_33 ?_
        refine s_iload3 C dX10_fold_34 ?_
        obtain ⟨r8, M7, hq, h⟩ := bI_e h
        refine s_callV (T := TX10) (As := [.int x2, .int x3]) (v := some (.int r8)) C rfl ho (by decide) rfl (by omega) wX10_357 rfl (Nat.le_of_ble_eq_true rfl) dX10_fold_35 (tX10_foldOf C.2.2.2.2.2.2.1 (by omega) ho hq) ?_
        refine s_goto (tgt := 43) C dX10_fold_38 (by decide) ?_
        exact s_iret C R h dX10_fold_43
set_option maxRecDepth 4000 in
theorem tX10_isTable {l : Launch} {E : En} {A : Nat → Prop} {d : Nat} {r : Int32} {M M' : Mem} {o : Nat} {x1 : Int32} (hE : Okk E A) (hd : 1 ≤ d) (ho : kd o = (10, 0)) (h : fX10_isTable o x1 M = some (r, M')) : Ct l E A d yX10_isTable cX10_isTable 2 (some .boolean) [.ref (ad E o), .int x1] M (some (.int r)) M' := by
  refine Ct.mk (ls := [some (.ref (ad E o)), some (.int x1)]) hE (by decide +kernel) rfl (Nat.le_of_ble_eq_true rfl) (fun X hXl hXA C R => ?_)
  subst hXl; subst hXA
  unfold fX10_isTable at h
  refine s_iload1 C dX10_isTable_0 ?_
  refine s_i2l C dX10_isTable_1 ?_
  refine s_lconst (v := 1) C (by decide) dX10_isTable_2 ?_
  refine s_aload0 C dX10_isTable_3 ?_
  obtain ⟨r2, M1, hq, h⟩ := bI_e h
  refine s_callV (T := TX10) (As := []) (v := some (.int r2)) C rfl ho (by decide) rfl (by omega) wX10_335 rfl (Nat.le_of_ble_eq_true rfl) dX10_isTable_4 (tX10_tables C.2.2.2.2.2.2.1 (by omega) ho hq) ?_
  refine s_i2l C dX10_isTable_7 ?_
  obtain ⟨r4, M3, hq, h⟩ := bI_e h
  refine s_callS (As := [.long (x1).toInt64, .long (1 : Int64), .long (r2).toInt64]) (v := some (.int r4)) C rfl (by omega) wX10_139 rfl (Nat.le_of_ble_eq_true rfl) dX10_isTable_8 (tX10_in C.2.2.2.2.2.2.1 (by omega)  hq) ?_
  obtain ⟨hb, h⟩ := ck_e h
  exact s_zret C R h (isB_n hb).1 dX10_isTable_11
set_option maxRecDepth 4000 in
theorem tX10_index {l : Launch} {E : En} {A : Nat → Prop} {d : Nat} {r : Int32} {M M' : Mem} {o : Nat} {x1 : Int32} {x2 : Int32} {x3 : Int32} (hE : Okk E A) (hd : 6 ≤ d) (ho : kd o = (10, 0)) (h : fX10_index o x1 x2 x3 M = some (r, M')) : Ct l E A d yX10_index cX10_index 4 (some .int) [.ref (ad E o), .int x1, .int x2, .int x3] M (some (.int r)) M' := by
  refine Ct.mk (ls := [some (.ref (ad E o)), some (.int x1), some (.int x2), some (.int x3)]) hE (by decide +kernel) rfl (Nat.le_of_ble_eq_true rfl) (fun X hXl hXA C R => ?_)
  subst hXl; subst hXA
  unfold fX10_index at h
  refine s_aload0 C dX10_index_0 ?_
  refine s_iload3 C dX10_index_1 ?_
  obtain ⟨r2, M1, hq, h⟩ := bI_e h
  refine s_callV (T := TX10) (As := [.int x3]) (v := some (.int r2)) C rfl ho (by decide) rfl (by omega) wX10_499 rfl (Nat.le_of_ble_eq_true rfl) dX10_index_2 (tX10_asksAt C.2.2.2.2.2.2.1 (by omega) ho hq) ?_
  refine s_if_eq (tgt := 33) C h dX10_index_5 (by decide) ⟨fun h => ?_, fun h => ?_⟩
  · refine s_bipush (v := -2) C (by decide) dX10_index_33 ?_
    exact s_iret C R h dX10_index_35
  · refine s_aload0 C dX10_index_8 ?_
    refine s_iload1 C dX10_index_9 ?_
    obtain ⟨r4, M3, hq, h⟩ := bI_e h
    refine s_callV (T := TX10) (As := [.int x1]) (v := some (.int r4)) C rfl ho (by decide) rfl (by omega) wX10_508 rfl (Nat.le_of_ble_eq_true rfl) dX10_index_10 (tX10_isTable C.2.2.2.2.2.2.1 (by omega) ho hq) ?_
    refine s_if_eq (tgt := 33) C h dX10_index_13 (by decide) ⟨fun h => ?_, fun h => ?_⟩
    · refine s_bipush (v := -2) C (by decide) dX10_index_33 ?_
      exact s_iret C R h dX10_index_35
    · refine s_iload2 C dX10_index_16 ?_
      refine s_i2l C dX10_index_17 ?_
      obtain ⟨r6, M5, hq, h⟩ := bI_e h
      refine s_callS (As := [.long (x2).toInt64]) (v := some (.int r6)) C rfl (by omega) wX10_492 rfl (Nat.le_of_ble_eq_true rfl) dX10_index_18 (tX10_isAddress C.2.2.2.2.2.2.1 (by omega)  hq) ?_
      refine s_if_eq (tgt := 33) C h dX10_index_21 (by decide) ⟨fun h => ?_, fun h => ?_⟩
      · refine s_bipush (v := -2) C (by decide) dX10_index_33 ?_
        exact s_iret C R h dX10_index_35
      · refine s_aload0 C dX10_index_24 ?_
        refine s_iload1 C dX10_index_25 ?_
        refine s_iload2 C dX10_index_26 ?_
        obtain ⟨r8, M7, hq, h⟩ := bI_e h
        refine s_callV (T := TX10) (As := [.int x1, .int x2]) (v := some (.int r8)) C rfl ho (by decide) rfl (by omega) wX10_369 rfl (Nat.le_of_ble_eq_true rfl) dX10_index_27 (tX10_indexOf C.2.2.2.2.2.2.1 (by omega) ho hq) ?_
        refine s_goto (tgt := 35) C dX10_index_30 (by decide) ?_
        exact s_iret C R h dX10_index_35
