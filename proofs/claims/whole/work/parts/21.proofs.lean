set_option maxRecDepth 4000 in
theorem tX7_takes {l : Launch} {E : En} {A : Nat → Prop} {d : Nat} {r : Int32} {M M' : Mem} {o : Nat} {x1 : Int32} {c2 : Nat} {x3 : Int32} (hE : Okk E A) (hd : 0 ≤ d) (ho : kd o = (7, 0)) (hc2 : kd c2 = (20, (kd c2).2)) (h : fX7_takes o x1 c2 x3 M = some (r, M')) : Ct l E A d yX7_takes cX7_takes 6 (some .boolean) [.ref (ad E o), .int x1, .ref (ad E c2), .int x3] M (some (.int r)) M' := by
  refine Ct.mk (ls := [some (.ref (ad E o)), some (.int x1), some (.ref (ad E c2)), some (.int x3), none, none]) hE (by decide +kernel) rfl (Nat.le_of_ble_eq_true rfl) (fun X hXl hXA C R => ?_)
  subst hXl; subst hXA
  unfold fX7_takes at h
  refine s_aload2 C dX7_takes_0 ?_
  refine s_iload3 C dX7_takes_1 ?_
  refine s_aload0 C dX7_takes_2 ?_
  refine gX7_21 C ho dX7_takes_3 ?_
  refine s_iconst (v := 3) C (by decide) dX7_takes_6 ?_
  refine s_iload1 C dX7_takes_7 ?_
  refine s_imul C dX7_takes_8 ?_
  refine s_iald C (qX7_numbers ho) h dX7_takes_9 (fun h => ?_)
  refine s_iadd C dX7_takes_10 ?_
  refine s_iald C hc2 h dX7_takes_11 (fun h => ?_)
  refine s_istore4 C rfl dX7_takes_12 ?_
  refine s_aload0 C dX7_takes_14 ?_
  refine gX7_18 C ho dX7_takes_15 ?_
  refine s_iload1 C dX7_takes_18 ?_
  refine s_iald C (qX7_kinds ho) h dX7_takes_19 (fun h => ?_)
  refine s_bipush (v := 8) C (by decide) dX7_takes_20 ?_
  refine s_ic_ne (tgt := 39) C h dX7_takes_22 (by decide) ⟨fun h => ?_, fun h => ?_⟩
  · refine s_aload2 C dX7_takes_39 ?_
    refine s_iload3 C dX7_takes_40 ?_
    refine s_aload0 C dX7_takes_41 ?_
    refine gX7_21 C ho dX7_takes_42 ?_
    refine s_iconst (v := 3) C (by decide) dX7_takes_45 ?_
    refine s_iload1 C dX7_takes_46 ?_
    refine s_imul C dX7_takes_47 ?_
    refine s_iconst (v := 1) C (by decide) dX7_takes_48 ?_
    refine s_iadd C dX7_takes_49 ?_
    refine s_iald C (qX7_numbers ho) h dX7_takes_50 (fun h => ?_)
    refine s_iadd C dX7_takes_51 ?_
    refine s_iald C hc2 h dX7_takes_52 (fun h => ?_)
    refine s_istore5 C rfl dX7_takes_53 ?_
    refine s_aload0 C dX7_takes_55 ?_
    refine gX7_18 C ho dX7_takes_56 ?_
    refine s_iload1 C dX7_takes_59 ?_
    refine s_iald C (qX7_kinds ho) h dX7_takes_60 (fun h => ?_)
    refine s_bipush (v := 6) C (by decide) dX7_takes_61 ?_
    refine s_ic_ne (tgt := 81) C h dX7_takes_63 (by decide) ⟨fun h => ?_, fun h => ?_⟩
    · refine s_iload4 C dX7_takes_81 ?_
      refine s_iload5 C dX7_takes_83 ?_
      refine s_ic_ne (tgt := 92) C h dX7_takes_85 (by decide) ⟨fun h => ?_, fun h => ?_⟩
      · refine s_iconst (v := 0) C (by decide) dX7_takes_92 ?_
        exact s_zret C R h rfl dX7_takes_93
      · refine s_iconst (v := 1) C (by decide) dX7_takes_88 ?_
        refine s_goto (tgt := 93) C dX7_takes_89 (by decide) ?_
        exact s_zret C R h rfl dX7_takes_93
    · refine s_iload4 C dX7_takes_66 ?_
      refine s_iload5 C dX7_takes_68 ?_
      refine s_ic_ge (tgt := 77) C h dX7_takes_70 (by decide) ⟨fun h => ?_, fun h => ?_⟩
      · refine s_iconst (v := 0) C (by decide) dX7_takes_77 ?_
        refine s_goto (tgt := 93) C dX7_takes_78 (by decide) ?_
        exact s_zret C R h rfl dX7_takes_93
      · refine s_iconst (v := 1) C (by decide) dX7_takes_73 ?_
        refine s_goto (tgt := 93) C dX7_takes_74 (by decide) ?_
        exact s_zret C R h rfl dX7_takes_93
  · refine s_iload4 C dX7_takes_25 ?_
    refine s_iconst (v := 2) C (by decide) dX7_takes_27 ?_
    refine s_iremc C (by decide) dX7_takes_28 ?_
    refine s_iconst (v := 1) C (by decide) dX7_takes_29 ?_
    refine s_ic_ne (tgt := 37) C h dX7_takes_30 (by decide) ⟨fun h => ?_, fun h => ?_⟩
    · refine s_iconst (v := 0) C (by decide) dX7_takes_37 ?_
      exact s_zret C R h rfl dX7_takes_38
    · refine s_iconst (v := 1) C (by decide) dX7_takes_33 ?_
      refine s_goto (tgt := 38) C dX7_takes_34 (by decide) ?_
      exact s_zret C R h rfl dX7_takes_38
set_option maxRecDepth 4000 in
theorem tX8_set {l : Launch} {E : En} {A : Nat → Prop} {d : Nat} {M M' : Mem} {o : Nat} {x1 : Int32} {x2 : Int32} {x3 : Int32} (hE : Okk E A) (hd : 0 ≤ d) (ho : kd o = (8, 0)) (h : fX8_set o x1 x2 x3 M = some M') : Ct l E A d yX8_set cX8_set 4 none [.ref (ad E o), .int x1, .int x2, .int x3] M none M' := by
  refine Ct.mk (ls := [some (.ref (ad E o)), some (.int x1), some (.int x2), some (.int x3)]) hE (by decide +kernel) rfl (Nat.le_of_ble_eq_true rfl) (fun X hXl hXA C R => ?_)
  subst hXl; subst hXA
  unfold fX8_set at h
  refine s_aload0 C dX8_set_0 ?_
  refine gX8_9 C ho dX8_set_1 ?_
  refine s_bipush (v := 9) C (by decide) dX8_set_4 ?_
  refine s_iload1 C dX8_set_6 ?_
  refine s_imul C dX8_set_7 ?_
  refine s_iload2 C dX8_set_8 ?_
  refine s_iadd C dX8_set_9 ?_
  refine s_iload3 C dX8_set_10 ?_
  refine s_iast C (qX8_facts ho) h dX8_set_11 (fun h => ?_)
  exact s_vret C R h dX8_set_12
set_option maxRecDepth 4000 in
theorem tX8_add {l : Launch} {E : En} {A : Nat → Prop} {d : Nat} {M M' : Mem} {o : Nat} {x1 : Int32} {x2 : Int32} {x3 : Int32} (hE : Okk E A) (hd : 1 ≤ d) (ho : kd o = (8, 0)) (h : fX8_add o x1 x2 x3 M = some M') : Ct l E A d yX8_add cX8_add 4 none [.ref (ad E o), .int x1, .int x2, .int x3] M none M' := by
  refine Ct.mk (ls := [some (.ref (ad E o)), some (.int x1), some (.int x2), some (.int x3)]) hE (by decide +kernel) rfl (Nat.le_of_ble_eq_true rfl) (fun X hXl hXA C R => ?_)
  subst hXl; subst hXA
  unfold fX8_add at h
  refine s_aload0 C dX8_add_0 ?_
  refine gX8_15 C ho dX8_add_1 ?_
  refine s_sipush (v := 240) C (by decide) dX8_add_4 ?_
  refine s_ic_lt (tgt := 11) C h dX8_add_7 (by decide) ⟨fun h => ?_, fun h => ?_⟩
  · refine s_aload0 C dX8_add_11 ?_
    refine s_aload0 C dX8_add_12 ?_
    refine gX8_15 C ho dX8_add_13 ?_
    refine s_iconst (v := 0) C (by decide) dX8_add_16 ?_
    refine s_iload1 C dX8_add_17 ?_
    obtain ⟨M1, hq, h⟩ := bV_e h
    refine s_callV (T := TX8) (As := [.int (M.1 o 1), .int (0 : Int32), .int x1]) (v := none) C rfl ho (by decide) rfl (by omega) wX8_22 rfl (Nat.le_of_ble_eq_true rfl) dX8_add_18 (tX8_set C.2.2.2.2.2.2.1 (by omega) ho hq) ?_
    refine s_aload0 C dX8_add_21 ?_
    refine s_aload0 C dX8_add_22 ?_
    refine gX8_15 C ho dX8_add_23 ?_
    refine s_iconst (v := 1) C (by decide) dX8_add_26 ?_
    refine s_iload2 C dX8_add_27 ?_
    obtain ⟨M2, hq, h⟩ := bV_e h
    refine s_callV (T := TX8) (As := [.int (M1.1 o 1), .int (1 : Int32), .int x2]) (v := none) C rfl ho (by decide) rfl (by omega) wX8_22 rfl (Nat.le_of_ble_eq_true rfl) dX8_add_28 (tX8_set C.2.2.2.2.2.2.1 (by omega) ho hq) ?_
    refine s_aload0 C dX8_add_31 ?_
    refine s_aload0 C dX8_add_32 ?_
    refine gX8_15 C ho dX8_add_33 ?_
    refine s_bipush (v := 8) C (by decide) dX8_add_36 ?_
    refine s_iload3 C dX8_add_38 ?_
    obtain ⟨M3, hq, h⟩ := bV_e h
    refine s_callV (T := TX8) (As := [.int (M2.1 o 1), .int (8 : Int32), .int x3]) (v := none) C rfl ho (by decide) rfl (by omega) wX8_22 rfl (Nat.le_of_ble_eq_true rfl) dX8_add_39 (tX8_set C.2.2.2.2.2.2.1 (by omega) ho hq) ?_
    refine s_aload0 C dX8_add_42 ?_
    refine s_dup C rfl dX8_add_43 ?_
    refine gX8_15 C ho dX8_add_44 ?_
    refine s_iconst (v := 1) C (by decide) dX8_add_47 ?_
    refine s_iadd C dX8_add_48 ?_
    refine pX8_15 C ho dX8_add_49 ?_
    exact s_vret C R h dX8_add_52
  · exact s_vret C R h dX8_add_10
set_option maxRecDepth 4000 in
theorem tX7_target {l : Launch} {E : En} {A : Nat → Prop} {d : Nat} {r : Int32} {M M' : Mem} {o : Nat} {x1 : Int32} (hE : Okk E A) (hd : 0 ≤ d) (ho : kd o = (7, 0)) (h : fX7_target o x1 M = some (r, M')) : Ct l E A d yX7_target cX7_target 2 (some .int) [.ref (ad E o), .int x1] M (some (.int r)) M' := by
  refine Ct.mk (ls := [some (.ref (ad E o)), some (.int x1)]) hE (by decide +kernel) rfl (Nat.le_of_ble_eq_true rfl) (fun X hXl hXA C R => ?_)
  subst hXl; subst hXA
  unfold fX7_target at h
  refine s_aload0 C dX7_target_0 ?_
  refine gX7_18 C ho dX7_target_1 ?_
  refine s_iload1 C dX7_target_4 ?_
  refine s_iald C (qX7_kinds ho) h dX7_target_5 (fun h => ?_)
  refine s_bipush (v := 9) C (by decide) dX7_target_6 ?_
  refine s_ic_ne (tgt := 20) C h dX7_target_8 (by decide) ⟨fun h => ?_, fun h => ?_⟩
  · refine s_aload0 C dX7_target_20 ?_
    refine gX7_21 C ho dX7_target_21 ?_
    refine s_iconst (v := 3) C (by decide) dX7_target_24 ?_
    refine s_iload1 C dX7_target_25 ?_
    refine s_imul C dX7_target_26 ?_
    refine s_aload0 C dX7_target_27 ?_
    refine gX7_18 C ho dX7_target_28 ?_
    refine s_iload1 C dX7_target_31 ?_
    refine s_iald C (qX7_kinds ho) h dX7_target_32 (fun h => ?_)
    refine s_bipush (v := 8) C (by decide) dX7_target_33 ?_
    refine s_ic_ne (tgt := 42) C h dX7_target_35 (by decide) ⟨fun h => ?_, fun h => ?_⟩
    · refine s_iconst (v := 2) C (by decide) dX7_target_42 ?_
      refine s_iadd C dX7_target_43 ?_
      refine s_iald C (qX7_numbers ho) h dX7_target_44 (fun h => ?_)
      exact s_iret C R h dX7_target_45
    · refine s_iconst (v := 1) C (by decide) dX7_target_38 ?_
      refine s_goto (tgt := 43) C dX7_target_39 (by decide) ?_
      refine s_iadd C dX7_target_43 ?_
      refine s_iald C (qX7_numbers ho) h dX7_target_44 (fun h => ?_)
      exact s_iret C R h dX7_target_45
  · refine s_aload0 C dX7_target_11 ?_
    refine gX7_21 C ho dX7_target_12 ?_
    refine s_iconst (v := 3) C (by decide) dX7_target_15 ?_
    refine s_iload1 C dX7_target_16 ?_
    refine s_imul C dX7_target_17 ?_
    refine s_iald C (qX7_numbers ho) h dX7_target_18 (fun h => ?_)
    exact s_iret C R h dX7_target_19
set_option maxRecDepth 4000 in
theorem tX7_perform {l : Launch} {E : En} {A : Nat → Prop} {d : Nat} {r : Int32} {M M' : Mem} {o : Nat} {x1 : Int32} {c2 : Nat} {x3 : Int32} (hE : Okk E A) (hd : 1 ≤ d) (ho : kd o = (7, 0)) (hc2 : kd c2 = (20, (kd c2).2)) (h : fX7_perform o x1 c2 x3 M = some (r, M')) : Ct l E A d yX7_perform cX7_perform 6 (some .int) [.ref (ad E o), .int x1, .ref (ad E c2), .int x3] M (some (.int r)) M' := by
  refine Ct.mk (ls := [some (.ref (ad E o)), some (.int x1), some (.ref (ad E c2)), some (.int x3), none, none]) hE (by decide +kernel) rfl (Nat.le_of_ble_eq_true rfl) (fun X hXl hXA C R => ?_)
  subst hXl; subst hXA
  unfold fX7_perform at h
  refine s_aload0 C dX7_perform_0 ?_
  refine gX7_18 C ho dX7_perform_1 ?_
  refine s_iload1 C dX7_perform_4 ?_
  refine s_iald C (qX7_kinds ho) h dX7_perform_5 (fun h => ?_)
  refine s_bipush (v := 9) C (by decide) dX7_perform_6 ?_
  refine s_ic_ne (tgt := 17) C h dX7_perform_8 (by decide) ⟨fun h => ?_, fun h => ?_⟩
  · refine s_aload0 C dX7_perform_17 ?_
    refine s_iload1 C dX7_perform_18 ?_
    obtain ⟨r2, M1, hq, h⟩ := bI_e h
    refine s_callV (T := TX7) (As := [.int x1]) (v := some (.int r2)) C rfl ho (by decide) rfl (by omega) wX7_64 rfl (Nat.le_of_ble_eq_true rfl) dX7_perform_19 (tX7_branches C.2.2.2.2.2.2.1 (by omega) ho hq) ?_
    refine s_if_eq (tgt := 47) C h dX7_perform_22 (by decide) ⟨fun h => ?_, fun h => ?_⟩
    · refine s_iload3 C dX7_perform_47 ?_
      refine s_aload0 C dX7_perform_48 ?_
      refine gX7_21 C ho dX7_perform_49 ?_
      refine s_iconst (v := 3) C (by decide) dX7_perform_52 ?_
      refine s_iload1 C dX7_perform_53 ?_
      refine s_imul C dX7_perform_54 ?_
      refine s_iald C (qX7_numbers ho) h dX7_perform_55 (fun h => ?_)
      refine s_iadd C dX7_perform_56 ?_
      refine s_istore4 C rfl dX7_perform_57 ?_
      refine s_aload0 C dX7_perform_59 ?_
      refine gX7_21 C ho dX7_perform_60 ?_
      refine s_iconst (v := 3) C (by decide) dX7_perform_63 ?_
      refine s_iload1 C dX7_perform_64 ?_
      refine s_imul C dX7_perform_65 ?_
      refine s_iconst (v := 1) C (by decide) dX7_perform_66 ?_
      refine s_iadd C dX7_perform_67 ?_
      refine s_iald C (qX7_numbers ho) h dX7_perform_68 (fun h => ?_)
      refine s_istore5 C rfl dX7_perform_69 ?_
      refine s_aload0 C dX7_perform_71 ?_
      refine gX7_18 C ho dX7_perform_72 ?_
      refine s_iload1 C dX7_perform_75 ?_
      refine s_iald C (qX7_kinds ho) h dX7_perform_76 (fun h => ?_)
      rcases if_e h with ⟨e, h⟩ | ⟨e0, h⟩
      · refine s_tin (j := 0) (tgt := 116) C dX7_perform_77 (by rw [e]; decide) (by decide) rfl (by decide) ?_
        refine s_aload2 C dX7_perform_116 ?_
        refine s_iload4 C dX7_perform_117 ?_
        refine s_iload5 C dX7_perform_119 ?_
        refine s_iast C hc2 h dX7_perform_121 (fun h => ?_)
        refine s_goto (tgt := 226) C dX7_perform_122 (by decide) ?_
        refine s_iload1 C dX7_perform_226 ?_
        refine s_iconst (v := 1) C (by decide) dX7_perform_227 ?_
        refine s_iadd C dX7_perform_228 ?_
        exact s_iret C R h dX7_perform_229
      rcases if_e h with ⟨e, h⟩ | ⟨e1, h⟩
      · refine s_tin (j := 1) (tgt := 125) C dX7_perform_77 (by rw [e]; decide) (by decide) rfl (by decide) ?_
        refine s_aload2 C dX7_perform_125 ?_
        refine s_iload4 C dX7_perform_126 ?_
        refine s_aload2 C dX7_perform_128 ?_
        refine s_iload4 C dX7_perform_129 ?_
        refine s_iald C hc2 h dX7_perform_131 (fun h => ?_)
        refine s_iload5 C dX7_perform_132 ?_
        refine s_iadd C dX7_perform_134 ?_
        refine s_sipush (v := 1000) C (by decide) dX7_perform_135 ?_
        refine s_iremc C (by decide) dX7_perform_138 ?_
        refine s_iast C hc2 h dX7_perform_139 (fun h => ?_)
        refine s_goto (tgt := 226) C dX7_perform_140 (by decide) ?_
        refine s_iload1 C dX7_perform_226 ?_
        refine s_iconst (v := 1) C (by decide) dX7_perform_227 ?_
        refine s_iadd C dX7_perform_228 ?_
        exact s_iret C R h dX7_perform_229
      rcases if_e h with ⟨e, h⟩ | ⟨e2, h⟩
      · refine s_tin (j := 2) (tgt := 143) C dX7_perform_77 (by rw [e]; decide) (by decide) rfl (by decide) ?_
        refine s_aload2 C dX7_perform_143 ?_
        refine s_iload4 C dX7_perform_144 ?_
        refine s_aload2 C dX7_perform_146 ?_
        refine s_iload4 C dX7_perform_147 ?_
        refine s_iald C hc2 h dX7_perform_149 (fun h => ?_)
        refine s_iload5 C dX7_perform_150 ?_
        refine s_isub C dX7_perform_152 ?_
        refine s_sipush (v := 1000) C (by decide) dX7_perform_153 ?_
        refine s_iadd C dX7_perform_156 ?_
        refine s_sipush (v := 1000) C (by decide) dX7_perform_157 ?_
        refine s_iremc C (by decide) dX7_perform_160 ?_
        refine s_iast C hc2 h dX7_perform_161 (fun h => ?_)
        refine s_goto (tgt := 226) C dX7_perform_162 (by decide) ?_
        refine s_iload1 C dX7_perform_226 ?_
        refine s_iconst (v := 1) C (by decide) dX7_perform_227 ?_
        refine s_iadd C dX7_perform_228 ?_
        exact s_iret C R h dX7_perform_229
      rcases if_e h with ⟨e, h⟩ | ⟨e3, h⟩
      · refine s_tin (j := 3) (tgt := 165) C dX7_perform_77 (by rw [e]; decide) (by decide) rfl (by decide) ?_
        refine s_aload2 C dX7_perform_165 ?_
        refine s_iload4 C dX7_perform_166 ?_
        refine s_aload2 C dX7_perform_168 ?_
        refine s_iload3 C dX7_perform_169 ?_
        refine s_iload5 C dX7_perform_170 ?_
        refine s_iadd C dX7_perform_172 ?_
        refine s_iald C hc2 h dX7_perform_173 (fun h => ?_)
        refine s_iast C hc2 h dX7_perform_174 (fun h => ?_)
        refine s_goto (tgt := 226) C dX7_perform_175 (by decide) ?_
        refine s_iload1 C dX7_perform_226 ?_
        refine s_iconst (v := 1) C (by decide) dX7_perform_227 ?_
        refine s_iadd C dX7_perform_228 ?_
        exact s_iret C R h dX7_perform_229
      rcases if_e h with ⟨e, h⟩ | ⟨e4, h⟩
      · refine s_tin (j := 4) (tgt := 178) C dX7_perform_77 (by rw [e]; decide) (by decide) rfl (by decide) ?_
        refine s_aload2 C dX7_perform_178 ?_
        refine s_iload4 C dX7_perform_179 ?_
        refine s_aload2 C dX7_perform_181 ?_
        refine s_iload4 C dX7_perform_182 ?_
        refine s_iald C hc2 h dX7_perform_184 (fun h => ?_)
        refine s_aload2 C dX7_perform_185 ?_
        refine s_iload3 C dX7_perform_186 ?_
        refine s_iload5 C dX7_perform_187 ?_
        refine s_iadd C dX7_perform_189 ?_
        refine s_iald C hc2 h dX7_perform_190 (fun h => ?_)
        refine s_iadd C dX7_perform_191 ?_
        refine s_sipush (v := 1000) C (by decide) dX7_perform_192 ?_
        refine s_iremc C (by decide) dX7_perform_195 ?_
        refine s_iast C hc2 h dX7_perform_196 (fun h => ?_)
        refine s_goto (tgt := 226) C dX7_perform_197 (by decide) ?_
        refine s_iload1 C dX7_perform_226 ?_
        refine s_iconst (v := 1) C (by decide) dX7_perform_227 ?_
        refine s_iadd C dX7_perform_228 ?_
        exact s_iret C R h dX7_perform_229
      rcases if_e h with ⟨e, h⟩ | ⟨e5, h⟩
      · refine s_tin (j := 5) (tgt := 200) C dX7_perform_77 (by rw [e]; decide) (by decide) rfl (by decide) ?_
        refine s_aload2 C dX7_perform_200 ?_
        refine s_iload4 C dX7_perform_201 ?_
        refine s_aload2 C dX7_perform_203 ?_
        refine s_iload4 C dX7_perform_204 ?_
        refine s_iald C hc2 h dX7_perform_206 (fun h => ?_)
        refine s_aload2 C dX7_perform_207 ?_
        refine s_iload3 C dX7_perform_208 ?_
        refine s_iload5 C dX7_perform_209 ?_
        refine s_iadd C dX7_perform_211 ?_
        refine s_iald C hc2 h dX7_perform_212 (fun h => ?_)
        refine s_isub C dX7_perform_213 ?_
        refine s_sipush (v := 1000) C (by decide) dX7_perform_214 ?_
        refine s_iadd C dX7_perform_217 ?_
        refine s_sipush (v := 1000) C (by decide) dX7_perform_218 ?_
        refine s_iremc C (by decide) dX7_perform_221 ?_
        refine s_iast C hc2 h dX7_perform_222 (fun h => ?_)
        refine s_goto (tgt := 226) C dX7_perform_223 (by decide) ?_
        refine s_iload1 C dX7_perform_226 ?_
        refine s_iconst (v := 1) C (by decide) dX7_perform_227 ?_
        refine s_iadd C dX7_perform_228 ?_
        exact s_iret C R h dX7_perform_229
      have g0 := ne_int e0
      have g1 := ne_int e1
      have g2 := ne_int e2
      have g3 := ne_int e3
      have g4 := ne_int e4
      have g5 := ne_int e5
      refine s_tout (tgt := 226) C dX7_perform_77 (by simp only [show (0 : Int32).toInt = 0 from by decide, show (1 : Int32).toInt = 1 from by decide, show (2 : Int32).toInt = 2 from by decide, show (3 : Int32).toInt = 3 from by decide, show (4 : Int32).toInt = 4 from by decide, show (5 : Int32).toInt = 5 from by decide] at g0 g1 g2 g3 g4 g5; omega) (by decide) ?_
      refine s_iload1 C dX7_perform_226 ?_
      refine s_iconst (v := 1) C (by decide) dX7_perform_227 ?_
      refine s_iadd C dX7_perform_228 ?_
      exact s_iret C R h dX7_perform_229
    · refine s_aload0 C dX7_perform_25 ?_
      refine s_iload1 C dX7_perform_26 ?_
      refine s_aload2 C dX7_perform_27 ?_
      refine s_iload3 C dX7_perform_28 ?_
      obtain ⟨r4, M3, hq, h⟩ := bI_e h
      refine s_callV (T := TX7) (As := [.int x1, .ref (ad E c2), .int x3]) (v := some (.int r4)) C rfl ho (by decide) rfl (by omega) wX7_67 rfl (Nat.le_of_ble_eq_true rfl) dX7_perform_29 (tX7_takes C.2.2.2.2.2.2.1 (by omega) ho hc2 hq) ?_
      refine s_if_eq (tgt := 43) C h dX7_perform_32 (by decide) ⟨fun h => ?_, fun h => ?_⟩
      · refine s_iload1 C dX7_perform_43 ?_
        refine s_iconst (v := 1) C (by decide) dX7_perform_44 ?_
        refine s_iadd C dX7_perform_45 ?_
        exact s_iret C R h dX7_perform_46
      · refine s_aload0 C dX7_perform_35 ?_
        refine s_iload1 C dX7_perform_36 ?_
        obtain ⟨r6, M5, hq, h⟩ := bI_e h
        refine s_callV (T := TX7) (As := [.int x1]) (v := some (.int r6)) C rfl ho (by decide) rfl (by omega) wX7_60 rfl (Nat.le_of_ble_eq_true rfl) dX7_perform_37 (tX7_target C.2.2.2.2.2.2.1 (by omega) ho hq) ?_
        refine s_goto (tgt := 46) C dX7_perform_40 (by decide) ?_
        exact s_iret C R h dX7_perform_46
  · refine s_aload0 C dX7_perform_11 ?_
    refine s_iload1 C dX7_perform_12 ?_
    obtain ⟨r8, M7, hq, h⟩ := bI_e h
    refine s_callV (T := TX7) (As := [.int x1]) (v := some (.int r8)) C rfl ho (by decide) rfl (by omega) wX7_60 rfl (Nat.le_of_ble_eq_true rfl) dX7_perform_13 (tX7_target C.2.2.2.2.2.2.1 (by omega) ho hq) ?_
    exact s_iret C R h dX7_perform_16
set_option maxRecDepth 4000 in
theorem bX4_step_75 {E : En} {X : Xc} {d : Nat} {M M' : Mem} {o : Nat} {o1 : Nat} {x3 : Int32} {x4 : Int32} (C : Cx E X d cX4_step RX4 5) (R : Rt E X none none M') (hd : 2 ≤ d)   (ho : kd o = (4, 0)) (ho1 : kd o1 = (7, 0)) (h : fX4_step_75  o o1 x3 x4 M = some M') : At E X 75 [some (.ref (ad E o)), some (.ref (ad E o1)), none, some (.int x3), some (.int x4)] [] M := by
  unfold fX4_step_75 at h
  refine s_aload0 C dX4_step_75 ?_
  refine gX4_9 C ho dX4_step_76 ?_
  refine s_aload0 C dX4_step_79 ?_
  refine gX4_21 C ho dX4_step_80 ?_
  refine s_iconst (v := 1) C (by decide) dX4_step_83 ?_
  refine s_iadd C dX4_step_84 ?_
  refine s_aload1 C dX4_step_85 ?_
  refine s_iload3 C dX4_step_86 ?_
  refine s_aload0 C dX4_step_87 ?_
  refine gX4_15 C ho dX4_step_88 ?_
  refine s_iload4 C dX4_step_91 ?_
  refine s_bipush (v := 8) C (by decide) dX4_step_93 ?_
  refine s_iadd C dX4_step_95 ?_
  obtain ⟨r2, M1, hq, h⟩ := bI_e h
  refine s_callV (T := TX7) (As := [.int x3, .ref (ad E (o + 2)), .int (x4 + (8 : Int32))]) (v := some (.int r2)) C rfl ho1 (by decide) rfl (by omega) wX4_66 rfl (Nat.le_of_ble_eq_true rfl) dX4_step_96 (tX7_perform C.2.2.2.2.2.2.1 (by omega) ho1 (kd_any (qX4_registers ho)) hq) ?_
  refine s_iast C (qX4_nexts ho) h dX4_step_99 (fun h => ?_)
  exact s_vret C R h dX4_step_100
set_option maxRecDepth 4000 in
theorem bX4_step_68 {E : En} {X : Xc} {d : Nat} {M M' : Mem} {o : Nat} {o1 : Nat} {x3 : Int32} {x4 : Int32} {so0 : Nat} {sx1 : Int32} {sx2 : Int32} (C : Cx E X d cX4_step RX4 5) (R : Rt E X none none M') (hd : 2 ≤ d)   (ho : kd o = (4, 0)) (ho1 : kd o1 = (7, 0)) (hso0 : kd so0 = (8, 0)) (h : fX4_step_68  o o1 x3 x4 so0 sx1 sx2 M = some M') : At E X 68 [some (.ref (ad E o)), some (.ref (ad E o1)), none, some (.int x3), some (.int x4)] [.int sx2, .int sx1, .ref (ad E so0)] M := by
  unfold fX4_step_68 at h
  refine s_aload0 C dX4_step_68 ?_
  refine gX4_21 C ho dX4_step_69 ?_
  obtain ⟨M1, hq, h⟩ := bV_e h
  refine s_callV (T := TX8) (As := [.int sx1, .int sx2, .int (M.1 o 3)]) (v := none) C rfl hso0 (by decide) rfl (by omega) wX4_62 rfl (Nat.le_of_ble_eq_true rfl) dX4_step_72 (tX8_add C.2.2.2.2.2.2.1 (by omega) hso0 hq) ?_
  exact bX4_step_75 C R hd  ho ho1 h
set_option maxRecDepth 4000 in
theorem tX4_step {l : Launch} {E : En} {A : Nat → Prop} {d : Nat} {M M' : Mem} {o : Nat} {o1 : Nat} {o2 : Nat} (hE : Okk E A) (hd : 2 ≤ d) (ho : kd o = (4, 0)) (ho1 : kd o1 = (7, 0)) (ho2 : kd o2 = (8, 0)) (h : fX4_step o o1 o2 M = some M') : Ct l E A d yX4_step cX4_step 5 none [.ref (ad E o), .ref (ad E o1), .ref (ad E o2)] M none M' := by
  refine Ct.mk (ls := [some (.ref (ad E o)), some (.ref (ad E o1)), some (.ref (ad E o2)), none, none]) hE (by decide +kernel) rfl (Nat.le_of_ble_eq_true rfl) (fun X hXl hXA C R => ?_)
  subst hXl; subst hXA
  unfold fX4_step at h
  refine s_aload0 C dX4_step_0 ?_
  refine gX4_9 C ho dX4_step_1 ?_
  refine s_aload0 C dX4_step_4 ?_
  refine gX4_21 C ho dX4_step_5 ?_
  refine s_iald C (qX4_nexts ho) h dX4_step_8 (fun h => ?_)
  refine s_istore3 C rfl dX4_step_9 ?_
  refine s_bipush (v := 8) C (by decide) dX4_step_10 ?_
  refine s_aload0 C dX4_step_12 ?_
  refine gX4_21 C ho dX4_step_13 ?_
  refine s_imul C dX4_step_16 ?_
  refine s_istore4 C rfl dX4_step_17 ?_
  refine s_aload0 C dX4_step_19 ?_
  refine gX4_15 C ho dX4_step_20 ?_
  refine s_iload4 C dX4_step_23 ?_
  refine s_aload0 C dX4_step_25 ?_
  refine gX4_15 C ho dX4_step_26 ?_
  refine s_iload4 C dX4_step_29 ?_
  refine s_bipush (v := 8) C (by decide) dX4_step_31 ?_
  refine s_iadd C dX4_step_33 ?_
  refine s_bipush (v := 8) C (by decide) dX4_step_34 ?_
  refine s_copy C rfl (by omega) wX4_49 (Nat.le_of_ble_eq_true rfl) (qX4_registers ho) (qX4_registers ho) h dX4_step_36 (fun h => ?_)
  refine s_aload1 C dX4_step_39 ?_
  refine s_iload3 C dX4_step_40 ?_
  obtain ⟨r2, M1, hq, h⟩ := bI_e h
  refine s_callV (T := TX7) (As := [.int (M.1 (o + 1) (tn (M.1 o 3)))]) (v := some (.int r2)) C rfl ho1 (by decide) rfl (by omega) wX4_55 rfl (Nat.le_of_ble_eq_true rfl) dX4_step_41 (tX7_branches C.2.2.2.2.2.2.1 (by omega) ho1 hq) ?_
  refine s_if_eq (tgt := 75) C h dX4_step_44 (by decide) ⟨fun h => ?_, fun h => ?_⟩
  · refine s_fg 2 ?_
    exact bX4_step_75 C R hd  ho ho1 h
  · refine s_aload2 C dX4_step_47 ?_
    refine s_iload3 C dX4_step_48 ?_
    refine s_aload1 C dX4_step_49 ?_
    refine s_iload3 C dX4_step_50 ?_
    refine s_aload0 C dX4_step_51 ?_
    refine gX4_15 C ho dX4_step_52 ?_
    refine s_iload4 C dX4_step_55 ?_
    obtain ⟨r4, M3, hq, h⟩ := bI_e h
    refine s_callV (T := TX7) (As := [.int (M.1 (o + 1) (tn (M.1 o 3))), .ref (ad E (o + 2)), .int ((8 : Int32) * (M.1 o 3))]) (v := some (.int r4)) C rfl ho1 (by decide) rfl (by omega) wX4_58 rfl (Nat.le_of_ble_eq_true rfl) dX4_step_57 (tX7_takes C.2.2.2.2.2.2.1 (by omega) ho1 (kd_any (qX4_registers ho)) hq) ?_
    refine s_if_eq (tgt := 67) C h dX4_step_60 (by decide) ⟨fun h => ?_, fun h => ?_⟩
    · refine s_iconst (v := 0) C (by decide) dX4_step_67 ?_
      refine s_fg 2 ?_
      exact bX4_step_68 C R hd  ho ho1 ho2 h
    · refine s_iconst (v := 1) C (by decide) dX4_step_63 ?_
      refine s_goto (tgt := 68) C dX4_step_64 (by decide) ?_
      refine s_fg 2 ?_
      exact bX4_step_68 C R hd  ho ho1 ho2 h
set_option maxRecDepth 4000 in
theorem bX4_follow_50 {E : En} {X : Xc} {d : Nat} {M M' : Mem} {o : Nat} {o1 : Nat} {o2 : Nat} (C : Cx E X d cX4_follow RX4 3) (R : Rt E X none none M') (hd : 3 ≤ d)   (ho : kd o = (4, 0)) (ho1 : kd o1 = (7, 0)) (ho2 : kd o2 = (8, 0)) (h : fX4_follow_50  o o1 o2 M = some M') : At E X 50 [some (.ref (ad E o)), some (.ref (ad E o1)), some (.ref (ad E o2))] [] M := by
  unfold fX4_follow_50 at h
  refine s_aload2 C dX4_follow_50 ?_
  refine s_aload2 C dX4_follow_51 ?_
  refine gX4_35 C ho2 dX4_follow_52 ?_
  refine pX4_40 C ho2 dX4_follow_55 ?_
  refine s_aload0 C dX4_follow_58 ?_
  refine gX4_21 C ho dX4_follow_59 ?_
  refine s_sipush (v := 200) C (by decide) dX4_follow_62 ?_
  refine s_ic_ne (tgt := 76) C h dX4_follow_65 (by decide) ⟨fun h => ?_, fun h => ?_⟩
  · refine s_aload0 C dX4_follow_76 ?_
    refine s_aload1 C dX4_follow_77 ?_
    refine s_aload0 C dX4_follow_78 ?_
    refine gX4_9 C ho dX4_follow_79 ?_
    refine s_aload0 C dX4_follow_82 ?_
    refine gX4_21 C ho dX4_follow_83 ?_
    refine s_iald C (qX4_nexts ho) h dX4_follow_86 (fun h => ?_)
    obtain ⟨r2, M1, hq, h⟩ := bI_e h
    refine s_callV (T := TX7) (As := [.int ((pI M o2 2 (M.1 o2 1)).1 (o + 1) (tn ((pI M o2 2 (M.1 o2 1)).1 o 3)))]) (v := some (.int r2)) C rfl ho1 (by decide) rfl (by omega) wX4_46 rfl (Nat.le_of_ble_eq_true rfl) dX4_follow_87 (tX7_hasOp C.2.2.2.2.2.2.1 (by omega) ho1 hq) ?_
    refine s_if_eq (tgt := 97) C h dX4_follow_90 (by decide) ⟨fun h => ?_, fun h => ?_⟩
    · refine s_iconst (v := 2) C (by decide) dX4_follow_97 ?_
      refine pX4_43 C ho dX4_follow_98 ?_
      exact s_vret C R h dX4_follow_101
    · refine s_iconst (v := 1) C (by decide) dX4_follow_93 ?_
      refine s_goto (tgt := 98) C dX4_follow_94 (by decide) ?_
      refine pX4_43 C ho dX4_follow_98 ?_
      exact s_vret C R h dX4_follow_101
  · refine s_aload0 C dX4_follow_68 ?_
    refine s_iconst (v := 3) C (by decide) dX4_follow_69 ?_
    refine pX4_43 C ho dX4_follow_70 ?_
    refine s_goto (tgt := 101) C dX4_follow_73 (by decide) ?_
    exact s_vret C R h dX4_follow_101
set_option maxRecDepth 4000 in
theorem bX4_follow_5 {E : En} {X : Xc} {d : Nat} {M' : Mem} (C : Cx E X d cX4_follow RX4 3) (R : Rt E X none none M') (hd : 3 ≤ d)   : ∀ (n : Nat) (o : Nat) (o1 : Nat) (o2 : Nat) (M : Mem) (_ : kd o = (4, 0)) (_ : kd o1 = (7, 0)) (_ : kd o2 = (8, 0)), fX4_follow_5  n o o1 o2 M = some M' → At E X 5 [some (.ref (ad E o)), some (.ref (ad E o1)), some (.ref (ad E o2))] [] M := by
  intro n
  induction n with
  | zero => intro o o1 o2 M ho ho1 ho2 h; rw [fX4_follow_5] at h; cases h
  | succ n ih =>
    intro o o1 o2 M ho ho1 ho2 h
    rw [fX4_follow_5] at h
    refine s_aload0 C dX4_follow_5 ?_
    refine gX4_21 C ho dX4_follow_6 ?_
    refine s_sipush (v := 200) C (by decide) dX4_follow_9 ?_
    refine s_ic_ge (tgt := 50) C h dX4_follow_12 (by decide) ⟨fun h => ?_, fun h => ?_⟩
    · exact bX4_follow_50 C R hd  ho ho1 ho2 h
    · refine s_aload1 C dX4_follow_15 ?_
      refine s_aload0 C dX4_follow_16 ?_
      refine gX4_9 C ho dX4_follow_17 ?_
      refine s_aload0 C dX4_follow_20 ?_
      refine gX4_21 C ho dX4_follow_21 ?_
      refine s_iald C (qX4_nexts ho) h dX4_follow_24 (fun h => ?_)
      obtain ⟨r2, M1, hq, h⟩ := bI_e h
      refine s_callV (T := TX7) (As := [.int (M.1 (o + 1) (tn (M.1 o 3)))]) (v := some (.int r2)) C rfl ho1 (by decide) rfl (by omega) wX4_25 rfl (Nat.le_of_ble_eq_true rfl) dX4_follow_25 (tX7_canDo C.2.2.2.2.2.2.1 (by omega) ho1 hq) ?_
      refine s_if_eq (tgt := 50) C h dX4_follow_28 (by decide) ⟨fun h => ?_, fun h => ?_⟩
      · exact bX4_follow_50 C R hd  ho ho1 ho2 h
      · refine s_aload0 C dX4_follow_31 ?_
        refine s_aload1 C dX4_follow_32 ?_
        refine s_aload2 C dX4_follow_33 ?_
        obtain ⟨M3, hq, h⟩ := bV_e h
        refine s_callV (T := TX4) (As := [.ref (ad E o1), .ref (ad E o2)]) (v := none) C rfl ho (by decide) rfl (by omega) wX4_31 rfl (Nat.le_of_ble_eq_true rfl) dX4_follow_34 (tX4_step C.2.2.2.2.2.2.1 (by omega) ho ho1 ho2 hq) ?_
        refine s_aload0 C dX4_follow_37 ?_
        refine s_dup C rfl dX4_follow_38 ?_
        refine gX4_21 C ho dX4_follow_39 ?_
        refine s_iconst (v := 1) C (by decide) dX4_follow_42 ?_
        refine s_iadd C dX4_follow_43 ?_
        refine pX4_21 C ho dX4_follow_44 ?_
        refine s_goto (tgt := 5) C dX4_follow_47 (by decide) ?_
        exact ih _ _ _ _ ho ho1 ho2 h
set_option maxRecDepth 4000 in
theorem tX4_follow {l : Launch} {E : En} {A : Nat → Prop} {d : Nat} {M M' : Mem} {o : Nat} {o1 : Nat} {o2 : Nat} (hE : Okk E A) (hd : 3 ≤ d) (ho : kd o = (4, 0)) (ho1 : kd o1 = (7, 0)) (ho2 : kd o2 = (8, 0)) (h : fX4_follow o o1 o2 M = some M') : Ct l E A d yX4_follow cX4_follow 3 none [.ref (ad E o), .ref (ad E o1), .ref (ad E o2)] M none M' := by
  refine Ct.mk (ls := [some (.ref (ad E o)), some (.ref (ad E o1)), some (.ref (ad E o2))]) hE (by decide +kernel) rfl (Nat.le_of_ble_eq_true rfl) (fun X hXl hXA C R => ?_)
  subst hXl; subst hXA
  unfold fX4_follow at h
  refine s_aload0 C dX4_follow_0 ?_
  refine s_iconst (v := 0) C (by decide) dX4_follow_1 ?_
  refine pX4_21 C ho dX4_follow_2 ?_
  exact bX4_follow_5 C R hd  LF _ _ _ _ ho ho1 ho2 h
set_option maxRecDepth 4000 in
theorem tX8_fact {l : Launch} {E : En} {A : Nat → Prop} {d : Nat} {r : Int32} {M M' : Mem} {o : Nat} {x1 : Int32} {x2 : Int32} (hE : Okk E A) (hd : 0 ≤ d) (ho : kd o = (8, 0)) (h : fX8_fact o x1 x2 M = some (r, M')) : Ct l E A d yX8_fact cX8_fact 3 (some .int) [.ref (ad E o), .int x1, .int x2] M (some (.int r)) M' := by
  refine Ct.mk (ls := [some (.ref (ad E o)), some (.int x1), some (.int x2)]) hE (by decide +kernel) rfl (Nat.le_of_ble_eq_true rfl) (fun X hXl hXA C R => ?_)
  subst hXl; subst hXA
  unfold fX8_fact at h
  refine s_aload0 C dX8_fact_0 ?_
  refine gX8_9 C ho dX8_fact_1 ?_
  refine s_bipush (v := 9) C (by decide) dX8_fact_4 ?_
  refine s_iload1 C dX8_fact_6 ?_
  refine s_imul C dX8_fact_7 ?_
  refine s_iload2 C dX8_fact_8 ?_
  refine s_iadd C dX8_fact_9 ?_
  refine s_iald C (qX8_facts ho) h dX8_fact_10 (fun h => ?_)
  exact s_iret C R h dX8_fact_11
set_option maxRecDepth 4000 in
theorem tX1_has {l : Launch} {E : En} {A : Nat → Prop} {d : Nat} {r : Int32} {M M' : Mem} {o : Nat} {x1 : Int32} (hE : Okk E A) (hd : 0 ≤ d) (ho : kd o = (1, 0)) (h : fX1_has o x1 M = some (r, M')) : Ct l E A d yX1_has cX1_has 2 (some .boolean) [.ref (ad E o), .int x1] M (some (.int r)) M' := by
  refine Ct.mk (ls := [some (.ref (ad E o)), some (.int x1)]) hE (by decide +kernel) rfl (Nat.le_of_ble_eq_true rfl) (fun X hXl hXA C R => ?_)
  subst hXl; subst hXA
  unfold fX1_has at h
  refine s_aload0 C dX1_has_0 ?_
  refine gX1_42 C ho dX1_has_1 ?_
  refine s_iload1 C dX1_has_4 ?_
  refine s_iand C dX1_has_5 ?_
  refine s_if_eq (tgt := 13) C h dX1_has_6 (by decide) ⟨fun h => ?_, fun h => ?_⟩
  · refine s_iconst (v := 0) C (by decide) dX1_has_13 ?_
    exact s_zret C R h rfl dX1_has_14
  · refine s_iconst (v := 1) C (by decide) dX1_has_9 ?_
    refine s_goto (tgt := 14) C dX1_has_10 (by decide) ?_
    exact s_zret C R h rfl dX1_has_14
set_option maxRecDepth 4000 in
theorem bX9_folded_39 {E : En} {X : Xc} {d : Nat} {r : Int32} {M M' : Mem} {x2 : Int32} {x3 : Int32} {l4 : Int64} {x6 : Int32} (C : Cx E X d cX9_folded RX9 8) (R : Rt E X (some .int) (some (.int r)) M') (hd : 0 ≤ d) {k12 : Int32 → Int32 → Int64 → Int32 → Mem → Option (Int32 × Mem)} (hk12 : ∀ (x2 : Int32) (x3 : Int32) (l4 : Int64) (x6 : Int32) (M : Mem) , k12 x2 x3 l4 x6 M = some (r, M') → At E X 12 [none, none, some (.int x2), some (.int x3), some (.long l4), none, some (.int x6), none] [] M)  (h : fX9_folded_39 k12 x2 x3 l4 x6 M = some (r, M')) : At E X 39 [none, none, some (.int x2), some (.int x3), some (.long l4), none, some (.int x6), none] [] M := by
  unfold fX9_folded_39 at h
  refine s_iinc6 (v := -1) C rfl dX9_folded_39 (by decide) ?_
  refine s_goto (tgt := 12) C dX9_folded_42 (by decide) ?_
  exact hk12 _ _ _ _ _ h
set_option maxRecDepth 4000 in
theorem bX9_folded_12 {E : En} {X : Xc} {d : Nat} {r : Int32} {M' : Mem} (C : Cx E X d cX9_folded RX9 8) (R : Rt E X (some .int) (some (.int r)) M') (hd : 0 ≤ d)   : ∀ (n : Nat) (x2 : Int32) (x3 : Int32) (l4 : Int64) (x6 : Int32) (M : Mem) , fX9_folded_12  n x2 x3 l4 x6 M = some (r, M') → At E X 12 [none, none, some (.int x2), some (.int x3), some (.long l4), none, some (.int x6), none] [] M := by
  intro n
  induction n with
  | zero => intro x2 x3 l4 x6 M h; rw [fX9_folded_12] at h; cases h
  | succ n ih =>
    intro x2 x3 l4 x6 M h
    rw [fX9_folded_12] at h
    refine s_iload6 C dX9_folded_12 ?_
    refine s_if_lt (tgt := 45) C h dX9_folded_14 (by decide) ⟨fun h => ?_, fun h => ?_⟩
    · refine s_lload4 C dX9_folded_45 ?_
      refine s_lconst (v := 1) C (by decide) dX9_folded_47 ?_
      refine s_iload3 C dX9_folded_48 ?_
      refine s_lshl C dX9_folded_49 ?_
      refine s_lconst (v := 1) C (by decide) dX9_folded_50 ?_
      refine s_lsub C dX9_folded_51 ?_
      refine s_land C dX9_folded_52 ?_
      refine s_l2i C dX9_folded_53 ?_
      exact s_iret C R h dX9_folded_54
    · refine s_iload3 C dX9_folded_17 ?_
      refine s_iload6 C dX9_folded_18 ?_
      refine s_ishl C dX9_folded_20 ?_
      refine s_istore7 C rfl dX9_folded_21 ?_
      refine s_iload7 C dX9_folded_23 ?_
      refine s_iload2 C dX9_folded_25 ?_
      refine s_ic_ge (tgt := 39) C h dX9_folded_26 (by decide) ⟨fun h => ?_, fun h => ?_⟩
      · refine s_fg 7 ?_
        exact bX9_folded_39 C R hd (ih) h
      · refine s_lload4 C dX9_folded_29 ?_
        refine s_lload4 C dX9_folded_31 ?_
        refine s_iload7 C dX9_folded_33 ?_
        refine s_lushr C dX9_folded_35 ?_
        refine s_lxor C dX9_folded_36 ?_
        refine s_lstore4 C rfl dX9_folded_37 ?_
        refine s_fg 7 ?_
        exact bX9_folded_39 C R hd (ih) h
set_option maxRecDepth 4000 in
theorem tX9_folded {l : Launch} {E : En} {A : Nat → Prop} {d : Nat} {r : Int32} {M M' : Mem} {l0 : Int64} {x2 : Int32} {x3 : Int32} (hE : Okk E A) (hd : 0 ≤ d)  (h : fX9_folded l0 x2 x3 M = some (r, M')) : Ct l E A d yX9_folded cX9_folded 8 (some .int) [.long l0, .int x2, .int x3] M (some (.int r)) M' := by
  refine Ct.mk (ls := [some (.long l0), none, some (.int x2), some (.int x3), none, none, none, none]) hE (by decide +kernel) rfl (Nat.le_of_ble_eq_true rfl) (fun X hXl hXA C R => ?_)
  subst hXl; subst hXA
  unfold fX9_folded at h
  refine s_lload0 C dX9_folded_0 ?_
  refine s_lconst (v := 1) C (by decide) dX9_folded_1 ?_
  refine s_iload2 C dX9_folded_2 ?_
  refine s_lshl C dX9_folded_3 ?_
  refine s_lconst (v := 1) C (by decide) dX9_folded_4 ?_
  refine s_lsub C dX9_folded_5 ?_
  refine s_land C dX9_folded_6 ?_
  refine s_lstore4 C rfl dX9_folded_7 ?_
  refine s_iconst (v := 5) C (by decide) dX9_folded_9 ?_
  refine s_istore6 C rfl dX9_folded_10 ?_
  refine s_fg 0 ?_
  exact bX9_folded_12 C R hd  LF _ _ _ _ _ h
set_option maxRecDepth 4000 in
theorem tX9_lowest {l : Launch} {E : En} {A : Nat → Prop} {d : Nat} {r : Int32} {M M' : Mem} {x0 : Int32} (hE : Okk E A) (hd : 0 ≤ d)  (h : fX9_lowest x0 M = some (r, M')) : Ct l E A d yX9_lowest cX9_lowest 1 (some .int) [.int x0] M (some (.int r)) M' := by
  refine Ct.mk (ls := [some (.int x0)]) hE (by decide +kernel) rfl (Nat.le_of_ble_eq_true rfl) (fun X hXl hXA C R => ?_)
  subst hXl; subst hXA
  unfold fX9_lowest at h
  refine s_iconst (v := 1) C (by decide) dX9_lowest_0 ?_
  refine s_iload0 C dX9_lowest_1 ?_
  refine s_ishl C dX9_lowest_2 ?_
  refine s_iconst (v := 1) C (by decide) dX9_lowest_3 ?_
  refine s_isub C dX9_lowest_4 ?_
  exact s_iret C R h dX9_lowest_5
set_option maxRecDepth 4000 in
theorem tX6_indexOf {l : Launch} {E : En} {A : Nat → Prop} {d : Nat} {r : Int32} {M M' : Mem} {o : Nat} {x1 : Int32} {x2 : Int32} {l3 : Int64} (hE : Okk E A) (hd : 1 ≤ d) (ho : kd o = (6, 0)) (h : fX6_indexOf o x1 x2 l3 M = some (r, M')) : Ct l E A d yX6_indexOf cX6_indexOf 6 (some .int) [.ref (ad E o), .int x1, .int x2, .long l3] M (some (.int r)) M' := by
  refine Ct.mk (ls := [some (.ref (ad E o)), some (.int x1), some (.int x2), some (.long l3), none, none]) hE (by decide +kernel) rfl (Nat.le_of_ble_eq_true rfl) (fun X hXl hXA C R => ?_)
  subst hXl; subst hXA
  unfold fX6_indexOf at h
  refine s_iload2 C dX6_indexOf_0 ?_
  refine s_iload2 C dX6_indexOf_1 ?_
  refine s_aload0 C dX6_indexOf_2 ?_
  refine gX6_35 C ho dX6_indexOf_3 ?_
  refine s_ishr C dX6_indexOf_6 ?_
  refine s_ixor C dX6_indexOf_7 ?_
  refine s_lload3 C dX6_indexOf_8 ?_
  refine s_aload0 C dX6_indexOf_9 ?_
  refine gX6_9 C ho dX6_indexOf_10 ?_
  refine s_iload1 C dX6_indexOf_13 ?_
  refine s_iald C (qX6_spans ho) h dX6_indexOf_14 (fun h => ?_)
  refine s_aload0 C dX6_indexOf_15 ?_
  refine gX6_35 C ho dX6_indexOf_16 ?_
  obtain ⟨r2, M1, hq, h⟩ := bI_e h
  refine s_callN (As := [.long l3, .int (M.1 (o + 1) (tn x1)), .int (M.1 o 0)]) (v := some (.int r2)) C rfl (by omega) wX6_76 rfl (Nat.le_of_ble_eq_true rfl) dX6_indexOf_19 (tX9_folded C.2.2.2.2.2.2.1 (by omega)  hq) ?_
  refine s_ixor C dX6_indexOf_22 ?_
  refine s_iload1 C dX6_indexOf_23 ?_
  refine s_ixor C dX6_indexOf_24 ?_
  refine s_istore5 C rfl dX6_indexOf_25 ?_
  refine s_iload5 C dX6_indexOf_27 ?_
  refine s_aload0 C dX6_indexOf_29 ?_
  refine gX6_35 C ho dX6_indexOf_30 ?_
  obtain ⟨r4, M3, hq, h⟩ := bI_e h
  refine s_callN (As := [.int (M1.1 o 0)]) (v := some (.int r4)) C rfl (by omega) wX6_80 rfl (Nat.le_of_ble_eq_true rfl) dX6_indexOf_33 (tX9_lowest C.2.2.2.2.2.2.1 (by omega)  hq) ?_
  refine s_iand C dX6_indexOf_36 ?_
  exact s_iret C R h dX6_indexOf_37
set_option maxRecDepth 4000 in
theorem tX6_tagOf {l : Launch} {E : En} {A : Nat → Prop} {d : Nat} {r : Int32} {M M' : Mem} {o : Nat} {x1 : Int32} {x2 : Int32} {l3 : Int64} (hE : Okk E A) (hd : 1 ≤ d) (ho : kd o = (6, 0)) (h : fX6_tagOf o x1 x2 l3 M = some (r, M')) : Ct l E A d yX6_tagOf cX6_tagOf 6 (some .int) [.ref (ad E o), .int x1, .int x2, .long l3] M (some (.int r)) M' := by
  refine Ct.mk (ls := [some (.ref (ad E o)), some (.int x1), some (.int x2), some (.long l3), none, none]) hE (by decide +kernel) rfl (Nat.le_of_ble_eq_true rfl) (fun X hXl hXA C R => ?_)
  subst hXl; subst hXA
  unfold fX6_tagOf at h
  refine s_iload2 C dX6_tagOf_0 ?_
  refine s_lload3 C dX6_tagOf_1 ?_
  refine s_aload0 C dX6_tagOf_2 ?_
  refine gX6_9 C ho dX6_tagOf_3 ?_
  refine s_iload1 C dX6_tagOf_6 ?_
  refine s_iald C (qX6_spans ho) h dX6_tagOf_7 (fun h => ?_)
  refine s_aload0 C dX6_tagOf_8 ?_
  refine gX6_39 C ho dX6_tagOf_9 ?_
  obtain ⟨r2, M1, hq, h⟩ := bI_e h
  refine s_callN (As := [.long l3, .int (M.1 (o + 1) (tn x1)), .int (M.1 o 1)]) (v := some (.int r2)) C rfl (by omega) wX6_76 rfl (Nat.le_of_ble_eq_true rfl) dX6_tagOf_12 (tX9_folded C.2.2.2.2.2.2.1 (by omega)  hq) ?_
  refine s_ixor C dX6_tagOf_15 ?_
  refine s_iconst (v := 2) C (by decide) dX6_tagOf_16 ?_
  refine s_lload3 C dX6_tagOf_17 ?_
  refine s_aload0 C dX6_tagOf_18 ?_
  refine gX6_9 C ho dX6_tagOf_19 ?_
  refine s_iload1 C dX6_tagOf_22 ?_
  refine s_iald C (qX6_spans ho) h dX6_tagOf_23 (fun h => ?_)
  refine s_aload0 C dX6_tagOf_24 ?_
  refine gX6_39 C ho dX6_tagOf_25 ?_
  refine s_iconst (v := 1) C (by decide) dX6_tagOf_28 ?_
  refine s_isub C dX6_tagOf_29 ?_
  obtain ⟨r4, M3, hq, h⟩ := bI_e h
  refine s_callN (As := [.long l3, .int (M1.1 (o + 1) (tn x1)), .int ((M1.1 o 1) - (1 : Int32))]) (v := some (.int r4)) C rfl (by omega) wX6_76 rfl (Nat.le_of_ble_eq_true rfl) dX6_tagOf_30 (tX9_folded C.2.2.2.2.2.2.1 (by omega)  hq) ?_
  refine s_imul C dX6_tagOf_33 ?_
  refine s_ixor C dX6_tagOf_34 ?_
  refine s_istore5 C rfl dX6_tagOf_35 ?_
  refine s_iload5 C dX6_tagOf_37 ?_
  refine s_aload0 C dX6_tagOf_39 ?_
  refine gX6_39 C ho dX6_tagOf_40 ?_
  obtain ⟨r6, M5, hq, h⟩ := bI_e h
  refine s_callN (As := [.int (M3.1 o 1)]) (v := some (.int r6)) C rfl (by omega) wX6_80 rfl (Nat.le_of_ble_eq_true rfl) dX6_tagOf_43 (tX9_lowest C.2.2.2.2.2.2.1 (by omega)  hq) ?_
  refine s_iand C dX6_tagOf_46 ?_
  exact s_iret C R h dX6_tagOf_47
set_option maxRecDepth 4000 in
theorem bX6_says_44 {E : En} {X : Xc} {d : Nat} {r : Int32} {M M' : Mem} {sx0 : Int32} (C : Cx E X d cX6_says RX6 3) (R : Rt E X (some .int) (some (.int r)) M') (hd : 0 ≤ d)    (h : fX6_says_44  sx0 M = some (r, M')) : At E X 44 [none, none, none] [.int sx0] M := by
  unfold fX6_says_44 at h
  refine s_istore2 C rfl dX6_says_44 ?_
  refine s_iload2 C dX6_says_45 ?_
  refine s_if_eq (tgt := 53) C h dX6_says_46 (by decide) ⟨fun h => ?_, fun h => ?_⟩
  · refine s_iconst (v := 0) C (by decide) dX6_says_53 ?_
    exact s_iret C R h dX6_says_54
  · refine s_iconst (v := 1) C (by decide) dX6_says_49 ?_
    refine s_goto (tgt := 54) C dX6_says_50 (by decide) ?_
    exact s_iret C R h dX6_says_54
set_option maxRecDepth 4000 in
theorem tX6_says {l : Launch} {E : En} {A : Nat → Prop} {d : Nat} {r : Int32} {M M' : Mem} {o : Nat} {x1 : Int32} (hE : Okk E A) (hd : 0 ≤ d) (ho : kd o = (6, 0)) (h : fX6_says o x1 M = some (r, M')) : Ct l E A d yX6_says cX6_says 3 (some .int) [.ref (ad E o), .int x1] M (some (.int r)) M' := by
  refine Ct.mk (ls := [some (.ref (ad E o)), some (.int x1), none]) hE (by decide +kernel) rfl (Nat.le_of_ble_eq_true rfl) (fun X hXl hXA C R => ?_)
  subst hXl; subst hXA
  unfold fX6_says at h
  refine s_iload1 C dX6_says_0 ?_
  refine s_if_ne (tgt := 25) C h dX6_says_1 (by decide) ⟨fun h => ?_, fun h => ?_⟩
  · refine s_aload0 C dX6_says_25 ?_
    refine gX6_18 C ho dX6_says_26 ?_
    refine s_aload0 C dX6_says_29 ?_
    refine gX6_27 C ho dX6_says_30 ?_
    refine s_iload1 C dX6_says_33 ?_
    refine s_iald C (qX6_places ho) h dX6_says_34 (fun h => ?_)
    refine s_iald C (qX6_counts ho) h dX6_says_35 (fun h => ?_)
    refine s_if_lt (tgt := 43) C h dX6_says_36 (by decide) ⟨fun h => ?_, fun h => ?_⟩
    · refine s_iconst (v := 0) C (by decide) dX6_says_43 ?_
      refine s_fg 0 ?_
      refine s_fg 1 ?_
      exact bX6_says_44 C R hd  h
    · refine s_iconst (v := 1) C (by decide) dX6_says_39 ?_
      refine s_goto (tgt := 44) C dX6_says_40 (by decide) ?_
      refine s_fg 0 ?_
      refine s_fg 1 ?_
      exact bX6_says_44 C R hd  h
  · refine s_aload0 C dX6_says_4 ?_
    refine gX6_24 C ho dX6_says_5 ?_
    refine s_aload0 C dX6_says_8 ?_
    refine gX6_84 C ho dX6_says_9 ?_
    refine s_iald C (qX6_bases ho) h dX6_says_12 (fun h => ?_)
    refine s_iconst (v := 2) C (by decide) dX6_says_13 ?_
    refine s_ic_lt (tgt := 21) C h dX6_says_14 (by decide) ⟨fun h => ?_, fun h => ?_⟩
    · refine s_iconst (v := 0) C (by decide) dX6_says_21 ?_
      refine s_goto (tgt := 44) C dX6_says_22 (by decide) ?_
      refine s_fg 0 ?_
      refine s_fg 1 ?_
      exact bX6_says_44 C R hd  h
    · refine s_iconst (v := 1) C (by decide) dX6_says_17 ?_
      refine s_goto (tgt := 44) C dX6_says_18 (by decide) ?_
      refine s_fg 0 ?_
      refine s_fg 1 ?_
      exact bX6_says_44 C R hd  h
set_option maxRecDepth 4000 in
theorem bX6_look_210 {E : En} {X : Xc} {d : Nat} {M M' : Mem} {so0 : Nat} {so1 : Nat} {sx2 : Int32} (C : Cx E X d cX6_look RX6 7) (R : Rt E X none none M') (hd : 2 ≤ d)   (hso0 : kd so0 = (6, 0)) (hso1 : kd so1 = (6, 0)) (h : fX6_look_210  so0 so1 sx2 M = some M') : At E X 210 [none, none, none, none, none, none, none] [.int sx2, .ref (ad E so1), .ref (ad E so0)] M := by
  unfold fX6_look_210 at h
  obtain ⟨r2, M1, hq, h⟩ := bI_e h
  refine s_callV (T := TX6) (As := [.int sx2]) (v := some (.int r2)) C rfl hso1 (by decide) rfl (by omega) wX6_110 rfl (Nat.le_of_ble_eq_true rfl) dX6_look_210 (tX6_says C.2.2.2.2.2.2.1 (by omega) hso1 hq) ?_
  refine pX6_113 C hso0 dX6_look_213 ?_
  exact s_vret C R h dX6_look_216
set_option maxRecDepth 4000 in
theorem bX6_look_206 {E : En} {X : Xc} {d : Nat} {M M' : Mem} {o : Nat} {so0 : Nat} {so1 : Nat} (C : Cx E X d cX6_look RX6 7) (R : Rt E X none none M') (hd : 2 ≤ d)   (ho : kd o = (6, 0)) (hso0 : kd so0 = (6, 0)) (hso1 : kd so1 = (6, 0)) (h : fX6_look_206  o so0 so1 M = some M') : At E X 206 [some (.ref (ad E o)), none, none, none, none, none, none] [.ref (ad E so1), .ref (ad E so0)] M := by
  unfold fX6_look_206 at h
  refine s_aload0 C dX6_look_206 ?_
  refine gX6_87 C ho dX6_look_207 ?_
  refine s_fg 0 ?_
  exact bX6_look_210 C R hd  hso0 hso1 h
set_option maxRecDepth 4000 in
theorem bX6_look_173 {E : En} {X : Xc} {d : Nat} {M M' : Mem} {o : Nat} {x4 : Int32} {so0 : Nat} {sx1 : Int32} (C : Cx E X d cX6_look RX6 7) (R : Rt E X none none M') (hd : 2 ≤ d)   (ho : kd o = (6, 0)) (hso0 : kd so0 = (6, 0)) (h : fX6_look_173  o x4 so0 sx1 M = some M') : At E X 173 [some (.ref (ad E o)), none, none, none, some (.int x4), none, none] [.int sx1, .ref (ad E so0)] M := by
  unfold fX6_look_173 at h
  obtain ⟨hb, h⟩ := ck_e h
  refine pX6_106 C hso0 hb dX6_look_173 ?_
  refine s_aload0 C dX6_look_176 ?_
  refine s_aload0 C dX6_look_177 ?_
  refine s_aload0 C dX6_look_178 ?_
  refine gX6_106 C ho dX6_look_179 ?_
  refine s_if_eq (tgt := 206) C h dX6_look_182 (by decide) ⟨fun h => ?_, fun h => ?_⟩
  · refine s_fg 4 ?_
    exact bX6_look_206 C R hd  ho ho ho h
  · refine s_iload4 C dX6_look_185 ?_
    refine s_if_eq (tgt := 206) C h dX6_look_187 (by decide) ⟨fun h => ?_, fun h => ?_⟩
    · refine s_fg 4 ?_
      exact bX6_look_206 C R hd  ho ho ho h
    · refine s_aload0 C dX6_look_190 ?_
      refine gX6_67 C ho dX6_look_191 ?_
      refine s_bipush (v := 7) C (by decide) dX6_look_194 ?_
      refine s_ic_le (tgt := 206) C h dX6_look_196 (by decide) ⟨fun h => ?_, fun h => ?_⟩
      · refine s_fg 4 ?_
        exact bX6_look_206 C R hd  ho ho ho h
      · refine s_aload0 C dX6_look_199 ?_
        refine gX6_90 C ho dX6_look_200 ?_
        refine s_goto (tgt := 210) C dX6_look_203 (by decide) ?_
        refine s_fg 0 ?_
        refine s_fg 4 ?_
        exact bX6_look_210 C R hd  ho ho h
set_option maxRecDepth 4000 in
theorem bX6_look_172 {E : En} {X : Xc} {d : Nat} {M M' : Mem} {o : Nat} {x4 : Int32} {so0 : Nat} (C : Cx E X d cX6_look RX6 7) (R : Rt E X none none M') (hd : 2 ≤ d)   (ho : kd o = (6, 0)) (hso0 : kd so0 = (6, 0)) (h : fX6_look_172  o x4 so0 M = some M') : At E X 172 [some (.ref (ad E o)), none, none, none, some (.int x4), none, none] [.ref (ad E so0)] M := by
  unfold fX6_look_172 at h
  refine s_iconst (v := 0) C (by decide) dX6_look_172 ?_
  exact bX6_look_173 C R hd  ho hso0 h
set_option maxRecDepth 4000 in
theorem bX6_look_112 {E : En} {X : Xc} {d : Nat} {M M' : Mem} {o : Nat} {x1 : Int32} {l2 : Int64} {x4 : Int32} {x5 : Int32} (C : Cx E X d cX6_look RX6 7) (R : Rt E X none none M') (hd : 2 ≤ d) {k21 : Nat → Int32 → Int64 → Int32 → Int32 → Mem → Option (Mem)} (hk21 : ∀ (o : Nat) (x1 : Int32) (l2 : Int64) (x4 : Int32) (x5 : Int32) (M : Mem) (_ : kd o = (6, 0)), k21 o x1 l2 x4 x5 M = some M' → At E X 21 [some (.ref (ad E o)), some (.int x1), some (.long l2), none, some (.int x4), some (.int x5), none] [] M) (ho : kd o = (6, 0)) (h : fX6_look_112 k21 o x1 l2 x4 x5 M = some M') : At E X 112 [some (.ref (ad E o)), some (.int x1), some (.long l2), none, some (.int x4), some (.int x5), none] [] M := by
  unfold fX6_look_112 at h
  refine s_iinc5 (v := 1) C rfl dX6_look_112 (by decide) ?_
  refine s_goto (tgt := 21) C dX6_look_115 (by decide) ?_
  exact hk21 _ _ _ _ _ _ ho h
set_option maxRecDepth 4000 in
theorem bX6_look_21 {E : En} {X : Xc} {d : Nat} {M' : Mem} (C : Cx E X d cX6_look RX6 7) (R : Rt E X none none M') (hd : 2 ≤ d)   : ∀ (n : Nat) (o : Nat) (x1 : Int32) (l2 : Int64) (x4 : Int32) (x5 : Int32) (M : Mem) (_ : kd o = (6, 0)), fX6_look_21  n o x1 l2 x4 x5 M = some M' → At E X 21 [some (.ref (ad E o)), some (.int x1), some (.long l2), none, some (.int x4), some (.int x5), none] [] M := by
  intro n
  induction n with
  | zero => intro o x1 l2 x4 x5 M ho h; rw [fX6_look_21] at h; cases h
  | succ n ih =>
    intro o x1 l2 x4 x5 M ho h
    rw [fX6_look_21] at h
    refine s_iload5 C dX6_look_21 ?_
    refine s_aload0 C dX6_look_23 ?_
    refine gX6_48 C ho dX6_look_24 ?_
    refine s_ic_gt (tgt := 118) C h dX6_look_27 (by decide) ⟨fun h => ?_, fun h => ?_⟩
    · refine s_aload0 C dX6_look_118 ?_
      refine s_aload0 C dX6_look_119 ?_
      refine gX6_87 C ho dX6_look_120 ?_
      refine s_if_le (tgt := 172) C h dX6_look_123 (by decide) ⟨fun h => ?_, fun h => ?_⟩
      · refine s_fg 1 ?_
        refine s_fg 2 ?_
        refine s_fg 5 ?_
        exact bX6_look_172 C R hd  ho ho h
      · refine s_aload0 C dX6_look_126 ?_
        refine gX6_21 C ho dX6_look_127 ?_
        refine s_aload0 C dX6_look_130 ?_
        refine gX6_27 C ho dX6_look_131 ?_
        refine s_aload0 C dX6_look_134 ?_
        refine gX6_87 C ho dX6_look_135 ?_
        refine s_iald C (qX6_places ho) h dX6_look_138 (fun h => ?_)
        refine s_iald C (qX6_uses ho) h dX6_look_139 (fun h => ?_)
        refine s_if_ne (tgt := 172) C h dX6_look_140 (by decide) ⟨fun h => ?_, fun h => ?_⟩
        · refine s_fg 1 ?_
          refine s_fg 2 ?_
          refine s_fg 5 ?_
          exact bX6_look_172 C R hd  ho ho h
        · refine s_aload0 C dX6_look_143 ?_
          refine gX6_18 C ho dX6_look_144 ?_
          refine s_aload0 C dX6_look_147 ?_
          refine gX6_27 C ho dX6_look_148 ?_
          refine s_aload0 C dX6_look_151 ?_
          refine gX6_87 C ho dX6_look_152 ?_
          refine s_iald C (qX6_places ho) h dX6_look_155 (fun h => ?_)
          refine s_iald C (qX6_counts ho) h dX6_look_156 (fun h => ?_)
          refine s_i2l C dX6_look_157 ?_
          refine s_ldc2 (v := -1) C k_783 dX6_look_158 ?_
          refine s_lconst (v := 0) C (by decide) dX6_look_161 ?_
          obtain ⟨r2, M1, hq, h⟩ := bI_e h
          refine s_callN (As := [.long ((M.1 (o + 3) (tn (M.1 (o + 6) (tn (M.1 o 15)))))).toInt64, .long (-1 : Int64), .long (0 : Int64)]) (v := some (.int r2)) C rfl (by omega) wX6_102 rfl (Nat.le_of_ble_eq_true rfl) dX6_look_162 (tX9_within C.2.2.2.2.2.2.1 (by omega)  hq) ?_
          refine s_if_eq (tgt := 172) C h dX6_look_165 (by decide) ⟨fun h => ?_, fun h => ?_⟩
          · refine s_fg 1 ?_
            refine s_fg 2 ?_
            refine s_fg 5 ?_
            exact bX6_look_172 C R hd  ho ho h
          · refine s_iconst (v := 1) C (by decide) dX6_look_168 ?_
            refine s_goto (tgt := 173) C dX6_look_169 (by decide) ?_
            refine s_fg 1 ?_
            refine s_fg 2 ?_
            refine s_fg 5 ?_
            exact bX6_look_173 C R hd  ho ho h
    · refine s_iload5 C dX6_look_30 ?_
      refine s_aload0 C dX6_look_32 ?_
      refine gX6_51 C ho dX6_look_33 ?_
      refine s_ic_ne (tgt := 42) C h dX6_look_36 (by decide) ⟨fun h => ?_, fun h => ?_⟩
      · refine s_aload0 C dX6_look_42 ?_
        refine gX6_27 C ho dX6_look_43 ?_
        refine s_iload5 C dX6_look_46 ?_
        refine s_bipush (v := 16) C (by decide) dX6_look_48 ?_
        refine s_iload5 C dX6_look_50 ?_
        refine s_iconst (v := 1) C (by decide) dX6_look_52 ?_
        refine s_isub C dX6_look_53 ?_
        refine s_imul C dX6_look_54 ?_
        refine s_aload0 C dX6_look_55 ?_
        refine s_iload5 C dX6_look_56 ?_
        refine s_iload1 C dX6_look_58 ?_
        refine s_lload2 C dX6_look_59 ?_
        obtain ⟨r4, M3, hq, h⟩ := bI_e h
        refine s_callV (T := TX6) (As := [.int x5, .int x1, .long l2]) (v := some (.int r4)) C rfl ho (by decide) rfl (by omega) wX6_93 rfl (Nat.le_of_ble_eq_true rfl) dX6_look_60 (tX6_indexOf C.2.2.2.2.2.2.1 (by omega) ho hq) ?_
        refine s_iadd C dX6_look_63 ?_
        refine s_iast C (qX6_places ho) h dX6_look_64 (fun h => ?_)
        refine s_aload0 C dX6_look_65 ?_
        refine gX6_15 C ho dX6_look_66 ?_
        refine s_aload0 C dX6_look_69 ?_
        refine gX6_27 C ho dX6_look_70 ?_
        refine s_iload5 C dX6_look_73 ?_
        refine s_iald C (qX6_places ho) h dX6_look_75 (fun h => ?_)
        refine s_iald C (qX6_tags ho) h dX6_look_76 (fun h => ?_)
        refine s_istore6 C rfl dX6_look_77 ?_
        refine s_iload6 C dX6_look_79 ?_
        refine s_iconst (v := -1) C (by decide) dX6_look_81 ?_
        refine s_ic_eq (tgt := 112) C h dX6_look_82 (by decide) ⟨fun h => ?_, fun h => ?_⟩
        · refine s_fg 6 ?_
          exact bX6_look_112 C R hd (ih) ho h
        · refine s_iload6 C dX6_look_85 ?_
          refine s_aload0 C dX6_look_87 ?_
          refine s_iload5 C dX6_look_88 ?_
          refine s_iload1 C dX6_look_90 ?_
          refine s_lload2 C dX6_look_91 ?_
          obtain ⟨r6, M5, hq, h⟩ := bI_e h
          refine s_callV (T := TX6) (As := [.int x5, .int x1, .long l2]) (v := some (.int r6)) C rfl ho (by decide) rfl (by omega) wX6_97 rfl (Nat.le_of_ble_eq_true rfl) dX6_look_92 (tX6_tagOf C.2.2.2.2.2.2.1 (by omega) ho hq) ?_
          refine s_ic_ne (tgt := 112) C h dX6_look_95 (by decide) ⟨fun h => ?_, fun h => ?_⟩
          · refine s_fg 6 ?_
            exact bX6_look_112 C R hd (ih) ho h
          · refine s_aload0 C dX6_look_98 ?_
            refine s_aload0 C dX6_look_99 ?_
            refine gX6_87 C ho dX6_look_100 ?_
            refine pX6_90 C ho dX6_look_103 ?_
            refine s_aload0 C dX6_look_106 ?_
            refine s_iload5 C dX6_look_107 ?_
            refine pX6_87 C ho dX6_look_109 ?_
            refine s_fg 6 ?_
            exact bX6_look_112 C R hd (ih) ho h
      · refine s_goto (tgt := 112) C dX6_look_39 (by decide) ?_
        exact bX6_look_112 C R hd (ih) ho h
set_option maxRecDepth 4000 in
theorem tX6_look {l : Launch} {E : En} {A : Nat → Prop} {d : Nat} {M M' : Mem} {o : Nat} {x1 : Int32} {l2 : Int64} {x4 : Int32} (hE : Okk E A) (hd : 2 ≤ d) (ho : kd o = (6, 0)) (h : fX6_look o x1 l2 x4 M = some M') : Ct l E A d yX6_look cX6_look 7 none [.ref (ad E o), .int x1, .long l2, .int x4] M none M' := by
  refine Ct.mk (ls := [some (.ref (ad E o)), some (.int x1), some (.long l2), none, some (.int x4), none, none]) hE (by decide +kernel) rfl (Nat.le_of_ble_eq_true rfl) (fun X hXl hXA C R => ?_)
  subst hXl; subst hXA
  unfold fX6_look at h
  refine s_aload0 C dX6_look_0 ?_
  refine s_iload1 C dX6_look_1 ?_
  refine s_bipush (v := 16) C (by decide) dX6_look_2 ?_
  refine s_iremc C (by decide) dX6_look_4 ?_
  refine pX6_84 C ho dX6_look_5 ?_
  refine s_aload0 C dX6_look_8 ?_
  refine s_iconst (v := 0) C (by decide) dX6_look_9 ?_
  refine pX6_87 C ho dX6_look_10 ?_
  refine s_aload0 C dX6_look_13 ?_
  refine s_iconst (v := 0) C (by decide) dX6_look_14 ?_
  refine pX6_90 C ho dX6_look_15 ?_
  refine s_iconst (v := 1) C (by decide) dX6_look_18 ?_
  refine s_istore5 C rfl dX6_look_19 ?_
  exact bX6_look_21 C R hd  LF _ _ _ _ _ _ ho h
set_option maxRecDepth 4000 in
theorem bX0_weigh_82 {E : En} {X : Xc} {d : Nat} {M' : Mem} (C : Cx E X d cX0_weigh RX0 6) (R : Rt E X none none M') (hd : 1 ≤ d)   : ∀ (n : Nat) (o : Nat) (x5 : Int32) (M : Mem) (_ : kd o = (0, 0)), fX0_weigh_82  n o x5 M = some M' → At E X 82 [some (.ref (ad E o)), none, none, none, none, some (.int x5)] [] M := by
  intro n
  induction n with
  | zero => intro o x5 M ho h; rw [fX0_weigh_82] at h; cases h
  | succ n ih =>
    intro o x5 M ho h
    rw [fX0_weigh_82] at h
    refine s_iload5 C dX0_weigh_82 ?_
    refine s_iconst (v := 3) C (by decide) dX0_weigh_84 ?_
    refine s_ic_ge (tgt := 119) C h dX0_weigh_85 (by decide) ⟨fun h => ?_, fun h => ?_⟩
    · exact s_vret C R h dX0_weigh_119
    · refine s_aload0 C dX0_weigh_88 ?_
      refine s_dup C rfl dX0_weigh_89 ?_
      refine gX0_35 C ho dX0_weigh_90 ?_
      refine s_iconst (v := 2) C (by decide) dX0_weigh_93 ?_
      refine s_aload0 C dX0_weigh_94 ?_
      refine gX0_11 C ho dX0_weigh_95 ?_
      refine s_aload0 C dX0_weigh_98 ?_
      refine gX0_15 C ho dX0_weigh_99 ?_
      refine s_iload5 C dX0_weigh_102 ?_
      refine s_iald C (qX0_places ho) h dX0_weigh_104 (fun h => ?_)
      refine s_iald C (qX0_counts ho) h dX0_weigh_105 (fun h => ?_)
      refine s_imul C dX0_weigh_106 ?_
      refine s_iconst (v := 1) C (by decide) dX0_weigh_107 ?_
      refine s_iadd C dX0_weigh_108 ?_
      refine s_iadd C dX0_weigh_109 ?_
      refine pX0_35 C ho dX0_weigh_110 ?_
      refine s_iinc5 (v := 1) C rfl dX0_weigh_113 (by decide) ?_
      refine s_goto (tgt := 82) C dX0_weigh_116 (by decide) ?_
      exact ih _ _ _ ho h
set_option maxRecDepth 4000 in
theorem bX0_weigh_76 {E : En} {X : Xc} {d : Nat} {M M' : Mem} {o : Nat} {so0 : Nat} {sx1 : Int32} (C : Cx E X d cX0_weigh RX0 6) (R : Rt E X none none M') (hd : 1 ≤ d)   (ho : kd o = (0, 0)) (hso0 : kd so0 = (0, 0)) (h : fX0_weigh_76  o so0 sx1 M = some M') : At E X 76 [some (.ref (ad E o)), none, none, none, none, none] [.int sx1, .ref (ad E so0)] M := by
  unfold fX0_weigh_76 at h
  refine pX0_35 C hso0 dX0_weigh_76 ?_
  refine s_iconst (v := 0) C (by decide) dX0_weigh_79 ?_
  refine s_istore5 C rfl dX0_weigh_80 ?_
  exact bX0_weigh_82 C R hd  LF _ _ _ ho h
set_option maxRecDepth 4000 in
theorem tX0_weigh {l : Launch} {E : En} {A : Nat → Prop} {d : Nat} {M M' : Mem} {o : Nat} {x1 : Int32} {l2 : Int64} {x4 : Int32} (hE : Okk E A) (hd : 1 ≤ d) (ho : kd o = (0, 0)) (h : fX0_weigh o x1 l2 x4 M = some M') : Ct l E A d yX0_weigh cX0_weigh 6 none [.ref (ad E o), .int x1, .long l2, .int x4] M none M' := by
  refine Ct.mk (ls := [some (.ref (ad E o)), some (.int x1), some (.long l2), none, some (.int x4), none]) hE (by decide +kernel) rfl (Nat.le_of_ble_eq_true rfl) (fun X hXl hXA C R => ?_)
  subst hXl; subst hXA
  unfold fX0_weigh at h
  refine s_aload0 C dX0_weigh_0 ?_
  refine s_iload4 C dX0_weigh_1 ?_
  refine pX0_28 C ho dX0_weigh_3 ?_
  refine s_aload0 C dX0_weigh_6 ?_
  refine gX0_15 C ho dX0_weigh_7 ?_
  refine s_iconst (v := 0) C (by decide) dX0_weigh_10 ?_
  refine s_iconst (v := 2) C (by decide) dX0_weigh_11 ?_
  refine s_iload1 C dX0_weigh_12 ?_
  refine s_bipush (v := 8) C (by decide) dX0_weigh_13 ?_
  refine s_iremc C (by decide) dX0_weigh_15 ?_
  refine s_imul C dX0_weigh_16 ?_
  refine s_aload0 C dX0_weigh_17 ?_
  refine gX0_28 C ho dX0_weigh_18 ?_
  refine s_iadd C dX0_weigh_21 ?_
  refine s_iast C (qX0_places ho) h dX0_weigh_22 (fun h => ?_)
  refine s_aload0 C dX0_weigh_23 ?_
  refine gX0_15 C ho dX0_weigh_24 ?_
  refine s_iconst (v := 1) C (by decide) dX0_weigh_27 ?_
  refine s_bipush (v := 16) C (by decide) dX0_weigh_28 ?_
  refine s_iload1 C dX0_weigh_30 ?_
  refine s_lload2 C dX0_weigh_31 ?_
  refine s_l2i C dX0_weigh_32 ?_
  refine s_ixor C dX0_weigh_33 ?_
  refine s_bipush (v := 15) C (by decide) dX0_weigh_34 ?_
  refine s_iand C dX0_weigh_36 ?_
  refine s_iadd C dX0_weigh_37 ?_
  refine s_iast C (qX0_places ho) h dX0_weigh_38 (fun h => ?_)
  refine s_aload0 C dX0_weigh_39 ?_
  refine gX0_15 C ho dX0_weigh_40 ?_
  refine s_iconst (v := 2) C (by decide) dX0_weigh_43 ?_
  refine s_bipush (v := 32) C (by decide) dX0_weigh_44 ?_
  refine s_iload1 C dX0_weigh_46 ?_
  refine s_lload2 C dX0_weigh_47 ?_
  refine s_bipush (v := 12) C (by decide) dX0_weigh_48 ?_
  refine s_iconst (v := 4) C (by decide) dX0_weigh_50 ?_
  obtain ⟨r2, M1, hq, h⟩ := bI_e h
  refine s_callN (As := [.long l2, .int (12 : Int32), .int (4 : Int32)]) (v := some (.int r2)) C rfl (by omega) wX0_31 rfl (Nat.le_of_ble_eq_true rfl) dX0_weigh_51 (tX9_folded C.2.2.2.2.2.2.1 (by omega)  hq) ?_
  refine s_ixor C dX0_weigh_54 ?_
  refine s_bipush (v := 15) C (by decide) dX0_weigh_55 ?_
  refine s_iand C dX0_weigh_57 ?_
  refine s_iadd C dX0_weigh_58 ?_
  refine s_iast C (qX0_places ho) h dX0_weigh_59 (fun h => ?_)
  refine s_aload0 C dX0_weigh_60 ?_
  refine s_aload0 C dX0_weigh_61 ?_
  refine gX0_28 C ho dX0_weigh_62 ?_
  refine s_iconst (v := 1) C (by decide) dX0_weigh_65 ?_
  refine s_ic_ne (tgt := 74) C h dX0_weigh_66 (by decide) ⟨fun h => ?_, fun h => ?_⟩
  · refine s_bipush (v := -6) C (by decide) dX0_weigh_74 ?_
    refine s_fg 1 ?_
    refine s_fg 2 ?_
    refine s_fg 4 ?_
    exact bX0_weigh_76 C R hd  ho ho h
  · refine s_bipush (v := 6) C (by decide) dX0_weigh_69 ?_
    refine s_goto (tgt := 76) C dX0_weigh_71 (by decide) ?_
    refine s_fg 1 ?_
    refine s_fg 2 ?_
    refine s_fg 4 ?_
    exact bX0_weigh_76 C R hd  ho ho h
set_option maxRecDepth 4000 in
theorem tX2_say {l : Launch} {E : En} {A : Nat → Prop} {d : Nat} {r : Int32} {M M' : Mem} {o : Nat} {x1 : Int32} (hE : Okk E A) (hd : 0 ≤ d) (ho : kd o = (2, 0)) (h : fX2_say o x1 M = some (r, M')) : Ct l E A d yX2_say cX2_say 3 (some .int) [.ref (ad E o), .int x1] M (some (.int r)) M' := by
  refine Ct.mk (ls := [some (.ref (ad E o)), some (.int x1), none]) hE (by decide +kernel) rfl (Nat.le_of_ble_eq_true rfl) (fun X hXl hXA C R => ?_)
  subst hXl; subst hXA
  unfold fX2_say at h
  refine s_iload1 C dX2_say_0 ?_
  refine s_bipush (v := 8) C (by decide) dX2_say_1 ?_
  refine s_iremc C (by decide) dX2_say_3 ?_
  refine s_istore2 C rfl dX2_say_4 ?_
  refine s_aload0 C dX2_say_5 ?_
  refine gX2_11 C ho dX2_say_6 ?_
  refine s_iload2 C dX2_say_9 ?_
  refine s_iald C (qX2_owners ho) h dX2_say_10 (fun h => ?_)
  refine s_iload1 C dX2_say_11 ?_
  refine s_ic_ne (tgt := 25) C h dX2_say_12 (by decide) ⟨fun h => ?_, fun h => ?_⟩
  · refine s_iconst (v := -1) C (by decide) dX2_say_25 ?_
    exact s_iret C R h dX2_say_26
  · refine s_aload0 C dX2_say_15 ?_
    refine gX2_21 C ho dX2_say_16 ?_
    refine s_iload2 C dX2_say_19 ?_
    refine s_iald C (qX2_sures ho) h dX2_say_20 (fun h => ?_)
    refine s_iconst (v := 3) C (by decide) dX2_say_21 ?_
    refine s_ic_ge (tgt := 27) C h dX2_say_22 (by decide) ⟨fun h => ?_, fun h => ?_⟩
    · refine s_aload0 C dX2_say_27 ?_
      refine gX2_18 C ho dX2_say_28 ?_
      refine s_iload2 C dX2_say_31 ?_
      refine s_iald C (qX2_runs ho) h dX2_say_32 (fun h => ?_)
      refine s_aload0 C dX2_say_33 ?_
      refine gX2_15 C ho dX2_say_34 ?_
      refine s_iload2 C dX2_say_37 ?_
      refine s_iald C (qX2_lengths ho) h dX2_say_38 (fun h => ?_)
      refine s_ic_ge (tgt := 46) C h dX2_say_39 (by decide) ⟨fun h => ?_, fun h => ?_⟩
      · refine s_iconst (v := 0) C (by decide) dX2_say_46 ?_
        exact s_iret C R h dX2_say_47
      · refine s_iconst (v := 1) C (by decide) dX2_say_42 ?_
        refine s_goto (tgt := 47) C dX2_say_43 (by decide) ?_
        exact s_iret C R h dX2_say_47
    · refine s_iconst (v := -1) C (by decide) dX2_say_25 ?_
      exact s_iret C R h dX2_say_26
set_option maxRecDepth 4000 in
theorem tX0_side {l : Launch} {E : En} {A : Nat → Prop} {d : Nat} {r : Int32} {M M' : Mem} {o : Nat} (hE : Okk E A) (hd : 0 ≤ d) (ho : kd o = (0, 0)) (h : fX0_side o M = some (r, M')) : Ct l E A d yX0_side cX0_side 1 (some .int) [.ref (ad E o)] M (some (.int r)) M' := by
  refine Ct.mk (ls := [some (.ref (ad E o))]) hE (by decide +kernel) rfl (Nat.le_of_ble_eq_true rfl) (fun X hXl hXA C R => ?_)
  subst hXl; subst hXA
  unfold fX0_side at h
  refine s_aload0 C dX0_side_0 ?_
  refine gX0_35 C ho dX0_side_1 ?_
  refine s_if_le (tgt := 11) C h dX0_side_4 (by decide) ⟨fun h => ?_, fun h => ?_⟩
  · refine s_iconst (v := 0) C (by decide) dX0_side_11 ?_
    exact s_iret C R h dX0_side_12
  · refine s_iconst (v := 1) C (by decide) dX0_side_7 ?_
    refine s_goto (tgt := 12) C dX0_side_8 (by decide) ?_
    exact s_iret C R h dX0_side_12
set_option maxRecDepth 4000 in
theorem tX0_say {l : Launch} {E : En} {A : Nat → Prop} {d : Nat} {r : Int32} {M M' : Mem} {o : Nat} (hE : Okk E A) (hd : 1 ≤ d) (ho : kd o = (0, 0)) (h : fX0_say o M = some (r, M')) : Ct l E A d yX0_say cX0_say 1 (some .int) [.ref (ad E o)] M (some (.int r)) M' := by
  refine Ct.mk (ls := [some (.ref (ad E o))]) hE (by decide +kernel) rfl (Nat.le_of_ble_eq_true rfl) (fun X hXl hXA C R => ?_)
  subst hXl; subst hXA
  unfold fX0_say at h
  refine s_aload0 C dX0_say_0 ?_
  obtain ⟨r2, M1, hq, h⟩ := bI_e h
  refine s_callV (T := TX0) (As := []) (v := some (.int r2)) C rfl ho (by decide) rfl (by omega) wX0_38 rfl (Nat.le_of_ble_eq_true rfl) dX0_say_1 (tX0_side C.2.2.2.2.2.2.1 (by omega) ho hq) ?_
  refine s_aload0 C dX0_say_4 ?_
  refine gX0_28 C ho dX0_say_5 ?_
  refine s_ic_eq (tgt := 32) C h dX0_say_8 (by decide) ⟨fun h => ?_, fun h => ?_⟩
  · refine s_iconst (v := -1) C (by decide) dX0_say_32 ?_
    exact s_iret C R h dX0_say_33
  · refine s_aload0 C dX0_say_11 ?_
    refine gX0_35 C ho dX0_say_12 ?_
    refine s_abs C rfl (by omega) wX0_42 (Nat.le_of_ble_eq_true rfl) dX0_say_15 ?_
    refine s_aload0 C dX0_say_18 ?_
    refine gX0_24 C ho dX0_say_19 ?_
    refine s_ic_lt (tgt := 32) C h dX0_say_22 (by decide) ⟨fun h => ?_, fun h => ?_⟩
    · refine s_iconst (v := -1) C (by decide) dX0_say_32 ?_
      exact s_iret C R h dX0_say_33
    · refine s_aload0 C dX0_say_25 ?_
      obtain ⟨r4, M3, hq, h⟩ := bI_e h
      refine s_callV (T := TX0) (As := []) (v := some (.int r4)) C rfl ho (by decide) rfl (by omega) wX0_38 rfl (Nat.le_of_ble_eq_true rfl) dX0_say_26 (tX0_side C.2.2.2.2.2.2.1 (by omega) ho hq) ?_
      refine s_goto (tgt := 33) C dX0_say_29 (by decide) ?_
      exact s_iret C R h dX0_say_33
set_option maxRecDepth 4000 in
theorem bX1_ask_106 {E : En} {X : Xc} {d : Nat} {r : Int32} {M M' : Mem} {o : Nat} (C : Cx E X d cX1_ask RX1 2) (R : Rt E X (some .int) (some (.int r)) M') (hd : 3 ≤ d)   (ho : kd o = (1, 0)) (h : fX1_ask_106  o M = some (r, M')) : At E X 106 [some (.ref (ad E o)), none] [] M := by
  unfold fX1_ask_106 at h
  refine s_aload0 C dX1_ask_106 ?_
  refine gX1_81 C ho dX1_ask_107 ?_
  refine s_iconst (v := -1) C (by decide) dX1_ask_110 ?_
  refine s_ic_ne (tgt := 130) C h dX1_ask_111 (by decide) ⟨fun h => ?_, fun h => ?_⟩
  · refine s_aload0 C dX1_ask_130 ?_
    refine gX1_81 C ho dX1_ask_131 ?_
    exact s_iret C R h dX1_ask_134
  · refine s_aload0 C dX1_ask_114 ?_
    refine s_aload0 C dX1_ask_115 ?_
    refine gX1_12 C ho dX1_ask_116 ?_
    refine gX1_70 C (qX1_tables ho) dX1_ask_119 ?_
    refine pX1_81 C ho dX1_ask_122 ?_
    refine s_aload0 C dX1_ask_125 ?_
    refine s_iconst (v := 0) C (by decide) dX1_ask_126 ?_
    refine pX1_84 C ho dX1_ask_127 ?_
    refine s_aload0 C dX1_ask_130 ?_
    refine gX1_81 C ho dX1_ask_131 ?_
    exact s_iret C R h dX1_ask_134
set_option maxRecDepth 4000 in
theorem bX1_ask_98 {E : En} {X : Xc} {d : Nat} {r : Int32} {M M' : Mem} {o : Nat} {so0 : Nat} {sx1 : Int32} (C : Cx E X d cX1_ask RX1 2) (R : Rt E X (some .int) (some (.int r)) M') (hd : 3 ≤ d)   (ho : kd o = (1, 0)) (hso0 : kd so0 = (1, 0)) (h : fX1_ask_98  o so0 sx1 M = some (r, M')) : At E X 98 [some (.ref (ad E o)), none] [.int sx1, .ref (ad E so0)] M := by
  unfold fX1_ask_98 at h
  refine pX1_81 C hso0 dX1_ask_98 ?_
  refine s_aload0 C dX1_ask_101 ?_
  refine s_iconst (v := 2) C (by decide) dX1_ask_102 ?_
  refine pX1_84 C ho dX1_ask_103 ?_
  exact bX1_ask_106 C R hd  ho h
set_option maxRecDepth 4000 in
theorem bX1_ask_62 {E : En} {X : Xc} {d : Nat} {r : Int32} {M M' : Mem} {o : Nat} {so0 : Nat} {sx1 : Int32} (C : Cx E X d cX1_ask RX1 2) (R : Rt E X (some .int) (some (.int r)) M') (hd : 3 ≤ d)   (ho : kd o = (1, 0)) (hso0 : kd so0 = (1, 0)) (h : fX1_ask_62  o so0 sx1 M = some (r, M')) : At E X 62 [some (.ref (ad E o)), none] [.int sx1, .ref (ad E so0)] M := by
  unfold fX1_ask_62 at h
  refine pX1_81 C hso0 dX1_ask_62 ?_
  refine s_aload0 C dX1_ask_65 ?_
  refine s_iconst (v := 1) C (by decide) dX1_ask_66 ?_
  refine pX1_84 C ho dX1_ask_67 ?_
  refine s_aload0 C dX1_ask_70 ?_
  refine gX1_81 C ho dX1_ask_71 ?_
  refine s_iconst (v := -1) C (by decide) dX1_ask_74 ?_
  refine s_ic_ne (tgt := 106) C h dX1_ask_75 (by decide) ⟨fun h => ?_, fun h => ?_⟩
  · exact bX1_ask_106 C R hd  ho h
  · refine s_aload0 C dX1_ask_78 ?_
    refine s_aload0 C dX1_ask_79 ?_
    refine s_iconst (v := 2) C (by decide) dX1_ask_80 ?_
    obtain ⟨r2, M1, hq, h⟩ := bI_e h
    refine s_callV (T := TX1) (As := [.int (2 : Int32)]) (v := some (.int r2)) C rfl ho (by decide) rfl (by omega) wX1_62 rfl (Nat.le_of_ble_eq_true rfl) dX1_ask_81 (tX1_has C.2.2.2.2.2.2.1 (by omega) ho hq) ?_
    refine s_if_eq (tgt := 97) C h dX1_ask_84 (by decide) ⟨fun h => ?_, fun h => ?_⟩
    · refine s_iconst (v := -1) C (by decide) dX1_ask_97 ?_
      exact bX1_ask_98 C R hd  ho ho h
    · refine s_aload0 C dX1_ask_87 ?_
      refine gX1_28 C ho dX1_ask_88 ?_
      obtain ⟨r4, M3, hq, h⟩ := bI_e h
      refine s_callV (T := TX0) (As := []) (v := some (.int r4)) C rfl (qX1_corrector ho) (by decide) rfl (by omega) wX1_87 rfl (Nat.le_of_ble_eq_true rfl) dX1_ask_91 (tX0_say C.2.2.2.2.2.2.1 (by omega) (qX1_corrector ho) hq) ?_
      refine s_goto (tgt := 98) C dX1_ask_94 (by decide) ?_
      exact bX1_ask_98 C R hd  ho ho h
set_option maxRecDepth 4000 in
theorem tX1_ask {l : Launch} {E : En} {A : Nat → Prop} {d : Nat} {r : Int32} {M M' : Mem} {o : Nat} {x1 : Int32} (hE : Okk E A) (hd : 3 ≤ d) (ho : kd o = (1, 0)) (h : fX1_ask o x1 M = some (r, M')) : Ct l E A d yX1_ask cX1_ask 2 (some .int) [.ref (ad E o), .int x1] M (some (.int r)) M' := by
  refine Ct.mk (ls := [some (.ref (ad E o)), some (.int x1)]) hE (by decide +kernel) rfl (Nat.le_of_ble_eq_true rfl) (fun X hXl hXA C R => ?_)
  subst hXl; subst hXA
  unfold fX1_ask at h
  refine s_aload0 C dX1_ask_0 ?_
  refine s_iload1 C dX1_ask_1 ?_
  refine pX1_59 C ho dX1_ask_2 ?_
  refine s_aload0 C dX1_ask_5 ?_
  refine gX1_12 C ho dX1_ask_6 ?_
  refine s_iload1 C dX1_ask_9 ?_
  refine s_aload0 C dX1_ask_10 ?_
  refine gX1_52 C ho dX1_ask_11 ?_
  refine s_aload0 C dX1_ask_14 ?_
  refine s_iconst (v := 4) C (by decide) dX1_ask_15 ?_
  obtain ⟨r2, M1, hq, h⟩ := bI_e h
  refine s_callV (T := TX1) (As := [.int (4 : Int32)]) (v := some (.int r2)) C rfl ho (by decide) rfl (by omega) wX1_62 rfl (Nat.le_of_ble_eq_true rfl) dX1_ask_16 (tX1_has C.2.2.2.2.2.2.1 (by omega) ho hq) ?_
  obtain ⟨M3, hq, h⟩ := bV_e h
  refine s_callV (T := TX6) (As := [.int x1, .long ((pI M o 6 x1).2 o 4), .int r2]) (v := none) C rfl (qX1_tables ho) (by decide) rfl (by omega) wX1_66 rfl (Nat.le_of_ble_eq_true rfl) dX1_ask_19 (tX6_look C.2.2.2.2.2.2.1 (by omega) (qX1_tables ho) hq) ?_
  refine s_aload0 C dX1_ask_22 ?_
  refine gX1_28 C ho dX1_ask_23 ?_
  refine s_iload1 C dX1_ask_26 ?_
  refine s_aload0 C dX1_ask_27 ?_
  refine gX1_52 C ho dX1_ask_28 ?_
  refine s_aload0 C dX1_ask_31 ?_
  refine gX1_12 C ho dX1_ask_32 ?_
  refine gX1_70 C (qX1_tables ho) dX1_ask_35 ?_
  obtain ⟨M4, hq, h⟩ := bV_e h
  refine s_callV (T := TX0) (As := [.int x1, .long (M3.2 o 4), .int (M3.1 (o + 1) 18)]) (v := none) C rfl (qX1_corrector ho) (by decide) rfl (by omega) wX1_73 rfl (Nat.le_of_ble_eq_true rfl) dX1_ask_38 (tX0_weigh C.2.2.2.2.2.2.1 (by omega) (qX1_corrector ho) hq) ?_
  refine s_aload0 C dX1_ask_41 ?_
  refine s_aload0 C dX1_ask_42 ?_
  refine s_iconst (v := 1) C (by decide) dX1_ask_43 ?_
  obtain ⟨r6, M5, hq, h⟩ := bI_e h
  refine s_callV (T := TX1) (As := [.int (1 : Int32)]) (v := some (.int r6)) C rfl ho (by decide) rfl (by omega) wX1_62 rfl (Nat.le_of_ble_eq_true rfl) dX1_ask_44 (tX1_has C.2.2.2.2.2.2.1 (by omega) ho hq) ?_
  refine s_if_eq (tgt := 61) C h dX1_ask_47 (by decide) ⟨fun h => ?_, fun h => ?_⟩
  · refine s_iconst (v := -1) C (by decide) dX1_ask_61 ?_
    refine s_fg 1 ?_
    exact bX1_ask_62 C R hd  ho ho h
  · refine s_aload0 C dX1_ask_50 ?_
    refine gX1_21 C ho dX1_ask_51 ?_
    refine s_iload1 C dX1_ask_54 ?_
    obtain ⟨r8, M7, hq, h⟩ := bI_e h
    refine s_callV (T := TX2) (As := [.int x1]) (v := some (.int r8)) C rfl (qX1_loops ho) (by decide) rfl (by omega) wX1_77 rfl (Nat.le_of_ble_eq_true rfl) dX1_ask_55 (tX2_say C.2.2.2.2.2.2.1 (by omega) (qX1_loops ho) hq) ?_
    refine s_goto (tgt := 62) C dX1_ask_58 (by decide) ?_
    refine s_fg 1 ?_
    exact bX1_ask_62 C R hd  ho ho h
set_option maxRecDepth 4000 in
theorem bX8_note_54 {E : En} {X : Xc} {d : Nat} {M M' : Mem} {o : Nat} {x1 : Int32} {o2 : Nat} {so0 : Nat} {sx1 : Int32} {sx2 : Int32} {sx3 : Int32} (C : Cx E X d cX8_note RX8 3) (R : Rt E X none none M') (hd : 1 ≤ d)   (ho : kd o = (8, 0)) (ho2 : kd o2 = (1, 0)) (hso0 : kd so0 = (8, 0)) (h : fX8_note_54  o x1 o2 so0 sx1 sx2 sx3 M = some M') : At E X 54 [some (.ref (ad E o)), some (.int x1), some (.ref (ad E o2))] [.int sx3, .int sx2, .int sx1, .ref (ad E so0)] M := by
  unfold fX8_note_54 at h
  obtain ⟨M1, hq, h⟩ := bV_e h
  refine s_callV (T := TX8) (As := [.int sx1, .int sx2, .int sx3]) (v := none) C rfl hso0 (by decide) rfl (by omega) wX8_22 rfl (Nat.le_of_ble_eq_true rfl) dX8_note_54 (tX8_set C.2.2.2.2.2.2.1 (by omega) hso0 hq) ?_
  refine s_aload0 C dX8_note_57 ?_
  refine s_iload1 C dX8_note_58 ?_
  refine s_bipush (v := 6) C (by decide) dX8_note_59 ?_
  refine s_aload2 C dX8_note_61 ?_
  refine gX8_31 C ho2 dX8_note_62 ?_
  refine gX8_47 C (qX1_tables ho2) dX8_note_65 ?_
  obtain ⟨M2, hq, h⟩ := bV_e h
  refine s_callV (T := TX8) (As := [.int x1, .int (6 : Int32), .int (M1.1 (o2 + 1) 18)]) (v := none) C rfl ho (by decide) rfl (by omega) wX8_22 rfl (Nat.le_of_ble_eq_true rfl) dX8_note_68 (tX8_set C.2.2.2.2.2.2.1 (by omega) ho hq) ?_
  refine s_aload0 C dX8_note_71 ?_
  refine s_iload1 C dX8_note_72 ?_
  refine s_bipush (v := 7) C (by decide) dX8_note_73 ?_
  refine s_aload2 C dX8_note_75 ?_
  refine gX8_50 C ho2 dX8_note_76 ?_
  obtain ⟨M3, hq, h⟩ := bV_e h
  refine s_callV (T := TX8) (As := [.int x1, .int (7 : Int32), .int (M2.1 o2 8)]) (v := none) C rfl ho (by decide) rfl (by omega) wX8_22 rfl (Nat.le_of_ble_eq_true rfl) dX8_note_79 (tX8_set C.2.2.2.2.2.2.1 (by omega) ho hq) ?_
  exact s_vret C R h dX8_note_82
set_option maxRecDepth 4000 in
theorem tX8_note {l : Launch} {E : En} {A : Nat → Prop} {d : Nat} {M M' : Mem} {o : Nat} {x1 : Int32} {o2 : Nat} (hE : Okk E A) (hd : 1 ≤ d) (ho : kd o = (8, 0)) (ho2 : kd o2 = (1, 0)) (h : fX8_note o x1 o2 M = some M') : Ct l E A d yX8_note cX8_note 3 none [.ref (ad E o), .int x1, .ref (ad E o2)] M none M' := by
  refine Ct.mk (ls := [some (.ref (ad E o)), some (.int x1), some (.ref (ad E o2))]) hE (by decide +kernel) rfl (Nat.le_of_ble_eq_true rfl) (fun X hXl hXA C R => ?_)
  subst hXl; subst hXA
  unfold fX8_note at h
  refine s_aload0 C dX8_note_0 ?_
  refine s_iload1 C dX8_note_1 ?_
  refine s_iconst (v := 2) C (by decide) dX8_note_2 ?_
  refine s_aload2 C dX8_note_3 ?_
  refine gX8_26 C ho2 dX8_note_4 ?_
  obtain ⟨M1, hq, h⟩ := bV_e h
  refine s_callV (T := TX8) (As := [.int x1, .int (2 : Int32), .int (M.1 o2 7)]) (v := none) C rfl ho (by decide) rfl (by omega) wX8_22 rfl (Nat.le_of_ble_eq_true rfl) dX8_note_7 (tX8_set C.2.2.2.2.2.2.1 (by omega) ho hq) ?_
  refine s_aload0 C dX8_note_10 ?_
  refine s_iload1 C dX8_note_11 ?_
  refine s_iconst (v := 3) C (by decide) dX8_note_12 ?_
  refine s_aload2 C dX8_note_13 ?_
  refine gX8_31 C ho2 dX8_note_14 ?_
  refine gX8_35 C (qX1_tables ho2) dX8_note_17 ?_
  obtain ⟨M2, hq, h⟩ := bV_e h
  refine s_callV (T := TX8) (As := [.int x1, .int (3 : Int32), .int (M1.1 (o2 + 1) 15)]) (v := none) C rfl ho (by decide) rfl (by omega) wX8_22 rfl (Nat.le_of_ble_eq_true rfl) dX8_note_20 (tX8_set C.2.2.2.2.2.2.1 (by omega) ho hq) ?_
  refine s_aload0 C dX8_note_23 ?_
  refine s_iload1 C dX8_note_24 ?_
  refine s_iconst (v := 4) C (by decide) dX8_note_25 ?_
  refine s_aload2 C dX8_note_26 ?_
  refine gX8_31 C ho2 dX8_note_27 ?_
  refine gX8_40 C (qX1_tables ho2) dX8_note_30 ?_
  obtain ⟨M3, hq, h⟩ := bV_e h
  refine s_callV (T := TX8) (As := [.int x1, .int (4 : Int32), .int (M2.1 (o2 + 1) 16)]) (v := none) C rfl ho (by decide) rfl (by omega) wX8_22 rfl (Nat.le_of_ble_eq_true rfl) dX8_note_33 (tX8_set C.2.2.2.2.2.2.1 (by omega) ho hq) ?_
  refine s_aload0 C dX8_note_36 ?_
  refine s_iload1 C dX8_note_37 ?_
  refine s_iconst (v := 5) C (by decide) dX8_note_38 ?_
  refine s_aload2 C dX8_note_39 ?_
  refine gX8_31 C ho2 dX8_note_40 ?_
  refine gX8_43 C (qX1_tables ho2) dX8_note_43 ?_
  refine s_if_eq (tgt := 53) C h dX8_note_46 (by decide) ⟨fun h => ?_, fun h => ?_⟩
  · refine s_iconst (v := 0) C (by decide) dX8_note_53 ?_
    exact bX8_note_54 C R hd  ho ho2 ho h
  · refine s_iconst (v := 1) C (by decide) dX8_note_49 ?_
    refine s_goto (tgt := 54) C dX8_note_50 (by decide) ?_
    exact bX8_note_54 C R hd  ho ho2 ho h
set_option maxRecDepth 4000 in
theorem bX2_goOn_49 {E : En} {X : Xc} {d : Nat} {M M' : Mem} {o : Nat} {x1 : Int32} (C : Cx E X d cX2_goOn RX2 2) (R : Rt E X none none M') (hd : 1 ≤ d)   (ho : kd o = (2, 0)) (h : fX2_goOn_49  o x1 M = some M') : At E X 49 [some (.ref (ad E o)), some (.int x1)] [] M := by
  unfold fX2_goOn_49 at h
  refine s_aload0 C dX2_goOn_49 ?_
  refine gX2_18 C ho dX2_goOn_50 ?_
  refine s_iload1 C dX2_goOn_53 ?_
  refine s_iald C (qX2_runs ho) h dX2_goOn_54 (fun h => ?_)
  refine s_bipush (v := 60) C (by decide) dX2_goOn_55 ?_
  refine s_ic_ne (tgt := 67) C h dX2_goOn_57 (by decide) ⟨fun h => ?_, fun h => ?_⟩
  · exact s_vret C R h dX2_goOn_67
  · refine s_aload0 C dX2_goOn_60 ?_
    refine s_iload1 C dX2_goOn_61 ?_
    refine s_iconst (v := -1) C (by decide) dX2_goOn_62 ?_
    refine s_iconst (v := 0) C (by decide) dX2_goOn_63 ?_
    obtain ⟨M1, hq, h⟩ := bV_e h
    refine s_callV (T := TX2) (As := [.int x1, .int (-1 : Int32), .int (0 : Int32)]) (v := none) C rfl ho (by decide) rfl (by omega) wX2_27 rfl (Nat.le_of_ble_eq_true rfl) dX2_goOn_64 (tX2_give C.2.2.2.2.2.2.1 (by omega) ho hq) ?_
    exact s_vret C R h dX2_goOn_67
set_option maxRecDepth 4000 in
theorem tX2_goOn {l : Launch} {E : En} {A : Nat → Prop} {d : Nat} {M M' : Mem} {o : Nat} {x1 : Int32} (hE : Okk E A) (hd : 1 ≤ d) (ho : kd o = (2, 0)) (h : fX2_goOn o x1 M = some M') : Ct l E A d yX2_goOn cX2_goOn 2 none [.ref (ad E o), .int x1] M none M' := by
  refine Ct.mk (ls := [some (.ref (ad E o)), some (.int x1)]) hE (by decide +kernel) rfl (Nat.le_of_ble_eq_true rfl) (fun X hXl hXA C R => ?_)
  subst hXl; subst hXA
  unfold fX2_goOn at h
  refine s_aload0 C dX2_goOn_0 ?_
  refine gX2_18 C ho dX2_goOn_1 ?_
  refine s_iload1 C dX2_goOn_4 ?_
  refine s_dup2 C rfl rfl dX2_goOn_5 ?_
  refine s_iald C (qX2_runs ho) h dX2_goOn_6 (fun h => ?_)
  refine s_iconst (v := 1) C (by decide) dX2_goOn_7 ?_
  refine s_iadd C dX2_goOn_8 ?_
  refine s_iast C (qX2_runs ho) h dX2_goOn_9 (fun h => ?_)
  refine s_aload0 C dX2_goOn_10 ?_
  refine gX2_15 C ho dX2_goOn_11 ?_
  refine s_iload1 C dX2_goOn_14 ?_
  refine s_iald C (qX2_lengths ho) h dX2_goOn_15 (fun h => ?_)
  refine s_iconst (v := -1) C (by decide) dX2_goOn_16 ?_
  refine s_ic_eq (tgt := 49) C h dX2_goOn_17 (by decide) ⟨fun h => ?_, fun h => ?_⟩
  · exact bX2_goOn_49 C R hd  ho h
  · refine s_aload0 C dX2_goOn_20 ?_
    refine gX2_18 C ho dX2_goOn_21 ?_
    refine s_iload1 C dX2_goOn_24 ?_
    refine s_iald C (qX2_runs ho) h dX2_goOn_25 (fun h => ?_)
    refine s_aload0 C dX2_goOn_26 ?_
    refine gX2_15 C ho dX2_goOn_27 ?_
    refine s_iload1 C dX2_goOn_30 ?_
    refine s_iald C (qX2_lengths ho) h dX2_goOn_31 (fun h => ?_)
    refine s_ic_le (tgt := 49) C h dX2_goOn_32 (by decide) ⟨fun h => ?_, fun h => ?_⟩
    · exact bX2_goOn_49 C R hd  ho h
    · refine s_aload0 C dX2_goOn_35 ?_
      refine gX2_15 C ho dX2_goOn_36 ?_
      refine s_iload1 C dX2_goOn_39 ?_
      refine s_iconst (v := -1) C (by decide) dX2_goOn_40 ?_
      refine s_iast C (qX2_lengths ho) h dX2_goOn_41 (fun h => ?_)
      refine s_aload0 C dX2_goOn_42 ?_
      refine gX2_21 C ho dX2_goOn_43 ?_
      refine s_iload1 C dX2_goOn_46 ?_
      refine s_iconst (v := 0) C (by decide) dX2_goOn_47 ?_
      refine s_iast C (qX2_sures ho) h dX2_goOn_48 (fun h => ?_)
      exact bX2_goOn_49 C R hd  ho h
set_option maxRecDepth 4000 in
theorem bX2_leave_55 {E : En} {X : Xc} {d : Nat} {M M' : Mem} {o : Nat} {x1 : Int32} (C : Cx E X d cX2_leave RX2 2) (R : Rt E X none none M') (hd : 1 ≤ d)   (ho : kd o = (2, 0)) (h : fX2_leave_55  o x1 M = some M') : At E X 55 [some (.ref (ad E o)), some (.int x1)] [] M := by
  unfold fX2_leave_55 at h
  refine s_aload0 C dX2_leave_55 ?_
  refine gX2_18 C ho dX2_leave_56 ?_
  refine s_iload1 C dX2_leave_59 ?_
  refine s_iconst (v := 0) C (by decide) dX2_leave_60 ?_
  refine s_iast C (qX2_runs ho) h dX2_leave_61 (fun h => ?_)
  exact s_vret C R h dX2_leave_62
set_option maxRecDepth 4000 in
theorem tX2_leave {l : Launch} {E : En} {A : Nat → Prop} {d : Nat} {M M' : Mem} {o : Nat} {x1 : Int32} (hE : Okk E A) (hd : 1 ≤ d) (ho : kd o = (2, 0)) (h : fX2_leave o x1 M = some M') : Ct l E A d yX2_leave cX2_leave 2 none [.ref (ad E o), .int x1] M none M' := by
  refine Ct.mk (ls := [some (.ref (ad E o)), some (.int x1)]) hE (by decide +kernel) rfl (Nat.le_of_ble_eq_true rfl) (fun X hXl hXA C R => ?_)
  subst hXl; subst hXA
  unfold fX2_leave at h
  refine s_aload0 C dX2_leave_0 ?_
  refine gX2_18 C ho dX2_leave_1 ?_
  refine s_iload1 C dX2_leave_4 ?_
  refine s_iald C (qX2_runs ho) h dX2_leave_5 (fun h => ?_)
  refine s_aload0 C dX2_leave_6 ?_
  refine gX2_15 C ho dX2_leave_7 ?_
  refine s_iload1 C dX2_leave_10 ?_
  refine s_iald C (qX2_lengths ho) h dX2_leave_11 (fun h => ?_)
  refine s_ic_ne (tgt := 36) C h dX2_leave_12 (by decide) ⟨fun h => ?_, fun h => ?_⟩
  · refine s_aload0 C dX2_leave_36 ?_
    refine gX2_15 C ho dX2_leave_37 ?_
    refine s_iload1 C dX2_leave_40 ?_
    refine s_aload0 C dX2_leave_41 ?_
    refine gX2_18 C ho dX2_leave_42 ?_
    refine s_iload1 C dX2_leave_45 ?_
    refine s_iald C (qX2_runs ho) h dX2_leave_46 (fun h => ?_)
    refine s_iast C (qX2_lengths ho) h dX2_leave_47 (fun h => ?_)
    refine s_aload0 C dX2_leave_48 ?_
    refine gX2_21 C ho dX2_leave_49 ?_
    refine s_iload1 C dX2_leave_52 ?_
    refine s_iconst (v := 0) C (by decide) dX2_leave_53 ?_
    refine s_iast C (qX2_sures ho) h dX2_leave_54 (fun h => ?_)
    exact bX2_leave_55 C R hd  ho h
  · refine s_aload0 C dX2_leave_15 ?_
    refine gX2_21 C ho dX2_leave_16 ?_
    refine s_iload1 C dX2_leave_19 ?_
    refine s_iconst (v := 3) C (by decide) dX2_leave_20 ?_
    refine s_aload0 C dX2_leave_21 ?_
    refine gX2_21 C ho dX2_leave_22 ?_
    refine s_iload1 C dX2_leave_25 ?_
    refine s_iald C (qX2_sures ho) h dX2_leave_26 (fun h => ?_)
    refine s_iconst (v := 1) C (by decide) dX2_leave_27 ?_
    refine s_iadd C dX2_leave_28 ?_
    refine s_min C rfl (by omega) wX2_38 (Nat.le_of_ble_eq_true rfl) dX2_leave_29 ?_
    refine s_iast C (qX2_sures ho) h dX2_leave_32 (fun h => ?_)
    refine s_goto (tgt := 55) C dX2_leave_33 (by decide) ?_
    exact bX2_leave_55 C R hd  ho h
set_option maxRecDepth 4000 in
theorem tX2_learn {l : Launch} {E : En} {A : Nat → Prop} {d : Nat} {M M' : Mem} {o : Nat} {x1 : Int32} {x2 : Int32} {x3 : Int32} (hE : Okk E A) (hd : 2 ≤ d) (ho : kd o = (2, 0)) (h : fX2_learn o x1 x2 x3 M = some M') : Ct l E A d yX2_learn cX2_learn 5 none [.ref (ad E o), .int x1, .int x2, .int x3] M none M' := by
  refine Ct.mk (ls := [some (.ref (ad E o)), some (.int x1), some (.int x2), some (.int x3), none]) hE (by decide +kernel) rfl (Nat.le_of_ble_eq_true rfl) (fun X hXl hXA C R => ?_)
  subst hXl; subst hXA
  unfold fX2_learn at h
  refine s_iload1 C dX2_learn_0 ?_
  refine s_bipush (v := 8) C (by decide) dX2_learn_1 ?_
  refine s_iremc C (by decide) dX2_learn_3 ?_
  refine s_istore4 C rfl dX2_learn_4 ?_
  refine s_aload0 C dX2_learn_6 ?_
  refine gX2_11 C ho dX2_learn_7 ?_
  refine s_iload4 C dX2_learn_10 ?_
  refine s_iald C (qX2_owners ho) h dX2_learn_12 (fun h => ?_)
  refine s_iload1 C dX2_learn_13 ?_
  refine s_ic_ne (tgt := 40) C h dX2_learn_14 (by decide) ⟨fun h => ?_, fun h => ?_⟩
  · refine s_iload3 C dX2_learn_40 ?_
    refine s_if_eq (tgt := 76) C h dX2_learn_41 (by decide) ⟨fun h => ?_, fun h => ?_⟩
    · exact s_vret C R h dX2_learn_76
    · refine s_aload0 C dX2_learn_44 ?_
      refine gX2_24 C ho dX2_learn_45 ?_
      refine s_iload4 C dX2_learn_48 ?_
      refine s_iald C (qX2_ages ho) h dX2_learn_50 (fun h => ?_)
      refine s_if_le (tgt := 68) C h dX2_learn_51 (by decide) ⟨fun h => ?_, fun h => ?_⟩
      · refine s_aload0 C dX2_learn_68 ?_
        refine s_iload4 C dX2_learn_69 ?_
        refine s_iload1 C dX2_learn_71 ?_
        refine s_iconst (v := 3) C (by decide) dX2_learn_72 ?_
        obtain ⟨M1, hq, h⟩ := bV_e h
        refine s_callV (T := TX2) (As := [.int (irm x1 (8 : Int32)), .int x1, .int (3 : Int32)]) (v := none) C rfl ho (by decide) rfl (by omega) wX2_27 rfl (Nat.le_of_ble_eq_true rfl) dX2_learn_73 (tX2_give C.2.2.2.2.2.2.1 (by omega) ho hq) ?_
        exact s_vret C R h dX2_learn_76
      · refine s_aload0 C dX2_learn_54 ?_
        refine gX2_24 C ho dX2_learn_55 ?_
        refine s_iload4 C dX2_learn_58 ?_
        refine s_dup2 C rfl rfl dX2_learn_60 ?_
        refine s_iald C (qX2_ages ho) h dX2_learn_61 (fun h => ?_)
        refine s_iconst (v := 1) C (by decide) dX2_learn_62 ?_
        refine s_isub C dX2_learn_63 ?_
        refine s_iast C (qX2_ages ho) h dX2_learn_64 (fun h => ?_)
        refine s_goto (tgt := 76) C dX2_learn_65 (by decide) ?_
        exact s_vret C R h dX2_learn_76
  · refine s_iload2 C dX2_learn_17 ?_
    refine s_iconst (v := 1) C (by decide) dX2_learn_18 ?_
    refine s_ic_ne (tgt := 31) C h dX2_learn_19 (by decide) ⟨fun h => ?_, fun h => ?_⟩
    · refine s_aload0 C dX2_learn_31 ?_
      refine s_iload4 C dX2_learn_32 ?_
      obtain ⟨M2, hq, h⟩ := bV_e h
      refine s_callV (T := TX2) (As := [.int (irm x1 (8 : Int32))]) (v := none) C rfl ho (by decide) rfl (by omega) wX2_35 rfl (Nat.le_of_ble_eq_true rfl) dX2_learn_34 (tX2_leave C.2.2.2.2.2.2.1 (by omega) ho hq) ?_
      refine s_goto (tgt := 76) C dX2_learn_37 (by decide) ?_
      exact s_vret C R h dX2_learn_76
    · refine s_aload0 C dX2_learn_22 ?_
      refine s_iload4 C dX2_learn_23 ?_
      obtain ⟨M3, hq, h⟩ := bV_e h
      refine s_callV (T := TX2) (As := [.int (irm x1 (8 : Int32))]) (v := none) C rfl ho (by decide) rfl (by omega) wX2_31 rfl (Nat.le_of_ble_eq_true rfl) dX2_learn_25 (tX2_goOn C.2.2.2.2.2.2.1 (by omega) ho hq) ?_
      refine s_goto (tgt := 76) C dX2_learn_28 (by decide) ?_
      exact s_vret C R h dX2_learn_76
