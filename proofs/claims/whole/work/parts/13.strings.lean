/-! String constants: length() and charAt(), the JDK's own code. -/
theorem sl_lt : ∀ j, j < NS → sl j < 100 := by decide +kernel
theorem sl_sh : ∀ j, j < NS → nI (sl j) >>> ((0 : Int32) &&& 31) = nI (sl j) := by decide +kernel
theorem sc_ch : ∀ j, j < NS → ∀ k, k < sl j → ((sc j k &&& 255).toUInt32 % 65536).toInt32 = sc j k ∧ narrow .char (.int (sc j k)) = .int (sc j k) := by decide +kernel
theorem ib_lt {i : Int32} {n : Nat} (h : ib i n = true) (hn : n < 2 ^ 31) : ¬ i < 0 ∧ i < nI n := by
  obtain ⟨j, hj, rfl⟩ := vp_in_of (ib_in h) hn
  exact ⟨nI_pos (by omega), nI_lt hj hn⟩
section Str
variable {l : Launch} {E : En} {A : Nat → Prop} {d : Nat} {M : Mem} {j : Nat}
theorem ct_coder (hE : Okk E A) (hj : j < NS) : Ct l E A d yJ0_coder_7d493 cJ0_coder_7d493 1 (some .byte) [.ref (aK E j)] M (some (.int 0)) M := by
  refine Ct.mk (ls := [some (.ref (aK E j))]) hE (by decide +kernel) rfl (Nat.le_of_ble_eq_true rfl) (fun X hXl hXA C R => ?_)
  subst hXl; subst hXA
  refine s_compact C k_556 dJ0_coder_7d493_0 ?_
  refine s_if_eq (tgt := 13) C (show (if (1 : Int32) = 0 then (none : Option Unit) else some ()) = some () from rfl) dJ0_coder_7d493_3 (by decide) ⟨fun h => (by cases h), fun _ => ?_⟩
  refine s_aload0 C dJ0_coder_7d493_6 ?_
  refine s_coder C hj k_2022 dJ0_coder_7d493_7 ?_
  refine s_goto (tgt := 14) C dJ0_coder_7d493_10 (by decide) ?_
  exact s_zret C R rfl rfl dJ0_coder_7d493_14
theorem ct_isLatin1 (hE : Okk E A) (hj : j < NS) : Ct l E A d yJ0_isLatin1_aae02 cJ0_isLatin1_aae02 1 (some .boolean) [.ref (aK E j)] M (some (.int 1)) M := by
  refine Ct.mk (ls := [some (.ref (aK E j))]) hE (by decide +kernel) rfl (Nat.le_of_ble_eq_true rfl) (fun X hXl hXA C R => ?_)
  subst hXl; subst hXA
  refine s_compact C k_556 dJ0_isLatin1_aae02_0 ?_
  refine s_if_eq (tgt := 17) C (show (if (1 : Int32) = 0 then (none : Option Unit) else some ()) = some () from rfl) dJ0_isLatin1_aae02_3 (by decide) ⟨fun h => (by cases h), fun _ => ?_⟩
  refine s_aload0 C dJ0_isLatin1_aae02_6 ?_
  refine s_coder C hj k_2022 dJ0_isLatin1_aae02_7 ?_
  refine s_if_ne (tgt := 17) C (show (if (0 : Int32) = 0 then some () else (none : Option Unit)) = some () from rfl) dJ0_isLatin1_aae02_10 (by decide) ⟨fun h => (by cases h), fun _ => ?_⟩
  refine s_iconst (v := 1) C (by decide) dJ0_isLatin1_aae02_13 ?_
  refine s_goto (tgt := 18) C dJ0_isLatin1_aae02_14 (by decide) ?_
  exact s_zret C R rfl rfl dJ0_isLatin1_aae02_18
theorem ct_length (hE : Okk E A) (hd : 1 ≤ d) (hj : j < NS) : Ct l E A d yJ0_length_8abf5 cJ0_length_8abf5 1 (some .int) [.ref (aK E j)] M (some (.int (nI (sl j)))) M := by
  refine Ct.mk (ls := [some (.ref (aK E j))]) hE (by decide +kernel) rfl (Nat.le_of_ble_eq_true rfl) (fun X hXl hXA C R => ?_)
  subst hXl; subst hXA
  refine s_aload0 C dJ0_length_8abf5_0 ?_
  refine s_value C hj k_2021 dJ0_length_8abf5_1 ?_
  refine s_slen C hj dJ0_length_8abf5_4 ?_
  refine s_aload0 C dJ0_length_8abf5_5 ?_
  refine s_callVS (As := []) (v := some (.int 0)) C rfl hj hd wJ0_335 rfl (Nat.le_of_ble_eq_true rfl) dJ0_length_8abf5_6 (ct_coder C.2.2.2.2.2.2.1 hj) ?_
  refine s_ishr C dJ0_length_8abf5_9 ?_
  exact s_iret C R (by rw [sl_sh j hj]) dJ0_length_8abf5_10
theorem ct_pre {a b : Int32} {z : Value} (hE : Okk E A) (hz : z = .null ∨ ∃ t, z = .ref t) (h0 : ¬ a < 0) (h1 : a < b) : Ct l E A d yJ3_checkIndex_8e157 cJ3_checkIndex_8e157 3 (some .int) [.int a, .int b, z] M (some (.int a)) M := by
  have e : ent [.int a, .int b, z] 3 = [some (.int a), some (.int b), some z] := by rcases hz with rfl | ⟨t, rfl⟩ <;> rfl
  have e2 : (ents [.int a, .int b, z]).length ≤ 3 := by rcases hz with rfl | ⟨t, rfl⟩ <;> exact Nat.le_of_ble_eq_true rfl
  refine Ct.mk (ls := [some (.int a), some (.int b), some z]) hE (by decide +kernel) e e2 (fun X hXl hXA C R => ?_)
  subst hXl; subst hXA
  refine s_iload0 C dJ3_checkIndex_8e157_0 ?_
  refine s_if_lt (tgt := 9) C (show (if a < 0 then (none : Option Unit) else some ()) = some () from if_neg h0) dJ3_checkIndex_8e157_1 (by decide) ⟨fun h => (by cases h), fun _ => ?_⟩
  refine s_iload0 C dJ3_checkIndex_8e157_4 ?_
  refine s_iload1 C dJ3_checkIndex_8e157_5 ?_
  refine s_ic_lt (tgt := 16) C (show (if a < b then some () else (none : Option Unit)) = some () from if_pos h1) dJ3_checkIndex_8e157_6 (by decide) ⟨fun _ => ?_, fun h => (by cases h)⟩
  refine s_iload0 C dJ3_checkIndex_8e157_16 ?_
  exact s_iret C R rfl dJ3_checkIndex_8e157_17
theorem ct_check {a b : Int32} (hE : Okk E A) (hd : 1 ≤ d) (h0 : ¬ a < 0) (h1 : a < b) : Ct l E A d yJ0_checkIndex_df160 cJ0_checkIndex_df160 2 none [.int a, .int b] M none M := by
  refine Ct.mk (ls := [some (.int a), some (.int b)]) hE (by decide +kernel) rfl (Nat.le_of_ble_eq_true rfl) (fun X hXl hXA C R => ?_)
  subst hXl; subst hXA
  refine s_iload0 C dJ0_checkIndex_df160_0 ?_
  refine s_iload1 C dJ0_checkIndex_df160_1 ?_
  refine s_fmt C k_572 dJ0_checkIndex_df160_2 (fun z hz => ?_)
  refine s_callS (As := [.int a, .int b, z]) (v := some (.int a)) C rfl hd wJ0_1059 rfl (Nat.le_of_ble_eq_true rfl) dJ0_checkIndex_df160_5 (ct_pre C.2.2.2.2.2.2.1 hz h0 h1) ?_
  refine s_pop C rfl dJ0_checkIndex_df160_8 ?_
  exact s_vret C R rfl dJ0_checkIndex_df160_9
theorem ct_latin {i : Int32} (hE : Okk E A) (hd : 2 ≤ d) (hj : j < NS) (h : ib i (sl j) = true) : Ct l E A d yJ1_charAt_3b067 cJ1_charAt_3b067 2 (some .char) [.ref (aV E j), .int i] M (some (.int (sc j (tn i)))) M := by
  have hl := sl_lt j hj
  have hib := ib_lt h (by omega)
  have hin := ib_in h
  have hk : tn i < sl j := by
    obtain ⟨q, hq, rfl⟩ := vp_in_of hin (by omega)
    rw [show tn (nI q) = q from nI_clamp (by omega)]; exact hq
  obtain ⟨c1, c2⟩ := sc_ch j hj (tn i) hk
  refine Ct.mk (ls := [some (.ref (aV E j)), some (.int i)]) hE (by decide +kernel) rfl (Nat.le_of_ble_eq_true rfl) (fun X hXl hXA C R => ?_)
  subst hXl; subst hXA
  refine s_iload1 C dJ1_charAt_3b067_0 ?_
  refine s_aload0 C dJ1_charAt_3b067_1 ?_
  refine s_slen C hj dJ1_charAt_3b067_2 ?_
  refine s_callS (As := [.int i, .int (nI (sl j))]) (v := none) C rfl (by omega) wJ1_9 rfl (Nat.le_of_ble_eq_true rfl) dJ1_charAt_3b067_3 (ct_check C.2.2.2.2.2.2.1 (by omega) hib.1 hib.2) ?_
  refine s_aload0 C dJ1_charAt_3b067_6 ?_
  refine s_iload1 C dJ1_charAt_3b067_7 ?_
  refine s_sbyte C hj hin dJ1_charAt_3b067_8 ?_
  refine s_sipush (v := 255) C (by decide) dJ1_charAt_3b067_9 ?_
  refine s_iand C dJ1_charAt_3b067_12 ?_
  refine s_i2c C dJ1_charAt_3b067_13 ?_
  rw [c1]
  exact s_zret C R rfl c2 dJ1_charAt_3b067_14
theorem ct_charAt {i : Int32} (hE : Okk E A) (hd : 4 ≤ d) (hj : j < NS) (h : ib i (sl j) = true) : Ct l E A d yJ0_charAt_5068e cJ0_charAt_5068e 2 (some .char) [.ref (aK E j), .int i] M (some (.int (sc j (tn i)))) M := by
  have hk : tn i < sl j := by
    have hl := sl_lt j hj
    obtain ⟨q, hq, rfl⟩ := vp_in_of (ib_in h) (by omega)
    rw [show tn (nI q) = q from nI_clamp (by omega)]; exact hq
  obtain ⟨c1, c2⟩ := sc_ch j hj (tn i) hk
  refine Ct.mk (ls := [some (.ref (aK E j)), some (.int i)]) hE (by decide +kernel) rfl (Nat.le_of_ble_eq_true rfl) (fun X hXl hXA C R => ?_)
  subst hXl; subst hXA
  refine s_aload0 C dJ0_charAt_5068e_0 ?_
  refine s_callVS (As := []) (v := some (.int 1)) C rfl hj (by omega) wJ0_492 rfl (Nat.le_of_ble_eq_true rfl) dJ0_charAt_5068e_1 (ct_isLatin1 C.2.2.2.2.2.2.1 hj) ?_
  refine s_if_eq (tgt := 16) C (show (if (1 : Int32) = 0 then (none : Option Unit) else some ()) = some () from rfl) dJ0_charAt_5068e_4 (by decide) ⟨fun h => (by cases h), fun _ => ?_⟩
  refine s_aload0 C dJ0_charAt_5068e_7 ?_
  refine s_value C hj k_2021 dJ0_charAt_5068e_8 ?_
  refine s_iload1 C dJ0_charAt_5068e_11 ?_
  refine s_callS (As := [.ref (aV E j), .int i]) (v := some (.int (sc j (tn i)))) C rfl (by omega) wJ0_495 rfl (Nat.le_of_ble_eq_true rfl) dJ0_charAt_5068e_12 (ct_latin C.2.2.2.2.2.2.1 (by omega) hj h) ?_
  exact s_zret C R rfl c2 dJ0_charAt_5068e_15
end Str
section LdcW
variable {p : Program} {l : Launch} {e : Env} {R : Room} {s : State} {m : MethodId} {args : Array Value} {below : List Frame} {meth : Method} {c : Code} {H : Heap} {locs : List Loc} {cells slots : Nat} {Q : State → Prop}
theorem z_ldcSw {cc : ByteArray} {pc : Nat} {ls : Array Slot} {rest : List Value} (hexec : p.tables.exec = Jvm.exec) (hb : c.code = cc) {own tx : String} {index q : Nat} (hown : s.vm.findClass own = some m.cls) (hZ : vk_R own index tx q s) (hdg : decode cc pc = .ok (.ldc_w index, 3))
    (k : W p l e R s m args below meth c H locs cells slots Q (F0 m (pc + 3) ls (.ref q :: rest))) : W p l e R s m args below meth c H locs cells slots Q (F0 m pc ls rest) := by
  intro T hT X
  obtain ⟨t, a1, b1⟩ := k T hT X
  refine ⟨t, ?_, b1⟩
  obtain ⟨kk, cf, i, a', hk, hcf, hcp, -, hr, hev'⟩ := Cond.stringRef_spec hown hZ.1
  cases hZ.2.symm.trans hev'
  obtain ⟨k', hk', he⟩ := X.warmed.alike.2.2 _ _ hk
  have hr' : k'.resolved[index]? = some (some (.string q)) := by
    rcases X.warmed.entry hk hk' index with h | ⟨h, -⟩
    · rw [h]; exact hr
    · rw [hr] at h; cases h
  have hdg' : decode c.code pc = .ok (.ldc_w index, 3) := by rw [hb]; exact hdg
  jvm_step X.here [hexec, hdg', Jvm.Op.ldc_w.wp_string (e := e) (s := T) (f := F0 m pc ls rest) X.here.top hk' (by rw [he]; exact hcf) hcp hr']
  exact a1
end LdcW
theorem s_ldcsw {E : En} {X : Xc} {d : Nat} {cc : ByteArray} {own : String} {nL pc : Nat} {ls : List (Option Value)} {st : List Value} {M : Mem} {idx j : Nat} {tx : String} (C : Cx E X d cc own nL) (hj : strR[j]? = some (own, idx, tx)) (hdg : decode cc pc = .ok (.ldc_w idx, 3)) (kk : At E X (pc + 3) ls (.ref (aK E j) :: st) M) : At E X pc ls st M :=
  fun H locs la hP hS hl => z_ldcSw C.1 C.2.1 C.2.2.2.1 (C.2.2.2.2.2.1.2.2.1 j _ hj) hdg (kk H locs la hP hS hl)
theorem sb_X3_headWord {x0 : Int32} {M M' : Mem} {r : Nat} (h : fX3_headWord x0 M = some (r, M')) : r < NS := by
  unfold fX3_headWord at h
  (repeat' split at h) <;> (cases h; decide)
theorem sb_X3_opWord {x0 : Int32} {M M' : Mem} {r : Nat} (h : fX3_opWord x0 M = some (r, M')) : r < NS := by
  unfold fX3_opWord at h
  (repeat' split at h) <;> (cases h; decide)
theorem sb_X3_formOf {x0 : Int32} {M M' : Mem} {r : Nat} (h : fX3_formOf x0 M = some (r, M')) : r < NS := by
  unfold fX3_formOf at h
  (repeat' split at h) <;> (cases h; decide)
theorem sb_X10_wordOf {x0 : Int32} {M M' : Mem} {r : Nat} (h : fX10_wordOf x0 M = some (r, M')) : r < NS := by
  unfold fX10_wordOf at h
  (repeat' split at h) <;> (cases h; decide)
