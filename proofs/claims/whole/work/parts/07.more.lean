/-! More rows: abs, arraycopy, statics, strings, switches. Written by wip/whole/mk07.py. -/
theorem nfw : nativeFrameWords "java/lang/System" "arraycopy" 5 = 7 := by decide +kernel
section MoreRows
variable {E : En} {X : Xc} {d : Nat} {cc : ByteArray} {own : String} {nL pc : Nat} {ls : List (Option Value)} {st : List Value} {M : Mem}
theorem s_abs {idx : Nat} {x : Int32} {rest : List Value} (C : Cx E X d cc own nL) (hnl : ls.length = nL) (hd : 1 ≤ d) (w : Cond.methodLink own idx Lib.Math.abs.name ∈ tb ∧ Cond.static Lib.Math.abs.name ∈ tb ∧ Cond.initialized "java/lang/Math" ∈ tb ∧ Cond.code Lib.Math.abs.name Lib.Math.abs.code 1 (some .int) ∈ tb) (hc : (rest.map fun v => v.category).sum ≤ 8) (hdg : decode cc pc = .ok (.invokestatic idx, 3)) (kk : At E X (pc + 3) ls (.int (if 0 ≤ x then x else 0 - x) :: rest) M) : At E X pc ls (.int x :: rest) M :=
  fun H locs la hP hS hl => va_mabs C.1 C.2.1 (by rw [C.2.2.1, ← hnl]; exact hl.1.symm) C.2.2.2.1 (C.2.2.2.2.1 _ w.1) (C.2.2.2.2.1 _ w.2.1) (C.2.2.2.2.1 _ w.2.2.1) (C.2.2.2.2.1 _ w.2.2.2) (Nat.le_trans hd C.2.2.2.2.2.2.2.1) (by have := C.2.2.2.2.2.2.2.2.1; omega) C.2.2.2.2.2.2.2.2.2.1 C.2.2.2.2.2.2.2.2.2.2 hdg (kk H locs la hP hS hl)
def cpok (sp dp n : Int32) (n0 n1 : Nat) : Bool := !decide (sp < 0) && (!decide (dp < 0) && (!decide (n < 0) && (decide (tn sp + tn n ≤ n0) && decide (tn dp + tn n ≤ n1))))
theorem s_copy {c0 c1 n0 n1 idx : Nat} {sp dp n : Int32} {rest : List Value} {α : Type} {b : Option α} {r : α} (C : Cx E X d cc own nL) (hnl : ls.length = nL) (hd : 1 ≤ d) (w : Cond.methodLink own idx arraycopyName ∈ tb ∧ Cond.native arraycopyName ∈ tb ∧ Cond.static arraycopyName ∈ tb ∧ Cond.initialized "java/lang/System" ∈ tb) (hc : (rest.map fun v => v.category).sum ≤ 8)
    (hk0 : kd c0 = (20, n0)) (hk1 : kd c1 = (20, n1)) (h : ck (cpok sp dp n n0 n1) b = some r) (hdg : decode cc pc = .ok (.invokestatic idx, 3)) (kk : b = some r → At E X (pc + 3) ls rest (pC M c0 c1 (tn sp) (tn dp) (tn n))) : At E X pc ls (.int n :: .int dp :: .ref (ad E c1) :: .int sp :: .ref (ad E c0) :: rest) M := by
  intro H locs la hP hS hl
  have hlc := kd_lt hk1 (by decide)
  have e0 : (wl E M)[c0]? = some (ad E c0, .inl (cA E 20, n0, .inl (M.1 c0))) := by rw [wl_at (kd_lt hk0 (by decide)), ce_20 hk0]
  have e1 : (wl E M)[c1]? = some (ad E c1, .inl (cA E 20, n1, .inl (M.1 c1))) := by rw [wl_at hlc, ce_20 hk1]
  have e2 : (wl E M).set c1 (ad E c1, .inl (cA E 20, n1, .inl (va_cpy (M.1 c0) (M.1 c1) (tn sp) (tn dp) (tn n)))) = wl E (pC M c0 c1 (tn sp) (tn dp) (tn n)) := wl_set hlc pC_o (by rw [ce_20 hk1, pC_s])
  obtain ⟨h1, h2⟩ := ck_e h
  simp only [cpok, Bool.and_eq_true, Bool.not_eq_true', decide_eq_false_iff_not, decide_eq_true_eq] at h1
  obtain ⟨a1, a2, a3, a4, a5⟩ := h1
  have hloc : (rest.map fun v => v.category).sum + (nativeFrameWords "java/lang/System" "arraycopy" 5 + 11) ≤ (xR X).locals := by
    have h8 := C.2.2.2.2.2.2.2.2.1
    rw [nfw]
    omega
  refine va_copyi C.1 C.2.1 (by rw [C.2.2.1, ← hnl]; exact hl.1.symm) C.2.2.2.1 (C.2.2.2.2.1 _ w.1) (C.2.2.2.2.1 _ w.2.1) (C.2.2.2.2.1 _ w.2.2.1) (C.2.2.2.2.1 _ w.2.2.2) C.2.2.2.2.2.1.1 hP (C.2.2.2.2.2.2.1.D M) hS c0 c1 0 0 e0 e1 rfl rfl rfl a1 a2 a3 a4 a5 (fun _ _ => rfl) (Nat.le_trans hd C.2.2.2.2.2.2.2.1) hloc hdg (fun H1 locs1 hP1 _ hS1 => kk h2 H1 locs1 la ?_ hS1 hl)
  rw [e2] at hP1
  exact hP1
-- the two static rows
theorem s_stHL (C : Cx E X d cc RX3 nL) {idx : Nat} (hw : Cond.fieldLinkNest RX3 idx "BranchGuess" "HEAD_LEAST" "[I" RX9 ∈ nestW) (hdg : decode cc pc = .ok (.getstatic idx, 3)) (kk : At E X (pc + 3) ls (.ref (aS E 0) :: st) M) : At E X pc ls st M :=
  fun H locs la hP hS hl => va_getsN C.1 C.2.1 C.2.2.2.2.2.1.2.2.2.2.2.2.1 hS C.2.2.2.1 (va_Nw.use (nest_same _ hw) (C.2.2.2.2.2.1.2.2.2.1 _ hw)) (fun _ h => h) hdg (kk H locs la hP hS hl)
theorem s_stHM (C : Cx E X d cc RX3 nL) {idx : Nat} (hw : Cond.fieldLinkNest RX3 idx "BranchGuess" "HEAD_MOST" "[I" RX9 ∈ nestW) (hdg : decode cc pc = .ok (.getstatic idx, 3)) (kk : At E X (pc + 3) ls (.ref (aS E 1) :: st) M) : At E X pc ls st M :=
  fun H locs la hP hS hl => va_getsN C.1 C.2.1 C.2.2.2.2.2.1.2.2.2.2.2.2.2.2.1 hS C.2.2.2.1 (va_Nw.use (nest_same _ hw) (C.2.2.2.2.2.1.2.2.2.1 _ hw)) (fun _ h => h) hdg (kk H locs la hP hS hl)
theorem s_ildHL {i : Int32} {α : Type} {b : Option α} {r : α} (C : Cx E X d cc own nL) (h : ck (ib i 6) b = some r) (hdg : decode cc pc = .ok (.iaload, 1)) (kk : b = some r → At E X (pc + 1) ls (.int (hdL.getD (tn i) 0) :: st) M) : At E X pc ls (.int i :: .ref (aS E 0) :: st) M :=
  fun H locs la hP hS hl => va_ti C.1 C.2.1 C.2.2.2.2.2.1.2.2.2.2.2.2.2.1 hS (ib_in (ck_e h).1) rfl hdg (kk (ck_e h).2 H locs la hP hS hl)
theorem s_ildHM {i : Int32} {α : Type} {b : Option α} {r : α} (C : Cx E X d cc own nL) (h : ck (ib i 6) b = some r) (hdg : decode cc pc = .ok (.iaload, 1)) (kk : b = some r → At E X (pc + 1) ls (.int (hdM.getD (tn i) 0) :: st) M) : At E X pc ls (.int i :: .ref (aS E 1) :: st) M :=
  fun H locs la hP hS hl => va_ti C.1 C.2.1 C.2.2.2.2.2.1.2.2.2.2.2.2.2.2.2 hS (ib_in (ck_e h).1) rfl hdg (kk (ck_e h).2 H locs la hP hS hl)
-- strings
theorem s_ldcs {idx j : Nat} {tx : String} (C : Cx E X d cc own nL) (hj : strR[j]? = some (own, idx, tx)) (hdg : decode cc pc = .ok (.ldc idx, 2)) (kk : At E X (pc + 2) ls (.ref (aK E j) :: st) M) : At E X pc ls st M :=
  fun H locs la hP hS hl => va_ldcS C.1 C.2.1 C.2.2.2.1 (C.2.2.2.2.2.1.2.2.1 j _ hj) hdg (kk H locs la hP hS hl)
theorem s_compact (C : Cx E X d cc own nL) {idx : Nat} (hw : Cond.fieldLink own idx "java/lang/String" "COMPACT_STRINGS" "Z" ∈ tb) (hdg : decode cc pc = .ok (.getstatic idx, 3)) (kk : At E X (pc + 3) ls (.int 1 :: st) M) : At E X pc ls st M :=
  fun H locs la hP hS hl => va_gets C.1 C.2.1 C.2.2.2.2.2.1.2.2.2.2.1 hS C.2.2.2.1 (C.2.2.2.2.1 _ hw) (fun _ h => h) hdg (kk H locs la hP hS hl)
theorem s_fmt (C : Cx E X d cc own nL) {idx : Nat} (hw : Cond.fieldLink own idx "jdk/internal/util/Preconditions" "SIOOBE_FORMATTER" "Ljava/util/function/BiFunction;" ∈ tb) (hdg : decode cc pc = .ok (.getstatic idx, 3)) (kk : ∀ z : Value, (z = .null ∨ ∃ t, z = .ref t) → At E X (pc + 3) ls (z :: st) M) : At E X pc ls st M := by
  intro H locs la hP hS hl
  rcases C.2.2.2.2.2.1.2.2.2.2.2.1 with hz | ⟨t, hz⟩
  · exact va_gets C.1 C.2.1 hz hS C.2.2.2.1 (C.2.2.2.2.1 _ hw) (fun _ h => h) hdg (kk _ (Or.inl rfl) H locs la hP hS hl)
  · exact va_gets C.1 C.2.1 hz hS C.2.2.2.1 (C.2.2.2.2.1 _ hw) (fun _ h => h) hdg (kk _ (Or.inr ⟨t, rfl⟩) H locs la hP hS hl)
theorem s_coder {j idx : Nat} (C : Cx E X d cc own nL) (hj : j < NS) (hw : Cond.fieldLink own idx "java/lang/String" "coder" "B" ∈ tb) (hdg : decode cc pc = .ok (.getfield idx, 3)) (kk : At E X (pc + 3) ls (.int 0 :: st) M) : At E X pc ls (.ref (aK E j) :: st) M :=
  fun H locs la hP hS hl => vk_getf C.1 C.2.1 (C.2.2.2.2.2.1.2.1 j hj).2.1 hS C.2.2.2.1 (C.2.2.2.2.1 _ hw) (fun _ h => h) hdg (kk H locs la hP hS hl)
theorem s_value {j idx : Nat} (C : Cx E X d cc own nL) (hj : j < NS) (hw : Cond.fieldLink own idx "java/lang/String" "value" "[B" ∈ tb) (hdg : decode cc pc = .ok (.getfield idx, 3)) (kk : At E X (pc + 3) ls (.ref (aV E j) :: st) M) : At E X pc ls (.ref (aK E j) :: st) M :=
  fun H locs la hP hS hl => vk_getf C.1 C.2.1 (C.2.2.2.2.2.1.2.1 j hj).2.2.1 hS C.2.2.2.1 (C.2.2.2.2.1 _ hw) (fun _ h => h) hdg (kk H locs la hP hS hl)
theorem s_slen {j : Nat} (C : Cx E X d cc own nL) (hj : j < NS) (hdg : decode cc pc = .ok (.arraylength, 1)) (kk : At E X (pc + 1) ls (.int (nI (sl j)) :: st) M) : At E X pc ls (.ref (aV E j) :: st) M :=
  fun H locs la hP hS hl => va_tlen C.1 C.2.1 (C.2.2.2.2.2.1.2.1 j hj).2.2.2 hS rfl hdg (kk H locs la hP hS hl)
theorem s_sbyte {j : Nat} {i : Int32} (C : Cx E X d cc own nL) (hj : j < NS) (h : vp_in i (sl j)) (hdg : decode cc pc = .ok (.baload, 1)) (kk : At E X (pc + 1) ls (.int (sc j (tn i)) :: st) M) : At E X pc ls (.int i :: .ref (aV E j) :: st) M :=
  fun H locs la hP hS hl => va_tb C.1 C.2.1 (C.2.2.2.2.2.1.2.1 j hj).2.2.2 hS h rfl hdg (kk H locs la hP hS hl)
theorem s_i2c {x : Int32} (C : Cx E X d cc own nL) (hdg : decode cc pc = .ok (.i2c, 1)) (kk : At E X (pc + 1) ls (.int (x.toUInt32 % 65536).toInt32 :: st) M) : At E X pc ls (.int x :: st) M :=
  fun H locs la hP hS hl => lv_i2c C.1 C.2.1 hdg rfl (kk H locs la hP hS hl)
-- switches
theorem s_tin (C : Cx E X d cc own nL) {dflt lo hi : Int} {offs : Array Int} {len : Nat} {x : Int32} (j : Nat) {off : Int} {tgt : Nat} (hdg : decode cc pc = .ok (.tableswitch dflt lo hi offs, len)) (hx : x.toInt = lo + j) (hj : lo + j ≤ hi) (ho : offs[j]? = some off) (ht : (pc : Int) + off = (tgt : Int)) (k : At E X tgt ls st M) : At E X pc ls (.int x :: st) M :=
  fun H locs la hP hS hl => lv_tableIn C.1 C.2.1 hdg (by omega) (by omega) (by rw [hx, show (lo + (j : Int) - lo).toNat = j by omega]; exact ho) ht (k H locs la hP hS hl)
theorem s_tout (C : Cx E X d cc own nL) {dflt lo hi : Int} {offs : Array Int} {len : Nat} {x : Int32} {tgt : Nat} (hdg : decode cc pc = .ok (.tableswitch dflt lo hi offs, len)) (hx : x.toInt < lo ∨ hi < x.toInt) (ht : (pc : Int) + dflt = (tgt : Int)) (k : At E X tgt ls st M) : At E X pc ls (.int x :: st) M :=
  fun H locs la hP hS hl => lv_tableOut C.1 C.2.1 hdg hx ht (k H locs la hP hS hl)
theorem ne_int {x : Int32} {n : Int32} (h : ¬ x = n) : x.toInt ≠ n.toInt := fun e => h (Int32.toInt_inj.mp e)
end MoreRows

