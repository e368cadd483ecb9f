/-! Rows over memory: fields, arrays, statics, strings, returns, calls; the entry of a method. Written by wip/whole/mk06.py. -/
section MemRows
variable {E : En} {X : Xc} {d : Nat} {cc : ByteArray} {own : String} {nL pc : Nat} {ls : List (Option Value)} {st : List Value} {M : Mem}
theorem s_get {c ci k idx t N : Nat} {T : u_T} {CN : String} (C : Cx E X d cc own nL) (hk : kd c = (ci, 0)) (hlt : ci < 11) (hc : vwCl[ci]? = some (CN, T, N)) (hin : ∀ w ∈ u_ws CN T N, w ∈ tb) (hkN : k < N) (hf : (fds ci)[k]? = some t) (hl : Cond.fieldLink own idx (T k).1 (T k).2.1 (T k).2.2.1 ∈ tb) (hdg : decode cc pc = .ok (.getfield idx, 3))
    (kk : At E X (pc + 3) ls (fv E M c t k :: st) M) : At E X pc ls (.ref (ad E c) :: st) M := by
  intro H locs la hP hS hl'
  have e : (wl E M)[c]? = some (ad E c, .inr (ci, fl E M c ci)) := by rw [wl_at (kd_lt hk (by omega)), ce_ob hk hlt]
  exact va_get C.1 C.2.1 C.2.2.2.2.1 hin C.2.2.2.1 C.2.2.2.2.2.1.1 hP c e hc k hkN (C.2.2.2.2.1 _ hl) (fun _ h => h) (fl_at hf) hdg (kk H locs la hP hS hl')
theorem s_putI {c ci k idx N : Nat} {T : u_T} {CN : String} {x : Int32} {ty0 : Nat → FieldType} {ty : FieldType} (C : Cx E X d cc own nL) (hk : kd c = (ci, 0)) (hlt : ci < 11) (hc : vwCl[ci]? = some (CN, T, N)) (hin : ∀ w ∈ u_ws CN T N, w ∈ tb) (hty : ∀ k, k < N → parseFieldDescriptor (T k).2.2.1 = some (ty0 k)) (hnm : ∀ a, a < N → ∀ b, b < N → a ≠ b → (T a).2.1 ≠ (T b).2.1) (hkN : k < N) (hf : (fds ci)[k]? = some 0) (hl : Cond.fieldLink own idx (T k).1 (T k).2.1 (T k).2.2.1 ∈ tb) (hfin : (T k).2.2.2 = false) (hd : parseFieldDescriptor (T k).2.2.1 = some ty) (hn : narrow ty (.int x) = .int x) (hfit : fits ty (.int x) = true) (hdg : decode cc pc = .ok (.putfield idx, 3))
    (kk : At E X (pc + 3) ls st (pI M c k x)) : At E X pc ls (.int x :: .ref (ad E c) :: st) M := by
  intro H locs la hP hS hl'
  have hlc := kd_lt hk (by omega)
  have e : (wl E M)[c]? = some (ad E c, .inr (ci, fl E M c ci)) := by rw [wl_at hlc, ce_ob hk hlt]
  have e2 : (wl E M).set c (ad E c, .inr (ci, (fl E M c ci).set k (.int x))) = wl E (pI M c k x) := wl_set hlc pI_o (by rw [ce_ob hk hlt, fl_setI hf])
  refine va_put C.1 C.2.1 C.2.2.2.2.1 hin ty0 hty hnm C.2.2.2.1 C.2.2.2.2.2.1.1 hP (C.2.2.2.2.2.2.1.D M) hS c e hc k hkN (C.2.2.2.2.1 _ hl) (fun _ h => h) hfin hd hn hfit (by rw [fl_len]; exact (List.getElem?_eq_some_iff.mp hf).1) hdg (fun H1 locs1 hP1 _ hS1 => kk H1 locs1 la ?_ hS1 hl')
  rw [e2] at hP1
  exact hP1
theorem s_putL {c ci k idx N : Nat} {T : u_T} {CN : String} {x : Int64} {ty0 : Nat → FieldType} (C : Cx E X d cc own nL) (hk : kd c = (ci, 0)) (hlt : ci < 11) (hc : vwCl[ci]? = some (CN, T, N)) (hin : ∀ w ∈ u_ws CN T N, w ∈ tb) (hty : ∀ k, k < N → parseFieldDescriptor (T k).2.2.1 = some (ty0 k)) (hnm : ∀ a, a < N → ∀ b, b < N → a ≠ b → (T a).2.1 ≠ (T b).2.1) (hkN : k < N) (hf : (fds ci)[k]? = some 1) (hl : Cond.fieldLink own idx (T k).1 (T k).2.1 (T k).2.2.1 ∈ tb) (hfin : (T k).2.2.2 = false) (hd : parseFieldDescriptor (T k).2.2.1 = some .long) (hdg : decode cc pc = .ok (.putfield idx, 3))
    (kk : At E X (pc + 3) ls st (pL M c k x)) : At E X pc ls (.long x :: .ref (ad E c) :: st) M := by
  intro H locs la hP hS hl'
  have hlc := kd_lt hk (by omega)
  have e : (wl E M)[c]? = some (ad E c, .inr (ci, fl E M c ci)) := by rw [wl_at hlc, ce_ob hk hlt]
  have e2 : (wl E M).set c (ad E c, .inr (ci, (fl E M c ci).set k (.long x))) = wl E (pL M c k x) := wl_set hlc pL_o (by rw [ce_ob hk hlt, fl_setL hf])
  refine va_put C.1 C.2.1 C.2.2.2.2.1 hin ty0 hty hnm C.2.2.2.1 C.2.2.2.2.2.1.1 hP (C.2.2.2.2.2.2.1.D M) hS c e hc k hkN (C.2.2.2.2.1 _ hl) (fun _ h => h) hfin hd rfl rfl (by rw [fl_len]; exact (List.getElem?_eq_some_iff.mp hf).1) hdg (fun H1 locs1 hP1 _ hS1 => kk H1 locs1 la ?_ hS1 hl')
  rw [e2] at hP1
  exact hP1
theorem s_iald {c n : Nat} {i : Int32} {α : Type} {b : Option α} {r : α} (C : Cx E X d cc own nL) (hk : kd c = (20, n)) (h : ck (ib i n) b = some r) (hdg : decode cc pc = .ok (.iaload, 1)) (kk : b = some r → At E X (pc + 1) ls (.int (M.1 c (tn i)) :: st) M) : At E X pc ls (.int i :: .ref (ad E c) :: st) M := by
  intro H locs la hP hS hl
  have e : (wl E M)[c]? = some (ad E c, .inl (cA E 20, n, .inl (M.1 c))) := by rw [wl_at (kd_lt hk (by decide)), ce_20 hk]
  exact va_iald C.1 C.2.1 C.2.2.2.2.2.1.1 hP c 0 e rfl (ib_in (ck_e h).1) hdg (kk (ck_e h).2 H locs la hP hS hl)
theorem s_bald {c n : Nat} {i : Int32} {α : Type} {b : Option α} {r : α} (C : Cx E X d cc own nL) (hk : kd c = (21, n)) (h : ck (ib i n) b = some r) (hdg : decode cc pc = .ok (.baload, 1)) (kk : b = some r → At E X (pc + 1) ls (.int (M.1 c (tn i)) :: st) M) : At E X pc ls (.int i :: .ref (ad E c) :: st) M := by
  intro H locs la hP hS hl
  have e : (wl E M)[c]? = some (ad E c, .inl (cA E 21, n, .inl (M.1 c))) := by rw [wl_at (kd_lt hk (by decide)), ce_21 hk]
  exact va_bald C.1 C.2.1 C.2.2.2.2.2.1.1 hP c 1 e rfl (ib_in (ck_e h).1) hdg (kk (ck_e h).2 H locs la hP hS hl)
theorem s_zald {c n : Nat} {i : Int32} {α : Type} {b : Option α} {r : α} (C : Cx E X d cc own nL) (hk : kd c = (22, n)) (h : ck (ib i n) b = some r) (hdg : decode cc pc = .ok (.baload, 1)) (kk : b = some r → At E X (pc + 1) ls (.int (M.1 c (tn i)) :: st) M) : At E X pc ls (.int i :: .ref (ad E c) :: st) M := by
  intro H locs la hP hS hl
  have e : (wl E M)[c]? = some (ad E c, .inl (cA E 22, n, .inl (M.1 c))) := by rw [wl_at (kd_lt hk (by decide)), ce_22 hk]
  exact va_zald C.1 C.2.1 C.2.2.2.2.2.1.1 hP c 2 e rfl (ib_in (ck_e h).1) hdg (kk (ck_e h).2 H locs la hP hS hl)
theorem s_lald {c n : Nat} {i : Int32} {α : Type} {b : Option α} {r : α} (C : Cx E X d cc own nL) (hk : kd c = (23, n)) (h : ck (ib i n) b = some r) (hdg : decode cc pc = .ok (.laload, 1)) (kk : b = some r → At E X (pc + 1) ls (.long (M.2 c (tn i)) :: st) M) : At E X pc ls (.int i :: .ref (ad E c) :: st) M := by
  intro H locs la hP hS hl
  have e : (wl E M)[c]? = some (ad E c, .inl (cA E 23, n, .inr (.inl (M.2 c)))) := by rw [wl_at (kd_lt hk (by decide)), ce_23 hk]
  exact va_lald C.1 C.2.1 C.2.2.2.2.2.1.1 hP c 3 e rfl (ib_in (ck_e h).1) hdg (kk (ck_e h).2 H locs la hP hS hl)
theorem s_aald {c n : Nat} {i : Int32} {α : Type} {b : Option α} {r : α} (C : Cx E X d cc own nL) (hk : kd c = (24, n)) (h : ck (ib i n) b = some r) (hdg : decode cc pc = .ok (.aaload, 1)) (kk : b = some r → At E X (pc + 1) ls (.ref (ad E (c + 1 + 6 * tn i)) :: st) M) : At E X pc ls (.int i :: .ref (ad E c) :: st) M := by
  intro H locs la hP hS hl
  have e : (wl E M)[c]? = some (ad E c, .inl (cA E 24, n, .inr (.inr (.inr (.inr (fun i => some (ad E (c + 1 + 6 * i)))))))) := by rw [wl_at (kd_lt hk (by decide)), ce_24 hk]
  exact va_aldq C.1 C.2.1 C.2.2.2.2.2.1.1 hP c 4 e rfl (ib_in (ck_e h).1) hdg (kk (ck_e h).2 H locs la hP hS hl)
theorem s_iast {c n : Nat} {i x : Int32} {α : Type} {b : Option α} {r : α} (C : Cx E X d cc own nL) (hk : kd c = (20, n)) (h : ck (ib i n) b = some r) (hdg : decode cc pc = .ok (.iastore, 1)) (kk : b = some r → At E X (pc + 1) ls st (pI M c (tn i) x)) : At E X pc ls (.int x :: .int i :: .ref (ad E c) :: st) M := by
  intro H locs la hP hS hl
  have hlc := kd_lt hk (by decide)
  have e : (wl E M)[c]? = some (ad E c, .inl (cA E 20, n, .inl (M.1 c))) := by rw [wl_at hlc, ce_20 hk]
  have e2 : (wl E M).set c (ad E c, .inl (cA E 20, n, .inl (upd (M.1 c) (tn i) x))) = wl E (pI M c (tn i) x) := wl_set hlc pI_o (by rw [ce_20 hk, pI_s])
  refine va_iast C.1 C.2.1 C.2.2.2.2.2.1.1 hP (C.2.2.2.2.2.2.1.D M) hS c 0 e rfl (ib_in (ck_e h).1) hdg (fun H1 locs1 hP1 _ hS1 => kk (ck_e h).2 H1 locs1 la ?_ hS1 hl)
  rw [e2] at hP1
  exact hP1
theorem s_bast {c n : Nat} {i x : Int32} {α : Type} {b : Option α} {r : α} (C : Cx E X d cc own nL) (hk : kd c = (21, n)) (h : ck (ib i n) b = some r) (hdg : decode cc pc = .ok (.bastore, 1)) (kk : b = some r → At E X (pc + 1) ls st (pI M c (tn i) (vp_nar .byte x))) : At E X pc ls (.int x :: .int i :: .ref (ad E c) :: st) M := by
  intro H locs la hP hS hl
  have hlc := kd_lt hk (by decide)
  have e : (wl E M)[c]? = some (ad E c, .inl (cA E 21, n, .inl (M.1 c))) := by rw [wl_at hlc, ce_21 hk]
  have e2 : (wl E M).set c (ad E c, .inl (cA E 21, n, .inl (upd (M.1 c) (tn i) (vp_nar .byte x)))) = wl E (pI M c (tn i) (vp_nar .byte x)) := wl_set hlc pI_o (by rw [ce_21 hk, pI_s])
  refine va_bast C.1 C.2.1 C.2.2.2.2.2.1.1 hP (C.2.2.2.2.2.2.1.D M) hS c 1 e rfl (ib_in (ck_e h).1) hdg (fun H1 locs1 hP1 _ hS1 => kk (ck_e h).2 H1 locs1 la ?_ hS1 hl)
  rw [e2] at hP1
  exact hP1
theorem s_zast {c n : Nat} {i x : Int32} {α : Type} {b : Option α} {r : α} (C : Cx E X d cc own nL) (hk : kd c = (22, n)) (h : ck (ib i n) b = some r) (hdg : decode cc pc = .ok (.bastore, 1)) (kk : b = some r → At E X (pc + 1) ls st (pI M c (tn i) (vp_nar .boolean x))) : At E X pc ls (.int x :: .int i :: .ref (ad E c) :: st) M := by
  intro H locs la hP hS hl
  have hlc := kd_lt hk (by decide)
  have e : (wl E M)[c]? = some (ad E c, .inl (cA E 22, n, .inl (M.1 c))) := by rw [wl_at hlc, ce_22 hk]
  have e2 : (wl E M).set c (ad E c, .inl (cA E 22, n, .inl (upd (M.1 c) (tn i) (vp_nar .boolean x)))) = wl E (pI M c (tn i) (vp_nar .boolean x)) := wl_set hlc pI_o (by rw [ce_22 hk, pI_s])
  refine va_zast C.1 C.2.1 C.2.2.2.2.2.1.1 hP (C.2.2.2.2.2.2.1.D M) hS c 2 e rfl (ib_in (ck_e h).1) hdg (fun H1 locs1 hP1 _ hS1 => kk (ck_e h).2 H1 locs1 la ?_ hS1 hl)
  rw [e2] at hP1
  exact hP1
theorem s_last {c n : Nat} {i : Int32} {x : Int64} {α : Type} {b : Option α} {r : α} (C : Cx E X d cc own nL) (hk : kd c = (23, n)) (h : ck (ib i n) b = some r) (hdg : decode cc pc = .ok (.lastore, 1)) (kk : b = some r → At E X (pc + 1) ls st (pL M c (tn i) x)) : At E X pc ls (.long x :: .int i :: .ref (ad E c) :: st) M := by
  intro H locs la hP hS hl
  have hlc := kd_lt hk (by decide)
  have e : (wl E M)[c]? = some (ad E c, .inl (cA E 23, n, .inr (.inl (M.2 c)))) := by rw [wl_at hlc, ce_23 hk]
  have e2 : (wl E M).set c (ad E c, .inl (cA E 23, n, .inr (.inl (vp_updL (M.2 c) (tn i) x)))) = wl E (pL M c (tn i) x) := wl_set hlc pL_o (by rw [ce_23 hk, pL_s])
  refine va_last C.1 C.2.1 C.2.2.2.2.2.1.1 hP (C.2.2.2.2.2.2.1.D M) hS c 3 e rfl (ib_in (ck_e h).1) hdg (fun H1 locs1 hP1 _ hS1 => kk (ck_e h).2 H1 locs1 la ?_ hS1 hl)
  rw [e2] at hP1
  exact hP1
theorem s_alen20 {c n : Nat} (C : Cx E X d cc own nL) (hk : kd c = (20, n)) (hdg : decode cc pc = .ok (.arraylength, 1)) (kk : At E X (pc + 1) ls (.int (nI n) :: st) M) : At E X pc ls (.ref (ad E c) :: st) M := by
  intro H locs la hP hS hl
  have e : (wl E M)[c]? = some (ad E c, .inl (cA E 20, n, .inl (M.1 c))) := by rw [wl_at (kd_lt hk (by decide)), ce_20 hk]
  exact va_alen C.1 C.2.1 C.2.2.2.2.2.1.1 hP c 0 e rfl rfl hdg (kk H locs la hP hS hl)
theorem s_alen21 {c n : Nat} (C : Cx E X d cc own nL) (hk : kd c = (21, n)) (hdg : decode cc pc = .ok (.arraylength, 1)) (kk : At E X (pc + 1) ls (.int (nI n) :: st) M) : At E X pc ls (.ref (ad E c) :: st) M := by
  intro H locs la hP hS hl
  have e : (wl E M)[c]? = some (ad E c, .inl (cA E 21, n, .inl (M.1 c))) := by rw [wl_at (kd_lt hk (by decide)), ce_21 hk]
  exact va_alen C.1 C.2.1 C.2.2.2.2.2.1.1 hP c 1 e rfl rfl hdg (kk H locs la hP hS hl)
theorem s_alen23 {c n : Nat} (C : Cx E X d cc own nL) (hk : kd c = (23, n)) (hdg : decode cc pc = .ok (.arraylength, 1)) (kk : At E X (pc + 1) ls (.int (nI n) :: st) M) : At E X pc ls (.ref (ad E c) :: st) M := by
  intro H locs la hP hS hl
  have e : (wl E M)[c]? = some (ad E c, .inl (cA E 23, n, .inr (.inl (M.2 c)))) := by rw [wl_at (kd_lt hk (by decide)), ce_23 hk]
  exact va_alen C.1 C.2.1 C.2.2.2.2.2.1.1 hP c 3 e rfl rfl hdg (kk H locs la hP hS hl)
theorem s_iret {v r : Int32} {M' : Mem} (C : Cx E X d cc own nL) (R : Rt E X (some .int) (some (.int r)) M') (h : some (v, M) = some (r, M')) (hdg : decode cc pc = .ok (.ireturn, 1)) : At E X pc ls [.int v] M := by
  intro H locs la hP hS hl
  cases h
  show W _ _ _ _ _ _ _ _ _ _ _ _ _ _ _ _
  rw [R.2.2]
  exact W.iret C.1 C.2.1 R.1 (fun t ht hW => ⟨rfl, by rw [ht]; exact hP, hS.F ht⟩) hS.2.2 hdg R.2.1
theorem s_lret {v r : Int64} {M' : Mem} (C : Cx E X d cc own nL) (R : Rt E X (some .long) (some (.long r)) M') (h : some (v, M) = some (r, M')) (hdg : decode cc pc = .ok (.lreturn, 1)) : At E X pc ls [.long v] M := by
  intro H locs la hP hS hl
  cases h
  show W _ _ _ _ _ _ _ _ _ _ _ _ _ _ _ _
  rw [R.2.2]
  exact W.lret C.1 C.2.1 R.1 (fun t ht hW => ⟨rfl, by rw [ht]; exact hP, hS.F ht⟩) hS.2.2 hdg R.2.1
theorem s_zret {v r : Int32} {M' : Mem} {ty : FieldType} (C : Cx E X d cc own nL) (R : Rt E X (some ty) (some (.int r)) M') (h : some (v, M) = some (r, M')) (hn : narrow ty (.int v) = .int v) (hdg : decode cc pc = .ok (.ireturn, 1)) : At E X pc ls [.int v] M := by
  intro H locs la hP hS hl
  cases h
  show W _ _ _ _ _ _ _ _ _ _ _ _ _ _ _ _
  rw [R.2.2]
  exact W.zret C.1 C.2.1 R.1 hn (fun t ht hW => ⟨rfl, by rw [ht]; exact hP, hS.F ht⟩) hS.2.2 hdg R.2.1
theorem isB_n {x : Int32} (h : isB x = true) : narrow .boolean (.int x) = .int x ∧ fits .boolean (.int x) = true := by
  simp only [isB, Bool.or_eq_true, decide_eq_true_eq] at h
  rcases h with rfl | rfl
  · exact ⟨rfl, rfl⟩
  · exact ⟨rfl, rfl⟩
theorem s_vret {M' : Mem} (C : Cx E X d cc own nL) (R : Rt E X none none M') (h : some M = some M') (hdg : decode cc pc = .ok (.return_, 1)) : At E X pc ls [] M := by
  intro H locs la hP hS hl
  cases h
  show W _ _ _ _ _ _ _ _ _ _ _ _ _ _ _ _
  rw [R.2.2]
  exact W.vret C.1 C.2.1 R.1 (fun t ht hW => ⟨rfl, by rw [ht]; exact hP, hS.F ht⟩) hS.2.2 hdg R.2.1
theorem s_sret {v r : Nat} {M' : Mem} {n : String} (C : Cx E X d cc own nL) (R : Rt E X (some (.object n)) (some (.ref (aK E r))) M') (h : some (v, M) = some (r, M')) (hdg : decode cc pc = .ok (.areturn, 1)) : At E X pc ls [.ref (aK E v)] M := by
  intro H locs la hP hS hl
  cases h
  show W _ _ _ _ _ _ _ _ _ _ _ _ _ _ _ _
  rw [R.2.2]
  exact W.aret C.1 C.2.1 R.1 (Or.inl ⟨_, rfl⟩) (Or.inr ⟨_, rfl⟩) (fun t ht hW => ⟨rfl, by rw [ht]; exact hP, hS.F ht⟩) hS.2.2 hdg R.2.1
-- calls
def CwB (y : MethodName) (cy : ByteArray) (maxL : Nat) (ret : Option FieldType) (n : Nat) : Prop := Cond.code y cy maxL ret ∈ tb ∧ Cond.initialized y.cls ∈ tb ∧ (y.cls ≠ "java/lang/invoke/MethodHandle" ∧ y.cls ≠ "java/lang/invoke/VarHandle" ∧ (parseMethodDescriptor y.desc).map (fun d => d.parameters.length) = some n) ∧ maxL ≤ 17
def CwV (own : String) (idx : Nat) (CN : String) (y : MethodName) (cy : ByteArray) (maxL : Nat) (ret : Option FieldType) (n : Nat) : Prop := CwB y cy maxL ret n ∧ Cond.methodLink own idx y ∈ tb ∧ Cond.instanceMethod y ∈ tb ∧ Cond.selects CN y y ∈ tb
def CwS (own : String) (idx : Nat) (y : MethodName) (cy : ByteArray) (maxL : Nat) (ret : Option FieldType) (n : Nat) : Prop := CwB y cy maxL ret n ∧ Cond.methodLink own idx y ∈ tb ∧ Cond.static y ∈ tb
def CwN (own : String) (idx : Nat) (y : MethodName) (host : String) (cy : ByteArray) (maxL : Nat) (ret : Option FieldType) (n : Nat) : Prop := CwB y cy maxL ret n ∧ Cond.methodLinkNest own idx y host ∈ nestW ∧ Cond.static y ∈ tb
theorem good_code {y : MethodName} {cy : ByteArray} {maxL : Nat} {ret : Option FieldType} (h : Cond.code y cy maxL ret ∈ tb) : GoodIn tb (Cond.code y cy maxL ret :: tb) := fun w hw => by
  rcases List.mem_cons.mp hw with rfl | hw
  · exact tb_good _ h
  · exact tb_good _ hw
theorem callB_mk {idx maxL n : Nat} {y : MethodName} {cy : ByteArray} {ret : Option FieldType} (C : Cx E X d cc own nL) (hd : 1 ≤ d) (b : CwB y cy maxL ret n) (hl : Cond.methodLink own idx y ∈ tb) : CallB (xR X) (xs X) (xa X) own idx y cy maxL ret (Cond.code y cy maxL ret :: tb) (rmd (d - 1)) 0 0 n :=
  callB_of n C.2.2.2.2.1 (good_code b.1) rfl rfl rfl (C.2.2.2.2.1 _ b.2.1) (C.2.2.2.2.1 _ hl) b.2.2.1 ⟨by have := C.2.2.2.2.2.2.2.1; show d - 1 + 1 ≤ _; omega, by have := C.2.2.2.2.2.2.2.2.1; have := b.2.2.2; show 8 + (maxL + 11) + 36 * (d - 1) ≤ _; omega⟩
theorem pre_mk {av : List Value} {H : Heap} {locs : List Loc} (C : Cx E X d cc own nL) (hP : va_P (eG E) vwCl (wl E M) H) (hS : va_S (xA X) (xs X).heap H locs) : ∀ U : State, U.heap = H → (xs X).WarmedH U.vm → Pc E (xA X) av M av.toArray U :=
  fun U hU hW => ⟨rfl, C.2.2.2.2.2.1.warm hW (fun a h1 h2 => by rw [hU]; exact hS.2.1 a h1 h2), by rw [hU]; exact hP⟩
theorem run_mk {H : Heap} {locs : List Loc} {la : Array Slot} {rest st0 : List Value} {v : Option Value} {M' : Mem} {a : Array Value} (hP : va_P (eG E) vwCl (wl E M) H) (hS : va_S (xA X) (xs X).heap H locs) (hl : hasL la ls)
    (hr : va_Run (xp X) (xl X) (xe X) (xR X) (xs X) (xm X) (xa X) (xb X) (xh X) (xc X) H locs (xn X) (xo X) 0 0 (F0 (xm X) pc la st0) rest (Qc E (xA X) v M' a) (xA X)) (kk : At E X (pc + 3) ls (v.toList ++ rest) M') : xW X H locs (F0 (xm X) pc la st0) := by
  intro T hT St
  obtain ⟨v', st₀, t, T', L, h0, X', hL, e1, e2, ⟨hv, hPt, hz, hk⟩, go⟩ := hr T hT St
  cases hv
  rw [h0] at hz hk
  obtain ⟨t2, a1, b1⟩ := kk T'.heap (locs ++ L) la (by rw [e1]; exact hPt) ⟨Nat.le_trans hS.1 (by rw [e1]; exact hz), fun q h1 h2 => by rw [e1, hk q (Nat.lt_of_lt_of_le h1 hS.1) h2]; exact hS.2.1 q h1 h2, fun q hq => by
      rcases List.mem_append.mp hq with h | h
      · exact hS.2.2 q h
      · exact hL q h⟩ hl T' rfl X'
  exact ⟨t2, go t2 a1, b1⟩
theorem s_callVg {b : Nat} {idx maxL n : Nat} {CN : String} {y : MethodName} {cy : ByteArray} {ret : Option FieldType} {As rest : List Value} {v : Option Value} {M' : Mem} (C : Cx E X d cc own nL) (hnl : ls.length = nL) (hrec : ∀ (H : Heap) (locs : List Loc), va_P (eG E) vwCl (wl E M) H → va_S (xA X) (xs X).heap H locs → ∃ cell : Cell, H[b]? = some cell ∧ cell.vm.isStatics = false ∧ (xs X).vm.findClass CN = some cell.cls)
    (hd : 1 ≤ d) (w : CwV own idx CN y cy maxL ret n) (hn : As.length = n) (hc : (rest.map fun v => v.category).sum ≤ 8) (hdg : decode cc pc = .ok (.invokevirtual idx, 3)) (hM : Ct (xl X) E (xA X) (d - 1) y cy maxL ret (.ref b :: As) M v M') (kk : At E X (pc + 3) ls (v.toList ++ rest) M') : At E X pc ls (As.reverse ++ .ref b :: rest) M := by
  intro H locs la hP hS hl
  refine run_mk hP hS hl (va_runV (As := As) (rest := rest) (nL := nL) (Ts := tb) ⟨C.1, C.2.1, C.2.2.1, C.2.2.2.1, C.2.2.2.2.1⟩ hM ⟨callB_mk C hd w.1 w.2.1, C.2.2.2.2.1 _ w.2.2.1, C.2.2.2.2.1 _ w.2.2.2⟩ ⟨Pc.blind, hrec H locs hP hS, pre_mk C hP hS⟩ rfl hn (by rw [← hnl]; exact hl.1) rfl (by show 2 * 0 + _ ≤ 8; omega) hdg ⟨C.2.2.2.2.2.2.2.2.2.1, C.2.2.2.2.2.2.2.2.2.2⟩) kk
theorem s_callV {c ci N : Nat} {T : u_T} {idx maxL n : Nat} {CN : String} {y : MethodName} {cy : ByteArray} {ret : Option FieldType} {As rest : List Value} {v : Option Value} {M' : Mem} (C : Cx E X d cc own nL) (hnl : ls.length = nL) (hk : kd c = (ci, 0)) (hlt : ci < 11) (hv : vwCl[ci]? = some (CN, T, N))
    (hd : 1 ≤ d) (w : CwV own idx CN y cy maxL ret n) (hn : As.length = n) (hc : (rest.map fun v => v.category).sum ≤ 8) (hdg : decode cc pc = .ok (.invokevirtual idx, 3)) (hM : Ct (xl X) E (xA X) (d - 1) y cy maxL ret (.ref (ad E c) :: As) M v M') (kk : At E X (pc + 3) ls (v.toList ++ rest) M') : At E X pc ls (As.reverse ++ .ref (ad E c) :: rest) M :=
  s_callVg C hnl (fun H locs hP hS => va_recv C.2.2.2.2.2.1.1 hP hv (show (wl E M)[c]? = some (ad E c, .inr (ci, fl E M c ci)) by rw [wl_at (kd_lt hk (by omega)), ce_ob hk hlt])) hd w hn hc hdg hM kk
theorem s_callVS {j : Nat} {idx maxL n : Nat} {y : MethodName} {cy : ByteArray} {ret : Option FieldType} {As rest : List Value} {v : Option Value} {M' : Mem} (C : Cx E X d cc own nL) (hnl : ls.length = nL) (hj : j < NS)
    (hd : 1 ≤ d) (w : CwV own idx "java/lang/String" y cy maxL ret n) (hn : As.length = n) (hc : (rest.map fun v => v.category).sum ≤ 8) (hdg : decode cc pc = .ok (.invokevirtual idx, 3)) (hM : Ct (xl X) E (xA X) (d - 1) y cy maxL ret (.ref (aK E j) :: As) M v M') (kk : At E X (pc + 3) ls (v.toList ++ rest) M') : At E X pc ls (As.reverse ++ .ref (aK E j) :: rest) M :=
  s_callVg C hnl (fun H locs hP hS => by
    obtain ⟨cell, h1, h2, h3, -⟩ := (C.2.2.2.2.2.1.2.1 j hj).1.kept hS.2.1
    exact ⟨cell, h1, h2, h3⟩) hd w hn hc hdg hM kk
theorem s_callS {idx maxL n : Nat} {y : MethodName} {cy : ByteArray} {ret : Option FieldType} {As rest : List Value} {v : Option Value} {M' : Mem} (C : Cx E X d cc own nL) (hnl : ls.length = nL)
    (hd : 1 ≤ d) (w : CwS own idx y cy maxL ret n) (hn : As.length = n) (hc : (rest.map fun v => v.category).sum ≤ 8) (hdg : decode cc pc = .ok (.invokestatic idx, 3)) (hM : Ct (xl X) E (xA X) (d - 1) y cy maxL ret As M v M') (kk : At E X (pc + 3) ls (v.toList ++ rest) M') : At E X pc ls (As.reverse ++ rest) M := by
  intro H locs la hP hS hl
  refine run_mk hP hS hl (va_runS (As := As) (rest := rest) (nL := nL) (Ts := tb) ⟨C.1, C.2.1, C.2.2.1, C.2.2.2.1, C.2.2.2.2.1⟩ hM ⟨callB_mk C hd w.1 w.2.1, C.2.2.2.2.1 _ w.2.2⟩ ⟨Pc.blind, pre_mk C hP hS⟩ rfl hn (by rw [← hnl]; exact hl.1) rfl (by show 2 * 0 + _ ≤ 8; omega) hdg ⟨C.2.2.2.2.2.2.2.2.2.1, C.2.2.2.2.2.2.2.2.2.2⟩) kk
theorem s_callN {idx maxL n : Nat} {y : MethodName} {host : String} {cy : ByteArray} {ret : Option FieldType} {As rest : List Value} {v : Option Value} {M' : Mem} (C : Cx E X d cc own nL) (hnl : ls.length = nL)
    (hd : 1 ≤ d) (w : CwN own idx y host cy maxL ret n) (hn : As.length = n) (hc : (rest.map fun v => v.category).sum ≤ 8) (hdg : decode cc pc = .ok (.invokestatic idx, 3)) (hM : Ct (xl X) E (xA X) (d - 1) y cy maxL ret As M v M') (kk : At E X (pc + 3) ls (v.toList ++ rest) M') : At E X pc ls (As.reverse ++ rest) M := by
  intro H locs la hP hS hl
  have b := w.1
  refine run_mk hP hS hl (va_runSN (As := As) (rest := rest) (nL := nL) (Ts := tb) (host := host) ⟨C.1, C.2.1, C.2.2.1, C.2.2.2.1, C.2.2.2.2.1⟩ hM ⟨va_cnB n C.2.2.2.2.1 (good_code b.1) rfl rfl rfl (C.2.2.2.2.2.1.2.2.2.1 _ w.2.1) (C.2.2.2.2.1 _ b.2.1) b.2.2.1 ⟨by have := C.2.2.2.2.2.2.2.1; show d - 1 + 1 ≤ _; omega, by have := C.2.2.2.2.2.2.2.2.1; have := b.2.2.2; show 8 + (maxL + 11) + 36 * (d - 1) ≤ _; omega⟩, C.2.2.2.2.1 _ w.2.2, trivial⟩ ⟨Pc.blind, pre_mk C hP hS⟩ rfl hn (by rw [← hnl]; exact hl.1) rfl (by show 2 * 0 + _ ≤ 8; omega) hdg ⟨C.2.2.2.2.2.2.2.2.2.1, C.2.2.2.2.2.2.2.2.2.2⟩) kk
-- Math
theorem s_max {idx : Nat} {x y : Int32} {rest : List Value} (C : Cx E X d cc own nL) (hnl : ls.length = nL) (hd : 1 ≤ d) (w : Cond.methodLink own idx Lib.Math.max.name ∈ tb ∧ Cond.static Lib.Math.max.name ∈ tb ∧ Cond.initialized "java/lang/Math" ∈ tb ∧ Cond.code Lib.Math.max.name Lib.Math.max.code 2 (some .int) ∈ tb) (hc : (rest.map fun v => v.category).sum ≤ 8) (hdg : decode cc pc = .ok (.invokestatic idx, 3)) (kk : At E X (pc + 3) ls (.int (if x < y then y else x) :: rest) M) : At E X pc ls (.int y :: .int x :: rest) M :=
  fun H locs la hP hS hl => va_mmax C.1 C.2.1 (by rw [C.2.2.1, ← hnl]; exact hl.1.symm) C.2.2.2.1 (C.2.2.2.2.1 _ w.1) (C.2.2.2.2.1 _ w.2.1) (C.2.2.2.2.1 _ w.2.2.1) (C.2.2.2.2.1 _ w.2.2.2) (Nat.le_trans hd C.2.2.2.2.2.2.2.1) (by have := C.2.2.2.2.2.2.2.2.1; omega) C.2.2.2.2.2.2.2.2.2.1 C.2.2.2.2.2.2.2.2.2.2 hdg (kk H locs la hP hS hl)
theorem s_min {idx : Nat} {x y : Int32} {rest : List Value} (C : Cx E X d cc own nL) (hnl : ls.length = nL) (hd : 1 ≤ d) (w : Cond.methodLink own idx Lib.Math.min.name ∈ tb ∧ Cond.static Lib.Math.min.name ∈ tb ∧ Cond.initialized "java/lang/Math" ∈ tb ∧ Cond.code Lib.Math.min.name Lib.Math.min.code 2 (some .int) ∈ tb) (hc : (rest.map fun v => v.category).sum ≤ 8) (hdg : decode cc pc = .ok (.invokestatic idx, 3)) (kk : At E X (pc + 3) ls (.int (if y < x then y else x) :: rest) M) : At E X pc ls (.int y :: .int x :: rest) M :=
  fun H locs la hP hS hl => va_mmin C.1 C.2.1 (by rw [C.2.2.1, ← hnl]; exact hl.1.symm) C.2.2.2.1 (C.2.2.2.2.1 _ w.1) (C.2.2.2.2.1 _ w.2.1) (C.2.2.2.2.1 _ w.2.2.1) (C.2.2.2.2.1 _ w.2.2.2) (Nat.le_trans hd C.2.2.2.2.2.2.2.1) (by have := C.2.2.2.2.2.2.2.2.1; omega) C.2.2.2.2.2.2.2.2.2.1 C.2.2.2.2.2.2.2.2.2.2 hdg (kk H locs la hP hS hl)
-- the entry
theorem Ct.mk {l : Launch} {A : Nat → Prop} {y : MethodName} {maxL : Nat} {ret : Option FieldType} {av : List Value} {v : Option Value} {M' : Mem} (hE : Okk E A) (hy : plainName y.cls = true) (hls : ent av maxL = ls) (hle : (ents av).length ≤ maxL)
    (body : ∀ X : Xc, xl X = l → xA X = A → Cx E X d cc y.cls maxL → Rt E X ret v M' → At E X 0 ls [] M) : Ct l E A d y cc maxL ret av M v M' := by
  refine Met.ofW (cc := cc) (maxL := maxL) (ret := ret) hy rfl ?_
  intro p e s m args below meth c s₁ B hml hv
  obtain ⟨rfl, hSg, hP⟩ := hv
  have hts := atoms_spec (ws := Cond.code y cc maxL ret :: tb) B.pre
  have hown : s.vm.findClass y.cls = some m.cls := findClass_of_methodNamed B.named
  rw [lg_entry_eq]
  have h := body (p, l, e, rmd d, s, m, av.toArray, below, meth, c, MQ below (Qc E A v M') av.toArray s 0 0 A, A, 0, 0) rfl rfl ⟨B.exec, B.bytes, hml, hown, fun w hw => hts w (List.mem_cons_of_mem _ hw), hSg, hE, Nat.le_refl _, Nat.le_refl _, Nat.le_refl _, Nat.le_refl _⟩ ⟨B.returns, B.notSynchronized, rfl⟩
  subst hls
  exact h s.heap [] _ hP va_S.rf (has_ent av hle)
end MemRows

