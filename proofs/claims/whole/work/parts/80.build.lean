/-! Building: the judgement Bd (a place in a method, over a world that grows), and its rows. -/
def Kb (E : En) (U : State) : Prop := va_K (eG E) vwCl (tysE E) U ∧ va_AO RX7 U ∧ SgN U
theorem Kb.warm {E : En} {s U : State} (h : Kb E s) (hW : s.WarmedH U.vm) : Kb E U := ⟨va_K.moved hW.alike h.1, va_AO.moved hW.alike h.2.1, fun w hw => nest_warm w hw hW (h.2.2 w hw)⟩
theorem Kb.call {E : En} {U : State} {g : JFrame} {mk : MethodId} {a : Array Value} (h : Kb E U) : Kb E (U.calling g mk a) :=
  ⟨va_K.moved (u := U) (U := U.calling g mk a) (Vm.Alike.refl U.vm) h.1, va_AO.moved (u := U) (U := U.calling g mk a) (Vm.Alike.refl U.vm) h.2.1, fun w hw => va_Nw.same (u := U) (U := U.calling g mk a) (nest_same w hw) rfl (h.2.2 w hw)⟩
def Bd (E : En) (X : Xc) (ws : va_W) (n o pc : Nat) (ls : List (Option Value)) (st : List Value) : Prop :=
  ∀ (H : Heap) (locs : List Loc) (la : Array Slot), va_P (eG E) vwCl ws H → va_D (xA X) ws → va_S (xA X) (xs X).heap H locs → hasL la ls → W (xp X) (xl X) (xe X) (xR X) (xs X) (xm X) (xa X) (xb X) (xh X) (xc X) H locs n o (xQ X) (F0 (xm X) pc la st)
def Cb (E : En) (X : Xc) (d : Nat) (cc : ByteArray) (own : String) (nL : Nat) : Prop :=
  (xp X).tables.exec = Jvm.exec ∧ (xc X).code = cc ∧ (xc X).maxLocals = nL ∧ (xs X).vm.findClass own = some (xm X).cls ∧ (∀ w ∈ tb, w.before (xa X) (xs X) = true) ∧ Kb E (xs X) ∧ (∀ q, (xs X).heap.size ≤ q → xA X q) ∧ d ≤ (xR X).frames ∧ 36 * d ≤ (xR X).locals
section Build
variable {E : En} {X : Xc} {d : Nat} {cc : ByteArray} {own : String} {nL pc n o : Nat} {ls : List (Option Value)} {st : List Value} {ws : va_W}
theorem b_al {i : Nat} {x : Nat} (C : Cb E X d cc own nL) (k : Fin 4) (hk : (k : Nat) = i) (hv : ls[i]? = some (some (.ref x))) (hdg : decode cc pc = .ok (.aload_n k, 1)) (kk : Bd E X ws n o (pc + 1) ls (.ref x :: st)) : Bd E X ws n o pc ls st :=
  fun H locs la hP hD hS hl => lv_aload_n C.1 C.2.1 hdg hk (hl.2.2 i _ hv) (kk H locs la hP hD hS hl)
theorem b_il {i : Nat} {x : Int32} (C : Cb E X d cc own nL) (k : Fin 4) (hk : (k : Nat) = i) (hv : ls[i]? = some (some (.int x))) (hdg : decode cc pc = .ok (.iload_n k, 1)) (kk : Bd E X ws n o (pc + 1) ls (.int x :: st)) : Bd E X ws n o pc ls st :=
  fun H locs la hP hD hS hl => lv_iload_n C.1 C.2.1 hdg hk (hl.2.2 i _ hv) (kk H locs la hP hD hS hl)
theorem b_is {i : Nat} {x : Int32} (C : Cb E X d cc own nL) (k : Fin 4) (hk : (k : Nat) = i) (hi : i < ls.length) (hp : ∀ j, j + 1 = i → ∀ w, ls[j]? = some (some w) → ¬ w.category = 2) (hdg : decode cc pc = .ok (.istore_n k, 1)) (kk : Bd E X ws n o (pc + 1) (ls.set i (some (.int x))) st) : Bd E X ws n o pc ls (.int x :: st) :=
  fun H locs la hP hD hS hl => lv_istore_n C.1 C.2.1 hdg hk (has_lv hl) hi rfl (fun la' h' => kk H locs la' hP hD hS (has_st hl hi hp h'))
theorem b_as {i : Nat} {x : Nat} (C : Cb E X d cc own nL) (k : Fin 4) (hk : (k : Nat) = i) (hi : i < ls.length) (hp : ∀ j, j + 1 = i → ∀ w, ls[j]? = some (some w) → ¬ w.category = 2) (hdg : decode cc pc = .ok (.astore_n k, 1)) (kk : Bd E X ws n o (pc + 1) (ls.set i (some (.ref x))) st) : Bd E X ws n o pc ls (.ref x :: st) :=
  fun H locs la hP hD hS hl => lv_astore_n C.1 C.2.1 hdg hk (has_lv hl) hi rfl (fun la' h' => kk H locs la' hP hD hS (has_st hl hi hp h'))
theorem b_ii {i : Nat} {z : Int} {x : Int32} (C : Cb E X d cc own nL) (hv : ls[i]? = some (some (.int x))) (hp : ∀ j, j + 1 = i → ∀ w, ls[j]? = some (some w) → ¬ w.category = 2) (hdg : decode cc pc = .ok (.iinc i z, 3)) (kk : Bd E X ws n o (pc + 3) (ls.set i (some (.int (x + Int32.ofInt z)))) st) : Bd E X ws n o pc ls st := by
  intro H locs la hP hD hS hl
  have hi : i < ls.length := (List.getElem?_eq_some_iff.mp hv).1
  obtain ⟨q, hq⟩ := List.getElem?_of_mem (prs_mem.mpr hv)
  exact lv_iinc C.1 C.2.1 hdg (has_lv hl) hq rfl hi rfl (fun la' h' => kk H locs la' hP hD hS (has_st hl hi hp h'))
theorem b_goto (C : Cb E X d cc own nL) {off : Int} {tgt : Nat} (hdg : decode cc pc = .ok (.goto off, 3)) (ht : (pc : Int) + off = (tgt : Int)) (kk : Bd E X ws n o tgt ls st) : Bd E X ws n o pc ls st :=
  fun H locs la hP hD hS hl => lv_goto C.1 C.2.1 hdg ht (kk H locs la hP hD hS hl)
theorem b_icge (C : Cb E X d cc own nL) {x y : Int32} {off : Int} {tgt : Nat} (hdg : decode cc pc = .ok (.if_icmp .ge off, 3)) (ht : (pc : Int) + off = (tgt : Int)) (k1 : y ≤ x → Bd E X ws n o tgt ls st) (k2 : ¬ y ≤ x → Bd E X ws n o (pc + 3) ls st) : Bd E X ws n o pc ls (.int y :: .int x :: st) :=
  fun H locs la hP hD hS hl => lv_icmp_ge C.1 C.2.1 hdg ht (fun hc => k1 hc H locs la hP hD hS hl) (fun hc => k2 hc H locs la hP hD hS hl)
theorem b_dup (C : Cb E X d cc own nL) {va : Value} (h1 : va.category = 1) (hdg : decode cc pc = .ok (.dup, 1)) (kk : Bd E X ws n o (pc + 1) ls (va :: va :: st)) : Bd E X ws n o pc ls (va :: st) :=
  fun H locs la hP hD hS hl => lv_dup C.1 C.2.1 hdg h1 (kk H locs la hP hD hS hl)
theorem b_iconst (C : Cb E X d cc own nL) {z : Int} {v : Int32} (hv : Int32.ofInt z = v) (hdg : decode cc pc = .ok (.iconst z, 1)) (kk : Bd E X ws n o (pc + 1) ls (.int v :: st)) : Bd E X ws n o pc ls st :=
  fun H locs la hP hD hS hl => lv_iconst C.1 C.2.1 hdg hv (kk H locs la hP hD hS hl)
theorem b_bipush (C : Cb E X d cc own nL) {z : Int} {v : Int32} (hv : (Int8.ofInt z).toInt32 = v) (hdg : decode cc pc = .ok (.bipush z, 2)) (kk : Bd E X ws n o (pc + 2) ls (.int v :: st)) : Bd E X ws n o pc ls st :=
  fun H locs la hP hD hS hl => lv_bipush C.1 C.2.1 hdg hv (kk H locs la hP hD hS hl)
theorem b_sipush (C : Cb E X d cc own nL) {z : Int} {v : Int32} (hv : (Int16.ofInt z).toInt32 = v) (hdg : decode cc pc = .ok (.sipush z, 3)) (kk : Bd E X ws n o (pc + 3) ls (.int v :: st)) : Bd E X ws n o pc ls st :=
  fun H locs la hP hD hS hl => lv_sipush C.1 C.2.1 hdg hv (kk H locs la hP hD hS hl)
theorem b_new {CN : String} {T : u_T} {N ci idx : Nat} {ty : Nat → FieldType} (C : Cb E X d cc own nL) (fs : List Value) (hin : ∀ w ∈ u_ws CN T N, w ∈ tb) (hty : ∀ k, k < N → parseFieldDescriptor (T k).2.2.1 = some (ty k)) (h1 : Cond.classLink own idx CN ∈ tb) (h2 : Cond.instantiable CN N ∈ tb) (h3 : Cond.initialized CN ∈ tb) (hc : vwCl[ci]? = some (CN, T, N)) (hfs : ∀ j, j < N → defaultValue (ty j) = vp_V fs j) (hcells : n + 1 ≤ (xR X).cells) (hslots : o + N ≤ (xR X).slots) (hdg : decode cc pc = .ok (.new idx, 3))
    (kk : ∀ q, Bd E X (ws ++ [(q, .inr (ci, fs))]) (n + 1) (o + N) (pc + 3) ls (.ref q :: st)) : Bd E X ws n o pc ls st :=
  fun H locs la hP hD hS hl => va_new C.1 C.2.1 C.2.2.2.2.1 hin ty hty C.2.2.2.1 (C.2.2.2.2.1 _ h1) (C.2.2.2.2.1 _ h2) (C.2.2.2.2.1 _ h3) C.2.2.2.2.2.1.1 hP hD hS C.2.2.2.2.2.2.1 hc hfs hcells hslots hdg (fun q H1 hP1 hD1 hS1 => kk q H1 locs la hP1 hD1 hS1 hl)
theorem ra_eq {U : State} {c c' : ClassId} {ty : FieldType} (h : va_RA U c ty) (h' : va_RA U c' ty) : c' = c := by
  cases ty with
  | object C =>
    obtain ⟨_, _, _, _, _, h4⟩ := h
    obtain ⟨_, _, _, _, _, h4'⟩ := h'
    exact Option.some.inj (h4'.symm.trans h4)
  | _ => exact Option.some.inj (Eq.trans (Eq.symm h') h)
theorem K_last {U : State} {D : va_G} {cl : List vw_C} {tys : List (ClassId × FieldType)} {c : ClassId} {ty : FieldType} (h : va_K D cl (tys ++ [(c, ty)]) U) : va_RA U c ty := (h.2 tys.length (c, ty) (by simp)).2
theorem b_newa {atype : ArrayType} {ty : FieldType} {c0 : ClassId} {v : Int32} {N : Nat} (t0 : Nat) (C : Cb E X d cc own nL) (a0 : vp_A) (hw : Cond.arrayClass (newarray.typeOf atype) ∈ tb) (hty : newarray.typeOf atype = ty) (ht : (tysE E)[t0]? = some (c0, ty)) (ha : ∀ cA : ClassId, vp_cell cA a0 = arrV cA N (fun _ => defaultValue ty)) (hn : ¬ v < 0) (hN : v.toNatClampNeg = N) (hbytes : N * componentBytes ty ≤ 536870912) (hcells : n + 1 ≤ (xR X).cells) (hslots : o + N ≤ (xR X).slots) (hdg : decode cc pc = .ok (.newarray atype, 2))
    (kk : ∀ q, Bd E X (ws ++ [(q, .inl (c0, a0))]) (n + 1) (o + N) (pc + 2) ls (.ref q :: st)) : Bd E X ws n o pc ls (.int v :: st) := by
  intro H locs la hP hD hS hl
  refine va_newa C.1 C.2.1 (C.2.2.2.2.1 _ hw) hty C.2.2.2.2.2.1.1 hP hD hS C.2.2.2.2.2.2.1 ha hn hN hbytes hcells hslots hdg (fun q cA H1 hK1 hP1 hD1 hS1 => ?_)
  have e := ra_eq (C.2.2.2.2.2.1.1.2 t0 _ ht).2 (K_last hK1)
  subst e
  exact kk q H1 locs la hP1 hD1 hS1 hl
theorem b_newq {idx : Nat} {v : Int32} {N : Nat} (C : Cb E X d cc own nL) (h1 : Cond.classLink own idx RX7 ∈ tb) (hn : ¬ v < 0) (hN : v.toNatClampNeg = N) (hbytes : N * 4 ≤ 536870912) (hcells : n + 1 ≤ (xR X).cells) (hslots : o + N ≤ (xR X).slots) (hdg : decode cc pc = .ok (.anewarray idx, 3))
    (kk : ∀ q, Bd E X (ws ++ [(q, .inl (cA E 24, N, .inr (.inr (.inr (.inr (fun _ => none))))))]) (n + 1) (o + N) (pc + 3) ls (.ref q :: st)) : Bd E X ws n o pc ls (.int v :: st) := by
  intro H locs la hP hD hS hl
  refine va_newq C.1 C.2.1 C.2.2.2.1 (C.2.2.2.2.1 _ h1) C.2.2.2.2.2.1.2.1 C.2.2.2.2.2.1.1 hP hD hS C.2.2.2.2.2.2.1 hn hN hbytes hcells hslots hdg (fun q c' H1 hK1 hP1 hD1 hS1 => ?_)
  have e := ra_eq (C.2.2.2.2.2.1.1.2 4 (cA E 24, .object RX7) rfl).2 (K_last hK1)
  subst e
  exact kk q H1 locs la hP1 hD1 hS1 hl
theorem b_putF {a q0 ci k idx N : Nat} {T : u_T} {CN : String} {fs : List Value} {v : Value} {ty0 : Nat → FieldType} {ty : FieldType} (C : Cb E X d cc own nL) (hm : (xh X).name = "<init>") (he : ws[q0]? = some (a, .inr (ci, fs))) (hc : vwCl[ci]? = some (CN, T, N)) (hin : ∀ w ∈ u_ws CN T N, w ∈ tb) (hty : ∀ k, k < N → parseFieldDescriptor (T k).2.2.1 = some (ty0 k)) (hnm : ∀ a, a < N → ∀ b, b < N → a ≠ b → (T a).2.1 ≠ (T b).2.1) (hkN : k < N) (hl : Cond.fieldLink own idx (T k).1 (T k).2.1 (T k).2.2.1 ∈ tb) (hfin : (T k).2.2.2 = true) (hdecl : (T k).1 = own) (hd : parseFieldDescriptor (T k).2.2.1 = some ty) (hn : narrow ty v = v) (hfit : fits ty v = true) (hlen : k < fs.length) (hdg : decode cc pc = .ok (.putfield idx, 3))
    (kk : Bd E X (ws.set q0 (a, .inr (ci, fs.set k v))) n o (pc + 3) ls st) : Bd E X ws n o pc ls (v :: .ref a :: st) :=
  fun H locs la hP hD hS hl' => va_putF C.1 C.2.1 C.2.2.2.2.1 hin ty0 hty hnm C.2.2.2.1 C.2.2.2.2.2.1.1 hP hD hS q0 he hc k hkN (C.2.2.2.2.1 _ hl) (fun _ h => h) hfin hm hdecl hd hn hfit hlen hdg (fun H1 locs1 hP1 hD1 hS1 => kk H1 locs1 la hP1 hD1 hS1 hl')
theorem b_put {a q0 ci k idx N : Nat} {T : u_T} {CN : String} {fs : List Value} {v : Value} {ty0 : Nat → FieldType} {ty : FieldType} (C : Cb E X d cc own nL) (he : ws[q0]? = some (a, .inr (ci, fs))) (hc : vwCl[ci]? = some (CN, T, N)) (hin : ∀ w ∈ u_ws CN T N, w ∈ tb) (hty : ∀ k, k < N → parseFieldDescriptor (T k).2.2.1 = some (ty0 k)) (hnm : ∀ a, a < N → ∀ b, b < N → a ≠ b → (T a).2.1 ≠ (T b).2.1) (hkN : k < N) (hl : Cond.fieldLink own idx (T k).1 (T k).2.1 (T k).2.2.1 ∈ tb) (hfin : (T k).2.2.2 = false) (hd : parseFieldDescriptor (T k).2.2.1 = some ty) (hn : narrow ty v = v) (hfit : fits ty v = true) (hlen : k < fs.length) (hdg : decode cc pc = .ok (.putfield idx, 3))
    (kk : Bd E X (ws.set q0 (a, .inr (ci, fs.set k v))) n o (pc + 3) ls st) : Bd E X ws n o pc ls (v :: .ref a :: st) :=
  fun H locs la hP hD hS hl' => va_put C.1 C.2.1 C.2.2.2.2.1 hin ty0 hty hnm C.2.2.2.1 C.2.2.2.2.2.1.1 hP hD hS q0 he hc k hkN (C.2.2.2.2.1 _ hl) (fun _ h => h) hfin hd hn hfit hlen hdg (fun H1 locs1 hP1 hD1 hS1 => kk H1 locs1 la hP1 hD1 hS1 hl')
theorem b_get {a q0 ci k idx N : Nat} {T : u_T} {CN : String} {fs : List Value} {v : Value} (C : Cb E X d cc own nL) (he : ws[q0]? = some (a, .inr (ci, fs))) (hc : vwCl[ci]? = some (CN, T, N)) (hin : ∀ w ∈ u_ws CN T N, w ∈ tb) (hkN : k < N) (hl : Cond.fieldLink own idx (T k).1 (T k).2.1 (T k).2.2.1 ∈ tb) (hv : fs[k]? = some v) (hdg : decode cc pc = .ok (.getfield idx, 3))
    (kk : Bd E X ws n o (pc + 3) ls (v :: st)) : Bd E X ws n o pc ls (.ref a :: st) :=
  fun H locs la hP hD hS hl' => va_get C.1 C.2.1 C.2.2.2.2.1 hin C.2.2.2.1 C.2.2.2.2.2.1.1 hP q0 he hc k hkN (C.2.2.2.2.1 _ hl) (fun _ h => h) hv hdg (kk H locs la hP hD hS hl')
theorem b_iast {a q0 N : Nat} {f : Nat → Int32} {i x : Int32} (C : Cb E X d cc own nL) (he : ws[q0]? = some (a, .inl (cA E 20, N, .inl f))) (hi : vp_in i N) (hdg : decode cc pc = .ok (.iastore, 1))
    (kk : Bd E X (ws.set q0 (a, .inl (cA E 20, N, .inl (upd f i.toNatClampNeg x)))) n o (pc + 1) ls st) : Bd E X ws n o pc ls (.int x :: .int i :: .ref a :: st) :=
  fun H locs la hP hD hS hl' => va_iast C.1 C.2.1 C.2.2.2.2.2.1.1 hP hD hS q0 0 he rfl hi hdg (fun H1 locs1 hP1 hD1 hS1 => kk H1 locs1 la hP1 hD1 hS1 hl')
theorem b_aast {a q0 qk v N : Nat} {f : Nat → Option Nat} {vs : List Value} {i : Int32} (C : Cb E X d cc own nL) (he : ws[q0]? = some (a, .inl (cA E 24, N, .inr (.inr (.inr (.inr f)))))) (hv : ws[qk]? = some (v, .inr (7, vs))) (hi : vp_in i N) (hdg : decode cc pc = .ok (.aastore, 1))
    (kk : Bd E X (ws.set q0 (a, .inl (cA E 24, N, .inr (.inr (.inr (.inr (va_up f i.toNatClampNeg (some v)))))))) n o (pc + 1) ls st) : Bd E X ws n o pc ls (.ref v :: .int i :: .ref a :: st) :=
  fun H locs la hP hD hS hl' => va_astq (r := (RX7, TX7, 9)) C.1 C.2.1 C.2.2.2.2.2.1.1 hP hD hS q0 4 qk 7 he rfl hv rfl hi hdg (fun H1 locs1 hP1 hD1 hS1 => kk H1 locs1 la hP1 hD1 hS1 hl')
theorem b_oi {idx a : Nat} (C : Cb E X d cc own nL) (hnl : ls.length = nL) (hd : 1 ≤ d) (h1 : Cond.methodLink own idx Lib.objectInit ∈ tb) (h2 : Cond.instanceMethod Lib.objectInit ∈ tb) (h3 : Cond.code Lib.objectInit ⟨#[0xb1]⟩ 1 none ∈ tb) (hdg : decode cc pc = .ok (.invokespecial idx, 3)) (kk : Bd E X ws n o (pc + 3) ls []) : Bd E X ws n o pc ls [.ref a] :=
  fun H locs la hP hD hS hl => W.objInit C.1 C.2.1 C.2.2.2.1 (C.2.2.2.2.1 _ h1) (C.2.2.2.2.1 _ h2) (C.2.2.2.2.1 _ h3) rfl (by rw [C.2.2.1, ← hnl]; exact hl.1) rfl hdg (by have := C.2.2.2.2.2.2.2.1; omega) (by have := C.2.2.2.2.2.2.2.2; show 2 * 0 + 0 + 12 ≤ _; omega) (kk H locs la hP hD hS hl)
end Build
-- contracts of what builds
def rmb (d mc ms : Nat) : Room := { frames := d, cells := mc, slots := ms, locals := 36 * d }
def Ci (l : Launch) (E : En) (y : MethodName) (cy : ByteArray) (maxL d mc ms : Nat) (av : List Value) (wc : va_W) (bk : (Nat → Nat) → va_W) (h0 : Nat) : Prop :=
  ∀ sz : Nat, Met l y (Cond.code y cy maxL none :: tb) (rmb d mc ms) (va_Pc av (fun U => U.heap.size = sz ∧ Kb E U ∧ va_P (eG E) vwCl wc U.heap)) (va_Qv (fun a : Nat → Nat => a 0 = h0) (fun a t => va_P (eG E) vwCl (bk a) t.heap ∧ va_D (va_A wc sz) (bk a)) (va_A wc sz)) mc ms (va_A wc sz)
def Rb (E : En) (X : Xc) (mc ms : Nat) (bk : (Nat → Nat) → va_W) (h0 : Nat) : Prop := (xh X).sig.returnType = none ∧ (xh X).locks = false ∧ xQ X = MQ (xb X) (va_Qv (fun a : Nat → Nat => a 0 = h0) (fun a t => va_P (eG E) vwCl (bk a) t.heap ∧ va_D (xA X) (bk a)) (xA X)) (xa X) (xs X) mc ms (xA X)
theorem nd_of : ∀ (l : List Nat), l.Nodup → va_nd l = true := by
  intro l
  induction l with
  | nil => intro _; rfl
  | cons a l ih =>
    intro h
    rw [List.nodup_cons] at h
    show (decide (a ∉ l) && va_nd l) = true
    rw [ih h.2]; simp [h.1]
section Build2
variable {E : En} {X : Xc} {d : Nat} {cc : ByteArray} {own : String} {nL pc n o : Nat} {ls : List (Option Value)} {st : List Value} {ws : va_W}
theorem b_ret {bk : (Nat → Nat) → va_W} {h0 : Nat} (a : Nat → Nat) (C : Cb E X d cc own nL) (R : Rb E X n o bk h0) (ha : a 0 = h0) (hw : bk a = ws) (hdg : decode cc pc = .ok (.return_, 1)) : Bd E X ws n o pc ls [] := by
  intro H locs la hP hD hS hl
  subst hw
  rw [R.2.2]
  exact W.vret C.1 C.2.1 R.1 (fun t ht hW => ⟨⟨a, rfl, ha, by rw [ht]; exact hP, hD⟩, hS.F ht⟩) hS.2.2 hdg R.2.1
theorem Ci.mk {l : Launch} {y : MethodName} {maxL mc ms : Nat} {av : List Value} {wc : va_W} {bk : (Nat → Nat) → va_W} {h0 : Nat} (hy : plainName y.cls = true) (hls : ent av maxL = ls) (hle : (ents av).length ≤ maxL) (hwc : va_D (fun _ => True) wc)
    (body : ∀ X : Xc, xl X = l → (xh X).name = y.name → xR X = rmb d mc ms → Cb E X d cc y.cls maxL → Rb E X mc ms bk h0 → Bd E X wc 0 0 0 ls []) : Ci l E y cc maxL d mc ms av wc bk h0 := by
  intro sz
  refine Met.ofW (cc := cc) (maxL := maxL) (ret := none) hy rfl ?_
  intro p e s m args below meth c s₁ B hml hv
  obtain ⟨rfl, hsz, hK, hP⟩ := hv
  have hts := atoms_spec (ws := Cond.code y cc maxL none :: tb) B.pre
  have hown : s.vm.findClass y.cls = some m.cls := findClass_of_methodNamed B.named
  subst hsz
  rw [lg_entry_eq]
  have h := body (p, l, e, rmb d mc ms, s, m, av.toArray, below, meth, c, MQ below (va_Qv (fun a : Nat → Nat => a 0 = h0) (fun a t => va_P (eG E) vwCl (bk a) t.heap ∧ va_D (va_A wc s.heap.size) (bk a)) (va_A wc s.heap.size)) av.toArray s mc ms (va_A wc s.heap.size), va_A wc s.heap.size, 0, 0) rfl (name_of_methodNamed B.named B.method).1 rfl ⟨B.exec, B.bytes, hml, hown, fun w hw => hts w (List.mem_cons_of_mem _ hw), hK, fun q h => Or.inr h, Nat.le_refl _, Nat.le_refl _⟩ ⟨B.returns, B.notSynchronized, rfl⟩
  subst hls
  exact h s.heap [] _ hP hwc.self va_S.rf (has_ent av hle)
theorem wc1 (q : Nat) (e : va_E) : va_D (fun _ => True) [(q, e)] := by
  refine ⟨fun i j p r hp hr _ => ?_, fun _ _ _ => trivial⟩
  have h1 := (List.getElem?_eq_some_iff.mp hp).1
  have h2 := (List.getElem?_eq_some_iff.mp hr).1
  simp at h1 h2
  omega
theorem pc_blind {av : List Value} {sz : Nat} {wc : va_W} : FrameBlind (va_Pc av (fun U => U.heap.size = sz ∧ Kb E U ∧ va_P (eG E) vwCl wc U.heap)) := fun _ _ _ _ h => ⟨h.1, h.2.1, h.2.2.1.call, h.2.2.2⟩
-- what comes behind a call on the world's last cell
theorem b_aft {x : Nat × va_E} {bk : (Nat → Nat) → va_W} {h0 mc ms : Nat} {st0 : List Value} {H : Heap} {locs : List Loc} {la : Array Slot} {a : Array Value} (C : Cb E X d cc own nL) (hP : va_P (eG E) vwCl (ws ++ [x]) H) (hD : va_D (xA X) (ws ++ [x])) (hS : va_S (xA X) (xs X).heap H locs) (hl : hasL la ls)
    (hr : (va_P (eG E) vwCl [x] H) → va_Run (xp X) (xl X) (xe X) (xR X) (xs X) (xm X) (xa X) (xb X) (xh X) (xc X) H locs n o mc ms (F0 (xm X) pc la st0) st (va_Qv (fun a : Nat → Nat => a 0 = h0) (fun a t => va_P (eG E) vwCl (bk a) t.heap ∧ va_D (va_A [x] H.size) (bk a)) (va_A [x] H.size) a) (va_A [x] H.size))
    (kk : ∀ a, a 0 = h0 → Bd E X (ws ++ bk a) (n + mc) (o + ms) (pc + 3) ls st) : W (xp X) (xl X) (xe X) (xR X) (xs X) (xm X) (xa X) (xb X) (xh X) (xc X) H locs n o (xQ X) (F0 (xm X) pc la st0) := by
  have hC : [ws.length].map (fun i => (ws ++ [x])[i]?) = ([x] : va_W).map some := by simp
  have hR : (List.range ws.length).map (fun i => (ws ++ [x])[i]?) = ws.map some := by
    apply List.ext_getElem?
    intro i
    rw [List.getElem?_map, List.getElem?_map]
    by_cases h : i < ws.length
    · rw [List.getElem?_range h]
      simp [List.getElem?_append_left h, List.getElem?_eq_getElem h]
    · rw [List.getElem?_eq_none (by simpa using h), List.getElem?_eq_none (by simpa using h)]
      rfl
  have hPc : va_P (eG E) vwCl [x] H := hP.sub [ws.length] (by simp)
  have hFc := va_free (wc := [x]) hD hS C.2.2.2.2.2.2.1 [ws.length] hC
  refine va_callv (hr hPc) hS (fun q _ h => hFc q h) hFc (fun a t H1 locs1 ht hvm hpost hB hz1 hk1 hS1 => ?_)
  obtain ⟨hP1, hD1⟩ := hB
  rw [ht] at hP1
  obtain ⟨hP', hD'⟩ := va_join (wr := ws) (w1 := bk a) hP hD [ws.length] (List.range ws.length) hC hR (nd_of _ List.nodup_range) (fun i hi hj => by
    rw [List.mem_range] at hi
    rw [List.mem_singleton] at hj
    omega) hk1 hFc hP1 hD1
  exact kk a hpost H1 locs1 la hP' hD' hS1 hl
theorem b_cN {q idx maxL mc ms : Nat} {y : MethodName} {cy : ByteArray} {e : va_E} {bk : (Nat → Nat) → va_W} (C : Cb E X d cc own nL) (hnl : ls.length = nL) (hd : 1 ≤ d) (hM : Ci (xl X) E y cy maxL (d - 1) mc ms [.ref q] [(q, e)] bk q) (hb : CwB y cy maxL none 0) (hy : y.name = "<init>") (hi : Cond.instanceMethod y ∈ tb) (hw : Cond.methodLinkNest own idx y RX9 ∈ nestW) (hc : (st.map fun v => v.category).sum ≤ 8) (hcells : n + mc ≤ (xR X).cells) (hslots : o + ms ≤ (xR X).slots) (hdg : decode cc pc = .ok (.invokespecial idx, 3))
    (kk : ∀ a, a 0 = q → Bd E X (ws ++ bk a) (n + mc) (o + ms) (pc + 3) ls st) : Bd E X (ws ++ [(q, e)]) n o pc ls (.ref q :: st) := by
  intro H locs la hP hD hS hl
  refine b_aft C hP hD hS hl (fun hPc => va_runIN (As := []) (rest := st) (nL := nL) (Ts := tb) ⟨C.1, C.2.1, C.2.2.1, C.2.2.2.1, C.2.2.2.2.1⟩ (hM H.size) ⟨va_cnB 0 C.2.2.2.2.1 (good_code hb.1) rfl rfl rfl (C.2.2.2.2.2.1.2.2 _ hw) (C.2.2.2.2.1 _ hb.2.1) hb.2.2.1 ⟨by have := C.2.2.2.2.2.2.2.1; show d - 1 + 1 ≤ _; omega, by have := C.2.2.2.2.2.2.2.2; have := hb.2.2.2; show 8 + (maxL + 11) + 36 * (d - 1) ≤ _; omega⟩, hy, C.2.2.2.2.1 _ hi⟩ ⟨pc_blind, fun U hU hW => ⟨rfl, by rw [hU], C.2.2.2.2.2.1.warm hW, by rw [hU]; exact hPc⟩⟩ rfl rfl (by rw [← hnl]; exact hl.1) rfl (by show 2 * 0 + _ ≤ 8; omega) hdg ⟨hcells, hslots⟩) kk
theorem b_cI {q idx maxL mc ms : Nat} {y : MethodName} {cy : ByteArray} {e : va_E} {bk : (Nat → Nat) → va_W} (C : Cb E X d cc own nL) (hnl : ls.length = nL) (hd : 1 ≤ d) (hM : Ci (xl X) E y cy maxL (d - 1) mc ms [.ref q] [(q, e)] bk q) (hb : CwB y cy maxL none 0) (hy : y.name = "<init>") (hi : Cond.instanceMethod y ∈ tb) (hw : Cond.methodLink own idx y ∈ tb) (hc : (st.map fun v => v.category).sum ≤ 8) (hcells : n + mc ≤ (xR X).cells) (hslots : o + ms ≤ (xR X).slots) (hdg : decode cc pc = .ok (.invokespecial idx, 3))
    (kk : ∀ a, a 0 = q → Bd E X (ws ++ bk a) (n + mc) (o + ms) (pc + 3) ls st) : Bd E X (ws ++ [(q, e)]) n o pc ls (.ref q :: st) := by
  intro H locs la hP hD hS hl
  refine b_aft C hP hD hS hl (fun hPc => va_runI (As := []) (rest := st) (nL := nL) (Ts := tb) ⟨C.1, C.2.1, C.2.2.1, C.2.2.2.1, C.2.2.2.2.1⟩ (hM H.size) (cwI 0 C.2.2.2.2.1 (good_code hb.1) rfl rfl rfl (C.2.2.2.2.1 _ hb.2.1) (C.2.2.2.2.1 _ hw) (C.2.2.2.2.1 _ hi) hy hb.2.2.1 ⟨by have := C.2.2.2.2.2.2.2.1; show d - 1 + 1 ≤ _; omega, by have := C.2.2.2.2.2.2.2.2; have := hb.2.2.2; show 8 + (maxL + 11) + 36 * (d - 1) ≤ _; omega⟩) ⟨pc_blind, fun U hU hW => ⟨rfl, by rw [hU], C.2.2.2.2.2.1.warm hW, by rw [hU]; exact hPc⟩⟩ rfl rfl (by rw [← hnl]; exact hl.1) rfl (by show 2 * 0 + _ ≤ 8; omega) hdg ⟨hcells, hslots⟩) kk
theorem b_cS {idx maxL mc ms h0 : Nat} {y : MethodName} {cy : ByteArray} {x : Nat × va_E} {As : List Value} {bk : (Nat → Nat) → va_W} {k : Nat} (C : Cb E X d cc own nL) (hnl : ls.length = nL) (hd : 1 ≤ d) (hM : Ci (xl X) E y cy maxL (d - 1) mc ms As [x] bk h0) (hb : CwB y cy maxL none k) (hk : As.length = k) (hi : Cond.static y ∈ tb) (hw : Cond.methodLink own idx y ∈ tb) (hc : (st.map fun v => v.category).sum ≤ 8) (hcells : n + mc ≤ (xR X).cells) (hslots : o + ms ≤ (xR X).slots) (hdg : decode cc pc = .ok (.invokestatic idx, 3))
    (kk : ∀ a, a 0 = h0 → Bd E X (ws ++ bk a) (n + mc) (o + ms) (pc + 3) ls st) : Bd E X (ws ++ [x]) n o pc ls (As.reverse ++ st) := by
  intro H locs la hP hD hS hl
  refine b_aft C hP hD hS hl (fun hPc => va_runS (As := As) (rest := st) (nL := nL) (Ts := tb) ⟨C.1, C.2.1, C.2.2.1, C.2.2.2.1, C.2.2.2.2.1⟩ (hM H.size) ⟨callB_of k C.2.2.2.2.1 (good_code hb.1) rfl rfl rfl (C.2.2.2.2.1 _ hb.2.1) (C.2.2.2.2.1 _ hw) hb.2.2.1 ⟨by have := C.2.2.2.2.2.2.2.1; show d - 1 + 1 ≤ _; omega, by have := C.2.2.2.2.2.2.2.2; have := hb.2.2.2; show 8 + (maxL + 11) + 36 * (d - 1) ≤ _; omega⟩, C.2.2.2.2.1 _ hi⟩ ⟨pc_blind, fun U hU hW => ⟨rfl, by rw [hU], C.2.2.2.2.2.1.warm hW, by rw [hU]; exact hPc⟩⟩ rfl hk (by rw [← hnl]; exact hl.1) rfl (by show 2 * 0 + _ ≤ 8; omega) hdg ⟨hcells, hslots⟩) kk
-- the world in another order
theorem b_perm {ws' : va_W} (is js : List Nat) (h1 : is.filterMap (fun i => ws[i]?) = ws') (h2 : va_nd is = true) (h3 : is.map (fun i => ws[i]?) = ws'.map some) (kk : Bd E X ws' n o pc ls st) : Bd E X ws n o pc ls st :=
  fun H locs la hP hD hS hl => kk H locs la (hP.sub is h1) (hD.sub is h2 h3) hS hl
theorem b_alen {a q0 N : Nat} {f : Nat → Int32} (C : Cb E X d cc own nL) (he : ws[q0]? = some (a, .inl (cA E 20, N, .inl f))) (hdg : decode cc pc = .ok (.arraylength, 1)) (kk : Bd E X ws n o (pc + 1) ls (.int (Int32.ofNat N) :: st)) : Bd E X ws n o pc ls (.ref a :: st) :=
  fun H locs la hP hD hS hl => va_alen C.1 C.2.1 C.2.2.2.2.2.1.1 hP q0 0 he rfl rfl hdg (kk H locs la hP hD hS hl)
-- the same, for a world (this object) :: (the rest)
theorem c_new {CN : String} {T : u_T} {N ci idx : Nat} {ty : Nat → FieldType} {x : Nat × va_E} {rest : va_W} (C : Cb E X d cc own nL) (fs : List Value) (hin : ∀ w ∈ u_ws CN T N, w ∈ tb) (hty : ∀ k, k < N → parseFieldDescriptor (T k).2.2.1 = some (ty k)) (h1 : Cond.classLink own idx CN ∈ tb) (h2 : Cond.instantiable CN N ∈ tb) (h3 : Cond.initialized CN ∈ tb) (hc : vwCl[ci]? = some (CN, T, N)) (hfs : ∀ j, j < N → defaultValue (ty j) = vp_V fs j) (hcells : n + 1 ≤ (xR X).cells) (hslots : o + N ≤ (xR X).slots) (hdg : decode cc pc = .ok (.new idx, 3))
    (kk : ∀ q, Bd E X (x :: (rest ++ [(q, .inr (ci, fs))])) (n + 1) (o + N) (pc + 3) ls (.ref q :: st)) : Bd E X (x :: rest) n o pc ls st := b_new C fs hin hty h1 h2 h3 hc hfs hcells hslots hdg kk
theorem c_newa {atype : ArrayType} {ty : FieldType} {c0 : ClassId} {v : Int32} {N : Nat} {x : Nat × va_E} {rest : va_W} (t0 : Nat) (C : Cb E X d cc own nL) (a0 : vp_A) (hw : Cond.arrayClass (newarray.typeOf atype) ∈ tb) (hty : newarray.typeOf atype = ty) (ht : (tysE E)[t0]? = some (c0, ty)) (ha : ∀ cA : ClassId, vp_cell cA a0 = arrV cA N (fun _ => defaultValue ty)) (hn : ¬ v < 0) (hN : v.toNatClampNeg = N) (hbytes : N * componentBytes ty ≤ 536870912) (hcells : n + 1 ≤ (xR X).cells) (hslots : o + N ≤ (xR X).slots) (hdg : decode cc pc = .ok (.newarray atype, 2))
    (kk : ∀ q, Bd E X (x :: (rest ++ [(q, .inl (c0, a0))])) (n + 1) (o + N) (pc + 2) ls (.ref q :: st)) : Bd E X (x :: rest) n o pc ls (.int v :: st) := b_newa t0 C a0 hw hty ht ha hn hN hbytes hcells hslots hdg kk
theorem c_newq {idx : Nat} {v : Int32} {N : Nat} {x : Nat × va_E} {rest : va_W} (C : Cb E X d cc own nL) (h1 : Cond.classLink own idx RX7 ∈ tb) (hn : ¬ v < 0) (hN : v.toNatClampNeg = N) (hbytes : N * 4 ≤ 536870912) (hcells : n + 1 ≤ (xR X).cells) (hslots : o + N ≤ (xR X).slots) (hdg : decode cc pc = .ok (.anewarray idx, 3))
    (kk : ∀ q, Bd E X (x :: (rest ++ [(q, .inl (cA E 24, N, .inr (.inr (.inr (.inr (fun _ => none))))))])) (n + 1) (o + N) (pc + 3) ls (.ref q :: st)) : Bd E X (x :: rest) n o pc ls (.int v :: st) := b_newq C h1 hn hN hbytes hcells hslots hdg kk
theorem c_putF {a ci k idx N : Nat} {T : u_T} {CN : String} {fs : List Value} {v : Value} {ty0 : Nat → FieldType} {ty : FieldType} {rest : va_W} (C : Cb E X d cc own nL) (hm : (xh X).name = "<init>") (hc : vwCl[ci]? = some (CN, T, N)) (hin : ∀ w ∈ u_ws CN T N, w ∈ tb) (hty : ∀ k, k < N → parseFieldDescriptor (T k).2.2.1 = some (ty0 k)) (hnm : ∀ a, a < N → ∀ b, b < N → a ≠ b → (T a).2.1 ≠ (T b).2.1) (hkN : k < N) (hl : Cond.fieldLink own idx (T k).1 (T k).2.1 (T k).2.2.1 ∈ tb) (hfin : (T k).2.2.2 = true) (hdecl : (T k).1 = own) (hd : parseFieldDescriptor (T k).2.2.1 = some ty) (hn : narrow ty v = v) (hfit : fits ty v = true) (hL : fs.length = N) (hdg : decode cc pc = .ok (.putfield idx, 3))
    (kk : (fs.set k v).length = N → Bd E X ((a, .inr (ci, fs.set k v)) :: rest) n o (pc + 3) ls st) : Bd E X ((a, .inr (ci, fs)) :: rest) n o pc ls (v :: .ref a :: st) := b_putF (q0 := 0) C hm rfl hc hin hty hnm hkN hl hfin hdecl hd hn hfit (by omega) hdg (kk (by rw [List.length_set]; exact hL))
theorem c_put {a ci k idx N : Nat} {T : u_T} {CN : String} {fs : List Value} {v : Value} {ty0 : Nat → FieldType} {ty : FieldType} {rest : va_W} (C : Cb E X d cc own nL) (hc : vwCl[ci]? = some (CN, T, N)) (hin : ∀ w ∈ u_ws CN T N, w ∈ tb) (hty : ∀ k, k < N → parseFieldDescriptor (T k).2.2.1 = some (ty0 k)) (hnm : ∀ a, a < N → ∀ b, b < N → a ≠ b → (T a).2.1 ≠ (T b).2.1) (hkN : k < N) (hl : Cond.fieldLink own idx (T k).1 (T k).2.1 (T k).2.2.1 ∈ tb) (hfin : (T k).2.2.2 = false) (hd : parseFieldDescriptor (T k).2.2.1 = some ty) (hn : narrow ty v = v) (hfit : fits ty v = true) (hL : fs.length = N) (hdg : decode cc pc = .ok (.putfield idx, 3))
    (kk : (fs.set k v).length = N → Bd E X ((a, .inr (ci, fs.set k v)) :: rest) n o (pc + 3) ls st) : Bd E X ((a, .inr (ci, fs)) :: rest) n o pc ls (v :: .ref a :: st) := b_put (q0 := 0) C rfl hc hin hty hnm hkN hl hfin hd hn hfit (by omega) hdg (kk (by rw [List.length_set]; exact hL))
theorem c_putFE {fs' : List Value} {a ci k idx N : Nat} {T : u_T} {CN : String} {fs : List Value} {v : Value} {ty0 : Nat → FieldType} {ty : FieldType} {rest : va_W} (C : Cb E X d cc own nL) (hm : (xh X).name = "<init>") (hc : vwCl[ci]? = some (CN, T, N)) (hin : ∀ w ∈ u_ws CN T N, w ∈ tb) (hty : ∀ k, k < N → parseFieldDescriptor (T k).2.2.1 = some (ty0 k)) (hnm : ∀ a, a < N → ∀ b, b < N → a ≠ b → (T a).2.1 ≠ (T b).2.1) (hkN : k < N) (hl : Cond.fieldLink own idx (T k).1 (T k).2.1 (T k).2.2.1 ∈ tb) (hfin : (T k).2.2.2 = true) (hdecl : (T k).1 = own) (hd : parseFieldDescriptor (T k).2.2.1 = some ty) (hn : narrow ty v = v) (hfit : fits ty v = true) (hL : fs.length = N) (hfs : fs.set k v = fs') (hdg : decode cc pc = .ok (.putfield idx, 3))
    (kk : Bd E X ((a, .inr (ci, fs')) :: rest) n o (pc + 3) ls st) : Bd E X ((a, .inr (ci, fs)) :: rest) n o pc ls (v :: .ref a :: st) := by
  subst hfs
  exact b_putF (q0 := 0) C hm rfl hc hin hty hnm hkN hl hfin hdecl hd hn hfit (by omega) hdg kk
theorem c_putE {fs' : List Value} {a ci k idx N : Nat} {T : u_T} {CN : String} {fs : List Value} {v : Value} {ty0 : Nat → FieldType} {ty : FieldType} {rest : va_W} (C : Cb E X d cc own nL) (hc : vwCl[ci]? = some (CN, T, N)) (hin : ∀ w ∈ u_ws CN T N, w ∈ tb) (hty : ∀ k, k < N → parseFieldDescriptor (T k).2.2.1 = some (ty0 k)) (hnm : ∀ a, a < N → ∀ b, b < N → a ≠ b → (T a).2.1 ≠ (T b).2.1) (hkN : k < N) (hl : Cond.fieldLink own idx (T k).1 (T k).2.1 (T k).2.2.1 ∈ tb) (hfin : (T k).2.2.2 = false) (hd : parseFieldDescriptor (T k).2.2.1 = some ty) (hn : narrow ty v = v) (hfit : fits ty v = true) (hL : fs.length = N) (hfs : fs.set k v = fs') (hdg : decode cc pc = .ok (.putfield idx, 3))
    (kk : Bd E X ((a, .inr (ci, fs')) :: rest) n o (pc + 3) ls st) : Bd E X ((a, .inr (ci, fs)) :: rest) n o pc ls (v :: .ref a :: st) := by
  subst hfs
  exact b_put (q0 := 0) C rfl hc hin hty hnm hkN hl hfin hd hn hfit (by omega) hdg kk
theorem c_get {a ci k idx N : Nat} {T : u_T} {CN : String} {fs : List Value} {v : Value} {rest : va_W} (C : Cb E X d cc own nL) (hc : vwCl[ci]? = some (CN, T, N)) (hin : ∀ w ∈ u_ws CN T N, w ∈ tb) (hkN : k < N) (hl : Cond.fieldLink own idx (T k).1 (T k).2.1 (T k).2.2.1 ∈ tb) (hv : fs[k]? = some v) (hdg : decode cc pc = .ok (.getfield idx, 3))
    (kk : Bd E X ((a, .inr (ci, fs)) :: rest) n o (pc + 3) ls (v :: st)) : Bd E X ((a, .inr (ci, fs)) :: rest) n o pc ls (.ref a :: st) := b_get (q0 := 0) C rfl hc hin hkN hl hv hdg kk
theorem c_iast {a N : Nat} {f : Nat → Int32} {i v : Int32} {x : Nat × va_E} {rest : va_W} (C : Cb E X d cc own nL) (hi : vp_in i N) (hdg : decode cc pc = .ok (.iastore, 1))
    (kk : Bd E X (x :: (rest ++ [(a, .inl (cA E 20, N, .inl (upd f i.toNatClampNeg v)))])) n o (pc + 1) ls st) : Bd E X (x :: (rest ++ [(a, .inl (cA E 20, N, .inl f))])) n o pc ls (.int v :: .int i :: .ref a :: st) := by
  refine b_iast (q0 := rest.length + 1) (f := f) (N := N) C (by simp) hi hdg ?_
  have e : (x :: (rest ++ [(a, (.inl (cA E 20, N, .inl f) : va_E))])).set (rest.length + 1) (a, .inl (cA E 20, N, .inl (upd f i.toNatClampNeg v))) = x :: (rest ++ [(a, .inl (cA E 20, N, .inl (upd f i.toNatClampNeg v)))]) := by simp
  rw [e]; exact kk
theorem c_cN {q idx maxL mc ms : Nat} {y : MethodName} {cy : ByteArray} {e : va_E} {bk : (Nat → Nat) → va_W} {x : Nat × va_E} {rest : va_W} (C : Cb E X d cc own nL) (hnl : ls.length = nL) (hd : 1 ≤ d) (hM : Ci (xl X) E y cy maxL (d - 1) mc ms [.ref q] [(q, e)] bk q) (hb : CwB y cy maxL none 0) (hy : y.name = "<init>") (hi : Cond.instanceMethod y ∈ tb) (hw : Cond.methodLinkNest own idx y RX9 ∈ nestW) (hc : (st.map fun v => v.category).sum ≤ 8) (hcells : n + mc ≤ (xR X).cells) (hslots : o + ms ≤ (xR X).slots) (hdg : decode cc pc = .ok (.invokespecial idx, 3))
    (kk : ∀ a, a 0 = q → Bd E X (x :: (rest ++ bk a)) (n + mc) (o + ms) (pc + 3) ls st) : Bd E X (x :: (rest ++ [(q, e)])) n o pc ls (.ref q :: st) := b_cN (ws := x :: rest) C hnl hd hM hb hy hi hw hc hcells hslots hdg kk
theorem c_cI {q idx maxL mc ms : Nat} {y : MethodName} {cy : ByteArray} {e : va_E} {bk : (Nat → Nat) → va_W} {x : Nat × va_E} {rest : va_W} (C : Cb E X d cc own nL) (hnl : ls.length = nL) (hd : 1 ≤ d) (hM : Ci (xl X) E y cy maxL (d - 1) mc ms [.ref q] [(q, e)] bk q) (hb : CwB y cy maxL none 0) (hy : y.name = "<init>") (hi : Cond.instanceMethod y ∈ tb) (hw : Cond.methodLink own idx y ∈ tb) (hc : (st.map fun v => v.category).sum ≤ 8) (hcells : n + mc ≤ (xR X).cells) (hslots : o + ms ≤ (xR X).slots) (hdg : decode cc pc = .ok (.invokespecial idx, 3))
    (kk : ∀ a, a 0 = q → Bd E X (x :: (rest ++ bk a)) (n + mc) (o + ms) (pc + 3) ls st) : Bd E X (x :: (rest ++ [(q, e)])) n o pc ls (.ref q :: st) := b_cI (ws := x :: rest) C hnl hd hM hb hy hi hw hc hcells hslots hdg kk
theorem c_cS {idx maxL mc ms h0 : Nat} {y : MethodName} {cy : ByteArray} {z : Nat × va_E} {As : List Value} {bk : (Nat → Nat) → va_W} {k : Nat} {x : Nat × va_E} {rest : va_W} (C : Cb E X d cc own nL) (hnl : ls.length = nL) (hd : 1 ≤ d) (hM : Ci (xl X) E y cy maxL (d - 1) mc ms As [z] bk h0) (hb : CwB y cy maxL none k) (hk : As.length = k) (hi : Cond.static y ∈ tb) (hw : Cond.methodLink own idx y ∈ tb) (hc : (st.map fun v => v.category).sum ≤ 8) (hcells : n + mc ≤ (xR X).cells) (hslots : o + ms ≤ (xR X).slots) (hdg : decode cc pc = .ok (.invokestatic idx, 3))
    (kk : ∀ a, a 0 = h0 → Bd E X (x :: (rest ++ bk a)) (n + mc) (o + ms) (pc + 3) ls st) : Bd E X (x :: (rest ++ [z])) n o pc ls (As.reverse ++ st) := b_cS (ws := x :: rest) C hnl hd hM hb hk hi hw hc hcells hslots hdg kk
def dfs (ty : Nat → FieldType) (N : Nat) : List Value := (List.range N).map (fun j => defaultValue (ty j))
theorem dfs_ok (ty : Nat → FieldType) (N : Nat) : ∀ j, j < N → defaultValue (ty j) = vp_V (dfs ty N) j := by
  intro j hj
  unfold vp_V dfs
  simp [hj]
theorem c_ii {i : Nat} {z : Int} {x v : Int32} (C : Cb E X d cc own nL) (hx : x + Int32.ofInt z = v) (hv : ls[i]? = some (some (.int x))) (hp : ∀ j, j + 1 = i → ∀ w, ls[j]? = some (some w) → ¬ w.category = 2) (hdg : decode cc pc = .ok (.iinc i z, 3)) (kk : Bd E X ws n o (pc + 3) (ls.set i (some (.int v))) st) : Bd E X ws n o pc ls st := by
  subst hx; exact b_ii C hv hp hdg kk
end Build2
