/-! What holds at the law's start gives an environment: by program (wip/whole/mk84.py). -/
def PS : List Nat := [85, 27, 38, 46, 53, 60, 68, 76, 93, 100, 107, 115, 123, 130, 138, 147, 155, 162, 168, 176, 182, 188, 195, 201, 206, 284, 292, 300, 309, 318, 326, 335, 345, 354, 362, 369, 210, 222, 231, 239, 247, 256, 265, 275]
def PT : List Nat := [618, 539, 603, 604, 605, 606, 607, 608, 634, 635, 636, 637, 638, 639, 640, 641, 642, 643, 644, 648, 649, 650, 651, 652, 653, 1544, 1545, 1546, 1547, 1548, 1549, 1550, 1551, 1552, 1553, 1554, 1499, 1514, 1523, 1524, 1525, 1526, 1527, 1528]
def PN : List Nat := [120, 155, 212, 240, 260, 266, 346, 373, 609, 611, 617, 715, 773, 776, 784, 793, 834, 845, 1168]
abbrev gn1 : Cond := Cond.and given_1 narrow_1
def tS (i : Nat) : Term := .string (strR.getD i ("", 0, "")).1 (strR.getD i ("", 0, "")).2.1
def tV (i : Nat) : Term := .field (tS i) "java/lang/String" "value" "[B"
theorem fl_s : ∀ i, i < 44 → ((flatC gn1)[PS.getD i 0]? = some (.exactly (tS i) "java/lang/String") ∧ (flatC gn1)[PS.getD i 0 + 1]? = some (.eq (.field (tS i) "java/lang/String" "coder" "B") (.int 0)) ∧ (flatC gn1)[PS.getD i 0 + 2]? = some (.arrayOf (tV i) .byte) ∧ (flatC gn1)[PS.getD i 0 + 3]? = some (.eq (.length (tV i)) (.int (Int32.ofNat (sl i)))) ∧ ∀ j, j < sl i → (flatC gn1)[PS.getD i 0 + 4 + j]? = some (.eq (.elem (tV i) (.int (Int32.ofNat j))) (.int (sc i j)))) := by decide +kernel
theorem fl_t : ∀ i, i < 44 → lw_tbl[PT.getD i 0]? = some (.stringRef (strR.getD i ("", 0, "")).1 (strR.getD i ("", 0, "")).2.1 (strR.getD i ("", 0, "")).2.2) := by decide +kernel
theorem fl_n : ∀ i, i < 19 → lw_tbl[PN.getD i 0]? = nestW[i]? := by decide +kernel
theorem l_cs : (.laysStatic "java/lang/String" "COMPACT_STRINGS" "Z" : Cond) ∈ lw_tbl := List.mem_of_getElem? (i := 557) (by decide +kernel)
theorem l_si : (.laysStatic "jdk/internal/util/Preconditions" "SIOOBE_FORMATTER" "Ljava/util/function/BiFunction;" : Cond) ∈ lw_tbl := List.mem_of_getElem? (i := 573) (by decide +kernel)
theorem l_hl : (.laysStatic "BranchGuess" "HEAD_LEAST" "[I" : Cond) ∈ lw_tbl := List.mem_of_getElem? (i := 610) (by decide +kernel)
theorem l_hm : (.laysStatic "BranchGuess" "HEAD_MOST" "[I" : Cond) ∈ lw_tbl := List.mem_of_getElem? (i := 612) (by decide +kernel)
theorem l_is : (.initialized "java/lang/String" : Cond) ∈ lw_tbl := List.mem_of_getElem? (i := 105) (by decide +kernel)
theorem l_ip : (.initialized "jdk/internal/util/Preconditions" : Cond) ∈ lw_tbl := List.mem_of_getElem? (i := 107) (by decide +kernel)
theorem l_ib : (.initialized "BranchGuess" : Cond) ∈ lw_tbl := List.mem_of_getElem? (i := 92) (by decide +kernel)
theorem l_aint : (.arrayClass .int : Cond) ∈ lw_tbl := List.mem_of_getElem? (i := 208) (by decide +kernel)
theorem l_abyte : (.arrayClass .byte : Cond) ∈ lw_tbl := List.mem_of_getElem? (i := 152) (by decide +kernel)
theorem l_aboolean : (.arrayClass .boolean : Cond) ∈ lw_tbl := List.mem_of_getElem? (i := 237) (by decide +kernel)
theorem l_along : (.arrayClass .long : Cond) ∈ lw_tbl := List.mem_of_getElem? (i := 454) (by decide +kernel)
theorem l_ao : (.arrayOver (.object RX7) : Cond) ∈ lw_tbl := List.mem_of_getElem? (i := 209) (by decide +kernel)
theorem l_in0 : (.instantiable RX0 5 : Cond) ∈ lw_tbl := List.mem_of_getElem? (i := 372) (by decide +kernel)
theorem l_in1 : (.instantiable RX1 9 : Cond) ∈ lw_tbl := List.mem_of_getElem? (i := 259) (by decide +kernel)
theorem l_in2 : (.instantiable RX2 5 : Cond) ∈ lw_tbl := List.mem_of_getElem? (i := 345) (by decide +kernel)
theorem l_in3 : (.instantiable RX3 8 : Cond) ∈ lw_tbl := List.mem_of_getElem? (i := 119) (by decide +kernel)
theorem l_in4 : (.instantiable RX4 5 : Cond) ∈ lw_tbl := List.mem_of_getElem? (i := 211) (by decide +kernel)
theorem l_in5 : (.instantiable RX5 3 : Cond) ∈ lw_tbl := List.mem_of_getElem? (i := 435) (by decide +kernel)
theorem l_in6 : (.instantiable RX6 19 : Cond) ∈ lw_tbl := List.mem_of_getElem? (i := 265) (by decide +kernel)
theorem l_in7 : (.instantiable RX7 9 : Cond) ∈ lw_tbl := List.mem_of_getElem? (i := 154) (by decide +kernel)
theorem l_in8 : (.instantiable RX8 3 : Cond) ∈ lw_tbl := List.mem_of_getElem? (i := 239) (by decide +kernel)
theorem l_in9 : (.instantiable RX9 11 : Cond) ∈ lw_tbl := List.mem_of_getElem? (i := 111) (by decide +kernel)
theorem l_in10 : (.instantiable RX10 67 : Cond) ∈ lw_tbl := List.mem_of_getElem? (i := 1239) (by decide +kernel)
theorem f_cs : (.eq (.static "java/lang/String" "COMPACT_STRINGS" "Z") (.int 1) : Cond) ∈ flatC gn1 := List.mem_of_getElem? (i := 4) (by decide +kernel)
theorem f_si : (.isRef (.static "jdk/internal/util/Preconditions" "SIOOBE_FORMATTER" "Ljava/util/function/BiFunction;") : Cond) ∈ flatC gn1 := List.mem_of_getElem? (i := 5) (by decide +kernel)
theorem f_al : (.arrayOf (.static "BranchGuess" "HEAD_LEAST" "[I") .int : Cond) ∈ flatC gn1 := List.mem_of_getElem? (i := 10) (by decide +kernel)
theorem f_nl : (.eq (.length (.static "BranchGuess" "HEAD_LEAST" "[I")) (.int (Int32.ofNat 6)) : Cond) ∈ flatC gn1 := List.mem_of_getElem? (i := 11) (by decide +kernel)
theorem f_el : ∀ j, j < 6 → (flatC gn1)[12 + j]? = some (.eq (.elem (.static "BranchGuess" "HEAD_LEAST" "[I") (.int (Int32.ofNat j))) (.int (hdL.getD j 0))) := by decide +kernel
theorem f_am : (.arrayOf (.static "BranchGuess" "HEAD_MOST" "[I") .int : Cond) ∈ flatC gn1 := List.mem_of_getElem? (i := 19) (by decide +kernel)
theorem f_nm : (.eq (.length (.static "BranchGuess" "HEAD_MOST" "[I")) (.int (Int32.ofNat 6)) : Cond) ∈ flatC gn1 := List.mem_of_getElem? (i := 20) (by decide +kernel)
theorem f_em : ∀ j, j < 6 → (flatC gn1)[21 + j]? = some (.eq (.elem (.static "BranchGuess" "HEAD_MOST" "[I") (.int (Int32.ofNat j))) (.int (hdM.getD j 0))) := by decide +kernel
theorem of_fld {args : Array Value} {s : State} {t : Term} {o n d : String} {a : Nat} {v : Value} {A : Nat → Prop} (ht : t.eval args s none [] s = some (.ref a)) (hv : (Term.field t o n d).eval args s none [] s = some v) (hA : ∀ a : Nat, a < s.heap.size → ¬ A a) : va_OF o n d v a A s s.heap := by
  cases hfo : s.fieldFound? o n d with
  | none =>
    rw [va_fe ht] at hv
    simp [State.fieldOf?, State.fieldNamed?, hfo] at hv
  | some x =>
    obtain ⟨cf, k, fi, f⟩ := x
    obtain ⟨g1, cell, g2, g3, -, -, g6⟩ := Term.field_spec hfo ht hv
    exact ⟨cf, k, fi, f, cell, hfo, g1, g2, g3, g6, hA _ (Array.getElem?_eq_some_iff.mp g2).1⟩
theorem arr_k {s : State} {args : Array Value} {ty : FieldType} (h : (Cond.arrayClass ty).before args s = true) : ∃ c : ClassId, ArrOfT s c ty ∧ s.vm.findClass ("[" ++ ty.toString) = some c := by
  obtain ⟨c, k, comp, h1, h2, h3⟩ := Cond.arrayClass_spec (args := args) (first := s) (o := none) (s := s) (idx := []) h
  exact ⟨c, fun N z => ⟨fun k h => (by cases h), k, h2, comp, h3⟩, h1⟩
theorem env {s : State} {b : Addr} (hts : ∀ w ∈ lw_tbl, w.before #[Value.ref b] s = true) (hgv : gn1.before #[Value.ref b] s = true) : ∃ E : En, Sg E (fun q => s.heap.size ≤ q) s ∧ Kb E s := by
  have hA : ∀ a : Nat, a < s.heap.size → ¬ s.heap.size ≤ a := fun a h => by omega
  have hs := flat_of_before _ hgv
  have htb : ∀ w ∈ tb, w.before #[Value.ref b] s = true := fun w hw => hts w (List.mem_filter.mp hw).1
  -- strings
  have st : ∀ i : Nat, ∃ q : Nat × Nat, i < 44 → (tS i).eval #[Value.ref b] s none [] s = some (.ref q.1) ∧ va_O "java/lang/String" q.1 (fun q => s.heap.size ≤ q) s s.heap ∧ va_OF "java/lang/String" "coder" "B" (.int 0) q.1 (fun q => s.heap.size ≤ q) s s.heap ∧ va_OF "java/lang/String" "value" "[B" (.ref q.2) q.1 (fun q => s.heap.size ≤ q) s s.heap ∧ va_T .byte q.2 (sl i) (fun j => .int (sc i j)) (fun q => s.heap.size ≤ q) s s.heap := by
    intro i
    by_cases hi : i < 44
    · obtain ⟨h1, h2, h3, h4, h5⟩ := fl_s i hi
      have hex := hs _ (List.mem_of_getElem? h1)
      obtain ⟨a, c, cell, k, q1, -⟩ := Cond.exactly_spec (args := #[Value.ref b]) (first := s) (o := none) (s := s) (idx := []) (t := tS i) (cls := "java/lang/String") hex
      have e4 : sl i < 2 ^ 31 := Nat.lt_of_le_of_lt ((by decide +kernel : ∀ i, i < 44 → sl i ≤ 10) i hi) (by decide)
      obtain ⟨t, t1, t2⟩ := va_Tof (A := fun q => s.heap.size ≤ q) (f := fun j => .int (sc i j)) e4 (hs _ (List.mem_of_getElem? h3)) (va_eqt (hs _ (List.mem_of_getElem? h4))) (fun j hj => va_eqt (hs _ (List.mem_of_getElem? (h5 j hj)))) hA
      exact ⟨(a, t), fun _ => ⟨q1, va_Oof hex q1 hA, of_fld q1 (va_eqt (hs _ (List.mem_of_getElem? h2))) hA, of_fld q1 t1 hA, t2⟩⟩
    · exact ⟨(0, 0), fun h => absurd h hi⟩
  obtain ⟨aq, haq⟩ := Classical.axiomOfChoice st
  -- statics
  obtain ⟨tl, l1, l2⟩ := va_Tof (A := fun q => s.heap.size ≤ q) (N := 6) (f := fun j => .int (hdL.getD j 0)) (by decide) (hs _ f_al) (va_eqt (hs _ f_nl)) (fun j hj => va_eqt (hs _ (List.mem_of_getElem? (f_el j hj)))) hA
  obtain ⟨tm, m1, m2⟩ := va_Tof (A := fun q => s.heap.size ≤ q) (N := 6) (f := fun j => .int (hdM.getD j 0)) (by decide) (hs _ f_am) (va_eqt (hs _ f_nm)) (fun j hj => va_eqt (hs _ (List.mem_of_getElem? (f_em j hj)))) hA
  -- classes
  obtain ⟨c0, i0, k0⟩ := u_known (T := TX0) (N := 5) htb uX0 (hts _ l_in0)
  obtain ⟨c1, i1, k1⟩ := u_known (T := TX1) (N := 9) htb uX1 (hts _ l_in1)
  obtain ⟨c2, i2, k2⟩ := u_known (T := TX2) (N := 5) htb uX2 (hts _ l_in2)
  obtain ⟨c3, i3, k3⟩ := u_known (T := TX3) (N := 8) htb uX3 (hts _ l_in3)
  obtain ⟨c4, i4, k4⟩ := u_known (T := TX4) (N := 5) htb uX4 (hts _ l_in4)
  obtain ⟨c5, i5, k5⟩ := u_known (T := TX5) (N := 3) htb uX5 (hts _ l_in5)
  obtain ⟨c6, i6, k6⟩ := u_known (T := TX6) (N := 19) htb uX6 (hts _ l_in6)
  obtain ⟨c7, i7, k7⟩ := u_known (T := TX7) (N := 9) htb uX7 (hts _ l_in7)
  obtain ⟨c8, i8, k8⟩ := u_known (T := TX8) (N := 3) htb uX8 (hts _ l_in8)
  obtain ⟨c9, i9, k9⟩ := u_known (T := TX9) (N := 11) htb uX9 (hts _ l_in9)
  obtain ⟨c10, i10, k10⟩ := u_known (T := TX10) (N := 67) htb uX10 (hts _ l_in10)
  obtain ⟨cI, aI, fI⟩ := arr_k (hts _ l_aint)
  obtain ⟨cB, aB, fB⟩ := arr_k (hts _ l_abyte)
  obtain ⟨cZ, aZ, fZ⟩ := arr_k (hts _ l_aboolean)
  obtain ⟨cJ, aJ, fJ⟩ := arr_k (hts _ l_along)
  obtain ⟨comp, cT, kT, o1, -, o3, o4, o5⟩ := Cond.arrayOver_spec (args := #[Value.ref b]) (first := s) (o := none) (s := s) (idx := []) (hts _ l_ao)
  have hK : va_K ((fun c => if c = 0 then c0 else if c = 1 then c1 else if c = 2 then c2 else if c = 3 then c3 else if c = 4 then c4 else if c = 5 then c5 else if c = 6 then c6 else if c = 7 then c7 else if c = 8 then c8 else if c = 9 then c9 else c10, fun c => if c = 0 then i0 else if c = 1 then i1 else if c = 2 then i2 else if c = 3 then i3 else if c = 4 then i4 else if c = 5 then i5 else if c = 6 then i6 else if c = 7 then i7 else if c = 8 then i8 else if c = 9 then i9 else i10) : va_G) vwCl [(cI, .int), (cB, .byte), (cZ, .boolean), (cJ, .long), (cT, .object RX7)] s := by
    refine ⟨fun c q hq => ?_, fun k q hq => ?_⟩
    · match c, hq with
      | 0, hq => cases hq; exact k0
      | 1, hq => cases hq; exact k1
      | 2, hq => cases hq; exact k2
      | 3, hq => cases hq; exact k3
      | 4, hq => cases hq; exact k4
      | 5, hq => cases hq; exact k5
      | 6, hq => cases hq; exact k6
      | 7, hq => cases hq; exact k7
      | 8, hq => cases hq; exact k8
      | 9, hq => cases hq; exact k9
      | 10, hq => cases hq; exact k10
      | n + 11, hq => cases hq
    · match k, hq with
      | 0, hq => cases hq; exact ⟨aI, fI⟩
      | 1, hq => cases hq; exact ⟨aB, fB⟩
      | 2, hq => cases hq; exact ⟨aZ, fZ⟩
      | 3, hq => cases hq; exact ⟨aJ, fJ⟩
      | 4, hq => cases hq; exact ⟨fun N z => ⟨fun k h => (by cases h), kT, o3, comp, o4⟩, kT, comp, o3, o4, o1, o5⟩
      | n + 5, hq => cases hq
  have hN : SgN s := by
    intro w hw
    obtain ⟨i, hi⟩ := List.getElem?_of_mem hw
    have h19 : i < 19 := (List.getElem?_eq_some_iff.mp hi).1
    exact va_Nw.of (nest_same w hw) (hts w (List.mem_of_getElem? ((fl_n i h19).trans hi)))
  refine ⟨((fun c => if c = 0 then c0 else if c = 1 then c1 else if c = 2 then c2 else if c = 3 then c3 else if c = 4 then c4 else if c = 5 then c5 else if c = 6 then c6 else if c = 7 then c7 else if c = 8 then c8 else if c = 9 then c9 else c10, fun c => if c = 0 then i0 else if c = 1 then i1 else if c = 2 then i2 else if c = 3 then i3 else if c = 4 then i4 else if c = 5 then i5 else if c = 6 then i6 else if c = 7 then i7 else if c = 8 then i8 else if c = 9 then i9 else i10), fun _ => 0, fun k => if k = 20 then cI else if k = 21 then cB else if k = 22 then cZ else if k = 23 then cJ else cT, fun i => (aq i).1, fun i => (aq i).2, fun k => if k = 0 then tl else tm), ⟨hK, fun i hi => ?_, fun i q hq => ?_, hN, ?_⟩, hK, hts _ l_ao, hN⟩
  · obtain ⟨-, a, b, c, d⟩ := haq i hi
    exact ⟨a, b, c, d⟩
  · have h44 : i < 44 := (List.getElem?_eq_some_iff.mp hq).1
    have e : strR.getD i ("", 0, "") = q := by rw [List.getD_eq_getElem?_getD, hq]; rfl
    have h1 := hts _ (List.mem_of_getElem? (fl_t i h44))
    have h2 := (haq i h44).1
    unfold tS at h2
    rw [e] at h1 h2
    exact vk_R.of h1 h2
  · exact ⟨va_Zof (hts _ l_cs) (hts _ l_is) (va_eqi (hs _ f_cs)) hA, va_Zqof (hts _ l_si) (hts _ l_ip) (hs _ f_si) hA, va_Zof (hts _ l_hl) (hts _ l_ib) l1 hA, l2, va_Zof (hts _ l_hm) (hts _ l_ib) m1 hA, m2⟩
