/-! The judgement At (a place in a method, over the pure memory), contracts Ct, and a row an instruction. Written by wip/whole/mk04.py. -/
def tb : List Cond := lw_tbl.filter goodWord
theorem tb_in {w : Cond} (h : w ∈ lw_tbl) (g : goodWord w = true) : w ∈ tb := List.mem_filter.mpr ⟨h, g⟩
theorem tb_good : GoodIn tb tb := fun w h => ⟨h, good_of_word (List.mem_filter.mp h).2⟩
def nestW : List Cond := [.methodLinkNest RX9 11 yX3_init RX9, .methodLinkNest RX9 18 yX7_init RX9, .methodLinkNest RX9 36 yX4_init RX9, .methodLinkNest RX9 43 yX8_init RX9, .methodLinkNest RX9 50 yX1_init RX9, .methodLinkNest RX1 11 yX6_init RX9, .methodLinkNest RX1 20 yX2_init RX9, .methodLinkNest RX1 27 yX0_init RX9, .fieldLinkNest RX3 79 "BranchGuess" "HEAD_LEAST" "[I" RX9, .fieldLinkNest RX3 82 "BranchGuess" "HEAD_MOST" "[I" RX9, .methodLinkNest RX3 126 yX9_within RX9, .methodLinkNest RX7 52 yX9_within RX9, .methodLinkNest RX6 76 yX9_folded RX9, .methodLinkNest RX6 80 yX9_lowest RX9, .methodLinkNest RX6 102 yX9_within RX9, .methodLinkNest RX0 31 yX9_folded RX9, .methodLinkNest RX0 48 yX9_bounded RX9, .methodLinkNest RX6 116 yX9_bounded RX9, .methodLinkNest RX5 39 yX9_within RX9]
def strs : List (List Int32) := [[115, 112, 97, 110], [103, 117, 101, 115, 115, 101, 114], [114, 111, 119, 115], [116, 97, 103], [97, 103, 101], [99, 111, 115, 116], [100, 101, 101, 112], [112, 97, 114, 116, 115], [112, 117, 116], [97, 100, 100], [116, 97, 107, 101], [99, 111, 112, 121], [115, 117, 109], [108, 101, 115, 115], [98, 101, 108, 111, 119], [115, 97, 109, 101], [111, 100, 100], [103, 111], [115, 116, 111, 112], [82, 78], [82, 82], [82, 82, 76], [82, 76], [76], [], [112, 117, 116], [97, 100, 100], [116, 97, 107, 101], [99, 111, 112, 121], [115, 117, 109], [108, 101, 115, 115], [98, 101, 108, 111, 119], [115, 97, 109, 101], [111, 100, 100], [103, 111], [115, 116, 111, 112], [103, 117, 101, 115, 115, 101, 114], [114, 111, 119, 115], [116, 97, 103], [97, 103, 101], [99, 111, 115, 116], [100, 101, 101, 112], [112, 97, 114, 116, 115], [115, 112, 97, 110]]
def sl (j : Nat) : Nat := (strs.getD j []).length
def sc (j k : Nat) : Int32 := (strs.getD j []).getD k 0
def NS : Nat := 44
def strR : List (String × Nat × String) := [(RX3, 49, "span"), (RX3, 65, "guesser"), (RX3, 149, "rows"), (RX3, 151, "tag"), (RX3, 153, "age"), (RX3, 155, "cost"), (RX3, 157, "deep"), (RX3, 159, "parts"), (RX3, 161, "put"), (RX3, 163, "add"), (RX3, 165, "take"), (RX3, 167, "copy"), (RX3, 169, "sum"), (RX3, 171, "less"), (RX3, 173, "below"), (RX3, 175, "same"), (RX3, 177, "odd"), (RX3, 179, "go"), (RX3, 181, "stop"), (RX3, 183, "RN"), (RX3, 185, "RR"), (RX3, 187, "RRL"), (RX3, 189, "RL"), (RX3, 191, "L"), (RX3, 193, ""), (RX10, 147, "put"), (RX10, 149, "add"), (RX10, 151, "take"), (RX10, 153, "copy"), (RX10, 155, "sum"), (RX10, 157, "less"), (RX10, 159, "below"), (RX10, 161, "same"), (RX10, 163, "odd"), (RX10, 165, "go"), (RX10, 167, "stop"), (RX10, 234, "guesser"), (RX10, 236, "rows"), (RX10, 242, "tag"), (RX10, 244, "age"), (RX10, 246, "cost"), (RX10, 248, "deep"), (RX10, 250, "parts"), (RX10, 265, "span")]
def hdL : List Int32 := [1, 2, 1, 0, 0, 0]
def hdM : List Int32 := [4, 6, 9, 20, 9, 7]
def tysE (E : En) : List (ClassId × FieldType) := [(cA E 20, .int), (cA E 21, .byte), (cA E 22, .boolean), (cA E 23, .long), (cA E 24, .object RX7)]
def SgS (E : En) (A : Nat → Prop) (U : State) : Prop := ∀ i : Nat, i < NS → va_O "java/lang/String" (aK E i) A U U.heap ∧ va_OF "java/lang/String" "coder" "B" (.int 0) (aK E i) A U U.heap ∧ va_OF "java/lang/String" "value" "[B" (.ref (aV E i)) (aK E i) A U U.heap ∧ va_T .byte (aV E i) (sl i) (fun j => .int (sc i j)) A U U.heap
def SgR (E : En) (U : State) : Prop := ∀ (i : Nat) (q : String × Nat × String), strR[i]? = some q → vk_R q.1 q.2.1 q.2.2 (aK E i) U
def SgN (U : State) : Prop := ∀ w ∈ nestW, va_Nw w U
def SgZ (E : En) (A : Nat → Prop) (U : State) : Prop := va_Z "java/lang/String" "COMPACT_STRINGS" "Z" (.int 1) A U U.heap ∧ va_Zq "jdk/internal/util/Preconditions" "SIOOBE_FORMATTER" "Ljava/util/function/BiFunction;" A U U.heap ∧
  va_Z "BranchGuess" "HEAD_LEAST" "[I" (.ref (aS E 0)) A U U.heap ∧ va_T .int (aS E 0) 6 (fun j => .int (hdL.getD j 0)) A U U.heap ∧
  va_Z "BranchGuess" "HEAD_MOST" "[I" (.ref (aS E 1)) A U U.heap ∧ va_T .int (aS E 1) 6 (fun j => .int (hdM.getD j 0)) A U U.heap
def Sg (E : En) (A : Nat → Prop) (U : State) : Prop := va_K (eG E) vwCl (tysE E) U ∧ SgS E A U ∧ SgR E U ∧ SgN U ∧ SgZ E A U
theorem nest_warm : ∀ w ∈ nestW, ∀ {s U : State}, s.WarmedH U.vm → va_Nw w s → va_Nw w U := by
  intro w hw s U hW h
  simp only [nestW, List.mem_cons, List.not_mem_nil, or_false] at hw
  rcases hw with rfl | rfl | rfl | rfl | rfl | rfl | rfl | rfl | rfl | rfl | rfl | rfl | rfl | rfl | rfl | rfl | rfl | rfl | rfl <;> first | exact va_Nw.warmM hW h | exact va_Nw.warmF hW h
theorem nest_same : ∀ w ∈ nestW, w.onTables = true := by decide +kernel
theorem Sg.warm {E : En} {A : Nat → Prop} {s U : State} (h : Sg E A s) (hW : s.WarmedH U.vm) (hq : ∀ a : Nat, a < s.heap.size → ¬ A a → U.heap[a]? = s.heap[a]?) : Sg E A U := by
  obtain ⟨hK, hS, hR, hN, z1, z2, z3, z4, z5, z6⟩ := h
  have ha := hW.alike
  refine ⟨va_K.moved ha hK, fun i hi => ?_, fun i q hi => vk_R.warm hW (hR i q hi), fun w hw => nest_warm w hw hW (hN w hw), (z1.moved ha).kept hq, (z2.moved ha).kept hq, (z3.moved ha).kept hq, (z4.moved ha).kept hq, (z5.moved ha).kept hq, (z6.moved ha).kept hq⟩
  obtain ⟨a1, a2, a3, a4⟩ := hS i hi
  exact ⟨(a1.moved ha).kept hq, (a2.moved ha).kept hq, (a3.moved ha).kept hq, (a4.moved ha).kept hq⟩
theorem Sg.call {E : En} {A : Nat → Prop} {U : State} {g : JFrame} {mk : MethodId} {a : Array Value} (h : Sg E A U) : Sg E A (U.calling g mk a) := by
  obtain ⟨hK, hS, hR, hN, z1, z2, z3, z4, z5, z6⟩ := h
  have ha : U.vm.Alike (U.calling g mk a).vm := Vm.Alike.refl U.vm
  have hq : ∀ b : Nat, b < U.heap.size → ¬ A b → (U.calling g mk a).heap[b]? = U.heap[b]? := fun _ _ _ => rfl
  refine ⟨va_K.moved ha hK, fun i hi => ?_, fun i q hi => vk_R.same (u := U) (U := U.calling g mk a) rfl (hR i q hi), fun w hw => va_Nw.same (u := U) (U := U.calling g mk a) (nest_same w hw) rfl (hN w hw), (z1.moved ha).kept hq, (z2.moved ha).kept hq, (z3.moved ha).kept hq, (z4.moved ha).kept hq, (z5.moved ha).kept hq, (z6.moved ha).kept hq⟩
  obtain ⟨a1, a2, a3, a4⟩ := hS i hi
  exact ⟨(a1.moved ha).kept hq, (a2.moved ha).kept hq, (a3.moved ha).kept hq, (a4.moved ha).kept hq⟩
abbrev Xc : Type := Program × Launch × Env × Room × State × MethodId × Array Value × List Frame × Method × Code × (State → Prop) × (Nat → Prop) × Nat × Nat
abbrev xp (X : Xc) : Program := X.1
abbrev xl (X : Xc) : Launch := X.2.1
abbrev xe (X : Xc) : Env := X.2.2.1
abbrev xR (X : Xc) : Room := X.2.2.2.1
abbrev xs (X : Xc) : State := X.2.2.2.2.1
abbrev xm (X : Xc) : MethodId := X.2.2.2.2.2.1
abbrev xa (X : Xc) : Array Value := X.2.2.2.2.2.2.1
abbrev xb (X : Xc) : List Frame := X.2.2.2.2.2.2.2.1
abbrev xh (X : Xc) : Method := X.2.2.2.2.2.2.2.2.1
abbrev xc (X : Xc) : Code := X.2.2.2.2.2.2.2.2.2.1
abbrev xQ (X : Xc) : State → Prop := X.2.2.2.2.2.2.2.2.2.2.1
abbrev xA (X : Xc) : Nat → Prop := X.2.2.2.2.2.2.2.2.2.2.2.1
abbrev xn (X : Xc) : Nat := X.2.2.2.2.2.2.2.2.2.2.2.2.1
abbrev xo (X : Xc) : Nat := X.2.2.2.2.2.2.2.2.2.2.2.2.2
abbrev xW (X : Xc) (H : Heap) (locs : List Loc) (g : JFrame) : Prop := W (xp X) (xl X) (xe X) (xR X) (xs X) (xm X) (xa X) (xb X) (xh X) (xc X) H locs (xn X) (xo X) (xQ X) g
def hasL (la : Array Slot) (ls : List (Option Value)) : Prop := la.size = ls.length ∧ lv_wf la ∧ ∀ (i : Nat) (v : Value), ls[i]? = some (some v) → la[i]? = some (.val v)
def At (E : En) (X : Xc) (pc : Nat) (ls : List (Option Value)) (st : List Value) (M : Mem) : Prop :=
  ∀ (H : Heap) (locs : List Loc) (la : Array Slot), va_P (eG E) vwCl (wl E M) H → va_S (xA X) (xs X).heap H locs → hasL la ls → xW X H locs (F0 (xm X) pc la st)
def Cx (E : En) (X : Xc) (d : Nat) (cc : ByteArray) (own : String) (nL : Nat) : Prop :=
  (xp X).tables.exec = Jvm.exec ∧ (xc X).code = cc ∧ (xc X).maxLocals = nL ∧ (xs X).vm.findClass own = some (xm X).cls ∧ (∀ w ∈ tb, w.before (xa X) (xs X) = true) ∧ Sg E (xA X) (xs X) ∧ Okk E (xA X) ∧ d ≤ (xR X).frames ∧ 36 * d ≤ (xR X).locals ∧ xn X ≤ (xR X).cells ∧ xo X ≤ (xR X).slots
def Qc (E : En) (A : Nat → Prop) (v : Option Value) (M' : Mem) : Array Value → State → Outcome → State → Prop := fun _ st o t => o = .returned v ∧ va_P (eG E) vwCl (wl E M') t.heap ∧ va_F A st t
def Pc (E : En) (A : Nat → Prop) (av : List Value) (M : Mem) : Array Value → State → Prop := va_Pc av (fun U => Sg E A U ∧ va_P (eG E) vwCl (wl E M) U.heap)
def rmd (d : Nat) : Room := { frames := d, cells := 0, slots := 0, locals := 36 * d }
def Ct (l : Launch) (E : En) (A : Nat → Prop) (d : Nat) (y : MethodName) (cc : ByteArray) (maxL : Nat) (ret : Option FieldType) (av : List Value) (M : Mem) (v : Option Value) (M' : Mem) : Prop :=
  Met l y (Cond.code y cc maxL ret :: tb) (rmd d) (Pc E A av M) (Qc E A v M') 0 0 A
def Rt (E : En) (X : Xc) (ret : Option FieldType) (v : Option Value) (M' : Mem) : Prop := (xh X).sig.returnType = ret ∧ (xh X).locks = false ∧ xQ X = MQ (xb X) (Qc E (xA X) v M') (xa X) (xs X) (xn X) (xo X) (xA X)
theorem Pc.blind {E : En} {A : Nat → Prop} {av : List Value} {M : Mem} : FrameBlind (Pc E A av M) := fun _ _ _ _ h => ⟨h.1, h.2.1.call, h.2.2⟩
-- locals
def ents : List Value → List (Option Value)
  | [] => []
  | v :: vs => if v.category = 2 then some v :: none :: ents vs else some v :: ents vs
def ent (av : List Value) (n : Nat) : List (Option Value) := ents av ++ List.replicate (n - (ents av).length) none
theorem ents_len (av : List Value) : (ents av).length = (lg_sl av).length := by
  induction av with
  | nil => rfl
  | cons v vs ih =>
    simp only [ents, lg_sl, List.flatMap_cons] at ih ⊢
    by_cases h : v.category = 2
    · simp [h, ih]
    · simp [h, ih]
theorem ents_at (av : List Value) : ∀ (j i : Nat) (v : Value), (ents av)[i]? = some (some v) → (j + i, v) ∈ lv_args j av := by
  induction av with
  | nil => intro j i v h; simp [ents] at h
  | cons w vs ih =>
    intro j i v h
    simp only [ents] at h
    by_cases hc : w.category = 2
    · rw [if_pos hc] at h
      match i, h with
      | 0, h => simp at h; subst h; simp [lv_args]
      | 1, h => simp at h
      | i + 2, h =>
        simp at h
        have := ih (j + 2) i v h
        simp only [lv_args, if_pos hc]
        rw [show j + (i + 2) = j + 2 + i by omega]
        exact List.mem_cons_of_mem _ this
    · rw [if_neg hc] at h
      match i, h with
      | 0, h => simp at h; subst h; simp [lv_args]
      | i + 1, h =>
        simp at h
        have := ih (j + 1) i v h
        simp only [lv_args, if_neg hc]
        rw [show j + (i + 1) = j + 1 + i by omega]
        exact List.mem_cons_of_mem _ this
theorem has_ent (av : List Value) {n : Nat} (h : (ents av).length ≤ n) : hasL ((lg_sl av ++ List.replicate (n - (lg_sl av).length) Slot.unset).toArray) (ent av n) := by
  have hl := lv_entry av (n := n) (by rw [← ents_len]; exact h)
  refine ⟨?_, hl.2.1, fun i v hv => ?_⟩
  · rw [hl.1]; simp [ent]; omega
  · have : (ents av)[i]? = some (some v) := by
      unfold ent at hv
      rw [List.getElem?_append] at hv
      split at hv
      · exact hv
      · rw [List.getElem?_replicate] at hv
        split at hv <;> simp at hv
    have h2 := ents_at av 0 i v this
    rw [Nat.zero_add] at h2
    exact hl.2.2 (i, v) h2
def prs (ls : List (Option Value)) : List (Nat × Value) := ls.zipIdx.filterMap (fun q => q.1.map (fun v => (q.2, v)))
theorem prs_mem {ls : List (Option Value)} {i : Nat} {v : Value} : (i, v) ∈ prs ls ↔ ls[i]? = some (some v) := by
  simp only [prs, List.mem_filterMap]
  constructor
  · rintro ⟨⟨a, b⟩, h1, h2⟩
    cases a with
    | none => simp at h2
    | some w =>
      simp at h2
      obtain ⟨e1, e2⟩ := h2
      subst e1; subst e2
      have := List.mem_zipIdx_iff_getElem?.mp h1
      exact this
  · intro h
    exact ⟨(some v, i), List.mem_zipIdx_iff_getElem?.mpr h, by simp⟩
theorem has_lv {la : Array Slot} {ls : List (Option Value)} (h : hasL la ls) : lv_has la ls.length (prs ls) := ⟨h.1, h.2.1, fun q hq => h.2.2 q.1 q.2 (prs_mem.mp hq)⟩
def nl : Option Value → Bool
  | some v => !(v.category == 2)
  | none => true
theorem has_st {la la' : Array Slot} {ls : List (Option Value)} {i : Nat} {v : Value} (_h : hasL la ls) (hi : i < ls.length) (hp : ∀ j, j + 1 = i → ∀ w, ls[j]? = some (some w) → ¬ w.category = 2)
    (h' : lv_has la' ls.length ((i, v) :: (prs ls).filter (fun q => !(q.1 == i) && !(q.1 + 1 == i && q.2.category == 2)))) : hasL la' (ls.set i (some v)) := by
  refine ⟨by rw [h'.1]; simp, h'.2.1, fun j w hj => ?_⟩
  rw [List.getElem?_set] at hj
  by_cases e : i = j
  · subst e
    rw [if_pos rfl, if_pos hi] at hj
    simp at hj; subst hj
    exact h'.2.2 (i, v) List.mem_cons_self
  · rw [if_neg e] at hj
    refine h'.2.2 (j, w) (List.mem_cons_of_mem _ (List.mem_filter.mpr ⟨prs_mem.mpr hj, ?_⟩))
    have e' : ¬ j = i := fun x => e x.symm
    simp [e']
    by_cases hji : j + 1 = i
    · exact Or.inr (hp j hji w hj)
    · exact Or.inl hji
theorem has_stL {la la' : Array Slot} {ls : List (Option Value)} {i : Nat} {v : Value} (_h : hasL la ls) (hi : i + 1 < ls.length) (hp : ∀ j, j + 1 = i → ∀ w, ls[j]? = some (some w) → ¬ w.category = 2)
    (h' : lv_has la' ls.length ((i, v) :: (prs ls).filter (fun q => !(q.1 == i) && (!(q.1 == i + 1) && !(q.1 + 1 == i && q.2.category == 2))))) : hasL la' ((ls.set i (some v)).set (i + 1) none) := by
  refine ⟨by rw [h'.1]; simp, h'.2.1, fun j w hj => ?_⟩
  rw [List.getElem?_set] at hj
  by_cases e1 : i + 1 = j
  · rw [if_pos e1] at hj
    split at hj <;> simp at hj
  rw [if_neg e1, List.getElem?_set] at hj
  by_cases e : i = j
  · subst e
    rw [if_pos rfl, if_pos (by omega)] at hj
    simp at hj; subst hj
    exact h'.2.2 (i, v) List.mem_cons_self
  · rw [if_neg e] at hj
    refine h'.2.2 (j, w) (List.mem_cons_of_mem _ (List.mem_filter.mpr ⟨prs_mem.mpr hj, ?_⟩))
    have e' : ¬ j = i := fun x => e x.symm
    have e2 : ¬ j = i + 1 := fun x => e1 x.symm
    simp [e', e2]
    by_cases hji : j + 1 = i
    · exact Or.inr (hp j hji w hj)
    · exact Or.inl hji
theorem has_fg {la : Array Slot} {ls : List (Option Value)} {i : Nat} (h : hasL la ls) : hasL la (ls.set i none) := by
  refine ⟨by rw [h.1]; simp, h.2.1, fun j w hj => ?_⟩
  rw [List.getElem?_set] at hj
  split at hj
  · split at hj <;> simp at hj
  · exact h.2.2 j w hj

