/-! The pure memory, the cells of the two systems, the judgement At over the kit's W, and a row an instruction. Written by wip/whole/mk03.py. -/
abbrev Mem : Type := (Nat → Nat → Int32) × (Nat → Nat → Int64)
abbrev tn (i : Int32) : Nat := i.toNatClampNeg
def pI (M : Mem) (c k : Nat) (v : Int32) : Mem := (fun a => if a = c then upd (M.1 a) k v else M.1 a, M.2)
def pL (M : Mem) (c k : Nat) (v : Int64) : Mem := (M.1, fun a => if a = c then vp_updL (M.2 a) k v else M.2 a)
def pC (M : Mem) (c0 c1 sp dp n : Nat) : Mem := (fun a => if a = c1 then va_cpy (M.1 c0) (M.1 c1) sp dp n else M.1 a, M.2)
def ib (i : Int32) (n : Nat) : Bool := !decide (i < 0) && decide (i.toNatClampNeg < n)
def isB (x : Int32) : Bool := decide (x = 0) || decide (x = 1)
def irm (x y : Int32) : Int32 := x - x / y * y
def ck {α : Type} (b : Bool) (x : Option α) : Option α := match b with
  | true => x
  | false => none
def bV {β : Type} (x : Option Mem) (f : Mem → Option β) : Option β := match x with
  | some M => f M
  | none => none
def bI {β : Type} (x : Option (Int32 × Mem)) (f : Int32 → Mem → Option β) : Option β := match x with
  | some r => f r.1 r.2
  | none => none
def bL {β : Type} (x : Option (Int64 × Mem)) (f : Int64 → Mem → Option β) : Option β := match x with
  | some r => f r.1 r.2
  | none => none
def bS {β : Type} (x : Option (Nat × Mem)) (f : Nat → Mem → Option β) : Option β := match x with
  | some r => f r.1 r.2
  | none => none
def LF : Nat := 100000
theorem ck_e {α : Type} {b : Bool} {x : Option α} {r : α} (h : ck b x = some r) : b = true ∧ x = some r := by
  cases b with
  | true => exact ⟨rfl, h⟩
  | false => cases h
theorem bV_e {β : Type} {x : Option Mem} {f : Mem → Option β} {r : β} (h : bV x f = some r) : ∃ M, x = some M ∧ f M = some r := by
  cases x with
  | some M => exact ⟨M, rfl, h⟩
  | none => cases h
theorem bI_e {β : Type} {x : Option (Int32 × Mem)} {f : Int32 → Mem → Option β} {r : β} (h : bI x f = some r) : ∃ v M, x = some (v, M) ∧ f v M = some r := by
  cases x with
  | some q => exact ⟨q.1, q.2, rfl, h⟩
  | none => cases h
theorem bL_e {β : Type} {x : Option (Int64 × Mem)} {f : Int64 → Mem → Option β} {r : β} (h : bL x f = some r) : ∃ v M, x = some (v, M) ∧ f v M = some r := by
  cases x with
  | some q => exact ⟨q.1, q.2, rfl, h⟩
  | none => cases h
theorem bS_e {β : Type} {x : Option (Nat × Mem)} {f : Nat → Mem → Option β} {r : β} (h : bS x f = some r) : ∃ v M, x = some (v, M) ∧ f v M = some r := by
  cases x with
  | some q => exact ⟨q.1, q.2, rfl, h⟩
  | none => cases h
theorem ib_in {i : Int32} {n : Nat} (h : ib i n = true) : vp_in i n := by
  simp only [ib, Bool.and_eq_true, Bool.not_eq_true', decide_eq_false_iff_not, decide_eq_true_eq] at h
  intro q
  rcases q with q | q
  · exact h.1 q
  · omega
theorem if_e {α : Type} {c : Prop} [Decidable c] {a b : Option α} {r : α} (h : (if c then a else b) = some r) : (c ∧ a = some r) ∨ (¬ c ∧ b = some r) := by
  by_cases hc : c
  · exact Or.inl ⟨hc, by rw [if_pos hc] at h; exact h⟩
  · exact Or.inr ⟨hc, by rw [if_neg hc] at h; exact h⟩

def kds : List (Nat × Nat) := [(9, 0), (3, 0), (21, 800), (7, 0), (20, 6), (20, 6), (20, 40), (20, 120), (20, 40), (7, 0), (20, 6), (20, 6), (20, 40), (20, 120), (20, 40), (24, 3), (7, 0), (20, 6), (20, 6), (20, 40), (20, 120), (20, 40), (7, 0), (20, 6), (20, 6), (20, 40), (20, 120), (20, 40), (7, 0), (20, 6), (20, 6), (20, 40), (20, 120), (20, 40), (22, 3), (4, 0), (20, 201), (20, 1608), (20, 8), (8, 0), (20, 2160), (1, 0), (6, 0), (20, 6), (20, 80), (20, 80), (20, 80), (20, 16), (20, 6), (2, 0), (20, 8), (20, 8), (20, 8), (20, 8), (20, 8), (0, 0), (20, 48), (20, 3), (1, 0), (6, 0), (20, 6), (20, 80), (20, 80), (20, 80), (20, 16), (20, 6), (2, 0), (20, 8), (20, 8), (20, 8), (20, 8), (20, 8), (0, 0), (20, 48), (20, 3), (20, 30), (5, 0), (20, 4), (20, 4), (23, 240), (10, 0), (20, 215), (20, 645), (22, 3), (21, 800), (20, 5), (20, 215), (20, 1608), (20, 201), (20, 240), (20, 240), (20, 240), (20, 6), (20, 80), (20, 80), (20, 80), (20, 16), (20, 8), (20, 8), (20, 8), (20, 8), (20, 8), (20, 48), (20, 6), (20, 6), (20, 3), (20, 240), (20, 240), (20, 240), (20, 240), (20, 240), (20, 240), (20, 8), (20, 30), (20, 4), (20, 4), (23, 240)]
def kd (c : Nat) : Nat × Nat := kds.getD c (99, 0)
def NC : Nat := 117
def fds (ci : Nat) : List Nat := match ci with
  | 0 => [3, 0, 4, 0, 0]
  | 1 => [3, 10, 16, 0, 1, 0, 0, 0, 0]
  | 2 => [3, 4, 5, 6, 7]
  | 3 => [3, 0, 0, 0, 0, 0, 0, 0]
  | 4 => [3, 4, 5, 0, 0]
  | 5 => [3, 4, 5]
  | 6 => [0, 0, 0, 0, 0, 3, 4, 5, 6, 7, 0, 0, 0, 8, 0, 0, 0, 0, 0]
  | 7 => [3, 4, 5, 6, 7, 0, 0, 0, 0]
  | 8 => [3, 0, 0]
  | 9 => [3, 5, 11, 17, 36, 37, 41, 43, 60, 77, 78]
  | _ => [0, 3, 4, 5, 6, 0, 7, 0, 0, 0, 0, 0, 0, 0, 8, 9, 10, 11, 12, 13, 0, 0, 0, 0, 14, 0, 0, 15, 16, 17, 18, 19, 20, 21, 22, 23, 24, 0, 0, 0, 0, 1, 25, 26, 0, 0, 0, 0, 0, 0, 0, 27, 0, 0, 0, 0, 28, 29, 30, 31, 32, 33, 34, 35, 36, 37, 38]
abbrev En : Type := va_G × (Nat → Nat) × (Nat → ClassId) × (Nat → Nat) × (Nat → Nat) × (Nat → Nat)
abbrev eG (E : En) : va_G := E.1
abbrev ad (E : En) : Nat → Nat := E.2.1
abbrev cA (E : En) : Nat → ClassId := E.2.2.1
abbrev aK (E : En) : Nat → Nat := E.2.2.2.1
abbrev aV (E : En) : Nat → Nat := E.2.2.2.2.1
abbrev aS (E : En) : Nat → Nat := E.2.2.2.2.2
def fv (E : En) (M : Mem) (c t k : Nat) : Value := match t with
  | 0 => .int (M.1 c k)
  | 1 => .long (M.2 c k)
  | n + 2 => .ref (ad E (c + n))
def fl (E : En) (M : Mem) (c ci : Nat) : List Value := (List.range (fds ci).length).map (fun k => fv E M c ((fds ci).getD k 0) k)
def ce (E : En) (M : Mem) (c : Nat) : va_E :=
  if (kd c).1 = 20 then .inl (cA E 20, (kd c).2, .inl (M.1 c)) else
  if (kd c).1 = 21 then .inl (cA E 21, (kd c).2, .inl (M.1 c)) else
  if (kd c).1 = 22 then .inl (cA E 22, (kd c).2, .inl (M.1 c)) else
  if (kd c).1 = 23 then .inl (cA E 23, (kd c).2, .inr (.inl (M.2 c))) else
  if (kd c).1 = 24 then .inl (cA E 24, (kd c).2, .inr (.inr (.inr (.inr (fun i => some (ad E (c + 1 + 6 * i))))))) else
  .inr ((kd c).1, fl E M c (kd c).1)
def wl (E : En) (M : Mem) : va_W := (List.range NC).map (fun c => (ad E c, ce E M c))
theorem ce_20 {E : En} {M : Mem} {c n : Nat} (h : kd c = (20, n)) : ce E M c = .inl (cA E 20, n, .inl (M.1 c)) := by simp [ce, h]
theorem ce_21 {E : En} {M : Mem} {c n : Nat} (h : kd c = (21, n)) : ce E M c = .inl (cA E 21, n, .inl (M.1 c)) := by simp [ce, h]
theorem ce_22 {E : En} {M : Mem} {c n : Nat} (h : kd c = (22, n)) : ce E M c = .inl (cA E 22, n, .inl (M.1 c)) := by simp [ce, h]
theorem ce_23 {E : En} {M : Mem} {c n : Nat} (h : kd c = (23, n)) : ce E M c = .inl (cA E 23, n, .inr (.inl (M.2 c))) := by simp [ce, h]
theorem ce_24 {E : En} {M : Mem} {c n : Nat} (h : kd c = (24, n)) : ce E M c = .inl (cA E 24, n, .inr (.inr (.inr (.inr (fun i => some (ad E (c + 1 + 6 * i))))))) := by simp [ce, h]
theorem ce_ob {E : En} {M : Mem} {c ci : Nat} (h : kd c = (ci, 0)) (hl : ci < 11) : ce E M c = .inr (ci, fl E M c ci) := by
  simp only [ce, h]
  rw [if_neg (by omega), if_neg (by omega), if_neg (by omega), if_neg (by omega), if_neg (by omega)]
theorem kd_lt {c a b : Nat} (h : kd c = (a, b)) (ha : a ≠ 99) : c < NC := by
  by_cases hc : c < NC
  · exact hc
  · exfalso
    apply ha
    have : kds.length ≤ c := by
      have h1 : kds.length = NC := by decide +kernel
      omega
    simp only [kd, List.getD_eq_getElem?_getD, List.getElem?_eq_none this] at h
    simp at h
    exact h.1.symm
theorem wl_at {E : En} {M : Mem} {c : Nat} (h : c < NC) : (wl E M)[c]? = some (ad E c, ce E M c) := by
  simp [wl, List.getElem?_map, List.getElem?_range h]
theorem ce_cg {E : En} {M M' : Mem} {a : Nat} (h1 : M'.1 a = M.1 a) (h2 : M'.2 a = M.2 a) : ce E M' a = ce E M a := by
  have hf : ∀ ci, fl E M' a ci = fl E M a ci := by
    intro ci
    simp only [fl]
    apply List.map_congr_left
    intro k _
    unfold fv
    split
    · rw [h1]
    · rw [h2]
    · rfl
  simp only [ce, h1, h2, hf]
theorem wl_set {E : En} {M M' : Mem} {c : Nat} {x : va_E} (hc : c < NC) (ho : ∀ a, a ≠ c → M'.1 a = M.1 a ∧ M'.2 a = M.2 a) (hx : ce E M' c = x) : (wl E M).set c (ad E c, x) = wl E M' := by
  apply List.ext_getElem?
  intro i
  rw [List.getElem?_set]
  by_cases hi : c = i
  · subst hi
    rw [if_pos rfl, if_pos (by simp [wl]; exact hc), wl_at hc, hx]
  · rw [if_neg hi]
    by_cases h : i < NC
    · rw [wl_at h, wl_at h, ce_cg (ho i (fun e => hi e.symm)).1 (ho i (fun e => hi e.symm)).2]
    · rw [List.getElem?_eq_none (by simp [wl]; omega), List.getElem?_eq_none (by simp [wl]; omega)]
theorem pI_o {M : Mem} {c k : Nat} {v : Int32} : ∀ a, a ≠ c → (pI M c k v).1 a = M.1 a ∧ (pI M c k v).2 a = M.2 a := fun a h => ⟨by simp [pI, h], rfl⟩
theorem pL_o {M : Mem} {c k : Nat} {v : Int64} : ∀ a, a ≠ c → (pL M c k v).1 a = M.1 a ∧ (pL M c k v).2 a = M.2 a := fun a h => ⟨rfl, by simp [pL, h]⟩
theorem pC_o {M : Mem} {c0 c1 x y z : Nat} : ∀ a, a ≠ c1 → (pC M c0 c1 x y z).1 a = M.1 a ∧ (pC M c0 c1 x y z).2 a = M.2 a := fun a h => ⟨by simp [pC, h], rfl⟩
theorem pI_s {M : Mem} {c k : Nat} {v : Int32} : (pI M c k v).1 c = upd (M.1 c) k v := by simp [pI]
theorem pL_s {M : Mem} {c k : Nat} {v : Int64} : (pL M c k v).2 c = vp_updL (M.2 c) k v := by simp [pL]
theorem pC_s {M : Mem} {c0 c1 x y z : Nat} : (pC M c0 c1 x y z).1 c1 = va_cpy (M.1 c0) (M.1 c1) x y z := by simp [pC]
theorem fl_at {E : En} {M : Mem} {c ci k t : Nat} (hk : (fds ci)[k]? = some t) : (fl E M c ci)[k]? = some (fv E M c t k) := by
  have h := (List.getElem?_eq_some_iff.mp hk).1
  simp [fl, List.getElem?_map, List.getElem?_range h, hk]
theorem fl_len {E : En} {M : Mem} {c ci : Nat} : (fl E M c ci).length = (fds ci).length := by simp [fl]
theorem fl_setI {E : En} {M : Mem} {c ci k : Nat} {v : Int32} (hk : (fds ci)[k]? = some 0) : (fl E M c ci).set k (.int v) = fl E (pI M c k v) c ci := by
  have hkl := (List.getElem?_eq_some_iff.mp hk).1
  apply List.ext_getElem?
  intro i
  rw [List.getElem?_set]
  by_cases hi : k = i
  · subst hi
    rw [if_pos rfl, if_pos (by rw [fl_len]; exact hkl), fl_at hk]
    simp [fv, pI, upd]
  · rw [if_neg hi]
    cases h : (fds ci)[i]? with
    | some t =>
      rw [fl_at h, fl_at h]
      unfold fv
      split
      · simp [pI, upd]; intro e; exact absurd e.symm hi
      · rfl
      · rfl
    | none =>
      have := List.getElem?_eq_none_iff.mp h
      rw [List.getElem?_eq_none (by rw [fl_len]; exact this), List.getElem?_eq_none (by rw [fl_len]; exact this)]
theorem fl_setL {E : En} {M : Mem} {c ci k : Nat} {v : Int64} (hk : (fds ci)[k]? = some 1) : (fl E M c ci).set k (.long v) = fl E (pL M c k v) c ci := by
  have hkl := (List.getElem?_eq_some_iff.mp hk).1
  apply List.ext_getElem?
  intro i
  rw [List.getElem?_set]
  by_cases hi : k = i
  · subst hi
    rw [if_pos rfl, if_pos (by rw [fl_len]; exact hkl), fl_at hk]
    simp [fv, pL, vp_updL]
  · rw [if_neg hi]
    cases h : (fds ci)[i]? with
    | some t =>
      rw [fl_at h, fl_at h]
      unfold fv
      split
      · rfl
      · simp [pL, vp_updL]; intro e; exact absurd e.symm hi
      · rfl
    | none =>
      have := List.getElem?_eq_none_iff.mp h
      rw [List.getElem?_eq_none (by rw [fl_len]; exact this), List.getElem?_eq_none (by rw [fl_len]; exact this)]
def Okk (E : En) (A : Nat → Prop) : Prop := (∀ i j : Nat, i < NC → j < NC → ad E i = ad E j → i = j) ∧ ∀ c : Nat, c < NC → A (ad E c)
theorem Okk.D {E : En} {A : Nat → Prop} (h : Okk E A) (M : Mem) : va_D A (wl E M) := by
  have hh : ∀ (i : Nat) (q : Nat × va_E), (wl E M)[i]? = some q → i < NC ∧ q.1 = ad E i := by
    intro i q hq
    have hi : i < NC := by
      have := (List.getElem?_eq_some_iff.mp hq).1
      simpa [wl] using this
    rw [wl_at hi] at hq
    exact ⟨hi, by rw [← Option.some.inj hq]⟩
  refine ⟨fun i j p q hp hq e => ?_, fun k q hq => ?_⟩
  · obtain ⟨a1, a2⟩ := hh i p hp
    obtain ⟨b1, b2⟩ := hh j q hq
    exact h.1 i j a1 b1 (by rw [← a2, ← b2]; exact e)
  · obtain ⟨a1, a2⟩ := hh k q hq
    rw [a2]; exact h.2 k a1

