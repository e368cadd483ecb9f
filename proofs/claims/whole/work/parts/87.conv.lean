/-! What the constructors built is the world of the memory M0: by program (wip/whole/mk87.py). -/
def adj (E : En) (a a' : Nat → Nat) : En := (E.1, fun c => if c < 80 then a c else a' (c - 80), E.2.2)
theorem vp_q {c : ClassId} {N : Nat} {f g : Nat → Option Nat} (h : ∀ j, j < N → f j = g j) : vp_cell c (N, .inr (.inr (.inr (.inr f)))) = vp_cell c (N, .inr (.inr (.inr (.inr g)))) := by
  rw [vp_cell_q, vp_cell_q]
  unfold arrV
  congr 2
  funext j
  show va_rf (f j.val) = va_rf (g j.val)
  rw [h j.val j.isLt]
def Rl (E : En) (H : Heap) (c : Nat) (q : Nat × va_E) : Prop := q.1 = ad E c ∧ (va_at (eG E) vwCl q H → va_at (eG E) vwCl (ad E c, ce E M0 c) H)
def Al (E : En) (H : Heap) (i : Nat) (ws : va_W) : Prop := ∀ k q, ws[k]? = some q → Rl E H (i + k) q
section Al
variable {E : En} {H : Heap}
theorem Al.nil {i : Nat} : Al E H i [] := fun k q h => by cases h
theorem Al.cons {i : Nat} {x : Nat × va_E} {ws : va_W} (h : Rl E H i x) (t : Al E H (i + 1) ws) : Al E H i (x :: ws) := by
  intro k q hq
  cases k with
  | zero => cases hq; exact h
  | succ k =>
    have := t k q hq
    rw [show i + (k + 1) = i + 1 + k by omega]; exact this
theorem Al.app {i j : Nat} {A B : va_W} (hj : i + A.length = j) (h : Al E H i A) (t : Al E H j B) : Al E H i (A ++ B) := by
  intro k q hq
  by_cases hk : k < A.length
  · rw [List.getElem?_append_left hk] at hq; exact h k q hq
  · rw [List.getElem?_append_right (by omega)] at hq
    have := t (k - A.length) q hq
    rw [show j + (k - A.length) = i + k by omega] at this
    exact this
theorem Rl.of {c a : Nat} {e : va_E} (h1 : a = ad E c) (h2 : e = ce E M0 c) : Rl E H c (a, e) := by
  subst h1; subst h2; exact ⟨rfl, fun h => h⟩
end Al
theorem lX0 {E : En} {a : Nat → Nat} : (bX0 E a).length = 3 := rfl
theorem lX2 {E : En} {a : Nat → Nat} : (bX2 E a).length = 6 := rfl
theorem lX3 {E : En} {a : Nat → Nat} : (bX3 E a).length = 2 := rfl
theorem lX4 {E : En} {a : Nat → Nat} : (bX4 E a).length = 4 := rfl
theorem lX5 {E : En} {a : Nat → Nat} : (bX5 E a).length = 4 := rfl
theorem lX6 {E : En} {a : Nat → Nat} : (bX6 E a).length = 7 := rfl
theorem lX7 {E : En} {a : Nat → Nat} : (bX7 E a).length = 6 := rfl
theorem lX8 {E : En} {a : Nat → Nat} : (bX8 E a).length = 2 := rfl
theorem lX1 {E : En} {a : Nat → Nat} : (bX1 E a).length = 17 := by
  unfold bX1
  simp only [List.length_append, List.length_cons, List.length_nil, lX0, lX2, lX6]
theorem lX9 {E : En} {a : Nat → Nat} : (bX9 E a).length = 80 := by
  unfold bX9
  simp only [List.length_append, List.length_cons, List.length_nil, lX0, lX1, lX2, lX3, lX4, lX5, lX6, lX7, lX8]
theorem lX10 {E : En} {a : Nat → Nat} : (bX10 E a).length = 37 := rfl
theorem al_76 {E : En} {H : Heap} {a a' : Nat → Nat} : Al (adj E a a') H 76 (bX5 E (fun i => a (76 + i))) := by
  unfold bX5
  refine Al.cons (i := 76) (Rl.of rfl rfl) ?_
  refine Al.app (j := 79) (by simp only [List.length_append, List.length_cons, List.length_nil, lX0, lX1, lX2, lX3, lX4, lX5, lX6, lX7, lX8]) ?_ ?_
  rotate_left
  · exact Al.cons (i := 79) (Rl.of rfl rfl) Al.nil
  refine Al.app (j := 78) (by simp only [List.length_append, List.length_cons, List.length_nil, lX0, lX1, lX2, lX3, lX4, lX5, lX6, lX7, lX8]) ?_ ?_
  rotate_left
  · exact Al.cons (i := 78) (Rl.of rfl rfl) Al.nil
  refine Al.app (j := 77) (by simp only [List.length_append, List.length_cons, List.length_nil, lX0, lX1, lX2, lX3, lX4, lX5, lX6, lX7, lX8]) ?_ ?_
  rotate_left
  · exact Al.cons (i := 77) (Rl.of rfl rfl) Al.nil
  exact Al.nil
theorem al_72 {E : En} {H : Heap} {a a' : Nat → Nat} : Al (adj E a a') H 72 (bX0 E (fun i => a (72 + i))) := by
  unfold bX0
  refine Al.cons (i := 72) (Rl.of rfl rfl) ?_
  refine Al.app (j := 74) (by simp only [List.length_append, List.length_cons, List.length_nil, lX0, lX1, lX2, lX3, lX4, lX5, lX6, lX7, lX8]) ?_ ?_
  rotate_left
  · exact Al.cons (i := 74) (Rl.of rfl rfl) Al.nil
  refine Al.app (j := 73) (by simp only [List.length_append, List.length_cons, List.length_nil, lX0, lX1, lX2, lX3, lX4, lX5, lX6, lX7, lX8]) ?_ ?_
  rotate_left
  · exact Al.cons (i := 73) (Rl.of rfl rfl) Al.nil
  exact Al.nil
theorem al_66 {E : En} {H : Heap} {a a' : Nat → Nat} : Al (adj E a a') H 66 (bX2 E (fun i => a (66 + i))) := by
  unfold bX2
  refine Al.cons (i := 66) (Rl.of rfl rfl) ?_
  refine Al.app (j := 71) (by simp only [List.length_append, List.length_cons, List.length_nil, lX0, lX1, lX2, lX3, lX4, lX5, lX6, lX7, lX8]) ?_ ?_
  rotate_left
  · exact Al.cons (i := 71) (Rl.of rfl rfl) Al.nil
  refine Al.app (j := 70) (by simp only [List.length_append, List.length_cons, List.length_nil, lX0, lX1, lX2, lX3, lX4, lX5, lX6, lX7, lX8]) ?_ ?_
  rotate_left
  · exact Al.cons (i := 70) (Rl.of rfl rfl) Al.nil
  refine Al.app (j := 69) (by simp only [List.length_append, List.length_cons, List.length_nil, lX0, lX1, lX2, lX3, lX4, lX5, lX6, lX7, lX8]) ?_ ?_
  rotate_left
  · exact Al.cons (i := 69) (Rl.of rfl rfl) Al.nil
  refine Al.app (j := 68) (by simp only [List.length_append, List.length_cons, List.length_nil, lX0, lX1, lX2, lX3, lX4, lX5, lX6, lX7, lX8]) ?_ ?_
  rotate_left
  · exact Al.cons (i := 68) (Rl.of rfl rfl) Al.nil
  refine Al.app (j := 67) (by simp only [List.length_append, List.length_cons, List.length_nil, lX0, lX1, lX2, lX3, lX4, lX5, lX6, lX7, lX8]) ?_ ?_
  rotate_left
  · exact Al.cons (i := 67) (Rl.of rfl rfl) Al.nil
  exact Al.nil
theorem al_59 {E : En} {H : Heap} {a a' : Nat → Nat} : Al (adj E a a') H 59 (bX6 E (fun i => a (59 + i))) := by
  unfold bX6
  refine Al.cons (i := 59) (Rl.of rfl rfl) ?_
  refine Al.app (j := 65) (by simp only [List.length_append, List.length_cons, List.length_nil, lX0, lX1, lX2, lX3, lX4, lX5, lX6, lX7, lX8]) ?_ ?_
  rotate_left
  · exact Al.cons (i := 65) (Rl.of rfl rfl) Al.nil
  refine Al.app (j := 64) (by simp only [List.length_append, List.length_cons, List.length_nil, lX0, lX1, lX2, lX3, lX4, lX5, lX6, lX7, lX8]) ?_ ?_
  rotate_left
  · exact Al.cons (i := 64) (Rl.of rfl rfl) Al.nil
  refine Al.app (j := 63) (by simp only [List.length_append, List.length_cons, List.length_nil, lX0, lX1, lX2, lX3, lX4, lX5, lX6, lX7, lX8]) ?_ ?_
  rotate_left
  · exact Al.cons (i := 63) (Rl.of rfl rfl) Al.nil
  refine Al.app (j := 62) (by simp only [List.length_append, List.length_cons, List.length_nil, lX0, lX1, lX2, lX3, lX4, lX5, lX6, lX7, lX8]) ?_ ?_
  rotate_left
  · exact Al.cons (i := 62) (Rl.of rfl rfl) Al.nil
  refine Al.app (j := 61) (by simp only [List.length_append, List.length_cons, List.length_nil, lX0, lX1, lX2, lX3, lX4, lX5, lX6, lX7, lX8]) ?_ ?_
  rotate_left
  · exact Al.cons (i := 61) (Rl.of rfl rfl) Al.nil
  refine Al.app (j := 60) (by simp only [List.length_append, List.length_cons, List.length_nil, lX0, lX1, lX2, lX3, lX4, lX5, lX6, lX7, lX8]) ?_ ?_
  rotate_left
  · exact Al.cons (i := 60) (Rl.of rfl rfl) Al.nil
  exact Al.nil
theorem al_58 {E : En} {H : Heap} {a a' : Nat → Nat} : Al (adj E a a') H 58 (bX1 E (fun i => a (58 + i))) := by
  unfold bX1
  refine Al.cons (i := 58) (Rl.of rfl rfl) ?_
  refine Al.app (j := 72) (by simp only [List.length_append, List.length_cons, List.length_nil, lX0, lX1, lX2, lX3, lX4, lX5, lX6, lX7, lX8]) ?_ ?_
  rotate_left
  · exact al_72
  refine Al.app (j := 66) (by simp only [List.length_append, List.length_cons, List.length_nil, lX0, lX1, lX2, lX3, lX4, lX5, lX6, lX7, lX8]) ?_ ?_
  rotate_left
  · exact al_66
  refine Al.app (j := 59) (by simp only [List.length_append, List.length_cons, List.length_nil, lX0, lX1, lX2, lX3, lX4, lX5, lX6, lX7, lX8]) ?_ ?_
  rotate_left
  · exact al_59
  exact Al.nil
theorem al_55 {E : En} {H : Heap} {a a' : Nat → Nat} : Al (adj E a a') H 55 (bX0 E (fun i => a (55 + i))) := by
  unfold bX0
  refine Al.cons (i := 55) (Rl.of rfl rfl) ?_
  refine Al.app (j := 57) (by simp only [List.length_append, List.length_cons, List.length_nil, lX0, lX1, lX2, lX3, lX4, lX5, lX6, lX7, lX8]) ?_ ?_
  rotate_left
  · exact Al.cons (i := 57) (Rl.of rfl rfl) Al.nil
  refine Al.app (j := 56) (by simp only [List.length_append, List.length_cons, List.length_nil, lX0, lX1, lX2, lX3, lX4, lX5, lX6, lX7, lX8]) ?_ ?_
  rotate_left
  · exact Al.cons (i := 56) (Rl.of rfl rfl) Al.nil
  exact Al.nil
theorem al_49 {E : En} {H : Heap} {a a' : Nat → Nat} : Al (adj E a a') H 49 (bX2 E (fun i => a (49 + i))) := by
  unfold bX2
  refine Al.cons (i := 49) (Rl.of rfl rfl) ?_
  refine Al.app (j := 54) (by simp only [List.length_append, List.length_cons, List.length_nil, lX0, lX1, lX2, lX3, lX4, lX5, lX6, lX7, lX8]) ?_ ?_
  rotate_left
  · exact Al.cons (i := 54) (Rl.of rfl rfl) Al.nil
  refine Al.app (j := 53) (by simp only [List.length_append, List.length_cons, List.length_nil, lX0, lX1, lX2, lX3, lX4, lX5, lX6, lX7, lX8]) ?_ ?_
  rotate_left
  · exact Al.cons (i := 53) (Rl.of rfl rfl) Al.nil
  refine Al.app (j := 52) (by simp only [List.length_append, List.length_cons, List.length_nil, lX0, lX1, lX2, lX3, lX4, lX5, lX6, lX7, lX8]) ?_ ?_
  rotate_left
  · exact Al.cons (i := 52) (Rl.of rfl rfl) Al.nil
  refine Al.app (j := 51) (by simp only [List.length_append, List.length_cons, List.length_nil, lX0, lX1, lX2, lX3, lX4, lX5, lX6, lX7, lX8]) ?_ ?_
  rotate_left
  · exact Al.cons (i := 51) (Rl.of rfl rfl) Al.nil
  refine Al.app (j := 50) (by simp only [List.length_append, List.length_cons, List.length_nil, lX0, lX1, lX2, lX3, lX4, lX5, lX6, lX7, lX8]) ?_ ?_
  rotate_left
  · exact Al.cons (i := 50) (Rl.of rfl rfl) Al.nil
  exact Al.nil
theorem al_42 {E : En} {H : Heap} {a a' : Nat → Nat} : Al (adj E a a') H 42 (bX6 E (fun i => a (42 + i))) := by
  unfold bX6
  refine Al.cons (i := 42) (Rl.of rfl rfl) ?_
  refine Al.app (j := 48) (by simp only [List.length_append, List.length_cons, List.length_nil, lX0, lX1, lX2, lX3, lX4, lX5, lX6, lX7, lX8]) ?_ ?_
  rotate_left
  · exact Al.cons (i := 48) (Rl.of rfl rfl) Al.nil
  refine Al.app (j := 47) (by simp only [List.length_append, List.length_cons, List.length_nil, lX0, lX1, lX2, lX3, lX4, lX5, lX6, lX7, lX8]) ?_ ?_
  rotate_left
  · exact Al.cons (i := 47) (Rl.of rfl rfl) Al.nil
  refine Al.app (j := 46) (by simp only [List.length_append, List.length_cons, List.length_nil, lX0, lX1, lX2, lX3, lX4, lX5, lX6, lX7, lX8]) ?_ ?_
  rotate_left
  · exact Al.cons (i := 46) (Rl.of rfl rfl) Al.nil
  refine Al.app (j := 45) (by simp only [List.length_append, List.length_cons, List.length_nil, lX0, lX1, lX2, lX3, lX4, lX5, lX6, lX7, lX8]) ?_ ?_
  rotate_left
  · exact Al.cons (i := 45) (Rl.of rfl rfl) Al.nil
  refine Al.app (j := 44) (by simp only [List.length_append, List.length_cons, List.length_nil, lX0, lX1, lX2, lX3, lX4, lX5, lX6, lX7, lX8]) ?_ ?_
  rotate_left
  · exact Al.cons (i := 44) (Rl.of rfl rfl) Al.nil
  refine Al.app (j := 43) (by simp only [List.length_append, List.length_cons, List.length_nil, lX0, lX1, lX2, lX3, lX4, lX5, lX6, lX7, lX8]) ?_ ?_
  rotate_left
  · exact Al.cons (i := 43) (Rl.of rfl rfl) Al.nil
  exact Al.nil
theorem al_41 {E : En} {H : Heap} {a a' : Nat → Nat} : Al (adj E a a') H 41 (bX1 E (fun i => a (41 + i))) := by
  unfold bX1
  refine Al.cons (i := 41) (Rl.of rfl rfl) ?_
  refine Al.app (j := 55) (by simp only [List.length_append, List.length_cons, List.length_nil, lX0, lX1, lX2, lX3, lX4, lX5, lX6, lX7, lX8]) ?_ ?_
  rotate_left
  · exact al_55
  refine Al.app (j := 49) (by simp only [List.length_append, List.length_cons, List.length_nil, lX0, lX1, lX2, lX3, lX4, lX5, lX6, lX7, lX8]) ?_ ?_
  rotate_left
  · exact al_49
  refine Al.app (j := 42) (by simp only [List.length_append, List.length_cons, List.length_nil, lX0, lX1, lX2, lX3, lX4, lX5, lX6, lX7, lX8]) ?_ ?_
  rotate_left
  · exact al_42
  exact Al.nil
theorem al_39 {E : En} {H : Heap} {a a' : Nat → Nat} : Al (adj E a a') H 39 (bX8 E (fun i => a (39 + i))) := by
  unfold bX8
  refine Al.cons (i := 39) (Rl.of rfl rfl) ?_
  refine Al.app (j := 40) (by simp only [List.length_append, List.length_cons, List.length_nil, lX0, lX1, lX2, lX3, lX4, lX5, lX6, lX7, lX8]) ?_ ?_
  rotate_left
  · exact Al.cons (i := 40) (Rl.of rfl rfl) Al.nil
  exact Al.nil
theorem al_35 {E : En} {H : Heap} {a a' : Nat → Nat} : Al (adj E a a') H 35 (bX4 E (fun i => a (35 + i))) := by
  unfold bX4
  refine Al.cons (i := 35) (Rl.of rfl rfl) ?_
  refine Al.app (j := 38) (by simp only [List.length_append, List.length_cons, List.length_nil, lX0, lX1, lX2, lX3, lX4, lX5, lX6, lX7, lX8]) ?_ ?_
  rotate_left
  · exact Al.cons (i := 38) (Rl.of rfl rfl) Al.nil
  refine Al.app (j := 37) (by simp only [List.length_append, List.length_cons, List.length_nil, lX0, lX1, lX2, lX3, lX4, lX5, lX6, lX7, lX8]) ?_ ?_
  rotate_left
  · exact Al.cons (i := 37) (Rl.of rfl rfl) Al.nil
  refine Al.app (j := 36) (by simp only [List.length_append, List.length_cons, List.length_nil, lX0, lX1, lX2, lX3, lX4, lX5, lX6, lX7, lX8]) ?_ ?_
  rotate_left
  · exact Al.cons (i := 36) (Rl.of rfl rfl) Al.nil
  exact Al.nil
theorem al_28 {E : En} {H : Heap} {a a' : Nat → Nat} : Al (adj E a a') H 28 (bX7 E (fun i => a (28 + i))) := by
  unfold bX7
  refine Al.cons (i := 28) (Rl.of rfl rfl) ?_
  refine Al.app (j := 33) (by simp only [List.length_append, List.length_cons, List.length_nil, lX0, lX1, lX2, lX3, lX4, lX5, lX6, lX7, lX8]) ?_ ?_
  rotate_left
  · exact Al.cons (i := 33) (Rl.of rfl rfl) Al.nil
  refine Al.app (j := 32) (by simp only [List.length_append, List.length_cons, List.length_nil, lX0, lX1, lX2, lX3, lX4, lX5, lX6, lX7, lX8]) ?_ ?_
  rotate_left
  · exact Al.cons (i := 32) (Rl.of rfl rfl) Al.nil
  refine Al.app (j := 31) (by simp only [List.length_append, List.length_cons, List.length_nil, lX0, lX1, lX2, lX3, lX4, lX5, lX6, lX7, lX8]) ?_ ?_
  rotate_left
  · exact Al.cons (i := 31) (Rl.of rfl rfl) Al.nil
  refine Al.app (j := 30) (by simp only [List.length_append, List.length_cons, List.length_nil, lX0, lX1, lX2, lX3, lX4, lX5, lX6, lX7, lX8]) ?_ ?_
  rotate_left
  · exact Al.cons (i := 30) (Rl.of rfl rfl) Al.nil
  refine Al.app (j := 29) (by simp only [List.length_append, List.length_cons, List.length_nil, lX0, lX1, lX2, lX3, lX4, lX5, lX6, lX7, lX8]) ?_ ?_
  rotate_left
  · exact Al.cons (i := 29) (Rl.of rfl rfl) Al.nil
  exact Al.nil
theorem al_22 {E : En} {H : Heap} {a a' : Nat → Nat} : Al (adj E a a') H 22 (bX7 E (fun i => a (22 + i))) := by
  unfold bX7
  refine Al.cons (i := 22) (Rl.of rfl rfl) ?_
  refine Al.app (j := 27) (by simp only [List.length_append, List.length_cons, List.length_nil, lX0, lX1, lX2, lX3, lX4, lX5, lX6, lX7, lX8]) ?_ ?_
  rotate_left
  · exact Al.cons (i := 27) (Rl.of rfl rfl) Al.nil
  refine Al.app (j := 26) (by simp only [List.length_append, List.length_cons, List.length_nil, lX0, lX1, lX2, lX3, lX4, lX5, lX6, lX7, lX8]) ?_ ?_
  rotate_left
  · exact Al.cons (i := 26) (Rl.of rfl rfl) Al.nil
  refine Al.app (j := 25) (by simp only [List.length_append, List.length_cons, List.length_nil, lX0, lX1, lX2, lX3, lX4, lX5, lX6, lX7, lX8]) ?_ ?_
  rotate_left
  · exact Al.cons (i := 25) (Rl.of rfl rfl) Al.nil
  refine Al.app (j := 24) (by simp only [List.length_append, List.length_cons, List.length_nil, lX0, lX1, lX2, lX3, lX4, lX5, lX6, lX7, lX8]) ?_ ?_
  rotate_left
  · exact Al.cons (i := 24) (Rl.of rfl rfl) Al.nil
  refine Al.app (j := 23) (by simp only [List.length_append, List.length_cons, List.length_nil, lX0, lX1, lX2, lX3, lX4, lX5, lX6, lX7, lX8]) ?_ ?_
  rotate_left
  · exact Al.cons (i := 23) (Rl.of rfl rfl) Al.nil
  exact Al.nil
theorem al_16 {E : En} {H : Heap} {a a' : Nat → Nat} : Al (adj E a a') H 16 (bX7 E (fun i => a (16 + i))) := by
  unfold bX7
  refine Al.cons (i := 16) (Rl.of rfl rfl) ?_
  refine Al.app (j := 21) (by simp only [List.length_append, List.length_cons, List.length_nil, lX0, lX1, lX2, lX3, lX4, lX5, lX6, lX7, lX8]) ?_ ?_
  rotate_left
  · exact Al.cons (i := 21) (Rl.of rfl rfl) Al.nil
  refine Al.app (j := 20) (by simp only [List.length_append, List.length_cons, List.length_nil, lX0, lX1, lX2, lX3, lX4, lX5, lX6, lX7, lX8]) ?_ ?_
  rotate_left
  · exact Al.cons (i := 20) (Rl.of rfl rfl) Al.nil
  refine Al.app (j := 19) (by simp only [List.length_append, List.length_cons, List.length_nil, lX0, lX1, lX2, lX3, lX4, lX5, lX6, lX7, lX8]) ?_ ?_
  rotate_left
  · exact Al.cons (i := 19) (Rl.of rfl rfl) Al.nil
  refine Al.app (j := 18) (by simp only [List.length_append, List.length_cons, List.length_nil, lX0, lX1, lX2, lX3, lX4, lX5, lX6, lX7, lX8]) ?_ ?_
  rotate_left
  · exact Al.cons (i := 18) (Rl.of rfl rfl) Al.nil
  refine Al.app (j := 17) (by simp only [List.length_append, List.length_cons, List.length_nil, lX0, lX1, lX2, lX3, lX4, lX5, lX6, lX7, lX8]) ?_ ?_
  rotate_left
  · exact Al.cons (i := 17) (Rl.of rfl rfl) Al.nil
  exact Al.nil
theorem al_9 {E : En} {H : Heap} {a a' : Nat → Nat} : Al (adj E a a') H 9 (bX7 E (fun i => a (9 + i))) := by
  unfold bX7
  refine Al.cons (i := 9) (Rl.of rfl rfl) ?_
  refine Al.app (j := 14) (by simp only [List.length_append, List.length_cons, List.length_nil, lX0, lX1, lX2, lX3, lX4, lX5, lX6, lX7, lX8]) ?_ ?_
  rotate_left
  · exact Al.cons (i := 14) (Rl.of rfl rfl) Al.nil
  refine Al.app (j := 13) (by simp only [List.length_append, List.length_cons, List.length_nil, lX0, lX1, lX2, lX3, lX4, lX5, lX6, lX7, lX8]) ?_ ?_
  rotate_left
  · exact Al.cons (i := 13) (Rl.of rfl rfl) Al.nil
  refine Al.app (j := 12) (by simp only [List.length_append, List.length_cons, List.length_nil, lX0, lX1, lX2, lX3, lX4, lX5, lX6, lX7, lX8]) ?_ ?_
  rotate_left
  · exact Al.cons (i := 12) (Rl.of rfl rfl) Al.nil
  refine Al.app (j := 11) (by simp only [List.length_append, List.length_cons, List.length_nil, lX0, lX1, lX2, lX3, lX4, lX5, lX6, lX7, lX8]) ?_ ?_
  rotate_left
  · exact Al.cons (i := 11) (Rl.of rfl rfl) Al.nil
  refine Al.app (j := 10) (by simp only [List.length_append, List.length_cons, List.length_nil, lX0, lX1, lX2, lX3, lX4, lX5, lX6, lX7, lX8]) ?_ ?_
  rotate_left
  · exact Al.cons (i := 10) (Rl.of rfl rfl) Al.nil
  exact Al.nil
theorem al_3 {E : En} {H : Heap} {a a' : Nat → Nat} : Al (adj E a a') H 3 (bX7 E (fun i => a (3 + i))) := by
  unfold bX7
  refine Al.cons (i := 3) (Rl.of rfl rfl) ?_
  refine Al.app (j := 8) (by simp only [List.length_append, List.length_cons, List.length_nil, lX0, lX1, lX2, lX3, lX4, lX5, lX6, lX7, lX8]) ?_ ?_
  rotate_left
  · exact Al.cons (i := 8) (Rl.of rfl rfl) Al.nil
  refine Al.app (j := 7) (by simp only [List.length_append, List.length_cons, List.length_nil, lX0, lX1, lX2, lX3, lX4, lX5, lX6, lX7, lX8]) ?_ ?_
  rotate_left
  · exact Al.cons (i := 7) (Rl.of rfl rfl) Al.nil
  refine Al.app (j := 6) (by simp only [List.length_append, List.length_cons, List.length_nil, lX0, lX1, lX2, lX3, lX4, lX5, lX6, lX7, lX8]) ?_ ?_
  rotate_left
  · exact Al.cons (i := 6) (Rl.of rfl rfl) Al.nil
  refine Al.app (j := 5) (by simp only [List.length_append, List.length_cons, List.length_nil, lX0, lX1, lX2, lX3, lX4, lX5, lX6, lX7, lX8]) ?_ ?_
  rotate_left
  · exact Al.cons (i := 5) (Rl.of rfl rfl) Al.nil
  refine Al.app (j := 4) (by simp only [List.length_append, List.length_cons, List.length_nil, lX0, lX1, lX2, lX3, lX4, lX5, lX6, lX7, lX8]) ?_ ?_
  rotate_left
  · exact Al.cons (i := 4) (Rl.of rfl rfl) Al.nil
  exact Al.nil
theorem al_1 {E : En} {H : Heap} {a a' : Nat → Nat} : Al (adj E a a') H 1 (bX3 E (fun i => a (1 + i))) := by
  unfold bX3
  refine Al.cons (i := 1) (Rl.of rfl rfl) ?_
  refine Al.app (j := 2) (by simp only [List.length_append, List.length_cons, List.length_nil, lX0, lX1, lX2, lX3, lX4, lX5, lX6, lX7, lX8]) ?_ ?_
  rotate_left
  · exact Al.cons (i := 2) (Rl.of rfl rfl) Al.nil
  exact Al.nil
theorem al_0 {E : En} {H : Heap} {a a' : Nat → Nat} : Al (adj E a a') H 0 (bX9 E a) := by
  unfold bX9
  refine Al.cons (i := 0) (Rl.of rfl rfl) ?_
  refine Al.app (j := 76) (by simp only [List.length_append, List.length_cons, List.length_nil, lX0, lX1, lX2, lX3, lX4, lX5, lX6, lX7, lX8]) ?_ ?_
  rotate_left
  · exact al_76
  refine Al.app (j := 75) (by simp only [List.length_append, List.length_cons, List.length_nil, lX0, lX1, lX2, lX3, lX4, lX5, lX6, lX7, lX8]) ?_ ?_
  rotate_left
  · exact Al.cons (i := 75) (Rl.of rfl rfl) Al.nil
  refine Al.app (j := 58) (by simp only [List.length_append, List.length_cons, List.length_nil, lX0, lX1, lX2, lX3, lX4, lX5, lX6, lX7, lX8]) ?_ ?_
  rotate_left
  · exact al_58
  refine Al.app (j := 41) (by simp only [List.length_append, List.length_cons, List.length_nil, lX0, lX1, lX2, lX3, lX4, lX5, lX6, lX7, lX8]) ?_ ?_
  rotate_left
  · exact al_41
  refine Al.app (j := 39) (by simp only [List.length_append, List.length_cons, List.length_nil, lX0, lX1, lX2, lX3, lX4, lX5, lX6, lX7, lX8]) ?_ ?_
  rotate_left
  · exact al_39
  refine Al.app (j := 35) (by simp only [List.length_append, List.length_cons, List.length_nil, lX0, lX1, lX2, lX3, lX4, lX5, lX6, lX7, lX8]) ?_ ?_
  rotate_left
  · exact al_35
  refine Al.app (j := 34) (by simp only [List.length_append, List.length_cons, List.length_nil, lX0, lX1, lX2, lX3, lX4, lX5, lX6, lX7, lX8]) ?_ ?_
  rotate_left
  · exact Al.cons (i := 34) (Rl.of rfl rfl) Al.nil
  refine Al.app (j := 28) (by simp only [List.length_append, List.length_cons, List.length_nil, lX0, lX1, lX2, lX3, lX4, lX5, lX6, lX7, lX8]) ?_ ?_
  rotate_left
  · exact al_28
  refine Al.app (j := 22) (by simp only [List.length_append, List.length_cons, List.length_nil, lX0, lX1, lX2, lX3, lX4, lX5, lX6, lX7, lX8]) ?_ ?_
  rotate_left
  · exact al_22
  refine Al.app (j := 16) (by simp only [List.length_append, List.length_cons, List.length_nil, lX0, lX1, lX2, lX3, lX4, lX5, lX6, lX7, lX8]) ?_ ?_
  rotate_left
  · exact al_16
  refine Al.app (j := 15) (by simp only [List.length_append, List.length_cons, List.length_nil, lX0, lX1, lX2, lX3, lX4, lX5, lX6, lX7, lX8]) ?_ ?_
  rotate_left
  · refine Al.cons (i := 15) ⟨rfl, fun h => ?_⟩ Al.nil
    have e := vp_q (c := cA E 24) (N := 3) (f := va_up (va_up (va_up (fun _ => none) (0 : Int32).toNatClampNeg (some (a 16))) (1 : Int32).toNatClampNeg (some (a 22))) (2 : Int32).toNatClampNeg (some (a 28))) (g := fun i => some (ad (adj E a a') (15 + 1 + 6 * i))) (fun j hj => by
      have : j = 0 ∨ j = 1 ∨ j = 2 := by omega
      rcases this with rfl | rfl | rfl <;> rfl)
    exact Eq.trans h (congrArg some e)
  refine Al.app (j := 9) (by simp only [List.length_append, List.length_cons, List.length_nil, lX0, lX1, lX2, lX3, lX4, lX5, lX6, lX7, lX8]) ?_ ?_
  rotate_left
  · exact al_9
  refine Al.app (j := 3) (by simp only [List.length_append, List.length_cons, List.length_nil, lX0, lX1, lX2, lX3, lX4, lX5, lX6, lX7, lX8]) ?_ ?_
  rotate_left
  · exact al_3
  refine Al.app (j := 1) (by simp only [List.length_append, List.length_cons, List.length_nil, lX0, lX1, lX2, lX3, lX4, lX5, lX6, lX7, lX8]) ?_ ?_
  rotate_left
  · exact al_1
  exact Al.nil
theorem al_80 {E : En} {H : Heap} {a a' : Nat → Nat} : Al (adj E a a') H 80 (bX10 E a') := by
  unfold bX10
  refine Al.cons (i := 80) (Rl.of rfl rfl) ?_
  refine Al.cons (i := 81) (Rl.of rfl rfl) ?_
  refine Al.cons (i := 82) (Rl.of rfl rfl) ?_
  refine Al.cons (i := 83) (Rl.of rfl rfl) ?_
  refine Al.cons (i := 84) (Rl.of rfl rfl) ?_
  refine Al.cons (i := 85) (Rl.of rfl rfl) ?_
  refine Al.cons (i := 86) (Rl.of rfl rfl) ?_
  refine Al.cons (i := 87) (Rl.of rfl rfl) ?_
  refine Al.cons (i := 88) (Rl.of rfl rfl) ?_
  refine Al.cons (i := 89) (Rl.of rfl rfl) ?_
  refine Al.cons (i := 90) (Rl.of rfl rfl) ?_
  refine Al.cons (i := 91) (Rl.of rfl rfl) ?_
  refine Al.cons (i := 92) (Rl.of rfl rfl) ?_
  refine Al.cons (i := 93) (Rl.of rfl rfl) ?_
  refine Al.cons (i := 94) (Rl.of rfl rfl) ?_
  refine Al.cons (i := 95) (Rl.of rfl rfl) ?_
  refine Al.cons (i := 96) (Rl.of rfl rfl) ?_
  refine Al.cons (i := 97) (Rl.of rfl rfl) ?_
  refine Al.cons (i := 98) (Rl.of rfl rfl) ?_
  refine Al.cons (i := 99) (Rl.of rfl rfl) ?_
  refine Al.cons (i := 100) (Rl.of rfl rfl) ?_
  refine Al.cons (i := 101) (Rl.of rfl rfl) ?_
  refine Al.cons (i := 102) (Rl.of rfl rfl) ?_
  refine Al.cons (i := 103) (Rl.of rfl rfl) ?_
  refine Al.cons (i := 104) (Rl.of rfl rfl) ?_
  refine Al.cons (i := 105) (Rl.of rfl rfl) ?_
  refine Al.cons (i := 106) (Rl.of rfl rfl) ?_
  refine Al.cons (i := 107) (Rl.of rfl rfl) ?_
  refine Al.cons (i := 108) (Rl.of rfl rfl) ?_
  refine Al.cons (i := 109) (Rl.of rfl rfl) ?_
  refine Al.cons (i := 110) (Rl.of rfl rfl) ?_
  refine Al.cons (i := 111) (Rl.of rfl rfl) ?_
  refine Al.cons (i := 112) (Rl.of rfl rfl) ?_
  refine Al.cons (i := 113) (Rl.of rfl rfl) ?_
  refine Al.cons (i := 114) (Rl.of rfl rfl) ?_
  refine Al.cons (i := 115) (Rl.of rfl rfl) ?_
  refine Al.cons (i := 116) (Rl.of rfl rfl) ?_
  exact Al.nil
theorem conv {E : En} {H : Heap} {A : Nat → Prop} {a a' : Nat → Nat} (hP : va_P (eG E) vwCl (([] ++ bX9 E a) ++ bX10 E a') H) (hD : va_D A (([] ++ bX9 E a) ++ bX10 E a')) : va_P (eG (adj E a a')) vwCl (wl (adj E a a') M0) H ∧ Okk (adj E a a') A := by
  have hl : (([] ++ bX9 E a) ++ bX10 E a').length = NC := by
    rw [List.length_append, List.length_append, lX9, lX10]; rfl
  have al : Al (adj E a a') H 0 (([] ++ bX9 E a) ++ bX10 E a') := Al.app (j := 80) (by rw [List.length_append, lX9]; rfl) (Al.app (j := 0) rfl Al.nil al_0) al_80
  have at' : ∀ k, k < NC → ∃ e, (([] ++ bX9 E a) ++ bX10 E a')[k]? = some (ad (adj E a a') k, e) ∧ va_at (eG (adj E a a')) vwCl (ad (adj E a a') k, ce (adj E a a') M0 k) H := by
    intro k hk
    obtain ⟨q, hq⟩ : ∃ q, (([] ++ bX9 E a) ++ bX10 E a')[k]? = some q := ⟨_, List.getElem?_eq_getElem (by rw [hl]; exact hk)⟩
    obtain ⟨r1, r2⟩ := al k q hq
    rw [Nat.zero_add] at r1 r2
    refine ⟨q.2, by rw [hq, ← r1], r2 (hP k q hq)⟩
  refine ⟨fun k q hq => ?_, fun i j hi hj e => ?_, fun c hc => ?_⟩
  · have hk : k < NC := by
      have := (List.getElem?_eq_some_iff.mp hq).1
      simpa [wl] using this
    rw [wl_at hk] at hq
    cases hq
    exact (at' k hk).choose_spec.2
  · obtain ⟨x, h1, -⟩ := at' i hi
    obtain ⟨y, h2, -⟩ := at' j hj
    exact hD.1 i j _ _ h1 h2 e
  · obtain ⟨x, h1, -⟩ := at' c hc
    exact hD.2 c _ h1
