/-! The class's Guesser: clear and setAs. -/
def gf (g : GS) (i n : Nat) (v : Int32) : GS := fun x k => if x = i ∧ k < n then v else g x k
theorem vf_0 (o : Nat) (M : Mem) (n : Nat) (v : Int32) : vX o (fiM M (o + 3) n v) = gf (vX o M) 0 n v := by
  funext i j
  unfold vX gf
  split <;> first | (simp [fiM]; done) | (simp_all [fiM]; done)
theorem vf_1 (o : Nat) (M : Mem) (n : Nat) (v : Int32) : vX o (fiM M (o + 4) n v) = gf (vX o M) 1 n v := by
  funext i j
  unfold vX gf
  split <;> first | (simp [fiM]; done) | (simp_all [fiM]; done)
theorem vf_2 (o : Nat) (M : Mem) (n : Nat) (v : Int32) : vX o (fiM M (o + 5) n v) = gf (vX o M) 2 n v := by
  funext i j
  unfold vX gf
  split <;> first | (simp [fiM]; done) | (simp_all [fiM]; done)
theorem vf_3 (o : Nat) (M : Mem) (n : Nat) (v : Int32) : vX o (fiM M (o + 6) n v) = gf (vX o M) 3 n v := by
  funext i j
  unfold vX gf
  split <;> first | (simp [fiM]; done) | (simp_all [fiM]; done)
theorem vf_9 (o : Nat) (M : Mem) (n : Nat) (v : Int32) : vX o (fiM M (o + 15) n v) = gf (vX o M) 9 n v := by
  funext i j
  unfold vX gf
  split <;> first | (simp [fiM]; done) | (simp_all [fiM]; done)
theorem Ch.f {o c n : Nat} {v : Int32} {M : Mem} (hc : (3 ≤ c ∧ c ≤ 6) ∨ (9 ≤ c ∧ c ≤ 13) ∨ c = 15) : Ch o M (fiM M (o + c) n v) :=
  ⟨fun b hb => fiM_o b (by omega), fun j => by rw [(fiM_o o (by omega)).1], fun j _ => by rw [(fiM_o (o + 1) (by omega)).1], by rw [(fiM_o (o + 2) (by omega)).1], by rw [(fiM_o (o + 7) (by omega)).1], fun j _ => by rw [(fiM_o (o + 14) (by omega)).1], by rw [(fiM_o (o + 16) (by omega)).1], rfl⟩
theorem cl_eq {g : GS} (hz : GZ g) (h14 : ∀ x, 14 ≤ x → g x = fun _ => 0) : gs (gf (fun x k => if (4 ≤ x ∧ x ≤ 8) ∧ k < 8 then (if x = 4 ∨ x = 5 then (-1 : Int32) else 0) else (gs (gs (gs (gf (gf (gf (gf g 0 80 (-1)) 1 80 0) 2 80 0) 3 16 1) 10 8) 11 0) 12 0) x k) 9 48 0) 13 4 = g0S := by
  funext x k
  have hz' := hz x k
  by_cases h : x < 14
  · have : x = 0 ∨ x = 1 ∨ x = 2 ∨ x = 3 ∨ x = 4 ∨ x = 5 ∨ x = 6 ∨ x = 7 ∨ x = 8 ∨ x = 9 ∨ x = 10 ∨ x = 11 ∨ x = 12 ∨ x = 13 := by omega
    unfold gs gf g0S
    rcases this with rfl | rfl | rfl | rfl | rfl | rfl | rfl | rfl | rfl | rfl | rfl | rfl | rfl | rfl <;> simp [szG] at hz' ⊢ <;> first | (intro hh; exact hz' hh) | (split <;> first | rfl | exact hz' (by omega))
  · unfold gs gf g0S
    simp [show ¬ x = 0 by omega, show ¬ x = 1 by omega, show ¬ x = 2 by omega, show ¬ x = 3 by omega, show ¬ x = 4 by omega, show ¬ x = 5 by omega, show ¬ x ≤ 8 by omega, show ¬ x = 9 by omega, show ¬ x = 10 by omega, show ¬ x = 11 by omega, show ¬ x = 12 by omega, show ¬ x = 13 by omega, h14 x (by omega)]
theorem v14 (o : Nat) (M : Mem) : ∀ x, 14 ≤ x → vX o M x = fun _ => 0 := by
  intro x hx
  unfold vX
  split <;> first | omega | rfl
theorem clearX {o : Nat} {M : Mem} (ho : kd o = (1, 0)) (hz : GZ (vX o M)) : ∃ M1, fX1_clear o M = some M1 ∧ vX o M1 = g0S ∧ M1.2 o 4 = lN 0 ∧ M1.1 o 5 = 0 ∧ FrX o M M1 ∧ (∀ k, k < 5 → M1.1 (o + 1) k = M.1 (o + 1) k) ∧ M1.1 (o + 2) = M.1 (o + 2) ∧ (∀ k, ¬ k = 5 → M1.1 o k = M.1 o k) := by
  have k1 := qX1_tables ho
  have k14 := qX1_corrector ho
  have ex : ∃ M3, fX6_clear (o + 1) M = some M3 ∧ Ch o M M3 ∧ vX o M3 = gs (gs (gs (gf (gf (gf (gf (vX o M) 0 80 (-1)) 1 80 0) 2 80 0) 3 16 1) 10 8) 11 0) 12 0 := by
    unfold fX6_clear
    rw [fillX (o + 1 + 2) 80 (by omega) (by rw [qX6_tags k1]), bV_s, fillX (o + 1 + 3) 80 (by omega) (by rw [qX6_counts k1]), bV_s, fillX (o + 1 + 4) 80 (by omega) (by rw [qX6_uses k1]), bV_s, fillX (o + 1 + 5) 16 (by omega) (by rw [qX6_bases k1]), bV_s]
    refine ⟨_, rfl, ?_, ?_⟩
    · exact (((((((Ch.f (c := 3) (by omega)).tr (Ch.f (c := 4) (by omega))).tr (Ch.f (c := 5) (by omega))).tr (Ch.f (c := 6) (by omega))).tr (Ch.w1 (by omega))).tr (Ch.w1 (by omega))).tr (Ch.w1 (by omega)))
    · rw [vx_12, vx_11, vx_10, show o + 1 + 2 = o + 3 by omega, show o + 1 + 3 = o + 4 by omega, show o + 1 + 4 = o + 5 by omega, show o + 1 + 5 = o + 6 by omega, vf_3, vf_2, vf_1, vf_0]
  obtain ⟨M3, e3, c3, v3⟩ := ex
  obtain ⟨M6, e6, c6, v6⟩ := clLoop (o := o) 8 0 LF M3 M3 (by omega) (by unfold LF; omega) Ch.rf (by funext x k; simp)
  unfold fX1_clear
  rw [e3, bV_s]
  unfold fX2_clear
  rw [show (0 : Int32) = nI 0 from rfl, e6, bV_s]
  unfold fX0_clear
  rw [fillX (o + 14 + 1) 48 (by omega) (by rw [qX0_counts k14]), bV_s, bV_s]
  have c9 : Ch o M6 (pI (fiM M6 (o + 14 + 1) 48 0) (o + 14) 1 4) := (Ch.f (c := 15) (by omega)).tr Ch.w14
  have v9 : vX o (pI (fiM M6 (o + 14 + 1) 48 0) (o + 14) 1 4) = gs (gf (vX o M6) 9 48 0) 13 4 := by rw [vx_13, show o + 14 + 1 = o + 15 by omega, vf_9]
  have cc := c3.tr (c6.tr c9)
  rw [v6, v3, cl_eq hz (v14 o M)] at v9
  rw [show (nI 0 : Int32) = 0 from rfl]
  generalize pI (fiM M6 (o + 14 + 1) 48 0) (o + 14) 1 4 = M9 at *
  refine ⟨_, rfl, ?_, ?_, ?_, ?_, fun k hk => ?_, ?_, fun k hk => ?_⟩
  · have vs : VSame o (pL M9 o 4 0) (pI (pL M9 o 4 0) o 5 0) := VSame.pIo (by omega)
    rw [vs.v]
    exact v9
  · rw [pI_2, pL_2]; simp; rfl
  · rw [pI_1]; simp
  · exact cc.1.tr ((FrX.pL (by omega) (by omega)).tr (FrX.pI (by omega) (by omega)))
  · rw [(pI_o (o + 1) (by omega)).1, pL_1]; exact cc.2.2.1 k (by omega)
  · rw [(pI_o (o + 2) (by omega)).1, pL_1]; exact cc.2.2.2.1
  · rw [pI_1, if_pos rfl, if_neg hk, pL_1]; exact cc.2.1 k

