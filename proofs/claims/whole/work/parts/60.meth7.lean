/-! Worlds that tell the same program; public methods: undo, anew, count. -/
section Meth7
variable {W W' : Wd}
def Ag (W W' : Wd) : Prop := (∀ k, k < 7 → W' k = W k) ∧ W' 7 = W 7 ∧ (∀ k, 9 ≤ k → k < 175 → W' k = W k)
theorem Ag.n (h : Ag W W') : nT W' = nT W ∧ nO W' = nO W := by
  unfold nT nO
  rw [h.1 6 (by omega), h.2.1]
  exact ⟨rfl, rfl⟩
theorem Ag.k (h : Ag W W') {i : Nat} (hi : i < 40) : KK W' i = KK W i ∧ NN W' i 0 = NN W i 0 ∧ NN W' i 1 = NN W i 1 ∧ NN W' i 2 = NN W i 2 := by
  unfold KK NN
  rw [h.2.2 (15 + 4 * i) (by omega) (by omega), h.2.2 (16 + 4 * i + 0) (by omega) (by omega), h.2.2 (16 + 4 * i + 1) (by omega) (by omega), h.2.2 (16 + 4 * i + 2) (by omega) (by omega)]
  exact ⟨rfl, rfl, rfl, rfl⟩
theorem Ag.st (h : Ag W W') {i : Nat} (hi : i < 40) (r : Rg) : brS W' i = brS W i ∧ tkB W' i r = tkB W i r ∧ doS W' i r = doS W i r ∧ neS W' i r = neS W i r := by
  obtain ⟨a, b, c, d⟩ := h.k hi
  have e1 : brS W' i = brS W i := by unfold brS; rw [a]
  have e2 : tkB W' i r = tkB W i r := by unfold tkB; rw [a, b, c]
  have e3 : glS W' i = glS W i := by unfold glS; rw [a, b, c, d]
  refine ⟨e1, e2, ?_, ?_⟩
  · unfold doS; rw [a, b, c]
  · unfold neS; rw [e1, e2, e3, a]
theorem Ag.cd (h : Ag W W') (hW : PgOk W) (i : Nat) : cdS W' i = cdS W i := by
  have hO := hW.2.1.2
  unfold cdS
  rw [h.n.2]
  by_cases hi : i < nO W
  · rw [(h.k (show i < 40 by omega)).1]
  · simp [hi]
theorem ag_rs (h : Ag W W') (hW : PgOk W) : ∀ t, RnOk W t → rs W' t = rs W t ∧ tr W' t = tr W t := by
  have hO := hW.2.1.2
  intro t
  induction t with
  | zero => intro _; exact ⟨rfl, rfl⟩
  | succ t ih =>
    intro hk
    obtain ⟨a, b⟩ := ih (fun s hs => hk s (by omega))
    have c1 := (cd_o (hk t (by omega))).1
    obtain ⟨s1, s2, s3, s4⟩ := h.st (show (rs W t).1 < 40 by omega) (rs W t).2
    refine ⟨?_, ?_⟩
    · show (neS W' (rs W' t).1 _, doS W' _ _) = _
      rw [a, s3, s4]; rfl
    · show (if brS W' (rs W' t).1 = true then _ else _) = _
      rw [a, b, s1, s2]; rfl
theorem ag_rn (h : Ag W W') (hW : PgOk W) : ∀ m t, RnOk W t → rn W' m t = rn W m t := by
  intro m
  induction m with
  | zero => intro t _; rfl
  | succ m ih =>
    intro t hk
    show (if cdS W' (rs W' t).1 = true then _ else _) = (if cdS W (rs W t).1 = true then _ else _)
    rw [(ag_rs h hW t hk).1, h.cd hW]
    by_cases hc : cdS W (rs W t).1 = true
    · rw [if_pos hc, if_pos hc]
      exact ih (t + 1) (fun s hs => by
        by_cases e : s = t
        · rw [e]; exact hc
        · exact hk s (by omega))
    · rw [if_neg hc, if_neg hc]
theorem ag_nS (h : Ag W W') (hW : PgOk W) : nS W' = nS W ∧ tr W' (nS W') = tr W (nS W) := by
  have e : nS W' = nS W := ag_rn h hW 200 0 (fun s hs => by omega)
  refine ⟨e, ?_⟩
  rw [e]
  exact (ag_rs h hW _ (nS_ok W).1).2
theorem Ag.cf (h : Ag W W') : cfW W' = cfW W := by
  funext k
  unfold cfW
  by_cases h3 : k = 3
  · rw [if_pos h3, if_pos h3]; exact h.n.1
  · rw [if_neg h3, if_neg h3]
    by_cases h4 : k = 4
    · rw [if_pos h4, if_pos h4]
    · rw [if_neg h4, if_neg h4]
      by_cases h6 : k < 6
      · rw [if_pos h6, if_pos h6, h.1 k (by omega)]
      · rw [if_neg h6, if_neg h6]
        by_cases h11 : 11 ≤ k ∧ k ≤ 15
        · rw [if_pos h11, if_pos h11, h.2.2 (k - 1) (by omega) (by omega)]
        · rw [if_neg h11, if_neg h11]
theorem Ag.pg (h : Ag W W') : pgS W' = pgS W := by unfold pgS; rw [h.2.2 9 (by omega) (by omega)]
theorem Ag.hd (h : Ag W W') (hH : HdOk W) (hT : nT W ≤ 5) : HdOk W' := by
  refine ⟨fun k hk => by rw [h.1 k (by omega)]; exact hH.1 k hk, fun t t1 t2 => ?_, by rw [h.cf]; exact hH.2.2⟩
  rw [h.n.1] at t2
  rw [h.2.2 (9 + t) (by omega) (by omega)]; exact hH.2.1 t t1 t2
theorem Ag.op (h : Ag W W') {i : Nat} (hi : i < 40) (hO : OpOk W i) : OpOk W' i := by
  obtain ⟨a, b, c, d⟩ := h.k hi
  unfold OpOk at *
  rw [a, b, c, d, h.2.2 (15 + 4 * i) (by omega) (by omega), h.2.2 (16 + 4 * i + 0) (by omega) (by omega), h.2.2 (16 + 4 * i + 1) (by omega) (by omega), h.2.2 (16 + 4 * i + 2) (by omega) (by omega)]
  exact hO
theorem Ag.w (h : Ag W W') (hW : WOk W) (hA : W' 8 = nI (nA W') ∧ nA W' ≤ 40) (hA2 : ∀ i, i < nA W' → W' (175 + i) = nI (AA W' i) ∧ AA W' i < 128) (h0 : pgS W = false → nA W' = 0) (hz : ∀ k, 215 ≤ k → W' k = 0) : WOk W' := by
  obtain ⟨n1, n2⟩ := h.n
  have hO := hW.1.2.1.2
  refine ⟨⟨by rw [n1, h.1 6 (by omega)]; exact hW.1.1, by rw [n2, h.2.1]; exact hW.1.2.1, hA, fun i hi => ?_, hA2⟩, fun hp => ?_, fun hp => ?_, hz, fun hp => by rw [h.pg] at hp; rw [h.1 3 (by omega), h.1 4 (by omega)]; exact ⟨(hW.2.2.2.2.1 hp).1, (hW.2.2.2.2.1 hp).2.1, fun t t1 t2 => by rw [n1] at t2; have := hW.1.1.2; rw [h.2.2 (9 + t) (by omega) (by omega), h.2.2 (10 + t) (by omega) (by omega)]; exact (hW.2.2.2.2.1 hp).2.2 t t1 t2⟩, fun hp => by rw [h.pg] at hp; rw [n1]; exact hW.2.2.2.2.2 hp⟩
  · rw [n2] at hi; exact h.op (by omega) (hW.1.2.2.2.1 i hi)
  · rw [h.pg] at hp; exact h.hd (hW.2.1 hp) hW.1.1.2
  · rw [h.pg] at hp; exact ⟨by rw [n2]; exact (hW.2.2.1 hp).1, h0 hp⟩
theorem Ag.run (h : Ag W W') (hW : PgOk W) {M : Mem} (hR : RunX W M) : RunX W' M := by
  obtain ⟨e1, -⟩ := ag_nS h hW
  have hk := (nS_ok W).1
  refine ⟨by rw [e1]; exact hR.1, ?_, fun s hs => ?_⟩
  · rw [e1, hR.2.1]
    unfold yS
    rw [(ag_rs h hW _ hk).1, h.n.2]
  · rw [e1] at hs
    rw [(ag_rs h hW s (fun u hu => hk u (by omega))).1]
    exact hR.2.2 s hs
-- fewer acts
def w8 (W : Wd) (n : Nat) : Wd := fun k => if k = 8 then nI n else W k
theorem w8_ag (W : Wd) (n : Nat) : Ag W (w8 W n) := ⟨fun k hk => if_neg (by omega), if_neg (by omega), fun k h1 h2 => if_neg (by omega)⟩
theorem w8_n {n : Nat} (hn : n < 2 ^ 31) : nA (w8 W n) = n := by unfold nA w8; rw [if_pos rfl, tn_n hn]
theorem w8_a (n i : Nat) : AA (w8 W n) i = AA W i := by unfold AA w8; rw [if_neg (by omega)]
theorem w8_ok (hW : WOk W) {n : Nat} (hn : n ≤ nA W) : WOk (w8 W n) := by
  have hA := hW.1.2.2.1.2
  have en := w8_n (W := W) (n := n) (by omega)
  refine (w8_ag W n).w hW ⟨by rw [en]; exact if_pos rfl, by omega⟩ (fun i hi => ?_) (fun hp => ?_) (fun k hk => ?_)
  · rw [en] at hi
    rw [w8_a]
    obtain ⟨a, b⟩ := hW.1.2.2.2.2 i (by omega)
    exact ⟨by show (if 175 + i = 8 then _ else _) = _; rw [if_neg (by omega)]; exact a, b⟩
  · have := (hW.2.2.1 hp).2; omega
  · show (if k = 8 then _ else _) = _
    rw [if_neg (by omega)]; exact hW.2.2.2.1 k hk
theorem w8_ac (n m : Nat) : acS (w8 W n) m = acS W m := by
  unfold acS
  apply List.map_congr_left
  intro i hi
  rw [w8_a]
theorem ac_take {n m : Nat} (h : n ≤ m) : acS W n = (acS W m).take n := by
  unfold acS
  rw [← List.map_take, List.take_range, Nat.min_eq_left h]
theorem w8_all (hW : WOk W) {n : Nat} (hn : n ≤ nA W) : allS (w8 W n) = (allS W).take ((tr W (nS W)).length + n) := by
  have hA := hW.1.2.2.1.2
  unfold allS
  rw [(ag_nS (w8_ag W n) hW.1).2, w8_n (by omega), w8_ac, List.take_length_add_append, ac_take hn]
end Meth7
