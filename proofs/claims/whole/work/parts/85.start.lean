/-! The start: memory and state; one public method used on both sides of one memory. -/
def M0 : Mem := (fun c => if c = 1 then (fun k => if k = 3 then -1 else 0) else if c = 78 then f4m else if c = 80 then (fun k => if k = 13 then -1 else 0) else if c = 114 then f4m else fun _ => 0, fun _ _ => 0)
def S0 : St := (fun i k => if i = 7 then f4m k else if i = 6 ∧ k = 2 then -1 else 0, fun _ => 0)
theorem M0_z {c : Nat} (h1 : ¬ c = 1) (h2 : ¬ c = 78) (h3 : ¬ c = 80) (h4 : ¬ c = 114) : M0.1 c = fun _ => 0 := by
  unfold M0
  simp [h1, h2, h3, h4]
theorem S0_z {i : Nat} (h : ¬ i = 7) (h6 : ¬ i = 6) : S0.1 i = fun _ => 0 := by
  funext k
  unfold S0
  simp [h, h6]
theorem W0_ok : WOk (fun _ => 0) := by
  refine ⟨⟨⟨rfl, by decide⟩, ⟨rfl, by decide⟩, ⟨rfl, by decide⟩, fun i hi => absurd hi (by show ¬ i < 0; omega), fun i hi => absurd hi (by show ¬ i < 0; omega)⟩, fun h => ?_, fun _ => ⟨rfl, rfl⟩, fun _ _ => rfl, fun h => ?_, fun _ => rfl⟩
  · exact absurd h (by decide)
  · exact absurd h (by decide)
theorem f4m_v {k : Nat} (h : k < 4) : f4m k = -1 := by
  have : k = 0 ∨ k = 1 ∨ k = 2 ∨ k = 3 := by omega
  rcases this with rfl | rfl | rfl | rfl <;> decide
theorem S0_ok : SOk S0 := by
  refine ⟨fun i hi => ?_, ⟨0, by omega, rfl⟩, fun i hi => ⟨Or.inl ?_, Or.inl ?_⟩⟩
  · rw [S0_z (by omega) (by omega)]; exact W0_ok
  · exact f4m_v hi
  · rw [S0_z (by omega) (by omega)]
theorem tw0 {q : Nat} (h : 9 ≤ q) (h2 : q ≤ 28) : Tw (fun _ => 0) q M0 := by
  have z : ∀ c, q ≤ c → c ≤ q + 5 → M0.1 c = fun _ => 0 := fun c a b => M0_z (by omega) (by omega) (by omega) (by omega)
  refine ⟨⟨?_, ?_, ?_⟩, fun k hk => ?_, ⟨fun t a b => ?_, ?_⟩, ⟨?_, fun i hi => ?_, fun i j hi hj => ?_⟩, fun i hi => ?_⟩ <;> rw [z _ (by omega) (by omega)]
theorem vX0 {o : Nat} (h : 41 ≤ o) (h2 : o ≤ 58) : GZ (vX o M0) := by
  have z : ∀ c, o ≤ c → c < o + 17 → M0.1 c = fun _ => 0 := fun c a b => M0_z (by omega) (by omega) (by omega) (by omega)
  intro i k hi hk
  unfold vX
  split <;> first | rfl | (rw [z _ (by omega) (by omega)]) | (simp only [z _ (by omega : o ≤ o + 1) (by omega)])
theorem vM0 : GZ (vM 80 M0) := by
  intro i k hi hk
  have : i = 0 ∨ i = 1 ∨ i = 2 ∨ i = 3 ∨ i = 4 ∨ i = 5 ∨ i = 6 ∨ i = 7 ∨ i = 8 ∨ i = 9 := by omega
  rcases this with rfl | rfl | rfl | rfl | rfl | rfl | rfl | rfl | rfl | rfl <;> exact congrFun (M0_z (c := _) (by decide) (by decide) (by decide) (by decide)) k
theorem jc0 : JC S0 M0 := by
  have z : ∀ c, ¬ c = 1 → ¬ c = 78 → ¬ c = 80 → ¬ c = 114 → M0.1 c = fun _ => 0 := fun c a b d e => M0_z a b d e
  have w0 : S0.1 0 = fun _ => 0 := S0_z (by omega) (by omega)
  have hnil := W0_ok.nil (by decide)
  refine ⟨⟨S0_ok, by rw [w0]; exact tw0 (by omega) (by omega), ?_⟩, ⟨⟨⟨?_, ?_⟩, fun k hk => ?_⟩, vX0 (by omega) (by omega), vX0 (by omega) (by omega)⟩, fun i hi => ⟨by rw [S0_z (by omega) (by omega)]; exact tw0 (by omega) (by omega), ?_⟩, fun i hi => ⟨?_, ?_⟩, ⟨rfl, rfl, rfl⟩, fun i hi => ⟨?_, ?_⟩, fun j hj => rfl⟩
  · rw [w0]
    refine ⟨fun h => absurd h (by decide), ⟨?_, fun b x hx => ?_⟩, ?_, fun b hb => ?_⟩
    · rw [hnil.2.2, z 39 (by decide) (by decide) (by decide) (by decide)]; rfl
    · rw [hnil.2.2] at hx; cases hx
    · rw [hnil.2.1, z 39 (by decide) (by decide) (by decide) (by decide)]; rfl
    · rw [hnil.2.2] at hb; exact absurd hb (Nat.not_lt_zero _)
  · rw [z 36 (by decide) (by decide) (by decide) (by decide)]
  · rw [z 5 (by decide) (by decide) (by decide) (by decide)]
  · rw [z 37 (by decide) (by decide) (by decide) (by decide)]
  · rw [z 34 (by decide) (by decide) (by decide) (by decide), S0_z (by omega) (by omega)]
  · rw [z 2 (by decide) (by decide) (by decide) (by decide), S0_z (by omega) (by omega)]
  · rw [S0_z (by omega) (by omega)]; exact (⟨by decide, by decide⟩ : Bt 0)
  · rw [z 77 (by decide) (by decide) (by decide) (by decide), S0_z (by omega) (by omega)]
  · rfl
theorem jr0 : JR S0 M0 := by
  have z : ∀ c, ¬ c = 1 → ¬ c = 78 → ¬ c = 80 → ¬ c = 114 → M0.1 c = fun _ => 0 := fun c a b d e => M0_z a b d e
  refine ⟨⟨S0_ok, ?_, vM0⟩, fun i hi => ⟨fun k hk => ?_, ?_⟩, fun i hi => ?_, ⟨rfl, rfl, rfl⟩, fun i hi => ⟨?_, ?_⟩, fun j hj => rfl⟩
  · rw [z 81 (by decide) (by decide) (by decide) (by decide), S0_z (by omega) (by omega)]
  · rw [z 82 (by decide) (by decide) (by decide) (by decide), S0_z (by omega) (by omega)]
  · rw [z 83 (by decide) (by decide) (by decide) (by decide), S0_z (by omega) (by omega)]
  · rw [z 84 (by decide) (by decide) (by decide) (by decide), S0_z (by omega) (by omega)]
  · rw [z 115 (by decide) (by decide) (by decide) (by decide), S0_z (by omega) (by omega)]
  · rfl
-- the class's moves leave the reference, and the other way
theorem JR.cl {S : St} {N N' : Mem} (h : JR S N) (f : FrCl N N') : JR S N' := by
  obtain ⟨⟨a1, a2, a3⟩, c1, d1, e1, g1, i1⟩ := h
  have w : ∀ c, 80 ≤ c → N'.1 c = N.1 c := fun c x => (f c x).1
  refine ⟨⟨a1, by rw [w 81 (by omega)]; exact a2, vM_fr (fun c x y => w _ (by omega)) a3⟩, ?_, ?_, ?_, ?_, ?_⟩
  · rw [w 82 (by omega), w 83 (by omega)]; exact c1
  · rw [w 84 (by omega)]; exact d1
  · rw [w 80 (by omega)]; exact e1
  · rw [w 114 (by omega), w 115 (by omega)]; exact g1
  · rw [(f 116 (by omega)).2]; exact i1
theorem JC.rf {S : St} {M M' : Mem} (h : JC S M) (f : FrRf M M') : JC S M' := h.sc (fun c x _ _ _ => f c x) (by rw [vX_fr (fun c x y => (f c (by omega)).1)]; exact h.2.1.2.2)
theorem Eq2.use {S : St} {fc fr : Mem → Option (Int32 × Mem)} (h : Eq2 S fc fr) {M : Mem} (hM : JC S M) (hN : JR S M) : ∃ v M1 M2 S', fc M = some (v, M1) ∧ fr M1 = some (v, M2) ∧ JC S' M2 ∧ JR S' M2 := by
  obtain ⟨v, M1, N1, S1, e1, e2, j1, j2, f1, f2⟩ := h M M hM hN
  obtain ⟨v', M1', N2, S2, e3, e4, j3, j4, f3, f4⟩ := h M M1 hM (hN.cl f1)
  have e := Option.some.inj (e1.symm.trans e3)
  obtain ⟨rfl, rfl⟩ := Prod.mk.inj e
  exact ⟨v, M1, N2, S2, e1, e4, j3.rf f4, j4⟩
theorem Eq2L.use {S : St} {fc fr : Mem → Option (Int64 × Mem)} (h : Eq2L S fc fr) {M : Mem} (hM : JC S M) (hN : JR S M) : ∃ v M1 M2 S', fc M = some (v, M1) ∧ fr M1 = some (v, M2) ∧ JC S' M2 ∧ JR S' M2 := by
  obtain ⟨v, M1, N1, S1, e1, e2, j1, j2, f1, f2⟩ := h M M hM hN
  obtain ⟨v', M1', N2, S2, e3, e4, j3, j4, f3, f4⟩ := h M M1 hM (hN.cl f1)
  have e := Option.some.inj (e1.symm.trans e3)
  obtain ⟨rfl, rfl⟩ := Prod.mk.inj e
  exact ⟨v, M1, N2, S2, e1, e4, j3.rf f4, j4⟩
