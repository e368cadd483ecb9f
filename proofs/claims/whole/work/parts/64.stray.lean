/-! Public methods, both sides: strays, stray. -/
section Stray
variable {S : St} {M N : Mem} {W : Wd}
theorem tr_at : ∀ t b, b < (tr W t).length → ∃ s, s < t ∧ (tr W t)[b]? = some ((rs W s).1, wkI (tkB W (rs W s).1 (rs W s).2), nI s) ∧ brS W (rs W s).1 = true := by
  intro t
  induction t with
  | zero => intro b hb; exact absurd hb (Nat.not_lt_zero _)
  | succ t ih =>
    intro b hb
    by_cases hc : brS W (rs W t).1 = true
    · have e : tr W (t + 1) = tr W t ++ [((rs W t).1, wkI (tkB W (rs W t).1 (rs W t).2), nI t)] := if_pos hc
      rw [e] at hb ⊢
      by_cases h : b < (tr W t).length
      · obtain ⟨s, s1, s2, s3⟩ := ih b h
        exact ⟨s, by omega, by rw [List.getElem?_append_left h]; exact s2, s3⟩
      · rw [List.length_append] at hb
        have : b = (tr W t).length := by simp at hb; omega
        subst this
        refine ⟨t, by omega, ?_, hc⟩
        rw [List.getElem?_append_right (Nat.le_refl _), Nat.sub_self]; rfl
    · have e : tr W (t + 1) = tr W t := if_neg hc
      rw [e] at hb ⊢
      obtain ⟨s, s1, s2, s3⟩ := ih b hb
      exact ⟨s, by omega, s2, s3⟩
theorem plainM (hW : PgOk W) (hN : N.1 (80 + 1) = W) {i : Nat} (hi : i ≤ 40) : fX10_isPlain 80 (nI i) N = some (wkI (cdS W i && !brS W i), N) := by
  have hO := hW.2.1.2
  unfold fX10_isPlain
  rw [isOpM hW hN, bI_s, if_wk]
  by_cases hc : i < nO W
  · have hcc : (0 : Int32) ≤ nI i ∧ nI i < nI (nO W) := ⟨nI_pos' (by omega), nI_lt hc (by omega)⟩
    have hk := (hW.2.2.2.1 i hc).1.2
    rw [wif_t (by simpa using hcc), kindM hW hN hc, bI_s, brM hk, bI_s, kindM hW hN hc, bI_s]
    show (if wkI (brS W i) = 0 then _ else _) = _
    by_cases hb : brS W i = true
    · rw [wif_t hb, hb]; simp [wkI]
    · rw [wif_f hb]
      by_cases h10 : KK W i = 10
      · rw [if_pos (by rw [h10]; rfl)]; simp [cdS, h10, wkI]
      · rw [if_neg (show ¬ nI (KK W i) = (10 : Int32) from kE (n := 10) (by omega) (by omega) h10)]
        simp [cdS, hc, h10, hb, wkI]
  · have hcc : ¬ ((0 : Int32) ≤ nI i ∧ nI i < nI (nO W)) := fun z => nI_nlt (show nO W ≤ i by omega) (by omega) z.2
    rw [wif_f (by simpa using hcc)]
    simp [cdS, hc, wkI]
theorem l_wan (hW : PgOk W) {L : Nat} (hL : L < 1000) : ∀ (m c f i : Nat) (r : Rg) (M N : Mem), c + m = L → m < f → i ≤ 40 → RgOk r → Tk W 9 M → M.1 10 4 = nI L → N.1 (80 + 1) = W → W 4 = nI L → Reg 38 0 r M → Reg 112 0 r N → ∃ v r' M' N', fX4_wander_49 f 35 9 (nI i) (nI c) M = some (v, M') ∧ fX10_goAstray_72 f 80 (nI i) (nI c) N = some (v, N') ∧ Reg 38 0 r' M' ∧ Reg 112 0 r' N' ∧ (∀ b, ¬ b = 38 → M'.1 b = M.1 b) ∧ M'.2 = M.2 ∧ (∀ b, ¬ b = 112 → N'.1 b = N.1 b) ∧ N'.2 = N.2 := by
  have hO := hW.2.1.2
  intro m
  induction m with
  | zero =>
    intro c f i r M N hm hf hi hr hT h4 hN hw hR hQ
    cases f with
    | zero => omega
    | succ f =>
      unfold fX4_wander_49 fX10_goAstray_72
      rw [show ib (4 : Int32) 6 = true from rfl, ck_t, show ib (4 : Int32) 215 = true from rfl, ck_t, show tn (4 : Int32) = 4 from rfl, show M.1 (9 + 1) 4 = _ from h4, hN, hw, if_pos (nI_le (by omega) (by omega)), if_pos (nI_le (by omega) (by omega))]
      exact ⟨_, r, M, N, rfl, rfl, hR, hQ, fun _ _ => rfl, rfl, fun _ _ => rfl, rfl⟩
  | succ m ih =>
    intro c f i r M N hm hf hi hr hT h4 hN hw hR hQ
    cases f with
    | zero => omega
    | succ f =>
      unfold fX4_wander_49 fX10_goAstray_72
      rw [show ib (4 : Int32) 6 = true from rfl, ck_t, show ib (4 : Int32) 215 = true from rfl, ck_t, show tn (4 : Int32) = 4 from rfl, show M.1 (9 + 1) 4 = _ from h4, show N.1 (80 + 1) 4 = nI L by rw [hN]; exact hw, if_neg (nI_ge (by omega) (by omega)), if_neg (nI_ge (by omega) (by omega)), canDoX hW hT (by omega), bI_s, plainM hW hN hi, bI_s]
      show ∃ v r' M' N', (if wkI (cdS W i) = 0 then _ else _) = some (v, M') ∧ _
      by_cases hc : cdS W i = true
      · obtain ⟨c1, c2⟩ := cd_o hc
        have hk := (hW.2.2.2.1 i c1).1.2
        rw [wif_t hc, brX hW hT c1, bI_s]
        by_cases hb : brS W i = true
        · rw [wif_t hb, wif_f (by rw [hb]; simp)]
          exact ⟨_, r, M, N, rfl, rfl, hR, hQ, fun _ _ => rfl, rfl, fun _ _ => rfl, rfl⟩
        · have hb' : brS W i = false := by simpa using hb
          obtain ⟨M1, e1, r1, f1⟩ := performX hW hT c1 c2 (c := 38) (f := 0) (n := 8) rfl (by omega) (by omega) hr hR
          rw [wif_f hb, wif_t (by rw [hc, hb']; rfl), show fX7_perform 9 (nI i) (35 + 3) 0 M = _ from e1, bI_s, kindM hW hN c1, bI_s, nI_1]
          have go : ∀ N1 : Mem, Reg 112 0 (doS W i r) N1 → RgCh 112 0 N N1 → ∃ v r' M' N', fX4_wander_49 f 35 9 (nI (neS W i r)) (nI (c + 1)) M1 = some (v, M') ∧ fX10_goAstray_72 f 80 (nI (neS W i r)) (nI (c + 1)) N1 = some (v, N') ∧ Reg 38 0 r' M' ∧ Reg 112 0 r' N' ∧ (∀ b, ¬ b = 38 → M'.1 b = M.1 b) ∧ M'.2 = M.2 ∧ (∀ b, ¬ b = 112 → N'.1 b = N.1 b) ∧ N'.2 = N.2 := by
            intro N1 s1 g1
            obtain ⟨v, r', M2, N2, x1, x2, x3, x4, x5, x6, x7, x8⟩ := ih (c + 1) f (neS W i r) (doS W i r) M1 N1 (by omega) (by omega) (ne_le hW c1 c2) (do_ok (hW.2.2.2.1 i c1) hr) (hT.fr (f1.1 _ (by decide)) (f1.1 _ (by decide)) (f1.1 _ (by decide))) (by rw [f1.1 10 (by decide)]; exact h4) (by rw [g1.1 _ (by decide)]; exact hN) hw r1 s1
            exact ⟨v, r', M2, N2, x1, x2, x3, x4, fun b hb => by rw [x5 b hb, f1.1 b hb], by rw [x6, f1.2.2], fun b hb => by rw [x7 b hb, g1.1 b hb], by rw [x8, g1.2.2]⟩
          by_cases h9 : KK W i = 9
          · have hd : doS W i r = r := by unfold doS; simp [h9]
            rw [if_pos (by rw [h9]; rfl)]
            unfold fX10_goAstray_126 fX10_goAstray_147
            rw [kindM hW hN c1, bI_s, if_pos (by rw [h9]; rfl), goalM hW hN c1 (by omega), bI_s, nI_1, show glS W i = neS W i r by unfold neS; rw [if_pos h9]]
            exact go N (by rw [hd]; exact hQ) RgCh.rf
          · have hbb := hb
            simp only [brS, Bool.and_eq_true, decide_eq_true_eq] at hbb
            rw [if_neg (show ¬ nI (KK W i) = (9 : Int32) from kE (n := 9) (by omega) (by omega) h9), kindM hW hN c1, bI_s, show fX10_numberOf 80 (nI i) 0 N = _ from numM hW hN c1 (j := 0) (by omega), bI_s, show fX10_numberOf 80 (nI i) 1 N = _ from numM hW hN c1 (j := 1) (by omega), bI_s]
            obtain ⟨N1, e2, s1, g1⟩ := obeyM hW c1 (by omega) (c := 112) (f := 0) (n := 8) rfl (by omega) (by omega) hr hQ
            rw [show fX10_obey (nI (KK W i)) (W (16 + 4 * i + 0)) (W (16 + 4 * i + 1)) (80 + 32) 0 N = _ from e2, bV_s]
            have hN1 : N1.1 (80 + 1) = W := by rw [g1.1 _ (by decide)]; exact hN
            unfold fX10_goAstray_126 fX10_goAstray_147
            rw [kindM hW hN1 c1, bI_s, if_neg (show ¬ nI (KK W i) = (9 : Int32) from kE (n := 9) (by omega) (by omega) h9), nI_1, nI_1, show i + 1 = neS W i r by unfold neS; rw [if_neg h9, if_neg hb]]
            exact go N1 s1 g1
      · have hc' : cdS W i = false := by simpa using hc
        rw [wif_f hc, wif_f (by rw [hc']; simp)]
        exact ⟨_, r, M, N, rfl, rfl, hR, hQ, fun _ _ => rfl, rfl, fun _ _ => rfl, rfl⟩
end Stray
