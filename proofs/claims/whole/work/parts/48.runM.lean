/-! The reference's run (base o). -/
section RunM
variable {W : Wd} {o : Nat}
def TrM (l : T3) (o : Nat) (M : Mem) : Prop := M.1 o 23 = nI l.length ∧ ∀ (b : Nat) (x : Nat × Int32 × Int32), l[b]? = some x → M.1 (o + 9) b = nI x.1 ∧ M.1 (o + 10) b = x.2.1 ∧ M.1 (o + 11) b = x.2.2
def RxM (W : Wd) (t o : Nat) (M : Mem) : Prop := ∀ s, s ≤ t → M.1 (o + 8) s = nI (rs W s).1 ∧ Reg (o + 7) (8 * s) (rs W s).2 M
def FrB (o : Nat) (M M' : Mem) : Prop := (∀ c, ¬ c = o → ¬ (o + 9 ≤ c ∧ c ≤ o + 11) → M'.1 c = M.1 c) ∧ (∀ k, ¬ k = 23 → M'.1 o k = M.1 o k) ∧ M'.2 = M.2
def FrL (o : Nat) (M M' : Mem) : Prop := (∀ c, ¬ c = o → ¬ (o + 7 ≤ c ∧ c ≤ o + 11) → M'.1 c = M.1 c) ∧ (∀ k, ¬ (20 ≤ k ∧ k ≤ 23) → M'.1 o k = M.1 o k) ∧ M'.2 = M.2
theorem FrL.rf {A : Mem} : FrL o A A := ⟨fun _ _ _ => rfl, fun _ _ => rfl, rfl⟩
theorem FrL.tr {A B C : Mem} (h : FrL o A B) (k : FrL o B C) : FrL o A C := ⟨fun c a b => (k.1 c a b).trans (h.1 c a b), fun j hj => (k.2.1 j hj).trans (h.2.1 j hj), k.2.2.trans h.2.2⟩
theorem FrB.l {A B : Mem} (h : FrB o A B) : FrL o A B := ⟨fun c a b => h.1 c a (by omega), fun j hj => h.2.1 j (by omega), h.2.2⟩
theorem FrL.w {A B : Mem} (h : FrL o A B) : B.1 (o + 1) = A.1 (o + 1) := h.1 _ (by omega) (by omega)
theorem FrL.f {k : Nat} {v : Int32} {A : Mem} (hk : 20 ≤ k ∧ k ≤ 23) : FrL o A (pI A o k v) := ⟨fun c a _ => (pI_o c a).1, fun j hj => by rw [pI_1, if_pos rfl, if_neg (by omega)], rfl⟩
theorem FrL.c {c k : Nat} {v : Int32} {A : Mem} (hc : 7 ≤ c ∧ c ≤ 11) : FrL o A (pI A (o + c) k v) := ⟨fun b b1 b2 => (pI_o b (by omega)).1, fun j hj => by rw [(pI_o o (by omega)).1], rfl⟩
theorem addM {l : T3} {M : Mem} {a : Nat} {t s : Int32} (hl : l.length < 240) (h : TrM l o M) : ∃ M', fX10_branches o (nI a) t s M = some M' ∧ TrM (l ++ [(a, t, s)]) o M' ∧ FrB o M M' := by
  unfold fX10_branches
  have e1 : ∀ v : Int32, (pI M (o + 9) l.length v).1 o 23 = nI l.length := by intro v; rw [pI_1, if_neg (by omega)]; exact h.1
  have e2 : ∀ v w : Int32, (pI (pI M (o + 9) l.length v) (o + 10) l.length w).1 o 23 = nI l.length := by intro v w; rw [pI_1, if_neg (by omega)]; exact e1 v
  have e3 : ∀ v w z : Int32, (pI (pI (pI M (o + 9) l.length v) (o + 10) l.length w) (o + 11) l.length z).1 o 23 = nI l.length := by intro v w z; rw [pI_1, if_neg (by omega)]; exact e2 v w
  rw [h.1, tn_n (by omega), e1, tn_n (by omega), e2, tn_n (by omega), e3, ib_n (show l.length < 240 from hl) (by omega), ck_t, ck_t, ck_t, nI_1]
  refine ⟨_, rfl, ⟨?_, ?_⟩, ?_, ?_, rfl⟩
  · rw [pI_1, if_pos rfl, if_pos rfl, List.length_append]; rfl
  · intro b x hx
    simp only [pI_1]
    simp only [if_neg (show ¬ (o + 9 = o) by omega), if_neg (show ¬ (o + 10 = o) by omega), if_neg (show ¬ (o + 11 = o) by omega), if_neg (show ¬ (o + 9 = o + 10) by omega), if_neg (show ¬ (o + 9 = o + 11) by omega), if_neg (show ¬ (o + 10 = o + 9) by omega), if_neg (show ¬ (o + 10 = o + 11) by omega), if_neg (show ¬ (o + 11 = o + 9) by omega), if_neg (show ¬ (o + 11 = o + 10) by omega), if_true]
    by_cases e : b < l.length
    · rw [List.getElem?_append_left e] at hx
      simp only [if_neg (show ¬ b = l.length by omega)]
      exact h.2 b x hx
    · rw [List.getElem?_append_right (by omega)] at hx
      have hb : b = l.length := by
        by_cases z : b - l.length = 0
        · omega
        · rw [List.getElem?_eq_none (by simp; omega)] at hx; cases hx
      subst hb
      rw [Nat.sub_self] at hx
      cases hx
      simp only [if_true]
      exact ⟨trivial, trivial, trivial⟩
  · intro c c1 c2
    rw [(pI_o c c1).1, (pI_o c (by omega)).1, (pI_o c (by omega)).1, (pI_o c (by omega)).1]
  · intro k hk
    rw [pI_1, if_pos rfl, if_neg hk, pI_1, if_neg (by omega), pI_1, if_neg (by omega), pI_1, if_neg (by omega)]
theorem step152 (hW : PgOk W) {t : Nat} {M : Mem} (ht : t < 200) (h20 : M.1 o 20 = nI t) (hR : RxM W t o M) (hC : Reg (o + 7) (8 * t + 8) (rs W (t + 1)).2 M) : ∃ M', fX10_step_152 o (nI (rs W (t + 1)).1) M = some M' ∧ RxM W (t + 1) o M' ∧ M'.1 o 20 = nI (t + 1) ∧ FrL o M M' ∧ M'.1 (o + 9) = M.1 (o + 9) ∧ M'.1 (o + 10) = M.1 (o + 10) ∧ M'.1 (o + 11) = M.1 (o + 11) ∧ M'.1 o 23 = M.1 o 23 := by
  unfold fX10_step_152
  have e : (pI M o 20 (M.1 o 20 + 1)).1 o 20 = nI (t + 1) := by rw [pI_1, if_pos rfl, if_pos rfl, h20, nI_1]
  rw [e, ib_n (show t + 1 < 201 by omega) (by omega), ck_t, tn_n (by omega)]
  refine ⟨_, rfl, ?_, ?_, (FrL.f (by omega)).tr (FrL.c (by omega)), ?_, ?_, ?_, ?_⟩
  · intro s hs
    by_cases e : s = t + 1
    · subst e
      refine ⟨by rw [pI_1, if_pos rfl, if_pos rfl], fun k hk => ?_⟩
      rw [pI_1, if_neg (by omega), pI_1, if_neg (by omega), show 8 * (t + 1) + k = 8 * t + 8 + k by omega]
      exact hC k hk
    · obtain ⟨z1, z2⟩ := hR s (by omega)
      refine ⟨by rw [pI_1, if_pos rfl, if_neg e, pI_1, if_neg (by omega)]; exact z1, fun k hk => ?_⟩
      rw [pI_1, if_neg (by omega), pI_1, if_neg (by omega)]
      exact z2 k hk
  · rw [pI_1, if_neg (by omega)]; exact e
  · rw [(pI_o _ (by omega)).1, (pI_o _ (by omega)).1]
  · rw [(pI_o _ (by omega)).1, (pI_o _ (by omega)).1]
  · rw [(pI_o _ (by omega)).1, (pI_o _ (by omega)).1]
  · rw [pI_1, if_neg (by omega), pI_1, if_pos rfl, if_neg (by decide)]
theorem stepM (hW : PgOk W) (hkd : (kd (o + 7)).2 = 1608) {t : Nat} (ht : t < 200) (hok : RnOk W (t + 1)) : ∀ (m k f : Nat) (M : Mem), k + m = 8 → m < f → M.1 (o + 1) = W → M.1 o 20 = nI t → RxM W t o M → TrM (tr W t) o M → (∀ j, j < k → M.1 (o + 7) (8 * t + 8 + j) = nI ((rs W t).2 j)) → ∃ M', fX10_step_15 f o (nI (rs W t).1) (nI (8 * t)) (nI (rs W t).1 + 1) (nI k) M = some M' ∧ RxM W (t + 1) o M' ∧ M'.1 o 20 = nI (t + 1) ∧ TrM (tr W (t + 1)) o M' ∧ FrL o M M' := by
  obtain ⟨c1, c2⟩ := cd_o (hok t (by omega))
  obtain ⟨b1, b2⟩ := rs_ok hW t (fun s hs => hok s (by omega))
  have hop := hW.2.2.2.1 _ c1
  intro m
  induction m with
  | zero =>
    intro k f M hm hf hw h20 hR hT hC
    have hk8 : k = 8 := by omega
    subst hk8
    cases f with
    | zero => omega
    | succ f =>
      have hC' : Reg (o + 7) (8 * t + 8) (rs W t).2 M := fun j hj => hC j hj
      unfold fX10_step_15
      rw [if_pos (show (8 : Int32) ≤ nI 8 from nI_le (a := 8) (b := 8) (by omega) (by omega)), kindM hW hw c1, bI_s, brM hop.1.2, bI_s]
      show ∃ M', (if wkI (brS W (rs W t).1) = 0 then _ else _) = some M' ∧ _
      by_cases hb : brS W (rs W t).1 = true
      · rw [if_neg (by rw [wkI_0, hb]; simp), tksM hW hw c1 hb (f := 8 * t) (by omega) b2 (hR t (by omega)).2, bI_s]
        have hbb := hb
        simp only [brS, Bool.and_eq_true, decide_eq_true_eq] at hbb
        have hd : (rs W (t + 1)).2 = (rs W t).2 := by
          show doS W (rs W t).1 (rs W t).2 = _
          unfold doS; rw [if_neg (by omega), if_neg (by omega), if_neg (by omega), if_neg (by omega), if_neg (by omega), if_neg (by omega)]
        have hl := tr_len W t
        have go : ∃ M', fX10_step_80 o (nI (rs W t).1) (nI (rs W t).1 + 1) (wkI (tkB W (rs W t).1 (rs W t).2)) o (nI (rs W t).1) (wkI (tkB W (rs W t).1 (rs W t).2)) M = some M' ∧ RxM W (t + 1) o M' ∧ M'.1 o 20 = nI (t + 1) ∧ TrM (tr W (t + 1)) o M' ∧ FrL o M M' := by
          unfold fX10_step_80
          rw [h20]
          obtain ⟨M2, e2, t2, f2⟩ := addM (o := o) (a := (rs W t).1) (t := wkI (tkB W (rs W t).1 (rs W t).2)) (s := nI t) (by omega) hT
          rw [e2, bV_s]
          have hw2 : M2.1 (o + 1) = W := by rw [f2.l.w]; exact hw
          obtain ⟨M3, e3, r3, g3, f3, a9, a10, a11, a23⟩ := step152 hW (o := o) (M := M2) ht (by rw [f2.2.1 20 (by decide)]; exact h20) (fun s hs => by
            obtain ⟨z1, z2⟩ := hR s hs
            exact ⟨by rw [f2.1 _ (by omega) (by omega)]; exact z1, fun k hk => by rw [f2.1 _ (by omega) (by omega)]; exact z2 k hk⟩) (fun k hk => by rw [f2.1 _ (by omega) (by omega), hd]; exact hC' k hk)
          have ent : (rs W (t + 1)).1 = if tkB W (rs W t).1 (rs W t).2 = true then glS W (rs W t).1 else (rs W t).1 + 1 := by
            show neS W (rs W t).1 (rs W t).2 = _
            unfold neS; rw [if_neg (by omega), if_pos hb]
          have fin : ∃ M', fX10_step_101 o (nI (rs W (t + 1)).1) M2 = some M' ∧ RxM W (t + 1) o M' ∧ M'.1 o 20 = nI (t + 1) ∧ TrM (tr W (t + 1)) o M' ∧ FrL o M M' := by
            refine ⟨M3, e3, r3, g3, ?_, f2.l.tr f3⟩
            have : tr W (t + 1) = tr W t ++ [((rs W t).1, wkI (tkB W (rs W t).1 (rs W t).2), nI t)] := if_pos hb
            rw [this]; unfold TrM
            rw [a9, a10, a11, a23]; exact t2
          by_cases ht1 : tkB W (rs W t).1 (rs W t).2 = true
          · rw [if_neg (by rw [wkI_0, ht1]; simp), goalM hW hw2 c1 (by omega), bI_s]
            rw [if_pos ht1] at ent
            rw [← ent]; exact fin
          · rw [if_pos (by rw [wkI_0]; simpa using ht1), nI_1]
            rw [if_neg ht1] at ent
            rw [← ent]; exact fin
        by_cases ht1 : tkB W (rs W t).1 (rs W t).2 = true
        · rw [if_neg (by rw [wkI_0, ht1]; simp)]
          have hw1 : wkI (tkB W (rs W t).1 (rs W t).2) = 1 := by rw [ht1]; rfl
          rw [hw1] at go ⊢
          exact go
        · rw [if_pos (by rw [wkI_0]; simpa using ht1)]
          have hw1 : wkI (tkB W (rs W t).1 (rs W t).2) = 0 := by rw [wkI_0]; simpa using ht1
          rw [hw1] at go ⊢
          exact go
      · rw [if_pos (by rw [wkI_0]; simpa using hb), kindM hW hw c1, bI_s]
        have htr : tr W (t + 1) = tr W t := if_neg hb
        have hbb := hb
        simp only [brS, Bool.and_eq_true, decide_eq_true_eq] at hbb
        have fin : ∀ (M1 : Mem) (x : Int32), x = nI (rs W (t + 1)).1 → Reg (o + 7) (8 * t + 8) (rs W (t + 1)).2 M1 → RgCh (o + 7) (8 * t + 8) M M1 → ∃ M', fX10_step_152 o x M1 = some M' ∧ RxM W (t + 1) o M' ∧ M'.1 o 20 = nI (t + 1) ∧ TrM (tr W (t + 1)) o M' ∧ FrL o M M' := by
          intro M1 x hx r1 f1
          rw [hx]
          obtain ⟨M3, e3, r3, g3, f3, a9, a10, a11, a23⟩ := step152 hW (o := o) (M := M1) ht (by rw [f1.1 o (by omega)]; exact h20) (fun s hs => by
            obtain ⟨z1, z2⟩ := hR s hs
            exact ⟨by rw [f1.1 _ (by omega)]; exact z1, fun k hk => by rw [f1.2.1 _ (by omega)]; exact z2 k hk⟩) r1
          refine ⟨M3, e3, r3, g3, ?_, FrL.tr ⟨fun c a b => f1.1 c (by omega), fun j hj => by rw [f1.1 o (by omega)], f1.2.2⟩ f3⟩
          rw [htr]; unfold TrM
          rw [a9, a10, a11, a23, f1.1 _ (by omega), f1.1 _ (by omega), f1.1 _ (by omega), f1.1 _ (by omega)]; exact hT
        by_cases h9 : KK W (rs W t).1 = 9
        · rw [if_pos (by rw [h9]; rfl), goalM hW hw c1 (by omega), bI_s]
          have hd : (rs W (t + 1)).2 = (rs W t).2 := by
            show doS W (rs W t).1 (rs W t).2 = _
            unfold doS; rw [if_neg (by omega), if_neg (by omega), if_neg (by omega), if_neg (by omega), if_neg (by omega), if_neg (by omega)]
          exact fin M _ (by show _ = nI (neS W (rs W t).1 (rs W t).2); unfold neS; rw [if_pos h9]) (by rw [hd]; exact hC') RgCh.rf
        · have hk := hop.1.2
          rw [if_neg (show ¬ nI (KK W (rs W t).1) = (9 : Int32) from kE (n := 9) (by omega) (by omega) h9), kindM hW hw c1, bI_s, show fX10_numberOf o (nI (rs W t).1) 0 M = _ from numM hW hw c1 (j := 0) (by omega), bI_s, show fX10_numberOf o (nI (rs W t).1) 1 M = _ from numM hW hw c1 (j := 1) (by omega), bI_s, show nI (8 * t) + 8 = nI (8 * t + 8) from nI_add _ 8]
          obtain ⟨M1, e1, r1, f1⟩ := obeyM hW c1 (by omega) (c := o + 7) (f := 8 * t + 8) (n := 1608) hkd (by omega) (by omega) b2 hC'
          rw [e1, bV_s]
          exact fin M1 _ (by rw [nI_1]; show _ = nI (neS W (rs W t).1 (rs W t).2); unfold neS; rw [if_neg h9, if_neg hb]) r1 f1
  | succ m ih =>
    intro k f M hm hf hw h20 hR hT hC
    cases f with
    | zero => omega
    | succ f =>
      unfold fX10_step_15
      rw [if_neg (show ¬ (8 : Int32) ≤ nI k from nI_ge (b := 8) (by omega) (by omega)), nI_add, show nI (8 * t) + 8 = nI (8 * t + 8) from nI_add _ 8, nI_add, ib_n (show 8 * t + k < 1608 by omega) (by omega), ck_t, ib_n (show 8 * t + 8 + k < 1608 by omega) (by omega), ck_t, tn_n (by omega), tn_n (by omega), nI_1 k]
      have fz : FrL o M (pI M (o + 7) (8 * t + 8 + k) (M.1 (o + 7) (8 * t + k))) := FrL.c (by omega)
      obtain ⟨M2, e2, a, b, c, d⟩ := ih (k + 1) f (pI M (o + 7) (8 * t + 8 + k) (M.1 (o + 7) (8 * t + k))) (by omega) (by omega) (by rw [fz.w]; exact hw) (by rw [pI_1, if_neg (by omega)]; exact h20) (fun s hs => by
        obtain ⟨z1, z2⟩ := hR s hs
        exact ⟨by rw [pI_1, if_neg (by omega)]; exact z1, fun j hj => by rw [pI_1, if_pos rfl, if_neg (by omega)]; exact z2 j hj⟩) (by
        unfold TrM
        rw [(pI_o _ (by omega)).1, (pI_o _ (by omega)).1, (pI_o _ (by omega)).1, (pI_o _ (by omega)).1]; exact hT) (fun j hj => by
        rw [pI_1, if_pos rfl]
        by_cases e : j = k
        · subst e; rw [if_pos rfl]; exact (hR t (by omega)).2 j (by omega)
        · rw [if_neg (by omega)]; exact hC j (by omega))
      exact ⟨M2, e2, a, b, c, fz.tr d⟩
end RunM
