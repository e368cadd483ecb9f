/-! The reference's laying of a whole run, and the acts behind it. -/
section LayM
variable {W : Wd} {o : Nat}
theorem TrM.f {l : T3} {M : Mem} {k : Nat} {v : Int32} (h : TrM l o M) (hk : ¬ k = 23) : TrM l o (pI M o k v) := ⟨by rw [pI_1, if_pos rfl, if_neg (by omega)]; exact h.1, fun b x hx => by rw [(pI_o (o + 9) (by omega)).1, (pI_o (o + 10) (by omega)).1, (pI_o (o + 11) (by omega)).1]; exact h.2 b x hx⟩
def enS (W : Wd) (t : Nat) : Nat := if t = 200 then 3 else if (rs W t).1 < nO W then (if KK W (rs W t).1 = 10 then 1 else 0) else 2
theorem enS_0 {t : Nat} (ht : t ≤ 200) : enS W t = 0 ↔ (t < 200 ∧ cdS W (rs W t).1 = true) := by
  unfold enS cdS
  by_cases h : t = 200
  · rw [if_pos h]; simp; omega
  · rw [if_neg h]
    by_cases h1 : (rs W t).1 < nO W
    · rw [if_pos h1]
      by_cases h2 : KK W (rs W t).1 = 10
      · rw [if_pos h2]; simp [h2]
      · rw [if_neg h2]; simp [h1, h2]; omega
    · rw [if_neg h1]; simp [h1]
theorem enS_y {t : Nat} (h : ¬ enS W t = 0) : enS W t = yS W t := by
  unfold enS yS at *
  by_cases h0 : t = 200
  · rw [if_pos h0, if_pos h0]
  · rw [if_neg h0] at h ⊢
    rw [if_neg h0]
    by_cases h1 : (rs W t).1 < nO W
    · rw [if_pos h1] at h ⊢
      rw [if_pos h1]
      by_cases h2 : KK W (rs W t).1 = 10
      · rw [if_pos h2]
      · rw [if_neg h2] at h; exact absurd rfl h
    · rw [if_neg h1, if_neg h1]
theorem enS_lt (t : Nat) : enS W t < 4 := by
  unfold enS
  split
  · omega
  · split
    · split <;> omega
    · omega
theorem endM (hW : PgOk W) {t : Nat} {M : Mem} (ht : t ≤ 200) (hle : (rs W t).1 ≤ 40) (hw : M.1 (o + 1) = W) (h20 : M.1 o 20 = nI t) (hR : RxM W t o M) : fX10_endNow o M = some (nI (enS W t), M) := by
  unfold fX10_endNow enS
  have hO := hW.2.1.2
  rw [h20]
  by_cases h2 : t = 200
  · rw [if_pos (by rw [h2]; rfl), if_pos h2]; rfl
  · rw [if_neg (show ¬ nI t = (200 : Int32) from kE (n := 200) (by omega) (by omega) h2), if_neg h2, ib_n (show t < 201 by omega) (by omega), ck_t, tn_n (by omega), (hR t (by omega)).1, isOpM hW hw, bI_s]
    by_cases hc : (rs W t).1 < nO W
    · have hcc : (0 : Int32) ≤ nI (rs W t).1 ∧ nI (rs W t).1 < nI (nO W) := ⟨nI_pos' (by omega), nI_lt hc (by omega)⟩
      rw [show (if (0 : Int32) ≤ nI (rs W t).1 ∧ nI (rs W t).1 < nI (nO W) then (1 : Int32) else 0) = 1 from if_pos hcc, if_neg (by decide), if_pos hc, h20, ib_n (show t < 201 by omega) (by omega), ck_t, tn_n (by omega), (hR t (by omega)).1, kindM hW hw hc, bI_s]
      have hk := (hW.2.2.2.1 _ hc).1.2
      by_cases h10 : KK W (rs W t).1 = 10
      · rw [if_pos (by rw [h10]; rfl), if_pos h10]; rfl
      · rw [if_neg (show ¬ nI (KK W (rs W t).1) = (10 : Int32) from kE (n := 10) (by omega) (by omega) h10), if_neg h10]; rfl
    · have hcc : ¬ ((0 : Int32) ≤ nI (rs W t).1 ∧ nI (rs W t).1 < nI (nO W)) := fun z => nI_nlt (show nO W ≤ (rs W t).1 by omega) (by omega) z.2
      rw [show (if (0 : Int32) ≤ nI (rs W t).1 ∧ nI (rs W t).1 < nI (nO W) then (1 : Int32) else 0) = 0 from if_neg hcc, if_pos rfl, if_neg hc]; rfl
-- the acts told, as branches
def acS (W : Wd) (n : Nat) : T3 := (List.range n).map fun i => (AA W i / 2, nI (AA W i % 2), -1)
theorem acS_s (n : Nat) : acS W (n + 1) = acS W n ++ [(AA W n / 2, nI (AA W n % 2), -1)] := by
  unfold acS; rw [List.range_succ, List.map_append]; rfl
theorem acS_len (n : Nat) : (acS W n).length = n := by unfold acS; simp
def allS (W : Wd) : T3 := tr W (nS W) ++ acS W (nA W)
theorem nS_ok (W : Wd) : RnOk W (nS W) ∧ nS W ≤ 200 ∧ (nS W = 200 ∨ cdS W (rs W (nS W)).1 = false) := by
  obtain ⟨a, b, c, d⟩ := rn_ok W 200 0 (fun s hs => by omega)
  exact ⟨a, by unfold nS; omega, d.imp (fun e => by unfold nS; omega) id⟩
theorem all_len (hW : PgOk W) : (allS W).length ≤ 240 := by
  have h1 := tr_len W (nS W)
  have h2 := (nS_ok W).2.1
  have h3 := hW.2.2.1.2
  unfold allS
  rw [List.length_append, acS_len]; omega
theorem actsM (hW : PgOk W) : ∀ (m i f : Nat) (M : Mem), i + m = nA W → m < f → M.1 (o + 1) = W → TrM (tr W (nS W) ++ acS W i) o M → ∃ M', fX10_layRun_87 f o (nI i) M = some M' ∧ TrM (allS W) o M' ∧ FrB o M M' := by
  have hA := hW.2.2.1.2
  intro m
  induction m with
  | zero =>
    intro i f M hm hf hw hT
    cases f with
    | zero => omega
    | succ f =>
      unfold fX10_layRun_87
      rw [show ib (8 : Int32) 215 = true from rfl, ck_t, show tn (8 : Int32) = 8 from rfl, hw, hW.2.2.1.1, if_pos (nI_le (by omega) (by omega))]
      have : i = nA W := by omega
      subst this
      exact ⟨M, rfl, hT, fun _ _ _ => rfl, fun _ _ => rfl, rfl⟩
  | succ m ih =>
    intro i f M hm hf hw hT
    cases f with
    | zero => omega
    | succ f =>
      obtain ⟨a1, a2⟩ := hW.2.2.2.2 i (by omega)
      unfold fX10_layRun_87
      rw [show ib (8 : Int32) 215 = true from rfl, ck_t, show tn (8 : Int32) = 8 from rfl, hw, hW.2.2.1.1, if_neg (nI_ge (by omega) (by omega)), show (175 : Int32) + nI i = nI (175 + i) from nI_add 175 i, ib_n (show 175 + i < 215 by omega) (by omega), ck_t, ck_t, tn_n (by omega), a1, show nI (AA W i) / 2 = nI (AA W i / 2) from pk_div (d := 2) (by omega) (by omega) (by omega), show irm (nI (AA W i)) 2 = nI (AA W i % 2) from pk_rem (d := 2) (by omega) (by omega) (by omega)]
      have hl : (tr W (nS W) ++ acS W i).length < 240 := by
        have h1 := tr_len W (nS W)
        have h2 := (nS_ok W).2.1
        rw [List.length_append, acS_len]; omega
      obtain ⟨M1, e1, t1, f1⟩ := addM (o := o) (a := AA W i / 2) (t := nI (AA W i % 2)) (s := -1) hl hT
      rw [e1, bV_s, nI_1]
      obtain ⟨M2, e2, t2, f2⟩ := ih (i + 1) f M1 (by omega) (by omega) (by rw [f1.l.w]; exact hw) (by rw [acS_s, ← List.append_assoc]; exact t1)
      exact ⟨M2, e2, t2, fun c a b => (f2.1 c a b).trans (f1.1 c a b), fun k hk => (f2.2.1 k hk).trans (f1.2.1 k hk), f2.2.2.trans f1.2.2⟩
-- what the reference keeps of a laid run
def LyM (W : Wd) (o : Nat) (M : Mem) : Prop := M.1 o 20 = nI (nS W) ∧ M.1 o 21 = nI (yS W (nS W)) ∧ M.1 o 22 = nI (tr W (nS W)).length ∧ RxM W (nS W) o M ∧ TrM (allS W) o M
theorem lay46 (hW : PgOk W) (hkd : (kd (o + 7)).2 = 1608) : ∀ (m t f : Nat) (M : Mem), t + m = 200 → m < f → nS W = rn W m t → RnOk W t → M.1 (o + 1) = W → M.1 o 20 = nI t → M.1 o 21 = nI (enS W t) → RxM W t o M → TrM (tr W t) o M → ∃ M', fX10_layRun_46 f o M = some M' ∧ LyM W o M' ∧ FrL o M M' := by
  have hA := hW.2.2.1.2
  have fin : ∀ (t : Nat) (M : Mem), t ≤ 200 → nS W = t → ¬ enS W t = 0 → M.1 (o + 1) = W → M.1 o 20 = nI t → M.1 o 21 = nI (enS W t) → RxM W t o M → TrM (tr W t) o M → ∃ M', fX10_layRun_87 LF o 0 (pI M o 22 (M.1 o 23)) = some M' ∧ LyM W o M' ∧ FrL o M M' := by
    intro t M ht hn he hw h20 h21 hR hT
    subst hn
    have fz : FrL o M (pI M o 22 (M.1 o 23)) := FrL.f (by omega)
    obtain ⟨M2, e2, t2, f2⟩ := actsM hW (nA W) 0 LF (pI M o 22 (M.1 o 23)) (by omega) (by unfold LF; omega) (by rw [fz.w]; exact hw) (by
      have : tr W (nS W) ++ acS W 0 = tr W (nS W) := by show tr W (nS W) ++ [] = _; simp
      rw [this]
      exact hT.f (by decide))
    refine ⟨M2, e2, ⟨?_, ?_, ?_, ?_, t2⟩, fz.tr f2.l⟩
    · rw [f2.2.1 _ (by decide), pI_1, if_pos rfl, if_neg (by decide)]; exact h20
    · rw [f2.2.1 _ (by decide), pI_1, if_pos rfl, if_neg (by decide), h21, enS_y he]
    · rw [f2.2.1 _ (by decide), pI_1, if_pos rfl, if_pos rfl]; exact hT.1
    · intro s hs
      obtain ⟨z1, z2⟩ := hR s hs
      exact ⟨by rw [f2.1 _ (by omega) (by omega), pI_1, if_neg (by omega)]; exact z1, fun k hk => by rw [f2.1 _ (by omega) (by omega), pI_1, if_neg (by omega)]; exact z2 k hk⟩
  intro m
  induction m with
  | zero =>
    intro t f M hm hf hn hok hw h20 h21 hR hT
    cases f with
    | zero => omega
    | succ f =>
      have he : ¬ enS W t = 0 := by rw [enS_0 (by omega)]; omega
      unfold fX10_layRun_46
      rw [h21, if_neg (show ¬ nI (enS W t) = (0 : Int32) from kE (n := 0) (by have := enS_lt (W := W) t; omega) (by omega) he)]
      exact fin t M (by omega) hn he hw h20 h21 hR hT
  | succ m ih =>
    intro t f M hm hf hn hok hw h20 h21 hR hT
    cases f with
    | zero => omega
    | succ f =>
      unfold fX10_layRun_46
      unfold rn at hn
      by_cases hc : cdS W (rs W t).1 = true
      · have he : enS W t = 0 := by rw [enS_0 (by omega)]; exact ⟨by omega, hc⟩
        rw [if_pos hc] at hn
        have hok' : RnOk W (t + 1) := fun s hs => by
          by_cases e : s = t
          · rw [e]; exact hc
          · exact hok s (by omega)
        rw [h21, he, if_pos (show nI 0 = (0 : Int32) from rfl), h20, ib_n (show t < 201 by omega) (by omega), ck_t, tn_n (by omega), (hR t (by omega)).1]
        unfold fX10_step
        rw [h20, show (8 : Int32) * nI t = nI (8 * t) from pk_mul 8 t]
        obtain ⟨M1, e1, r1, g1, t1, f1⟩ := stepM hW hkd (by omega) hok' 8 0 LF M (by omega) (by unfold LF; omega) hw h20 hR hT (fun j hj => by omega)
        rw [show fX10_step_15 LF o (nI (rs W t).1) (nI (8 * t)) (nI (rs W t).1 + 1) 0 M = _ from e1, bV_s]
        have hw1 : M1.1 (o + 1) = W := by rw [f1.w]; exact hw
        rw [endM hW (show t + 1 ≤ 200 by omega) (rs_ok hW _ hok').1 hw1 g1 r1, bI_s]
        have fz : FrL o M1 (pI M1 o 21 (nI (enS W (t + 1)))) := FrL.f (by omega)
        obtain ⟨M2, e2, l2, f2⟩ := ih (t + 1) f (pI M1 o 21 (nI (enS W (t + 1)))) (by omega) (by omega) hn hok' (by rw [fz.w]; exact hw1) (by rw [pI_1, if_pos rfl, if_neg (by decide)]; exact g1) (by rw [pI_1, if_pos rfl, if_pos rfl]) (fun s hs => by
          obtain ⟨z1, z2⟩ := r1 s hs
          exact ⟨by rw [pI_1, if_neg (by omega)]; exact z1, fun k hk => by rw [pI_1, if_neg (by omega)]; exact z2 k hk⟩) (t1.f (by decide))
        exact ⟨M2, e2, l2, (f1.tr fz).tr f2⟩
      · have he : ¬ enS W t = 0 := by rw [enS_0 (by omega)]; intro z; exact hc z.2
        rw [if_neg hc] at hn
        rw [h21, if_neg (show ¬ nI (enS W t) = (0 : Int32) from kE (n := 0) (by have := enS_lt (W := W) t; omega) (by omega) he)]
        exact fin t M (by omega) hn he hw h20 h21 hR hT
theorem lay19 (hW : PgOk W) (hkd : (kd (o + 7)).2 = 1608) : ∀ (m k f : Nat) (M : Mem), k + m = 8 → m < f → M.1 (o + 1) = W → M.1 o 20 = 0 → M.1 o 23 = 0 → M.1 (o + 8) 0 = 0 → (∀ j, j < k → M.1 (o + 7) j = 0) → ∃ M', fX10_layRun_19 f o (nI k) M = some M' ∧ LyM W o M' ∧ FrL o M M' := by
  intro m
  induction m with
  | zero =>
    intro k f M hm hf hw h20 h23 h8 h7
    cases f with
    | zero => omega
    | succ f =>
      unfold fX10_layRun_19
      have hR : RxM W 0 o M := by
        intro s hs
        have : s = 0 := by omega
        subst this
        exact ⟨h8, fun j hj => by rw [show 8 * 0 + j = j by omega]; exact h7 j (by omega)⟩
      rw [if_pos (show (8 : Int32) ≤ nI k from nI_le (a := 8) (by omega) (by omega)), endM hW (t := 0) (by omega) (Nat.zero_le _) hw h20 hR, bI_s]
      have fz : FrL o M (pI M o 21 (nI (enS W 0))) := FrL.f (by omega)
      obtain ⟨M2, e2, l2, f2⟩ := lay46 hW hkd 200 0 LF (pI M o 21 (nI (enS W 0))) (by omega) (by unfold LF; omega) rfl (fun s hs => by omega) (by rw [fz.w]; exact hw) (by rw [pI_1, if_pos rfl, if_neg (by decide)]; exact h20) (by rw [pI_1, if_pos rfl, if_pos rfl]) (fun s hs => by
          obtain ⟨z1, z2⟩ := hR s hs
          exact ⟨by rw [pI_1, if_neg (by omega)]; exact z1, fun k hk => by rw [pI_1, if_neg (by omega)]; exact z2 k hk⟩) ⟨by rw [pI_1, if_pos rfl, if_neg (by decide)]; exact h23, fun b x hx => by cases hx⟩
      exact ⟨M2, e2, l2, fz.tr f2⟩
  | succ m ih =>
    intro k f M hm hf hw h20 h23 h8 h7
    cases f with
    | zero => omega
    | succ f =>
      unfold fX10_layRun_19
      rw [if_neg (show ¬ (8 : Int32) ≤ nI k from nI_ge (b := 8) (by omega) (by omega)), ib_n (show k < 1608 by omega) (by omega), ck_t, tn_n (by omega), nI_1]
      have fz : FrL o M (pI M (o + 7) k 0) := FrL.c (by omega)
      obtain ⟨M2, e2, l2, f2⟩ := ih (k + 1) f (pI M (o + 7) k 0) (by omega) (by omega) (by rw [fz.w]; exact hw) (by rw [pI_1, if_neg (by omega)]; exact h20) (by rw [pI_1, if_neg (by omega)]; exact h23) (by rw [pI_1, if_neg (by omega)]; exact h8) (fun j hj => by
        rw [pI_1, if_pos rfl]
        by_cases e : j = k
        · rw [if_pos e]
        · rw [if_neg e]; exact h7 j (by omega))
      exact ⟨M2, e2, l2, fz.tr f2⟩
theorem layM (hW : PgOk W) (hkd : (kd (o + 7)).2 = 1608) {M : Mem} (hw : M.1 (o + 1) = W) : ∃ M', fX10_layRun o M = some M' ∧ LyM W o M' ∧ FrL o M M' := by
  unfold fX10_layRun
  rw [show ib (0 : Int32) 201 = true from rfl, ck_t, show tn (0 : Int32) = 0 from rfl]
  have fz : FrL o M (pI (pI (pI M o 20 0) o 23 0) (o + 8) 0 0) := ((FrL.f (by omega)).tr (FrL.f (by omega))).tr (FrL.c (by omega))
  obtain ⟨M2, e2, l2, f2⟩ := lay19 hW hkd 8 0 LF (pI (pI (pI M o 20 0) o 23 0) (o + 8) 0 0) (by omega) (by unfold LF; omega) (by rw [fz.w]; exact hw) (by rw [pI_1, if_neg (by omega), pI_1, if_pos rfl, if_neg (by decide), pI_1, if_pos rfl, if_pos rfl]) (by rw [pI_1, if_neg (by omega), pI_1, if_pos rfl, if_pos rfl]) (by rw [pI_1, if_pos rfl, if_pos rfl]) (fun j hj => by omega)
  exact ⟨M2, e2, l2, fz.tr f2⟩
end LayM
