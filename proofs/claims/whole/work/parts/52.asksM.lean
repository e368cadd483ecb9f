/-! The reference lays, asks, asks at a moment. -/
section AsksM
variable {W : Wd} {o : Nat}
def FrK (o : Nat) (M M' : Mem) : Prop := (∀ c, ¬ c = o → ¬ (o + 7 ≤ c ∧ c ≤ o + 31) → M'.1 c = M.1 c) ∧ (∀ k, ¬ (20 ≤ k ∧ k ≤ 26) → ¬ (37 ≤ k ∧ k ≤ 55) → M'.1 o k = M.1 o k) ∧ (∀ c k, ¬ (c = o ∧ k = 41) → M'.2 c k = M.2 c k)
theorem FrK.rf {M : Mem} : FrK o M M := ⟨fun _ _ _ => rfl, fun _ _ _ => rfl, fun _ _ _ => rfl⟩
theorem FrK.tr {A B C : Mem} (h : FrK o A B) (k : FrK o B C) : FrK o A C := ⟨fun c a b => (k.1 c a b).trans (h.1 c a b), fun j a b => (k.2.1 j a b).trans (h.2.1 j a b), fun c j a => (k.2.2 c j a).trans (h.2.2 c j a)⟩
theorem FrL.k {A B : Mem} (h : FrL o A B) : FrK o A B := ⟨fun c a b => h.1 c a (by omega), fun j a _ => h.2.1 j (by omega), fun c j _ => by rw [h.2.2]⟩
theorem FrM.k {A B : Mem} (h : FrM o A B) : FrK o A B := ⟨fun c a b => h.1 c a (by omega), fun j _ b => h.2.1 j (by omega), fun c j a => h.2.2 c j a⟩
theorem FrK.w {A B : Mem} (h : FrK o A B) : B.1 (o + 1) = A.1 (o + 1) := h.1 _ (by omega) (by omega)
def FrTd (o : Nat) (M M' : Mem) : Prop := (∀ c, ¬ c = o → ¬ c = o + 12 → M'.1 c = M.1 c) ∧ (∀ k, ¬ (25 ≤ k ∧ k ≤ 26) → M'.1 o k = M.1 o k) ∧ M'.2 = M.2
theorem FrTd.k {A B : Mem} (h : FrTd o A B) : FrK o A B := ⟨fun c a b => h.1 c a (by omega), fun j a _ => h.2.1 j (by omega), fun c j _ => by rw [h.2.2]⟩
theorem toldLoop (hW : PgOk W) : ∀ (m t f : Nat) (M : Mem), t + m = nT W + 1 → 1 ≤ t → m < f → M.1 (o + 1) = W → (∀ s, 1 ≤ s → s < t → M.1 (o + 12) s = W (9 + s)) → ∃ M', fX10_asTold_17 f o (nI t) M = some M' ∧ (∀ s, 1 ≤ s → s ≤ nT W → M'.1 (o + 12) s = W (9 + s)) ∧ (∀ c, ¬ c = o + 12 → M'.1 c = M.1 c) ∧ M'.2 = M.2 := by
  have hn := hW.1.2
  intro m
  induction m with
  | zero =>
    intro t f M hm h1 hf hw hS
    cases f with
    | zero => omega
    | succ f =>
      unfold fX10_asTold_17 fX10_tables
      rw [show ib (6 : Int32) 215 = true from rfl, ck_t, bI_s, show tn (6 : Int32) = 6 from rfl, hw, hW.1.1, if_pos (nI_lt (by omega) (by omega))]
      exact ⟨M, rfl, fun s a b => hS s a (by omega), fun _ _ => rfl, rfl⟩
  | succ m ih =>
    intro t f M hm h1 hf hw hS
    cases f with
    | zero => omega
    | succ f =>
      unfold fX10_asTold_17 fX10_tables
      rw [show ib (6 : Int32) 215 = true from rfl, ck_t, bI_s, show tn (6 : Int32) = 6 from rfl, hw, hW.1.1, if_neg (nI_nlt (by omega) (by omega)), show (10 : Int32) + nI t = nI (10 + t) from nI_add 10 t, show nI (10 + t) - 1 = nI (10 + t - 1) from pk_sub (b := 1) (by omega), show 10 + t - 1 = 9 + t by omega, ib_n (show 9 + t < 215 by omega) (by omega), ck_t, ib_n (show t < 6 by omega) (by omega), ck_t, tn_n (by omega), tn_n (by omega), nI_1]
      obtain ⟨M2, e2, a, b, c⟩ := ih (t + 1) f (pI M (o + 12) t (W (9 + t))) (by omega) (by omega) (by omega) (by rw [(pI_o _ (by omega)).1]; exact hw) (fun s s1 s2 => by
        rw [pI_1, if_pos rfl]
        by_cases e : s = t
        · rw [if_pos e, e]
        · rw [if_neg e]; exact hS s s1 (by omega))
      exact ⟨M2, e2, a, fun c hc => by rw [b c hc, (pI_o c hc).1], c⟩
theorem toldM (hW : PgOk W) {M : Mem} (hw : M.1 (o + 1) = W) : ∃ M', fX10_asTold o M = some M' ∧ (HdOk W → KM (cfW W) o M') ∧ M'.1 o 25 = W 5 ∧ M'.1 o 26 = 0 ∧ (∀ s, 1 ≤ s → s ≤ nT W → M'.1 (o + 12) s = W (9 + s)) ∧ FrTd o M M' := by
  unfold fX10_asTold
  rw [show ib (5 : Int32) 215 = true from rfl, ck_t, show tn (5 : Int32) = 5 from rfl, hw]
  generalize hM1 : pI (pI M o 25 (W 5)) o 26 0 = M1
  have a1 : ∀ c, ¬ c = o → M1.1 c = M.1 c := fun c hc => by rw [← hM1, (pI_o c hc).1, (pI_o c hc).1]
  have a2 : M1.2 = M.2 := by rw [← hM1]; rfl
  have a3 : ∀ k, ¬ (25 ≤ k ∧ k ≤ 26) → M1.1 o k = M.1 o k := fun k hk => by rw [← hM1, pI_1, if_pos rfl, if_neg (by omega), pI_1, if_pos rfl, if_neg (by omega)]
  have a4 : M1.1 o 25 = W 5 := by rw [← hM1, pI_1, if_pos rfl, if_neg (by decide), pI_1, if_pos rfl, if_pos rfl]
  have a5 : M1.1 o 26 = 0 := by rw [← hM1, pI_1, if_pos rfl, if_pos rfl]
  have hw1 : M1.1 (o + 1) = W := by rw [a1 _ (by omega)]; exact hw
  obtain ⟨M2, e2, s2, b2, c2⟩ := toldLoop (o := o) hW (nT W) 1 LF M1 (by omega) (by omega) (by have := hW.1.2; unfold LF; omega) hw1 (fun s x y => by omega)
  refine ⟨M2, e2, fun hH => ?_, by rw [b2 o (by omega)]; exact a4, by rw [b2 o (by omega)]; exact a5, s2, fun c x y => by rw [b2 c y, a1 c x], fun k hk => by rw [b2 o (by omega)]; exact a3 k hk, by rw [c2, a2]⟩
  have hw2 : M2.1 (o + 1) = W := by rw [b2 _ (by omega)]; exact hw1
  refine ⟨?_, ?_, ?_, ?_, ?_, ?_, fun t t1 t2 => ?_⟩
  · rw [hw2]; exact hH.1 0 (by omega)
  · rw [hw2]; exact hH.1 1 (by omega)
  · rw [hw2]; exact hH.1 2 (by omega)
  · rw [hw2]; exact hW.1.1
  · rw [b2 o (by omega), a5]; rfl
  · rw [b2 o (by omega), a4]; exact hH.1 5 (by omega)
  · have t3 : t ≤ nT W := t2
    have hn := hW.1.2
    rw [s2 t t1 t3, hH.2.1 t t1 t3]
    show _ = nI (if 10 + t = 3 then _ else _)
    rw [if_neg (by omega), if_neg (by omega), if_neg (by omega), if_pos (by omega), show 10 + t - 1 = 9 + t by omega]
theorem isPgM {M : Mem} (hw : M.1 (o + 1) = W) : fX10_isProgram o M = some (wkI (pgS W), M) := by
  unfold fX10_isProgram pgS
  rw [show ib (9 : Int32) 215 = true from rfl, ck_t, show tn (9 : Int32) = 9 from rfl, hw]
  by_cases h : W 9 ≤ 0
  · have h2 : ¬ 0 < W 9 := by rw [fa_le] at h; rw [fa_lt]; omega
    rw [if_pos h]; simp [h2, wkI]
  · have h2 : 0 < W 9 := by rw [fa_le] at h; rw [fa_lt]; omega
    rw [if_neg h]; simp [h2, wkI]
theorem LyM.mv {M M' : Mem} (h : LyM W o M) (f0 : ∀ k, 20 ≤ k → k ≤ 23 → M'.1 o k = M.1 o k) (f : ∀ c, 7 ≤ c → c ≤ 11 → M'.1 (o + c) = M.1 (o + c)) : LyM W o M' := by
  obtain ⟨a, b, c, d, e⟩ := h
  refine ⟨by rw [f0 20 (by omega) (by omega)]; exact a, by rw [f0 21 (by omega) (by omega)]; exact b, by rw [f0 22 (by omega) (by omega)]; exact c, fun s hs => ?_, by rw [f0 23 (by omega) (by omega)]; exact e.1, fun b x hx => ?_⟩
  · exact ⟨by rw [f 8 (by omega) (by omega)]; exact (d s hs).1, fun k hk => by rw [f 7 (by omega) (by omega)]; exact (d s hs).2 k hk⟩
  · rw [f 9 (by omega) (by omega), f 10 (by omega) (by omega), f 11 (by omega) (by omega)]; exact e.2 b x hx
theorem isB_wk (b : Bool) : isB (wkI b) = true := by cases b <;> rfl
theorem laysM (hW : PgOk W) (hkd : (kd (o + 7)).2 = 1608) {M : Mem} (hw : M.1 (o + 1) = W) : ∃ M', fX10_lays o M = some (wkI (pgS W), M') ∧ LyM W o M' ∧ (HdOk W → KM (cfW W) o M') ∧ FrK o M M' ∧ (∀ c, 13 ≤ c → c ≤ 31 → M'.1 (o + c) = M.1 (o + c)) ∧ (∀ k, 37 ≤ k → M'.1 o k = M.1 o k) ∧ M'.2 = M.2 := by
  unfold fX10_lays
  obtain ⟨M1, e1, l1, f1⟩ := layM (o := o) hW hkd hw
  have hw1 : M1.1 (o + 1) = W := by rw [f1.w]; exact hw
  obtain ⟨M2, e2, k2, -, -, -, f2⟩ := toldM (o := o) hW hw1
  have hw2 : M2.1 (o + 1) = W := by rw [f2.k.w]; exact hw1
  rw [e1, bV_s, e2, bV_s, isPgM hw2, bI_s, isB_wk, ck_t]
  exact ⟨M2, rfl, l1.mv (fun k a b => f2.2.1 k (by omega)) (fun c a b => f2.1 _ (by omega) (by omega)), k2, f1.k.tr f2.k, fun c a b => by rw [f2.1 _ (by omega) (by omega), f1.1 _ (by omega) (by omega)], fun k a => by rw [f2.2.1 k (by omega), f1.2.1 k (by omega)], by rw [f2.2.2, f1.2.2]⟩
theorem vM_mv {M M' : Mem} (f : ∀ c, 13 ≤ c → c ≤ 31 → M'.1 (o + c) = M.1 (o + c)) (f0 : ∀ k, 37 ≤ k → M'.1 o k = M.1 o k) : vM o M' = vM o M := by
  funext i
  unfold vM
  split <;> first | rfl | exact f _ (by omega) (by omega) | (funext _; exact f0 _ (by omega))
theorem TrM.b {l : T3} {M : Mem} (h : TrM l o M) : BrM (pl l) o M := by
  intro b x hx
  unfold pl at hx
  rw [List.getElem?_map] at hx
  cases hy : l[b]? with
  | none => rw [hy] at hx; cases hx
  | some y =>
    rw [hy] at hx
    cases hx
    obtain ⟨a, b, -⟩ := h.2 b y hy
    exact ⟨a, b⟩
-- what the reference has after asking up to moment m
def AkM (W : Wd) (o m : Nat) (M : Mem) : Prop := LyM W o M ∧ KM (cfW W) o M ∧ GM (cfW W) (gA (cfW W) ((pl (allS W)).take m)).1 (gA (cfW W) ((pl (allS W)).take m)).2 o M ∧ RcM (cfW W) (pl (allS W)) o m M
theorem playW (hW : PgOk W) (hH : HdOk W) {m : Nat} {M : Mem} (hm : m ≤ (allS W).length) (hL : LyM W o M) (hK : KM (cfW W) o M) (hz : GZ (vM o M)) : ∃ M', fX10_play o (nI m) M = some M' ∧ AkM W o m M' ∧ GZ (vM o M') ∧ FrM o M M' := by
  have hl := all_len hW
  obtain ⟨M', e, f, g, r⟩ := playM (o := o) hH.2.2 (l := pl (allS W)) (by rw [pl_len]; exact hl) (all_ok hW) (m := m) (by rw [pl_len]; exact hm) hK hz hL.2.2.2.2.b
  refine ⟨M', e, ⟨hL.mv (fun k a b => f.2.1 k (by omega)) (fun c a b => f.1 _ (by omega) (by omega)), hK.fr f, g, r⟩, ?_, f⟩
  rw [g.2.1]; exact (gA_ok hH.2.2 _).2.1
theorem asksM (hW : PgOk W) (hH : pgS W = true → HdOk W) (hkd : (kd (o + 7)).2 = 1608) {M : Mem} (hw : M.1 (o + 1) = W) (hz : GZ (vM o M)) : ∃ M', fX10_asks o M = some (wkI (pgS W), M') ∧ (pgS W = true → AkM W o (allS W).length M') ∧ GZ (vM o M') ∧ FrK o M M' := by
  unfold fX10_asks
  obtain ⟨M1, e1, l1, k1, f1, c1, o1, m1⟩ := laysM (o := o) hW hkd hw
  rw [e1, bI_s, isB_wk, ck_t]
  have z1 : GZ (vM o M1) := by rw [vM_mv c1 o1]; exact hz
  by_cases hp : pgS W = true
  · rw [if_neg (by rw [wkI_0, hp]; simp), l1.2.2.2.2.1]
    obtain ⟨M2, e2, a2, z2, f2⟩ := playW hW (hH hp) (Nat.le_refl _) l1 (k1 (hH hp)) z1
    rw [e2, bV_s, ck_t]
    exact ⟨M2, rfl, fun _ => a2, z2, f1.tr f2.k⟩
  · rw [if_pos (by rw [wkI_0]; simpa using hp)]
    exact ⟨M1, rfl, fun h => absurd h hp, z1, f1⟩
theorem asksAtM (hW : PgOk W) (hH : pgS W = true → HdOk W) (hkd : (kd (o + 7)).2 = 1608) {M : Mem} (hw : M.1 (o + 1) = W) (hz : GZ (vM o M)) (x : Int32) : ∃ M', fX10_asksAt o x M = some (wkI (pgS W && decide (0 ≤ x ∧ x ≤ nI (allS W).length)), M') ∧ (pgS W = true → ∀ m, x = nI m → m ≤ (allS W).length → AkM W o m M') ∧ GZ (vM o M') ∧ FrK o M M' := by
  have hl := all_len hW
  unfold fX10_asksAt
  obtain ⟨M1, e1, l1, k1, f1, c1, o1, m1⟩ := laysM (o := o) hW hkd hw
  rw [e1, bI_s]
  have z1 : GZ (vM o M1) := by rw [vM_mv c1 o1]; exact hz
  by_cases hp : pgS W = true
  · rw [if_neg (by rw [wkI_0, hp]; simp), l1.2.2.2.2.1, L64_0, in32, bI_s, hp]
    by_cases hx : 0 ≤ x ∧ x ≤ nI (allS W).length
    · rw [show (if (0 : Int32) ≤ x ∧ x ≤ nI (allS W).length then (1 : Int32) else 0) = 1 from if_pos hx, if_neg (by decide)]
      obtain ⟨m, hm⟩ : ∃ m, x = nI m ∧ m ≤ (allS W).length := by
        obtain ⟨h1, h2⟩ := hx
        rw [fa_le, show (0 : Int32).toInt = 0 from rfl] at h1
        rw [fa_le, nI_toInt (by omega)] at h2
        refine ⟨x.toInt.toNat, ?_, by omega⟩
        apply Int32.toInt_inj.mp
        rw [nI_toInt (by omega)]; omega
      obtain ⟨hm1, hm2⟩ := hm
      obtain ⟨M2, e2, a2, z2, f2⟩ := playW hW (hH hp) hm2 l1 (k1 (hH hp)) z1
      rw [hm1, e2, bV_s]
      refine ⟨M2, ?_, fun _ m' h1 h2 => ?_, z2, f1.tr f2.k⟩
      · rw [hm1] at hx; simp [hx, wkI]
      · have : m' = m := ((nI_eq (by omega) (by omega)).mp h1).symm
        rw [this]; exact a2
    · rw [show (if (0 : Int32) ≤ x ∧ x ≤ nI (allS W).length then (1 : Int32) else 0) = 0 from if_neg hx, if_pos rfl]
      refine ⟨M1, by simp [hx, wkI], fun _ m h1 h2 => ?_, z1, f1⟩
      exact absurd ⟨by rw [h1]; exact nI_pos' (by omega), by rw [h1]; exact nI_le h2 (by omega)⟩ hx
  · rw [if_pos (by rw [wkI_0]; simpa using hp)]
    have : pgS W = false := by simpa using hp
    refine ⟨M1, by rw [this]; rfl, fun h => absurd h hp, z1, f1⟩
end AsksM
