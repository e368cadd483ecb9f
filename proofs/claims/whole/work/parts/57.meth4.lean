/-! Public methods, both sides: what stands at a moment. -/
section Meth4
variable {S : St} {M N : Mem}
theorem m_base (x y : Int32) : Eq2 S (fX9_base 0 x y) (fX10_base 80 x y) := by
  intro M N hM hN
  obtain ⟨N1, b, e1, j1, f1, e2, h⟩ := mom hM hN y
  unfold fX9_base fX10_base
  rw [e2, bI_s, e1, bI_s]
  by_cases hb : b = true
  · obtain ⟨hp, hc, m, M1, hm, gm, km, e3, g3, h5, j3, f3, hv⟩ := h hb
    rw [wif_t hb, wif_t hb, wX x 0 15 0 15 rfl rfl, bI_s, wM x 0 15 0 15 rfl rfl, bI_s]
    by_cases hx : inS x 0 15 = true
    · obtain ⟨k, hk, ek⟩ := in_n (n := 15) (by omega) hx
      subst ek
      rw [wif_t hx, wif_t hx, e3, bV_s, ib_n (show k < 16 by omega) (by omega), ck_t, ck_t, tn_n (by omega), show M1.1 (0 + 41 + 1 + 5) k = N1.1 (80 + 16) k from congrFun (congrFun hv 3) k]
      exact ⟨_, M1, N1, S, rfl, rfl, j3, j1, f3, f1.rfr⟩
    · rw [wif_f hx, wif_f hx]
      exact ⟨_, M, N1, S, rfl, rfl, hM, j1, FrCl.rf, f1.rfr⟩
  · rw [wif_f hb, wif_f hb]
    exact ⟨_, M, N1, S, rfl, rfl, hM, j1, FrCl.rf, f1.rfr⟩
theorem m_gauge (x y : Int32) : Eq2 S (fX9_gauge 0 x y) (fX10_gauge 80 x y) := by
  intro M N hM hN
  obtain ⟨N1, b, e1, j1, f1, e2, h⟩ := mom hM hN y
  unfold fX9_gauge fX10_gauge
  rw [e2, bI_s, e1, bI_s]
  by_cases hb : b = true
  · obtain ⟨hp, hc, m, M1, hm, gm, km, e3, g3, h5, j3, f3, hv⟩ := h hb
    rw [wif_t hb, wif_t hb, wX x 0 3 0 3 rfl rfl, bI_s, wM x 0 3 0 3 rfl rfl, bI_s]
    by_cases hx : inS x 0 3 = true
    · rw [wif_t hx, wif_t hx, e3, bV_s, show M1.1 (0 + 41 + 1) 10 = N1.1 80 37 from congrFun (congrFun hv 10) 0, show M1.1 (0 + 41 + 1) 11 = N1.1 80 38 from congrFun (congrFun hv 11) 0, show M1.1 (0 + 41 + 14) 1 = N1.1 80 39 from congrFun (congrFun hv 13) 0, show M1.1 (0 + 41 + 1) 12 = N1.1 80 40 from congrFun (congrFun hv 12) 0]
      by_cases h0 : x = 0
      · rw [if_pos h0, if_pos h0]; exact ⟨_, M1, N1, S, rfl, rfl, j3, j1, f3, f1.rfr⟩
      · rw [if_neg h0, if_neg h0]
        by_cases h1 : x = 1
        · rw [if_pos h1, if_pos h1]; exact ⟨_, M1, N1, S, rfl, rfl, j3, j1, f3, f1.rfr⟩
        · rw [if_neg h1, if_neg h1]
          by_cases h2 : x = 2
          · rw [if_pos h2, if_pos h2]; exact ⟨_, M1, N1, S, rfl, rfl, j3, j1, f3, f1.rfr⟩
          · rw [if_neg h2, if_neg h2]; exact ⟨_, M1, N1, S, rfl, rfl, j3, j1, f3, f1.rfr⟩
    · rw [wif_f hx, wif_f hx]
      exact ⟨_, M, N1, S, rfl, rfl, hM, j1, FrCl.rf, f1.rfr⟩
  · rw [wif_f hb, wif_f hb]
    exact ⟨_, M, N1, S, rfl, rfl, hM, j1, FrCl.rf, f1.rfr⟩
theorem m_loop (x y z : Int32) : Eq2 S (fX9_loop 0 x y z) (fX10_loop 80 x y z) := by
  intro M N hM hN
  obtain ⟨N1, b, e1, j1, f1, e2, h⟩ := mom hM hN z
  unfold fX9_loop fX10_loop
  rw [e2, bI_s, e1, bI_s]
  by_cases hb : b = true
  · obtain ⟨hp, hc, m, M1, hm, gm, km, e3, g3, h5, j3, f3, hv⟩ := h hb
    rw [wif_t hb, wif_t hb, wX x 0 7 0 7 rfl rfl, bI_s, wM x 0 7 0 7 rfl rfl, bI_s]
    by_cases hx : inS x 0 7 = true
    · obtain ⟨k, hk, ek⟩ := in_n (n := 7) (by omega) hx
      subst ek
      rw [wif_t hx, wif_t hx, wX y 0 4 0 4 rfl rfl, bI_s, ib_n (show k < 8 by omega) (by omega)]
      simp only [ck_t, tn_n (show k < 2 ^ 31 by omega)]
      by_cases hy : inS y 0 4 = true
      · obtain ⟨d, hd, ed⟩ := in_n (n := 4) (by omega) hy
        subst ed
        rw [wif_t hy, e3, bV_s, show M1.1 (0 + 41 + 8 + 1) k = N1.1 (80 + 17) k from congrFun (congrFun hv 4) k, show M1.1 (0 + 41 + 8 + 2) k = N1.1 (80 + 18) k from congrFun (congrFun hv 5) k, show M1.1 (0 + 41 + 8 + 3) k = N1.1 (80 + 19) k from congrFun (congrFun hv 6) k, show M1.1 (0 + 41 + 8 + 4) k = N1.1 (80 + 20) k from congrFun (congrFun hv 7) k, show M1.1 (0 + 41 + 8 + 5) k = N1.1 (80 + 21) k from congrFun (congrFun hv 8) k]
        have : d = 0 ∨ d = 1 ∨ d = 2 ∨ d = 3 ∨ d = 4 := by omega
        rcases this with rfl | rfl | rfl | rfl | rfl <;> exact ⟨_, M1, N1, S, rfl, rfl, j3, j1, f3, f1.rfr⟩
      · have hne : ∀ k : Nat, k ≤ 4 → ¬ y = nI k := by
          intro k hk e
          apply hy
          unfold inS
          rw [e]
          simp only [decide_eq_true_eq]
          exact ⟨nI_pos' (by omega), nI_le (b := 4) hk (by omega)⟩
        rw [wif_f hy, if_neg (show ¬ y = (0 : Int32) from hne 0 (by omega)), if_neg (show ¬ y = (1 : Int32) from hne 1 (by omega)), if_neg (show ¬ y = (2 : Int32) from hne 2 (by omega)), if_neg (show ¬ y = (3 : Int32) from hne 3 (by omega)), if_neg (show ¬ y = (4 : Int32) from hne 4 (by omega))]
        exact ⟨_, M, N1, S, rfl, rfl, hM, j1, FrCl.rf, f1.rfr⟩
    · rw [wif_f hx, wif_f hx]
      exact ⟨_, M, N1, S, rfl, rfl, hM, j1, FrCl.rf, f1.rfr⟩
  · rw [wif_f hb, wif_f hb]
    exact ⟨_, M, N1, S, rfl, rfl, hM, j1, FrCl.rf, f1.rfr⟩
theorem m_corrector (x y z : Int32) : Eq2 S (fX9_corrector 0 x y z) (fX10_corrector 80 x y z) := by
  intro M N hM hN
  obtain ⟨N1, b, e1, j1, f1, e2, h⟩ := mom hM hN z
  unfold fX9_corrector fX10_corrector
  rw [e2, bI_s, e1, bI_s]
  by_cases hb : b = true
  · obtain ⟨hp, hc, m, M1, hm, gm, km, e3, g3, h5, j3, f3, hv⟩ := h hb
    rw [wif_t hb, wif_t hb, wX x 0 2 0 2 rfl rfl, bI_s, wM x 0 2 0 2 rfl rfl, bI_s]
    by_cases hx : inS x 0 2 = true
    · rw [wif_t hx, wif_t hx, wX y 0 15 0 15 rfl rfl, bI_s, wM y 0 15 0 15 rfl rfl, bI_s]
      by_cases hy : inS y 0 15 = true
      · obtain ⟨k, hk, ek⟩ := in_n (n := 2) (by omega) hx
        obtain ⟨d, hd, ed⟩ := in_n (n := 15) (by omega) hy
        subst ek
        subst ed
        rw [wif_t hy, wif_t hy, e3, bV_s, nI_16, nI_add, ib_n (show 16 * k + d < 48 by omega) (by omega), ck_t, ck_t, tn_n (by omega), show M1.1 (0 + 41 + 14 + 1) (16 * k + d) = N1.1 (80 + 22) (16 * k + d) from congrFun (congrFun hv 9) _]
        exact ⟨_, M1, N1, S, rfl, rfl, j3, j1, f3, f1.rfr⟩
      · rw [wif_f hy, wif_f hy]
        exact ⟨_, M, N1, S, rfl, rfl, hM, j1, FrCl.rf, f1.rfr⟩
    · rw [wif_f hx, wif_f hx]
      exact ⟨_, M, N1, S, rfl, rfl, hM, j1, FrCl.rf, f1.rfr⟩
  · rw [wif_f hb, wif_f hb]
    exact ⟨_, M, N1, S, rfl, rfl, hM, j1, FrCl.rf, f1.rfr⟩
theorem m_entry (x y z w : Int32) : Eq2 S (fX9_entry 0 x y z w) (fX10_entry 80 x y z w) := by
  intro M N hM hN
  obtain ⟨N1, b, e1, j1, f1, e2, h⟩ := mom hM hN w
  unfold fX9_entry fX10_entry
  rw [e2, bI_s, e1, bI_s]
  by_cases hb : b = true
  · obtain ⟨hp, hc, m, M1, hm, gm, km, e3, g3, h5, j3, f3, hv⟩ := h hb
    have hc0 := hc.1
    have hw0 : (S.1 0) 0 = nI (cfW (S.1 0) 0) := (hM.w.2.1 hp).1 0 (by omega)
    rw [wif_t hb, wif_t hb, tabX' hM, bI_s, tabM' j1, bI_s]
    by_cases hx : inS x 1 (nI (nT (S.1 0))) = true
    · unfold fX10_rowsOf fX9_lowest
      rw [wif_t hx, wif_t hx, show ib (0 : Int32) 6 = true from rfl, ck_t, show ib (0 : Int32) 215 = true from rfl, ck_t, bI_s, bI_s, show tn (0 : Int32) = 0 from rfl, show M.1 (0 + 9 + 1) 0 = _ from hM.1.2.1.2.1 0 (by omega), show N1.1 (80 + 1) = S.1 0 from j1.1.2.1, hw0, low32 (by omega), wX0, bI_s, wM0, bI_s]
      by_cases hy : inS y 0 (nI (2 ^ cfW (S.1 0) 0 - 1)) = true
      · have hpow : 2 ^ cfW (S.1 0) 0 ≤ 16 := by
          have : cfW (S.1 0) 0 ≤ 4 := hc0.2
          calc 2 ^ cfW (S.1 0) 0 ≤ 2 ^ 4 := Nat.pow_le_pow_right (by omega) this
            _ = 16 := rfl
        have hpos := Nat.two_pow_pos (cfW (S.1 0) 0)
        obtain ⟨t, t1, t2, et⟩ := in_1 (by have := hM.w.1.1.2; omega) hx
        obtain ⟨r, hr, er⟩ := in_n (by omega) hy
        have ht5 := hM.w.1.1.2
        subst et
        subst er
        rw [wif_t hy, wif_t hy, wX z 0 2 0 2 rfl rfl, bI_s, wM z 0 2 0 2 rfl rfl, bI_s]
        by_cases hz : inS z 0 2 = true
        · obtain ⟨d, hd, ed⟩ := in_n (n := 2) (by omega) hz
          subst ed
          rw [wif_t hz, wif_t hz, e3, bV_s, show nI t - 1 = nI (t - 1) from pk_sub (b := 1) (by omega), nI_16, nI_add, ib_n (show 16 * (t - 1) + r < 80 by omega) (by omega)]
          simp only [ck_t, tn_n (show 16 * (t - 1) + r < 2 ^ 31 by omega)]
          rw [show M1.1 (0 + 41 + 1 + 2) (16 * (t - 1) + r) = N1.1 (80 + 13) (16 * (t - 1) + r) from congrFun (congrFun hv 0) _, show M1.1 (0 + 41 + 1 + 3) (16 * (t - 1) + r) = N1.1 (80 + 14) (16 * (t - 1) + r) from congrFun (congrFun hv 1) _, show M1.1 (0 + 41 + 1 + 4) (16 * (t - 1) + r) = N1.1 (80 + 15) (16 * (t - 1) + r) from congrFun (congrFun hv 2) _]
          have : d = 0 ∨ d = 1 ∨ d = 2 := by omega
          rcases this with rfl | rfl | rfl <;> exact ⟨_, M1, N1, S, rfl, rfl, j3, j1, f3, f1.rfr⟩
        · rw [wif_f hz, wif_f hz]
          exact ⟨_, M, N1, S, rfl, rfl, hM, j1, FrCl.rf, f1.rfr⟩
      · rw [wif_f hy, wif_f hy]
        exact ⟨_, M, N1, S, rfl, rfl, hM, j1, FrCl.rf, f1.rfr⟩
    · rw [wif_f hx, wif_f hx]
      exact ⟨_, M, N1, S, rfl, rfl, hM, j1, FrCl.rf, f1.rfr⟩
  · rw [wif_f hb, wif_f hb]
    exact ⟨_, M, N1, S, rfl, rfl, hM, j1, FrCl.rf, f1.rfr⟩
-- rows held: the class counts a stretch, the reference passes over all rows
def hdS (g : Nat → Int32) (b n : Nat) (a : Int32) : Int32 := match n with
  | 0 => a
  | n + 1 => hdS g (b + 1) n (if g b = -1 then a else a + 1)
theorem h_X {c : Nat} (M : Mem) {g : Nat → Int32} (hg : M.1 (c + 2) = g) {e : Nat} (he : e ≤ 80) : ∀ (m b f : Nat) (a : Int32), b + m = e → m < f → fX6_heldWithin_5 f c (nI e) a (nI b) M = some (hdS g b m a, M) := by
  intro m
  induction m with
  | zero =>
    intro b f a hm hf
    cases f with
    | zero => omega
    | succ f =>
      unfold fX6_heldWithin_5
      rw [if_pos (nI_le (by omega) (by omega))]; rfl
  | succ m ih =>
    intro b f a hm hf
    cases f with
    | zero => omega
    | succ f =>
      unfold fX6_heldWithin_5 fX6_heldWithin_25 hdS
      rw [if_neg (nI_ge (by omega) (by omega)), ib_n (show b < 80 by omega) (by omega), ck_t, tn_n (by omega), hg, nI_1]
      by_cases e1 : g b = -1
      · rw [if_pos e1, if_pos e1]; exact ih (b + 1) f _ (by omega) (by omega)
      · rw [if_neg e1, if_neg e1]; exact ih (b + 1) f _ (by omega) (by omega)
def inT (x b : Nat) : Bool := decide (x = 0) || decide (b / 16 = x - 1)
def hmS (g : Nat → Int32) (x b n : Nat) (a : Int32) : Int32 := match n with
  | 0 => a
  | n + 1 => hmS g x (b + 1) n (if g b = -1 then a else if inT x b = true then a + 1 else a)
theorem h_M {c : Nat} (M : Mem) {g : Nat → Int32} (hg : M.1 (c + 13) = g) {x : Nat} (hx : x ≤ 5) : ∀ (m b f : Nat) (a : Int32), b + m = 80 → m < f → fX10_held_30 f c (nI x) a (nI b) M = some (hmS g x b m a, M) := by
  intro m
  induction m with
  | zero =>
    intro b f a hm hf
    cases f with
    | zero => omega
    | succ f =>
      unfold fX10_held_30
      rw [if_pos (show (80 : Int32) ≤ nI b from nI_le (a := 80) (by omega) (by omega))]; rfl
  | succ m ih =>
    intro b f a hm hf
    cases f with
    | zero => omega
    | succ f =>
      unfold fX10_held_30 fX10_held_68 fX10_held_64 fX10_held_69 hmS
      rw [if_neg (show ¬ (80 : Int32) ≤ nI b from nI_ge (b := 80) (by omega) (by omega)), ib_n (show b < 80 by omega) (by omega), ck_t, tn_n (by omega), hg, nI_1, Int32.add_zero, show nI b / 16 = nI (b / 16) from pk_div (d := 16) (by omega) (by omega) (by omega)]
      by_cases e1 : g b = -1
      · rw [if_pos e1, if_pos e1]; exact ih (b + 1) f _ (by omega) (by omega)
      · rw [if_neg e1, if_neg e1]
        unfold inT
        by_cases e2 : x = 0
        · rw [if_pos (show nI x = (0 : Int32) by rw [e2]; rfl), if_pos (by simp [e2])]; exact ih (b + 1) f _ (by omega) (by omega)
        · rw [if_neg (show ¬ nI x = (0 : Int32) from kE (n := 0) (by omega) (by omega) e2), show nI x - 1 = nI (x - 1) from pk_sub (b := 1) (by omega)]
          by_cases e3 : b / 16 = x - 1
          · rw [if_pos (by rw [e3]), if_pos (by simp [e3])]; exact ih (b + 1) f _ (by omega) (by omega)
          · rw [if_neg (kE (by omega) (by omega) e3), if_neg (by simp [e2, e3])]; exact ih (b + 1) f _ (by omega) (by omega)
theorem hm_out (g : Nat → Int32) (x : Nat) : ∀ (n b : Nat) (a : Int32), (∀ i, b ≤ i → i < b + n → inT x i = false) → hmS g x b n a = a := by
  intro n
  induction n with
  | zero => intro b a _; rfl
  | succ n ih =>
    intro b a h
    unfold hmS
    rw [h b (by omega) (by omega)]
    simp only [Bool.false_eq_true, if_false, ite_self]
    exact ih (b + 1) a (fun i h1 h2 => h i (by omega) (by omega))
theorem hm_in (g : Nat → Int32) (x : Nat) : ∀ (n b : Nat) (a : Int32), (∀ i, b ≤ i → i < b + n → inT x i = true) → hmS g x b n a = hdS g b n a := by
  intro n
  induction n with
  | zero => intro b a _; rfl
  | succ n ih =>
    intro b a h
    unfold hmS hdS
    rw [h b (by omega) (by omega), if_pos rfl]
    exact ih (b + 1) _ (fun i h1 h2 => h i (by omega) (by omega))
theorem hm_add (g : Nat → Int32) (x : Nat) : ∀ (n k b : Nat) (a : Int32), hmS g x b (n + k) a = hmS g x (b + n) k (hmS g x b n a) := by
  intro n
  induction n with
  | zero => intro k b a; rw [Nat.zero_add]; rfl
  | succ n ih =>
    intro k b a
    rw [show n + 1 + k = (n + k) + 1 by omega]
    unfold hmS
    rw [ih k (b + 1)]
    rw [show b + 1 + n = b + (n + 1) by omega]
    cases k <;> rfl
theorem m_held (x y : Int32) : Eq2 S (fX9_held 0 x y) (fX10_held 80 x y) := by
  intro M N hM hN
  obtain ⟨N1, b, e1, j1, f1, e2, h⟩ := mom hM hN y
  unfold fX9_held fX10_held
  rw [e2, bI_s, e1, bI_s]
  by_cases hb : b = true
  · obtain ⟨hp, hc, m, M1, hm, gm, km, e3, g3, h5, j3, f3, hv⟩ := h hb
    rw [wif_t hb, wif_t hb, tabsM j1.1.2.1, bI_s, show M.1 (0 + 9) 6 = _ from hM.1.2.1.1.2.1, hM.w.1.1.1, wX0, bI_s, wM0, bI_s]
    by_cases hx : inS x 0 (nI (nT (S.1 0))) = true
    · have ht5 := hM.w.1.1.2
      obtain ⟨t, ht, et⟩ := in_n (by omega) hx
      subst et
      have hg : M1.1 (0 + 41 + 1 + 2) = N1.1 (80 + 13) := congrFun hv 0
      have hR := h_M (c := 80) N1 rfl (show t ≤ 5 by omega) 80 0 LF 0 (by omega) (by unfold LF; omega)
      rw [wif_t hx, wif_t hx, e3, bV_s, show fX10_held_30 LF 80 (nI t) 0 0 N1 = _ from hR]
      unfold fX6_heldWithin
      by_cases h0 : t = 0
      · subst h0
        rw [if_pos (show nI 0 = (0 : Int32) from rfl), show fX6_heldWithin_5 LF (0 + 41 + 1) 80 0 0 M1 = _ from h_X M1 hg (e := 80) (by omega) 80 0 LF 0 (by omega) (by unfold LF; omega), bI_s, hm_in _ 0 80 0 0 (fun i _ _ => by simp [inT])]
        exact ⟨_, M1, N1, S, rfl, rfl, j3, j1, f3, f1.rfr⟩
      · rw [if_neg (show ¬ nI t = (0 : Int32) from kE (n := 0) (by omega) (by omega) h0), show nI t - 1 = nI (t - 1) from pk_sub (b := 1) (by omega), nI_16, nI_16, h_X M1 hg (e := 16 * t) (by omega) 16 (16 * (t - 1)) LF 0 (by omega) (by unfold LF; omega), bI_s]
        have e4 : hmS (N1.1 (80 + 13)) t 0 80 0 = hdS (N1.1 (80 + 13)) (16 * (t - 1)) 16 0 := by
          rw [show (80 : Nat) = 16 * (t - 1) + (16 + (80 - 16 * t)) by omega]
          rw [hm_add, hm_out _ t (16 * (t - 1)) 0 0 (fun i h1 h2 => by unfold inT; simp [h0]; omega), hm_add, hm_in _ t 16 (0 + 16 * (t - 1)) 0 (fun i h1 h2 => by unfold inT; simp [h0]; omega), hm_out _ t (80 - 16 * t) _ _ (fun i h1 h2 => by unfold inT; simp [h0]; omega), Nat.zero_add]
        rw [e4]
        exact ⟨_, M1, N1, S, rfl, rfl, j3, j1, f3, f1.rfr⟩
    · rw [wif_f hx, wif_f hx]
      exact ⟨_, M, N1, S, rfl, rfl, hM, j1, FrCl.rf, f1.rfr⟩
  · rw [wif_f hb, wif_f hb]
    exact ⟨_, M, N1, S, rfl, rfl, hM, j1, FrCl.rf, f1.rfr⟩
theorem l_clash {cf : Cfg} (hc : CfgOk cf) {P p a d : Nat} (ha : a < 64) (hd : d < 64) (hK : KT cf 42 M) (hP : P < 2 ^ 64) (eP : M.2 41 4 = lN P) (rP : P % 2 ^ 40 = p) (h6 : M.1 9 6 = nI (cf 3)) (km : KM cf 80 N) (ep : N.2 80 41 = lN p) (hp : p < 2 ^ 40) (hn6 : N.1 81 6 = nI (cf 3)) : ∀ (m t f : Nat) (w : Int32), t + m = cf 3 + 1 → 1 ≤ t → m < f → ∃ v, fX9_clash_36 f 0 (nI a) (nI d) w (nI t) M = some (v, M) ∧ fX10_clash_33 f 80 (nI a) (nI d) w (nI t) N = some (v, N) := by
  have h3 := hc.2.2.2.1
  intro m
  induction m with
  | zero =>
    intro t f w hm h1 hf
    cases f with
    | zero => omega
    | succ f =>
      unfold fX9_clash_36 fX10_clash_33
      simp only [Nat.zero_add]
      rw [h6, tablesM, bI_s, show N.1 (80 + 1) 6 = _ from hn6, if_pos (nI_lt (by omega) (by omega)), if_pos (nI_lt (by omega) (by omega))]
      exact ⟨w, rfl, rfl⟩
  | succ m ih =>
    intro t f w hm h1 hf
    cases f with
    | zero => omega
    | succ f =>
      unfold fX9_clash_36 fX10_clash_33 fX9_clash_137 fX10_clash_82 fX10_clash_83
      simp only [Nat.zero_add]
      rw [h6, tablesM, bI_s, show N.1 (80 + 1) 6 = _ from hn6, if_neg (nI_nlt (by omega) (by omega)), if_neg (nI_nlt (by omega) (by omega)), eP, show fX6_indexOf (41 + 1) (nI t) (nI a) (lN P) M = _ from ixX hc hK h1 (by omega) ha hP, bI_s, eP, show fX6_indexOf (41 + 1) (nI t) (nI d) (lN P) M = _ from ixX hc hK h1 (by omega) hd hP, bI_s, eP, show fX6_tagOf (41 + 1) (nI t) (nI a) (lN P) M = _ from tgX hc hK h1 (by omega) ha hP, bI_s, eP, show fX6_tagOf (41 + 1) (nI t) (nI d) (lN P) M = _ from tgX hc hK h1 (by omega) hd hP, bI_s, ixM hc km ep hp h1 (by omega) ha, bI_s, ixM hc km ep hp h1 (by omega) hd, bI_s, tgM hc km ep hp h1 (by omega) ha, bI_s, tgM hc km ep hp h1 (by omega) hd, bI_s, rP, nI_1, Int32.add_zero]
      by_cases g1 : nI (ixS cf p a t) = nI (ixS cf p d t)
      · rw [if_pos g1, if_pos g1]
        by_cases g2 : nI (tgS cf p a t) = nI (tgS cf p d t)
        · rw [if_pos g2, if_pos g2]; exact ih (t + 1) f _ (by omega) (by omega) (by omega)
        · rw [if_neg g2, if_neg g2]; exact ih (t + 1) f _ (by omega) (by omega) (by omega)
      · rw [if_neg g1, if_neg g1]; exact ih (t + 1) f _ (by omega) (by omega) (by omega)
theorem m_clash (x y z : Int32) : Eq2 S (fX9_clash 0 x y z) (fX10_clash 80 x y z) := by
  intro M N hM hN
  obtain ⟨N1, b, e1, j1, f1, e2, h⟩ := mom hM hN z
  unfold fX9_clash fX10_clash
  rw [e2, bI_s, e1, bI_s]
  by_cases hb : b = true
  · obtain ⟨hp, hc, m, M1, hm, gm, km, e3, g3, h5, j3, f3, hv⟩ := h hb
    rw [wif_t hb, wif_t hb, adrX, bI_s, adrM, bI_s]
    by_cases hx : inS x 0 63 = true
    · rw [wif_t hx, wif_t hx, adrX, bI_s, adrM, bI_s]
      by_cases hy : inS y 0 63 = true
      · obtain ⟨a, ha, ea⟩ := in_63 hx
        obtain ⟨d, hd, ed⟩ := in_63 hy
        subst ea
        subst ed
        obtain ⟨P, hP, eP, rP⟩ := g3.2.2.2
        have h3 := hc.2.2.2.1
        rw [wif_t hy, wif_t hy, e3, bV_s]
        obtain ⟨v, c1, c2⟩ := l_clash (M := M1) (N := N1) hc ha hd g3.1 hP eP rP (by rw [j3.1.2.1.1.2.1]; exact hM.w.1.1.1) km gm.2.2.1 gm.2.2.2 (by rw [j1.1.2.1]; exact hM.w.1.1.1) (cfW (S.1 0) 3) 1 LF 0 (by omega) (by omega) (by unfold LF; omega)
        exact ⟨v, M1, N1, S, c1, c2, j3, j1, f3, f1.rfr⟩
      · rw [wif_f hy, wif_f hy]
        exact ⟨_, M, N1, S, rfl, rfl, hM, j1, FrCl.rf, f1.rfr⟩
    · rw [wif_f hx, wif_f hx]
      exact ⟨_, M, N1, S, rfl, rfl, hM, j1, FrCl.rf, f1.rfr⟩
  · rw [wif_f hb, wif_f hb]
    exact ⟨_, M, N1, S, rfl, rfl, hM, j1, FrCl.rf, f1.rfr⟩
end Meth4
