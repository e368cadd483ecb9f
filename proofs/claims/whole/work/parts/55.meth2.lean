/-! Public methods, both sides: those that count along the trail. -/
section Meth2
variable {S : St} {M N : Mem} {n : Nat}
def wrB (M : Mem) (b : Nat) : Bool := !decide (M.1 40 (9 * b + 2) = M.1 40 (9 * b + 1))
theorem iwX (h : TW n M N) {b : Nat} (hb : b < n) : fX8_isWrong 39 (nI b) M = some (wkI (wrB M b), M) := by
  have hn := h.1
  unfold fX8_isWrong wrB
  rw [show fX8_fact 39 (nI b) 2 M = _ from factX (k := 2) (by omega) (by omega) M, bI_s, show fX8_fact 39 (nI b) 1 M = _ from factX (k := 1) (by omega) (by omega) M, bI_s]
  by_cases e : M.1 40 (9 * b + 2) = M.1 40 (9 * b + 1)
  · rw [if_pos e]; simp [e, wkI]
  · rw [if_neg e]; simp [e, wkI]
theorem rc_ {k c : Nat} (h : rcl k = c) {b : Nat} (hT : TW n M N) (hb : b < n) (hk : k < 9) : N.1 c b = M.1 40 (9 * b + k) := by rw [← h]; exact hT.2.2.2 b hb k hk
theorem iwM (h : TW n M N) {b : Nat} (hb : b < n) : fX10_isWrong 80 (nI b) N = some (wkI (wrB M b), N) := by
  have hn := h.1
  unfold fX10_isWrong wrB
  rw [ib_n (show b < 240 by omega) (by omega), ck_t, ck_t, tn_n (by omega), show N.1 (80 + 26) b = _ from rc_ (k := 2) rfl h hb (by omega), show N.1 (80 + 10) b = _ from rc_ (k := 1) rfl h hb (by omega)]
  by_cases e : M.1 40 (9 * b + 2) = M.1 40 (9 * b + 1)
  · rw [if_pos e]; simp [e, wkI]
  · rw [if_neg e]; simp [e, wkI]
theorem l_wrong (h : TW n M N) {x : Nat} (hx : x ≤ n) : ∀ (m b f : Nat) (a : Int32), b + m = x → m < f → ∃ v, fX9_wrong_15 f 0 (nI x) a (nI b) M = some (v, M) ∧ fX10_wrongBy_4 f 80 (nI x) a (nI b) N = some (v, N) := by
  have hn := h.1
  intro m
  induction m with
  | zero =>
    intro b f a hm hf
    cases f with
    | zero => omega
    | succ f =>
      unfold fX9_wrong_15 fX10_wrongBy_4
      rw [if_pos (nI_le (by omega) (by omega)), if_pos (nI_le (by omega) (by omega))]
      exact ⟨a, rfl, rfl⟩
  | succ m ih =>
    intro b f a hm hf
    cases f with
    | zero => omega
    | succ f =>
      unfold fX9_wrong_15 fX10_wrongBy_4 fX9_wrong_34 fX10_wrongBy_23
      simp only [Nat.zero_add]
      rw [if_neg (nI_ge (by omega) (by omega)), if_neg (nI_ge (by omega) (by omega)), iwX h (by omega), bI_s, iwM h (by omega), bI_s, nI_1, Int32.add_zero]
      by_cases e : wrB M b = true
      · rw [wif_t e, wif_t e]; exact ih (b + 1) f _ (by omega) (by omega)
      · rw [wif_f e, wif_f e]; exact ih (b + 1) f _ (by omega) (by omega)
theorem momX (hM : JC S M) (x : Int32) : fX9_isMoment 0 x M = some (wkI (pgS (S.1 0) && inS x 0 (nI (allS (S.1 0)).length)), M) := by
  unfold fX9_isMoment
  rw [toldX hM, bI_s]
  simp only [Nat.zero_add]
  by_cases hp : pgS (S.1 0) = true
  · rw [wif_t hp, hM.1.2.2.2.1.1, wX0, bI_s, hp]
    by_cases hx : inS x 0 (nI (allS (S.1 0)).length) = true
    · rw [wif_t hx, hx]; rfl
    · rw [wif_f hx]; simp [hx, wkI]
  · rw [wif_f hp]; simp [hp, wkI]
theorem m_wrong (x : Int32) : Eq2 S (fX9_wrong 0 x) (fX10_wrong 80 x) := by
  apply eq2_c
  intro M N hM hN
  unfold fX9_wrong fX10_wrong fX10_wrongBy
  obtain ⟨N1, e1, a1, j1, f1⟩ := hN.asks
  have hl := all_len hM.w.1
  rw [momX hM, bI_s, e1, bI_s]
  by_cases hp : pgS (S.1 0) = true
  · have ht := tw_of hM (a1 hp) rfl
    rw [wif_t hp, ht.2.2.1, wM0, bI_s, hp, Bool.true_and]
    by_cases hx : inS x 0 (nI (allS (S.1 0)).length) = true
    · obtain ⟨m, hm, ex⟩ := in_n (by omega) hx
      rw [wif_t hx, wif_t hx, ex]
      obtain ⟨v, c1, c2⟩ := l_wrong ht hm m 0 LF 0 (by omega) (by unfold LF; omega)
      rw [show fX10_wrongBy_4 LF 80 (nI m) 0 0 N1 = _ from c2, bI_s]
      exact ⟨v, N1, c1, rfl, j1, f1⟩
    · rw [wif_f hx, wif_f hx]
      exact ⟨_, N1, rfl, rfl, j1, f1⟩
  · rw [wif_f hp, wif_f (by simp [hp])]
    exact ⟨_, N1, rfl, rfl, j1, f1⟩
theorem l_wrongs (h : TW n M N) (x : Int32) : ∀ (m b f : Nat) (a : Int32), b + m = n → m < f → ∃ v, fX8_wrongsAt_4 f 39 x a (nI b) M = some (v, M) ∧ fX10_wrongsAt_4 f 80 x a (nI b) N = some (v, N) := by
  have hn := h.1
  intro m
  induction m with
  | zero =>
    intro b f a hm hf
    cases f with
    | zero => omega
    | succ f =>
      unfold fX8_wrongsAt_4 fX10_wrongsAt_4
      rw [h.2.1, h.2.2.1, if_pos (nI_le (by omega) (by omega)), if_pos (nI_le (by omega) (by omega))]
      exact ⟨a, rfl, rfl⟩
  | succ m ih =>
    intro b f a hm hf
    cases f with
    | zero => omega
    | succ f =>
      unfold fX8_wrongsAt_4 fX10_wrongsAt_4 fX8_wrongsAt_33 fX10_wrongsAt_35 fX10_wrongsAt_36
      rw [h.2.1, h.2.2.1, if_neg (nI_ge (by omega) (by omega)), if_neg (nI_ge (by omega) (by omega)), iwX h (by omega), bI_s, iwM h (by omega), bI_s, nI_1, Int32.add_zero, ib_n (show b < 240 by omega) (by omega), ck_t, tn_n (by omega), show N.1 (80 + 9) b = _ from rc_ (k := 0) rfl h (by omega) (by omega), show fX8_fact 39 (nI b) 0 M = _ from factX (k := 0) (by omega) (by omega) M, bI_s]
      by_cases e : wrB M b = true
      · rw [wif_t e, wif_t e]
        by_cases g : M.1 40 (9 * b + 0) = x
        · rw [if_pos g, if_pos g]; exact ih (b + 1) f _ (by omega) (by omega)
        · rw [if_neg g, if_neg g]; exact ih (b + 1) f _ (by omega) (by omega)
      · rw [wif_f e, wif_f e, ite_self]; exact ih (b + 1) f _ (by omega) (by omega)
theorem l_wrongs0 (h : TW n M N) (x : Int32) : ∃ v, fX8_wrongsAt 39 x M = some (v, M) ∧ fX10_wrongsAt 80 x N = some (v, N) := by
  have hn := h.1
  exact l_wrongs h x n 0 LF 0 (by omega) (by unfold LF; omega)
theorem adrX (x : Int32) (M : Mem) : fX9_isAddress x M = some (wkI (inS x 0 63), M) := by
  unfold fX9_isAddress
  rw [wX x 0 63 0 63 rfl rfl, bI_s, isB_wk, ck_t]
theorem adrM (x : Int32) (M : Mem) : fX10_isAddress x.toInt64 M = some (wkI (inS x 0 63), M) := by
  unfold fX10_isAddress
  rw [wM x 0 63 0 63 rfl rfl, bI_s, isB_wk, ck_t]
theorem m_wrongs (x : Int32) : Eq2 S (fX9_wrongs 0 x) (fX10_wrongs 80 x) := by
  apply eq2_c
  intro M N hM hN
  unfold fX9_wrongs fX10_wrongs
  obtain ⟨N1, e1, a1, j1, f1⟩ := hN.asks
  rw [toldX hM, bI_s, e1, bI_s]
  simp only [Nat.zero_add]
  by_cases hp : pgS (S.1 0) = true
  · have ht := tw_of hM (a1 hp) rfl
    obtain ⟨v, c1, c2⟩ := l_wrongs0 ht x
    rw [wif_t hp, wif_t hp, adrX, bI_s, adrM, bI_s, c1, bI_s, c2, bI_s]
    by_cases hx : inS x 0 63 = true
    · rw [wif_t hx, wif_t hx]
      exact ⟨v, N1, rfl, rfl, j1, f1⟩
    · rw [wif_f hx, wif_f hx]
      exact ⟨_, N1, rfl, rfl, j1, f1⟩
  · rw [wif_f hp, wif_f hp]
    exact ⟨_, N1, rfl, rfl, j1, f1⟩
theorem l_worst (h : TW n M N) : ∀ (m b f : Nat) (a w : Int32), b + m = 64 → m < f → ∃ v, fX9_worst_16 f 0 a w (nI b) M = some (v, M) ∧ fX10_worst_16 f 80 a w (nI b) N = some (v, N) := by
  intro m
  induction m with
  | zero =>
    intro b f a w hm hf
    cases f with
    | zero => omega
    | succ f =>
      unfold fX9_worst_16 fX10_worst_16
      rw [if_pos (show (63 : Int32) < nI b from nI_lt (a := 63) (by omega) (by omega)), if_pos (show (64 : Int32) ≤ nI b from nI_le (a := 64) (by omega) (by omega))]
      exact ⟨a, rfl, rfl⟩
  | succ m ih =>
    intro b f a w hm hf
    cases f with
    | zero => omega
    | succ f =>
      unfold fX9_worst_16 fX10_worst_16 fX9_worst_43 fX10_worst_42
      simp only [Nat.zero_add]
      obtain ⟨v, c1, c2⟩ := l_wrongs0 h (nI b)
      rw [if_neg (show ¬ (63 : Int32) < nI b from nI_nlt (a := 63) (by omega) (by omega)), if_neg (show ¬ (64 : Int32) ≤ nI b from nI_ge (b := 64) (by omega) (by omega)), c1, bI_s, c2, bI_s, c2, bI_s, nI_1]
      by_cases g : v ≤ w
      · have g2 : ¬ w < v := by rw [fa_le] at g; rw [fa_lt]; omega
        rw [if_pos g, if_neg g2]; exact ih (b + 1) f _ _ (by omega) (by omega)
      · have g2 : w < v := by rw [fa_le] at g; rw [fa_lt]; omega
        rw [if_neg g, if_pos g2]; exact ih (b + 1) f _ _ (by omega) (by omega)
theorem m_worst : Eq2 S (fX9_worst 0) (fX10_worst 80) := by
  apply eq2_c
  intro M N hM hN
  unfold fX9_worst fX10_worst
  obtain ⟨N1, e1, a1, j1, f1⟩ := hN.asks
  rw [toldX hM, bI_s, e1, bI_s]
  by_cases hp : pgS (S.1 0) = true
  · have ht := tw_of hM (a1 hp) rfl
    rw [wif_t hp, wif_t hp]
    obtain ⟨v, c1, c2⟩ := l_worst ht 64 0 LF (-1) 0 (by omega) (by unfold LF; omega)
    exact ⟨v, N1, c1, c2, j1, f1⟩
  · rw [wif_f hp, wif_f hp]
    exact ⟨_, N1, rfl, rfl, j1, f1⟩
theorem l_streak (h : TW n M N) : ∀ (m b f : Nat) (a w : Int32), b + m = n → m < f → ∃ v, fX9_streak_16 f 0 a w (nI b) M = some (v, M) ∧ fX10_streak_16 f 80 a w (nI b) N = some (v, N) := by
  have hn := h.1
  intro m
  induction m with
  | zero =>
    intro b f a w hm hf
    cases f with
    | zero => omega
    | succ f =>
      unfold fX9_streak_16 fX10_streak_16
      simp only [Nat.zero_add]
      rw [h.2.1, h.2.2.1, if_pos (nI_le (by omega) (by omega)), if_pos (nI_le (by omega) (by omega))]
      exact ⟨a, rfl, rfl⟩
  | succ m ih =>
    intro b f a w hm hf
    cases f with
    | zero => omega
    | succ f =>
      unfold fX9_streak_16 fX10_streak_16 fX9_streak_45 fX10_streak_39
      simp only [Nat.zero_add]
      rw [h.2.1, h.2.2.1, if_neg (nI_ge (by omega) (by omega)), if_neg (nI_ge (by omega) (by omega)), iwX h (by omega), bI_s, iwM h (by omega), bI_s, nI_1]
      by_cases e : wrB M b = true
      · rw [wif_t e, wif_t e]; exact ih (b + 1) f _ _ (by omega) (by omega)
      · rw [wif_f e, wif_f e]; exact ih (b + 1) f _ _ (by omega) (by omega)
theorem m_streak : Eq2 S (fX9_streak 0) (fX10_streak 80) := by
  apply eq2_c
  intro M N hM hN
  unfold fX9_streak fX10_streak
  obtain ⟨N1, e1, a1, j1, f1⟩ := hN.asks
  rw [toldX hM, bI_s, e1, bI_s]
  by_cases hp : pgS (S.1 0) = true
  · have ht := tw_of hM (a1 hp) rfl
    have hn := ht.1
    rw [wif_t hp, wif_t hp]
    obtain ⟨v, c1, c2⟩ := l_streak ht (allS (S.1 0)).length 0 LF 0 0 (by omega) (by unfold LF; omega)
    exact ⟨v, N1, c1, c2, j1, f1⟩
  · rw [wif_f hp, wif_f hp]
    exact ⟨_, N1, rfl, rfl, j1, f1⟩
theorem l_said (h : TW n M N) (x : Int32) : ∀ (m b f : Nat) (a : Int32), b + m = n → m < f → ∃ v, fX8_countOf_5 f 39 7 x a (nI b) M = some (v, M) ∧ fX10_said_26 f 80 x a (nI b) N = some (v, N) := by
  have hn := h.1
  intro m
  induction m with
  | zero =>
    intro b f a hm hf
    cases f with
    | zero => omega
    | succ f =>
      unfold fX8_countOf_5 fX10_said_26
      rw [h.2.1, h.2.2.1, if_pos (nI_le (by omega) (by omega)), if_pos (nI_le (by omega) (by omega))]
      exact ⟨a, rfl, rfl⟩
  | succ m ih =>
    intro b f a hm hf
    cases f with
    | zero => omega
    | succ f =>
      unfold fX8_countOf_5 fX10_said_26 fX8_countOf_28 fX10_said_50
      rw [h.2.1, h.2.2.1, if_neg (nI_ge (by omega) (by omega)), if_neg (nI_ge (by omega) (by omega)), nI_1, Int32.add_zero, ib_n (show b < 240 by omega) (by omega), ck_t, tn_n (by omega), show N.1 (80 + 31) b = _ from rc_ (k := 7) rfl h (by omega) (by omega), show fX8_fact 39 (nI b) 7 M = _ from factX (k := 7) (by omega) (by omega) M, bI_s]
      by_cases g : M.1 40 (9 * b + 7) = x
      · rw [if_pos g, if_pos g]; exact ih (b + 1) f _ (by omega) (by omega)
      · rw [if_neg g, if_neg g]; exact ih (b + 1) f _ (by omega) (by omega)
theorem whoX (x : Int32) (M : Mem) : fX9_isWho x M = some (wkI (inS x 0 2), M) := by
  unfold fX9_isWho
  rw [wX x 0 2 0 2 rfl rfl, bI_s, isB_wk, ck_t]
theorem m_said (x : Int32) : Eq2 S (fX9_said 0 x) (fX10_said 80 x) := by
  apply eq2_c
  intro M N hM hN
  unfold fX9_said fX10_said fX8_countOf
  obtain ⟨N1, e1, a1, j1, f1⟩ := hN.asks
  rw [toldX hM, bI_s, e1, bI_s]
  simp only [Nat.zero_add]
  by_cases hp : pgS (S.1 0) = true
  · have ht := tw_of hM (a1 hp) rfl
    have hn := ht.1
    obtain ⟨v, c1, c2⟩ := l_said ht x (allS (S.1 0)).length 0 LF 0 (by omega) (by unfold LF; omega)
    rw [wif_t hp, wif_t hp, whoX, bI_s, wM x 0 2 0 2 rfl rfl, bI_s, show fX8_countOf_5 LF 39 7 x 0 0 M = _ from c1, bI_s]
    by_cases hx : inS x 0 2 = true
    · rw [wif_t hx, wif_t hx]
      exact ⟨v, N1, rfl, c2, j1, f1⟩
    · rw [wif_f hx, wif_f hx]
      exact ⟨_, N1, rfl, rfl, j1, f1⟩
  · rw [wif_f hp, wif_f hp]
    exact ⟨_, N1, rfl, rfl, j1, f1⟩
theorem l_prov (h : TW n M N) (x : Int32) : ∀ (m b f : Nat) (a : Int32), b + m = n → m < f → ∃ v, fX8_countOf_5 f 39 3 x a (nI b) M = some (v, M) ∧ fX10_provided_28 f 80 x a (nI b) N = some (v, N) := by
  have hn := h.1
  intro m
  induction m with
  | zero =>
    intro b f a hm hf
    cases f with
    | zero => omega
    | succ f =>
      unfold fX8_countOf_5 fX10_provided_28
      rw [h.2.1, h.2.2.1, if_pos (nI_le (by omega) (by omega)), if_pos (nI_le (by omega) (by omega))]
      exact ⟨a, rfl, rfl⟩
  | succ m ih =>
    intro b f a hm hf
    cases f with
    | zero => omega
    | succ f =>
      unfold fX8_countOf_5 fX10_provided_28 fX8_countOf_28 fX10_provided_52
      rw [h.2.1, h.2.2.1, if_neg (nI_ge (by omega) (by omega)), if_neg (nI_ge (by omega) (by omega)), nI_1, Int32.add_zero, ib_n (show b < 240 by omega) (by omega), ck_t, tn_n (by omega), show N.1 (80 + 27) b = _ from rc_ (k := 3) rfl h (by omega) (by omega), show fX8_fact 39 (nI b) 3 M = _ from factX (k := 3) (by omega) (by omega) M, bI_s]
      by_cases g : M.1 40 (9 * b + 3) = x
      · rw [if_pos g, if_pos g]; exact ih (b + 1) f _ (by omega) (by omega)
      · rw [if_neg g, if_neg g]; exact ih (b + 1) f _ (by omega) (by omega)
theorem tabsM (hN : N.1 81 = S.1 0) : fX10_tables 80 N = some ((S.1 0) 6, N) := by
  unfold fX10_tables
  rw [show ib (6 : Int32) 215 = true from rfl, ck_t, show tn (6 : Int32) = 6 from rfl, show N.1 (80 + 1) = S.1 0 from hN]
theorem m_provided (x : Int32) : Eq2 S (fX9_provided 0 x) (fX10_provided 80 x) := by
  apply eq2_c
  intro M N hM hN
  unfold fX9_provided fX10_provided fX8_countOf
  obtain ⟨N1, e1, a1, j1, f1⟩ := hN.asks
  rw [toldX hM, bI_s, e1, bI_s]
  simp only [Nat.zero_add]
  by_cases hp : pgS (S.1 0) = true
  · have ht := tw_of hM (a1 hp) rfl
    have hn := ht.1
    obtain ⟨v, c1, c2⟩ := l_prov ht x (allS (S.1 0)).length 0 LF 0 (by omega) (by unfold LF; omega)
    rw [wif_t hp, wif_t hp, tabsM j1.1.2.1, bI_s, hM.1.2.1.1.2.1, wX0, bI_s, wM0, bI_s, show fX8_countOf_5 LF 39 3 x 0 0 M = _ from c1, bI_s]
    by_cases hx : inS x 0 ((S.1 0) 6) = true
    · rw [wif_t hx, wif_t hx]
      exact ⟨v, N1, rfl, c2, j1, f1⟩
    · rw [wif_f hx, wif_f hx]
      exact ⟨_, N1, rfl, rfl, j1, f1⟩
  · rw [wif_f hp, wif_f hp]
    exact ⟨_, N1, rfl, rfl, j1, f1⟩
theorem l_gain (h : TW n M N) (x : Int32) : ∀ (m b f : Nat) (a : Int32), b + m = n → m < f → ∃ v, fX9_gained_22 f 0 x a (nI b) M = some (v, M) ∧ fX10_gained_27 f 80 x a (nI b) N = some (v, N) := by
  have hn := h.1
  intro m
  induction m with
  | zero =>
    intro b f a hm hf
    cases f with
    | zero => omega
    | succ f =>
      unfold fX9_gained_22 fX10_gained_27
      simp only [Nat.zero_add]
      rw [h.2.1, h.2.2.1, if_pos (nI_le (by omega) (by omega)), if_pos (nI_le (by omega) (by omega))]
      exact ⟨a, rfl, rfl⟩
  | succ m ih =>
    intro b f a hm hf
    cases f with
    | zero => omega
    | succ f =>
      unfold fX9_gained_22 fX10_gained_27 fX9_gained_86 fX9_gained_88 fX10_gained_74 fX10_gained_76
      simp only [Nat.zero_add]
      rw [h.2.1, h.2.2.1, if_neg (nI_ge (by omega) (by omega)), if_neg (nI_ge (by omega) (by omega)), nI_1, ib_n (show b < 240 by omega) (by omega), ck_t, ck_t, ck_t, tn_n (by omega), show N.1 (80 + 31) b = _ from rc_ (k := 7) rfl h (by omega) (by omega), show N.1 (80 + 26) b = _ from rc_ (k := 2) rfl h (by omega) (by omega), show N.1 (80 + 30) b = _ from rc_ (k := 6) rfl h (by omega) (by omega), show fX8_fact 39 (nI b) 7 M = _ from factX (k := 7) (by omega) (by omega) M, bI_s, show fX8_fact 39 (nI b) 2 M = _ from factX (k := 2) (by omega) (by omega) M, bI_s, show fX8_fact 39 (nI b) 6 M = _ from factX (k := 6) (by omega) (by omega) M, bI_s, iwX h (by omega), bI_s, iwM h (by omega), bI_s]
      by_cases g : M.1 40 (9 * b + 7) = x
      · rw [if_pos g, if_pos g]
        by_cases g2 : M.1 40 (9 * b + 2) = M.1 40 (9 * b + 6)
        · rw [if_pos g2, if_pos g2]; exact ih (b + 1) f _ (by omega) (by omega)
        · rw [if_neg g2, if_neg g2]
          by_cases e : wrB M b = true
          · rw [wif_t e, wif_t e]; exact ih (b + 1) f _ (by omega) (by omega)
          · rw [wif_f e, wif_f e]; exact ih (b + 1) f _ (by omega) (by omega)
      · rw [if_neg g, if_neg g]; exact ih (b + 1) f _ (by omega) (by omega)
theorem m_gained (x : Int32) : Eq2 S (fX9_gained 0 x) (fX10_gained 80 x) := by
  apply eq2_c
  intro M N hM hN
  unfold fX9_gained fX10_gained
  obtain ⟨N1, e1, a1, j1, f1⟩ := hN.asks
  rw [toldX hM, bI_s, e1, bI_s]
  by_cases hp : pgS (S.1 0) = true
  · have ht := tw_of hM (a1 hp) rfl
    have hn := ht.1
    obtain ⟨v, c1, c2⟩ := l_gain ht x (allS (S.1 0)).length 0 LF 0 (by omega) (by unfold LF; omega)
    rw [wif_t hp, wif_t hp, whoX, bI_s, wM x 0 2 0 2 rfl rfl, bI_s]
    by_cases hx : inS x 0 2 = true
    · rw [wif_t hx, wif_t hx]
      exact ⟨v, N1, c1, c2, j1, f1⟩
    · rw [wif_f hx, wif_f hx]
      exact ⟨_, N1, rfl, rfl, j1, f1⟩
  · rw [wif_f hp, wif_f hp]
    exact ⟨_, N1, rfl, rfl, j1, f1⟩
end Meth2
