/-! What slots hold against the guesser: public methods trace, like. -/
section Trace
variable {S : St} {M N : Mem} {W : Wd}
theorem inM64 (l0 l2 l4 : Int64) (M : Mem) : fX10_in l0 l2 l4 M = some (if l2 ≤ l0 ∧ l0 ≤ l4 then 1 else 0, M) := wiX l0 l2 l4 M
theorem l64_n {v : Int64} {n : Nat} (hn : n < 2 ^ 31) (h : (0 : Int64) ≤ v ∧ v ≤ (nI n).toInt64) : ∃ q, q ≤ n ∧ v = lN q := by
  obtain ⟨h1, h2⟩ := h
  rw [fa_le64, show (0 : Int64).toInt = 0 from rfl] at h1
  rw [fa_le64, Int32.toInt_toInt64, nI_toInt hn] at h2
  refine ⟨v.toInt.toNat, by omega, ?_⟩
  apply Int64.toInt_inj.mp
  rw [pk_lT (by omega)]; omega
theorem atX (hM : JC S M) {k i : Nat} (hk : k < 4) (hi : i < 60) : fX5_at 76 (nI k) (nI i) M = some (S.2 (60 * k + i), M) := by
  unfold fX5_at
  rw [n60, nI_add, ib_n (show 60 * k + i < 240 by omega) (by omega), ck_t, tn_n (by omega), show M.2 (76 + 3) (60 * k + i) = _ from hM.2.2.2.2.2.2 _ (by omega)]
theorem atM (hN : JR S N) {k i : Nat} (hk : k < 4) (hi : i < 60) : fX10_numberIn 80 (nI k) (nI i) N = some (S.2 (60 * k + i), N) := by
  unfold fX10_numberIn
  rw [n60, nI_add, ib_n (show 60 * k + i < 240 by omega) (by omega), ck_t, tn_n (by omega), show N.2 (80 + 36) (60 * k + i) = _ from hN.2.2.2.2.2 _ (by omega)]
theorem are0 (hN : JR S N) {k n : Nat} (hk : k < 4) (hn : n ≤ 60) (e7 : S.1 7 k = nI n) (y : Int32) : ∀ (m i f : Nat), i + m = n → m < f → fX10_areIn_5 f 80 (nI k) y 0 (nI i) N = some (0, N) := by
  intro m
  induction m with
  | zero =>
    intro i f hm hf
    cases f with
    | zero => omega
    | succ f =>
      unfold fX10_areIn_5
      rw [ib_n hk (by omega), ck_t, tn_n (by omega), show N.1 (80 + 34) k = _ from (hN.2.2.2.2.1 k hk).2, e7, if_pos (nI_le (by omega) (by omega)), show isB 0 = true from rfl, ck_t]
  | succ m ih =>
    intro i f hm hf
    cases f with
    | zero => omega
    | succ f =>
      unfold fX10_areIn_5 fX10_areIn_40 fX10_areIn_41
      rw [ib_n hk (by omega), ck_t, tn_n (by omega), show N.1 (80 + 34) k = _ from (hN.2.2.2.2.1 k hk).2, e7, if_neg (nI_ge (by omega) (by omega)), if_pos rfl, nI_1]
      exact ih (i + 1) f (by omega) (by omega)
theorem allE (hM : JC S M) (hN : JR S N) {k n : Nat} (hk : k < 4) (hn : n ≤ 60) (e7 : S.1 7 k = nI n) (y : Int32) : ∀ (m i f f' : Nat), i + m = n → m < f → m < f' → ∃ b, fX5_allWithin_2 f 76 (nI k) y (nI i) M = some (wkI b, M) ∧ fX10_areIn_5 f' 80 (nI k) y 1 (nI i) N = some (wkI b, N) ∧ (b = true → ∀ j, i ≤ j → j < n → (0 : Int64) ≤ S.2 (60 * k + j) ∧ S.2 (60 * k + j) ≤ y.toInt64) := by
  intro m
  induction m with
  | zero =>
    intro i f f' hm hf hf'
    cases f with
    | zero => omega
    | succ f =>
    cases f' with
    | zero => omega
    | succ f' =>
      unfold fX5_allWithin_2 fX10_areIn_5
      rw [ib_n hk (by omega), ck_t, ck_t, tn_n (by omega), show N.1 (80 + 34) k = _ from (hN.2.2.2.2.1 k hk).2, show M.1 (76 + 2) k = _ from (hM.2.2.2.2.2.1 k hk).2, e7, if_pos (nI_le (by omega) (by omega)), if_pos (nI_le (by omega) (by omega)), show isB 1 = true from rfl, ck_t]
      exact ⟨true, rfl, rfl, fun _ j h1 h2 => by omega⟩
  | succ m ih =>
    intro i f f' hm hf hf'
    cases f with
    | zero => omega
    | succ f =>
    cases f' with
    | zero => omega
    | succ f' =>
      unfold fX5_allWithin_2 fX10_areIn_5 fX10_areIn_40 fX10_areIn_41
      rw [ib_n hk (by omega), ck_t, ck_t, tn_n (by omega), show N.1 (80 + 34) k = _ from (hN.2.2.2.2.1 k hk).2, show M.1 (76 + 2) k = _ from (hM.2.2.2.2.2.1 k hk).2, e7, if_neg (nI_ge (by omega) (by omega)), if_neg (nI_ge (by omega) (by omega)), if_neg (show ¬ (1 : Int32) = 0 by decide), atX hM hk (by omega), bL_s, atM hN hk (by omega), bL_s, wiX, bI_s, inM64, bI_s, nI_1]
      by_cases h : (0 : Int64) ≤ S.2 (60 * k + i) ∧ S.2 (60 * k + i) ≤ y.toInt64
      · rw [if_pos h, if_neg (by decide), if_neg (by decide)]
        obtain ⟨b, b1, b2, b3⟩ := ih (i + 1) f f' (by omega) (by omega) (by omega)
        refine ⟨b, b1, b2, fun hb j h1 h2 => ?_⟩
        by_cases e : j = i
        · subst e; exact h
        · exact b3 hb j (by omega) h2
      · rw [if_neg h, if_pos rfl, if_pos rfl]
        exact ⟨false, rfl, are0 hN hk hn e7 y m (i + 1) f' (by omega) (by omega), fun h => by cases h⟩
theorem l_trace {cf : Cfg} (hc : CfgOk cf) {k n : Nat} (hk : k < 4) (hn : n ≤ 60) (e7 : S.1 7 k = nI n) (hv : ∀ j, j < n → ∃ q, q ≤ 127 ∧ S.2 (60 * k + j) = lN q) : ∀ (m i f f' : Nat) (w : Int32) (s : GS × Nat) (M N : Mem), i + m = n → m < f → m < f' → GI s.1 → GZ s.1 → JC S M → JR S N → GX cf s.1 s.2 58 M → GM cf s.1 s.2 80 N → ∃ v M' N', fX9_trace_62 f 0 (nI k) w (nI i) M = some (v, M') ∧ fX10_trace_51 f' 80 (nI k) w (nI i) N = some (v, N') ∧ JC S M' ∧ JR S N' ∧ FrCl M M' ∧ FrJ N N' := by
  intro m
  induction m with
  | zero =>
    intro i f f' w s M N hm hf hf' gi gz hM hN hG hR
    cases f with
    | zero => omega
    | succ f =>
    cases f' with
    | zero => omega
    | succ f' =>
      unfold fX9_trace_62 fX10_trace_51
      simp only [Nat.zero_add]
      rw [ib_n hk (by omega), ck_t, ck_t, tn_n (by omega), show N.1 (80 + 34) k = _ from (hN.2.2.2.2.1 k hk).2, show M.1 (76 + 2) k = _ from (hM.2.2.2.2.2.1 k hk).2, e7, if_pos (nI_le (by omega) (by omega)), if_pos (nI_le (by omega) (by omega))]
      exact ⟨w, M, N, rfl, rfl, hM, hN, FrCl.rf, FrJ.rf⟩
  | succ m ih =>
    intro i f f' w s M N hm hf hf' gi gz hM hN hG hR
    cases f with
    | zero => omega
    | succ f =>
    cases f' with
    | zero => omega
    | succ f' =>
      obtain ⟨q, hq, eq⟩ := hv i (by omega)
      have e2 : nI q / 2 = nI (q / 2) := pk_div (d := 2) (by omega) (by omega) (by omega)
      have e3 : irm (nI q) 2 = nI (q % 2) := pk_rem (d := 2) (by omega) (by omega) (by omega)
      have t01 : nI (q % 2) = 0 ∨ nI (q % 2) = 1 := by
        have : q % 2 = 0 ∨ q % 2 = 1 := by omega
        rcases this with e | e
        · left; rw [e]; rfl
        · right; rw [e]; rfl
      obtain ⟨M1, a1, a2, a3, a4, a5⟩ := askX hc (show q / 2 < 64 by omega) hG
      obtain ⟨M3, c1, c2, c3, c4⟩ := learnX hc (show q / 2 < 64 by omega) t01 a2 a3
      obtain ⟨N1, b1, b2, b3, b4⟩ := askM hc (show q / 2 < 64 by omega) gi hR
      obtain ⟨N3, d1, d2, d3, d4, d5⟩ := learnM hc (show q / 2 < 64 by omega) t01 gi b3 b4
      have fr : FrM 80 N1 N3 := ⟨fun c a b => d3 c a (by omega), fun k hk => d4 k (by omega), d5⟩
      have gi' : GI (lnS cf s.1 s.2 (q / 2) (nI (q % 2))) := ln_i hc gi
      have gz' : GZ (lnS cf s.1 s.2 (q / 2) (nI (q % 2))) := ln_z hc gz
      have j3 : JC S M3 := (hM.rv a4 (by rw [a2.2.2.1]; exact gz)).rv c3 (by rw [c2.2.2.1]; exact gz')
      have r3 : JR S N3 := hN.j (b2.fr.k.j.tr fr.k.j) (by rw [d2.2.1]; exact gz')
      unfold fX9_trace_62 fX10_trace_51 fX9_trace_108 fX10_trace_95
      simp only [Nat.zero_add]
      rw [ib_n hk (by omega), ck_t, ck_t, tn_n (by omega), show N.1 (80 + 34) k = _ from (hN.2.2.2.2.1 k hk).2, show M.1 (76 + 2) k = _ from (hM.2.2.2.2.2.1 k hk).2, e7, if_neg (nI_ge (by omega) (by omega)), if_neg (nI_ge (by omega) (by omega)), atX hM hk (by omega), bL_s, atM hN hk (by omega), bL_s, eq, lN_32, e2, e3, a1, bI_s, b1, bV_s, b4.2.2.2.2.2.2.1, c1, bV_s, d1, bV_s, nI_1, bV_s, bV_s, Int32.add_zero]
      by_cases h : anS cf s.1 s.2 (q / 2) = nI (q % 2)
      · rw [if_pos h, if_pos h]
        obtain ⟨v, M', N', u1, u2, u3, u4, u5, u6⟩ := ih (i + 1) f f' w (lnS cf s.1 s.2 (q / 2) (nI (q % 2)), paS s.2 (nI (q % 2))) M3 N3 (by omega) (by omega) (by omega) gi' gz' j3 r3 c2 d2
        exact ⟨v, M', N', u1, u2, u3, u4, ((a4.cl (by omega)).tr (c3.cl (by omega))).tr u5, (b2.fr.k.j.tr fr.k.j).tr u6⟩
      · rw [if_neg h, if_neg h]
        obtain ⟨v, M', N', u1, u2, u3, u4, u5, u6⟩ := ih (i + 1) f f' (w + 1) (lnS cf s.1 s.2 (q / 2) (nI (q % 2)), paS s.2 (nI (q % 2))) M3 N3 (by omega) (by omega) (by omega) gi' gz' j3 r3 c2 d2
        exact ⟨v, M', N', u1, u2, u3, u4, ((a4.cl (by omega)).tr (c3.cl (by omega))).tr u5, (b2.fr.k.j.tr fr.k.j).tr u6⟩
theorem m_trace (x : Int32) : Eq2 S (fX9_trace 0 x) (fX10_trace 80 x) := by
  intro M N hM hN
  unfold fX9_trace fX10_trace
  obtain ⟨N1, e1, l1, k1, f1, c1, o1, m1⟩ := laysM (o := 80) hN.w.1 rfl hN.1.2.1
  have z1 : GZ (vM 80 N1) := by rw [vM_mv c1 o1]; exact hN.1.2.2
  have j1 : JR S N1 := hN.j f1.j z1
  rw [toldX hM, bI_s, slM, bI_s, slX, bI_s]
  by_cases hx : inS x 0 3 = true
  · obtain ⟨k, hk, ek⟩ := in_3 hx
    subst ek
    rw [wif_t hx, wif_t hx, e1, bI_s]
    by_cases hp : pgS (S.1 0) = true
    · have hH := hM.w.2.1 hp
      rw [wif_t hp, wif_t hp, show fX5_hasRow (0 + 76) (nI k) M = _ from hasRX hM hk, bI_s, ib_n hk (by omega), ck_t, tn_n (by omega), show N1.1 (80 + 34) k = _ from (j1.2.2.2.2.1 k hk).2]
      by_cases e : S.1 7 k = -1
      · rw [if_pos e, wif_f (by simp [e])]
        exact ⟨_, M, N1, S, rfl, rfl, hM, j1, FrCl.rf, f1.j.rfr⟩
      · obtain ⟨n, hn, en⟩ : ∃ n, n ≤ 60 ∧ S.1 7 k = nI n := by
          rcases (hM.1.1.2.2 k hk).1 with h | h
          · exact absurd h e
          · exact h
        rw [if_neg e, wif_t (by simp [e])]
        obtain ⟨b, b1, b2, b3⟩ := allE hM j1 hk hn en 127 n 0 LF LF (by omega) (by unfold LF; omega) (by unfold LF; omega)
        unfold fX5_allWithin fX10_areIn
        rw [show fX5_allWithin_2 LF (0 + 76) (nI k) 127 0 M = _ from b1, bI_s, show fX10_areIn_5 LF 80 (nI k) 127 1 0 N1 = _ from b2, bI_s]
        by_cases hb : b = true
        · rw [wif_t hb, wif_t hb]
          simp only [Nat.zero_add]
          obtain ⟨M1, s1, s2, s3, s4, s5⟩ := setAsX (o := 58) (q := 9) (M := M) rfl (by omega) hM.w.1 hM.1.2.1 hM.2.1.2.2
          obtain ⟨N2, t1, t2, t3, t4⟩ := beginM (o := 80) z1
          have j2 : JR S N2 := j1.j t2.k.j (by rw [t3]; exact g0_z)
          obtain ⟨v, M', N', u1, u2, u3, u4, u5, u6⟩ := l_trace hH.2.2 hk hn en (fun j hj => l64_n (n := 127) (by omega) (b3 hb j (by omega) hj)) n 0 LF LF 0 (g0S, 0) M1 N2 (by omega) (by unfold LF; omega) (by unfold LF; omega) g0_i g0_z (hM.rv s5 (by rw [s3]; exact g0_z)) j2 (s2 hH) ⟨(k1 hH).fr t2, t3, t4, (show (0 : Nat) < 2 ^ 40 by decide)⟩
          rw [s1, bV_s, t1, bV_s, show fX9_trace_62 LF 0 (nI k) 0 0 M1 = _ from u1, show fX10_trace_51 LF 80 (nI k) 0 0 N2 = _ from u2]
          exact ⟨v, M', N', S, rfl, rfl, u3, u4, (s5.cl (by omega)).tr u5, (f1.j.tr (t2.k.j.tr u6)).rfr⟩
        · rw [wif_f hb, wif_f hb]
          exact ⟨_, M, N1, S, rfl, rfl, hM, j1, FrCl.rf, f1.j.rfr⟩
    · rw [wif_f hp, wif_f hp]
      exact ⟨_, M, N1, S, rfl, rfl, hM, j1, FrCl.rf, f1.j.rfr⟩
  · rw [wif_f hx, wif_f hx]
    by_cases hp : pgS (S.1 0) = true
    · rw [wif_t hp]
      exact ⟨_, M, N, S, rfl, rfl, hM, hN, FrCl.rf, FrRf.rf⟩
    · rw [wif_f hp]
      exact ⟨_, M, N, S, rfl, rfl, hM, hN, FrCl.rf, FrRf.rf⟩
theorem lk0 (hN : JR S N) {k n : Nat} (hk : k < 4) (hn : n ≤ 60) (e7 : S.1 7 k = nI n) {k59 : Nat → Int32 → Int32 → Int32 → Mem → Option (Int32 × Mem)} (x2 x3 : Int32) : ∀ (m i f : Nat), i + m = n → m < f → fX10_like_76 k59 f 80 (nI k) x2 x3 0 (nI i) N = fX10_like_137 k59 80 (nI k) x3 x2 0 N := by
  intro m
  induction m with
  | zero =>
    intro i f hm hf
    cases f with
    | zero => omega
    | succ f =>
      unfold fX10_like_76
      rw [ib_n hk (by omega), ck_t, tn_n (by omega), show N.1 (80 + 34) k = _ from (hN.2.2.2.2.1 k hk).2, e7, if_pos (nI_le (by omega) (by omega)), if_pos rfl]
  | succ m ih =>
    intro i f hm hf
    cases f with
    | zero => omega
    | succ f =>
      unfold fX10_like_76 fX10_like_115 fX10_like_116
      rw [ib_n hk (by omega), ck_t, tn_n (by omega), show N.1 (80 + 34) k = _ from (hN.2.2.2.2.1 k hk).2, e7, if_neg (nI_ge (by omega) (by omega)), if_pos rfl, nI_1]
      exact ih (i + 1) f (by omega) (by omega)
theorem l_gs {cf : Cfg} (hc : CfgOk cf) {k n : Nat} (hk : k < 4) (hn : n ≤ 60) (hl : n ≤ (allS (S.1 0)).length) (e7 : S.1 7 k = nI n) {k59 : Nat → Int32 → Int32 → Int32 → Mem → Option (Int32 × Mem)} (x2 x3 : Int32) (hN : JR S N) (hR : RcM cf (pl (allS (S.1 0))) 80 (allS (S.1 0)).length N) : ∀ (m i f f' : Nat) (M : Mem), i + m = n → m < f → m < f' → JC S M → GX cf (gA cf ((pl (allS (S.1 0))).take i)).1 (gA cf ((pl (allS (S.1 0))).take i)).2 58 M → ∃ b M', fX9_rivalGuessesAs_2 f 0 (nI k) (nI i) M = some (wkI b, M') ∧ fX10_like_76 k59 f' 80 (nI k) x2 x3 1 (nI i) N = fX10_like_137 k59 80 (nI k) x3 x2 (if b = true then (1 : Int32) <<< (x3 &&& 31) else 0) N ∧ JC S M' ∧ FrCl M M' := by
  intro m
  induction m with
  | zero =>
    intro i f f' M hm hf hf' hM hG
    cases f with
    | zero => omega
    | succ f =>
    cases f' with
    | zero => omega
    | succ f' =>
      unfold fX9_rivalGuessesAs_2 fX10_like_76
      simp only [Nat.zero_add]
      rw [ib_n hk (by omega), ck_t, ck_t, tn_n (by omega), show N.1 (80 + 34) k = _ from (hN.2.2.2.2.1 k hk).2, show M.1 (76 + 2) k = _ from (hM.2.2.2.2.2.1 k hk).2, e7, if_pos (nI_le (by omega) (by omega)), if_pos (nI_le (by omega) (by omega)), if_neg (show ¬ (1 : Int32) = 0 by decide)]
      exact ⟨true, M, rfl, rfl, hM, FrCl.rf⟩
  | succ m ih =>
    intro i f f' M hm hf hf' hM hG
    have hal := all_len hM.w.1
    have hb : i < (allS (S.1 0)).length := by omega
    cases f with
    | zero => omega
    | succ f =>
    cases f' with
    | zero => omega
    | succ f' =>
      obtain ⟨x, hx⟩ : ∃ x, (allS (S.1 0))[i]? = some x := ⟨(allS (S.1 0))[i], List.getElem?_eq_getElem hb⟩
      obtain ⟨x0, x1, x8⟩ := hM.1.2.2.2.1.2 i x hx
      have hpx := pl_get hx
      obtain ⟨hx64, hx01⟩ := all_ok hM.w.1 i _ hpx
      have hgv : N.1 (80 + 26) i = anS cf (gA cf ((pl (allS (S.1 0))).take i)).1 (gA cf ((pl (allS (S.1 0))).take i)).2 x.1 := by
        have := hR i hb 2 (by omega) (by omega)
        have hd : (pl (allS (S.1 0))).getD i (0, 0) = (x.1, x.2.1) := by rw [List.getD_eq_getElem?_getD, hpx]; rfl
        unfold fcS at this
        simp only [hd] at this
        exact this
      obtain ⟨M1, e1, g1, a1, f1, m1⟩ := askX hc hx64 hG
      have j1 : JC S M1 := hM.rv f1 (by rw [g1.2.2.1]; exact (gA_ok hc _).2.1)
      have x1' : M1.1 40 (9 * i + 1) = x.2.1 := by rw [(f1 40 (by omega)).1]; exact x1
      obtain ⟨M3, e3, g3, f3, m3⟩ := learnX hc hx64 hx01 g1 a1
      have g3' : GX cf (gA cf ((pl (allS (S.1 0))).take (i + 1))).1 (gA cf ((pl (allS (S.1 0))).take (i + 1))).2 58 M3 := by rw [gA_s cf hpx]; exact g3
      have j3 : JC S M3 := j1.rv f3 (by rw [g3'.2.2.1]; exact (gA_ok hc _).2.1)
      unfold fX9_rivalGuessesAs_2 fX10_like_76 fX10_like_115 fX10_like_116
      simp only [Nat.zero_add]
      rw [ib_n hk (by omega), ck_t, ck_t, tn_n (by omega), show N.1 (80 + 34) k = _ from (hN.2.2.2.2.1 k hk).2, show M.1 (76 + 2) k = _ from (hM.2.2.2.2.2.1 k hk).2, e7, if_neg (nI_ge (by omega) (by omega)), if_neg (nI_ge (by omega) (by omega)), if_neg (show ¬ (1 : Int32) = 0 by decide), show fX8_fact 39 (nI i) 0 M = _ from factX (k := 0) (by omega) (by omega) M, bI_s, show M.1 40 (9 * i + 0) = nI x.1 from x0, e1, bI_s, atX j1 hk (by omega), bL_s, ib_n (show i < 240 by omega) (by omega), ck_t, atM hN hk (by omega), bL_s, tn_n (by omega), hgv, show fX8_fact 39 (nI i) 1 M1 = _ from factX (k := 1) (by omega) (by omega) M1, bI_s, x1', e3, bV_s, nI_1]
      by_cases h : lg_cmp (anS cf (gA cf ((pl (allS (S.1 0))).take i)).1 (gA cf ((pl (allS (S.1 0))).take i)).2 x.1).toInt64 (S.2 (60 * k + i)) = 0
      · rw [if_pos h, if_pos h]
        obtain ⟨b, M', b1, b2, b3, b4⟩ := ih (i + 1) f f' M3 (by omega) (by omega) (by omega) j3 g3'
        exact ⟨b, M', b1, b2, b3, ((f1.cl (by omega)).tr (f3.cl (by omega))).tr b4⟩
      · rw [if_neg h, if_neg h]
        exact ⟨false, M1, rfl, lk0 hN hk hn e7 x2 x3 m (i + 1) f' (by omega) (by omega), j1, f1.cl (by omega)⟩
theorem l_like (hp : pgS (S.1 0) = true) {k n : Nat} (hk : k < 4) (hn : n ≤ 60) (hl : n ≤ (allS (S.1 0)).length) (e7 : S.1 7 k = nI n) : ∀ (m x f f' : Nat) (w : Int32) (M N : Mem), x + m = 8 → m < f → m < f' → JC S M → JR S N → LyM (S.1 0) 80 N → Kx (S.1 0) N → ∃ v M' N', fX9_like_69 f 0 (nI k) w (nI x) M = some (v, M') ∧ fX10_like_59 f' 80 (nI k) w (nI x) N = some (v, N') ∧ JC S M' ∧ JR S N' ∧ FrCl M M' ∧ FrJ N N' := by
  intro m
  induction m with
  | zero =>
    intro x f f' w M N hm hf hf' hM hN hL hK
    cases f with
    | zero => omega
    | succ f =>
    cases f' with
    | zero => omega
    | succ f' =>
      unfold fX9_like_69 fX10_like_59
      rw [if_pos (show (8 : Int32) ≤ nI x from nI_le (a := 8) (by omega) (by omega)), if_pos (show (8 : Int32) ≤ nI x from nI_le (a := 8) (by omega) (by omega))]
      exact ⟨w, M, N, rfl, rfl, hM, hN, FrCl.rf, FrJ.rf⟩
  | succ m ih =>
    intro x f f' w M N hm hf hf' hM hN hL hK
    cases f with
    | zero => omega
    | succ f =>
    cases f' with
    | zero => omega
    | succ f' =>
      have hH := hM.w.2.1 hp
      have hc := cfP_ok hH (show x < 8 by omega)
      obtain ⟨M1, s1, s2, s3, s4⟩ := setByX (x := x) hM hp
      obtain ⟨N1, t1, t2, t3, t4, t5, t6⟩ := playByK hM.w hp (show x < 8 by omega) hL hK hN.1.2.2
      have r1 : JR S N1 := hN.j t6.j t4
      obtain ⟨b, M2, u1, u2, u3, u4⟩ := l_gs (S := S) (N := N1) hc hk hn hl e7 (k59 := fX10_like_59 f') w (nI x) r1 t3 n 0 LF LF M1 (by omega) (by unfold LF; omega) (by unfold LF; omega) s3 (by rw [gA_0]; exact s2)
      unfold fX9_like_69 fX10_like_59 fX9_like_94 fX9_rivalGuessesAs
      rw [if_neg (show ¬ (8 : Int32) ≤ nI x from nI_ge (b := 8) (by omega) (by omega)), if_neg (show ¬ (8 : Int32) ≤ nI x from nI_ge (b := 8) (by omega) (by omega)), s1, bV_s, show fX9_rivalGuessesAs_2 LF 0 (nI k) 0 M1 = _ from u1, bI_s, t1, bV_s, show fX10_like_76 (fX10_like_59 f') LF 80 (nI k) w (nI x) 1 0 N1 = _ from u2, nI_1]
      unfold fX10_like_137
      rw [nI_1]
      by_cases hb : b = true
      · rw [wif_t hb, if_pos hb]
        obtain ⟨v, M', N', c1, c2, c3, c4, c5, c6⟩ := ih (x + 1) f f' (w ||| (1 : Int32) <<< (nI x &&& 31)) M2 N1 (by omega) (by omega) (by omega) u3 r1 t2 t5
        exact ⟨v, M', N', c1, c2, c3, c4, (s4.tr u4).tr c5, t6.j.tr c6⟩
      · rw [wif_f hb, if_neg hb, Int32.or_zero]
        obtain ⟨v, M', N', c1, c2, c3, c4, c5, c6⟩ := ih (x + 1) f f' w M2 N1 (by omega) (by omega) (by omega) u3 r1 t2 t5
        exact ⟨v, M', N', c1, c2, c3, c4, (s4.tr u4).tr c5, t6.j.tr c6⟩
theorem m_like (x : Int32) : Eq2 S (fX9_like 0 x) (fX10_like 80 x) := by
  intro M N hM hN
  unfold fX9_like fX10_like
  obtain ⟨N1, e1, l1, k1, f1, c1, o1, m1⟩ := laysM (o := 80) hN.w.1 rfl hN.1.2.1
  have z1 : GZ (vM 80 N1) := by rw [vM_mv c1 o1]; exact hN.1.2.2
  have j1 : JR S N1 := hN.j f1.j z1
  have hal := all_len hM.w.1
  rw [toldX hM, bI_s, slM, bI_s, slX, bI_s]
  by_cases hx : inS x 0 3 = true
  · obtain ⟨k, hk, ek⟩ := in_3 hx
    subst ek
    rw [wif_t hx, wif_t hx, e1, bI_s]
    by_cases hp : pgS (S.1 0) = true
    · have hH := hM.w.2.1 hp
      rw [wif_t hp, wif_t hp, show fX5_hasRow (0 + 76) (nI k) M = _ from hasRX hM hk, bI_s, ib_n hk (by omega), ck_t, tn_n (by omega), show N1.1 (80 + 34) k = _ from (j1.2.2.2.2.1 k hk).2]
      by_cases e : S.1 7 k = -1
      · rw [if_pos e, wif_f (by simp [e])]
        exact ⟨_, M, N1, S, rfl, rfl, hM, j1, FrCl.rf, f1.j.rfr⟩
      · obtain ⟨n, hn, en⟩ : ∃ n, n ≤ 60 ∧ S.1 7 k = nI n := by
          rcases (hM.1.1.2.2 k hk).1 with h | h
          · exact absurd h e
          · exact h
        rw [if_neg e, wif_t (by simp [e])]
        obtain ⟨b, b1, b2, b3⟩ := allE hM j1 hk hn en 1 n 0 LF LF (by omega) (by unfold LF; omega) (by unfold LF; omega)
        unfold fX5_allWithin fX10_areIn
        rw [show fX5_allWithin_2 LF (0 + 76) (nI k) 1 0 M = _ from b1, bI_s, show fX10_areIn_5 LF 80 (nI k) 1 1 0 N1 = _ from b2, bI_s]
        by_cases hb : b = true
        · rw [wif_t hb, wif_t hb, ck_t, ck_t, show M.1 (0 + 76 + 2) k = _ from (hM.2.2.2.2.2.1 k hk).2, show M.1 (0 + 39) 1 = _ from hM.1.2.2.2.1.1, l1.2.2.2.2.1, show N1.1 (80 + 34) k = _ from (j1.2.2.2.2.1 k hk).2, en]
          by_cases hl : n ≤ (allS (S.1 0)).length
          · rw [if_pos (nI_le hl (by omega)), if_pos (nI_le hl (by omega))]
            obtain ⟨v, M', N', u1, u2, u3, u4, u5, u6⟩ := l_like hp hk hn hl en 8 0 LF LF 0 M N1 (by omega) (by unfold LF; omega) (by unfold LF; omega) hM j1 l1 (fun x => byKM hH (k1 hH) x)
            rw [show fX9_like_69 LF 0 (nI k) 0 0 M = _ from u1, show fX10_like_59 LF 80 (nI k) 0 0 N1 = _ from u2]
            exact ⟨v, M', N', S, rfl, rfl, u3, u4, u5, (f1.j.tr u6).rfr⟩
          · rw [if_neg (nI_ge (by omega) (by omega)), if_neg (nI_ge (by omega) (by omega))]
            exact ⟨_, M, N1, S, rfl, rfl, hM, j1, FrCl.rf, f1.j.rfr⟩
        · rw [wif_f hb, wif_f hb]
          exact ⟨_, M, N1, S, rfl, rfl, hM, j1, FrCl.rf, f1.j.rfr⟩
    · rw [wif_f hp, wif_f hp]
      exact ⟨_, M, N1, S, rfl, rfl, hM, j1, FrCl.rf, f1.j.rfr⟩
  · rw [wif_f hx, wif_f hx]
    by_cases hp : pgS (S.1 0) = true
    · rw [wif_t hp]
      exact ⟨_, M, N, S, rfl, rfl, hM, hN, FrCl.rf, FrRf.rf⟩
    · rw [wif_f hp]
      exact ⟨_, M, N, S, rfl, rfl, hM, hN, FrCl.rf, FrRf.rf⟩
end Trace
