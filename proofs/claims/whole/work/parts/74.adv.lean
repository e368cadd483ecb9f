/-! The readers: signs and tokens, side by side. -/
section Adv
variable {M N : Mem} {L : Nat}
theorem sv_d : ∀ n, n < 256 → (inS ((nI n - 128) &&& 255) 97 122 = inS (nI n - 128) 97 122 ∧ inS ((nI n - 128) &&& 255) 48 57 = inS (nI n - 128) 48 57 ∧ (((nI n - 128) &&& 255 = 32) ↔ (nI n - 128) = 32) ∧ (((nI n - 128) &&& 255 = 10) ↔ (nI n - 128) = 10) ∧ (((nI n - 128) &&& 255 = 59) ↔ (nI n - 128) = 59) ∧ (inS (nI n - 128) 48 57 = true → (nI n - 128) &&& 255 = (nI n - 128)) ∧ ¬ ((nI n - 128) &&& 255 = (-1 : Int32))) := by decide +kernel
theorem sv_t {b : Int32} (h : Bt b) : inS (b &&& 255) 97 122 = inS b 97 122 ∧ inS (b &&& 255) 48 57 = inS b 48 57 ∧ ((b &&& 255 = 32) ↔ b = 32) ∧ ((b &&& 255 = 10) ↔ b = 10) ∧ ((b &&& 255 = 59) ↔ b = 59) ∧ (inS b 48 57 = true → b &&& 255 = b) ∧ ¬ (b &&& 255 = (-1 : Int32)) := by
  obtain ⟨n, hn, e⟩ : ∃ n, n < 256 ∧ b = nI n - 128 := by
    refine ⟨(b.toInt + 128).toNat, by have := h.1; have := h.2; omega, ?_⟩
    apply Int32.toInt_inj.mp
    have h1 := h.1
    have h2 := h.2
    have := pk_sub_toInt (a := (b.toInt + 128).toNat) (b := 128) (by omega) (by omega)
    rw [show (128 : Int32) = nI 128 from rfl, this]
    omega
  rw [e]
  exact sv_d n hn
theorem letX (b : Int32) (M : Mem) : fX3_isLetter b M = some (wkI (inS b 97 122), M) := by
  unfold fX3_isLetter inS
  by_cases h1 : b < 97
  · rw [if_pos h1]
    have : ¬ ((97 : Int32) ≤ b ∧ b ≤ 122) := fun h => by have := h.1; rw [fa_le] at this; rw [fa_lt] at h1; omega
    simp [this, wkI]
  · rw [if_neg h1]
    by_cases h2 : (122 : Int32) < b
    · rw [if_pos h2]
      have : ¬ ((97 : Int32) ≤ b ∧ b ≤ 122) := fun h => by have := h.2; rw [fa_le] at this; rw [fa_lt] at h2; omega
      simp [this, wkI]
    · rw [if_neg h2]
      have : ((97 : Int32) ≤ b ∧ b ≤ 122) := by rw [fa_le, fa_le]; rw [fa_lt] at h1 h2; omega
      simp [this, wkI]
theorem digX (b : Int32) (M : Mem) : fX3_isDigit b M = some (wkI (inS b 48 57), M) := by
  unfold fX3_isDigit inS
  by_cases h1 : b < 48
  · rw [if_pos h1]
    have : ¬ ((48 : Int32) ≤ b ∧ b ≤ 57) := fun h => by have := h.1; rw [fa_le] at this; rw [fa_lt] at h1; omega
    simp [this, wkI]
  · rw [if_neg h1]
    by_cases h2 : (57 : Int32) < b
    · rw [if_pos h2]
      have : ¬ ((48 : Int32) ≤ b ∧ b ≤ 57) := fun h => by have := h.2; rw [fa_le] at this; rw [fa_lt] at h2; omega
      simp [this, wkI]
    · rw [if_neg h2]
      have : ((48 : Int32) ≤ b ∧ b ≤ 57) := by rw [fa_le, fa_le]; rw [fa_lt] at h1 h2; omega
      simp [this, wkI]
def Tp (L : Nat) (M N : Mem) : Prop := L ≤ 800 ∧ M.1 1 1 = nI L ∧ N.1 80 7 = nI L ∧ ∀ i, i < 800 → N.1 84 i = M.1 2 i ∧ Bt (M.1 2 i)
def FA (M M' : Mem) : Prop := (∀ c, ¬ c = 1 → M'.1 c = M.1 c) ∧ (∀ k, ¬ (4 ≤ k ∧ k ≤ 7) → M'.1 1 k = M.1 1 k) ∧ M'.2 = M.2
def FB (N N' : Mem) : Prop := (∀ c, ¬ c = 80 → N'.1 c = N.1 c) ∧ (∀ k, ¬ (8 ≤ k ∧ k ≤ 11) → N'.1 80 k = N.1 80 k) ∧ N'.2 = N.2
theorem FA.rf : FA M M := ⟨fun _ _ => rfl, fun _ _ => rfl, rfl⟩
theorem FB.rf : FB N N := ⟨fun _ _ => rfl, fun _ _ => rfl, rfl⟩
theorem FA.tr {A B C : Mem} (h : FA A B) (k : FA B C) : FA A C := ⟨fun c hc => (k.1 c hc).trans (h.1 c hc), fun j hj => (k.2.1 j hj).trans (h.2.1 j hj), k.2.2.trans h.2.2⟩
theorem FB.tr {A B C : Mem} (h : FB A B) (k : FB B C) : FB A C := ⟨fun c hc => (k.1 c hc).trans (h.1 c hc), fun j hj => (k.2.1 j hj).trans (h.2.1 j hj), k.2.2.trans h.2.2⟩
theorem FA.p {k : Nat} {v : Int32} (hk : 4 ≤ k ∧ k ≤ 7) : FA M (pI M 1 k v) := ⟨fun c hc => (pI_o c hc).1, fun j hj => by rw [pI_1, if_pos rfl, if_neg (by omega)], rfl⟩
theorem FB.p {k : Nat} {v : Int32} (hk : 8 ≤ k ∧ k ≤ 11) : FB N (pI N 80 k v) := ⟨fun c hc => (pI_o c hc).1, fun j hj => by rw [pI_1, if_pos rfl, if_neg (by omega)], rfl⟩
theorem Tp.fr {M' N' : Mem} (h : Tp L M N) (a : FA M M') (b : FB N N') : Tp L M' N' := by
  obtain ⟨h0, h1, h2, h3⟩ := h
  refine ⟨h0, by rw [a.2.1 1 (by omega)]; exact h1, by rw [b.2.1 7 (by omega)]; exact h2, ?_⟩
  rw [a.1 2 (by decide), b.1 84 (by decide)]; exact h3
theorem seeM (h : Tp L M N) {p : Nat} (hp : p < L) : fX10_see 80 (nI p) N = some (M.1 2 p &&& 255, N) := by
  have h0 := h.1
  unfold fX10_see
  rw [h.2.2.1, if_neg (nI_ge (by omega) (by omega)), ib_n (show p < 800 by omega) (by omega), ck_t, tn_n (by omega), show N.1 (80 + 4) p = _ from (h.2.2.2 p (by omega)).1]
theorem seeE (h : Tp L M N) : fX10_see 80 (nI L) N = some (-1, N) := by
  have h0 := h.1
  unfold fX10_see
  rw [h.2.2.1, if_pos (nI_le (Nat.le_refl _) (by omega))]
-- behind the blanks, the reference
def adT (N : Mem) : Option Mem :=
  bI (fX10_see 80 ((pI N 80 9 (N.1 80 8)).1 80 8) (pI N 80 9 (N.1 80 8))) fun r6 M5 =>
  if r6 = (-1 : Int32) then some (pI M5 80 10 (0 : Int32))
  else bI (fX10_in (r6).toInt64 (97 : Int64) (122 : Int64) M5) fun r8 M7 =>
    if r8 = 0 then bI (fX10_in (r6).toInt64 (48 : Int64) (57 : Int64) M7) fun r10 M9 =>
      if r10 = 0 then (if r6 = (59 : Int32) then fX10_advance_226 80 80 (3 : Int32) M9 else fX10_advance_226 80 80 (4 : Int32) M9)
      else fX10_advance_144 LF 80 (pI M9 80 11 (0 : Int32))
    else fX10_advance_83 LF 80 M7
theorem adv0 (f : Nat) (N : Mem) : fX10_advance_0 (f + 1) 80 N = (bI (fX10_see 80 (N.1 80 8) N) fun r2 M1 => if r2 = (32 : Int32) then fX10_advance_26 (fX10_advance_0 f) 80 M1 else bI (fX10_see 80 (M1.1 80 8) M1) fun r4 M3 => if r4 = (10 : Int32) then fX10_advance_26 (fX10_advance_0 f) 80 M3 else adT M3) := rfl
theorem adv8 : ∀ (m p f f' : Nat) (M N : Mem), p + m = L → m < f → m < f' → Tp L M N → M.1 1 4 = nI p → N.1 80 8 = nI p → ∃ st M2 N2, p ≤ st ∧ st ≤ L ∧ fX3_advance_8 f 1 M = fX3_advance_60 1 M2 ∧ fX10_advance_0 f' 80 N = adT N2 ∧ M2.1 1 4 = nI st ∧ N2.1 80 8 = nI st ∧ FA M M2 ∧ FB N N2 := by
  intro m
  induction m with
  | zero =>
    intro p f f' M N hm hf hf' hT h4 h8
    have h0 := hT.1
    have : p = L := by omega
    subst this
    cases f with
    | zero => omega
    | succ f =>
    cases f' with
    | zero => omega
    | succ f' =>
      rw [adv0, h8, seeE hT, bI_s, if_neg (by decide), h8, seeE hT, bI_s, if_neg (by decide)]
      unfold fX3_advance_8
      rw [h4, hT.2.1, if_pos (nI_le (Nat.le_refl _) (by omega))]
      exact ⟨p, M, N, by omega, by omega, rfl, rfl, h4, h8, FA.rf, FB.rf⟩
  | succ m ih =>
    intro p f f' M N hm hf hf' hT h4 h8
    have h0 := hT.1
    have hp : p < L := by omega
    cases f with
    | zero => omega
    | succ f =>
    cases f' with
    | zero => omega
    | succ f' =>
      obtain ⟨-, -, s1, s2, -⟩ := sv_t (hT.2.2.2 p (by omega)).2
      have goOn : ∃ st M2 N2, p ≤ st ∧ st ≤ L ∧ fX3_advance_47 (fX3_advance_8 f) 1 M = fX3_advance_60 1 M2 ∧ fX10_advance_26 (fX10_advance_0 f') 80 N = adT N2 ∧ M2.1 1 4 = nI st ∧ N2.1 80 8 = nI st ∧ FA M M2 ∧ FB N N2 := by
        unfold fX3_advance_47 fX10_advance_26
        rw [h4, h8, nI_1]
        obtain ⟨st, M2, N2, a1, a2, a3, a4, a5, a6, a7, a8⟩ := ih (p + 1) f f' (pI M 1 4 (nI (p + 1))) (pI N 80 8 (nI (p + 1))) (by omega) (by omega) (by omega) (hT.fr (FA.p (by omega)) (FB.p (by omega))) (by rw [pI_1, if_pos rfl, if_pos rfl]) (by rw [pI_1, if_pos rfl, if_pos rfl])
        exact ⟨st, M2, N2, by omega, a2, a3, a4, a5, a6, (FA.p (by omega)).tr a7, (FB.p (by omega)).tr a8⟩
      rw [adv0, h8, seeM hT hp, bI_s, h8, seeM hT hp, bI_s]
      unfold fX3_advance_8
      rw [h4, hT.2.1, if_neg (nI_ge (by omega) (by omega)), ib_n (show p < 800 by omega) (by omega), ck_t, ck_t, tn_n (by omega)]
      by_cases c1 : M.1 2 p = 32
      · rw [if_pos (show M.1 (1 + 1) p = 32 from c1), if_pos (s1.mpr c1)]; exact goOn
      · rw [if_neg (show ¬ M.1 (1 + 1) p = 32 from c1), if_neg (fun h => c1 (s1.mp h))]
        by_cases c2 : M.1 2 p = 10
        · rw [if_pos (show M.1 (1 + 1) p = 10 from c2), if_pos (s2.mpr c2)]; exact goOn
        · rw [if_neg (show ¬ M.1 (1 + 1) p = 10 from c2), if_neg (fun h => c2 (s2.mp h))]
          exact ⟨p, M, N, by omega, by omega, rfl, rfl, h4, h8, FA.rf, FB.rf⟩
-- a word's end
theorem adv107 : ∀ (m p f f' : Nat) (M N : Mem), p + m = L → m < f → m < f' → Tp L M N → M.1 1 5 = nI p → N.1 80 8 = nI p → ∃ be M2 N2, p ≤ be ∧ be ≤ L ∧ fX3_advance_107 f 1 M = some M2 ∧ fX10_advance_83 f' 80 N = some N2 ∧ M2.1 1 5 = nI be ∧ N2.1 80 8 = nI be ∧ N2.1 80 10 = 1 ∧ M2.1 1 4 = M.1 1 4 ∧ M2.1 1 6 = M.1 1 6 ∧ N2.1 80 9 = N.1 80 9 ∧ FA M M2 ∧ FB N N2 := by
  intro m
  induction m with
  | zero =>
    intro p f f' M N hm hf hf' hT h5 h8
    have h0 := hT.1
    have : p = L := by omega
    subst this
    cases f with
    | zero => omega
    | succ f =>
    cases f' with
    | zero => omega
    | succ f' =>
      unfold fX3_advance_107 fX10_advance_83
      rw [h5, hT.2.1, if_pos (nI_le (Nat.le_refl _) (by omega)), h8, seeE hT, bI_s, wM (-1) 97 122 97 122 rfl rfl, bI_s, wif_f (by decide)]
      exact ⟨p, M, _, by omega, by omega, rfl, rfl, h5, by rw [pI_1, if_pos rfl, if_neg (by decide)]; exact h8, by rw [pI_1, if_pos rfl, if_pos rfl], rfl, rfl, by rw [pI_1, if_pos rfl, if_neg (by decide)], FA.rf, FB.p (by omega)⟩
  | succ m ih =>
    intro p f f' M N hm hf hf' hT h5 h8
    have h0 := hT.1
    have hp : p < L := by omega
    cases f with
    | zero => omega
    | succ f =>
    cases f' with
    | zero => omega
    | succ f' =>
      obtain ⟨s1, -⟩ := sv_t (hT.2.2.2 p (by omega)).2
      unfold fX3_advance_107 fX10_advance_83
      rw [h5, hT.2.1, if_neg (nI_ge (by omega) (by omega)), ib_n (show p < 800 by omega) (by omega), ck_t, tn_n (by omega), letX, bI_s, h8, seeM hT hp, bI_s, wM _ 97 122 97 122 rfl rfl, bI_s, s1, show M.1 (1 + 1) p = M.1 2 p from rfl]
      by_cases c : inS (M.1 2 p) 97 122 = true
      · rw [wif_t c, wif_t c, h5, h8, nI_1]
        obtain ⟨be, M2, N2, a1, a2, a3, a4, a5, a6, a7, a8, a9, a10, a11, a12⟩ := ih (p + 1) f f' (pI M 1 5 (nI (p + 1))) (pI N 80 8 (nI (p + 1))) (by omega) (by omega) (by omega) (hT.fr (FA.p (by omega)) (FB.p (by omega))) (by rw [pI_1, if_pos rfl, if_pos rfl]) (by rw [pI_1, if_pos rfl, if_pos rfl])
        refine ⟨be, M2, N2, by omega, a2, a3, a4, a5, a6, a7, ?_, ?_, ?_, (FA.p (by omega)).tr a11, (FB.p (by omega)).tr a12⟩
        · rw [a8, pI_1, if_pos rfl, if_neg (by decide)]
        · rw [a9, pI_1, if_pos rfl, if_neg (by decide)]
        · rw [a10, pI_1, if_pos rfl, if_neg (by decide)]
      · rw [wif_f c, wif_f c]
        exact ⟨p, M, _, by omega, by omega, rfl, rfl, h5, by rw [pI_1, if_pos rfl, if_neg (by decide)]; exact h8, by rw [pI_1, if_pos rfl, if_pos rfl], rfl, rfl, by rw [pI_1, if_pos rfl, if_neg (by decide)], FA.rf, FB.p (by omega)⟩
-- a number's end
def Vr (M N : Mem) : Prop := ∃ v w, M.1 1 7 = nI v ∧ N.1 80 11 = nI w ∧ v ≤ 100000 ∧ w ≤ 99999 ∧ (v = w ∨ (1000 ≤ v ∧ 1000 ≤ w))
theorem min_n {a b d : Nat} (ha : a ≤ 100000) (hd : d ≤ 9) (hb : b ≤ 100000) : (if ((10 : Int32) * nI a + nI (48 + d)) - 48 < nI b then ((10 : Int32) * nI a + nI (48 + d)) - 48 else nI b) = nI (if 10 * a + d < b then 10 * a + d else b) := by
  have e : ((10 : Int32) * nI a + nI (48 + d)) - 48 = nI (10 * a + d) := by
    rw [show (10 : Int32) * nI a = nI (10 * a) from pk_mul 10 a, nI_add, show (48 : Int32) = nI 48 from rfl, pk_sub (by omega)]
    congr 1; omega
  rw [e]
  by_cases h : 10 * a + d < b
  · rw [if_pos h, if_pos (nI_lt h (by omega))]
  · rw [if_neg h, if_neg (nI_nlt (by omega) (by omega))]
theorem adv171 : ∀ (m p f f' : Nat) (M N : Mem), p + m = L → m < f → m < f' → Tp L M N → M.1 1 5 = nI p → N.1 80 8 = nI p → Vr M N → ∃ be M2 N2, p ≤ be ∧ be ≤ L ∧ fX3_advance_171 f 1 M = some M2 ∧ fX10_advance_144 f' 80 N = some N2 ∧ M2.1 1 5 = nI be ∧ N2.1 80 8 = nI be ∧ N2.1 80 10 = 2 ∧ M2.1 1 4 = M.1 1 4 ∧ M2.1 1 6 = M.1 1 6 ∧ N2.1 80 9 = N.1 80 9 ∧ Vr M2 N2 ∧ FA M M2 ∧ FB N N2 := by
  have fin : ∀ (p : Nat) (M N : Mem), p ≤ L → M.1 1 5 = nI p → N.1 80 8 = nI p → Vr M N → ∃ be M2 N2, p ≤ be ∧ be ≤ L ∧ some M = some M2 ∧ some (pI N 80 10 2) = some N2 ∧ M2.1 1 5 = nI be ∧ N2.1 80 8 = nI be ∧ N2.1 80 10 = 2 ∧ M2.1 1 4 = M.1 1 4 ∧ M2.1 1 6 = M.1 1 6 ∧ N2.1 80 9 = N.1 80 9 ∧ Vr M2 N2 ∧ FA M M2 ∧ FB N N2 := by
    intro p M N hp h5 h8 hv
    refine ⟨p, M, _, by omega, hp, rfl, rfl, h5, by rw [pI_1, if_pos rfl, if_neg (by decide)]; exact h8, by rw [pI_1, if_pos rfl, if_pos rfl], rfl, rfl, by rw [pI_1, if_pos rfl, if_neg (by decide)], ?_, FA.rf, FB.p (by omega)⟩
    obtain ⟨v, w, v1, v2, v3⟩ := hv
    exact ⟨v, w, v1, by rw [pI_1, if_pos rfl, if_neg (by decide)]; exact v2, v3⟩
  intro m
  induction m with
  | zero =>
    intro p f f' M N hm hf hf' hT h5 h8 hv
    have h0 := hT.1
    have : p = L := by omega
    subst this
    cases f with
    | zero => omega
    | succ f =>
    cases f' with
    | zero => omega
    | succ f' =>
      unfold fX3_advance_171 fX10_advance_144
      rw [h5, hT.2.1, if_pos (nI_le (Nat.le_refl _) (by omega)), h8, seeE hT, bI_s, wM (-1) 48 57 48 57 rfl rfl, bI_s, wif_f (by decide)]
      exact fin p M N (by omega) h5 h8 hv
  | succ m ih =>
    intro p f f' M N hm hf hf' hT h5 h8 hv
    have h0 := hT.1
    have hp : p < L := by omega
    cases f with
    | zero => omega
    | succ f =>
    cases f' with
    | zero => omega
    | succ f' =>
      obtain ⟨-, s1, -, -, -, s6, -⟩ := sv_t (hT.2.2.2 p (by omega)).2
      unfold fX3_advance_171 fX10_advance_144
      rw [h5, hT.2.1, if_neg (nI_ge (by omega) (by omega)), ib_n (show p < 800 by omega) (by omega), ck_t, tn_n (by omega), digX, bI_s, h8, seeM hT hp, bI_s, wM _ 48 57 48 57 rfl rfl, bI_s, s1, show M.1 (1 + 1) p = M.1 2 p from rfl]
      by_cases c : inS (M.1 2 p) 48 57 = true
      · obtain ⟨d', d1, d2, ed⟩ := in_ab (a := 48) (b := 57) (by omega) (by omega) c
        obtain ⟨d, ed2⟩ : ∃ d, d' = 48 + d := ⟨d' - 48, by omega⟩
        subst ed2
        obtain ⟨v, w, v1, v2, v3, v4, v5⟩ := hv
        rw [wif_t c, wif_t c, h5, ib_n (show p < 800 by omega) (by omega), ck_t, tn_n (by omega), h8, seeM hT hp, bI_s, s6 c, show M.1 (1 + 1) p = M.1 2 p from rfl, ed, v1, v2, show (100000 : Int32) = nI 100000 from rfl, show (99999 : Int32) = nI 99999 from rfl, min_n v3 (by omega) (by omega), min_n (show w ≤ 100000 by omega) (by omega) (by omega), show (pI M 1 7 (nI (if 10 * v + d < 100000 then 10 * v + d else 100000))).1 1 5 = nI p by rw [pI_1, if_pos rfl, if_neg (by decide)]; exact h5, show (pI N 80 11 (nI (if 10 * w + d < 99999 then 10 * w + d else 99999))).1 80 8 = nI p by rw [pI_1, if_pos rfl, if_neg (by decide)]; exact h8, nI_1]
        generalize hv' : (if 10 * v + d < 100000 then 10 * v + d else 100000) = v'
        generalize hw' : (if 10 * w + d < 99999 then 10 * w + d else 99999) = w'
        have b1 : v' ≤ 100000 ∧ w' ≤ 99999 ∧ (v' = w' ∨ (1000 ≤ v' ∧ 1000 ≤ w')) := by
          rw [← hv', ← hw']
          split <;> split <;> omega
        obtain ⟨be, M2, N2, a1, a2, a3, a4, a5, a6, a7, a8, a9, a10, a11, a12, a13⟩ := ih (p + 1) f f' (pI (pI M 1 7 (nI v')) 1 5 (nI (p + 1))) (pI (pI N 80 11 (nI w')) 80 8 (nI (p + 1))) (by omega) (by omega) (by omega) (hT.fr ((FA.p (by omega)).tr (FA.p (by omega))) ((FB.p (by omega)).tr (FB.p (by omega)))) (by rw [pI_1, if_pos rfl, if_pos rfl]) (by rw [pI_1, if_pos rfl, if_pos rfl]) ⟨v', w', by simp [pI_1], by simp [pI_1], b1⟩
        refine ⟨be, M2, N2, by omega, a2, a3, a4, a5, a6, a7, ?_, ?_, ?_, a11, ((FA.p (by omega)).tr (FA.p (by omega))).tr a12, ((FB.p (by omega)).tr (FB.p (by omega))).tr a13⟩
        · rw [a8]; simp [pI_1]
        · rw [a9]; simp [pI_1]
        · rw [a10]; simp [pI_1]
      · rw [wif_f c, wif_f c]
        exact fin p M N (by omega) h5 h8 hv
-- one token
def Tok (L : Nat) (M N : Mem) : Prop := ∃ st be, st ≤ be ∧ be ≤ L ∧ M.1 1 4 = nI st ∧ N.1 80 9 = nI st ∧ M.1 1 5 = nI be ∧ N.1 80 8 = nI be ∧ N.1 80 10 = M.1 1 6 ∧ (M.1 1 6 = 2 → Vr M N)
theorem advE {p : Nat} (hT : Tp L M N) (hp : p ≤ L) (h5 : M.1 1 5 = nI p) (h8 : N.1 80 8 = nI p) : ∃ M' N', fX3_advance 1 M = some M' ∧ fX10_advance 80 N = some N' ∧ Tok L M' N' ∧ FA M M' ∧ FB N N' := by
  have h0 := hT.1
  unfold fX3_advance fX10_advance
  rw [h5]
  obtain ⟨st, M2, N2, a1, a2, a3, a4, a5, a6, a7, a8⟩ := adv8 (L - p) p LF LF (pI M 1 4 (nI p)) N (by omega) (by unfold LF; omega) (by unfold LF; omega) (hT.fr (FA.p (by omega)) FB.rf) (by rw [pI_1, if_pos rfl, if_pos rfl]) h8
  rw [a3, a4]
  have fa : FA M M2 := (FA.p (by omega)).tr a7
  have T2 : Tp L M2 N2 := hT.fr fa a8
  unfold fX3_advance_60 adT
  rw [a5, a6]
  have e4 : (pI M2 1 5 (nI st)).1 1 4 = nI st := by rw [pI_1, if_pos rfl, if_neg (by decide)]; exact a5
  have e1 : (pI M2 1 5 (nI st)).1 1 1 = nI L := by rw [pI_1, if_pos rfl, if_neg (by decide)]; exact T2.2.1
  have e8 : (pI N2 80 9 (nI st)).1 80 8 = nI st := by rw [pI_1, if_pos rfl, if_neg (by decide)]; exact a6
  have T3 : Tp L (pI M2 1 5 (nI st)) (pI N2 80 9 (nI st)) := T2.fr (FA.p (by omega)) (FB.p (by omega))
  rw [e4, e1, e8]
  by_cases hL : st = L
  · subst hL
    rw [if_pos rfl, seeE T3, bI_s, if_pos rfl]
    refine ⟨_, _, rfl, rfl, ⟨st, st, by omega, by omega, ?_, ?_, ?_, ?_, ?_, fun h => ?_⟩, (fa.tr (FA.p (by omega))).tr (FA.p (by omega)), (a8.tr (FB.p (by omega))).tr (FB.p (by omega))⟩
    · rw [pI_1, if_pos rfl, if_neg (by decide)]; exact e4
    · simp [pI_1]
    · simp [pI_1]
    · rw [pI_1, if_pos rfl, if_neg (by decide)]; exact e8
    · simp [pI_1]
    · simp [pI_1] at h
  · have hs : st < L := by omega
    obtain ⟨s1, s2, -, -, s5, -, s7⟩ := sv_t (T3.2.2.2 st (by omega)).2
    rw [if_neg (kE (by omega) (by omega) hL), ib_n (show st < 800 by omega) (by omega), ck_t, tn_n (by omega), letX, bI_s, seeM T3 hs, bI_s, if_neg s7, wM _ 97 122 97 122 rfl rfl, bI_s, s1, show (pI M2 1 5 (nI st)).1 (1 + 1) st = (pI M2 1 5 (nI st)).1 2 st from rfl]
    by_cases c1 : inS ((pI M2 1 5 (nI st)).1 2 st) 97 122 = true
    · rw [wif_t c1, wif_t c1]
      obtain ⟨be, M4, N4, b1, b2, b3, b4, b5, b6, b7, b8, b9, b10, b11, b12⟩ := adv107 (L - st) st LF LF (pI (pI M2 1 5 (nI st)) 1 6 1) (pI N2 80 9 (nI st)) (by omega) (by unfold LF; omega) (by unfold LF; omega) (T3.fr (FA.p (by omega)) FB.rf) (by simp [pI_1]) e8
      rw [b3, b4]
      refine ⟨M4, N4, rfl, rfl, ⟨st, be, b1, b2, ?_, ?_, b5, b6, ?_, fun h => ?_⟩, ((fa.tr (FA.p (by omega))).tr (FA.p (by omega))).tr b11, (a8.tr (FB.p (by omega))).tr b12⟩
      · rw [b8, pI_1, if_pos rfl, if_neg (by decide)]; exact e4
      · rw [b10]; simp [pI_1]
      · rw [b7, b9]; simp [pI_1]
      · rw [b9] at h; simp [pI_1] at h
    · rw [wif_f c1, wif_f c1, e4, ib_n (show st < 800 by omega) (by omega), ck_t, tn_n (by omega), digX, bI_s, wM _ 48 57 48 57 rfl rfl, bI_s, s2, show (pI M2 1 5 (nI st)).1 (1 + 1) st = (pI M2 1 5 (nI st)).1 2 st from rfl]
      by_cases c2 : inS ((pI M2 1 5 (nI st)).1 2 st) 48 57 = true
      · rw [wif_t c2, wif_t c2]
        obtain ⟨be, M4, N4, b1, b2, b3, b4, b5, b6, b7, b8, b9, b10, b11, b12, b13⟩ := adv171 (L - st) st LF LF (pI (pI (pI M2 1 5 (nI st)) 1 6 2) 1 7 0) (pI (pI N2 80 9 (nI st)) 80 11 0) (by omega) (by unfold LF; omega) (by unfold LF; omega) (T3.fr ((FA.p (by omega)).tr (FA.p (by omega))) (FB.p (by omega))) (by simp [pI_1]) (by rw [pI_1, if_pos rfl, if_neg (by decide)]; exact e8) ⟨0, 0, by rw [pI_1, if_pos rfl, if_pos rfl]; rfl, by rw [pI_1, if_pos rfl, if_pos rfl]; rfl, by omega, by omega, Or.inl rfl⟩
        rw [b3, b4]
        refine ⟨M4, N4, rfl, rfl, ⟨st, be, b1, b2, ?_, ?_, b5, b6, ?_, fun _ => b11⟩, (((fa.tr (FA.p (by omega))).tr (FA.p (by omega))).tr (FA.p (by omega))).tr b12, ((a8.tr (FB.p (by omega))).tr (FB.p (by omega))).tr b13⟩
        · rw [b8, pI_1, if_pos rfl, if_neg (by decide), pI_1, if_pos rfl, if_neg (by decide)]; exact e4
        · rw [b10]; simp [pI_1]
        · rw [b7, b9]; simp [pI_1]
      · rw [wif_f c2, wif_f c2, e4, ib_n (show st < 800 by omega) (by omega), ck_t, tn_n (by omega), show (pI M2 1 5 (nI st)).1 (1 + 1) st = (pI M2 1 5 (nI st)).1 2 st from rfl]
        have fin : ∀ k : Int32, ¬ k = 2 → ∃ M' N', fX3_advance_259 1 1 k (pI M2 1 5 (nI st)) = some M' ∧ fX10_advance_226 80 80 k (pI N2 80 9 (nI st)) = some N' ∧ Tok L M' N' ∧ FA M M' ∧ FB N N' := by
          intro k hk
          unfold fX3_advance_259 fX10_advance_226
          have e5 : (pI (pI M2 1 5 (nI st)) 1 6 k).1 1 5 = nI st := by simp [pI_1]
          have e8' : (pI (pI N2 80 9 (nI st)) 80 10 k).1 80 8 = nI st := by rw [pI_1, if_pos rfl, if_neg (by decide)]; exact e8
          rw [e5, e8', nI_1]
          refine ⟨_, _, rfl, rfl, ⟨st, st + 1, by omega, by omega, ?_, ?_, ?_, ?_, ?_, fun h => ?_⟩, ((fa.tr (FA.p (by omega))).tr (FA.p (by omega))).tr (FA.p (by omega)), ((a8.tr (FB.p (by omega))).tr (FB.p (by omega))).tr (FB.p (by omega))⟩
          · rw [pI_1, if_pos rfl, if_neg (by decide), pI_1, if_pos rfl, if_neg (by decide)]; exact e4
          · simp [pI_1]
          · simp [pI_1]
          · simp [pI_1]
          · simp [pI_1]
          · simp [pI_1] at h; exact absurd h hk
        by_cases c3 : (pI M2 1 5 (nI st)).1 2 st = 59
        · rw [if_pos c3, if_pos (s5.mpr c3)]; exact fin 3 (by decide)
        · rw [if_neg c3, if_neg (fun h => c3 (s5.mp h))]; exact fin 4 (by decide)
end Adv
