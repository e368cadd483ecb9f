/-! The class's Tables against the GUESSER's mathematics. -/
def outX (cf : Cfg) : Int32 := if cf 4 = 0 then -1 else nI (cf 4)
def KT (cf : Cfg) (q : Nat) (M : Mem) : Prop := M.1 q 0 = nI (cf 0) ∧ M.1 q 1 = nI (cf 1) ∧ M.1 q 2 = nI (cf 2) ∧ M.1 q 3 = nI (cf 3) ∧ M.1 q 4 = outX cf ∧ ∀ t, 1 ≤ t → t ≤ cf 3 → M.1 (q + 1) t = nI (cf (10 + t))
theorem KT.mv {cf : Cfg} {q : Nat} {M M' : Mem} (h : KT cf q M) (h1 : ∀ k, k < 5 → M'.1 q k = M.1 q k) (h2 : ∀ t, M'.1 (q + 1) t = M.1 (q + 1) t) : KT cf q M' :=
  ⟨by rw [h1 0 (by omega)]; exact h.1, by rw [h1 1 (by omega)]; exact h.2.1, by rw [h1 2 (by omega)]; exact h.2.2.1, by rw [h1 3 (by omega)]; exact h.2.2.2.1, by rw [h1 4 (by omega)]; exact h.2.2.2.2.1, fun t a b => by rw [h2]; exact h.2.2.2.2.2 t a b⟩
theorem outX_eq {cf : Cfg} (hc : CfgOk cf) {t : Nat} (h1 : 1 ≤ t) (h2 : t ≤ 5) : nI t = outX cf ↔ t = cf 4 := by
  unfold outX
  have h4 := hc.2.2.2.2.1
  by_cases h : cf 4 = 0
  · rw [if_pos h]
    constructor
    · intro e
      have : ∀ t, t ≤ 5 → ¬ nI t = -1 := by decide +kernel
      exact absurd e (this t h2)
    · intro e; omega
  · rw [if_neg h]
    exact nI_eq (by omega) (by omega)
theorem nI_shr {a : Nat} (h : a < 2 ^ 31) {k : Nat} (hk : k < 32) : nI a >>> (nI k &&& 31) = nI (a / 2 ^ k) := by
  rw [sh31 k hk]; exact pk_shrN h (nI k) k (sm32 k hk)
theorem low32 {k : Nat} (hk : k < 31) : ((1 : Int32) <<< (nI k &&& 31)) - 1 = nI (2 ^ k - 1) := by
  rw [shl32 k hk]
  exact pk_sub (a := 2 ^ k) (b := 1) (Nat.two_pow_pos k)
theorem nI_2 (n : Nat) : (2 : Int32) * nI n = nI (2 * n) := pk_mul 2 n
theorem ixX {cf : Cfg} (hc : CfgOk cf) {q : Nat} {M : Mem} (hK : KT cf q M) {t a P : Nat} (h1 : 1 ≤ t) (h2 : t ≤ cf 3) (ha : a < 64) (hP : P < 2 ^ 64) : fX6_indexOf q (nI t) (nI a) (lN P) M = some (nI (ixS cf (P % 2 ^ 40) a t), M) := by
  have hI := hc.1
  have ht := hc.2.2.2.1
  have hs := hc.2.2.2.2.2.2 t h1 h2
  unfold fX6_indexOf
  rw [ib_n (show t < 6 by omega) (by omega), ck_t, tn_n (by omega), hK.2.2.2.2.2 t h1 h2, hK.1, fold_X P _ _ hP (by omega) (by omega) (by omega), bI_s, hK.1]
  unfold fX9_lowest
  rw [bI_s, low32 (by omega), nI_shr (by omega) (by omega), nI_xor', nI_xor', nI_xor', nI_mask, ix_mod hc P a h1 h2]
  rfl
theorem xor_and_mask {a b c k : Nat} (hb : b < 2 ^ k) (hc : c < 2 ^ k) : ((a ^^^ b) ^^^ c) % 2 ^ k = ((a % 2 ^ k) ^^^ b) ^^^ c := by
  rw [Nat.xor_mod_two_pow, Nat.xor_mod_two_pow, Nat.mod_eq_of_lt hb, Nat.mod_eq_of_lt hc]
theorem tgX {cf : Cfg} (hc : CfgOk cf) {q : Nat} {M : Mem} (hK : KT cf q M) {t a P : Nat} (h1 : 1 ≤ t) (h2 : t ≤ cf 3) (ha : a < 64) (hP : P < 2 ^ 64) : fX6_tagOf q (nI t) (nI a) (lN P) M = some (nI (tgS cf (P % 2 ^ 40) a t), M) := by
  have hI := hc.2.1
  have ht := hc.2.2.2.1
  have hs := hc.2.2.2.2.2.2 t h1 h2
  have e1 : nI (cf 1) - 1 = nI (cf 1 - 1) := pk_sub (a := cf 1) (b := 1) (by omega)
  unfold fX6_tagOf
  rw [ib_n (show t < 6 by omega) (by omega), ck_t, tn_n (by omega), hK.2.2.2.2.2 t h1 h2, hK.2.1, fold_X P _ _ hP (by omega) (by omega) (by omega), bI_s, ck_t, hK.2.2.2.2.2 t h1 h2, hK.2.1, e1, fold_X P _ _ hP (by omega) (by omega) (by omega), bI_s, hK.2.1]
  unfold fX9_lowest
  rw [bI_s, low32 (by omega), nI_2, nI_xor', nI_xor', nI_mask, tg_mod hc P a h1 h2, xor_and_mask (FD_lt P (by omega) _)]
  · rfl
  · have h3 : FD P (cf 1 - 1) (cf (10 + t)) < 2 ^ (cf 1 - 1) := FD_lt P (by omega) _
    have h4 : 2 * 2 ^ (cf 1 - 1) = 2 ^ cf 1 := by
      rw [← Nat.pow_succ']
      congr 1
      omega
    omega
-- says
def PLX (cf : Cfg) (p a q : Nat) (M : Mem) : Prop := M.1 q 14 = nI (a % 16) ∧ ∀ t, 1 ≤ t → t ≤ cf 3 → ¬ t = cf 4 → M.1 (q + 6) t = nI (plS cf p a t)
theorem PLX.mv {cf : Cfg} {p a q : Nat} {M M' : Mem} (h : PLX cf p a q M) (h1 : M'.1 q 14 = M.1 q 14) (h2 : ∀ t, M'.1 (q + 6) t = M.1 (q + 6) t) : PLX cf p a q M' := ⟨by rw [h1]; exact h.1, fun t a b c => by rw [h2]; exact h.2 t a b c⟩
theorem syX {cf : Cfg} (hc : CfgOk cf) {g : GS} {p a q : Nat} {M : Mem} (hp : PLX cf p a q M) (h3 : M.1 (q + 5) = g 3) (h1 : M.1 (q + 3) = g 1) {t : Nat} (ht : t ≤ cf 3) (hn : ¬ t = 0 → ¬ t = cf 4) : fX6_says q (nI t) M = some (syS cf g p a t, M) := by
  have h5 := hc.2.2.2.1
  unfold fX6_says syS
  by_cases h : t = 0
  · subst h
    rw [if_pos (show nI 0 = 0 from rfl), hp.1, ib_n (Nat.mod_lt _ (by omega)) (by omega), ck_t, tn_n (by omega), h3, if_pos rfl]
    split <;> rfl
  · have hpl := pl_lt hc p a (show 1 ≤ t by omega) ht
    rw [if_neg (nI_ne0 (by omega) (by omega)), ib_n (show t < 6 by omega) (by omega), ck_t, tn_n (by omega), hp.2 t (by omega) ht (hn h), ib_n hpl (by omega), ck_t, tn_n (by omega), h1, if_neg h]
    split <;> rfl
-- look
def LI (cf : Cfg) (g : GS) (p a q : Nat) (M0 : Mem) (t : Nat) (M : Mem) : Prop := (∀ c, ¬ c = q → ¬ c = q + 6 → M.1 c = M0.1 c) ∧ M.2 = M0.2 ∧ (∀ k, ¬ k = 15 → ¬ k = 16 → M.1 q k = M0.1 q k) ∧ M.1 q 15 = nI (prS cf g p a (t - 1)) ∧ M.1 q 16 = nI (alS cf g p a (t - 1)) ∧ ∀ u, 1 ≤ u → u < t → ¬ u = cf 4 → M.1 (q + 6) u = nI (plS cf p a u)
theorem tg_neg {cf : Cfg} (hc : CfgOk cf) (p a t : Nat) : ¬ nI (tgS cf p a t) = -1 := by
  have h : ∀ n, n < 64 → ¬ nI n = -1 := by decide +kernel
  exact h _ (tg_64 hc p a t)
theorem nI_m1 {t : Nat} (h : 1 ≤ t) : nI t - 1 = nI (t - 1) := pk_sub (a := t) (b := 1) h
theorem nI_16 (n : Nat) : (16 : Int32) * nI n = nI (16 * n) := pk_mul 16 n
theorem pl_eq {cf : Cfg} (p a : Nat) {t : Nat} (h1 : 1 ≤ t) : (16 : Int32) * (nI t - 1) + nI (ixS cf p a t) = nI (plS cf p a t) := by
  rw [nI_m1 h1, nI_16, nI_add]
  rfl
theorem look_loop {cf : Cfg} (hc : CfgOk cf) {g : GS} {a q P : Nat} {M0 : Mem} (ha : a < 64) (hP : P < 2 ^ 64) (hK : KT cf q M0) (h0 : M0.1 (q + 2) = g 0) (x4 : Int32) : ∀ (k t f : Nat) (M : Mem), t + k = cf 3 + 1 → 1 ≤ t → k < f → LI cf g (P % 2 ^ 40) a q M0 t M → ∃ M', LI cf g (P % 2 ^ 40) a q M0 (cf 3 + 1) M' ∧ fX6_look_21 f q (nI a) (lN P) x4 (nI t) M = fX6_look_21 1 q (nI a) (lN P) x4 (nI (cf 3 + 1)) M' := by
  have h5 := hc.2.2.2.1
  intro k
  induction k with
  | zero =>
    intro t f M ht h1 hf hL
    have e : t = cf 3 + 1 := by omega
    subst e
    refine ⟨M, hL, ?_⟩
    obtain ⟨f, rfl⟩ : ∃ z, f = z + 1 := ⟨f - 1, by omega⟩
    have e3 : M.1 q 3 = nI (cf 3) := by rw [hL.2.2.1 3 (by omega) (by omega)]; exact hK.2.2.2.1
    rw [fX6_look_21, fX6_look_21, e3, if_pos (nI_lt (by omega) (by omega)), if_pos (nI_lt (by omega) (by omega))]
  | succ k ih =>
    intro t f M ht h1 hf hL
    obtain ⟨f, rfl⟩ : ∃ z, f = z + 1 := ⟨f - 1, by omega⟩
    have hKM : KT cf q M := hK.mv (fun k hk => hL.2.2.1 k (by omega) (by omega)) (fun u => by rw [hL.1 (q + 1) (by omega) (by omega)])
    have hpl := pl_lt hc (P % 2 ^ 40) a h1 (show t ≤ cf 3 by omega)
    obtain ⟨t', rfl⟩ : ∃ z, t = z + 1 := ⟨t - 1, by omega⟩
    rw [fX6_look_21, hKM.2.2.2.1, if_neg (nI_nlt (by omega) (by omega)), hKM.2.2.2.2.1]
    by_cases ho : t' + 1 = cf 4
    · rw [if_pos ((outX_eq hc (by omega) (by omega)).mpr ho)]
      show ∃ M', _ ∧ fX6_look_21 f q (nI a) (lN P) x4 (nI (t' + 1) + 1) M = _
      rw [nI_1]
      refine ih (t' + 1 + 1) f M (by omega) (by omega) (by omega) ⟨hL.1, hL.2.1, hL.2.2.1, ?_, ?_, fun u u1 u2 u3 => ?_⟩
      · have := hL.2.2.2.1
        show _ = nI (prS cf g _ a (t' + 1))
        rw [prS, if_neg (by simp [mtS, ho])]; exact this
      · have := hL.2.2.2.2.1
        show _ = nI (alS cf g _ a (t' + 1))
        rw [alS, if_neg (by simp [mtS, ho])]; exact this
      · exact hL.2.2.2.2.2 u u1 (by omega) u3
    · rw [if_neg (fun e => ho ((outX_eq hc (by omega) (by omega)).mp e)), ixX hc hKM (by omega) (by omega) ha hP, bI_s, ib_n (show t' + 1 < 6 by omega) (by omega), ck_t, ck_t, tn_n (by omega), pl_eq _ _ (by omega)]
      generalize hM3 : pI M (q + 6) (t' + 1) (nI (plS cf (P % 2 ^ 40) a (t' + 1))) = M3
      have r6 : M3.1 (q + 6) (t' + 1) = nI (plS cf (P % 2 ^ 40) a (t' + 1)) := by rw [← hM3, pI_1]; simp
      have r2 : M3.1 (q + 2) = g 0 := by
        rw [← h0, ← hL.1 (q + 2) (by omega) (by omega), ← hM3]
        exact (pI_o _ (by omega)).1
      have hL3 : LI cf g (P % 2 ^ 40) a q M0 (t' + 1) M3 ∧ M3.1 (q + 6) (t' + 1) = nI (plS cf (P % 2 ^ 40) a (t' + 1)) := by
        refine ⟨⟨fun c c1 c2 => ?_, ?_, fun k k1 k2 => ?_, ?_, ?_, fun u u1 u2 u3 => ?_⟩, r6⟩
        · rw [← hM3, (pI_o c c2).1]; exact hL.1 c c1 c2
        · rw [← hM3]; exact hL.2.1
        · rw [← hM3, (pI_o q (by omega)).1]; exact hL.2.2.1 k k1 k2
        · rw [← hM3, (pI_o q (by omega)).1]; exact hL.2.2.2.1
        · rw [← hM3, (pI_o q (by omega)).1]; exact hL.2.2.2.2.1
        · rw [← hM3, pI_1, if_pos rfl, if_neg (by omega)]; exact hL.2.2.2.2.2 u u1 u2 u3
      have hK3 : KT cf q M3 := hK.mv (fun k hk => hL3.1.2.2.1 k (by omega) (by omega)) (fun u => by rw [hL3.1.1 (q + 1) (by omega) (by omega)])
      have nxt : ∀ MM : Mem, LI cf g (P % 2 ^ 40) a q M0 (t' + 1 + 1) MM → ∃ M', LI cf g (P % 2 ^ 40) a q M0 (cf 3 + 1) M' ∧ fX6_look_112 (fX6_look_21 f) q (nI a) (lN P) x4 (nI (t' + 1)) MM = fX6_look_21 1 q (nI a) (lN P) x4 (nI (cf 3 + 1)) M' := by
        intro MM hMM
        show ∃ M', _ ∧ fX6_look_21 f q (nI a) (lN P) x4 (nI (t' + 1) + 1) MM = _
        rw [nI_1]
        exact ih (t' + 1 + 1) f MM (by omega) (by omega) (by omega) hMM
      have nomt : ¬ mtS cf g (P % 2 ^ 40) a (t' + 1) = true → LI cf g (P % 2 ^ 40) a q M0 (t' + 1 + 1) M3 := by
        intro hm
        refine ⟨hL3.1.1, hL3.1.2.1, hL3.1.2.2.1, ?_, ?_, fun u u1 u2 u3 => ?_⟩
        · show _ = nI (prS cf g _ a (t' + 1))
          rw [prS, if_neg hm]; exact hL3.1.2.2.2.1
        · show _ = nI (alS cf g _ a (t' + 1))
          rw [alS, if_neg hm]; exact hL3.1.2.2.2.2.1
        · by_cases e : u = t' + 1
          · subst e; exact r6
          · exact hL3.1.2.2.2.2.2 u u1 (by omega) u3
      rw [r6, ib_n hpl (by omega), ck_t, tn_n (by omega), r2]
      by_cases hneg : g 0 (plS cf (P % 2 ^ 40) a (t' + 1)) = -1
      · rw [if_pos hneg]
        refine nxt M3 (nomt ?_)
        simp only [mtS, Bool.and_eq_true, decide_eq_true_eq]
        rintro ⟨-, h⟩
        rw [hneg] at h
        exact tg_neg hc _ _ _ h.symm
      · rw [if_neg hneg, tgX hc hK3 (by omega) (by omega) ha hP, bI_s]
        by_cases hm : g 0 (plS cf (P % 2 ^ 40) a (t' + 1)) = nI (tgS cf (P % 2 ^ 40) a (t' + 1))
        · rw [if_pos hm]
          have hmt : mtS cf g (P % 2 ^ 40) a (t' + 1) = true := by simp [mtS, hm, ho]
          refine nxt _ ⟨fun c c1 c2 => ?_, ?_, fun k k1 k2 => ?_, ?_, ?_, fun u u1 u2 u3 => ?_⟩
          · rw [(pI_o c c1).1, (pI_o c c1).1]; exact hL3.1.1 c c1 c2
          · rw [pI_2, pI_2]; exact hL3.1.2.1
          · rw [pI_1, if_pos rfl, if_neg k1, pI_1, if_pos rfl, if_neg k2]; exact hL3.1.2.2.1 k k1 k2
          · rw [pI_1, if_pos rfl, if_pos rfl]
            show _ = nI (prS cf g _ a (t' + 1))
            rw [prS, if_pos hmt]
          · rw [pI_1, if_pos rfl, if_neg (by omega), pI_1, if_pos rfl, if_pos rfl]
            show _ = nI (alS cf g _ a (t' + 1))
            rw [alS, if_pos hmt]; exact hL3.1.2.2.2.1
          · rw [(pI_o (q + 6) (by omega)).1, (pI_o (q + 6) (by omega)).1]
            by_cases e : u = t' + 1
            · subst e; exact r6
            · exact hL3.1.2.2.2.2.2 u u1 (by omega) u3
        · rw [if_neg hm]
          refine nxt M3 (nomt ?_)
          simp [mtS, hm]
