/-! The GUESSER as mathematics: configuration cf (0 I, 1 W, 2 A, 3 TABLES, 4 the one left out or 0, 5 P, 10 + t the span of TABLE t), state g (0 TAGS, 1 COUNTS, 2 USES, 3 BASE, 4 .. 8 LOOPS, 9 CORRECTOR, 10 TRUST, 11 STRAIN, 12 halvings, 13 LIMIT), past p. -/
abbrev GS : Type := Nat → Nat → Int32
abbrev Cfg : Type := Nat → Nat
def CfgOk (cf : Cfg) : Prop := (1 ≤ cf 0 ∧ cf 0 ≤ 4) ∧ (2 ≤ cf 1 ∧ cf 1 ≤ 6) ∧ (1 ≤ cf 2 ∧ cf 2 ≤ 9) ∧ cf 3 ≤ 5 ∧ cf 4 ≤ 5 ∧ cf 5 < 8 ∧ ∀ t, 1 ≤ t → t ≤ cf 3 → 1 ≤ cf (10 + t) ∧ cf (10 + t) ≤ 40
def gu (g : GS) (i k : Nat) (v : Int32) : GS := fun a j => if a = i ∧ j = k then v else g a j
def gs (g : GS) (i : Nat) (v : Int32) : GS := fun a j => if a = i then v else g a j
def bd (x lo hi : Int32) : Int32 := if lo < (if x < hi then x else hi) then (if x < hi then x else hi) else lo
def ab (x : Int32) : Int32 := if 0 ≤ x then x else 0 - x
def hs (cf : Cfg) (b : Nat) : Bool := !decide (cf 5 &&& b = 0)
def ixS (cf : Cfg) (p a t : Nat) : Nat := (((a ^^^ (a / 2 ^ cf 0)) ^^^ FD p (cf 0) (cf (10 + t))) ^^^ t) % 2 ^ cf 0
def tgS (cf : Cfg) (p a t : Nat) : Nat := ((a % 2 ^ cf 1) ^^^ FD p (cf 1) (cf (10 + t))) ^^^ (2 * FD p (cf 1 - 1) (cf (10 + t)))
def plS (cf : Cfg) (p a t : Nat) : Nat := 16 * (t - 1) + ixS cf p a t
def mtS (cf : Cfg) (g : GS) (p a t : Nat) : Bool := !decide (t = cf 4) && decide (g 0 (plS cf p a t) = nI (tgS cf p a t))
def prS (cf : Cfg) (g : GS) (p a : Nat) : Nat → Nat
  | 0 => 0
  | n + 1 => if mtS cf g p a (n + 1) then n + 1 else prS cf g p a n
def alS (cf : Cfg) (g : GS) (p a : Nat) : Nat → Nat
  | 0 => 0
  | n + 1 => if mtS cf g p a (n + 1) then prS cf g p a n else alS cf g p a n
def pvS (cf : Cfg) (g : GS) (p a : Nat) : Nat := prS cf g p a (cf 3)
def atS (cf : Cfg) (g : GS) (p a : Nat) : Nat := alS cf g p a (cf 3)
def syS (cf : Cfg) (g : GS) (p a t : Nat) : Int32 := if t = 0 then (if g 3 (a % 16) < 2 then 0 else 1) else (if g 1 (plS cf p a t) < 0 then 0 else 1)
def wkS (cf : Cfg) (g : GS) (p a : Nat) : Bool := decide (0 < pvS cf g p a) && (decide (g 2 (plS cf p a (pvS cf g p a)) = 0) && (decide (-1 ≤ g 1 (plS cf p a (pvS cf g p a))) && decide (g 1 (plS cf p a (pvS cf g p a)) ≤ 0)))
def fsS (cf : Cfg) (g : GS) (p a : Nat) : Int32 := if (wkS cf g p a && (hs cf 4 && decide (7 < g 10 0))) = true then syS cf g p a (atS cf g p a) else syS cf g p a (pvS cf g p a)
def c0S (cf : Cfg) (g : GS) (p a : Nat) : Nat := 2 * (a % 8) + (if fsS cf g p a = 1 then 1 else 0)
def c1S (p a : Nat) : Nat := 16 + (a ^^^ p) % 16
def c2S (p a : Nat) : Nat := 32 + (a ^^^ FD p 4 12) % 16
def toS (cf : Cfg) (g : GS) (p a : Nat) : Int32 := (((if fsS cf g p a = 1 then 6 else -6) + (2 * g 9 (c0S cf g p a) + 1)) + (2 * g 9 (c1S p a) + 1)) + (2 * g 9 (c2S p a) + 1)
def sdS (cf : Cfg) (g : GS) (p a : Nat) : Int32 := if toS cf g p a ≤ 0 then 0 else 1
def lsS (cf : Cfg) (g : GS) (a : Nat) : Int32 := if hs cf 1 = true then (if g 4 (a % 8) = nI a then (if 3 ≤ g 7 (a % 8) then (if g 5 (a % 8) ≤ g 6 (a % 8) then 0 else 1) else -1) else -1) else -1
def csS (cf : Cfg) (g : GS) (p a : Nat) : Int32 := if hs cf 2 = true then (if sdS cf g p a = fsS cf g p a then -1 else if ab (toS cf g p a) < g 13 0 then -1 else sdS cf g p a) else -1
def anS (cf : Cfg) (g : GS) (p a : Nat) : Int32 := if lsS cf g a = -1 then (if csS cf g p a = -1 then fsS cf g p a else csS cf g p a) else lsS cf g a
def whS (cf : Cfg) (g : GS) (p a : Nat) : Int32 := if lsS cf g a = -1 then (if csS cf g p a = -1 then 0 else 2) else 1
-- learning
def giS (g : GS) (i : Nat) (ow ag : Int32) : GS := gu (gu (gu (gu (gu g 4 i ow) 5 i (-1)) 6 i 0) 7 i 0) 8 i ag
def goS1 (g : GS) (i : Nat) : GS := if g 6 i = 60 then giS g i (-1) 0 else g
def goS (g : GS) (i : Nat) : GS := if g 5 i = -1 then goS1 (gu g 6 i (g 6 i + 1)) i else if g 6 i + 1 ≤ g 5 i then goS1 (gu g 6 i (g 6 i + 1)) i else goS1 (gu (gu (gu g 6 i (g 6 i + 1)) 5 i (-1)) 7 i 0) i
def leS (g : GS) (i : Nat) : GS := if g 6 i = g 5 i then gu (gu g 7 i (if g 7 i + 1 < 3 then g 7 i + 1 else 3)) 6 i 0 else gu (gu (gu g 5 i (g 6 i)) 7 i 0) 6 i 0
def lpS (g : GS) (a : Nat) (t : Int32) (wrong : Bool) : GS := if g 4 (a % 8) = nI a then (if t = 1 then goS g (a % 8) else leS g (a % 8)) else if wrong = true then (if g 8 (a % 8) ≤ 0 then giS g (a % 8) (nI a) 3 else gu g 8 (a % 8) (g 8 (a % 8) - 1)) else g
def cuS (g : GS) (k : Nat) (dd : Int32) : GS := gu g 9 k (bd (g 9 k + dd) (-8) 7)
def crS (g : GS) (k0 k1 k2 : Nat) (fs to sd t : Int32) : GS :=
  let g1 := if sd = fs then g else gs g 13 (bd (g 13 0 + (if sd = t then -1 else 1)) 1 15)
  if sd = t ∧ 12 ≤ ab to then g1 else cuS (cuS (cuS g1 k0 (if t = 1 then 1 else -1)) k1 (if t = 1 then 1 else -1)) k2 (if t = 1 then 1 else -1)
def mvS (cf : Cfg) (g : GS) (p a tb : Nat) (t : Int32) : GS := if tb = 0 then gu g 3 (a % 16) (bd (g 3 (a % 16) + (if t = 1 then 1 else -1)) 0 3) else gu g 1 (plS cf p a tb) (bd (g 1 (plS cf p a tb) + (if t = 1 then 1 else -1)) (-4) 3)
-- from TABLE k on (m of them): the least free one
def frS (cf : Cfg) (g : GS) (p a k : Nat) : Nat → Nat
  | 0 => 0
  | m + 1 => if k = cf 4 then frS cf g p a (k + 1) m else if g 2 (plS cf p a k) = 0 then k else frS cf g p a (k + 1) m
-- is there one at all
def exS (cf : Cfg) (k : Nat) : Nat → Bool
  | 0 => false
  | m + 1 => if k = cf 4 then exS cf (k + 1) m else true
-- one USE less for each
def dcS (cf : Cfg) (p a : Nat) (g : GS) (k : Nat) : Nat → GS
  | 0 => g
  | m + 1 => if k = cf 4 then dcS cf p a g (k + 1) m else dcS cf p a (gu g 2 (plS cf p a k) (g 2 (plS cf p a k) - 1)) (k + 1) m
def haS (g : GS) : GS := gs (gs (fun i k => if i = 2 ∧ k < 80 then g i k / 2 else g i k) 11 0) 12 (g 12 0 + 1)
def stS (cf : Cfg) (g : GS) : GS := if g 11 0 + 1 = nI (cf 2) then haS (gs g 11 (g 11 0 + 1)) else gs g 11 (g 11 0 + 1)
def tkS (cf : Cfg) (g : GS) (p a pv : Nat) (t : Int32) : GS :=
  let k := frS cf g p a (pv + 1) (cf 3 - pv)
  if k = 0 then (if exS cf (pv + 1) (cf 3 - pv) = true then stS cf (dcS cf p a g (pv + 1) (cf 3 - pv)) else g)
  else gu (gu g 0 (plS cf p a k) (nI (tgS cf p a k))) 1 (plS cf p a k) (if t = 1 then 0 else -1)
-- TABLES: what was said is taken from the state g0 of the asking
def t1S (cf : Cfg) (g0 g : GS) (p a : Nat) (t : Int32) : GS := if (hs cf 4 && (wkS cf g0 p a && !decide (syS cf g0 p a (pvS cf g0 p a) = syS cf g0 p a (atS cf g0 p a)))) = true then gs g 10 (bd (g 10 0 + (if syS cf g0 p a (atS cf g0 p a) = t then 1 else -1)) 0 15) else g
def t2S (cf : Cfg) (g0 g : GS) (p a : Nat) (t : Int32) : GS := if (decide (0 < pvS cf g0 p a) && !decide (syS cf g0 p a (pvS cf g0 p a) = syS cf g0 p a (atS cf g0 p a))) = true then gu g 2 (plS cf p a (pvS cf g0 p a)) (bd (g 2 (plS cf p a (pvS cf g0 p a)) + (if syS cf g0 p a (pvS cf g0 p a) = t then 1 else -1)) 0 3) else g
def t3S (cf : Cfg) (g0 g : GS) (p a : Nat) (t : Int32) : GS := mvS cf g p a (pvS cf g0 p a) t
def t4S (cf : Cfg) (g0 g : GS) (p a : Nat) (t : Int32) : GS := if wkS cf g0 p a = true then mvS cf g p a (atS cf g0 p a) t else g
def t5S (cf : Cfg) (g0 g : GS) (p a : Nat) (t : Int32) : GS := if fsS cf g0 p a = t then g else tkS cf g p a (pvS cf g0 p a) t
def lnS (cf : Cfg) (g : GS) (p a : Nat) (t : Int32) : GS :=
  let g1 := if hs cf 1 = true then lpS g a t (!decide (anS cf g p a = t)) else g
  let g2 := if hs cf 2 = true then crS g1 (c0S cf g p a) (c1S p a) (c2S p a) (fsS cf g p a) (toS cf g p a) (sdS cf g p a) t else g1
  t5S cf g (t4S cf g (t3S cf g (t2S cf g (t1S cf g g2 p a t) p a t) p a t) p a t) p a t
def paS (p : Nat) (t : Int32) : Nat := (2 * p + (if t = 1 then 1 else 0)) % 2 ^ 40
def g0S : GS := fun i k => if i = 0 then (if k < 80 then -1 else 0) else if i = 3 then (if k < 16 then 1 else 0) else if i = 4 ∨ i = 5 then (if k < 8 then -1 else 0) else if i = 10 then 8 else if i = 13 then 4 else 0
-- invariant
def GI (g : GS) : Prop := (∀ k, k < 80 → 0 ≤ (g 2 k).toInt ∧ (g 2 k).toInt ≤ 3 ∧ (g 0 k = -1 → g 2 k = 0)) ∧ (∀ k, k < 8 → (g 7 k).toInt ≤ 3 ∧ (g 6 k).toInt < 60 ∧ 0 ≤ (g 6 k).toInt)
-- facts
theorem ix_lt {cf : Cfg} (h : CfgOk cf) (p a t : Nat) : ixS cf p a t < 16 := by
  have h1 : ixS cf p a t < 2 ^ cf 0 := Nat.mod_lt _ (Nat.two_pow_pos _)
  have h2 : 2 ^ cf 0 ≤ 2 ^ 4 := Nat.pow_le_pow_right (by omega) h.1.2
  omega
theorem pl_lt {cf : Cfg} (h : CfgOk cf) (p a : Nat) {t : Nat} (h1 : 1 ≤ t) (h2 : t ≤ cf 3) : plS cf p a t < 80 := by
  have := ix_lt h p a t
  have := h.2.2.2.1
  unfold plS
  omega
theorem tg_lt {cf : Cfg} (h : CfgOk cf) (p a t : Nat) : tgS cf p a t < 2 ^ cf 1 := by
  unfold tgS
  have h1 : FD p (cf 1 - 1) (cf (10 + t)) < 2 ^ (cf 1 - 1) := FD_lt p (by have := h.2.1.1; omega) _
  have h2 : 2 * 2 ^ (cf 1 - 1) = 2 ^ cf 1 := by
    rw [← Nat.pow_succ']
    congr 1
    have := h.2.1.1
    omega
  exact Nat.xor_lt_two_pow (Nat.xor_lt_two_pow (Nat.mod_lt _ (Nat.two_pow_pos _)) (FD_lt p (by have := h.2.1.1; omega) _)) (by omega)
theorem tg_64 {cf : Cfg} (h : CfgOk cf) (p a t : Nat) : tgS cf p a t < 64 := by
  have h1 := tg_lt h p a t
  have h2 : 2 ^ cf 1 ≤ 2 ^ 6 := Nat.pow_le_pow_right (by omega) h.2.1.2
  omega
theorem ix_mod {cf : Cfg} (h : CfgOk cf) (P a : Nat) {t : Nat} (h1 : 1 ≤ t) (h2 : t ≤ cf 3) : ixS cf (P % 2 ^ 40) a t = ixS cf P a t := by
  unfold ixS; rw [FD_mod P _ (h.2.2.2.2.2.2 t h1 h2).2]
theorem tg_mod {cf : Cfg} (h : CfgOk cf) (P a : Nat) {t : Nat} (h1 : 1 ≤ t) (h2 : t ≤ cf 3) : tgS cf (P % 2 ^ 40) a t = tgS cf P a t := by
  unfold tgS; rw [FD_mod P _ (h.2.2.2.2.2.2 t h1 h2).2, FD_mod P _ (h.2.2.2.2.2.2 t h1 h2).2]
theorem al_pr (cf : Cfg) (g : GS) (p a n : Nat) : alS cf g p a n = prS cf g p a (prS cf g p a n - 1) := by
  induction n with
  | zero => rfl
  | succ n ih =>
    rw [alS, prS]
    by_cases h : mtS cf g p a (n + 1) = true
    · rw [if_pos h, if_pos h]; rfl
    · rw [if_neg h, if_neg h, ih]
theorem pr_le (cf : Cfg) (g : GS) (p a n : Nat) : prS cf g p a n ≤ n := by
  induction n with
  | zero => exact Nat.le_refl _
  | succ n ih =>
    rw [prS]
    split
    · exact Nat.le_refl _
    · omega
theorem pr_mt (cf : Cfg) (g : GS) (p a n : Nat) (h : 0 < prS cf g p a n) : mtS cf g p a (prS cf g p a n) = true := by
  induction n with
  | zero => exact absurd h (by simp [prS])
  | succ n ih =>
    rw [prS] at h ⊢
    split
    · assumption
    · rename_i hh
      rw [if_neg hh] at h
      exact ih h
theorem pv_le (cf : Cfg) (g : GS) (p a : Nat) : pvS cf g p a ≤ cf 3 := pr_le cf g p a _
theorem at_le (cf : Cfg) (g : GS) (p a : Nat) : atS cf g p a ≤ cf 3 := by
  unfold atS; rw [al_pr]; have := pr_le cf g p a (prS cf g p a (cf 3) - 1); have := pr_le cf g p a (cf 3); omega
theorem at_ne (cf : Cfg) (g : GS) (p a : Nat) (h : 0 < atS cf g p a) : ¬ atS cf g p a = cf 4 := by
  unfold atS at *; rw [al_pr] at *
  have := pr_mt cf g p a _ h
  intro e
  simp [mtS, e] at this
theorem pv_ne (cf : Cfg) (g : GS) (p a : Nat) (h : 0 < pvS cf g p a) : ¬ pvS cf g p a = cf 4 := by
  have := pr_mt cf g p a _ h
  intro e
  have e' : prS cf g p a (cf 3) = cf 4 := e
  simp [mtS, e'] at this
theorem sy_01 (cf : Cfg) (g : GS) (p a t : Nat) : syS cf g p a t = 0 ∨ syS cf g p a t = 1 := by
  unfold syS
  split <;> split <;> simp
theorem fs_01 (cf : Cfg) (g : GS) (p a : Nat) : fsS cf g p a = 0 ∨ fsS cf g p a = 1 := by
  unfold fsS
  split <;> exact sy_01 _ _ _ _ _
theorem sd_01 (cf : Cfg) (g : GS) (p a : Nat) : sdS cf g p a = 0 ∨ sdS cf g p a = 1 := by
  unfold sdS
  split <;> simp
theorem an_01 (cf : Cfg) (g : GS) (p a : Nat) : anS cf g p a = 0 ∨ anS cf g p a = 1 := by
  unfold anS
  split
  · split
    · exact fs_01 _ _ _ _
    · rename_i h
      unfold csS at h ⊢
      split
      · rename_i h1
        rw [if_pos h1] at h
        split
        · rename_i h2; rw [if_pos h2] at h; exact absurd rfl h
        · rename_i h2; rw [if_neg h2] at h
          split
          · rename_i h3; rw [if_pos h3] at h; exact absurd rfl h
          · exact sd_01 _ _ _ _
      · rename_i h1; rw [if_neg h1] at h; exact absurd rfl h
  · rename_i h
    unfold lsS at h ⊢
    repeat' split
    all_goals first | exact Or.inl rfl | exact Or.inr rfl | (exfalso; simp_all)
