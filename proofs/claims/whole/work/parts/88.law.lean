/-! THE CLAIM OUT OF ONE WALK OF THE LAW'S BODY. Your part is whole_start (and what it stands on); all else here is the same for every law, but numbers. -/
def R_law : String := "BranchGuessLaw"
def lw_P (b : Addr) (xs : List Int32) (args : Array Value) (s : State) : Prop := args = #[.ref b] ∧ s.IntsAt b xs ∧ xs.length ≤ 3072 ∧ (Jvm.Cond.and given_1 narrow_1).before args s = true
def lw_Q (_ : Array Value) (s : State) (o : Outcome) (t : State) : Prop := o = .returned (some (.int 1)) ∧ Framed s o t [] 600000 7302250
def lw_Z (below : List Frame) (a : Array Value) (s : State) : State → Prop := fun t => ∃ o, t.status = .running ∧ Ended t below o ∧ lw_Q a s o t
/-- the law's own end, with 1 on the stack, nothing written that was there before, its room as the claim has it -/
theorem lw_ret {p : Program} {l : Launch} {e : Env} {s : State} {m : MethodId} {below : List Frame} {meth : Method} {c : Code} {b : Nat} (hx : p.tables.exec = Jvm.exec) (hb : c.code = code) (hr : meth.sig.returnType = ret) (hlocks : meth.locks = false) {pc : Nat} {H : Heap} {ls : Array Slot} (hdg : decode code pc = .ok (.ireturn, 1)) : W p l e room_1 s m #[Value.ref b] below meth c H [] 600000 7302250 (lw_Z below #[Value.ref b] s) (F0 m pc ls [.int 1]) := by
  intro T hT X
  obtain ⟨fs, hret, hrun, hended, hW, hframe⟩ := X.leave (v := some (.int 1)) (hlocks := hlocks) (fun h => by rw [hr] at h; cases h)
  have hmeth' : T.vm.method? m = some meth := X.method'
  refine ⟨T.setFrames fs, ?_, .returned (some (.int 1)), hrun, hended, rfl, ⟨_, rfl⟩, hW, hframe⟩
  jvm_step X.here [X.here.top, hx, hb, hdg, hmeth', hr, ret, narrow_b1]
  (try refine ⟨rfl, ?_⟩); (try refine ⟨rfl, ?_⟩)
  first | (intro acts; rw [hret _ acts rfl rfl rfl]) | rw [hret _ _ rfl rfl rfl]
  exact Steps.refl _
/-- what holds at the law's entry: the machine, the code, the tables' words (any of lw_tbl by 'hts w (by decide +kernel)'), the script of L ints xs at the cell b, what the Statement gives of the start (any of its parts by flat_of_before) -/
def lw_At (p : Program) (s : State) (m : MethodId) (meth : Method) (c : Code) (b L : Nat) (xs : Nat → Int32) : Prop :=
  p.tables.exec = Jvm.exec ∧ c.code = code ∧ meth.sig.returnType = ret ∧ c.maxLocals = 4 ∧ s.vm.findClass R_law = some m.cls ∧ (∀ w ∈ lw_tbl, w.before #[Value.ref b] s = true) ∧ va_X b L xs s s.heap ∧ b < s.heap.size ∧ meth.locks = false ∧ (Jvm.Cond.and given_1 narrow_1).before #[Value.ref b] s = true
/-! The law's loop, and its start. -/
theorem s_slen' {E : En} {X : Xc} {d : Nat} {cc : ByteArray} {own : String} {nL pc : Nat} {ls : List (Option Value)} {st : List Value} {M : Mem} {b L : Nat} {ys : Nat → Int32} (C : Cx E X d cc own nL) (hR : Scr X b L ys) (hdg : decode cc pc = .ok (.arraylength, 1)) (k : At E X (pc + 1) ls (.int (nI L) :: st) M) : At E X pc ls (.ref b :: st) M :=
  fun H locs la hP hS hl => va_slen C.1 C.2.1 hR.1 hR.2.1 hR.2.2.1 hS hdg (k H locs la hP hS hl)
theorem and63 (x : Int32) : ∃ j, j < 64 ∧ x &&& 63 = nI j := by
  refine ⟨x.toBitVec.toNat % 2 ^ 6, Nat.mod_lt _ (by decide), ?_⟩
  have e : x = nI x.toBitVec.toNat := i32_ext (by rw [nI_bv, BitVec.ofNat_toNat, BitVec.setWidth_eq])
  rw [show x &&& 63 = nI x.toBitVec.toNat &&& nI (2 ^ 6 - 1) by rw [← e]; rfl]
  exact nI_mask
theorem l_go {E : En} {X : Xc} {b L : Nat} {ys : Nat → Int32} {i : Nat} {M : Mem} (C : Cx E X 13 cL_law RL 4) (kk : At E X 18 (lls E b (i + 6)) [] M) : At E X 1921 (lls E b i) [] M := by
  refine s_iinc3 (v := 6) C rfl dL_law_1921 (by decide) (s_goto (tgt := 18) C dL_law_1924 (by decide) ?_)
  rw [show nI i + 6 = nI (i + 6) from nI_add i 6]
  exact kk
theorem l_sw {E : En} {X : Xc} {b L : Nat} {ys : Nat → Int32} {i j : Nat} {S : St} {M : Mem} (C : Cx E X 13 cL_law RL 4) (hR : Scr X b L ys) (hi : i + 6 ≤ L) (hj : j < 64) (hM : JC S M) (hN : JR S M) (kk : ∀ S' M', JC S' M' → JR S' M' → At E X 1921 (lls E b i) [] M') : At E X 33 (lls E b i) [.int (nI j)] M := by
  by_cases h : j < 56
  · match j, h with
    | 0, _ => exact s_tin (off := 239) (tgt := 272) C 0 dL_law_33 (by decide) (by decide) rfl (by decide) (lc_0 C hR hi hM hN kk)
    | 1, _ => exact s_tin (off := 302) (tgt := 335) C 1 dL_law_33 (by decide) (by decide) rfl (by decide) (lc_1 C hR hi hM hN kk)
    | 2, _ => exact s_tin (off := 325) (tgt := 358) C 2 dL_law_33 (by decide) (by decide) rfl (by decide) (lc_2 C hR hi hM hN kk)
    | 3, _ => exact s_tin (off := 338) (tgt := 371) C 3 dL_law_33 (by decide) (by decide) rfl (by decide) (lc_3 C hR hi hM hN kk)
    | 4, _ => exact s_tin (off := 361) (tgt := 394) C 4 dL_law_33 (by decide) (by decide) rfl (by decide) (lc_4 C hR hi hM hN kk)
    | 5, _ => exact s_tin (off := 394) (tgt := 427) C 5 dL_law_33 (by decide) (by decide) rfl (by decide) (lc_5 C hR hi hM hN kk)
    | 6, _ => exact s_tin (off := 407) (tgt := 440) C 6 dL_law_33 (by decide) (by decide) rfl (by decide) (lc_6 C hR hi hM hN kk)
    | 7, _ => exact s_tin (off := 420) (tgt := 453) C 7 dL_law_33 (by decide) (by decide) rfl (by decide) (lc_7 C hR hi hM hN kk)
    | 8, _ => exact s_tin (off := 443) (tgt := 476) C 8 dL_law_33 (by decide) (by decide) rfl (by decide) (lc_8 C hR hi hM hN kk)
    | 9, _ => exact s_tin (off := 476) (tgt := 509) C 9 dL_law_33 (by decide) (by decide) rfl (by decide) (lc_9 C hR hi hM hN kk)
    | 10, _ => exact s_tin (off := 509) (tgt := 542) C 10 dL_law_33 (by decide) (by decide) rfl (by decide) (lc_10 C hR hi hM hN kk)
    | 11, _ => exact s_tin (off := 532) (tgt := 565) C 11 dL_law_33 (by decide) (by decide) rfl (by decide) (lc_11 C hR hi hM hN kk)
    | 12, _ => exact s_tin (off := 555) (tgt := 588) C 12 dL_law_33 (by decide) (by decide) rfl (by decide) (lc_12 C hR hi hM hN kk)
    | 13, _ => exact s_tin (off := 568) (tgt := 601) C 13 dL_law_33 (by decide) (by decide) rfl (by decide) (lc_13 C hR hi hM hN kk)
    | 14, _ => exact s_tin (off := 581) (tgt := 614) C 14 dL_law_33 (by decide) (by decide) rfl (by decide) (lc_14 C hR hi hM hN kk)
    | 15, _ => exact s_tin (off := 604) (tgt := 637) C 15 dL_law_33 (by decide) (by decide) rfl (by decide) (lc_15 C hR hi hM hN kk)
    | 16, _ => exact s_tin (off := 627) (tgt := 660) C 16 dL_law_33 (by decide) (by decide) rfl (by decide) (lc_16 C hR hi hM hN kk)
    | 17, _ => exact s_tin (off := 650) (tgt := 683) C 17 dL_law_33 (by decide) (by decide) rfl (by decide) (lc_17 C hR hi hM hN kk)
    | 18, _ => exact s_tin (off := 683) (tgt := 716) C 18 dL_law_33 (by decide) (by decide) rfl (by decide) (lc_18 C hR hi hM hN kk)
    | 19, _ => exact s_tin (off := 726) (tgt := 759) C 19 dL_law_33 (by decide) (by decide) rfl (by decide) (lc_19 C hR hi hM hN kk)
    | 20, _ => exact s_tin (off := 769) (tgt := 802) C 20 dL_law_33 (by decide) (by decide) rfl (by decide) (lc_20 C hR hi hM hN kk)
    | 21, _ => exact s_tin (off := 812) (tgt := 845) C 21 dL_law_33 (by decide) (by decide) rfl (by decide) (lc_21 C hR hi hM hN kk)
    | 22, _ => exact s_tin (off := 845) (tgt := 878) C 22 dL_law_33 (by decide) (by decide) rfl (by decide) (lc_22 C hR hi hM hN kk)
    | 23, _ => exact s_tin (off := 878) (tgt := 911) C 23 dL_law_33 (by decide) (by decide) rfl (by decide) (lc_23 C hR hi hM hN kk)
    | 24, _ => exact s_tin (off := 911) (tgt := 944) C 24 dL_law_33 (by decide) (by decide) rfl (by decide) (lc_24 C hR hi hM hN kk)
    | 25, _ => exact s_tin (off := 944) (tgt := 977) C 25 dL_law_33 (by decide) (by decide) rfl (by decide) (lc_25 C hR hi hM hN kk)
    | 26, _ => exact s_tin (off := 997) (tgt := 1030) C 26 dL_law_33 (by decide) (by decide) rfl (by decide) (lc_26 C hR hi hM hN kk)
    | 27, _ => exact s_tin (off := 1030) (tgt := 1063) C 27 dL_law_33 (by decide) (by decide) rfl (by decide) (lc_27 C hR hi hM hN kk)
    | 28, _ => exact s_tin (off := 1063) (tgt := 1096) C 28 dL_law_33 (by decide) (by decide) rfl (by decide) (lc_28 C hR hi hM hN kk)
    | 29, _ => exact s_tin (off := 1096) (tgt := 1129) C 29 dL_law_33 (by decide) (by decide) rfl (by decide) (lc_29 C hR hi hM hN kk)
    | 30, _ => exact s_tin (off := 1139) (tgt := 1172) C 30 dL_law_33 (by decide) (by decide) rfl (by decide) (lc_30 C hR hi hM hN kk)
    | 31, _ => exact s_tin (off := 1182) (tgt := 1215) C 31 dL_law_33 (by decide) (by decide) rfl (by decide) (lc_31 C hR hi hM hN kk)
    | 32, _ => exact s_tin (off := 1225) (tgt := 1258) C 32 dL_law_33 (by decide) (by decide) rfl (by decide) (lc_32 C hR hi hM hN kk)
    | 33, _ => exact s_tin (off := 1248) (tgt := 1281) C 33 dL_law_33 (by decide) (by decide) rfl (by decide) (lc_33 C hR hi hM hN kk)
    | 34, _ => exact s_tin (off := 1281) (tgt := 1314) C 34 dL_law_33 (by decide) (by decide) rfl (by decide) (lc_34 C hR hi hM hN kk)
    | 35, _ => exact s_tin (off := 1294) (tgt := 1327) C 35 dL_law_33 (by decide) (by decide) rfl (by decide) (lc_35 C hR hi hM hN kk)
    | 36, _ => exact s_tin (off := 1307) (tgt := 1340) C 36 dL_law_33 (by decide) (by decide) rfl (by decide) (lc_36 C hR hi hM hN kk)
    | 37, _ => exact s_tin (off := 1330) (tgt := 1363) C 37 dL_law_33 (by decide) (by decide) rfl (by decide) (lc_37 C hR hi hM hN kk)
    | 38, _ => exact s_tin (off := 1343) (tgt := 1376) C 38 dL_law_33 (by decide) (by decide) rfl (by decide) (lc_38 C hR hi hM hN kk)
    | 39, _ => exact s_tin (off := 1366) (tgt := 1399) C 39 dL_law_33 (by decide) (by decide) rfl (by decide) (lc_39 C hR hi hM hN kk)
    | 40, _ => exact s_tin (off := 1379) (tgt := 1412) C 40 dL_law_33 (by decide) (by decide) rfl (by decide) (lc_40 C hR hi hM hN kk)
    | 41, _ => exact s_tin (off := 1412) (tgt := 1445) C 41 dL_law_33 (by decide) (by decide) rfl (by decide) (lc_41 C hR hi hM hN kk)
    | 42, _ => exact s_tin (off := 1435) (tgt := 1468) C 42 dL_law_33 (by decide) (by decide) rfl (by decide) (lc_42 C hR hi hM hN kk)
    | 43, _ => exact s_tin (off := 1488) (tgt := 1521) C 43 dL_law_33 (by decide) (by decide) rfl (by decide) (lc_43 C hR hi hM hN kk)
    | 44, _ => exact s_tin (off := 1531) (tgt := 1564) C 44 dL_law_33 (by decide) (by decide) rfl (by decide) (lc_44 C hR hi hM hN kk)
    | 45, _ => exact s_tin (off := 1564) (tgt := 1597) C 45 dL_law_33 (by decide) (by decide) rfl (by decide) (lc_45 C hR hi hM hN kk)
    | 46, _ => exact s_tin (off := 1587) (tgt := 1620) C 46 dL_law_33 (by decide) (by decide) rfl (by decide) (lc_46 C hR hi hM hN kk)
    | 47, _ => exact s_tin (off := 1610) (tgt := 1643) C 47 dL_law_33 (by decide) (by decide) rfl (by decide) (lc_47 C hR hi hM hN kk)
    | 48, _ => exact s_tin (off := 1643) (tgt := 1676) C 48 dL_law_33 (by decide) (by decide) rfl (by decide) (lc_48 C hR hi hM hN kk)
    | 49, _ => exact s_tin (off := 1656) (tgt := 1689) C 49 dL_law_33 (by decide) (by decide) rfl (by decide) (lc_49 C hR hi hM hN kk)
    | 50, _ => exact s_tin (off := 1669) (tgt := 1702) C 50 dL_law_33 (by decide) (by decide) rfl (by decide) (lc_50 C hR hi hM hN kk)
    | 51, _ => exact s_tin (off := 1692) (tgt := 1725) C 51 dL_law_33 (by decide) (by decide) rfl (by decide) (lc_51 C hR hi hM hN kk)
    | 52, _ => exact s_tin (off := 1715) (tgt := 1748) C 52 dL_law_33 (by decide) (by decide) rfl (by decide) (lc_52 C hR hi hM hN kk)
    | 53, _ => exact s_tin (off := 1738) (tgt := 1771) C 53 dL_law_33 (by decide) (by decide) rfl (by decide) (lc_53 C hR hi hM hN kk)
    | 54, _ => exact s_tin (off := 1781) (tgt := 1814) C 54 dL_law_33 (by decide) (by decide) rfl (by decide) (lc_54 C hR hi hM hN kk)
    | 55, _ => exact s_tin (off := 1854) (tgt := 1887) C 55 dL_law_33 (by decide) (by decide) rfl (by decide) (lc_55 C hR hi hM hN kk)
    | n + 56, h => exact absurd h (by omega)
  · refine s_tout (tgt := 1921) C dL_law_33 (Or.inr ?_) (by decide) (kk S M hM hN)
    rw [nI_toInt (by omega)]; omega
theorem l_loop {E : En} {X : Xc} {b L : Nat} {ys : Nat → Int32} (C : Cx E X 13 cL_law RL 4) (hR : Scr X b L ys) (hend : ∀ (i : Nat) (M : Mem), At E X 1927 (lls E b i) [] M) : ∀ (m i : Nat) (S : St) (M : Mem), L < i + m → i ≤ 3078 → JC S M → JR S M → At E X 18 (lls E b i) [] M := by
  have h3 := hR.2.2.2
  intro m
  induction m with
  | zero =>
    intro i S M hm hi hM hN
    refine s_iload3 C dL_law_18 (s_aload0 C dL_law_19 (s_slen' C hR dL_law_20 (s_bipush (v := 6) C (by decide) dL_law_21 (s_isub C dL_law_23 (s_ic_gt (tgt := 1927) (a := some ()) (b := none) (r := ()) C (if_pos ?_) dL_law_24 (by decide) ⟨fun _ => hend i M, fun h => by cases h⟩)))))
    rw [fa_lt, show (6 : Int32) = nI 6 from rfl, pk_sub_toInt (by omega) (by omega), nI_toInt (by omega)]; omega
  | succ m ih =>
    intro i S M hm hi hM hN
    by_cases h6 : i + 6 ≤ L
    · refine s_iload3 C dL_law_18 (s_aload0 C dL_law_19 (s_slen' C hR dL_law_20 (s_bipush (v := 6) C (by decide) dL_law_21 (s_isub C dL_law_23 (s_ic_gt (tgt := 1927) (a := none) (b := some ()) (r := ()) C (if_neg ?_) dL_law_24 (by decide) ⟨fun h => (by cases h), fun _ => ?_⟩)))))
      · rw [fa_lt, show (6 : Int32) = nI 6 from rfl, pk_sub_toInt (by omega) (by omega), nI_toInt (by omega)]; omega
      · refine s_aload0 C dL_law_27 (s_iload3 C dL_law_28 (s_scr C hR (by omega) dL_law_29 (s_bipush (v := 63) C (by decide) dL_law_30 (s_iand C dL_law_32 ?_))))
        obtain ⟨j, hj, e⟩ := and63 (ys i)
        rw [e]
        exact l_sw C hR h6 hj hM hN (fun S' M' h1 h2 => l_go (L := L) (ys := ys) C (ih (i + 6) S' M' (by omega) (by omega) h1 h2))
    · refine s_iload3 C dL_law_18 (s_aload0 C dL_law_19 (s_slen' C hR dL_law_20 (s_bipush (v := 6) C (by decide) dL_law_21 (s_isub C dL_law_23 (s_ic_gt (tgt := 1927) (a := some ()) (b := none) (r := ()) C (if_pos ?_) dL_law_24 (by decide) ⟨fun _ => hend i M, fun h => by cases h⟩)))))
      rw [fa_lt, show (6 : Int32) = nI 6 from rfl, pk_sub_toInt (by omega) (by omega), nI_toInt (by omega)]; omega
theorem k_110 : (.classLink RL 7 RX9 : Cond) ∈ tb := tb_in (List.mem_of_getElem? (i := 110) (by decide +kernel)) (by decide +kernel)
theorem k_111 : (.instantiable RX9 11 : Cond) ∈ tb := tb_in (List.mem_of_getElem? (i := 111) (by decide +kernel)) (by decide +kernel)
theorem k_1238 : (.classLink RL 10 RX10 : Cond) ∈ tb := tb_in (List.mem_of_getElem? (i := 1238) (by decide +kernel)) (by decide +kernel)
theorem k_1239 : (.instantiable RX10 67 : Cond) ∈ tb := tb_in (List.mem_of_getElem? (i := 1239) (by decide +kernel)) (by decide +kernel)
theorem k_113 : (.instanceMethod yX9_init : Cond) ∈ tb := tb_in (List.mem_of_getElem? (i := 113) (by decide +kernel)) (by decide +kernel)
theorem k_112 : (.methodLink RL 9 yX9_init : Cond) ∈ tb := tb_in (List.mem_of_getElem? (i := 112) (by decide +kernel)) (by decide +kernel)
theorem k_1241 : (.instanceMethod yX10_init : Cond) ∈ tb := tb_in (List.mem_of_getElem? (i := 1241) (by decide +kernel)) (by decide +kernel)
theorem k_1240 : (.methodLink RL 12 yX10_init : Cond) ∈ tb := tb_in (List.mem_of_getElem? (i := 1240) (by decide +kernel)) (by decide +kernel)
theorem k_114 : (.code yX9_init cX9_init 2 none : Cond) ∈ tb := tb_in (List.mem_of_getElem? (i := 114) (by decide +kernel)) (by decide +kernel)
theorem wb_X9_init : CwB yX9_init cX9_init 2 none 0 := ⟨k_114, k_92, by decide +kernel, by decide⟩
theorem k_1242 : (.code yX10_init cX10_init 1 none : Cond) ∈ tb := tb_in (List.mem_of_getElem? (i := 1242) (by decide +kernel)) (by decide +kernel)
theorem wb_X10_init : CwB yX10_init cX10_init 1 none 0 := ⟨k_1242, k_103, by decide +kernel, by decide⟩
theorem whole_start {p : Program} {e : Env} {s : State} {m : MethodId} {below : List Frame} {meth : Method} {c : Code} (l : Launch) (hflags : l.flags = flags0) {b L : Nat} {xs : Nat → Int32} (hL : L ≤ 3072) (C0 : lw_At p s m meth c b L xs) : W p l e room_1 s m #[Value.ref b] below meth c s.heap [] 0 0 (lw_Z below #[Value.ref b] s) (entryFrame m ([Value.ref b] : List Value).toArray 4) := by
  obtain ⟨hx, hb, hr, hml, hown, hts, hX, hbl, hlocks, hgv⟩ := C0
  obtain ⟨E0, hSg, hKb⟩ := env hts hgv
  have htb : ∀ w ∈ tb, w.before #[Value.ref b] s = true := fun w hw => hts w (List.mem_filter.mp hw).1
  rw [lg_entry_eq]
  generalize hXe : ((p, l, e, room_1, s, m, #[Value.ref b], below, meth, c, lw_Z below #[Value.ref b] s, (fun q => s.heap.size ≤ q), 117, 13560) : Xc) = X
  have x1 : xp X = p := by rw [← hXe]
  have C : Cb E0 X 13 cL_law RL 4 := by rw [← hXe]; exact ⟨hx, hb, hml, hown, htb, hKb, fun q h => h, Nat.le_of_ble_eq_true rfl, Nat.le_of_ble_eq_true rfl⟩
  have hc : (xR X).cells = 600000 := by rw [← hXe]; rfl
  have hs : (xR X).slots = 7302250 := by rw [← hXe]; rfl
  have key : Bd E0 X [] 0 0 0 [some (.ref b), none, none, none] [] := by
    refine b_new (ci := 9) C (dfs tyX9 11) uX9 tyX9_ok k_110 k_111 k_92 rfl (dfs_ok _ _) (by rw [hc]; exact Nat.le_of_ble_eq_true rfl) (by rw [hs]; exact Nat.le_of_ble_eq_true rfl) dL_law_0 (fun q1 => ?_)
    refine b_dup C rfl dL_law_3 ?_
    refine b_cI C rfl (by omega) (i_X9 (xl X) E0 12 (by omega) q1) wb_X9_init rfl k_113 k_112 (Nat.le_of_ble_eq_true rfl) (by rw [hc]; exact Nat.le_of_ble_eq_true rfl) (by rw [hs]; exact Nat.le_of_ble_eq_true rfl) dL_law_4 (fun a ha => ?_)
    subst ha
    refine b_as (i := 1) C 1 rfl (Nat.le_of_ble_eq_true rfl) (fun j hj w hw => by cases hj; simp at hw; subst hw; intro z; cases z) dL_law_7 ?_
    refine b_new (ci := 10) C (dfs tyX10 67) uX10 tyX10_ok k_1238 k_1239 k_103 rfl (dfs_ok _ _) (by rw [hc]; exact Nat.le_of_ble_eq_true rfl) (by rw [hs]; exact Nat.le_of_ble_eq_true rfl) dL_law_8 (fun q2 => ?_)
    refine b_dup C rfl dL_law_11 ?_
    refine b_cI C rfl (by omega) (i_X10 (xl X) E0 12 (by omega) q2) wb_X10_init rfl k_1241 k_1240 (Nat.le_of_ble_eq_true rfl) (by rw [hc]; exact Nat.le_of_ble_eq_true rfl) (by rw [hs]; exact Nat.le_of_ble_eq_true rfl) dL_law_12 (fun a' ha' => ?_)
    subst ha'
    refine b_as (i := 2) C 2 rfl (Nat.le_of_ble_eq_true rfl) (fun j hj w hw => by cases hj; simp at hw; subst hw; intro z; cases z) dL_law_15 ?_
    refine b_iconst (v := 0) C (by decide) dL_law_16 ?_
    refine b_is (i := 3) C 3 rfl (Nat.le_of_ble_eq_true rfl) (fun j hj w hw => by cases hj; simp at hw; subst hw; intro z; cases z) dL_law_17 ?_
    intro H locs la hP hD hS hl
    obtain ⟨hP', hO⟩ := conv hP hD
    have hSg' : Sg (adj E0 a a') (fun q => s.heap.size ≤ q) s := hSg
    have C1 : Cx (adj E0 a a') X 13 cL_law RL 4 := by
      rw [← hXe] at hO ⊢
      exact ⟨hx, hb, hml, hown, htb, hSg', hO, Nat.le_of_ble_eq_true rfl, Nat.le_of_ble_eq_true rfl, Nat.le_of_ble_eq_true rfl, Nat.le_of_ble_eq_true rfl⟩
    have hR : Scr X b L xs := by
      rw [← hXe]
      exact ⟨hX, hbl, fun z => absurd hbl (Nat.not_lt.mpr z), hL⟩
    have hend : ∀ (i : Nat) (M : Mem), At (adj E0 a a') X 1927 (lls (adj E0 a a') b i) [] M := by
      intro i M H locs la hP hS hl
      rw [← hXe] at hS ⊢
      refine va_forget (fun q hq => hS.2.2 q hq) ?_
      refine lv_iconst hx hb dL_law_1927 (v := 1) (by decide) ?_
      refine W.widen (k := 600000) (n := 7302250) (Nat.le_of_ble_eq_true rfl) (Nat.le_of_ble_eq_true rfl) ?_
      exact lw_ret hx hb hr hlocks dL_law_1928
    have fin := l_loop C1 hR hend (L + 1) 0 S0 M0 (by omega) (by omega) jc0 jr0 H locs la hP' hS hl
    subst hXe
    exact fin
  have fin := key s.heap [] _ (fun k q h => by cases h) ⟨fun i j p q h => by (cases h), fun k q h => by cases h⟩ (by rw [← hXe]; exact va_S.rf) (has_ent [.ref b] (n := 4) (Nat.le_of_ble_eq_true rfl))
  rw [← hXe] at fin
  exact fin
