/-! The law's cases: by program (wip/whole/mk86.py). -/
def Scr (X : Xc) (b L : Nat) (ys : Nat → Int32) : Prop := va_X b L ys (xs X) (xs X).heap ∧ b < (xs X).heap.size ∧ ¬ xA X b ∧ L ≤ 3072
abbrev lls (E : En) (b i : Nat) : List (Option Value) := [some (.ref b), some (.ref (ad E 0)), some (.ref (ad E 80)), some (.int (nI i))]
theorem s_scr {E : En} {X : Xc} {d : Nat} {cc : ByteArray} {own : String} {nL pc : Nat} {ls : List (Option Value)} {st : List Value} {M : Mem} {b L : Nat} {ys : Nat → Int32} {j : Nat} (C : Cx E X d cc own nL) (hR : Scr X b L ys) (hj : j < L) (hdg : decode cc pc = .ok (.iaload, 1)) (k : At E X (pc + 1) ls (.int (ys j) :: st) M) : At E X pc ls (.int (nI j) :: .ref b :: st) M := by
  intro H locs la hP hS hl
  have h3 := hR.2.2.2
  refine va_sld C.1 C.2.1 hR.1 hR.2.1 hR.2.2.1 hS (ib_in (ib_n hj (by omega))) hdg ?_
  rw [show (nI j).toNatClampNeg = j from tn_n (by omega)]
  exact k H locs la hP hS hl
theorem s_arg {E : En} {X : Xc} {d : Nat} {cc : ByteArray} {own : String} {nL pc : Nat} {st : List Value} {M : Mem} {b L : Nat} {ys : Nat → Int32} {i k : Nat} {z : Int} (C : Cx E X d cc own nL) (hR : Scr X b L ys) (hi : i + k < L) (hz : Int32.ofInt z = nI k) (d0 : decode cc pc = .ok (.aload_n 0, 1)) (d1 : decode cc (pc + 1) = .ok (.iload_n 3, 1)) (d2 : decode cc (pc + 1 + 1) = .ok (.iconst z, 1)) (d3 : decode cc (pc + 1 + 1 + 1) = .ok (.iadd, 1)) (d4 : decode cc (pc + 1 + 1 + 1 + 1) = .ok (.iaload, 1)) (kk : At E X (pc + 1 + 1 + 1 + 1 + 1) (lls E b i) (.int (ys (i + k)) :: st) M) : At E X pc (lls E b i) st M := by
  refine s_aload0 C d0 (s_iload3 C d1 (s_iconst (v := nI k) C hz d2 (s_iadd C d3 ?_)))
  rw [nI_add]
  exact s_scr C hR hi d4 kk
theorem k_492 : (.code yX9_feed cX9_feed 6 (some .int) : Cond) ∈ tb := tb_in (List.mem_of_getElem? (i := 492) (by decide +kernel)) (by decide +kernel)
theorem k_489 : (.methodLink RL 13 yX9_feed : Cond) ∈ tb := tb_in (List.mem_of_getElem? (i := 489) (by decide +kernel)) (by decide +kernel)
theorem k_490 : (.instanceMethod yX9_feed : Cond) ∈ tb := tb_in (List.mem_of_getElem? (i := 490) (by decide +kernel)) (by decide +kernel)
theorem k_491 : (.selects RX9 yX9_feed yX9_feed : Cond) ∈ tb := tb_in (List.mem_of_getElem? (i := 491) (by decide +kernel)) (by decide +kernel)
theorem k_1460 : (.code yX10_feed cX10_feed 7 (some .int) : Cond) ∈ tb := tb_in (List.mem_of_getElem? (i := 1460) (by decide +kernel)) (by decide +kernel)
theorem k_1457 : (.methodLink RL 17 yX10_feed : Cond) ∈ tb := tb_in (List.mem_of_getElem? (i := 1457) (by decide +kernel)) (by decide +kernel)
theorem k_1458 : (.instanceMethod yX10_feed : Cond) ∈ tb := tb_in (List.mem_of_getElem? (i := 1458) (by decide +kernel)) (by decide +kernel)
theorem k_1459 : (.selects RX10 yX10_feed yX10_feed : Cond) ∈ tb := tb_in (List.mem_of_getElem? (i := 1459) (by decide +kernel)) (by decide +kernel)
theorem k_500 : (.code yX9_end cX9_end 2 (some .int) : Cond) ∈ tb := tb_in (List.mem_of_getElem? (i := 500) (by decide +kernel)) (by decide +kernel)
theorem k_497 : (.methodLink RL 18 yX9_end : Cond) ∈ tb := tb_in (List.mem_of_getElem? (i := 497) (by decide +kernel)) (by decide +kernel)
theorem k_498 : (.instanceMethod yX9_end : Cond) ∈ tb := tb_in (List.mem_of_getElem? (i := 498) (by decide +kernel)) (by decide +kernel)
theorem k_499 : (.selects RX9 yX9_end yX9_end : Cond) ∈ tb := tb_in (List.mem_of_getElem? (i := 499) (by decide +kernel)) (by decide +kernel)
theorem k_1464 : (.code yX10_end cX10_end 2 (some .int) : Cond) ∈ tb := tb_in (List.mem_of_getElem? (i := 1464) (by decide +kernel)) (by decide +kernel)
theorem k_1461 : (.methodLink RL 22 yX10_end : Cond) ∈ tb := tb_in (List.mem_of_getElem? (i := 1461) (by decide +kernel)) (by decide +kernel)
theorem k_1462 : (.instanceMethod yX10_end : Cond) ∈ tb := tb_in (List.mem_of_getElem? (i := 1462) (by decide +kernel)) (by decide +kernel)
theorem k_1463 : (.selects RX10 yX10_end yX10_end : Cond) ∈ tb := tb_in (List.mem_of_getElem? (i := 1463) (by decide +kernel)) (by decide +kernel)
theorem k_507 : (.code yX9_program cX9_program 1 (some .int) : Cond) ∈ tb := tb_in (List.mem_of_getElem? (i := 507) (by decide +kernel)) (by decide +kernel)
theorem k_504 : (.methodLink RL 23 yX9_program : Cond) ∈ tb := tb_in (List.mem_of_getElem? (i := 504) (by decide +kernel)) (by decide +kernel)
theorem k_505 : (.instanceMethod yX9_program : Cond) ∈ tb := tb_in (List.mem_of_getElem? (i := 505) (by decide +kernel)) (by decide +kernel)
theorem k_506 : (.selects RX9 yX9_program yX9_program : Cond) ∈ tb := tb_in (List.mem_of_getElem? (i := 506) (by decide +kernel)) (by decide +kernel)
theorem k_1472 : (.code yX10_program cX10_program 2 (some .int) : Cond) ∈ tb := tb_in (List.mem_of_getElem? (i := 1472) (by decide +kernel)) (by decide +kernel)
theorem k_1469 : (.methodLink RL 27 yX10_program : Cond) ∈ tb := tb_in (List.mem_of_getElem? (i := 1469) (by decide +kernel)) (by decide +kernel)
theorem k_1470 : (.instanceMethod yX10_program : Cond) ∈ tb := tb_in (List.mem_of_getElem? (i := 1470) (by decide +kernel)) (by decide +kernel)
theorem k_1471 : (.selects RX10 yX10_program yX10_program : Cond) ∈ tb := tb_in (List.mem_of_getElem? (i := 1471) (by decide +kernel)) (by decide +kernel)
theorem k_861 : (.code yX9_fault cX9_fault 2 (some .int) : Cond) ∈ tb := tb_in (List.mem_of_getElem? (i := 861) (by decide +kernel)) (by decide +kernel)
theorem k_858 : (.methodLink RL 28 yX9_fault : Cond) ∈ tb := tb_in (List.mem_of_getElem? (i := 858) (by decide +kernel)) (by decide +kernel)
theorem k_859 : (.instanceMethod yX9_fault : Cond) ∈ tb := tb_in (List.mem_of_getElem? (i := 859) (by decide +kernel)) (by decide +kernel)
theorem k_860 : (.selects RX9 yX9_fault yX9_fault : Cond) ∈ tb := tb_in (List.mem_of_getElem? (i := 860) (by decide +kernel)) (by decide +kernel)
theorem k_1468 : (.code yX10_fault cX10_fault 2 (some .int) : Cond) ∈ tb := tb_in (List.mem_of_getElem? (i := 1468) (by decide +kernel)) (by decide +kernel)
theorem k_1465 : (.methodLink RL 31 yX10_fault : Cond) ∈ tb := tb_in (List.mem_of_getElem? (i := 1465) (by decide +kernel)) (by decide +kernel)
theorem k_1466 : (.instanceMethod yX10_fault : Cond) ∈ tb := tb_in (List.mem_of_getElem? (i := 1466) (by decide +kernel)) (by decide +kernel)
theorem k_1467 : (.selects RX10 yX10_fault yX10_fault : Cond) ∈ tb := tb_in (List.mem_of_getElem? (i := 1467) (by decide +kernel)) (by decide +kernel)
theorem k_865 : (.code yX9_op cX9_op 3 (some .int) : Cond) ∈ tb := tb_in (List.mem_of_getElem? (i := 865) (by decide +kernel)) (by decide +kernel)
theorem k_862 : (.methodLink RL 32 yX9_op : Cond) ∈ tb := tb_in (List.mem_of_getElem? (i := 862) (by decide +kernel)) (by decide +kernel)
theorem k_863 : (.instanceMethod yX9_op : Cond) ∈ tb := tb_in (List.mem_of_getElem? (i := 863) (by decide +kernel)) (by decide +kernel)
theorem k_864 : (.selects RX9 yX9_op yX9_op : Cond) ∈ tb := tb_in (List.mem_of_getElem? (i := 864) (by decide +kernel)) (by decide +kernel)
theorem k_1564 : (.code yX10_op cX10_op 3 (some .int) : Cond) ∈ tb := tb_in (List.mem_of_getElem? (i := 1564) (by decide +kernel)) (by decide +kernel)
theorem k_1561 : (.methodLink RL 36 yX10_op : Cond) ∈ tb := tb_in (List.mem_of_getElem? (i := 1561) (by decide +kernel)) (by decide +kernel)
theorem k_1562 : (.instanceMethod yX10_op : Cond) ∈ tb := tb_in (List.mem_of_getElem? (i := 1562) (by decide +kernel)) (by decide +kernel)
theorem k_1563 : (.selects RX10 yX10_op yX10_op : Cond) ∈ tb := tb_in (List.mem_of_getElem? (i := 1563) (by decide +kernel)) (by decide +kernel)
theorem k_871 : (.code yX9_steps cX9_steps 1 (some .int) : Cond) ∈ tb := tb_in (List.mem_of_getElem? (i := 871) (by decide +kernel)) (by decide +kernel)
theorem k_868 : (.methodLink RL 37 yX9_steps : Cond) ∈ tb := tb_in (List.mem_of_getElem? (i := 868) (by decide +kernel)) (by decide +kernel)
theorem k_869 : (.instanceMethod yX9_steps : Cond) ∈ tb := tb_in (List.mem_of_getElem? (i := 869) (by decide +kernel)) (by decide +kernel)
theorem k_870 : (.selects RX9 yX9_steps yX9_steps : Cond) ∈ tb := tb_in (List.mem_of_getElem? (i := 870) (by decide +kernel)) (by decide +kernel)
theorem k_1581 : (.code yX10_steps cX10_steps 1 (some .int) : Cond) ∈ tb := tb_in (List.mem_of_getElem? (i := 1581) (by decide +kernel)) (by decide +kernel)
theorem k_1578 : (.methodLink RL 40 yX10_steps : Cond) ∈ tb := tb_in (List.mem_of_getElem? (i := 1578) (by decide +kernel)) (by decide +kernel)
theorem k_1579 : (.instanceMethod yX10_steps : Cond) ∈ tb := tb_in (List.mem_of_getElem? (i := 1579) (by decide +kernel)) (by decide +kernel)
theorem k_1580 : (.selects RX10 yX10_steps yX10_steps : Cond) ∈ tb := tb_in (List.mem_of_getElem? (i := 1580) (by decide +kernel)) (by decide +kernel)
theorem k_879 : (.code yX9_why cX9_why 1 (some .int) : Cond) ∈ tb := tb_in (List.mem_of_getElem? (i := 879) (by decide +kernel)) (by decide +kernel)
theorem k_876 : (.methodLink RL 41 yX9_why : Cond) ∈ tb := tb_in (List.mem_of_getElem? (i := 876) (by decide +kernel)) (by decide +kernel)
theorem k_877 : (.instanceMethod yX9_why : Cond) ∈ tb := tb_in (List.mem_of_getElem? (i := 877) (by decide +kernel)) (by decide +kernel)
theorem k_878 : (.selects RX9 yX9_why yX9_why : Cond) ∈ tb := tb_in (List.mem_of_getElem? (i := 878) (by decide +kernel)) (by decide +kernel)
theorem k_1636 : (.code yX10_why cX10_why 1 (some .int) : Cond) ∈ tb := tb_in (List.mem_of_getElem? (i := 1636) (by decide +kernel)) (by decide +kernel)
theorem k_1633 : (.methodLink RL 44 yX10_why : Cond) ∈ tb := tb_in (List.mem_of_getElem? (i := 1633) (by decide +kernel)) (by decide +kernel)
theorem k_1634 : (.instanceMethod yX10_why : Cond) ∈ tb := tb_in (List.mem_of_getElem? (i := 1634) (by decide +kernel)) (by decide +kernel)
theorem k_1635 : (.selects RX10 yX10_why yX10_why : Cond) ∈ tb := tb_in (List.mem_of_getElem? (i := 1635) (by decide +kernel)) (by decide +kernel)
theorem k_883 : (.code yX9_next cX9_next 2 (some .int) : Cond) ∈ tb := tb_in (List.mem_of_getElem? (i := 883) (by decide +kernel)) (by decide +kernel)
theorem k_880 : (.methodLink RL 45 yX9_next : Cond) ∈ tb := tb_in (List.mem_of_getElem? (i := 880) (by decide +kernel)) (by decide +kernel)
theorem k_881 : (.instanceMethod yX9_next : Cond) ∈ tb := tb_in (List.mem_of_getElem? (i := 881) (by decide +kernel)) (by decide +kernel)
theorem k_882 : (.selects RX9 yX9_next yX9_next : Cond) ∈ tb := tb_in (List.mem_of_getElem? (i := 882) (by decide +kernel)) (by decide +kernel)
theorem k_1640 : (.code yX10_next cX10_next 2 (some .int) : Cond) ∈ tb := tb_in (List.mem_of_getElem? (i := 1640) (by decide +kernel)) (by decide +kernel)
theorem k_1637 : (.methodLink RL 48 yX10_next : Cond) ∈ tb := tb_in (List.mem_of_getElem? (i := 1637) (by decide +kernel)) (by decide +kernel)
theorem k_1638 : (.instanceMethod yX10_next : Cond) ∈ tb := tb_in (List.mem_of_getElem? (i := 1638) (by decide +kernel)) (by decide +kernel)
theorem k_1639 : (.selects RX10 yX10_next yX10_next : Cond) ∈ tb := tb_in (List.mem_of_getElem? (i := 1639) (by decide +kernel)) (by decide +kernel)
theorem k_891 : (.code yX9_register cX9_register 3 (some .int) : Cond) ∈ tb := tb_in (List.mem_of_getElem? (i := 891) (by decide +kernel)) (by decide +kernel)
theorem k_888 : (.methodLink RL 49 yX9_register : Cond) ∈ tb := tb_in (List.mem_of_getElem? (i := 888) (by decide +kernel)) (by decide +kernel)
theorem k_889 : (.instanceMethod yX9_register : Cond) ∈ tb := tb_in (List.mem_of_getElem? (i := 889) (by decide +kernel)) (by decide +kernel)
theorem k_890 : (.selects RX9 yX9_register yX9_register : Cond) ∈ tb := tb_in (List.mem_of_getElem? (i := 890) (by decide +kernel)) (by decide +kernel)
theorem k_1644 : (.code yX10_register cX10_register 3 (some .int) : Cond) ∈ tb := tb_in (List.mem_of_getElem? (i := 1644) (by decide +kernel)) (by decide +kernel)
theorem k_1641 : (.methodLink RL 52 yX10_register : Cond) ∈ tb := tb_in (List.mem_of_getElem? (i := 1641) (by decide +kernel)) (by decide +kernel)
theorem k_1642 : (.instanceMethod yX10_register : Cond) ∈ tb := tb_in (List.mem_of_getElem? (i := 1642) (by decide +kernel)) (by decide +kernel)
theorem k_1643 : (.selects RX10 yX10_register yX10_register : Cond) ∈ tb := tb_in (List.mem_of_getElem? (i := 1643) (by decide +kernel)) (by decide +kernel)
theorem k_899 : (.code yX9_branch cX9_branch 3 (some .int) : Cond) ∈ tb := tb_in (List.mem_of_getElem? (i := 899) (by decide +kernel)) (by decide +kernel)
theorem k_896 : (.methodLink RL 53 yX9_branch : Cond) ∈ tb := tb_in (List.mem_of_getElem? (i := 896) (by decide +kernel)) (by decide +kernel)
theorem k_897 : (.instanceMethod yX9_branch : Cond) ∈ tb := tb_in (List.mem_of_getElem? (i := 897) (by decide +kernel)) (by decide +kernel)
theorem k_898 : (.selects RX9 yX9_branch yX9_branch : Cond) ∈ tb := tb_in (List.mem_of_getElem? (i := 898) (by decide +kernel)) (by decide +kernel)
theorem k_1649 : (.code yX10_branch cX10_branch 3 (some .int) : Cond) ∈ tb := tb_in (List.mem_of_getElem? (i := 1649) (by decide +kernel)) (by decide +kernel)
theorem k_1646 : (.methodLink RL 56 yX10_branch : Cond) ∈ tb := tb_in (List.mem_of_getElem? (i := 1646) (by decide +kernel)) (by decide +kernel)
theorem k_1647 : (.instanceMethod yX10_branch : Cond) ∈ tb := tb_in (List.mem_of_getElem? (i := 1647) (by decide +kernel)) (by decide +kernel)
theorem k_1648 : (.selects RX10 yX10_branch yX10_branch : Cond) ∈ tb := tb_in (List.mem_of_getElem? (i := 1648) (by decide +kernel)) (by decide +kernel)
theorem k_908 : (.code yX9_wrong cX9_wrong 4 (some .int) : Cond) ∈ tb := tb_in (List.mem_of_getElem? (i := 908) (by decide +kernel)) (by decide +kernel)
theorem k_905 : (.methodLink RL 57 yX9_wrong : Cond) ∈ tb := tb_in (List.mem_of_getElem? (i := 905) (by decide +kernel)) (by decide +kernel)
theorem k_906 : (.instanceMethod yX9_wrong : Cond) ∈ tb := tb_in (List.mem_of_getElem? (i := 906) (by decide +kernel)) (by decide +kernel)
theorem k_907 : (.selects RX9 yX9_wrong yX9_wrong : Cond) ∈ tb := tb_in (List.mem_of_getElem? (i := 907) (by decide +kernel)) (by decide +kernel)
theorem k_1749 : (.code yX10_wrong cX10_wrong 2 (some .int) : Cond) ∈ tb := tb_in (List.mem_of_getElem? (i := 1749) (by decide +kernel)) (by decide +kernel)
theorem k_1746 : (.methodLink RL 60 yX10_wrong : Cond) ∈ tb := tb_in (List.mem_of_getElem? (i := 1746) (by decide +kernel)) (by decide +kernel)
theorem k_1747 : (.instanceMethod yX10_wrong : Cond) ∈ tb := tb_in (List.mem_of_getElem? (i := 1747) (by decide +kernel)) (by decide +kernel)
theorem k_1748 : (.selects RX10 yX10_wrong yX10_wrong : Cond) ∈ tb := tb_in (List.mem_of_getElem? (i := 1748) (by decide +kernel)) (by decide +kernel)
theorem k_921 : (.code yX9_wrongs cX9_wrongs 2 (some .int) : Cond) ∈ tb := tb_in (List.mem_of_getElem? (i := 921) (by decide +kernel)) (by decide +kernel)
theorem k_918 : (.methodLink RL 61 yX9_wrongs : Cond) ∈ tb := tb_in (List.mem_of_getElem? (i := 918) (by decide +kernel)) (by decide +kernel)
theorem k_919 : (.instanceMethod yX9_wrongs : Cond) ∈ tb := tb_in (List.mem_of_getElem? (i := 919) (by decide +kernel)) (by decide +kernel)
theorem k_920 : (.selects RX9 yX9_wrongs yX9_wrongs : Cond) ∈ tb := tb_in (List.mem_of_getElem? (i := 920) (by decide +kernel)) (by decide +kernel)
theorem k_1761 : (.code yX10_wrongs cX10_wrongs 2 (some .int) : Cond) ∈ tb := tb_in (List.mem_of_getElem? (i := 1761) (by decide +kernel)) (by decide +kernel)
theorem k_1758 : (.methodLink RL 64 yX10_wrongs : Cond) ∈ tb := tb_in (List.mem_of_getElem? (i := 1758) (by decide +kernel)) (by decide +kernel)
theorem k_1759 : (.instanceMethod yX10_wrongs : Cond) ∈ tb := tb_in (List.mem_of_getElem? (i := 1759) (by decide +kernel)) (by decide +kernel)
theorem k_1760 : (.selects RX10 yX10_wrongs yX10_wrongs : Cond) ∈ tb := tb_in (List.mem_of_getElem? (i := 1760) (by decide +kernel)) (by decide +kernel)
theorem k_934 : (.code yX9_worst cX9_worst 5 (some .int) : Cond) ∈ tb := tb_in (List.mem_of_getElem? (i := 934) (by decide +kernel)) (by decide +kernel)
theorem k_931 : (.methodLink RL 65 yX9_worst : Cond) ∈ tb := tb_in (List.mem_of_getElem? (i := 931) (by decide +kernel)) (by decide +kernel)
theorem k_932 : (.instanceMethod yX9_worst : Cond) ∈ tb := tb_in (List.mem_of_getElem? (i := 932) (by decide +kernel)) (by decide +kernel)
theorem k_933 : (.selects RX9 yX9_worst yX9_worst : Cond) ∈ tb := tb_in (List.mem_of_getElem? (i := 933) (by decide +kernel)) (by decide +kernel)
theorem k_1773 : (.code yX10_worst cX10_worst 4 (some .int) : Cond) ∈ tb := tb_in (List.mem_of_getElem? (i := 1773) (by decide +kernel)) (by decide +kernel)
theorem k_1770 : (.methodLink RL 68 yX10_worst : Cond) ∈ tb := tb_in (List.mem_of_getElem? (i := 1770) (by decide +kernel)) (by decide +kernel)
theorem k_1771 : (.instanceMethod yX10_worst : Cond) ∈ tb := tb_in (List.mem_of_getElem? (i := 1771) (by decide +kernel)) (by decide +kernel)
theorem k_1772 : (.selects RX10 yX10_worst yX10_worst : Cond) ∈ tb := tb_in (List.mem_of_getElem? (i := 1772) (by decide +kernel)) (by decide +kernel)
theorem k_938 : (.code yX9_streak cX9_streak 4 (some .int) : Cond) ∈ tb := tb_in (List.mem_of_getElem? (i := 938) (by decide +kernel)) (by decide +kernel)
theorem k_935 : (.methodLink RL 69 yX9_streak : Cond) ∈ tb := tb_in (List.mem_of_getElem? (i := 935) (by decide +kernel)) (by decide +kernel)
theorem k_936 : (.instanceMethod yX9_streak : Cond) ∈ tb := tb_in (List.mem_of_getElem? (i := 936) (by decide +kernel)) (by decide +kernel)
theorem k_937 : (.selects RX9 yX9_streak yX9_streak : Cond) ∈ tb := tb_in (List.mem_of_getElem? (i := 937) (by decide +kernel)) (by decide +kernel)
theorem k_1777 : (.code yX10_streak cX10_streak 4 (some .int) : Cond) ∈ tb := tb_in (List.mem_of_getElem? (i := 1777) (by decide +kernel)) (by decide +kernel)
theorem k_1774 : (.methodLink RL 72 yX10_streak : Cond) ∈ tb := tb_in (List.mem_of_getElem? (i := 1774) (by decide +kernel)) (by decide +kernel)
theorem k_1775 : (.instanceMethod yX10_streak : Cond) ∈ tb := tb_in (List.mem_of_getElem? (i := 1775) (by decide +kernel)) (by decide +kernel)
theorem k_1776 : (.selects RX10 yX10_streak yX10_streak : Cond) ∈ tb := tb_in (List.mem_of_getElem? (i := 1776) (by decide +kernel)) (by decide +kernel)
theorem k_942 : (.code yX9_said cX9_said 2 (some .int) : Cond) ∈ tb := tb_in (List.mem_of_getElem? (i := 942) (by decide +kernel)) (by decide +kernel)
theorem k_939 : (.methodLink RL 73 yX9_said : Cond) ∈ tb := tb_in (List.mem_of_getElem? (i := 939) (by decide +kernel)) (by decide +kernel)
theorem k_940 : (.instanceMethod yX9_said : Cond) ∈ tb := tb_in (List.mem_of_getElem? (i := 940) (by decide +kernel)) (by decide +kernel)
theorem k_941 : (.selects RX9 yX9_said yX9_said : Cond) ∈ tb := tb_in (List.mem_of_getElem? (i := 941) (by decide +kernel)) (by decide +kernel)
theorem k_1781 : (.code yX10_said cX10_said 4 (some .int) : Cond) ∈ tb := tb_in (List.mem_of_getElem? (i := 1781) (by decide +kernel)) (by decide +kernel)
theorem k_1778 : (.methodLink RL 76 yX10_said : Cond) ∈ tb := tb_in (List.mem_of_getElem? (i := 1778) (by decide +kernel)) (by decide +kernel)
theorem k_1779 : (.instanceMethod yX10_said : Cond) ∈ tb := tb_in (List.mem_of_getElem? (i := 1779) (by decide +kernel)) (by decide +kernel)
theorem k_1780 : (.selects RX10 yX10_said yX10_said : Cond) ∈ tb := tb_in (List.mem_of_getElem? (i := 1780) (by decide +kernel)) (by decide +kernel)
theorem k_954 : (.code yX9_gained cX9_gained 4 (some .int) : Cond) ∈ tb := tb_in (List.mem_of_getElem? (i := 954) (by decide +kernel)) (by decide +kernel)
theorem k_951 : (.methodLink RL 77 yX9_gained : Cond) ∈ tb := tb_in (List.mem_of_getElem? (i := 951) (by decide +kernel)) (by decide +kernel)
theorem k_952 : (.instanceMethod yX9_gained : Cond) ∈ tb := tb_in (List.mem_of_getElem? (i := 952) (by decide +kernel)) (by decide +kernel)
theorem k_953 : (.selects RX9 yX9_gained yX9_gained : Cond) ∈ tb := tb_in (List.mem_of_getElem? (i := 953) (by decide +kernel)) (by decide +kernel)
theorem k_1785 : (.code yX10_gained cX10_gained 4 (some .int) : Cond) ∈ tb := tb_in (List.mem_of_getElem? (i := 1785) (by decide +kernel)) (by decide +kernel)
theorem k_1782 : (.methodLink RL 80 yX10_gained : Cond) ∈ tb := tb_in (List.mem_of_getElem? (i := 1782) (by decide +kernel)) (by decide +kernel)
theorem k_1783 : (.instanceMethod yX10_gained : Cond) ∈ tb := tb_in (List.mem_of_getElem? (i := 1783) (by decide +kernel)) (by decide +kernel)
theorem k_1784 : (.selects RX10 yX10_gained yX10_gained : Cond) ∈ tb := tb_in (List.mem_of_getElem? (i := 1784) (by decide +kernel)) (by decide +kernel)
theorem k_958 : (.code yX9_provided cX9_provided 2 (some .int) : Cond) ∈ tb := tb_in (List.mem_of_getElem? (i := 958) (by decide +kernel)) (by decide +kernel)
theorem k_955 : (.methodLink RL 81 yX9_provided : Cond) ∈ tb := tb_in (List.mem_of_getElem? (i := 955) (by decide +kernel)) (by decide +kernel)
theorem k_956 : (.instanceMethod yX9_provided : Cond) ∈ tb := tb_in (List.mem_of_getElem? (i := 956) (by decide +kernel)) (by decide +kernel)
theorem k_957 : (.selects RX9 yX9_provided yX9_provided : Cond) ∈ tb := tb_in (List.mem_of_getElem? (i := 957) (by decide +kernel)) (by decide +kernel)
theorem k_1789 : (.code yX10_provided cX10_provided 4 (some .int) : Cond) ∈ tb := tb_in (List.mem_of_getElem? (i := 1789) (by decide +kernel)) (by decide +kernel)
theorem k_1786 : (.methodLink RL 84 yX10_provided : Cond) ∈ tb := tb_in (List.mem_of_getElem? (i := 1786) (by decide +kernel)) (by decide +kernel)
theorem k_1787 : (.instanceMethod yX10_provided : Cond) ∈ tb := tb_in (List.mem_of_getElem? (i := 1787) (by decide +kernel)) (by decide +kernel)
theorem k_1788 : (.selects RX10 yX10_provided yX10_provided : Cond) ∈ tb := tb_in (List.mem_of_getElem? (i := 1788) (by decide +kernel)) (by decide +kernel)
theorem k_962 : (.code yX9_history cX9_history 3 (some .int) : Cond) ∈ tb := tb_in (List.mem_of_getElem? (i := 962) (by decide +kernel)) (by decide +kernel)
theorem k_959 : (.methodLink RL 85 yX9_history : Cond) ∈ tb := tb_in (List.mem_of_getElem? (i := 959) (by decide +kernel)) (by decide +kernel)
theorem k_960 : (.instanceMethod yX9_history : Cond) ∈ tb := tb_in (List.mem_of_getElem? (i := 960) (by decide +kernel)) (by decide +kernel)
theorem k_961 : (.selects RX9 yX9_history yX9_history : Cond) ∈ tb := tb_in (List.mem_of_getElem? (i := 961) (by decide +kernel)) (by decide +kernel)
theorem k_1793 : (.code yX10_history cX10_history 3 (some .int) : Cond) ∈ tb := tb_in (List.mem_of_getElem? (i := 1793) (by decide +kernel)) (by decide +kernel)
theorem k_1790 : (.methodLink RL 88 yX10_history : Cond) ∈ tb := tb_in (List.mem_of_getElem? (i := 1790) (by decide +kernel)) (by decide +kernel)
theorem k_1791 : (.instanceMethod yX10_history : Cond) ∈ tb := tb_in (List.mem_of_getElem? (i := 1791) (by decide +kernel)) (by decide +kernel)
theorem k_1792 : (.selects RX10 yX10_history yX10_history : Cond) ∈ tb := tb_in (List.mem_of_getElem? (i := 1792) (by decide +kernel)) (by decide +kernel)
theorem k_973 : (.code yX9_fold cX9_fold 4 (some .int) : Cond) ∈ tb := tb_in (List.mem_of_getElem? (i := 973) (by decide +kernel)) (by decide +kernel)
theorem k_970 : (.methodLink RL 89 yX9_fold : Cond) ∈ tb := tb_in (List.mem_of_getElem? (i := 970) (by decide +kernel)) (by decide +kernel)
theorem k_971 : (.instanceMethod yX9_fold : Cond) ∈ tb := tb_in (List.mem_of_getElem? (i := 971) (by decide +kernel)) (by decide +kernel)
theorem k_972 : (.selects RX9 yX9_fold yX9_fold : Cond) ∈ tb := tb_in (List.mem_of_getElem? (i := 972) (by decide +kernel)) (by decide +kernel)
theorem k_1802 : (.code yX10_fold cX10_fold 4 (some .int) : Cond) ∈ tb := tb_in (List.mem_of_getElem? (i := 1802) (by decide +kernel)) (by decide +kernel)
theorem k_1799 : (.methodLink RL 93 yX10_fold : Cond) ∈ tb := tb_in (List.mem_of_getElem? (i := 1799) (by decide +kernel)) (by decide +kernel)
theorem k_1800 : (.instanceMethod yX10_fold : Cond) ∈ tb := tb_in (List.mem_of_getElem? (i := 1800) (by decide +kernel)) (by decide +kernel)
theorem k_1801 : (.selects RX10 yX10_fold yX10_fold : Cond) ∈ tb := tb_in (List.mem_of_getElem? (i := 1801) (by decide +kernel)) (by decide +kernel)
theorem k_980 : (.code yX9_index cX9_index 4 (some .int) : Cond) ∈ tb := tb_in (List.mem_of_getElem? (i := 980) (by decide +kernel)) (by decide +kernel)
theorem k_977 : (.methodLink RL 94 yX9_index : Cond) ∈ tb := tb_in (List.mem_of_getElem? (i := 977) (by decide +kernel)) (by decide +kernel)
theorem k_978 : (.instanceMethod yX9_index : Cond) ∈ tb := tb_in (List.mem_of_getElem? (i := 978) (by decide +kernel)) (by decide +kernel)
theorem k_979 : (.selects RX9 yX9_index yX9_index : Cond) ∈ tb := tb_in (List.mem_of_getElem? (i := 979) (by decide +kernel)) (by decide +kernel)
theorem k_1808 : (.code yX10_index cX10_index 4 (some .int) : Cond) ∈ tb := tb_in (List.mem_of_getElem? (i := 1808) (by decide +kernel)) (by decide +kernel)
theorem k_1805 : (.methodLink RL 97 yX10_index : Cond) ∈ tb := tb_in (List.mem_of_getElem? (i := 1805) (by decide +kernel)) (by decide +kernel)
theorem k_1806 : (.instanceMethod yX10_index : Cond) ∈ tb := tb_in (List.mem_of_getElem? (i := 1806) (by decide +kernel)) (by decide +kernel)
theorem k_1807 : (.selects RX10 yX10_index yX10_index : Cond) ∈ tb := tb_in (List.mem_of_getElem? (i := 1807) (by decide +kernel)) (by decide +kernel)
theorem k_989 : (.code yX9_tag cX9_tag 4 (some .int) : Cond) ∈ tb := tb_in (List.mem_of_getElem? (i := 989) (by decide +kernel)) (by decide +kernel)
theorem k_986 : (.methodLink RL 98 yX9_tag : Cond) ∈ tb := tb_in (List.mem_of_getElem? (i := 986) (by decide +kernel)) (by decide +kernel)
theorem k_987 : (.instanceMethod yX9_tag : Cond) ∈ tb := tb_in (List.mem_of_getElem? (i := 987) (by decide +kernel)) (by decide +kernel)
theorem k_988 : (.selects RX9 yX9_tag yX9_tag : Cond) ∈ tb := tb_in (List.mem_of_getElem? (i := 988) (by decide +kernel)) (by decide +kernel)
theorem k_1816 : (.code yX10_tag cX10_tag 4 (some .int) : Cond) ∈ tb := tb_in (List.mem_of_getElem? (i := 1816) (by decide +kernel)) (by decide +kernel)
theorem k_1813 : (.methodLink RL 101 yX10_tag : Cond) ∈ tb := tb_in (List.mem_of_getElem? (i := 1813) (by decide +kernel)) (by decide +kernel)
theorem k_1814 : (.instanceMethod yX10_tag : Cond) ∈ tb := tb_in (List.mem_of_getElem? (i := 1814) (by decide +kernel)) (by decide +kernel)
theorem k_1815 : (.selects RX10 yX10_tag yX10_tag : Cond) ∈ tb := tb_in (List.mem_of_getElem? (i := 1815) (by decide +kernel)) (by decide +kernel)
theorem k_994 : (.code yX9_provider cX9_provider 3 (some .int) : Cond) ∈ tb := tb_in (List.mem_of_getElem? (i := 994) (by decide +kernel)) (by decide +kernel)
theorem k_991 : (.methodLink RL 102 yX9_provider : Cond) ∈ tb := tb_in (List.mem_of_getElem? (i := 991) (by decide +kernel)) (by decide +kernel)
theorem k_992 : (.instanceMethod yX9_provider : Cond) ∈ tb := tb_in (List.mem_of_getElem? (i := 992) (by decide +kernel)) (by decide +kernel)
theorem k_993 : (.selects RX9 yX9_provider yX9_provider : Cond) ∈ tb := tb_in (List.mem_of_getElem? (i := 993) (by decide +kernel)) (by decide +kernel)
theorem k_1820 : (.code yX10_provider cX10_provider 3 (some .int) : Cond) ∈ tb := tb_in (List.mem_of_getElem? (i := 1820) (by decide +kernel)) (by decide +kernel)
theorem k_1817 : (.methodLink RL 105 yX10_provider : Cond) ∈ tb := tb_in (List.mem_of_getElem? (i := 1817) (by decide +kernel)) (by decide +kernel)
theorem k_1818 : (.instanceMethod yX10_provider : Cond) ∈ tb := tb_in (List.mem_of_getElem? (i := 1818) (by decide +kernel)) (by decide +kernel)
theorem k_1819 : (.selects RX10 yX10_provider yX10_provider : Cond) ∈ tb := tb_in (List.mem_of_getElem? (i := 1819) (by decide +kernel)) (by decide +kernel)
theorem k_1002 : (.code yX9_alternate cX9_alternate 3 (some .int) : Cond) ∈ tb := tb_in (List.mem_of_getElem? (i := 1002) (by decide +kernel)) (by decide +kernel)
theorem k_999 : (.methodLink RL 106 yX9_alternate : Cond) ∈ tb := tb_in (List.mem_of_getElem? (i := 999) (by decide +kernel)) (by decide +kernel)
theorem k_1000 : (.instanceMethod yX9_alternate : Cond) ∈ tb := tb_in (List.mem_of_getElem? (i := 1000) (by decide +kernel)) (by decide +kernel)
theorem k_1001 : (.selects RX9 yX9_alternate yX9_alternate : Cond) ∈ tb := tb_in (List.mem_of_getElem? (i := 1001) (by decide +kernel)) (by decide +kernel)
theorem k_1828 : (.code yX10_alternate cX10_alternate 3 (some .int) : Cond) ∈ tb := tb_in (List.mem_of_getElem? (i := 1828) (by decide +kernel)) (by decide +kernel)
theorem k_1825 : (.methodLink RL 109 yX10_alternate : Cond) ∈ tb := tb_in (List.mem_of_getElem? (i := 1825) (by decide +kernel)) (by decide +kernel)
theorem k_1826 : (.instanceMethod yX10_alternate : Cond) ∈ tb := tb_in (List.mem_of_getElem? (i := 1826) (by decide +kernel)) (by decide +kernel)
theorem k_1827 : (.selects RX10 yX10_alternate yX10_alternate : Cond) ∈ tb := tb_in (List.mem_of_getElem? (i := 1827) (by decide +kernel)) (by decide +kernel)
theorem k_1006 : (.code yX9_guess cX9_guess 3 (some .int) : Cond) ∈ tb := tb_in (List.mem_of_getElem? (i := 1006) (by decide +kernel)) (by decide +kernel)
theorem k_1003 : (.methodLink RL 110 yX9_guess : Cond) ∈ tb := tb_in (List.mem_of_getElem? (i := 1003) (by decide +kernel)) (by decide +kernel)
theorem k_1004 : (.instanceMethod yX9_guess : Cond) ∈ tb := tb_in (List.mem_of_getElem? (i := 1004) (by decide +kernel)) (by decide +kernel)
theorem k_1005 : (.selects RX9 yX9_guess yX9_guess : Cond) ∈ tb := tb_in (List.mem_of_getElem? (i := 1005) (by decide +kernel)) (by decide +kernel)
theorem k_1832 : (.code yX10_guess cX10_guess 3 (some .int) : Cond) ∈ tb := tb_in (List.mem_of_getElem? (i := 1832) (by decide +kernel)) (by decide +kernel)
theorem k_1829 : (.methodLink RL 113 yX10_guess : Cond) ∈ tb := tb_in (List.mem_of_getElem? (i := 1829) (by decide +kernel)) (by decide +kernel)
theorem k_1830 : (.instanceMethod yX10_guess : Cond) ∈ tb := tb_in (List.mem_of_getElem? (i := 1830) (by decide +kernel)) (by decide +kernel)
theorem k_1831 : (.selects RX10 yX10_guess yX10_guess : Cond) ∈ tb := tb_in (List.mem_of_getElem? (i := 1831) (by decide +kernel)) (by decide +kernel)
theorem k_1010 : (.code yX9_adds cX9_adds 3 (some .int) : Cond) ∈ tb := tb_in (List.mem_of_getElem? (i := 1010) (by decide +kernel)) (by decide +kernel)
theorem k_1007 : (.methodLink RL 114 yX9_adds : Cond) ∈ tb := tb_in (List.mem_of_getElem? (i := 1007) (by decide +kernel)) (by decide +kernel)
theorem k_1008 : (.instanceMethod yX9_adds : Cond) ∈ tb := tb_in (List.mem_of_getElem? (i := 1008) (by decide +kernel)) (by decide +kernel)
theorem k_1009 : (.selects RX9 yX9_adds yX9_adds : Cond) ∈ tb := tb_in (List.mem_of_getElem? (i := 1009) (by decide +kernel)) (by decide +kernel)
theorem k_1836 : (.code yX10_adds cX10_adds 3 (some .int) : Cond) ∈ tb := tb_in (List.mem_of_getElem? (i := 1836) (by decide +kernel)) (by decide +kernel)
theorem k_1833 : (.methodLink RL 117 yX10_adds : Cond) ∈ tb := tb_in (List.mem_of_getElem? (i := 1833) (by decide +kernel)) (by decide +kernel)
theorem k_1834 : (.instanceMethod yX10_adds : Cond) ∈ tb := tb_in (List.mem_of_getElem? (i := 1834) (by decide +kernel)) (by decide +kernel)
theorem k_1835 : (.selects RX10 yX10_adds yX10_adds : Cond) ∈ tb := tb_in (List.mem_of_getElem? (i := 1835) (by decide +kernel)) (by decide +kernel)
theorem k_1014 : (.code yX9_entry cX9_entry 6 (some .int) : Cond) ∈ tb := tb_in (List.mem_of_getElem? (i := 1014) (by decide +kernel)) (by decide +kernel)
theorem k_1011 : (.methodLink RL 118 yX9_entry : Cond) ∈ tb := tb_in (List.mem_of_getElem? (i := 1011) (by decide +kernel)) (by decide +kernel)
theorem k_1012 : (.instanceMethod yX9_entry : Cond) ∈ tb := tb_in (List.mem_of_getElem? (i := 1012) (by decide +kernel)) (by decide +kernel)
theorem k_1013 : (.selects RX9 yX9_entry yX9_entry : Cond) ∈ tb := tb_in (List.mem_of_getElem? (i := 1013) (by decide +kernel)) (by decide +kernel)
theorem k_1840 : (.code yX10_entry cX10_entry 6 (some .int) : Cond) ∈ tb := tb_in (List.mem_of_getElem? (i := 1840) (by decide +kernel)) (by decide +kernel)
theorem k_1837 : (.methodLink RL 122 yX10_entry : Cond) ∈ tb := tb_in (List.mem_of_getElem? (i := 1837) (by decide +kernel)) (by decide +kernel)
theorem k_1838 : (.instanceMethod yX10_entry : Cond) ∈ tb := tb_in (List.mem_of_getElem? (i := 1838) (by decide +kernel)) (by decide +kernel)
theorem k_1839 : (.selects RX10 yX10_entry yX10_entry : Cond) ∈ tb := tb_in (List.mem_of_getElem? (i := 1839) (by decide +kernel)) (by decide +kernel)
theorem k_1018 : (.code yX9_held cX9_held 3 (some .int) : Cond) ∈ tb := tb_in (List.mem_of_getElem? (i := 1018) (by decide +kernel)) (by decide +kernel)
theorem k_1015 : (.methodLink RL 123 yX9_held : Cond) ∈ tb := tb_in (List.mem_of_getElem? (i := 1015) (by decide +kernel)) (by decide +kernel)
theorem k_1016 : (.instanceMethod yX9_held : Cond) ∈ tb := tb_in (List.mem_of_getElem? (i := 1016) (by decide +kernel)) (by decide +kernel)
theorem k_1017 : (.selects RX9 yX9_held yX9_held : Cond) ∈ tb := tb_in (List.mem_of_getElem? (i := 1017) (by decide +kernel)) (by decide +kernel)
theorem k_1844 : (.code yX10_held cX10_held 5 (some .int) : Cond) ∈ tb := tb_in (List.mem_of_getElem? (i := 1844) (by decide +kernel)) (by decide +kernel)
theorem k_1841 : (.methodLink RL 126 yX10_held : Cond) ∈ tb := tb_in (List.mem_of_getElem? (i := 1841) (by decide +kernel)) (by decide +kernel)
theorem k_1842 : (.instanceMethod yX10_held : Cond) ∈ tb := tb_in (List.mem_of_getElem? (i := 1842) (by decide +kernel)) (by decide +kernel)
theorem k_1843 : (.selects RX10 yX10_held yX10_held : Cond) ∈ tb := tb_in (List.mem_of_getElem? (i := 1843) (by decide +kernel)) (by decide +kernel)
theorem k_1026 : (.code yX9_base cX9_base 3 (some .int) : Cond) ∈ tb := tb_in (List.mem_of_getElem? (i := 1026) (by decide +kernel)) (by decide +kernel)
theorem k_1023 : (.methodLink RL 127 yX9_base : Cond) ∈ tb := tb_in (List.mem_of_getElem? (i := 1023) (by decide +kernel)) (by decide +kernel)
theorem k_1024 : (.instanceMethod yX9_base : Cond) ∈ tb := tb_in (List.mem_of_getElem? (i := 1024) (by decide +kernel)) (by decide +kernel)
theorem k_1025 : (.selects RX9 yX9_base yX9_base : Cond) ∈ tb := tb_in (List.mem_of_getElem? (i := 1025) (by decide +kernel)) (by decide +kernel)
theorem k_1848 : (.code yX10_base cX10_base 3 (some .int) : Cond) ∈ tb := tb_in (List.mem_of_getElem? (i := 1848) (by decide +kernel)) (by decide +kernel)
theorem k_1845 : (.methodLink RL 130 yX10_base : Cond) ∈ tb := tb_in (List.mem_of_getElem? (i := 1845) (by decide +kernel)) (by decide +kernel)
theorem k_1846 : (.instanceMethod yX10_base : Cond) ∈ tb := tb_in (List.mem_of_getElem? (i := 1846) (by decide +kernel)) (by decide +kernel)
theorem k_1847 : (.selects RX10 yX10_base yX10_base : Cond) ∈ tb := tb_in (List.mem_of_getElem? (i := 1847) (by decide +kernel)) (by decide +kernel)
theorem k_1031 : (.code yX9_gauge cX9_gauge 3 (some .int) : Cond) ∈ tb := tb_in (List.mem_of_getElem? (i := 1031) (by decide +kernel)) (by decide +kernel)
theorem k_1028 : (.methodLink RL 131 yX9_gauge : Cond) ∈ tb := tb_in (List.mem_of_getElem? (i := 1028) (by decide +kernel)) (by decide +kernel)
theorem k_1029 : (.instanceMethod yX9_gauge : Cond) ∈ tb := tb_in (List.mem_of_getElem? (i := 1029) (by decide +kernel)) (by decide +kernel)
theorem k_1030 : (.selects RX9 yX9_gauge yX9_gauge : Cond) ∈ tb := tb_in (List.mem_of_getElem? (i := 1030) (by decide +kernel)) (by decide +kernel)
theorem k_1852 : (.code yX10_gauge cX10_gauge 3 (some .int) : Cond) ∈ tb := tb_in (List.mem_of_getElem? (i := 1852) (by decide +kernel)) (by decide +kernel)
theorem k_1849 : (.methodLink RL 134 yX10_gauge : Cond) ∈ tb := tb_in (List.mem_of_getElem? (i := 1849) (by decide +kernel)) (by decide +kernel)
theorem k_1850 : (.instanceMethod yX10_gauge : Cond) ∈ tb := tb_in (List.mem_of_getElem? (i := 1850) (by decide +kernel)) (by decide +kernel)
theorem k_1851 : (.selects RX10 yX10_gauge yX10_gauge : Cond) ∈ tb := tb_in (List.mem_of_getElem? (i := 1851) (by decide +kernel)) (by decide +kernel)
theorem k_1035 : (.code yX9_loop cX9_loop 4 (some .int) : Cond) ∈ tb := tb_in (List.mem_of_getElem? (i := 1035) (by decide +kernel)) (by decide +kernel)
theorem k_1032 : (.methodLink RL 135 yX9_loop : Cond) ∈ tb := tb_in (List.mem_of_getElem? (i := 1032) (by decide +kernel)) (by decide +kernel)
theorem k_1033 : (.instanceMethod yX9_loop : Cond) ∈ tb := tb_in (List.mem_of_getElem? (i := 1033) (by decide +kernel)) (by decide +kernel)
theorem k_1034 : (.selects RX9 yX9_loop yX9_loop : Cond) ∈ tb := tb_in (List.mem_of_getElem? (i := 1034) (by decide +kernel)) (by decide +kernel)
theorem k_1856 : (.code yX10_loop cX10_loop 4 (some .int) : Cond) ∈ tb := tb_in (List.mem_of_getElem? (i := 1856) (by decide +kernel)) (by decide +kernel)
theorem k_1853 : (.methodLink RL 138 yX10_loop : Cond) ∈ tb := tb_in (List.mem_of_getElem? (i := 1853) (by decide +kernel)) (by decide +kernel)
theorem k_1854 : (.instanceMethod yX10_loop : Cond) ∈ tb := tb_in (List.mem_of_getElem? (i := 1854) (by decide +kernel)) (by decide +kernel)
theorem k_1855 : (.selects RX10 yX10_loop yX10_loop : Cond) ∈ tb := tb_in (List.mem_of_getElem? (i := 1855) (by decide +kernel)) (by decide +kernel)
theorem k_1040 : (.code yX9_corrector cX9_corrector 4 (some .int) : Cond) ∈ tb := tb_in (List.mem_of_getElem? (i := 1040) (by decide +kernel)) (by decide +kernel)
theorem k_1037 : (.methodLink RL 139 yX9_corrector : Cond) ∈ tb := tb_in (List.mem_of_getElem? (i := 1037) (by decide +kernel)) (by decide +kernel)
theorem k_1038 : (.instanceMethod yX9_corrector : Cond) ∈ tb := tb_in (List.mem_of_getElem? (i := 1038) (by decide +kernel)) (by decide +kernel)
theorem k_1039 : (.selects RX9 yX9_corrector yX9_corrector : Cond) ∈ tb := tb_in (List.mem_of_getElem? (i := 1039) (by decide +kernel)) (by decide +kernel)
theorem k_1860 : (.code yX10_corrector cX10_corrector 4 (some .int) : Cond) ∈ tb := tb_in (List.mem_of_getElem? (i := 1860) (by decide +kernel)) (by decide +kernel)
theorem k_1857 : (.methodLink RL 142 yX10_corrector : Cond) ∈ tb := tb_in (List.mem_of_getElem? (i := 1857) (by decide +kernel)) (by decide +kernel)
theorem k_1858 : (.instanceMethod yX10_corrector : Cond) ∈ tb := tb_in (List.mem_of_getElem? (i := 1858) (by decide +kernel)) (by decide +kernel)
theorem k_1859 : (.selects RX10 yX10_corrector yX10_corrector : Cond) ∈ tb := tb_in (List.mem_of_getElem? (i := 1859) (by decide +kernel)) (by decide +kernel)
theorem k_1044 : (.code yX9_clash cX9_clash 6 (some .int) : Cond) ∈ tb := tb_in (List.mem_of_getElem? (i := 1044) (by decide +kernel)) (by decide +kernel)
theorem k_1041 : (.methodLink RL 143 yX9_clash : Cond) ∈ tb := tb_in (List.mem_of_getElem? (i := 1041) (by decide +kernel)) (by decide +kernel)
theorem k_1042 : (.instanceMethod yX9_clash : Cond) ∈ tb := tb_in (List.mem_of_getElem? (i := 1042) (by decide +kernel)) (by decide +kernel)
theorem k_1043 : (.selects RX9 yX9_clash yX9_clash : Cond) ∈ tb := tb_in (List.mem_of_getElem? (i := 1043) (by decide +kernel)) (by decide +kernel)
theorem k_1864 : (.code yX10_clash cX10_clash 6 (some .int) : Cond) ∈ tb := tb_in (List.mem_of_getElem? (i := 1864) (by decide +kernel)) (by decide +kernel)
theorem k_1861 : (.methodLink RL 146 yX10_clash : Cond) ∈ tb := tb_in (List.mem_of_getElem? (i := 1861) (by decide +kernel)) (by decide +kernel)
theorem k_1862 : (.instanceMethod yX10_clash : Cond) ∈ tb := tb_in (List.mem_of_getElem? (i := 1862) (by decide +kernel)) (by decide +kernel)
theorem k_1863 : (.selects RX10 yX10_clash yX10_clash : Cond) ∈ tb := tb_in (List.mem_of_getElem? (i := 1863) (by decide +kernel)) (by decide +kernel)
theorem k_1048 : (.code yX9_strays cX9_strays 2 (some .int) : Cond) ∈ tb := tb_in (List.mem_of_getElem? (i := 1048) (by decide +kernel)) (by decide +kernel)
theorem k_1045 : (.methodLink RL 147 yX9_strays : Cond) ∈ tb := tb_in (List.mem_of_getElem? (i := 1045) (by decide +kernel)) (by decide +kernel)
theorem k_1046 : (.instanceMethod yX9_strays : Cond) ∈ tb := tb_in (List.mem_of_getElem? (i := 1046) (by decide +kernel)) (by decide +kernel)
theorem k_1047 : (.selects RX9 yX9_strays yX9_strays : Cond) ∈ tb := tb_in (List.mem_of_getElem? (i := 1047) (by decide +kernel)) (by decide +kernel)
theorem k_1868 : (.code yX10_strays cX10_strays 2 (some .int) : Cond) ∈ tb := tb_in (List.mem_of_getElem? (i := 1868) (by decide +kernel)) (by decide +kernel)
theorem k_1865 : (.methodLink RL 150 yX10_strays : Cond) ∈ tb := tb_in (List.mem_of_getElem? (i := 1865) (by decide +kernel)) (by decide +kernel)
theorem k_1866 : (.instanceMethod yX10_strays : Cond) ∈ tb := tb_in (List.mem_of_getElem? (i := 1866) (by decide +kernel)) (by decide +kernel)
theorem k_1867 : (.selects RX10 yX10_strays yX10_strays : Cond) ∈ tb := tb_in (List.mem_of_getElem? (i := 1867) (by decide +kernel)) (by decide +kernel)
theorem k_1061 : (.code yX9_stray cX9_stray 3 (some .int) : Cond) ∈ tb := tb_in (List.mem_of_getElem? (i := 1061) (by decide +kernel)) (by decide +kernel)
theorem k_1058 : (.methodLink RL 151 yX9_stray : Cond) ∈ tb := tb_in (List.mem_of_getElem? (i := 1058) (by decide +kernel)) (by decide +kernel)
theorem k_1059 : (.instanceMethod yX9_stray : Cond) ∈ tb := tb_in (List.mem_of_getElem? (i := 1059) (by decide +kernel)) (by decide +kernel)
theorem k_1060 : (.selects RX9 yX9_stray yX9_stray : Cond) ∈ tb := tb_in (List.mem_of_getElem? (i := 1060) (by decide +kernel)) (by decide +kernel)
theorem k_1884 : (.code yX10_stray cX10_stray 3 (some .int) : Cond) ∈ tb := tb_in (List.mem_of_getElem? (i := 1884) (by decide +kernel)) (by decide +kernel)
theorem k_1881 : (.methodLink RL 154 yX10_stray : Cond) ∈ tb := tb_in (List.mem_of_getElem? (i := 1881) (by decide +kernel)) (by decide +kernel)
theorem k_1882 : (.instanceMethod yX10_stray : Cond) ∈ tb := tb_in (List.mem_of_getElem? (i := 1882) (by decide +kernel)) (by decide +kernel)
theorem k_1883 : (.selects RX10 yX10_stray yX10_stray : Cond) ∈ tb := tb_in (List.mem_of_getElem? (i := 1883) (by decide +kernel)) (by decide +kernel)
theorem k_1065 : (.code yX9_cycles cX9_cycles 1 (some .int) : Cond) ∈ tb := tb_in (List.mem_of_getElem? (i := 1065) (by decide +kernel)) (by decide +kernel)
theorem k_1062 : (.methodLink RL 155 yX9_cycles : Cond) ∈ tb := tb_in (List.mem_of_getElem? (i := 1062) (by decide +kernel)) (by decide +kernel)
theorem k_1063 : (.instanceMethod yX9_cycles : Cond) ∈ tb := tb_in (List.mem_of_getElem? (i := 1063) (by decide +kernel)) (by decide +kernel)
theorem k_1064 : (.selects RX9 yX9_cycles yX9_cycles : Cond) ∈ tb := tb_in (List.mem_of_getElem? (i := 1064) (by decide +kernel)) (by decide +kernel)
theorem k_1888 : (.code yX10_cycles cX10_cycles 1 (some .int) : Cond) ∈ tb := tb_in (List.mem_of_getElem? (i := 1888) (by decide +kernel)) (by decide +kernel)
theorem k_1885 : (.methodLink RL 158 yX10_cycles : Cond) ∈ tb := tb_in (List.mem_of_getElem? (i := 1885) (by decide +kernel)) (by decide +kernel)
theorem k_1886 : (.instanceMethod yX10_cycles : Cond) ∈ tb := tb_in (List.mem_of_getElem? (i := 1886) (by decide +kernel)) (by decide +kernel)
theorem k_1887 : (.selects RX10 yX10_cycles yX10_cycles : Cond) ∈ tb := tb_in (List.mem_of_getElem? (i := 1887) (by decide +kernel)) (by decide +kernel)
theorem k_1077 : (.code yX9_cheapest cX9_cheapest 3 (some .int) : Cond) ∈ tb := tb_in (List.mem_of_getElem? (i := 1077) (by decide +kernel)) (by decide +kernel)
theorem k_1074 : (.methodLink RL 159 yX9_cheapest : Cond) ∈ tb := tb_in (List.mem_of_getElem? (i := 1074) (by decide +kernel)) (by decide +kernel)
theorem k_1075 : (.instanceMethod yX9_cheapest : Cond) ∈ tb := tb_in (List.mem_of_getElem? (i := 1075) (by decide +kernel)) (by decide +kernel)
theorem k_1076 : (.selects RX9 yX9_cheapest yX9_cheapest : Cond) ∈ tb := tb_in (List.mem_of_getElem? (i := 1076) (by decide +kernel)) (by decide +kernel)
theorem k_1896 : (.code yX10_cheapest cX10_cheapest 3 (some .int) : Cond) ∈ tb := tb_in (List.mem_of_getElem? (i := 1896) (by decide +kernel)) (by decide +kernel)
theorem k_1893 : (.methodLink RL 162 yX10_cheapest : Cond) ∈ tb := tb_in (List.mem_of_getElem? (i := 1893) (by decide +kernel)) (by decide +kernel)
theorem k_1894 : (.instanceMethod yX10_cheapest : Cond) ∈ tb := tb_in (List.mem_of_getElem? (i := 1894) (by decide +kernel)) (by decide +kernel)
theorem k_1895 : (.selects RX10 yX10_cheapest yX10_cheapest : Cond) ∈ tb := tb_in (List.mem_of_getElem? (i := 1895) (by decide +kernel)) (by decide +kernel)
theorem k_1081 : (.code yX9_by cX9_by 2 (some .int) : Cond) ∈ tb := tb_in (List.mem_of_getElem? (i := 1081) (by decide +kernel)) (by decide +kernel)
theorem k_1078 : (.methodLink RL 163 yX9_by : Cond) ∈ tb := tb_in (List.mem_of_getElem? (i := 1078) (by decide +kernel)) (by decide +kernel)
theorem k_1079 : (.instanceMethod yX9_by : Cond) ∈ tb := tb_in (List.mem_of_getElem? (i := 1079) (by decide +kernel)) (by decide +kernel)
theorem k_1080 : (.selects RX9 yX9_by yX9_by : Cond) ∈ tb := tb_in (List.mem_of_getElem? (i := 1080) (by decide +kernel)) (by decide +kernel)
theorem k_1904 : (.code yX10_by cX10_by 2 (some .int) : Cond) ∈ tb := tb_in (List.mem_of_getElem? (i := 1904) (by decide +kernel)) (by decide +kernel)
theorem k_1901 : (.methodLink RL 166 yX10_by : Cond) ∈ tb := tb_in (List.mem_of_getElem? (i := 1901) (by decide +kernel)) (by decide +kernel)
theorem k_1902 : (.instanceMethod yX10_by : Cond) ∈ tb := tb_in (List.mem_of_getElem? (i := 1902) (by decide +kernel)) (by decide +kernel)
theorem k_1903 : (.selects RX10 yX10_by yX10_by : Cond) ∈ tb := tb_in (List.mem_of_getElem? (i := 1903) (by decide +kernel)) (by decide +kernel)
theorem k_1089 : (.code yX9_ideal cX9_ideal 5 (some .int) : Cond) ∈ tb := tb_in (List.mem_of_getElem? (i := 1089) (by decide +kernel)) (by decide +kernel)
theorem k_1086 : (.methodLink RL 167 yX9_ideal : Cond) ∈ tb := tb_in (List.mem_of_getElem? (i := 1086) (by decide +kernel)) (by decide +kernel)
theorem k_1087 : (.instanceMethod yX9_ideal : Cond) ∈ tb := tb_in (List.mem_of_getElem? (i := 1087) (by decide +kernel)) (by decide +kernel)
theorem k_1088 : (.selects RX9 yX9_ideal yX9_ideal : Cond) ∈ tb := tb_in (List.mem_of_getElem? (i := 1088) (by decide +kernel)) (by decide +kernel)
theorem k_1912 : (.code yX10_ideal cX10_ideal 5 (some .int) : Cond) ∈ tb := tb_in (List.mem_of_getElem? (i := 1912) (by decide +kernel)) (by decide +kernel)
theorem k_1909 : (.methodLink RL 170 yX10_ideal : Cond) ∈ tb := tb_in (List.mem_of_getElem? (i := 1909) (by decide +kernel)) (by decide +kernel)
theorem k_1910 : (.instanceMethod yX10_ideal : Cond) ∈ tb := tb_in (List.mem_of_getElem? (i := 1910) (by decide +kernel)) (by decide +kernel)
theorem k_1911 : (.selects RX10 yX10_ideal yX10_ideal : Cond) ∈ tb := tb_in (List.mem_of_getElem? (i := 1911) (by decide +kernel)) (by decide +kernel)
theorem k_1093 : (.code yX9_without cX9_without 2 (some .int) : Cond) ∈ tb := tb_in (List.mem_of_getElem? (i := 1093) (by decide +kernel)) (by decide +kernel)
theorem k_1090 : (.methodLink RL 171 yX9_without : Cond) ∈ tb := tb_in (List.mem_of_getElem? (i := 1090) (by decide +kernel)) (by decide +kernel)
theorem k_1091 : (.instanceMethod yX9_without : Cond) ∈ tb := tb_in (List.mem_of_getElem? (i := 1091) (by decide +kernel)) (by decide +kernel)
theorem k_1092 : (.selects RX9 yX9_without yX9_without : Cond) ∈ tb := tb_in (List.mem_of_getElem? (i := 1092) (by decide +kernel)) (by decide +kernel)
theorem k_1916 : (.code yX10_without cX10_without 2 (some .int) : Cond) ∈ tb := tb_in (List.mem_of_getElem? (i := 1916) (by decide +kernel)) (by decide +kernel)
theorem k_1913 : (.methodLink RL 174 yX10_without : Cond) ∈ tb := tb_in (List.mem_of_getElem? (i := 1913) (by decide +kernel)) (by decide +kernel)
theorem k_1914 : (.instanceMethod yX10_without : Cond) ∈ tb := tb_in (List.mem_of_getElem? (i := 1914) (by decide +kernel)) (by decide +kernel)
theorem k_1915 : (.selects RX10 yX10_without yX10_without : Cond) ∈ tb := tb_in (List.mem_of_getElem? (i := 1915) (by decide +kernel)) (by decide +kernel)
theorem k_1101 : (.code yX9_spare cX9_spare 5 (some .int) : Cond) ∈ tb := tb_in (List.mem_of_getElem? (i := 1101) (by decide +kernel)) (by decide +kernel)
theorem k_1098 : (.methodLink RL 175 yX9_spare : Cond) ∈ tb := tb_in (List.mem_of_getElem? (i := 1098) (by decide +kernel)) (by decide +kernel)
theorem k_1099 : (.instanceMethod yX9_spare : Cond) ∈ tb := tb_in (List.mem_of_getElem? (i := 1099) (by decide +kernel)) (by decide +kernel)
theorem k_1100 : (.selects RX9 yX9_spare yX9_spare : Cond) ∈ tb := tb_in (List.mem_of_getElem? (i := 1100) (by decide +kernel)) (by decide +kernel)
theorem k_1924 : (.code yX10_spare cX10_spare 5 (some .int) : Cond) ∈ tb := tb_in (List.mem_of_getElem? (i := 1924) (by decide +kernel)) (by decide +kernel)
theorem k_1921 : (.methodLink RL 178 yX10_spare : Cond) ∈ tb := tb_in (List.mem_of_getElem? (i := 1921) (by decide +kernel)) (by decide +kernel)
theorem k_1922 : (.instanceMethod yX10_spare : Cond) ∈ tb := tb_in (List.mem_of_getElem? (i := 1922) (by decide +kernel)) (by decide +kernel)
theorem k_1923 : (.selects RX10 yX10_spare yX10_spare : Cond) ∈ tb := tb_in (List.mem_of_getElem? (i := 1923) (by decide +kernel)) (by decide +kernel)
theorem k_1105 : (.code yX9_spanned cX9_spanned 3 (some .int) : Cond) ∈ tb := tb_in (List.mem_of_getElem? (i := 1105) (by decide +kernel)) (by decide +kernel)
theorem k_1102 : (.methodLink RL 179 yX9_spanned : Cond) ∈ tb := tb_in (List.mem_of_getElem? (i := 1102) (by decide +kernel)) (by decide +kernel)
theorem k_1103 : (.instanceMethod yX9_spanned : Cond) ∈ tb := tb_in (List.mem_of_getElem? (i := 1103) (by decide +kernel)) (by decide +kernel)
theorem k_1104 : (.selects RX9 yX9_spanned yX9_spanned : Cond) ∈ tb := tb_in (List.mem_of_getElem? (i := 1104) (by decide +kernel)) (by decide +kernel)
theorem k_1928 : (.code yX10_spanned cX10_spanned 3 (some .int) : Cond) ∈ tb := tb_in (List.mem_of_getElem? (i := 1928) (by decide +kernel)) (by decide +kernel)
theorem k_1925 : (.methodLink RL 182 yX10_spanned : Cond) ∈ tb := tb_in (List.mem_of_getElem? (i := 1925) (by decide +kernel)) (by decide +kernel)
theorem k_1926 : (.instanceMethod yX10_spanned : Cond) ∈ tb := tb_in (List.mem_of_getElem? (i := 1926) (by decide +kernel)) (by decide +kernel)
theorem k_1927 : (.selects RX10 yX10_spanned yX10_spanned : Cond) ∈ tb := tb_in (List.mem_of_getElem? (i := 1927) (by decide +kernel)) (by decide +kernel)
theorem k_1121 : (.code yX9_span cX9_span 6 (some .int) : Cond) ∈ tb := tb_in (List.mem_of_getElem? (i := 1121) (by decide +kernel)) (by decide +kernel)
theorem k_1118 : (.methodLink RL 183 yX9_span : Cond) ∈ tb := tb_in (List.mem_of_getElem? (i := 1118) (by decide +kernel)) (by decide +kernel)
theorem k_1119 : (.instanceMethod yX9_span : Cond) ∈ tb := tb_in (List.mem_of_getElem? (i := 1119) (by decide +kernel)) (by decide +kernel)
theorem k_1120 : (.selects RX9 yX9_span yX9_span : Cond) ∈ tb := tb_in (List.mem_of_getElem? (i := 1120) (by decide +kernel)) (by decide +kernel)
theorem k_1944 : (.code yX10_span cX10_span 6 (some .int) : Cond) ∈ tb := tb_in (List.mem_of_getElem? (i := 1944) (by decide +kernel)) (by decide +kernel)
theorem k_1941 : (.methodLink RL 186 yX10_span : Cond) ∈ tb := tb_in (List.mem_of_getElem? (i := 1941) (by decide +kernel)) (by decide +kernel)
theorem k_1942 : (.instanceMethod yX10_span : Cond) ∈ tb := tb_in (List.mem_of_getElem? (i := 1942) (by decide +kernel)) (by decide +kernel)
theorem k_1943 : (.selects RX10 yX10_span yX10_span : Cond) ∈ tb := tb_in (List.mem_of_getElem? (i := 1943) (by decide +kernel)) (by decide +kernel)
theorem k_1125 : (.code yX9_round cX9_round 5 (some .int) : Cond) ∈ tb := tb_in (List.mem_of_getElem? (i := 1125) (by decide +kernel)) (by decide +kernel)
theorem k_1122 : (.methodLink RL 187 yX9_round : Cond) ∈ tb := tb_in (List.mem_of_getElem? (i := 1122) (by decide +kernel)) (by decide +kernel)
theorem k_1123 : (.instanceMethod yX9_round : Cond) ∈ tb := tb_in (List.mem_of_getElem? (i := 1123) (by decide +kernel)) (by decide +kernel)
theorem k_1124 : (.selects RX9 yX9_round yX9_round : Cond) ∈ tb := tb_in (List.mem_of_getElem? (i := 1124) (by decide +kernel)) (by decide +kernel)
theorem k_1948 : (.code yX10_round cX10_round 5 (some .int) : Cond) ∈ tb := tb_in (List.mem_of_getElem? (i := 1948) (by decide +kernel)) (by decide +kernel)
theorem k_1945 : (.methodLink RL 190 yX10_round : Cond) ∈ tb := tb_in (List.mem_of_getElem? (i := 1945) (by decide +kernel)) (by decide +kernel)
theorem k_1946 : (.instanceMethod yX10_round : Cond) ∈ tb := tb_in (List.mem_of_getElem? (i := 1946) (by decide +kernel)) (by decide +kernel)
theorem k_1947 : (.selects RX10 yX10_round yX10_round : Cond) ∈ tb := tb_in (List.mem_of_getElem? (i := 1947) (by decide +kernel)) (by decide +kernel)
theorem k_1139 : (.code yX9_learnt cX9_learnt 4 (some .int) : Cond) ∈ tb := tb_in (List.mem_of_getElem? (i := 1139) (by decide +kernel)) (by decide +kernel)
theorem k_1136 : (.methodLink RL 191 yX9_learnt : Cond) ∈ tb := tb_in (List.mem_of_getElem? (i := 1136) (by decide +kernel)) (by decide +kernel)
theorem k_1137 : (.instanceMethod yX9_learnt : Cond) ∈ tb := tb_in (List.mem_of_getElem? (i := 1137) (by decide +kernel)) (by decide +kernel)
theorem k_1138 : (.selects RX9 yX9_learnt yX9_learnt : Cond) ∈ tb := tb_in (List.mem_of_getElem? (i := 1138) (by decide +kernel)) (by decide +kernel)
theorem k_1962 : (.code yX10_learnt cX10_learnt 4 (some .int) : Cond) ∈ tb := tb_in (List.mem_of_getElem? (i := 1962) (by decide +kernel)) (by decide +kernel)
theorem k_1959 : (.methodLink RL 194 yX10_learnt : Cond) ∈ tb := tb_in (List.mem_of_getElem? (i := 1959) (by decide +kernel)) (by decide +kernel)
theorem k_1960 : (.instanceMethod yX10_learnt : Cond) ∈ tb := tb_in (List.mem_of_getElem? (i := 1960) (by decide +kernel)) (by decide +kernel)
theorem k_1961 : (.selects RX10 yX10_learnt yX10_learnt : Cond) ∈ tb := tb_in (List.mem_of_getElem? (i := 1961) (by decide +kernel)) (by decide +kernel)
theorem k_1147 : (.code yX9_learns cX9_learns 5 (some .int) : Cond) ∈ tb := tb_in (List.mem_of_getElem? (i := 1147) (by decide +kernel)) (by decide +kernel)
theorem k_1144 : (.methodLink RL 195 yX9_learns : Cond) ∈ tb := tb_in (List.mem_of_getElem? (i := 1144) (by decide +kernel)) (by decide +kernel)
theorem k_1145 : (.instanceMethod yX9_learns : Cond) ∈ tb := tb_in (List.mem_of_getElem? (i := 1145) (by decide +kernel)) (by decide +kernel)
theorem k_1146 : (.selects RX9 yX9_learns yX9_learns : Cond) ∈ tb := tb_in (List.mem_of_getElem? (i := 1146) (by decide +kernel)) (by decide +kernel)
theorem k_1970 : (.code yX10_learns cX10_learns 5 (some .int) : Cond) ∈ tb := tb_in (List.mem_of_getElem? (i := 1970) (by decide +kernel)) (by decide +kernel)
theorem k_1967 : (.methodLink RL 198 yX10_learns : Cond) ∈ tb := tb_in (List.mem_of_getElem? (i := 1967) (by decide +kernel)) (by decide +kernel)
theorem k_1968 : (.instanceMethod yX10_learns : Cond) ∈ tb := tb_in (List.mem_of_getElem? (i := 1968) (by decide +kernel)) (by decide +kernel)
theorem k_1969 : (.selects RX10 yX10_learns yX10_learns : Cond) ∈ tb := tb_in (List.mem_of_getElem? (i := 1969) (by decide +kernel)) (by decide +kernel)
theorem k_1152 : (.code yX9_trace cX9_trace 5 (some .int) : Cond) ∈ tb := tb_in (List.mem_of_getElem? (i := 1152) (by decide +kernel)) (by decide +kernel)
theorem k_1149 : (.methodLink RL 199 yX9_trace : Cond) ∈ tb := tb_in (List.mem_of_getElem? (i := 1149) (by decide +kernel)) (by decide +kernel)
theorem k_1150 : (.instanceMethod yX9_trace : Cond) ∈ tb := tb_in (List.mem_of_getElem? (i := 1150) (by decide +kernel)) (by decide +kernel)
theorem k_1151 : (.selects RX9 yX9_trace yX9_trace : Cond) ∈ tb := tb_in (List.mem_of_getElem? (i := 1151) (by decide +kernel)) (by decide +kernel)
theorem k_1975 : (.code yX10_trace cX10_trace 5 (some .int) : Cond) ∈ tb := tb_in (List.mem_of_getElem? (i := 1975) (by decide +kernel)) (by decide +kernel)
theorem k_1972 : (.methodLink RL 202 yX10_trace : Cond) ∈ tb := tb_in (List.mem_of_getElem? (i := 1972) (by decide +kernel)) (by decide +kernel)
theorem k_1973 : (.instanceMethod yX10_trace : Cond) ∈ tb := tb_in (List.mem_of_getElem? (i := 1973) (by decide +kernel)) (by decide +kernel)
theorem k_1974 : (.selects RX10 yX10_trace yX10_trace : Cond) ∈ tb := tb_in (List.mem_of_getElem? (i := 1974) (by decide +kernel)) (by decide +kernel)
theorem k_1173 : (.code yX9_like cX9_like 4 (some .int) : Cond) ∈ tb := tb_in (List.mem_of_getElem? (i := 1173) (by decide +kernel)) (by decide +kernel)
theorem k_1170 : (.methodLink RL 203 yX9_like : Cond) ∈ tb := tb_in (List.mem_of_getElem? (i := 1170) (by decide +kernel)) (by decide +kernel)
theorem k_1171 : (.instanceMethod yX9_like : Cond) ∈ tb := tb_in (List.mem_of_getElem? (i := 1171) (by decide +kernel)) (by decide +kernel)
theorem k_1172 : (.selects RX9 yX9_like yX9_like : Cond) ∈ tb := tb_in (List.mem_of_getElem? (i := 1172) (by decide +kernel)) (by decide +kernel)
theorem k_1990 : (.code yX10_like cX10_like 6 (some .int) : Cond) ∈ tb := tb_in (List.mem_of_getElem? (i := 1990) (by decide +kernel)) (by decide +kernel)
theorem k_1987 : (.methodLink RL 206 yX10_like : Cond) ∈ tb := tb_in (List.mem_of_getElem? (i := 1987) (by decide +kernel)) (by decide +kernel)
theorem k_1988 : (.instanceMethod yX10_like : Cond) ∈ tb := tb_in (List.mem_of_getElem? (i := 1988) (by decide +kernel)) (by decide +kernel)
theorem k_1989 : (.selects RX10 yX10_like yX10_like : Cond) ∈ tb := tb_in (List.mem_of_getElem? (i := 1989) (by decide +kernel)) (by decide +kernel)
theorem k_1181 : (.code yX9_meets cX9_meets 4 (some .int) : Cond) ∈ tb := tb_in (List.mem_of_getElem? (i := 1181) (by decide +kernel)) (by decide +kernel)
theorem k_1178 : (.methodLink RL 207 yX9_meets : Cond) ∈ tb := tb_in (List.mem_of_getElem? (i := 1178) (by decide +kernel)) (by decide +kernel)
theorem k_1179 : (.instanceMethod yX9_meets : Cond) ∈ tb := tb_in (List.mem_of_getElem? (i := 1179) (by decide +kernel)) (by decide +kernel)
theorem k_1180 : (.selects RX9 yX9_meets yX9_meets : Cond) ∈ tb := tb_in (List.mem_of_getElem? (i := 1180) (by decide +kernel)) (by decide +kernel)
theorem k_1994 : (.code yX10_meets cX10_meets 3 (some .int) : Cond) ∈ tb := tb_in (List.mem_of_getElem? (i := 1994) (by decide +kernel)) (by decide +kernel)
theorem k_1991 : (.methodLink RL 210 yX10_meets : Cond) ∈ tb := tb_in (List.mem_of_getElem? (i := 1991) (by decide +kernel)) (by decide +kernel)
theorem k_1992 : (.instanceMethod yX10_meets : Cond) ∈ tb := tb_in (List.mem_of_getElem? (i := 1992) (by decide +kernel)) (by decide +kernel)
theorem k_1993 : (.selects RX10 yX10_meets yX10_meets : Cond) ∈ tb := tb_in (List.mem_of_getElem? (i := 1993) (by decide +kernel)) (by decide +kernel)
theorem k_1185 : (.code yX9_undo cX9_undo 1 (some .int) : Cond) ∈ tb := tb_in (List.mem_of_getElem? (i := 1185) (by decide +kernel)) (by decide +kernel)
theorem k_1182 : (.methodLink RL 211 yX9_undo : Cond) ∈ tb := tb_in (List.mem_of_getElem? (i := 1182) (by decide +kernel)) (by decide +kernel)
theorem k_1183 : (.instanceMethod yX9_undo : Cond) ∈ tb := tb_in (List.mem_of_getElem? (i := 1183) (by decide +kernel)) (by decide +kernel)
theorem k_1184 : (.selects RX9 yX9_undo yX9_undo : Cond) ∈ tb := tb_in (List.mem_of_getElem? (i := 1184) (by decide +kernel)) (by decide +kernel)
theorem k_1998 : (.code yX10_undo cX10_undo 1 (some .int) : Cond) ∈ tb := tb_in (List.mem_of_getElem? (i := 1998) (by decide +kernel)) (by decide +kernel)
theorem k_1995 : (.methodLink RL 214 yX10_undo : Cond) ∈ tb := tb_in (List.mem_of_getElem? (i := 1995) (by decide +kernel)) (by decide +kernel)
theorem k_1996 : (.instanceMethod yX10_undo : Cond) ∈ tb := tb_in (List.mem_of_getElem? (i := 1996) (by decide +kernel)) (by decide +kernel)
theorem k_1997 : (.selects RX10 yX10_undo yX10_undo : Cond) ∈ tb := tb_in (List.mem_of_getElem? (i := 1997) (by decide +kernel)) (by decide +kernel)
theorem k_1193 : (.code yX9_anew cX9_anew 2 (some .int) : Cond) ∈ tb := tb_in (List.mem_of_getElem? (i := 1193) (by decide +kernel)) (by decide +kernel)
theorem k_1190 : (.methodLink RL 215 yX9_anew : Cond) ∈ tb := tb_in (List.mem_of_getElem? (i := 1190) (by decide +kernel)) (by decide +kernel)
theorem k_1191 : (.instanceMethod yX9_anew : Cond) ∈ tb := tb_in (List.mem_of_getElem? (i := 1191) (by decide +kernel)) (by decide +kernel)
theorem k_1192 : (.selects RX9 yX9_anew yX9_anew : Cond) ∈ tb := tb_in (List.mem_of_getElem? (i := 1192) (by decide +kernel)) (by decide +kernel)
theorem k_2002 : (.code yX10_anew cX10_anew 2 (some .int) : Cond) ∈ tb := tb_in (List.mem_of_getElem? (i := 2002) (by decide +kernel)) (by decide +kernel)
theorem k_1999 : (.methodLink RL 218 yX10_anew : Cond) ∈ tb := tb_in (List.mem_of_getElem? (i := 1999) (by decide +kernel)) (by decide +kernel)
theorem k_2000 : (.instanceMethod yX10_anew : Cond) ∈ tb := tb_in (List.mem_of_getElem? (i := 2000) (by decide +kernel)) (by decide +kernel)
theorem k_2001 : (.selects RX10 yX10_anew yX10_anew : Cond) ∈ tb := tb_in (List.mem_of_getElem? (i := 2001) (by decide +kernel)) (by decide +kernel)
theorem k_1197 : (.code yX9_count cX9_count 2 (some .int) : Cond) ∈ tb := tb_in (List.mem_of_getElem? (i := 1197) (by decide +kernel)) (by decide +kernel)
theorem k_1194 : (.methodLink RL 219 yX9_count : Cond) ∈ tb := tb_in (List.mem_of_getElem? (i := 1194) (by decide +kernel)) (by decide +kernel)
theorem k_1195 : (.instanceMethod yX9_count : Cond) ∈ tb := tb_in (List.mem_of_getElem? (i := 1195) (by decide +kernel)) (by decide +kernel)
theorem k_1196 : (.selects RX9 yX9_count yX9_count : Cond) ∈ tb := tb_in (List.mem_of_getElem? (i := 1196) (by decide +kernel)) (by decide +kernel)
theorem k_2006 : (.code yX10_count cX10_count 4 (some .int) : Cond) ∈ tb := tb_in (List.mem_of_getElem? (i := 2006) (by decide +kernel)) (by decide +kernel)
theorem k_2003 : (.methodLink RL 222 yX10_count : Cond) ∈ tb := tb_in (List.mem_of_getElem? (i := 2003) (by decide +kernel)) (by decide +kernel)
theorem k_2004 : (.instanceMethod yX10_count : Cond) ∈ tb := tb_in (List.mem_of_getElem? (i := 2004) (by decide +kernel)) (by decide +kernel)
theorem k_2005 : (.selects RX10 yX10_count yX10_count : Cond) ∈ tb := tb_in (List.mem_of_getElem? (i := 2005) (by decide +kernel)) (by decide +kernel)
theorem k_1206 : (.code yX9_image cX9_image 2 (some .int) : Cond) ∈ tb := tb_in (List.mem_of_getElem? (i := 1206) (by decide +kernel)) (by decide +kernel)
theorem k_1203 : (.methodLink RL 223 yX9_image : Cond) ∈ tb := tb_in (List.mem_of_getElem? (i := 1203) (by decide +kernel)) (by decide +kernel)
theorem k_1204 : (.instanceMethod yX9_image : Cond) ∈ tb := tb_in (List.mem_of_getElem? (i := 1204) (by decide +kernel)) (by decide +kernel)
theorem k_1205 : (.selects RX9 yX9_image yX9_image : Cond) ∈ tb := tb_in (List.mem_of_getElem? (i := 1205) (by decide +kernel)) (by decide +kernel)
theorem k_1448 : (.code yX10_image cX10_image 3 (some .int) : Cond) ∈ tb := tb_in (List.mem_of_getElem? (i := 1448) (by decide +kernel)) (by decide +kernel)
theorem k_1445 : (.methodLink RL 226 yX10_image : Cond) ∈ tb := tb_in (List.mem_of_getElem? (i := 1445) (by decide +kernel)) (by decide +kernel)
theorem k_1446 : (.instanceMethod yX10_image : Cond) ∈ tb := tb_in (List.mem_of_getElem? (i := 1446) (by decide +kernel)) (by decide +kernel)
theorem k_1447 : (.selects RX10 yX10_image yX10_image : Cond) ∈ tb := tb_in (List.mem_of_getElem? (i := 1447) (by decide +kernel)) (by decide +kernel)
theorem k_1210 : (.code yX9_back cX9_back 2 (some .int) : Cond) ∈ tb := tb_in (List.mem_of_getElem? (i := 1210) (by decide +kernel)) (by decide +kernel)
theorem k_1207 : (.methodLink RL 227 yX9_back : Cond) ∈ tb := tb_in (List.mem_of_getElem? (i := 1207) (by decide +kernel)) (by decide +kernel)
theorem k_1208 : (.instanceMethod yX9_back : Cond) ∈ tb := tb_in (List.mem_of_getElem? (i := 1208) (by decide +kernel)) (by decide +kernel)
theorem k_1209 : (.selects RX9 yX9_back yX9_back : Cond) ∈ tb := tb_in (List.mem_of_getElem? (i := 1209) (by decide +kernel)) (by decide +kernel)
theorem k_1456 : (.code yX10_back cX10_back 3 (some .int) : Cond) ∈ tb := tb_in (List.mem_of_getElem? (i := 1456) (by decide +kernel)) (by decide +kernel)
theorem k_1453 : (.methodLink RL 230 yX10_back : Cond) ∈ tb := tb_in (List.mem_of_getElem? (i := 1453) (by decide +kernel)) (by decide +kernel)
theorem k_1454 : (.instanceMethod yX10_back : Cond) ∈ tb := tb_in (List.mem_of_getElem? (i := 1454) (by decide +kernel)) (by decide +kernel)
theorem k_1455 : (.selects RX10 yX10_back yX10_back : Cond) ∈ tb := tb_in (List.mem_of_getElem? (i := 1455) (by decide +kernel)) (by decide +kernel)
theorem k_1214 : (.code yX9_row cX9_row 4 (some .int) : Cond) ∈ tb := tb_in (List.mem_of_getElem? (i := 1214) (by decide +kernel)) (by decide +kernel)
theorem k_1211 : (.methodLink RL 231 yX9_row : Cond) ∈ tb := tb_in (List.mem_of_getElem? (i := 1211) (by decide +kernel)) (by decide +kernel)
theorem k_1212 : (.instanceMethod yX9_row : Cond) ∈ tb := tb_in (List.mem_of_getElem? (i := 1212) (by decide +kernel)) (by decide +kernel)
theorem k_1213 : (.selects RX9 yX9_row yX9_row : Cond) ∈ tb := tb_in (List.mem_of_getElem? (i := 1213) (by decide +kernel)) (by decide +kernel)
theorem k_2010 : (.code yX10_row cX10_row 5 (some .int) : Cond) ∈ tb := tb_in (List.mem_of_getElem? (i := 2010) (by decide +kernel)) (by decide +kernel)
theorem k_2007 : (.methodLink RL 234 yX10_row : Cond) ∈ tb := tb_in (List.mem_of_getElem? (i := 2007) (by decide +kernel)) (by decide +kernel)
theorem k_2008 : (.instanceMethod yX10_row : Cond) ∈ tb := tb_in (List.mem_of_getElem? (i := 2008) (by decide +kernel)) (by decide +kernel)
theorem k_2009 : (.selects RX10 yX10_row yX10_row : Cond) ∈ tb := tb_in (List.mem_of_getElem? (i := 2009) (by decide +kernel)) (by decide +kernel)
theorem k_2020 : (.constantLong RL 235 4294967295 : Cond) ∈ tb := tb_in (List.mem_of_getElem? (i := 2020) (by decide +kernel)) (by decide +kernel)
theorem k_1228 : (.code yX9_write cX9_write 5 (some .int) : Cond) ∈ tb := tb_in (List.mem_of_getElem? (i := 1228) (by decide +kernel)) (by decide +kernel)
theorem k_1225 : (.methodLink RL 237 yX9_write : Cond) ∈ tb := tb_in (List.mem_of_getElem? (i := 1225) (by decide +kernel)) (by decide +kernel)
theorem k_1226 : (.instanceMethod yX9_write : Cond) ∈ tb := tb_in (List.mem_of_getElem? (i := 1226) (by decide +kernel)) (by decide +kernel)
theorem k_1227 : (.selects RX9 yX9_write yX9_write : Cond) ∈ tb := tb_in (List.mem_of_getElem? (i := 1227) (by decide +kernel)) (by decide +kernel)
theorem k_2014 : (.code yX10_write cX10_write 5 (some .int) : Cond) ∈ tb := tb_in (List.mem_of_getElem? (i := 2014) (by decide +kernel)) (by decide +kernel)
theorem k_2011 : (.methodLink RL 241 yX10_write : Cond) ∈ tb := tb_in (List.mem_of_getElem? (i := 2011) (by decide +kernel)) (by decide +kernel)
theorem k_2012 : (.instanceMethod yX10_write : Cond) ∈ tb := tb_in (List.mem_of_getElem? (i := 2012) (by decide +kernel)) (by decide +kernel)
theorem k_2013 : (.selects RX10 yX10_write yX10_write : Cond) ∈ tb := tb_in (List.mem_of_getElem? (i := 2013) (by decide +kernel)) (by decide +kernel)
theorem k_1236 : (.code yX9_number cX9_number 3 (some .long) : Cond) ∈ tb := tb_in (List.mem_of_getElem? (i := 1236) (by decide +kernel)) (by decide +kernel)
theorem k_1233 : (.methodLink RL 242 yX9_number : Cond) ∈ tb := tb_in (List.mem_of_getElem? (i := 1233) (by decide +kernel)) (by decide +kernel)
theorem k_1234 : (.instanceMethod yX9_number : Cond) ∈ tb := tb_in (List.mem_of_getElem? (i := 1234) (by decide +kernel)) (by decide +kernel)
theorem k_1235 : (.selects RX9 yX9_number yX9_number : Cond) ∈ tb := tb_in (List.mem_of_getElem? (i := 1235) (by decide +kernel)) (by decide +kernel)
theorem k_2018 : (.code yX10_number cX10_number 3 (some .long) : Cond) ∈ tb := tb_in (List.mem_of_getElem? (i := 2018) (by decide +kernel)) (by decide +kernel)
theorem k_2015 : (.methodLink RL 246 yX10_number : Cond) ∈ tb := tb_in (List.mem_of_getElem? (i := 2015) (by decide +kernel)) (by decide +kernel)
theorem k_2016 : (.instanceMethod yX10_number : Cond) ∈ tb := tb_in (List.mem_of_getElem? (i := 2016) (by decide +kernel)) (by decide +kernel)
theorem k_2017 : (.selects RX10 yX10_number yX10_number : Cond) ∈ tb := tb_in (List.mem_of_getElem? (i := 2017) (by decide +kernel)) (by decide +kernel)
theorem wb_X9_feed : CwB yX9_feed cX9_feed 6 (some .int) 5 := ⟨k_492, k_92, by decide +kernel, by decide⟩
theorem wL_13 : CwV RL 13 RX9 yX9_feed cX9_feed 6 (some .int) 5 := ⟨wb_X9_feed, k_489, k_490, k_491⟩
theorem wb_X10_feed : CwB yX10_feed cX10_feed 7 (some .int) 5 := ⟨k_1460, k_103, by decide +kernel, by decide⟩
theorem wL_17 : CwV RL 17 RX10 yX10_feed cX10_feed 7 (some .int) 5 := ⟨wb_X10_feed, k_1457, k_1458, k_1459⟩
theorem wb_X9_end : CwB yX9_end cX9_end 2 (some .int) 1 := ⟨k_500, k_92, by decide +kernel, by decide⟩
theorem wL_18 : CwV RL 18 RX9 yX9_end cX9_end 2 (some .int) 1 := ⟨wb_X9_end, k_497, k_498, k_499⟩
theorem wb_X10_end : CwB yX10_end cX10_end 2 (some .int) 1 := ⟨k_1464, k_103, by decide +kernel, by decide⟩
theorem wL_22 : CwV RL 22 RX10 yX10_end cX10_end 2 (some .int) 1 := ⟨wb_X10_end, k_1461, k_1462, k_1463⟩
theorem wb_X9_program : CwB yX9_program cX9_program 1 (some .int) 0 := ⟨k_507, k_92, by decide +kernel, by decide⟩
theorem wL_23 : CwV RL 23 RX9 yX9_program cX9_program 1 (some .int) 0 := ⟨wb_X9_program, k_504, k_505, k_506⟩
theorem wb_X10_program : CwB yX10_program cX10_program 2 (some .int) 0 := ⟨k_1472, k_103, by decide +kernel, by decide⟩
theorem wL_27 : CwV RL 27 RX10 yX10_program cX10_program 2 (some .int) 0 := ⟨wb_X10_program, k_1469, k_1470, k_1471⟩
theorem wb_X9_fault : CwB yX9_fault cX9_fault 2 (some .int) 1 := ⟨k_861, k_92, by decide +kernel, by decide⟩
theorem wL_28 : CwV RL 28 RX9 yX9_fault cX9_fault 2 (some .int) 1 := ⟨wb_X9_fault, k_858, k_859, k_860⟩
theorem wb_X10_fault : CwB yX10_fault cX10_fault 2 (some .int) 1 := ⟨k_1468, k_103, by decide +kernel, by decide⟩
theorem wL_31 : CwV RL 31 RX10 yX10_fault cX10_fault 2 (some .int) 1 := ⟨wb_X10_fault, k_1465, k_1466, k_1467⟩
theorem wb_X9_op : CwB yX9_op cX9_op 3 (some .int) 2 := ⟨k_865, k_92, by decide +kernel, by decide⟩
theorem wL_32 : CwV RL 32 RX9 yX9_op cX9_op 3 (some .int) 2 := ⟨wb_X9_op, k_862, k_863, k_864⟩
theorem wb_X10_op : CwB yX10_op cX10_op 3 (some .int) 2 := ⟨k_1564, k_103, by decide +kernel, by decide⟩
theorem wL_36 : CwV RL 36 RX10 yX10_op cX10_op 3 (some .int) 2 := ⟨wb_X10_op, k_1561, k_1562, k_1563⟩
theorem wb_X9_steps : CwB yX9_steps cX9_steps 1 (some .int) 0 := ⟨k_871, k_92, by decide +kernel, by decide⟩
theorem wL_37 : CwV RL 37 RX9 yX9_steps cX9_steps 1 (some .int) 0 := ⟨wb_X9_steps, k_868, k_869, k_870⟩
theorem wb_X10_steps : CwB yX10_steps cX10_steps 1 (some .int) 0 := ⟨k_1581, k_103, by decide +kernel, by decide⟩
theorem wL_40 : CwV RL 40 RX10 yX10_steps cX10_steps 1 (some .int) 0 := ⟨wb_X10_steps, k_1578, k_1579, k_1580⟩
theorem wb_X9_why : CwB yX9_why cX9_why 1 (some .int) 0 := ⟨k_879, k_92, by decide +kernel, by decide⟩
theorem wL_41 : CwV RL 41 RX9 yX9_why cX9_why 1 (some .int) 0 := ⟨wb_X9_why, k_876, k_877, k_878⟩
theorem wb_X10_why : CwB yX10_why cX10_why 1 (some .int) 0 := ⟨k_1636, k_103, by decide +kernel, by decide⟩
theorem wL_44 : CwV RL 44 RX10 yX10_why cX10_why 1 (some .int) 0 := ⟨wb_X10_why, k_1633, k_1634, k_1635⟩
theorem wb_X9_next : CwB yX9_next cX9_next 2 (some .int) 1 := ⟨k_883, k_92, by decide +kernel, by decide⟩
theorem wL_45 : CwV RL 45 RX9 yX9_next cX9_next 2 (some .int) 1 := ⟨wb_X9_next, k_880, k_881, k_882⟩
theorem wb_X10_next : CwB yX10_next cX10_next 2 (some .int) 1 := ⟨k_1640, k_103, by decide +kernel, by decide⟩
theorem wL_48 : CwV RL 48 RX10 yX10_next cX10_next 2 (some .int) 1 := ⟨wb_X10_next, k_1637, k_1638, k_1639⟩
theorem wb_X9_register : CwB yX9_register cX9_register 3 (some .int) 2 := ⟨k_891, k_92, by decide +kernel, by decide⟩
theorem wL_49 : CwV RL 49 RX9 yX9_register cX9_register 3 (some .int) 2 := ⟨wb_X9_register, k_888, k_889, k_890⟩
theorem wb_X10_register : CwB yX10_register cX10_register 3 (some .int) 2 := ⟨k_1644, k_103, by decide +kernel, by decide⟩
theorem wL_52 : CwV RL 52 RX10 yX10_register cX10_register 3 (some .int) 2 := ⟨wb_X10_register, k_1641, k_1642, k_1643⟩
theorem wb_X9_branch : CwB yX9_branch cX9_branch 3 (some .int) 2 := ⟨k_899, k_92, by decide +kernel, by decide⟩
theorem wL_53 : CwV RL 53 RX9 yX9_branch cX9_branch 3 (some .int) 2 := ⟨wb_X9_branch, k_896, k_897, k_898⟩
theorem wb_X10_branch : CwB yX10_branch cX10_branch 3 (some .int) 2 := ⟨k_1649, k_103, by decide +kernel, by decide⟩
theorem wL_56 : CwV RL 56 RX10 yX10_branch cX10_branch 3 (some .int) 2 := ⟨wb_X10_branch, k_1646, k_1647, k_1648⟩
theorem wb_X9_wrong : CwB yX9_wrong cX9_wrong 4 (some .int) 1 := ⟨k_908, k_92, by decide +kernel, by decide⟩
theorem wL_57 : CwV RL 57 RX9 yX9_wrong cX9_wrong 4 (some .int) 1 := ⟨wb_X9_wrong, k_905, k_906, k_907⟩
theorem wb_X10_wrong : CwB yX10_wrong cX10_wrong 2 (some .int) 1 := ⟨k_1749, k_103, by decide +kernel, by decide⟩
theorem wL_60 : CwV RL 60 RX10 yX10_wrong cX10_wrong 2 (some .int) 1 := ⟨wb_X10_wrong, k_1746, k_1747, k_1748⟩
theorem wb_X9_wrongs : CwB yX9_wrongs cX9_wrongs 2 (some .int) 1 := ⟨k_921, k_92, by decide +kernel, by decide⟩
theorem wL_61 : CwV RL 61 RX9 yX9_wrongs cX9_wrongs 2 (some .int) 1 := ⟨wb_X9_wrongs, k_918, k_919, k_920⟩
theorem wb_X10_wrongs : CwB yX10_wrongs cX10_wrongs 2 (some .int) 1 := ⟨k_1761, k_103, by decide +kernel, by decide⟩
theorem wL_64 : CwV RL 64 RX10 yX10_wrongs cX10_wrongs 2 (some .int) 1 := ⟨wb_X10_wrongs, k_1758, k_1759, k_1760⟩
theorem wb_X9_worst : CwB yX9_worst cX9_worst 5 (some .int) 0 := ⟨k_934, k_92, by decide +kernel, by decide⟩
theorem wL_65 : CwV RL 65 RX9 yX9_worst cX9_worst 5 (some .int) 0 := ⟨wb_X9_worst, k_931, k_932, k_933⟩
theorem wb_X10_worst : CwB yX10_worst cX10_worst 4 (some .int) 0 := ⟨k_1773, k_103, by decide +kernel, by decide⟩
theorem wL_68 : CwV RL 68 RX10 yX10_worst cX10_worst 4 (some .int) 0 := ⟨wb_X10_worst, k_1770, k_1771, k_1772⟩
theorem wb_X9_streak : CwB yX9_streak cX9_streak 4 (some .int) 0 := ⟨k_938, k_92, by decide +kernel, by decide⟩
theorem wL_69 : CwV RL 69 RX9 yX9_streak cX9_streak 4 (some .int) 0 := ⟨wb_X9_streak, k_935, k_936, k_937⟩
theorem wb_X10_streak : CwB yX10_streak cX10_streak 4 (some .int) 0 := ⟨k_1777, k_103, by decide +kernel, by decide⟩
theorem wL_72 : CwV RL 72 RX10 yX10_streak cX10_streak 4 (some .int) 0 := ⟨wb_X10_streak, k_1774, k_1775, k_1776⟩
theorem wb_X9_said : CwB yX9_said cX9_said 2 (some .int) 1 := ⟨k_942, k_92, by decide +kernel, by decide⟩
theorem wL_73 : CwV RL 73 RX9 yX9_said cX9_said 2 (some .int) 1 := ⟨wb_X9_said, k_939, k_940, k_941⟩
theorem wb_X10_said : CwB yX10_said cX10_said 4 (some .int) 1 := ⟨k_1781, k_103, by decide +kernel, by decide⟩
theorem wL_76 : CwV RL 76 RX10 yX10_said cX10_said 4 (some .int) 1 := ⟨wb_X10_said, k_1778, k_1779, k_1780⟩
theorem wb_X9_gained : CwB yX9_gained cX9_gained 4 (some .int) 1 := ⟨k_954, k_92, by decide +kernel, by decide⟩
theorem wL_77 : CwV RL 77 RX9 yX9_gained cX9_gained 4 (some .int) 1 := ⟨wb_X9_gained, k_951, k_952, k_953⟩
theorem wb_X10_gained : CwB yX10_gained cX10_gained 4 (some .int) 1 := ⟨k_1785, k_103, by decide +kernel, by decide⟩
theorem wL_80 : CwV RL 80 RX10 yX10_gained cX10_gained 4 (some .int) 1 := ⟨wb_X10_gained, k_1782, k_1783, k_1784⟩
theorem wb_X9_provided : CwB yX9_provided cX9_provided 2 (some .int) 1 := ⟨k_958, k_92, by decide +kernel, by decide⟩
theorem wL_81 : CwV RL 81 RX9 yX9_provided cX9_provided 2 (some .int) 1 := ⟨wb_X9_provided, k_955, k_956, k_957⟩
theorem wb_X10_provided : CwB yX10_provided cX10_provided 4 (some .int) 1 := ⟨k_1789, k_103, by decide +kernel, by decide⟩
theorem wL_84 : CwV RL 84 RX10 yX10_provided cX10_provided 4 (some .int) 1 := ⟨wb_X10_provided, k_1786, k_1787, k_1788⟩
theorem wb_X9_history : CwB yX9_history cX9_history 3 (some .int) 2 := ⟨k_962, k_92, by decide +kernel, by decide⟩
theorem wL_85 : CwV RL 85 RX9 yX9_history cX9_history 3 (some .int) 2 := ⟨wb_X9_history, k_959, k_960, k_961⟩
theorem wb_X10_history : CwB yX10_history cX10_history 3 (some .int) 2 := ⟨k_1793, k_103, by decide +kernel, by decide⟩
theorem wL_88 : CwV RL 88 RX10 yX10_history cX10_history 3 (some .int) 2 := ⟨wb_X10_history, k_1790, k_1791, k_1792⟩
theorem wb_X9_fold : CwB yX9_fold cX9_fold 4 (some .int) 3 := ⟨k_973, k_92, by decide +kernel, by decide⟩
theorem wL_89 : CwV RL 89 RX9 yX9_fold cX9_fold 4 (some .int) 3 := ⟨wb_X9_fold, k_970, k_971, k_972⟩
theorem wb_X10_fold : CwB yX10_fold cX10_fold 4 (some .int) 3 := ⟨k_1802, k_103, by decide +kernel, by decide⟩
theorem wL_93 : CwV RL 93 RX10 yX10_fold cX10_fold 4 (some .int) 3 := ⟨wb_X10_fold, k_1799, k_1800, k_1801⟩
theorem wb_X9_index : CwB yX9_index cX9_index 4 (some .int) 3 := ⟨k_980, k_92, by decide +kernel, by decide⟩
theorem wL_94 : CwV RL 94 RX9 yX9_index cX9_index 4 (some .int) 3 := ⟨wb_X9_index, k_977, k_978, k_979⟩
theorem wb_X10_index : CwB yX10_index cX10_index 4 (some .int) 3 := ⟨k_1808, k_103, by decide +kernel, by decide⟩
theorem wL_97 : CwV RL 97 RX10 yX10_index cX10_index 4 (some .int) 3 := ⟨wb_X10_index, k_1805, k_1806, k_1807⟩
theorem wb_X9_tag : CwB yX9_tag cX9_tag 4 (some .int) 3 := ⟨k_989, k_92, by decide +kernel, by decide⟩
theorem wL_98 : CwV RL 98 RX9 yX9_tag cX9_tag 4 (some .int) 3 := ⟨wb_X9_tag, k_986, k_987, k_988⟩
theorem wb_X10_tag : CwB yX10_tag cX10_tag 4 (some .int) 3 := ⟨k_1816, k_103, by decide +kernel, by decide⟩
theorem wL_101 : CwV RL 101 RX10 yX10_tag cX10_tag 4 (some .int) 3 := ⟨wb_X10_tag, k_1813, k_1814, k_1815⟩
theorem wb_X9_provider : CwB yX9_provider cX9_provider 3 (some .int) 2 := ⟨k_994, k_92, by decide +kernel, by decide⟩
theorem wL_102 : CwV RL 102 RX9 yX9_provider cX9_provider 3 (some .int) 2 := ⟨wb_X9_provider, k_991, k_992, k_993⟩
theorem wb_X10_provider : CwB yX10_provider cX10_provider 3 (some .int) 2 := ⟨k_1820, k_103, by decide +kernel, by decide⟩
theorem wL_105 : CwV RL 105 RX10 yX10_provider cX10_provider 3 (some .int) 2 := ⟨wb_X10_provider, k_1817, k_1818, k_1819⟩
theorem wb_X9_alternate : CwB yX9_alternate cX9_alternate 3 (some .int) 2 := ⟨k_1002, k_92, by decide +kernel, by decide⟩
theorem wL_106 : CwV RL 106 RX9 yX9_alternate cX9_alternate 3 (some .int) 2 := ⟨wb_X9_alternate, k_999, k_1000, k_1001⟩
theorem wb_X10_alternate : CwB yX10_alternate cX10_alternate 3 (some .int) 2 := ⟨k_1828, k_103, by decide +kernel, by decide⟩
theorem wL_109 : CwV RL 109 RX10 yX10_alternate cX10_alternate 3 (some .int) 2 := ⟨wb_X10_alternate, k_1825, k_1826, k_1827⟩
theorem wb_X9_guess : CwB yX9_guess cX9_guess 3 (some .int) 2 := ⟨k_1006, k_92, by decide +kernel, by decide⟩
theorem wL_110 : CwV RL 110 RX9 yX9_guess cX9_guess 3 (some .int) 2 := ⟨wb_X9_guess, k_1003, k_1004, k_1005⟩
theorem wb_X10_guess : CwB yX10_guess cX10_guess 3 (some .int) 2 := ⟨k_1832, k_103, by decide +kernel, by decide⟩
theorem wL_113 : CwV RL 113 RX10 yX10_guess cX10_guess 3 (some .int) 2 := ⟨wb_X10_guess, k_1829, k_1830, k_1831⟩
theorem wb_X9_adds : CwB yX9_adds cX9_adds 3 (some .int) 2 := ⟨k_1010, k_92, by decide +kernel, by decide⟩
theorem wL_114 : CwV RL 114 RX9 yX9_adds cX9_adds 3 (some .int) 2 := ⟨wb_X9_adds, k_1007, k_1008, k_1009⟩
theorem wb_X10_adds : CwB yX10_adds cX10_adds 3 (some .int) 2 := ⟨k_1836, k_103, by decide +kernel, by decide⟩
theorem wL_117 : CwV RL 117 RX10 yX10_adds cX10_adds 3 (some .int) 2 := ⟨wb_X10_adds, k_1833, k_1834, k_1835⟩
theorem wb_X9_entry : CwB yX9_entry cX9_entry 6 (some .int) 4 := ⟨k_1014, k_92, by decide +kernel, by decide⟩
theorem wL_118 : CwV RL 118 RX9 yX9_entry cX9_entry 6 (some .int) 4 := ⟨wb_X9_entry, k_1011, k_1012, k_1013⟩
theorem wb_X10_entry : CwB yX10_entry cX10_entry 6 (some .int) 4 := ⟨k_1840, k_103, by decide +kernel, by decide⟩
theorem wL_122 : CwV RL 122 RX10 yX10_entry cX10_entry 6 (some .int) 4 := ⟨wb_X10_entry, k_1837, k_1838, k_1839⟩
theorem wb_X9_held : CwB yX9_held cX9_held 3 (some .int) 2 := ⟨k_1018, k_92, by decide +kernel, by decide⟩
theorem wL_123 : CwV RL 123 RX9 yX9_held cX9_held 3 (some .int) 2 := ⟨wb_X9_held, k_1015, k_1016, k_1017⟩
theorem wb_X10_held : CwB yX10_held cX10_held 5 (some .int) 2 := ⟨k_1844, k_103, by decide +kernel, by decide⟩
theorem wL_126 : CwV RL 126 RX10 yX10_held cX10_held 5 (some .int) 2 := ⟨wb_X10_held, k_1841, k_1842, k_1843⟩
theorem wb_X9_base : CwB yX9_base cX9_base 3 (some .int) 2 := ⟨k_1026, k_92, by decide +kernel, by decide⟩
theorem wL_127 : CwV RL 127 RX9 yX9_base cX9_base 3 (some .int) 2 := ⟨wb_X9_base, k_1023, k_1024, k_1025⟩
theorem wb_X10_base : CwB yX10_base cX10_base 3 (some .int) 2 := ⟨k_1848, k_103, by decide +kernel, by decide⟩
theorem wL_130 : CwV RL 130 RX10 yX10_base cX10_base 3 (some .int) 2 := ⟨wb_X10_base, k_1845, k_1846, k_1847⟩
theorem wb_X9_gauge : CwB yX9_gauge cX9_gauge 3 (some .int) 2 := ⟨k_1031, k_92, by decide +kernel, by decide⟩
theorem wL_131 : CwV RL 131 RX9 yX9_gauge cX9_gauge 3 (some .int) 2 := ⟨wb_X9_gauge, k_1028, k_1029, k_1030⟩
theorem wb_X10_gauge : CwB yX10_gauge cX10_gauge 3 (some .int) 2 := ⟨k_1852, k_103, by decide +kernel, by decide⟩
theorem wL_134 : CwV RL 134 RX10 yX10_gauge cX10_gauge 3 (some .int) 2 := ⟨wb_X10_gauge, k_1849, k_1850, k_1851⟩
theorem wb_X9_loop : CwB yX9_loop cX9_loop 4 (some .int) 3 := ⟨k_1035, k_92, by decide +kernel, by decide⟩
theorem wL_135 : CwV RL 135 RX9 yX9_loop cX9_loop 4 (some .int) 3 := ⟨wb_X9_loop, k_1032, k_1033, k_1034⟩
theorem wb_X10_loop : CwB yX10_loop cX10_loop 4 (some .int) 3 := ⟨k_1856, k_103, by decide +kernel, by decide⟩
theorem wL_138 : CwV RL 138 RX10 yX10_loop cX10_loop 4 (some .int) 3 := ⟨wb_X10_loop, k_1853, k_1854, k_1855⟩
theorem wb_X9_corrector : CwB yX9_corrector cX9_corrector 4 (some .int) 3 := ⟨k_1040, k_92, by decide +kernel, by decide⟩
theorem wL_139 : CwV RL 139 RX9 yX9_corrector cX9_corrector 4 (some .int) 3 := ⟨wb_X9_corrector, k_1037, k_1038, k_1039⟩
theorem wb_X10_corrector : CwB yX10_corrector cX10_corrector 4 (some .int) 3 := ⟨k_1860, k_103, by decide +kernel, by decide⟩
theorem wL_142 : CwV RL 142 RX10 yX10_corrector cX10_corrector 4 (some .int) 3 := ⟨wb_X10_corrector, k_1857, k_1858, k_1859⟩
theorem wb_X9_clash : CwB yX9_clash cX9_clash 6 (some .int) 3 := ⟨k_1044, k_92, by decide +kernel, by decide⟩
theorem wL_143 : CwV RL 143 RX9 yX9_clash cX9_clash 6 (some .int) 3 := ⟨wb_X9_clash, k_1041, k_1042, k_1043⟩
theorem wb_X10_clash : CwB yX10_clash cX10_clash 6 (some .int) 3 := ⟨k_1864, k_103, by decide +kernel, by decide⟩
theorem wL_146 : CwV RL 146 RX10 yX10_clash cX10_clash 6 (some .int) 3 := ⟨wb_X10_clash, k_1861, k_1862, k_1863⟩
theorem wb_X9_strays : CwB yX9_strays cX9_strays 2 (some .int) 1 := ⟨k_1048, k_92, by decide +kernel, by decide⟩
theorem wL_147 : CwV RL 147 RX9 yX9_strays cX9_strays 2 (some .int) 1 := ⟨wb_X9_strays, k_1045, k_1046, k_1047⟩
theorem wb_X10_strays : CwB yX10_strays cX10_strays 2 (some .int) 1 := ⟨k_1868, k_103, by decide +kernel, by decide⟩
theorem wL_150 : CwV RL 150 RX10 yX10_strays cX10_strays 2 (some .int) 1 := ⟨wb_X10_strays, k_1865, k_1866, k_1867⟩
theorem wb_X9_stray : CwB yX9_stray cX9_stray 3 (some .int) 2 := ⟨k_1061, k_92, by decide +kernel, by decide⟩
theorem wL_151 : CwV RL 151 RX9 yX9_stray cX9_stray 3 (some .int) 2 := ⟨wb_X9_stray, k_1058, k_1059, k_1060⟩
theorem wb_X10_stray : CwB yX10_stray cX10_stray 3 (some .int) 2 := ⟨k_1884, k_103, by decide +kernel, by decide⟩
theorem wL_154 : CwV RL 154 RX10 yX10_stray cX10_stray 3 (some .int) 2 := ⟨wb_X10_stray, k_1881, k_1882, k_1883⟩
theorem wb_X9_cycles : CwB yX9_cycles cX9_cycles 1 (some .int) 0 := ⟨k_1065, k_92, by decide +kernel, by decide⟩
theorem wL_155 : CwV RL 155 RX9 yX9_cycles cX9_cycles 1 (some .int) 0 := ⟨wb_X9_cycles, k_1062, k_1063, k_1064⟩
theorem wb_X10_cycles : CwB yX10_cycles cX10_cycles 1 (some .int) 0 := ⟨k_1888, k_103, by decide +kernel, by decide⟩
theorem wL_158 : CwV RL 158 RX10 yX10_cycles cX10_cycles 1 (some .int) 0 := ⟨wb_X10_cycles, k_1885, k_1886, k_1887⟩
theorem wb_X9_cheapest : CwB yX9_cheapest cX9_cheapest 3 (some .int) 0 := ⟨k_1077, k_92, by decide +kernel, by decide⟩
theorem wL_159 : CwV RL 159 RX9 yX9_cheapest cX9_cheapest 3 (some .int) 0 := ⟨wb_X9_cheapest, k_1074, k_1075, k_1076⟩
theorem wb_X10_cheapest : CwB yX10_cheapest cX10_cheapest 3 (some .int) 0 := ⟨k_1896, k_103, by decide +kernel, by decide⟩
theorem wL_162 : CwV RL 162 RX10 yX10_cheapest cX10_cheapest 3 (some .int) 0 := ⟨wb_X10_cheapest, k_1893, k_1894, k_1895⟩
theorem wb_X9_by : CwB yX9_by cX9_by 2 (some .int) 1 := ⟨k_1081, k_92, by decide +kernel, by decide⟩
theorem wL_163 : CwV RL 163 RX9 yX9_by cX9_by 2 (some .int) 1 := ⟨wb_X9_by, k_1078, k_1079, k_1080⟩
theorem wb_X10_by : CwB yX10_by cX10_by 2 (some .int) 1 := ⟨k_1904, k_103, by decide +kernel, by decide⟩
theorem wL_166 : CwV RL 166 RX10 yX10_by cX10_by 2 (some .int) 1 := ⟨wb_X10_by, k_1901, k_1902, k_1903⟩
theorem wb_X9_ideal : CwB yX9_ideal cX9_ideal 5 (some .int) 0 := ⟨k_1089, k_92, by decide +kernel, by decide⟩
theorem wL_167 : CwV RL 167 RX9 yX9_ideal cX9_ideal 5 (some .int) 0 := ⟨wb_X9_ideal, k_1086, k_1087, k_1088⟩
theorem wb_X10_ideal : CwB yX10_ideal cX10_ideal 5 (some .int) 0 := ⟨k_1912, k_103, by decide +kernel, by decide⟩
theorem wL_170 : CwV RL 170 RX10 yX10_ideal cX10_ideal 5 (some .int) 0 := ⟨wb_X10_ideal, k_1909, k_1910, k_1911⟩
theorem wb_X9_without : CwB yX9_without cX9_without 2 (some .int) 1 := ⟨k_1093, k_92, by decide +kernel, by decide⟩
theorem wL_171 : CwV RL 171 RX9 yX9_without cX9_without 2 (some .int) 1 := ⟨wb_X9_without, k_1090, k_1091, k_1092⟩
theorem wb_X10_without : CwB yX10_without cX10_without 2 (some .int) 1 := ⟨k_1916, k_103, by decide +kernel, by decide⟩
theorem wL_174 : CwV RL 174 RX10 yX10_without cX10_without 2 (some .int) 1 := ⟨wb_X10_without, k_1913, k_1914, k_1915⟩
theorem wb_X9_spare : CwB yX9_spare cX9_spare 5 (some .int) 0 := ⟨k_1101, k_92, by decide +kernel, by decide⟩
theorem wL_175 : CwV RL 175 RX9 yX9_spare cX9_spare 5 (some .int) 0 := ⟨wb_X9_spare, k_1098, k_1099, k_1100⟩
theorem wb_X10_spare : CwB yX10_spare cX10_spare 5 (some .int) 0 := ⟨k_1924, k_103, by decide +kernel, by decide⟩
theorem wL_178 : CwV RL 178 RX10 yX10_spare cX10_spare 5 (some .int) 0 := ⟨wb_X10_spare, k_1921, k_1922, k_1923⟩
theorem wb_X9_spanned : CwB yX9_spanned cX9_spanned 3 (some .int) 2 := ⟨k_1105, k_92, by decide +kernel, by decide⟩
theorem wL_179 : CwV RL 179 RX9 yX9_spanned cX9_spanned 3 (some .int) 2 := ⟨wb_X9_spanned, k_1102, k_1103, k_1104⟩
theorem wb_X10_spanned : CwB yX10_spanned cX10_spanned 3 (some .int) 2 := ⟨k_1928, k_103, by decide +kernel, by decide⟩
theorem wL_182 : CwV RL 182 RX10 yX10_spanned cX10_spanned 3 (some .int) 2 := ⟨wb_X10_spanned, k_1925, k_1926, k_1927⟩
theorem wb_X9_span : CwB yX9_span cX9_span 6 (some .int) 1 := ⟨k_1121, k_92, by decide +kernel, by decide⟩
theorem wL_183 : CwV RL 183 RX9 yX9_span cX9_span 6 (some .int) 1 := ⟨wb_X9_span, k_1118, k_1119, k_1120⟩
theorem wb_X10_span : CwB yX10_span cX10_span 6 (some .int) 1 := ⟨k_1944, k_103, by decide +kernel, by decide⟩
theorem wL_186 : CwV RL 186 RX10 yX10_span cX10_span 6 (some .int) 1 := ⟨wb_X10_span, k_1941, k_1942, k_1943⟩
theorem wb_X9_round : CwB yX9_round cX9_round 5 (some .int) 4 := ⟨k_1125, k_92, by decide +kernel, by decide⟩
theorem wL_187 : CwV RL 187 RX9 yX9_round cX9_round 5 (some .int) 4 := ⟨wb_X9_round, k_1122, k_1123, k_1124⟩
theorem wb_X10_round : CwB yX10_round cX10_round 5 (some .int) 4 := ⟨k_1948, k_103, by decide +kernel, by decide⟩
theorem wL_190 : CwV RL 190 RX10 yX10_round cX10_round 5 (some .int) 4 := ⟨wb_X10_round, k_1945, k_1946, k_1947⟩
theorem wb_X9_learnt : CwB yX9_learnt cX9_learnt 4 (some .int) 3 := ⟨k_1139, k_92, by decide +kernel, by decide⟩
theorem wL_191 : CwV RL 191 RX9 yX9_learnt cX9_learnt 4 (some .int) 3 := ⟨wb_X9_learnt, k_1136, k_1137, k_1138⟩
theorem wb_X10_learnt : CwB yX10_learnt cX10_learnt 4 (some .int) 3 := ⟨k_1962, k_103, by decide +kernel, by decide⟩
theorem wL_194 : CwV RL 194 RX10 yX10_learnt cX10_learnt 4 (some .int) 3 := ⟨wb_X10_learnt, k_1959, k_1960, k_1961⟩
theorem wb_X9_learns : CwB yX9_learns cX9_learns 5 (some .int) 2 := ⟨k_1147, k_92, by decide +kernel, by decide⟩
theorem wL_195 : CwV RL 195 RX9 yX9_learns cX9_learns 5 (some .int) 2 := ⟨wb_X9_learns, k_1144, k_1145, k_1146⟩
theorem wb_X10_learns : CwB yX10_learns cX10_learns 5 (some .int) 2 := ⟨k_1970, k_103, by decide +kernel, by decide⟩
theorem wL_198 : CwV RL 198 RX10 yX10_learns cX10_learns 5 (some .int) 2 := ⟨wb_X10_learns, k_1967, k_1968, k_1969⟩
theorem wb_X9_trace : CwB yX9_trace cX9_trace 5 (some .int) 1 := ⟨k_1152, k_92, by decide +kernel, by decide⟩
theorem wL_199 : CwV RL 199 RX9 yX9_trace cX9_trace 5 (some .int) 1 := ⟨wb_X9_trace, k_1149, k_1150, k_1151⟩
theorem wb_X10_trace : CwB yX10_trace cX10_trace 5 (some .int) 1 := ⟨k_1975, k_103, by decide +kernel, by decide⟩
theorem wL_202 : CwV RL 202 RX10 yX10_trace cX10_trace 5 (some .int) 1 := ⟨wb_X10_trace, k_1972, k_1973, k_1974⟩
theorem wb_X9_like : CwB yX9_like cX9_like 4 (some .int) 1 := ⟨k_1173, k_92, by decide +kernel, by decide⟩
theorem wL_203 : CwV RL 203 RX9 yX9_like cX9_like 4 (some .int) 1 := ⟨wb_X9_like, k_1170, k_1171, k_1172⟩
theorem wb_X10_like : CwB yX10_like cX10_like 6 (some .int) 1 := ⟨k_1990, k_103, by decide +kernel, by decide⟩
theorem wL_206 : CwV RL 206 RX10 yX10_like cX10_like 6 (some .int) 1 := ⟨wb_X10_like, k_1987, k_1988, k_1989⟩
theorem wb_X9_meets : CwB yX9_meets cX9_meets 4 (some .int) 2 := ⟨k_1181, k_92, by decide +kernel, by decide⟩
theorem wL_207 : CwV RL 207 RX9 yX9_meets cX9_meets 4 (some .int) 2 := ⟨wb_X9_meets, k_1178, k_1179, k_1180⟩
theorem wb_X10_meets : CwB yX10_meets cX10_meets 3 (some .int) 2 := ⟨k_1994, k_103, by decide +kernel, by decide⟩
theorem wL_210 : CwV RL 210 RX10 yX10_meets cX10_meets 3 (some .int) 2 := ⟨wb_X10_meets, k_1991, k_1992, k_1993⟩
theorem wb_X9_undo : CwB yX9_undo cX9_undo 1 (some .int) 0 := ⟨k_1185, k_92, by decide +kernel, by decide⟩
theorem wL_211 : CwV RL 211 RX9 yX9_undo cX9_undo 1 (some .int) 0 := ⟨wb_X9_undo, k_1182, k_1183, k_1184⟩
theorem wb_X10_undo : CwB yX10_undo cX10_undo 1 (some .int) 0 := ⟨k_1998, k_103, by decide +kernel, by decide⟩
theorem wL_214 : CwV RL 214 RX10 yX10_undo cX10_undo 1 (some .int) 0 := ⟨wb_X10_undo, k_1995, k_1996, k_1997⟩
theorem wb_X9_anew : CwB yX9_anew cX9_anew 2 (some .int) 0 := ⟨k_1193, k_92, by decide +kernel, by decide⟩
theorem wL_215 : CwV RL 215 RX9 yX9_anew cX9_anew 2 (some .int) 0 := ⟨wb_X9_anew, k_1190, k_1191, k_1192⟩
theorem wb_X10_anew : CwB yX10_anew cX10_anew 2 (some .int) 0 := ⟨k_2002, k_103, by decide +kernel, by decide⟩
theorem wL_218 : CwV RL 218 RX10 yX10_anew cX10_anew 2 (some .int) 0 := ⟨wb_X10_anew, k_1999, k_2000, k_2001⟩
theorem wb_X9_count : CwB yX9_count cX9_count 2 (some .int) 1 := ⟨k_1197, k_92, by decide +kernel, by decide⟩
theorem wL_219 : CwV RL 219 RX9 yX9_count cX9_count 2 (some .int) 1 := ⟨wb_X9_count, k_1194, k_1195, k_1196⟩
theorem wb_X10_count : CwB yX10_count cX10_count 4 (some .int) 1 := ⟨k_2006, k_103, by decide +kernel, by decide⟩
theorem wL_222 : CwV RL 222 RX10 yX10_count cX10_count 4 (some .int) 1 := ⟨wb_X10_count, k_2003, k_2004, k_2005⟩
theorem wb_X9_image : CwB yX9_image cX9_image 2 (some .int) 1 := ⟨k_1206, k_92, by decide +kernel, by decide⟩
theorem wL_223 : CwV RL 223 RX9 yX9_image cX9_image 2 (some .int) 1 := ⟨wb_X9_image, k_1203, k_1204, k_1205⟩
theorem wb_X10_image : CwB yX10_image cX10_image 3 (some .int) 1 := ⟨k_1448, k_103, by decide +kernel, by decide⟩
theorem wL_226 : CwV RL 226 RX10 yX10_image cX10_image 3 (some .int) 1 := ⟨wb_X10_image, k_1445, k_1446, k_1447⟩
theorem wb_X9_back : CwB yX9_back cX9_back 2 (some .int) 1 := ⟨k_1210, k_92, by decide +kernel, by decide⟩
theorem wL_227 : CwV RL 227 RX9 yX9_back cX9_back 2 (some .int) 1 := ⟨wb_X9_back, k_1207, k_1208, k_1209⟩
theorem wb_X10_back : CwB yX10_back cX10_back 3 (some .int) 1 := ⟨k_1456, k_103, by decide +kernel, by decide⟩
theorem wL_230 : CwV RL 230 RX10 yX10_back cX10_back 3 (some .int) 1 := ⟨wb_X10_back, k_1453, k_1454, k_1455⟩
theorem wb_X9_row : CwB yX9_row cX9_row 4 (some .int) 3 := ⟨k_1214, k_92, by decide +kernel, by decide⟩
theorem wL_231 : CwV RL 231 RX9 yX9_row cX9_row 4 (some .int) 3 := ⟨wb_X9_row, k_1211, k_1212, k_1213⟩
theorem wb_X10_row : CwB yX10_row cX10_row 5 (some .int) 3 := ⟨k_2010, k_103, by decide +kernel, by decide⟩
theorem wL_234 : CwV RL 234 RX10 yX10_row cX10_row 5 (some .int) 3 := ⟨wb_X10_row, k_2007, k_2008, k_2009⟩
theorem wb_X9_write : CwB yX9_write cX9_write 5 (some .int) 3 := ⟨k_1228, k_92, by decide +kernel, by decide⟩
theorem wL_237 : CwV RL 237 RX9 yX9_write cX9_write 5 (some .int) 3 := ⟨wb_X9_write, k_1225, k_1226, k_1227⟩
theorem wb_X10_write : CwB yX10_write cX10_write 5 (some .int) 3 := ⟨k_2014, k_103, by decide +kernel, by decide⟩
theorem wL_241 : CwV RL 241 RX10 yX10_write cX10_write 5 (some .int) 3 := ⟨wb_X10_write, k_2011, k_2012, k_2013⟩
theorem wb_X9_number : CwB yX9_number cX9_number 3 (some .long) 2 := ⟨k_1236, k_92, by decide +kernel, by decide⟩
theorem wL_242 : CwV RL 242 RX9 yX9_number cX9_number 3 (some .long) 2 := ⟨wb_X9_number, k_1233, k_1234, k_1235⟩
theorem wb_X10_number : CwB yX10_number cX10_number 3 (some .long) 2 := ⟨k_2018, k_103, by decide +kernel, by decide⟩
theorem wL_246 : CwV RL 246 RX10 yX10_number cX10_number 3 (some .long) 2 := ⟨wb_X10_number, k_2015, k_2016, k_2017⟩
theorem lc_0 {E : En} {X : Xc} {b L : Nat} {ys : Nat → Int32} {i : Nat} {S : St} {M : Mem} (C : Cx E X 13 cL_law RL 4) (hR : Scr X b L ys) (hi : i + 6 ≤ L) (hM : JC S M) (hN : JR S M) (kk : ∀ S' M', JC S' M' → JR S' M' → At E X 1921 (lls E b i) [] M') : At E X 272 (lls E b i) [] M := by
  obtain ⟨v, M1, M2, S1, e1, e2, j1, j2⟩ := (m_feed (S := S) (ys (i + 1)) (ys (i + 2)) (ys (i + 3)) (ys (i + 4)) (ys (i + 5))).use hM hN
  have h3 := hR.2.2.2
  refine s_aload1 C dL_law_272 ?_
  refine s_arg (k := 1) C hR (by omega) (by decide) dL_law_273 dL_law_274 dL_law_275 dL_law_276 dL_law_277 ?_
  refine s_arg (k := 2) C hR (by omega) (by decide) dL_law_278 dL_law_279 dL_law_280 dL_law_281 dL_law_282 ?_
  refine s_arg (k := 3) C hR (by omega) (by decide) dL_law_283 dL_law_284 dL_law_285 dL_law_286 dL_law_287 ?_
  refine s_arg (k := 4) C hR (by omega) (by decide) dL_law_288 dL_law_289 dL_law_290 dL_law_291 dL_law_292 ?_
  refine s_arg (k := 5) C hR (by omega) (by decide) dL_law_293 dL_law_294 dL_law_295 dL_law_296 dL_law_297 ?_
  refine s_callV (c := 0) (T := TX9) (As := [.int (ys (i + 1)), .int (ys (i + 2)), .int (ys (i + 3)), .int (ys (i + 4)), .int (ys (i + 5))]) (v := some (.int v)) C rfl rfl (by decide) rfl (by omega) wL_13 rfl (Nat.le_of_ble_eq_true rfl) dL_law_298 (tX9_feed C.2.2.2.2.2.2.1 (by omega) rfl e1) ?_
  refine s_aload2 C dL_law_301 ?_
  refine s_arg (k := 1) C hR (by omega) (by decide) dL_law_302 dL_law_303 dL_law_304 dL_law_305 dL_law_306 ?_
  refine s_arg (k := 2) C hR (by omega) (by decide) dL_law_307 dL_law_308 dL_law_309 dL_law_310 dL_law_311 ?_
  refine s_arg (k := 3) C hR (by omega) (by decide) dL_law_312 dL_law_313 dL_law_314 dL_law_315 dL_law_316 ?_
  refine s_arg (k := 4) C hR (by omega) (by decide) dL_law_317 dL_law_318 dL_law_319 dL_law_320 dL_law_321 ?_
  refine s_arg (k := 5) C hR (by omega) (by decide) dL_law_322 dL_law_323 dL_law_324 dL_law_325 dL_law_326 ?_
  refine s_callV (c := 80) (T := TX10) (As := [.int (ys (i + 1)), .int (ys (i + 2)), .int (ys (i + 3)), .int (ys (i + 4)), .int (ys (i + 5))]) (v := some (.int v)) C rfl rfl (by decide) rfl (by omega) wL_17 rfl (Nat.le_of_ble_eq_true rfl) dL_law_327 (tX10_feed C.2.2.2.2.2.2.1 (by omega) rfl e2) ?_
  exact s_ic_eq (tgt := 1921) (a := some ()) (b := none) (r := ()) C (if_pos rfl) dL_law_330 (by decide) ⟨fun _ => kk _ _ j1 j2, fun h => by cases h⟩
theorem lc_1 {E : En} {X : Xc} {b L : Nat} {ys : Nat → Int32} {i : Nat} {S : St} {M : Mem} (C : Cx E X 13 cL_law RL 4) (hR : Scr X b L ys) (hi : i + 6 ≤ L) (hM : JC S M) (hN : JR S M) (kk : ∀ S' M', JC S' M' → JR S' M' → At E X 1921 (lls E b i) [] M') : At E X 335 (lls E b i) [] M := by
  obtain ⟨v, M1, M2, S1, e1, e2, j1, j2⟩ := (m_end (S := S) (ys (i + 1))).use hM hN
  have h3 := hR.2.2.2
  refine s_aload1 C dL_law_335 ?_
  refine s_arg (k := 1) C hR (by omega) (by decide) dL_law_336 dL_law_337 dL_law_338 dL_law_339 dL_law_340 ?_
  refine s_callV (c := 0) (T := TX9) (As := [.int (ys (i + 1))]) (v := some (.int v)) C rfl rfl (by decide) rfl (by omega) wL_18 rfl (Nat.le_of_ble_eq_true rfl) dL_law_341 (tX9_end C.2.2.2.2.2.2.1 (by omega) rfl e1) ?_
  refine s_aload2 C dL_law_344 ?_
  refine s_arg (k := 1) C hR (by omega) (by decide) dL_law_345 dL_law_346 dL_law_347 dL_law_348 dL_law_349 ?_
  refine s_callV (c := 80) (T := TX10) (As := [.int (ys (i + 1))]) (v := some (.int v)) C rfl rfl (by decide) rfl (by omega) wL_22 rfl (Nat.le_of_ble_eq_true rfl) dL_law_350 (tX10_end C.2.2.2.2.2.2.1 (by omega) rfl e2) ?_
  exact s_ic_eq (tgt := 1921) (a := some ()) (b := none) (r := ()) C (if_pos rfl) dL_law_353 (by decide) ⟨fun _ => kk _ _ j1 j2, fun h => by cases h⟩
theorem lc_2 {E : En} {X : Xc} {b L : Nat} {ys : Nat → Int32} {i : Nat} {S : St} {M : Mem} (C : Cx E X 13 cL_law RL 4) (hR : Scr X b L ys) (hi : i + 6 ≤ L) (hM : JC S M) (hN : JR S M) (kk : ∀ S' M', JC S' M' → JR S' M' → At E X 1921 (lls E b i) [] M') : At E X 358 (lls E b i) [] M := by
  obtain ⟨v, M1, M2, S1, e1, e2, j1, j2⟩ := (m_program (S := S) ).use hM hN
  have h3 := hR.2.2.2
  refine s_aload1 C dL_law_358 ?_
  refine s_callV (c := 0) (T := TX9) (As := []) (v := some (.int v)) C rfl rfl (by decide) rfl (by omega) wL_23 rfl (Nat.le_of_ble_eq_true rfl) dL_law_359 (tX9_program C.2.2.2.2.2.2.1 (by omega) rfl e1) ?_
  refine s_aload2 C dL_law_362 ?_
  refine s_callV (c := 80) (T := TX10) (As := []) (v := some (.int v)) C rfl rfl (by decide) rfl (by omega) wL_27 rfl (Nat.le_of_ble_eq_true rfl) dL_law_363 (tX10_program C.2.2.2.2.2.2.1 (by omega) rfl e2) ?_
  exact s_ic_eq (tgt := 1921) (a := some ()) (b := none) (r := ()) C (if_pos rfl) dL_law_366 (by decide) ⟨fun _ => kk _ _ j1 j2, fun h => by cases h⟩
theorem lc_3 {E : En} {X : Xc} {b L : Nat} {ys : Nat → Int32} {i : Nat} {S : St} {M : Mem} (C : Cx E X 13 cL_law RL 4) (hR : Scr X b L ys) (hi : i + 6 ≤ L) (hM : JC S M) (hN : JR S M) (kk : ∀ S' M', JC S' M' → JR S' M' → At E X 1921 (lls E b i) [] M') : At E X 371 (lls E b i) [] M := by
  obtain ⟨v, M1, M2, S1, e1, e2, j1, j2⟩ := (m_fault (S := S) (ys (i + 1))).use hM hN
  have h3 := hR.2.2.2
  refine s_aload1 C dL_law_371 ?_
  refine s_arg (k := 1) C hR (by omega) (by decide) dL_law_372 dL_law_373 dL_law_374 dL_law_375 dL_law_376 ?_
  refine s_callV (c := 0) (T := TX9) (As := [.int (ys (i + 1))]) (v := some (.int v)) C rfl rfl (by decide) rfl (by omega) wL_28 rfl (Nat.le_of_ble_eq_true rfl) dL_law_377 (tX9_fault C.2.2.2.2.2.2.1 (by omega) rfl e1) ?_
  refine s_aload2 C dL_law_380 ?_
  refine s_arg (k := 1) C hR (by omega) (by decide) dL_law_381 dL_law_382 dL_law_383 dL_law_384 dL_law_385 ?_
  refine s_callV (c := 80) (T := TX10) (As := [.int (ys (i + 1))]) (v := some (.int v)) C rfl rfl (by decide) rfl (by omega) wL_31 rfl (Nat.le_of_ble_eq_true rfl) dL_law_386 (tX10_fault C.2.2.2.2.2.2.1 (by omega) rfl e2) ?_
  exact s_ic_eq (tgt := 1921) (a := some ()) (b := none) (r := ()) C (if_pos rfl) dL_law_389 (by decide) ⟨fun _ => kk _ _ j1 j2, fun h => by cases h⟩
theorem lc_4 {E : En} {X : Xc} {b L : Nat} {ys : Nat → Int32} {i : Nat} {S : St} {M : Mem} (C : Cx E X 13 cL_law RL 4) (hR : Scr X b L ys) (hi : i + 6 ≤ L) (hM : JC S M) (hN : JR S M) (kk : ∀ S' M', JC S' M' → JR S' M' → At E X 1921 (lls E b i) [] M') : At E X 394 (lls E b i) [] M := by
  obtain ⟨v, M1, M2, S1, e1, e2, j1, j2⟩ := (m_op (S := S) (ys (i + 1)) (ys (i + 2))).use hM hN
  have h3 := hR.2.2.2
  refine s_aload1 C dL_law_394 ?_
  refine s_arg (k := 1) C hR (by omega) (by decide) dL_law_395 dL_law_396 dL_law_397 dL_law_398 dL_law_399 ?_
  refine s_arg (k := 2) C hR (by omega) (by decide) dL_law_400 dL_law_401 dL_law_402 dL_law_403 dL_law_404 ?_
  refine s_callV (c := 0) (T := TX9) (As := [.int (ys (i + 1)), .int (ys (i + 2))]) (v := some (.int v)) C rfl rfl (by decide) rfl (by omega) wL_32 rfl (Nat.le_of_ble_eq_true rfl) dL_law_405 (tX9_op C.2.2.2.2.2.2.1 (by omega) rfl e1) ?_
  refine s_aload2 C dL_law_408 ?_
  refine s_arg (k := 1) C hR (by omega) (by decide) dL_law_409 dL_law_410 dL_law_411 dL_law_412 dL_law_413 ?_
  refine s_arg (k := 2) C hR (by omega) (by decide) dL_law_414 dL_law_415 dL_law_416 dL_law_417 dL_law_418 ?_
  refine s_callV (c := 80) (T := TX10) (As := [.int (ys (i + 1)), .int (ys (i + 2))]) (v := some (.int v)) C rfl rfl (by decide) rfl (by omega) wL_36 rfl (Nat.le_of_ble_eq_true rfl) dL_law_419 (tX10_op C.2.2.2.2.2.2.1 (by omega) rfl e2) ?_
  exact s_ic_eq (tgt := 1921) (a := some ()) (b := none) (r := ()) C (if_pos rfl) dL_law_422 (by decide) ⟨fun _ => kk _ _ j1 j2, fun h => by cases h⟩
theorem lc_5 {E : En} {X : Xc} {b L : Nat} {ys : Nat → Int32} {i : Nat} {S : St} {M : Mem} (C : Cx E X 13 cL_law RL 4) (hR : Scr X b L ys) (hi : i + 6 ≤ L) (hM : JC S M) (hN : JR S M) (kk : ∀ S' M', JC S' M' → JR S' M' → At E X 1921 (lls E b i) [] M') : At E X 427 (lls E b i) [] M := by
  obtain ⟨v, M1, M2, S1, e1, e2, j1, j2⟩ := (m_steps (S := S) ).use hM hN
  have h3 := hR.2.2.2
  refine s_aload1 C dL_law_427 ?_
  refine s_callV (c := 0) (T := TX9) (As := []) (v := some (.int v)) C rfl rfl (by decide) rfl (by omega) wL_37 rfl (Nat.le_of_ble_eq_true rfl) dL_law_428 (tX9_steps C.2.2.2.2.2.2.1 (by omega) rfl e1) ?_
  refine s_aload2 C dL_law_431 ?_
  refine s_callV (c := 80) (T := TX10) (As := []) (v := some (.int v)) C rfl rfl (by decide) rfl (by omega) wL_40 rfl (Nat.le_of_ble_eq_true rfl) dL_law_432 (tX10_steps C.2.2.2.2.2.2.1 (by omega) rfl e2) ?_
  exact s_ic_eq (tgt := 1921) (a := some ()) (b := none) (r := ()) C (if_pos rfl) dL_law_435 (by decide) ⟨fun _ => kk _ _ j1 j2, fun h => by cases h⟩
theorem lc_6 {E : En} {X : Xc} {b L : Nat} {ys : Nat → Int32} {i : Nat} {S : St} {M : Mem} (C : Cx E X 13 cL_law RL 4) (hR : Scr X b L ys) (hi : i + 6 ≤ L) (hM : JC S M) (hN : JR S M) (kk : ∀ S' M', JC S' M' → JR S' M' → At E X 1921 (lls E b i) [] M') : At E X 440 (lls E b i) [] M := by
  obtain ⟨v, M1, M2, S1, e1, e2, j1, j2⟩ := (m_why (S := S) ).use hM hN
  have h3 := hR.2.2.2
  refine s_aload1 C dL_law_440 ?_
  refine s_callV (c := 0) (T := TX9) (As := []) (v := some (.int v)) C rfl rfl (by decide) rfl (by omega) wL_41 rfl (Nat.le_of_ble_eq_true rfl) dL_law_441 (tX9_why C.2.2.2.2.2.2.1 (by omega) rfl e1) ?_
  refine s_aload2 C dL_law_444 ?_
  refine s_callV (c := 80) (T := TX10) (As := []) (v := some (.int v)) C rfl rfl (by decide) rfl (by omega) wL_44 rfl (Nat.le_of_ble_eq_true rfl) dL_law_445 (tX10_why C.2.2.2.2.2.2.1 (by omega) rfl e2) ?_
  exact s_ic_eq (tgt := 1921) (a := some ()) (b := none) (r := ()) C (if_pos rfl) dL_law_448 (by decide) ⟨fun _ => kk _ _ j1 j2, fun h => by cases h⟩
theorem lc_7 {E : En} {X : Xc} {b L : Nat} {ys : Nat → Int32} {i : Nat} {S : St} {M : Mem} (C : Cx E X 13 cL_law RL 4) (hR : Scr X b L ys) (hi : i + 6 ≤ L) (hM : JC S M) (hN : JR S M) (kk : ∀ S' M', JC S' M' → JR S' M' → At E X 1921 (lls E b i) [] M') : At E X 453 (lls E b i) [] M := by
  obtain ⟨v, M1, M2, S1, e1, e2, j1, j2⟩ := (m_next (S := S) (ys (i + 1))).use hM hN
  have h3 := hR.2.2.2
  refine s_aload1 C dL_law_453 ?_
  refine s_arg (k := 1) C hR (by omega) (by decide) dL_law_454 dL_law_455 dL_law_456 dL_law_457 dL_law_458 ?_
  refine s_callV (c := 0) (T := TX9) (As := [.int (ys (i + 1))]) (v := some (.int v)) C rfl rfl (by decide) rfl (by omega) wL_45 rfl (Nat.le_of_ble_eq_true rfl) dL_law_459 (tX9_next C.2.2.2.2.2.2.1 (by omega) rfl e1) ?_
  refine s_aload2 C dL_law_462 ?_
  refine s_arg (k := 1) C hR (by omega) (by decide) dL_law_463 dL_law_464 dL_law_465 dL_law_466 dL_law_467 ?_
  refine s_callV (c := 80) (T := TX10) (As := [.int (ys (i + 1))]) (v := some (.int v)) C rfl rfl (by decide) rfl (by omega) wL_48 rfl (Nat.le_of_ble_eq_true rfl) dL_law_468 (tX10_next C.2.2.2.2.2.2.1 (by omega) rfl e2) ?_
  exact s_ic_eq (tgt := 1921) (a := some ()) (b := none) (r := ()) C (if_pos rfl) dL_law_471 (by decide) ⟨fun _ => kk _ _ j1 j2, fun h => by cases h⟩
theorem lc_8 {E : En} {X : Xc} {b L : Nat} {ys : Nat → Int32} {i : Nat} {S : St} {M : Mem} (C : Cx E X 13 cL_law RL 4) (hR : Scr X b L ys) (hi : i + 6 ≤ L) (hM : JC S M) (hN : JR S M) (kk : ∀ S' M', JC S' M' → JR S' M' → At E X 1921 (lls E b i) [] M') : At E X 476 (lls E b i) [] M := by
  obtain ⟨v, M1, M2, S1, e1, e2, j1, j2⟩ := (m_register (S := S) (ys (i + 1)) (ys (i + 2))).use hM hN
  have h3 := hR.2.2.2
  refine s_aload1 C dL_law_476 ?_
  refine s_arg (k := 1) C hR (by omega) (by decide) dL_law_477 dL_law_478 dL_law_479 dL_law_480 dL_law_481 ?_
  refine s_arg (k := 2) C hR (by omega) (by decide) dL_law_482 dL_law_483 dL_law_484 dL_law_485 dL_law_486 ?_
  refine s_callV (c := 0) (T := TX9) (As := [.int (ys (i + 1)), .int (ys (i + 2))]) (v := some (.int v)) C rfl rfl (by decide) rfl (by omega) wL_49 rfl (Nat.le_of_ble_eq_true rfl) dL_law_487 (tX9_register C.2.2.2.2.2.2.1 (by omega) rfl e1) ?_
  refine s_aload2 C dL_law_490 ?_
  refine s_arg (k := 1) C hR (by omega) (by decide) dL_law_491 dL_law_492 dL_law_493 dL_law_494 dL_law_495 ?_
  refine s_arg (k := 2) C hR (by omega) (by decide) dL_law_496 dL_law_497 dL_law_498 dL_law_499 dL_law_500 ?_
  refine s_callV (c := 80) (T := TX10) (As := [.int (ys (i + 1)), .int (ys (i + 2))]) (v := some (.int v)) C rfl rfl (by decide) rfl (by omega) wL_52 rfl (Nat.le_of_ble_eq_true rfl) dL_law_501 (tX10_register C.2.2.2.2.2.2.1 (by omega) rfl e2) ?_
  exact s_ic_eq (tgt := 1921) (a := some ()) (b := none) (r := ()) C (if_pos rfl) dL_law_504 (by decide) ⟨fun _ => kk _ _ j1 j2, fun h => by cases h⟩
theorem lc_9 {E : En} {X : Xc} {b L : Nat} {ys : Nat → Int32} {i : Nat} {S : St} {M : Mem} (C : Cx E X 13 cL_law RL 4) (hR : Scr X b L ys) (hi : i + 6 ≤ L) (hM : JC S M) (hN : JR S M) (kk : ∀ S' M', JC S' M' → JR S' M' → At E X 1921 (lls E b i) [] M') : At E X 509 (lls E b i) [] M := by
  obtain ⟨v, M1, M2, S1, e1, e2, j1, j2⟩ := (m_branch (S := S) (ys (i + 1)) (ys (i + 2))).use hM hN
  have h3 := hR.2.2.2
  refine s_aload1 C dL_law_509 ?_
  refine s_arg (k := 1) C hR (by omega) (by decide) dL_law_510 dL_law_511 dL_law_512 dL_law_513 dL_law_514 ?_
  refine s_arg (k := 2) C hR (by omega) (by decide) dL_law_515 dL_law_516 dL_law_517 dL_law_518 dL_law_519 ?_
  refine s_callV (c := 0) (T := TX9) (As := [.int (ys (i + 1)), .int (ys (i + 2))]) (v := some (.int v)) C rfl rfl (by decide) rfl (by omega) wL_53 rfl (Nat.le_of_ble_eq_true rfl) dL_law_520 (tX9_branch C.2.2.2.2.2.2.1 (by omega) rfl e1) ?_
  refine s_aload2 C dL_law_523 ?_
  refine s_arg (k := 1) C hR (by omega) (by decide) dL_law_524 dL_law_525 dL_law_526 dL_law_527 dL_law_528 ?_
  refine s_arg (k := 2) C hR (by omega) (by decide) dL_law_529 dL_law_530 dL_law_531 dL_law_532 dL_law_533 ?_
  refine s_callV (c := 80) (T := TX10) (As := [.int (ys (i + 1)), .int (ys (i + 2))]) (v := some (.int v)) C rfl rfl (by decide) rfl (by omega) wL_56 rfl (Nat.le_of_ble_eq_true rfl) dL_law_534 (tX10_branch C.2.2.2.2.2.2.1 (by omega) rfl e2) ?_
  exact s_ic_eq (tgt := 1921) (a := some ()) (b := none) (r := ()) C (if_pos rfl) dL_law_537 (by decide) ⟨fun _ => kk _ _ j1 j2, fun h => by cases h⟩
theorem lc_10 {E : En} {X : Xc} {b L : Nat} {ys : Nat → Int32} {i : Nat} {S : St} {M : Mem} (C : Cx E X 13 cL_law RL 4) (hR : Scr X b L ys) (hi : i + 6 ≤ L) (hM : JC S M) (hN : JR S M) (kk : ∀ S' M', JC S' M' → JR S' M' → At E X 1921 (lls E b i) [] M') : At E X 542 (lls E b i) [] M := by
  obtain ⟨v, M1, M2, S1, e1, e2, j1, j2⟩ := (m_wrong (S := S) (ys (i + 1))).use hM hN
  have h3 := hR.2.2.2
  refine s_aload1 C dL_law_542 ?_
  refine s_arg (k := 1) C hR (by omega) (by decide) dL_law_543 dL_law_544 dL_law_545 dL_law_546 dL_law_547 ?_
  refine s_callV (c := 0) (T := TX9) (As := [.int (ys (i + 1))]) (v := some (.int v)) C rfl rfl (by decide) rfl (by omega) wL_57 rfl (Nat.le_of_ble_eq_true rfl) dL_law_548 (tX9_wrong C.2.2.2.2.2.2.1 (by omega) rfl e1) ?_
  refine s_aload2 C dL_law_551 ?_
  refine s_arg (k := 1) C hR (by omega) (by decide) dL_law_552 dL_law_553 dL_law_554 dL_law_555 dL_law_556 ?_
  refine s_callV (c := 80) (T := TX10) (As := [.int (ys (i + 1))]) (v := some (.int v)) C rfl rfl (by decide) rfl (by omega) wL_60 rfl (Nat.le_of_ble_eq_true rfl) dL_law_557 (tX10_wrong C.2.2.2.2.2.2.1 (by omega) rfl e2) ?_
  exact s_ic_eq (tgt := 1921) (a := some ()) (b := none) (r := ()) C (if_pos rfl) dL_law_560 (by decide) ⟨fun _ => kk _ _ j1 j2, fun h => by cases h⟩
theorem lc_11 {E : En} {X : Xc} {b L : Nat} {ys : Nat → Int32} {i : Nat} {S : St} {M : Mem} (C : Cx E X 13 cL_law RL 4) (hR : Scr X b L ys) (hi : i + 6 ≤ L) (hM : JC S M) (hN : JR S M) (kk : ∀ S' M', JC S' M' → JR S' M' → At E X 1921 (lls E b i) [] M') : At E X 565 (lls E b i) [] M := by
  obtain ⟨v, M1, M2, S1, e1, e2, j1, j2⟩ := (m_wrongs (S := S) (ys (i + 1))).use hM hN
  have h3 := hR.2.2.2
  refine s_aload1 C dL_law_565 ?_
  refine s_arg (k := 1) C hR (by omega) (by decide) dL_law_566 dL_law_567 dL_law_568 dL_law_569 dL_law_570 ?_
  refine s_callV (c := 0) (T := TX9) (As := [.int (ys (i + 1))]) (v := some (.int v)) C rfl rfl (by decide) rfl (by omega) wL_61 rfl (Nat.le_of_ble_eq_true rfl) dL_law_571 (tX9_wrongs C.2.2.2.2.2.2.1 (by omega) rfl e1) ?_
  refine s_aload2 C dL_law_574 ?_
  refine s_arg (k := 1) C hR (by omega) (by decide) dL_law_575 dL_law_576 dL_law_577 dL_law_578 dL_law_579 ?_
  refine s_callV (c := 80) (T := TX10) (As := [.int (ys (i + 1))]) (v := some (.int v)) C rfl rfl (by decide) rfl (by omega) wL_64 rfl (Nat.le_of_ble_eq_true rfl) dL_law_580 (tX10_wrongs C.2.2.2.2.2.2.1 (by omega) rfl e2) ?_
  exact s_ic_eq (tgt := 1921) (a := some ()) (b := none) (r := ()) C (if_pos rfl) dL_law_583 (by decide) ⟨fun _ => kk _ _ j1 j2, fun h => by cases h⟩
theorem lc_12 {E : En} {X : Xc} {b L : Nat} {ys : Nat → Int32} {i : Nat} {S : St} {M : Mem} (C : Cx E X 13 cL_law RL 4) (hR : Scr X b L ys) (hi : i + 6 ≤ L) (hM : JC S M) (hN : JR S M) (kk : ∀ S' M', JC S' M' → JR S' M' → At E X 1921 (lls E b i) [] M') : At E X 588 (lls E b i) [] M := by
  obtain ⟨v, M1, M2, S1, e1, e2, j1, j2⟩ := (m_worst (S := S) ).use hM hN
  have h3 := hR.2.2.2
  refine s_aload1 C dL_law_588 ?_
  refine s_callV (c := 0) (T := TX9) (As := []) (v := some (.int v)) C rfl rfl (by decide) rfl (by omega) wL_65 rfl (Nat.le_of_ble_eq_true rfl) dL_law_589 (tX9_worst C.2.2.2.2.2.2.1 (by omega) rfl e1) ?_
  refine s_aload2 C dL_law_592 ?_
  refine s_callV (c := 80) (T := TX10) (As := []) (v := some (.int v)) C rfl rfl (by decide) rfl (by omega) wL_68 rfl (Nat.le_of_ble_eq_true rfl) dL_law_593 (tX10_worst C.2.2.2.2.2.2.1 (by omega) rfl e2) ?_
  exact s_ic_eq (tgt := 1921) (a := some ()) (b := none) (r := ()) C (if_pos rfl) dL_law_596 (by decide) ⟨fun _ => kk _ _ j1 j2, fun h => by cases h⟩
theorem lc_13 {E : En} {X : Xc} {b L : Nat} {ys : Nat → Int32} {i : Nat} {S : St} {M : Mem} (C : Cx E X 13 cL_law RL 4) (hR : Scr X b L ys) (hi : i + 6 ≤ L) (hM : JC S M) (hN : JR S M) (kk : ∀ S' M', JC S' M' → JR S' M' → At E X 1921 (lls E b i) [] M') : At E X 601 (lls E b i) [] M := by
  obtain ⟨v, M1, M2, S1, e1, e2, j1, j2⟩ := (m_streak (S := S) ).use hM hN
  have h3 := hR.2.2.2
  refine s_aload1 C dL_law_601 ?_
  refine s_callV (c := 0) (T := TX9) (As := []) (v := some (.int v)) C rfl rfl (by decide) rfl (by omega) wL_69 rfl (Nat.le_of_ble_eq_true rfl) dL_law_602 (tX9_streak C.2.2.2.2.2.2.1 (by omega) rfl e1) ?_
  refine s_aload2 C dL_law_605 ?_
  refine s_callV (c := 80) (T := TX10) (As := []) (v := some (.int v)) C rfl rfl (by decide) rfl (by omega) wL_72 rfl (Nat.le_of_ble_eq_true rfl) dL_law_606 (tX10_streak C.2.2.2.2.2.2.1 (by omega) rfl e2) ?_
  exact s_ic_eq (tgt := 1921) (a := some ()) (b := none) (r := ()) C (if_pos rfl) dL_law_609 (by decide) ⟨fun _ => kk _ _ j1 j2, fun h => by cases h⟩
theorem lc_14 {E : En} {X : Xc} {b L : Nat} {ys : Nat → Int32} {i : Nat} {S : St} {M : Mem} (C : Cx E X 13 cL_law RL 4) (hR : Scr X b L ys) (hi : i + 6 ≤ L) (hM : JC S M) (hN : JR S M) (kk : ∀ S' M', JC S' M' → JR S' M' → At E X 1921 (lls E b i) [] M') : At E X 614 (lls E b i) [] M := by
  obtain ⟨v, M1, M2, S1, e1, e2, j1, j2⟩ := (m_said (S := S) (ys (i + 1))).use hM hN
  have h3 := hR.2.2.2
  refine s_aload1 C dL_law_614 ?_
  refine s_arg (k := 1) C hR (by omega) (by decide) dL_law_615 dL_law_616 dL_law_617 dL_law_618 dL_law_619 ?_
  refine s_callV (c := 0) (T := TX9) (As := [.int (ys (i + 1))]) (v := some (.int v)) C rfl rfl (by decide) rfl (by omega) wL_73 rfl (Nat.le_of_ble_eq_true rfl) dL_law_620 (tX9_said C.2.2.2.2.2.2.1 (by omega) rfl e1) ?_
  refine s_aload2 C dL_law_623 ?_
  refine s_arg (k := 1) C hR (by omega) (by decide) dL_law_624 dL_law_625 dL_law_626 dL_law_627 dL_law_628 ?_
  refine s_callV (c := 80) (T := TX10) (As := [.int (ys (i + 1))]) (v := some (.int v)) C rfl rfl (by decide) rfl (by omega) wL_76 rfl (Nat.le_of_ble_eq_true rfl) dL_law_629 (tX10_said C.2.2.2.2.2.2.1 (by omega) rfl e2) ?_
  exact s_ic_eq (tgt := 1921) (a := some ()) (b := none) (r := ()) C (if_pos rfl) dL_law_632 (by decide) ⟨fun _ => kk _ _ j1 j2, fun h => by cases h⟩
theorem lc_15 {E : En} {X : Xc} {b L : Nat} {ys : Nat → Int32} {i : Nat} {S : St} {M : Mem} (C : Cx E X 13 cL_law RL 4) (hR : Scr X b L ys) (hi : i + 6 ≤ L) (hM : JC S M) (hN : JR S M) (kk : ∀ S' M', JC S' M' → JR S' M' → At E X 1921 (lls E b i) [] M') : At E X 637 (lls E b i) [] M := by
  obtain ⟨v, M1, M2, S1, e1, e2, j1, j2⟩ := (m_gained (S := S) (ys (i + 1))).use hM hN
  have h3 := hR.2.2.2
  refine s_aload1 C dL_law_637 ?_
  refine s_arg (k := 1) C hR (by omega) (by decide) dL_law_638 dL_law_639 dL_law_640 dL_law_641 dL_law_642 ?_
  refine s_callV (c := 0) (T := TX9) (As := [.int (ys (i + 1))]) (v := some (.int v)) C rfl rfl (by decide) rfl (by omega) wL_77 rfl (Nat.le_of_ble_eq_true rfl) dL_law_643 (tX9_gained C.2.2.2.2.2.2.1 (by omega) rfl e1) ?_
  refine s_aload2 C dL_law_646 ?_
  refine s_arg (k := 1) C hR (by omega) (by decide) dL_law_647 dL_law_648 dL_law_649 dL_law_650 dL_law_651 ?_
  refine s_callV (c := 80) (T := TX10) (As := [.int (ys (i + 1))]) (v := some (.int v)) C rfl rfl (by decide) rfl (by omega) wL_80 rfl (Nat.le_of_ble_eq_true rfl) dL_law_652 (tX10_gained C.2.2.2.2.2.2.1 (by omega) rfl e2) ?_
  exact s_ic_eq (tgt := 1921) (a := some ()) (b := none) (r := ()) C (if_pos rfl) dL_law_655 (by decide) ⟨fun _ => kk _ _ j1 j2, fun h => by cases h⟩
theorem lc_16 {E : En} {X : Xc} {b L : Nat} {ys : Nat → Int32} {i : Nat} {S : St} {M : Mem} (C : Cx E X 13 cL_law RL 4) (hR : Scr X b L ys) (hi : i + 6 ≤ L) (hM : JC S M) (hN : JR S M) (kk : ∀ S' M', JC S' M' → JR S' M' → At E X 1921 (lls E b i) [] M') : At E X 660 (lls E b i) [] M := by
  obtain ⟨v, M1, M2, S1, e1, e2, j1, j2⟩ := (m_provided (S := S) (ys (i + 1))).use hM hN
  have h3 := hR.2.2.2
  refine s_aload1 C dL_law_660 ?_
  refine s_arg (k := 1) C hR (by omega) (by decide) dL_law_661 dL_law_662 dL_law_663 dL_law_664 dL_law_665 ?_
  refine s_callV (c := 0) (T := TX9) (As := [.int (ys (i + 1))]) (v := some (.int v)) C rfl rfl (by decide) rfl (by omega) wL_81 rfl (Nat.le_of_ble_eq_true rfl) dL_law_666 (tX9_provided C.2.2.2.2.2.2.1 (by omega) rfl e1) ?_
  refine s_aload2 C dL_law_669 ?_
  refine s_arg (k := 1) C hR (by omega) (by decide) dL_law_670 dL_law_671 dL_law_672 dL_law_673 dL_law_674 ?_
  refine s_callV (c := 80) (T := TX10) (As := [.int (ys (i + 1))]) (v := some (.int v)) C rfl rfl (by decide) rfl (by omega) wL_84 rfl (Nat.le_of_ble_eq_true rfl) dL_law_675 (tX10_provided C.2.2.2.2.2.2.1 (by omega) rfl e2) ?_
  exact s_ic_eq (tgt := 1921) (a := some ()) (b := none) (r := ()) C (if_pos rfl) dL_law_678 (by decide) ⟨fun _ => kk _ _ j1 j2, fun h => by cases h⟩
theorem lc_17 {E : En} {X : Xc} {b L : Nat} {ys : Nat → Int32} {i : Nat} {S : St} {M : Mem} (C : Cx E X 13 cL_law RL 4) (hR : Scr X b L ys) (hi : i + 6 ≤ L) (hM : JC S M) (hN : JR S M) (kk : ∀ S' M', JC S' M' → JR S' M' → At E X 1921 (lls E b i) [] M') : At E X 683 (lls E b i) [] M := by
  obtain ⟨v, M1, M2, S1, e1, e2, j1, j2⟩ := (m_history (S := S) (ys (i + 1)) (ys (i + 2))).use hM hN
  have h3 := hR.2.2.2
  refine s_aload1 C dL_law_683 ?_
  refine s_arg (k := 1) C hR (by omega) (by decide) dL_law_684 dL_law_685 dL_law_686 dL_law_687 dL_law_688 ?_
  refine s_arg (k := 2) C hR (by omega) (by decide) dL_law_689 dL_law_690 dL_law_691 dL_law_692 dL_law_693 ?_
  refine s_callV (c := 0) (T := TX9) (As := [.int (ys (i + 1)), .int (ys (i + 2))]) (v := some (.int v)) C rfl rfl (by decide) rfl (by omega) wL_85 rfl (Nat.le_of_ble_eq_true rfl) dL_law_694 (tX9_history C.2.2.2.2.2.2.1 (by omega) rfl e1) ?_
  refine s_aload2 C dL_law_697 ?_
  refine s_arg (k := 1) C hR (by omega) (by decide) dL_law_698 dL_law_699 dL_law_700 dL_law_701 dL_law_702 ?_
  refine s_arg (k := 2) C hR (by omega) (by decide) dL_law_703 dL_law_704 dL_law_705 dL_law_706 dL_law_707 ?_
  refine s_callV (c := 80) (T := TX10) (As := [.int (ys (i + 1)), .int (ys (i + 2))]) (v := some (.int v)) C rfl rfl (by decide) rfl (by omega) wL_88 rfl (Nat.le_of_ble_eq_true rfl) dL_law_708 (tX10_history C.2.2.2.2.2.2.1 (by omega) rfl e2) ?_
  exact s_ic_eq (tgt := 1921) (a := some ()) (b := none) (r := ()) C (if_pos rfl) dL_law_711 (by decide) ⟨fun _ => kk _ _ j1 j2, fun h => by cases h⟩
theorem lc_18 {E : En} {X : Xc} {b L : Nat} {ys : Nat → Int32} {i : Nat} {S : St} {M : Mem} (C : Cx E X 13 cL_law RL 4) (hR : Scr X b L ys) (hi : i + 6 ≤ L) (hM : JC S M) (hN : JR S M) (kk : ∀ S' M', JC S' M' → JR S' M' → At E X 1921 (lls E b i) [] M') : At E X 716 (lls E b i) [] M := by
  obtain ⟨v, M1, M2, S1, e1, e2, j1, j2⟩ := (m_fold (S := S) (ys (i + 1)) (ys (i + 2)) (ys (i + 3))).use hM hN
  have h3 := hR.2.2.2
  refine s_aload1 C dL_law_716 ?_
  refine s_arg (k := 1) C hR (by omega) (by decide) dL_law_717 dL_law_718 dL_law_719 dL_law_720 dL_law_721 ?_
  refine s_arg (k := 2) C hR (by omega) (by decide) dL_law_722 dL_law_723 dL_law_724 dL_law_725 dL_law_726 ?_
  refine s_arg (k := 3) C hR (by omega) (by decide) dL_law_727 dL_law_728 dL_law_729 dL_law_730 dL_law_731 ?_
  refine s_callV (c := 0) (T := TX9) (As := [.int (ys (i + 1)), .int (ys (i + 2)), .int (ys (i + 3))]) (v := some (.int v)) C rfl rfl (by decide) rfl (by omega) wL_89 rfl (Nat.le_of_ble_eq_true rfl) dL_law_732 (tX9_fold C.2.2.2.2.2.2.1 (by omega) rfl e1) ?_
  refine s_aload2 C dL_law_735 ?_
  refine s_arg (k := 1) C hR (by omega) (by decide) dL_law_736 dL_law_737 dL_law_738 dL_law_739 dL_law_740 ?_
  refine s_arg (k := 2) C hR (by omega) (by decide) dL_law_741 dL_law_742 dL_law_743 dL_law_744 dL_law_745 ?_
  refine s_arg (k := 3) C hR (by omega) (by decide) dL_law_746 dL_law_747 dL_law_748 dL_law_749 dL_law_750 ?_
  refine s_callV (c := 80) (T := TX10) (As := [.int (ys (i + 1)), .int (ys (i + 2)), .int (ys (i + 3))]) (v := some (.int v)) C rfl rfl (by decide) rfl (by omega) wL_93 rfl (Nat.le_of_ble_eq_true rfl) dL_law_751 (tX10_fold C.2.2.2.2.2.2.1 (by omega) rfl e2) ?_
  exact s_ic_eq (tgt := 1921) (a := some ()) (b := none) (r := ()) C (if_pos rfl) dL_law_754 (by decide) ⟨fun _ => kk _ _ j1 j2, fun h => by cases h⟩
theorem lc_19 {E : En} {X : Xc} {b L : Nat} {ys : Nat → Int32} {i : Nat} {S : St} {M : Mem} (C : Cx E X 13 cL_law RL 4) (hR : Scr X b L ys) (hi : i + 6 ≤ L) (hM : JC S M) (hN : JR S M) (kk : ∀ S' M', JC S' M' → JR S' M' → At E X 1921 (lls E b i) [] M') : At E X 759 (lls E b i) [] M := by
  obtain ⟨v, M1, M2, S1, e1, e2, j1, j2⟩ := (m_index (S := S) (ys (i + 1)) (ys (i + 2)) (ys (i + 3))).use hM hN
  have h3 := hR.2.2.2
  refine s_aload1 C dL_law_759 ?_
  refine s_arg (k := 1) C hR (by omega) (by decide) dL_law_760 dL_law_761 dL_law_762 dL_law_763 dL_law_764 ?_
  refine s_arg (k := 2) C hR (by omega) (by decide) dL_law_765 dL_law_766 dL_law_767 dL_law_768 dL_law_769 ?_
  refine s_arg (k := 3) C hR (by omega) (by decide) dL_law_770 dL_law_771 dL_law_772 dL_law_773 dL_law_774 ?_
  refine s_callV (c := 0) (T := TX9) (As := [.int (ys (i + 1)), .int (ys (i + 2)), .int (ys (i + 3))]) (v := some (.int v)) C rfl rfl (by decide) rfl (by omega) wL_94 rfl (Nat.le_of_ble_eq_true rfl) dL_law_775 (tX9_index C.2.2.2.2.2.2.1 (by omega) rfl e1) ?_
  refine s_aload2 C dL_law_778 ?_
  refine s_arg (k := 1) C hR (by omega) (by decide) dL_law_779 dL_law_780 dL_law_781 dL_law_782 dL_law_783 ?_
  refine s_arg (k := 2) C hR (by omega) (by decide) dL_law_784 dL_law_785 dL_law_786 dL_law_787 dL_law_788 ?_
  refine s_arg (k := 3) C hR (by omega) (by decide) dL_law_789 dL_law_790 dL_law_791 dL_law_792 dL_law_793 ?_
  refine s_callV (c := 80) (T := TX10) (As := [.int (ys (i + 1)), .int (ys (i + 2)), .int (ys (i + 3))]) (v := some (.int v)) C rfl rfl (by decide) rfl (by omega) wL_97 rfl (Nat.le_of_ble_eq_true rfl) dL_law_794 (tX10_index C.2.2.2.2.2.2.1 (by omega) rfl e2) ?_
  exact s_ic_eq (tgt := 1921) (a := some ()) (b := none) (r := ()) C (if_pos rfl) dL_law_797 (by decide) ⟨fun _ => kk _ _ j1 j2, fun h => by cases h⟩
theorem lc_20 {E : En} {X : Xc} {b L : Nat} {ys : Nat → Int32} {i : Nat} {S : St} {M : Mem} (C : Cx E X 13 cL_law RL 4) (hR : Scr X b L ys) (hi : i + 6 ≤ L) (hM : JC S M) (hN : JR S M) (kk : ∀ S' M', JC S' M' → JR S' M' → At E X 1921 (lls E b i) [] M') : At E X 802 (lls E b i) [] M := by
  obtain ⟨v, M1, M2, S1, e1, e2, j1, j2⟩ := (m_tag (S := S) (ys (i + 1)) (ys (i + 2)) (ys (i + 3))).use hM hN
  have h3 := hR.2.2.2
  refine s_aload1 C dL_law_802 ?_
  refine s_arg (k := 1) C hR (by omega) (by decide) dL_law_803 dL_law_804 dL_law_805 dL_law_806 dL_law_807 ?_
  refine s_arg (k := 2) C hR (by omega) (by decide) dL_law_808 dL_law_809 dL_law_810 dL_law_811 dL_law_812 ?_
  refine s_arg (k := 3) C hR (by omega) (by decide) dL_law_813 dL_law_814 dL_law_815 dL_law_816 dL_law_817 ?_
  refine s_callV (c := 0) (T := TX9) (As := [.int (ys (i + 1)), .int (ys (i + 2)), .int (ys (i + 3))]) (v := some (.int v)) C rfl rfl (by decide) rfl (by omega) wL_98 rfl (Nat.le_of_ble_eq_true rfl) dL_law_818 (tX9_tag C.2.2.2.2.2.2.1 (by omega) rfl e1) ?_
  refine s_aload2 C dL_law_821 ?_
  refine s_arg (k := 1) C hR (by omega) (by decide) dL_law_822 dL_law_823 dL_law_824 dL_law_825 dL_law_826 ?_
  refine s_arg (k := 2) C hR (by omega) (by decide) dL_law_827 dL_law_828 dL_law_829 dL_law_830 dL_law_831 ?_
  refine s_arg (k := 3) C hR (by omega) (by decide) dL_law_832 dL_law_833 dL_law_834 dL_law_835 dL_law_836 ?_
  refine s_callV (c := 80) (T := TX10) (As := [.int (ys (i + 1)), .int (ys (i + 2)), .int (ys (i + 3))]) (v := some (.int v)) C rfl rfl (by decide) rfl (by omega) wL_101 rfl (Nat.le_of_ble_eq_true rfl) dL_law_837 (tX10_tag C.2.2.2.2.2.2.1 (by omega) rfl e2) ?_
  exact s_ic_eq (tgt := 1921) (a := some ()) (b := none) (r := ()) C (if_pos rfl) dL_law_840 (by decide) ⟨fun _ => kk _ _ j1 j2, fun h => by cases h⟩
theorem lc_21 {E : En} {X : Xc} {b L : Nat} {ys : Nat → Int32} {i : Nat} {S : St} {M : Mem} (C : Cx E X 13 cL_law RL 4) (hR : Scr X b L ys) (hi : i + 6 ≤ L) (hM : JC S M) (hN : JR S M) (kk : ∀ S' M', JC S' M' → JR S' M' → At E X 1921 (lls E b i) [] M') : At E X 845 (lls E b i) [] M := by
  obtain ⟨v, M1, M2, S1, e1, e2, j1, j2⟩ := (m_provider (S := S) (ys (i + 1)) (ys (i + 2))).use hM hN
  have h3 := hR.2.2.2
  refine s_aload1 C dL_law_845 ?_
  refine s_arg (k := 1) C hR (by omega) (by decide) dL_law_846 dL_law_847 dL_law_848 dL_law_849 dL_law_850 ?_
  refine s_arg (k := 2) C hR (by omega) (by decide) dL_law_851 dL_law_852 dL_law_853 dL_law_854 dL_law_855 ?_
  refine s_callV (c := 0) (T := TX9) (As := [.int (ys (i + 1)), .int (ys (i + 2))]) (v := some (.int v)) C rfl rfl (by decide) rfl (by omega) wL_102 rfl (Nat.le_of_ble_eq_true rfl) dL_law_856 (tX9_provider C.2.2.2.2.2.2.1 (by omega) rfl e1) ?_
  refine s_aload2 C dL_law_859 ?_
  refine s_arg (k := 1) C hR (by omega) (by decide) dL_law_860 dL_law_861 dL_law_862 dL_law_863 dL_law_864 ?_
  refine s_arg (k := 2) C hR (by omega) (by decide) dL_law_865 dL_law_866 dL_law_867 dL_law_868 dL_law_869 ?_
  refine s_callV (c := 80) (T := TX10) (As := [.int (ys (i + 1)), .int (ys (i + 2))]) (v := some (.int v)) C rfl rfl (by decide) rfl (by omega) wL_105 rfl (Nat.le_of_ble_eq_true rfl) dL_law_870 (tX10_provider C.2.2.2.2.2.2.1 (by omega) rfl e2) ?_
  exact s_ic_eq (tgt := 1921) (a := some ()) (b := none) (r := ()) C (if_pos rfl) dL_law_873 (by decide) ⟨fun _ => kk _ _ j1 j2, fun h => by cases h⟩
theorem lc_22 {E : En} {X : Xc} {b L : Nat} {ys : Nat → Int32} {i : Nat} {S : St} {M : Mem} (C : Cx E X 13 cL_law RL 4) (hR : Scr X b L ys) (hi : i + 6 ≤ L) (hM : JC S M) (hN : JR S M) (kk : ∀ S' M', JC S' M' → JR S' M' → At E X 1921 (lls E b i) [] M') : At E X 878 (lls E b i) [] M := by
  obtain ⟨v, M1, M2, S1, e1, e2, j1, j2⟩ := (m_alternate (S := S) (ys (i + 1)) (ys (i + 2))).use hM hN
  have h3 := hR.2.2.2
  refine s_aload1 C dL_law_878 ?_
  refine s_arg (k := 1) C hR (by omega) (by decide) dL_law_879 dL_law_880 dL_law_881 dL_law_882 dL_law_883 ?_
  refine s_arg (k := 2) C hR (by omega) (by decide) dL_law_884 dL_law_885 dL_law_886 dL_law_887 dL_law_888 ?_
  refine s_callV (c := 0) (T := TX9) (As := [.int (ys (i + 1)), .int (ys (i + 2))]) (v := some (.int v)) C rfl rfl (by decide) rfl (by omega) wL_106 rfl (Nat.le_of_ble_eq_true rfl) dL_law_889 (tX9_alternate C.2.2.2.2.2.2.1 (by omega) rfl e1) ?_
  refine s_aload2 C dL_law_892 ?_
  refine s_arg (k := 1) C hR (by omega) (by decide) dL_law_893 dL_law_894 dL_law_895 dL_law_896 dL_law_897 ?_
  refine s_arg (k := 2) C hR (by omega) (by decide) dL_law_898 dL_law_899 dL_law_900 dL_law_901 dL_law_902 ?_
  refine s_callV (c := 80) (T := TX10) (As := [.int (ys (i + 1)), .int (ys (i + 2))]) (v := some (.int v)) C rfl rfl (by decide) rfl (by omega) wL_109 rfl (Nat.le_of_ble_eq_true rfl) dL_law_903 (tX10_alternate C.2.2.2.2.2.2.1 (by omega) rfl e2) ?_
  exact s_ic_eq (tgt := 1921) (a := some ()) (b := none) (r := ()) C (if_pos rfl) dL_law_906 (by decide) ⟨fun _ => kk _ _ j1 j2, fun h => by cases h⟩
theorem lc_23 {E : En} {X : Xc} {b L : Nat} {ys : Nat → Int32} {i : Nat} {S : St} {M : Mem} (C : Cx E X 13 cL_law RL 4) (hR : Scr X b L ys) (hi : i + 6 ≤ L) (hM : JC S M) (hN : JR S M) (kk : ∀ S' M', JC S' M' → JR S' M' → At E X 1921 (lls E b i) [] M') : At E X 911 (lls E b i) [] M := by
  obtain ⟨v, M1, M2, S1, e1, e2, j1, j2⟩ := (m_guess (S := S) (ys (i + 1)) (ys (i + 2))).use hM hN
  have h3 := hR.2.2.2
  refine s_aload1 C dL_law_911 ?_
  refine s_arg (k := 1) C hR (by omega) (by decide) dL_law_912 dL_law_913 dL_law_914 dL_law_915 dL_law_916 ?_
  refine s_arg (k := 2) C hR (by omega) (by decide) dL_law_917 dL_law_918 dL_law_919 dL_law_920 dL_law_921 ?_
  refine s_callV (c := 0) (T := TX9) (As := [.int (ys (i + 1)), .int (ys (i + 2))]) (v := some (.int v)) C rfl rfl (by decide) rfl (by omega) wL_110 rfl (Nat.le_of_ble_eq_true rfl) dL_law_922 (tX9_guess C.2.2.2.2.2.2.1 (by omega) rfl e1) ?_
  refine s_aload2 C dL_law_925 ?_
  refine s_arg (k := 1) C hR (by omega) (by decide) dL_law_926 dL_law_927 dL_law_928 dL_law_929 dL_law_930 ?_
  refine s_arg (k := 2) C hR (by omega) (by decide) dL_law_931 dL_law_932 dL_law_933 dL_law_934 dL_law_935 ?_
  refine s_callV (c := 80) (T := TX10) (As := [.int (ys (i + 1)), .int (ys (i + 2))]) (v := some (.int v)) C rfl rfl (by decide) rfl (by omega) wL_113 rfl (Nat.le_of_ble_eq_true rfl) dL_law_936 (tX10_guess C.2.2.2.2.2.2.1 (by omega) rfl e2) ?_
  exact s_ic_eq (tgt := 1921) (a := some ()) (b := none) (r := ()) C (if_pos rfl) dL_law_939 (by decide) ⟨fun _ => kk _ _ j1 j2, fun h => by cases h⟩
theorem lc_24 {E : En} {X : Xc} {b L : Nat} {ys : Nat → Int32} {i : Nat} {S : St} {M : Mem} (C : Cx E X 13 cL_law RL 4) (hR : Scr X b L ys) (hi : i + 6 ≤ L) (hM : JC S M) (hN : JR S M) (kk : ∀ S' M', JC S' M' → JR S' M' → At E X 1921 (lls E b i) [] M') : At E X 944 (lls E b i) [] M := by
  obtain ⟨v, M1, M2, S1, e1, e2, j1, j2⟩ := (m_adds (S := S) (ys (i + 1)) (ys (i + 2))).use hM hN
  have h3 := hR.2.2.2
  refine s_aload1 C dL_law_944 ?_
  refine s_arg (k := 1) C hR (by omega) (by decide) dL_law_945 dL_law_946 dL_law_947 dL_law_948 dL_law_949 ?_
  refine s_arg (k := 2) C hR (by omega) (by decide) dL_law_950 dL_law_951 dL_law_952 dL_law_953 dL_law_954 ?_
  refine s_callV (c := 0) (T := TX9) (As := [.int (ys (i + 1)), .int (ys (i + 2))]) (v := some (.int v)) C rfl rfl (by decide) rfl (by omega) wL_114 rfl (Nat.le_of_ble_eq_true rfl) dL_law_955 (tX9_adds C.2.2.2.2.2.2.1 (by omega) rfl e1) ?_
  refine s_aload2 C dL_law_958 ?_
  refine s_arg (k := 1) C hR (by omega) (by decide) dL_law_959 dL_law_960 dL_law_961 dL_law_962 dL_law_963 ?_
  refine s_arg (k := 2) C hR (by omega) (by decide) dL_law_964 dL_law_965 dL_law_966 dL_law_967 dL_law_968 ?_
  refine s_callV (c := 80) (T := TX10) (As := [.int (ys (i + 1)), .int (ys (i + 2))]) (v := some (.int v)) C rfl rfl (by decide) rfl (by omega) wL_117 rfl (Nat.le_of_ble_eq_true rfl) dL_law_969 (tX10_adds C.2.2.2.2.2.2.1 (by omega) rfl e2) ?_
  exact s_ic_eq (tgt := 1921) (a := some ()) (b := none) (r := ()) C (if_pos rfl) dL_law_972 (by decide) ⟨fun _ => kk _ _ j1 j2, fun h => by cases h⟩
theorem lc_25 {E : En} {X : Xc} {b L : Nat} {ys : Nat → Int32} {i : Nat} {S : St} {M : Mem} (C : Cx E X 13 cL_law RL 4) (hR : Scr X b L ys) (hi : i + 6 ≤ L) (hM : JC S M) (hN : JR S M) (kk : ∀ S' M', JC S' M' → JR S' M' → At E X 1921 (lls E b i) [] M') : At E X 977 (lls E b i) [] M := by
  obtain ⟨v, M1, M2, S1, e1, e2, j1, j2⟩ := (m_entry (S := S) (ys (i + 1)) (ys (i + 2)) (ys (i + 3)) (ys (i + 4))).use hM hN
  have h3 := hR.2.2.2
  refine s_aload1 C dL_law_977 ?_
  refine s_arg (k := 1) C hR (by omega) (by decide) dL_law_978 dL_law_979 dL_law_980 dL_law_981 dL_law_982 ?_
  refine s_arg (k := 2) C hR (by omega) (by decide) dL_law_983 dL_law_984 dL_law_985 dL_law_986 dL_law_987 ?_
  refine s_arg (k := 3) C hR (by omega) (by decide) dL_law_988 dL_law_989 dL_law_990 dL_law_991 dL_law_992 ?_
  refine s_arg (k := 4) C hR (by omega) (by decide) dL_law_993 dL_law_994 dL_law_995 dL_law_996 dL_law_997 ?_
  refine s_callV (c := 0) (T := TX9) (As := [.int (ys (i + 1)), .int (ys (i + 2)), .int (ys (i + 3)), .int (ys (i + 4))]) (v := some (.int v)) C rfl rfl (by decide) rfl (by omega) wL_118 rfl (Nat.le_of_ble_eq_true rfl) dL_law_998 (tX9_entry C.2.2.2.2.2.2.1 (by omega) rfl e1) ?_
  refine s_aload2 C dL_law_1001 ?_
  refine s_arg (k := 1) C hR (by omega) (by decide) dL_law_1002 dL_law_1003 dL_law_1004 dL_law_1005 dL_law_1006 ?_
  refine s_arg (k := 2) C hR (by omega) (by decide) dL_law_1007 dL_law_1008 dL_law_1009 dL_law_1010 dL_law_1011 ?_
  refine s_arg (k := 3) C hR (by omega) (by decide) dL_law_1012 dL_law_1013 dL_law_1014 dL_law_1015 dL_law_1016 ?_
  refine s_arg (k := 4) C hR (by omega) (by decide) dL_law_1017 dL_law_1018 dL_law_1019 dL_law_1020 dL_law_1021 ?_
  refine s_callV (c := 80) (T := TX10) (As := [.int (ys (i + 1)), .int (ys (i + 2)), .int (ys (i + 3)), .int (ys (i + 4))]) (v := some (.int v)) C rfl rfl (by decide) rfl (by omega) wL_122 rfl (Nat.le_of_ble_eq_true rfl) dL_law_1022 (tX10_entry C.2.2.2.2.2.2.1 (by omega) rfl e2) ?_
  exact s_ic_eq (tgt := 1921) (a := some ()) (b := none) (r := ()) C (if_pos rfl) dL_law_1025 (by decide) ⟨fun _ => kk _ _ j1 j2, fun h => by cases h⟩
theorem lc_26 {E : En} {X : Xc} {b L : Nat} {ys : Nat → Int32} {i : Nat} {S : St} {M : Mem} (C : Cx E X 13 cL_law RL 4) (hR : Scr X b L ys) (hi : i + 6 ≤ L) (hM : JC S M) (hN : JR S M) (kk : ∀ S' M', JC S' M' → JR S' M' → At E X 1921 (lls E b i) [] M') : At E X 1030 (lls E b i) [] M := by
  obtain ⟨v, M1, M2, S1, e1, e2, j1, j2⟩ := (m_held (S := S) (ys (i + 1)) (ys (i + 2))).use hM hN
  have h3 := hR.2.2.2
  refine s_aload1 C dL_law_1030 ?_
  refine s_arg (k := 1) C hR (by omega) (by decide) dL_law_1031 dL_law_1032 dL_law_1033 dL_law_1034 dL_law_1035 ?_
  refine s_arg (k := 2) C hR (by omega) (by decide) dL_law_1036 dL_law_1037 dL_law_1038 dL_law_1039 dL_law_1040 ?_
  refine s_callV (c := 0) (T := TX9) (As := [.int (ys (i + 1)), .int (ys (i + 2))]) (v := some (.int v)) C rfl rfl (by decide) rfl (by omega) wL_123 rfl (Nat.le_of_ble_eq_true rfl) dL_law_1041 (tX9_held C.2.2.2.2.2.2.1 (by omega) rfl e1) ?_
  refine s_aload2 C dL_law_1044 ?_
  refine s_arg (k := 1) C hR (by omega) (by decide) dL_law_1045 dL_law_1046 dL_law_1047 dL_law_1048 dL_law_1049 ?_
  refine s_arg (k := 2) C hR (by omega) (by decide) dL_law_1050 dL_law_1051 dL_law_1052 dL_law_1053 dL_law_1054 ?_
  refine s_callV (c := 80) (T := TX10) (As := [.int (ys (i + 1)), .int (ys (i + 2))]) (v := some (.int v)) C rfl rfl (by decide) rfl (by omega) wL_126 rfl (Nat.le_of_ble_eq_true rfl) dL_law_1055 (tX10_held C.2.2.2.2.2.2.1 (by omega) rfl e2) ?_
  exact s_ic_eq (tgt := 1921) (a := some ()) (b := none) (r := ()) C (if_pos rfl) dL_law_1058 (by decide) ⟨fun _ => kk _ _ j1 j2, fun h => by cases h⟩
theorem lc_27 {E : En} {X : Xc} {b L : Nat} {ys : Nat → Int32} {i : Nat} {S : St} {M : Mem} (C : Cx E X 13 cL_law RL 4) (hR : Scr X b L ys) (hi : i + 6 ≤ L) (hM : JC S M) (hN : JR S M) (kk : ∀ S' M', JC S' M' → JR S' M' → At E X 1921 (lls E b i) [] M') : At E X 1063 (lls E b i) [] M := by
  obtain ⟨v, M1, M2, S1, e1, e2, j1, j2⟩ := (m_base (S := S) (ys (i + 1)) (ys (i + 2))).use hM hN
  have h3 := hR.2.2.2
  refine s_aload1 C dL_law_1063 ?_
  refine s_arg (k := 1) C hR (by omega) (by decide) dL_law_1064 dL_law_1065 dL_law_1066 dL_law_1067 dL_law_1068 ?_
  refine s_arg (k := 2) C hR (by omega) (by decide) dL_law_1069 dL_law_1070 dL_law_1071 dL_law_1072 dL_law_1073 ?_
  refine s_callV (c := 0) (T := TX9) (As := [.int (ys (i + 1)), .int (ys (i + 2))]) (v := some (.int v)) C rfl rfl (by decide) rfl (by omega) wL_127 rfl (Nat.le_of_ble_eq_true rfl) dL_law_1074 (tX9_base C.2.2.2.2.2.2.1 (by omega) rfl e1) ?_
  refine s_aload2 C dL_law_1077 ?_
  refine s_arg (k := 1) C hR (by omega) (by decide) dL_law_1078 dL_law_1079 dL_law_1080 dL_law_1081 dL_law_1082 ?_
  refine s_arg (k := 2) C hR (by omega) (by decide) dL_law_1083 dL_law_1084 dL_law_1085 dL_law_1086 dL_law_1087 ?_
  refine s_callV (c := 80) (T := TX10) (As := [.int (ys (i + 1)), .int (ys (i + 2))]) (v := some (.int v)) C rfl rfl (by decide) rfl (by omega) wL_130 rfl (Nat.le_of_ble_eq_true rfl) dL_law_1088 (tX10_base C.2.2.2.2.2.2.1 (by omega) rfl e2) ?_
  exact s_ic_eq (tgt := 1921) (a := some ()) (b := none) (r := ()) C (if_pos rfl) dL_law_1091 (by decide) ⟨fun _ => kk _ _ j1 j2, fun h => by cases h⟩
theorem lc_28 {E : En} {X : Xc} {b L : Nat} {ys : Nat → Int32} {i : Nat} {S : St} {M : Mem} (C : Cx E X 13 cL_law RL 4) (hR : Scr X b L ys) (hi : i + 6 ≤ L) (hM : JC S M) (hN : JR S M) (kk : ∀ S' M', JC S' M' → JR S' M' → At E X 1921 (lls E b i) [] M') : At E X 1096 (lls E b i) [] M := by
  obtain ⟨v, M1, M2, S1, e1, e2, j1, j2⟩ := (m_gauge (S := S) (ys (i + 1)) (ys (i + 2))).use hM hN
  have h3 := hR.2.2.2
  refine s_aload1 C dL_law_1096 ?_
  refine s_arg (k := 1) C hR (by omega) (by decide) dL_law_1097 dL_law_1098 dL_law_1099 dL_law_1100 dL_law_1101 ?_
  refine s_arg (k := 2) C hR (by omega) (by decide) dL_law_1102 dL_law_1103 dL_law_1104 dL_law_1105 dL_law_1106 ?_
  refine s_callV (c := 0) (T := TX9) (As := [.int (ys (i + 1)), .int (ys (i + 2))]) (v := some (.int v)) C rfl rfl (by decide) rfl (by omega) wL_131 rfl (Nat.le_of_ble_eq_true rfl) dL_law_1107 (tX9_gauge C.2.2.2.2.2.2.1 (by omega) rfl e1) ?_
  refine s_aload2 C dL_law_1110 ?_
  refine s_arg (k := 1) C hR (by omega) (by decide) dL_law_1111 dL_law_1112 dL_law_1113 dL_law_1114 dL_law_1115 ?_
  refine s_arg (k := 2) C hR (by omega) (by decide) dL_law_1116 dL_law_1117 dL_law_1118 dL_law_1119 dL_law_1120 ?_
  refine s_callV (c := 80) (T := TX10) (As := [.int (ys (i + 1)), .int (ys (i + 2))]) (v := some (.int v)) C rfl rfl (by decide) rfl (by omega) wL_134 rfl (Nat.le_of_ble_eq_true rfl) dL_law_1121 (tX10_gauge C.2.2.2.2.2.2.1 (by omega) rfl e2) ?_
  exact s_ic_eq (tgt := 1921) (a := some ()) (b := none) (r := ()) C (if_pos rfl) dL_law_1124 (by decide) ⟨fun _ => kk _ _ j1 j2, fun h => by cases h⟩
theorem lc_29 {E : En} {X : Xc} {b L : Nat} {ys : Nat → Int32} {i : Nat} {S : St} {M : Mem} (C : Cx E X 13 cL_law RL 4) (hR : Scr X b L ys) (hi : i + 6 ≤ L) (hM : JC S M) (hN : JR S M) (kk : ∀ S' M', JC S' M' → JR S' M' → At E X 1921 (lls E b i) [] M') : At E X 1129 (lls E b i) [] M := by
  obtain ⟨v, M1, M2, S1, e1, e2, j1, j2⟩ := (m_loop (S := S) (ys (i + 1)) (ys (i + 2)) (ys (i + 3))).use hM hN
  have h3 := hR.2.2.2
  refine s_aload1 C dL_law_1129 ?_
  refine s_arg (k := 1) C hR (by omega) (by decide) dL_law_1130 dL_law_1131 dL_law_1132 dL_law_1133 dL_law_1134 ?_
  refine s_arg (k := 2) C hR (by omega) (by decide) dL_law_1135 dL_law_1136 dL_law_1137 dL_law_1138 dL_law_1139 ?_
  refine s_arg (k := 3) C hR (by omega) (by decide) dL_law_1140 dL_law_1141 dL_law_1142 dL_law_1143 dL_law_1144 ?_
  refine s_callV (c := 0) (T := TX9) (As := [.int (ys (i + 1)), .int (ys (i + 2)), .int (ys (i + 3))]) (v := some (.int v)) C rfl rfl (by decide) rfl (by omega) wL_135 rfl (Nat.le_of_ble_eq_true rfl) dL_law_1145 (tX9_loop C.2.2.2.2.2.2.1 (by omega) rfl e1) ?_
  refine s_aload2 C dL_law_1148 ?_
  refine s_arg (k := 1) C hR (by omega) (by decide) dL_law_1149 dL_law_1150 dL_law_1151 dL_law_1152 dL_law_1153 ?_
  refine s_arg (k := 2) C hR (by omega) (by decide) dL_law_1154 dL_law_1155 dL_law_1156 dL_law_1157 dL_law_1158 ?_
  refine s_arg (k := 3) C hR (by omega) (by decide) dL_law_1159 dL_law_1160 dL_law_1161 dL_law_1162 dL_law_1163 ?_
  refine s_callV (c := 80) (T := TX10) (As := [.int (ys (i + 1)), .int (ys (i + 2)), .int (ys (i + 3))]) (v := some (.int v)) C rfl rfl (by decide) rfl (by omega) wL_138 rfl (Nat.le_of_ble_eq_true rfl) dL_law_1164 (tX10_loop C.2.2.2.2.2.2.1 (by omega) rfl e2) ?_
  exact s_ic_eq (tgt := 1921) (a := some ()) (b := none) (r := ()) C (if_pos rfl) dL_law_1167 (by decide) ⟨fun _ => kk _ _ j1 j2, fun h => by cases h⟩
theorem lc_30 {E : En} {X : Xc} {b L : Nat} {ys : Nat → Int32} {i : Nat} {S : St} {M : Mem} (C : Cx E X 13 cL_law RL 4) (hR : Scr X b L ys) (hi : i + 6 ≤ L) (hM : JC S M) (hN : JR S M) (kk : ∀ S' M', JC S' M' → JR S' M' → At E X 1921 (lls E b i) [] M') : At E X 1172 (lls E b i) [] M := by
  obtain ⟨v, M1, M2, S1, e1, e2, j1, j2⟩ := (m_corrector (S := S) (ys (i + 1)) (ys (i + 2)) (ys (i + 3))).use hM hN
  have h3 := hR.2.2.2
  refine s_aload1 C dL_law_1172 ?_
  refine s_arg (k := 1) C hR (by omega) (by decide) dL_law_1173 dL_law_1174 dL_law_1175 dL_law_1176 dL_law_1177 ?_
  refine s_arg (k := 2) C hR (by omega) (by decide) dL_law_1178 dL_law_1179 dL_law_1180 dL_law_1181 dL_law_1182 ?_
  refine s_arg (k := 3) C hR (by omega) (by decide) dL_law_1183 dL_law_1184 dL_law_1185 dL_law_1186 dL_law_1187 ?_
  refine s_callV (c := 0) (T := TX9) (As := [.int (ys (i + 1)), .int (ys (i + 2)), .int (ys (i + 3))]) (v := some (.int v)) C rfl rfl (by decide) rfl (by omega) wL_139 rfl (Nat.le_of_ble_eq_true rfl) dL_law_1188 (tX9_corrector C.2.2.2.2.2.2.1 (by omega) rfl e1) ?_
  refine s_aload2 C dL_law_1191 ?_
  refine s_arg (k := 1) C hR (by omega) (by decide) dL_law_1192 dL_law_1193 dL_law_1194 dL_law_1195 dL_law_1196 ?_
  refine s_arg (k := 2) C hR (by omega) (by decide) dL_law_1197 dL_law_1198 dL_law_1199 dL_law_1200 dL_law_1201 ?_
  refine s_arg (k := 3) C hR (by omega) (by decide) dL_law_1202 dL_law_1203 dL_law_1204 dL_law_1205 dL_law_1206 ?_
  refine s_callV (c := 80) (T := TX10) (As := [.int (ys (i + 1)), .int (ys (i + 2)), .int (ys (i + 3))]) (v := some (.int v)) C rfl rfl (by decide) rfl (by omega) wL_142 rfl (Nat.le_of_ble_eq_true rfl) dL_law_1207 (tX10_corrector C.2.2.2.2.2.2.1 (by omega) rfl e2) ?_
  exact s_ic_eq (tgt := 1921) (a := some ()) (b := none) (r := ()) C (if_pos rfl) dL_law_1210 (by decide) ⟨fun _ => kk _ _ j1 j2, fun h => by cases h⟩
theorem lc_31 {E : En} {X : Xc} {b L : Nat} {ys : Nat → Int32} {i : Nat} {S : St} {M : Mem} (C : Cx E X 13 cL_law RL 4) (hR : Scr X b L ys) (hi : i + 6 ≤ L) (hM : JC S M) (hN : JR S M) (kk : ∀ S' M', JC S' M' → JR S' M' → At E X 1921 (lls E b i) [] M') : At E X 1215 (lls E b i) [] M := by
  obtain ⟨v, M1, M2, S1, e1, e2, j1, j2⟩ := (m_clash (S := S) (ys (i + 1)) (ys (i + 2)) (ys (i + 3))).use hM hN
  have h3 := hR.2.2.2
  refine s_aload1 C dL_law_1215 ?_
  refine s_arg (k := 1) C hR (by omega) (by decide) dL_law_1216 dL_law_1217 dL_law_1218 dL_law_1219 dL_law_1220 ?_
  refine s_arg (k := 2) C hR (by omega) (by decide) dL_law_1221 dL_law_1222 dL_law_1223 dL_law_1224 dL_law_1225 ?_
  refine s_arg (k := 3) C hR (by omega) (by decide) dL_law_1226 dL_law_1227 dL_law_1228 dL_law_1229 dL_law_1230 ?_
  refine s_callV (c := 0) (T := TX9) (As := [.int (ys (i + 1)), .int (ys (i + 2)), .int (ys (i + 3))]) (v := some (.int v)) C rfl rfl (by decide) rfl (by omega) wL_143 rfl (Nat.le_of_ble_eq_true rfl) dL_law_1231 (tX9_clash C.2.2.2.2.2.2.1 (by omega) rfl e1) ?_
  refine s_aload2 C dL_law_1234 ?_
  refine s_arg (k := 1) C hR (by omega) (by decide) dL_law_1235 dL_law_1236 dL_law_1237 dL_law_1238 dL_law_1239 ?_
  refine s_arg (k := 2) C hR (by omega) (by decide) dL_law_1240 dL_law_1241 dL_law_1242 dL_law_1243 dL_law_1244 ?_
  refine s_arg (k := 3) C hR (by omega) (by decide) dL_law_1245 dL_law_1246 dL_law_1247 dL_law_1248 dL_law_1249 ?_
  refine s_callV (c := 80) (T := TX10) (As := [.int (ys (i + 1)), .int (ys (i + 2)), .int (ys (i + 3))]) (v := some (.int v)) C rfl rfl (by decide) rfl (by omega) wL_146 rfl (Nat.le_of_ble_eq_true rfl) dL_law_1250 (tX10_clash C.2.2.2.2.2.2.1 (by omega) rfl e2) ?_
  exact s_ic_eq (tgt := 1921) (a := some ()) (b := none) (r := ()) C (if_pos rfl) dL_law_1253 (by decide) ⟨fun _ => kk _ _ j1 j2, fun h => by cases h⟩
theorem lc_32 {E : En} {X : Xc} {b L : Nat} {ys : Nat → Int32} {i : Nat} {S : St} {M : Mem} (C : Cx E X 13 cL_law RL 4) (hR : Scr X b L ys) (hi : i + 6 ≤ L) (hM : JC S M) (hN : JR S M) (kk : ∀ S' M', JC S' M' → JR S' M' → At E X 1921 (lls E b i) [] M') : At E X 1258 (lls E b i) [] M := by
  obtain ⟨v, M1, M2, S1, e1, e2, j1, j2⟩ := (m_strays (S := S) (ys (i + 1))).use hM hN
  have h3 := hR.2.2.2
  refine s_aload1 C dL_law_1258 ?_
  refine s_arg (k := 1) C hR (by omega) (by decide) dL_law_1259 dL_law_1260 dL_law_1261 dL_law_1262 dL_law_1263 ?_
  refine s_callV (c := 0) (T := TX9) (As := [.int (ys (i + 1))]) (v := some (.int v)) C rfl rfl (by decide) rfl (by omega) wL_147 rfl (Nat.le_of_ble_eq_true rfl) dL_law_1264 (tX9_strays C.2.2.2.2.2.2.1 (by omega) rfl e1) ?_
  refine s_aload2 C dL_law_1267 ?_
  refine s_arg (k := 1) C hR (by omega) (by decide) dL_law_1268 dL_law_1269 dL_law_1270 dL_law_1271 dL_law_1272 ?_
  refine s_callV (c := 80) (T := TX10) (As := [.int (ys (i + 1))]) (v := some (.int v)) C rfl rfl (by decide) rfl (by omega) wL_150 rfl (Nat.le_of_ble_eq_true rfl) dL_law_1273 (tX10_strays C.2.2.2.2.2.2.1 (by omega) rfl e2) ?_
  exact s_ic_eq (tgt := 1921) (a := some ()) (b := none) (r := ()) C (if_pos rfl) dL_law_1276 (by decide) ⟨fun _ => kk _ _ j1 j2, fun h => by cases h⟩
theorem lc_33 {E : En} {X : Xc} {b L : Nat} {ys : Nat → Int32} {i : Nat} {S : St} {M : Mem} (C : Cx E X 13 cL_law RL 4) (hR : Scr X b L ys) (hi : i + 6 ≤ L) (hM : JC S M) (hN : JR S M) (kk : ∀ S' M', JC S' M' → JR S' M' → At E X 1921 (lls E b i) [] M') : At E X 1281 (lls E b i) [] M := by
  obtain ⟨v, M1, M2, S1, e1, e2, j1, j2⟩ := (m_stray (S := S) (ys (i + 1)) (ys (i + 2))).use hM hN
  have h3 := hR.2.2.2
  refine s_aload1 C dL_law_1281 ?_
  refine s_arg (k := 1) C hR (by omega) (by decide) dL_law_1282 dL_law_1283 dL_law_1284 dL_law_1285 dL_law_1286 ?_
  refine s_arg (k := 2) C hR (by omega) (by decide) dL_law_1287 dL_law_1288 dL_law_1289 dL_law_1290 dL_law_1291 ?_
  refine s_callV (c := 0) (T := TX9) (As := [.int (ys (i + 1)), .int (ys (i + 2))]) (v := some (.int v)) C rfl rfl (by decide) rfl (by omega) wL_151 rfl (Nat.le_of_ble_eq_true rfl) dL_law_1292 (tX9_stray C.2.2.2.2.2.2.1 (by omega) rfl e1) ?_
  refine s_aload2 C dL_law_1295 ?_
  refine s_arg (k := 1) C hR (by omega) (by decide) dL_law_1296 dL_law_1297 dL_law_1298 dL_law_1299 dL_law_1300 ?_
  refine s_arg (k := 2) C hR (by omega) (by decide) dL_law_1301 dL_law_1302 dL_law_1303 dL_law_1304 dL_law_1305 ?_
  refine s_callV (c := 80) (T := TX10) (As := [.int (ys (i + 1)), .int (ys (i + 2))]) (v := some (.int v)) C rfl rfl (by decide) rfl (by omega) wL_154 rfl (Nat.le_of_ble_eq_true rfl) dL_law_1306 (tX10_stray C.2.2.2.2.2.2.1 (by omega) rfl e2) ?_
  exact s_ic_eq (tgt := 1921) (a := some ()) (b := none) (r := ()) C (if_pos rfl) dL_law_1309 (by decide) ⟨fun _ => kk _ _ j1 j2, fun h => by cases h⟩
theorem lc_34 {E : En} {X : Xc} {b L : Nat} {ys : Nat → Int32} {i : Nat} {S : St} {M : Mem} (C : Cx E X 13 cL_law RL 4) (hR : Scr X b L ys) (hi : i + 6 ≤ L) (hM : JC S M) (hN : JR S M) (kk : ∀ S' M', JC S' M' → JR S' M' → At E X 1921 (lls E b i) [] M') : At E X 1314 (lls E b i) [] M := by
  obtain ⟨v, M1, M2, S1, e1, e2, j1, j2⟩ := (m_cycles (S := S) ).use hM hN
  have h3 := hR.2.2.2
  refine s_aload1 C dL_law_1314 ?_
  refine s_callV (c := 0) (T := TX9) (As := []) (v := some (.int v)) C rfl rfl (by decide) rfl (by omega) wL_155 rfl (Nat.le_of_ble_eq_true rfl) dL_law_1315 (tX9_cycles C.2.2.2.2.2.2.1 (by omega) rfl e1) ?_
  refine s_aload2 C dL_law_1318 ?_
  refine s_callV (c := 80) (T := TX10) (As := []) (v := some (.int v)) C rfl rfl (by decide) rfl (by omega) wL_158 rfl (Nat.le_of_ble_eq_true rfl) dL_law_1319 (tX10_cycles C.2.2.2.2.2.2.1 (by omega) rfl e2) ?_
  exact s_ic_eq (tgt := 1921) (a := some ()) (b := none) (r := ()) C (if_pos rfl) dL_law_1322 (by decide) ⟨fun _ => kk _ _ j1 j2, fun h => by cases h⟩
theorem lc_35 {E : En} {X : Xc} {b L : Nat} {ys : Nat → Int32} {i : Nat} {S : St} {M : Mem} (C : Cx E X 13 cL_law RL 4) (hR : Scr X b L ys) (hi : i + 6 ≤ L) (hM : JC S M) (hN : JR S M) (kk : ∀ S' M', JC S' M' → JR S' M' → At E X 1921 (lls E b i) [] M') : At E X 1327 (lls E b i) [] M := by
  obtain ⟨v, M1, M2, S1, e1, e2, j1, j2⟩ := (m_cheapest (S := S) ).use hM hN
  have h3 := hR.2.2.2
  refine s_aload1 C dL_law_1327 ?_
  refine s_callV (c := 0) (T := TX9) (As := []) (v := some (.int v)) C rfl rfl (by decide) rfl (by omega) wL_159 rfl (Nat.le_of_ble_eq_true rfl) dL_law_1328 (tX9_cheapest C.2.2.2.2.2.2.1 (by omega) rfl e1) ?_
  refine s_aload2 C dL_law_1331 ?_
  refine s_callV (c := 80) (T := TX10) (As := []) (v := some (.int v)) C rfl rfl (by decide) rfl (by omega) wL_162 rfl (Nat.le_of_ble_eq_true rfl) dL_law_1332 (tX10_cheapest C.2.2.2.2.2.2.1 (by omega) rfl e2) ?_
  exact s_ic_eq (tgt := 1921) (a := some ()) (b := none) (r := ()) C (if_pos rfl) dL_law_1335 (by decide) ⟨fun _ => kk _ _ j1 j2, fun h => by cases h⟩
theorem lc_36 {E : En} {X : Xc} {b L : Nat} {ys : Nat → Int32} {i : Nat} {S : St} {M : Mem} (C : Cx E X 13 cL_law RL 4) (hR : Scr X b L ys) (hi : i + 6 ≤ L) (hM : JC S M) (hN : JR S M) (kk : ∀ S' M', JC S' M' → JR S' M' → At E X 1921 (lls E b i) [] M') : At E X 1340 (lls E b i) [] M := by
  obtain ⟨v, M1, M2, S1, e1, e2, j1, j2⟩ := (m_by (S := S) (ys (i + 1))).use hM hN
  have h3 := hR.2.2.2
  refine s_aload1 C dL_law_1340 ?_
  refine s_arg (k := 1) C hR (by omega) (by decide) dL_law_1341 dL_law_1342 dL_law_1343 dL_law_1344 dL_law_1345 ?_
  refine s_callV (c := 0) (T := TX9) (As := [.int (ys (i + 1))]) (v := some (.int v)) C rfl rfl (by decide) rfl (by omega) wL_163 rfl (Nat.le_of_ble_eq_true rfl) dL_law_1346 (tX9_by C.2.2.2.2.2.2.1 (by omega) rfl e1) ?_
  refine s_aload2 C dL_law_1349 ?_
  refine s_arg (k := 1) C hR (by omega) (by decide) dL_law_1350 dL_law_1351 dL_law_1352 dL_law_1353 dL_law_1354 ?_
  refine s_callV (c := 80) (T := TX10) (As := [.int (ys (i + 1))]) (v := some (.int v)) C rfl rfl (by decide) rfl (by omega) wL_166 rfl (Nat.le_of_ble_eq_true rfl) dL_law_1355 (tX10_by C.2.2.2.2.2.2.1 (by omega) rfl e2) ?_
  exact s_ic_eq (tgt := 1921) (a := some ()) (b := none) (r := ()) C (if_pos rfl) dL_law_1358 (by decide) ⟨fun _ => kk _ _ j1 j2, fun h => by cases h⟩
theorem lc_37 {E : En} {X : Xc} {b L : Nat} {ys : Nat → Int32} {i : Nat} {S : St} {M : Mem} (C : Cx E X 13 cL_law RL 4) (hR : Scr X b L ys) (hi : i + 6 ≤ L) (hM : JC S M) (hN : JR S M) (kk : ∀ S' M', JC S' M' → JR S' M' → At E X 1921 (lls E b i) [] M') : At E X 1363 (lls E b i) [] M := by
  obtain ⟨v, M1, M2, S1, e1, e2, j1, j2⟩ := (m_ideal (S := S) ).use hM hN
  have h3 := hR.2.2.2
  refine s_aload1 C dL_law_1363 ?_
  refine s_callV (c := 0) (T := TX9) (As := []) (v := some (.int v)) C rfl rfl (by decide) rfl (by omega) wL_167 rfl (Nat.le_of_ble_eq_true rfl) dL_law_1364 (tX9_ideal C.2.2.2.2.2.2.1 (by omega) rfl e1) ?_
  refine s_aload2 C dL_law_1367 ?_
  refine s_callV (c := 80) (T := TX10) (As := []) (v := some (.int v)) C rfl rfl (by decide) rfl (by omega) wL_170 rfl (Nat.le_of_ble_eq_true rfl) dL_law_1368 (tX10_ideal C.2.2.2.2.2.2.1 (by omega) rfl e2) ?_
  exact s_ic_eq (tgt := 1921) (a := some ()) (b := none) (r := ()) C (if_pos rfl) dL_law_1371 (by decide) ⟨fun _ => kk _ _ j1 j2, fun h => by cases h⟩
theorem lc_38 {E : En} {X : Xc} {b L : Nat} {ys : Nat → Int32} {i : Nat} {S : St} {M : Mem} (C : Cx E X 13 cL_law RL 4) (hR : Scr X b L ys) (hi : i + 6 ≤ L) (hM : JC S M) (hN : JR S M) (kk : ∀ S' M', JC S' M' → JR S' M' → At E X 1921 (lls E b i) [] M') : At E X 1376 (lls E b i) [] M := by
  obtain ⟨v, M1, M2, S1, e1, e2, j1, j2⟩ := (m_without (S := S) (ys (i + 1))).use hM hN
  have h3 := hR.2.2.2
  refine s_aload1 C dL_law_1376 ?_
  refine s_arg (k := 1) C hR (by omega) (by decide) dL_law_1377 dL_law_1378 dL_law_1379 dL_law_1380 dL_law_1381 ?_
  refine s_callV (c := 0) (T := TX9) (As := [.int (ys (i + 1))]) (v := some (.int v)) C rfl rfl (by decide) rfl (by omega) wL_171 rfl (Nat.le_of_ble_eq_true rfl) dL_law_1382 (tX9_without C.2.2.2.2.2.2.1 (by omega) rfl e1) ?_
  refine s_aload2 C dL_law_1385 ?_
  refine s_arg (k := 1) C hR (by omega) (by decide) dL_law_1386 dL_law_1387 dL_law_1388 dL_law_1389 dL_law_1390 ?_
  refine s_callV (c := 80) (T := TX10) (As := [.int (ys (i + 1))]) (v := some (.int v)) C rfl rfl (by decide) rfl (by omega) wL_174 rfl (Nat.le_of_ble_eq_true rfl) dL_law_1391 (tX10_without C.2.2.2.2.2.2.1 (by omega) rfl e2) ?_
  exact s_ic_eq (tgt := 1921) (a := some ()) (b := none) (r := ()) C (if_pos rfl) dL_law_1394 (by decide) ⟨fun _ => kk _ _ j1 j2, fun h => by cases h⟩
theorem lc_39 {E : En} {X : Xc} {b L : Nat} {ys : Nat → Int32} {i : Nat} {S : St} {M : Mem} (C : Cx E X 13 cL_law RL 4) (hR : Scr X b L ys) (hi : i + 6 ≤ L) (hM : JC S M) (hN : JR S M) (kk : ∀ S' M', JC S' M' → JR S' M' → At E X 1921 (lls E b i) [] M') : At E X 1399 (lls E b i) [] M := by
  obtain ⟨v, M1, M2, S1, e1, e2, j1, j2⟩ := (m_spare (S := S) ).use hM hN
  have h3 := hR.2.2.2
  refine s_aload1 C dL_law_1399 ?_
  refine s_callV (c := 0) (T := TX9) (As := []) (v := some (.int v)) C rfl rfl (by decide) rfl (by omega) wL_175 rfl (Nat.le_of_ble_eq_true rfl) dL_law_1400 (tX9_spare C.2.2.2.2.2.2.1 (by omega) rfl e1) ?_
  refine s_aload2 C dL_law_1403 ?_
  refine s_callV (c := 80) (T := TX10) (As := []) (v := some (.int v)) C rfl rfl (by decide) rfl (by omega) wL_178 rfl (Nat.le_of_ble_eq_true rfl) dL_law_1404 (tX10_spare C.2.2.2.2.2.2.1 (by omega) rfl e2) ?_
  exact s_ic_eq (tgt := 1921) (a := some ()) (b := none) (r := ()) C (if_pos rfl) dL_law_1407 (by decide) ⟨fun _ => kk _ _ j1 j2, fun h => by cases h⟩
theorem lc_40 {E : En} {X : Xc} {b L : Nat} {ys : Nat → Int32} {i : Nat} {S : St} {M : Mem} (C : Cx E X 13 cL_law RL 4) (hR : Scr X b L ys) (hi : i + 6 ≤ L) (hM : JC S M) (hN : JR S M) (kk : ∀ S' M', JC S' M' → JR S' M' → At E X 1921 (lls E b i) [] M') : At E X 1412 (lls E b i) [] M := by
  obtain ⟨v, M1, M2, S1, e1, e2, j1, j2⟩ := (m_spanned (S := S) (ys (i + 1)) (ys (i + 2))).use hM hN
  have h3 := hR.2.2.2
  refine s_aload1 C dL_law_1412 ?_
  refine s_arg (k := 1) C hR (by omega) (by decide) dL_law_1413 dL_law_1414 dL_law_1415 dL_law_1416 dL_law_1417 ?_
  refine s_arg (k := 2) C hR (by omega) (by decide) dL_law_1418 dL_law_1419 dL_law_1420 dL_law_1421 dL_law_1422 ?_
  refine s_callV (c := 0) (T := TX9) (As := [.int (ys (i + 1)), .int (ys (i + 2))]) (v := some (.int v)) C rfl rfl (by decide) rfl (by omega) wL_179 rfl (Nat.le_of_ble_eq_true rfl) dL_law_1423 (tX9_spanned C.2.2.2.2.2.2.1 (by omega) rfl e1) ?_
  refine s_aload2 C dL_law_1426 ?_
  refine s_arg (k := 1) C hR (by omega) (by decide) dL_law_1427 dL_law_1428 dL_law_1429 dL_law_1430 dL_law_1431 ?_
  refine s_arg (k := 2) C hR (by omega) (by decide) dL_law_1432 dL_law_1433 dL_law_1434 dL_law_1435 dL_law_1436 ?_
  refine s_callV (c := 80) (T := TX10) (As := [.int (ys (i + 1)), .int (ys (i + 2))]) (v := some (.int v)) C rfl rfl (by decide) rfl (by omega) wL_182 rfl (Nat.le_of_ble_eq_true rfl) dL_law_1437 (tX10_spanned C.2.2.2.2.2.2.1 (by omega) rfl e2) ?_
  exact s_ic_eq (tgt := 1921) (a := some ()) (b := none) (r := ()) C (if_pos rfl) dL_law_1440 (by decide) ⟨fun _ => kk _ _ j1 j2, fun h => by cases h⟩
theorem lc_41 {E : En} {X : Xc} {b L : Nat} {ys : Nat → Int32} {i : Nat} {S : St} {M : Mem} (C : Cx E X 13 cL_law RL 4) (hR : Scr X b L ys) (hi : i + 6 ≤ L) (hM : JC S M) (hN : JR S M) (kk : ∀ S' M', JC S' M' → JR S' M' → At E X 1921 (lls E b i) [] M') : At E X 1445 (lls E b i) [] M := by
  obtain ⟨v, M1, M2, S1, e1, e2, j1, j2⟩ := (m_span (S := S) (ys (i + 1))).use hM hN
  have h3 := hR.2.2.2
  refine s_aload1 C dL_law_1445 ?_
  refine s_arg (k := 1) C hR (by omega) (by decide) dL_law_1446 dL_law_1447 dL_law_1448 dL_law_1449 dL_law_1450 ?_
  refine s_callV (c := 0) (T := TX9) (As := [.int (ys (i + 1))]) (v := some (.int v)) C rfl rfl (by decide) rfl (by omega) wL_183 rfl (Nat.le_of_ble_eq_true rfl) dL_law_1451 (tX9_span C.2.2.2.2.2.2.1 (by omega) rfl e1) ?_
  refine s_aload2 C dL_law_1454 ?_
  refine s_arg (k := 1) C hR (by omega) (by decide) dL_law_1455 dL_law_1456 dL_law_1457 dL_law_1458 dL_law_1459 ?_
  refine s_callV (c := 80) (T := TX10) (As := [.int (ys (i + 1))]) (v := some (.int v)) C rfl rfl (by decide) rfl (by omega) wL_186 rfl (Nat.le_of_ble_eq_true rfl) dL_law_1460 (tX10_span C.2.2.2.2.2.2.1 (by omega) rfl e2) ?_
  exact s_ic_eq (tgt := 1921) (a := some ()) (b := none) (r := ()) C (if_pos rfl) dL_law_1463 (by decide) ⟨fun _ => kk _ _ j1 j2, fun h => by cases h⟩
theorem lc_42 {E : En} {X : Xc} {b L : Nat} {ys : Nat → Int32} {i : Nat} {S : St} {M : Mem} (C : Cx E X 13 cL_law RL 4) (hR : Scr X b L ys) (hi : i + 6 ≤ L) (hM : JC S M) (hN : JR S M) (kk : ∀ S' M', JC S' M' → JR S' M' → At E X 1921 (lls E b i) [] M') : At E X 1468 (lls E b i) [] M := by
  obtain ⟨v, M1, M2, S1, e1, e2, j1, j2⟩ := (m_round (S := S) (ys (i + 1)) (ys (i + 2)) (ys (i + 3)) (ys (i + 4))).use hM hN
  have h3 := hR.2.2.2
  refine s_aload1 C dL_law_1468 ?_
  refine s_arg (k := 1) C hR (by omega) (by decide) dL_law_1469 dL_law_1470 dL_law_1471 dL_law_1472 dL_law_1473 ?_
  refine s_arg (k := 2) C hR (by omega) (by decide) dL_law_1474 dL_law_1475 dL_law_1476 dL_law_1477 dL_law_1478 ?_
  refine s_arg (k := 3) C hR (by omega) (by decide) dL_law_1479 dL_law_1480 dL_law_1481 dL_law_1482 dL_law_1483 ?_
  refine s_arg (k := 4) C hR (by omega) (by decide) dL_law_1484 dL_law_1485 dL_law_1486 dL_law_1487 dL_law_1488 ?_
  refine s_callV (c := 0) (T := TX9) (As := [.int (ys (i + 1)), .int (ys (i + 2)), .int (ys (i + 3)), .int (ys (i + 4))]) (v := some (.int v)) C rfl rfl (by decide) rfl (by omega) wL_187 rfl (Nat.le_of_ble_eq_true rfl) dL_law_1489 (tX9_round C.2.2.2.2.2.2.1 (by omega) rfl e1) ?_
  refine s_aload2 C dL_law_1492 ?_
  refine s_arg (k := 1) C hR (by omega) (by decide) dL_law_1493 dL_law_1494 dL_law_1495 dL_law_1496 dL_law_1497 ?_
  refine s_arg (k := 2) C hR (by omega) (by decide) dL_law_1498 dL_law_1499 dL_law_1500 dL_law_1501 dL_law_1502 ?_
  refine s_arg (k := 3) C hR (by omega) (by decide) dL_law_1503 dL_law_1504 dL_law_1505 dL_law_1506 dL_law_1507 ?_
  refine s_arg (k := 4) C hR (by omega) (by decide) dL_law_1508 dL_law_1509 dL_law_1510 dL_law_1511 dL_law_1512 ?_
  refine s_callV (c := 80) (T := TX10) (As := [.int (ys (i + 1)), .int (ys (i + 2)), .int (ys (i + 3)), .int (ys (i + 4))]) (v := some (.int v)) C rfl rfl (by decide) rfl (by omega) wL_190 rfl (Nat.le_of_ble_eq_true rfl) dL_law_1513 (tX10_round C.2.2.2.2.2.2.1 (by omega) rfl e2) ?_
  exact s_ic_eq (tgt := 1921) (a := some ()) (b := none) (r := ()) C (if_pos rfl) dL_law_1516 (by decide) ⟨fun _ => kk _ _ j1 j2, fun h => by cases h⟩
theorem lc_43 {E : En} {X : Xc} {b L : Nat} {ys : Nat → Int32} {i : Nat} {S : St} {M : Mem} (C : Cx E X 13 cL_law RL 4) (hR : Scr X b L ys) (hi : i + 6 ≤ L) (hM : JC S M) (hN : JR S M) (kk : ∀ S' M', JC S' M' → JR S' M' → At E X 1921 (lls E b i) [] M') : At E X 1521 (lls E b i) [] M := by
  obtain ⟨v, M1, M2, S1, e1, e2, j1, j2⟩ := (m_learnt (S := S) (ys (i + 1)) (ys (i + 2)) (ys (i + 3))).use hM hN
  have h3 := hR.2.2.2
  refine s_aload1 C dL_law_1521 ?_
  refine s_arg (k := 1) C hR (by omega) (by decide) dL_law_1522 dL_law_1523 dL_law_1524 dL_law_1525 dL_law_1526 ?_
  refine s_arg (k := 2) C hR (by omega) (by decide) dL_law_1527 dL_law_1528 dL_law_1529 dL_law_1530 dL_law_1531 ?_
  refine s_arg (k := 3) C hR (by omega) (by decide) dL_law_1532 dL_law_1533 dL_law_1534 dL_law_1535 dL_law_1536 ?_
  refine s_callV (c := 0) (T := TX9) (As := [.int (ys (i + 1)), .int (ys (i + 2)), .int (ys (i + 3))]) (v := some (.int v)) C rfl rfl (by decide) rfl (by omega) wL_191 rfl (Nat.le_of_ble_eq_true rfl) dL_law_1537 (tX9_learnt C.2.2.2.2.2.2.1 (by omega) rfl e1) ?_
  refine s_aload2 C dL_law_1540 ?_
  refine s_arg (k := 1) C hR (by omega) (by decide) dL_law_1541 dL_law_1542 dL_law_1543 dL_law_1544 dL_law_1545 ?_
  refine s_arg (k := 2) C hR (by omega) (by decide) dL_law_1546 dL_law_1547 dL_law_1548 dL_law_1549 dL_law_1550 ?_
  refine s_arg (k := 3) C hR (by omega) (by decide) dL_law_1551 dL_law_1552 dL_law_1553 dL_law_1554 dL_law_1555 ?_
  refine s_callV (c := 80) (T := TX10) (As := [.int (ys (i + 1)), .int (ys (i + 2)), .int (ys (i + 3))]) (v := some (.int v)) C rfl rfl (by decide) rfl (by omega) wL_194 rfl (Nat.le_of_ble_eq_true rfl) dL_law_1556 (tX10_learnt C.2.2.2.2.2.2.1 (by omega) rfl e2) ?_
  exact s_ic_eq (tgt := 1921) (a := some ()) (b := none) (r := ()) C (if_pos rfl) dL_law_1559 (by decide) ⟨fun _ => kk _ _ j1 j2, fun h => by cases h⟩
theorem lc_44 {E : En} {X : Xc} {b L : Nat} {ys : Nat → Int32} {i : Nat} {S : St} {M : Mem} (C : Cx E X 13 cL_law RL 4) (hR : Scr X b L ys) (hi : i + 6 ≤ L) (hM : JC S M) (hN : JR S M) (kk : ∀ S' M', JC S' M' → JR S' M' → At E X 1921 (lls E b i) [] M') : At E X 1564 (lls E b i) [] M := by
  obtain ⟨v, M1, M2, S1, e1, e2, j1, j2⟩ := (m_learns (S := S) (ys (i + 1)) (ys (i + 2))).use hM hN
  have h3 := hR.2.2.2
  refine s_aload1 C dL_law_1564 ?_
  refine s_arg (k := 1) C hR (by omega) (by decide) dL_law_1565 dL_law_1566 dL_law_1567 dL_law_1568 dL_law_1569 ?_
  refine s_arg (k := 2) C hR (by omega) (by decide) dL_law_1570 dL_law_1571 dL_law_1572 dL_law_1573 dL_law_1574 ?_
  refine s_callV (c := 0) (T := TX9) (As := [.int (ys (i + 1)), .int (ys (i + 2))]) (v := some (.int v)) C rfl rfl (by decide) rfl (by omega) wL_195 rfl (Nat.le_of_ble_eq_true rfl) dL_law_1575 (tX9_learns C.2.2.2.2.2.2.1 (by omega) rfl e1) ?_
  refine s_aload2 C dL_law_1578 ?_
  refine s_arg (k := 1) C hR (by omega) (by decide) dL_law_1579 dL_law_1580 dL_law_1581 dL_law_1582 dL_law_1583 ?_
  refine s_arg (k := 2) C hR (by omega) (by decide) dL_law_1584 dL_law_1585 dL_law_1586 dL_law_1587 dL_law_1588 ?_
  refine s_callV (c := 80) (T := TX10) (As := [.int (ys (i + 1)), .int (ys (i + 2))]) (v := some (.int v)) C rfl rfl (by decide) rfl (by omega) wL_198 rfl (Nat.le_of_ble_eq_true rfl) dL_law_1589 (tX10_learns C.2.2.2.2.2.2.1 (by omega) rfl e2) ?_
  exact s_ic_eq (tgt := 1921) (a := some ()) (b := none) (r := ()) C (if_pos rfl) dL_law_1592 (by decide) ⟨fun _ => kk _ _ j1 j2, fun h => by cases h⟩
theorem lc_45 {E : En} {X : Xc} {b L : Nat} {ys : Nat → Int32} {i : Nat} {S : St} {M : Mem} (C : Cx E X 13 cL_law RL 4) (hR : Scr X b L ys) (hi : i + 6 ≤ L) (hM : JC S M) (hN : JR S M) (kk : ∀ S' M', JC S' M' → JR S' M' → At E X 1921 (lls E b i) [] M') : At E X 1597 (lls E b i) [] M := by
  obtain ⟨v, M1, M2, S1, e1, e2, j1, j2⟩ := (m_trace (S := S) (ys (i + 1))).use hM hN
  have h3 := hR.2.2.2
  refine s_aload1 C dL_law_1597 ?_
  refine s_arg (k := 1) C hR (by omega) (by decide) dL_law_1598 dL_law_1599 dL_law_1600 dL_law_1601 dL_law_1602 ?_
  refine s_callV (c := 0) (T := TX9) (As := [.int (ys (i + 1))]) (v := some (.int v)) C rfl rfl (by decide) rfl (by omega) wL_199 rfl (Nat.le_of_ble_eq_true rfl) dL_law_1603 (tX9_trace C.2.2.2.2.2.2.1 (by omega) rfl e1) ?_
  refine s_aload2 C dL_law_1606 ?_
  refine s_arg (k := 1) C hR (by omega) (by decide) dL_law_1607 dL_law_1608 dL_law_1609 dL_law_1610 dL_law_1611 ?_
  refine s_callV (c := 80) (T := TX10) (As := [.int (ys (i + 1))]) (v := some (.int v)) C rfl rfl (by decide) rfl (by omega) wL_202 rfl (Nat.le_of_ble_eq_true rfl) dL_law_1612 (tX10_trace C.2.2.2.2.2.2.1 (by omega) rfl e2) ?_
  exact s_ic_eq (tgt := 1921) (a := some ()) (b := none) (r := ()) C (if_pos rfl) dL_law_1615 (by decide) ⟨fun _ => kk _ _ j1 j2, fun h => by cases h⟩
theorem lc_46 {E : En} {X : Xc} {b L : Nat} {ys : Nat → Int32} {i : Nat} {S : St} {M : Mem} (C : Cx E X 13 cL_law RL 4) (hR : Scr X b L ys) (hi : i + 6 ≤ L) (hM : JC S M) (hN : JR S M) (kk : ∀ S' M', JC S' M' → JR S' M' → At E X 1921 (lls E b i) [] M') : At E X 1620 (lls E b i) [] M := by
  obtain ⟨v, M1, M2, S1, e1, e2, j1, j2⟩ := (m_like (S := S) (ys (i + 1))).use hM hN
  have h3 := hR.2.2.2
  refine s_aload1 C dL_law_1620 ?_
  refine s_arg (k := 1) C hR (by omega) (by decide) dL_law_1621 dL_law_1622 dL_law_1623 dL_law_1624 dL_law_1625 ?_
  refine s_callV (c := 0) (T := TX9) (As := [.int (ys (i + 1))]) (v := some (.int v)) C rfl rfl (by decide) rfl (by omega) wL_203 rfl (Nat.le_of_ble_eq_true rfl) dL_law_1626 (tX9_like C.2.2.2.2.2.2.1 (by omega) rfl e1) ?_
  refine s_aload2 C dL_law_1629 ?_
  refine s_arg (k := 1) C hR (by omega) (by decide) dL_law_1630 dL_law_1631 dL_law_1632 dL_law_1633 dL_law_1634 ?_
  refine s_callV (c := 80) (T := TX10) (As := [.int (ys (i + 1))]) (v := some (.int v)) C rfl rfl (by decide) rfl (by omega) wL_206 rfl (Nat.le_of_ble_eq_true rfl) dL_law_1635 (tX10_like C.2.2.2.2.2.2.1 (by omega) rfl e2) ?_
  exact s_ic_eq (tgt := 1921) (a := some ()) (b := none) (r := ()) C (if_pos rfl) dL_law_1638 (by decide) ⟨fun _ => kk _ _ j1 j2, fun h => by cases h⟩
theorem lc_47 {E : En} {X : Xc} {b L : Nat} {ys : Nat → Int32} {i : Nat} {S : St} {M : Mem} (C : Cx E X 13 cL_law RL 4) (hR : Scr X b L ys) (hi : i + 6 ≤ L) (hM : JC S M) (hN : JR S M) (kk : ∀ S' M', JC S' M' → JR S' M' → At E X 1921 (lls E b i) [] M') : At E X 1643 (lls E b i) [] M := by
  obtain ⟨v, M1, M2, S1, e1, e2, j1, j2⟩ := (m_meets (S := S) (ys (i + 1)) (ys (i + 2))).use hM hN
  have h3 := hR.2.2.2
  refine s_aload1 C dL_law_1643 ?_
  refine s_arg (k := 1) C hR (by omega) (by decide) dL_law_1644 dL_law_1645 dL_law_1646 dL_law_1647 dL_law_1648 ?_
  refine s_arg (k := 2) C hR (by omega) (by decide) dL_law_1649 dL_law_1650 dL_law_1651 dL_law_1652 dL_law_1653 ?_
  refine s_callV (c := 0) (T := TX9) (As := [.int (ys (i + 1)), .int (ys (i + 2))]) (v := some (.int v)) C rfl rfl (by decide) rfl (by omega) wL_207 rfl (Nat.le_of_ble_eq_true rfl) dL_law_1654 (tX9_meets C.2.2.2.2.2.2.1 (by omega) rfl e1) ?_
  refine s_aload2 C dL_law_1657 ?_
  refine s_arg (k := 1) C hR (by omega) (by decide) dL_law_1658 dL_law_1659 dL_law_1660 dL_law_1661 dL_law_1662 ?_
  refine s_arg (k := 2) C hR (by omega) (by decide) dL_law_1663 dL_law_1664 dL_law_1665 dL_law_1666 dL_law_1667 ?_
  refine s_callV (c := 80) (T := TX10) (As := [.int (ys (i + 1)), .int (ys (i + 2))]) (v := some (.int v)) C rfl rfl (by decide) rfl (by omega) wL_210 rfl (Nat.le_of_ble_eq_true rfl) dL_law_1668 (tX10_meets C.2.2.2.2.2.2.1 (by omega) rfl e2) ?_
  exact s_ic_eq (tgt := 1921) (a := some ()) (b := none) (r := ()) C (if_pos rfl) dL_law_1671 (by decide) ⟨fun _ => kk _ _ j1 j2, fun h => by cases h⟩
theorem lc_48 {E : En} {X : Xc} {b L : Nat} {ys : Nat → Int32} {i : Nat} {S : St} {M : Mem} (C : Cx E X 13 cL_law RL 4) (hR : Scr X b L ys) (hi : i + 6 ≤ L) (hM : JC S M) (hN : JR S M) (kk : ∀ S' M', JC S' M' → JR S' M' → At E X 1921 (lls E b i) [] M') : At E X 1676 (lls E b i) [] M := by
  obtain ⟨v, M1, M2, S1, e1, e2, j1, j2⟩ := (m_undo (S := S) ).use hM hN
  have h3 := hR.2.2.2
  refine s_aload1 C dL_law_1676 ?_
  refine s_callV (c := 0) (T := TX9) (As := []) (v := some (.int v)) C rfl rfl (by decide) rfl (by omega) wL_211 rfl (Nat.le_of_ble_eq_true rfl) dL_law_1677 (tX9_undo C.2.2.2.2.2.2.1 (by omega) rfl e1) ?_
  refine s_aload2 C dL_law_1680 ?_
  refine s_callV (c := 80) (T := TX10) (As := []) (v := some (.int v)) C rfl rfl (by decide) rfl (by omega) wL_214 rfl (Nat.le_of_ble_eq_true rfl) dL_law_1681 (tX10_undo C.2.2.2.2.2.2.1 (by omega) rfl e2) ?_
  exact s_ic_eq (tgt := 1921) (a := some ()) (b := none) (r := ()) C (if_pos rfl) dL_law_1684 (by decide) ⟨fun _ => kk _ _ j1 j2, fun h => by cases h⟩
theorem lc_49 {E : En} {X : Xc} {b L : Nat} {ys : Nat → Int32} {i : Nat} {S : St} {M : Mem} (C : Cx E X 13 cL_law RL 4) (hR : Scr X b L ys) (hi : i + 6 ≤ L) (hM : JC S M) (hN : JR S M) (kk : ∀ S' M', JC S' M' → JR S' M' → At E X 1921 (lls E b i) [] M') : At E X 1689 (lls E b i) [] M := by
  obtain ⟨v, M1, M2, S1, e1, e2, j1, j2⟩ := (m_anew (S := S) ).use hM hN
  have h3 := hR.2.2.2
  refine s_aload1 C dL_law_1689 ?_
  refine s_callV (c := 0) (T := TX9) (As := []) (v := some (.int v)) C rfl rfl (by decide) rfl (by omega) wL_215 rfl (Nat.le_of_ble_eq_true rfl) dL_law_1690 (tX9_anew C.2.2.2.2.2.2.1 (by omega) rfl e1) ?_
  refine s_aload2 C dL_law_1693 ?_
  refine s_callV (c := 80) (T := TX10) (As := []) (v := some (.int v)) C rfl rfl (by decide) rfl (by omega) wL_218 rfl (Nat.le_of_ble_eq_true rfl) dL_law_1694 (tX10_anew C.2.2.2.2.2.2.1 (by omega) rfl e2) ?_
  exact s_ic_eq (tgt := 1921) (a := some ()) (b := none) (r := ()) C (if_pos rfl) dL_law_1697 (by decide) ⟨fun _ => kk _ _ j1 j2, fun h => by cases h⟩
theorem lc_50 {E : En} {X : Xc} {b L : Nat} {ys : Nat → Int32} {i : Nat} {S : St} {M : Mem} (C : Cx E X 13 cL_law RL 4) (hR : Scr X b L ys) (hi : i + 6 ≤ L) (hM : JC S M) (hN : JR S M) (kk : ∀ S' M', JC S' M' → JR S' M' → At E X 1921 (lls E b i) [] M') : At E X 1702 (lls E b i) [] M := by
  obtain ⟨v, M1, M2, S1, e1, e2, j1, j2⟩ := (m_count (S := S) (ys (i + 1))).use hM hN
  have h3 := hR.2.2.2
  refine s_aload1 C dL_law_1702 ?_
  refine s_arg (k := 1) C hR (by omega) (by decide) dL_law_1703 dL_law_1704 dL_law_1705 dL_law_1706 dL_law_1707 ?_
  refine s_callV (c := 0) (T := TX9) (As := [.int (ys (i + 1))]) (v := some (.int v)) C rfl rfl (by decide) rfl (by omega) wL_219 rfl (Nat.le_of_ble_eq_true rfl) dL_law_1708 (tX9_count C.2.2.2.2.2.2.1 (by omega) rfl e1) ?_
  refine s_aload2 C dL_law_1711 ?_
  refine s_arg (k := 1) C hR (by omega) (by decide) dL_law_1712 dL_law_1713 dL_law_1714 dL_law_1715 dL_law_1716 ?_
  refine s_callV (c := 80) (T := TX10) (As := [.int (ys (i + 1))]) (v := some (.int v)) C rfl rfl (by decide) rfl (by omega) wL_222 rfl (Nat.le_of_ble_eq_true rfl) dL_law_1717 (tX10_count C.2.2.2.2.2.2.1 (by omega) rfl e2) ?_
  exact s_ic_eq (tgt := 1921) (a := some ()) (b := none) (r := ()) C (if_pos rfl) dL_law_1720 (by decide) ⟨fun _ => kk _ _ j1 j2, fun h => by cases h⟩
theorem lc_51 {E : En} {X : Xc} {b L : Nat} {ys : Nat → Int32} {i : Nat} {S : St} {M : Mem} (C : Cx E X 13 cL_law RL 4) (hR : Scr X b L ys) (hi : i + 6 ≤ L) (hM : JC S M) (hN : JR S M) (kk : ∀ S' M', JC S' M' → JR S' M' → At E X 1921 (lls E b i) [] M') : At E X 1725 (lls E b i) [] M := by
  obtain ⟨v, M1, M2, S1, e1, e2, j1, j2⟩ := (m_image (S := S) (ys (i + 1))).use hM hN
  have h3 := hR.2.2.2
  refine s_aload1 C dL_law_1725 ?_
  refine s_arg (k := 1) C hR (by omega) (by decide) dL_law_1726 dL_law_1727 dL_law_1728 dL_law_1729 dL_law_1730 ?_
  refine s_callV (c := 0) (T := TX9) (As := [.int (ys (i + 1))]) (v := some (.int v)) C rfl rfl (by decide) rfl (by omega) wL_223 rfl (Nat.le_of_ble_eq_true rfl) dL_law_1731 (tX9_image C.2.2.2.2.2.2.1 (by omega) rfl e1) ?_
  refine s_aload2 C dL_law_1734 ?_
  refine s_arg (k := 1) C hR (by omega) (by decide) dL_law_1735 dL_law_1736 dL_law_1737 dL_law_1738 dL_law_1739 ?_
  refine s_callV (c := 80) (T := TX10) (As := [.int (ys (i + 1))]) (v := some (.int v)) C rfl rfl (by decide) rfl (by omega) wL_226 rfl (Nat.le_of_ble_eq_true rfl) dL_law_1740 (tX10_image C.2.2.2.2.2.2.1 (by omega) rfl e2) ?_
  exact s_ic_eq (tgt := 1921) (a := some ()) (b := none) (r := ()) C (if_pos rfl) dL_law_1743 (by decide) ⟨fun _ => kk _ _ j1 j2, fun h => by cases h⟩
theorem lc_52 {E : En} {X : Xc} {b L : Nat} {ys : Nat → Int32} {i : Nat} {S : St} {M : Mem} (C : Cx E X 13 cL_law RL 4) (hR : Scr X b L ys) (hi : i + 6 ≤ L) (hM : JC S M) (hN : JR S M) (kk : ∀ S' M', JC S' M' → JR S' M' → At E X 1921 (lls E b i) [] M') : At E X 1748 (lls E b i) [] M := by
  obtain ⟨v, M1, M2, S1, e1, e2, j1, j2⟩ := (m_back (S := S) (ys (i + 1))).use hM hN
  have h3 := hR.2.2.2
  refine s_aload1 C dL_law_1748 ?_
  refine s_arg (k := 1) C hR (by omega) (by decide) dL_law_1749 dL_law_1750 dL_law_1751 dL_law_1752 dL_law_1753 ?_
  refine s_callV (c := 0) (T := TX9) (As := [.int (ys (i + 1))]) (v := some (.int v)) C rfl rfl (by decide) rfl (by omega) wL_227 rfl (Nat.le_of_ble_eq_true rfl) dL_law_1754 (tX9_back C.2.2.2.2.2.2.1 (by omega) rfl e1) ?_
  refine s_aload2 C dL_law_1757 ?_
  refine s_arg (k := 1) C hR (by omega) (by decide) dL_law_1758 dL_law_1759 dL_law_1760 dL_law_1761 dL_law_1762 ?_
  refine s_callV (c := 80) (T := TX10) (As := [.int (ys (i + 1))]) (v := some (.int v)) C rfl rfl (by decide) rfl (by omega) wL_230 rfl (Nat.le_of_ble_eq_true rfl) dL_law_1763 (tX10_back C.2.2.2.2.2.2.1 (by omega) rfl e2) ?_
  exact s_ic_eq (tgt := 1921) (a := some ()) (b := none) (r := ()) C (if_pos rfl) dL_law_1766 (by decide) ⟨fun _ => kk _ _ j1 j2, fun h => by cases h⟩
theorem lc_53 {E : En} {X : Xc} {b L : Nat} {ys : Nat → Int32} {i : Nat} {S : St} {M : Mem} (C : Cx E X 13 cL_law RL 4) (hR : Scr X b L ys) (hi : i + 6 ≤ L) (hM : JC S M) (hN : JR S M) (kk : ∀ S' M', JC S' M' → JR S' M' → At E X 1921 (lls E b i) [] M') : At E X 1771 (lls E b i) [] M := by
  obtain ⟨v, M1, M2, S1, e1, e2, j1, j2⟩ := (m_row (S := S) (ys (i + 1)) (ys (i + 2)) (ys (i + 3))).use hM hN
  have h3 := hR.2.2.2
  refine s_aload1 C dL_law_1771 ?_
  refine s_arg (k := 1) C hR (by omega) (by decide) dL_law_1772 dL_law_1773 dL_law_1774 dL_law_1775 dL_law_1776 ?_
  refine s_arg (k := 2) C hR (by omega) (by decide) dL_law_1777 dL_law_1778 dL_law_1779 dL_law_1780 dL_law_1781 ?_
  refine s_arg (k := 3) C hR (by omega) (by decide) dL_law_1782 dL_law_1783 dL_law_1784 dL_law_1785 dL_law_1786 ?_
  refine s_callV (c := 0) (T := TX9) (As := [.int (ys (i + 1)), .int (ys (i + 2)), .int (ys (i + 3))]) (v := some (.int v)) C rfl rfl (by decide) rfl (by omega) wL_231 rfl (Nat.le_of_ble_eq_true rfl) dL_law_1787 (tX9_row C.2.2.2.2.2.2.1 (by omega) rfl e1) ?_
  refine s_aload2 C dL_law_1790 ?_
  refine s_arg (k := 1) C hR (by omega) (by decide) dL_law_1791 dL_law_1792 dL_law_1793 dL_law_1794 dL_law_1795 ?_
  refine s_arg (k := 2) C hR (by omega) (by decide) dL_law_1796 dL_law_1797 dL_law_1798 dL_law_1799 dL_law_1800 ?_
  refine s_arg (k := 3) C hR (by omega) (by decide) dL_law_1801 dL_law_1802 dL_law_1803 dL_law_1804 dL_law_1805 ?_
  refine s_callV (c := 80) (T := TX10) (As := [.int (ys (i + 1)), .int (ys (i + 2)), .int (ys (i + 3))]) (v := some (.int v)) C rfl rfl (by decide) rfl (by omega) wL_234 rfl (Nat.le_of_ble_eq_true rfl) dL_law_1806 (tX10_row C.2.2.2.2.2.2.1 (by omega) rfl e2) ?_
  exact s_ic_eq (tgt := 1921) (a := some ()) (b := none) (r := ()) C (if_pos rfl) dL_law_1809 (by decide) ⟨fun _ => kk _ _ j1 j2, fun h => by cases h⟩
theorem lc_54 {E : En} {X : Xc} {b L : Nat} {ys : Nat → Int32} {i : Nat} {S : St} {M : Mem} (C : Cx E X 13 cL_law RL 4) (hR : Scr X b L ys) (hi : i + 6 ≤ L) (hM : JC S M) (hN : JR S M) (kk : ∀ S' M', JC S' M' → JR S' M' → At E X 1921 (lls E b i) [] M') : At E X 1814 (lls E b i) [] M := by
  obtain ⟨v, M1, M2, S1, e1, e2, j1, j2⟩ := (m_write (S := S) (ys (i + 1)) (ys (i + 2)) ((((ys (i + 3)).toInt64 <<< ((32 : Int32).toInt64 &&& 63)) ||| ((ys (i + 4)).toInt64 &&& 4294967295)))).use hM hN
  have h3 := hR.2.2.2
  refine s_aload1 C dL_law_1814 ?_
  refine s_arg (k := 1) C hR (by omega) (by decide) dL_law_1815 dL_law_1816 dL_law_1817 dL_law_1818 dL_law_1819 ?_
  refine s_arg (k := 2) C hR (by omega) (by decide) dL_law_1820 dL_law_1821 dL_law_1822 dL_law_1823 dL_law_1824 ?_
  refine s_arg (k := 3) C hR (by omega) (by decide) dL_law_1825 dL_law_1826 dL_law_1827 dL_law_1828 dL_law_1829 ?_
  refine s_i2l C dL_law_1830 ?_
  refine s_bipush (v := 32) C (by decide) dL_law_1831 ?_
  refine s_lshl C dL_law_1833 ?_
  refine s_arg (k := 4) C hR (by omega) (by decide) dL_law_1834 dL_law_1835 dL_law_1836 dL_law_1837 dL_law_1838 ?_
  refine s_i2l C dL_law_1839 ?_
  refine s_ldc2 (v := 4294967295) C k_2020 dL_law_1840 ?_
  refine s_land C dL_law_1843 ?_
  refine s_lor C dL_law_1844 ?_
  refine s_callV (c := 0) (T := TX9) (As := [.int (ys (i + 1)), .int (ys (i + 2)), .long ((((ys (i + 3)).toInt64 <<< ((32 : Int32).toInt64 &&& 63)) ||| ((ys (i + 4)).toInt64 &&& 4294967295)))]) (v := some (.int v)) C rfl rfl (by decide) rfl (by omega) wL_237 rfl (Nat.le_of_ble_eq_true rfl) dL_law_1845 (tX9_write C.2.2.2.2.2.2.1 (by omega) rfl e1) ?_
  refine s_aload2 C dL_law_1848 ?_
  refine s_arg (k := 1) C hR (by omega) (by decide) dL_law_1849 dL_law_1850 dL_law_1851 dL_law_1852 dL_law_1853 ?_
  refine s_arg (k := 2) C hR (by omega) (by decide) dL_law_1854 dL_law_1855 dL_law_1856 dL_law_1857 dL_law_1858 ?_
  refine s_arg (k := 3) C hR (by omega) (by decide) dL_law_1859 dL_law_1860 dL_law_1861 dL_law_1862 dL_law_1863 ?_
  refine s_i2l C dL_law_1864 ?_
  refine s_bipush (v := 32) C (by decide) dL_law_1865 ?_
  refine s_lshl C dL_law_1867 ?_
  refine s_arg (k := 4) C hR (by omega) (by decide) dL_law_1868 dL_law_1869 dL_law_1870 dL_law_1871 dL_law_1872 ?_
  refine s_i2l C dL_law_1873 ?_
  refine s_ldc2 (v := 4294967295) C k_2020 dL_law_1874 ?_
  refine s_land C dL_law_1877 ?_
  refine s_lor C dL_law_1878 ?_
  refine s_callV (c := 80) (T := TX10) (As := [.int (ys (i + 1)), .int (ys (i + 2)), .long ((((ys (i + 3)).toInt64 <<< ((32 : Int32).toInt64 &&& 63)) ||| ((ys (i + 4)).toInt64 &&& 4294967295)))]) (v := some (.int v)) C rfl rfl (by decide) rfl (by omega) wL_241 rfl (Nat.le_of_ble_eq_true rfl) dL_law_1879 (tX10_write C.2.2.2.2.2.2.1 (by omega) rfl e2) ?_
  exact s_ic_eq (tgt := 1921) (a := some ()) (b := none) (r := ()) C (if_pos rfl) dL_law_1882 (by decide) ⟨fun _ => kk _ _ j1 j2, fun h => by cases h⟩
theorem lc_55 {E : En} {X : Xc} {b L : Nat} {ys : Nat → Int32} {i : Nat} {S : St} {M : Mem} (C : Cx E X 13 cL_law RL 4) (hR : Scr X b L ys) (hi : i + 6 ≤ L) (hM : JC S M) (hN : JR S M) (kk : ∀ S' M', JC S' M' → JR S' M' → At E X 1921 (lls E b i) [] M') : At E X 1887 (lls E b i) [] M := by
  obtain ⟨v, M1, M2, S1, e1, e2, j1, j2⟩ := (m_number (S := S) (ys (i + 1)) (ys (i + 2))).use hM hN
  have h3 := hR.2.2.2
  refine s_aload1 C dL_law_1887 ?_
  refine s_arg (k := 1) C hR (by omega) (by decide) dL_law_1888 dL_law_1889 dL_law_1890 dL_law_1891 dL_law_1892 ?_
  refine s_arg (k := 2) C hR (by omega) (by decide) dL_law_1893 dL_law_1894 dL_law_1895 dL_law_1896 dL_law_1897 ?_
  refine s_callV (c := 0) (T := TX9) (As := [.int (ys (i + 1)), .int (ys (i + 2))]) (v := some (.long v)) C rfl rfl (by decide) rfl (by omega) wL_242 rfl (Nat.le_of_ble_eq_true rfl) dL_law_1898 (tX9_number C.2.2.2.2.2.2.1 (by omega) rfl e1) ?_
  refine s_aload2 C dL_law_1901 ?_
  refine s_arg (k := 1) C hR (by omega) (by decide) dL_law_1902 dL_law_1903 dL_law_1904 dL_law_1905 dL_law_1906 ?_
  refine s_arg (k := 2) C hR (by omega) (by decide) dL_law_1907 dL_law_1908 dL_law_1909 dL_law_1910 dL_law_1911 ?_
  refine s_callV (c := 80) (T := TX10) (As := [.int (ys (i + 1)), .int (ys (i + 2))]) (v := some (.long v)) C rfl rfl (by decide) rfl (by omega) wL_246 rfl (Nat.le_of_ble_eq_true rfl) dL_law_1912 (tX10_number C.2.2.2.2.2.2.1 (by omega) rfl e2) ?_
  refine s_lcmp C dL_law_1915 ?_
  exact s_if_eq (tgt := 1921) (a := some ()) (b := none) (r := ()) C (if_pos ((lg_cmp_eq _ _).mpr rfl)) dL_law_1916 (by decide) ⟨fun _ => kk _ _ j1 j2, fun h => by cases h⟩
