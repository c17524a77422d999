set_option maxHeartbeats 4000000 in
set_option maxRecDepth 100000 in
theorem jL_law_1699 {p : Program} {e : Env} {s : State} {m : MethodId} {below : List Frame} {meth : Method} {c : Code} (l : Launch) (D : va_G) (cy : Nat → ClassId) (G : p_GT) (hGC : ∀ (A : Nat → Prop) (U : State) (H : Heap), G A U H → gC A U H) (hst : l.stackTraces = false) (hGE : ∀ (A : Nat → Prop) (U : State) (H : Heap), G A U H → p_Ex A U H) (hGF : ∀ (A : Nat → Prop) (U : State) (H : Heap), G A U H → gF A U H) (adK adV : Nat → Nat) (hGK : ∀ (A : Nat → Prop) (U : State) (H : Heap), G A U H → gK adK adV A U H) (hGN : ∀ (A : Nat → Prop) (U : State) (H : Heap), G A U H → gN A U H) (hGO : ∀ (A : Nat → Prop) (U : State) (H : Heap), G A U H → va_AO "VillageFeud$Village" U) (dT dO : Nat) (hGT : ∀ (A : Nat → Prop) (U : State) (H : Heap), G A U H → gT dT dO A U H) (hGU : ∀ (A : Nat → Prop) (U : State) (H : Heap), G A U H → gU A U H) (A : Nat → Prop) (b L : Nat) (xs : Nat → Int32) (X : p_X p m c cL_law 9 s #[.ref b] RL D cy G A) (hr : meth.sig.returnType = ret) (hlk : meth.locks = false) (hX : va_X b L xs s s.heap) (hbl : b < s.heap.size) (hbA : ¬ A b) (hfree : ∀ q, A q → s.heap.size ≤ q) (g28 : PS → Nat → Nat → Nat → Nat → Nat → Nat → Int32 → Prop) (ih28 : ∀ (S : PS) (bc bs : Nat) (l1 : Nat) (l2 : Nat) (l3 : Nat) (l4 : Nat) (l5 : Int32), g28 S bc bs l1 l2 l3 l4 l5 → ∀ (H : Heap) (locs : List Loc) (ls : Array Slot) (cells slots : Nat), p_H D cy S A s H locs → lv_has ls 9 [(0, .ref b), (1, .ref l1), (2, .ref l2), (3, .ref l3), (4, .ref l4), (5, .int l5)] → cells + bc ≤ room_1.cells ∧ slots + bs ≤ room_1.slots → W p l e room_1 s m #[Value.ref b] below meth c H locs cells slots (lw_Z below #[Value.ref b] s) (F0 m 28 ls [])) : ∀ (S : PS) (bc bs : Nat) (l1 : Nat) (l2 : Nat) (l3 : Nat) (l4 : Nat) (l5 : Int32), f_L_law_J1699 adK L xs g28 S bc bs l1 l2 l3 l4 l5 → ∀ (H : Heap) (locs : List Loc) (ls : Array Slot) (cells slots : Nat), p_H D cy S A s H locs → lv_has ls 9 [(0, .ref b), (1, .ref l1), (2, .ref l2), (3, .ref l3), (4, .ref l4), (5, .int l5)] → cells + bc ≤ room_1.cells ∧ slots + bs ≤ room_1.slots → W p l e room_1 s m #[Value.ref b] below meth c H locs cells slots (lw_Z below #[Value.ref b] s) (F0 m 1699 ls []) := by
  have hx := X.1.1
  have hb := X.1.2.1
  have hJ2561 := jL_law_2561 l D cy G hGC hst hGE hGF adK adV hGK hGN hGO dT dO hGT hGU A b L xs X hr hlk hX hbl hbA hfree g28 ih28
  intro S bc bs l1 l2 l3 l4 l5 hf H locs ls cells slots hH hl hB
  have hJ1752 : ∀ (S : PS) (bc bs : Nat) (l1 : Nat) (l2 : Nat) (l3 : Nat) (l4 : Nat) (l5 : Int32), f_L_law_J1752 adK L xs g28 S bc bs l1 l2 l3 l4 l5 → ∀ (H : Heap) (locs : List Loc) (ls : Array Slot) (cells slots : Nat), p_H D cy S A s H locs → lv_has ls 9 [(0, .ref b), (1, .ref l1), (2, .ref l2), (3, .ref l3), (4, .ref l4), (5, .int l5)] → cells + bc ≤ room_1.cells ∧ slots + bs ≤ room_1.slots → W p l e room_1 s m [.ref b].toArray below meth c H locs cells slots (lw_Z below #[Value.ref b] s) (F0 m 1752 ls []) := by
    intro S bc bs l1 l2 l3 l4 l5 hf H locs ls cells slots hH hl hB
    refine lv_goto (tgt := 2561) hx hb dL_law_1752 (by decide) ?_
    exact hJ2561 S bc bs l1 l2 l3 l4 l5 hf H locs ls cells slots hH hl hB
  refine lv_aload_n hx hb dL_law_1699 rfl (lv_at hl 1 rfl) ?_
  refine lv_aload_n hx hb dL_law_1700 rfl (lv_at hl 0 rfl) ?_
  refine lv_iload hx hb dL_law_1701 (lv_at hl 5 rfl) ?_
  refine lv_iconst (v := 1) hx hb dL_law_1703 (by decide) ?_
  refine lv_iadd hx hb dL_law_1704 ?_
  refine va_sld hx hb hX hbl hbA hH.2.2 hf.1 dL_law_1705 ?_
  have hf := hf.2
  refine lv_aload_n hx hb dL_law_1706 rfl (lv_at hl 3 rfl) ?_
  obtain ⟨mc2, ms2, hm1, hs1, hf⟩ := hf
  refine q_callXi X hH hB hm1 hs1 (q_runSx [.ref l1, .int (xs (l5 + 1).toNatClampNeg), .ref l3] [] X hH hl (c_L_partOf l D cy G X.2.2.2.1 hst hGE S l1 (xs (l5 + 1).toNatClampNeg) l3 mc2 ms2 _ _ hf) mw_L_partOf tw_1306 tw_1305 ⟨Nat.le_of_ble_eq_true rfl, Nat.le_of_ble_eq_true rfl⟩ rfl (Nat.le_of_ble_eq_true rfl) dL_law_1707 ⟨Nat.le_trans (Nat.add_le_add_left hm1 _) hB.1, Nat.le_trans (Nat.add_le_add_left hs1 _) hB.2⟩) (fun _ _ _ _ hf _ _ _ _ _ _ _ _ _ => hf.elim) (fun v3 S1 hf H locs cells slots hH hB => ?_)
  refine lv_istore (lv' := [(6, .int v3), (0, .ref b), (1, .ref l1), (2, .ref l2), (3, .ref l3), (4, .ref l4), (5, .int l5)]) hx hb dL_law_1710 hl (by decide) rfl (fun ls hl => ?_)
  refine lv_aload_n hx hb dL_law_1712 rfl (lv_at hl 3 rfl) ?_
  refine lv_aload_n hx hb dL_law_1713 rfl (lv_at hl 1 rfl) ?_
  refine lv_iload hx hb dL_law_1714 (lv_at hl 6 rfl) ?_
  refine lv_iconst (v := 1) hx hb dL_law_1716 (by decide) ?_
  refine lv_iadd hx hb dL_law_1717 ?_
  refine va_sld hx hb hX hbl hbA hH.2.2 hf.1 dL_law_1718 ?_
  have hf := hf.2
  obtain ⟨hb1, hb2, hf⟩ := hf
  refine q_backI0 X hH (q_runV [.int (xs (l5 + 1).toNatClampNeg)] [] X hH hl (c_X8_partOf l D cy G X.2.2.2.1 S1 l2 (xs (l5 + 1).toNatClampNeg) _ _ hf) mf_X8_partOf mv_X8_partOf tw_1963 ⟨Nat.le_of_ble_eq_true rfl, Nat.le_of_ble_eq_true rfl⟩ hb1 hb2 (T := TX8) (N := 25) rfl rfl (Nat.le_of_ble_eq_true rfl) dL_law_1719 ⟨Nat.le_trans (Nat.le_add_right _ _) hB.1, Nat.le_trans (Nat.le_add_right _ _) hB.2⟩) (fun v5 S4 hf H locs hH => ?_)
  refine lv_istore (lv' := [(7, .int v5), (6, .int v3), (0, .ref b), (1, .ref l1), (2, .ref l2), (3, .ref l3), (4, .ref l4), (5, .int l5)]) hx hb dL_law_1722 hl (by decide) rfl (fun ls hl => ?_)
  refine lv_aload_n hx hb dL_law_1724 rfl (lv_at hl 4 rfl) ?_
  obtain ⟨hb1, hb2, hf⟩ := hf
  refine q_backI0 X hH (q_runV [] [] X hH hl (c_X8_thrown l D cy G X.2.2.2.1 S4 l2 _ _ hf) mf_X8_thrown mv_X8_thrown tw_1686 ⟨Nat.le_of_ble_eq_true rfl, Nat.le_of_ble_eq_true rfl⟩ hb1 hb2 (T := TX8) (N := 25) rfl rfl (Nat.le_of_ble_eq_true rfl) dL_law_1725 ⟨Nat.le_trans (Nat.le_add_right _ _) hB.1, Nat.le_trans (Nat.le_add_right _ _) hB.2⟩) (fun v7 S6 hf H locs hH => ?_)
  refine lv_iload hx hb dL_law_1728 (lv_at hl 1 rfl) ?_
  refine lv_icmp_eq (tgt := 1735) hx hb dL_law_1730 (by decide) (fun c8 => ?_) (fun c8 => ?_)
  · have hf := (if_pos c8).mp hf
    refine lv_iload hx hb dL_law_1735 (lv_at hl 1 rfl) ?_
    refine lv_if_ne (tgt := 1752) hx hb dL_law_1737 (by decide) (fun c9 => ?_) (fun c9 => ?_)
    · have hf := (if_neg c9).mp hf
      exact hJ1752 S6 (bc - mc2) (bs - ms2) l1 l2 l3 l4 l5 hf H locs ls cells slots hH (lv_sub hl [2, 3, 4, 5, 6, 7] rfl) hB
    · have hf := (if_pos c9).mp hf
      refine lv_aload_n hx hb dL_law_1740 rfl (lv_at hl 5 rfl) ?_
      refine lv_iconst (v := 0) hx hb dL_law_1741 (by decide) ?_
      refine q_lald X hH hf dL_law_1742 (fun v10 hf => ?_)
      refine lv_iload hx hb dL_law_1743 (lv_at hl 0 rfl) ?_
      refine lv_i2l (v := v5.toInt64) hx hb dL_law_1745 rfl ?_
      refine W.lcmp hx hb dL_law_1746 ?_
      refine lv_if_eq (tgt := 1752) hx hb dL_law_1747 (by decide) (fun c11 => ?_) (fun c11 => ?_)
      · have hf := (if_pos c11).mp hf
        exact hJ1752 S6 (bc - mc2) (bs - ms2) l1 l2 l3 l4 l5 hf H locs ls cells slots hH (lv_sub hl [2, 3, 4, 5, 6, 7] rfl) hB
      · have hf := (if_neg c11).mp hf
        refine lv_iconst (v := 0) hx hb dL_law_1750 (by decide) ?_
        exact hf.elim
  · have hf := (if_neg c8).mp hf
    refine lv_iconst (v := 0) hx hb dL_law_1733 (by decide) ?_
    exact hf.elim
set_option maxHeartbeats 4000000 in
set_option maxRecDepth 100000 in
theorem jL_law_1755 {p : Program} {e : Env} {s : State} {m : MethodId} {below : List Frame} {meth : Method} {c : Code} (l : Launch) (D : va_G) (cy : Nat → ClassId) (G : p_GT) (hGC : ∀ (A : Nat → Prop) (U : State) (H : Heap), G A U H → gC A U H) (hst : l.stackTraces = false) (hGE : ∀ (A : Nat → Prop) (U : State) (H : Heap), G A U H → p_Ex A U H) (hGF : ∀ (A : Nat → Prop) (U : State) (H : Heap), G A U H → gF A U H) (adK adV : Nat → Nat) (hGK : ∀ (A : Nat → Prop) (U : State) (H : Heap), G A U H → gK adK adV A U H) (hGN : ∀ (A : Nat → Prop) (U : State) (H : Heap), G A U H → gN A U H) (hGO : ∀ (A : Nat → Prop) (U : State) (H : Heap), G A U H → va_AO "VillageFeud$Village" U) (dT dO : Nat) (hGT : ∀ (A : Nat → Prop) (U : State) (H : Heap), G A U H → gT dT dO A U H) (hGU : ∀ (A : Nat → Prop) (U : State) (H : Heap), G A U H → gU A U H) (A : Nat → Prop) (b L : Nat) (xs : Nat → Int32) (X : p_X p m c cL_law 9 s #[.ref b] RL D cy G A) (hr : meth.sig.returnType = ret) (hlk : meth.locks = false) (hX : va_X b L xs s s.heap) (hbl : b < s.heap.size) (hbA : ¬ A b) (hfree : ∀ q, A q → s.heap.size ≤ q) (g28 : PS → Nat → Nat → Nat → Nat → Nat → Nat → Int32 → Prop) (ih28 : ∀ (S : PS) (bc bs : Nat) (l1 : Nat) (l2 : Nat) (l3 : Nat) (l4 : Nat) (l5 : Int32), g28 S bc bs l1 l2 l3 l4 l5 → ∀ (H : Heap) (locs : List Loc) (ls : Array Slot) (cells slots : Nat), p_H D cy S A s H locs → lv_has ls 9 [(0, .ref b), (1, .ref l1), (2, .ref l2), (3, .ref l3), (4, .ref l4), (5, .int l5)] → cells + bc ≤ room_1.cells ∧ slots + bs ≤ room_1.slots → W p l e room_1 s m #[Value.ref b] below meth c H locs cells slots (lw_Z below #[Value.ref b] s) (F0 m 28 ls [])) : ∀ (S : PS) (bc bs : Nat) (l1 : Nat) (l2 : Nat) (l3 : Nat) (l4 : Nat) (l5 : Int32), f_L_law_J1755 adK L xs g28 S bc bs l1 l2 l3 l4 l5 → ∀ (H : Heap) (locs : List Loc) (ls : Array Slot) (cells slots : Nat), p_H D cy S A s H locs → lv_has ls 9 [(0, .ref b), (1, .ref l1), (2, .ref l2), (3, .ref l3), (4, .ref l4), (5, .int l5)] → cells + bc ≤ room_1.cells ∧ slots + bs ≤ room_1.slots → W p l e room_1 s m #[Value.ref b] below meth c H locs cells slots (lw_Z below #[Value.ref b] s) (F0 m 1755 ls []) := by
  have hx := X.1.1
  have hb := X.1.2.1
  have hJ2561 := jL_law_2561 l D cy G hGC hst hGE hGF adK adV hGK hGN hGO dT dO hGT hGU A b L xs X hr hlk hX hbl hbA hfree g28 ih28
  intro S bc bs l1 l2 l3 l4 l5 hf H locs ls cells slots hH hl hB
  have hJ1808 : ∀ (S : PS) (bc bs : Nat) (l1 : Nat) (l2 : Nat) (l3 : Nat) (l4 : Nat) (l5 : Int32), f_L_law_J1808 adK L xs g28 S bc bs l1 l2 l3 l4 l5 → ∀ (H : Heap) (locs : List Loc) (ls : Array Slot) (cells slots : Nat), p_H D cy S A s H locs → lv_has ls 9 [(0, .ref b), (1, .ref l1), (2, .ref l2), (3, .ref l3), (4, .ref l4), (5, .int l5)] → cells + bc ≤ room_1.cells ∧ slots + bs ≤ room_1.slots → W p l e room_1 s m [.ref b].toArray below meth c H locs cells slots (lw_Z below #[Value.ref b] s) (F0 m 1808 ls []) := by
    intro S bc bs l1 l2 l3 l4 l5 hf H locs ls cells slots hH hl hB
    refine lv_goto (tgt := 2561) hx hb dL_law_1808 (by decide) ?_
    exact hJ2561 S bc bs l1 l2 l3 l4 l5 hf H locs ls cells slots hH hl hB
  refine lv_aload_n hx hb dL_law_1755 rfl (lv_at hl 1 rfl) ?_
  refine lv_aload_n hx hb dL_law_1756 rfl (lv_at hl 0 rfl) ?_
  refine lv_iload hx hb dL_law_1757 (lv_at hl 5 rfl) ?_
  refine lv_iconst (v := 1) hx hb dL_law_1759 (by decide) ?_
  refine lv_iadd hx hb dL_law_1760 ?_
  refine va_sld hx hb hX hbl hbA hH.2.2 hf.1 dL_law_1761 ?_
  have hf := hf.2
  refine lv_aload_n hx hb dL_law_1762 rfl (lv_at hl 3 rfl) ?_
  obtain ⟨mc2, ms2, hm1, hs1, hf⟩ := hf
  refine q_callXi X hH hB hm1 hs1 (q_runSx [.ref l1, .int (xs (l5 + 1).toNatClampNeg), .ref l3] [] X hH hl (c_L_bondAt l D cy G X.2.2.2.1 hst hGE S l1 (xs (l5 + 1).toNatClampNeg) l3 mc2 ms2 _ _ hf) mw_L_bondAt tw_1313 tw_1312 ⟨Nat.le_of_ble_eq_true rfl, Nat.le_of_ble_eq_true rfl⟩ rfl (Nat.le_of_ble_eq_true rfl) dL_law_1763 ⟨Nat.le_trans (Nat.add_le_add_left hm1 _) hB.1, Nat.le_trans (Nat.add_le_add_left hs1 _) hB.2⟩) (fun _ _ _ _ hf _ _ _ _ _ _ _ _ _ => hf.elim) (fun v3 S1 hf H locs cells slots hH hB => ?_)
  refine lv_istore (lv' := [(6, .int v3), (0, .ref b), (1, .ref l1), (2, .ref l2), (3, .ref l3), (4, .ref l4), (5, .int l5)]) hx hb dL_law_1766 hl (by decide) rfl (fun ls hl => ?_)
  refine lv_aload_n hx hb dL_law_1768 rfl (lv_at hl 3 rfl) ?_
  refine lv_aload_n hx hb dL_law_1769 rfl (lv_at hl 1 rfl) ?_
  refine lv_iload hx hb dL_law_1770 (lv_at hl 6 rfl) ?_
  refine lv_iconst (v := 1) hx hb dL_law_1772 (by decide) ?_
  refine lv_iadd hx hb dL_law_1773 ?_
  refine va_sld hx hb hX hbl hbA hH.2.2 hf.1 dL_law_1774 ?_
  have hf := hf.2
  obtain ⟨hb1, hb2, hf⟩ := hf
  refine q_backI0 X hH (q_runV [.int (xs (l5 + 1).toNatClampNeg)] [] X hH hl (c_X8_bondAt l D cy G X.2.2.2.1 S1 l2 (xs (l5 + 1).toNatClampNeg) _ _ hf) mf_X8_bondAt mv_X8_bondAt tw_1967 ⟨Nat.le_of_ble_eq_true rfl, Nat.le_of_ble_eq_true rfl⟩ hb1 hb2 (T := TX8) (N := 25) rfl rfl (Nat.le_of_ble_eq_true rfl) dL_law_1775 ⟨Nat.le_trans (Nat.le_add_right _ _) hB.1, Nat.le_trans (Nat.le_add_right _ _) hB.2⟩) (fun v5 S4 hf H locs hH => ?_)
  refine lv_istore (lv' := [(7, .int v5), (6, .int v3), (0, .ref b), (1, .ref l1), (2, .ref l2), (3, .ref l3), (4, .ref l4), (5, .int l5)]) hx hb dL_law_1778 hl (by decide) rfl (fun ls hl => ?_)
  refine lv_aload_n hx hb dL_law_1780 rfl (lv_at hl 4 rfl) ?_
  obtain ⟨hb1, hb2, hf⟩ := hf
  refine q_backI0 X hH (q_runV [] [] X hH hl (c_X8_thrown l D cy G X.2.2.2.1 S4 l2 _ _ hf) mf_X8_thrown mv_X8_thrown tw_1686 ⟨Nat.le_of_ble_eq_true rfl, Nat.le_of_ble_eq_true rfl⟩ hb1 hb2 (T := TX8) (N := 25) rfl rfl (Nat.le_of_ble_eq_true rfl) dL_law_1781 ⟨Nat.le_trans (Nat.le_add_right _ _) hB.1, Nat.le_trans (Nat.le_add_right _ _) hB.2⟩) (fun v7 S6 hf H locs hH => ?_)
  refine lv_iload hx hb dL_law_1784 (lv_at hl 1 rfl) ?_
  refine lv_icmp_eq (tgt := 1791) hx hb dL_law_1786 (by decide) (fun c8 => ?_) (fun c8 => ?_)
  · have hf := (if_pos c8).mp hf
    refine lv_iload hx hb dL_law_1791 (lv_at hl 1 rfl) ?_
    refine lv_if_ne (tgt := 1808) hx hb dL_law_1793 (by decide) (fun c9 => ?_) (fun c9 => ?_)
    · have hf := (if_neg c9).mp hf
      exact hJ1808 S6 (bc - mc2) (bs - ms2) l1 l2 l3 l4 l5 hf H locs ls cells slots hH (lv_sub hl [2, 3, 4, 5, 6, 7] rfl) hB
    · have hf := (if_pos c9).mp hf
      refine lv_aload_n hx hb dL_law_1796 rfl (lv_at hl 5 rfl) ?_
      refine lv_iconst (v := 0) hx hb dL_law_1797 (by decide) ?_
      refine q_lald X hH hf dL_law_1798 (fun v10 hf => ?_)
      refine lv_iload hx hb dL_law_1799 (lv_at hl 0 rfl) ?_
      refine lv_i2l (v := v5.toInt64) hx hb dL_law_1801 rfl ?_
      refine W.lcmp hx hb dL_law_1802 ?_
      refine lv_if_eq (tgt := 1808) hx hb dL_law_1803 (by decide) (fun c11 => ?_) (fun c11 => ?_)
      · have hf := (if_pos c11).mp hf
        exact hJ1808 S6 (bc - mc2) (bs - ms2) l1 l2 l3 l4 l5 hf H locs ls cells slots hH (lv_sub hl [2, 3, 4, 5, 6, 7] rfl) hB
      · have hf := (if_neg c11).mp hf
        refine lv_iconst (v := 0) hx hb dL_law_1806 (by decide) ?_
        exact hf.elim
  · have hf := (if_neg c8).mp hf
    refine lv_iconst (v := 0) hx hb dL_law_1789 (by decide) ?_
    exact hf.elim
set_option maxHeartbeats 4000000 in
set_option maxRecDepth 100000 in
theorem jL_law_1811 {p : Program} {e : Env} {s : State} {m : MethodId} {below : List Frame} {meth : Method} {c : Code} (l : Launch) (D : va_G) (cy : Nat → ClassId) (G : p_GT) (hGC : ∀ (A : Nat → Prop) (U : State) (H : Heap), G A U H → gC A U H) (hst : l.stackTraces = false) (hGE : ∀ (A : Nat → Prop) (U : State) (H : Heap), G A U H → p_Ex A U H) (hGF : ∀ (A : Nat → Prop) (U : State) (H : Heap), G A U H → gF A U H) (adK adV : Nat → Nat) (hGK : ∀ (A : Nat → Prop) (U : State) (H : Heap), G A U H → gK adK adV A U H) (hGN : ∀ (A : Nat → Prop) (U : State) (H : Heap), G A U H → gN A U H) (hGO : ∀ (A : Nat → Prop) (U : State) (H : Heap), G A U H → va_AO "VillageFeud$Village" U) (dT dO : Nat) (hGT : ∀ (A : Nat → Prop) (U : State) (H : Heap), G A U H → gT dT dO A U H) (hGU : ∀ (A : Nat → Prop) (U : State) (H : Heap), G A U H → gU A U H) (A : Nat → Prop) (b L : Nat) (xs : Nat → Int32) (X : p_X p m c cL_law 9 s #[.ref b] RL D cy G A) (hr : meth.sig.returnType = ret) (hlk : meth.locks = false) (hX : va_X b L xs s s.heap) (hbl : b < s.heap.size) (hbA : ¬ A b) (hfree : ∀ q, A q → s.heap.size ≤ q) (g28 : PS → Nat → Nat → Nat → Nat → Nat → Nat → Int32 → Prop) (ih28 : ∀ (S : PS) (bc bs : Nat) (l1 : Nat) (l2 : Nat) (l3 : Nat) (l4 : Nat) (l5 : Int32), g28 S bc bs l1 l2 l3 l4 l5 → ∀ (H : Heap) (locs : List Loc) (ls : Array Slot) (cells slots : Nat), p_H D cy S A s H locs → lv_has ls 9 [(0, .ref b), (1, .ref l1), (2, .ref l2), (3, .ref l3), (4, .ref l4), (5, .int l5)] → cells + bc ≤ room_1.cells ∧ slots + bs ≤ room_1.slots → W p l e room_1 s m #[Value.ref b] below meth c H locs cells slots (lw_Z below #[Value.ref b] s) (F0 m 28 ls [])) : ∀ (S : PS) (bc bs : Nat) (l1 : Nat) (l2 : Nat) (l3 : Nat) (l4 : Nat) (l5 : Int32), f_L_law_J1811 adK L xs g28 S bc bs l1 l2 l3 l4 l5 → ∀ (H : Heap) (locs : List Loc) (ls : Array Slot) (cells slots : Nat), p_H D cy S A s H locs → lv_has ls 9 [(0, .ref b), (1, .ref l1), (2, .ref l2), (3, .ref l3), (4, .ref l4), (5, .int l5)] → cells + bc ≤ room_1.cells ∧ slots + bs ≤ room_1.slots → W p l e room_1 s m #[Value.ref b] below meth c H locs cells slots (lw_Z below #[Value.ref b] s) (F0 m 1811 ls []) := by
  have hx := X.1.1
  have hb := X.1.2.1
  have hJ2561 := jL_law_2561 l D cy G hGC hst hGE hGF adK adV hGK hGN hGO dT dO hGT hGU A b L xs X hr hlk hX hbl hbA hfree g28 ih28
  intro S bc bs l1 l2 l3 l4 l5 hf H locs ls cells slots hH hl hB
  have hJ1852 : ∀ (S : PS) (bc bs : Nat) (l1 : Nat) (l2 : Nat) (l3 : Nat) (l4 : Nat) (l5 : Int32), f_L_law_J1852 adK L xs g28 S bc bs l1 l2 l3 l4 l5 → ∀ (H : Heap) (locs : List Loc) (ls : Array Slot) (cells slots : Nat), p_H D cy S A s H locs → lv_has ls 9 [(0, .ref b), (1, .ref l1), (2, .ref l2), (3, .ref l3), (4, .ref l4), (5, .int l5)] → cells + bc ≤ room_1.cells ∧ slots + bs ≤ room_1.slots → W p l e room_1 s m [.ref b].toArray below meth c H locs cells slots (lw_Z below #[Value.ref b] s) (F0 m 1852 ls []) := by
    intro S bc bs l1 l2 l3 l4 l5 hf H locs ls cells slots hH hl hB
    refine lv_goto (tgt := 2561) hx hb dL_law_1852 (by decide) ?_
    exact hJ2561 S bc bs l1 l2 l3 l4 l5 hf H locs ls cells slots hH hl hB
  refine lv_aload_n hx hb dL_law_1811 rfl (lv_at hl 1 rfl) ?_
  refine lv_aload_n hx hb dL_law_1812 rfl (lv_at hl 3 rfl) ?_
  obtain ⟨mc2, ms2, hm1, hs1, hf⟩ := hf
  refine q_callXi X hH hB hm1 hs1 (q_runSx [.ref l1, .ref l3] [] X hH hl (c_L_heaviest l D cy G X.2.2.2.1 hst hGE S l1 l3 mc2 ms2 _ _ hf) mw_L_heaviest tw_1325 tw_1324 ⟨Nat.le_of_ble_eq_true rfl, Nat.le_of_ble_eq_true rfl⟩ rfl (Nat.le_of_ble_eq_true rfl) dL_law_1813 ⟨Nat.le_trans (Nat.add_le_add_left hm1 _) hB.1, Nat.le_trans (Nat.add_le_add_left hs1 _) hB.2⟩) (fun _ _ _ _ hf _ _ _ _ _ _ _ _ _ => hf.elim) (fun v3 S1 hf H locs cells slots hH hB => ?_)
  refine lv_istore (lv' := [(6, .int v3), (0, .ref b), (1, .ref l1), (2, .ref l2), (3, .ref l3), (4, .ref l4), (5, .int l5)]) hx hb dL_law_1816 hl (by decide) rfl (fun ls hl => ?_)
  refine lv_aload_n hx hb dL_law_1818 rfl (lv_at hl 3 rfl) ?_
  obtain ⟨hb1, hb2, hf⟩ := hf
  refine q_backI0 X hH (q_runV [] [] X hH hl (c_X8_heaviest l D cy G X.2.2.2.1 S1 l2 _ _ hf) mf_X8_heaviest mv_X8_heaviest tw_1975 ⟨Nat.le_of_ble_eq_true rfl, Nat.le_of_ble_eq_true rfl⟩ hb1 hb2 (T := TX8) (N := 25) rfl rfl (Nat.le_of_ble_eq_true rfl) dL_law_1819 ⟨Nat.le_trans (Nat.le_add_right _ _) hB.1, Nat.le_trans (Nat.le_add_right _ _) hB.2⟩) (fun v5 S4 hf H locs hH => ?_)
  refine lv_istore (lv' := [(7, .int v5), (6, .int v3), (0, .ref b), (1, .ref l1), (2, .ref l2), (3, .ref l3), (4, .ref l4), (5, .int l5)]) hx hb dL_law_1822 hl (by decide) rfl (fun ls hl => ?_)
  refine lv_aload_n hx hb dL_law_1824 rfl (lv_at hl 4 rfl) ?_
  obtain ⟨hb1, hb2, hf⟩ := hf
  refine q_backI0 X hH (q_runV [] [] X hH hl (c_X8_thrown l D cy G X.2.2.2.1 S4 l2 _ _ hf) mf_X8_thrown mv_X8_thrown tw_1686 ⟨Nat.le_of_ble_eq_true rfl, Nat.le_of_ble_eq_true rfl⟩ hb1 hb2 (T := TX8) (N := 25) rfl rfl (Nat.le_of_ble_eq_true rfl) dL_law_1825 ⟨Nat.le_trans (Nat.le_add_right _ _) hB.1, Nat.le_trans (Nat.le_add_right _ _) hB.2⟩) (fun v7 S6 hf H locs hH => ?_)
  refine lv_iload hx hb dL_law_1828 (lv_at hl 1 rfl) ?_
  refine lv_icmp_eq (tgt := 1835) hx hb dL_law_1830 (by decide) (fun c8 => ?_) (fun c8 => ?_)
  · have hf := (if_pos c8).mp hf
    refine lv_iload hx hb dL_law_1835 (lv_at hl 1 rfl) ?_
    refine lv_if_ne (tgt := 1852) hx hb dL_law_1837 (by decide) (fun c9 => ?_) (fun c9 => ?_)
    · have hf := (if_neg c9).mp hf
      exact hJ1852 S6 (bc - mc2) (bs - ms2) l1 l2 l3 l4 l5 hf H locs ls cells slots hH (lv_sub hl [2, 3, 4, 5, 6, 7] rfl) hB
    · have hf := (if_pos c9).mp hf
      refine lv_aload_n hx hb dL_law_1840 rfl (lv_at hl 5 rfl) ?_
      refine lv_iconst (v := 0) hx hb dL_law_1841 (by decide) ?_
      refine q_lald X hH hf dL_law_1842 (fun v10 hf => ?_)
      refine lv_iload hx hb dL_law_1843 (lv_at hl 0 rfl) ?_
      refine lv_i2l (v := v5.toInt64) hx hb dL_law_1845 rfl ?_
      refine W.lcmp hx hb dL_law_1846 ?_
      refine lv_if_eq (tgt := 1852) hx hb dL_law_1847 (by decide) (fun c11 => ?_) (fun c11 => ?_)
      · have hf := (if_pos c11).mp hf
        exact hJ1852 S6 (bc - mc2) (bs - ms2) l1 l2 l3 l4 l5 hf H locs ls cells slots hH (lv_sub hl [2, 3, 4, 5, 6, 7] rfl) hB
      · have hf := (if_neg c11).mp hf
        refine lv_iconst (v := 0) hx hb dL_law_1850 (by decide) ?_
        exact hf.elim
  · have hf := (if_neg c8).mp hf
    refine lv_iconst (v := 0) hx hb dL_law_1833 (by decide) ?_
    exact hf.elim
set_option maxHeartbeats 4000000 in
set_option maxRecDepth 100000 in
theorem jL_law_1855 {p : Program} {e : Env} {s : State} {m : MethodId} {below : List Frame} {meth : Method} {c : Code} (l : Launch) (D : va_G) (cy : Nat → ClassId) (G : p_GT) (hGC : ∀ (A : Nat → Prop) (U : State) (H : Heap), G A U H → gC A U H) (hst : l.stackTraces = false) (hGE : ∀ (A : Nat → Prop) (U : State) (H : Heap), G A U H → p_Ex A U H) (hGF : ∀ (A : Nat → Prop) (U : State) (H : Heap), G A U H → gF A U H) (adK adV : Nat → Nat) (hGK : ∀ (A : Nat → Prop) (U : State) (H : Heap), G A U H → gK adK adV A U H) (hGN : ∀ (A : Nat → Prop) (U : State) (H : Heap), G A U H → gN A U H) (hGO : ∀ (A : Nat → Prop) (U : State) (H : Heap), G A U H → va_AO "VillageFeud$Village" U) (dT dO : Nat) (hGT : ∀ (A : Nat → Prop) (U : State) (H : Heap), G A U H → gT dT dO A U H) (hGU : ∀ (A : Nat → Prop) (U : State) (H : Heap), G A U H → gU A U H) (A : Nat → Prop) (b L : Nat) (xs : Nat → Int32) (X : p_X p m c cL_law 9 s #[.ref b] RL D cy G A) (hr : meth.sig.returnType = ret) (hlk : meth.locks = false) (hX : va_X b L xs s s.heap) (hbl : b < s.heap.size) (hbA : ¬ A b) (hfree : ∀ q, A q → s.heap.size ≤ q) (g28 : PS → Nat → Nat → Nat → Nat → Nat → Nat → Int32 → Prop) (ih28 : ∀ (S : PS) (bc bs : Nat) (l1 : Nat) (l2 : Nat) (l3 : Nat) (l4 : Nat) (l5 : Int32), g28 S bc bs l1 l2 l3 l4 l5 → ∀ (H : Heap) (locs : List Loc) (ls : Array Slot) (cells slots : Nat), p_H D cy S A s H locs → lv_has ls 9 [(0, .ref b), (1, .ref l1), (2, .ref l2), (3, .ref l3), (4, .ref l4), (5, .int l5)] → cells + bc ≤ room_1.cells ∧ slots + bs ≤ room_1.slots → W p l e room_1 s m #[Value.ref b] below meth c H locs cells slots (lw_Z below #[Value.ref b] s) (F0 m 28 ls [])) : ∀ (S : PS) (bc bs : Nat) (l1 : Nat) (l2 : Nat) (l3 : Nat) (l4 : Nat) (l5 : Int32), f_L_law_J1855 adK L xs g28 S bc bs l1 l2 l3 l4 l5 → ∀ (H : Heap) (locs : List Loc) (ls : Array Slot) (cells slots : Nat), p_H D cy S A s H locs → lv_has ls 9 [(0, .ref b), (1, .ref l1), (2, .ref l2), (3, .ref l3), (4, .ref l4), (5, .int l5)] → cells + bc ≤ room_1.cells ∧ slots + bs ≤ room_1.slots → W p l e room_1 s m #[Value.ref b] below meth c H locs cells slots (lw_Z below #[Value.ref b] s) (F0 m 1855 ls []) := by
  have hx := X.1.1
  have hb := X.1.2.1
  have hJ2561 := jL_law_2561 l D cy G hGC hst hGE hGF adK adV hGK hGN hGO dT dO hGT hGU A b L xs X hr hlk hX hbl hbA hfree g28 ih28
  intro S bc bs l1 l2 l3 l4 l5 hf H locs ls cells slots hH hl hB
  have hJ1920 : ∀ (S : PS) (bc bs : Nat) (l1 : Nat) (l2 : Nat) (l3 : Nat) (l4 : Nat) (l5 : Int32), f_L_law_J1920 adK L xs g28 S bc bs l1 l2 l3 l4 l5 → ∀ (H : Heap) (locs : List Loc) (ls : Array Slot) (cells slots : Nat), p_H D cy S A s H locs → lv_has ls 9 [(0, .ref b), (1, .ref l1), (2, .ref l2), (3, .ref l3), (4, .ref l4), (5, .int l5)] → cells + bc ≤ room_1.cells ∧ slots + bs ≤ room_1.slots → W p l e room_1 s m [.ref b].toArray below meth c H locs cells slots (lw_Z below #[Value.ref b] s) (F0 m 1920 ls []) := by
    intro S bc bs l1 l2 l3 l4 l5 hf H locs ls cells slots hH hl hB
    refine lv_goto (tgt := 2561) hx hb dL_law_1920 (by decide) ?_
    exact hJ2561 S bc bs l1 l2 l3 l4 l5 hf H locs ls cells slots hH hl hB
  refine lv_aload_n hx hb dL_law_1855 rfl (lv_at hl 1 rfl) ?_
  refine lv_aload_n hx hb dL_law_1856 rfl (lv_at hl 0 rfl) ?_
  refine lv_iload hx hb dL_law_1857 (lv_at hl 5 rfl) ?_
  refine lv_iconst (v := 1) hx hb dL_law_1859 (by decide) ?_
  refine lv_iadd hx hb dL_law_1860 ?_
  refine va_sld hx hb hX hbl hbA hH.2.2 hf.1 dL_law_1861 ?_
  have hf := hf.2
  refine lv_aload_n hx hb dL_law_1862 rfl (lv_at hl 0 rfl) ?_
  refine lv_iload hx hb dL_law_1863 (lv_at hl 5 rfl) ?_
  refine lv_iconst (v := 2) hx hb dL_law_1865 (by decide) ?_
  refine lv_iadd hx hb dL_law_1866 ?_
  refine va_sld hx hb hX hbl hbA hH.2.2 hf.1 dL_law_1867 ?_
  have hf := hf.2
  refine lv_aload_n hx hb dL_law_1868 rfl (lv_at hl 3 rfl) ?_
  obtain ⟨mc2, ms2, hm1, hs1, hf⟩ := hf
  refine q_callXi X hH hB hm1 hs1 (q_runSx [.ref l1, .int (xs (l5 + 1).toNatClampNeg), .int (xs (l5 + 2).toNatClampNeg), .ref l3] [] X hH hl (c_L_ranked l D cy G X.2.2.2.1 hst hGE hGN S l1 (xs (l5 + 1).toNatClampNeg) (xs (l5 + 2).toNatClampNeg) l3 mc2 ms2 _ _ hf) mw_L_ranked tw_1337 tw_1336 ⟨Nat.le_of_ble_eq_true rfl, Nat.le_of_ble_eq_true rfl⟩ rfl (Nat.le_of_ble_eq_true rfl) dL_law_1869 ⟨Nat.le_trans (Nat.add_le_add_left hm1 _) hB.1, Nat.le_trans (Nat.add_le_add_left hs1 _) hB.2⟩) (fun _ _ _ _ hf _ _ _ _ _ _ _ _ _ => hf.elim) (fun v3 S1 hf H locs cells slots hH hB => ?_)
  refine lv_istore (lv' := [(6, .int v3), (0, .ref b), (1, .ref l1), (2, .ref l2), (3, .ref l3), (4, .ref l4), (5, .int l5)]) hx hb dL_law_1872 hl (by decide) rfl (fun ls hl => ?_)
  refine lv_aload_n hx hb dL_law_1874 rfl (lv_at hl 3 rfl) ?_
  refine lv_aload_n hx hb dL_law_1875 rfl (lv_at hl 1 rfl) ?_
  refine lv_iload hx hb dL_law_1876 (lv_at hl 6 rfl) ?_
  refine lv_iconst (v := 1) hx hb dL_law_1878 (by decide) ?_
  refine lv_iadd hx hb dL_law_1879 ?_
  refine va_sld hx hb hX hbl hbA hH.2.2 hf.1 dL_law_1880 ?_
  have hf := hf.2
  refine lv_aload_n hx hb dL_law_1881 rfl (lv_at hl 1 rfl) ?_
  refine lv_iload hx hb dL_law_1882 (lv_at hl 6 rfl) ?_
  refine lv_iconst (v := 2) hx hb dL_law_1884 (by decide) ?_
  refine lv_iadd hx hb dL_law_1885 ?_
  refine va_sld hx hb hX hbl hbA hH.2.2 hf.1 dL_law_1886 ?_
  have hf := hf.2
  obtain ⟨hb1, hb2, hf⟩ := hf
  refine q_backI0 X hH (q_runV [.int (xs (l5 + 1).toNatClampNeg), .int (xs (l5 + 2).toNatClampNeg)] [] X hH hl (c_X8_ranked l D cy G X.2.2.2.1 S1 l2 (xs (l5 + 1).toNatClampNeg) (xs (l5 + 2).toNatClampNeg) _ _ hf) mf_X8_ranked mv_X8_ranked tw_1979 ⟨Nat.le_of_ble_eq_true rfl, Nat.le_of_ble_eq_true rfl⟩ hb1 hb2 (T := TX8) (N := 25) rfl rfl (Nat.le_of_ble_eq_true rfl) dL_law_1887 ⟨Nat.le_trans (Nat.le_add_right _ _) hB.1, Nat.le_trans (Nat.le_add_right _ _) hB.2⟩) (fun v5 S4 hf H locs hH => ?_)
  refine lv_istore (lv' := [(7, .int v5), (6, .int v3), (0, .ref b), (1, .ref l1), (2, .ref l2), (3, .ref l3), (4, .ref l4), (5, .int l5)]) hx hb dL_law_1890 hl (by decide) rfl (fun ls hl => ?_)
  refine lv_aload_n hx hb dL_law_1892 rfl (lv_at hl 4 rfl) ?_
  obtain ⟨hb1, hb2, hf⟩ := hf
  refine q_backI0 X hH (q_runV [] [] X hH hl (c_X8_thrown l D cy G X.2.2.2.1 S4 l2 _ _ hf) mf_X8_thrown mv_X8_thrown tw_1686 ⟨Nat.le_of_ble_eq_true rfl, Nat.le_of_ble_eq_true rfl⟩ hb1 hb2 (T := TX8) (N := 25) rfl rfl (Nat.le_of_ble_eq_true rfl) dL_law_1893 ⟨Nat.le_trans (Nat.le_add_right _ _) hB.1, Nat.le_trans (Nat.le_add_right _ _) hB.2⟩) (fun v7 S6 hf H locs hH => ?_)
  refine lv_iload hx hb dL_law_1896 (lv_at hl 1 rfl) ?_
  refine lv_icmp_eq (tgt := 1903) hx hb dL_law_1898 (by decide) (fun c8 => ?_) (fun c8 => ?_)
  · have hf := (if_pos c8).mp hf
    refine lv_iload hx hb dL_law_1903 (lv_at hl 1 rfl) ?_
    refine lv_if_ne (tgt := 1920) hx hb dL_law_1905 (by decide) (fun c9 => ?_) (fun c9 => ?_)
    · have hf := (if_neg c9).mp hf
      exact hJ1920 S6 (bc - mc2) (bs - ms2) l1 l2 l3 l4 l5 hf H locs ls cells slots hH (lv_sub hl [2, 3, 4, 5, 6, 7] rfl) hB
    · have hf := (if_pos c9).mp hf
      refine lv_aload_n hx hb dL_law_1908 rfl (lv_at hl 5 rfl) ?_
      refine lv_iconst (v := 0) hx hb dL_law_1909 (by decide) ?_
      refine q_lald X hH hf dL_law_1910 (fun v10 hf => ?_)
      refine lv_iload hx hb dL_law_1911 (lv_at hl 0 rfl) ?_
      refine lv_i2l (v := v5.toInt64) hx hb dL_law_1913 rfl ?_
      refine W.lcmp hx hb dL_law_1914 ?_
      refine lv_if_eq (tgt := 1920) hx hb dL_law_1915 (by decide) (fun c11 => ?_) (fun c11 => ?_)
      · have hf := (if_pos c11).mp hf
        exact hJ1920 S6 (bc - mc2) (bs - ms2) l1 l2 l3 l4 l5 hf H locs ls cells slots hH (lv_sub hl [2, 3, 4, 5, 6, 7] rfl) hB
      · have hf := (if_neg c11).mp hf
        refine lv_iconst (v := 0) hx hb dL_law_1918 (by decide) ?_
        exact hf.elim
  · have hf := (if_neg c8).mp hf
    refine lv_iconst (v := 0) hx hb dL_law_1901 (by decide) ?_
    exact hf.elim
set_option maxHeartbeats 4000000 in
set_option maxRecDepth 100000 in
theorem jL_law_1923 {p : Program} {e : Env} {s : State} {m : MethodId} {below : List Frame} {meth : Method} {c : Code} (l : Launch) (D : va_G) (cy : Nat → ClassId) (G : p_GT) (hGC : ∀ (A : Nat → Prop) (U : State) (H : Heap), G A U H → gC A U H) (hst : l.stackTraces = false) (hGE : ∀ (A : Nat → Prop) (U : State) (H : Heap), G A U H → p_Ex A U H) (hGF : ∀ (A : Nat → Prop) (U : State) (H : Heap), G A U H → gF A U H) (adK adV : Nat → Nat) (hGK : ∀ (A : Nat → Prop) (U : State) (H : Heap), G A U H → gK adK adV A U H) (hGN : ∀ (A : Nat → Prop) (U : State) (H : Heap), G A U H → gN A U H) (hGO : ∀ (A : Nat → Prop) (U : State) (H : Heap), G A U H → va_AO "VillageFeud$Village" U) (dT dO : Nat) (hGT : ∀ (A : Nat → Prop) (U : State) (H : Heap), G A U H → gT dT dO A U H) (hGU : ∀ (A : Nat → Prop) (U : State) (H : Heap), G A U H → gU A U H) (A : Nat → Prop) (b L : Nat) (xs : Nat → Int32) (X : p_X p m c cL_law 9 s #[.ref b] RL D cy G A) (hr : meth.sig.returnType = ret) (hlk : meth.locks = false) (hX : va_X b L xs s s.heap) (hbl : b < s.heap.size) (hbA : ¬ A b) (hfree : ∀ q, A q → s.heap.size ≤ q) (g28 : PS → Nat → Nat → Nat → Nat → Nat → Nat → Int32 → Prop) (ih28 : ∀ (S : PS) (bc bs : Nat) (l1 : Nat) (l2 : Nat) (l3 : Nat) (l4 : Nat) (l5 : Int32), g28 S bc bs l1 l2 l3 l4 l5 → ∀ (H : Heap) (locs : List Loc) (ls : Array Slot) (cells slots : Nat), p_H D cy S A s H locs → lv_has ls 9 [(0, .ref b), (1, .ref l1), (2, .ref l2), (3, .ref l3), (4, .ref l4), (5, .int l5)] → cells + bc ≤ room_1.cells ∧ slots + bs ≤ room_1.slots → W p l e room_1 s m #[Value.ref b] below meth c H locs cells slots (lw_Z below #[Value.ref b] s) (F0 m 28 ls [])) : ∀ (S : PS) (bc bs : Nat) (l1 : Nat) (l2 : Nat) (l3 : Nat) (l4 : Nat) (l5 : Int32), f_L_law_J1923 adK L xs g28 S bc bs l1 l2 l3 l4 l5 → ∀ (H : Heap) (locs : List Loc) (ls : Array Slot) (cells slots : Nat), p_H D cy S A s H locs → lv_has ls 9 [(0, .ref b), (1, .ref l1), (2, .ref l2), (3, .ref l3), (4, .ref l4), (5, .int l5)] → cells + bc ≤ room_1.cells ∧ slots + bs ≤ room_1.slots → W p l e room_1 s m #[Value.ref b] below meth c H locs cells slots (lw_Z below #[Value.ref b] s) (F0 m 1923 ls []) := by
  have hx := X.1.1
  have hb := X.1.2.1
  have hJ2561 := jL_law_2561 l D cy G hGC hst hGE hGF adK adV hGK hGN hGO dT dO hGT hGU A b L xs X hr hlk hX hbl hbA hfree g28 ih28
  intro S bc bs l1 l2 l3 l4 l5 hf H locs ls cells slots hH hl hB
  refine lv_aload_n hx hb dL_law_1923 rfl (lv_at hl 1 rfl) ?_
  obtain ⟨hb1, hb2, hf⟩ := hf
  refine q_backI0 X hH (q_runV [] [] X hH hl (c_X7_isTold l D cy G X.2.2.2.1 S l1 _ _ hf) mf_X7_isTold mv_X7_isTold tw_423 ⟨Nat.le_of_ble_eq_true rfl, Nat.le_of_ble_eq_true rfl⟩ hb1 hb2 (T := TX7) (N := 12) rfl rfl (Nat.le_of_ble_eq_true rfl) dL_law_1924 ⟨Nat.le_trans (Nat.le_add_right _ _) hB.1, Nat.le_trans (Nat.le_add_right _ _) hB.2⟩) (fun v2 S1 hf H locs hH => ?_)
  refine lv_aload_n hx hb dL_law_1927 rfl (lv_at hl 2 rfl) ?_
  obtain ⟨hb1, hb2, hf⟩ := hf
  refine q_backI0 X hH (q_runV [] [.int v2] X hH hl (c_X8_isTold l D cy G X.2.2.2.1 S1 l2 _ _ hf) mf_X8_isTold mv_X8_isTold tw_1988 ⟨Nat.le_of_ble_eq_true rfl, Nat.le_of_ble_eq_true rfl⟩ hb1 hb2 (T := TX8) (N := 25) rfl rfl (Nat.le_of_ble_eq_true rfl) dL_law_1928 ⟨Nat.le_trans (Nat.le_add_right _ _) hB.1, Nat.le_trans (Nat.le_add_right _ _) hB.2⟩) (fun v4 S3 hf H locs hH => ?_)
  refine lv_icmp_eq (tgt := 2561) hx hb dL_law_1931 (by decide) (fun c5 => ?_) (fun c5 => ?_)
  · have hf := (if_pos c5).mp hf
    exact hJ2561 S3 bc bs l1 l2 l3 l4 l5 hf H locs ls cells slots hH hl hB
  · have hf := (if_neg c5).mp hf
    refine lv_iconst (v := 0) hx hb dL_law_1934 (by decide) ?_
    exact hf.elim
set_option maxHeartbeats 4000000 in
set_option maxRecDepth 100000 in
theorem jL_law_1936 {p : Program} {e : Env} {s : State} {m : MethodId} {below : List Frame} {meth : Method} {c : Code} (l : Launch) (D : va_G) (cy : Nat → ClassId) (G : p_GT) (hGC : ∀ (A : Nat → Prop) (U : State) (H : Heap), G A U H → gC A U H) (hst : l.stackTraces = false) (hGE : ∀ (A : Nat → Prop) (U : State) (H : Heap), G A U H → p_Ex A U H) (hGF : ∀ (A : Nat → Prop) (U : State) (H : Heap), G A U H → gF A U H) (adK adV : Nat → Nat) (hGK : ∀ (A : Nat → Prop) (U : State) (H : Heap), G A U H → gK adK adV A U H) (hGN : ∀ (A : Nat → Prop) (U : State) (H : Heap), G A U H → gN A U H) (hGO : ∀ (A : Nat → Prop) (U : State) (H : Heap), G A U H → va_AO "VillageFeud$Village" U) (dT dO : Nat) (hGT : ∀ (A : Nat → Prop) (U : State) (H : Heap), G A U H → gT dT dO A U H) (hGU : ∀ (A : Nat → Prop) (U : State) (H : Heap), G A U H → gU A U H) (A : Nat → Prop) (b L : Nat) (xs : Nat → Int32) (X : p_X p m c cL_law 9 s #[.ref b] RL D cy G A) (hr : meth.sig.returnType = ret) (hlk : meth.locks = false) (hX : va_X b L xs s s.heap) (hbl : b < s.heap.size) (hbA : ¬ A b) (hfree : ∀ q, A q → s.heap.size ≤ q) (g28 : PS → Nat → Nat → Nat → Nat → Nat → Nat → Int32 → Prop) (ih28 : ∀ (S : PS) (bc bs : Nat) (l1 : Nat) (l2 : Nat) (l3 : Nat) (l4 : Nat) (l5 : Int32), g28 S bc bs l1 l2 l3 l4 l5 → ∀ (H : Heap) (locs : List Loc) (ls : Array Slot) (cells slots : Nat), p_H D cy S A s H locs → lv_has ls 9 [(0, .ref b), (1, .ref l1), (2, .ref l2), (3, .ref l3), (4, .ref l4), (5, .int l5)] → cells + bc ≤ room_1.cells ∧ slots + bs ≤ room_1.slots → W p l e room_1 s m #[Value.ref b] below meth c H locs cells slots (lw_Z below #[Value.ref b] s) (F0 m 28 ls [])) : ∀ (S : PS) (bc bs : Nat) (l1 : Nat) (l2 : Nat) (l3 : Nat) (l4 : Nat) (l5 : Int32), f_L_law_J1936 adK L xs g28 S bc bs l1 l2 l3 l4 l5 → ∀ (H : Heap) (locs : List Loc) (ls : Array Slot) (cells slots : Nat), p_H D cy S A s H locs → lv_has ls 9 [(0, .ref b), (1, .ref l1), (2, .ref l2), (3, .ref l3), (4, .ref l4), (5, .int l5)] → cells + bc ≤ room_1.cells ∧ slots + bs ≤ room_1.slots → W p l e room_1 s m #[Value.ref b] below meth c H locs cells slots (lw_Z below #[Value.ref b] s) (F0 m 1936 ls []) := by
  have hx := X.1.1
  have hb := X.1.2.1
  have hJ2561 := jL_law_2561 l D cy G hGC hst hGE hGF adK adV hGK hGN hGO dT dO hGT hGU A b L xs X hr hlk hX hbl hbA hfree g28 ih28
  intro S bc bs l1 l2 l3 l4 l5 hf H locs ls cells slots hH hl hB
  have hJ1991 : ∀ (S : PS) (bc bs : Nat) (l1 : Nat) (l2 : Nat) (l3 : Nat) (l4 : Nat) (l5 : Int32), f_L_law_J1991 adK L xs g28 S bc bs l1 l2 l3 l4 l5 → ∀ (H : Heap) (locs : List Loc) (ls : Array Slot) (cells slots : Nat), p_H D cy S A s H locs → lv_has ls 9 [(0, .ref b), (1, .ref l1), (2, .ref l2), (3, .ref l3), (4, .ref l4), (5, .int l5)] → cells + bc ≤ room_1.cells ∧ slots + bs ≤ room_1.slots → W p l e room_1 s m [.ref b].toArray below meth c H locs cells slots (lw_Z below #[Value.ref b] s) (F0 m 1991 ls []) := by
    intro S bc bs l1 l2 l3 l4 l5 hf H locs ls cells slots hH hl hB
    refine lv_goto (tgt := 2561) hx hb dL_law_1991 (by decide) ?_
    exact hJ2561 S bc bs l1 l2 l3 l4 l5 hf H locs ls cells slots hH hl hB
  refine lv_aload_n hx hb dL_law_1936 rfl (lv_at hl 1 rfl) ?_
  refine lv_aload_n hx hb dL_law_1937 rfl (lv_at hl 0 rfl) ?_
  refine lv_iload hx hb dL_law_1938 (lv_at hl 5 rfl) ?_
  refine lv_iconst (v := 1) hx hb dL_law_1940 (by decide) ?_
  refine lv_iadd hx hb dL_law_1941 ?_
  refine va_sld hx hb hX hbl hbA hH.2.2 hf.1 dL_law_1942 ?_
  have hf := hf.2
  refine lv_i2c (v := ((xs (l5 + 1).toNatClampNeg).toUInt32 % 65536).toInt32) hx hb dL_law_1943 rfl ?_
  refine lv_aload_n hx hb dL_law_1944 rfl (lv_at hl 3 rfl) ?_
  obtain ⟨mc2, ms2, hm1, hs1, hf⟩ := hf
  refine q_callXi X hH hB hm1 hs1 (q_runSx [.ref l1, .int (((xs (l5 + 1).toNatClampNeg).toUInt32 % 65536).toInt32), .ref l3] [] X hH hl (c_L_append l D cy G X.2.2.2.1 hGC hst hGE hGN hGU S l1 (((xs (l5 + 1).toNatClampNeg).toUInt32 % 65536).toInt32) l3 mc2 ms2 _ _ hf) mw_L_append tw_1362 tw_1361 ⟨Nat.le_of_ble_eq_true rfl, Nat.le_of_ble_eq_true rfl⟩ rfl (Nat.le_of_ble_eq_true rfl) dL_law_1945 ⟨Nat.le_trans (Nat.add_le_add_left hm1 _) hB.1, Nat.le_trans (Nat.add_le_add_left hs1 _) hB.2⟩) (fun _ _ _ _ hf _ _ _ _ _ _ _ _ _ => hf.elim) (fun v3 S1 hf H locs cells slots hH hB => ?_)
  refine lv_istore (lv' := [(6, .int v3), (0, .ref b), (1, .ref l1), (2, .ref l2), (3, .ref l3), (4, .ref l4), (5, .int l5)]) hx hb dL_law_1948 hl (by decide) rfl (fun ls hl => ?_)
  refine lv_aload_n hx hb dL_law_1950 rfl (lv_at hl 3 rfl) ?_
  refine lv_aload_n hx hb dL_law_1951 rfl (lv_at hl 1 rfl) ?_
  refine lv_iload hx hb dL_law_1952 (lv_at hl 6 rfl) ?_
  refine lv_iconst (v := 1) hx hb dL_law_1954 (by decide) ?_
  refine lv_iadd hx hb dL_law_1955 ?_
  refine va_sld hx hb hX hbl hbA hH.2.2 hf.1 dL_law_1956 ?_
  have hf := hf.2
  refine lv_i2c (v := ((xs (l5 + 1).toNatClampNeg).toUInt32 % 65536).toInt32) hx hb dL_law_1957 rfl ?_
  obtain ⟨hb1, hb2, hf⟩ := hf
  refine q_backI0 X hH (q_runV [.int (((xs (l5 + 1).toNatClampNeg).toUInt32 % 65536).toInt32)] [] X hH hl (c_X8_append l D cy G X.2.2.2.1 S1 l2 (((xs (l5 + 1).toNatClampNeg).toUInt32 % 65536).toInt32) _ _ hf) mf_X8_append mv_X8_append tw_1992 ⟨Nat.le_of_ble_eq_true rfl, Nat.le_of_ble_eq_true rfl⟩ hb1 hb2 (T := TX8) (N := 25) rfl rfl (Nat.le_of_ble_eq_true rfl) dL_law_1958 ⟨Nat.le_trans (Nat.le_add_right _ _) hB.1, Nat.le_trans (Nat.le_add_right _ _) hB.2⟩) (fun v5 S4 hf H locs hH => ?_)
  refine lv_istore (lv' := [(7, .int v5), (6, .int v3), (0, .ref b), (1, .ref l1), (2, .ref l2), (3, .ref l3), (4, .ref l4), (5, .int l5)]) hx hb dL_law_1961 hl (by decide) rfl (fun ls hl => ?_)
  refine lv_aload_n hx hb dL_law_1963 rfl (lv_at hl 4 rfl) ?_
  obtain ⟨hb1, hb2, hf⟩ := hf
  refine q_backI0 X hH (q_runV [] [] X hH hl (c_X8_thrown l D cy G X.2.2.2.1 S4 l2 _ _ hf) mf_X8_thrown mv_X8_thrown tw_1686 ⟨Nat.le_of_ble_eq_true rfl, Nat.le_of_ble_eq_true rfl⟩ hb1 hb2 (T := TX8) (N := 25) rfl rfl (Nat.le_of_ble_eq_true rfl) dL_law_1964 ⟨Nat.le_trans (Nat.le_add_right _ _) hB.1, Nat.le_trans (Nat.le_add_right _ _) hB.2⟩) (fun v7 S6 hf H locs hH => ?_)
  refine lv_iload hx hb dL_law_1967 (lv_at hl 1 rfl) ?_
  refine lv_icmp_eq (tgt := 1974) hx hb dL_law_1969 (by decide) (fun c8 => ?_) (fun c8 => ?_)
  · have hf := (if_pos c8).mp hf
    refine lv_iload hx hb dL_law_1974 (lv_at hl 1 rfl) ?_
    refine lv_if_ne (tgt := 1991) hx hb dL_law_1976 (by decide) (fun c9 => ?_) (fun c9 => ?_)
    · have hf := (if_neg c9).mp hf
      exact hJ1991 S6 (bc - mc2) (bs - ms2) l1 l2 l3 l4 l5 hf H locs ls cells slots hH (lv_sub hl [2, 3, 4, 5, 6, 7] rfl) hB
    · have hf := (if_pos c9).mp hf
      refine lv_aload_n hx hb dL_law_1979 rfl (lv_at hl 5 rfl) ?_
      refine lv_iconst (v := 0) hx hb dL_law_1980 (by decide) ?_
      refine q_lald X hH hf dL_law_1981 (fun v10 hf => ?_)
      refine lv_iload hx hb dL_law_1982 (lv_at hl 0 rfl) ?_
      refine lv_i2l (v := v5.toInt64) hx hb dL_law_1984 rfl ?_
      refine W.lcmp hx hb dL_law_1985 ?_
      refine lv_if_eq (tgt := 1991) hx hb dL_law_1986 (by decide) (fun c11 => ?_) (fun c11 => ?_)
      · have hf := (if_pos c11).mp hf
        exact hJ1991 S6 (bc - mc2) (bs - ms2) l1 l2 l3 l4 l5 hf H locs ls cells slots hH (lv_sub hl [2, 3, 4, 5, 6, 7] rfl) hB
      · have hf := (if_neg c11).mp hf
        refine lv_iconst (v := 0) hx hb dL_law_1989 (by decide) ?_
        exact hf.elim
  · have hf := (if_neg c8).mp hf
    refine lv_iconst (v := 0) hx hb dL_law_1972 (by decide) ?_
    exact hf.elim
set_option maxHeartbeats 4000000 in
set_option maxRecDepth 100000 in
theorem jL_law_1994 {p : Program} {e : Env} {s : State} {m : MethodId} {below : List Frame} {meth : Method} {c : Code} (l : Launch) (D : va_G) (cy : Nat → ClassId) (G : p_GT) (hGC : ∀ (A : Nat → Prop) (U : State) (H : Heap), G A U H → gC A U H) (hst : l.stackTraces = false) (hGE : ∀ (A : Nat → Prop) (U : State) (H : Heap), G A U H → p_Ex A U H) (hGF : ∀ (A : Nat → Prop) (U : State) (H : Heap), G A U H → gF A U H) (adK adV : Nat → Nat) (hGK : ∀ (A : Nat → Prop) (U : State) (H : Heap), G A U H → gK adK adV A U H) (hGN : ∀ (A : Nat → Prop) (U : State) (H : Heap), G A U H → gN A U H) (hGO : ∀ (A : Nat → Prop) (U : State) (H : Heap), G A U H → va_AO "VillageFeud$Village" U) (dT dO : Nat) (hGT : ∀ (A : Nat → Prop) (U : State) (H : Heap), G A U H → gT dT dO A U H) (hGU : ∀ (A : Nat → Prop) (U : State) (H : Heap), G A U H → gU A U H) (A : Nat → Prop) (b L : Nat) (xs : Nat → Int32) (X : p_X p m c cL_law 9 s #[.ref b] RL D cy G A) (hr : meth.sig.returnType = ret) (hlk : meth.locks = false) (hX : va_X b L xs s s.heap) (hbl : b < s.heap.size) (hbA : ¬ A b) (hfree : ∀ q, A q → s.heap.size ≤ q) (g28 : PS → Nat → Nat → Nat → Nat → Nat → Nat → Int32 → Prop) (ih28 : ∀ (S : PS) (bc bs : Nat) (l1 : Nat) (l2 : Nat) (l3 : Nat) (l4 : Nat) (l5 : Int32), g28 S bc bs l1 l2 l3 l4 l5 → ∀ (H : Heap) (locs : List Loc) (ls : Array Slot) (cells slots : Nat), p_H D cy S A s H locs → lv_has ls 9 [(0, .ref b), (1, .ref l1), (2, .ref l2), (3, .ref l3), (4, .ref l4), (5, .int l5)] → cells + bc ≤ room_1.cells ∧ slots + bs ≤ room_1.slots → W p l e room_1 s m #[Value.ref b] below meth c H locs cells slots (lw_Z below #[Value.ref b] s) (F0 m 28 ls [])) : ∀ (S : PS) (bc bs : Nat) (l1 : Nat) (l2 : Nat) (l3 : Nat) (l4 : Nat) (l5 : Int32), f_L_law_J1994 adK L xs g28 S bc bs l1 l2 l3 l4 l5 → ∀ (H : Heap) (locs : List Loc) (ls : Array Slot) (cells slots : Nat), p_H D cy S A s H locs → lv_has ls 9 [(0, .ref b), (1, .ref l1), (2, .ref l2), (3, .ref l3), (4, .ref l4), (5, .int l5)] → cells + bc ≤ room_1.cells ∧ slots + bs ≤ room_1.slots → W p l e room_1 s m #[Value.ref b] below meth c H locs cells slots (lw_Z below #[Value.ref b] s) (F0 m 1994 ls []) := by
  have hx := X.1.1
  have hb := X.1.2.1
  have hJ2561 := jL_law_2561 l D cy G hGC hst hGE hGF adK adV hGK hGN hGO dT dO hGT hGU A b L xs X hr hlk hX hbl hbA hfree g28 ih28
  intro S bc bs l1 l2 l3 l4 l5 hf H locs ls cells slots hH hl hB
  have hJ2035 : ∀ (S : PS) (bc bs : Nat) (l1 : Nat) (l2 : Nat) (l3 : Nat) (l4 : Nat) (l5 : Int32), f_L_law_J2035 adK L xs g28 S bc bs l1 l2 l3 l4 l5 → ∀ (H : Heap) (locs : List Loc) (ls : Array Slot) (cells slots : Nat), p_H D cy S A s H locs → lv_has ls 9 [(0, .ref b), (1, .ref l1), (2, .ref l2), (3, .ref l3), (4, .ref l4), (5, .int l5)] → cells + bc ≤ room_1.cells ∧ slots + bs ≤ room_1.slots → W p l e room_1 s m [.ref b].toArray below meth c H locs cells slots (lw_Z below #[Value.ref b] s) (F0 m 2035 ls []) := by
    intro S bc bs l1 l2 l3 l4 l5 hf H locs ls cells slots hH hl hB
    refine lv_goto (tgt := 2561) hx hb dL_law_2035 (by decide) ?_
    exact hJ2561 S bc bs l1 l2 l3 l4 l5 hf H locs ls cells slots hH hl hB
  refine lv_aload_n hx hb dL_law_1994 rfl (lv_at hl 1 rfl) ?_
  refine lv_aload_n hx hb dL_law_1995 rfl (lv_at hl 3 rfl) ?_
  obtain ⟨mc2, ms2, hm1, hs1, hf⟩ := hf
  refine q_callXi X hH hB hm1 hs1 (q_runSx [.ref l1, .ref l3] [] X hH hl (c_L_run l D cy G X.2.2.2.1 hGC hst hGE hGF adK adV hGK hGN hGU S l1 l3 mc2 ms2 _ _ hf) mw_L_run tw_1381 tw_1380 ⟨Nat.le_of_ble_eq_true rfl, Nat.le_of_ble_eq_true rfl⟩ rfl (Nat.le_of_ble_eq_true rfl) dL_law_1996 ⟨Nat.le_trans (Nat.add_le_add_left hm1 _) hB.1, Nat.le_trans (Nat.add_le_add_left hs1 _) hB.2⟩) (fun _ _ _ _ hf _ _ _ _ _ _ _ _ _ => hf.elim) (fun v3 S1 hf H locs cells slots hH hB => ?_)
  refine lv_istore (lv' := [(6, .int v3), (0, .ref b), (1, .ref l1), (2, .ref l2), (3, .ref l3), (4, .ref l4), (5, .int l5)]) hx hb dL_law_1999 hl (by decide) rfl (fun ls hl => ?_)
  refine lv_aload_n hx hb dL_law_2001 rfl (lv_at hl 3 rfl) ?_
  obtain ⟨hb1, hb2, hf⟩ := hf
  refine q_backI0 X hH (q_runV [] [] X hH hl (c_X8_run l D cy G X.2.2.2.1 S1 l2 _ _ hf) mf_X8_run mv_X8_run tw_1996 ⟨Nat.le_of_ble_eq_true rfl, Nat.le_of_ble_eq_true rfl⟩ hb1 hb2 (T := TX8) (N := 25) rfl rfl (Nat.le_of_ble_eq_true rfl) dL_law_2002 ⟨Nat.le_trans (Nat.le_add_right _ _) hB.1, Nat.le_trans (Nat.le_add_right _ _) hB.2⟩) (fun v5 S4 hf H locs hH => ?_)
  refine lv_istore (lv' := [(7, .int v5), (6, .int v3), (0, .ref b), (1, .ref l1), (2, .ref l2), (3, .ref l3), (4, .ref l4), (5, .int l5)]) hx hb dL_law_2005 hl (by decide) rfl (fun ls hl => ?_)
  refine lv_aload_n hx hb dL_law_2007 rfl (lv_at hl 4 rfl) ?_
  obtain ⟨hb1, hb2, hf⟩ := hf
  refine q_backI0 X hH (q_runV [] [] X hH hl (c_X8_thrown l D cy G X.2.2.2.1 S4 l2 _ _ hf) mf_X8_thrown mv_X8_thrown tw_1686 ⟨Nat.le_of_ble_eq_true rfl, Nat.le_of_ble_eq_true rfl⟩ hb1 hb2 (T := TX8) (N := 25) rfl rfl (Nat.le_of_ble_eq_true rfl) dL_law_2008 ⟨Nat.le_trans (Nat.le_add_right _ _) hB.1, Nat.le_trans (Nat.le_add_right _ _) hB.2⟩) (fun v7 S6 hf H locs hH => ?_)
  refine lv_iload hx hb dL_law_2011 (lv_at hl 1 rfl) ?_
  refine lv_icmp_eq (tgt := 2018) hx hb dL_law_2013 (by decide) (fun c8 => ?_) (fun c8 => ?_)
  · have hf := (if_pos c8).mp hf
    refine lv_iload hx hb dL_law_2018 (lv_at hl 1 rfl) ?_
    refine lv_if_ne (tgt := 2035) hx hb dL_law_2020 (by decide) (fun c9 => ?_) (fun c9 => ?_)
    · have hf := (if_neg c9).mp hf
      exact hJ2035 S6 (bc - mc2) (bs - ms2) l1 l2 l3 l4 l5 hf H locs ls cells slots hH (lv_sub hl [2, 3, 4, 5, 6, 7] rfl) hB
    · have hf := (if_pos c9).mp hf
      refine lv_aload_n hx hb dL_law_2023 rfl (lv_at hl 5 rfl) ?_
      refine lv_iconst (v := 0) hx hb dL_law_2024 (by decide) ?_
      refine q_lald X hH hf dL_law_2025 (fun v10 hf => ?_)
      refine lv_iload hx hb dL_law_2026 (lv_at hl 0 rfl) ?_
      refine lv_i2l (v := v5.toInt64) hx hb dL_law_2028 rfl ?_
      refine W.lcmp hx hb dL_law_2029 ?_
      refine lv_if_eq (tgt := 2035) hx hb dL_law_2030 (by decide) (fun c11 => ?_) (fun c11 => ?_)
      · have hf := (if_pos c11).mp hf
        exact hJ2035 S6 (bc - mc2) (bs - ms2) l1 l2 l3 l4 l5 hf H locs ls cells slots hH (lv_sub hl [2, 3, 4, 5, 6, 7] rfl) hB
      · have hf := (if_neg c11).mp hf
        refine lv_iconst (v := 0) hx hb dL_law_2033 (by decide) ?_
        exact hf.elim
  · have hf := (if_neg c8).mp hf
    refine lv_iconst (v := 0) hx hb dL_law_2016 (by decide) ?_
    exact hf.elim
set_option maxHeartbeats 4000000 in
set_option maxRecDepth 100000 in
theorem jL_law_2038 {p : Program} {e : Env} {s : State} {m : MethodId} {below : List Frame} {meth : Method} {c : Code} (l : Launch) (D : va_G) (cy : Nat → ClassId) (G : p_GT) (hGC : ∀ (A : Nat → Prop) (U : State) (H : Heap), G A U H → gC A U H) (hst : l.stackTraces = false) (hGE : ∀ (A : Nat → Prop) (U : State) (H : Heap), G A U H → p_Ex A U H) (hGF : ∀ (A : Nat → Prop) (U : State) (H : Heap), G A U H → gF A U H) (adK adV : Nat → Nat) (hGK : ∀ (A : Nat → Prop) (U : State) (H : Heap), G A U H → gK adK adV A U H) (hGN : ∀ (A : Nat → Prop) (U : State) (H : Heap), G A U H → gN A U H) (hGO : ∀ (A : Nat → Prop) (U : State) (H : Heap), G A U H → va_AO "VillageFeud$Village" U) (dT dO : Nat) (hGT : ∀ (A : Nat → Prop) (U : State) (H : Heap), G A U H → gT dT dO A U H) (hGU : ∀ (A : Nat → Prop) (U : State) (H : Heap), G A U H → gU A U H) (A : Nat → Prop) (b L : Nat) (xs : Nat → Int32) (X : p_X p m c cL_law 9 s #[.ref b] RL D cy G A) (hr : meth.sig.returnType = ret) (hlk : meth.locks = false) (hX : va_X b L xs s s.heap) (hbl : b < s.heap.size) (hbA : ¬ A b) (hfree : ∀ q, A q → s.heap.size ≤ q) (g28 : PS → Nat → Nat → Nat → Nat → Nat → Nat → Int32 → Prop) (ih28 : ∀ (S : PS) (bc bs : Nat) (l1 : Nat) (l2 : Nat) (l3 : Nat) (l4 : Nat) (l5 : Int32), g28 S bc bs l1 l2 l3 l4 l5 → ∀ (H : Heap) (locs : List Loc) (ls : Array Slot) (cells slots : Nat), p_H D cy S A s H locs → lv_has ls 9 [(0, .ref b), (1, .ref l1), (2, .ref l2), (3, .ref l3), (4, .ref l4), (5, .int l5)] → cells + bc ≤ room_1.cells ∧ slots + bs ≤ room_1.slots → W p l e room_1 s m #[Value.ref b] below meth c H locs cells slots (lw_Z below #[Value.ref b] s) (F0 m 28 ls [])) : ∀ (S : PS) (bc bs : Nat) (l1 : Nat) (l2 : Nat) (l3 : Nat) (l4 : Nat) (l5 : Int32), f_L_law_J2038 adK L xs g28 S bc bs l1 l2 l3 l4 l5 → ∀ (H : Heap) (locs : List Loc) (ls : Array Slot) (cells slots : Nat), p_H D cy S A s H locs → lv_has ls 9 [(0, .ref b), (1, .ref l1), (2, .ref l2), (3, .ref l3), (4, .ref l4), (5, .int l5)] → cells + bc ≤ room_1.cells ∧ slots + bs ≤ room_1.slots → W p l e room_1 s m #[Value.ref b] below meth c H locs cells slots (lw_Z below #[Value.ref b] s) (F0 m 2038 ls []) := by
  have hx := X.1.1
  have hb := X.1.2.1
  have hJ2561 := jL_law_2561 l D cy G hGC hst hGE hGF adK adV hGK hGN hGO dT dO hGT hGU A b L xs X hr hlk hX hbl hbA hfree g28 ih28
  intro S bc bs l1 l2 l3 l4 l5 hf H locs ls cells slots hH hl hB
  refine lv_aload_n hx hb dL_law_2038 rfl (lv_at hl 1 rfl) ?_
  obtain ⟨hb1, hb2, hf⟩ := hf
  refine q_backI0 X hH (q_runV [] [] X hH hl (c_X7_faultPosition l D cy G X.2.2.2.1 S l1 _ _ hf) mf_X7_faultPosition mv_X7_faultPosition tw_547 ⟨Nat.le_of_ble_eq_true rfl, Nat.le_of_ble_eq_true rfl⟩ hb1 hb2 (T := TX7) (N := 12) rfl rfl (Nat.le_of_ble_eq_true rfl) dL_law_2039 ⟨Nat.le_trans (Nat.le_add_right _ _) hB.1, Nat.le_trans (Nat.le_add_right _ _) hB.2⟩) (fun v2 S1 hf H locs hH => ?_)
  refine lv_aload_n hx hb dL_law_2042 rfl (lv_at hl 2 rfl) ?_
  obtain ⟨hb1, hb2, hf⟩ := hf
  refine q_backI0 X hH (q_runV [] [.int v2] X hH hl (c_X8_faultPosition l D cy G X.2.2.2.1 S1 l2 _ _ hf) mf_X8_faultPosition mv_X8_faultPosition tw_2032 ⟨Nat.le_of_ble_eq_true rfl, Nat.le_of_ble_eq_true rfl⟩ hb1 hb2 (T := TX8) (N := 25) rfl rfl (Nat.le_of_ble_eq_true rfl) dL_law_2043 ⟨Nat.le_trans (Nat.le_add_right _ _) hB.1, Nat.le_trans (Nat.le_add_right _ _) hB.2⟩) (fun v4 S3 hf H locs hH => ?_)
  refine lv_icmp_eq (tgt := 2561) hx hb dL_law_2046 (by decide) (fun c5 => ?_) (fun c5 => ?_)
  · have hf := (if_pos c5).mp hf
    exact hJ2561 S3 bc bs l1 l2 l3 l4 l5 hf H locs ls cells slots hH hl hB
  · have hf := (if_neg c5).mp hf
    refine lv_iconst (v := 0) hx hb dL_law_2049 (by decide) ?_
    exact hf.elim
set_option maxHeartbeats 4000000 in
set_option maxRecDepth 100000 in
theorem jL_law_2051 {p : Program} {e : Env} {s : State} {m : MethodId} {below : List Frame} {meth : Method} {c : Code} (l : Launch) (D : va_G) (cy : Nat → ClassId) (G : p_GT) (hGC : ∀ (A : Nat → Prop) (U : State) (H : Heap), G A U H → gC A U H) (hst : l.stackTraces = false) (hGE : ∀ (A : Nat → Prop) (U : State) (H : Heap), G A U H → p_Ex A U H) (hGF : ∀ (A : Nat → Prop) (U : State) (H : Heap), G A U H → gF A U H) (adK adV : Nat → Nat) (hGK : ∀ (A : Nat → Prop) (U : State) (H : Heap), G A U H → gK adK adV A U H) (hGN : ∀ (A : Nat → Prop) (U : State) (H : Heap), G A U H → gN A U H) (hGO : ∀ (A : Nat → Prop) (U : State) (H : Heap), G A U H → va_AO "VillageFeud$Village" U) (dT dO : Nat) (hGT : ∀ (A : Nat → Prop) (U : State) (H : Heap), G A U H → gT dT dO A U H) (hGU : ∀ (A : Nat → Prop) (U : State) (H : Heap), G A U H → gU A U H) (A : Nat → Prop) (b L : Nat) (xs : Nat → Int32) (X : p_X p m c cL_law 9 s #[.ref b] RL D cy G A) (hr : meth.sig.returnType = ret) (hlk : meth.locks = false) (hX : va_X b L xs s s.heap) (hbl : b < s.heap.size) (hbA : ¬ A b) (hfree : ∀ q, A q → s.heap.size ≤ q) (g28 : PS → Nat → Nat → Nat → Nat → Nat → Nat → Int32 → Prop) (ih28 : ∀ (S : PS) (bc bs : Nat) (l1 : Nat) (l2 : Nat) (l3 : Nat) (l4 : Nat) (l5 : Int32), g28 S bc bs l1 l2 l3 l4 l5 → ∀ (H : Heap) (locs : List Loc) (ls : Array Slot) (cells slots : Nat), p_H D cy S A s H locs → lv_has ls 9 [(0, .ref b), (1, .ref l1), (2, .ref l2), (3, .ref l3), (4, .ref l4), (5, .int l5)] → cells + bc ≤ room_1.cells ∧ slots + bs ≤ room_1.slots → W p l e room_1 s m #[Value.ref b] below meth c H locs cells slots (lw_Z below #[Value.ref b] s) (F0 m 28 ls [])) : ∀ (S : PS) (bc bs : Nat) (l1 : Nat) (l2 : Nat) (l3 : Nat) (l4 : Nat) (l5 : Int32), f_L_law_J2051 adK L xs g28 S bc bs l1 l2 l3 l4 l5 → ∀ (H : Heap) (locs : List Loc) (ls : Array Slot) (cells slots : Nat), p_H D cy S A s H locs → lv_has ls 9 [(0, .ref b), (1, .ref l1), (2, .ref l2), (3, .ref l3), (4, .ref l4), (5, .int l5)] → cells + bc ≤ room_1.cells ∧ slots + bs ≤ room_1.slots → W p l e room_1 s m #[Value.ref b] below meth c H locs cells slots (lw_Z below #[Value.ref b] s) (F0 m 2051 ls []) := by
  have hx := X.1.1
  have hb := X.1.2.1
  have hJ2561 := jL_law_2561 l D cy G hGC hst hGE hGF adK adV hGK hGN hGO dT dO hGT hGU A b L xs X hr hlk hX hbl hbA hfree g28 ih28
  intro S bc bs l1 l2 l3 l4 l5 hf H locs ls cells slots hH hl hB
  have hJ2072 : ∀ (S : PS) (bc bs : Nat) (l1 : Nat) (l2 : Nat) (l3 : Nat) (l4 : Nat) (l5 : Int32) (t0 : Int32) (t1 : Int32) (t2 : Nat), f_L_law_J2072 adK L xs g28 S bc bs l1 l2 l3 l4 l5 t0 t1 t2 → ∀ (H : Heap) (locs : List Loc) (ls : Array Slot) (cells slots : Nat), p_H D cy S A s H locs → lv_has ls 9 [(0, .ref b), (1, .ref l1), (2, .ref l2), (3, .ref l3), (4, .ref l4), (5, .int l5)] → cells + bc ≤ room_1.cells ∧ slots + bs ≤ room_1.slots → W p l e room_1 s m [.ref b].toArray below meth c H locs cells slots (lw_Z below #[Value.ref b] s) (F0 m 2072 ls [.int t0, .int t1, .ref t2]) := by
    intro S bc bs l1 l2 l3 l4 l5 t0 t1 t2 hf H locs ls cells slots hH hl hB
    have hJ2099 : ∀ (S : PS) (bc bs : Nat) (l1 : Nat) (l2 : Nat) (l3 : Nat) (l4 : Nat) (l5 : Int32) (l6 : Int32) (t0 : Int32) (t1 : Int32) (t2 : Nat), f_L_law_J2099 adK L xs g28 S bc bs l1 l2 l3 l4 l5 l6 t0 t1 t2 → ∀ (H : Heap) (locs : List Loc) (ls : Array Slot) (cells slots : Nat), p_H D cy S A s H locs → lv_has ls 9 [(0, .ref b), (1, .ref l1), (2, .ref l2), (3, .ref l3), (4, .ref l4), (5, .int l5), (6, .int l6)] → cells + bc ≤ room_1.cells ∧ slots + bs ≤ room_1.slots → W p l e room_1 s m [.ref b].toArray below meth c H locs cells slots (lw_Z below #[Value.ref b] s) (F0 m 2099 ls [.int t0, .int t1, .ref t2]) := by
      intro S bc bs l1 l2 l3 l4 l5 l6 t0 t1 t2 hf H locs ls cells slots hH hl hB
      have hJ2132 : ∀ (S : PS) (bc bs : Nat) (l1 : Nat) (l2 : Nat) (l3 : Nat) (l4 : Nat) (l5 : Int32), f_L_law_J2132 adK L xs g28 S bc bs l1 l2 l3 l4 l5 → ∀ (H : Heap) (locs : List Loc) (ls : Array Slot) (cells slots : Nat), p_H D cy S A s H locs → lv_has ls 9 [(0, .ref b), (1, .ref l1), (2, .ref l2), (3, .ref l3), (4, .ref l4), (5, .int l5)] → cells + bc ≤ room_1.cells ∧ slots + bs ≤ room_1.slots → W p l e room_1 s m [.ref b].toArray below meth c H locs cells slots (lw_Z below #[Value.ref b] s) (F0 m 2132 ls []) := by
        intro S bc bs l1 l2 l3 l4 l5 hf H locs ls cells slots hH hl hB
        refine lv_goto (tgt := 2561) hx hb dL_law_2132 (by decide) ?_
        exact hJ2561 S bc bs l1 l2 l3 l4 l5 hf H locs ls cells slots hH hl hB
      obtain ⟨hb1, hb2, hf⟩ := hf
      refine q_backI0 X hH (q_runV [.int t1, .int t0] [] X hH hl (c_X8_reason l D cy G X.2.2.2.1 S t2 t1 t0 _ _ hf) mf_X8_reason mv_X8_reason tw_1690 ⟨Nat.le_of_ble_eq_true rfl, Nat.le_of_ble_eq_true rfl⟩ hb1 hb2 (T := TX8) (N := 25) rfl rfl (Nat.le_of_ble_eq_true rfl) dL_law_2099 ⟨Nat.le_trans (Nat.le_add_right _ _) hB.1, Nat.le_trans (Nat.le_add_right _ _) hB.2⟩) (fun v2 S1 hf H locs hH => ?_)
      refine lv_istore (lv' := [(7, .int v2), (0, .ref b), (1, .ref l1), (2, .ref l2), (3, .ref l3), (4, .ref l4), (5, .int l5), (6, .int l6)]) hx hb dL_law_2102 hl (by decide) rfl (fun ls hl => ?_)
      refine lv_aload_n hx hb dL_law_2104 rfl (lv_at hl 3 rfl) ?_
      obtain ⟨hb1, hb2, hf⟩ := hf
      refine q_backI0 X hH (q_runV [] [] X hH hl (c_X8_thrown l D cy G X.2.2.2.1 S1 l2 _ _ hf) mf_X8_thrown mv_X8_thrown tw_1686 ⟨Nat.le_of_ble_eq_true rfl, Nat.le_of_ble_eq_true rfl⟩ hb1 hb2 (T := TX8) (N := 25) rfl rfl (Nat.le_of_ble_eq_true rfl) dL_law_2105 ⟨Nat.le_trans (Nat.le_add_right _ _) hB.1, Nat.le_trans (Nat.le_add_right _ _) hB.2⟩) (fun v4 S3 hf H locs hH => ?_)
      refine lv_iload hx hb dL_law_2108 (lv_at hl 7 rfl) ?_
      refine lv_icmp_eq (tgt := 2115) hx hb dL_law_2110 (by decide) (fun c5 => ?_) (fun c5 => ?_)
      · have hf := (if_pos c5).mp hf
        refine lv_iload hx hb dL_law_2115 (lv_at hl 7 rfl) ?_
        refine lv_if_ne (tgt := 2132) hx hb dL_law_2117 (by decide) (fun c6 => ?_) (fun c6 => ?_)
        · have hf := (if_neg c6).mp hf
          exact hJ2132 S3 bc bs l1 l2 l3 l4 l5 hf H locs ls cells slots hH (lv_sub hl [1, 2, 3, 4, 5, 6] rfl) hB
        · have hf := (if_pos c6).mp hf
          refine lv_aload_n hx hb dL_law_2120 rfl (lv_at hl 4 rfl) ?_
          refine lv_iconst (v := 0) hx hb dL_law_2121 (by decide) ?_
          refine q_lald X hH hf dL_law_2122 (fun v7 hf => ?_)
          refine lv_iload hx hb dL_law_2123 (lv_at hl 0 rfl) ?_
          refine lv_i2l (v := v2.toInt64) hx hb dL_law_2125 rfl ?_
          refine W.lcmp hx hb dL_law_2126 ?_
          refine lv_if_eq (tgt := 2132) hx hb dL_law_2127 (by decide) (fun c8 => ?_) (fun c8 => ?_)
          · have hf := (if_pos c8).mp hf
            exact hJ2132 S3 bc bs l1 l2 l3 l4 l5 hf H locs ls cells slots hH (lv_sub hl [1, 2, 3, 4, 5, 6] rfl) hB
          · have hf := (if_neg c8).mp hf
            refine lv_iconst (v := 0) hx hb dL_law_2130 (by decide) ?_
            exact hf.elim
      · have hf := (if_neg c5).mp hf
        refine lv_iconst (v := 0) hx hb dL_law_2113 (by decide) ?_
        exact hf.elim
    refine lv_aload_n hx hb dL_law_2072 rfl (lv_at hl 3 rfl) ?_
    obtain ⟨mc2, ms2, hm1, hs1, hf⟩ := hf
    refine q_callXi X hH hB hm1 hs1 (q_runSx [.ref t2, .int t1, .int t0, .ref l3] [] X hH hl (c_L_reason l D cy G X.2.2.2.1 hst hGE hGN S t2 t1 t0 l3 mc2 ms2 _ _ hf) mw_L_reason tw_1487 tw_1486 ⟨Nat.le_of_ble_eq_true rfl, Nat.le_of_ble_eq_true rfl⟩ rfl (Nat.le_of_ble_eq_true rfl) dL_law_2073 ⟨Nat.le_trans (Nat.add_le_add_left hm1 _) hB.1, Nat.le_trans (Nat.add_le_add_left hs1 _) hB.2⟩) (fun _ _ _ _ hf _ _ _ _ _ _ _ _ _ => hf.elim) (fun v3 S1 hf H locs cells slots hH hB => ?_)
    refine lv_istore (lv' := [(6, .int v3), (0, .ref b), (1, .ref l1), (2, .ref l2), (3, .ref l3), (4, .ref l4), (5, .int l5)]) hx hb dL_law_2076 hl (by decide) rfl (fun ls hl => ?_)
    refine lv_aload_n hx hb dL_law_2078 rfl (lv_at hl 3 rfl) ?_
    refine lv_aload_n hx hb dL_law_2079 rfl (lv_at hl 1 rfl) ?_
    refine lv_iload hx hb dL_law_2080 (lv_at hl 6 rfl) ?_
    refine lv_iconst (v := 1) hx hb dL_law_2082 (by decide) ?_
    refine lv_iadd hx hb dL_law_2083 ?_
    refine va_sld hx hb hX hbl hbA hH.2.2 hf.1 dL_law_2084 ?_
    have hf := hf.2
    refine lv_aload_n hx hb dL_law_2085 rfl (lv_at hl 1 rfl) ?_
    refine lv_iload hx hb dL_law_2086 (lv_at hl 6 rfl) ?_
    refine lv_iconst (v := 2) hx hb dL_law_2088 (by decide) ?_
    refine lv_iadd hx hb dL_law_2089 ?_
    refine va_sld hx hb hX hbl hbA hH.2.2 hf.1 dL_law_2090 ?_
    have hf := hf.2
    refine lv_if_eq (tgt := 2098) hx hb dL_law_2091 (by decide) (fun c4 => ?_) (fun c4 => ?_)
    · have hf := (if_pos c4).mp hf
      refine lv_iconst (v := 0) hx hb dL_law_2098 (by decide) ?_
      exact hJ2099 S1 (bc - mc2) (bs - ms2) l1 l2 l3 l4 l5 v3 0 (xs (l5 + 1).toNatClampNeg) l2 hf H locs ls cells slots hH (lv_sub hl [1, 2, 3, 4, 5, 6, 0] rfl) hB
    · have hf := (if_neg c4).mp hf
      refine lv_iconst (v := 1) hx hb dL_law_2094 (by decide) ?_
      refine lv_goto (tgt := 2099) hx hb dL_law_2095 (by decide) ?_
      exact hJ2099 S1 (bc - mc2) (bs - ms2) l1 l2 l3 l4 l5 v3 1 (xs (l5 + 1).toNatClampNeg) l2 hf H locs ls cells slots hH (lv_sub hl [1, 2, 3, 4, 5, 6, 0] rfl) hB
  refine lv_aload_n hx hb dL_law_2051 rfl (lv_at hl 1 rfl) ?_
  refine lv_aload_n hx hb dL_law_2052 rfl (lv_at hl 0 rfl) ?_
  refine lv_iload hx hb dL_law_2053 (lv_at hl 5 rfl) ?_
  refine lv_iconst (v := 1) hx hb dL_law_2055 (by decide) ?_
  refine lv_iadd hx hb dL_law_2056 ?_
  refine va_sld hx hb hX hbl hbA hH.2.2 hf.1 dL_law_2057 ?_
  have hf := hf.2
  refine lv_aload_n hx hb dL_law_2058 rfl (lv_at hl 0 rfl) ?_
  refine lv_iload hx hb dL_law_2059 (lv_at hl 5 rfl) ?_
  refine lv_iconst (v := 2) hx hb dL_law_2061 (by decide) ?_
  refine lv_iadd hx hb dL_law_2062 ?_
  refine va_sld hx hb hX hbl hbA hH.2.2 hf.1 dL_law_2063 ?_
  have hf := hf.2
  refine lv_if_eq (tgt := 2071) hx hb dL_law_2064 (by decide) (fun c1 => ?_) (fun c1 => ?_)
  · have hf := (if_pos c1).mp hf
    refine lv_iconst (v := 0) hx hb dL_law_2071 (by decide) ?_
    exact hJ2072 S bc bs l1 l2 l3 l4 l5 0 (xs (l5 + 1).toNatClampNeg) l1 hf H locs ls cells slots hH hl hB
  · have hf := (if_neg c1).mp hf
    refine lv_iconst (v := 1) hx hb dL_law_2067 (by decide) ?_
    refine lv_goto (tgt := 2072) hx hb dL_law_2068 (by decide) ?_
    exact hJ2072 S bc bs l1 l2 l3 l4 l5 1 (xs (l5 + 1).toNatClampNeg) l1 hf H locs ls cells slots hH hl hB
set_option maxHeartbeats 4000000 in
set_option maxRecDepth 100000 in
theorem jL_law_2135 {p : Program} {e : Env} {s : State} {m : MethodId} {below : List Frame} {meth : Method} {c : Code} (l : Launch) (D : va_G) (cy : Nat → ClassId) (G : p_GT) (hGC : ∀ (A : Nat → Prop) (U : State) (H : Heap), G A U H → gC A U H) (hst : l.stackTraces = false) (hGE : ∀ (A : Nat → Prop) (U : State) (H : Heap), G A U H → p_Ex A U H) (hGF : ∀ (A : Nat → Prop) (U : State) (H : Heap), G A U H → gF A U H) (adK adV : Nat → Nat) (hGK : ∀ (A : Nat → Prop) (U : State) (H : Heap), G A U H → gK adK adV A U H) (hGN : ∀ (A : Nat → Prop) (U : State) (H : Heap), G A U H → gN A U H) (hGO : ∀ (A : Nat → Prop) (U : State) (H : Heap), G A U H → va_AO "VillageFeud$Village" U) (dT dO : Nat) (hGT : ∀ (A : Nat → Prop) (U : State) (H : Heap), G A U H → gT dT dO A U H) (hGU : ∀ (A : Nat → Prop) (U : State) (H : Heap), G A U H → gU A U H) (A : Nat → Prop) (b L : Nat) (xs : Nat → Int32) (X : p_X p m c cL_law 9 s #[.ref b] RL D cy G A) (hr : meth.sig.returnType = ret) (hlk : meth.locks = false) (hX : va_X b L xs s s.heap) (hbl : b < s.heap.size) (hbA : ¬ A b) (hfree : ∀ q, A q → s.heap.size ≤ q) (g28 : PS → Nat → Nat → Nat → Nat → Nat → Nat → Int32 → Prop) (ih28 : ∀ (S : PS) (bc bs : Nat) (l1 : Nat) (l2 : Nat) (l3 : Nat) (l4 : Nat) (l5 : Int32), g28 S bc bs l1 l2 l3 l4 l5 → ∀ (H : Heap) (locs : List Loc) (ls : Array Slot) (cells slots : Nat), p_H D cy S A s H locs → lv_has ls 9 [(0, .ref b), (1, .ref l1), (2, .ref l2), (3, .ref l3), (4, .ref l4), (5, .int l5)] → cells + bc ≤ room_1.cells ∧ slots + bs ≤ room_1.slots → W p l e room_1 s m #[Value.ref b] below meth c H locs cells slots (lw_Z below #[Value.ref b] s) (F0 m 28 ls [])) : ∀ (S : PS) (bc bs : Nat) (l1 : Nat) (l2 : Nat) (l3 : Nat) (l4 : Nat) (l5 : Int32), f_L_law_J2135 adK L xs g28 S bc bs l1 l2 l3 l4 l5 → ∀ (H : Heap) (locs : List Loc) (ls : Array Slot) (cells slots : Nat), p_H D cy S A s H locs → lv_has ls 9 [(0, .ref b), (1, .ref l1), (2, .ref l2), (3, .ref l3), (4, .ref l4), (5, .int l5)] → cells + bc ≤ room_1.cells ∧ slots + bs ≤ room_1.slots → W p l e room_1 s m #[Value.ref b] below meth c H locs cells slots (lw_Z below #[Value.ref b] s) (F0 m 2135 ls []) := by
  have hx := X.1.1
  have hb := X.1.2.1
  have hJ2561 := jL_law_2561 l D cy G hGC hst hGE hGF adK adV hGK hGN hGO dT dO hGT hGU A b L xs X hr hlk hX hbl hbA hfree g28 ih28
  intro S bc bs l1 l2 l3 l4 l5 hf H locs ls cells slots hH hl hB
  refine lv_aload_n hx hb dL_law_2135 rfl (lv_at hl 1 rfl) ?_
  obtain ⟨hb1, hb2, hf⟩ := hf
  obtain ⟨mc2, ms2, hm1, hs1, hf⟩ := hf
  refine q_backIB X hH hB hm1 hs1 (q_runV [] [] X hH hl (c_X7_tell l D cy G X.2.2.2.1 hGC dT dO hGT hGU S l1 mc2 ms2 _ _ hf) mf_X7_tell mv_X7_tell tw_555 ⟨Nat.le_of_ble_eq_true rfl, Nat.le_of_ble_eq_true rfl⟩ hb1 hb2 (T := TX7) (N := 12) rfl rfl (Nat.le_of_ble_eq_true rfl) dL_law_2136 ⟨Nat.le_trans (Nat.add_le_add_left hm1 _) hB.1, Nat.le_trans (Nat.add_le_add_left hs1 _) hB.2⟩) (fun v3 S1 hf H locs cells slots hH hB => ?_)
  refine lv_aload_n hx hb dL_law_2139 rfl (lv_at hl 2 rfl) ?_
  obtain ⟨hb1, hb2, hf⟩ := hf
  refine q_backI0 X hH (q_runV [] [.int v3] X hH hl (c_X8_tell l D cy G X.2.2.2.1 S1 l2 _ _ hf) mf_X8_tell mv_X8_tell tw_2036 ⟨Nat.le_of_ble_eq_true rfl, Nat.le_of_ble_eq_true rfl⟩ hb1 hb2 (T := TX8) (N := 25) rfl rfl (Nat.le_of_ble_eq_true rfl) dL_law_2140 ⟨Nat.le_trans (Nat.le_add_right _ _) hB.1, Nat.le_trans (Nat.le_add_right _ _) hB.2⟩) (fun v5 S4 hf H locs hH => ?_)
  refine lv_icmp_eq (tgt := 2561) hx hb dL_law_2143 (by decide) (fun c6 => ?_) (fun c6 => ?_)
  · have hf := (if_pos c6).mp hf
    exact hJ2561 S4 (bc - mc2) (bs - ms2) l1 l2 l3 l4 l5 hf H locs ls cells slots hH hl hB
  · have hf := (if_neg c6).mp hf
    refine lv_iconst (v := 0) hx hb dL_law_2146 (by decide) ?_
    exact hf.elim
set_option maxHeartbeats 4000000 in
set_option maxRecDepth 100000 in
theorem jL_law_2148 {p : Program} {e : Env} {s : State} {m : MethodId} {below : List Frame} {meth : Method} {c : Code} (l : Launch) (D : va_G) (cy : Nat → ClassId) (G : p_GT) (hGC : ∀ (A : Nat → Prop) (U : State) (H : Heap), G A U H → gC A U H) (hst : l.stackTraces = false) (hGE : ∀ (A : Nat → Prop) (U : State) (H : Heap), G A U H → p_Ex A U H) (hGF : ∀ (A : Nat → Prop) (U : State) (H : Heap), G A U H → gF A U H) (adK adV : Nat → Nat) (hGK : ∀ (A : Nat → Prop) (U : State) (H : Heap), G A U H → gK adK adV A U H) (hGN : ∀ (A : Nat → Prop) (U : State) (H : Heap), G A U H → gN A U H) (hGO : ∀ (A : Nat → Prop) (U : State) (H : Heap), G A U H → va_AO "VillageFeud$Village" U) (dT dO : Nat) (hGT : ∀ (A : Nat → Prop) (U : State) (H : Heap), G A U H → gT dT dO A U H) (hGU : ∀ (A : Nat → Prop) (U : State) (H : Heap), G A U H → gU A U H) (A : Nat → Prop) (b L : Nat) (xs : Nat → Int32) (X : p_X p m c cL_law 9 s #[.ref b] RL D cy G A) (hr : meth.sig.returnType = ret) (hlk : meth.locks = false) (hX : va_X b L xs s s.heap) (hbl : b < s.heap.size) (hbA : ¬ A b) (hfree : ∀ q, A q → s.heap.size ≤ q) (g28 : PS → Nat → Nat → Nat → Nat → Nat → Nat → Int32 → Prop) (ih28 : ∀ (S : PS) (bc bs : Nat) (l1 : Nat) (l2 : Nat) (l3 : Nat) (l4 : Nat) (l5 : Int32), g28 S bc bs l1 l2 l3 l4 l5 → ∀ (H : Heap) (locs : List Loc) (ls : Array Slot) (cells slots : Nat), p_H D cy S A s H locs → lv_has ls 9 [(0, .ref b), (1, .ref l1), (2, .ref l2), (3, .ref l3), (4, .ref l4), (5, .int l5)] → cells + bc ≤ room_1.cells ∧ slots + bs ≤ room_1.slots → W p l e room_1 s m #[Value.ref b] below meth c H locs cells slots (lw_Z below #[Value.ref b] s) (F0 m 28 ls [])) : ∀ (S : PS) (bc bs : Nat) (l1 : Nat) (l2 : Nat) (l3 : Nat) (l4 : Nat) (l5 : Int32), f_L_law_J2148 adK L xs g28 S bc bs l1 l2 l3 l4 l5 → ∀ (H : Heap) (locs : List Loc) (ls : Array Slot) (cells slots : Nat), p_H D cy S A s H locs → lv_has ls 9 [(0, .ref b), (1, .ref l1), (2, .ref l2), (3, .ref l3), (4, .ref l4), (5, .int l5)] → cells + bc ≤ room_1.cells ∧ slots + bs ≤ room_1.slots → W p l e room_1 s m #[Value.ref b] below meth c H locs cells slots (lw_Z below #[Value.ref b] s) (F0 m 2148 ls []) := by
  have hx := X.1.1
  have hb := X.1.2.1
  have hJ2561 := jL_law_2561 l D cy G hGC hst hGE hGF adK adV hGK hGN hGO dT dO hGT hGU A b L xs X hr hlk hX hbl hbA hfree g28 ih28
  intro S bc bs l1 l2 l3 l4 l5 hf H locs ls cells slots hH hl hB
  have hJ2201 : ∀ (S : PS) (bc bs : Nat) (l1 : Nat) (l2 : Nat) (l3 : Nat) (l4 : Nat) (l5 : Int32), f_L_law_J2201 adK L xs g28 S bc bs l1 l2 l3 l4 l5 → ∀ (H : Heap) (locs : List Loc) (ls : Array Slot) (cells slots : Nat), p_H D cy S A s H locs → lv_has ls 9 [(0, .ref b), (1, .ref l1), (2, .ref l2), (3, .ref l3), (4, .ref l4), (5, .int l5)] → cells + bc ≤ room_1.cells ∧ slots + bs ≤ room_1.slots → W p l e room_1 s m [.ref b].toArray below meth c H locs cells slots (lw_Z below #[Value.ref b] s) (F0 m 2201 ls []) := by
    intro S bc bs l1 l2 l3 l4 l5 hf H locs ls cells slots hH hl hB
    refine lv_goto (tgt := 2561) hx hb dL_law_2201 (by decide) ?_
    exact hJ2561 S bc bs l1 l2 l3 l4 l5 hf H locs ls cells slots hH hl hB
  refine lv_aload_n hx hb dL_law_2148 rfl (lv_at hl 1 rfl) ?_
  refine lv_aload_n hx hb dL_law_2149 rfl (lv_at hl 0 rfl) ?_
  refine lv_iload hx hb dL_law_2150 (lv_at hl 5 rfl) ?_
  refine lv_iconst (v := 1) hx hb dL_law_2152 (by decide) ?_
  refine lv_iadd hx hb dL_law_2153 ?_
  refine va_sld hx hb hX hbl hbA hH.2.2 hf.1 dL_law_2154 ?_
  have hf := hf.2
  refine lv_aload_n hx hb dL_law_2155 rfl (lv_at hl 3 rfl) ?_
  obtain ⟨mc2, ms2, hm1, hs1, hf⟩ := hf
  refine q_callXi X hH hB hm1 hs1 (q_runSx [.ref l1, .int (xs (l5 + 1).toNatClampNeg), .ref l3] [] X hH hl (c_L_tellPhase l D cy G X.2.2.2.1 hGC hst hGE dT dO hGT hGU S l1 (xs (l5 + 1).toNatClampNeg) l3 mc2 ms2 _ _ hf) mw_L_tellPhase tw_1504 tw_1503 ⟨Nat.le_of_ble_eq_true rfl, Nat.le_of_ble_eq_true rfl⟩ rfl (Nat.le_of_ble_eq_true rfl) dL_law_2156 ⟨Nat.le_trans (Nat.add_le_add_left hm1 _) hB.1, Nat.le_trans (Nat.add_le_add_left hs1 _) hB.2⟩) (fun _ _ _ _ hf _ _ _ _ _ _ _ _ _ => hf.elim) (fun v3 S1 hf H locs cells slots hH hB => ?_)
  refine lv_istore (lv' := [(6, .int v3), (0, .ref b), (1, .ref l1), (2, .ref l2), (3, .ref l3), (4, .ref l4), (5, .int l5)]) hx hb dL_law_2159 hl (by decide) rfl (fun ls hl => ?_)
  refine lv_aload_n hx hb dL_law_2161 rfl (lv_at hl 3 rfl) ?_
  refine lv_aload_n hx hb dL_law_2162 rfl (lv_at hl 1 rfl) ?_
  refine lv_iload hx hb dL_law_2163 (lv_at hl 6 rfl) ?_
  refine lv_iconst (v := 1) hx hb dL_law_2165 (by decide) ?_
  refine lv_iadd hx hb dL_law_2166 ?_
  refine va_sld hx hb hX hbl hbA hH.2.2 hf.1 dL_law_2167 ?_
  have hf := hf.2
  obtain ⟨hb1, hb2, hf⟩ := hf
  refine q_backI0 X hH (q_runV [.int (xs (l5 + 1).toNatClampNeg)] [] X hH hl (c_X8_tellPhase l D cy G X.2.2.2.1 S1 l2 (xs (l5 + 1).toNatClampNeg) _ _ hf) mf_X8_tellPhase mv_X8_tellPhase tw_2048 ⟨Nat.le_of_ble_eq_true rfl, Nat.le_of_ble_eq_true rfl⟩ hb1 hb2 (T := TX8) (N := 25) rfl rfl (Nat.le_of_ble_eq_true rfl) dL_law_2168 ⟨Nat.le_trans (Nat.le_add_right _ _) hB.1, Nat.le_trans (Nat.le_add_right _ _) hB.2⟩) (fun v5 S4 hf H locs hH => ?_)
  refine lv_istore (lv' := [(7, .int v5), (6, .int v3), (0, .ref b), (1, .ref l1), (2, .ref l2), (3, .ref l3), (4, .ref l4), (5, .int l5)]) hx hb dL_law_2171 hl (by decide) rfl (fun ls hl => ?_)
  refine lv_aload_n hx hb dL_law_2173 rfl (lv_at hl 4 rfl) ?_
  obtain ⟨hb1, hb2, hf⟩ := hf
  refine q_backI0 X hH (q_runV [] [] X hH hl (c_X8_thrown l D cy G X.2.2.2.1 S4 l2 _ _ hf) mf_X8_thrown mv_X8_thrown tw_1686 ⟨Nat.le_of_ble_eq_true rfl, Nat.le_of_ble_eq_true rfl⟩ hb1 hb2 (T := TX8) (N := 25) rfl rfl (Nat.le_of_ble_eq_true rfl) dL_law_2174 ⟨Nat.le_trans (Nat.le_add_right _ _) hB.1, Nat.le_trans (Nat.le_add_right _ _) hB.2⟩) (fun v7 S6 hf H locs hH => ?_)
  refine lv_iload hx hb dL_law_2177 (lv_at hl 1 rfl) ?_
  refine lv_icmp_eq (tgt := 2184) hx hb dL_law_2179 (by decide) (fun c8 => ?_) (fun c8 => ?_)
  · have hf := (if_pos c8).mp hf
    refine lv_iload hx hb dL_law_2184 (lv_at hl 1 rfl) ?_
    refine lv_if_ne (tgt := 2201) hx hb dL_law_2186 (by decide) (fun c9 => ?_) (fun c9 => ?_)
    · have hf := (if_neg c9).mp hf
      exact hJ2201 S6 (bc - mc2) (bs - ms2) l1 l2 l3 l4 l5 hf H locs ls cells slots hH (lv_sub hl [2, 3, 4, 5, 6, 7] rfl) hB
    · have hf := (if_pos c9).mp hf
      refine lv_aload_n hx hb dL_law_2189 rfl (lv_at hl 5 rfl) ?_
      refine lv_iconst (v := 0) hx hb dL_law_2190 (by decide) ?_
      refine q_lald X hH hf dL_law_2191 (fun v10 hf => ?_)
      refine lv_iload hx hb dL_law_2192 (lv_at hl 0 rfl) ?_
      refine lv_i2l (v := v5.toInt64) hx hb dL_law_2194 rfl ?_
      refine W.lcmp hx hb dL_law_2195 ?_
      refine lv_if_eq (tgt := 2201) hx hb dL_law_2196 (by decide) (fun c11 => ?_) (fun c11 => ?_)
      · have hf := (if_pos c11).mp hf
        exact hJ2201 S6 (bc - mc2) (bs - ms2) l1 l2 l3 l4 l5 hf H locs ls cells slots hH (lv_sub hl [2, 3, 4, 5, 6, 7] rfl) hB
      · have hf := (if_neg c11).mp hf
        refine lv_iconst (v := 0) hx hb dL_law_2199 (by decide) ?_
        exact hf.elim
  · have hf := (if_neg c8).mp hf
    refine lv_iconst (v := 0) hx hb dL_law_2182 (by decide) ?_
    exact hf.elim
set_option maxHeartbeats 4000000 in
set_option maxRecDepth 100000 in
theorem jL_law_2204 {p : Program} {e : Env} {s : State} {m : MethodId} {below : List Frame} {meth : Method} {c : Code} (l : Launch) (D : va_G) (cy : Nat → ClassId) (G : p_GT) (hGC : ∀ (A : Nat → Prop) (U : State) (H : Heap), G A U H → gC A U H) (hst : l.stackTraces = false) (hGE : ∀ (A : Nat → Prop) (U : State) (H : Heap), G A U H → p_Ex A U H) (hGF : ∀ (A : Nat → Prop) (U : State) (H : Heap), G A U H → gF A U H) (adK adV : Nat → Nat) (hGK : ∀ (A : Nat → Prop) (U : State) (H : Heap), G A U H → gK adK adV A U H) (hGN : ∀ (A : Nat → Prop) (U : State) (H : Heap), G A U H → gN A U H) (hGO : ∀ (A : Nat → Prop) (U : State) (H : Heap), G A U H → va_AO "VillageFeud$Village" U) (dT dO : Nat) (hGT : ∀ (A : Nat → Prop) (U : State) (H : Heap), G A U H → gT dT dO A U H) (hGU : ∀ (A : Nat → Prop) (U : State) (H : Heap), G A U H → gU A U H) (A : Nat → Prop) (b L : Nat) (xs : Nat → Int32) (X : p_X p m c cL_law 9 s #[.ref b] RL D cy G A) (hr : meth.sig.returnType = ret) (hlk : meth.locks = false) (hX : va_X b L xs s s.heap) (hbl : b < s.heap.size) (hbA : ¬ A b) (hfree : ∀ q, A q → s.heap.size ≤ q) (g28 : PS → Nat → Nat → Nat → Nat → Nat → Nat → Int32 → Prop) (ih28 : ∀ (S : PS) (bc bs : Nat) (l1 : Nat) (l2 : Nat) (l3 : Nat) (l4 : Nat) (l5 : Int32), g28 S bc bs l1 l2 l3 l4 l5 → ∀ (H : Heap) (locs : List Loc) (ls : Array Slot) (cells slots : Nat), p_H D cy S A s H locs → lv_has ls 9 [(0, .ref b), (1, .ref l1), (2, .ref l2), (3, .ref l3), (4, .ref l4), (5, .int l5)] → cells + bc ≤ room_1.cells ∧ slots + bs ≤ room_1.slots → W p l e room_1 s m #[Value.ref b] below meth c H locs cells slots (lw_Z below #[Value.ref b] s) (F0 m 28 ls [])) : ∀ (S : PS) (bc bs : Nat) (l1 : Nat) (l2 : Nat) (l3 : Nat) (l4 : Nat) (l5 : Int32), f_L_law_J2204 adK L xs g28 S bc bs l1 l2 l3 l4 l5 → ∀ (H : Heap) (locs : List Loc) (ls : Array Slot) (cells slots : Nat), p_H D cy S A s H locs → lv_has ls 9 [(0, .ref b), (1, .ref l1), (2, .ref l2), (3, .ref l3), (4, .ref l4), (5, .int l5)] → cells + bc ≤ room_1.cells ∧ slots + bs ≤ room_1.slots → W p l e room_1 s m #[Value.ref b] below meth c H locs cells slots (lw_Z below #[Value.ref b] s) (F0 m 2204 ls []) := by
  have hx := X.1.1
  have hb := X.1.2.1
  have hJ2561 := jL_law_2561 l D cy G hGC hst hGE hGF adK adV hGK hGN hGO dT dO hGT hGU A b L xs X hr hlk hX hbl hbA hfree g28 ih28
  intro S bc bs l1 l2 l3 l4 l5 hf H locs ls cells slots hH hl hB
  refine lv_aload_n hx hb dL_law_2204 rfl (lv_at hl 1 rfl) ?_
  obtain ⟨hb1, hb2, hf⟩ := hf
  obtain ⟨mc2, ms2, hm1, hs1, hf⟩ := hf
  refine q_backIB X hH hB hm1 hs1 (q_runV [] [] X hH hl (c_X7_tellSides l D cy G X.2.2.2.1 hGC dT dO hGT hGU S l1 mc2 ms2 _ _ hf) mf_X7_tellSides mv_X7_tellSides tw_931 ⟨Nat.le_of_ble_eq_true rfl, Nat.le_of_ble_eq_true rfl⟩ hb1 hb2 (T := TX7) (N := 12) rfl rfl (Nat.le_of_ble_eq_true rfl) dL_law_2205 ⟨Nat.le_trans (Nat.add_le_add_left hm1 _) hB.1, Nat.le_trans (Nat.add_le_add_left hs1 _) hB.2⟩) (fun v3 S1 hf H locs cells slots hH hB => ?_)
  refine lv_aload_n hx hb dL_law_2208 rfl (lv_at hl 2 rfl) ?_
  obtain ⟨hb1, hb2, hf⟩ := hf
  refine q_backI0 X hH (q_runV [] [.int v3] X hH hl (c_X8_tellSides l D cy G X.2.2.2.1 S1 l2 _ _ hf) mf_X8_tellSides mv_X8_tellSides tw_2056 ⟨Nat.le_of_ble_eq_true rfl, Nat.le_of_ble_eq_true rfl⟩ hb1 hb2 (T := TX8) (N := 25) rfl rfl (Nat.le_of_ble_eq_true rfl) dL_law_2209 ⟨Nat.le_trans (Nat.le_add_right _ _) hB.1, Nat.le_trans (Nat.le_add_right _ _) hB.2⟩) (fun v5 S4 hf H locs hH => ?_)
  refine lv_icmp_eq (tgt := 2561) hx hb dL_law_2212 (by decide) (fun c6 => ?_) (fun c6 => ?_)
  · have hf := (if_pos c6).mp hf
    exact hJ2561 S4 (bc - mc2) (bs - ms2) l1 l2 l3 l4 l5 hf H locs ls cells slots hH hl hB
  · have hf := (if_neg c6).mp hf
    refine lv_iconst (v := 0) hx hb dL_law_2215 (by decide) ?_
    exact hf.elim
set_option maxHeartbeats 4000000 in
set_option maxRecDepth 100000 in
theorem jL_law_2217 {p : Program} {e : Env} {s : State} {m : MethodId} {below : List Frame} {meth : Method} {c : Code} (l : Launch) (D : va_G) (cy : Nat → ClassId) (G : p_GT) (hGC : ∀ (A : Nat → Prop) (U : State) (H : Heap), G A U H → gC A U H) (hst : l.stackTraces = false) (hGE : ∀ (A : Nat → Prop) (U : State) (H : Heap), G A U H → p_Ex A U H) (hGF : ∀ (A : Nat → Prop) (U : State) (H : Heap), G A U H → gF A U H) (adK adV : Nat → Nat) (hGK : ∀ (A : Nat → Prop) (U : State) (H : Heap), G A U H → gK adK adV A U H) (hGN : ∀ (A : Nat → Prop) (U : State) (H : Heap), G A U H → gN A U H) (hGO : ∀ (A : Nat → Prop) (U : State) (H : Heap), G A U H → va_AO "VillageFeud$Village" U) (dT dO : Nat) (hGT : ∀ (A : Nat → Prop) (U : State) (H : Heap), G A U H → gT dT dO A U H) (hGU : ∀ (A : Nat → Prop) (U : State) (H : Heap), G A U H → gU A U H) (A : Nat → Prop) (b L : Nat) (xs : Nat → Int32) (X : p_X p m c cL_law 9 s #[.ref b] RL D cy G A) (hr : meth.sig.returnType = ret) (hlk : meth.locks = false) (hX : va_X b L xs s s.heap) (hbl : b < s.heap.size) (hbA : ¬ A b) (hfree : ∀ q, A q → s.heap.size ≤ q) (g28 : PS → Nat → Nat → Nat → Nat → Nat → Nat → Int32 → Prop) (ih28 : ∀ (S : PS) (bc bs : Nat) (l1 : Nat) (l2 : Nat) (l3 : Nat) (l4 : Nat) (l5 : Int32), g28 S bc bs l1 l2 l3 l4 l5 → ∀ (H : Heap) (locs : List Loc) (ls : Array Slot) (cells slots : Nat), p_H D cy S A s H locs → lv_has ls 9 [(0, .ref b), (1, .ref l1), (2, .ref l2), (3, .ref l3), (4, .ref l4), (5, .int l5)] → cells + bc ≤ room_1.cells ∧ slots + bs ≤ room_1.slots → W p l e room_1 s m #[Value.ref b] below meth c H locs cells slots (lw_Z below #[Value.ref b] s) (F0 m 28 ls [])) : ∀ (S : PS) (bc bs : Nat) (l1 : Nat) (l2 : Nat) (l3 : Nat) (l4 : Nat) (l5 : Int32), f_L_law_J2217 adK L xs g28 S bc bs l1 l2 l3 l4 l5 → ∀ (H : Heap) (locs : List Loc) (ls : Array Slot) (cells slots : Nat), p_H D cy S A s H locs → lv_has ls 9 [(0, .ref b), (1, .ref l1), (2, .ref l2), (3, .ref l3), (4, .ref l4), (5, .int l5)] → cells + bc ≤ room_1.cells ∧ slots + bs ≤ room_1.slots → W p l e room_1 s m #[Value.ref b] below meth c H locs cells slots (lw_Z below #[Value.ref b] s) (F0 m 2217 ls []) := by
  have hx := X.1.1
  have hb := X.1.2.1
  have hJ2561 := jL_law_2561 l D cy G hGC hst hGE hGF adK adV hGK hGN hGO dT dO hGT hGU A b L xs X hr hlk hX hbl hbA hfree g28 ih28
  intro S bc bs l1 l2 l3 l4 l5 hf H locs ls cells slots hH hl hB
  have hJ2270 : ∀ (S : PS) (bc bs : Nat) (l1 : Nat) (l2 : Nat) (l3 : Nat) (l4 : Nat) (l5 : Int32), f_L_law_J2270 adK L xs g28 S bc bs l1 l2 l3 l4 l5 → ∀ (H : Heap) (locs : List Loc) (ls : Array Slot) (cells slots : Nat), p_H D cy S A s H locs → lv_has ls 9 [(0, .ref b), (1, .ref l1), (2, .ref l2), (3, .ref l3), (4, .ref l4), (5, .int l5)] → cells + bc ≤ room_1.cells ∧ slots + bs ≤ room_1.slots → W p l e room_1 s m [.ref b].toArray below meth c H locs cells slots (lw_Z below #[Value.ref b] s) (F0 m 2270 ls []) := by
    intro S bc bs l1 l2 l3 l4 l5 hf H locs ls cells slots hH hl hB
    refine lv_goto (tgt := 2561) hx hb dL_law_2270 (by decide) ?_
    exact hJ2561 S bc bs l1 l2 l3 l4 l5 hf H locs ls cells slots hH hl hB
  refine lv_aload_n hx hb dL_law_2217 rfl (lv_at hl 1 rfl) ?_
  refine lv_aload_n hx hb dL_law_2218 rfl (lv_at hl 0 rfl) ?_
  refine lv_iload hx hb dL_law_2219 (lv_at hl 5 rfl) ?_
  refine lv_iconst (v := 1) hx hb dL_law_2221 (by decide) ?_
  refine lv_iadd hx hb dL_law_2222 ?_
  refine va_sld hx hb hX hbl hbA hH.2.2 hf.1 dL_law_2223 ?_
  have hf := hf.2
  refine lv_aload_n hx hb dL_law_2224 rfl (lv_at hl 3 rfl) ?_
  obtain ⟨mc2, ms2, hm1, hs1, hf⟩ := hf
  refine q_callXi X hH hB hm1 hs1 (q_runSx [.ref l1, .int (xs (l5 + 1).toNatClampNeg), .ref l3] [] X hH hl (c_L_character l D cy G X.2.2.2.1 hst hGE hGF S l1 (xs (l5 + 1).toNatClampNeg) l3 mc2 ms2 _ _ hf) mw_L_character tw_1511 tw_1510 ⟨Nat.le_of_ble_eq_true rfl, Nat.le_of_ble_eq_true rfl⟩ rfl (Nat.le_of_ble_eq_true rfl) dL_law_2225 ⟨Nat.le_trans (Nat.add_le_add_left hm1 _) hB.1, Nat.le_trans (Nat.add_le_add_left hs1 _) hB.2⟩) (fun _ _ _ _ hf _ _ _ _ _ _ _ _ _ => hf.elim) (fun v3 S1 hf H locs cells slots hH hB => ?_)
  refine lv_istore (lv' := [(6, .int v3), (0, .ref b), (1, .ref l1), (2, .ref l2), (3, .ref l3), (4, .ref l4), (5, .int l5)]) hx hb dL_law_2228 hl (by decide) rfl (fun ls hl => ?_)
  refine lv_aload_n hx hb dL_law_2230 rfl (lv_at hl 3 rfl) ?_
  refine lv_aload_n hx hb dL_law_2231 rfl (lv_at hl 1 rfl) ?_
  refine lv_iload hx hb dL_law_2232 (lv_at hl 6 rfl) ?_
  refine lv_iconst (v := 1) hx hb dL_law_2234 (by decide) ?_
  refine lv_iadd hx hb dL_law_2235 ?_
  refine va_sld hx hb hX hbl hbA hH.2.2 hf.1 dL_law_2236 ?_
  have hf := hf.2
  obtain ⟨hb1, hb2, hf⟩ := hf
  refine q_backI0 X hH (q_runV [.int (xs (l5 + 1).toNatClampNeg)] [] X hH hl (c_X8_character l D cy G X.2.2.2.1 S1 l2 (xs (l5 + 1).toNatClampNeg) _ _ hf) mf_X8_character mv_X8_character tw_2060 ⟨Nat.le_of_ble_eq_true rfl, Nat.le_of_ble_eq_true rfl⟩ hb1 hb2 (T := TX8) (N := 25) rfl rfl (Nat.le_of_ble_eq_true rfl) dL_law_2237 ⟨Nat.le_trans (Nat.le_add_right _ _) hB.1, Nat.le_trans (Nat.le_add_right _ _) hB.2⟩) (fun v5 S4 hf H locs hH => ?_)
  refine lv_istore (lv' := [(7, .int v5), (6, .int v3), (0, .ref b), (1, .ref l1), (2, .ref l2), (3, .ref l3), (4, .ref l4), (5, .int l5)]) hx hb dL_law_2240 hl (by decide) rfl (fun ls hl => ?_)
  refine lv_aload_n hx hb dL_law_2242 rfl (lv_at hl 4 rfl) ?_
  obtain ⟨hb1, hb2, hf⟩ := hf
  refine q_backI0 X hH (q_runV [] [] X hH hl (c_X8_thrown l D cy G X.2.2.2.1 S4 l2 _ _ hf) mf_X8_thrown mv_X8_thrown tw_1686 ⟨Nat.le_of_ble_eq_true rfl, Nat.le_of_ble_eq_true rfl⟩ hb1 hb2 (T := TX8) (N := 25) rfl rfl (Nat.le_of_ble_eq_true rfl) dL_law_2243 ⟨Nat.le_trans (Nat.le_add_right _ _) hB.1, Nat.le_trans (Nat.le_add_right _ _) hB.2⟩) (fun v7 S6 hf H locs hH => ?_)
  refine lv_iload hx hb dL_law_2246 (lv_at hl 1 rfl) ?_
  refine lv_icmp_eq (tgt := 2253) hx hb dL_law_2248 (by decide) (fun c8 => ?_) (fun c8 => ?_)
  · have hf := (if_pos c8).mp hf
    refine lv_iload hx hb dL_law_2253 (lv_at hl 1 rfl) ?_
    refine lv_if_ne (tgt := 2270) hx hb dL_law_2255 (by decide) (fun c9 => ?_) (fun c9 => ?_)
    · have hf := (if_neg c9).mp hf
      exact hJ2270 S6 (bc - mc2) (bs - ms2) l1 l2 l3 l4 l5 hf H locs ls cells slots hH (lv_sub hl [2, 3, 4, 5, 6, 7] rfl) hB
    · have hf := (if_pos c9).mp hf
      refine lv_aload_n hx hb dL_law_2258 rfl (lv_at hl 5 rfl) ?_
      refine lv_iconst (v := 0) hx hb dL_law_2259 (by decide) ?_
      refine q_lald X hH hf dL_law_2260 (fun v10 hf => ?_)
      refine lv_iload hx hb dL_law_2261 (lv_at hl 0 rfl) ?_
      refine lv_i2l (v := v5.toInt64) hx hb dL_law_2263 rfl ?_
      refine W.lcmp hx hb dL_law_2264 ?_
      refine lv_if_eq (tgt := 2270) hx hb dL_law_2265 (by decide) (fun c11 => ?_) (fun c11 => ?_)
      · have hf := (if_pos c11).mp hf
        exact hJ2270 S6 (bc - mc2) (bs - ms2) l1 l2 l3 l4 l5 hf H locs ls cells slots hH (lv_sub hl [2, 3, 4, 5, 6, 7] rfl) hB
      · have hf := (if_neg c11).mp hf
        refine lv_iconst (v := 0) hx hb dL_law_2268 (by decide) ?_
        exact hf.elim
  · have hf := (if_neg c8).mp hf
    refine lv_iconst (v := 0) hx hb dL_law_2251 (by decide) ?_
    exact hf.elim
set_option maxHeartbeats 4000000 in
set_option maxRecDepth 100000 in
theorem jL_law_2273 {p : Program} {e : Env} {s : State} {m : MethodId} {below : List Frame} {meth : Method} {c : Code} (l : Launch) (D : va_G) (cy : Nat → ClassId) (G : p_GT) (hGC : ∀ (A : Nat → Prop) (U : State) (H : Heap), G A U H → gC A U H) (hst : l.stackTraces = false) (hGE : ∀ (A : Nat → Prop) (U : State) (H : Heap), G A U H → p_Ex A U H) (hGF : ∀ (A : Nat → Prop) (U : State) (H : Heap), G A U H → gF A U H) (adK adV : Nat → Nat) (hGK : ∀ (A : Nat → Prop) (U : State) (H : Heap), G A U H → gK adK adV A U H) (hGN : ∀ (A : Nat → Prop) (U : State) (H : Heap), G A U H → gN A U H) (hGO : ∀ (A : Nat → Prop) (U : State) (H : Heap), G A U H → va_AO "VillageFeud$Village" U) (dT dO : Nat) (hGT : ∀ (A : Nat → Prop) (U : State) (H : Heap), G A U H → gT dT dO A U H) (hGU : ∀ (A : Nat → Prop) (U : State) (H : Heap), G A U H → gU A U H) (A : Nat → Prop) (b L : Nat) (xs : Nat → Int32) (X : p_X p m c cL_law 9 s #[.ref b] RL D cy G A) (hr : meth.sig.returnType = ret) (hlk : meth.locks = false) (hX : va_X b L xs s s.heap) (hbl : b < s.heap.size) (hbA : ¬ A b) (hfree : ∀ q, A q → s.heap.size ≤ q) (g28 : PS → Nat → Nat → Nat → Nat → Nat → Nat → Int32 → Prop) (ih28 : ∀ (S : PS) (bc bs : Nat) (l1 : Nat) (l2 : Nat) (l3 : Nat) (l4 : Nat) (l5 : Int32), g28 S bc bs l1 l2 l3 l4 l5 → ∀ (H : Heap) (locs : List Loc) (ls : Array Slot) (cells slots : Nat), p_H D cy S A s H locs → lv_has ls 9 [(0, .ref b), (1, .ref l1), (2, .ref l2), (3, .ref l3), (4, .ref l4), (5, .int l5)] → cells + bc ≤ room_1.cells ∧ slots + bs ≤ room_1.slots → W p l e room_1 s m #[Value.ref b] below meth c H locs cells slots (lw_Z below #[Value.ref b] s) (F0 m 28 ls [])) : ∀ (S : PS) (bc bs : Nat) (l1 : Nat) (l2 : Nat) (l3 : Nat) (l4 : Nat) (l5 : Int32), f_L_law_J2273 adK L xs g28 S bc bs l1 l2 l3 l4 l5 → ∀ (H : Heap) (locs : List Loc) (ls : Array Slot) (cells slots : Nat), p_H D cy S A s H locs → lv_has ls 9 [(0, .ref b), (1, .ref l1), (2, .ref l2), (3, .ref l3), (4, .ref l4), (5, .int l5)] → cells + bc ≤ room_1.cells ∧ slots + bs ≤ room_1.slots → W p l e room_1 s m #[Value.ref b] below meth c H locs cells slots (lw_Z below #[Value.ref b] s) (F0 m 2273 ls []) := by
  have hx := X.1.1
  have hb := X.1.2.1
  have hJ2561 := jL_law_2561 l D cy G hGC hst hGE hGF adK adV hGK hGN hGO dT dO hGT hGU A b L xs X hr hlk hX hbl hbA hfree g28 ih28
  intro S bc bs l1 l2 l3 l4 l5 hf H locs ls cells slots hH hl hB
  have hJ2326 : ∀ (S : PS) (bc bs : Nat) (l1 : Nat) (l2 : Nat) (l3 : Nat) (l4 : Nat) (l5 : Int32), f_L_law_J2326 adK L xs g28 S bc bs l1 l2 l3 l4 l5 → ∀ (H : Heap) (locs : List Loc) (ls : Array Slot) (cells slots : Nat), p_H D cy S A s H locs → lv_has ls 9 [(0, .ref b), (1, .ref l1), (2, .ref l2), (3, .ref l3), (4, .ref l4), (5, .int l5)] → cells + bc ≤ room_1.cells ∧ slots + bs ≤ room_1.slots → W p l e room_1 s m [.ref b].toArray below meth c H locs cells slots (lw_Z below #[Value.ref b] s) (F0 m 2326 ls []) := by
    intro S bc bs l1 l2 l3 l4 l5 hf H locs ls cells slots hH hl hB
    refine lv_goto (tgt := 2561) hx hb dL_law_2326 (by decide) ?_
    exact hJ2561 S bc bs l1 l2 l3 l4 l5 hf H locs ls cells slots hH hl hB
  refine lv_aload_n hx hb dL_law_2273 rfl (lv_at hl 1 rfl) ?_
  refine lv_aload_n hx hb dL_law_2274 rfl (lv_at hl 0 rfl) ?_
  refine lv_iload hx hb dL_law_2275 (lv_at hl 5 rfl) ?_
  refine lv_iconst (v := 1) hx hb dL_law_2277 (by decide) ?_
  refine lv_iadd hx hb dL_law_2278 ?_
  refine va_sld hx hb hX hbl hbA hH.2.2 hf.1 dL_law_2279 ?_
  have hf := hf.2
  refine lv_aload_n hx hb dL_law_2280 rfl (lv_at hl 3 rfl) ?_
  obtain ⟨mc2, ms2, hm1, hs1, hf⟩ := hf
  refine q_callXi X hH hB hm1 hs1 (q_runSx [.ref l1, .int (xs (l5 + 1).toNatClampNeg), .ref l3] [] X hH hl (c_L_account l D cy G X.2.2.2.1 hst hGE S l1 (xs (l5 + 1).toNatClampNeg) l3 mc2 ms2 _ _ hf) mw_L_account tw_1520 tw_1519 ⟨Nat.le_of_ble_eq_true rfl, Nat.le_of_ble_eq_true rfl⟩ rfl (Nat.le_of_ble_eq_true rfl) dL_law_2281 ⟨Nat.le_trans (Nat.add_le_add_left hm1 _) hB.1, Nat.le_trans (Nat.add_le_add_left hs1 _) hB.2⟩) (fun _ _ _ _ hf _ _ _ _ _ _ _ _ _ => hf.elim) (fun v3 S1 hf H locs cells slots hH hB => ?_)
  refine lv_istore (lv' := [(6, .int v3), (0, .ref b), (1, .ref l1), (2, .ref l2), (3, .ref l3), (4, .ref l4), (5, .int l5)]) hx hb dL_law_2284 hl (by decide) rfl (fun ls hl => ?_)
  refine lv_aload_n hx hb dL_law_2286 rfl (lv_at hl 3 rfl) ?_
  refine lv_aload_n hx hb dL_law_2287 rfl (lv_at hl 1 rfl) ?_
  refine lv_iload hx hb dL_law_2288 (lv_at hl 6 rfl) ?_
  refine lv_iconst (v := 1) hx hb dL_law_2290 (by decide) ?_
  refine lv_iadd hx hb dL_law_2291 ?_
  refine va_sld hx hb hX hbl hbA hH.2.2 hf.1 dL_law_2292 ?_
  have hf := hf.2
  obtain ⟨hb1, hb2, hf⟩ := hf
  refine q_backI0 X hH (q_runV [.int (xs (l5 + 1).toNatClampNeg)] [] X hH hl (c_X8_account l D cy G X.2.2.2.1 S1 l2 (xs (l5 + 1).toNatClampNeg) _ _ hf) mf_X8_account mv_X8_account tw_2064 ⟨Nat.le_of_ble_eq_true rfl, Nat.le_of_ble_eq_true rfl⟩ hb1 hb2 (T := TX8) (N := 25) rfl rfl (Nat.le_of_ble_eq_true rfl) dL_law_2293 ⟨Nat.le_trans (Nat.le_add_right _ _) hB.1, Nat.le_trans (Nat.le_add_right _ _) hB.2⟩) (fun v5 S4 hf H locs hH => ?_)
  refine lv_istore (lv' := [(7, .int v5), (6, .int v3), (0, .ref b), (1, .ref l1), (2, .ref l2), (3, .ref l3), (4, .ref l4), (5, .int l5)]) hx hb dL_law_2296 hl (by decide) rfl (fun ls hl => ?_)
  refine lv_aload_n hx hb dL_law_2298 rfl (lv_at hl 4 rfl) ?_
  obtain ⟨hb1, hb2, hf⟩ := hf
  refine q_backI0 X hH (q_runV [] [] X hH hl (c_X8_thrown l D cy G X.2.2.2.1 S4 l2 _ _ hf) mf_X8_thrown mv_X8_thrown tw_1686 ⟨Nat.le_of_ble_eq_true rfl, Nat.le_of_ble_eq_true rfl⟩ hb1 hb2 (T := TX8) (N := 25) rfl rfl (Nat.le_of_ble_eq_true rfl) dL_law_2299 ⟨Nat.le_trans (Nat.le_add_right _ _) hB.1, Nat.le_trans (Nat.le_add_right _ _) hB.2⟩) (fun v7 S6 hf H locs hH => ?_)
  refine lv_iload hx hb dL_law_2302 (lv_at hl 1 rfl) ?_
  refine lv_icmp_eq (tgt := 2309) hx hb dL_law_2304 (by decide) (fun c8 => ?_) (fun c8 => ?_)
  · have hf := (if_pos c8).mp hf
    refine lv_iload hx hb dL_law_2309 (lv_at hl 1 rfl) ?_
    refine lv_if_ne (tgt := 2326) hx hb dL_law_2311 (by decide) (fun c9 => ?_) (fun c9 => ?_)
    · have hf := (if_neg c9).mp hf
      exact hJ2326 S6 (bc - mc2) (bs - ms2) l1 l2 l3 l4 l5 hf H locs ls cells slots hH (lv_sub hl [2, 3, 4, 5, 6, 7] rfl) hB
    · have hf := (if_pos c9).mp hf
      refine lv_aload_n hx hb dL_law_2314 rfl (lv_at hl 5 rfl) ?_
      refine lv_iconst (v := 0) hx hb dL_law_2315 (by decide) ?_
      refine q_lald X hH hf dL_law_2316 (fun v10 hf => ?_)
      refine lv_iload hx hb dL_law_2317 (lv_at hl 0 rfl) ?_
      refine lv_i2l (v := v5.toInt64) hx hb dL_law_2319 rfl ?_
      refine W.lcmp hx hb dL_law_2320 ?_
      refine lv_if_eq (tgt := 2326) hx hb dL_law_2321 (by decide) (fun c11 => ?_) (fun c11 => ?_)
      · have hf := (if_pos c11).mp hf
        exact hJ2326 S6 (bc - mc2) (bs - ms2) l1 l2 l3 l4 l5 hf H locs ls cells slots hH (lv_sub hl [2, 3, 4, 5, 6, 7] rfl) hB
      · have hf := (if_neg c11).mp hf
        refine lv_iconst (v := 0) hx hb dL_law_2324 (by decide) ?_
        exact hf.elim
  · have hf := (if_neg c8).mp hf
    refine lv_iconst (v := 0) hx hb dL_law_2307 (by decide) ?_
    exact hf.elim
set_option maxHeartbeats 4000000 in
set_option maxRecDepth 100000 in
theorem jL_law_2329 {p : Program} {e : Env} {s : State} {m : MethodId} {below : List Frame} {meth : Method} {c : Code} (l : Launch) (D : va_G) (cy : Nat → ClassId) (G : p_GT) (hGC : ∀ (A : Nat → Prop) (U : State) (H : Heap), G A U H → gC A U H) (hst : l.stackTraces = false) (hGE : ∀ (A : Nat → Prop) (U : State) (H : Heap), G A U H → p_Ex A U H) (hGF : ∀ (A : Nat → Prop) (U : State) (H : Heap), G A U H → gF A U H) (adK adV : Nat → Nat) (hGK : ∀ (A : Nat → Prop) (U : State) (H : Heap), G A U H → gK adK adV A U H) (hGN : ∀ (A : Nat → Prop) (U : State) (H : Heap), G A U H → gN A U H) (hGO : ∀ (A : Nat → Prop) (U : State) (H : Heap), G A U H → va_AO "VillageFeud$Village" U) (dT dO : Nat) (hGT : ∀ (A : Nat → Prop) (U : State) (H : Heap), G A U H → gT dT dO A U H) (hGU : ∀ (A : Nat → Prop) (U : State) (H : Heap), G A U H → gU A U H) (A : Nat → Prop) (b L : Nat) (xs : Nat → Int32) (X : p_X p m c cL_law 9 s #[.ref b] RL D cy G A) (hr : meth.sig.returnType = ret) (hlk : meth.locks = false) (hX : va_X b L xs s s.heap) (hbl : b < s.heap.size) (hbA : ¬ A b) (hfree : ∀ q, A q → s.heap.size ≤ q) (g28 : PS → Nat → Nat → Nat → Nat → Nat → Nat → Int32 → Prop) (ih28 : ∀ (S : PS) (bc bs : Nat) (l1 : Nat) (l2 : Nat) (l3 : Nat) (l4 : Nat) (l5 : Int32), g28 S bc bs l1 l2 l3 l4 l5 → ∀ (H : Heap) (locs : List Loc) (ls : Array Slot) (cells slots : Nat), p_H D cy S A s H locs → lv_has ls 9 [(0, .ref b), (1, .ref l1), (2, .ref l2), (3, .ref l3), (4, .ref l4), (5, .int l5)] → cells + bc ≤ room_1.cells ∧ slots + bs ≤ room_1.slots → W p l e room_1 s m #[Value.ref b] below meth c H locs cells slots (lw_Z below #[Value.ref b] s) (F0 m 28 ls [])) : ∀ (S : PS) (bc bs : Nat) (l1 : Nat) (l2 : Nat) (l3 : Nat) (l4 : Nat) (l5 : Int32), f_L_law_J2329 adK L xs g28 S bc bs l1 l2 l3 l4 l5 → ∀ (H : Heap) (locs : List Loc) (ls : Array Slot) (cells slots : Nat), p_H D cy S A s H locs → lv_has ls 9 [(0, .ref b), (1, .ref l1), (2, .ref l2), (3, .ref l3), (4, .ref l4), (5, .int l5)] → cells + bc ≤ room_1.cells ∧ slots + bs ≤ room_1.slots → W p l e room_1 s m #[Value.ref b] below meth c H locs cells slots (lw_Z below #[Value.ref b] s) (F0 m 2329 ls []) := by
  have hx := X.1.1
  have hb := X.1.2.1
  have hJ2561 := jL_law_2561 l D cy G hGC hst hGE hGF adK adV hGK hGN hGO dT dO hGT hGU A b L xs X hr hlk hX hbl hbA hfree g28 ih28
  intro S bc bs l1 l2 l3 l4 l5 hf H locs ls cells slots hH hl hB
  have hJ2391 : ∀ (S : PS) (bc bs : Nat) (l1 : Nat) (l2 : Nat) (l3 : Nat) (l4 : Nat) (l5 : Int32), f_L_law_J2391 adK L xs g28 S bc bs l1 l2 l3 l4 l5 → ∀ (H : Heap) (locs : List Loc) (ls : Array Slot) (cells slots : Nat), p_H D cy S A s H locs → lv_has ls 9 [(0, .ref b), (1, .ref l1), (2, .ref l2), (3, .ref l3), (4, .ref l4), (5, .int l5)] → cells + bc ≤ room_1.cells ∧ slots + bs ≤ room_1.slots → W p l e room_1 s m [.ref b].toArray below meth c H locs cells slots (lw_Z below #[Value.ref b] s) (F0 m 2391 ls []) := by
    intro S bc bs l1 l2 l3 l4 l5 hf H locs ls cells slots hH hl hB
    refine lv_goto (tgt := 2561) hx hb dL_law_2391 (by decide) ?_
    exact hJ2561 S bc bs l1 l2 l3 l4 l5 hf H locs ls cells slots hH hl hB
  refine lv_aload_n hx hb dL_law_2329 rfl (lv_at hl 1 rfl) ?_
  refine lv_aload hx hb dL_law_2330 (lv_at hl 4 rfl) ?_
  obtain ⟨mc2, ms2, hm1, hs1, hf⟩ := hf
  refine q_callXi X hH hB hm1 hs1 (q_runSx [.ref l1, .ref l4] [] X hH hl (c_L_meanWeight l D cy G X.2.2.2.1 hst hGE S l1 l4 mc2 ms2 _ _ hf) mw_L_meanWeight tw_1550 tw_1549 ⟨Nat.le_of_ble_eq_true rfl, Nat.le_of_ble_eq_true rfl⟩ rfl (Nat.le_of_ble_eq_true rfl) dL_law_2332 ⟨Nat.le_trans (Nat.add_le_add_left hm1 _) hB.1, Nat.le_trans (Nat.add_le_add_left hs1 _) hB.2⟩) (fun _ _ _ _ hf _ _ _ _ _ _ _ _ _ => hf.elim) (fun v3 S1 hf H locs cells slots hH hB => ?_)
  refine lv_istore (lv' := [(6, .int v3), (0, .ref b), (1, .ref l1), (2, .ref l2), (3, .ref l3), (4, .ref l4), (5, .int l5)]) hx hb dL_law_2335 hl (by decide) rfl (fun ls hl => ?_)
  refine lv_aload_n hx hb dL_law_2337 rfl (lv_at hl 3 rfl) ?_
  obtain ⟨hb1, hb2, hf⟩ := hf
  refine q_backD0 X hH (q_runV [] [] X hH hl (c_X8_meanWeight l D cy G X.2.2.2.1 S1 l2 _ _ hf) mf_X8_meanWeight mv_X8_meanWeight tw_2080 ⟨Nat.le_of_ble_eq_true rfl, Nat.le_of_ble_eq_true rfl⟩ hb1 hb2 (T := TX8) (N := 25) rfl rfl (Nat.le_of_ble_eq_true rfl) dL_law_2338 ⟨Nat.le_trans (Nat.le_add_right _ _) hB.1, Nat.le_trans (Nat.le_add_right _ _) hB.2⟩) (fun v5 S4 hf H locs hH => ?_)
  refine lv_dstore (lv' := [(7, .double v5), (6, .int v3), (0, .ref b), (1, .ref l1), (2, .ref l2), (3, .ref l3), (4, .ref l4), (5, .int l5)]) hx hb dL_law_2341 hl (by decide) rfl (fun ls hl => ?_)
  refine lv_aload_n hx hb dL_law_2343 rfl (lv_at hl 4 rfl) ?_
  obtain ⟨hb1, hb2, hf⟩ := hf
  refine q_backI0 X hH (q_runV [] [] X hH hl (c_X8_thrown l D cy G X.2.2.2.1 S4 l2 _ _ hf) mf_X8_thrown mv_X8_thrown tw_1686 ⟨Nat.le_of_ble_eq_true rfl, Nat.le_of_ble_eq_true rfl⟩ hb1 hb2 (T := TX8) (N := 25) rfl rfl (Nat.le_of_ble_eq_true rfl) dL_law_2344 ⟨Nat.le_trans (Nat.le_add_right _ _) hB.1, Nat.le_trans (Nat.le_add_right _ _) hB.2⟩) (fun v7 S6 hf H locs hH => ?_)
  refine lv_iload hx hb dL_law_2347 (lv_at hl 1 rfl) ?_
  refine lv_icmp_eq (tgt := 2354) hx hb dL_law_2349 (by decide) (fun c8 => ?_) (fun c8 => ?_)
  · have hf := (if_pos c8).mp hf
    refine lv_iload hx hb dL_law_2354 (lv_at hl 1 rfl) ?_
    refine lv_if_ne (tgt := 2391) hx hb dL_law_2356 (by decide) (fun c9 => ?_) (fun c9 => ?_)
    · have hf := (if_neg c9).mp hf
      exact hJ2391 S6 (bc - mc2) (bs - ms2) l1 l2 l3 l4 l5 hf H locs ls cells slots hH (lv_sub hl [2, 3, 4, 5, 6, 7] rfl) hB
    · have hf := (if_pos c9).mp hf
      refine lv_aload hx hb dL_law_2359 (lv_at hl 6 rfl) ?_
      refine lv_iconst (v := 0) hx hb dL_law_2361 (by decide) ?_
      refine q_dald X hH hf dL_law_2362 (fun v10 hf => ?_)
      refine lv_dload hx hb dL_law_2363 (lv_at hl 0 rfl) ?_
      refine lv_dcmp hx hb dL_law_2365 ?_
      refine lv_if_eq (tgt := 2391) hx hb dL_law_2366 (by decide) (fun c11 => ?_) (fun c11 => ?_)
      · have hf := (if_pos c11).mp hf
        exact hJ2391 S6 (bc - mc2) (bs - ms2) l1 l2 l3 l4 l5 hf H locs ls cells slots hH (lv_sub hl [2, 3, 4, 5, 6, 7] rfl) hB
      · have hf := (if_neg c11).mp hf
        refine lv_aload hx hb dL_law_2369 (lv_at hl 6 rfl) ?_
        refine lv_iconst (v := 0) hx hb dL_law_2371 (by decide) ?_
        refine q_dald X hH hf dL_law_2372 (fun v12 hf => ?_)
        refine lv_aload hx hb dL_law_2373 (lv_at hl 6 rfl) ?_
        refine lv_iconst (v := 0) hx hb dL_law_2375 (by decide) ?_
        refine q_dald X hH hf dL_law_2376 (fun v13 hf => ?_)
        refine lv_dcmp hx hb dL_law_2377 ?_
        refine lv_if_eq (tgt := 2389) hx hb dL_law_2378 (by decide) (fun c14 => ?_) (fun c14 => ?_)
        · have hf := (if_pos c14).mp hf
          refine lv_iconst (v := 0) hx hb dL_law_2389 (by decide) ?_
          exact hf.elim
        · have hf := (if_neg c14).mp hf
          refine lv_dload hx hb dL_law_2381 (lv_at hl 0 rfl) ?_
          refine lv_dload hx hb dL_law_2383 (lv_at hl 0 rfl) ?_
          refine lv_dcmp hx hb dL_law_2385 ?_
          refine lv_if_ne (tgt := 2391) hx hb dL_law_2386 (by decide) (fun c15 => ?_) (fun c15 => ?_)
          · have hf := (if_neg c15).mp hf
            exact hJ2391 S6 (bc - mc2) (bs - ms2) l1 l2 l3 l4 l5 hf H locs ls cells slots hH (lv_sub hl [2, 3, 4, 5, 6, 7] rfl) hB
          · have hf := (if_pos c15).mp hf
            refine lv_iconst (v := 0) hx hb dL_law_2389 (by decide) ?_
            exact hf.elim
  · have hf := (if_neg c8).mp hf
    refine lv_iconst (v := 0) hx hb dL_law_2352 (by decide) ?_
    exact hf.elim
