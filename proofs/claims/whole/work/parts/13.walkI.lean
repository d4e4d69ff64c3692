set_option maxHeartbeats 4000000 in
set_option maxRecDepth 100000 in
theorem wl_J7_fill_53178_5 {cI cS : ClassId} (X : CX) (C : Cx X RJ7 cJ7_fill_53178 4 none (rmz 0 0) (tyz cI cS)) (a : Nat) (N : Nat) (a1 : Int32)  (kk : Int32 → (Nat → Int32) → Option ((Nat → Int32))) (hk_5 : ∀ (el2_5 : Int32) (eAF_5 : Nat → Int32), JR X (QF X (tyz cI cS) 0 0 (fun o : (Nat → Int32) => none) (fun o : (Nat → Int32) => [(a, arI cI N o)])) 4 0 0 (kk el2_5 eAF_5) ([(a, arI cI N eAF_5)]) [] 20 []) : ∀ (fuel : Nat) (l2_5 : Int32) (AF_5 : Nat → Int32), JR X (QF X (tyz cI cS) 0 0 (fun o : (Nat → Int32) => none) (fun o : (Nat → Int32) => [(a, arI cI N o)])) 4 0 0 (lp_J7_fill_53178_5 kk N a1 fuel l2_5 AF_5) ([(a, arI cI N AF_5)]) [(0, .ref a), (1, .int a1), (2, .int l2_5), (3, .int (Int32.ofNat N))] 5 [] := by
  intro fuel
  induction fuel with
  | zero => intro l2_5 AF_5; exact r_none
  | succ fu_5 ih_5 =>
    intro l2_5 AF_5
    unfold lp_J7_fill_53178_5
    refine r_iload_n (pc := 5) C 2 dJ7_fill_53178_5 rfl rfl ?_
    refine r_iload_n (pc := 6) C 3 dJ7_fill_53178_6 rfl rfl ?_
    refine r_icmp_ge (pc := 7) (tgt := 20) C dJ7_fill_53178_7 (by decide) ?_ ?_
    · exact r_sub [] rfl (hk_5 l2_5 AF_5)
    · refine r_aload_n (pc := 10) C 0 dJ7_fill_53178_10 rfl rfl ?_
      refine r_iload_n (pc := 11) C 2 dJ7_fill_53178_11 rfl rfl ?_
      refine r_iload_n (pc := 12) C 1 dJ7_fill_53178_12 rfl rfl ?_
      refine r_iast (pc := 13) (ws' := [(a, arI cI N (upd AF_5 l2_5.toNatClampNeg a1))]) C 0 rfl dJ7_fill_53178_13 rfl ?_
      refine r_iinc (pc := 14) C 2 dJ7_fill_53178_14 rfl (ci_1) (by decide) (lv' := [(2, .int (l2_5 + (1 : Int32))), (0, .ref a), (1, .int a1), (3, .int (Int32.ofNat N))]) rfl ?_
      refine r_goto (pc := 17) (tgt := 5) C dJ7_fill_53178_17 (by decide) ?_
      exact r_sub [1, 2, 0, 3] rfl (ih_5 (l2_5 + (1 : Int32)) (upd AF_5 l2_5.toNatClampNeg a1))
set_option maxHeartbeats 4000000 in
set_option maxRecDepth 100000 in
theorem m_J7_fill_53178 (l : Launch) (D : va_G) (cI cS : ClassId) (a : Nat) (N : Nat) (AF : Nat → Int32) (a1 : Int32) : MX l D (tyz cI cS) yJ7_fill_53178 cJ7_fill_53178 4 none (rmz 0 0) [.ref a, .int a1] ([(a, arI cI N AF)]) (f_J7_fill_53178 N AF a1) (fun o : (Nat → Int32) => none) (fun o : (Nat → Int32) => [(a, arI cI N o)]) := met_of (own := RJ7) (by decide) rfl (Nat.le_of_ble_eq_true rfl) (fun X hxl hxD C => by
  subst hxl
  subst hxD
  show JR X _ _ 0 0 (f_J7_fill_53178 N AF a1) ([(a, arI cI N AF)]) [(0, .ref a), (1, .int a1)] 0 []
  unfold f_J7_fill_53178
  refine r_iconst (pc := 0) C dJ7_fill_53178_0 (ci_0) ?_
  refine r_istore_n (pc := 1) C dJ7_fill_53178_1 rfl (by decide) (lv' := [(2, .int (0 : Int32)), (0, .ref a), (1, .int a1)]) rfl ?_
  refine r_aload_n (pc := 2) C 1 dJ7_fill_53178_2 rfl rfl ?_
  refine r_alen (pc := 3) C 0 rfl dJ7_fill_53178_3 ?_
  refine r_istore_n (pc := 4) C dJ7_fill_53178_4 rfl (by decide) (lv' := [(3, .int (Int32.ofNat N)), (2, .int (0 : Int32)), (0, .ref a), (1, .int a1)]) rfl ?_
  refine r_sub [2, 3, 1, 0] rfl (wl_J7_fill_53178_5 X C a N a1  _ (fun el2_5 eAF_5 => ?_) 1000 (0 : Int32) AF)
  exact r_vret (pc := 20) C rfl rfl dJ7_fill_53178_20)
set_option maxHeartbeats 4000000 in
set_option maxRecDepth 100000 in
theorem m_X1_hasRow (l : Launch) (D : va_G) (cI cS : ClassId) (a : Nat) (b : Nat) (ln : Int32) (sz : Int32) (ce : Nat → Int32) : MX l D (tyz cI cS) yX1_hasRow cX1_hasRow 1 (some .boolean) (rmz 0 0) [.ref a] (wdS cI a b ln sz ce) (f_X1_hasRow ln) (fun o : Int32 => some (.int o)) (fun o : Int32 => wdS cI a b ln sz ce) := met_of (own := RX1) (by decide) rfl (Nat.le_of_ble_eq_true rfl) (fun X hxl hxD C => by
  subst hxl
  subst hxD
  show JR X _ _ 0 0 (f_X1_hasRow ln) (wdS cI a b ln sz ce) [(0, .ref a)] 0 []
  unfold f_X1_hasRow
  refine r_aload_n (pc := 0) C 0 dX1_hasRow_0 rfl rfl ?_
  refine gf_X1_15 (pc := 1) C 0 rfl rfl dX1_hasRow_1 ?_
  refine r_iconst (pc := 4) C dX1_hasRow_4 (ci_m1) ?_
  refine r_icmp_eq (pc := 5) (tgt := 12) C dX1_hasRow_5 (by decide) ?_ ?_
  · refine r_iconst (pc := 12) C dX1_hasRow_12 (ci_0) ?_
    exact r_zret (pc := 13) C rfl rfl rfl dX1_hasRow_13
  · refine r_iconst (pc := 8) C dX1_hasRow_8 (ci_1) ?_
    refine r_goto (pc := 9) (tgt := 13) C dX1_hasRow_9 (by decide) ?_
    exact r_zret (pc := 13) C rfl rfl rfl dX1_hasRow_13)
set_option maxHeartbeats 4000000 in
set_option maxRecDepth 100000 in
theorem m_X1_begin (l : Launch) (D : va_G) (cI cS : ClassId) (a : Nat) (b : Nat) (ln : Int32) (sz : Int32) (ce : Nat → Int32) (a1 : Int32) (a2 : Int32) : MX l D (tyz cI cS) yX1_begin cX1_begin 3 none (rmz 1 23) [.ref a, .int a1, .int a2] (wdS cI a b ln sz ce) (f_X1_begin ce a1 a2) (fun o : (Int32) × (Int32) × (Nat → Int32) => none) (fun o : (Int32) × (Int32) × (Nat → Int32) => wdS cI a b o.1 o.2.1 o.2.2) := met_of (own := RX1) (by decide) rfl (Nat.le_of_ble_eq_true rfl) (fun X hxl hxD C => by
  subst hxl
  subst hxD
  show JR X _ _ 0 0 (f_X1_begin ce a1 a2) (wdS cI a b ln sz ce) [(0, .ref a), (1, .int a1), (2, .int a2)] 0 []
  unfold f_X1_begin
  refine r_aload_n (pc := 0) C 0 dX1_begin_0 rfl rfl ?_
  refine gf_X1_9 (pc := 1) C 0 rfl rfl dX1_begin_1 ?_
  refine r_iconst (pc := 4) C dX1_begin_4 (ci_0) ?_
  refine r_callS (pc := 5) (rest := []) C [1] (fun r5 => wdS cI a b ln sz r5) (m_J7_fill_53178 (xl X) (xD X) cI cS b 60 ce (0 : Int32)) ms_X1_19 rfl rfl (fun _ => rfl) (fun _ => rfl) rfl ⟨Nat.zero_le _, Nat.zero_le _⟩ rfl rfl (Nat.le_of_ble_eq_true rfl) dX1_begin_5 (fun r5 => ?_)
  refine r_aload_n (pc := 8) C 0 dX1_begin_8 rfl rfl ?_
  refine r_iload_n (pc := 9) C 1 dX1_begin_9 rfl rfl ?_
  refine pf_X1_15 (pc := 10) (ws' := wdS cI a b a1 sz r5) C 0 rfl rfl dX1_begin_10 rfl ?_
  refine r_aload_n (pc := 13) C 0 dX1_begin_13 rfl rfl ?_
  refine r_iload_n (pc := 14) C 2 dX1_begin_14 rfl rfl ?_
  refine pf_X1_25 (pc := 15) (ws' := wdS cI a b a1 a2 r5) C 0 rfl rfl dX1_begin_15 rfl ?_
  exact r_vret (pc := 18) C rfl rfl dX1_begin_18)
set_option maxHeartbeats 4000000 in
set_option maxRecDepth 100000 in
theorem m_X1_drop (l : Launch) (D : va_G) (cI cS : ClassId) (a : Nat) (b : Nat) (ln : Int32) (sz : Int32) (ce : Nat → Int32) : MX l D (tyz cI cS) yX1_drop cX1_drop 1 none (rmz 0 0) [.ref a] (wdS cI a b ln sz ce) (f_X1_drop ) (fun o : (Int32) × (Int32) => none) (fun o : (Int32) × (Int32) => wdS cI a b o.1 o.2 ce) := met_of (own := RX1) (by decide) rfl (Nat.le_of_ble_eq_true rfl) (fun X hxl hxD C => by
  subst hxl
  subst hxD
  show JR X _ _ 0 0 (f_X1_drop ) (wdS cI a b ln sz ce) [(0, .ref a)] 0 []
  unfold f_X1_drop
  refine r_aload_n (pc := 0) C 0 dX1_drop_0 rfl rfl ?_
  refine r_iconst (pc := 1) C dX1_drop_1 (ci_m1) ?_
  refine pf_X1_15 (pc := 2) (ws' := wdS cI a b (-1 : Int32) sz ce) C 0 rfl rfl dX1_drop_2 rfl ?_
  refine r_aload_n (pc := 5) C 0 dX1_drop_5 rfl rfl ?_
  refine r_iconst (pc := 6) C dX1_drop_6 (ci_0) ?_
  refine pf_X1_25 (pc := 7) (ws' := wdS cI a b (-1 : Int32) (0 : Int32) ce) C 0 rfl rfl dX1_drop_7 rfl ?_
  exact r_vret (pc := 10) C rfl rfl dX1_drop_10)
set_option maxHeartbeats 4000000 in
set_option maxRecDepth 100000 in
theorem m_X1_faultAs (l : Launch) (D : va_G) (cI cS : ClassId) (a : Nat) (b : Nat) (ln : Int32) (sz : Int32) (ce : Nat → Int32) (a1 : Int32) : MX l D (tyz cI cS) yX1_faultAs cX1_faultAs 2 (some .int) (rmz 1 20) [.ref a, .int a1] (wdS cI a b ln sz ce) (f_X1_faultAs ln a1) (fun o : Int32 => some (.int o)) (fun o : Int32 => wdS cI a b ln sz ce) := met_of (own := RX1) (by decide) rfl (Nat.le_of_ble_eq_true rfl) (fun X hxl hxD C => by
  subst hxl
  subst hxD
  show JR X _ _ 0 0 (f_X1_faultAs ln a1) (wdS cI a b ln sz ce) [(0, .ref a), (1, .int a1)] 0 []
  unfold f_X1_faultAs
  refine r_aload_n (pc := 0) C 0 dX1_faultAs_0 rfl rfl ?_
  refine r_callV0 (pc := 1) (rest := []) C (m_X1_hasRow (xl X) (xD X) cI cS a b ln sz ce) mv_X1_28 rfl rfl rfl ⟨Nat.zero_le _, Nat.zero_le _⟩ rfl rfl (Nat.le_of_ble_eq_true rfl) dX1_faultAs_1 (fun r1 => ?_)
  refine r_if_ne (pc := 4) (tgt := 9) C dX1_faultAs_4 (by decide) ?_ ?_
  · refine r_aload_n (pc := 9) C 0 dX1_faultAs_9 rfl rfl ?_
    refine gf_X1_15 (pc := 10) C 0 rfl rfl dX1_faultAs_10 ?_
    refine r_iload_n (pc := 13) C 1 dX1_faultAs_13 rfl rfl ?_
    refine r_icmp_ne (pc := 14) (tgt := 21) C dX1_faultAs_14 (by decide) ?_ ?_
    · refine r_iconst (pc := 21) C dX1_faultAs_21 (ci_2) ?_
      exact r_iret (pc := 22) C rfl rfl dX1_faultAs_22
    · refine r_iconst (pc := 17) C dX1_faultAs_17 (ci_0) ?_
      refine r_goto (pc := 18) (tgt := 22) C dX1_faultAs_18 (by decide) ?_
      exact r_iret (pc := 22) C rfl rfl dX1_faultAs_22
  · refine r_iconst (pc := 7) C dX1_faultAs_7 (ci_1) ?_
    exact r_iret (pc := 8) C rfl rfl dX1_faultAs_8)
set_option maxHeartbeats 4000000 in
set_option maxRecDepth 100000 in
theorem m_X1_hasCell (l : Launch) (D : va_G) (cI cS : ClassId) (a : Nat) (b : Nat) (ln : Int32) (sz : Int32) (ce : Nat → Int32) (a1 : Int32) : MX l D (tyz cI cS) yX1_hasCell cX1_hasCell 2 (some .boolean) (rmz 0 0) [.ref a, .int a1] (wdS cI a b ln sz ce) (f_X1_hasCell sz a1) (fun o : Int32 => some (.int o)) (fun o : Int32 => wdS cI a b ln sz ce) := met_of (own := RX1) (by decide) rfl (Nat.le_of_ble_eq_true rfl) (fun X hxl hxD C => by
  subst hxl
  subst hxD
  show JR X _ _ 0 0 (f_X1_hasCell sz a1) (wdS cI a b ln sz ce) [(0, .ref a), (1, .int a1)] 0 []
  unfold f_X1_hasCell
  refine r_iload_n (pc := 0) C 1 dX1_hasCell_0 rfl rfl ?_
  refine r_if_lt (pc := 1) (tgt := 16) C dX1_hasCell_1 (by decide) ?_ ?_
  · refine r_iconst (pc := 16) C dX1_hasCell_16 (ci_0) ?_
    exact r_zret (pc := 17) C rfl rfl rfl dX1_hasCell_17
  · refine r_iload_n (pc := 4) C 1 dX1_hasCell_4 rfl rfl ?_
    refine r_aload_n (pc := 5) C 0 dX1_hasCell_5 rfl rfl ?_
    refine gf_X1_25 (pc := 6) C 0 rfl rfl dX1_hasCell_6 ?_
    refine r_icmp_ge (pc := 9) (tgt := 16) C dX1_hasCell_9 (by decide) ?_ ?_
    · refine r_iconst (pc := 16) C dX1_hasCell_16 (ci_0) ?_
      exact r_zret (pc := 17) C rfl rfl rfl dX1_hasCell_17
    · refine r_iconst (pc := 12) C dX1_hasCell_12 (ci_1) ?_
      refine r_goto (pc := 13) (tgt := 17) C dX1_hasCell_13 (by decide) ?_
      exact r_zret (pc := 17) C rfl rfl rfl dX1_hasCell_17)
set_option maxHeartbeats 4000000 in
set_option maxRecDepth 100000 in
theorem m_X1_hasCells (l : Launch) (D : va_G) (cI cS : ClassId) (a : Nat) (b : Nat) (ln : Int32) (sz : Int32) (ce : Nat → Int32) (a1 : Int32) (a2 : Int32) : MX l D (tyz cI cS) yX1_hasCells cX1_hasCells 3 (some .boolean) (rmz 0 0) [.ref a, .int a1, .int a2] (wdS cI a b ln sz ce) (f_X1_hasCells sz a1 a2) (fun o : Int32 => some (.int o)) (fun o : Int32 => wdS cI a b ln sz ce) := met_of (own := RX1) (by decide) rfl (Nat.le_of_ble_eq_true rfl) (fun X hxl hxD C => by
  subst hxl
  subst hxD
  show JR X _ _ 0 0 (f_X1_hasCells sz a1 a2) (wdS cI a b ln sz ce) [(0, .ref a), (1, .int a1), (2, .int a2)] 0 []
  unfold f_X1_hasCells
  refine r_iload_n (pc := 0) C 1 dX1_hasCells_0 rfl rfl ?_
  refine r_if_lt (pc := 1) (tgt := 30) C dX1_hasCells_1 (by decide) ?_ ?_
  · refine r_iconst (pc := 30) C dX1_hasCells_30 (ci_0) ?_
    exact r_zret (pc := 31) C rfl rfl rfl dX1_hasCells_31
  · refine r_iload_n (pc := 4) C 1 dX1_hasCells_4 rfl rfl ?_
    refine r_aload_n (pc := 5) C 0 dX1_hasCells_5 rfl rfl ?_
    refine gf_X1_25 (pc := 6) C 0 rfl rfl dX1_hasCells_6 ?_
    refine r_icmp_gt (pc := 9) (tgt := 30) C dX1_hasCells_9 (by decide) ?_ ?_
    · refine r_iconst (pc := 30) C dX1_hasCells_30 (ci_0) ?_
      exact r_zret (pc := 31) C rfl rfl rfl dX1_hasCells_31
    · refine r_iload_n (pc := 12) C 2 dX1_hasCells_12 rfl rfl ?_
      refine r_if_lt (pc := 13) (tgt := 30) C dX1_hasCells_13 (by decide) ?_ ?_
      · refine r_iconst (pc := 30) C dX1_hasCells_30 (ci_0) ?_
        exact r_zret (pc := 31) C rfl rfl rfl dX1_hasCells_31
      · refine r_iload_n (pc := 16) C 2 dX1_hasCells_16 rfl rfl ?_
        refine r_aload_n (pc := 17) C 0 dX1_hasCells_17 rfl rfl ?_
        refine gf_X1_25 (pc := 18) C 0 rfl rfl dX1_hasCells_18 ?_
        refine r_iload_n (pc := 21) C 1 dX1_hasCells_21 rfl rfl ?_
        refine r_isub (pc := 22) C dX1_hasCells_22 ?_
        refine r_icmp_gt (pc := 23) (tgt := 30) C dX1_hasCells_23 (by decide) ?_ ?_
        · refine r_iconst (pc := 30) C dX1_hasCells_30 (ci_0) ?_
          exact r_zret (pc := 31) C rfl rfl rfl dX1_hasCells_31
        · refine r_iconst (pc := 26) C dX1_hasCells_26 (ci_1) ?_
          refine r_goto (pc := 27) (tgt := 31) C dX1_hasCells_27 (by decide) ?_
          exact r_zret (pc := 31) C rfl rfl rfl dX1_hasCells_31)
set_option maxHeartbeats 4000000 in
set_option maxRecDepth 100000 in
theorem m_X1_cut (l : Launch) (D : va_G) (cI cS : ClassId) (a : Nat) (b : Nat) (ln : Int32) (sz : Int32) (ce : Nat → Int32) (a1 : Int32) : MX l D (tyz cI cS) yX1_cut cX1_cut 2 (some .int) (rmz 0 0) [.ref a, .int a1] (wdS cI a b ln sz ce) (f_X1_cut ln a1) (fun o : Int32 => some (.int o)) (fun o : Int32 => wdS cI a b ln sz ce) := met_of (own := RX1) (by decide) rfl (Nat.le_of_ble_eq_true rfl) (fun X hxl hxD C => by
  subst hxl
  subst hxD
  show JR X _ _ 0 0 (f_X1_cut ln a1) (wdS cI a b ln sz ce) [(0, .ref a), (1, .int a1)] 0 []
  unfold f_X1_cut
  refine r_aload_n (pc := 0) C 0 dX1_cut_0 rfl rfl ?_
  refine gf_X1_15 (pc := 1) C 0 rfl rfl dX1_cut_1 ?_
  refine r_lk2 (pc := 4) (t1 := 32) (t2 := 35) (t3 := 38) (z1 := 0) (z2 := 1) C dX1_cut_4 rfl rfl (by decide) (by decide) (by decide) (by decide) ?_ ?_ ?_
  · refine r_iload_n (pc := 32) C 1 dX1_cut_32 rfl rfl ?_
    refine r_i2b (pc := 33) C dX1_cut_33 ?_
    exact r_iret (pc := 34) C rfl rfl dX1_cut_34
  · refine r_iload_n (pc := 35) C 1 dX1_cut_35 rfl rfl ?_
    refine r_i2s (pc := 36) C dX1_cut_36 ?_
    exact r_iret (pc := 37) C rfl rfl dX1_cut_37
  · refine r_iload_n (pc := 38) C 1 dX1_cut_38 rfl rfl ?_
    exact r_iret (pc := 39) C rfl rfl dX1_cut_39)
set_option maxHeartbeats 4000000 in
set_option maxRecDepth 100000 in
theorem m_X0_begin (l : Launch) (D : va_G) (cI cS : ClassId) (q : Nat → Nat) (BI : Nat → Int32) (BA : Nat → Nat → Int32) : MX l D (tyz cI cS) yX0_begin cX0_begin 1 none (rmz 1 23) [.ref (q 0)] (wdB cI q BI BA) (f_X0_begin BI BA) (fun o : (Nat → Int32) × (Nat → Nat → Int32) => none) (fun o : (Nat → Int32) × (Nat → Nat → Int32) => wdB cI q o.1 o.2) := met_of (own := RX0) (by decide) rfl (Nat.le_of_ble_eq_true rfl) (fun X hxl hxD C => by
  subst hxl
  subst hxD
  show JR X _ _ 0 0 (f_X0_begin BI BA) (wdB cI q BI BA) [(0, .ref (q 0))] 0 []
  unfold f_X0_begin
  refine r_aload_n (pc := 0) C 0 dX0_begin_0 rfl rfl ?_
  refine r_iconst (pc := 1) C dX0_begin_1 (ci_0) ?_
  refine pf_X0_43 (pc := 2) (ws' := wdB cI q (upd BI 0 (0 : Int32)) BA) C 0 rfl rfl dX0_begin_2 rfl ?_
  refine r_aload_n (pc := 5) C 0 dX0_begin_5 rfl rfl ?_
  refine r_iconst (pc := 6) C dX0_begin_6 (ci_0) ?_
  refine pf_X0_46 (pc := 7) (ws' := wdB cI q (upd (upd BI 0 (0 : Int32)) 3 (0 : Int32)) BA) C 0 rfl rfl dX0_begin_7 rfl ?_
  refine r_aload_n (pc := 10) C 0 dX0_begin_10 rfl rfl ?_
  refine r_iconst (pc := 11) C dX0_begin_11 (ci_0) ?_
  refine pf_X0_49 (pc := 12) (ws' := wdB cI q (upd (upd (upd BI 0 (0 : Int32)) 3 (0 : Int32)) 9 (0 : Int32)) BA) C 0 rfl rfl dX0_begin_12 rfl ?_
  refine r_aload_n (pc := 15) C 0 dX0_begin_15 rfl rfl ?_
  refine r_bipush (pc := 16) C dX0_begin_16 (cb_7) ?_
  refine pf_X0_52 (pc := 18) (ws' := wdB cI q (upd (upd (upd (upd BI 0 (0 : Int32)) 3 (0 : Int32)) 9 (0 : Int32)) 10 (7 : Int32)) BA) C 0 rfl rfl dX0_begin_18 rfl ?_
  refine r_aload_n (pc := 21) C 0 dX0_begin_21 rfl rfl ?_
  refine r_iconst (pc := 22) C dX0_begin_22 (ci_0) ?_
  refine pf_X0_55 (pc := 23) (ws' := wdB cI q (upd (upd (upd (upd (upd BI 0 (0 : Int32)) 3 (0 : Int32)) 9 (0 : Int32)) 10 (7 : Int32)) 11 (0 : Int32)) BA) C 0 rfl rfl dX0_begin_23 rfl ?_
  refine r_aload_n (pc := 26) C 0 dX0_begin_26 rfl rfl ?_
  refine r_iconst (pc := 27) C dX0_begin_27 (ci_0) ?_
  refine pf_X0_58 (pc := 28) (ws' := wdB cI q (upd (upd (upd (upd (upd (upd BI 0 (0 : Int32)) 3 (0 : Int32)) 9 (0 : Int32)) 10 (7 : Int32)) 11 (0 : Int32)) 13 (0 : Int32)) BA) C 0 rfl rfl dX0_begin_28 rfl ?_
  refine r_aload_n (pc := 31) C 0 dX0_begin_31 rfl rfl ?_
  refine gf_X0_30 (pc := 32) C 0 rfl rfl dX0_begin_32 ?_
  refine r_iconst (pc := 35) C dX0_begin_35 (ci_0) ?_
  refine r_callS (pc := 36) (rest := []) C [7] (fun r36 => wdB cI q (upd (upd (upd (upd (upd (upd BI 0 (0 : Int32)) 3 (0 : Int32)) 9 (0 : Int32)) 10 (7 : Int32)) 11 (0 : Int32)) 13 (0 : Int32)) (va_up BA 8 r36)) (m_J7_fill_53178 (xl X) (xD X) cI cS (q 8) 3 (BA 8) (0 : Int32)) ms_X0_61 rfl rfl (fun _ => rfl) (fun _ => rfl) rfl ⟨Nat.zero_le _, Nat.zero_le _⟩ rfl rfl (Nat.le_of_ble_eq_true rfl) dX0_begin_36 (fun r36 => ?_)
  exact r_vret (pc := 39) C rfl rfl dX0_begin_39)
set_option maxHeartbeats 4000000 in
set_option maxRecDepth 100000 in
theorem m_X0_addPost (l : Launch) (D : va_G) (cI cS : ClassId) (q : Nat → Nat) (BI : Nat → Int32) (BA : Nat → Nat → Int32) (a1 : Int32) (a2 : Int32) : MX l D (tyz cI cS) yX0_addPost cX0_addPost 3 none (rmz 0 0) [.ref (q 0), .int a1, .int a2] (wdB cI q BI BA) (f_X0_addPost BI BA a1 a2) (fun o : (Nat → Int32) × (Nat → Nat → Int32) => none) (fun o : (Nat → Int32) × (Nat → Nat → Int32) => wdB cI q o.1 o.2) := met_of (own := RX0) (by decide) rfl (Nat.le_of_ble_eq_true rfl) (fun X hxl hxD C => by
  subst hxl
  subst hxD
  show JR X _ _ 0 0 (f_X0_addPost BI BA a1 a2) (wdB cI q BI BA) [(0, .ref (q 0)), (1, .int a1), (2, .int a2)] 0 []
  unfold f_X0_addPost
  refine r_aload_n (pc := 0) C 0 dX0_addPost_0 rfl rfl ?_
  refine gf_X0_43 (pc := 1) C 0 rfl rfl dX0_addPost_1 ?_
  refine r_iconst (pc := 4) C dX0_addPost_4 (ci_4) ?_
  refine r_icmp_ge (pc := 5) (tgt := 38) C dX0_addPost_5 (by decide) ?_ ?_
  · exact r_vret (pc := 38) C rfl rfl dX0_addPost_38
  · refine r_aload_n (pc := 8) C 0 dX0_addPost_8 rfl rfl ?_
    refine gf_X0_9 (pc := 9) C 0 rfl rfl dX0_addPost_9 ?_
    refine r_aload_n (pc := 12) C 0 dX0_addPost_12 rfl rfl ?_
    refine gf_X0_43 (pc := 13) C 0 rfl rfl dX0_addPost_13 ?_
    refine r_iload_n (pc := 16) C 1 dX0_addPost_16 rfl rfl ?_
    refine r_iast (pc := 17) (ws' := wdB cI q BI (va_up BA 1 (upd (BA 1) (BI 0).toNatClampNeg a1))) C 1 rfl dX0_addPost_17 rfl ?_
    refine r_aload_n (pc := 18) C 0 dX0_addPost_18 rfl rfl ?_
    refine gf_X0_15 (pc := 19) C 0 rfl rfl dX0_addPost_19 ?_
    refine r_aload_n (pc := 22) C 0 dX0_addPost_22 rfl rfl ?_
    refine gf_X0_43 (pc := 23) C 0 rfl rfl dX0_addPost_23 ?_
    refine r_iload_n (pc := 26) C 2 dX0_addPost_26 rfl rfl ?_
    refine r_iast (pc := 27) (ws' := wdB cI q BI (va_up (va_up BA 1 (upd (BA 1) (BI 0).toNatClampNeg a1)) 2 (upd ((va_up BA 1 (upd (BA 1) (BI 0).toNatClampNeg a1)) 2) (BI 0).toNatClampNeg a2))) C 2 rfl dX0_addPost_27 rfl ?_
    refine r_aload_n (pc := 28) C 0 dX0_addPost_28 rfl rfl ?_
    refine r_dup (pc := 29) C dX0_addPost_29 rfl ?_
    refine gf_X0_43 (pc := 30) C 0 rfl rfl dX0_addPost_30 ?_
    refine r_iconst (pc := 33) C dX0_addPost_33 (ci_1) ?_
    refine r_iadd (pc := 34) C dX0_addPost_34 ?_
    refine pf_X0_43 (pc := 35) (ws' := wdB cI q (upd BI 0 ((BI 0) + (1 : Int32))) (va_up (va_up BA 1 (upd (BA 1) (BI 0).toNatClampNeg a1)) 2 (upd ((va_up BA 1 (upd (BA 1) (BI 0).toNatClampNeg a1)) 2) (BI 0).toNatClampNeg a2))) C 0 rfl rfl dX0_addPost_35 rfl ?_
    exact r_vret (pc := 38) C rfl rfl dX0_addPost_38)
set_option maxHeartbeats 4000000 in
set_option maxRecDepth 100000 in
theorem m_X0_addSilence (l : Launch) (D : va_G) (cI cS : ClassId) (q : Nat → Nat) (BI : Nat → Int32) (BA : Nat → Nat → Int32) (a1 : Int32) (a2 : Int32) (a3 : Int32) : MX l D (tyz cI cS) yX0_addSilence cX0_addSilence 4 none (rmz 0 0) [.ref (q 0), .int a1, .int a2, .int a3] (wdB cI q BI BA) (f_X0_addSilence BI BA a1 a2 a3) (fun o : (Nat → Int32) × (Nat → Nat → Int32) => none) (fun o : (Nat → Int32) × (Nat → Nat → Int32) => wdB cI q o.1 o.2) := met_of (own := RX0) (by decide) rfl (Nat.le_of_ble_eq_true rfl) (fun X hxl hxD C => by
  subst hxl
  subst hxD
  show JR X _ _ 0 0 (f_X0_addSilence BI BA a1 a2 a3) (wdB cI q BI BA) [(0, .ref (q 0)), (1, .int a1), (2, .int a2), (3, .int a3)] 0 []
  unfold f_X0_addSilence
  refine r_aload_n (pc := 0) C 0 dX0_addSilence_0 rfl rfl ?_
  refine gf_X0_46 (pc := 1) C 0 rfl rfl dX0_addSilence_1 ?_
  refine r_iconst (pc := 4) C dX0_addSilence_4 (ci_4) ?_
  refine r_icmp_ge (pc := 5) (tgt := 73) C dX0_addSilence_5 (by decide) ?_ ?_
  · exact r_vret (pc := 73) C rfl rfl dX0_addSilence_73
  · refine r_aload_n (pc := 8) C 0 dX0_addSilence_8 rfl rfl ?_
    refine gf_X0_18 (pc := 9) C 0 rfl rfl dX0_addSilence_9 ?_
    refine r_aload_n (pc := 12) C 0 dX0_addSilence_12 rfl rfl ?_
    refine gf_X0_46 (pc := 13) C 0 rfl rfl dX0_addSilence_13 ?_
    refine r_iload_n (pc := 16) C 1 dX0_addSilence_16 rfl rfl ?_
    refine r_iast (pc := 17) (ws' := wdB cI q BI (va_up BA 4 (upd (BA 4) (BI 3).toNatClampNeg a1))) C 3 rfl dX0_addSilence_17 rfl ?_
    refine r_aload_n (pc := 18) C 0 dX0_addSilence_18 rfl rfl ?_
    refine gf_X0_21 (pc := 19) C 0 rfl rfl dX0_addSilence_19 ?_
    refine r_aload_n (pc := 22) C 0 dX0_addSilence_22 rfl rfl ?_
    refine gf_X0_46 (pc := 23) C 0 rfl rfl dX0_addSilence_23 ?_
    refine r_iload_n (pc := 26) C 2 dX0_addSilence_26 rfl rfl ?_
    refine r_iast (pc := 27) (ws' := wdB cI q BI (va_up (va_up BA 4 (upd (BA 4) (BI 3).toNatClampNeg a1)) 5 (upd ((va_up BA 4 (upd (BA 4) (BI 3).toNatClampNeg a1)) 5) (BI 3).toNatClampNeg a2))) C 4 rfl dX0_addSilence_27 rfl ?_
    refine r_aload_n (pc := 28) C 0 dX0_addSilence_28 rfl rfl ?_
    refine gf_X0_24 (pc := 29) C 0 rfl rfl dX0_addSilence_29 ?_
    refine r_aload_n (pc := 32) C 0 dX0_addSilence_32 rfl rfl ?_
    refine gf_X0_46 (pc := 33) C 0 rfl rfl dX0_addSilence_33 ?_
    refine r_iload_n (pc := 36) C 3 dX0_addSilence_36 rfl rfl ?_
    refine r_iast (pc := 37) (ws' := wdB cI q BI (va_up (va_up (va_up BA 4 (upd (BA 4) (BI 3).toNatClampNeg a1)) 5 (upd ((va_up BA 4 (upd (BA 4) (BI 3).toNatClampNeg a1)) 5) (BI 3).toNatClampNeg a2)) 6 (upd ((va_up (va_up BA 4 (upd (BA 4) (BI 3).toNatClampNeg a1)) 5 (upd ((va_up BA 4 (upd (BA 4) (BI 3).toNatClampNeg a1)) 5) (BI 3).toNatClampNeg a2)) 6) (BI 3).toNatClampNeg a3))) C 5 rfl dX0_addSilence_37 rfl ?_
    refine r_aload_n (pc := 38) C 0 dX0_addSilence_38 rfl rfl ?_
    refine gf_X0_27 (pc := 39) C 0 rfl rfl dX0_addSilence_39 ?_
    refine r_aload_n (pc := 42) C 0 dX0_addSilence_42 rfl rfl ?_
    refine gf_X0_46 (pc := 43) C 0 rfl rfl dX0_addSilence_43 ?_
    refine r_iconst (pc := 46) C dX0_addSilence_46 (ci_0) ?_
    refine r_iast (pc := 47) (ws' := wdB cI q BI (va_up (va_up (va_up (va_up BA 4 (upd (BA 4) (BI 3).toNatClampNeg a1)) 5 (upd ((va_up BA 4 (upd (BA 4) (BI 3).toNatClampNeg a1)) 5) (BI 3).toNatClampNeg a2)) 6 (upd ((va_up (va_up BA 4 (upd (BA 4) (BI 3).toNatClampNeg a1)) 5 (upd ((va_up BA 4 (upd (BA 4) (BI 3).toNatClampNeg a1)) 5) (BI 3).toNatClampNeg a2)) 6) (BI 3).toNatClampNeg a3)) 7 (upd ((va_up (va_up (va_up BA 4 (upd (BA 4) (BI 3).toNatClampNeg a1)) 5 (upd ((va_up BA 4 (upd (BA 4) (BI 3).toNatClampNeg a1)) 5) (BI 3).toNatClampNeg a2)) 6 (upd ((va_up (va_up BA 4 (upd (BA 4) (BI 3).toNatClampNeg a1)) 5 (upd ((va_up BA 4 (upd (BA 4) (BI 3).toNatClampNeg a1)) 5) (BI 3).toNatClampNeg a2)) 6) (BI 3).toNatClampNeg a3)) 7) (BI 3).toNatClampNeg (0 : Int32)))) C 6 rfl dX0_addSilence_47 rfl ?_
    refine r_aload_n (pc := 48) C 0 dX0_addSilence_48 rfl rfl ?_
    refine r_dup (pc := 49) C dX0_addSilence_49 rfl ?_
    refine gf_X0_49 (pc := 50) C 0 rfl rfl dX0_addSilence_50 ?_
    refine r_iconst (pc := 53) C dX0_addSilence_53 (ci_1) ?_
    refine r_aload_n (pc := 54) C 0 dX0_addSilence_54 rfl rfl ?_
    refine gf_X0_46 (pc := 55) C 0 rfl rfl dX0_addSilence_55 ?_
    refine r_ishl (pc := 58) C dX0_addSilence_58 ?_
    refine r_ior (pc := 59) C dX0_addSilence_59 ?_
    refine pf_X0_49 (pc := 60) (ws' := wdB cI q (upd BI 9 ((BI 9) ||| ((1 : Int32) <<< ((BI 3) &&& 31)))) (va_up (va_up (va_up (va_up BA 4 (upd (BA 4) (BI 3).toNatClampNeg a1)) 5 (upd ((va_up BA 4 (upd (BA 4) (BI 3).toNatClampNeg a1)) 5) (BI 3).toNatClampNeg a2)) 6 (upd ((va_up (va_up BA 4 (upd (BA 4) (BI 3).toNatClampNeg a1)) 5 (upd ((va_up BA 4 (upd (BA 4) (BI 3).toNatClampNeg a1)) 5) (BI 3).toNatClampNeg a2)) 6) (BI 3).toNatClampNeg a3)) 7 (upd ((va_up (va_up (va_up BA 4 (upd (BA 4) (BI 3).toNatClampNeg a1)) 5 (upd ((va_up BA 4 (upd (BA 4) (BI 3).toNatClampNeg a1)) 5) (BI 3).toNatClampNeg a2)) 6 (upd ((va_up (va_up BA 4 (upd (BA 4) (BI 3).toNatClampNeg a1)) 5 (upd ((va_up BA 4 (upd (BA 4) (BI 3).toNatClampNeg a1)) 5) (BI 3).toNatClampNeg a2)) 6) (BI 3).toNatClampNeg a3)) 7) (BI 3).toNatClampNeg (0 : Int32)))) C 0 rfl rfl dX0_addSilence_60 rfl ?_
    refine r_aload_n (pc := 63) C 0 dX0_addSilence_63 rfl rfl ?_
    refine r_dup (pc := 64) C dX0_addSilence_64 rfl ?_
    refine gf_X0_46 (pc := 65) C 0 rfl rfl dX0_addSilence_65 ?_
    refine r_iconst (pc := 68) C dX0_addSilence_68 (ci_1) ?_
    refine r_iadd (pc := 69) C dX0_addSilence_69 ?_
    refine pf_X0_46 (pc := 70) (ws' := wdB cI q (upd (upd BI 9 ((BI 9) ||| ((1 : Int32) <<< ((BI 3) &&& 31)))) 3 (((upd BI 9 ((BI 9) ||| ((1 : Int32) <<< ((BI 3) &&& 31)))) 3) + (1 : Int32))) (va_up (va_up (va_up (va_up BA 4 (upd (BA 4) (BI 3).toNatClampNeg a1)) 5 (upd ((va_up BA 4 (upd (BA 4) (BI 3).toNatClampNeg a1)) 5) (BI 3).toNatClampNeg a2)) 6 (upd ((va_up (va_up BA 4 (upd (BA 4) (BI 3).toNatClampNeg a1)) 5 (upd ((va_up BA 4 (upd (BA 4) (BI 3).toNatClampNeg a1)) 5) (BI 3).toNatClampNeg a2)) 6) (BI 3).toNatClampNeg a3)) 7 (upd ((va_up (va_up (va_up BA 4 (upd (BA 4) (BI 3).toNatClampNeg a1)) 5 (upd ((va_up BA 4 (upd (BA 4) (BI 3).toNatClampNeg a1)) 5) (BI 3).toNatClampNeg a2)) 6 (upd ((va_up (va_up BA 4 (upd (BA 4) (BI 3).toNatClampNeg a1)) 5 (upd ((va_up BA 4 (upd (BA 4) (BI 3).toNatClampNeg a1)) 5) (BI 3).toNatClampNeg a2)) 6) (BI 3).toNatClampNeg a3)) 7) (BI 3).toNatClampNeg (0 : Int32)))) C 0 rfl rfl dX0_addSilence_70 rfl ?_
    exact r_vret (pc := 73) C rfl rfl dX0_addSilence_73)
set_option maxHeartbeats 4000000 in
set_option maxRecDepth 100000 in
theorem m_X0_isMissing (l : Launch) (D : va_G) (cI cS : ClassId) (q : Nat → Nat) (BI : Nat → Int32) (BA : Nat → Nat → Int32) : MX l D (tyz cI cS) yX0_isMissing cX0_isMissing 1 (some .boolean) (rmz 0 0) [.ref (q 0)] (wdB cI q BI BA) (f_X0_isMissing BI) (fun o : Int32 => some (.int o)) (fun o : Int32 => wdB cI q BI BA) := met_of (own := RX0) (by decide) rfl (Nat.le_of_ble_eq_true rfl) (fun X hxl hxD C => by
  subst hxl
  subst hxD
  show JR X _ _ 0 0 (f_X0_isMissing BI) (wdB cI q BI BA) [(0, .ref (q 0))] 0 []
  unfold f_X0_isMissing
  refine r_aload_n (pc := 0) C 0 dX0_isMissing_0 rfl rfl ?_
  refine gf_X0_43 (pc := 1) C 0 rfl rfl dX0_isMissing_1 ?_
  refine r_if_ne (pc := 4) (tgt := 11) C dX0_isMissing_4 (by decide) ?_ ?_
  · refine r_iconst (pc := 11) C dX0_isMissing_11 (ci_0) ?_
    exact r_zret (pc := 12) C rfl rfl rfl dX0_isMissing_12
  · refine r_iconst (pc := 7) C dX0_isMissing_7 (ci_1) ?_
    refine r_goto (pc := 8) (tgt := 12) C dX0_isMissing_8 (by decide) ?_
    exact r_zret (pc := 12) C rfl rfl rfl dX0_isMissing_12)
set_option maxHeartbeats 4000000 in
set_option maxRecDepth 100000 in
theorem m_X0_hasPost (l : Launch) (D : va_G) (cI cS : ClassId) (q : Nat → Nat) (BI : Nat → Int32) (BA : Nat → Nat → Int32) (a1 : Int32) : MX l D (tyz cI cS) yX0_hasPost cX0_hasPost 2 (some .boolean) (rmz 0 0) [.ref (q 0), .int a1] (wdB cI q BI BA) (f_X0_hasPost BI a1) (fun o : Int32 => some (.int o)) (fun o : Int32 => wdB cI q BI BA) := met_of (own := RX0) (by decide) rfl (Nat.le_of_ble_eq_true rfl) (fun X hxl hxD C => by
  subst hxl
  subst hxD
  show JR X _ _ 0 0 (f_X0_hasPost BI a1) (wdB cI q BI BA) [(0, .ref (q 0)), (1, .int a1)] 0 []
  unfold f_X0_hasPost
  refine r_iload_n (pc := 0) C 1 dX0_hasPost_0 rfl rfl ?_
  refine r_if_lt (pc := 1) (tgt := 16) C dX0_hasPost_1 (by decide) ?_ ?_
  · refine r_iconst (pc := 16) C dX0_hasPost_16 (ci_0) ?_
    exact r_zret (pc := 17) C rfl rfl rfl dX0_hasPost_17
  · refine r_iload_n (pc := 4) C 1 dX0_hasPost_4 rfl rfl ?_
    refine r_aload_n (pc := 5) C 0 dX0_hasPost_5 rfl rfl ?_
    refine gf_X0_43 (pc := 6) C 0 rfl rfl dX0_hasPost_6 ?_
    refine r_icmp_ge (pc := 9) (tgt := 16) C dX0_hasPost_9 (by decide) ?_ ?_
    · refine r_iconst (pc := 16) C dX0_hasPost_16 (ci_0) ?_
      exact r_zret (pc := 17) C rfl rfl rfl dX0_hasPost_17
    · refine r_iconst (pc := 12) C dX0_hasPost_12 (ci_1) ?_
      refine r_goto (pc := 13) (tgt := 17) C dX0_hasPost_13 (by decide) ?_
      exact r_zret (pc := 17) C rfl rfl rfl dX0_hasPost_17)
set_option maxHeartbeats 4000000 in
set_option maxRecDepth 100000 in
theorem m_X0_hasSilence (l : Launch) (D : va_G) (cI cS : ClassId) (q : Nat → Nat) (BI : Nat → Int32) (BA : Nat → Nat → Int32) (a1 : Int32) : MX l D (tyz cI cS) yX0_hasSilence cX0_hasSilence 2 (some .boolean) (rmz 0 0) [.ref (q 0), .int a1] (wdB cI q BI BA) (f_X0_hasSilence BI a1) (fun o : Int32 => some (.int o)) (fun o : Int32 => wdB cI q BI BA) := met_of (own := RX0) (by decide) rfl (Nat.le_of_ble_eq_true rfl) (fun X hxl hxD C => by
  subst hxl
  subst hxD
  show JR X _ _ 0 0 (f_X0_hasSilence BI a1) (wdB cI q BI BA) [(0, .ref (q 0)), (1, .int a1)] 0 []
  unfold f_X0_hasSilence
  refine r_iload_n (pc := 0) C 1 dX0_hasSilence_0 rfl rfl ?_
  refine r_if_lt (pc := 1) (tgt := 16) C dX0_hasSilence_1 (by decide) ?_ ?_
  · refine r_iconst (pc := 16) C dX0_hasSilence_16 (ci_0) ?_
    exact r_zret (pc := 17) C rfl rfl rfl dX0_hasSilence_17
  · refine r_iload_n (pc := 4) C 1 dX0_hasSilence_4 rfl rfl ?_
    refine r_aload_n (pc := 5) C 0 dX0_hasSilence_5 rfl rfl ?_
    refine gf_X0_46 (pc := 6) C 0 rfl rfl dX0_hasSilence_6 ?_
    refine r_icmp_ge (pc := 9) (tgt := 16) C dX0_hasSilence_9 (by decide) ?_ ?_
    · refine r_iconst (pc := 16) C dX0_hasSilence_16 (ci_0) ?_
      exact r_zret (pc := 17) C rfl rfl rfl dX0_hasSilence_17
    · refine r_iconst (pc := 12) C dX0_hasSilence_12 (ci_1) ?_
      refine r_goto (pc := 13) (tgt := 17) C dX0_hasSilence_13 (by decide) ?_
      exact r_zret (pc := 17) C rfl rfl rfl dX0_hasSilence_17)
set_option maxHeartbeats 4000000 in
set_option maxRecDepth 100000 in
theorem m_X0_allSilences (l : Launch) (D : va_G) (cI cS : ClassId) (q : Nat → Nat) (BI : Nat → Int32) (BA : Nat → Nat → Int32) : MX l D (tyz cI cS) yX0_allSilences cX0_allSilences 1 (some .int) (rmz 0 0) [.ref (q 0)] (wdB cI q BI BA) (f_X0_allSilences BI) (fun o : Int32 => some (.int o)) (fun o : Int32 => wdB cI q BI BA) := met_of (own := RX0) (by decide) rfl (Nat.le_of_ble_eq_true rfl) (fun X hxl hxD C => by
  subst hxl
  subst hxD
  show JR X _ _ 0 0 (f_X0_allSilences BI) (wdB cI q BI BA) [(0, .ref (q 0))] 0 []
  unfold f_X0_allSilences
  refine r_iconst (pc := 0) C dX0_allSilences_0 (ci_1) ?_
  refine r_aload_n (pc := 1) C 0 dX0_allSilences_1 rfl rfl ?_
  refine gf_X0_46 (pc := 2) C 0 rfl rfl dX0_allSilences_2 ?_
  refine r_ishl (pc := 5) C dX0_allSilences_5 ?_
  refine r_iconst (pc := 6) C dX0_allSilences_6 (ci_1) ?_
  refine r_isub (pc := 7) C dX0_allSilences_7 ?_
  exact r_iret (pc := 8) C rfl rfl dX0_allSilences_8)
set_option maxHeartbeats 4000000 in
set_option maxRecDepth 100000 in
theorem m_X0_isDeclared (l : Launch) (D : va_G) (cI cS : ClassId) (q : Nat → Nat) (BI : Nat → Int32) (BA : Nat → Nat → Int32) (a1 : Int32) : MX l D (tyz cI cS) yX0_isDeclared cX0_isDeclared 2 (some .boolean) (rmz 0 0) [.ref (q 0), .int a1] (wdB cI q BI BA) (f_X0_isDeclared BI a1) (fun o : Int32 => some (.int o)) (fun o : Int32 => wdB cI q BI BA) := met_of (own := RX0) (by decide) rfl (Nat.le_of_ble_eq_true rfl) (fun X hxl hxD C => by
  subst hxl
  subst hxD
  show JR X _ _ 0 0 (f_X0_isDeclared BI a1) (wdB cI q BI BA) [(0, .ref (q 0)), (1, .int a1)] 0 []
  unfold f_X0_isDeclared
  refine r_aload_n (pc := 0) C 0 dX0_isDeclared_0 rfl rfl ?_
  refine gf_X0_49 (pc := 1) C 0 rfl rfl dX0_isDeclared_1 ?_
  refine r_iload_n (pc := 4) C 1 dX0_isDeclared_4 rfl rfl ?_
  refine r_ishr (pc := 5) C dX0_isDeclared_5 ?_
  refine r_iconst (pc := 6) C dX0_isDeclared_6 (ci_1) ?_
  refine r_iand (pc := 7) C dX0_isDeclared_7 ?_
  refine r_if_eq (pc := 8) (tgt := 15) C dX0_isDeclared_8 (by decide) ?_ ?_
  · refine r_iconst (pc := 15) C dX0_isDeclared_15 (ci_0) ?_
    exact r_zret (pc := 16) C rfl rfl rfl dX0_isDeclared_16
  · refine r_iconst (pc := 11) C dX0_isDeclared_11 (ci_1) ?_
    refine r_goto (pc := 12) (tgt := 16) C dX0_isDeclared_12 (by decide) ?_
    exact r_zret (pc := 16) C rfl rfl rfl dX0_isDeclared_16)
set_option maxHeartbeats 4000000 in
set_option maxRecDepth 100000 in
theorem m_X0_isDutiable (l : Launch) (D : va_G) (cI cS : ClassId) (q : Nat → Nat) (BI : Nat → Int32) (BA : Nat → Nat → Int32) (a1 : Int32) : MX l D (tyz cI cS) yX0_isDutiable cX0_isDutiable 2 (some .boolean) (rmz 0 0) [.ref (q 0), .int a1] (wdB cI q BI BA) (f_X0_isDutiable BI BA a1) (fun o : Int32 => some (.int o)) (fun o : Int32 => wdB cI q BI BA) := met_of (own := RX0) (by decide) rfl (Nat.le_of_ble_eq_true rfl) (fun X hxl hxD C => by
  subst hxl
  subst hxD
  show JR X _ _ 0 0 (f_X0_isDutiable BI BA a1) (wdB cI q BI BA) [(0, .ref (q 0)), (1, .int a1)] 0 []
  unfold f_X0_isDutiable
  refine r_aload_n (pc := 0) C 0 dX0_isDutiable_0 rfl rfl ?_
  refine gf_X0_52 (pc := 1) C 0 rfl rfl dX0_isDutiable_1 ?_
  refine r_aload_n (pc := 4) C 0 dX0_isDutiable_4 rfl rfl ?_
  refine gf_X0_18 (pc := 5) C 0 rfl rfl dX0_isDutiable_5 ?_
  refine r_iload_n (pc := 8) C 1 dX0_isDutiable_8 rfl rfl ?_
  refine r_iald (pc := 9) C 3 rfl dX0_isDutiable_9 ?_
  refine r_ishr (pc := 10) C dX0_isDutiable_10 ?_
  refine r_iconst (pc := 11) C dX0_isDutiable_11 (ci_1) ?_
  refine r_iand (pc := 12) C dX0_isDutiable_12 ?_
  refine r_if_eq (pc := 13) (tgt := 20) C dX0_isDutiable_13 (by decide) ?_ ?_
  · refine r_iconst (pc := 20) C dX0_isDutiable_20 (ci_0) ?_
    exact r_zret (pc := 21) C rfl rfl rfl dX0_isDutiable_21
  · refine r_iconst (pc := 16) C dX0_isDutiable_16 (ci_1) ?_
    refine r_goto (pc := 17) (tgt := 21) C dX0_isDutiable_17 (by decide) ?_
    exact r_zret (pc := 21) C rfl rfl rfl dX0_isDutiable_21)
set_option maxHeartbeats 4000000 in
set_option maxRecDepth 100000 in
theorem m_X0_gradeOf (l : Launch) (D : va_G) (cI cS : ClassId) (q : Nat → Nat) (BI : Nat → Int32) (BA : Nat → Nat → Int32) (a1 : Int32) : MX l D (tyz cI cS) yX0_gradeOf cX0_gradeOf 2 (some .int) (rmz 0 0) [.ref (q 0), .int a1] (wdB cI q BI BA) (f_X0_gradeOf BA a1) (fun o : Int32 => some (.int o)) (fun o : Int32 => wdB cI q BI BA) := met_of (own := RX0) (by decide) rfl (Nat.le_of_ble_eq_true rfl) (fun X hxl hxD C => by
  subst hxl
  subst hxD
  show JR X _ _ 0 0 (f_X0_gradeOf BA a1) (wdB cI q BI BA) [(0, .ref (q 0)), (1, .int a1)] 0 []
  unfold f_X0_gradeOf
  refine r_aload_n (pc := 0) C 0 dX0_gradeOf_0 rfl rfl ?_
  refine gf_X0_18 (pc := 1) C 0 rfl rfl dX0_gradeOf_1 ?_
  refine r_iload_n (pc := 4) C 1 dX0_gradeOf_4 rfl rfl ?_
  refine r_iald (pc := 5) C 3 rfl dX0_gradeOf_5 ?_
  refine r_lk2 (pc := 6) (t1 := 43) (t2 := 32) (t3 := 52) (z1 := 1) (z2 := 2) C dX0_gradeOf_6 rfl rfl (by decide) (by decide) (by decide) (by decide) ?_ ?_ ?_
  · refine r_aload_n (pc := 43) C 0 dX0_gradeOf_43 rfl rfl ?_
    refine gf_X0_24 (pc := 44) C 0 rfl rfl dX0_gradeOf_44 ?_
    refine r_iload_n (pc := 47) C 1 dX0_gradeOf_47 rfl rfl ?_
    refine r_iald (pc := 48) C 5 rfl dX0_gradeOf_48 ?_
    refine r_iconst (pc := 49) C dX0_gradeOf_49 (ci_1) ?_
    refine r_iadd (pc := 50) C dX0_gradeOf_50 ?_
    exact r_iret (pc := 51) C rfl rfl dX0_gradeOf_51
  · refine r_iconst (pc := 32) C dX0_gradeOf_32 (ci_2) ?_
    refine r_aload_n (pc := 33) C 0 dX0_gradeOf_33 rfl rfl ?_
    refine gf_X0_24 (pc := 34) C 0 rfl rfl dX0_gradeOf_34 ?_
    refine r_iload_n (pc := 37) C 1 dX0_gradeOf_37 rfl rfl ?_
    refine r_iald (pc := 38) C 5 rfl dX0_gradeOf_38 ?_
    refine r_iconst (pc := 39) C dX0_gradeOf_39 (ci_1) ?_
    refine r_iadd (pc := 40) C dX0_gradeOf_40 ?_
    refine r_imul (pc := 41) C dX0_gradeOf_41 ?_
    exact r_iret (pc := 42) C rfl rfl dX0_gradeOf_42
  · refine r_aload_n (pc := 52) C 0 dX0_gradeOf_52 rfl rfl ?_
    refine gf_X0_24 (pc := 53) C 0 rfl rfl dX0_gradeOf_53 ?_
    refine r_iload_n (pc := 56) C 1 dX0_gradeOf_56 rfl rfl ?_
    refine r_iald (pc := 57) C 5 rfl dX0_gradeOf_57 ?_
    exact r_iret (pc := 58) C rfl rfl dX0_gradeOf_58)
set_option maxHeartbeats 4000000 in
set_option maxRecDepth 100000 in
theorem m_X0_weightOf (l : Launch) (D : va_G) (cI cS : ClassId) (q : Nat → Nat) (BI : Nat → Int32) (BA : Nat → Nat → Int32) (a1 : Int32) : MX l D (tyz cI cS) yX0_weightOf cX0_weightOf 2 (some .int) (rmz 1 21) [.ref (q 0), .int a1] (wdB cI q BI BA) (f_X0_weightOf BA a1) (fun o : Int32 => some (.int o)) (fun o : Int32 => wdB cI q BI BA) := met_of (own := RX0) (by decide) rfl (Nat.le_of_ble_eq_true rfl) (fun X hxl hxD C => by
  subst hxl
  subst hxD
  show JR X _ _ 0 0 (f_X0_weightOf BA a1) (wdB cI q BI BA) [(0, .ref (q 0)), (1, .int a1)] 0 []
  unfold f_X0_weightOf
  refine r_aload_n (pc := 0) C 0 dX0_weightOf_0 rfl rfl ?_
  refine gf_X0_21 (pc := 1) C 0 rfl rfl dX0_weightOf_1 ?_
  refine r_iload_n (pc := 4) C 1 dX0_weightOf_4 rfl rfl ?_
  refine r_iald (pc := 5) C 4 rfl dX0_weightOf_5 ?_
  refine r_aload_n (pc := 6) C 0 dX0_weightOf_6 rfl rfl ?_
  refine r_iload_n (pc := 7) C 1 dX0_weightOf_7 rfl rfl ?_
  refine r_callV0 (pc := 8) (rest := [.int (BA 5 a1.toNatClampNeg)]) C (m_X0_gradeOf (xl X) (xD X) cI cS q BI BA a1) mv_X0_67 rfl rfl rfl ⟨Nat.zero_le _, Nat.zero_le _⟩ rfl rfl (Nat.le_of_ble_eq_true rfl) dX0_weightOf_8 (fun r8 => ?_)
  refine r_imul (pc := 11) C dX0_weightOf_11 ?_
  exact r_iret (pc := 12) C rfl rfl dX0_weightOf_12)
set_option maxHeartbeats 4000000 in
set_option maxRecDepth 100000 in
theorem wl_X0_minutesByGrade_7 {cI cS : ClassId} (X : CX) (C : Cx X RX0 cX0_minutesByGrade 5 (some .int) (rmz 1 21) (tyz cI cS)) (q : Nat → Nat) (BI : Nat → Int32) (BA : Nat → Nat → Int32) (a1 : Int32)  (kk : Int32 → Int32 → Int32 → Option (Int32)) (hk_7 : ∀ (el2_7 : Int32) (el3_7 : Int32) (el4_7 : Int32), JR X (QF X (tyz cI cS) 0 0 (fun o : Int32 => some (.int o)) (fun o : Int32 => wdB cI q BI BA)) 5 0 0 (kk el2_7 el3_7 el4_7) (wdB cI q BI BA) [(0, .ref (q 0)), (2, .int el2_7), (3, .int el3_7)] 81 []) : ∀ (fuel : Nat) (l2_7 : Int32) (l3_7 : Int32) (l4_7 : Int32), JR X (QF X (tyz cI cS) 0 0 (fun o : Int32 => some (.int o)) (fun o : Int32 => wdB cI q BI BA)) 5 0 0 (lp_X0_minutesByGrade_7 kk BI BA a1 fuel l2_7 l3_7 l4_7) (wdB cI q BI BA) [(0, .ref (q 0)), (1, .int a1), (2, .int l2_7), (3, .int l3_7), (4, .int l4_7)] 7 [] := by
  intro fuel
  induction fuel with
  | zero => intro l2_7 l3_7 l4_7; exact r_none
  | succ fu_7 ih_7 =>
    intro l2_7 l3_7 l4_7
    unfold lp_X0_minutesByGrade_7
    refine r_iload (pc := 7) C 4 dX0_minutesByGrade_7 rfl ?_
    refine r_aload_n (pc := 9) C 0 dX0_minutesByGrade_9 rfl rfl ?_
    refine gf_X0_46 (pc := 10) C 0 rfl rfl dX0_minutesByGrade_10 ?_
    refine r_icmp_ge (pc := 13) (tgt := 81) C dX0_minutesByGrade_13 (by decide) ?_ ?_
    · exact r_sub [0, 2, 3] rfl (hk_7 l2_7 l3_7 l4_7)
    · refine r_aload_n (pc := 16) C 0 dX0_minutesByGrade_16 rfl rfl ?_
      refine gf_X0_27 (pc := 17) C 0 rfl rfl dX0_minutesByGrade_17 ?_
      refine r_iload (pc := 20) C 4 dX0_minutesByGrade_20 rfl ?_
      refine r_iald (pc := 22) C 6 rfl dX0_minutesByGrade_22 ?_
      refine r_iload_n (pc := 23) C 1 dX0_minutesByGrade_23 rfl rfl ?_
      refine r_icmp_ne (pc := 24) (tgt := 75) C dX0_minutesByGrade_24 (by decide) ?_ ?_
      · refine r_iinc (pc := 75) C 4 dX0_minutesByGrade_75 rfl (ci_1) (by decide) (lv' := [(4, .int (l4_7 + (1 : Int32))), (0, .ref (q 0)), (1, .int a1), (2, .int l2_7), (3, .int l3_7)]) rfl ?_
        refine r_goto (pc := 78) (tgt := 7) C dX0_minutesByGrade_78 (by decide) ?_
        exact r_sub [1, 2, 3, 4, 0] rfl (ih_7 l2_7 l3_7 (l4_7 + (1 : Int32)))
      · refine r_iload (pc := 27) C 4 dX0_minutesByGrade_27 rfl ?_
        refine r_aload_n (pc := 29) C 0 dX0_minutesByGrade_29 rfl rfl ?_
        refine gf_X0_33 (pc := 30) C 0 rfl rfl dX0_minutesByGrade_30 ?_
        refine r_icmp_eq (pc := 33) (tgt := 75) C dX0_minutesByGrade_33 (by decide) ?_ ?_
        · refine r_iinc (pc := 75) C 4 dX0_minutesByGrade_75 rfl (ci_1) (by decide) (lv' := [(4, .int (l4_7 + (1 : Int32))), (0, .ref (q 0)), (1, .int a1), (2, .int l2_7), (3, .int l3_7)]) rfl ?_
          refine r_goto (pc := 78) (tgt := 7) C dX0_minutesByGrade_78 (by decide) ?_
          exact r_sub [1, 2, 3, 4, 0] rfl (ih_7 l2_7 l3_7 (l4_7 + (1 : Int32)))
        · refine r_aload_n (pc := 36) C 0 dX0_minutesByGrade_36 rfl rfl ?_
          refine r_iload (pc := 37) C 4 dX0_minutesByGrade_37 rfl ?_
          refine r_callV0 (pc := 39) (rest := []) C (m_X0_isDeclared (xl X) (xD X) cI cS q BI BA l4_7) mv_X0_77 rfl rfl rfl ⟨Nat.zero_le _, Nat.zero_le _⟩ rfl rfl (Nat.le_of_ble_eq_true rfl) dX0_minutesByGrade_39 (fun r39 => ?_)
          refine r_if_eq (pc := 42) (tgt := 75) C dX0_minutesByGrade_42 (by decide) ?_ ?_
          · refine r_iinc (pc := 75) C 4 dX0_minutesByGrade_75 rfl (ci_1) (by decide) (lv' := [(4, .int (l4_7 + (1 : Int32))), (0, .ref (q 0)), (1, .int a1), (2, .int l2_7), (3, .int l3_7)]) rfl ?_
            refine r_goto (pc := 78) (tgt := 7) C dX0_minutesByGrade_78 (by decide) ?_
            exact r_sub [1, 2, 3, 4, 0] rfl (ih_7 l2_7 l3_7 (l4_7 + (1 : Int32)))
          · refine r_aload_n (pc := 45) C 0 dX0_minutesByGrade_45 rfl rfl ?_
            refine r_iload (pc := 46) C 4 dX0_minutesByGrade_46 rfl ?_
            refine r_callV0 (pc := 48) (rest := []) C (m_X0_isDutiable (xl X) (xD X) cI cS q BI BA l4_7) mv_X0_81 rfl rfl rfl ⟨Nat.zero_le _, Nat.zero_le _⟩ rfl rfl (Nat.le_of_ble_eq_true rfl) dX0_minutesByGrade_48 (fun r48 => ?_)
            refine r_if_eq (pc := 51) (tgt := 75) C dX0_minutesByGrade_51 (by decide) ?_ ?_
            · refine r_iinc (pc := 75) C 4 dX0_minutesByGrade_75 rfl (ci_1) (by decide) (lv' := [(4, .int (l4_7 + (1 : Int32))), (0, .ref (q 0)), (1, .int a1), (2, .int l2_7), (3, .int l3_7)]) rfl ?_
              refine r_goto (pc := 78) (tgt := 7) C dX0_minutesByGrade_78 (by decide) ?_
              exact r_sub [1, 2, 3, 4, 0] rfl (ih_7 l2_7 l3_7 (l4_7 + (1 : Int32)))
            · refine r_iload_n (pc := 54) C 2 dX0_minutesByGrade_54 rfl rfl ?_
              refine r_aload_n (pc := 55) C 0 dX0_minutesByGrade_55 rfl rfl ?_
              refine gf_X0_21 (pc := 56) C 0 rfl rfl dX0_minutesByGrade_56 ?_
              refine r_iload (pc := 59) C 4 dX0_minutesByGrade_59 rfl ?_
              refine r_iald (pc := 61) C 4 rfl dX0_minutesByGrade_61 ?_
              refine r_iadd (pc := 62) C dX0_minutesByGrade_62 ?_
              refine r_istore_n (pc := 63) C dX0_minutesByGrade_63 rfl (by decide) (lv' := [(2, .int (l2_7 + (BA 5 l4_7.toNatClampNeg))), (0, .ref (q 0)), (1, .int a1), (3, .int l3_7), (4, .int l4_7)]) rfl ?_
              refine r_iload_n (pc := 64) C 3 dX0_minutesByGrade_64 rfl rfl ?_
              refine r_aload_n (pc := 65) C 1 dX0_minutesByGrade_65 rfl rfl ?_
              refine r_iload (pc := 66) C 4 dX0_minutesByGrade_66 rfl ?_
              refine r_callV0 (pc := 68) (rest := [.int l3_7]) C (m_X0_gradeOf (xl X) (xD X) cI cS q BI BA l4_7) mv_X0_67 rfl rfl rfl ⟨Nat.zero_le _, Nat.zero_le _⟩ rfl rfl (Nat.le_of_ble_eq_true rfl) dX0_minutesByGrade_68 (fun r68 => ?_)
              refine r_max (pc := 71) C mx_X0_84 (Nat.le_of_ble_eq_true rfl) (Nat.le_of_ble_eq_true rfl) ⟨Nat.zero_le _, Nat.zero_le _⟩ dX0_minutesByGrade_71 ?_
              refine r_istore_n (pc := 74) C dX0_minutesByGrade_74 rfl (by decide) (lv' := [(3, .int (if l3_7 < r68 then r68 else l3_7)), (2, .int (l2_7 + (BA 5 l4_7.toNatClampNeg))), (0, .ref (q 0)), (1, .int a1), (4, .int l4_7)]) rfl ?_
              refine r_iinc (pc := 75) C 4 dX0_minutesByGrade_75 rfl (ci_1) (by decide) (lv' := [(4, .int (l4_7 + (1 : Int32))), (3, .int (if l3_7 < r68 then r68 else l3_7)), (2, .int (l2_7 + (BA 5 l4_7.toNatClampNeg))), (0, .ref (q 0)), (1, .int a1)]) rfl ?_
              refine r_goto (pc := 78) (tgt := 7) C dX0_minutesByGrade_78 (by decide) ?_
              exact r_sub [3, 4, 2, 1, 0] rfl (ih_7 (l2_7 + (BA 5 l4_7.toNatClampNeg)) (if l3_7 < r68 then r68 else l3_7) (l4_7 + (1 : Int32)))
set_option maxHeartbeats 4000000 in
set_option maxRecDepth 100000 in
theorem m_X0_minutesByGrade (l : Launch) (D : va_G) (cI cS : ClassId) (q : Nat → Nat) (BI : Nat → Int32) (BA : Nat → Nat → Int32) (a1 : Int32) : MX l D (tyz cI cS) yX0_minutesByGrade cX0_minutesByGrade 5 (some .int) (rmz 1 21) [.ref (q 0), .int a1] (wdB cI q BI BA) (f_X0_minutesByGrade BI BA a1) (fun o : Int32 => some (.int o)) (fun o : Int32 => wdB cI q BI BA) := met_of (own := RX0) (by decide) rfl (Nat.le_of_ble_eq_true rfl) (fun X hxl hxD C => by
  subst hxl
  subst hxD
  show JR X _ _ 0 0 (f_X0_minutesByGrade BI BA a1) (wdB cI q BI BA) [(0, .ref (q 0)), (1, .int a1)] 0 []
  unfold f_X0_minutesByGrade
  refine r_iconst (pc := 0) C dX0_minutesByGrade_0 (ci_0) ?_
  refine r_istore_n (pc := 1) C dX0_minutesByGrade_1 rfl (by decide) (lv' := [(2, .int (0 : Int32)), (0, .ref (q 0)), (1, .int a1)]) rfl ?_
  refine r_iconst (pc := 2) C dX0_minutesByGrade_2 (ci_0) ?_
  refine r_istore_n (pc := 3) C dX0_minutesByGrade_3 rfl (by decide) (lv' := [(3, .int (0 : Int32)), (2, .int (0 : Int32)), (0, .ref (q 0)), (1, .int a1)]) rfl ?_
  refine r_iconst (pc := 4) C dX0_minutesByGrade_4 (ci_0) ?_
  refine r_istore (pc := 5) C dX0_minutesByGrade_5 (by decide) (lv' := [(4, .int (0 : Int32)), (3, .int (0 : Int32)), (2, .int (0 : Int32)), (0, .ref (q 0)), (1, .int a1)]) rfl ?_
  refine r_sub [3, 4, 2, 1, 0] rfl (wl_X0_minutesByGrade_7 X C q BI BA a1  _ (fun el2_7 el3_7 el4_7 => ?_) 1000 (0 : Int32) (0 : Int32) (0 : Int32))
  refine r_iconst (pc := 81) C dX0_minutesByGrade_81 (ci_0) ?_
  refine r_iload_n (pc := 82) C 1 dX0_minutesByGrade_82 rfl rfl ?_
  refine r_aload_n (pc := 83) C 0 dX0_minutesByGrade_83 rfl rfl ?_
  refine gf_X0_55 (pc := 84) C 0 rfl rfl dX0_minutesByGrade_84 ?_
  refine r_isub (pc := 87) C dX0_minutesByGrade_87 ?_
  refine r_max (pc := 88) C mx_X0_84 (Nat.le_of_ble_eq_true rfl) (Nat.le_of_ble_eq_true rfl) ⟨Nat.zero_le _, Nat.zero_le _⟩ dX0_minutesByGrade_88 ?_
  refine r_iload_n (pc := 91) C 2 dX0_minutesByGrade_91 rfl rfl ?_
  refine r_imul (pc := 92) C dX0_minutesByGrade_92 ?_
  exact r_iret (pc := 93) C rfl rfl dX0_minutesByGrade_93)
set_option maxHeartbeats 4000000 in
set_option maxRecDepth 100000 in
theorem wl_X0_dutyByRate_4 {cI cS : ClassId} (X : CX) (C : Cx X RX0 cX0_dutyByRate 4 (some .int) (rmz 2 45) (tyz cI cS)) (q : Nat → Nat) (BI : Nat → Int32) (BA : Nat → Nat → Int32) (a1 : Int32)  (kk : Int32 → Int32 → Option (Int32)) (hk_4 : ∀ (el2_4 : Int32) (el3_4 : Int32), JR X (QF X (tyz cI cS) 0 0 (fun o : Int32 => some (.int o)) (fun o : Int32 => wdB cI q BI BA)) 4 0 0 (kk el2_4 el3_4) (wdB cI q BI BA) [(1, .int a1), (2, .int el2_4)] 23 []) : ∀ (fuel : Nat) (l2_4 : Int32) (l3_4 : Int32), JR X (QF X (tyz cI cS) 0 0 (fun o : Int32 => some (.int o)) (fun o : Int32 => wdB cI q BI BA)) 4 0 0 (lp_X0_dutyByRate_4 kk BI BA fuel l2_4 l3_4) (wdB cI q BI BA) [(0, .ref (q 0)), (1, .int a1), (2, .int l2_4), (3, .int l3_4)] 4 [] := by
  intro fuel
  induction fuel with
  | zero => intro l2_4 l3_4; exact r_none
  | succ fu_4 ih_4 =>
    intro l2_4 l3_4
    unfold lp_X0_dutyByRate_4
    refine r_iload_n (pc := 4) C 3 dX0_dutyByRate_4 rfl rfl ?_
    refine r_iconst (pc := 5) C dX0_dutyByRate_5 (ci_3) ?_
    refine r_icmp_ge (pc := 6) (tgt := 23) C dX0_dutyByRate_6 (by decide) ?_ ?_
    · exact r_sub [1, 2] rfl (hk_4 l2_4 l3_4)
    · refine r_iload_n (pc := 9) C 2 dX0_dutyByRate_9 rfl rfl ?_
      refine r_aload_n (pc := 10) C 0 dX0_dutyByRate_10 rfl rfl ?_
      refine r_iload_n (pc := 11) C 3 dX0_dutyByRate_11 rfl rfl ?_
      refine r_callV0 (pc := 12) (rest := [.int l2_4]) C (m_X0_minutesByGrade (xl X) (xD X) cI cS q BI BA l3_4) mv_X0_74 rfl rfl rfl ⟨Nat.zero_le _, Nat.zero_le _⟩ rfl rfl (Nat.le_of_ble_eq_true rfl) dX0_dutyByRate_12 (fun r12 => ?_)
      refine r_iadd (pc := 15) C dX0_dutyByRate_15 ?_
      refine r_istore_n (pc := 16) C dX0_dutyByRate_16 rfl (by decide) (lv' := [(2, .int (l2_4 + r12)), (0, .ref (q 0)), (1, .int a1), (3, .int l3_4)]) rfl ?_
      refine r_iinc (pc := 17) C 3 dX0_dutyByRate_17 rfl (ci_1) (by decide) (lv' := [(3, .int (l3_4 + (1 : Int32))), (2, .int (l2_4 + r12)), (0, .ref (q 0)), (1, .int a1)]) rfl ?_
      refine r_goto (pc := 20) (tgt := 4) C dX0_dutyByRate_20 (by decide) ?_
      exact r_sub [2, 3, 1, 0] rfl (ih_4 (l2_4 + r12) (l3_4 + (1 : Int32)))
set_option maxHeartbeats 4000000 in
set_option maxRecDepth 100000 in
theorem m_X0_dutyByRate (l : Launch) (D : va_G) (cI cS : ClassId) (q : Nat → Nat) (BI : Nat → Int32) (BA : Nat → Nat → Int32) (a1 : Int32) : MX l D (tyz cI cS) yX0_dutyByRate cX0_dutyByRate 4 (some .int) (rmz 2 45) [.ref (q 0), .int a1] (wdB cI q BI BA) (f_X0_dutyByRate BI BA a1) (fun o : Int32 => some (.int o)) (fun o : Int32 => wdB cI q BI BA) := met_of (own := RX0) (by decide) rfl (Nat.le_of_ble_eq_true rfl) (fun X hxl hxD C => by
  subst hxl
  subst hxD
  show JR X _ _ 0 0 (f_X0_dutyByRate BI BA a1) (wdB cI q BI BA) [(0, .ref (q 0)), (1, .int a1)] 0 []
  unfold f_X0_dutyByRate
  refine r_iconst (pc := 0) C dX0_dutyByRate_0 (ci_0) ?_
  refine r_istore_n (pc := 1) C dX0_dutyByRate_1 rfl (by decide) (lv' := [(2, .int (0 : Int32)), (0, .ref (q 0)), (1, .int a1)]) rfl ?_
  refine r_iconst (pc := 2) C dX0_dutyByRate_2 (ci_0) ?_
  refine r_istore_n (pc := 3) C dX0_dutyByRate_3 rfl (by decide) (lv' := [(3, .int (0 : Int32)), (2, .int (0 : Int32)), (0, .ref (q 0)), (1, .int a1)]) rfl ?_
  refine r_sub [2, 3, 1, 0] rfl (wl_X0_dutyByRate_4 X C q BI BA a1  _ (fun el2_4 el3_4 => ?_) 1000 (0 : Int32) (0 : Int32))
  refine r_iload_n (pc := 23) C 1 dX0_dutyByRate_23 rfl rfl ?_
  refine r_iload_n (pc := 24) C 0 dX0_dutyByRate_24 rfl rfl ?_
  refine r_imul (pc := 25) C dX0_dutyByRate_25 ?_
  exact r_iret (pc := 26) C rfl rfl dX0_dutyByRate_26)
set_option maxHeartbeats 4000000 in
set_option maxRecDepth 100000 in
theorem m_X0_dutyAt (l : Launch) (D : va_G) (cI cS : ClassId) (q : Nat → Nat) (BI : Nat → Int32) (BA : Nat → Nat → Int32) (a1 : Int32) : MX l D (tyz cI cS) yX0_dutyAt cX0_dutyAt 2 (some .int) (rmz 3 68) [.ref (q 0), .int a1] (wdB cI q BI BA) (f_X0_dutyAt BI BA a1) (fun o : Int32 => some (.int o)) (fun o : Int32 => wdB cI q BI BA) := met_of (own := RX0) (by decide) rfl (Nat.le_of_ble_eq_true rfl) (fun X hxl hxD C => by
  subst hxl
  subst hxD
  show JR X _ _ 0 0 (f_X0_dutyAt BI BA a1) (wdB cI q BI BA) [(0, .ref (q 0)), (1, .int a1)] 0 []
  unfold f_X0_dutyAt
  refine r_aload_n (pc := 0) C 0 dX0_dutyAt_0 rfl rfl ?_
  refine r_aload_n (pc := 1) C 0 dX0_dutyAt_1 rfl rfl ?_
  refine gf_X0_9 (pc := 2) C 0 rfl rfl dX0_dutyAt_2 ?_
  refine r_iload_n (pc := 5) C 1 dX0_dutyAt_5 rfl rfl ?_
  refine r_iald (pc := 6) C 1 rfl dX0_dutyAt_6 ?_
  refine r_callV0 (pc := 7) (rest := []) C (m_X0_dutyByRate (xl X) (xD X) cI cS q BI BA (BA 1 a1.toNatClampNeg)) mv_X0_71 rfl rfl rfl ⟨Nat.zero_le _, Nat.zero_le _⟩ rfl rfl (Nat.le_of_ble_eq_true rfl) dX0_dutyAt_7 (fun r7 => ?_)
  exact r_iret (pc := 10) C rfl rfl dX0_dutyAt_10)
set_option maxHeartbeats 4000000 in
set_option maxRecDepth 100000 in
theorem wl_X0_dutyAtAll_4 {cI cS : ClassId} (X : CX) (C : Cx X RX0 cX0_dutyAtAll 3 (some .int) (rmz 3 68) (tyz cI cS)) (q : Nat → Nat) (BI : Nat → Int32) (BA : Nat → Nat → Int32)  (kk : Int32 → Int32 → Option (Int32)) (hk_4 : ∀ (el1_4 : Int32) (el2_4 : Int32), JR X (QF X (tyz cI cS) 0 0 (fun o : Int32 => some (.int o)) (fun o : Int32 => wdB cI q BI BA)) 3 0 0 (kk el1_4 el2_4) (wdB cI q BI BA) [(0, .ref (q 0)), (1, .int el1_4)] 27 []) : ∀ (fuel : Nat) (l1_4 : Int32) (l2_4 : Int32), JR X (QF X (tyz cI cS) 0 0 (fun o : Int32 => some (.int o)) (fun o : Int32 => wdB cI q BI BA)) 3 0 0 (lp_X0_dutyAtAll_4 kk BI BA fuel l1_4 l2_4) (wdB cI q BI BA) [(0, .ref (q 0)), (1, .int l1_4), (2, .int l2_4)] 4 [] := by
  intro fuel
  induction fuel with
  | zero => intro l1_4 l2_4; exact r_none
  | succ fu_4 ih_4 =>
    intro l1_4 l2_4
    unfold lp_X0_dutyAtAll_4
    refine r_iload_n (pc := 4) C 2 dX0_dutyAtAll_4 rfl rfl ?_
    refine r_aload_n (pc := 5) C 0 dX0_dutyAtAll_5 rfl rfl ?_
    refine gf_X0_43 (pc := 6) C 0 rfl rfl dX0_dutyAtAll_6 ?_
    refine r_icmp_ge (pc := 9) (tgt := 27) C dX0_dutyAtAll_9 (by decide) ?_ ?_
    · exact r_sub [0, 1] rfl (hk_4 l1_4 l2_4)
    · refine r_iload_n (pc := 12) C 1 dX0_dutyAtAll_12 rfl rfl ?_
      refine r_aload_n (pc := 13) C 0 dX0_dutyAtAll_13 rfl rfl ?_
      refine gf_X0_9 (pc := 14) C 0 rfl rfl dX0_dutyAtAll_14 ?_
      refine r_iload_n (pc := 17) C 2 dX0_dutyAtAll_17 rfl rfl ?_
      refine r_iald (pc := 18) C 1 rfl dX0_dutyAtAll_18 ?_
      refine r_iadd (pc := 19) C dX0_dutyAtAll_19 ?_
      refine r_istore_n (pc := 20) C dX0_dutyAtAll_20 rfl (by decide) (lv' := [(1, .int (l1_4 + (BA 1 l2_4.toNatClampNeg))), (0, .ref (q 0)), (2, .int l2_4)]) rfl ?_
      refine r_iinc (pc := 21) C 2 dX0_dutyAtAll_21 rfl (ci_1) (by decide) (lv' := [(2, .int (l2_4 + (1 : Int32))), (1, .int (l1_4 + (BA 1 l2_4.toNatClampNeg))), (0, .ref (q 0))]) rfl ?_
      refine r_goto (pc := 24) (tgt := 4) C dX0_dutyAtAll_24 (by decide) ?_
      exact r_sub [2, 1, 0] rfl (ih_4 (l1_4 + (BA 1 l2_4.toNatClampNeg)) (l2_4 + (1 : Int32)))
set_option maxHeartbeats 4000000 in
set_option maxRecDepth 100000 in
theorem m_X0_dutyAtAll (l : Launch) (D : va_G) (cI cS : ClassId) (q : Nat → Nat) (BI : Nat → Int32) (BA : Nat → Nat → Int32) : MX l D (tyz cI cS) yX0_dutyAtAll cX0_dutyAtAll 3 (some .int) (rmz 3 68) [.ref (q 0)] (wdB cI q BI BA) (f_X0_dutyAtAll BI BA) (fun o : Int32 => some (.int o)) (fun o : Int32 => wdB cI q BI BA) := met_of (own := RX0) (by decide) rfl (Nat.le_of_ble_eq_true rfl) (fun X hxl hxD C => by
  subst hxl
  subst hxD
  show JR X _ _ 0 0 (f_X0_dutyAtAll BI BA) (wdB cI q BI BA) [(0, .ref (q 0))] 0 []
  unfold f_X0_dutyAtAll
  refine r_iconst (pc := 0) C dX0_dutyAtAll_0 (ci_0) ?_
  refine r_istore_n (pc := 1) C dX0_dutyAtAll_1 rfl (by decide) (lv' := [(1, .int (0 : Int32)), (0, .ref (q 0))]) rfl ?_
  refine r_iconst (pc := 2) C dX0_dutyAtAll_2 (ci_0) ?_
  refine r_istore_n (pc := 3) C dX0_dutyAtAll_3 rfl (by decide) (lv' := [(2, .int (0 : Int32)), (1, .int (0 : Int32)), (0, .ref (q 0))]) rfl ?_
  refine r_sub [2, 1, 0] rfl (wl_X0_dutyAtAll_4 X C q BI BA  _ (fun el1_4 el2_4 => ?_) 1000 (0 : Int32) (0 : Int32))
  refine r_aload_n (pc := 27) C 0 dX0_dutyAtAll_27 rfl rfl ?_
  refine r_iload_n (pc := 28) C 1 dX0_dutyAtAll_28 rfl rfl ?_
  refine r_callV0 (pc := 29) (rest := []) C (m_X0_dutyByRate (xl X) (xD X) cI cS q BI BA el1_4) mv_X0_71 rfl rfl rfl ⟨Nat.zero_le _, Nat.zero_le _⟩ rfl rfl (Nat.le_of_ble_eq_true rfl) dX0_dutyAtAll_29 (fun r29 => ?_)
  exact r_iret (pc := 32) C rfl rfl dX0_dutyAtAll_32)
set_option maxHeartbeats 4000000 in
set_option maxRecDepth 100000 in
theorem m_X0_tenthsHeard (l : Launch) (D : va_G) (cI cS : ClassId) (q : Nat → Nat) (BI : Nat → Int32) (BA : Nat → Nat → Int32) (a1 : Int32) (a2 : Int32) : MX l D (tyz cI cS) yX0_tenthsHeard cX0_tenthsHeard 3 (some .int) (rmz 1 21) [.ref (q 0), .int a1, .int a2] (wdB cI q BI BA) (f_X0_tenthsHeard BI BA a1 a2) (fun o : Int32 => some (.int o)) (fun o : Int32 => wdB cI q BI BA) := met_of (own := RX0) (by decide) rfl (Nat.le_of_ble_eq_true rfl) (fun X hxl hxD C => by
  subst hxl
  subst hxD
  show JR X _ _ 0 0 (f_X0_tenthsHeard BI BA a1 a2) (wdB cI q BI BA) [(0, .ref (q 0)), (1, .int a1), (2, .int a2)] 0 []
  unfold f_X0_tenthsHeard
  refine r_iload_n (pc := 0) C 1 dX0_tenthsHeard_0 rfl rfl ?_
  refine r_aload_n (pc := 1) C 0 dX0_tenthsHeard_1 rfl rfl ?_
  refine gf_X0_33 (pc := 2) C 0 rfl rfl dX0_tenthsHeard_2 ?_
  refine r_icmp_eq (pc := 5) (tgt := 24) C dX0_tenthsHeard_5 (by decide) ?_ ?_
  · refine r_iconst (pc := 24) C dX0_tenthsHeard_24 (ci_0) ?_
    exact r_iret (pc := 25) C rfl rfl dX0_tenthsHeard_25
  · refine r_aload_n (pc := 8) C 0 dX0_tenthsHeard_8 rfl rfl ?_
    refine r_iload_n (pc := 9) C 1 dX0_tenthsHeard_9 rfl rfl ?_
    refine r_callV0 (pc := 10) (rest := []) C (m_X0_isDeclared (xl X) (xD X) cI cS q BI BA a1) mv_X0_77 rfl rfl rfl ⟨Nat.zero_le _, Nat.zero_le _⟩ rfl rfl (Nat.le_of_ble_eq_true rfl) dX0_tenthsHeard_10 (fun r10 => ?_)
    refine r_if_ne (pc := 13) (tgt := 24) C dX0_tenthsHeard_13 (by decide) ?_ ?_
    · refine r_iconst (pc := 24) C dX0_tenthsHeard_24 (ci_0) ?_
      exact r_iret (pc := 25) C rfl rfl dX0_tenthsHeard_25
    · refine r_aload_n (pc := 16) C 0 dX0_tenthsHeard_16 rfl rfl ?_
      refine r_iload_n (pc := 17) C 1 dX0_tenthsHeard_17 rfl rfl ?_
      refine r_callV0 (pc := 18) (rest := []) C (m_X0_isDutiable (xl X) (xD X) cI cS q BI BA a1) mv_X0_81 rfl rfl rfl ⟨Nat.zero_le _, Nat.zero_le _⟩ rfl rfl (Nat.le_of_ble_eq_true rfl) dX0_tenthsHeard_18 (fun r18 => ?_)
      refine r_if_ne (pc := 21) (tgt := 26) C dX0_tenthsHeard_21 (by decide) ?_ ?_
      · refine r_iconst (pc := 26) C dX0_tenthsHeard_26 (ci_0) ?_
        refine r_aload_n (pc := 27) C 0 dX0_tenthsHeard_27 rfl rfl ?_
        refine gf_X0_15 (pc := 28) C 0 rfl rfl dX0_tenthsHeard_28 ?_
        refine r_iload_n (pc := 31) C 2 dX0_tenthsHeard_31 rfl rfl ?_
        refine r_iald (pc := 32) C 2 rfl dX0_tenthsHeard_32 ?_
        refine r_aload_n (pc := 33) C 0 dX0_tenthsHeard_33 rfl rfl ?_
        refine gf_X0_30 (pc := 34) C 0 rfl rfl dX0_tenthsHeard_34 ?_
        refine r_aload_n (pc := 37) C 0 dX0_tenthsHeard_37 rfl rfl ?_
        refine gf_X0_27 (pc := 38) C 0 rfl rfl dX0_tenthsHeard_38 ?_
        refine r_iload_n (pc := 41) C 1 dX0_tenthsHeard_41 rfl rfl ?_
        refine r_iald (pc := 42) C 6 rfl dX0_tenthsHeard_42 ?_
        refine r_iald (pc := 43) C 7 rfl dX0_tenthsHeard_43 ?_
        refine r_isub (pc := 44) C dX0_tenthsHeard_44 ?_
        refine r_max (pc := 45) C mx_X0_84 (Nat.le_of_ble_eq_true rfl) (Nat.le_of_ble_eq_true rfl) ⟨Nat.zero_le _, Nat.zero_le _⟩ dX0_tenthsHeard_45 ?_
        exact r_iret (pc := 48) C rfl rfl dX0_tenthsHeard_48
      · refine r_iconst (pc := 24) C dX0_tenthsHeard_24 (ci_0) ?_
        exact r_iret (pc := 25) C rfl rfl dX0_tenthsHeard_25)
set_option maxHeartbeats 4000000 in
set_option maxRecDepth 100000 in
theorem wl_X0_readingsAreSo_2 {cI cS : ClassId} (X : CX) (C : Cx X RX0 cX0_readingsAreSo 2 (some .boolean) (rmz 4 89) (tyz cI cS)) (q : Nat → Nat) (BI : Nat → Int32) (BA : Nat → Nat → Int32)  (kk : Int32 → Option (Int32)) (hk_2 : ∀ (el1_2 : Int32), JR X (QF X (tyz cI cS) 0 0 (fun o : Int32 => some (.int o)) (fun o : Int32 => wdB cI q BI BA)) 2 0 0 (kk el1_2) (wdB cI q BI BA) [] 37 []) : ∀ (fuel : Nat) (l1_2 : Int32), JR X (QF X (tyz cI cS) 0 0 (fun o : Int32 => some (.int o)) (fun o : Int32 => wdB cI q BI BA)) 2 0 0 (lp_X0_readingsAreSo_2 kk BI BA fuel l1_2) (wdB cI q BI BA) [(0, .ref (q 0)), (1, .int l1_2)] 2 [] := by
  intro fuel
  induction fuel with
  | zero => intro l1_2; exact r_none
  | succ fu_2 ih_2 =>
    intro l1_2
    unfold lp_X0_readingsAreSo_2
    refine r_iload_n (pc := 2) C 1 dX0_readingsAreSo_2 rfl rfl ?_
    refine r_aload_n (pc := 3) C 0 dX0_readingsAreSo_3 rfl rfl ?_
    refine gf_X0_58 (pc := 4) C 0 rfl rfl dX0_readingsAreSo_4 ?_
    refine r_icmp_ge (pc := 7) (tgt := 37) C dX0_readingsAreSo_7 (by decide) ?_ ?_
    · exact r_sub [] rfl (hk_2 l1_2)
    · refine r_aload_n (pc := 10) C 0 dX0_readingsAreSo_10 rfl rfl ?_
      refine r_aload_n (pc := 11) C 0 dX0_readingsAreSo_11 rfl rfl ?_
      refine gf_X0_37 (pc := 12) C 0 rfl rfl dX0_readingsAreSo_12 ?_
      refine r_iload_n (pc := 15) C 1 dX0_readingsAreSo_15 rfl rfl ?_
      refine r_iald (pc := 16) C 8 rfl dX0_readingsAreSo_16 ?_
      refine r_callV0 (pc := 17) (rest := []) C (m_X0_dutyAt (xl X) (xD X) cI cS q BI BA (BA 14 l1_2.toNatClampNeg)) mv_X0_90 rfl rfl rfl ⟨Nat.zero_le _, Nat.zero_le _⟩ rfl rfl (Nat.le_of_ble_eq_true rfl) dX0_readingsAreSo_17 (fun r17 => ?_)
      refine r_aload_n (pc := 20) C 0 dX0_readingsAreSo_20 rfl rfl ?_
      refine gf_X0_40 (pc := 21) C 0 rfl rfl dX0_readingsAreSo_21 ?_
      refine r_iload_n (pc := 24) C 1 dX0_readingsAreSo_24 rfl rfl ?_
      refine r_iald (pc := 25) C 9 rfl dX0_readingsAreSo_25 ?_
      refine r_icmp_eq (pc := 26) (tgt := 31) C dX0_readingsAreSo_26 (by decide) ?_ ?_
      · refine r_iinc (pc := 31) C 1 dX0_readingsAreSo_31 rfl (ci_1) (by decide) (lv' := [(1, .int (l1_2 + (1 : Int32))), (0, .ref (q 0))]) rfl ?_
        refine r_goto (pc := 34) (tgt := 2) C dX0_readingsAreSo_34 (by decide) ?_
        exact r_sub [1, 0] rfl (ih_2 (l1_2 + (1 : Int32)))
      · refine r_iconst (pc := 29) C dX0_readingsAreSo_29 (ci_0) ?_
        exact r_zret (pc := 30) C rfl rfl rfl dX0_readingsAreSo_30
set_option maxHeartbeats 4000000 in
set_option maxRecDepth 100000 in
theorem m_X0_readingsAreSo (l : Launch) (D : va_G) (cI cS : ClassId) (q : Nat → Nat) (BI : Nat → Int32) (BA : Nat → Nat → Int32) : MX l D (tyz cI cS) yX0_readingsAreSo cX0_readingsAreSo 2 (some .boolean) (rmz 4 89) [.ref (q 0)] (wdB cI q BI BA) (f_X0_readingsAreSo BI BA) (fun o : Int32 => some (.int o)) (fun o : Int32 => wdB cI q BI BA) := met_of (own := RX0) (by decide) rfl (Nat.le_of_ble_eq_true rfl) (fun X hxl hxD C => by
  subst hxl
  subst hxD
  show JR X _ _ 0 0 (f_X0_readingsAreSo BI BA) (wdB cI q BI BA) [(0, .ref (q 0))] 0 []
  unfold f_X0_readingsAreSo
  refine r_iconst (pc := 0) C dX0_readingsAreSo_0 (ci_0) ?_
  refine r_istore_n (pc := 1) C dX0_readingsAreSo_1 rfl (by decide) (lv' := [(1, .int (0 : Int32)), (0, .ref (q 0))]) rfl ?_
  refine r_sub [1, 0] rfl (wl_X0_readingsAreSo_2 X C q BI BA  _ (fun el1_2 => ?_) 1000 (0 : Int32))
  refine r_iconst (pc := 37) C dX0_readingsAreSo_37 (ci_1) ?_
  exact r_zret (pc := 38) C rfl rfl rfl dX0_readingsAreSo_38)
set_option maxHeartbeats 4000000 in
set_option maxRecDepth 100000 in
theorem wl_X0_carrierRows_4 {cI cS : ClassId} (X : CX) (C : Cx X RX0 cX0_carrierRows 3 (some .int) (rmz 0 0) (tyz cI cS)) (q : Nat → Nat) (BI : Nat → Int32) (BA : Nat → Nat → Int32)  (kk : Int32 → Int32 → Option (Int32)) (hk_4 : ∀ (el1_4 : Int32) (el2_4 : Int32), JR X (QF X (tyz cI cS) 0 0 (fun o : Int32 => some (.int o)) (fun o : Int32 => wdB cI q BI BA)) 3 0 0 (kk el1_4 el2_4) (wdB cI q BI BA) [(1, .int el1_4)] 22 []) : ∀ (fuel : Nat) (l1_4 : Int32) (l2_4 : Int32), JR X (QF X (tyz cI cS) 0 0 (fun o : Int32 => some (.int o)) (fun o : Int32 => wdB cI q BI BA)) 3 0 0 (lp_X0_carrierRows_4 kk BI fuel l1_4 l2_4) (wdB cI q BI BA) [(0, .ref (q 0)), (1, .int l1_4), (2, .int l2_4)] 4 [] := by
  intro fuel
  induction fuel with
  | zero => intro l1_4 l2_4; exact r_none
  | succ fu_4 ih_4 =>
    intro l1_4 l2_4
    unfold lp_X0_carrierRows_4
    refine r_iload_n (pc := 4) C 2 dX0_carrierRows_4 rfl rfl ?_
    refine r_aload_n (pc := 5) C 0 dX0_carrierRows_5 rfl rfl ?_
    refine gf_X0_46 (pc := 6) C 0 rfl rfl dX0_carrierRows_6 ?_
    refine r_icmp_ge (pc := 9) (tgt := 22) C dX0_carrierRows_9 (by decide) ?_ ?_
    · exact r_sub [1] rfl (hk_4 l1_4 l2_4)
    · refine r_iload_n (pc := 12) C 1 dX0_carrierRows_12 rfl rfl ?_
      refine r_iconst (pc := 13) C dX0_carrierRows_13 (ci_3) ?_
      refine r_imul (pc := 14) C dX0_carrierRows_14 ?_
      refine r_istore_n (pc := 15) C dX0_carrierRows_15 rfl (by decide) (lv' := [(1, .int (l1_4 * (3 : Int32))), (0, .ref (q 0)), (2, .int l2_4)]) rfl ?_
      refine r_iinc (pc := 16) C 2 dX0_carrierRows_16 rfl (ci_1) (by decide) (lv' := [(2, .int (l2_4 + (1 : Int32))), (1, .int (l1_4 * (3 : Int32))), (0, .ref (q 0))]) rfl ?_
      refine r_goto (pc := 19) (tgt := 4) C dX0_carrierRows_19 (by decide) ?_
      exact r_sub [2, 1, 0] rfl (ih_4 (l1_4 * (3 : Int32)) (l2_4 + (1 : Int32)))
set_option maxHeartbeats 4000000 in
set_option maxRecDepth 100000 in
theorem m_X0_carrierRows (l : Launch) (D : va_G) (cI cS : ClassId) (q : Nat → Nat) (BI : Nat → Int32) (BA : Nat → Nat → Int32) : MX l D (tyz cI cS) yX0_carrierRows cX0_carrierRows 3 (some .int) (rmz 0 0) [.ref (q 0)] (wdB cI q BI BA) (f_X0_carrierRows BI) (fun o : Int32 => some (.int o)) (fun o : Int32 => wdB cI q BI BA) := met_of (own := RX0) (by decide) rfl (Nat.le_of_ble_eq_true rfl) (fun X hxl hxD C => by
  subst hxl
  subst hxD
  show JR X _ _ 0 0 (f_X0_carrierRows BI) (wdB cI q BI BA) [(0, .ref (q 0))] 0 []
  unfold f_X0_carrierRows
  refine r_iconst (pc := 0) C dX0_carrierRows_0 (ci_1) ?_
  refine r_istore_n (pc := 1) C dX0_carrierRows_1 rfl (by decide) (lv' := [(1, .int (1 : Int32)), (0, .ref (q 0))]) rfl ?_
  refine r_iconst (pc := 2) C dX0_carrierRows_2 (ci_0) ?_
  refine r_istore_n (pc := 3) C dX0_carrierRows_3 rfl (by decide) (lv' := [(2, .int (0 : Int32)), (1, .int (1 : Int32)), (0, .ref (q 0))]) rfl ?_
  refine r_sub [2, 1, 0] rfl (wl_X0_carrierRows_4 X C q BI BA  _ (fun el1_4 el2_4 => ?_) 1000 (1 : Int32) (0 : Int32))
  refine r_iload_n (pc := 22) C 0 dX0_carrierRows_22 rfl rfl ?_
  exact r_iret (pc := 23) C rfl rfl dX0_carrierRows_23)
set_option maxHeartbeats 4000000 in
set_option maxRecDepth 100000 in
theorem wl_X0_carrierRow_4 {cI cS : ClassId} (X : CX) (C : Cx X RX0 cX0_carrierRow 3 (some .int) (rmz 0 0) (tyz cI cS)) (q : Nat → Nat) (BI : Nat → Int32) (BA : Nat → Nat → Int32)  (kk : Int32 → Int32 → Option (Int32)) (hk_4 : ∀ (el1_4 : Int32) (el2_4 : Int32), JR X (QF X (tyz cI cS) 0 0 (fun o : Int32 => some (.int o)) (fun o : Int32 => wdB cI q BI BA)) 3 0 0 (kk el1_4 el2_4) (wdB cI q BI BA) [(1, .int el1_4)] 29 []) : ∀ (fuel : Nat) (l1_4 : Int32) (l2_4 : Int32), JR X (QF X (tyz cI cS) 0 0 (fun o : Int32 => some (.int o)) (fun o : Int32 => wdB cI q BI BA)) 3 0 0 (lp_X0_carrierRow_4 kk BI BA fuel l1_4 l2_4) (wdB cI q BI BA) [(0, .ref (q 0)), (1, .int l1_4), (2, .int l2_4)] 4 [] := by
  intro fuel
  induction fuel with
  | zero => intro l1_4 l2_4; exact r_none
  | succ fu_4 ih_4 =>
    intro l1_4 l2_4
    unfold lp_X0_carrierRow_4
    refine r_iload_n (pc := 4) C 2 dX0_carrierRow_4 rfl rfl ?_
    refine r_aload_n (pc := 5) C 0 dX0_carrierRow_5 rfl rfl ?_
    refine gf_X0_46 (pc := 6) C 0 rfl rfl dX0_carrierRow_6 ?_
    refine r_icmp_ge (pc := 9) (tgt := 29) C dX0_carrierRow_9 (by decide) ?_ ?_
    · exact r_sub [1] rfl (hk_4 l1_4 l2_4)
    · refine r_iload_n (pc := 12) C 1 dX0_carrierRow_12 rfl rfl ?_
      refine r_iconst (pc := 13) C dX0_carrierRow_13 (ci_3) ?_
      refine r_imul (pc := 14) C dX0_carrierRow_14 ?_
      refine r_aload_n (pc := 15) C 0 dX0_carrierRow_15 rfl rfl ?_
      refine gf_X0_27 (pc := 16) C 0 rfl rfl dX0_carrierRow_16 ?_
      refine r_iload_n (pc := 19) C 2 dX0_carrierRow_19 rfl rfl ?_
      refine r_iald (pc := 20) C 6 rfl dX0_carrierRow_20 ?_
      refine r_iadd (pc := 21) C dX0_carrierRow_21 ?_
      refine r_istore_n (pc := 22) C dX0_carrierRow_22 rfl (by decide) (lv' := [(1, .int ((l1_4 * (3 : Int32)) + (BA 7 l2_4.toNatClampNeg))), (0, .ref (q 0)), (2, .int l2_4)]) rfl ?_
      refine r_iinc (pc := 23) C 2 dX0_carrierRow_23 rfl (ci_1) (by decide) (lv' := [(2, .int (l2_4 + (1 : Int32))), (1, .int ((l1_4 * (3 : Int32)) + (BA 7 l2_4.toNatClampNeg))), (0, .ref (q 0))]) rfl ?_
      refine r_goto (pc := 26) (tgt := 4) C dX0_carrierRow_26 (by decide) ?_
      exact r_sub [2, 1, 0] rfl (ih_4 ((l1_4 * (3 : Int32)) + (BA 7 l2_4.toNatClampNeg)) (l2_4 + (1 : Int32)))
set_option maxHeartbeats 4000000 in
set_option maxRecDepth 100000 in
theorem m_X0_carrierRow (l : Launch) (D : va_G) (cI cS : ClassId) (q : Nat → Nat) (BI : Nat → Int32) (BA : Nat → Nat → Int32) : MX l D (tyz cI cS) yX0_carrierRow cX0_carrierRow 3 (some .int) (rmz 0 0) [.ref (q 0)] (wdB cI q BI BA) (f_X0_carrierRow BI BA) (fun o : Int32 => some (.int o)) (fun o : Int32 => wdB cI q BI BA) := met_of (own := RX0) (by decide) rfl (Nat.le_of_ble_eq_true rfl) (fun X hxl hxD C => by
  subst hxl
  subst hxD
  show JR X _ _ 0 0 (f_X0_carrierRow BI BA) (wdB cI q BI BA) [(0, .ref (q 0))] 0 []
  unfold f_X0_carrierRow
  refine r_iconst (pc := 0) C dX0_carrierRow_0 (ci_0) ?_
  refine r_istore_n (pc := 1) C dX0_carrierRow_1 rfl (by decide) (lv' := [(1, .int (0 : Int32)), (0, .ref (q 0))]) rfl ?_
  refine r_iconst (pc := 2) C dX0_carrierRow_2 (ci_0) ?_
  refine r_istore_n (pc := 3) C dX0_carrierRow_3 rfl (by decide) (lv' := [(2, .int (0 : Int32)), (1, .int (0 : Int32)), (0, .ref (q 0))]) rfl ?_
  refine r_sub [2, 1, 0] rfl (wl_X0_carrierRow_4 X C q BI BA  _ (fun el1_4 el2_4 => ?_) 1000 (0 : Int32) (0 : Int32))
  refine r_iload_n (pc := 29) C 0 dX0_carrierRow_29 rfl rfl ?_
  exact r_iret (pc := 30) C rfl rfl dX0_carrierRow_30)
set_option maxHeartbeats 4000000 in
set_option maxRecDepth 100000 in
theorem wl_X0_setCarrierRow_9 {cI cS : ClassId} (X : CX) (C : Cx X RX0 cX0_setCarrierRow 4 none (rmz 0 0) (tyz cI cS)) (q : Nat → Nat) (BI : Nat → Int32)  (kk : Int32 → Int32 → (Nat → Nat → Int32) → Option ((Nat → Nat → Int32))) (hk_9 : ∀ (el2_9 : Int32) (el3_9 : Int32) (eBA_9 : Nat → Nat → Int32), JR X (QF X (tyz cI cS) 0 0 (fun o : (Nat → Nat → Int32) => none) (fun o : (Nat → Nat → Int32) => wdB cI q BI o)) 4 0 0 (kk el2_9 el3_9 eBA_9) (wdB cI q BI eBA_9) [] 32 []) : ∀ (fuel : Nat) (l2_9 : Int32) (l3_9 : Int32) (BA_9 : Nat → Nat → Int32), JR X (QF X (tyz cI cS) 0 0 (fun o : (Nat → Nat → Int32) => none) (fun o : (Nat → Nat → Int32) => wdB cI q BI o)) 4 0 0 (lp_X0_setCarrierRow_9 kk fuel l2_9 l3_9 BA_9) (wdB cI q BI BA_9) [(0, .ref (q 0)), (2, .int l2_9), (3, .int l3_9)] 9 [] := by
  intro fuel
  induction fuel with
  | zero => intro l2_9 l3_9 BA_9; exact r_none
  | succ fu_9 ih_9 =>
    intro l2_9 l3_9 BA_9
    unfold lp_X0_setCarrierRow_9
    refine r_iload_n (pc := 9) C 2 dX0_setCarrierRow_9 rfl rfl ?_
    refine r_if_lt (pc := 10) (tgt := 32) C dX0_setCarrierRow_10 (by decide) ?_ ?_
    · exact r_sub [] rfl (hk_9 l2_9 l3_9 BA_9)
    · refine r_aload_n (pc := 13) C 0 dX0_setCarrierRow_13 rfl rfl ?_
      refine gf_X0_27 (pc := 14) C 0 rfl rfl dX0_setCarrierRow_14 ?_
      refine r_iload_n (pc := 17) C 2 dX0_setCarrierRow_17 rfl rfl ?_
      refine r_iload_n (pc := 18) C 1 dX0_setCarrierRow_18 rfl rfl ?_
      refine r_iconst (pc := 19) C dX0_setCarrierRow_19 (ci_3) ?_
      refine r_irem (pc := 20) C dX0_setCarrierRow_20 ?_
      refine r_iast (pc := 21) (ws' := wdB cI q BI (va_up BA_9 7 (upd (BA_9 7) l3_9.toNatClampNeg (l2_9 - l2_9 / (3 : Int32) * (3 : Int32))))) C 6 rfl dX0_setCarrierRow_21 rfl ?_
      refine r_iload_n (pc := 22) C 1 dX0_setCarrierRow_22 rfl rfl ?_
      refine r_iconst (pc := 23) C dX0_setCarrierRow_23 (ci_3) ?_
      refine r_idiv (pc := 24) C dX0_setCarrierRow_24 ?_
      refine r_istore_n (pc := 25) C dX0_setCarrierRow_25 rfl (by decide) (lv' := [(2, .int (l2_9 / (3 : Int32))), (0, .ref (q 0)), (3, .int l3_9)]) rfl ?_
      refine r_iinc (pc := 26) C 2 dX0_setCarrierRow_26 rfl (ci_m1) (by decide) (lv' := [(3, .int (l3_9 + (-1 : Int32))), (2, .int (l2_9 / (3 : Int32))), (0, .ref (q 0))]) rfl ?_
      refine r_goto (pc := 29) (tgt := 9) C dX0_setCarrierRow_29 (by decide) ?_
      exact r_sub [2, 1, 0] rfl (ih_9 (l2_9 / (3 : Int32)) (l3_9 + (-1 : Int32)) (va_up BA_9 7 (upd (BA_9 7) l3_9.toNatClampNeg (l2_9 - l2_9 / (3 : Int32) * (3 : Int32)))))
set_option maxHeartbeats 4000000 in
set_option maxRecDepth 100000 in
theorem m_X0_setCarrierRow (l : Launch) (D : va_G) (cI cS : ClassId) (q : Nat → Nat) (BI : Nat → Int32) (BA : Nat → Nat → Int32) (a1 : Int32) : MX l D (tyz cI cS) yX0_setCarrierRow cX0_setCarrierRow 4 none (rmz 0 0) [.ref (q 0), .int a1] (wdB cI q BI BA) (f_X0_setCarrierRow BI BA a1) (fun o : (Nat → Nat → Int32) => none) (fun o : (Nat → Nat → Int32) => wdB cI q BI o) := met_of (own := RX0) (by decide) rfl (Nat.le_of_ble_eq_true rfl) (fun X hxl hxD C => by
  subst hxl
  subst hxD
  show JR X _ _ 0 0 (f_X0_setCarrierRow BI BA a1) (wdB cI q BI BA) [(0, .ref (q 0)), (1, .int a1)] 0 []
  unfold f_X0_setCarrierRow
  refine r_iload_n (pc := 0) C 1 dX0_setCarrierRow_0 rfl rfl ?_
  refine r_istore_n (pc := 1) C dX0_setCarrierRow_1 rfl (by decide) (lv' := [(2, .int a1), (0, .ref (q 0)), (1, .int a1)]) rfl ?_
  refine r_aload_n (pc := 2) C 1 dX0_setCarrierRow_2 rfl rfl ?_
  refine gf_X0_46 (pc := 3) C 0 rfl rfl dX0_setCarrierRow_3 ?_
  refine r_iconst (pc := 6) C dX0_setCarrierRow_6 (ci_1) ?_
  refine r_isub (pc := 7) C dX0_setCarrierRow_7 ?_
  refine r_istore_n (pc := 8) C dX0_setCarrierRow_8 rfl (by decide) (lv' := [(3, .int ((BI 3) - (1 : Int32))), (2, .int a1), (0, .ref (q 0)), (1, .int a1)]) rfl ?_
  refine r_sub [2, 1, 0] rfl (wl_X0_setCarrierRow_9 X C q BI  _ (fun el2_9 el3_9 eBA_9 => ?_) 1000 a1 ((BI 3) - (1 : Int32)) BA)
  exact r_vret (pc := 32) C rfl rfl dX0_setCarrierRow_32)
set_option maxHeartbeats 4000000 in
set_option maxRecDepth 100000 in
theorem m_X2_codeAt (l : Launch) (D : va_G) (cI cS : ClassId) (r : Nat) (a : Nat) (b : Nat) (rb : Int32) (rl : Int32) (ra : Int32) (ln : Int32) (sz : Int32) (ce : Nat → Int32) (a1 : Int32) : MX l D (tyz cI cS) yX2_codeAt cX2_codeAt 2 (some .int) (rmz 1 21) [.ref r, .int a1] (wdR r (.ref a) rb rl ra ++ wdS cI a b ln sz ce) (f_X2_codeAt rb sz ce a1) (fun o : Int32 => some (.int o)) (fun o : Int32 => wdR r (.ref a) rb rl ra ++ wdS cI a b ln sz ce) := met_of (own := RX2) (by decide) rfl (Nat.le_of_ble_eq_true rfl) (fun X hxl hxD C => by
  subst hxl
  subst hxD
  show JR X _ _ 0 0 (f_X2_codeAt rb sz ce a1) (wdR r (.ref a) rb rl ra ++ wdS cI a b ln sz ce) [(0, .ref r), (1, .int a1)] 0 []
  unfold f_X2_codeAt
  refine r_aload_n (pc := 0) C 0 dX2_codeAt_0 rfl rfl ?_
  refine gf_X2_9 (pc := 1) C 0 rfl rfl dX2_codeAt_1 ?_
  refine r_ifnull (pc := 4) C dX2_codeAt_4 ?_
  refine r_aload_n (pc := 7) C 0 dX2_codeAt_7 rfl rfl ?_
  refine gf_X2_9 (pc := 8) C 0 rfl rfl dX2_codeAt_8 ?_
  refine r_aload_n (pc := 11) C 0 dX2_codeAt_11 rfl rfl ?_
  refine gf_X2_15 (pc := 12) C 0 rfl rfl dX2_codeAt_12 ?_
  refine r_iload_n (pc := 15) C 1 dX2_codeAt_15 rfl rfl ?_
  refine r_iadd (pc := 16) C dX2_codeAt_16 ?_
  refine r_callVr (pc := 17) (rest := []) C [1, 2] (m_X1_hasCell (xl X) (xD X) cI cS a b ln sz ce (rb + a1)) mv_X2_65 rfl rfl rfl rfl rfl ⟨Nat.zero_le _, Nat.zero_le _⟩ rfl rfl (Nat.le_of_ble_eq_true rfl) dX2_codeAt_17 (fun r17 => ?_)
  refine r_if_eq (pc := 20) (tgt := 40) C dX2_codeAt_20 (by decide) ?_ ?_
  · refine r_bipush (pc := 40) C dX2_codeAt_40 (cb_m9) ?_
    exact r_iret (pc := 42) C rfl rfl dX2_codeAt_42
  · refine r_aload_n (pc := 23) C 0 dX2_codeAt_23 rfl rfl ?_
    refine gf_X2_9 (pc := 24) C 0 rfl rfl dX2_codeAt_24 ?_
    refine gf_X2_71 (pc := 27) C 1 rfl rfl dX2_codeAt_27 ?_
    refine r_aload_n (pc := 30) C 0 dX2_codeAt_30 rfl rfl ?_
    refine gf_X2_15 (pc := 31) C 0 rfl rfl dX2_codeAt_31 ?_
    refine r_iload_n (pc := 34) C 1 dX2_codeAt_34 rfl rfl ?_
    refine r_iadd (pc := 35) C dX2_codeAt_35 ?_
    refine r_iald (pc := 36) C 2 rfl dX2_codeAt_36 ?_
    refine r_goto (pc := 37) (tgt := 42) C dX2_codeAt_37 (by decide) ?_
    exact r_iret (pc := 42) C rfl rfl dX2_codeAt_42)
set_option maxHeartbeats 4000000 in
set_option maxRecDepth 100000 in
theorem m_X2_code (l : Launch) (D : va_G) (cI cS : ClassId) (r : Nat) (a : Nat) (b : Nat) (rb : Int32) (rl : Int32) (ra : Int32) (ln : Int32) (sz : Int32) (ce : Nat → Int32) : MX l D (tyz cI cS) yX2_code cX2_code 1 (some .int) (rmz 2 42) [.ref r] (wdR r (.ref a) rb rl ra ++ wdS cI a b ln sz ce) (f_X2_code rb rl ra sz ce) (fun o : Int32 => some (.int o)) (fun o : Int32 => wdR r (.ref a) rb rl ra ++ wdS cI a b ln sz ce) := met_of (own := RX2) (by decide) rfl (Nat.le_of_ble_eq_true rfl) (fun X hxl hxD C => by
  subst hxl
  subst hxD
  show JR X _ _ 0 0 (f_X2_code rb rl ra sz ce) (wdR r (.ref a) rb rl ra ++ wdS cI a b ln sz ce) [(0, .ref r)] 0 []
  unfold f_X2_code
  refine r_aload_n (pc := 0) C 0 dX2_code_0 rfl rfl ?_
  refine gf_X2_22 (pc := 1) C 0 rfl rfl dX2_code_1 ?_
  refine r_aload_n (pc := 4) C 0 dX2_code_4 rfl rfl ?_
  refine gf_X2_19 (pc := 5) C 0 rfl rfl dX2_code_5 ?_
  refine r_icmp_ge (pc := 8) (tgt := 22) C dX2_code_8 (by decide) ?_ ?_
  · refine r_bipush (pc := 22) C dX2_code_22 (cb_m9) ?_
    exact r_iret (pc := 24) C rfl rfl dX2_code_24
  · refine r_aload_n (pc := 11) C 0 dX2_code_11 rfl rfl ?_
    refine r_aload_n (pc := 12) C 0 dX2_code_12 rfl rfl ?_
    refine gf_X2_22 (pc := 13) C 0 rfl rfl dX2_code_13 ?_
    refine r_callV0 (pc := 16) (rest := []) C (m_X2_codeAt (xl X) (xD X) cI cS r a b rb rl ra ln sz ce ra) mv_X2_62 rfl rfl rfl ⟨Nat.zero_le _, Nat.zero_le _⟩ rfl rfl (Nat.le_of_ble_eq_true rfl) dX2_code_16 (fun r16 => ?_)
    refine r_goto (pc := 19) (tgt := 24) C dX2_code_19 (by decide) ?_
    exact r_iret (pc := 24) C rfl rfl dX2_code_24)
set_option maxHeartbeats 4000000 in
set_option maxRecDepth 100000 in
theorem m_X2_takes (l : Launch) (D : va_G) (cI cS : ClassId) (r : Nat) (a : Nat) (b : Nat) (rb : Int32) (rl : Int32) (ra : Int32) (ln : Int32) (sz : Int32) (ce : Nat → Int32) (a1 : Int32) (a2 : Int32) : MX l D (tyz cI cS) yX2_takes cX2_takes 4 (some .boolean) (rmz 3 62) [.ref r, .int a1, .int a2] (wdR r (.ref a) rb rl ra ++ wdS cI a b ln sz ce) (f_X2_takes rb rl ra sz ce a1 a2) (fun o : Int32 × (Int32) => some (.int o.1)) (fun o : Int32 × (Int32) => wdR r (.ref a) rb rl o.2 ++ wdS cI a b ln sz ce) := met_of (own := RX2) (by decide) rfl (Nat.le_of_ble_eq_true rfl) (fun X hxl hxD C => by
  subst hxl
  subst hxD
  show JR X _ _ 0 0 (f_X2_takes rb rl ra sz ce a1 a2) (wdR r (.ref a) rb rl ra ++ wdS cI a b ln sz ce) [(0, .ref r), (1, .int a1), (2, .int a2)] 0 []
  unfold f_X2_takes
  refine r_aload_n (pc := 0) C 0 dX2_takes_0 rfl rfl ?_
  refine r_callV0 (pc := 1) (rest := []) C (m_X2_code (xl X) (xD X) cI cS r a b rb rl ra ln sz ce) mv_X2_47 rfl rfl rfl ⟨Nat.zero_le _, Nat.zero_le _⟩ rfl rfl (Nat.le_of_ble_eq_true rfl) dX2_takes_1 (fun r1 => ?_)
  refine r_istore_n (pc := 4) C dX2_takes_4 rfl (by decide) (lv' := [(3, .int r1), (0, .ref r), (1, .int a1), (2, .int a2)]) rfl ?_
  refine r_iload_n (pc := 5) C 0 dX2_takes_5 rfl rfl ?_
  refine r_iload_n (pc := 6) C 2 dX2_takes_6 rfl rfl ?_
  refine r_icmp_lt (pc := 7) (tgt := 15) C dX2_takes_7 (by decide) ?_ ?_
  · refine r_iconst (pc := 15) C dX2_takes_15 (ci_0) ?_
    exact r_zret (pc := 16) C rfl rfl rfl dX2_takes_16
  · refine r_iload_n (pc := 10) C 0 dX2_takes_10 rfl rfl ?_
    refine r_iload_n (pc := 11) C 3 dX2_takes_11 rfl rfl ?_
    refine r_icmp_le (pc := 12) (tgt := 17) C dX2_takes_12 (by decide) ?_ ?_
    · refine r_aload_n (pc := 17) C 1 dX2_takes_17 rfl rfl ?_
      refine r_dup (pc := 18) C dX2_takes_18 rfl ?_
      refine gf_X2_22 (pc := 19) C 0 rfl rfl dX2_takes_19 ?_
      refine r_iconst (pc := 22) C dX2_takes_22 (ci_1) ?_
      refine r_iadd (pc := 23) C dX2_takes_23 ?_
      refine pf_X2_22 (pc := 24) (ws' := wdR r (.ref a) rb rl (ra + (1 : Int32)) ++ wdS cI a b ln sz ce) C 0 rfl rfl dX2_takes_24 rfl ?_
      refine r_iconst (pc := 27) C dX2_takes_27 (ci_1) ?_
      exact r_zret (pc := 28) C rfl rfl rfl dX2_takes_28
    · refine r_iconst (pc := 15) C dX2_takes_15 (ci_0) ?_
      exact r_zret (pc := 16) C rfl rfl rfl dX2_takes_16)
set_option maxHeartbeats 4000000 in
set_option maxRecDepth 100000 in
theorem m_X2_digitBefore (l : Launch) (D : va_G) (cI cS : ClassId) (r : Nat) (a : Nat) (b : Nat) (rb : Int32) (rl : Int32) (ra : Int32) (ln : Int32) (sz : Int32) (ce : Nat → Int32) (a1 : Int32) : MX l D (tyz cI cS) yX2_digitBefore cX2_digitBefore 2 (some .int) (rmz 2 42) [.ref r, .int a1] (wdR r (.ref a) rb rl ra ++ wdS cI a b ln sz ce) (f_X2_digitBefore rb ra sz ce a1) (fun o : Int32 => some (.int o)) (fun o : Int32 => wdR r (.ref a) rb rl ra ++ wdS cI a b ln sz ce) := met_of (own := RX2) (by decide) rfl (Nat.le_of_ble_eq_true rfl) (fun X hxl hxD C => by
  subst hxl
  subst hxD
  show JR X _ _ 0 0 (f_X2_digitBefore rb ra sz ce a1) (wdR r (.ref a) rb rl ra ++ wdS cI a b ln sz ce) [(0, .ref r), (1, .int a1)] 0 []
  unfold f_X2_digitBefore
  refine r_aload_n (pc := 0) C 0 dX2_digitBefore_0 rfl rfl ?_
  refine r_aload_n (pc := 1) C 0 dX2_digitBefore_1 rfl rfl ?_
  refine gf_X2_22 (pc := 2) C 0 rfl rfl dX2_digitBefore_2 ?_
  refine r_iload_n (pc := 5) C 1 dX2_digitBefore_5 rfl rfl ?_
  refine r_isub (pc := 6) C dX2_digitBefore_6 ?_
  refine r_callV0 (pc := 7) (rest := []) C (m_X2_codeAt (xl X) (xD X) cI cS r a b rb rl ra ln sz ce (ra - a1)) mv_X2_62 rfl rfl rfl ⟨Nat.zero_le _, Nat.zero_le _⟩ rfl rfl (Nat.le_of_ble_eq_true rfl) dX2_digitBefore_7 (fun r7 => ?_)
  refine r_bipush (pc := 10) C dX2_digitBefore_10 (cb_48) ?_
  refine r_isub (pc := 12) C dX2_digitBefore_12 ?_
  exact r_iret (pc := 13) C rfl rfl dX2_digitBefore_13)
set_option maxHeartbeats 4000000 in
set_option maxRecDepth 100000 in
theorem wl_X2_readPosts_2 {cI cS : ClassId} (X : CX) (C : Cx X RX2 cX2_readPosts 3 (some .boolean) (rmz 4 85) (tyz cI cS)) (r : Nat) (a : Nat) (b : Nat) (q : Nat → Nat) (rb : Int32) (rl : Int32) (ln : Int32) (sz : Int32) (ce : Nat → Int32)  (kk : Int32 → Int32 → (Nat → Int32) → (Nat → Nat → Int32) → Option (Int32 × (Int32) × (Nat → Int32) × (Nat → Nat → Int32))) (hk_2 : ∀ (el2_2 : Int32) (era_2 : Int32) (eBI_2 : Nat → Int32) (eBA_2 : Nat → Nat → Int32), JR X (QF X (tyz cI cS) 0 0 (fun o : Int32 × (Int32) × (Nat → Int32) × (Nat → Nat → Int32) => some (.int o.1)) (fun o : Int32 × (Int32) × (Nat → Int32) × (Nat → Nat → Int32) => wdR r (.ref a) rb rl o.2.1 ++ (wdS cI a b ln sz ce ++ wdB cI q o.2.2.1 o.2.2.2))) 3 0 0 (kk el2_2 era_2 eBI_2 eBA_2) (wdR r (.ref a) rb rl era_2 ++ (wdS cI a b ln sz ce ++ wdB cI q eBI_2 eBA_2)) [] 77 []) : ∀ (fuel : Nat) (l2_2 : Int32) (ra_2 : Int32) (BI_2 : Nat → Int32) (BA_2 : Nat → Nat → Int32), JR X (QF X (tyz cI cS) 0 0 (fun o : Int32 × (Int32) × (Nat → Int32) × (Nat → Nat → Int32) => some (.int o.1)) (fun o : Int32 × (Int32) × (Nat → Int32) × (Nat → Nat → Int32) => wdR r (.ref a) rb rl o.2.1 ++ (wdS cI a b ln sz ce ++ wdB cI q o.2.2.1 o.2.2.2))) 3 0 0 (lp_X2_readPosts_2 kk rb rl sz ce fuel l2_2 ra_2 BI_2 BA_2) (wdR r (.ref a) rb rl ra_2 ++ (wdS cI a b ln sz ce ++ wdB cI q BI_2 BA_2)) [(0, .ref r), (1, .ref (q 0)), (2, .int l2_2)] 2 [] := by
  intro fuel
  induction fuel with
  | zero => intro l2_2 ra_2 BI_2 BA_2; exact r_none
  | succ fu_2 ih_2 =>
    intro l2_2 ra_2 BI_2 BA_2
    unfold lp_X2_readPosts_2
    refine r_iload_n (pc := 2) C 2 dX2_readPosts_2 rfl rfl ?_
    refine r_iconst (pc := 3) C dX2_readPosts_3 (ci_4) ?_
    refine r_icmp_ge (pc := 4) (tgt := 77) C dX2_readPosts_4 (by decide) ?_ ?_
    · exact r_sub [] rfl (hk_2 l2_2 ra_2 BI_2 BA_2)
    · refine r_iload_n (pc := 7) C 2 dX2_readPosts_7 rfl rfl ?_
      refine r_if_le (pc := 8) (tgt := 22) C dX2_readPosts_8 (by decide) ?_ ?_
      · refine r_aload_n (pc := 22) C 0 dX2_readPosts_22 rfl rfl ?_
        refine r_bipush (pc := 23) C dX2_readPosts_23 (cb_59) ?_
        refine r_bipush (pc := 25) C dX2_readPosts_25 (cb_59) ?_
        refine r_callV (pc := 27) (rest := []) C [0, 1, 2] (fun r27 => wdR r (.ref a) rb rl r27.2 ++ (wdS cI a b ln sz ce ++ wdB cI q BI_2 BA_2)) (m_X2_takes (xl X) (xD X) cI cS r a b rb rl ra_2 ln sz ce (59 : Int32) (59 : Int32)) mv_X2_29 rfl rfl (fun _ => rfl) (fun _ => rfl) rfl rfl rfl ⟨Nat.zero_le _, Nat.zero_le _⟩ rfl rfl (Nat.le_of_ble_eq_true rfl) dX2_readPosts_27 (fun r27 => ?_)
        refine r_if_eq (pc := 30) (tgt := 55) C dX2_readPosts_30 (by decide) ?_ ?_
        · refine r_iconst (pc := 55) C dX2_readPosts_55 (ci_0) ?_
          exact r_zret (pc := 56) C rfl rfl rfl dX2_readPosts_56
        · refine r_aload_n (pc := 33) C 0 dX2_readPosts_33 rfl rfl ?_
          refine r_bipush (pc := 34) C dX2_readPosts_34 (cb_49) ?_
          refine r_bipush (pc := 36) C dX2_readPosts_36 (cb_57) ?_
          refine r_callV (pc := 38) (rest := []) C [0, 1, 2] (fun r38 => wdR r (.ref a) rb rl r38.2 ++ (wdS cI a b ln sz ce ++ wdB cI q BI_2 BA_2)) (m_X2_takes (xl X) (xD X) cI cS r a b rb rl r27.2 ln sz ce (49 : Int32) (57 : Int32)) mv_X2_29 rfl rfl (fun _ => rfl) (fun _ => rfl) rfl rfl rfl ⟨Nat.zero_le _, Nat.zero_le _⟩ rfl rfl (Nat.le_of_ble_eq_true rfl) dX2_readPosts_38 (fun r38 => ?_)
          refine r_if_eq (pc := 41) (tgt := 55) C dX2_readPosts_41 (by decide) ?_ ?_
          · refine r_iconst (pc := 55) C dX2_readPosts_55 (ci_0) ?_
            exact r_zret (pc := 56) C rfl rfl rfl dX2_readPosts_56
          · refine r_aload_n (pc := 44) C 0 dX2_readPosts_44 rfl rfl ?_
            refine r_bipush (pc := 45) C dX2_readPosts_45 (cb_48) ?_
            refine r_bipush (pc := 47) C dX2_readPosts_47 (cb_57) ?_
            refine r_callV (pc := 49) (rest := []) C [0, 1, 2] (fun r49 => wdR r (.ref a) rb rl r49.2 ++ (wdS cI a b ln sz ce ++ wdB cI q BI_2 BA_2)) (m_X2_takes (xl X) (xD X) cI cS r a b rb rl r38.2 ln sz ce (48 : Int32) (57 : Int32)) mv_X2_29 rfl rfl (fun _ => rfl) (fun _ => rfl) rfl rfl rfl ⟨Nat.zero_le _, Nat.zero_le _⟩ rfl rfl (Nat.le_of_ble_eq_true rfl) dX2_readPosts_49 (fun r49 => ?_)
            refine r_if_ne (pc := 52) (tgt := 57) C dX2_readPosts_52 (by decide) ?_ ?_
            · refine r_aload_n (pc := 57) C 1 dX2_readPosts_57 rfl rfl ?_
              refine r_aload_n (pc := 58) C 0 dX2_readPosts_58 rfl rfl ?_
              refine r_iconst (pc := 59) C dX2_readPosts_59 (ci_2) ?_
              refine r_callVr (pc := 60) (rest := [.ref (q 0)]) C [0, 1, 2] (m_X2_digitBefore (xl X) (xD X) cI cS r a b rb rl r49.2 ln sz ce (2 : Int32)) mv_X2_33 rfl rfl rfl rfl rfl ⟨Nat.zero_le _, Nat.zero_le _⟩ rfl rfl (Nat.le_of_ble_eq_true rfl) dX2_readPosts_60 (fun r60 => ?_)
              refine r_aload_n (pc := 63) C 0 dX2_readPosts_63 rfl rfl ?_
              refine r_iconst (pc := 64) C dX2_readPosts_64 (ci_1) ?_
              refine r_callVr (pc := 65) (rest := [.int r60, .ref (q 0)]) C [0, 1, 2] (m_X2_digitBefore (xl X) (xD X) cI cS r a b rb rl r49.2 ln sz ce (1 : Int32)) mv_X2_33 rfl rfl rfl rfl rfl ⟨Nat.zero_le _, Nat.zero_le _⟩ rfl rfl (Nat.le_of_ble_eq_true rfl) dX2_readPosts_65 (fun r65 => ?_)
              refine r_callV (pc := 68) (rest := []) C [3, 4, 5, 6, 7, 8, 9, 10, 11, 12] (fun r68 => wdR r (.ref a) rb rl r49.2 ++ (wdS cI a b ln sz ce ++ wdB cI q r68.1 r68.2)) (m_X0_addPost (xl X) (xD X) cI cS q BI_2 BA_2 r60 r65) mv_X2_51 rfl rfl (fun _ => rfl) (fun _ => rfl) rfl rfl rfl ⟨Nat.zero_le _, Nat.zero_le _⟩ rfl rfl (Nat.le_of_ble_eq_true rfl) dX2_readPosts_68 (fun r68 => ?_)
              refine r_iinc (pc := 71) C 2 dX2_readPosts_71 rfl (ci_1) (by decide) (lv' := [(2, .int (l2_2 + (1 : Int32))), (0, .ref r), (1, .ref (q 0))]) rfl ?_
              refine r_goto (pc := 74) (tgt := 2) C dX2_readPosts_74 (by decide) ?_
              exact r_sub [1, 2, 0] rfl (ih_2 (l2_2 + (1 : Int32)) r49.2 r68.1 r68.2)
            · refine r_iconst (pc := 55) C dX2_readPosts_55 (ci_0) ?_
              exact r_zret (pc := 56) C rfl rfl rfl dX2_readPosts_56
      · refine r_aload_n (pc := 11) C 0 dX2_readPosts_11 rfl rfl ?_
        refine r_callVr (pc := 12) (rest := []) C [0, 1, 2] (m_X2_code (xl X) (xD X) cI cS r a b rb rl ra_2 ln sz ce) mv_X2_47 rfl rfl rfl rfl rfl ⟨Nat.zero_le _, Nat.zero_le _⟩ rfl rfl (Nat.le_of_ble_eq_true rfl) dX2_readPosts_12 (fun r12 => ?_)
        refine r_bipush (pc := 15) C dX2_readPosts_15 (cb_59) ?_
        refine r_icmp_eq (pc := 17) (tgt := 22) C dX2_readPosts_17 (by decide) ?_ ?_
        · refine r_aload_n (pc := 22) C 0 dX2_readPosts_22 rfl rfl ?_
          refine r_bipush (pc := 23) C dX2_readPosts_23 (cb_59) ?_
          refine r_bipush (pc := 25) C dX2_readPosts_25 (cb_59) ?_
          refine r_callV (pc := 27) (rest := []) C [0, 1, 2] (fun r27 => wdR r (.ref a) rb rl r27.2 ++ (wdS cI a b ln sz ce ++ wdB cI q BI_2 BA_2)) (m_X2_takes (xl X) (xD X) cI cS r a b rb rl ra_2 ln sz ce (59 : Int32) (59 : Int32)) mv_X2_29 rfl rfl (fun _ => rfl) (fun _ => rfl) rfl rfl rfl ⟨Nat.zero_le _, Nat.zero_le _⟩ rfl rfl (Nat.le_of_ble_eq_true rfl) dX2_readPosts_27 (fun r27 => ?_)
          refine r_if_eq (pc := 30) (tgt := 55) C dX2_readPosts_30 (by decide) ?_ ?_
          · refine r_iconst (pc := 55) C dX2_readPosts_55 (ci_0) ?_
            exact r_zret (pc := 56) C rfl rfl rfl dX2_readPosts_56
          · refine r_aload_n (pc := 33) C 0 dX2_readPosts_33 rfl rfl ?_
            refine r_bipush (pc := 34) C dX2_readPosts_34 (cb_49) ?_
            refine r_bipush (pc := 36) C dX2_readPosts_36 (cb_57) ?_
            refine r_callV (pc := 38) (rest := []) C [0, 1, 2] (fun r38 => wdR r (.ref a) rb rl r38.2 ++ (wdS cI a b ln sz ce ++ wdB cI q BI_2 BA_2)) (m_X2_takes (xl X) (xD X) cI cS r a b rb rl r27.2 ln sz ce (49 : Int32) (57 : Int32)) mv_X2_29 rfl rfl (fun _ => rfl) (fun _ => rfl) rfl rfl rfl ⟨Nat.zero_le _, Nat.zero_le _⟩ rfl rfl (Nat.le_of_ble_eq_true rfl) dX2_readPosts_38 (fun r38 => ?_)
            refine r_if_eq (pc := 41) (tgt := 55) C dX2_readPosts_41 (by decide) ?_ ?_
            · refine r_iconst (pc := 55) C dX2_readPosts_55 (ci_0) ?_
              exact r_zret (pc := 56) C rfl rfl rfl dX2_readPosts_56
            · refine r_aload_n (pc := 44) C 0 dX2_readPosts_44 rfl rfl ?_
              refine r_bipush (pc := 45) C dX2_readPosts_45 (cb_48) ?_
              refine r_bipush (pc := 47) C dX2_readPosts_47 (cb_57) ?_
              refine r_callV (pc := 49) (rest := []) C [0, 1, 2] (fun r49 => wdR r (.ref a) rb rl r49.2 ++ (wdS cI a b ln sz ce ++ wdB cI q BI_2 BA_2)) (m_X2_takes (xl X) (xD X) cI cS r a b rb rl r38.2 ln sz ce (48 : Int32) (57 : Int32)) mv_X2_29 rfl rfl (fun _ => rfl) (fun _ => rfl) rfl rfl rfl ⟨Nat.zero_le _, Nat.zero_le _⟩ rfl rfl (Nat.le_of_ble_eq_true rfl) dX2_readPosts_49 (fun r49 => ?_)
              refine r_if_ne (pc := 52) (tgt := 57) C dX2_readPosts_52 (by decide) ?_ ?_
              · refine r_aload_n (pc := 57) C 1 dX2_readPosts_57 rfl rfl ?_
                refine r_aload_n (pc := 58) C 0 dX2_readPosts_58 rfl rfl ?_
                refine r_iconst (pc := 59) C dX2_readPosts_59 (ci_2) ?_
                refine r_callVr (pc := 60) (rest := [.ref (q 0)]) C [0, 1, 2] (m_X2_digitBefore (xl X) (xD X) cI cS r a b rb rl r49.2 ln sz ce (2 : Int32)) mv_X2_33 rfl rfl rfl rfl rfl ⟨Nat.zero_le _, Nat.zero_le _⟩ rfl rfl (Nat.le_of_ble_eq_true rfl) dX2_readPosts_60 (fun r60 => ?_)
                refine r_aload_n (pc := 63) C 0 dX2_readPosts_63 rfl rfl ?_
                refine r_iconst (pc := 64) C dX2_readPosts_64 (ci_1) ?_
                refine r_callVr (pc := 65) (rest := [.int r60, .ref (q 0)]) C [0, 1, 2] (m_X2_digitBefore (xl X) (xD X) cI cS r a b rb rl r49.2 ln sz ce (1 : Int32)) mv_X2_33 rfl rfl rfl rfl rfl ⟨Nat.zero_le _, Nat.zero_le _⟩ rfl rfl (Nat.le_of_ble_eq_true rfl) dX2_readPosts_65 (fun r65 => ?_)
                refine r_callV (pc := 68) (rest := []) C [3, 4, 5, 6, 7, 8, 9, 10, 11, 12] (fun r68 => wdR r (.ref a) rb rl r49.2 ++ (wdS cI a b ln sz ce ++ wdB cI q r68.1 r68.2)) (m_X0_addPost (xl X) (xD X) cI cS q BI_2 BA_2 r60 r65) mv_X2_51 rfl rfl (fun _ => rfl) (fun _ => rfl) rfl rfl rfl ⟨Nat.zero_le _, Nat.zero_le _⟩ rfl rfl (Nat.le_of_ble_eq_true rfl) dX2_readPosts_68 (fun r68 => ?_)
                refine r_iinc (pc := 71) C 2 dX2_readPosts_71 rfl (ci_1) (by decide) (lv' := [(2, .int (l2_2 + (1 : Int32))), (0, .ref r), (1, .ref (q 0))]) rfl ?_
                refine r_goto (pc := 74) (tgt := 2) C dX2_readPosts_74 (by decide) ?_
                exact r_sub [1, 2, 0] rfl (ih_2 (l2_2 + (1 : Int32)) r49.2 r68.1 r68.2)
              · refine r_iconst (pc := 55) C dX2_readPosts_55 (ci_0) ?_
                exact r_zret (pc := 56) C rfl rfl rfl dX2_readPosts_56
        · refine r_iconst (pc := 20) C dX2_readPosts_20 (ci_1) ?_
          exact r_zret (pc := 21) C rfl rfl rfl dX2_readPosts_21
set_option maxHeartbeats 4000000 in
set_option maxRecDepth 100000 in
theorem m_X2_readPosts (l : Launch) (D : va_G) (cI cS : ClassId) (r : Nat) (a : Nat) (b : Nat) (q : Nat → Nat) (rb : Int32) (rl : Int32) (ra : Int32) (ln : Int32) (sz : Int32) (ce : Nat → Int32) (BI : Nat → Int32) (BA : Nat → Nat → Int32) : MX l D (tyz cI cS) yX2_readPosts cX2_readPosts 3 (some .boolean) (rmz 4 85) [.ref r, .ref (q 0)] (wdR r (.ref a) rb rl ra ++ (wdS cI a b ln sz ce ++ wdB cI q BI BA)) (f_X2_readPosts rb rl ra sz ce BI BA) (fun o : Int32 × (Int32) × (Nat → Int32) × (Nat → Nat → Int32) => some (.int o.1)) (fun o : Int32 × (Int32) × (Nat → Int32) × (Nat → Nat → Int32) => wdR r (.ref a) rb rl o.2.1 ++ (wdS cI a b ln sz ce ++ wdB cI q o.2.2.1 o.2.2.2)) := met_of (own := RX2) (by decide) rfl (Nat.le_of_ble_eq_true rfl) (fun X hxl hxD C => by
  subst hxl
  subst hxD
  show JR X _ _ 0 0 (f_X2_readPosts rb rl ra sz ce BI BA) (wdR r (.ref a) rb rl ra ++ (wdS cI a b ln sz ce ++ wdB cI q BI BA)) [(0, .ref r), (1, .ref (q 0))] 0 []
  unfold f_X2_readPosts
  refine r_iconst (pc := 0) C dX2_readPosts_0 (ci_0) ?_
  refine r_istore_n (pc := 1) C dX2_readPosts_1 rfl (by decide) (lv' := [(2, .int (0 : Int32)), (0, .ref r), (1, .ref (q 0))]) rfl ?_
  refine r_sub [1, 2, 0] rfl (wl_X2_readPosts_2 X C r a b q rb rl ln sz ce  _ (fun el2_2 era_2 eBI_2 eBA_2 => ?_) 1000 (0 : Int32) ra BI BA)
  refine r_iconst (pc := 77) C dX2_readPosts_77 (ci_1) ?_
  exact r_zret (pc := 78) C rfl rfl rfl dX2_readPosts_78)
set_option maxHeartbeats 4000000 in
set_option maxRecDepth 100000 in
theorem m_X2_kindOf (l : Launch) (D : va_G) (cI cS : ClassId) (a0 : Int32) : MX l D (tyz cI cS) yX2_kindOf cX2_kindOf 1 (some .int) (rmz 0 0) [.int a0] ([]) (f_X2_kindOf a0) (fun o : Int32 => some (.int o)) (fun o : Int32 => []) := met_of (own := RX2) (by decide) rfl (Nat.le_of_ble_eq_true rfl) (fun X hxl hxD C => by
  subst hxl
  subst hxD
  show JR X _ _ 0 0 (f_X2_kindOf a0) ([]) [(0, .int a0)] 0 []
  unfold f_X2_kindOf
  refine r_iload_n (pc := 0) C 0 dX2_kindOf_0 rfl rfl ?_
  refine r_lk3 (pc := 1) (t1 := 40) (t2 := 38) (t3 := 36) (t4 := 42) (z1 := 104) (z2 := 107) (z3 := 115) C dX2_kindOf_1 rfl rfl rfl (by decide) (by decide) (by decide) (by decide) (by decide) ?_ ?_ ?_ ?_
  · refine r_iconst (pc := 40) C dX2_kindOf_40 (ci_2) ?_
    exact r_iret (pc := 41) C rfl rfl dX2_kindOf_41
  · refine r_iconst (pc := 38) C dX2_kindOf_38 (ci_1) ?_
    exact r_iret (pc := 39) C rfl rfl dX2_kindOf_39
  · refine r_iconst (pc := 36) C dX2_kindOf_36 (ci_0) ?_
    exact r_iret (pc := 37) C rfl rfl dX2_kindOf_37
  · refine r_bipush (pc := 42) C dX2_kindOf_42 (cb_m9) ?_
    exact r_iret (pc := 44) C rfl rfl dX2_kindOf_44)
set_option maxHeartbeats 4000000 in
set_option maxRecDepth 100000 in
theorem wl_X2_readSilences_2 {cI cS : ClassId} (X : CX) (C : Cx X RX2 cX2_readSilences 4 (some .boolean) (rmz 4 85) (tyz cI cS)) (r : Nat) (a : Nat) (b : Nat) (q : Nat → Nat) (rb : Int32) (rl : Int32) (ln : Int32) (sz : Int32) (ce : Nat → Int32)  (kk : Int32 → Int32 → (Nat → Int32) → (Nat → Nat → Int32) → Option (Int32 × (Int32) × (Nat → Int32) × (Nat → Nat → Int32))) (hk_2 : ∀ (el2_2 : Int32) (era_2 : Int32) (eBI_2 : Nat → Int32) (eBA_2 : Nat → Nat → Int32), JR X (QF X (tyz cI cS) 0 0 (fun o : Int32 × (Int32) × (Nat → Int32) × (Nat → Nat → Int32) => some (.int o.1)) (fun o : Int32 × (Int32) × (Nat → Int32) × (Nat → Nat → Int32) => wdR r (.ref a) rb rl o.2.1 ++ (wdS cI a b ln sz ce ++ wdB cI q o.2.2.1 o.2.2.2))) 4 0 0 (kk el2_2 era_2 eBI_2 eBA_2) (wdR r (.ref a) rb rl era_2 ++ (wdS cI a b ln sz ce ++ wdB cI q eBI_2 eBA_2)) [] 108 []) : ∀ (fuel : Nat) (l2_2 : Int32) (ra_2 : Int32) (BI_2 : Nat → Int32) (BA_2 : Nat → Nat → Int32), JR X (QF X (tyz cI cS) 0 0 (fun o : Int32 × (Int32) × (Nat → Int32) × (Nat → Nat → Int32) => some (.int o.1)) (fun o : Int32 × (Int32) × (Nat → Int32) × (Nat → Nat → Int32) => wdR r (.ref a) rb rl o.2.1 ++ (wdS cI a b ln sz ce ++ wdB cI q o.2.2.1 o.2.2.2))) 4 0 0 (lp_X2_readSilences_2 kk rb rl sz ce fuel l2_2 ra_2 BI_2 BA_2) (wdR r (.ref a) rb rl ra_2 ++ (wdS cI a b ln sz ce ++ wdB cI q BI_2 BA_2)) [(0, .ref r), (1, .ref (q 0)), (2, .int l2_2)] 2 [] := by
  intro fuel
  induction fuel with
  | zero => intro l2_2 ra_2 BI_2 BA_2; exact r_none
  | succ fu_2 ih_2 =>
    intro l2_2 ra_2 BI_2 BA_2
    unfold lp_X2_readSilences_2
    refine r_iload_n (pc := 2) C 2 dX2_readSilences_2 rfl rfl ?_
    refine r_iconst (pc := 3) C dX2_readSilences_3 (ci_4) ?_
    refine r_icmp_ge (pc := 4) (tgt := 108) C dX2_readSilences_4 (by decide) ?_ ?_
    · exact r_sub [] rfl (hk_2 l2_2 ra_2 BI_2 BA_2)
    · refine r_iload_n (pc := 7) C 2 dX2_readSilences_7 rfl rfl ?_
      refine r_if_le (pc := 8) (tgt := 24) C dX2_readSilences_8 (by decide) ?_ ?_
      · refine r_aload_n (pc := 24) C 0 dX2_readSilences_24 rfl rfl ?_
        refine r_bipush (pc := 25) C dX2_readSilences_25 (cb_44) ?_
        refine r_bipush (pc := 27) C dX2_readSilences_27 (cb_44) ?_
        refine r_callV (pc := 29) (rest := []) C [0, 1, 2] (fun r29 => wdR r (.ref a) rb rl r29.2 ++ (wdS cI a b ln sz ce ++ wdB cI q BI_2 BA_2)) (m_X2_takes (xl X) (xD X) cI cS r a b rb rl ra_2 ln sz ce (44 : Int32) (44 : Int32)) mv_X2_29 rfl rfl (fun _ => rfl) (fun _ => rfl) rfl rfl rfl ⟨Nat.zero_le _, Nat.zero_le _⟩ rfl rfl (Nat.le_of_ble_eq_true rfl) dX2_readSilences_29 (fun r29 => ?_)
        refine r_if_ne (pc := 32) (tgt := 37) C dX2_readSilences_32 (by decide) ?_ ?_
        · refine r_aload_n (pc := 37) C 0 dX2_readSilences_37 rfl rfl ?_
          refine r_callVr (pc := 38) (rest := []) C [0, 1, 2] (m_X2_code (xl X) (xD X) cI cS r a b rb rl r29.2 ln sz ce) mv_X2_47 rfl rfl rfl rfl rfl ⟨Nat.zero_le _, Nat.zero_le _⟩ rfl rfl (Nat.le_of_ble_eq_true rfl) dX2_readSilences_38 (fun r38 => ?_)
          refine r_callSr (pc := 41) (rest := []) C (m_X2_kindOf (xl X) (xD X) cI cS r38) ms_X2_55 rfl ⟨Nat.zero_le _, Nat.zero_le _⟩ rfl rfl (Nat.le_of_ble_eq_true rfl) dX2_readSilences_41 (fun r41 => ?_)
          refine r_istore_n (pc := 44) C dX2_readSilences_44 rfl (by decide) (lv' := [(3, .int r41), (0, .ref r), (1, .ref (q 0)), (2, .int l2_2)]) rfl ?_
          refine r_iload_n (pc := 45) C 0 dX2_readSilences_45 rfl rfl ?_
          refine r_bipush (pc := 46) C dX2_readSilences_46 (cb_m9) ?_
          refine r_icmp_ne (pc := 48) (tgt := 53) C dX2_readSilences_48 (by decide) ?_ ?_
          · refine r_aload_n (pc := 53) C 1 dX2_readSilences_53 rfl rfl ?_
            refine r_dup (pc := 54) C dX2_readSilences_54 rfl ?_
            refine gf_X2_22 (pc := 55) C 0 rfl rfl dX2_readSilences_55 ?_
            refine r_iconst (pc := 58) C dX2_readSilences_58 (ci_1) ?_
            refine r_iadd (pc := 59) C dX2_readSilences_59 ?_
            refine pf_X2_22 (pc := 60) (ws' := wdR r (.ref a) rb rl (r29.2 + (1 : Int32)) ++ (wdS cI a b ln sz ce ++ wdB cI q BI_2 BA_2)) C 0 rfl rfl dX2_readSilences_60 rfl ?_
            refine r_aload_n (pc := 63) C 1 dX2_readSilences_63 rfl rfl ?_
            refine r_bipush (pc := 64) C dX2_readSilences_64 (cb_49) ?_
            refine r_bipush (pc := 66) C dX2_readSilences_66 (cb_57) ?_
            refine r_callV (pc := 68) (rest := []) C [0, 1, 2] (fun r68 => wdR r (.ref a) rb rl r68.2 ++ (wdS cI a b ln sz ce ++ wdB cI q BI_2 BA_2)) (m_X2_takes (xl X) (xD X) cI cS r a b rb rl (r29.2 + (1 : Int32)) ln sz ce (49 : Int32) (57 : Int32)) mv_X2_29 rfl rfl (fun _ => rfl) (fun _ => rfl) rfl rfl rfl ⟨Nat.zero_le _, Nat.zero_le _⟩ rfl rfl (Nat.le_of_ble_eq_true rfl) dX2_readSilences_68 (fun r68 => ?_)
            refine r_if_eq (pc := 71) (tgt := 85) C dX2_readSilences_71 (by decide) ?_ ?_
            · refine r_iconst (pc := 85) C dX2_readSilences_85 (ci_0) ?_
              exact r_zret (pc := 86) C rfl rfl rfl dX2_readSilences_86
            · refine r_aload_n (pc := 74) C 1 dX2_readSilences_74 rfl rfl ?_
              refine r_bipush (pc := 75) C dX2_readSilences_75 (cb_49) ?_
              refine r_bipush (pc := 77) C dX2_readSilences_77 (cb_57) ?_
              refine r_callV (pc := 79) (rest := []) C [0, 1, 2] (fun r79 => wdR r (.ref a) rb rl r79.2 ++ (wdS cI a b ln sz ce ++ wdB cI q BI_2 BA_2)) (m_X2_takes (xl X) (xD X) cI cS r a b rb rl r68.2 ln sz ce (49 : Int32) (57 : Int32)) mv_X2_29 rfl rfl (fun _ => rfl) (fun _ => rfl) rfl rfl rfl ⟨Nat.zero_le _, Nat.zero_le _⟩ rfl rfl (Nat.le_of_ble_eq_true rfl) dX2_readSilences_79 (fun r79 => ?_)
              refine r_if_ne (pc := 82) (tgt := 87) C dX2_readSilences_82 (by decide) ?_ ?_
              · refine r_aload_n (pc := 87) C 2 dX2_readSilences_87 rfl rfl ?_
                refine r_iload_n (pc := 88) C 0 dX2_readSilences_88 rfl rfl ?_
                refine r_aload_n (pc := 89) C 1 dX2_readSilences_89 rfl rfl ?_
                refine r_iconst (pc := 90) C dX2_readSilences_90 (ci_2) ?_
                refine r_callVr (pc := 91) (rest := [.int r41, .ref (q 0)]) C [0, 1, 2] (m_X2_digitBefore (xl X) (xD X) cI cS r a b rb rl r79.2 ln sz ce (2 : Int32)) mv_X2_33 rfl rfl rfl rfl rfl ⟨Nat.zero_le _, Nat.zero_le _⟩ rfl rfl (Nat.le_of_ble_eq_true rfl) dX2_readSilences_91 (fun r91 => ?_)
                refine r_aload_n (pc := 94) C 1 dX2_readSilences_94 rfl rfl ?_
                refine r_iconst (pc := 95) C dX2_readSilences_95 (ci_1) ?_
                refine r_callVr (pc := 96) (rest := [.int r91, .int r41, .ref (q 0)]) C [0, 1, 2] (m_X2_digitBefore (xl X) (xD X) cI cS r a b rb rl r79.2 ln sz ce (1 : Int32)) mv_X2_33 rfl rfl rfl rfl rfl ⟨Nat.zero_le _, Nat.zero_le _⟩ rfl rfl (Nat.le_of_ble_eq_true rfl) dX2_readSilences_96 (fun r96 => ?_)
                refine r_callV (pc := 99) (rest := []) C [3, 4, 5, 6, 7, 8, 9, 10, 11, 12] (fun r99 => wdR r (.ref a) rb rl r79.2 ++ (wdS cI a b ln sz ce ++ wdB cI q r99.1 r99.2)) (m_X0_addSilence (xl X) (xD X) cI cS q BI_2 BA_2 r41 r91 r96) mv_X2_58 rfl rfl (fun _ => rfl) (fun _ => rfl) rfl rfl rfl ⟨Nat.zero_le _, Nat.zero_le _⟩ rfl rfl (Nat.le_of_ble_eq_true rfl) dX2_readSilences_99 (fun r99 => ?_)
                refine r_iinc (pc := 102) C 3 dX2_readSilences_102 rfl (ci_1) (by decide) (lv' := [(2, .int (l2_2 + (1 : Int32))), (3, .int r41), (0, .ref r), (1, .ref (q 0))]) rfl ?_
                refine r_goto (pc := 105) (tgt := 2) C dX2_readSilences_105 (by decide) ?_
                exact r_sub [2, 3, 0] rfl (ih_2 (l2_2 + (1 : Int32)) r79.2 r99.1 r99.2)
              · refine r_iconst (pc := 85) C dX2_readSilences_85 (ci_0) ?_
                exact r_zret (pc := 86) C rfl rfl rfl dX2_readSilences_86
          · refine r_iconst (pc := 51) C dX2_readSilences_51 (ci_0) ?_
            exact r_zret (pc := 52) C rfl rfl rfl dX2_readSilences_52
        · refine r_iconst (pc := 35) C dX2_readSilences_35 (ci_0) ?_
          exact r_zret (pc := 36) C rfl rfl rfl dX2_readSilences_36
      · refine r_aload_n (pc := 11) C 0 dX2_readSilences_11 rfl rfl ?_
        refine gf_X2_22 (pc := 12) C 0 rfl rfl dX2_readSilences_12 ?_
        refine r_aload_n (pc := 15) C 0 dX2_readSilences_15 rfl rfl ?_
        refine gf_X2_19 (pc := 16) C 0 rfl rfl dX2_readSilences_16 ?_
        refine r_icmp_ne (pc := 19) (tgt := 24) C dX2_readSilences_19 (by decide) ?_ ?_
        · refine r_aload_n (pc := 24) C 0 dX2_readSilences_24 rfl rfl ?_
          refine r_bipush (pc := 25) C dX2_readSilences_25 (cb_44) ?_
          refine r_bipush (pc := 27) C dX2_readSilences_27 (cb_44) ?_
          refine r_callV (pc := 29) (rest := []) C [0, 1, 2] (fun r29 => wdR r (.ref a) rb rl r29.2 ++ (wdS cI a b ln sz ce ++ wdB cI q BI_2 BA_2)) (m_X2_takes (xl X) (xD X) cI cS r a b rb rl ra_2 ln sz ce (44 : Int32) (44 : Int32)) mv_X2_29 rfl rfl (fun _ => rfl) (fun _ => rfl) rfl rfl rfl ⟨Nat.zero_le _, Nat.zero_le _⟩ rfl rfl (Nat.le_of_ble_eq_true rfl) dX2_readSilences_29 (fun r29 => ?_)
          refine r_if_ne (pc := 32) (tgt := 37) C dX2_readSilences_32 (by decide) ?_ ?_
          · refine r_aload_n (pc := 37) C 0 dX2_readSilences_37 rfl rfl ?_
            refine r_callVr (pc := 38) (rest := []) C [0, 1, 2] (m_X2_code (xl X) (xD X) cI cS r a b rb rl r29.2 ln sz ce) mv_X2_47 rfl rfl rfl rfl rfl ⟨Nat.zero_le _, Nat.zero_le _⟩ rfl rfl (Nat.le_of_ble_eq_true rfl) dX2_readSilences_38 (fun r38 => ?_)
            refine r_callSr (pc := 41) (rest := []) C (m_X2_kindOf (xl X) (xD X) cI cS r38) ms_X2_55 rfl ⟨Nat.zero_le _, Nat.zero_le _⟩ rfl rfl (Nat.le_of_ble_eq_true rfl) dX2_readSilences_41 (fun r41 => ?_)
            refine r_istore_n (pc := 44) C dX2_readSilences_44 rfl (by decide) (lv' := [(3, .int r41), (0, .ref r), (1, .ref (q 0)), (2, .int l2_2)]) rfl ?_
            refine r_iload_n (pc := 45) C 0 dX2_readSilences_45 rfl rfl ?_
            refine r_bipush (pc := 46) C dX2_readSilences_46 (cb_m9) ?_
            refine r_icmp_ne (pc := 48) (tgt := 53) C dX2_readSilences_48 (by decide) ?_ ?_
            · refine r_aload_n (pc := 53) C 1 dX2_readSilences_53 rfl rfl ?_
              refine r_dup (pc := 54) C dX2_readSilences_54 rfl ?_
              refine gf_X2_22 (pc := 55) C 0 rfl rfl dX2_readSilences_55 ?_
              refine r_iconst (pc := 58) C dX2_readSilences_58 (ci_1) ?_
              refine r_iadd (pc := 59) C dX2_readSilences_59 ?_
              refine pf_X2_22 (pc := 60) (ws' := wdR r (.ref a) rb rl (r29.2 + (1 : Int32)) ++ (wdS cI a b ln sz ce ++ wdB cI q BI_2 BA_2)) C 0 rfl rfl dX2_readSilences_60 rfl ?_
              refine r_aload_n (pc := 63) C 1 dX2_readSilences_63 rfl rfl ?_
              refine r_bipush (pc := 64) C dX2_readSilences_64 (cb_49) ?_
              refine r_bipush (pc := 66) C dX2_readSilences_66 (cb_57) ?_
              refine r_callV (pc := 68) (rest := []) C [0, 1, 2] (fun r68 => wdR r (.ref a) rb rl r68.2 ++ (wdS cI a b ln sz ce ++ wdB cI q BI_2 BA_2)) (m_X2_takes (xl X) (xD X) cI cS r a b rb rl (r29.2 + (1 : Int32)) ln sz ce (49 : Int32) (57 : Int32)) mv_X2_29 rfl rfl (fun _ => rfl) (fun _ => rfl) rfl rfl rfl ⟨Nat.zero_le _, Nat.zero_le _⟩ rfl rfl (Nat.le_of_ble_eq_true rfl) dX2_readSilences_68 (fun r68 => ?_)
              refine r_if_eq (pc := 71) (tgt := 85) C dX2_readSilences_71 (by decide) ?_ ?_
              · refine r_iconst (pc := 85) C dX2_readSilences_85 (ci_0) ?_
                exact r_zret (pc := 86) C rfl rfl rfl dX2_readSilences_86
              · refine r_aload_n (pc := 74) C 1 dX2_readSilences_74 rfl rfl ?_
                refine r_bipush (pc := 75) C dX2_readSilences_75 (cb_49) ?_
                refine r_bipush (pc := 77) C dX2_readSilences_77 (cb_57) ?_
                refine r_callV (pc := 79) (rest := []) C [0, 1, 2] (fun r79 => wdR r (.ref a) rb rl r79.2 ++ (wdS cI a b ln sz ce ++ wdB cI q BI_2 BA_2)) (m_X2_takes (xl X) (xD X) cI cS r a b rb rl r68.2 ln sz ce (49 : Int32) (57 : Int32)) mv_X2_29 rfl rfl (fun _ => rfl) (fun _ => rfl) rfl rfl rfl ⟨Nat.zero_le _, Nat.zero_le _⟩ rfl rfl (Nat.le_of_ble_eq_true rfl) dX2_readSilences_79 (fun r79 => ?_)
                refine r_if_ne (pc := 82) (tgt := 87) C dX2_readSilences_82 (by decide) ?_ ?_
                · refine r_aload_n (pc := 87) C 2 dX2_readSilences_87 rfl rfl ?_
                  refine r_iload_n (pc := 88) C 0 dX2_readSilences_88 rfl rfl ?_
                  refine r_aload_n (pc := 89) C 1 dX2_readSilences_89 rfl rfl ?_
                  refine r_iconst (pc := 90) C dX2_readSilences_90 (ci_2) ?_
                  refine r_callVr (pc := 91) (rest := [.int r41, .ref (q 0)]) C [0, 1, 2] (m_X2_digitBefore (xl X) (xD X) cI cS r a b rb rl r79.2 ln sz ce (2 : Int32)) mv_X2_33 rfl rfl rfl rfl rfl ⟨Nat.zero_le _, Nat.zero_le _⟩ rfl rfl (Nat.le_of_ble_eq_true rfl) dX2_readSilences_91 (fun r91 => ?_)
                  refine r_aload_n (pc := 94) C 1 dX2_readSilences_94 rfl rfl ?_
                  refine r_iconst (pc := 95) C dX2_readSilences_95 (ci_1) ?_
                  refine r_callVr (pc := 96) (rest := [.int r91, .int r41, .ref (q 0)]) C [0, 1, 2] (m_X2_digitBefore (xl X) (xD X) cI cS r a b rb rl r79.2 ln sz ce (1 : Int32)) mv_X2_33 rfl rfl rfl rfl rfl ⟨Nat.zero_le _, Nat.zero_le _⟩ rfl rfl (Nat.le_of_ble_eq_true rfl) dX2_readSilences_96 (fun r96 => ?_)
                  refine r_callV (pc := 99) (rest := []) C [3, 4, 5, 6, 7, 8, 9, 10, 11, 12] (fun r99 => wdR r (.ref a) rb rl r79.2 ++ (wdS cI a b ln sz ce ++ wdB cI q r99.1 r99.2)) (m_X0_addSilence (xl X) (xD X) cI cS q BI_2 BA_2 r41 r91 r96) mv_X2_58 rfl rfl (fun _ => rfl) (fun _ => rfl) rfl rfl rfl ⟨Nat.zero_le _, Nat.zero_le _⟩ rfl rfl (Nat.le_of_ble_eq_true rfl) dX2_readSilences_99 (fun r99 => ?_)
                  refine r_iinc (pc := 102) C 3 dX2_readSilences_102 rfl (ci_1) (by decide) (lv' := [(2, .int (l2_2 + (1 : Int32))), (3, .int r41), (0, .ref r), (1, .ref (q 0))]) rfl ?_
                  refine r_goto (pc := 105) (tgt := 2) C dX2_readSilences_105 (by decide) ?_
                  exact r_sub [2, 3, 0] rfl (ih_2 (l2_2 + (1 : Int32)) r79.2 r99.1 r99.2)
                · refine r_iconst (pc := 85) C dX2_readSilences_85 (ci_0) ?_
                  exact r_zret (pc := 86) C rfl rfl rfl dX2_readSilences_86
            · refine r_iconst (pc := 51) C dX2_readSilences_51 (ci_0) ?_
              exact r_zret (pc := 52) C rfl rfl rfl dX2_readSilences_52
          · refine r_iconst (pc := 35) C dX2_readSilences_35 (ci_0) ?_
            exact r_zret (pc := 36) C rfl rfl rfl dX2_readSilences_36
        · refine r_iconst (pc := 22) C dX2_readSilences_22 (ci_1) ?_
          exact r_zret (pc := 23) C rfl rfl rfl dX2_readSilences_23
set_option maxHeartbeats 4000000 in
set_option maxRecDepth 100000 in
theorem m_X2_readSilences (l : Launch) (D : va_G) (cI cS : ClassId) (r : Nat) (a : Nat) (b : Nat) (q : Nat → Nat) (rb : Int32) (rl : Int32) (ra : Int32) (ln : Int32) (sz : Int32) (ce : Nat → Int32) (BI : Nat → Int32) (BA : Nat → Nat → Int32) : MX l D (tyz cI cS) yX2_readSilences cX2_readSilences 4 (some .boolean) (rmz 4 85) [.ref r, .ref (q 0)] (wdR r (.ref a) rb rl ra ++ (wdS cI a b ln sz ce ++ wdB cI q BI BA)) (f_X2_readSilences rb rl ra sz ce BI BA) (fun o : Int32 × (Int32) × (Nat → Int32) × (Nat → Nat → Int32) => some (.int o.1)) (fun o : Int32 × (Int32) × (Nat → Int32) × (Nat → Nat → Int32) => wdR r (.ref a) rb rl o.2.1 ++ (wdS cI a b ln sz ce ++ wdB cI q o.2.2.1 o.2.2.2)) := met_of (own := RX2) (by decide) rfl (Nat.le_of_ble_eq_true rfl) (fun X hxl hxD C => by
  subst hxl
  subst hxD
  show JR X _ _ 0 0 (f_X2_readSilences rb rl ra sz ce BI BA) (wdR r (.ref a) rb rl ra ++ (wdS cI a b ln sz ce ++ wdB cI q BI BA)) [(0, .ref r), (1, .ref (q 0))] 0 []
  unfold f_X2_readSilences
  refine r_iconst (pc := 0) C dX2_readSilences_0 (ci_0) ?_
  refine r_istore_n (pc := 1) C dX2_readSilences_1 rfl (by decide) (lv' := [(2, .int (0 : Int32)), (0, .ref r), (1, .ref (q 0))]) rfl ?_
  refine r_sub [1, 2, 0] rfl (wl_X2_readSilences_2 X C r a b q rb rl ln sz ce  _ (fun el2_2 era_2 eBI_2 eBA_2 => ?_) 1000 (0 : Int32) ra BI BA)
  refine r_iconst (pc := 108) C dX2_readSilences_108 (ci_1) ?_
  exact r_zret (pc := 109) C rfl rfl rfl dX2_readSilences_109)
set_option maxHeartbeats 4000000 in
set_option maxRecDepth 100000 in
theorem m_X2_readInto (l : Launch) (D : va_G) (cI cS : ClassId) (r : Nat) (a : Nat) (b : Nat) (q : Nat → Nat) (fr : Option Nat) (rb : Int32) (rl : Int32) (ra : Int32) (ln : Int32) (sz : Int32) (ce : Nat → Int32) (BI : Nat → Int32) (BA : Nat → Nat → Int32) (a3 : Int32) (a4 : Int32) : MX l D (tyz cI cS) yX2_readInto cX2_readInto 5 (some .boolean) (rmz 5 108) [.ref r, .ref (q 0), .ref a, .int a3, .int a4] (wdR r (va_rf fr) rb rl ra ++ (wdS cI a b ln sz ce ++ wdB cI q BI BA)) (f_X2_readInto a sz ce BI BA a3 a4) (fun o : Int32 × (Option Nat) × (Int32) × (Int32) × (Int32) × (Nat → Int32) × (Nat → Nat → Int32) => some (.int o.1)) (fun o : Int32 × (Option Nat) × (Int32) × (Int32) × (Int32) × (Nat → Int32) × (Nat → Nat → Int32) => wdR r (va_rf o.2.1) o.2.2.1 o.2.2.2.1 o.2.2.2.2.1 ++ (wdS cI a b ln sz ce ++ wdB cI q o.2.2.2.2.2.1 o.2.2.2.2.2.2)) := met_of (own := RX2) (by decide) rfl (Nat.le_of_ble_eq_true rfl) (fun X hxl hxD C => by
  subst hxl
  subst hxD
  show JR X _ _ 0 0 (f_X2_readInto a sz ce BI BA a3 a4) (wdR r (va_rf fr) rb rl ra ++ (wdS cI a b ln sz ce ++ wdB cI q BI BA)) [(0, .ref r), (1, .ref (q 0)), (2, .ref a), (3, .int a3), (4, .int a4)] 0 []
  unfold f_X2_readInto
  refine r_aload_n (pc := 0) C 0 dX2_readInto_0 rfl rfl ?_
  refine r_aload_n (pc := 1) C 2 dX2_readInto_1 rfl rfl ?_
  refine pf_X2_9 (pc := 2) (ws' := wdR r (va_rf (some a)) rb rl ra ++ (wdS cI a b ln sz ce ++ wdB cI q BI BA)) C 0 rfl rfl dX2_readInto_2 rfl ?_
  refine r_aload_n (pc := 5) C 0 dX2_readInto_5 rfl rfl ?_
  refine r_iload_n (pc := 6) C 3 dX2_readInto_6 rfl rfl ?_
  refine pf_X2_15 (pc := 7) (ws' := wdR r (va_rf (some a)) a3 rl ra ++ (wdS cI a b ln sz ce ++ wdB cI q BI BA)) C 0 rfl rfl dX2_readInto_7 rfl ?_
  refine r_aload_n (pc := 10) C 0 dX2_readInto_10 rfl rfl ?_
  refine r_iload (pc := 11) C 4 dX2_readInto_11 rfl ?_
  refine pf_X2_19 (pc := 13) (ws' := wdR r (va_rf (some a)) a3 a4 ra ++ (wdS cI a b ln sz ce ++ wdB cI q BI BA)) C 0 rfl rfl dX2_readInto_13 rfl ?_
  refine r_aload_n (pc := 16) C 0 dX2_readInto_16 rfl rfl ?_
  refine r_iconst (pc := 17) C dX2_readInto_17 (ci_0) ?_
  refine pf_X2_22 (pc := 18) (ws' := wdR r (va_rf (some a)) a3 a4 (0 : Int32) ++ (wdS cI a b ln sz ce ++ wdB cI q BI BA)) C 0 rfl rfl dX2_readInto_18 rfl ?_
  refine r_aload_n (pc := 21) C 1 dX2_readInto_21 rfl rfl ?_
  refine r_callV (pc := 22) (rest := []) C [3, 4, 5, 6, 7, 8, 9, 10, 11, 12] (fun r22 => wdR r (va_rf (some a)) a3 a4 (0 : Int32) ++ (wdS cI a b ln sz ce ++ wdB cI q r22.1 r22.2)) (m_X0_begin (xl X) (xD X) cI cS q BI BA) mv_X2_25 rfl rfl (fun _ => rfl) (fun _ => rfl) rfl rfl rfl ⟨Nat.zero_le _, Nat.zero_le _⟩ rfl rfl (Nat.le_of_ble_eq_true rfl) dX2_readInto_22 (fun r22 => ?_)
  refine r_aload_n (pc := 25) C 0 dX2_readInto_25 rfl rfl ?_
  refine r_bipush (pc := 26) C dX2_readInto_26 (cb_117) ?_
  refine r_bipush (pc := 28) C dX2_readInto_28 (cb_117) ?_
  refine r_callV (pc := 30) (rest := []) C [0, 1, 2] (fun r30 => wdR r (va_rf (some a)) a3 a4 r30.2 ++ (wdS cI a b ln sz ce ++ wdB cI q r22.1 r22.2)) (m_X2_takes (xl X) (xD X) cI cS r a b a3 a4 (0 : Int32) ln sz ce (117 : Int32) (117 : Int32)) mv_X2_29 rfl rfl (fun _ => rfl) (fun _ => rfl) rfl rfl rfl ⟨Nat.zero_le _, Nat.zero_le _⟩ rfl rfl (Nat.le_of_ble_eq_true rfl) dX2_readInto_30 (fun r30 => ?_)
  refine r_if_eq (pc := 33) (tgt := 47) C dX2_readInto_33 (by decide) ?_ ?_
  · refine r_iconst (pc := 47) C dX2_readInto_47 (ci_0) ?_
    exact r_zret (pc := 48) C rfl rfl rfl dX2_readInto_48
  · refine r_aload_n (pc := 36) C 0 dX2_readInto_36 rfl rfl ?_
    refine r_bipush (pc := 37) C dX2_readInto_37 (cb_48) ?_
    refine r_bipush (pc := 39) C dX2_readInto_39 (cb_57) ?_
    refine r_callV (pc := 41) (rest := []) C [0, 1, 2] (fun r41 => wdR r (va_rf (some a)) a3 a4 r41.2 ++ (wdS cI a b ln sz ce ++ wdB cI q r22.1 r22.2)) (m_X2_takes (xl X) (xD X) cI cS r a b a3 a4 r30.2 ln sz ce (48 : Int32) (57 : Int32)) mv_X2_29 rfl rfl (fun _ => rfl) (fun _ => rfl) rfl rfl rfl ⟨Nat.zero_le _, Nat.zero_le _⟩ rfl rfl (Nat.le_of_ble_eq_true rfl) dX2_readInto_41 (fun r41 => ?_)
    refine r_if_ne (pc := 44) (tgt := 49) C dX2_readInto_44 (by decide) ?_ ?_
    · refine r_aload_n (pc := 49) C 1 dX2_readInto_49 rfl rfl ?_
      refine r_aload_n (pc := 50) C 0 dX2_readInto_50 rfl rfl ?_
      refine r_iconst (pc := 51) C dX2_readInto_51 (ci_1) ?_
      refine r_callVr (pc := 52) (rest := [.ref (q 0)]) C [0, 1, 2] (m_X2_digitBefore (xl X) (xD X) cI cS r a b a3 a4 r41.2 ln sz ce (1 : Int32)) mv_X2_33 rfl rfl rfl rfl rfl ⟨Nat.zero_le _, Nat.zero_le _⟩ rfl rfl (Nat.le_of_ble_eq_true rfl) dX2_readInto_52 (fun r52 => ?_)
      refine pf_X2_37 (pc := 55) (ws' := wdR r (va_rf (some a)) a3 a4 r41.2 ++ (wdS cI a b ln sz ce ++ wdB cI q (upd r22.1 11 r52) r22.2)) C 3 rfl rfl dX2_readInto_55 rfl ?_
      refine r_aload_n (pc := 58) C 0 dX2_readInto_58 rfl rfl ?_
      refine r_aload_n (pc := 59) C 1 dX2_readInto_59 rfl rfl ?_
      refine r_callV (pc := 60) (rest := []) C [0, 1, 2, 3, 4, 5, 6, 7, 8, 9, 10, 11, 12] (fun r60 => wdR r (va_rf (some a)) a3 a4 r60.2.1 ++ (wdS cI a b ln sz ce ++ wdB cI q r60.2.2.1 r60.2.2.2)) (m_X2_readPosts (xl X) (xD X) cI cS r a b q a3 a4 r41.2 ln sz ce (upd r22.1 11 r52) r22.2) mv_X2_40 rfl rfl (fun _ => rfl) (fun _ => rfl) rfl rfl rfl ⟨Nat.zero_le _, Nat.zero_le _⟩ rfl rfl (Nat.le_of_ble_eq_true rfl) dX2_readInto_60 (fun r60 => ?_)
      refine r_if_eq (pc := 63) (tgt := 89) C dX2_readInto_63 (by decide) ?_ ?_
      · refine r_iconst (pc := 89) C dX2_readInto_89 (ci_0) ?_
        exact r_zret (pc := 90) C rfl rfl rfl dX2_readInto_90
      · refine r_aload_n (pc := 66) C 0 dX2_readInto_66 rfl rfl ?_
        refine r_aload_n (pc := 67) C 1 dX2_readInto_67 rfl rfl ?_
        refine r_callV (pc := 68) (rest := []) C [0, 1, 2, 3, 4, 5, 6, 7, 8, 9, 10, 11, 12] (fun r68 => wdR r (va_rf (some a)) a3 a4 r68.2.1 ++ (wdS cI a b ln sz ce ++ wdB cI q r68.2.2.1 r68.2.2.2)) (m_X2_readSilences (xl X) (xD X) cI cS r a b q a3 a4 r60.2.1 ln sz ce r60.2.2.1 r60.2.2.2) mv_X2_44 rfl rfl (fun _ => rfl) (fun _ => rfl) rfl rfl rfl ⟨Nat.zero_le _, Nat.zero_le _⟩ rfl rfl (Nat.le_of_ble_eq_true rfl) dX2_readInto_68 (fun r68 => ?_)
        refine r_if_eq (pc := 71) (tgt := 89) C dX2_readInto_71 (by decide) ?_ ?_
        · refine r_iconst (pc := 89) C dX2_readInto_89 (ci_0) ?_
          exact r_zret (pc := 90) C rfl rfl rfl dX2_readInto_90
        · refine r_aload_n (pc := 74) C 0 dX2_readInto_74 rfl rfl ?_
          refine gf_X2_22 (pc := 75) C 0 rfl rfl dX2_readInto_75 ?_
          refine r_aload_n (pc := 78) C 0 dX2_readInto_78 rfl rfl ?_
          refine gf_X2_19 (pc := 79) C 0 rfl rfl dX2_readInto_79 ?_
          refine r_icmp_ne (pc := 82) (tgt := 89) C dX2_readInto_82 (by decide) ?_ ?_
          · refine r_iconst (pc := 89) C dX2_readInto_89 (ci_0) ?_
            exact r_zret (pc := 90) C rfl rfl rfl dX2_readInto_90
          · refine r_iconst (pc := 85) C dX2_readInto_85 (ci_1) ?_
            refine r_goto (pc := 86) (tgt := 90) C dX2_readInto_86 (by decide) ?_
            exact r_zret (pc := 90) C rfl rfl rfl dX2_readInto_90
    · refine r_iconst (pc := 47) C dX2_readInto_47 (ci_0) ?_
      exact r_zret (pc := 48) C rfl rfl rfl dX2_readInto_48)
set_option maxHeartbeats 4000000 in
set_option maxRecDepth 100000 in
theorem m_X2_place (l : Launch) (D : va_G) (cI cS : ClassId) (r : Nat) (fr : Option Nat) (rb : Int32) (rl : Int32) (ra : Int32) : MX l D (tyz cI cS) yX2_place cX2_place 1 (some .int) (rmz 0 0) [.ref r] (wdR r (va_rf fr) rb rl ra) (f_X2_place ra) (fun o : Int32 => some (.int o)) (fun o : Int32 => wdR r (va_rf fr) rb rl ra) := met_of (own := RX2) (by decide) rfl (Nat.le_of_ble_eq_true rfl) (fun X hxl hxD C => by
  subst hxl
  subst hxD
  show JR X _ _ 0 0 (f_X2_place ra) (wdR r (va_rf fr) rb rl ra) [(0, .ref r)] 0 []
  unfold f_X2_place
  refine r_aload_n (pc := 0) C 0 dX2_place_0 rfl rfl ?_
  refine gf_X2_22 (pc := 1) C 0 rfl rfl dX2_place_1 ?_
  exact r_iret (pc := 4) C rfl rfl dX2_place_4)
set_option maxHeartbeats 4000000 in
set_option maxRecDepth 100000 in
theorem m_X3_begin (l : Launch) (D : va_G) (cI cS : ClassId) (a : Nat) (b : Nat) (wl : Int32) (WS : Nat → Int32) : MX l D (tyz cI cS) yX3_begin cX3_begin 1 none (rmz 0 0) [.ref a] (wdW cI a b wl WS) (f_X3_begin ) (fun o : (Int32) => none) (fun o : (Int32) => wdW cI a b o WS) := met_of (own := RX3) (by decide) rfl (Nat.le_of_ble_eq_true rfl) (fun X hxl hxD C => by
  subst hxl
  subst hxD
  show JR X _ _ 0 0 (f_X3_begin ) (wdW cI a b wl WS) [(0, .ref a)] 0 []
  unfold f_X3_begin
  refine r_aload_n (pc := 0) C 0 dX3_begin_0 rfl rfl ?_
  refine r_iconst (pc := 1) C dX3_begin_1 (ci_0) ?_
  refine pf_X3_15 (pc := 2) (ws' := wdW cI a b (0 : Int32) WS) C 0 rfl rfl dX3_begin_2 rfl ?_
  exact r_vret (pc := 5) C rfl rfl dX3_begin_5)
set_option maxHeartbeats 4000000 in
set_option maxRecDepth 100000 in
theorem m_X3_goOn (l : Launch) (D : va_G) (cI cS : ClassId) (a : Nat) (b : Nat) (wl : Int32) (WS : Nat → Int32) (a1 : Int32) : MX l D (tyz cI cS) yX3_goOn cX3_goOn 2 none (rmz 0 0) [.ref a, .int a1] (wdW cI a b wl WS) (f_X3_goOn wl WS a1) (fun o : (Int32) × (Nat → Int32) => none) (fun o : (Int32) × (Nat → Int32) => wdW cI a b o.1 o.2) := met_of (own := RX3) (by decide) rfl (Nat.le_of_ble_eq_true rfl) (fun X hxl hxD C => by
  subst hxl
  subst hxD
  show JR X _ _ 0 0 (f_X3_goOn wl WS a1) (wdW cI a b wl WS) [(0, .ref a), (1, .int a1)] 0 []
  unfold f_X3_goOn
  refine r_aload_n (pc := 0) C 0 dX3_goOn_0 rfl rfl ?_
  refine gf_X3_15 (pc := 1) C 0 rfl rfl dX3_goOn_1 ?_
  refine r_bipush (pc := 4) C dX3_goOn_4 (cb_8) ?_
  refine r_icmp_ge (pc := 6) (tgt := 29) C dX3_goOn_6 (by decide) ?_ ?_
  · exact r_vret (pc := 29) C rfl rfl dX3_goOn_29
  · refine r_aload_n (pc := 9) C 0 dX3_goOn_9 rfl rfl ?_
    refine gf_X3_9 (pc := 10) C 0 rfl rfl dX3_goOn_10 ?_
    refine r_aload_n (pc := 13) C 0 dX3_goOn_13 rfl rfl ?_
    refine gf_X3_15 (pc := 14) C 0 rfl rfl dX3_goOn_14 ?_
    refine r_iload_n (pc := 17) C 1 dX3_goOn_17 rfl rfl ?_
    refine r_iast (pc := 18) (ws' := wdW cI a b wl (upd WS wl.toNatClampNeg a1)) C 1 rfl dX3_goOn_18 rfl ?_
    refine r_aload_n (pc := 19) C 0 dX3_goOn_19 rfl rfl ?_
    refine r_dup (pc := 20) C dX3_goOn_20 rfl ?_
    refine gf_X3_15 (pc := 21) C 0 rfl rfl dX3_goOn_21 ?_
    refine r_iconst (pc := 24) C dX3_goOn_24 (ci_1) ?_
    refine r_iadd (pc := 25) C dX3_goOn_25 ?_
    refine pf_X3_15 (pc := 26) (ws' := wdW cI a b (wl + (1 : Int32)) (upd WS wl.toNatClampNeg a1)) C 0 rfl rfl dX3_goOn_26 rfl ?_
    exact r_vret (pc := 29) C rfl rfl dX3_goOn_29)
set_option maxHeartbeats 4000000 in
set_option maxRecDepth 100000 in
theorem wl_X3_meanTaken_10 {cI cS : ClassId} (X : CX) (C : Cx X RX3 cX3_meanTaken 11 (some .long) (rmz 2 43) (tyz cI cS)) (a : Nat) (b : Nat) (q : Nat → Nat) (wl : Int32) (WS : Nat → Int32) (BI : Nat → Int32) (BA : Nat → Nat → Int32) (a2 : Int32)  (kk : Int64 → Int64 → Int32 → Option (Int64)) (hk_10 : ∀ (el3_10 : Int64) (el5_10 : Int64) (el7_10 : Int32), JR X (QF X (tyz cI cS) 0 0 (fun o : Int64 => some (.long o)) (fun o : Int64 => wdW cI a b wl WS ++ wdB cI q BI BA)) 11 0 0 (kk el3_10 el5_10 el7_10) (wdW cI a b wl WS ++ wdB cI q BI BA) [(5, .long el5_10)] 82 []) : ∀ (fuel : Nat) (l3_10 : Int64) (l5_10 : Int64) (l7_10 : Int32), JR X (QF X (tyz cI cS) 0 0 (fun o : Int64 => some (.long o)) (fun o : Int64 => wdW cI a b wl WS ++ wdB cI q BI BA)) 11 0 0 (lp_X3_meanTaken_10 kk wl WS BI BA a2 fuel l3_10 l5_10 l7_10) (wdW cI a b wl WS ++ wdB cI q BI BA) [(0, .ref a), (1, .ref (q 0)), (2, .int a2), (3, .long l3_10), (5, .long l5_10), (7, .int l7_10)] 10 [] := by
  intro fuel
  induction fuel with
  | zero => intro l3_10 l5_10 l7_10; exact r_none
  | succ fu_10 ih_10 =>
    intro l3_10 l5_10 l7_10
    unfold lp_X3_meanTaken_10
    refine r_iload (pc := 10) C 5 dX3_meanTaken_10 rfl ?_
    refine r_aload_n (pc := 12) C 0 dX3_meanTaken_12 rfl rfl ?_
    refine gf_X3_15 (pc := 13) C 0 rfl rfl dX3_meanTaken_13 ?_
    refine r_icmp_ge (pc := 16) (tgt := 82) C dX3_meanTaken_16 (by decide) ?_ ?_
    · exact r_sub [4] rfl (hk_10 l3_10 l5_10 l7_10)
    · refine r_aload_n (pc := 19) C 0 dX3_meanTaken_19 rfl rfl ?_
      refine gf_X3_9 (pc := 20) C 0 rfl rfl dX3_meanTaken_20 ?_
      refine r_iload (pc := 23) C 5 dX3_meanTaken_23 rfl ?_
      refine r_iald (pc := 25) C 1 rfl dX3_meanTaken_25 ?_
      refine r_istore (pc := 26) C dX3_meanTaken_26 (by decide) (lv' := [(8, .int (WS l7_10.toNatClampNeg)), (0, .ref a), (1, .ref (q 0)), (2, .int a2), (3, .long l3_10), (5, .long l5_10), (7, .int l7_10)]) rfl ?_
      refine r_lload_n (pc := 28) C 4 dX3_meanTaken_28 rfl rfl ?_
      refine r_ldc2 (pc := 29) C kk_X3_34 dX3_meanTaken_29 ?_
      refine r_ldiv (pc := 32) C dX3_meanTaken_32 ?_
      refine r_aload_n (pc := 33) C 2 dX3_meanTaken_33 rfl rfl ?_
      refine r_iload_n (pc := 34) C 3 dX3_meanTaken_34 rfl rfl ?_
      refine r_iload (pc := 35) C 0 dX3_meanTaken_35 rfl ?_
      refine r_callVr (pc := 37) (rest := [.long (l3_10 / (10 : Int64))]) C [2, 3, 4, 5, 6, 7, 8, 9, 10, 11] (m_X0_tenthsHeard (xl X) (xD X) cI cS q BI BA a2 (WS l7_10.toNatClampNeg)) mv_X3_36 rfl rfl rfl rfl rfl ⟨Nat.zero_le _, Nat.zero_le _⟩ rfl rfl (Nat.le_of_ble_eq_true rfl) dX3_meanTaken_37 (fun r37 => ?_)
      refine r_i2l (pc := 40) C dX3_meanTaken_40 ?_
      refine r_lmul (pc := 41) C dX3_meanTaken_41 ?_
      refine r_lstore (pc := 42) C dX3_meanTaken_42 (by decide) (lv' := [(9, .long ((l3_10 / (10 : Int64)) * r37.toInt64)), (8, .int (WS l7_10.toNatClampNeg)), (0, .ref a), (1, .ref (q 0)), (2, .int a2), (3, .long l3_10), (5, .long l5_10), (7, .int l7_10)]) rfl ?_
      refine r_lload (pc := 44) C 6 dX3_meanTaken_44 rfl ?_
      refine r_lload (pc := 46) C 0 dX3_meanTaken_46 rfl ?_
      refine r_ldc2 (pc := 48) C kk_X3_40 dX3_meanTaken_48 ?_
      refine r_lmul (pc := 51) C dX3_meanTaken_51 ?_
      refine r_aload_n (pc := 52) C 3 dX3_meanTaken_52 rfl rfl ?_
      refine r_iload_n (pc := 53) C 4 dX3_meanTaken_53 rfl rfl ?_
      refine r_callVr (pc := 54) (rest := [.long (((l3_10 / (10 : Int64)) * r37.toInt64) * (2 : Int64)), .long l5_10]) C [2, 3, 4, 5, 6, 7, 8, 9, 10, 11] (m_X0_weightOf (xl X) (xD X) cI cS q BI BA a2) mv_X3_42 rfl rfl rfl rfl rfl ⟨Nat.zero_le _, Nat.zero_le _⟩ rfl rfl (Nat.le_of_ble_eq_true rfl) dX3_meanTaken_54 (fun r54 => ?_)
      refine r_i2l (pc := 57) C dX3_meanTaken_57 ?_
      refine r_lmul (pc := 58) C dX3_meanTaken_58 ?_
      refine r_aload_n (pc := 59) C 3 dX3_meanTaken_59 rfl rfl ?_
      refine gf_X3_45 (pc := 60) C 2 rfl rfl dX3_meanTaken_60 ?_
      refine r_iload (pc := 63) C 1 dX3_meanTaken_63 rfl ?_
      refine r_iald (pc := 65) C 3 rfl dX3_meanTaken_65 ?_
      refine r_i2l (pc := 66) C dX3_meanTaken_66 ?_
      refine r_lmul (pc := 67) C dX3_meanTaken_67 ?_
      refine r_ladd (pc := 68) C dX3_meanTaken_68 ?_
      refine r_lstore (pc := 69) C dX3_meanTaken_69 (by decide) (lv' := [(5, .long (l5_10 + (((((l3_10 / (10 : Int64)) * r37.toInt64) * (2 : Int64)) * r54.toInt64) * ((BA 1 (WS l7_10.toNatClampNeg).toNatClampNeg).toInt64)))), (9, .long ((l3_10 / (10 : Int64)) * r37.toInt64)), (8, .int (WS l7_10.toNatClampNeg)), (0, .ref a), (1, .ref (q 0)), (2, .int a2), (3, .long l3_10), (7, .int l7_10)]) rfl ?_
      refine r_lload_n (pc := 71) C 6 dX3_meanTaken_71 rfl rfl ?_
      refine r_lload (pc := 72) C 1 dX3_meanTaken_72 rfl ?_
      refine r_lsub (pc := 74) C dX3_meanTaken_74 ?_
      refine r_lstore_n (pc := 75) C dX3_meanTaken_75 rfl (by decide) (lv' := [(3, .long (l3_10 - ((l3_10 / (10 : Int64)) * r37.toInt64))), (5, .long (l5_10 + (((((l3_10 / (10 : Int64)) * r37.toInt64) * (2 : Int64)) * r54.toInt64) * ((BA 1 (WS l7_10.toNatClampNeg).toNatClampNeg).toInt64)))), (9, .long ((l3_10 / (10 : Int64)) * r37.toInt64)), (8, .int (WS l7_10.toNatClampNeg)), (0, .ref a), (1, .ref (q 0)), (2, .int a2), (7, .int l7_10)]) rfl ?_
      refine r_iinc (pc := 76) C 7 dX3_meanTaken_76 rfl (ci_1) (by decide) (lv' := [(7, .int (l7_10 + (1 : Int32))), (3, .long (l3_10 - ((l3_10 / (10 : Int64)) * r37.toInt64))), (5, .long (l5_10 + (((((l3_10 / (10 : Int64)) * r37.toInt64) * (2 : Int64)) * r54.toInt64) * ((BA 1 (WS l7_10.toNatClampNeg).toNatClampNeg).toInt64)))), (9, .long ((l3_10 / (10 : Int64)) * r37.toInt64)), (8, .int (WS l7_10.toNatClampNeg)), (0, .ref a), (1, .ref (q 0)), (2, .int a2)]) rfl ?_
      refine r_goto (pc := 79) (tgt := 10) C dX3_meanTaken_79 (by decide) ?_
      exact r_sub [5, 6, 7, 1, 2, 0] rfl (ih_10 (l3_10 - ((l3_10 / (10 : Int64)) * r37.toInt64)) (l5_10 + (((((l3_10 / (10 : Int64)) * r37.toInt64) * (2 : Int64)) * r54.toInt64) * ((BA 1 (WS l7_10.toNatClampNeg).toNatClampNeg).toInt64))) (l7_10 + (1 : Int32)))
set_option maxHeartbeats 4000000 in
set_option maxRecDepth 100000 in
theorem m_X3_meanTaken (l : Launch) (D : va_G) (cI cS : ClassId) (a : Nat) (b : Nat) (q : Nat → Nat) (wl : Int32) (WS : Nat → Int32) (BI : Nat → Int32) (BA : Nat → Nat → Int32) (a2 : Int32) : MX l D (tyz cI cS) yX3_meanTaken cX3_meanTaken 11 (some .long) (rmz 2 43) [.ref a, .ref (q 0), .int a2] (wdW cI a b wl WS ++ wdB cI q BI BA) (f_X3_meanTaken wl WS BI BA a2) (fun o : Int64 => some (.long o)) (fun o : Int64 => wdW cI a b wl WS ++ wdB cI q BI BA) := met_of (own := RX3) (by decide) rfl (Nat.le_of_ble_eq_true rfl) (fun X hxl hxD C => by
  subst hxl
  subst hxD
  show JR X _ _ 0 0 (f_X3_meanTaken wl WS BI BA a2) (wdW cI a b wl WS ++ wdB cI q BI BA) [(0, .ref a), (1, .ref (q 0)), (2, .int a2)] 0 []
  unfold f_X3_meanTaken
  refine r_ldc2 (pc := 0) C kk_X3_25 dX3_meanTaken_0 ?_
  refine r_lstore_n (pc := 3) C dX3_meanTaken_3 rfl (by decide) (lv' := [(3, .long (100000000 : Int64)), (0, .ref a), (1, .ref (q 0)), (2, .int a2)]) rfl ?_
  refine r_lconst (pc := 4) (v := 0) C dX3_meanTaken_4 rfl ?_
  refine r_lstore (pc := 5) C dX3_meanTaken_5 (by decide) (lv' := [(5, .long (0 : Int64)), (3, .long (100000000 : Int64)), (0, .ref a), (1, .ref (q 0)), (2, .int a2)]) rfl ?_
  refine r_iconst (pc := 7) C dX3_meanTaken_7 (ci_0) ?_
  refine r_istore (pc := 8) C dX3_meanTaken_8 (by decide) (lv' := [(7, .int (0 : Int32)), (5, .long (0 : Int64)), (3, .long (100000000 : Int64)), (0, .ref a), (1, .ref (q 0)), (2, .int a2)]) rfl ?_
  refine r_sub [3, 4, 5, 2, 1, 0] rfl (wl_X3_meanTaken_10 X C a b q wl WS BI BA a2  _ (fun el3_10 el5_10 el7_10 => ?_) 1000 (100000000 : Int64) (0 : Int64) (0 : Int32))
  refine r_lload (pc := 82) C 0 dX3_meanTaken_82 rfl ?_
  exact r_lret (pc := 84) C rfl rfl dX3_meanTaken_84)
set_option maxHeartbeats 4000000 in
set_option maxRecDepth 100000 in
theorem wl_X3_costIn_42 {cI cS : ClassId} (X : CX) (C : Cx X RX3 cX3_costIn 5 (some .long) (rmz 4 89) (tyz cI cS)) (a : Nat) (b : Nat) (q : Nat → Nat) (wl : Int32) (WS : Nat → Int32) (BI : Nat → Int32) (BA : Nat → Nat → Int32)  (kk : Int64 → Int32 → Option (Int64)) (hk_42 : ∀ (el2_42 : Int64) (el4_42 : Int32), JR X (QF X (tyz cI cS) 0 0 (fun o : Int64 => some (.long o)) (fun o : Int64 => wdW cI a b wl WS ++ wdB cI q BI BA)) 5 0 0 (kk el2_42 el4_42) (wdW cI a b wl WS ++ wdB cI q BI BA) [(2, .long el2_42)] 67 []) : ∀ (fuel : Nat) (l2_42 : Int64) (l4_42 : Int32), JR X (QF X (tyz cI cS) 0 0 (fun o : Int64 => some (.long o)) (fun o : Int64 => wdW cI a b wl WS ++ wdB cI q BI BA)) 5 0 0 (lp_X3_costIn_42 kk wl WS BI BA fuel l2_42 l4_42) (wdW cI a b wl WS ++ wdB cI q BI BA) [(0, .ref a), (1, .ref (q 0)), (2, .long l2_42), (4, .int l4_42)] 42 [] := by
  intro fuel
  induction fuel with
  | zero => intro l2_42 l4_42; exact r_none
  | succ fu_42 ih_42 =>
    intro l2_42 l4_42
    unfold lp_X3_costIn_42
    refine r_iload (pc := 42) C 3 dX3_costIn_42 rfl ?_
    refine r_aload_n (pc := 44) C 1 dX3_costIn_44 rfl rfl ?_
    refine gf_X3_27 (pc := 45) C 2 rfl rfl dX3_costIn_45 ?_
    refine r_icmp_ge (pc := 48) (tgt := 67) C dX3_costIn_48 (by decide) ?_ ?_
    · exact r_sub [2] rfl (hk_42 l2_42 l4_42)
    · refine r_lload_n (pc := 51) C 2 dX3_costIn_51 rfl rfl ?_
      refine r_aload_n (pc := 52) C 0 dX3_costIn_52 rfl rfl ?_
      refine r_aload_n (pc := 53) C 1 dX3_costIn_53 rfl rfl ?_
      refine r_iload (pc := 54) C 3 dX3_costIn_54 rfl ?_
      refine r_callV0 (pc := 56) (rest := [.long l2_42]) C (m_X3_meanTaken (xl X) (xD X) cI cS a b q wl WS BI BA l4_42) mv_X3_30 rfl rfl rfl ⟨Nat.zero_le _, Nat.zero_le _⟩ rfl rfl (Nat.le_of_ble_eq_true rfl) dX3_costIn_56 (fun r56 => ?_)
      refine r_ladd (pc := 59) C dX3_costIn_59 ?_
      refine r_lstore_n (pc := 60) C dX3_costIn_60 rfl (by decide) (lv' := [(2, .long (l2_42 + r56)), (0, .ref a), (1, .ref (q 0)), (4, .int l4_42)]) rfl ?_
      refine r_iinc (pc := 61) C 3 dX3_costIn_61 rfl (ci_1) (by decide) (lv' := [(4, .int (l4_42 + (1 : Int32))), (2, .long (l2_42 + r56)), (0, .ref a), (1, .ref (q 0))]) rfl ?_
      refine r_goto (pc := 64) (tgt := 42) C dX3_costIn_64 (by decide) ?_
      exact r_sub [2, 3, 1, 0] rfl (ih_42 (l2_42 + r56) (l4_42 + (1 : Int32)))
set_option maxHeartbeats 4000000 in
set_option maxRecDepth 100000 in
theorem wl_X3_costIn_5 {cI cS : ClassId} (X : CX) (C : Cx X RX3 cX3_costIn 5 (some .long) (rmz 4 89) (tyz cI cS)) (a : Nat) (b : Nat) (q : Nat → Nat) (wl : Int32) (WS : Nat → Int32) (BI : Nat → Int32) (BA : Nat → Nat → Int32)  (kk : Int64 → Int32 → Option (Int64)) (hk_5 : ∀ (el2_5 : Int64) (el4_5 : Int32), JR X (QF X (tyz cI cS) 0 0 (fun o : Int64 => some (.long o)) (fun o : Int64 => wdW cI a b wl WS ++ wdB cI q BI BA)) 5 0 0 (kk el2_5 el4_5) (wdW cI a b wl WS ++ wdB cI q BI BA) [(0, .ref a), (1, .ref (q 0)), (2, .long el2_5)] 39 []) : ∀ (fuel : Nat) (l2_5 : Int64) (l4_5 : Int32), JR X (QF X (tyz cI cS) 0 0 (fun o : Int64 => some (.long o)) (fun o : Int64 => wdW cI a b wl WS ++ wdB cI q BI BA)) 5 0 0 (lp_X3_costIn_5 kk wl WS BI BA fuel l2_5 l4_5) (wdW cI a b wl WS ++ wdB cI q BI BA) [(0, .ref a), (1, .ref (q 0)), (2, .long l2_5), (4, .int l4_5)] 5 [] := by
  intro fuel
  induction fuel with
  | zero => intro l2_5 l4_5; exact r_none
  | succ fu_5 ih_5 =>
    intro l2_5 l4_5
    unfold lp_X3_costIn_5
    refine r_iload (pc := 5) C 3 dX3_costIn_5 rfl ?_
    refine r_aload_n (pc := 7) C 0 dX3_costIn_7 rfl rfl ?_
    refine gf_X3_15 (pc := 8) C 0 rfl rfl dX3_costIn_8 ?_
    refine r_icmp_ge (pc := 11) (tgt := 39) C dX3_costIn_11 (by decide) ?_ ?_
    · exact r_sub [0, 1, 2] rfl (hk_5 l2_5 l4_5)
    · refine r_lload_n (pc := 14) C 2 dX3_costIn_14 rfl rfl ?_
      refine r_aload_n (pc := 15) C 1 dX3_costIn_15 rfl rfl ?_
      refine r_aload_n (pc := 16) C 0 dX3_costIn_16 rfl rfl ?_
      refine gf_X3_9 (pc := 17) C 0 rfl rfl dX3_costIn_17 ?_
      refine r_iload (pc := 20) C 3 dX3_costIn_20 rfl ?_
      refine r_iald (pc := 22) C 1 rfl dX3_costIn_22 ?_
      refine r_callVr (pc := 23) (rest := [.long l2_5]) C [2, 3, 4, 5, 6, 7, 8, 9, 10, 11] (m_X0_dutyAt (xl X) (xD X) cI cS q BI BA (WS l4_5.toNatClampNeg)) mv_X3_19 rfl rfl rfl rfl rfl ⟨Nat.zero_le _, Nat.zero_le _⟩ rfl rfl (Nat.le_of_ble_eq_true rfl) dX3_costIn_23 (fun r23 => ?_)
      refine r_i2l (pc := 26) C dX3_costIn_26 ?_
      refine r_ldc2 (pc := 27) C kk_X3_25 dX3_costIn_27 ?_
      refine r_lmul (pc := 30) C dX3_costIn_30 ?_
      refine r_ladd (pc := 31) C dX3_costIn_31 ?_
      refine r_lstore_n (pc := 32) C dX3_costIn_32 rfl (by decide) (lv' := [(2, .long (l2_5 + (r23.toInt64 * (100000000 : Int64)))), (0, .ref a), (1, .ref (q 0)), (4, .int l4_5)]) rfl ?_
      refine r_iinc (pc := 33) C 3 dX3_costIn_33 rfl (ci_1) (by decide) (lv' := [(4, .int (l4_5 + (1 : Int32))), (2, .long (l2_5 + (r23.toInt64 * (100000000 : Int64)))), (0, .ref a), (1, .ref (q 0))]) rfl ?_
      refine r_goto (pc := 36) (tgt := 5) C dX3_costIn_36 (by decide) ?_
      exact r_sub [2, 3, 1, 0] rfl (ih_5 (l2_5 + (r23.toInt64 * (100000000 : Int64))) (l4_5 + (1 : Int32)))
set_option maxHeartbeats 4000000 in
set_option maxRecDepth 100000 in
theorem m_X3_costIn (l : Launch) (D : va_G) (cI cS : ClassId) (a : Nat) (b : Nat) (q : Nat → Nat) (wl : Int32) (WS : Nat → Int32) (BI : Nat → Int32) (BA : Nat → Nat → Int32) : MX l D (tyz cI cS) yX3_costIn cX3_costIn 5 (some .long) (rmz 4 89) [.ref a, .ref (q 0)] (wdW cI a b wl WS ++ wdB cI q BI BA) (f_X3_costIn wl WS BI BA) (fun o : Int64 => some (.long o)) (fun o : Int64 => wdW cI a b wl WS ++ wdB cI q BI BA) := met_of (own := RX3) (by decide) rfl (Nat.le_of_ble_eq_true rfl) (fun X hxl hxD C => by
  subst hxl
  subst hxD
  show JR X _ _ 0 0 (f_X3_costIn wl WS BI BA) (wdW cI a b wl WS ++ wdB cI q BI BA) [(0, .ref a), (1, .ref (q 0))] 0 []
  unfold f_X3_costIn
  refine r_lconst (pc := 0) (v := 0) C dX3_costIn_0 rfl ?_
  refine r_lstore_n (pc := 1) C dX3_costIn_1 rfl (by decide) (lv' := [(2, .long (0 : Int64)), (0, .ref a), (1, .ref (q 0))]) rfl ?_
  refine r_iconst (pc := 2) C dX3_costIn_2 (ci_0) ?_
  refine r_istore (pc := 3) C dX3_costIn_3 (by decide) (lv' := [(4, .int (0 : Int32)), (2, .long (0 : Int64)), (0, .ref a), (1, .ref (q 0))]) rfl ?_
  refine r_sub [2, 3, 1, 0] rfl (wl_X3_costIn_5 X C a b q wl WS BI BA  _ (fun el2_5 el4_5 => ?_) 1000 (0 : Int64) (0 : Int32))
  refine r_iconst (pc := 39) C dX3_costIn_39 (ci_0) ?_
  refine r_istore (pc := 40) C dX3_costIn_40 (by decide) (lv' := [(4, .int (0 : Int32)), (0, .ref a), (1, .ref (q 0)), (2, .long el2_5)]) rfl ?_
  refine r_sub [1, 2, 3, 0] rfl (wl_X3_costIn_42 X C a b q wl WS BI BA  _ (fun el2_42 el4_42 => ?_) 1000 el2_5 (0 : Int32))
  refine r_lload_n (pc := 67) C 0 dX3_costIn_67 rfl rfl ?_
  exact r_lret (pc := 68) C rfl rfl dX3_costIn_68)
