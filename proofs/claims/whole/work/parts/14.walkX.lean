set_option maxHeartbeats 4000000 in
set_option maxRecDepth 100000 in
theorem m_X4_isWithin (l : Launch) (D : va_G) (cI cS : ClassId) (a0 : Int32) (a1 : Int32) (a2 : Int32) : MX l D (tyz cI cS) yX4_isWithin cX4_isWithin 3 (some .boolean) (rmz 0 0) [.int a0, .int a1, .int a2] ([]) (f_X4_isWithin a0 a1 a2) (fun o : Int32 => some (.int o)) (fun o : Int32 => []) := met_of (own := RX4) (by decide) rfl (Nat.le_of_ble_eq_true rfl) (fun X hxl hxD C => by
  subst hxl
  subst hxD
  show JR X _ _ 0 0 (f_X4_isWithin a0 a1 a2) ([]) [(0, .int a0), (1, .int a1), (2, .int a2)] 0 []
  unfold f_X4_isWithin
  refine r_iload_n (pc := 0) C 0 dX4_isWithin_0 rfl rfl ?_
  refine r_iload_n (pc := 1) C 1 dX4_isWithin_1 rfl rfl ?_
  refine r_icmp_lt (pc := 2) (tgt := 14) C dX4_isWithin_2 (by decide) ?_ ?_
  · refine r_iconst (pc := 14) C dX4_isWithin_14 (ci_0) ?_
    exact r_zret (pc := 15) C rfl rfl rfl dX4_isWithin_15
  · refine r_iload_n (pc := 5) C 0 dX4_isWithin_5 rfl rfl ?_
    refine r_iload_n (pc := 6) C 2 dX4_isWithin_6 rfl rfl ?_
    refine r_icmp_gt (pc := 7) (tgt := 14) C dX4_isWithin_7 (by decide) ?_ ?_
    · refine r_iconst (pc := 14) C dX4_isWithin_14 (ci_0) ?_
      exact r_zret (pc := 15) C rfl rfl rfl dX4_isWithin_15
    · refine r_iconst (pc := 10) C dX4_isWithin_10 (ci_1) ?_
      refine r_goto (pc := 11) (tgt := 15) C dX4_isWithin_11 (by decide) ?_
      exact r_zret (pc := 15) C rfl rfl rfl dX4_isWithin_15)
set_option maxHeartbeats 4000000 in
set_option maxRecDepth 100000 in
theorem m_X4_isSheet (l : Launch) (D : va_G) (cI cS : ClassId) (a0 : Int32) : MX l D (tyz cI cS) yX4_isSheet cX4_isSheet 1 (some .boolean) (rmz 1 22) [.int a0] ([]) (f_X4_isSheet a0) (fun o : Int32 => some (.int o)) (fun o : Int32 => []) := met_of (own := RX4) (by decide) rfl (Nat.le_of_ble_eq_true rfl) (fun X hxl hxD C => by
  subst hxl
  subst hxD
  show JR X _ _ 0 0 (f_X4_isSheet a0) ([]) [(0, .int a0)] 0 []
  unfold f_X4_isSheet
  refine r_iload_n (pc := 0) C 0 dX4_isSheet_0 rfl rfl ?_
  refine r_iconst (pc := 1) C dX4_isSheet_1 (ci_0) ?_
  refine r_iconst (pc := 2) C dX4_isSheet_2 (ci_3) ?_
  refine r_callSr (pc := 3) (rest := []) C (m_X4_isWithin (xl X) (xD X) cI cS a0 (0 : Int32) (3 : Int32)) ms_X4_113 rfl ⟨Nat.zero_le _, Nat.zero_le _⟩ rfl rfl (Nat.le_of_ble_eq_true rfl) dX4_isSheet_3 (fun r3 => ?_)
  exact r_zretG (pc := 6) C rfl rfl dX4_isSheet_6)
set_option maxHeartbeats 4000000 in
set_option maxRecDepth 100000 in
theorem m_X4_refusalOfRow (l : Launch) (D : va_G) (cI cS : ClassId) (a0 : Int32) (a1 : Int32) : MX l D (tyz cI cS) yX4_refusalOfRow cX4_refusalOfRow 2 (some .int) (rmz 2 42) [.int a0, .int a1] ([]) (f_X4_refusalOfRow a0 a1) (fun o : Int32 => some (.int o)) (fun o : Int32 => []) := met_of (own := RX4) (by decide) rfl (Nat.le_of_ble_eq_true rfl) (fun X hxl hxD C => by
  subst hxl
  subst hxD
  show JR X _ _ 0 0 (f_X4_refusalOfRow a0 a1) ([]) [(0, .int a0), (1, .int a1)] 0 []
  unfold f_X4_refusalOfRow
  refine r_iload_n (pc := 0) C 0 dX4_refusalOfRow_0 rfl rfl ?_
  refine r_callSr (pc := 1) (rest := []) C (m_X4_isSheet (xl X) (xD X) cI cS a0) ms_X4_210 rfl ⟨Nat.zero_le _, Nat.zero_le _⟩ rfl rfl (Nat.le_of_ble_eq_true rfl) dX4_refusalOfRow_1 (fun r1 => ?_)
  refine r_if_ne (pc := 4) (tgt := 9) C dX4_refusalOfRow_4 (by decide) ?_ ?_
  · refine r_iload_n (pc := 9) C 1 dX4_refusalOfRow_9 rfl rfl ?_
    refine r_iconst (pc := 10) C dX4_refusalOfRow_10 (ci_0) ?_
    refine r_iconst (pc := 11) C dX4_refusalOfRow_11 (ci_2) ?_
    refine r_callSr (pc := 12) (rest := []) C (m_X4_isWithin (xl X) (xD X) cI cS a1 (0 : Int32) (2 : Int32)) ms_X4_113 rfl ⟨Nat.zero_le _, Nat.zero_le _⟩ rfl rfl (Nat.le_of_ble_eq_true rfl) dX4_refusalOfRow_12 (fun r12 => ?_)
    refine r_if_eq (pc := 15) (tgt := 22) C dX4_refusalOfRow_15 (by decide) ?_ ?_
    · refine r_bipush (pc := 22) C dX4_refusalOfRow_22 (cb_m2) ?_
      exact r_iret (pc := 24) C rfl rfl dX4_refusalOfRow_24
    · refine r_iconst (pc := 18) C dX4_refusalOfRow_18 (ci_0) ?_
      refine r_goto (pc := 19) (tgt := 24) C dX4_refusalOfRow_19 (by decide) ?_
      exact r_iret (pc := 24) C rfl rfl dX4_refusalOfRow_24
  · refine r_iconst (pc := 7) C dX4_refusalOfRow_7 (ci_m1) ?_
    exact r_iret (pc := 8) C rfl rfl dX4_refusalOfRow_8)
set_option maxHeartbeats 4000000 in
set_option maxRecDepth 100000 in
theorem m_X4_refused (l : Launch) (D : va_G) (cI cS : ClassId) (q : Nat → Nat) (qb : Nat → Nat) (qs : Nat → Nat) (qS : Nat → Nat) (qC : Nat → Nat) (tr : Int32) (fa : Int32) (fr : Option Nat) (rb : Int32) (rl : Int32) (ra : Int32) (wl : Int32) (WS : Nat → Int32) (BI : Nat → Int32) (BA : Nat → Nat → Int32) (SI : Nat → Int32) (SA : Nat → Nat → Int32) (LN : Nat → Int32) (SZ : Nat → Int32) (CE : Nat → Nat → Int32) (a1 : Int32) : MX l D (tyz cI cS) yX4_refused cX4_refused 2 (some .int) (rmz 0 0) [.ref (q 0), .int a1] (wdX cI cS q qb qs qS qC (qb 0) (qs 0) tr fa fr rb rl ra wl WS BI BA SI SA LN SZ CE) (f_X4_refused a1) (fun o : Int32 × (Int32) => some (.int o.1)) (fun o : Int32 × (Int32) => wdX cI cS q qb qs qS qC (qb 0) (qs 0) tr o.2 fr rb rl ra wl WS BI BA SI SA LN SZ CE) := met_of (own := RX4) (by decide) rfl (Nat.le_of_ble_eq_true rfl) (fun X hxl hxD C => by
  subst hxl
  subst hxD
  show JR X _ _ 0 0 (f_X4_refused a1) (wdX cI cS q qb qs qS qC (qb 0) (qs 0) tr fa fr rb rl ra wl WS BI BA SI SA LN SZ CE) [(0, .ref (q 0)), (1, .int a1)] 0 []
  unfold f_X4_refused
  refine r_aload_n (pc := 0) C 0 dX4_refused_0 rfl rfl ?_
  refine r_iconst (pc := 1) C dX4_refused_1 (ci_0) ?_
  refine pf_X4_60 (pc := 2) (ws' := wdX cI cS q qb qs qS qC (qb 0) (qs 0) tr (0 : Int32) fr rb rl ra wl WS BI BA SI SA LN SZ CE) C 0 rfl rfl dX4_refused_2 rfl ?_
  refine r_iload_n (pc := 5) C 1 dX4_refused_5 rfl rfl ?_
  exact r_iret (pc := 6) C rfl rfl dX4_refused_6)
set_option maxHeartbeats 4000000 in
set_option maxRecDepth 100000 in
theorem m_X4_faulted (l : Launch) (D : va_G) (cI cS : ClassId) (q : Nat → Nat) (qb : Nat → Nat) (qs : Nat → Nat) (qS : Nat → Nat) (qC : Nat → Nat) (tr : Int32) (fa : Int32) (fr : Option Nat) (rb : Int32) (rl : Int32) (ra : Int32) (wl : Int32) (WS : Nat → Int32) (BI : Nat → Int32) (BA : Nat → Nat → Int32) (SI : Nat → Int32) (SA : Nat → Nat → Int32) (LN : Nat → Int32) (SZ : Nat → Int32) (CE : Nat → Nat → Int32) (a1 : Int32) : MX l D (tyz cI cS) yX4_faulted cX4_faulted 2 (some .int) (rmz 0 0) [.ref (q 0), .int a1] (wdX cI cS q qb qs qS qC (qb 0) (qs 0) tr fa fr rb rl ra wl WS BI BA SI SA LN SZ CE) (f_X4_faulted a1) (fun o : Int32 × (Int32) => some (.int o.1)) (fun o : Int32 × (Int32) => wdX cI cS q qb qs qS qC (qb 0) (qs 0) tr o.2 fr rb rl ra wl WS BI BA SI SA LN SZ CE) := met_of (own := RX4) (by decide) rfl (Nat.le_of_ble_eq_true rfl) (fun X hxl hxD C => by
  subst hxl
  subst hxD
  show JR X _ _ 0 0 (f_X4_faulted a1) (wdX cI cS q qb qs qS qC (qb 0) (qs 0) tr fa fr rb rl ra wl WS BI BA SI SA LN SZ CE) [(0, .ref (q 0)), (1, .int a1)] 0 []
  unfold f_X4_faulted
  refine r_aload_n (pc := 0) C 0 dX4_faulted_0 rfl rfl ?_
  refine r_iload_n (pc := 1) C 1 dX4_faulted_1 rfl rfl ?_
  refine pf_X4_60 (pc := 2) (ws' := wdX cI cS q qb qs qS qC (qb 0) (qs 0) tr a1 fr rb rl ra wl WS BI BA SI SA LN SZ CE) C 0 rfl rfl dX4_faulted_2 rfl ?_
  refine r_bipush (pc := 5) C dX4_faulted_5 (cb_m10) ?_
  refine r_iload_n (pc := 7) C 1 dX4_faulted_7 rfl rfl ?_
  refine r_isub (pc := 8) C dX4_faulted_8 ?_
  exact r_iret (pc := 9) C rfl rfl dX4_faulted_9)
set_option maxHeartbeats 4000000 in
set_option maxRecDepth 100000 in
theorem wj_X4_frontier_67 {cI cS : ClassId} (X : CX) (C : Cx X RX4 cX4_frontier 9 (some .int) (rmz 6 132) (tyz cI cS)) (q : Nat → Nat) (qb : Nat → Nat) (qs : Nat → Nat) (qS : Nat → Nat) (qC : Nat → Nat) (tr : Int32) (fa : Int32) (fr : Option Nat) (rb : Int32) (rl : Int32) (ra : Int32) (wl : Int32) (WS : Nat → Int32) (BI : Nat → Int32) (BA : Nat → Nat → Int32) (SI : Nat → Int32) (SA : Nat → Nat → Int32) (LN : Nat → Int32) (SZ : Nat → Int32) (CE : Nat → Nat → Int32) (a1 : Int32) (a3 : Int32) (a4 : Int32) (j7_67 : Int32) (hj24 : a1.toNatClampNeg < 4) : JR X (QF X (tyz cI cS) 0 0 (fun o : Int32 × (Int32) × (Option Nat) × (Int32) × (Int32) × (Int32) × (Nat → Int32) × (Nat → Nat → Int32) × (Nat) × (Nat) => some (.int o.1)) (fun o : Int32 × (Int32) × (Option Nat) × (Int32) × (Int32) × (Int32) × (Nat → Int32) × (Nat → Nat → Int32) × (Nat) × (Nat) => wdX cI cS q qb qs qS qC o.2.2.2.2.2.2.2.2.1 o.2.2.2.2.2.2.2.2.2 tr o.2.1 o.2.2.1 o.2.2.2.1 o.2.2.2.2.1 o.2.2.2.2.2.1 wl WS BI BA o.2.2.2.2.2.2.1 o.2.2.2.2.2.2.2.1 LN SZ CE)) 9 0 0 (jb_X4_frontier_67 qb qs qS fr rb rl ra SI SA SZ CE a1 a3 a4 j7_67) (wdX cI cS q qb qs qS qC (qb 0) (qs 0) tr fa fr rb rl ra wl WS BI BA SI SA LN SZ CE) [(0, .ref (q 0)), (3, .int a3), (4, .int a4), (6, .ref (qS a1.toNatClampNeg)), (7, .int j7_67)] 67 [] := by
  unfold jb_X4_frontier_67
  refine r_iload (pc := 67) C 4 dX4_frontier_67 rfl ?_
  refine r_if_eq (pc := 69) (tgt := 79) C dX4_frontier_69 (by decide) ?_ ?_
  · refine r_aload_n (pc := 79) C 0 dX4_frontier_79 rfl rfl ?_
    refine r_iconst (pc := 80) C dX4_frontier_80 (ci_0) ?_
    refine pf_X4_60 (pc := 81) (ws' := wdX cI cS q qb qs qS qC (qb 0) (qs 0) tr (0 : Int32) fr rb rl ra wl WS BI BA SI SA LN SZ CE) C 0 rfl rfl dX4_frontier_81 rfl ?_
    refine r_aload_n (pc := 84) C 0 dX4_frontier_84 rfl rfl ?_
    refine gf_X4_21 (pc := 85) C 0 rfl rfl dX4_frontier_85 ?_
    refine r_aload_n (pc := 88) C 0 dX4_frontier_88 rfl rfl ?_
    refine gf_X4_39 (pc := 89) C 0 rfl rfl dX4_frontier_89 ?_
    refine r_aload (pc := 92) C 3 dX4_frontier_92 rfl ?_
    refine r_iload_n (pc := 94) C 1 dX4_frontier_94 rfl rfl ?_
    refine r_iload (pc := 95) C 2 dX4_frontier_95 rfl ?_
    refine r_callV (pc := 97) (rest := []) C [2, 25 + 2 * a1.toNatClampNeg, 26 + 2 * a1.toNatClampNeg, 15, 16, 17, 18, 19, 20, 21, 22, 23, 24] (fun r97 => wdX cI cS q qb qs qS qC (qb 0) (qs 0) tr (0 : Int32) r97.2.1 r97.2.2.1 r97.2.2.2.1 r97.2.2.2.2.1 wl WS BI BA r97.2.2.2.2.2.1 r97.2.2.2.2.2.2 LN SZ CE) (m_X2_readInto (xl X) (xD X) cI cS (q 2) (qS a1.toNatClampNeg) (qC a1.toNatClampNeg) qs fr rb rl ra (LN a1.toNatClampNeg) (SZ a1.toNatClampNeg) (CE a1.toNatClampNeg) SI SA a3 a4) mv_X4_64 (wX_rc hj24) (wX_rn hj24) (fun _ => wX_rb hj24) (fun _ => rfl) rfl rfl rfl ⟨Nat.zero_le _, Nat.zero_le _⟩ rfl rfl (Nat.le_of_ble_eq_true rfl) dX4_frontier_97 (fun r97 => ?_)
    refine r_if_ne (pc := 100) (tgt := 114) C dX4_frontier_100 (by decide) ?_ ?_
    · refine r_aload_n (pc := 114) C 0 dX4_frontier_114 rfl rfl ?_
      refine gf_X4_39 (pc := 115) C 0 rfl rfl dX4_frontier_115 ?_
      refine r_astore (pc := 118) C dX4_frontier_118 (by decide) (lv' := [(8, .ref (qs 0)), (0, .ref (q 0)), (3, .int a3), (4, .int a4), (6, .ref (qS a1.toNatClampNeg)), (7, .int j7_67)]) rfl ?_
      refine r_aload_n (pc := 120) C 1 dX4_frontier_120 rfl rfl ?_
      refine r_aload_n (pc := 121) C 1 dX4_frontier_121 rfl rfl ?_
      refine gf_X4_35 (pc := 122) C 0 rfl rfl dX4_frontier_122 ?_
      refine pf_X4_39 (pc := 125) (ws' := wdX cI cS q qb qs qS qC (qb 0) (qb 0) tr (0 : Int32) r97.2.1 r97.2.2.1 r97.2.2.2.1 r97.2.2.2.2.1 wl WS BI BA r97.2.2.2.2.2.1 r97.2.2.2.2.2.2 LN SZ CE) C 0 rfl rfl dX4_frontier_125 rfl ?_
      refine r_aload_n (pc := 128) C 1 dX4_frontier_128 rfl rfl ?_
      refine r_aload (pc := 129) C 0 dX4_frontier_129 rfl ?_
      refine pf_X4_35 (pc := 131) (ws' := wdX cI cS q qb qs qS qC (qs 0) (qb 0) tr (0 : Int32) r97.2.1 r97.2.2.1 r97.2.2.2.1 r97.2.2.2.2.1 wl WS BI BA r97.2.2.2.2.2.1 r97.2.2.2.2.2.2 LN SZ CE) C 0 rfl rfl dX4_frontier_131 rfl ?_
      refine r_aload_n (pc := 134) C 1 dX4_frontier_134 rfl rfl ?_
      refine gf_X4_35 (pc := 135) C 0 rfl rfl dX4_frontier_135 ?_
      refine gf_X4_72 (pc := 138) C 15 rfl rfl dX4_frontier_138 ?_
      exact r_iret (pc := 141) C rfl rfl dX4_frontier_141
    · refine r_bipush (pc := 103) C dX4_frontier_103 (cb_m100) ?_
      refine r_aload_n (pc := 105) C 0 dX4_frontier_105 rfl rfl ?_
      refine gf_X4_21 (pc := 106) C 0 rfl rfl dX4_frontier_106 ?_
      refine r_callVr (pc := 109) (rest := [.int (-100 : Int32)]) C [2] (m_X2_place (xl X) (xD X) cI cS (q 2) r97.2.1 r97.2.2.1 r97.2.2.2.1 r97.2.2.2.2.1) mv_X4_68 rfl rfl rfl rfl rfl ⟨Nat.zero_le _, Nat.zero_le _⟩ rfl rfl (Nat.le_of_ble_eq_true rfl) dX4_frontier_109 (fun r109 => ?_)
      refine r_isub (pc := 112) C dX4_frontier_112 ?_
      exact r_iret (pc := 113) C rfl rfl dX4_frontier_113
  · refine r_aload_n (pc := 72) C 0 dX4_frontier_72 rfl rfl ?_
    refine r_iload (pc := 73) C 4 dX4_frontier_73 rfl ?_
    refine r_callV0 (pc := 75) (rest := []) C (m_X4_faulted (xl X) (xD X) cI cS q qb qs qS qC tr fa fr rb rl ra wl WS BI BA SI SA LN SZ CE j7_67) mv_X4_57 rfl rfl rfl ⟨Nat.zero_le _, Nat.zero_le _⟩ rfl rfl (Nat.le_of_ble_eq_true rfl) dX4_frontier_75 (fun r75 => ?_)
    exact r_iret (pc := 78) C rfl rfl dX4_frontier_78
set_option maxHeartbeats 4000000 in
set_option maxRecDepth 100000 in
theorem wj_X4_frontier_48 {cI cS : ClassId} (X : CX) (C : Cx X RX4 cX4_frontier 9 (some .int) (rmz 6 132) (tyz cI cS)) (q : Nat → Nat) (qb : Nat → Nat) (qs : Nat → Nat) (qS : Nat → Nat) (qC : Nat → Nat) (tr : Int32) (fa : Int32) (fr : Option Nat) (rb : Int32) (rl : Int32) (ra : Int32) (wl : Int32) (WS : Nat → Int32) (BI : Nat → Int32) (BA : Nat → Nat → Int32) (SI : Nat → Int32) (SA : Nat → Nat → Int32) (LN : Nat → Int32) (SZ : Nat → Int32) (CE : Nat → Nat → Int32) (a1 : Int32) (a3 : Int32) (a4 : Int32) (j7_48 : Int32) (hj24 : a1.toNatClampNeg < 4) : JR X (QF X (tyz cI cS) 0 0 (fun o : Int32 × (Int32) × (Option Nat) × (Int32) × (Int32) × (Int32) × (Nat → Int32) × (Nat → Nat → Int32) × (Nat) × (Nat) => some (.int o.1)) (fun o : Int32 × (Int32) × (Option Nat) × (Int32) × (Int32) × (Int32) × (Nat → Int32) × (Nat → Nat → Int32) × (Nat) × (Nat) => wdX cI cS q qb qs qS qC o.2.2.2.2.2.2.2.2.1 o.2.2.2.2.2.2.2.2.2 tr o.2.1 o.2.2.1 o.2.2.2.1 o.2.2.2.2.1 o.2.2.2.2.2.1 wl WS BI BA o.2.2.2.2.2.2.1 o.2.2.2.2.2.2.2.1 LN SZ CE)) 9 0 0 (jb_X4_frontier_48 qb qs qS fr rb rl ra SI SA SZ CE a1 a3 a4 j7_48) (wdX cI cS q qb qs qS qC (qb 0) (qs 0) tr fa fr rb rl ra wl WS BI BA SI SA LN SZ CE) [(0, .ref (q 0)), (3, .int a3), (4, .int a4), (6, .ref (qS a1.toNatClampNeg)), (7, .int j7_48)] 48 [] := by
  unfold jb_X4_frontier_48
  refine r_iload (pc := 48) C 4 dX4_frontier_48 rfl ?_
  refine r_if_ne (pc := 50) (tgt := 67) C dX4_frontier_50 (by decide) ?_ ?_
  · exact r_sub [0, 1, 2, 3, 4] rfl (wj_X4_frontier_67 X C q qb qs qS qC tr fa fr rb rl ra wl WS BI BA SI SA LN SZ CE a1 a3 a4 j7_48 hj24)
  · refine r_aload (pc := 53) C 3 dX4_frontier_53 rfl ?_
    refine r_iload_n (pc := 55) C 1 dX4_frontier_55 rfl rfl ?_
    refine r_iload (pc := 56) C 2 dX4_frontier_56 rfl ?_
    refine r_callVr (pc := 58) (rest := []) C [25 + 2 * a1.toNatClampNeg, 26 + 2 * a1.toNatClampNeg] (m_X1_hasCells (xl X) (xD X) cI cS (qS a1.toNatClampNeg) (qC a1.toNatClampNeg) (LN a1.toNatClampNeg) (SZ a1.toNatClampNeg) (CE a1.toNatClampNeg) a3 a4) mv_X4_53 (wX_c hj24) (wX_n hj24) rfl rfl rfl ⟨Nat.zero_le _, Nat.zero_le _⟩ rfl rfl (Nat.le_of_ble_eq_true rfl) dX4_frontier_58 (fun r58 => ?_)
    refine r_if_ne (pc := 61) (tgt := 67) C dX4_frontier_61 (by decide) ?_ ?_
    · exact r_sub [0, 1, 2, 3, 4] rfl (wj_X4_frontier_67 X C q qb qs qS qC tr fa fr rb rl ra wl WS BI BA SI SA LN SZ CE a1 a3 a4 j7_48 hj24)
    · refine r_iconst (pc := 64) C dX4_frontier_64 (ci_3) ?_
      refine r_istore (pc := 65) C dX4_frontier_65 (by decide) (lv' := [(7, .int (3 : Int32)), (0, .ref (q 0)), (3, .int a3), (4, .int a4), (6, .ref (qS a1.toNatClampNeg))]) rfl ?_
      exact r_sub [1, 2, 3, 4, 0] rfl (wj_X4_frontier_67 X C q qb qs qS qC tr fa fr rb rl ra wl WS BI BA SI SA LN SZ CE a1 a3 a4 (3 : Int32) hj24)
set_option maxHeartbeats 4000000 in
set_option maxRecDepth 100000 in
theorem m_X4_frontier (l : Launch) (D : va_G) (cI cS : ClassId) (q : Nat → Nat) (qb : Nat → Nat) (qs : Nat → Nat) (qS : Nat → Nat) (qC : Nat → Nat) (tr : Int32) (fa : Int32) (fr : Option Nat) (rb : Int32) (rl : Int32) (ra : Int32) (wl : Int32) (WS : Nat → Int32) (BI : Nat → Int32) (BA : Nat → Nat → Int32) (SI : Nat → Int32) (SA : Nat → Nat → Int32) (LN : Nat → Int32) (SZ : Nat → Int32) (CE : Nat → Nat → Int32) (a1 : Int32) (a2 : Int32) (a3 : Int32) (a4 : Int32) : MX l D (tyz cI cS) yX4_frontier cX4_frontier 9 (some .int) (rmz 6 132) [.ref (q 0), .int a1, .int a2, .int a3, .int a4] (wdX cI cS q qb qs qS qC (qb 0) (qs 0) tr fa fr rb rl ra wl WS BI BA SI SA LN SZ CE) (f_X4_frontier qb qs qS fr rb rl ra SI SA LN SZ CE a1 a2 a3 a4) (fun o : Int32 × (Int32) × (Option Nat) × (Int32) × (Int32) × (Int32) × (Nat → Int32) × (Nat → Nat → Int32) × (Nat) × (Nat) => some (.int o.1)) (fun o : Int32 × (Int32) × (Option Nat) × (Int32) × (Int32) × (Int32) × (Nat → Int32) × (Nat → Nat → Int32) × (Nat) × (Nat) => wdX cI cS q qb qs qS qC o.2.2.2.2.2.2.2.2.1 o.2.2.2.2.2.2.2.2.2 tr o.2.1 o.2.2.1 o.2.2.2.1 o.2.2.2.2.1 o.2.2.2.2.2.1 wl WS BI BA o.2.2.2.2.2.2.1 o.2.2.2.2.2.2.2.1 LN SZ CE) := met_of (own := RX4) (by decide) rfl (Nat.le_of_ble_eq_true rfl) (fun X hxl hxD C => by
  subst hxl
  subst hxD
  show JR X _ _ 0 0 (f_X4_frontier qb qs qS fr rb rl ra SI SA LN SZ CE a1 a2 a3 a4) (wdX cI cS q qb qs qS qC (qb 0) (qs 0) tr fa fr rb rl ra wl WS BI BA SI SA LN SZ CE) [(0, .ref (q 0)), (1, .int a1), (2, .int a2), (3, .int a3), (4, .int a4)] 0 []
  unfold f_X4_frontier
  refine r_iload_n (pc := 0) C 1 dX4_frontier_0 rfl rfl ?_
  refine r_iload_n (pc := 1) C 2 dX4_frontier_1 rfl rfl ?_
  refine r_callSr (pc := 2) (rest := []) C (m_X4_refusalOfRow (xl X) (xD X) cI cS a1 a2) ms_X4_42 rfl ⟨Nat.zero_le _, Nat.zero_le _⟩ rfl rfl (Nat.le_of_ble_eq_true rfl) dX4_frontier_2 (fun r2 => ?_)
  refine r_istore (pc := 5) C dX4_frontier_5 (by decide) (lv' := [(5, .int r2), (0, .ref (q 0)), (1, .int a1), (2, .int a2), (3, .int a3), (4, .int a4)]) rfl ?_
  refine r_iload (pc := 7) C 0 dX4_frontier_7 rfl ?_
  refine r_if_eq (pc := 9) (tgt := 19) C dX4_frontier_9 (by decide) ?_ ?_
  · refine r_aload_n (pc := 19) C 1 dX4_frontier_19 rfl rfl ?_
    refine gf_X4_13 (pc := 20) C 0 rfl rfl dX4_frontier_20 ?_
    refine r_iload_n (pc := 23) C 2 dX4_frontier_23 rfl rfl ?_
    refine r_aald (pc := 24) C 1 rfl dX4_frontier_24 (fun hj24 => ?_)
    refine r_astore (pc := 25) C dX4_frontier_25 (by decide) (lv' := [(6, .ref (qS a1.toNatClampNeg)), (5, .int r2), (0, .ref (q 0)), (1, .int a1), (2, .int a2), (3, .int a3), (4, .int a4)]) rfl ?_
    refine r_aload (pc := 27) C 0 dX4_frontier_27 rfl ?_
    refine r_iload_n (pc := 29) C 4 dX4_frontier_29 rfl rfl ?_
    refine r_callVr (pc := 30) (rest := []) C [25 + 2 * a1.toNatClampNeg, 26 + 2 * a1.toNatClampNeg] (m_X1_faultAs (xl X) (xD X) cI cS (qS a1.toNatClampNeg) (qC a1.toNatClampNeg) (LN a1.toNatClampNeg) (SZ a1.toNatClampNeg) (CE a1.toNatClampNeg) a2) mv_X4_50 (wX_c hj24) (wX_n hj24) rfl rfl rfl ⟨Nat.zero_le _, Nat.zero_le _⟩ rfl rfl (Nat.le_of_ble_eq_true rfl) dX4_frontier_30 (fun r30 => ?_)
    refine r_istore (pc := 33) C dX4_frontier_33 (by decide) (lv' := [(7, .int r30), (6, .ref (qS a1.toNatClampNeg)), (5, .int r2), (0, .ref (q 0)), (1, .int a1), (2, .int a2), (3, .int a3), (4, .int a4)]) rfl ?_
    refine r_iload (pc := 35) C 0 dX4_frontier_35 rfl ?_
    refine r_if_ne (pc := 37) (tgt := 48) C dX4_frontier_37 (by decide) ?_ ?_
    · exact r_sub [3, 6, 7, 1, 0] rfl (wj_X4_frontier_48 X C q qb qs qS qC tr fa fr rb rl ra wl WS BI BA SI SA LN SZ CE a1 a3 a4 r30 hj24)
    · refine r_iload (pc := 40) C 7 dX4_frontier_40 rfl ?_
      refine r_if_ge (pc := 42) (tgt := 48) C dX4_frontier_42 (by decide) ?_ ?_
      · exact r_sub [3, 6, 7, 1, 0] rfl (wj_X4_frontier_48 X C q qb qs qS qC tr fa fr rb rl ra wl WS BI BA SI SA LN SZ CE a1 a3 a4 r30 hj24)
      · refine r_iconst (pc := 45) C dX4_frontier_45 (ci_4) ?_
        refine r_istore (pc := 46) C dX4_frontier_46 (by decide) (lv' := [(7, .int (4 : Int32)), (6, .ref (qS a1.toNatClampNeg)), (5, .int r2), (0, .ref (q 0)), (1, .int a1), (2, .int a2), (3, .int a3), (4, .int a4)]) rfl ?_
        exact r_sub [3, 6, 7, 1, 0] rfl (wj_X4_frontier_48 X C q qb qs qS qC tr fa fr rb rl ra wl WS BI BA SI SA LN SZ CE a1 a3 a4 (4 : Int32) hj24)
  · refine r_aload_n (pc := 12) C 1 dX4_frontier_12 rfl rfl ?_
    refine r_iload (pc := 13) C 0 dX4_frontier_13 rfl ?_
    refine r_callV0 (pc := 15) (rest := []) C (m_X4_refused (xl X) (xD X) cI cS q qb qs qS qC tr fa fr rb rl ra wl WS BI BA SI SA LN SZ CE r2) mv_X4_46 rfl rfl rfl ⟨Nat.zero_le _, Nat.zero_le _⟩ rfl rfl (Nat.le_of_ble_eq_true rfl) dX4_frontier_15 (fun r15 => ?_)
    exact r_iret (pc := 18) C rfl rfl dX4_frontier_18)
set_option maxHeartbeats 4000000 in
set_option maxRecDepth 100000 in
theorem m_X4_ofPost (l : Launch) (D : va_G) (cI cS : ClassId) (q : Nat → Nat) (qb : Nat → Nat) (qs : Nat → Nat) (qS : Nat → Nat) (qC : Nat → Nat) (tr : Int32) (fa : Int32) (fr : Option Nat) (rb : Int32) (rl : Int32) (ra : Int32) (wl : Int32) (WS : Nat → Int32) (BI : Nat → Int32) (BA : Nat → Nat → Int32) (SI : Nat → Int32) (SA : Nat → Nat → Int32) (LN : Nat → Int32) (SZ : Nat → Int32) (CE : Nat → Nat → Int32) (a1 : Int32) (a2 : Int32) : MX l D (tyz cI cS) yX4_ofPost cX4_ofPost 3 (some .int) (rmz 1 21) [.ref (q 0), .int a1, .int a2] (wdX cI cS q qb qs qS qC (qb 0) (qs 0) tr fa fr rb rl ra wl WS BI BA SI SA LN SZ CE) (f_X4_ofPost BI BA a1 a2) (fun o : Int32 => some (.int o)) (fun o : Int32 => wdX cI cS q qb qs qS qC (qb 0) (qs 0) tr fa fr rb rl ra wl WS BI BA SI SA LN SZ CE) := met_of (own := RX4) (by decide) rfl (Nat.le_of_ble_eq_true rfl) (fun X hxl hxD C => by
  subst hxl
  subst hxD
  show JR X _ _ 0 0 (f_X4_ofPost BI BA a1 a2) (wdX cI cS q qb qs qS qC (qb 0) (qs 0) tr fa fr rb rl ra wl WS BI BA SI SA LN SZ CE) [(0, .ref (q 0)), (1, .int a1), (2, .int a2)] 0 []
  unfold f_X4_ofPost
  refine r_aload_n (pc := 0) C 0 dX4_ofPost_0 rfl rfl ?_
  refine gf_X4_35 (pc := 1) C 0 rfl rfl dX4_ofPost_1 ?_
  refine r_iload_n (pc := 4) C 1 dX4_ofPost_4 rfl rfl ?_
  refine r_callVr (pc := 5) (rest := []) C [5, 6, 7, 8, 9, 10, 11, 12, 13, 14] (m_X0_hasPost (xl X) (xD X) cI cS qb BI BA a1) mv_X4_75 rfl rfl rfl rfl rfl ⟨Nat.zero_le _, Nat.zero_le _⟩ rfl rfl (Nat.le_of_ble_eq_true rfl) dX4_ofPost_5 (fun r5 => ?_)
  refine r_if_ne (pc := 8) (tgt := 13) C dX4_ofPost_8 (by decide) ?_ ?_
  · refine r_iload_n (pc := 13) C 2 dX4_ofPost_13 rfl rfl ?_
    refine r_lk2 (pc := 14) (t1 := 40) (t2 := 50) (t3 := 60) (z1 := 0) (z2 := 1) C dX4_ofPost_14 rfl rfl (by decide) (by decide) (by decide) (by decide) ?_ ?_ ?_
    · refine r_aload_n (pc := 40) C 0 dX4_ofPost_40 rfl rfl ?_
      refine gf_X4_35 (pc := 41) C 0 rfl rfl dX4_ofPost_41 ?_
      refine gf_X4_79 (pc := 44) C 5 rfl rfl dX4_ofPost_44 ?_
      refine r_iload_n (pc := 47) C 1 dX4_ofPost_47 rfl rfl ?_
      refine r_iald (pc := 48) C 6 rfl dX4_ofPost_48 ?_
      exact r_iret (pc := 49) C rfl rfl dX4_ofPost_49
    · refine r_aload_n (pc := 50) C 0 dX4_ofPost_50 rfl rfl ?_
      refine gf_X4_35 (pc := 51) C 0 rfl rfl dX4_ofPost_51 ?_
      refine gf_X4_83 (pc := 54) C 5 rfl rfl dX4_ofPost_54 ?_
      refine r_iload_n (pc := 57) C 1 dX4_ofPost_57 rfl rfl ?_
      refine r_iald (pc := 58) C 7 rfl dX4_ofPost_58 ?_
      exact r_iret (pc := 59) C rfl rfl dX4_ofPost_59
    · refine r_bipush (pc := 60) C dX4_ofPost_60 (cb_m2) ?_
      exact r_iret (pc := 62) C rfl rfl dX4_ofPost_62
  · refine r_iconst (pc := 11) C dX4_ofPost_11 (ci_m1) ?_
    exact r_iret (pc := 12) C rfl rfl dX4_ofPost_12)
set_option maxHeartbeats 4000000 in
set_option maxRecDepth 100000 in
theorem m_X4_ofSilence (l : Launch) (D : va_G) (cI cS : ClassId) (q : Nat → Nat) (qb : Nat → Nat) (qs : Nat → Nat) (qS : Nat → Nat) (qC : Nat → Nat) (tr : Int32) (fa : Int32) (fr : Option Nat) (rb : Int32) (rl : Int32) (ra : Int32) (wl : Int32) (WS : Nat → Int32) (BI : Nat → Int32) (BA : Nat → Nat → Int32) (SI : Nat → Int32) (SA : Nat → Nat → Int32) (LN : Nat → Int32) (SZ : Nat → Int32) (CE : Nat → Nat → Int32) (a1 : Int32) (a2 : Int32) : MX l D (tyz cI cS) yX4_ofSilence cX4_ofSilence 3 (some .int) (rmz 2 42) [.ref (q 0), .int a1, .int a2] (wdX cI cS q qb qs qS qC (qb 0) (qs 0) tr fa fr rb rl ra wl WS BI BA SI SA LN SZ CE) (f_X4_ofSilence BI BA a1 a2) (fun o : Int32 => some (.int o)) (fun o : Int32 => wdX cI cS q qb qs qS qC (qb 0) (qs 0) tr fa fr rb rl ra wl WS BI BA SI SA LN SZ CE) := met_of (own := RX4) (by decide) rfl (Nat.le_of_ble_eq_true rfl) (fun X hxl hxD C => by
  subst hxl
  subst hxD
  show JR X _ _ 0 0 (f_X4_ofSilence BI BA a1 a2) (wdX cI cS q qb qs qS qC (qb 0) (qs 0) tr fa fr rb rl ra wl WS BI BA SI SA LN SZ CE) [(0, .ref (q 0)), (1, .int a1), (2, .int a2)] 0 []
  unfold f_X4_ofSilence
  refine r_aload_n (pc := 0) C 0 dX4_ofSilence_0 rfl rfl ?_
  refine gf_X4_35 (pc := 1) C 0 rfl rfl dX4_ofSilence_1 ?_
  refine r_iload_n (pc := 4) C 1 dX4_ofSilence_4 rfl rfl ?_
  refine r_callVr (pc := 5) (rest := []) C [5, 6, 7, 8, 9, 10, 11, 12, 13, 14] (m_X0_hasSilence (xl X) (xD X) cI cS qb BI BA a1) mv_X4_86 rfl rfl rfl rfl rfl ⟨Nat.zero_le _, Nat.zero_le _⟩ rfl rfl (Nat.le_of_ble_eq_true rfl) dX4_ofSilence_5 (fun r5 => ?_)
  refine r_if_ne (pc := 8) (tgt := 13) C dX4_ofSilence_8 (by decide) ?_ ?_
  · refine r_iload_n (pc := 13) C 2 dX4_ofSilence_13 rfl rfl ?_
    refine r_ite (fun h14_0 => ?_) (fun h14_0 => ?_)
    · refine r_tabIn (pc := 14) (tgt := 60) C h14_0 dX4_ofSilence_14 (by decide) (by decide) rfl (by decide) ?_
      refine r_aload_n (pc := 60) C 0 dX4_ofSilence_60 rfl rfl ?_
      refine gf_X4_35 (pc := 61) C 0 rfl rfl dX4_ofSilence_61 ?_
      refine gf_X4_89 (pc := 64) C 5 rfl rfl dX4_ofSilence_64 ?_
      refine r_iload_n (pc := 67) C 1 dX4_ofSilence_67 rfl rfl ?_
      refine r_iald (pc := 68) C 8 rfl dX4_ofSilence_68 ?_
      exact r_iret (pc := 69) C rfl rfl dX4_ofSilence_69
    refine r_ite (fun h14_1 => ?_) (fun h14_1 => ?_)
    · refine r_tabIn (pc := 14) (tgt := 70) C h14_1 dX4_ofSilence_14 (by decide) (by decide) rfl (by decide) ?_
      refine r_aload_n (pc := 70) C 0 dX4_ofSilence_70 rfl rfl ?_
      refine gf_X4_35 (pc := 71) C 0 rfl rfl dX4_ofSilence_71 ?_
      refine gf_X4_92 (pc := 74) C 5 rfl rfl dX4_ofSilence_74 ?_
      refine r_iload_n (pc := 77) C 1 dX4_ofSilence_77 rfl rfl ?_
      refine r_iald (pc := 78) C 9 rfl dX4_ofSilence_78 ?_
      exact r_iret (pc := 79) C rfl rfl dX4_ofSilence_79
    refine r_ite (fun h14_2 => ?_) (fun h14_2 => ?_)
    · refine r_tabIn (pc := 14) (tgt := 80) C h14_2 dX4_ofSilence_14 (by decide) (by decide) rfl (by decide) ?_
      refine r_aload_n (pc := 80) C 0 dX4_ofSilence_80 rfl rfl ?_
      refine gf_X4_35 (pc := 81) C 0 rfl rfl dX4_ofSilence_81 ?_
      refine gf_X4_95 (pc := 84) C 5 rfl rfl dX4_ofSilence_84 ?_
      refine r_iload_n (pc := 87) C 1 dX4_ofSilence_87 rfl rfl ?_
      refine r_iald (pc := 88) C 10 rfl dX4_ofSilence_88 ?_
      exact r_iret (pc := 89) C rfl rfl dX4_ofSilence_89
    refine r_ite (fun h14_3 => ?_) (fun h14_3 => ?_)
    · refine r_tabIn (pc := 14) (tgt := 90) C h14_3 dX4_ofSilence_14 (by decide) (by decide) rfl (by decide) ?_
      refine r_aload_n (pc := 90) C 0 dX4_ofSilence_90 rfl rfl ?_
      refine gf_X4_35 (pc := 91) C 0 rfl rfl dX4_ofSilence_91 ?_
      refine r_iload_n (pc := 94) C 1 dX4_ofSilence_94 rfl rfl ?_
      refine r_callVr (pc := 95) (rest := []) C [5, 6, 7, 8, 9, 10, 11, 12, 13, 14] (m_X0_gradeOf (xl X) (xD X) cI cS qb BI BA a1) mv_X4_98 rfl rfl rfl rfl rfl ⟨Nat.zero_le _, Nat.zero_le _⟩ rfl rfl (Nat.le_of_ble_eq_true rfl) dX4_ofSilence_95 (fun r95 => ?_)
      exact r_iret (pc := 98) C rfl rfl dX4_ofSilence_98
    refine r_ite (fun h14_4 => ?_) (fun h14_4 => ?_)
    · refine r_tabIn (pc := 14) (tgt := 99) C h14_4 dX4_ofSilence_14 (by decide) (by decide) rfl (by decide) ?_
      refine r_aload_n (pc := 99) C 0 dX4_ofSilence_99 rfl rfl ?_
      refine gf_X4_35 (pc := 100) C 0 rfl rfl dX4_ofSilence_100 ?_
      refine r_iload_n (pc := 103) C 1 dX4_ofSilence_103 rfl rfl ?_
      refine r_callVr (pc := 104) (rest := []) C [5, 6, 7, 8, 9, 10, 11, 12, 13, 14] (m_X0_weightOf (xl X) (xD X) cI cS qb BI BA a1) mv_X4_101 rfl rfl rfl rfl rfl ⟨Nat.zero_le _, Nat.zero_le _⟩ rfl rfl (Nat.le_of_ble_eq_true rfl) dX4_ofSilence_104 (fun r104 => ?_)
      exact r_iret (pc := 107) C rfl rfl dX4_ofSilence_107
    refine r_ite (fun h14_5 => ?_) (fun h14_5 => ?_)
    · refine r_tabIn (pc := 14) (tgt := 108) C h14_5 dX4_ofSilence_14 (by decide) (by decide) rfl (by decide) ?_
      refine r_aload_n (pc := 108) C 0 dX4_ofSilence_108 rfl rfl ?_
      refine gf_X4_35 (pc := 109) C 0 rfl rfl dX4_ofSilence_109 ?_
      refine gf_X4_104 (pc := 112) C 5 rfl rfl dX4_ofSilence_112 ?_
      refine r_iload_n (pc := 115) C 1 dX4_ofSilence_115 rfl rfl ?_
      refine r_iald (pc := 116) C 11 rfl dX4_ofSilence_116 ?_
      exact r_iret (pc := 117) C rfl rfl dX4_ofSilence_117
    refine r_ite (fun h14_6 => ?_) (fun h14_6 => ?_)
    · refine r_tabIn (pc := 14) (tgt := 118) C h14_6 dX4_ofSilence_14 (by decide) (by decide) rfl (by decide) ?_
      refine r_aload_n (pc := 118) C 0 dX4_ofSilence_118 rfl rfl ?_
      refine gf_X4_35 (pc := 119) C 0 rfl rfl dX4_ofSilence_119 ?_
      refine r_iload_n (pc := 122) C 1 dX4_ofSilence_122 rfl rfl ?_
      refine r_callVr (pc := 123) (rest := []) C [5, 6, 7, 8, 9, 10, 11, 12, 13, 14] (m_X0_isDeclared (xl X) (xD X) cI cS qb BI BA a1) mv_X4_107 rfl rfl rfl rfl rfl ⟨Nat.zero_le _, Nat.zero_le _⟩ rfl rfl (Nat.le_of_ble_eq_true rfl) dX4_ofSilence_123 (fun r123 => ?_)
      refine r_if_eq (pc := 126) (tgt := 133) C dX4_ofSilence_126 (by decide) ?_ ?_
      · refine r_iconst (pc := 133) C dX4_ofSilence_133 (ci_0) ?_
        exact r_iret (pc := 134) C rfl rfl dX4_ofSilence_134
      · refine r_iconst (pc := 129) C dX4_ofSilence_129 (ci_1) ?_
        refine r_goto (pc := 130) (tgt := 134) C dX4_ofSilence_130 (by decide) ?_
        exact r_iret (pc := 134) C rfl rfl dX4_ofSilence_134
    refine r_ite (fun h14_7 => ?_) (fun h14_7 => ?_)
    · refine r_tabIn (pc := 14) (tgt := 135) C h14_7 dX4_ofSilence_14 (by decide) (by decide) rfl (by decide) ?_
      refine r_aload_n (pc := 135) C 0 dX4_ofSilence_135 rfl rfl ?_
      refine gf_X4_35 (pc := 136) C 0 rfl rfl dX4_ofSilence_136 ?_
      refine r_iload_n (pc := 139) C 1 dX4_ofSilence_139 rfl rfl ?_
      refine r_callVr (pc := 140) (rest := []) C [5, 6, 7, 8, 9, 10, 11, 12, 13, 14] (m_X0_isDutiable (xl X) (xD X) cI cS qb BI BA a1) mv_X4_110 rfl rfl rfl rfl rfl ⟨Nat.zero_le _, Nat.zero_le _⟩ rfl rfl (Nat.le_of_ble_eq_true rfl) dX4_ofSilence_140 (fun r140 => ?_)
      refine r_if_eq (pc := 143) (tgt := 150) C dX4_ofSilence_143 (by decide) ?_ ?_
      · refine r_iconst (pc := 150) C dX4_ofSilence_150 (ci_0) ?_
        exact r_iret (pc := 151) C rfl rfl dX4_ofSilence_151
      · refine r_iconst (pc := 146) C dX4_ofSilence_146 (ci_1) ?_
        refine r_goto (pc := 147) (tgt := 151) C dX4_ofSilence_147 (by decide) ?_
        exact r_iret (pc := 151) C rfl rfl dX4_ofSilence_151
    refine r_tabOut (pc := 14) (tgt := 152) (N := 8) C (lt_s (lt_s (lt_s (lt_s (lt_s (lt_s (lt_s (lt_s lt_0 h14_0) h14_1) h14_2) h14_3) h14_4) h14_5) h14_6) h14_7) rfl dX4_ofSilence_14 (by decide) ?_
    refine r_bipush (pc := 152) C dX4_ofSilence_152 (cb_m2) ?_
    exact r_iret (pc := 154) C rfl rfl dX4_ofSilence_154
  · refine r_iconst (pc := 11) C dX4_ofSilence_11 (ci_m1) ?_
    exact r_iret (pc := 12) C rfl rfl dX4_ofSilence_12)
set_option maxHeartbeats 4000000 in
set_option maxRecDepth 100000 in
theorem m_X4_free (l : Launch) (D : va_G) (cI cS : ClassId) (q : Nat → Nat) (qb : Nat → Nat) (qs : Nat → Nat) (qS : Nat → Nat) (qC : Nat → Nat) (tr : Int32) (fa : Int32) (fr : Option Nat) (rb : Int32) (rl : Int32) (ra : Int32) (wl : Int32) (WS : Nat → Int32) (BI : Nat → Int32) (BA : Nat → Nat → Int32) (SI : Nat → Int32) (SA : Nat → Nat → Int32) (LN : Nat → Int32) (SZ : Nat → Int32) (CE : Nat → Nat → Int32) (a1 : Int32) : MX l D (tyz cI cS) yX4_free cX4_free 3 (some .int) (rmz 1 22) [.ref (q 0), .int a1] (wdX cI cS q qb qs qS qC (qb 0) (qs 0) tr fa fr rb rl ra wl WS BI BA SI SA LN SZ CE) (f_X4_free BI a1) (fun o : Int32 × (Nat → Int32) => some (.int o.1)) (fun o : Int32 × (Nat → Int32) => wdX cI cS q qb qs qS qC (qb 0) (qs 0) tr fa fr rb rl ra wl WS o.2 BA SI SA LN SZ CE) := met_of (own := RX4) (by decide) rfl (Nat.le_of_ble_eq_true rfl) (fun X hxl hxD C => by
  subst hxl
  subst hxD
  show JR X _ _ 0 0 (f_X4_free BI a1) (wdX cI cS q qb qs qS qC (qb 0) (qs 0) tr fa fr rb rl ra wl WS BI BA SI SA LN SZ CE) [(0, .ref (q 0)), (1, .int a1)] 0 []
  unfold f_X4_free
  refine r_iload_n (pc := 0) C 1 dX4_free_0 rfl rfl ?_
  refine r_iconst (pc := 1) C dX4_free_1 (ci_0) ?_
  refine r_bipush (pc := 2) C dX4_free_2 (cb_9) ?_
  refine r_callSr (pc := 4) (rest := []) C (m_X4_isWithin (xl X) (xD X) cI cS a1 (0 : Int32) (9 : Int32)) ms_X4_113 rfl ⟨Nat.zero_le _, Nat.zero_le _⟩ rfl rfl (Nat.le_of_ble_eq_true rfl) dX4_free_4 (fun r4 => ?_)
  refine r_if_ne (pc := 7) (tgt := 13) C dX4_free_7 (by decide) ?_ ?_
  · refine r_aload_n (pc := 13) C 0 dX4_free_13 rfl rfl ?_
    refine gf_X4_35 (pc := 14) C 0 rfl rfl dX4_free_14 ?_
    refine r_callVr (pc := 17) (rest := []) C [5, 6, 7, 8, 9, 10, 11, 12, 13, 14] (m_X0_isMissing (xl X) (xD X) cI cS qb BI BA) mv_X4_117 rfl rfl rfl rfl rfl ⟨Nat.zero_le _, Nat.zero_le _⟩ rfl rfl (Nat.le_of_ble_eq_true rfl) dX4_free_17 (fun r17 => ?_)
    refine r_if_eq (pc := 20) (tgt := 26) C dX4_free_20 (by decide) ?_ ?_
    · refine r_aload_n (pc := 26) C 0 dX4_free_26 rfl rfl ?_
      refine gf_X4_35 (pc := 27) C 0 rfl rfl dX4_free_27 ?_
      refine gf_X4_121 (pc := 30) C 5 rfl rfl dX4_free_30 ?_
      refine r_istore_n (pc := 33) C dX4_free_33 rfl (by decide) (lv' := [(2, .int (BI 11)), (0, .ref (q 0)), (1, .int a1)]) rfl ?_
      refine r_aload_n (pc := 34) C 1 dX4_free_34 rfl rfl ?_
      refine gf_X4_35 (pc := 35) C 0 rfl rfl dX4_free_35 ?_
      refine r_iload_n (pc := 38) C 2 dX4_free_38 rfl rfl ?_
      refine pf_X4_121 (pc := 39) (ws' := wdX cI cS q qb qs qS qC (qb 0) (qs 0) tr fa fr rb rl ra wl WS (upd BI 11 a1) BA SI SA LN SZ CE) C 5 rfl rfl dX4_free_39 rfl ?_
      refine r_iload_n (pc := 42) C 0 dX4_free_42 rfl rfl ?_
      exact r_iret (pc := 43) C rfl rfl dX4_free_43
    · refine r_bipush (pc := 23) C dX4_free_23 (cb_m3) ?_
      exact r_iret (pc := 25) C rfl rfl dX4_free_25
  · refine r_bipush (pc := 10) C dX4_free_10 (cb_m2) ?_
    exact r_iret (pc := 12) C rfl rfl dX4_free_12)
set_option maxHeartbeats 4000000 in
set_option maxRecDepth 100000 in
theorem m_X4_law (l : Launch) (D : va_G) (cI cS : ClassId) (q : Nat → Nat) (qb : Nat → Nat) (qs : Nat → Nat) (qS : Nat → Nat) (qC : Nat → Nat) (tr : Int32) (fa : Int32) (fr : Option Nat) (rb : Int32) (rl : Int32) (ra : Int32) (wl : Int32) (WS : Nat → Int32) (BI : Nat → Int32) (BA : Nat → Nat → Int32) (SI : Nat → Int32) (SA : Nat → Nat → Int32) (LN : Nat → Int32) (SZ : Nat → Int32) (CE : Nat → Nat → Int32) (a1 : Int32) : MX l D (tyz cI cS) yX4_law cX4_law 3 (some .int) (rmz 1 22) [.ref (q 0), .int a1] (wdX cI cS q qb qs qS qC (qb 0) (qs 0) tr fa fr rb rl ra wl WS BI BA SI SA LN SZ CE) (f_X4_law BI a1) (fun o : Int32 × (Nat → Int32) => some (.int o.1)) (fun o : Int32 × (Nat → Int32) => wdX cI cS q qb qs qS qC (qb 0) (qs 0) tr fa fr rb rl ra wl WS o.2 BA SI SA LN SZ CE) := met_of (own := RX4) (by decide) rfl (Nat.le_of_ble_eq_true rfl) (fun X hxl hxD C => by
  subst hxl
  subst hxD
  show JR X _ _ 0 0 (f_X4_law BI a1) (wdX cI cS q qb qs qS qC (qb 0) (qs 0) tr fa fr rb rl ra wl WS BI BA SI SA LN SZ CE) [(0, .ref (q 0)), (1, .int a1)] 0 []
  unfold f_X4_law
  refine r_iload_n (pc := 0) C 1 dX4_law_0 rfl rfl ?_
  refine r_iconst (pc := 1) C dX4_law_1 (ci_0) ?_
  refine r_bipush (pc := 2) C dX4_law_2 (cb_7) ?_
  refine r_callSr (pc := 4) (rest := []) C (m_X4_isWithin (xl X) (xD X) cI cS a1 (0 : Int32) (7 : Int32)) ms_X4_113 rfl ⟨Nat.zero_le _, Nat.zero_le _⟩ rfl rfl (Nat.le_of_ble_eq_true rfl) dX4_law_4 (fun r4 => ?_)
  refine r_if_ne (pc := 7) (tgt := 13) C dX4_law_7 (by decide) ?_ ?_
  · refine r_aload_n (pc := 13) C 0 dX4_law_13 rfl rfl ?_
    refine gf_X4_35 (pc := 14) C 0 rfl rfl dX4_law_14 ?_
    refine r_callVr (pc := 17) (rest := []) C [5, 6, 7, 8, 9, 10, 11, 12, 13, 14] (m_X0_isMissing (xl X) (xD X) cI cS qb BI BA) mv_X4_117 rfl rfl rfl rfl rfl ⟨Nat.zero_le _, Nat.zero_le _⟩ rfl rfl (Nat.le_of_ble_eq_true rfl) dX4_law_17 (fun r17 => ?_)
    refine r_if_eq (pc := 20) (tgt := 26) C dX4_law_20 (by decide) ?_ ?_
    · refine r_aload_n (pc := 26) C 0 dX4_law_26 rfl rfl ?_
      refine gf_X4_35 (pc := 27) C 0 rfl rfl dX4_law_27 ?_
      refine gf_X4_124 (pc := 30) C 5 rfl rfl dX4_law_30 ?_
      refine r_istore_n (pc := 33) C dX4_law_33 rfl (by decide) (lv' := [(2, .int (BI 10)), (0, .ref (q 0)), (1, .int a1)]) rfl ?_
      refine r_aload_n (pc := 34) C 1 dX4_law_34 rfl rfl ?_
      refine gf_X4_35 (pc := 35) C 0 rfl rfl dX4_law_35 ?_
      refine r_iload_n (pc := 38) C 2 dX4_law_38 rfl rfl ?_
      refine pf_X4_124 (pc := 39) (ws' := wdX cI cS q qb qs qS qC (qb 0) (qs 0) tr fa fr rb rl ra wl WS (upd BI 10 a1) BA SI SA LN SZ CE) C 5 rfl rfl dX4_law_39 rfl ?_
      refine r_iload_n (pc := 42) C 0 dX4_law_42 rfl rfl ?_
      exact r_iret (pc := 43) C rfl rfl dX4_law_43
    · refine r_bipush (pc := 23) C dX4_law_23 (cb_m3) ?_
      exact r_iret (pc := 25) C rfl rfl dX4_law_25
  · refine r_bipush (pc := 10) C dX4_law_10 (cb_m2) ?_
    exact r_iret (pc := 12) C rfl rfl dX4_law_12)
set_option maxHeartbeats 4000000 in
set_option maxRecDepth 100000 in
theorem m_X4_carry (l : Launch) (D : va_G) (cI cS : ClassId) (q : Nat → Nat) (qb : Nat → Nat) (qs : Nat → Nat) (qS : Nat → Nat) (qC : Nat → Nat) (tr : Int32) (fa : Int32) (fr : Option Nat) (rb : Int32) (rl : Int32) (ra : Int32) (wl : Int32) (WS : Nat → Int32) (BI : Nat → Int32) (BA : Nat → Nat → Int32) (SI : Nat → Int32) (SA : Nat → Nat → Int32) (LN : Nat → Int32) (SZ : Nat → Int32) (CE : Nat → Nat → Int32) (a1 : Int32) (a2 : Int32) : MX l D (tyz cI cS) yX4_carry cX4_carry 4 (some .int) (rmz 1 22) [.ref (q 0), .int a1, .int a2] (wdX cI cS q qb qs qS qC (qb 0) (qs 0) tr fa fr rb rl ra wl WS BI BA SI SA LN SZ CE) (f_X4_carry BI BA a1 a2) (fun o : Int32 × (Nat → Nat → Int32) => some (.int o.1)) (fun o : Int32 × (Nat → Nat → Int32) => wdX cI cS q qb qs qS qC (qb 0) (qs 0) tr fa fr rb rl ra wl WS BI o.2 SI SA LN SZ CE) := met_of (own := RX4) (by decide) rfl (Nat.le_of_ble_eq_true rfl) (fun X hxl hxD C => by
  subst hxl
  subst hxD
  show JR X _ _ 0 0 (f_X4_carry BI BA a1 a2) (wdX cI cS q qb qs qS qC (qb 0) (qs 0) tr fa fr rb rl ra wl WS BI BA SI SA LN SZ CE) [(0, .ref (q 0)), (1, .int a1), (2, .int a2)] 0 []
  unfold f_X4_carry
  refine r_aload_n (pc := 0) C 0 dX4_carry_0 rfl rfl ?_
  refine gf_X4_35 (pc := 1) C 0 rfl rfl dX4_carry_1 ?_
  refine r_iload_n (pc := 4) C 1 dX4_carry_4 rfl rfl ?_
  refine r_callVr (pc := 5) (rest := []) C [5, 6, 7, 8, 9, 10, 11, 12, 13, 14] (m_X0_hasSilence (xl X) (xD X) cI cS qb BI BA a1) mv_X4_86 rfl rfl rfl rfl rfl ⟨Nat.zero_le _, Nat.zero_le _⟩ rfl rfl (Nat.le_of_ble_eq_true rfl) dX4_carry_5 (fun r5 => ?_)
  refine r_if_eq (pc := 8) (tgt := 20) C dX4_carry_8 (by decide) ?_ ?_
  · refine r_iconst (pc := 20) C dX4_carry_20 (ci_m1) ?_
    exact r_iret (pc := 21) C rfl rfl dX4_carry_21
  · refine r_iload_n (pc := 11) C 2 dX4_carry_11 rfl rfl ?_
    refine r_iconst (pc := 12) C dX4_carry_12 (ci_0) ?_
    refine r_iconst (pc := 13) C dX4_carry_13 (ci_2) ?_
    refine r_callSr (pc := 14) (rest := []) C (m_X4_isWithin (xl X) (xD X) cI cS a2 (0 : Int32) (2 : Int32)) ms_X4_113 rfl ⟨Nat.zero_le _, Nat.zero_le _⟩ rfl rfl (Nat.le_of_ble_eq_true rfl) dX4_carry_14 (fun r14 => ?_)
    refine r_if_ne (pc := 17) (tgt := 22) C dX4_carry_17 (by decide) ?_ ?_
    · refine r_aload_n (pc := 22) C 0 dX4_carry_22 rfl rfl ?_
      refine gf_X4_35 (pc := 23) C 0 rfl rfl dX4_carry_23 ?_
      refine gf_X4_104 (pc := 26) C 5 rfl rfl dX4_carry_26 ?_
      refine r_iload_n (pc := 29) C 1 dX4_carry_29 rfl rfl ?_
      refine r_iald (pc := 30) C 11 rfl dX4_carry_30 ?_
      refine r_istore_n (pc := 31) C dX4_carry_31 rfl (by decide) (lv' := [(3, .int (BA 7 a1.toNatClampNeg)), (0, .ref (q 0)), (1, .int a1), (2, .int a2)]) rfl ?_
      refine r_aload_n (pc := 32) C 1 dX4_carry_32 rfl rfl ?_
      refine gf_X4_35 (pc := 33) C 0 rfl rfl dX4_carry_33 ?_
      refine gf_X4_104 (pc := 36) C 5 rfl rfl dX4_carry_36 ?_
      refine r_iload_n (pc := 39) C 2 dX4_carry_39 rfl rfl ?_
      refine r_iload_n (pc := 40) C 3 dX4_carry_40 rfl rfl ?_
      refine r_iast (pc := 41) (ws' := wdX cI cS q qb qs qS qC (qb 0) (qs 0) tr fa fr rb rl ra wl WS BI (va_up BA 7 (upd (BA 7) a1.toNatClampNeg a2)) SI SA LN SZ CE) C 11 rfl dX4_carry_41 rfl ?_
      refine r_iload_n (pc := 42) C 0 dX4_carry_42 rfl rfl ?_
      exact r_iret (pc := 43) C rfl rfl dX4_carry_43
    · refine r_iconst (pc := 20) C dX4_carry_20 (ci_m1) ?_
      exact r_iret (pc := 21) C rfl rfl dX4_carry_21)
set_option maxHeartbeats 4000000 in
set_option maxRecDepth 100000 in
theorem m_X4_declare (l : Launch) (D : va_G) (cI cS : ClassId) (q : Nat → Nat) (qb : Nat → Nat) (qs : Nat → Nat) (qS : Nat → Nat) (qC : Nat → Nat) (tr : Int32) (fa : Int32) (fr : Option Nat) (rb : Int32) (rl : Int32) (ra : Int32) (wl : Int32) (WS : Nat → Int32) (BI : Nat → Int32) (BA : Nat → Nat → Int32) (SI : Nat → Int32) (SA : Nat → Nat → Int32) (LN : Nat → Int32) (SZ : Nat → Int32) (CE : Nat → Nat → Int32) (a1 : Int32) (a2 : Int32) : MX l D (tyz cI cS) yX4_declare cX4_declare 3 (some .int) (rmz 1 21) [.ref (q 0), .int a1, .int a2] (wdX cI cS q qb qs qS qC (qb 0) (qs 0) tr fa fr rb rl ra wl WS BI BA SI SA LN SZ CE) (f_X4_declare BI a1 a2) (fun o : Int32 × (Nat → Int32) => some (.int o.1)) (fun o : Int32 × (Nat → Int32) => wdX cI cS q qb qs qS qC (qb 0) (qs 0) tr fa fr rb rl ra wl WS o.2 BA SI SA LN SZ CE) := met_of (own := RX4) (by decide) rfl (Nat.le_of_ble_eq_true rfl) (fun X hxl hxD C => by
  subst hxl
  subst hxD
  show JR X _ _ 0 0 (f_X4_declare BI a1 a2) (wdX cI cS q qb qs qS qC (qb 0) (qs 0) tr fa fr rb rl ra wl WS BI BA SI SA LN SZ CE) [(0, .ref (q 0)), (1, .int a1), (2, .int a2)] 0 []
  unfold f_X4_declare
  refine r_aload_n (pc := 0) C 0 dX4_declare_0 rfl rfl ?_
  refine gf_X4_35 (pc := 1) C 0 rfl rfl dX4_declare_1 ?_
  refine r_iload_n (pc := 4) C 1 dX4_declare_4 rfl rfl ?_
  refine r_callVr (pc := 5) (rest := []) C [5, 6, 7, 8, 9, 10, 11, 12, 13, 14] (m_X0_hasSilence (xl X) (xD X) cI cS qb BI BA a1) mv_X4_86 rfl rfl rfl rfl rfl ⟨Nat.zero_le _, Nat.zero_le _⟩ rfl rfl (Nat.le_of_ble_eq_true rfl) dX4_declare_5 (fun r5 => ?_)
  refine r_if_ne (pc := 8) (tgt := 13) C dX4_declare_8 (by decide) ?_ ?_
  · refine r_aload_n (pc := 13) C 0 dX4_declare_13 rfl rfl ?_
    refine gf_X4_35 (pc := 14) C 0 rfl rfl dX4_declare_14 ?_
    refine r_iload_n (pc := 17) C 1 dX4_declare_17 rfl rfl ?_
    refine r_callVr (pc := 18) (rest := []) C [5, 6, 7, 8, 9, 10, 11, 12, 13, 14] (m_X0_isDeclared (xl X) (xD X) cI cS qb BI BA a1) mv_X4_107 rfl rfl rfl rfl rfl ⟨Nat.zero_le _, Nat.zero_le _⟩ rfl rfl (Nat.le_of_ble_eq_true rfl) dX4_declare_18 (fun r18 => ?_)
    refine r_iload_n (pc := 21) C 2 dX4_declare_21 rfl rfl ?_
    refine r_icmp_ne (pc := 22) (tgt := 27) C dX4_declare_22 (by decide) ?_ ?_
    · refine r_aload_n (pc := 27) C 0 dX4_declare_27 rfl rfl ?_
      refine gf_X4_35 (pc := 28) C 0 rfl rfl dX4_declare_28 ?_
      refine r_dup (pc := 31) C dX4_declare_31 rfl ?_
      refine gf_X4_127 (pc := 32) C 5 rfl rfl dX4_declare_32 ?_
      refine r_iconst (pc := 35) C dX4_declare_35 (ci_1) ?_
      refine r_iload_n (pc := 36) C 1 dX4_declare_36 rfl rfl ?_
      refine r_ishl (pc := 37) C dX4_declare_37 ?_
      refine r_ixor (pc := 38) C dX4_declare_38 ?_
      refine pf_X4_127 (pc := 39) (ws' := wdX cI cS q qb qs qS qC (qb 0) (qs 0) tr fa fr rb rl ra wl WS (upd BI 9 ((BI 9) ^^^ ((1 : Int32) <<< (a1 &&& 31)))) BA SI SA LN SZ CE) C 5 rfl rfl dX4_declare_39 rfl ?_
      refine r_iconst (pc := 42) C dX4_declare_42 (ci_1) ?_
      exact r_iret (pc := 43) C rfl rfl dX4_declare_43
    · refine r_iconst (pc := 25) C dX4_declare_25 (ci_0) ?_
      exact r_iret (pc := 26) C rfl rfl dX4_declare_26
  · refine r_iconst (pc := 11) C dX4_declare_11 (ci_m1) ?_
    exact r_iret (pc := 12) C rfl rfl dX4_declare_12)
set_option maxHeartbeats 4000000 in
set_option maxRecDepth 100000 in
theorem m_X4_hum (l : Launch) (D : va_G) (cI cS : ClassId) (q : Nat → Nat) (qb : Nat → Nat) (qs : Nat → Nat) (qS : Nat → Nat) (qC : Nat → Nat) (tr : Int32) (fa : Int32) (fr : Option Nat) (rb : Int32) (rl : Int32) (ra : Int32) (wl : Int32) (WS : Nat → Int32) (BI : Nat → Int32) (BA : Nat → Nat → Int32) (SI : Nat → Int32) (SA : Nat → Nat → Int32) (LN : Nat → Int32) (SZ : Nat → Int32) (CE : Nat → Nat → Int32) (a1 : Int32) (a2 : Int32) : MX l D (tyz cI cS) yX4_hum cX4_hum 4 (some .int) (rmz 1 22) [.ref (q 0), .int a1, .int a2] (wdX cI cS q qb qs qS qC (qb 0) (qs 0) tr fa fr rb rl ra wl WS BI BA SI SA LN SZ CE) (f_X4_hum BI BA a1 a2) (fun o : Int32 × (Nat → Nat → Int32) => some (.int o.1)) (fun o : Int32 × (Nat → Nat → Int32) => wdX cI cS q qb qs qS qC (qb 0) (qs 0) tr fa fr rb rl ra wl WS BI o.2 SI SA LN SZ CE) := met_of (own := RX4) (by decide) rfl (Nat.le_of_ble_eq_true rfl) (fun X hxl hxD C => by
  subst hxl
  subst hxD
  show JR X _ _ 0 0 (f_X4_hum BI BA a1 a2) (wdX cI cS q qb qs qS qC (qb 0) (qs 0) tr fa fr rb rl ra wl WS BI BA SI SA LN SZ CE) [(0, .ref (q 0)), (1, .int a1), (2, .int a2)] 0 []
  unfold f_X4_hum
  refine r_iload_n (pc := 0) C 1 dX4_hum_0 rfl rfl ?_
  refine r_iconst (pc := 1) C dX4_hum_1 (ci_0) ?_
  refine r_iconst (pc := 2) C dX4_hum_2 (ci_2) ?_
  refine r_callSr (pc := 3) (rest := []) C (m_X4_isWithin (xl X) (xD X) cI cS a1 (0 : Int32) (2 : Int32)) ms_X4_113 rfl ⟨Nat.zero_le _, Nat.zero_le _⟩ rfl rfl (Nat.le_of_ble_eq_true rfl) dX4_hum_3 (fun r3 => ?_)
  refine r_if_ne (pc := 6) (tgt := 11) C dX4_hum_6 (by decide) ?_ ?_
  · refine r_iload_n (pc := 11) C 2 dX4_hum_11 rfl rfl ?_
    refine r_iconst (pc := 12) C dX4_hum_12 (ci_0) ?_
    refine r_bipush (pc := 13) C dX4_hum_13 (cb_9) ?_
    refine r_callSr (pc := 15) (rest := []) C (m_X4_isWithin (xl X) (xD X) cI cS a2 (0 : Int32) (9 : Int32)) ms_X4_113 rfl ⟨Nat.zero_le _, Nat.zero_le _⟩ rfl rfl (Nat.le_of_ble_eq_true rfl) dX4_hum_15 (fun r15 => ?_)
    refine r_if_ne (pc := 18) (tgt := 24) C dX4_hum_18 (by decide) ?_ ?_
    · refine r_aload_n (pc := 24) C 0 dX4_hum_24 rfl rfl ?_
      refine gf_X4_35 (pc := 25) C 0 rfl rfl dX4_hum_25 ?_
      refine r_callVr (pc := 28) (rest := []) C [5, 6, 7, 8, 9, 10, 11, 12, 13, 14] (m_X0_isMissing (xl X) (xD X) cI cS qb BI BA) mv_X4_117 rfl rfl rfl rfl rfl ⟨Nat.zero_le _, Nat.zero_le _⟩ rfl rfl (Nat.le_of_ble_eq_true rfl) dX4_hum_28 (fun r28 => ?_)
      refine r_if_eq (pc := 31) (tgt := 37) C dX4_hum_31 (by decide) ?_ ?_
      · refine r_aload_n (pc := 37) C 0 dX4_hum_37 rfl rfl ?_
        refine gf_X4_35 (pc := 38) C 0 rfl rfl dX4_hum_38 ?_
        refine gf_X4_130 (pc := 41) C 5 rfl rfl dX4_hum_41 ?_
        refine r_iload_n (pc := 44) C 1 dX4_hum_44 rfl rfl ?_
        refine r_iald (pc := 45) C 12 rfl dX4_hum_45 ?_
        refine r_istore_n (pc := 46) C dX4_hum_46 rfl (by decide) (lv' := [(3, .int (BA 8 a1.toNatClampNeg)), (0, .ref (q 0)), (1, .int a1), (2, .int a2)]) rfl ?_
        refine r_aload_n (pc := 47) C 1 dX4_hum_47 rfl rfl ?_
        refine gf_X4_35 (pc := 48) C 0 rfl rfl dX4_hum_48 ?_
        refine gf_X4_130 (pc := 51) C 5 rfl rfl dX4_hum_51 ?_
        refine r_iload_n (pc := 54) C 2 dX4_hum_54 rfl rfl ?_
        refine r_iload_n (pc := 55) C 3 dX4_hum_55 rfl rfl ?_
        refine r_iast (pc := 56) (ws' := wdX cI cS q qb qs qS qC (qb 0) (qs 0) tr fa fr rb rl ra wl WS BI (va_up BA 8 (upd (BA 8) a1.toNatClampNeg a2)) SI SA LN SZ CE) C 12 rfl dX4_hum_56 rfl ?_
        refine r_iload_n (pc := 57) C 0 dX4_hum_57 rfl rfl ?_
        exact r_iret (pc := 58) C rfl rfl dX4_hum_58
      · refine r_bipush (pc := 34) C dX4_hum_34 (cb_m3) ?_
        exact r_iret (pc := 36) C rfl rfl dX4_hum_36
    · refine r_bipush (pc := 21) C dX4_hum_21 (cb_m2) ?_
      exact r_iret (pc := 23) C rfl rfl dX4_hum_23
  · refine r_iconst (pc := 9) C dX4_hum_9 (ci_m1) ?_
    exact r_iret (pc := 10) C rfl rfl dX4_hum_10)
set_option maxHeartbeats 4000000 in
set_option maxRecDepth 100000 in
theorem m_X4_duty (l : Launch) (D : va_G) (cI cS : ClassId) (q : Nat → Nat) (qb : Nat → Nat) (qs : Nat → Nat) (qS : Nat → Nat) (qC : Nat → Nat) (tr : Int32) (fa : Int32) (fr : Option Nat) (rb : Int32) (rl : Int32) (ra : Int32) (wl : Int32) (WS : Nat → Int32) (BI : Nat → Int32) (BA : Nat → Nat → Int32) (SI : Nat → Int32) (SA : Nat → Nat → Int32) (LN : Nat → Int32) (SZ : Nat → Int32) (CE : Nat → Nat → Int32) (a1 : Int32) : MX l D (tyz cI cS) yX4_duty cX4_duty 2 (some .int) (rmz 4 89) [.ref (q 0), .int a1] (wdX cI cS q qb qs qS qC (qb 0) (qs 0) tr fa fr rb rl ra wl WS BI BA SI SA LN SZ CE) (f_X4_duty BI BA a1) (fun o : Int32 => some (.int o)) (fun o : Int32 => wdX cI cS q qb qs qS qC (qb 0) (qs 0) tr fa fr rb rl ra wl WS BI BA SI SA LN SZ CE) := met_of (own := RX4) (by decide) rfl (Nat.le_of_ble_eq_true rfl) (fun X hxl hxD C => by
  subst hxl
  subst hxD
  show JR X _ _ 0 0 (f_X4_duty BI BA a1) (wdX cI cS q qb qs qS qC (qb 0) (qs 0) tr fa fr rb rl ra wl WS BI BA SI SA LN SZ CE) [(0, .ref (q 0)), (1, .int a1)] 0 []
  unfold f_X4_duty
  refine r_aload_n (pc := 0) C 0 dX4_duty_0 rfl rfl ?_
  refine gf_X4_35 (pc := 1) C 0 rfl rfl dX4_duty_1 ?_
  refine r_iload_n (pc := 4) C 1 dX4_duty_4 rfl rfl ?_
  refine r_callVr (pc := 5) (rest := []) C [5, 6, 7, 8, 9, 10, 11, 12, 13, 14] (m_X0_hasPost (xl X) (xD X) cI cS qb BI BA a1) mv_X4_75 rfl rfl rfl rfl rfl ⟨Nat.zero_le _, Nat.zero_le _⟩ rfl rfl (Nat.le_of_ble_eq_true rfl) dX4_duty_5 (fun r5 => ?_)
  refine r_if_ne (pc := 8) (tgt := 13) C dX4_duty_8 (by decide) ?_ ?_
  · refine r_aload_n (pc := 13) C 0 dX4_duty_13 rfl rfl ?_
    refine gf_X4_35 (pc := 14) C 0 rfl rfl dX4_duty_14 ?_
    refine r_iload_n (pc := 17) C 1 dX4_duty_17 rfl rfl ?_
    refine r_callVr (pc := 18) (rest := []) C [5, 6, 7, 8, 9, 10, 11, 12, 13, 14] (m_X0_dutyAt (xl X) (xD X) cI cS qb BI BA a1) mv_X4_133 rfl rfl rfl rfl rfl ⟨Nat.zero_le _, Nat.zero_le _⟩ rfl rfl (Nat.le_of_ble_eq_true rfl) dX4_duty_18 (fun r18 => ?_)
    exact r_iret (pc := 21) C rfl rfl dX4_duty_21
  · refine r_iconst (pc := 11) C dX4_duty_11 (ci_m1) ?_
    exact r_iret (pc := 12) C rfl rfl dX4_duty_12)
set_option maxHeartbeats 4000000 in
set_option maxRecDepth 100000 in
theorem wl_X4_commonDivisor_9 {cI cS : ClassId} (X : CX) (C : Cx X RX4 cX4_commonDivisor 11 (some .long) (rmz 0 0) (tyz cI cS))   (kk : Int64 → Int64 → Int32 → Option (Int64)) (hk_9 : ∀ (el4_9 : Int64) (el6_9 : Int64) (el8_9 : Int32), JR X (QF X (tyz cI cS) 0 0 (fun o : Int64 => some (.long o)) (fun o : Int64 => [])) 11 0 0 (kk el4_9 el6_9 el8_9) ([]) [(4, .long el4_9)] 44 []) : ∀ (fuel : Nat) (l4_9 : Int64) (l6_9 : Int64) (l8_9 : Int32), JR X (QF X (tyz cI cS) 0 0 (fun o : Int64 => some (.long o)) (fun o : Int64 => [])) 11 0 0 (lp_X4_commonDivisor_9 kk fuel l4_9 l6_9 l8_9) ([]) [(4, .long l4_9), (6, .long l6_9), (8, .int l8_9)] 9 [] := by
  intro fuel
  induction fuel with
  | zero => intro l4_9 l6_9 l8_9; exact r_none
  | succ fu_9 ih_9 =>
    intro l4_9 l6_9 l8_9
    unfold lp_X4_commonDivisor_9
    refine r_iload (pc := 9) C 2 dX4_commonDivisor_9 rfl ?_
    refine r_bipush (pc := 11) C dX4_commonDivisor_11 (cb_100) ?_
    refine r_icmp_ge (pc := 13) (tgt := 44) C dX4_commonDivisor_13 (by decide) ?_ ?_
    · exact r_sub [0] rfl (hk_9 l4_9 l6_9 l8_9)
    · refine r_lload (pc := 16) C 1 dX4_commonDivisor_16 rfl ?_
      refine r_lconst (pc := 18) (v := 0) C dX4_commonDivisor_18 rfl ?_
      refine r_lcmp (pc := 19) C dX4_commonDivisor_19 ?_
      refine r_if_eq (pc := 20) (tgt := 44) C dX4_commonDivisor_20 (by decide) ?_ ?_
      · exact r_sub [0] rfl (hk_9 l4_9 l6_9 l8_9)
      · refine r_lload (pc := 23) C 0 dX4_commonDivisor_23 rfl ?_
        refine r_lload (pc := 25) C 1 dX4_commonDivisor_25 rfl ?_
        refine r_lrem (pc := 27) C dX4_commonDivisor_27 ?_
        refine r_lstore (pc := 28) C dX4_commonDivisor_28 (by decide) (lv' := [(9, .long (l4_9 - l4_9 / l6_9 * l6_9)), (4, .long l4_9), (6, .long l6_9), (8, .int l8_9)]) rfl ?_
        refine r_lload (pc := 30) C 2 dX4_commonDivisor_30 rfl ?_
        refine r_lstore (pc := 32) C dX4_commonDivisor_32 (by decide) (lv' := [(4, .long l6_9), (9, .long (l4_9 - l4_9 / l6_9 * l6_9)), (6, .long l6_9), (8, .int l8_9)]) rfl ?_
        refine r_lload (pc := 34) C 1 dX4_commonDivisor_34 rfl ?_
        refine r_lstore (pc := 36) C dX4_commonDivisor_36 (by decide) (lv' := [(6, .long (l4_9 - l4_9 / l6_9 * l6_9)), (4, .long l6_9), (9, .long (l4_9 - l4_9 / l6_9 * l6_9)), (8, .int l8_9)]) rfl ?_
        refine r_iinc (pc := 38) C 3 dX4_commonDivisor_38 rfl (ci_1) (by decide) (lv' := [(8, .int (l8_9 + (1 : Int32))), (6, .long (l4_9 - l4_9 / l6_9 * l6_9)), (4, .long l6_9), (9, .long (l4_9 - l4_9 / l6_9 * l6_9))]) rfl ?_
        refine r_goto (pc := 41) (tgt := 9) C dX4_commonDivisor_41 (by decide) ?_
        exact r_sub [2, 1, 0] rfl (ih_9 l6_9 (l4_9 - l4_9 / l6_9 * l6_9) (l8_9 + (1 : Int32)))
set_option maxHeartbeats 4000000 in
set_option maxRecDepth 100000 in
theorem m_X4_commonDivisor (l : Launch) (D : va_G) (cI cS : ClassId) (a0 : Int64) (a2 : Int64) : MX l D (tyz cI cS) yX4_commonDivisor cX4_commonDivisor 11 (some .long) (rmz 0 0) [.long a0, .long a2] ([]) (f_X4_commonDivisor a0 a2) (fun o : Int64 => some (.long o)) (fun o : Int64 => []) := met_of (own := RX4) (by decide) rfl (Nat.le_of_ble_eq_true rfl) (fun X hxl hxD C => by
  subst hxl
  subst hxD
  show JR X _ _ 0 0 (f_X4_commonDivisor a0 a2) ([]) [(0, .long a0), (2, .long a2)] 0 []
  unfold f_X4_commonDivisor
  refine r_lload_n (pc := 0) C 0 dX4_commonDivisor_0 rfl rfl ?_
  refine r_lstore (pc := 1) C dX4_commonDivisor_1 (by decide) (lv' := [(4, .long a0), (0, .long a0), (2, .long a2)]) rfl ?_
  refine r_lload_n (pc := 3) C 2 dX4_commonDivisor_3 rfl rfl ?_
  refine r_lstore (pc := 4) C dX4_commonDivisor_4 (by decide) (lv' := [(6, .long a2), (4, .long a0), (0, .long a0), (2, .long a2)]) rfl ?_
  refine r_iconst (pc := 6) C dX4_commonDivisor_6 (ci_0) ?_
  refine r_istore (pc := 7) C dX4_commonDivisor_7 (by decide) (lv' := [(8, .int (0 : Int32)), (6, .long a2), (4, .long a0), (0, .long a0), (2, .long a2)]) rfl ?_
  refine r_sub [2, 1, 0] rfl (wl_X4_commonDivisor_9 X C   _ (fun el4_9 el6_9 el8_9 => ?_) 1000 a0 a2 (0 : Int32))
  refine r_lload (pc := 44) C 0 dX4_commonDivisor_44 rfl ?_
  exact r_lret (pc := 46) C rfl rfl dX4_commonDivisor_46)
set_option maxHeartbeats 4000000 in
set_option maxRecDepth 100000 in
theorem wj_X4_leastTerms_17 {cI cS : ClassId} (X : CX) (C : Cx X RX4 cX4_leastTerms 9 (some .long) (rmz 1 30) (tyz cI cS)) (r2 : Int64) (s0_17 : Int64)  : JR X (QF X (tyz cI cS) 0 0 (fun o : Int64 => some (.long o)) (fun o : Int64 => [])) 9 0 0 (jb_X4_leastTerms_17 r2 s0_17) ([]) [(5, .long r2)] 17 [.long s0_17] := by
  unfold jb_X4_leastTerms_17
  refine r_lstore (pc := 17) C dX4_leastTerms_17 (by decide) (lv' := [(7, .long s0_17), (5, .long r2)]) rfl ?_
  refine r_lload (pc := 19) C 1 dX4_leastTerms_19 rfl ?_
  refine r_lconst (pc := 21) (v := 0) C dX4_leastTerms_21 rfl ?_
  refine r_lcmp (pc := 22) C dX4_leastTerms_22 ?_
  refine r_if_ne (pc := 23) (tgt := 31) C dX4_leastTerms_23 (by decide) ?_ ?_
  · refine r_lload (pc := 31) C 0 dX4_leastTerms_31 rfl ?_
    refine r_lload (pc := 33) C 1 dX4_leastTerms_33 rfl ?_
    refine r_ldiv (pc := 35) C dX4_leastTerms_35 ?_
    exact r_lret (pc := 36) C rfl rfl dX4_leastTerms_36
  · refine r_lload (pc := 26) C 0 dX4_leastTerms_26 rfl ?_
    refine r_goto (pc := 28) (tgt := 36) C dX4_leastTerms_28 (by decide) ?_
    exact r_lret (pc := 36) C rfl rfl dX4_leastTerms_36
set_option maxHeartbeats 4000000 in
set_option maxRecDepth 100000 in
theorem m_X4_leastTerms (l : Launch) (D : va_G) (cI cS : ClassId) (a0 : Int64) (a2 : Int64) (a4 : Int32) : MX l D (tyz cI cS) yX4_leastTerms cX4_leastTerms 9 (some .long) (rmz 1 30) [.long a0, .long a2, .int a4] ([]) (f_X4_leastTerms a0 a2 a4) (fun o : Int64 => some (.long o)) (fun o : Int64 => []) := met_of (own := RX4) (by decide) rfl (Nat.le_of_ble_eq_true rfl) (fun X hxl hxD C => by
  subst hxl
  subst hxD
  show JR X _ _ 0 0 (f_X4_leastTerms a0 a2 a4) ([]) [(0, .long a0), (2, .long a2), (4, .int a4)] 0 []
  unfold f_X4_leastTerms
  refine r_lload_n (pc := 0) C 0 dX4_leastTerms_0 rfl rfl ?_
  refine r_lload_n (pc := 1) C 1 dX4_leastTerms_1 rfl rfl ?_
  refine r_callSr (pc := 2) (rest := []) C (m_X4_commonDivisor (xl X) (xD X) cI cS a0 a2) ms_X4_258 rfl ⟨Nat.zero_le _, Nat.zero_le _⟩ rfl rfl (Nat.le_of_ble_eq_true rfl) dX4_leastTerms_2 (fun r2 => ?_)
  refine r_lstore (pc := 5) C dX4_leastTerms_5 (by decide) (lv' := [(5, .long r2), (0, .long a0), (2, .long a2), (4, .int a4)]) rfl ?_
  refine r_iload (pc := 7) C 3 dX4_leastTerms_7 rfl ?_
  refine r_if_ne (pc := 9) (tgt := 16) C dX4_leastTerms_9 (by decide) ?_ ?_
  · refine r_lload_n (pc := 16) C 2 dX4_leastTerms_16 rfl rfl ?_
    exact r_sub [0] rfl (wj_X4_leastTerms_17 X C r2 a2 )
  · refine r_lload_n (pc := 12) C 1 dX4_leastTerms_12 rfl rfl ?_
    refine r_goto (pc := 13) (tgt := 17) C dX4_leastTerms_13 (by decide) ?_
    exact r_sub [0] rfl (wj_X4_leastTerms_17 X C r2 a0 ))
set_option maxHeartbeats 4000000 in
set_option maxRecDepth 100000 in
theorem wl_X4_clear_32 {cI cS : ClassId} (X : CX) (C : Cx X RX4 cX4_clear 8 (some .long) (rmz 2 58) (tyz cI cS)) (q : Nat → Nat) (qb : Nat → Nat) (qs : Nat → Nat) (qS : Nat → Nat) (qC : Nat → Nat) (tr : Int32) (fa : Int32) (fr : Option Nat) (rb : Int32) (rl : Int32) (ra : Int32) (wl : Int32) (WS : Nat → Int32) (BI : Nat → Int32) (BA : Nat → Nat → Int32) (SI : Nat → Int32) (SA : Nat → Nat → Int32) (LN : Nat → Int32) (SZ : Nat → Int32) (CE : Nat → Nat → Int32) (a1 : Int32) (a2 : Int32)  (kk : Int64 → Int64 → Int32 → Option (Int64)) (hk_32 : ∀ (el3_32 : Int64) (el5_32 : Int64) (el7_32 : Int32), JR X (QF X (tyz cI cS) 0 0 (fun o : Int64 => some (.long o)) (fun o : Int64 => wdX cI cS q qb qs qS qC (qb 0) (qs 0) tr fa fr rb rl ra wl WS BI BA SI SA LN SZ CE)) 8 0 0 (kk el3_32 el5_32 el7_32) (wdX cI cS q qb qs qS qC (qb 0) (qs 0) tr fa fr rb rl ra wl WS BI BA SI SA LN SZ CE) [(2, .int a2), (3, .long el3_32), (5, .long el5_32)] 75 []) : ∀ (fuel : Nat) (l3_32 : Int64) (l5_32 : Int64) (l7_32 : Int32), JR X (QF X (tyz cI cS) 0 0 (fun o : Int64 => some (.long o)) (fun o : Int64 => wdX cI cS q qb qs qS qC (qb 0) (qs 0) tr fa fr rb rl ra wl WS BI BA SI SA LN SZ CE)) 8 0 0 (lp_X4_clear_32 kk BI BA a1 fuel l3_32 l5_32 l7_32) (wdX cI cS q qb qs qS qC (qb 0) (qs 0) tr fa fr rb rl ra wl WS BI BA SI SA LN SZ CE) [(0, .ref (q 0)), (1, .int a1), (2, .int a2), (3, .long l3_32), (5, .long l5_32), (7, .int l7_32)] 32 [] := by
  intro fuel
  induction fuel with
  | zero => intro l3_32 l5_32 l7_32; exact r_none
  | succ fu_32 ih_32 =>
    intro l3_32 l5_32 l7_32
    unfold lp_X4_clear_32
    refine r_iload (pc := 32) C 5 dX4_clear_32 rfl ?_
    refine r_aload_n (pc := 34) C 0 dX4_clear_34 rfl rfl ?_
    refine gf_X4_35 (pc := 35) C 0 rfl rfl dX4_clear_35 ?_
    refine gf_X4_72 (pc := 38) C 5 rfl rfl dX4_clear_38 ?_
    refine r_icmp_ge (pc := 41) (tgt := 75) C dX4_clear_41 (by decide) ?_ ?_
    · exact r_sub [2, 3, 4] rfl (hk_32 l3_32 l5_32 l7_32)
    · refine r_lload_n (pc := 44) C 3 dX4_clear_44 rfl rfl ?_
      refine r_bipush (pc := 45) C dX4_clear_45 (cb_10) ?_
      refine r_aload_n (pc := 47) C 0 dX4_clear_47 rfl rfl ?_
      refine gf_X4_35 (pc := 48) C 0 rfl rfl dX4_clear_48 ?_
      refine r_iload (pc := 51) C 5 dX4_clear_51 rfl ?_
      refine r_iload_n (pc := 53) C 1 dX4_clear_53 rfl rfl ?_
      refine r_callVr (pc := 54) (rest := [.int (10 : Int32), .long l3_32]) C [5, 6, 7, 8, 9, 10, 11, 12, 13, 14] (m_X0_tenthsHeard (xl X) (xD X) cI cS qb BI BA l7_32 a1) mv_X4_138 rfl rfl rfl rfl rfl ⟨Nat.zero_le _, Nat.zero_le _⟩ rfl rfl (Nat.le_of_ble_eq_true rfl) dX4_clear_54 (fun r54 => ?_)
      refine r_isub (pc := 57) C dX4_clear_57 ?_
      refine r_i2l (pc := 58) C dX4_clear_58 ?_
      refine r_lmul (pc := 59) C dX4_clear_59 ?_
      refine r_lstore_n (pc := 60) C dX4_clear_60 rfl (by decide) (lv' := [(3, .long (l3_32 * (((10 : Int32) - r54).toInt64))), (0, .ref (q 0)), (1, .int a1), (2, .int a2), (5, .long l5_32), (7, .int l7_32)]) rfl ?_
      refine r_lload (pc := 61) C 4 dX4_clear_61 rfl ?_
      refine r_ldc2 (pc := 63) C kk_X4_141 dX4_clear_63 ?_
      refine r_lmul (pc := 66) C dX4_clear_66 ?_
      refine r_lstore (pc := 67) C dX4_clear_67 (by decide) (lv' := [(5, .long (l5_32 * (10 : Int64))), (3, .long (l3_32 * (((10 : Int32) - r54).toInt64))), (0, .ref (q 0)), (1, .int a1), (2, .int a2), (7, .int l7_32)]) rfl ?_
      refine r_iinc (pc := 69) C 5 dX4_clear_69 rfl (ci_1) (by decide) (lv' := [(7, .int (l7_32 + (1 : Int32))), (5, .long (l5_32 * (10 : Int64))), (3, .long (l3_32 * (((10 : Int32) - r54).toInt64))), (0, .ref (q 0)), (1, .int a1), (2, .int a2)]) rfl ?_
      refine r_goto (pc := 72) (tgt := 32) C dX4_clear_72 (by decide) ?_
      exact r_sub [3, 4, 5, 2, 1, 0] rfl (ih_32 (l3_32 * (((10 : Int32) - r54).toInt64)) (l5_32 * (10 : Int64)) (l7_32 + (1 : Int32)))
set_option maxHeartbeats 4000000 in
set_option maxRecDepth 100000 in
theorem m_X4_clear (l : Launch) (D : va_G) (cI cS : ClassId) (q : Nat → Nat) (qb : Nat → Nat) (qs : Nat → Nat) (qS : Nat → Nat) (qC : Nat → Nat) (tr : Int32) (fa : Int32) (fr : Option Nat) (rb : Int32) (rl : Int32) (ra : Int32) (wl : Int32) (WS : Nat → Int32) (BI : Nat → Int32) (BA : Nat → Nat → Int32) (SI : Nat → Int32) (SA : Nat → Nat → Int32) (LN : Nat → Int32) (SZ : Nat → Int32) (CE : Nat → Nat → Int32) (a1 : Int32) (a2 : Int32) : MX l D (tyz cI cS) yX4_clear cX4_clear 8 (some .long) (rmz 2 58) [.ref (q 0), .int a1, .int a2] (wdX cI cS q qb qs qS qC (qb 0) (qs 0) tr fa fr rb rl ra wl WS BI BA SI SA LN SZ CE) (f_X4_clear BI BA a1 a2) (fun o : Int64 => some (.long o)) (fun o : Int64 => wdX cI cS q qb qs qS qC (qb 0) (qs 0) tr fa fr rb rl ra wl WS BI BA SI SA LN SZ CE) := met_of (own := RX4) (by decide) rfl (Nat.le_of_ble_eq_true rfl) (fun X hxl hxD C => by
  subst hxl
  subst hxD
  show JR X _ _ 0 0 (f_X4_clear BI BA a1 a2) (wdX cI cS q qb qs qS qC (qb 0) (qs 0) tr fa fr rb rl ra wl WS BI BA SI SA LN SZ CE) [(0, .ref (q 0)), (1, .int a1), (2, .int a2)] 0 []
  unfold f_X4_clear
  refine r_aload_n (pc := 0) C 0 dX4_clear_0 rfl rfl ?_
  refine gf_X4_35 (pc := 1) C 0 rfl rfl dX4_clear_1 ?_
  refine r_iload_n (pc := 4) C 1 dX4_clear_4 rfl rfl ?_
  refine r_callVr (pc := 5) (rest := []) C [5, 6, 7, 8, 9, 10, 11, 12, 13, 14] (m_X0_hasPost (xl X) (xD X) cI cS qb BI BA a1) mv_X4_75 rfl rfl rfl rfl rfl ⟨Nat.zero_le _, Nat.zero_le _⟩ rfl rfl (Nat.le_of_ble_eq_true rfl) dX4_clear_5 (fun r5 => ?_)
  refine r_if_eq (pc := 8) (tgt := 20) C dX4_clear_8 (by decide) ?_ ?_
  · refine r_ldc2 (pc := 20) C kk_X4_136 dX4_clear_20 ?_
    exact r_lret (pc := 23) C rfl rfl dX4_clear_23
  · refine r_iload_n (pc := 11) C 2 dX4_clear_11 rfl rfl ?_
    refine r_iconst (pc := 12) C dX4_clear_12 (ci_0) ?_
    refine r_iconst (pc := 13) C dX4_clear_13 (ci_1) ?_
    refine r_callSr (pc := 14) (rest := []) C (m_X4_isWithin (xl X) (xD X) cI cS a2 (0 : Int32) (1 : Int32)) ms_X4_113 rfl ⟨Nat.zero_le _, Nat.zero_le _⟩ rfl rfl (Nat.le_of_ble_eq_true rfl) dX4_clear_14 (fun r14 => ?_)
    refine r_if_ne (pc := 17) (tgt := 24) C dX4_clear_17 (by decide) ?_ ?_
    · refine r_lconst (pc := 24) (v := 1) C dX4_clear_24 rfl ?_
      refine r_lstore_n (pc := 25) C dX4_clear_25 rfl (by decide) (lv' := [(3, .long (1 : Int64)), (0, .ref (q 0)), (1, .int a1), (2, .int a2)]) rfl ?_
      refine r_lconst (pc := 26) (v := 1) C dX4_clear_26 rfl ?_
      refine r_lstore (pc := 27) C dX4_clear_27 (by decide) (lv' := [(5, .long (1 : Int64)), (3, .long (1 : Int64)), (0, .ref (q 0)), (1, .int a1), (2, .int a2)]) rfl ?_
      refine r_iconst (pc := 29) C dX4_clear_29 (ci_0) ?_
      refine r_istore (pc := 30) C dX4_clear_30 (by decide) (lv' := [(7, .int (0 : Int32)), (5, .long (1 : Int64)), (3, .long (1 : Int64)), (0, .ref (q 0)), (1, .int a1), (2, .int a2)]) rfl ?_
      refine r_sub [3, 4, 5, 2, 1, 0] rfl (wl_X4_clear_32 X C q qb qs qS qC tr fa fr rb rl ra wl WS BI BA SI SA LN SZ CE a1 a2  _ (fun el3_32 el5_32 el7_32 => ?_) 1000 (1 : Int64) (1 : Int64) (0 : Int32))
      refine r_lload_n (pc := 75) C 1 dX4_clear_75 rfl rfl ?_
      refine r_lload (pc := 76) C 2 dX4_clear_76 rfl ?_
      refine r_iload_n (pc := 78) C 0 dX4_clear_78 rfl rfl ?_
      refine r_callSr (pc := 79) (rest := []) C (m_X4_leastTerms (xl X) (xD X) cI cS el3_32 el5_32 a2) ms_X4_143 rfl ⟨Nat.zero_le _, Nat.zero_le _⟩ rfl rfl (Nat.le_of_ble_eq_true rfl) dX4_clear_79 (fun r79 => ?_)
      exact r_lret (pc := 82) C rfl rfl dX4_clear_82
    · refine r_ldc2 (pc := 20) C kk_X4_136 dX4_clear_20 ?_
      exact r_lret (pc := 23) C rfl rfl dX4_clear_23)
set_option maxHeartbeats 4000000 in
set_option maxRecDepth 100000 in
theorem m_X4_lostUnfaulted (l : Launch) (D : va_G) (cI cS : ClassId) (q : Nat → Nat) (qb : Nat → Nat) (qs : Nat → Nat) (qS : Nat → Nat) (qC : Nat → Nat) (tr : Int32) (fa : Int32) (fr : Option Nat) (rb : Int32) (rl : Int32) (ra : Int32) (wl : Int32) (WS : Nat → Int32) (BI : Nat → Int32) (BA : Nat → Nat → Int32) (SI : Nat → Int32) (SA : Nat → Nat → Int32) (LN : Nat → Int32) (SZ : Nat → Int32) (CE : Nat → Nat → Int32) : MX l D (tyz cI cS) yX4_lostUnfaulted cX4_lostUnfaulted 1 (some .long) (rmz 0 0) [.ref (q 0)] (wdX cI cS q qb qs qS qC (qb 0) (qs 0) tr fa fr rb rl ra wl WS BI BA SI SA LN SZ CE) (f_X4_lostUnfaulted ) (fun o : Int64 × (Int32) => some (.long o.1)) (fun o : Int64 × (Int32) => wdX cI cS q qb qs qS qC (qb 0) (qs 0) tr o.2 fr rb rl ra wl WS BI BA SI SA LN SZ CE) := met_of (own := RX4) (by decide) rfl (Nat.le_of_ble_eq_true rfl) (fun X hxl hxD C => by
  subst hxl
  subst hxD
  show JR X _ _ 0 0 (f_X4_lostUnfaulted ) (wdX cI cS q qb qs qS qC (qb 0) (qs 0) tr fa fr rb rl ra wl WS BI BA SI SA LN SZ CE) [(0, .ref (q 0))] 0 []
  unfold f_X4_lostUnfaulted
  refine r_aload_n (pc := 0) C 0 dX4_lostUnfaulted_0 rfl rfl ?_
  refine r_iconst (pc := 1) C dX4_lostUnfaulted_1 (ci_0) ?_
  refine pf_X4_60 (pc := 2) (ws' := wdX cI cS q qb qs qS qC (qb 0) (qs 0) tr (0 : Int32) fr rb rl ra wl WS BI BA SI SA LN SZ CE) C 0 rfl rfl dX4_lostUnfaulted_2 rfl ?_
  refine r_ldc2 (pc := 5) C kk_X4_136 dX4_lostUnfaulted_5 ?_
  exact r_lret (pc := 8) C rfl rfl dX4_lostUnfaulted_8)
set_option maxHeartbeats 4000000 in
set_option maxRecDepth 100000 in
theorem wl_X4_takeWay_120 {cI cS : ClassId} (X : CX) (C : Cx X RX4 cX4_takeWay 9 (some .int) (rmz 3 63) (tyz cI cS)) (q : Nat → Nat) (qb : Nat → Nat) (qs : Nat → Nat) (qS : Nat → Nat) (qC : Nat → Nat) (tr : Int32) (fr : Option Nat) (rb : Int32) (rl : Int32) (ra : Int32) (BI : Nat → Int32) (BA : Nat → Nat → Int32) (SI : Nat → Int32) (SA : Nat → Nat → Int32) (LN : Nat → Int32) (SZ : Nat → Int32) (CE : Nat → Nat → Int32) (a1 : Int32) (a3 : Int32) (a4 : Int32) (hj63 : a1.toNatClampNeg < 4) (kk : Int32 → Int32 → (Nat → Int32) → Option (Int32 × (Int32) × (Int32) × (Nat → Int32))) (hk_120 : ∀ (el8_120 : Int32) (ewl_120 : Int32) (eWS_120 : Nat → Int32), JR X (QF X (tyz cI cS) 0 0 (fun o : Int32 × (Int32) × (Int32) × (Nat → Int32) => some (.int o.1)) (fun o : Int32 × (Int32) × (Int32) × (Nat → Int32) => wdX cI cS q qb qs qS qC (qb 0) (qs 0) tr o.2.1 fr rb rl ra o.2.2.1 o.2.2.2 BI BA SI SA LN SZ CE)) 9 0 0 (kk el8_120 ewl_120 eWS_120) (wdX cI cS q qb qs qS qC (qb 0) (qs 0) tr (0 : Int32) fr rb rl ra ewl_120 eWS_120 BI BA SI SA LN SZ CE) [] 170 []) : ∀ (fuel : Nat) (l8_120 : Int32) (wl_120 : Int32) (WS_120 : Nat → Int32), JR X (QF X (tyz cI cS) 0 0 (fun o : Int32 × (Int32) × (Int32) × (Nat → Int32) => some (.int o.1)) (fun o : Int32 × (Int32) × (Int32) × (Nat → Int32) => wdX cI cS q qb qs qS qC (qb 0) (qs 0) tr o.2.1 fr rb rl ra o.2.2.1 o.2.2.2 BI BA SI SA LN SZ CE)) 9 0 0 (lp_X4_takeWay_120 kk BI CE a1 a3 a4 fuel l8_120 wl_120 WS_120) (wdX cI cS q qb qs qS qC (qb 0) (qs 0) tr (0 : Int32) fr rb rl ra wl_120 WS_120 BI BA SI SA LN SZ CE) [(0, .ref (q 0)), (3, .int a3), (4, .int a4), (6, .ref (qS a1.toNatClampNeg)), (8, .int l8_120)] 120 [] := by
  intro fuel
  induction fuel with
  | zero => intro l8_120 wl_120 WS_120; exact r_none
  | succ fu_120 ih_120 =>
    intro l8_120 wl_120 WS_120
    unfold lp_X4_takeWay_120
    refine r_iload (pc := 120) C 4 dX4_takeWay_120 rfl ?_
    refine r_iload_n (pc := 122) C 1 dX4_takeWay_122 rfl rfl ?_
    refine r_iload (pc := 123) C 2 dX4_takeWay_123 rfl ?_
    refine r_iadd (pc := 125) C dX4_takeWay_125 ?_
    refine r_icmp_ge (pc := 126) (tgt := 170) C dX4_takeWay_126 (by decide) ?_ ?_
    · exact r_sub [] rfl (hk_120 l8_120 wl_120 WS_120)
    · refine r_aload_n (pc := 129) C 0 dX4_takeWay_129 rfl rfl ?_
      refine gf_X4_35 (pc := 130) C 0 rfl rfl dX4_takeWay_130 ?_
      refine r_aload (pc := 133) C 3 dX4_takeWay_133 rfl ?_
      refine gf_X4_222 (pc := 135) C (25 + 2 * a1.toNatClampNeg) (wX_o hj63) rfl dX4_takeWay_135 ?_
      refine r_iload (pc := 138) C 4 dX4_takeWay_138 rfl ?_
      refine r_iald (pc := 140) C (26 + 2 * a1.toNatClampNeg) (wX_a hj63) dX4_takeWay_140 ?_
      refine r_callVr (pc := 141) (rest := []) C [5, 6, 7, 8, 9, 10, 11, 12, 13, 14] (m_X0_hasPost (xl X) (xD X) cI cS qb BI BA (CE a1.toNatClampNeg l8_120.toNatClampNeg)) mv_X4_75 rfl rfl rfl rfl rfl ⟨Nat.zero_le _, Nat.zero_le _⟩ rfl rfl (Nat.le_of_ble_eq_true rfl) dX4_takeWay_141 (fun r141 => ?_)
      refine r_if_ne (pc := 144) (tgt := 149) C dX4_takeWay_144 (by decide) ?_ ?_
      · refine r_aload_n (pc := 149) C 0 dX4_takeWay_149 rfl rfl ?_
        refine gf_X4_28 (pc := 150) C 0 rfl rfl dX4_takeWay_150 ?_
        refine r_aload (pc := 153) C 3 dX4_takeWay_153 rfl ?_
        refine gf_X4_222 (pc := 155) C (25 + 2 * a1.toNatClampNeg) (wX_o hj63) rfl dX4_takeWay_155 ?_
        refine r_iload (pc := 158) C 4 dX4_takeWay_158 rfl ?_
        refine r_iald (pc := 160) C (26 + 2 * a1.toNatClampNeg) (wX_a hj63) dX4_takeWay_160 ?_
        refine r_callV (pc := 161) (rest := []) C [3, 4] (fun r161 => wdX cI cS q qb qs qS qC (qb 0) (qs 0) tr (0 : Int32) fr rb rl ra r161.1 r161.2 BI BA SI SA LN SZ CE) (m_X3_goOn (xl X) (xD X) cI cS (q 3) (q 4) wl_120 WS_120 (CE a1.toNatClampNeg l8_120.toNatClampNeg)) mv_X4_185 rfl rfl (fun _ => rfl) (fun _ => rfl) rfl rfl rfl ⟨Nat.zero_le _, Nat.zero_le _⟩ rfl rfl (Nat.le_of_ble_eq_true rfl) dX4_takeWay_161 (fun r161 => ?_)
        refine r_iinc (pc := 164) C 4 dX4_takeWay_164 rfl (ci_1) (by decide) (lv' := [(8, .int (l8_120 + (1 : Int32))), (0, .ref (q 0)), (3, .int a3), (4, .int a4), (6, .ref (qS a1.toNatClampNeg))]) rfl ?_
        refine r_goto (pc := 167) (tgt := 120) C dX4_takeWay_167 (by decide) ?_
        exact r_sub [1, 2, 3, 4, 0] rfl (ih_120 (l8_120 + (1 : Int32)) r161.1 r161.2)
      · refine r_iconst (pc := 147) C dX4_takeWay_147 (ci_m1) ?_
        exact r_iret (pc := 148) C rfl rfl dX4_takeWay_148
set_option maxHeartbeats 4000000 in
set_option maxRecDepth 100000 in
theorem wj_X4_takeWay_93 {cI cS : ClassId} (X : CX) (C : Cx X RX4 cX4_takeWay 9 (some .int) (rmz 3 63) (tyz cI cS)) (q : Nat → Nat) (qb : Nat → Nat) (qs : Nat → Nat) (qS : Nat → Nat) (qC : Nat → Nat) (tr : Int32) (fa : Int32) (fr : Option Nat) (rb : Int32) (rl : Int32) (ra : Int32) (wl : Int32) (WS : Nat → Int32) (BI : Nat → Int32) (BA : Nat → Nat → Int32) (SI : Nat → Int32) (SA : Nat → Nat → Int32) (LN : Nat → Int32) (SZ : Nat → Int32) (CE : Nat → Nat → Int32) (a1 : Int32) (a3 : Int32) (a4 : Int32) (j7_93 : Int32) (hj63 : a1.toNatClampNeg < 4) : JR X (QF X (tyz cI cS) 0 0 (fun o : Int32 × (Int32) × (Int32) × (Nat → Int32) => some (.int o.1)) (fun o : Int32 × (Int32) × (Int32) × (Nat → Int32) => wdX cI cS q qb qs qS qC (qb 0) (qs 0) tr o.2.1 fr rb rl ra o.2.2.1 o.2.2.2 BI BA SI SA LN SZ CE)) 9 0 0 (jb_X4_takeWay_93 wl WS BI CE a1 a3 a4 j7_93) (wdX cI cS q qb qs qS qC (qb 0) (qs 0) tr fa fr rb rl ra wl WS BI BA SI SA LN SZ CE) [(0, .ref (q 0)), (3, .int a3), (4, .int a4), (6, .ref (qS a1.toNatClampNeg)), (7, .int j7_93)] 93 [] := by
  unfold jb_X4_takeWay_93
  refine r_iload (pc := 93) C 4 dX4_takeWay_93 rfl ?_
  refine r_if_eq (pc := 95) (tgt := 105) C dX4_takeWay_95 (by decide) ?_ ?_
  · refine r_aload_n (pc := 105) C 0 dX4_takeWay_105 rfl rfl ?_
    refine r_iconst (pc := 106) C dX4_takeWay_106 (ci_0) ?_
    refine pf_X4_60 (pc := 107) (ws' := wdX cI cS q qb qs qS qC (qb 0) (qs 0) tr (0 : Int32) fr rb rl ra wl WS BI BA SI SA LN SZ CE) C 0 rfl rfl dX4_takeWay_107 rfl ?_
    refine r_aload_n (pc := 110) C 0 dX4_takeWay_110 rfl rfl ?_
    refine gf_X4_28 (pc := 111) C 0 rfl rfl dX4_takeWay_111 ?_
    refine r_callV (pc := 114) (rest := []) C [3, 4] (fun r114 => wdX cI cS q qb qs qS qC (qb 0) (qs 0) tr (0 : Int32) fr rb rl ra r114 WS BI BA SI SA LN SZ CE) (m_X3_begin (xl X) (xD X) cI cS (q 3) (q 4) wl WS) mv_X4_182 rfl rfl (fun _ => rfl) (fun _ => rfl) rfl rfl rfl ⟨Nat.zero_le _, Nat.zero_le _⟩ rfl rfl (Nat.le_of_ble_eq_true rfl) dX4_takeWay_114 (fun r114 => ?_)
    refine r_iload_n (pc := 117) C 1 dX4_takeWay_117 rfl rfl ?_
    refine r_istore (pc := 118) C dX4_takeWay_118 (by decide) (lv' := [(8, .int a3), (0, .ref (q 0)), (3, .int a3), (4, .int a4), (6, .ref (qS a1.toNatClampNeg)), (7, .int j7_93)]) rfl ?_
    refine r_sub [1, 2, 3, 4, 0] rfl (wl_X4_takeWay_120 X C q qb qs qS qC tr fr rb rl ra BI BA SI SA LN SZ CE a1 a3 a4 hj63 _ (fun el8_120 ewl_120 eWS_120 => ?_) 1000 a3 r114 WS)
    refine r_iconst (pc := 170) C dX4_takeWay_170 (ci_0) ?_
    exact r_iret (pc := 171) C rfl rfl dX4_takeWay_171
  · refine r_aload_n (pc := 98) C 0 dX4_takeWay_98 rfl rfl ?_
    refine r_iload (pc := 99) C 4 dX4_takeWay_99 rfl ?_
    refine r_callV0 (pc := 101) (rest := []) C (m_X4_faulted (xl X) (xD X) cI cS q qb qs qS qC tr fa fr rb rl ra wl WS BI BA SI SA LN SZ CE j7_93) mv_X4_57 rfl rfl rfl ⟨Nat.zero_le _, Nat.zero_le _⟩ rfl rfl (Nat.le_of_ble_eq_true rfl) dX4_takeWay_101 (fun r101 => ?_)
    exact r_iret (pc := 104) C rfl rfl dX4_takeWay_104
set_option maxHeartbeats 4000000 in
set_option maxRecDepth 100000 in
theorem wj_X4_takeWay_46 {cI cS : ClassId} (X : CX) (C : Cx X RX4 cX4_takeWay 9 (some .int) (rmz 3 63) (tyz cI cS)) (q : Nat → Nat) (qb : Nat → Nat) (qs : Nat → Nat) (qS : Nat → Nat) (qC : Nat → Nat) (tr : Int32) (fa : Int32) (fr : Option Nat) (rb : Int32) (rl : Int32) (ra : Int32) (wl : Int32) (WS : Nat → Int32) (BI : Nat → Int32) (BA : Nat → Nat → Int32) (SI : Nat → Int32) (SA : Nat → Nat → Int32) (LN : Nat → Int32) (SZ : Nat → Int32) (CE : Nat → Nat → Int32) (a1 : Int32) (a2 : Int32) (a3 : Int32) (a4 : Int32) (j5_46 : Int32)  : JR X (QF X (tyz cI cS) 0 0 (fun o : Int32 × (Int32) × (Int32) × (Nat → Int32) => some (.int o.1)) (fun o : Int32 × (Int32) × (Int32) × (Nat → Int32) => wdX cI cS q qb qs qS qC (qb 0) (qs 0) tr o.2.1 fr rb rl ra o.2.2.1 o.2.2.2 BI BA SI SA LN SZ CE)) 9 0 0 (jb_X4_takeWay_46 wl WS BI LN SZ CE a1 a2 a3 a4 j5_46) (wdX cI cS q qb qs qS qC (qb 0) (qs 0) tr fa fr rb rl ra wl WS BI BA SI SA LN SZ CE) [(0, .ref (q 0)), (1, .int a1), (2, .int a2), (3, .int a3), (4, .int a4), (5, .int j5_46)] 46 [] := by
  unfold jb_X4_takeWay_46
  refine r_iload (pc := 46) C 5 dX4_takeWay_46 rfl ?_
  refine r_if_eq (pc := 48) (tgt := 58) C dX4_takeWay_48 (by decide) ?_ ?_
  · refine r_aload_n (pc := 58) C 0 dX4_takeWay_58 rfl rfl ?_
    refine gf_X4_13 (pc := 59) C 0 rfl rfl dX4_takeWay_59 ?_
    refine r_iload_n (pc := 62) C 1 dX4_takeWay_62 rfl rfl ?_
    refine r_aald (pc := 63) C 1 rfl dX4_takeWay_63 (fun hj63 => ?_)
    refine r_astore (pc := 64) C dX4_takeWay_64 (by decide) (lv' := [(6, .ref (qS a1.toNatClampNeg)), (0, .ref (q 0)), (1, .int a1), (2, .int a2), (3, .int a3), (4, .int a4), (5, .int j5_46)]) rfl ?_
    refine r_aload (pc := 66) C 0 dX4_takeWay_66 rfl ?_
    refine r_iload_n (pc := 68) C 3 dX4_takeWay_68 rfl rfl ?_
    refine r_callVr (pc := 69) (rest := []) C [25 + 2 * a1.toNatClampNeg, 26 + 2 * a1.toNatClampNeg] (m_X1_faultAs (xl X) (xD X) cI cS (qS a1.toNatClampNeg) (qC a1.toNatClampNeg) (LN a1.toNatClampNeg) (SZ a1.toNatClampNeg) (CE a1.toNatClampNeg) a2) mv_X4_50 (wX_c hj63) (wX_n hj63) rfl rfl rfl ⟨Nat.zero_le _, Nat.zero_le _⟩ rfl rfl (Nat.le_of_ble_eq_true rfl) dX4_takeWay_69 (fun r69 => ?_)
    refine r_istore (pc := 72) C dX4_takeWay_72 (by decide) (lv' := [(7, .int r69), (6, .ref (qS a1.toNatClampNeg)), (0, .ref (q 0)), (1, .int a1), (2, .int a2), (3, .int a3), (4, .int a4), (5, .int j5_46)]) rfl ?_
    refine r_iload (pc := 74) C 0 dX4_takeWay_74 rfl ?_
    refine r_if_ne (pc := 76) (tgt := 93) C dX4_takeWay_76 (by decide) ?_ ?_
    · exact r_sub [2, 5, 6, 1, 0] rfl (wj_X4_takeWay_93 X C q qb qs qS qC tr fa fr rb rl ra wl WS BI BA SI SA LN SZ CE a1 a3 a4 r69 hj63)
    · refine r_aload (pc := 79) C 1 dX4_takeWay_79 rfl ?_
      refine r_iload_n (pc := 81) C 5 dX4_takeWay_81 rfl rfl ?_
      refine r_iload (pc := 82) C 6 dX4_takeWay_82 rfl ?_
      refine r_callVr (pc := 84) (rest := []) C [25 + 2 * a1.toNatClampNeg, 26 + 2 * a1.toNatClampNeg] (m_X1_hasCells (xl X) (xD X) cI cS (qS a1.toNatClampNeg) (qC a1.toNatClampNeg) (LN a1.toNatClampNeg) (SZ a1.toNatClampNeg) (CE a1.toNatClampNeg) a3 a4) mv_X4_53 (wX_c hj63) (wX_n hj63) rfl rfl rfl ⟨Nat.zero_le _, Nat.zero_le _⟩ rfl rfl (Nat.le_of_ble_eq_true rfl) dX4_takeWay_84 (fun r84 => ?_)
      refine r_if_ne (pc := 87) (tgt := 93) C dX4_takeWay_87 (by decide) ?_ ?_
      · exact r_sub [2, 5, 6, 1, 0] rfl (wj_X4_takeWay_93 X C q qb qs qS qC tr fa fr rb rl ra wl WS BI BA SI SA LN SZ CE a1 a3 a4 r69 hj63)
      · refine r_iconst (pc := 90) C dX4_takeWay_90 (ci_3) ?_
        refine r_istore (pc := 91) C dX4_takeWay_91 (by decide) (lv' := [(7, .int (3 : Int32)), (6, .ref (qS a1.toNatClampNeg)), (0, .ref (q 0)), (1, .int a1), (2, .int a2), (3, .int a3), (4, .int a4), (5, .int j5_46)]) rfl ?_
        exact r_sub [2, 5, 6, 1, 0] rfl (wj_X4_takeWay_93 X C q qb qs qS qC tr fa fr rb rl ra wl WS BI BA SI SA LN SZ CE a1 a3 a4 (3 : Int32) hj63)
  · refine r_aload_n (pc := 51) C 0 dX4_takeWay_51 rfl rfl ?_
    refine r_iload (pc := 52) C 5 dX4_takeWay_52 rfl ?_
    refine r_callV0 (pc := 54) (rest := []) C (m_X4_refused (xl X) (xD X) cI cS q qb qs qS qC tr fa fr rb rl ra wl WS BI BA SI SA LN SZ CE j5_46) mv_X4_46 rfl rfl rfl ⟨Nat.zero_le _, Nat.zero_le _⟩ rfl rfl (Nat.le_of_ble_eq_true rfl) dX4_takeWay_54 (fun r54 => ?_)
    exact r_iret (pc := 57) C rfl rfl dX4_takeWay_57
set_option maxHeartbeats 4000000 in
set_option maxRecDepth 100000 in
theorem wj_X4_takeWay_27 {cI cS : ClassId} (X : CX) (C : Cx X RX4 cX4_takeWay 9 (some .int) (rmz 3 63) (tyz cI cS)) (q : Nat → Nat) (qb : Nat → Nat) (qs : Nat → Nat) (qS : Nat → Nat) (qC : Nat → Nat) (tr : Int32) (fa : Int32) (fr : Option Nat) (rb : Int32) (rl : Int32) (ra : Int32) (wl : Int32) (WS : Nat → Int32) (BI : Nat → Int32) (BA : Nat → Nat → Int32) (SI : Nat → Int32) (SA : Nat → Nat → Int32) (LN : Nat → Int32) (SZ : Nat → Int32) (CE : Nat → Nat → Int32) (a1 : Int32) (a2 : Int32) (a3 : Int32) (a4 : Int32) (j5_27 : Int32)  : JR X (QF X (tyz cI cS) 0 0 (fun o : Int32 × (Int32) × (Int32) × (Nat → Int32) => some (.int o.1)) (fun o : Int32 × (Int32) × (Int32) × (Nat → Int32) => wdX cI cS q qb qs qS qC (qb 0) (qs 0) tr o.2.1 fr rb rl ra o.2.2.1 o.2.2.2 BI BA SI SA LN SZ CE)) 9 0 0 (jb_X4_takeWay_27 wl WS BI LN SZ CE a1 a2 a3 a4 j5_27) (wdX cI cS q qb qs qS qC (qb 0) (qs 0) tr fa fr rb rl ra wl WS BI BA SI SA LN SZ CE) [(0, .ref (q 0)), (1, .int a1), (2, .int a2), (3, .int a3), (4, .int a4), (5, .int j5_27)] 27 [] := by
  unfold jb_X4_takeWay_27
  refine r_iload (pc := 27) C 5 dX4_takeWay_27 rfl ?_
  refine r_if_ne (pc := 29) (tgt := 46) C dX4_takeWay_29 (by decide) ?_ ?_
  · exact r_sub [0, 1, 2, 3, 4, 5] rfl (wj_X4_takeWay_46 X C q qb qs qS qC tr fa fr rb rl ra wl WS BI BA SI SA LN SZ CE a1 a2 a3 a4 j5_27 )
  · refine r_aload_n (pc := 32) C 0 dX4_takeWay_32 rfl rfl ?_
    refine gf_X4_35 (pc := 33) C 0 rfl rfl dX4_takeWay_33 ?_
    refine r_callVr (pc := 36) (rest := []) C [5, 6, 7, 8, 9, 10, 11, 12, 13, 14] (m_X0_isMissing (xl X) (xD X) cI cS qb BI BA) mv_X4_117 rfl rfl rfl rfl rfl ⟨Nat.zero_le _, Nat.zero_le _⟩ rfl rfl (Nat.le_of_ble_eq_true rfl) dX4_takeWay_36 (fun r36 => ?_)
    refine r_if_eq (pc := 39) (tgt := 46) C dX4_takeWay_39 (by decide) ?_ ?_
    · exact r_sub [0, 1, 2, 3, 4, 5] rfl (wj_X4_takeWay_46 X C q qb qs qS qC tr fa fr rb rl ra wl WS BI BA SI SA LN SZ CE a1 a2 a3 a4 j5_27 )
    · refine r_bipush (pc := 42) C dX4_takeWay_42 (cb_m3) ?_
      refine r_istore (pc := 44) C dX4_takeWay_44 (by decide) (lv' := [(5, .int (-3 : Int32)), (0, .ref (q 0)), (1, .int a1), (2, .int a2), (3, .int a3), (4, .int a4)]) rfl ?_
      exact r_sub [1, 2, 3, 4, 5, 0] rfl (wj_X4_takeWay_46 X C q qb qs qS qC tr fa fr rb rl ra wl WS BI BA SI SA LN SZ CE a1 a2 a3 a4 (-3 : Int32) )
set_option maxHeartbeats 4000000 in
set_option maxRecDepth 100000 in
theorem m_X4_takeWay (l : Launch) (D : va_G) (cI cS : ClassId) (q : Nat → Nat) (qb : Nat → Nat) (qs : Nat → Nat) (qS : Nat → Nat) (qC : Nat → Nat) (tr : Int32) (fa : Int32) (fr : Option Nat) (rb : Int32) (rl : Int32) (ra : Int32) (wl : Int32) (WS : Nat → Int32) (BI : Nat → Int32) (BA : Nat → Nat → Int32) (SI : Nat → Int32) (SA : Nat → Nat → Int32) (LN : Nat → Int32) (SZ : Nat → Int32) (CE : Nat → Nat → Int32) (a1 : Int32) (a2 : Int32) (a3 : Int32) (a4 : Int32) : MX l D (tyz cI cS) yX4_takeWay cX4_takeWay 9 (some .int) (rmz 3 63) [.ref (q 0), .int a1, .int a2, .int a3, .int a4] (wdX cI cS q qb qs qS qC (qb 0) (qs 0) tr fa fr rb rl ra wl WS BI BA SI SA LN SZ CE) (f_X4_takeWay wl WS BI LN SZ CE a1 a2 a3 a4) (fun o : Int32 × (Int32) × (Int32) × (Nat → Int32) => some (.int o.1)) (fun o : Int32 × (Int32) × (Int32) × (Nat → Int32) => wdX cI cS q qb qs qS qC (qb 0) (qs 0) tr o.2.1 fr rb rl ra o.2.2.1 o.2.2.2 BI BA SI SA LN SZ CE) := met_of (own := RX4) (by decide) rfl (Nat.le_of_ble_eq_true rfl) (fun X hxl hxD C => by
  subst hxl
  subst hxD
  show JR X _ _ 0 0 (f_X4_takeWay wl WS BI LN SZ CE a1 a2 a3 a4) (wdX cI cS q qb qs qS qC (qb 0) (qs 0) tr fa fr rb rl ra wl WS BI BA SI SA LN SZ CE) [(0, .ref (q 0)), (1, .int a1), (2, .int a2), (3, .int a3), (4, .int a4)] 0 []
  unfold f_X4_takeWay
  refine r_iload_n (pc := 0) C 1 dX4_takeWay_0 rfl rfl ?_
  refine r_iload_n (pc := 1) C 2 dX4_takeWay_1 rfl rfl ?_
  refine r_callSr (pc := 2) (rest := []) C (m_X4_refusalOfRow (xl X) (xD X) cI cS a1 a2) ms_X4_42 rfl ⟨Nat.zero_le _, Nat.zero_le _⟩ rfl rfl (Nat.le_of_ble_eq_true rfl) dX4_takeWay_2 (fun r2 => ?_)
  refine r_istore (pc := 5) C dX4_takeWay_5 (by decide) (lv' := [(5, .int r2), (0, .ref (q 0)), (1, .int a1), (2, .int a2), (3, .int a3), (4, .int a4)]) rfl ?_
  refine r_iload (pc := 7) C 0 dX4_takeWay_7 rfl ?_
  refine r_if_ne (pc := 9) (tgt := 27) C dX4_takeWay_9 (by decide) ?_ ?_
  · exact r_sub [1, 2, 3, 4, 5, 0] rfl (wj_X4_takeWay_27 X C q qb qs qS qC tr fa fr rb rl ra wl WS BI BA SI SA LN SZ CE a1 a2 a3 a4 r2 )
  · refine r_iload (pc := 12) C 5 dX4_takeWay_12 rfl ?_
    refine r_iconst (pc := 14) C dX4_takeWay_14 (ci_0) ?_
    refine r_bipush (pc := 15) C dX4_takeWay_15 (cb_8) ?_
    refine r_callSr (pc := 17) (rest := []) C (m_X4_isWithin (xl X) (xD X) cI cS a4 (0 : Int32) (8 : Int32)) ms_X4_113 rfl ⟨Nat.zero_le _, Nat.zero_le _⟩ rfl rfl (Nat.le_of_ble_eq_true rfl) dX4_takeWay_17 (fun r17 => ?_)
    refine r_if_ne (pc := 20) (tgt := 27) C dX4_takeWay_20 (by decide) ?_ ?_
    · exact r_sub [1, 2, 3, 4, 5, 0] rfl (wj_X4_takeWay_27 X C q qb qs qS qC tr fa fr rb rl ra wl WS BI BA SI SA LN SZ CE a1 a2 a3 a4 r2 )
    · refine r_bipush (pc := 23) C dX4_takeWay_23 (cb_m2) ?_
      refine r_istore (pc := 25) C dX4_takeWay_25 (by decide) (lv' := [(5, .int (-2 : Int32)), (0, .ref (q 0)), (1, .int a1), (2, .int a2), (3, .int a3), (4, .int a4)]) rfl ?_
      exact r_sub [1, 2, 3, 4, 5, 0] rfl (wj_X4_takeWay_27 X C q qb qs qS qC tr fa fr rb rl ra wl WS BI BA SI SA LN SZ CE a1 a2 a3 a4 (-2 : Int32) ))
set_option maxHeartbeats 4000000 in
set_option maxRecDepth 100000 in
theorem m_X4_cost (l : Launch) (D : va_G) (cI cS : ClassId) (q : Nat → Nat) (qb : Nat → Nat) (qs : Nat → Nat) (qS : Nat → Nat) (qC : Nat → Nat) (tr : Int32) (fa : Int32) (fr : Option Nat) (rb : Int32) (rl : Int32) (ra : Int32) (wl : Int32) (WS : Nat → Int32) (BI : Nat → Int32) (BA : Nat → Nat → Int32) (SI : Nat → Int32) (SA : Nat → Nat → Int32) (LN : Nat → Int32) (SZ : Nat → Int32) (CE : Nat → Nat → Int32) (a1 : Int32) (a2 : Int32) (a3 : Int32) (a4 : Int32) (a5 : Int32) : MX l D (tyz cI cS) yX4_cost cX4_cost 6 (some .long) (rmz 5 113) [.ref (q 0), .int a1, .int a2, .int a3, .int a4, .int a5] (wdX cI cS q qb qs qS qC (qb 0) (qs 0) tr fa fr rb rl ra wl WS BI BA SI SA LN SZ CE) (f_X4_cost wl WS BI BA LN SZ CE a1 a2 a3 a4 a5) (fun o : Int64 × (Int32) × (Int32) × (Nat → Int32) => some (.long o.1)) (fun o : Int64 × (Int32) × (Int32) × (Nat → Int32) => wdX cI cS q qb qs qS qC (qb 0) (qs 0) tr o.2.1 fr rb rl ra o.2.2.1 o.2.2.2 BI BA SI SA LN SZ CE) := met_of (own := RX4) (by decide) rfl (Nat.le_of_ble_eq_true rfl) (fun X hxl hxD C => by
  subst hxl
  subst hxD
  show JR X _ _ 0 0 (f_X4_cost wl WS BI BA LN SZ CE a1 a2 a3 a4 a5) (wdX cI cS q qb qs qS qC (qb 0) (qs 0) tr fa fr rb rl ra wl WS BI BA SI SA LN SZ CE) [(0, .ref (q 0)), (1, .int a1), (2, .int a2), (3, .int a3), (4, .int a4), (5, .int a5)] 0 []
  unfold f_X4_cost
  refine r_iload (pc := 0) C 5 dX4_cost_0 rfl ?_
  refine r_iconst (pc := 2) C dX4_cost_2 (ci_0) ?_
  refine r_iconst (pc := 3) C dX4_cost_3 (ci_1) ?_
  refine r_callSr (pc := 4) (rest := []) C (m_X4_isWithin (xl X) (xD X) cI cS a5 (0 : Int32) (1 : Int32)) ms_X4_113 rfl ⟨Nat.zero_le _, Nat.zero_le _⟩ rfl rfl (Nat.le_of_ble_eq_true rfl) dX4_cost_4 (fun r4 => ?_)
  refine r_if_ne (pc := 7) (tgt := 15) C dX4_cost_7 (by decide) ?_ ?_
  · refine r_aload_n (pc := 15) C 0 dX4_cost_15 rfl rfl ?_
    refine r_iload_n (pc := 16) C 1 dX4_cost_16 rfl rfl ?_
    refine r_iload_n (pc := 17) C 2 dX4_cost_17 rfl rfl ?_
    refine r_iload_n (pc := 18) C 3 dX4_cost_18 rfl rfl ?_
    refine r_iload (pc := 19) C 4 dX4_cost_19 rfl ?_
    refine r_callV0 (pc := 21) (rest := []) C (m_X4_takeWay (xl X) (xD X) cI cS q qb qs qS qC tr fa fr rb rl ra wl WS BI BA SI SA LN SZ CE a1 a2 a3 a4) mv_X4_151 rfl rfl rfl ⟨Nat.zero_le _, Nat.zero_le _⟩ rfl rfl (Nat.le_of_ble_eq_true rfl) dX4_cost_21 (fun r21 => ?_)
    refine r_if_ge (pc := 24) (tgt := 31) C dX4_cost_24 (by decide) ?_ ?_
    · refine r_aload_n (pc := 31) C 0 dX4_cost_31 rfl rfl ?_
      refine gf_X4_28 (pc := 32) C 0 rfl rfl dX4_cost_32 ?_
      refine r_aload_n (pc := 35) C 0 dX4_cost_35 rfl rfl ?_
      refine gf_X4_35 (pc := 36) C 0 rfl rfl dX4_cost_36 ?_
      refine r_callVr (pc := 39) (rest := []) C [3, 4, 5, 6, 7, 8, 9, 10, 11, 12, 13, 14] (m_X3_costIn (xl X) (xD X) cI cS (q 3) (q 4) qb r21.2.2.1 r21.2.2.2 BI BA) mv_X4_155 rfl rfl rfl rfl rfl ⟨Nat.zero_le _, Nat.zero_le _⟩ rfl rfl (Nat.le_of_ble_eq_true rfl) dX4_cost_39 (fun r39 => ?_)
      refine r_ldc2 (pc := 42) C kk_X4_159 dX4_cost_42 ?_
      refine r_iload (pc := 45) C 5 dX4_cost_45 rfl ?_
      refine r_callSr (pc := 47) (rest := []) C (m_X4_leastTerms (xl X) (xD X) cI cS r39 (100000000 : Int64) a5) ms_X4_143 rfl ⟨Nat.zero_le _, Nat.zero_le _⟩ rfl rfl (Nat.le_of_ble_eq_true rfl) dX4_cost_47 (fun r47 => ?_)
      exact r_lret (pc := 50) C rfl rfl dX4_cost_50
    · refine r_ldc2 (pc := 27) C kk_X4_136 dX4_cost_27 ?_
      exact r_lret (pc := 30) C rfl rfl dX4_cost_30
  · refine r_aload_n (pc := 10) C 0 dX4_cost_10 rfl rfl ?_
    refine r_callV0 (pc := 11) (rest := []) C (m_X4_lostUnfaulted (xl X) (xD X) cI cS q qb qs qS qC tr fa fr rb rl ra wl WS BI BA SI SA LN SZ CE) mv_X4_147 rfl rfl rfl ⟨Nat.zero_le _, Nat.zero_le _⟩ rfl rfl (Nat.le_of_ble_eq_true rfl) dX4_cost_11 (fun r11 => ?_)
    exact r_lret (pc := 14) C rfl rfl dX4_cost_14)
set_option maxHeartbeats 4000000 in
set_option maxRecDepth 100000 in
theorem wl_X4_cheapestDeclared_26 {cI cS : ClassId} (X : CX) (C : Cx X RX4 cX4_cheapestDeclared 9 (some .int) (rmz 5 113) (tyz cI cS)) (q : Nat → Nat) (qb : Nat → Nat) (qs : Nat → Nat) (qS : Nat → Nat) (qC : Nat → Nat) (tr : Int32) (fa : Int32) (fr : Option Nat) (rb : Int32) (rl : Int32) (ra : Int32) (wl : Int32) (WS : Nat → Int32) (BI : Nat → Int32) (BA : Nat → Nat → Int32) (SI : Nat → Int32) (SA : Nat → Nat → Int32) (LN : Nat → Int32) (SZ : Nat → Int32) (CE : Nat → Nat → Int32) (r18 : Int32)  (kk : Int32 → Int64 → Int32 → (Nat → Int32) → Option (Int32 × (Nat → Int32))) (hk_26 : ∀ (el2_26 : Int32) (el3_26 : Int64) (el6_26 : Int32) (eBI_26 : Nat → Int32), JR X (QF X (tyz cI cS) 0 0 (fun o : Int32 × (Nat → Int32) => some (.int o.1)) (fun o : Int32 × (Nat → Int32) => wdX cI cS q qb qs qS qC (qb 0) (qs 0) tr fa fr rb rl ra wl WS o.2 BA SI SA LN SZ CE)) 9 0 0 (kk el2_26 el3_26 el6_26 eBI_26) (wdX cI cS q qb qs qS qC (qb 0) (qs 0) tr fa fr rb rl ra wl WS eBI_26 BA SI SA LN SZ CE) [(0, .ref (q 0)), (1, .int (BI 9)), (2, .int el2_26)] 74 []) : ∀ (fuel : Nat) (l2_26 : Int32) (l3_26 : Int64) (l6_26 : Int32) (BI_26 : Nat → Int32), JR X (QF X (tyz cI cS) 0 0 (fun o : Int32 × (Nat → Int32) => some (.int o.1)) (fun o : Int32 × (Nat → Int32) => wdX cI cS q qb qs qS qC (qb 0) (qs 0) tr fa fr rb rl ra wl WS o.2 BA SI SA LN SZ CE)) 9 0 0 (lp_X4_cheapestDeclared_26 kk wl WS BA r18 fuel l2_26 l3_26 l6_26 BI_26) (wdX cI cS q qb qs qS qC (qb 0) (qs 0) tr fa fr rb rl ra wl WS BI_26 BA SI SA LN SZ CE) [(0, .ref (q 0)), (1, .int (BI 9)), (2, .int l2_26), (3, .long l3_26), (5, .int r18), (6, .int l6_26)] 26 [] := by
  intro fuel
  induction fuel with
  | zero => intro l2_26 l3_26 l6_26 BI_26; exact r_none
  | succ fu_26 ih_26 =>
    intro l2_26 l3_26 l6_26 BI_26
    unfold lp_X4_cheapestDeclared_26
    refine r_iload (pc := 26) C 5 dX4_cheapestDeclared_26 rfl ?_
    refine r_iload (pc := 28) C 4 dX4_cheapestDeclared_28 rfl ?_
    refine r_icmp_gt (pc := 30) (tgt := 74) C dX4_cheapestDeclared_30 (by decide) ?_ ?_
    · exact r_sub [0, 1, 2] rfl (hk_26 l2_26 l3_26 l6_26 BI_26)
    · refine r_aload_n (pc := 33) C 0 dX4_cheapestDeclared_33 rfl rfl ?_
      refine gf_X4_35 (pc := 34) C 0 rfl rfl dX4_cheapestDeclared_34 ?_
      refine r_iload (pc := 37) C 5 dX4_cheapestDeclared_37 rfl ?_
      refine pf_X4_127 (pc := 39) (ws' := wdX cI cS q qb qs qS qC (qb 0) (qs 0) tr fa fr rb rl ra wl WS (upd BI_26 9 l6_26) BA SI SA LN SZ CE) C 5 rfl rfl dX4_cheapestDeclared_39 rfl ?_
      refine r_aload_n (pc := 42) C 0 dX4_cheapestDeclared_42 rfl rfl ?_
      refine gf_X4_28 (pc := 43) C 0 rfl rfl dX4_cheapestDeclared_43 ?_
      refine r_aload_n (pc := 46) C 0 dX4_cheapestDeclared_46 rfl rfl ?_
      refine gf_X4_35 (pc := 47) C 0 rfl rfl dX4_cheapestDeclared_47 ?_
      refine r_callVr (pc := 50) (rest := []) C [3, 4, 5, 6, 7, 8, 9, 10, 11, 12, 13, 14] (m_X3_costIn (xl X) (xD X) cI cS (q 3) (q 4) qb wl WS (upd BI_26 9 l6_26) BA) mv_X4_155 rfl rfl rfl rfl rfl ⟨Nat.zero_le _, Nat.zero_le _⟩ rfl rfl (Nat.le_of_ble_eq_true rfl) dX4_cheapestDeclared_50 (fun r50 => ?_)
      refine r_lstore (pc := 53) C dX4_cheapestDeclared_53 (by decide) (lv' := [(7, .long r50), (0, .ref (q 0)), (1, .int (BI 9)), (2, .int l2_26), (3, .long l3_26), (5, .int r18), (6, .int l6_26)]) rfl ?_
      refine r_lload (pc := 55) C 0 dX4_cheapestDeclared_55 rfl ?_
      refine r_lload_n (pc := 57) C 4 dX4_cheapestDeclared_57 rfl rfl ?_
      refine r_lcmp (pc := 58) C dX4_cheapestDeclared_58 ?_
      refine r_if_ge (pc := 59) (tgt := 68) C dX4_cheapestDeclared_59 (by decide) ?_ ?_
      · refine r_iinc (pc := 68) C 6 dX4_cheapestDeclared_68 rfl (ci_1) (by decide) (lv' := [(6, .int (l6_26 + (1 : Int32))), (7, .long r50), (0, .ref (q 0)), (1, .int (BI 9)), (2, .int l2_26), (3, .long l3_26), (5, .int r18)]) rfl ?_
        refine r_goto (pc := 71) (tgt := 26) C dX4_cheapestDeclared_71 (by decide) ?_
        exact r_sub [2, 3, 4, 5, 6, 0] rfl (ih_26 l2_26 l3_26 (l6_26 + (1 : Int32)) (upd BI_26 9 l6_26))
      · refine r_lload (pc := 62) C 0 dX4_cheapestDeclared_62 rfl ?_
        refine r_lstore_n (pc := 64) C dX4_cheapestDeclared_64 rfl (by decide) (lv' := [(3, .long r50), (7, .long r50), (0, .ref (q 0)), (1, .int (BI 9)), (2, .int l2_26), (5, .int r18), (6, .int l6_26)]) rfl ?_
        refine r_iload (pc := 65) C 6 dX4_cheapestDeclared_65 rfl ?_
        refine r_istore_n (pc := 67) C dX4_cheapestDeclared_67 rfl (by decide) (lv' := [(2, .int l6_26), (3, .long r50), (7, .long r50), (0, .ref (q 0)), (1, .int (BI 9)), (5, .int r18), (6, .int l6_26)]) rfl ?_
        refine r_iinc (pc := 68) C 6 dX4_cheapestDeclared_68 rfl (ci_1) (by decide) (lv' := [(6, .int (l6_26 + (1 : Int32))), (2, .int l6_26), (3, .long r50), (7, .long r50), (0, .ref (q 0)), (1, .int (BI 9)), (5, .int r18)]) rfl ?_
        refine r_goto (pc := 71) (tgt := 26) C dX4_cheapestDeclared_71 (by decide) ?_
        exact r_sub [4, 5, 1, 2, 6, 0] rfl (ih_26 l6_26 r50 (l6_26 + (1 : Int32)) (upd BI_26 9 l6_26))
set_option maxHeartbeats 4000000 in
set_option maxRecDepth 100000 in
theorem m_X4_cheapestDeclared (l : Launch) (D : va_G) (cI cS : ClassId) (q : Nat → Nat) (qb : Nat → Nat) (qs : Nat → Nat) (qS : Nat → Nat) (qC : Nat → Nat) (tr : Int32) (fa : Int32) (fr : Option Nat) (rb : Int32) (rl : Int32) (ra : Int32) (wl : Int32) (WS : Nat → Int32) (BI : Nat → Int32) (BA : Nat → Nat → Int32) (SI : Nat → Int32) (SA : Nat → Nat → Int32) (LN : Nat → Int32) (SZ : Nat → Int32) (CE : Nat → Nat → Int32) : MX l D (tyz cI cS) yX4_cheapestDeclared cX4_cheapestDeclared 9 (some .int) (rmz 5 113) [.ref (q 0)] (wdX cI cS q qb qs qS qC (qb 0) (qs 0) tr fa fr rb rl ra wl WS BI BA SI SA LN SZ CE) (f_X4_cheapestDeclared wl WS BI BA) (fun o : Int32 × (Nat → Int32) => some (.int o.1)) (fun o : Int32 × (Nat → Int32) => wdX cI cS q qb qs qS qC (qb 0) (qs 0) tr fa fr rb rl ra wl WS o.2 BA SI SA LN SZ CE) := met_of (own := RX4) (by decide) rfl (Nat.le_of_ble_eq_true rfl) (fun X hxl hxD C => by
  subst hxl
  subst hxD
  show JR X _ _ 0 0 (f_X4_cheapestDeclared wl WS BI BA) (wdX cI cS q qb qs qS qC (qb 0) (qs 0) tr fa fr rb rl ra wl WS BI BA SI SA LN SZ CE) [(0, .ref (q 0))] 0 []
  unfold f_X4_cheapestDeclared
  refine r_aload_n (pc := 0) C 0 dX4_cheapestDeclared_0 rfl rfl ?_
  refine gf_X4_35 (pc := 1) C 0 rfl rfl dX4_cheapestDeclared_1 ?_
  refine gf_X4_127 (pc := 4) C 5 rfl rfl dX4_cheapestDeclared_4 ?_
  refine r_istore_n (pc := 7) C dX4_cheapestDeclared_7 rfl (by decide) (lv' := [(1, .int (BI 9)), (0, .ref (q 0))]) rfl ?_
  refine r_iconst (pc := 8) C dX4_cheapestDeclared_8 (ci_0) ?_
  refine r_istore_n (pc := 9) C dX4_cheapestDeclared_9 rfl (by decide) (lv' := [(2, .int (0 : Int32)), (1, .int (BI 9)), (0, .ref (q 0))]) rfl ?_
  refine r_ldc2 (pc := 10) C kk_X4_177 dX4_cheapestDeclared_10 ?_
  refine r_lstore_n (pc := 13) C dX4_cheapestDeclared_13 rfl (by decide) (lv' := [(3, .long (9223372036854775807 : Int64)), (2, .int (0 : Int32)), (1, .int (BI 9)), (0, .ref (q 0))]) rfl ?_
  refine r_aload_n (pc := 14) C 3 dX4_cheapestDeclared_14 rfl rfl ?_
  refine gf_X4_35 (pc := 15) C 0 rfl rfl dX4_cheapestDeclared_15 ?_
  refine r_callVr (pc := 18) (rest := []) C [5, 6, 7, 8, 9, 10, 11, 12, 13, 14] (m_X0_allSilences (xl X) (xD X) cI cS qb BI BA) mv_X4_201 rfl rfl rfl rfl rfl ⟨Nat.zero_le _, Nat.zero_le _⟩ rfl rfl (Nat.le_of_ble_eq_true rfl) dX4_cheapestDeclared_18 (fun r18 => ?_)
  refine r_istore (pc := 21) C dX4_cheapestDeclared_21 (by decide) (lv' := [(5, .int r18), (3, .long (9223372036854775807 : Int64)), (2, .int (0 : Int32)), (1, .int (BI 9)), (0, .ref (q 0))]) rfl ?_
  refine r_iconst (pc := 23) C dX4_cheapestDeclared_23 (ci_0) ?_
  refine r_istore (pc := 24) C dX4_cheapestDeclared_24 (by decide) (lv' := [(6, .int (0 : Int32)), (5, .int r18), (3, .long (9223372036854775807 : Int64)), (2, .int (0 : Int32)), (1, .int (BI 9)), (0, .ref (q 0))]) rfl ?_
  refine r_sub [5, 4, 3, 2, 1, 0] rfl (wl_X4_cheapestDeclared_26 X C q qb qs qS qC tr fa fr rb rl ra wl WS BI BA SI SA LN SZ CE r18  _ (fun el2_26 el3_26 el6_26 eBI_26 => ?_) 1000 (0 : Int32) (9223372036854775807 : Int64) (0 : Int32) BI)
  refine r_aload_n (pc := 74) C 0 dX4_cheapestDeclared_74 rfl rfl ?_
  refine gf_X4_35 (pc := 75) C 0 rfl rfl dX4_cheapestDeclared_75 ?_
  refine r_iload_n (pc := 78) C 1 dX4_cheapestDeclared_78 rfl rfl ?_
  refine pf_X4_127 (pc := 79) (ws' := wdX cI cS q qb qs qS qC (qb 0) (qs 0) tr fa fr rb rl ra wl WS (upd eBI_26 9 (BI 9)) BA SI SA LN SZ CE) C 5 rfl rfl dX4_cheapestDeclared_79 rfl ?_
  refine r_iload_n (pc := 82) C 2 dX4_cheapestDeclared_82 rfl rfl ?_
  exact r_iret (pc := 83) C rfl rfl dX4_cheapestDeclared_83)
set_option maxHeartbeats 4000000 in
set_option maxRecDepth 100000 in
theorem m_X4_say (l : Launch) (D : va_G) (cI cS : ClassId) (q : Nat → Nat) (qb : Nat → Nat) (qs : Nat → Nat) (qS : Nat → Nat) (qC : Nat → Nat) (tr : Int32) (fa : Int32) (fr : Option Nat) (rb : Int32) (rl : Int32) (ra : Int32) (wl : Int32) (WS : Nat → Int32) (BI : Nat → Int32) (BA : Nat → Nat → Int32) (SI : Nat → Int32) (SA : Nat → Nat → Int32) (LN : Nat → Int32) (SZ : Nat → Int32) (CE : Nat → Nat → Int32) (a1 : Int32) (a2 : Int32) (a3 : Int32) (a4 : Int32) : MX l D (tyz cI cS) yX4_say cX4_say 6 (some .int) (rmz 6 141) [.ref (q 0), .int a1, .int a2, .int a3, .int a4] (wdX cI cS q qb qs qS qC (qb 0) (qs 0) tr fa fr rb rl ra wl WS BI BA SI SA LN SZ CE) (f_X4_say wl WS BI BA LN SZ CE a1 a2 a3 a4) (fun o : Int32 × (Int32) × (Int32) × (Nat → Int32) × (Nat → Int32) => some (.int o.1)) (fun o : Int32 × (Int32) × (Int32) × (Nat → Int32) × (Nat → Int32) => wdX cI cS q qb qs qS qC (qb 0) (qs 0) tr o.2.1 fr rb rl ra o.2.2.1 o.2.2.2.1 o.2.2.2.2 BA SI SA LN SZ CE) := met_of (own := RX4) (by decide) rfl (Nat.le_of_ble_eq_true rfl) (fun X hxl hxD C => by
  subst hxl
  subst hxD
  show JR X _ _ 0 0 (f_X4_say wl WS BI BA LN SZ CE a1 a2 a3 a4) (wdX cI cS q qb qs qS qC (qb 0) (qs 0) tr fa fr rb rl ra wl WS BI BA SI SA LN SZ CE) [(0, .ref (q 0)), (1, .int a1), (2, .int a2), (3, .int a3), (4, .int a4)] 0 []
  unfold f_X4_say
  refine r_aload_n (pc := 0) C 0 dX4_say_0 rfl rfl ?_
  refine r_iload_n (pc := 1) C 1 dX4_say_1 rfl rfl ?_
  refine r_iload_n (pc := 2) C 2 dX4_say_2 rfl rfl ?_
  refine r_iload_n (pc := 3) C 3 dX4_say_3 rfl rfl ?_
  refine r_iload (pc := 4) C 4 dX4_say_4 rfl ?_
  refine r_callV0 (pc := 6) (rest := []) C (m_X4_takeWay (xl X) (xD X) cI cS q qb qs qS qC tr fa fr rb rl ra wl WS BI BA SI SA LN SZ CE a1 a2 a3 a4) mv_X4_151 rfl rfl rfl ⟨Nat.zero_le _, Nat.zero_le _⟩ rfl rfl (Nat.le_of_ble_eq_true rfl) dX4_say_6 (fun r6 => ?_)
  refine r_istore (pc := 9) C dX4_say_9 (by decide) (lv' := [(5, .int r6.1), (0, .ref (q 0)), (1, .int a1), (2, .int a2), (3, .int a3), (4, .int a4)]) rfl ?_
  refine r_iload (pc := 11) C 0 dX4_say_11 rfl ?_
  refine r_if_ge (pc := 13) (tgt := 19) C dX4_say_13 (by decide) ?_ ?_
  · refine r_aload_n (pc := 19) C 1 dX4_say_19 rfl rfl ?_
    refine r_callV0 (pc := 20) (rest := []) C (m_X4_cheapestDeclared (xl X) (xD X) cI cS q qb qs qS qC tr r6.2.1 fr rb rl ra r6.2.2.1 r6.2.2.2 BI BA SI SA LN SZ CE) mv_X4_161 rfl rfl rfl ⟨Nat.zero_le _, Nat.zero_le _⟩ rfl rfl (Nat.le_of_ble_eq_true rfl) dX4_say_20 (fun r20 => ?_)
    exact r_iret (pc := 23) C rfl rfl dX4_say_23
  · refine r_iload (pc := 16) C 0 dX4_say_16 rfl ?_
    exact r_iret (pc := 18) C rfl rfl dX4_say_18)
set_option maxHeartbeats 4000000 in
set_option maxRecDepth 100000 in
theorem wl_X4_cheapestCarrierRow_25 {cI cS : ClassId} (X : CX) (C : Cx X RX4 cX4_cheapestCarrierRow 7 (some .int) (rmz 4 90) (tyz cI cS)) (q : Nat → Nat) (qb : Nat → Nat) (qs : Nat → Nat) (qS : Nat → Nat) (qC : Nat → Nat) (tr : Int32) (fa : Int32) (fr : Option Nat) (rb : Int32) (rl : Int32) (ra : Int32) (wl : Int32) (WS : Nat → Int32) (BI : Nat → Int32) (SI : Nat → Int32) (SA : Nat → Nat → Int32) (LN : Nat → Int32) (SZ : Nat → Int32) (CE : Nat → Nat → Int32) (r4 : Int32) (r17 : Int32)  (kk : Int32 → Int32 → Int32 → (Nat → Nat → Int32) → Option (Int32 × (Nat → Nat → Int32))) (hk_25 : ∀ (el2_25 : Int32) (el3_25 : Int32) (el5_25 : Int32) (eBA_25 : Nat → Nat → Int32), JR X (QF X (tyz cI cS) 0 0 (fun o : Int32 × (Nat → Nat → Int32) => some (.int o.1)) (fun o : Int32 × (Nat → Nat → Int32) => wdX cI cS q qb qs qS qC (qb 0) (qs 0) tr fa fr rb rl ra wl WS BI o.2 SI SA LN SZ CE)) 7 0 0 (kk el2_25 el3_25 el5_25 eBA_25) (wdX cI cS q qb qs qS qC (qb 0) (qs 0) tr fa fr rb rl ra wl WS BI eBA_25 SI SA LN SZ CE) [(0, .ref (q 0)), (1, .int r4), (2, .int el2_25)] 68 []) : ∀ (fuel : Nat) (l2_25 : Int32) (l3_25 : Int32) (l5_25 : Int32) (BA_25 : Nat → Nat → Int32), JR X (QF X (tyz cI cS) 0 0 (fun o : Int32 × (Nat → Nat → Int32) => some (.int o.1)) (fun o : Int32 × (Nat → Nat → Int32) => wdX cI cS q qb qs qS qC (qb 0) (qs 0) tr fa fr rb rl ra wl WS BI o.2 SI SA LN SZ CE)) 7 0 0 (lp_X4_cheapestCarrierRow_25 kk BI r17 fuel l2_25 l3_25 l5_25 BA_25) (wdX cI cS q qb qs qS qC (qb 0) (qs 0) tr fa fr rb rl ra wl WS BI BA_25 SI SA LN SZ CE) [(0, .ref (q 0)), (1, .int r4), (2, .int l2_25), (3, .int l3_25), (4, .int r17), (5, .int l5_25)] 25 [] := by
  intro fuel
  induction fuel with
  | zero => intro l2_25 l3_25 l5_25 BA_25; exact r_none
  | succ fu_25 ih_25 =>
    intro l2_25 l3_25 l5_25 BA_25
    unfold lp_X4_cheapestCarrierRow_25
    refine r_iload (pc := 25) C 5 dX4_cheapestCarrierRow_25 rfl ?_
    refine r_iload (pc := 27) C 4 dX4_cheapestCarrierRow_27 rfl ?_
    refine r_icmp_ge (pc := 29) (tgt := 68) C dX4_cheapestCarrierRow_29 (by decide) ?_ ?_
    · exact r_sub [0, 1, 2] rfl (hk_25 l2_25 l3_25 l5_25 BA_25)
    · refine r_aload_n (pc := 32) C 0 dX4_cheapestCarrierRow_32 rfl rfl ?_
      refine gf_X4_35 (pc := 33) C 0 rfl rfl dX4_cheapestCarrierRow_33 ?_
      refine r_iload (pc := 36) C 5 dX4_cheapestCarrierRow_36 rfl ?_
      refine r_callV (pc := 38) (rest := []) C [5, 6, 7, 8, 9, 10, 11, 12, 13, 14] (fun r38 => wdX cI cS q qb qs qS qC (qb 0) (qs 0) tr fa fr rb rl ra wl WS BI r38 SI SA LN SZ CE) (m_X0_setCarrierRow (xl X) (xD X) cI cS qb BI BA_25 l5_25) mv_X4_170 rfl rfl (fun _ => rfl) (fun _ => rfl) rfl rfl rfl ⟨Nat.zero_le _, Nat.zero_le _⟩ rfl rfl (Nat.le_of_ble_eq_true rfl) dX4_cheapestCarrierRow_38 (fun r38 => ?_)
      refine r_aload_n (pc := 41) C 0 dX4_cheapestCarrierRow_41 rfl rfl ?_
      refine gf_X4_35 (pc := 42) C 0 rfl rfl dX4_cheapestCarrierRow_42 ?_
      refine r_callVr (pc := 45) (rest := []) C [5, 6, 7, 8, 9, 10, 11, 12, 13, 14] (m_X0_dutyAtAll (xl X) (xD X) cI cS qb BI r38) mv_X4_174 rfl rfl rfl rfl rfl ⟨Nat.zero_le _, Nat.zero_le _⟩ rfl rfl (Nat.le_of_ble_eq_true rfl) dX4_cheapestCarrierRow_45 (fun r45 => ?_)
      refine r_istore (pc := 48) C dX4_cheapestCarrierRow_48 (by decide) (lv' := [(6, .int r45), (0, .ref (q 0)), (1, .int r4), (2, .int l2_25), (3, .int l3_25), (4, .int r17), (5, .int l5_25)]) rfl ?_
      refine r_iload (pc := 50) C 0 dX4_cheapestCarrierRow_50 rfl ?_
      refine r_iload_n (pc := 52) C 4 dX4_cheapestCarrierRow_52 rfl rfl ?_
      refine r_icmp_ge (pc := 53) (tgt := 62) C dX4_cheapestCarrierRow_53 (by decide) ?_ ?_
      · refine r_iinc (pc := 62) C 6 dX4_cheapestCarrierRow_62 rfl (ci_1) (by decide) (lv' := [(5, .int (l5_25 + (1 : Int32))), (6, .int r45), (0, .ref (q 0)), (1, .int r4), (2, .int l2_25), (3, .int l3_25), (4, .int r17)]) rfl ?_
        refine r_goto (pc := 65) (tgt := 25) C dX4_cheapestCarrierRow_65 (by decide) ?_
        exact r_sub [2, 3, 4, 5, 6, 0] rfl (ih_25 l2_25 l3_25 (l5_25 + (1 : Int32)) r38)
      · refine r_iload (pc := 56) C 0 dX4_cheapestCarrierRow_56 rfl ?_
        refine r_istore_n (pc := 58) C dX4_cheapestCarrierRow_58 rfl (by decide) (lv' := [(3, .int r45), (6, .int r45), (0, .ref (q 0)), (1, .int r4), (2, .int l2_25), (4, .int r17), (5, .int l5_25)]) rfl ?_
        refine r_iload (pc := 59) C 6 dX4_cheapestCarrierRow_59 rfl ?_
        refine r_istore_n (pc := 61) C dX4_cheapestCarrierRow_61 rfl (by decide) (lv' := [(2, .int l5_25), (3, .int r45), (6, .int r45), (0, .ref (q 0)), (1, .int r4), (4, .int r17), (5, .int l5_25)]) rfl ?_
        refine r_iinc (pc := 62) C 6 dX4_cheapestCarrierRow_62 rfl (ci_1) (by decide) (lv' := [(5, .int (l5_25 + (1 : Int32))), (2, .int l5_25), (3, .int r45), (6, .int r45), (0, .ref (q 0)), (1, .int r4), (4, .int r17)]) rfl ?_
        refine r_goto (pc := 65) (tgt := 25) C dX4_cheapestCarrierRow_65 (by decide) ?_
        exact r_sub [4, 5, 1, 2, 6, 0] rfl (ih_25 l5_25 r45 (l5_25 + (1 : Int32)) r38)
set_option maxHeartbeats 4000000 in
set_option maxRecDepth 100000 in
theorem m_X4_cheapestCarrierRow (l : Launch) (D : va_G) (cI cS : ClassId) (q : Nat → Nat) (qb : Nat → Nat) (qs : Nat → Nat) (qS : Nat → Nat) (qC : Nat → Nat) (tr : Int32) (fa : Int32) (fr : Option Nat) (rb : Int32) (rl : Int32) (ra : Int32) (wl : Int32) (WS : Nat → Int32) (BI : Nat → Int32) (BA : Nat → Nat → Int32) (SI : Nat → Int32) (SA : Nat → Nat → Int32) (LN : Nat → Int32) (SZ : Nat → Int32) (CE : Nat → Nat → Int32) : MX l D (tyz cI cS) yX4_cheapestCarrierRow cX4_cheapestCarrierRow 7 (some .int) (rmz 4 90) [.ref (q 0)] (wdX cI cS q qb qs qS qC (qb 0) (qs 0) tr fa fr rb rl ra wl WS BI BA SI SA LN SZ CE) (f_X4_cheapestCarrierRow BI BA) (fun o : Int32 × (Nat → Nat → Int32) => some (.int o.1)) (fun o : Int32 × (Nat → Nat → Int32) => wdX cI cS q qb qs qS qC (qb 0) (qs 0) tr fa fr rb rl ra wl WS BI o.2 SI SA LN SZ CE) := met_of (own := RX4) (by decide) rfl (Nat.le_of_ble_eq_true rfl) (fun X hxl hxD C => by
  subst hxl
  subst hxD
  show JR X _ _ 0 0 (f_X4_cheapestCarrierRow BI BA) (wdX cI cS q qb qs qS qC (qb 0) (qs 0) tr fa fr rb rl ra wl WS BI BA SI SA LN SZ CE) [(0, .ref (q 0))] 0 []
  unfold f_X4_cheapestCarrierRow
  refine r_aload_n (pc := 0) C 0 dX4_cheapestCarrierRow_0 rfl rfl ?_
  refine gf_X4_35 (pc := 1) C 0 rfl rfl dX4_cheapestCarrierRow_1 ?_
  refine r_callVr (pc := 4) (rest := []) C [5, 6, 7, 8, 9, 10, 11, 12, 13, 14] (m_X0_carrierRow (xl X) (xD X) cI cS qb BI BA) mv_X4_164 rfl rfl rfl rfl rfl ⟨Nat.zero_le _, Nat.zero_le _⟩ rfl rfl (Nat.le_of_ble_eq_true rfl) dX4_cheapestCarrierRow_4 (fun r4 => ?_)
  refine r_istore_n (pc := 7) C dX4_cheapestCarrierRow_7 rfl (by decide) (lv' := [(1, .int r4), (0, .ref (q 0))]) rfl ?_
  refine r_iconst (pc := 8) C dX4_cheapestCarrierRow_8 (ci_0) ?_
  refine r_istore_n (pc := 9) C dX4_cheapestCarrierRow_9 rfl (by decide) (lv' := [(2, .int (0 : Int32)), (1, .int r4), (0, .ref (q 0))]) rfl ?_
  refine r_ldc (pc := 10) C kk_X4_254 dX4_cheapestCarrierRow_10 ?_
  refine r_istore_n (pc := 12) C dX4_cheapestCarrierRow_12 rfl (by decide) (lv' := [(3, .int (2147483647 : Int32)), (2, .int (0 : Int32)), (1, .int r4), (0, .ref (q 0))]) rfl ?_
  refine r_aload_n (pc := 13) C 3 dX4_cheapestCarrierRow_13 rfl rfl ?_
  refine gf_X4_35 (pc := 14) C 0 rfl rfl dX4_cheapestCarrierRow_14 ?_
  refine r_callVr (pc := 17) (rest := []) C [5, 6, 7, 8, 9, 10, 11, 12, 13, 14] (m_X0_carrierRows (xl X) (xD X) cI cS qb BI BA) mv_X4_255 rfl rfl rfl rfl rfl ⟨Nat.zero_le _, Nat.zero_le _⟩ rfl rfl (Nat.le_of_ble_eq_true rfl) dX4_cheapestCarrierRow_17 (fun r17 => ?_)
  refine r_istore (pc := 20) C dX4_cheapestCarrierRow_20 (by decide) (lv' := [(4, .int r17), (3, .int (2147483647 : Int32)), (2, .int (0 : Int32)), (1, .int r4), (0, .ref (q 0))]) rfl ?_
  refine r_iconst (pc := 22) C dX4_cheapestCarrierRow_22 (ci_0) ?_
  refine r_istore (pc := 23) C dX4_cheapestCarrierRow_23 (by decide) (lv' := [(5, .int (0 : Int32)), (4, .int r17), (3, .int (2147483647 : Int32)), (2, .int (0 : Int32)), (1, .int r4), (0, .ref (q 0))]) rfl ?_
  refine r_sub [5, 4, 3, 2, 1, 0] rfl (wl_X4_cheapestCarrierRow_25 X C q qb qs qS qC tr fa fr rb rl ra wl WS BI SI SA LN SZ CE r4 r17  _ (fun el2_25 el3_25 el5_25 eBA_25 => ?_) 1000 (0 : Int32) (2147483647 : Int32) (0 : Int32) BA)
  refine r_aload_n (pc := 68) C 0 dX4_cheapestCarrierRow_68 rfl rfl ?_
  refine gf_X4_35 (pc := 69) C 0 rfl rfl dX4_cheapestCarrierRow_69 ?_
  refine r_iload_n (pc := 72) C 1 dX4_cheapestCarrierRow_72 rfl rfl ?_
  refine r_callV (pc := 73) (rest := []) C [5, 6, 7, 8, 9, 10, 11, 12, 13, 14] (fun r73 => wdX cI cS q qb qs qS qC (qb 0) (qs 0) tr fa fr rb rl ra wl WS BI r73 SI SA LN SZ CE) (m_X0_setCarrierRow (xl X) (xD X) cI cS qb BI eBA_25 r4) mv_X4_170 rfl rfl (fun _ => rfl) (fun _ => rfl) rfl rfl rfl ⟨Nat.zero_le _, Nat.zero_le _⟩ rfl rfl (Nat.le_of_ble_eq_true rfl) dX4_cheapestCarrierRow_73 (fun r73 => ?_)
  refine r_iload_n (pc := 76) C 2 dX4_cheapestCarrierRow_76 rfl rfl ?_
  exact r_iret (pc := 77) C rfl rfl dX4_cheapestCarrierRow_77)
set_option maxHeartbeats 4000000 in
set_option maxRecDepth 100000 in
theorem m_X4_pack (l : Launch) (D : va_G) (cI cS : ClassId) (q : Nat → Nat) (qb : Nat → Nat) (qs : Nat → Nat) (qS : Nat → Nat) (qC : Nat → Nat) (tr : Int32) (fa : Int32) (fr : Option Nat) (rb : Int32) (rl : Int32) (ra : Int32) (wl : Int32) (WS : Nat → Int32) (BI : Nat → Int32) (BA : Nat → Nat → Int32) (SI : Nat → Int32) (SA : Nat → Nat → Int32) (LN : Nat → Int32) (SZ : Nat → Int32) (CE : Nat → Nat → Int32) (a1 : Int32) : MX l D (tyz cI cS) yX4_pack cX4_pack 4 (some .int) (rmz 5 116) [.ref (q 0), .int a1] (wdX cI cS q qb qs qS qC (qb 0) (qs 0) tr fa fr rb rl ra wl WS BI BA SI SA LN SZ CE) (f_X4_pack BI BA a1) (fun o : Int32 × (Nat → Nat → Int32) => some (.int o.1)) (fun o : Int32 × (Nat → Nat → Int32) => wdX cI cS q qb qs qS qC (qb 0) (qs 0) tr fa fr rb rl ra wl WS BI o.2 SI SA LN SZ CE) := met_of (own := RX4) (by decide) rfl (Nat.le_of_ble_eq_true rfl) (fun X hxl hxD C => by
  subst hxl
  subst hxD
  show JR X _ _ 0 0 (f_X4_pack BI BA a1) (wdX cI cS q qb qs qS qC (qb 0) (qs 0) tr fa fr rb rl ra wl WS BI BA SI SA LN SZ CE) [(0, .ref (q 0)), (1, .int a1)] 0 []
  unfold f_X4_pack
  refine r_iload_n (pc := 0) C 1 dX4_pack_0 rfl rfl ?_
  refine r_iconst (pc := 1) C dX4_pack_1 (ci_m1) ?_
  refine r_icmp_ge (pc := 2) (tgt := 7) C dX4_pack_2 (by decide) ?_ ?_
  · refine r_aload_n (pc := 7) C 0 dX4_pack_7 rfl rfl ?_
    refine gf_X4_35 (pc := 8) C 0 rfl rfl dX4_pack_8 ?_
    refine r_callVr (pc := 11) (rest := []) C [5, 6, 7, 8, 9, 10, 11, 12, 13, 14] (m_X0_isMissing (xl X) (xD X) cI cS qb BI BA) mv_X4_117 rfl rfl rfl rfl rfl ⟨Nat.zero_le _, Nat.zero_le _⟩ rfl rfl (Nat.le_of_ble_eq_true rfl) dX4_pack_11 (fun r11 => ?_)
    refine r_if_eq (pc := 14) (tgt := 20) C dX4_pack_14 (by decide) ?_ ?_
    · refine r_iload_n (pc := 20) C 1 dX4_pack_20 rfl rfl ?_
      refine r_aload_n (pc := 21) C 0 dX4_pack_21 rfl rfl ?_
      refine gf_X4_35 (pc := 22) C 0 rfl rfl dX4_pack_22 ?_
      refine gf_X4_72 (pc := 25) C 5 rfl rfl dX4_pack_25 ?_
      refine r_icmp_lt (pc := 28) (tgt := 34) C dX4_pack_28 (by decide) ?_ ?_
      · refine r_aload_n (pc := 34) C 0 dX4_pack_34 rfl rfl ?_
        refine gf_X4_35 (pc := 35) C 0 rfl rfl dX4_pack_35 ?_
        refine r_callVr (pc := 38) (rest := []) C [5, 6, 7, 8, 9, 10, 11, 12, 13, 14] (m_X0_carrierRow (xl X) (xD X) cI cS qb BI BA) mv_X4_164 rfl rfl rfl rfl rfl ⟨Nat.zero_le _, Nat.zero_le _⟩ rfl rfl (Nat.le_of_ble_eq_true rfl) dX4_pack_38 (fun r38 => ?_)
        refine r_istore_n (pc := 41) C dX4_pack_41 rfl (by decide) (lv' := [(2, .int r38), (0, .ref (q 0)), (1, .int a1)]) rfl ?_
        refine r_aload_n (pc := 42) C 1 dX4_pack_42 rfl rfl ?_
        refine gf_X4_35 (pc := 43) C 0 rfl rfl dX4_pack_43 ?_
        refine r_aload_n (pc := 46) C 1 dX4_pack_46 rfl rfl ?_
        refine r_callV0 (pc := 47) (rest := [.ref (qb 0)]) C (m_X4_cheapestCarrierRow (xl X) (xD X) cI cS q qb qs qS qC tr fa fr rb rl ra wl WS BI BA SI SA LN SZ CE) mv_X4_167 rfl rfl rfl ⟨Nat.zero_le _, Nat.zero_le _⟩ rfl rfl (Nat.le_of_ble_eq_true rfl) dX4_pack_47 (fun r47 => ?_)
        refine r_callV (pc := 50) (rest := []) C [5, 6, 7, 8, 9, 10, 11, 12, 13, 14] (fun r50 => wdX cI cS q qb qs qS qC (qb 0) (qs 0) tr fa fr rb rl ra wl WS BI r50 SI SA LN SZ CE) (m_X0_setCarrierRow (xl X) (xD X) cI cS qb BI r47.2 r47.1) mv_X4_170 rfl rfl (fun _ => rfl) (fun _ => rfl) rfl rfl rfl ⟨Nat.zero_le _, Nat.zero_le _⟩ rfl rfl (Nat.le_of_ble_eq_true rfl) dX4_pack_50 (fun r50 => ?_)
        refine r_iload_n (pc := 53) C 2 dX4_pack_53 rfl rfl ?_
        refine r_if_ge (pc := 54) (tgt := 67) C dX4_pack_54 (by decide) ?_ ?_
        · refine r_aload_n (pc := 67) C 1 dX4_pack_67 rfl rfl ?_
          refine gf_X4_35 (pc := 68) C 0 rfl rfl dX4_pack_68 ?_
          refine gf_X4_104 (pc := 71) C 5 rfl rfl dX4_pack_71 ?_
          refine r_iload_n (pc := 74) C 2 dX4_pack_74 rfl rfl ?_
          refine r_iald (pc := 75) C 11 rfl dX4_pack_75 ?_
          refine r_istore_n (pc := 76) C dX4_pack_76 rfl (by decide) (lv' := [(3, .int (r50 7 a1.toNatClampNeg)), (2, .int r38), (0, .ref (q 0)), (1, .int a1)]) rfl ?_
          refine r_aload_n (pc := 77) C 2 dX4_pack_77 rfl rfl ?_
          refine gf_X4_35 (pc := 78) C 0 rfl rfl dX4_pack_78 ?_
          refine r_iload_n (pc := 81) C 1 dX4_pack_81 rfl rfl ?_
          refine r_callV (pc := 82) (rest := []) C [5, 6, 7, 8, 9, 10, 11, 12, 13, 14] (fun r82 => wdX cI cS q qb qs qS qC (qb 0) (qs 0) tr fa fr rb rl ra wl WS BI r82 SI SA LN SZ CE) (m_X0_setCarrierRow (xl X) (xD X) cI cS qb BI r50 r38) mv_X4_170 rfl rfl (fun _ => rfl) (fun _ => rfl) rfl rfl rfl ⟨Nat.zero_le _, Nat.zero_le _⟩ rfl rfl (Nat.le_of_ble_eq_true rfl) dX4_pack_82 (fun r82 => ?_)
          refine r_iload_n (pc := 85) C 0 dX4_pack_85 rfl rfl ?_
          exact r_iret (pc := 86) C rfl rfl dX4_pack_86
        · refine r_aload_n (pc := 57) C 1 dX4_pack_57 rfl rfl ?_
          refine gf_X4_35 (pc := 58) C 0 rfl rfl dX4_pack_58 ?_
          refine r_callVr (pc := 61) (rest := []) C [5, 6, 7, 8, 9, 10, 11, 12, 13, 14] (m_X0_dutyAtAll (xl X) (xD X) cI cS qb BI r50) mv_X4_174 rfl rfl rfl rfl rfl ⟨Nat.zero_le _, Nat.zero_le _⟩ rfl rfl (Nat.le_of_ble_eq_true rfl) dX4_pack_61 (fun r61 => ?_)
          refine r_goto (pc := 64) (tgt := 76) C dX4_pack_64 (by decide) ?_
          refine r_istore_n (pc := 76) C dX4_pack_76 rfl (by decide) (lv' := [(3, .int r61), (2, .int r38), (0, .ref (q 0)), (1, .int a1)]) rfl ?_
          refine r_aload_n (pc := 77) C 2 dX4_pack_77 rfl rfl ?_
          refine gf_X4_35 (pc := 78) C 0 rfl rfl dX4_pack_78 ?_
          refine r_iload_n (pc := 81) C 1 dX4_pack_81 rfl rfl ?_
          refine r_callV (pc := 82) (rest := []) C [5, 6, 7, 8, 9, 10, 11, 12, 13, 14] (fun r82 => wdX cI cS q qb qs qS qC (qb 0) (qs 0) tr fa fr rb rl ra wl WS BI r82 SI SA LN SZ CE) (m_X0_setCarrierRow (xl X) (xD X) cI cS qb BI r50 r38) mv_X4_170 rfl rfl (fun _ => rfl) (fun _ => rfl) rfl rfl rfl ⟨Nat.zero_le _, Nat.zero_le _⟩ rfl rfl (Nat.le_of_ble_eq_true rfl) dX4_pack_82 (fun r82 => ?_)
          refine r_iload_n (pc := 85) C 0 dX4_pack_85 rfl rfl ?_
          exact r_iret (pc := 86) C rfl rfl dX4_pack_86
      · refine r_bipush (pc := 31) C dX4_pack_31 (cb_m9) ?_
        exact r_iret (pc := 33) C rfl rfl dX4_pack_33
    · refine r_bipush (pc := 17) C dX4_pack_17 (cb_m3) ?_
      exact r_iret (pc := 19) C rfl rfl dX4_pack_19
  · refine r_iconst (pc := 5) C dX4_pack_5 (ci_m1) ?_
    exact r_iret (pc := 6) C rfl rfl dX4_pack_6)
set_option maxHeartbeats 4000000 in
set_option maxRecDepth 100000 in
theorem wl_X4_road_22 {cI cS : ClassId} (X : CX) (C : Cx X RX4 cX4_road 7 (some .int) (rmz 5 113) (tyz cI cS)) (q : Nat → Nat) (qb : Nat → Nat) (qs : Nat → Nat) (qS : Nat → Nat) (qC : Nat → Nat) (tr : Int32) (fa : Int32) (fr : Option Nat) (rb : Int32) (rl : Int32) (ra : Int32) (BI : Nat → Int32) (BA : Nat → Nat → Int32) (SI : Nat → Int32) (SA : Nat → Nat → Int32) (LN : Nat → Int32) (SZ : Nat → Int32) (CE : Nat → Nat → Int32)  (kk : Int32 → Int64 → Int32 → Int32 → (Nat → Int32) → Option (Int32 × (Int32) × (Nat → Int32))) (hk_22 : ∀ (el1_22 : Int32) (el2_22 : Int64) (el4_22 : Int32) (ewl_22 : Int32) (eWS_22 : Nat → Int32), JR X (QF X (tyz cI cS) 0 0 (fun o : Int32 × (Int32) × (Nat → Int32) => some (.int o.1)) (fun o : Int32 × (Int32) × (Nat → Int32) => wdX cI cS q qb qs qS qC (qb 0) (qs 0) tr fa fr rb rl ra o.2.1 o.2.2 BI BA SI SA LN SZ CE)) 7 0 0 (kk el1_22 el2_22 el4_22 ewl_22 eWS_22) (wdX cI cS q qb qs qS qC (qb 0) (qs 0) tr fa fr rb rl ra ewl_22 eWS_22 BI BA SI SA LN SZ CE) [(1, .int el1_22)] 82 []) : ∀ (fuel : Nat) (l1_22 : Int32) (l2_22 : Int64) (l4_22 : Int32) (wl_22 : Int32) (WS_22 : Nat → Int32), JR X (QF X (tyz cI cS) 0 0 (fun o : Int32 × (Int32) × (Nat → Int32) => some (.int o.1)) (fun o : Int32 × (Int32) × (Nat → Int32) => wdX cI cS q qb qs qS qC (qb 0) (qs 0) tr fa fr rb rl ra o.2.1 o.2.2 BI BA SI SA LN SZ CE)) 7 0 0 (lp_X4_road_22 kk BI BA fuel l1_22 l2_22 l4_22 wl_22 WS_22) (wdX cI cS q qb qs qS qC (qb 0) (qs 0) tr fa fr rb rl ra wl_22 WS_22 BI BA SI SA LN SZ CE) [(0, .ref (q 0)), (1, .int l1_22), (2, .long l2_22), (4, .int l4_22)] 22 [] := by
  intro fuel
  induction fuel with
  | zero => intro l1_22 l2_22 l4_22 wl_22 WS_22; exact r_none
  | succ fu_22 ih_22 =>
    intro l1_22 l2_22 l4_22 wl_22 WS_22
    unfold lp_X4_road_22
    refine r_iload (pc := 22) C 3 dX4_road_22 rfl ?_
    refine r_aload_n (pc := 24) C 0 dX4_road_24 rfl rfl ?_
    refine gf_X4_35 (pc := 25) C 0 rfl rfl dX4_road_25 ?_
    refine gf_X4_179 (pc := 28) C 5 rfl rfl dX4_road_28 ?_
    refine r_icmp_ge (pc := 31) (tgt := 82) C dX4_road_31 (by decide) ?_ ?_
    · exact r_sub [1] rfl (hk_22 l1_22 l2_22 l4_22 wl_22 WS_22)
    · refine r_aload_n (pc := 34) C 0 dX4_road_34 rfl rfl ?_
      refine gf_X4_28 (pc := 35) C 0 rfl rfl dX4_road_35 ?_
      refine r_callV (pc := 38) (rest := []) C [3, 4] (fun r38 => wdX cI cS q qb qs qS qC (qb 0) (qs 0) tr fa fr rb rl ra r38 WS_22 BI BA SI SA LN SZ CE) (m_X3_begin (xl X) (xD X) cI cS (q 3) (q 4) wl_22 WS_22) mv_X4_182 rfl rfl (fun _ => rfl) (fun _ => rfl) rfl rfl rfl ⟨Nat.zero_le _, Nat.zero_le _⟩ rfl rfl (Nat.le_of_ble_eq_true rfl) dX4_road_38 (fun r38 => ?_)
      refine r_aload_n (pc := 41) C 0 dX4_road_41 rfl rfl ?_
      refine gf_X4_28 (pc := 42) C 0 rfl rfl dX4_road_42 ?_
      refine r_iload (pc := 45) C 3 dX4_road_45 rfl ?_
      refine r_callV (pc := 47) (rest := []) C [3, 4] (fun r47 => wdX cI cS q qb qs qS qC (qb 0) (qs 0) tr fa fr rb rl ra r47.1 r47.2 BI BA SI SA LN SZ CE) (m_X3_goOn (xl X) (xD X) cI cS (q 3) (q 4) r38 WS_22 l4_22) mv_X4_185 rfl rfl (fun _ => rfl) (fun _ => rfl) rfl rfl rfl ⟨Nat.zero_le _, Nat.zero_le _⟩ rfl rfl (Nat.le_of_ble_eq_true rfl) dX4_road_47 (fun r47 => ?_)
      refine r_aload_n (pc := 50) C 0 dX4_road_50 rfl rfl ?_
      refine gf_X4_28 (pc := 51) C 0 rfl rfl dX4_road_51 ?_
      refine r_aload_n (pc := 54) C 0 dX4_road_54 rfl rfl ?_
      refine gf_X4_35 (pc := 55) C 0 rfl rfl dX4_road_55 ?_
      refine r_callVr (pc := 58) (rest := []) C [3, 4, 5, 6, 7, 8, 9, 10, 11, 12, 13, 14] (m_X3_costIn (xl X) (xD X) cI cS (q 3) (q 4) qb r47.1 r47.2 BI BA) mv_X4_155 rfl rfl rfl rfl rfl ⟨Nat.zero_le _, Nat.zero_le _⟩ rfl rfl (Nat.le_of_ble_eq_true rfl) dX4_road_58 (fun r58 => ?_)
      refine r_lstore (pc := 61) C dX4_road_61 (by decide) (lv' := [(5, .long r58), (0, .ref (q 0)), (1, .int l1_22), (2, .long l2_22), (4, .int l4_22)]) rfl ?_
      refine r_lload (pc := 63) C 0 dX4_road_63 rfl ?_
      refine r_lload_n (pc := 65) C 3 dX4_road_65 rfl rfl ?_
      refine r_lcmp (pc := 66) C dX4_road_66 ?_
      refine r_if_ge (pc := 67) (tgt := 76) C dX4_road_67 (by decide) ?_ ?_
      · refine r_iinc (pc := 76) C 4 dX4_road_76 rfl (ci_1) (by decide) (lv' := [(4, .int (l4_22 + (1 : Int32))), (5, .long r58), (0, .ref (q 0)), (1, .int l1_22), (2, .long l2_22)]) rfl ?_
        refine r_goto (pc := 79) (tgt := 22) C dX4_road_79 (by decide) ?_
        exact r_sub [2, 3, 4, 0] rfl (ih_22 l1_22 l2_22 (l4_22 + (1 : Int32)) r47.1 r47.2)
      · refine r_lload (pc := 70) C 0 dX4_road_70 rfl ?_
        refine r_lstore_n (pc := 72) C dX4_road_72 rfl (by decide) (lv' := [(2, .long r58), (5, .long r58), (0, .ref (q 0)), (1, .int l1_22), (4, .int l4_22)]) rfl ?_
        refine r_iload (pc := 73) C 4 dX4_road_73 rfl ?_
        refine r_istore_n (pc := 75) C dX4_road_75 rfl (by decide) (lv' := [(1, .int l4_22), (2, .long r58), (5, .long r58), (0, .ref (q 0)), (4, .int l4_22)]) rfl ?_
        refine r_iinc (pc := 76) C 4 dX4_road_76 rfl (ci_1) (by decide) (lv' := [(4, .int (l4_22 + (1 : Int32))), (1, .int l4_22), (2, .long r58), (5, .long r58), (0, .ref (q 0))]) rfl ?_
        refine r_goto (pc := 79) (tgt := 22) C dX4_road_79 (by decide) ?_
        exact r_sub [4, 1, 2, 0] rfl (ih_22 l4_22 r58 (l4_22 + (1 : Int32)) r47.1 r47.2)
set_option maxHeartbeats 4000000 in
set_option maxRecDepth 100000 in
theorem m_X4_road (l : Launch) (D : va_G) (cI cS : ClassId) (q : Nat → Nat) (qb : Nat → Nat) (qs : Nat → Nat) (qS : Nat → Nat) (qC : Nat → Nat) (tr : Int32) (fa : Int32) (fr : Option Nat) (rb : Int32) (rl : Int32) (ra : Int32) (wl : Int32) (WS : Nat → Int32) (BI : Nat → Int32) (BA : Nat → Nat → Int32) (SI : Nat → Int32) (SA : Nat → Nat → Int32) (LN : Nat → Int32) (SZ : Nat → Int32) (CE : Nat → Nat → Int32) : MX l D (tyz cI cS) yX4_road cX4_road 7 (some .int) (rmz 5 113) [.ref (q 0)] (wdX cI cS q qb qs qS qC (qb 0) (qs 0) tr fa fr rb rl ra wl WS BI BA SI SA LN SZ CE) (f_X4_road wl WS BI BA) (fun o : Int32 × (Int32) × (Nat → Int32) => some (.int o.1)) (fun o : Int32 × (Int32) × (Nat → Int32) => wdX cI cS q qb qs qS qC (qb 0) (qs 0) tr fa fr rb rl ra o.2.1 o.2.2 BI BA SI SA LN SZ CE) := met_of (own := RX4) (by decide) rfl (Nat.le_of_ble_eq_true rfl) (fun X hxl hxD C => by
  subst hxl
  subst hxD
  show JR X _ _ 0 0 (f_X4_road wl WS BI BA) (wdX cI cS q qb qs qS qC (qb 0) (qs 0) tr fa fr rb rl ra wl WS BI BA SI SA LN SZ CE) [(0, .ref (q 0))] 0 []
  unfold f_X4_road
  refine r_aload_n (pc := 0) C 0 dX4_road_0 rfl rfl ?_
  refine gf_X4_35 (pc := 1) C 0 rfl rfl dX4_road_1 ?_
  refine r_callVr (pc := 4) (rest := []) C [5, 6, 7, 8, 9, 10, 11, 12, 13, 14] (m_X0_isMissing (xl X) (xD X) cI cS qb BI BA) mv_X4_117 rfl rfl rfl rfl rfl ⟨Nat.zero_le _, Nat.zero_le _⟩ rfl rfl (Nat.le_of_ble_eq_true rfl) dX4_road_4 (fun r4 => ?_)
  refine r_if_eq (pc := 7) (tgt := 13) C dX4_road_7 (by decide) ?_ ?_
  · refine r_iconst (pc := 13) C dX4_road_13 (ci_0) ?_
    refine r_istore_n (pc := 14) C dX4_road_14 rfl (by decide) (lv' := [(1, .int (0 : Int32)), (0, .ref (q 0))]) rfl ?_
    refine r_ldc2 (pc := 15) C kk_X4_177 dX4_road_15 ?_
    refine r_lstore_n (pc := 18) C dX4_road_18 rfl (by decide) (lv' := [(2, .long (9223372036854775807 : Int64)), (1, .int (0 : Int32)), (0, .ref (q 0))]) rfl ?_
    refine r_iconst (pc := 19) C dX4_road_19 (ci_0) ?_
    refine r_istore (pc := 20) C dX4_road_20 (by decide) (lv' := [(4, .int (0 : Int32)), (2, .long (9223372036854775807 : Int64)), (1, .int (0 : Int32)), (0, .ref (q 0))]) rfl ?_
    refine r_sub [3, 2, 1, 0] rfl (wl_X4_road_22 X C q qb qs qS qC tr fa fr rb rl ra BI BA SI SA LN SZ CE  _ (fun el1_22 el2_22 el4_22 ewl_22 eWS_22 => ?_) 1000 (0 : Int32) (9223372036854775807 : Int64) (0 : Int32) wl WS)
    refine r_iload_n (pc := 82) C 0 dX4_road_82 rfl rfl ?_
    exact r_iret (pc := 83) C rfl rfl dX4_road_83
  · refine r_bipush (pc := 10) C dX4_road_10 (cb_m3) ?_
    exact r_iret (pc := 12) C rfl rfl dX4_road_12)
set_option maxHeartbeats 4000000 in
set_option maxRecDepth 100000 in
theorem m_X4_worth (l : Launch) (D : va_G) (cI cS : ClassId) (q : Nat → Nat) (qb : Nat → Nat) (qs : Nat → Nat) (qS : Nat → Nat) (qC : Nat → Nat) (tr : Int32) (fa : Int32) (fr : Option Nat) (rb : Int32) (rl : Int32) (ra : Int32) (wl : Int32) (WS : Nat → Int32) (BI : Nat → Int32) (BA : Nat → Nat → Int32) (SI : Nat → Int32) (SA : Nat → Nat → Int32) (LN : Nat → Int32) (SZ : Nat → Int32) (CE : Nat → Nat → Int32) (a1 : Int32) (a2 : Int32) (a3 : Int32) (a4 : Int32) (a5 : Int32) : MX l D (tyz cI cS) yX4_worth cX4_worth 10 (some .long) (rmz 5 113) [.ref (q 0), .int a1, .int a2, .int a3, .int a4, .int a5] (wdX cI cS q qb qs qS qC (qb 0) (qs 0) tr fa fr rb rl ra wl WS BI BA SI SA LN SZ CE) (f_X4_worth wl WS BI BA LN SZ CE a1 a2 a3 a4 a5) (fun o : Int64 × (Int32) × (Int32) × (Nat → Int32) × (Nat → Int32) => some (.long o.1)) (fun o : Int64 × (Int32) × (Int32) × (Nat → Int32) × (Nat → Int32) => wdX cI cS q qb qs qS qC (qb 0) (qs 0) tr o.2.1 fr rb rl ra o.2.2.1 o.2.2.2.1 o.2.2.2.2 BA SI SA LN SZ CE) := met_of (own := RX4) (by decide) rfl (Nat.le_of_ble_eq_true rfl) (fun X hxl hxD C => by
  subst hxl
  subst hxD
  show JR X _ _ 0 0 (f_X4_worth wl WS BI BA LN SZ CE a1 a2 a3 a4 a5) (wdX cI cS q qb qs qS qC (qb 0) (qs 0) tr fa fr rb rl ra wl WS BI BA SI SA LN SZ CE) [(0, .ref (q 0)), (1, .int a1), (2, .int a2), (3, .int a3), (4, .int a4), (5, .int a5)] 0 []
  unfold f_X4_worth
  refine r_aload_n (pc := 0) C 0 dX4_worth_0 rfl rfl ?_
  refine gf_X4_35 (pc := 1) C 0 rfl rfl dX4_worth_1 ?_
  refine r_iload_n (pc := 4) C 1 dX4_worth_4 rfl rfl ?_
  refine r_callVr (pc := 5) (rest := []) C [5, 6, 7, 8, 9, 10, 11, 12, 13, 14] (m_X0_hasSilence (xl X) (xD X) cI cS qb BI BA a1) mv_X4_86 rfl rfl rfl rfl rfl ⟨Nat.zero_le _, Nat.zero_le _⟩ rfl rfl (Nat.le_of_ble_eq_true rfl) dX4_worth_5 (fun r5 => ?_)
  refine r_if_ne (pc := 8) (tgt := 16) C dX4_worth_8 (by decide) ?_ ?_
  · refine r_aload_n (pc := 16) C 0 dX4_worth_16 rfl rfl ?_
    refine r_iload_n (pc := 17) C 2 dX4_worth_17 rfl rfl ?_
    refine r_iload_n (pc := 18) C 3 dX4_worth_18 rfl rfl ?_
    refine r_iload (pc := 19) C 4 dX4_worth_19 rfl ?_
    refine r_iload (pc := 21) C 5 dX4_worth_21 rfl ?_
    refine r_callV0 (pc := 23) (rest := []) C (m_X4_takeWay (xl X) (xD X) cI cS q qb qs qS qC tr fa fr rb rl ra wl WS BI BA SI SA LN SZ CE a2 a3 a4 a5) mv_X4_151 rfl rfl rfl ⟨Nat.zero_le _, Nat.zero_le _⟩ rfl rfl (Nat.le_of_ble_eq_true rfl) dX4_worth_23 (fun r23 => ?_)
    refine r_if_ge (pc := 26) (tgt := 33) C dX4_worth_26 (by decide) ?_ ?_
    · refine r_aload_n (pc := 33) C 0 dX4_worth_33 rfl rfl ?_
      refine gf_X4_28 (pc := 34) C 0 rfl rfl dX4_worth_34 ?_
      refine r_aload_n (pc := 37) C 0 dX4_worth_37 rfl rfl ?_
      refine gf_X4_35 (pc := 38) C 0 rfl rfl dX4_worth_38 ?_
      refine r_callVr (pc := 41) (rest := []) C [3, 4, 5, 6, 7, 8, 9, 10, 11, 12, 13, 14] (m_X3_costIn (xl X) (xD X) cI cS (q 3) (q 4) qb r23.2.2.1 r23.2.2.2 BI BA) mv_X4_155 rfl rfl rfl rfl rfl ⟨Nat.zero_le _, Nat.zero_le _⟩ rfl rfl (Nat.le_of_ble_eq_true rfl) dX4_worth_41 (fun r41 => ?_)
      refine r_lstore (pc := 44) C dX4_worth_44 (by decide) (lv' := [(6, .long r41), (0, .ref (q 0)), (1, .int a1), (2, .int a2), (3, .int a3), (4, .int a4), (5, .int a5)]) rfl ?_
      refine r_aload_n (pc := 46) C 1 dX4_worth_46 rfl rfl ?_
      refine gf_X4_35 (pc := 47) C 0 rfl rfl dX4_worth_47 ?_
      refine r_iload_n (pc := 50) C 2 dX4_worth_50 rfl rfl ?_
      refine pf_X4_188 (pc := 51) (ws' := wdX cI cS q qb qs qS qC (qb 0) (qs 0) tr r23.2.1 fr rb rl ra r23.2.2.1 r23.2.2.2 (upd BI 12 a1) BA SI SA LN SZ CE) C 5 rfl rfl dX4_worth_51 rfl ?_
      refine r_aload_n (pc := 54) C 1 dX4_worth_54 rfl rfl ?_
      refine gf_X4_28 (pc := 55) C 0 rfl rfl dX4_worth_55 ?_
      refine r_aload_n (pc := 58) C 1 dX4_worth_58 rfl rfl ?_
      refine gf_X4_35 (pc := 59) C 0 rfl rfl dX4_worth_59 ?_
      refine r_callVr (pc := 62) (rest := []) C [3, 4, 5, 6, 7, 8, 9, 10, 11, 12, 13, 14] (m_X3_costIn (xl X) (xD X) cI cS (q 3) (q 4) qb r23.2.2.1 r23.2.2.2 (upd BI 12 a1) BA) mv_X4_155 rfl rfl rfl rfl rfl ⟨Nat.zero_le _, Nat.zero_le _⟩ rfl rfl (Nat.le_of_ble_eq_true rfl) dX4_worth_62 (fun r62 => ?_)
      refine r_lstore (pc := 65) C dX4_worth_65 (by decide) (lv' := [(8, .long r62), (6, .long r41), (0, .ref (q 0)), (1, .int a1), (2, .int a2), (3, .int a3), (4, .int a4), (5, .int a5)]) rfl ?_
      refine r_aload_n (pc := 67) C 2 dX4_worth_67 rfl rfl ?_
      refine gf_X4_35 (pc := 68) C 0 rfl rfl dX4_worth_68 ?_
      refine r_bipush (pc := 71) C dX4_worth_71 (cb_m9) ?_
      refine pf_X4_188 (pc := 73) (ws' := wdX cI cS q qb qs qS qC (qb 0) (qs 0) tr r23.2.1 fr rb rl ra r23.2.2.1 r23.2.2.2 (upd (upd BI 12 a1) 12 (-9 : Int32)) BA SI SA LN SZ CE) C 5 rfl rfl dX4_worth_73 rfl ?_
      refine r_lload (pc := 76) C 1 dX4_worth_76 rfl ?_
      refine r_lload (pc := 78) C 0 dX4_worth_78 rfl ?_
      refine r_lsub (pc := 80) C dX4_worth_80 ?_
      exact r_lret (pc := 81) C rfl rfl dX4_worth_81
    · refine r_ldc2 (pc := 29) C kk_X4_136 dX4_worth_29 ?_
      exact r_lret (pc := 32) C rfl rfl dX4_worth_32
  · refine r_aload_n (pc := 11) C 0 dX4_worth_11 rfl rfl ?_
    refine r_callV0 (pc := 12) (rest := []) C (m_X4_lostUnfaulted (xl X) (xD X) cI cS q qb qs qS qC tr fa fr rb rl ra wl WS BI BA SI SA LN SZ CE) mv_X4_147 rfl rfl rfl ⟨Nat.zero_le _, Nat.zero_le _⟩ rfl rfl (Nat.le_of_ble_eq_true rfl) dX4_worth_12 (fun r12 => ?_)
    exact r_lret (pc := 15) C rfl rfl dX4_worth_15)
set_option maxHeartbeats 4000000 in
set_option maxRecDepth 100000 in
theorem m_X4_reading (l : Launch) (D : va_G) (cI cS : ClassId) (q : Nat → Nat) (qb : Nat → Nat) (qs : Nat → Nat) (qS : Nat → Nat) (qC : Nat → Nat) (tr : Int32) (fa : Int32) (fr : Option Nat) (rb : Int32) (rl : Int32) (ra : Int32) (wl : Int32) (WS : Nat → Int32) (BI : Nat → Int32) (BA : Nat → Nat → Int32) (SI : Nat → Int32) (SA : Nat → Nat → Int32) (LN : Nat → Int32) (SZ : Nat → Int32) (CE : Nat → Nat → Int32) (a1 : Int32) (a2 : Int32) : MX l D (tyz cI cS) yX4_reading cX4_reading 4 (some .int) (rmz 1 22) [.ref (q 0), .int a1, .int a2] (wdX cI cS q qb qs qS qC (qb 0) (qs 0) tr fa fr rb rl ra wl WS BI BA SI SA LN SZ CE) (f_X4_reading BI BA a1 a2) (fun o : Int32 × (Nat → Int32) × (Nat → Nat → Int32) => some (.int o.1)) (fun o : Int32 × (Nat → Int32) × (Nat → Nat → Int32) => wdX cI cS q qb qs qS qC (qb 0) (qs 0) tr fa fr rb rl ra wl WS o.2.1 o.2.2 SI SA LN SZ CE) := met_of (own := RX4) (by decide) rfl (Nat.le_of_ble_eq_true rfl) (fun X hxl hxD C => by
  subst hxl
  subst hxD
  show JR X _ _ 0 0 (f_X4_reading BI BA a1 a2) (wdX cI cS q qb qs qS qC (qb 0) (qs 0) tr fa fr rb rl ra wl WS BI BA SI SA LN SZ CE) [(0, .ref (q 0)), (1, .int a1), (2, .int a2)] 0 []
  unfold f_X4_reading
  refine r_aload_n (pc := 0) C 0 dX4_reading_0 rfl rfl ?_
  refine gf_X4_35 (pc := 1) C 0 rfl rfl dX4_reading_1 ?_
  refine r_iload_n (pc := 4) C 1 dX4_reading_4 rfl rfl ?_
  refine r_callVr (pc := 5) (rest := []) C [5, 6, 7, 8, 9, 10, 11, 12, 13, 14] (m_X0_hasPost (xl X) (xD X) cI cS qb BI BA a1) mv_X4_75 rfl rfl rfl rfl rfl ⟨Nat.zero_le _, Nat.zero_le _⟩ rfl rfl (Nat.le_of_ble_eq_true rfl) dX4_reading_5 (fun r5 => ?_)
  refine r_if_ne (pc := 8) (tgt := 13) C dX4_reading_8 (by decide) ?_ ?_
  · refine r_iload_n (pc := 13) C 2 dX4_reading_13 rfl rfl ?_
    refine r_iconst (pc := 14) C dX4_reading_14 (ci_0) ?_
    refine r_ldc (pc := 15) C kk_X4_191 dX4_reading_15 ?_
    refine r_callSr (pc := 17) (rest := []) C (m_X4_isWithin (xl X) (xD X) cI cS a2 (0 : Int32) (99999 : Int32)) ms_X4_113 rfl ⟨Nat.zero_le _, Nat.zero_le _⟩ rfl rfl (Nat.le_of_ble_eq_true rfl) dX4_reading_17 (fun r17 => ?_)
    refine r_if_ne (pc := 20) (tgt := 26) C dX4_reading_20 (by decide) ?_ ?_
    · refine r_aload_n (pc := 26) C 0 dX4_reading_26 rfl rfl ?_
      refine gf_X4_35 (pc := 27) C 0 rfl rfl dX4_reading_27 ?_
      refine gf_X4_192 (pc := 30) C 5 rfl rfl dX4_reading_30 ?_
      refine r_bipush (pc := 33) C dX4_reading_33 (cb_8) ?_
      refine r_icmp_lt (pc := 35) (tgt := 41) C dX4_reading_35 (by decide) ?_ ?_
      · refine r_aload_n (pc := 41) C 0 dX4_reading_41 rfl rfl ?_
        refine gf_X4_35 (pc := 42) C 0 rfl rfl dX4_reading_42 ?_
        refine gf_X4_192 (pc := 45) C 5 rfl rfl dX4_reading_45 ?_
        refine r_istore_n (pc := 48) C dX4_reading_48 rfl (by decide) (lv' := [(3, .int (BI 13)), (0, .ref (q 0)), (1, .int a1), (2, .int a2)]) rfl ?_
        refine r_aload_n (pc := 49) C 1 dX4_reading_49 rfl rfl ?_
        refine gf_X4_35 (pc := 50) C 0 rfl rfl dX4_reading_50 ?_
        refine gf_X4_195 (pc := 53) C 5 rfl rfl dX4_reading_53 ?_
        refine r_iload_n (pc := 56) C 0 dX4_reading_56 rfl rfl ?_
        refine r_iload_n (pc := 57) C 2 dX4_reading_57 rfl rfl ?_
        refine r_iast (pc := 58) (ws' := wdX cI cS q qb qs qS qC (qb 0) (qs 0) tr fa fr rb rl ra wl WS BI (va_up BA 14 (upd (BA 14) (BI 13).toNatClampNeg a1)) SI SA LN SZ CE) C 13 rfl dX4_reading_58 rfl ?_
        refine r_aload_n (pc := 59) C 1 dX4_reading_59 rfl rfl ?_
        refine gf_X4_35 (pc := 60) C 0 rfl rfl dX4_reading_60 ?_
        refine gf_X4_198 (pc := 63) C 5 rfl rfl dX4_reading_63 ?_
        refine r_iload_n (pc := 66) C 0 dX4_reading_66 rfl rfl ?_
        refine r_iload_n (pc := 67) C 3 dX4_reading_67 rfl rfl ?_
        refine r_iast (pc := 68) (ws' := wdX cI cS q qb qs qS qC (qb 0) (qs 0) tr fa fr rb rl ra wl WS BI (va_up (va_up BA 14 (upd (BA 14) (BI 13).toNatClampNeg a1)) 15 (upd ((va_up BA 14 (upd (BA 14) (BI 13).toNatClampNeg a1)) 15) (BI 13).toNatClampNeg a2)) SI SA LN SZ CE) C 14 rfl dX4_reading_68 rfl ?_
        refine r_aload_n (pc := 69) C 1 dX4_reading_69 rfl rfl ?_
        refine gf_X4_35 (pc := 70) C 0 rfl rfl dX4_reading_70 ?_
        refine r_iload_n (pc := 73) C 0 dX4_reading_73 rfl rfl ?_
        refine r_iconst (pc := 74) C dX4_reading_74 (ci_1) ?_
        refine r_iadd (pc := 75) C dX4_reading_75 ?_
        refine pf_X4_192 (pc := 76) (ws' := wdX cI cS q qb qs qS qC (qb 0) (qs 0) tr fa fr rb rl ra wl WS (upd BI 13 ((BI 13) + (1 : Int32))) (va_up (va_up BA 14 (upd (BA 14) (BI 13).toNatClampNeg a1)) 15 (upd ((va_up BA 14 (upd (BA 14) (BI 13).toNatClampNeg a1)) 15) (BI 13).toNatClampNeg a2)) SI SA LN SZ CE) C 5 rfl rfl dX4_reading_76 rfl ?_
        refine r_iload_n (pc := 79) C 0 dX4_reading_79 rfl rfl ?_
        exact r_iret (pc := 80) C rfl rfl dX4_reading_80
      · refine r_bipush (pc := 38) C dX4_reading_38 (cb_m4) ?_
        exact r_iret (pc := 40) C rfl rfl dX4_reading_40
    · refine r_bipush (pc := 23) C dX4_reading_23 (cb_m2) ?_
      exact r_iret (pc := 25) C rfl rfl dX4_reading_25
  · refine r_iconst (pc := 11) C dX4_reading_11 (ci_m1) ?_
    exact r_iret (pc := 12) C rfl rfl dX4_reading_12)
set_option maxHeartbeats 4000000 in
set_option maxRecDepth 100000 in
theorem m_X4_back (l : Launch) (D : va_G) (cI cS : ClassId) (q : Nat → Nat) (qb : Nat → Nat) (qs : Nat → Nat) (qS : Nat → Nat) (qC : Nat → Nat) (tr : Int32) (fa : Int32) (fr : Option Nat) (rb : Int32) (rl : Int32) (ra : Int32) (wl : Int32) (WS : Nat → Int32) (BI : Nat → Int32) (BA : Nat → Nat → Int32) (SI : Nat → Int32) (SA : Nat → Nat → Int32) (LN : Nat → Int32) (SZ : Nat → Int32) (CE : Nat → Nat → Int32) (a1 : Int32) : MX l D (tyz cI cS) yX4_back cX4_back 2 (some .int) (rmz 1 22) [.ref (q 0), .int a1] (wdX cI cS q qb qs qS qC (qb 0) (qs 0) tr fa fr rb rl ra wl WS BI BA SI SA LN SZ CE) (f_X4_back BI a1) (fun o : Int32 × (Nat → Int32) => some (.int o.1)) (fun o : Int32 × (Nat → Int32) => wdX cI cS q qb qs qS qC (qb 0) (qs 0) tr fa fr rb rl ra wl WS o.2 BA SI SA LN SZ CE) := met_of (own := RX4) (by decide) rfl (Nat.le_of_ble_eq_true rfl) (fun X hxl hxD C => by
  subst hxl
  subst hxD
  show JR X _ _ 0 0 (f_X4_back BI a1) (wdX cI cS q qb qs qS qC (qb 0) (qs 0) tr fa fr rb rl ra wl WS BI BA SI SA LN SZ CE) [(0, .ref (q 0)), (1, .int a1)] 0 []
  unfold f_X4_back
  refine r_iload_n (pc := 0) C 1 dX4_back_0 rfl rfl ?_
  refine r_iconst (pc := 1) C dX4_back_1 (ci_0) ?_
  refine r_aload_n (pc := 2) C 0 dX4_back_2 rfl rfl ?_
  refine gf_X4_35 (pc := 3) C 0 rfl rfl dX4_back_3 ?_
  refine gf_X4_192 (pc := 6) C 5 rfl rfl dX4_back_6 ?_
  refine r_callSr (pc := 9) (rest := []) C (m_X4_isWithin (xl X) (xD X) cI cS a1 (0 : Int32) (BI 13)) ms_X4_113 rfl ⟨Nat.zero_le _, Nat.zero_le _⟩ rfl rfl (Nat.le_of_ble_eq_true rfl) dX4_back_9 (fun r9 => ?_)
  refine r_if_ne (pc := 12) (tgt := 18) C dX4_back_12 (by decide) ?_ ?_
  · refine r_aload_n (pc := 18) C 0 dX4_back_18 rfl rfl ?_
    refine gf_X4_35 (pc := 19) C 0 rfl rfl dX4_back_19 ?_
    refine r_dup (pc := 22) C dX4_back_22 rfl ?_
    refine gf_X4_192 (pc := 23) C 5 rfl rfl dX4_back_23 ?_
    refine r_iload_n (pc := 26) C 1 dX4_back_26 rfl rfl ?_
    refine r_isub (pc := 27) C dX4_back_27 ?_
    refine pf_X4_192 (pc := 28) (ws' := wdX cI cS q qb qs qS qC (qb 0) (qs 0) tr fa fr rb rl ra wl WS (upd BI 13 ((BI 13) - a1)) BA SI SA LN SZ CE) C 5 rfl rfl dX4_back_28 rfl ?_
    refine r_aload_n (pc := 31) C 0 dX4_back_31 rfl rfl ?_
    refine gf_X4_35 (pc := 32) C 0 rfl rfl dX4_back_32 ?_
    refine gf_X4_192 (pc := 35) C 5 rfl rfl dX4_back_35 ?_
    exact r_iret (pc := 38) C rfl rfl dX4_back_38
  · refine r_bipush (pc := 15) C dX4_back_15 (cb_m2) ?_
    exact r_iret (pc := 17) C rfl rfl dX4_back_17)
set_option maxHeartbeats 4000000 in
set_option maxRecDepth 100000 in
theorem wl_X4_said_48 {cI cS : ClassId} (X : CX) (C : Cx X RX4 cX4_said 6 (some .int) (rmz 5 110) (tyz cI cS)) (q : Nat → Nat) (qb : Nat → Nat) (qs : Nat → Nat) (qS : Nat → Nat) (qC : Nat → Nat) (tr : Int32) (fa : Int32) (fr : Option Nat) (rb : Int32) (rl : Int32) (ra : Int32) (wl : Int32) (WS : Nat → Int32) (BI : Nat → Int32) (BA : Nat → Nat → Int32) (SI : Nat → Int32) (SA : Nat → Nat → Int32) (LN : Nat → Int32) (SZ : Nat → Int32) (CE : Nat → Nat → Int32) (a1 : Int32)  (kk : Int32 → Int32 → Int32 → (Nat → Int32) → Option (Int32 × (Nat → Int32))) (hk_48 : ∀ (el3_48 : Int32) (el4_48 : Int32) (el5_48 : Int32) (eBI_48 : Nat → Int32), JR X (QF X (tyz cI cS) 0 0 (fun o : Int32 × (Nat → Int32) => some (.int o.1)) (fun o : Int32 × (Nat → Int32) => wdX cI cS q qb qs qS qC (qb 0) (qs 0) tr fa fr rb rl ra wl WS o.2 BA SI SA LN SZ CE)) 6 0 0 (kk el3_48 el4_48 el5_48 eBI_48) (wdX cI cS q qb qs qS qC (qb 0) (qs 0) tr fa fr rb rl ra wl WS eBI_48 BA SI SA LN SZ CE) [(0, .ref (q 0)), (1, .int a1), (2, .int (BI 9)), (3, .int el3_48), (4, .int el4_48)] 85 []) : ∀ (fuel : Nat) (l3_48 : Int32) (l4_48 : Int32) (l5_48 : Int32) (BI_48 : Nat → Int32), JR X (QF X (tyz cI cS) 0 0 (fun o : Int32 × (Nat → Int32) => some (.int o.1)) (fun o : Int32 × (Nat → Int32) => wdX cI cS q qb qs qS qC (qb 0) (qs 0) tr fa fr rb rl ra wl WS o.2 BA SI SA LN SZ CE)) 6 0 0 (lp_X4_said_48 kk BA fuel l3_48 l4_48 l5_48 BI_48) (wdX cI cS q qb qs qS qC (qb 0) (qs 0) tr fa fr rb rl ra wl WS BI_48 BA SI SA LN SZ CE) [(0, .ref (q 0)), (1, .int a1), (2, .int (BI 9)), (3, .int l3_48), (4, .int l4_48), (5, .int l5_48)] 48 [] := by
  intro fuel
  induction fuel with
  | zero => intro l3_48 l4_48 l5_48 BI_48; exact r_none
  | succ fu_48 ih_48 =>
    intro l3_48 l4_48 l5_48 BI_48
    unfold lp_X4_said_48
    refine r_iload (pc := 48) C 5 dX4_said_48 rfl ?_
    refine r_if_lt (pc := 50) (tgt := 85) C dX4_said_50 (by decide) ?_ ?_
    · exact r_sub [0, 1, 2, 3, 4] rfl (hk_48 l3_48 l4_48 l5_48 BI_48)
    · refine r_aload_n (pc := 53) C 0 dX4_said_53 rfl rfl ?_
      refine gf_X4_35 (pc := 54) C 0 rfl rfl dX4_said_54 ?_
      refine r_iload (pc := 57) C 5 dX4_said_57 rfl ?_
      refine pf_X4_127 (pc := 59) (ws' := wdX cI cS q qb qs qS qC (qb 0) (qs 0) tr fa fr rb rl ra wl WS (upd BI_48 9 l5_48) BA SI SA LN SZ CE) C 5 rfl rfl dX4_said_59 rfl ?_
      refine r_aload_n (pc := 62) C 0 dX4_said_62 rfl rfl ?_
      refine gf_X4_35 (pc := 63) C 0 rfl rfl dX4_said_63 ?_
      refine r_callVr (pc := 66) (rest := []) C [5, 6, 7, 8, 9, 10, 11, 12, 13, 14] (m_X0_readingsAreSo (xl X) (xD X) cI cS qb (upd BI_48 9 l5_48) BA) mv_X4_204 rfl rfl rfl rfl rfl ⟨Nat.zero_le _, Nat.zero_le _⟩ rfl rfl (Nat.le_of_ble_eq_true rfl) dX4_said_66 (fun r66 => ?_)
      refine r_if_eq (pc := 69) (tgt := 79) C dX4_said_69 (by decide) ?_ ?_
      · refine r_iinc (pc := 79) C 5 dX4_said_79 rfl (ci_m1) (by decide) (lv' := [(5, .int (l5_48 + (-1 : Int32))), (0, .ref (q 0)), (1, .int a1), (2, .int (BI 9)), (3, .int l3_48), (4, .int l4_48)]) rfl ?_
        refine r_goto (pc := 82) (tgt := 48) C dX4_said_82 (by decide) ?_
        exact r_sub [1, 2, 3, 4, 5, 0] rfl (ih_48 l3_48 l4_48 (l5_48 + (-1 : Int32)) (upd BI_48 9 l5_48))
      · refine r_iinc (pc := 72) C 3 dX4_said_72 rfl (ci_1) (by decide) (lv' := [(3, .int (l3_48 + (1 : Int32))), (0, .ref (q 0)), (1, .int a1), (2, .int (BI 9)), (4, .int l4_48), (5, .int l5_48)]) rfl ?_
        refine r_iload (pc := 75) C 5 dX4_said_75 rfl ?_
        refine r_istore (pc := 77) C dX4_said_77 (by decide) (lv' := [(4, .int l5_48), (3, .int (l3_48 + (1 : Int32))), (0, .ref (q 0)), (1, .int a1), (2, .int (BI 9)), (5, .int l5_48)]) rfl ?_
        refine r_iinc (pc := 79) C 5 dX4_said_79 rfl (ci_m1) (by decide) (lv' := [(5, .int (l5_48 + (-1 : Int32))), (4, .int l5_48), (3, .int (l3_48 + (1 : Int32))), (0, .ref (q 0)), (1, .int a1), (2, .int (BI 9))]) rfl ?_
        refine r_goto (pc := 82) (tgt := 48) C dX4_said_82 (by decide) ?_
        exact r_sub [3, 4, 5, 2, 1, 0] rfl (ih_48 (l3_48 + (1 : Int32)) l5_48 (l5_48 + (-1 : Int32)) (upd BI_48 9 l5_48))
set_option maxHeartbeats 4000000 in
set_option maxRecDepth 100000 in
theorem m_X4_said (l : Launch) (D : va_G) (cI cS : ClassId) (q : Nat → Nat) (qb : Nat → Nat) (qs : Nat → Nat) (qS : Nat → Nat) (qC : Nat → Nat) (tr : Int32) (fa : Int32) (fr : Option Nat) (rb : Int32) (rl : Int32) (ra : Int32) (wl : Int32) (WS : Nat → Int32) (BI : Nat → Int32) (BA : Nat → Nat → Int32) (SI : Nat → Int32) (SA : Nat → Nat → Int32) (LN : Nat → Int32) (SZ : Nat → Int32) (CE : Nat → Nat → Int32) (a1 : Int32) : MX l D (tyz cI cS) yX4_said cX4_said 6 (some .int) (rmz 5 110) [.ref (q 0), .int a1] (wdX cI cS q qb qs qS qC (qb 0) (qs 0) tr fa fr rb rl ra wl WS BI BA SI SA LN SZ CE) (f_X4_said BI BA a1) (fun o : Int32 × (Nat → Int32) => some (.int o.1)) (fun o : Int32 × (Nat → Int32) => wdX cI cS q qb qs qS qC (qb 0) (qs 0) tr fa fr rb rl ra wl WS o.2 BA SI SA LN SZ CE) := met_of (own := RX4) (by decide) rfl (Nat.le_of_ble_eq_true rfl) (fun X hxl hxD C => by
  subst hxl
  subst hxD
  show JR X _ _ 0 0 (f_X4_said BI BA a1) (wdX cI cS q qb qs qS qC (qb 0) (qs 0) tr fa fr rb rl ra wl WS BI BA SI SA LN SZ CE) [(0, .ref (q 0)), (1, .int a1)] 0 []
  unfold f_X4_said
  refine r_iload_n (pc := 0) C 1 dX4_said_0 rfl rfl ?_
  refine r_iconst (pc := 1) C dX4_said_1 (ci_0) ?_
  refine r_iconst (pc := 2) C dX4_said_2 (ci_1) ?_
  refine r_callSr (pc := 3) (rest := []) C (m_X4_isWithin (xl X) (xD X) cI cS a1 (0 : Int32) (1 : Int32)) ms_X4_113 rfl ⟨Nat.zero_le _, Nat.zero_le _⟩ rfl rfl (Nat.le_of_ble_eq_true rfl) dX4_said_3 (fun r3 => ?_)
  refine r_if_ne (pc := 6) (tgt := 12) C dX4_said_6 (by decide) ?_ ?_
  · refine r_aload_n (pc := 12) C 0 dX4_said_12 rfl rfl ?_
    refine gf_X4_35 (pc := 13) C 0 rfl rfl dX4_said_13 ?_
    refine r_callVr (pc := 16) (rest := []) C [5, 6, 7, 8, 9, 10, 11, 12, 13, 14] (m_X0_isMissing (xl X) (xD X) cI cS qb BI BA) mv_X4_117 rfl rfl rfl rfl rfl ⟨Nat.zero_le _, Nat.zero_le _⟩ rfl rfl (Nat.le_of_ble_eq_true rfl) dX4_said_16 (fun r16 => ?_)
    refine r_if_eq (pc := 19) (tgt := 25) C dX4_said_19 (by decide) ?_ ?_
    · refine r_aload_n (pc := 25) C 0 dX4_said_25 rfl rfl ?_
      refine gf_X4_35 (pc := 26) C 0 rfl rfl dX4_said_26 ?_
      refine gf_X4_127 (pc := 29) C 5 rfl rfl dX4_said_29 ?_
      refine r_istore_n (pc := 32) C dX4_said_32 rfl (by decide) (lv' := [(2, .int (BI 9)), (0, .ref (q 0)), (1, .int a1)]) rfl ?_
      refine r_iconst (pc := 33) C dX4_said_33 (ci_0) ?_
      refine r_istore_n (pc := 34) C dX4_said_34 rfl (by decide) (lv' := [(3, .int (0 : Int32)), (2, .int (BI 9)), (0, .ref (q 0)), (1, .int a1)]) rfl ?_
      refine r_bipush (pc := 35) C dX4_said_35 (cb_m9) ?_
      refine r_istore (pc := 37) C dX4_said_37 (by decide) (lv' := [(4, .int (-9 : Int32)), (3, .int (0 : Int32)), (2, .int (BI 9)), (0, .ref (q 0)), (1, .int a1)]) rfl ?_
      refine r_aload_n (pc := 39) C 3 dX4_said_39 rfl rfl ?_
      refine gf_X4_35 (pc := 40) C 0 rfl rfl dX4_said_40 ?_
      refine r_callVr (pc := 43) (rest := []) C [5, 6, 7, 8, 9, 10, 11, 12, 13, 14] (m_X0_allSilences (xl X) (xD X) cI cS qb BI BA) mv_X4_201 rfl rfl rfl rfl rfl ⟨Nat.zero_le _, Nat.zero_le _⟩ rfl rfl (Nat.le_of_ble_eq_true rfl) dX4_said_43 (fun r43 => ?_)
      refine r_istore (pc := 46) C dX4_said_46 (by decide) (lv' := [(5, .int r43), (4, .int (-9 : Int32)), (3, .int (0 : Int32)), (2, .int (BI 9)), (0, .ref (q 0)), (1, .int a1)]) rfl ?_
      refine r_sub [4, 5, 3, 2, 1, 0] rfl (wl_X4_said_48 X C q qb qs qS qC tr fa fr rb rl ra wl WS BI BA SI SA LN SZ CE a1  _ (fun el3_48 el4_48 el5_48 eBI_48 => ?_) 1000 (0 : Int32) (-9 : Int32) r43 BI)
      refine r_aload_n (pc := 85) C 0 dX4_said_85 rfl rfl ?_
      refine gf_X4_35 (pc := 86) C 0 rfl rfl dX4_said_86 ?_
      refine r_iload_n (pc := 89) C 2 dX4_said_89 rfl rfl ?_
      refine pf_X4_127 (pc := 90) (ws' := wdX cI cS q qb qs qS qC (qb 0) (qs 0) tr fa fr rb rl ra wl WS (upd eBI_48 9 (BI 9)) BA SI SA LN SZ CE) C 5 rfl rfl dX4_said_90 rfl ?_
      refine r_iload_n (pc := 93) C 1 dX4_said_93 rfl rfl ?_
      refine r_if_ne (pc := 94) (tgt := 101) C dX4_said_94 (by decide) ?_ ?_
      · refine r_iload (pc := 101) C 4 dX4_said_101 rfl ?_
        exact r_iret (pc := 103) C rfl rfl dX4_said_103
      · refine r_iload_n (pc := 97) C 3 dX4_said_97 rfl rfl ?_
        refine r_goto (pc := 98) (tgt := 103) C dX4_said_98 (by decide) ?_
        exact r_iret (pc := 103) C rfl rfl dX4_said_103
    · refine r_bipush (pc := 22) C dX4_said_22 (cb_m3) ?_
      exact r_iret (pc := 24) C rfl rfl dX4_said_24
  · refine r_bipush (pc := 9) C dX4_said_9 (cb_m2) ?_
    exact r_iret (pc := 11) C rfl rfl dX4_said_11)
set_option maxHeartbeats 4000000 in
set_option maxRecDepth 100000 in
theorem wl_X4_frees_25 {cI cS : ClassId} (X : CX) (C : Cx X RX4 cX4_frees 4 (some .int) (rmz 5 110) (tyz cI cS)) (q : Nat → Nat) (qb : Nat → Nat) (qs : Nat → Nat) (qS : Nat → Nat) (qC : Nat → Nat) (tr : Int32) (fa : Int32) (fr : Option Nat) (rb : Int32) (rl : Int32) (ra : Int32) (wl : Int32) (WS : Nat → Int32) (BI : Nat → Int32) (BA : Nat → Nat → Int32) (SI : Nat → Int32) (SA : Nat → Nat → Int32) (LN : Nat → Int32) (SZ : Nat → Int32) (CE : Nat → Nat → Int32)  (kk : Int32 → Int32 → (Nat → Int32) → Option (Int32 × (Nat → Int32))) (hk_25 : ∀ (el2_25 : Int32) (el3_25 : Int32) (eBI_25 : Nat → Int32), JR X (QF X (tyz cI cS) 0 0 (fun o : Int32 × (Nat → Int32) => some (.int o.1)) (fun o : Int32 × (Nat → Int32) => wdX cI cS q qb qs qS qC (qb 0) (qs 0) tr fa fr rb rl ra wl WS o.2 BA SI SA LN SZ CE)) 4 0 0 (kk el2_25 el3_25 eBI_25) (wdX cI cS q qb qs qS qC (qb 0) (qs 0) tr fa fr rb rl ra wl WS eBI_25 BA SI SA LN SZ CE) [(0, .ref (q 0)), (1, .int (BI 11)), (2, .int el2_25)] 61 []) : ∀ (fuel : Nat) (l2_25 : Int32) (l3_25 : Int32) (BI_25 : Nat → Int32), JR X (QF X (tyz cI cS) 0 0 (fun o : Int32 × (Nat → Int32) => some (.int o.1)) (fun o : Int32 × (Nat → Int32) => wdX cI cS q qb qs qS qC (qb 0) (qs 0) tr fa fr rb rl ra wl WS o.2 BA SI SA LN SZ CE)) 4 0 0 (lp_X4_frees_25 kk BA fuel l2_25 l3_25 BI_25) (wdX cI cS q qb qs qS qC (qb 0) (qs 0) tr fa fr rb rl ra wl WS BI_25 BA SI SA LN SZ CE) [(0, .ref (q 0)), (1, .int (BI 11)), (2, .int l2_25), (3, .int l3_25)] 25 [] := by
  intro fuel
  induction fuel with
  | zero => intro l2_25 l3_25 BI_25; exact r_none
  | succ fu_25 ih_25 =>
    intro l2_25 l3_25 BI_25
    unfold lp_X4_frees_25
    refine r_iload_n (pc := 25) C 3 dX4_frees_25 rfl rfl ?_
    refine r_bipush (pc := 26) C dX4_frees_26 (cb_9) ?_
    refine r_icmp_gt (pc := 28) (tgt := 61) C dX4_frees_28 (by decide) ?_ ?_
    · exact r_sub [0, 1, 2] rfl (hk_25 l2_25 l3_25 BI_25)
    · refine r_aload_n (pc := 31) C 0 dX4_frees_31 rfl rfl ?_
      refine gf_X4_35 (pc := 32) C 0 rfl rfl dX4_frees_32 ?_
      refine r_iload_n (pc := 35) C 3 dX4_frees_35 rfl rfl ?_
      refine pf_X4_121 (pc := 36) (ws' := wdX cI cS q qb qs qS qC (qb 0) (qs 0) tr fa fr rb rl ra wl WS (upd BI_25 11 l3_25) BA SI SA LN SZ CE) C 5 rfl rfl dX4_frees_36 rfl ?_
      refine r_aload_n (pc := 39) C 0 dX4_frees_39 rfl rfl ?_
      refine gf_X4_35 (pc := 40) C 0 rfl rfl dX4_frees_40 ?_
      refine r_callVr (pc := 43) (rest := []) C [5, 6, 7, 8, 9, 10, 11, 12, 13, 14] (m_X0_readingsAreSo (xl X) (xD X) cI cS qb (upd BI_25 11 l3_25) BA) mv_X4_204 rfl rfl rfl rfl rfl ⟨Nat.zero_le _, Nat.zero_le _⟩ rfl rfl (Nat.le_of_ble_eq_true rfl) dX4_frees_43 (fun r43 => ?_)
      refine r_if_eq (pc := 46) (tgt := 55) C dX4_frees_46 (by decide) ?_ ?_
      · refine r_iinc (pc := 55) C 3 dX4_frees_55 rfl (ci_1) (by decide) (lv' := [(3, .int (l3_25 + (1 : Int32))), (0, .ref (q 0)), (1, .int (BI 11)), (2, .int l2_25)]) rfl ?_
        refine r_goto (pc := 58) (tgt := 25) C dX4_frees_58 (by decide) ?_
        exact r_sub [1, 2, 3, 0] rfl (ih_25 l2_25 (l3_25 + (1 : Int32)) (upd BI_25 11 l3_25))
      · refine r_iload_n (pc := 49) C 2 dX4_frees_49 rfl rfl ?_
        refine r_iconst (pc := 50) C dX4_frees_50 (ci_1) ?_
        refine r_iload_n (pc := 51) C 3 dX4_frees_51 rfl rfl ?_
        refine r_ishl (pc := 52) C dX4_frees_52 ?_
        refine r_ior (pc := 53) C dX4_frees_53 ?_
        refine r_istore_n (pc := 54) C dX4_frees_54 rfl (by decide) (lv' := [(2, .int (l2_25 ||| ((1 : Int32) <<< (l3_25 &&& 31)))), (0, .ref (q 0)), (1, .int (BI 11)), (3, .int l3_25)]) rfl ?_
        refine r_iinc (pc := 55) C 3 dX4_frees_55 rfl (ci_1) (by decide) (lv' := [(3, .int (l3_25 + (1 : Int32))), (2, .int (l2_25 ||| ((1 : Int32) <<< (l3_25 &&& 31)))), (0, .ref (q 0)), (1, .int (BI 11))]) rfl ?_
        refine r_goto (pc := 58) (tgt := 25) C dX4_frees_58 (by decide) ?_
        exact r_sub [2, 3, 1, 0] rfl (ih_25 (l2_25 ||| ((1 : Int32) <<< (l3_25 &&& 31))) (l3_25 + (1 : Int32)) (upd BI_25 11 l3_25))
set_option maxHeartbeats 4000000 in
set_option maxRecDepth 100000 in
theorem m_X4_frees (l : Launch) (D : va_G) (cI cS : ClassId) (q : Nat → Nat) (qb : Nat → Nat) (qs : Nat → Nat) (qS : Nat → Nat) (qC : Nat → Nat) (tr : Int32) (fa : Int32) (fr : Option Nat) (rb : Int32) (rl : Int32) (ra : Int32) (wl : Int32) (WS : Nat → Int32) (BI : Nat → Int32) (BA : Nat → Nat → Int32) (SI : Nat → Int32) (SA : Nat → Nat → Int32) (LN : Nat → Int32) (SZ : Nat → Int32) (CE : Nat → Nat → Int32) : MX l D (tyz cI cS) yX4_frees cX4_frees 4 (some .int) (rmz 5 110) [.ref (q 0)] (wdX cI cS q qb qs qS qC (qb 0) (qs 0) tr fa fr rb rl ra wl WS BI BA SI SA LN SZ CE) (f_X4_frees BI BA) (fun o : Int32 × (Nat → Int32) => some (.int o.1)) (fun o : Int32 × (Nat → Int32) => wdX cI cS q qb qs qS qC (qb 0) (qs 0) tr fa fr rb rl ra wl WS o.2 BA SI SA LN SZ CE) := met_of (own := RX4) (by decide) rfl (Nat.le_of_ble_eq_true rfl) (fun X hxl hxD C => by
  subst hxl
  subst hxD
  show JR X _ _ 0 0 (f_X4_frees BI BA) (wdX cI cS q qb qs qS qC (qb 0) (qs 0) tr fa fr rb rl ra wl WS BI BA SI SA LN SZ CE) [(0, .ref (q 0))] 0 []
  unfold f_X4_frees
  refine r_aload_n (pc := 0) C 0 dX4_frees_0 rfl rfl ?_
  refine gf_X4_35 (pc := 1) C 0 rfl rfl dX4_frees_1 ?_
  refine r_callVr (pc := 4) (rest := []) C [5, 6, 7, 8, 9, 10, 11, 12, 13, 14] (m_X0_isMissing (xl X) (xD X) cI cS qb BI BA) mv_X4_117 rfl rfl rfl rfl rfl ⟨Nat.zero_le _, Nat.zero_le _⟩ rfl rfl (Nat.le_of_ble_eq_true rfl) dX4_frees_4 (fun r4 => ?_)
  refine r_if_eq (pc := 7) (tgt := 13) C dX4_frees_7 (by decide) ?_ ?_
  · refine r_aload_n (pc := 13) C 0 dX4_frees_13 rfl rfl ?_
    refine gf_X4_35 (pc := 14) C 0 rfl rfl dX4_frees_14 ?_
    refine gf_X4_121 (pc := 17) C 5 rfl rfl dX4_frees_17 ?_
    refine r_istore_n (pc := 20) C dX4_frees_20 rfl (by decide) (lv' := [(1, .int (BI 11)), (0, .ref (q 0))]) rfl ?_
    refine r_iconst (pc := 21) C dX4_frees_21 (ci_0) ?_
    refine r_istore_n (pc := 22) C dX4_frees_22 rfl (by decide) (lv' := [(2, .int (0 : Int32)), (1, .int (BI 11)), (0, .ref (q 0))]) rfl ?_
    refine r_iconst (pc := 23) C dX4_frees_23 (ci_0) ?_
    refine r_istore_n (pc := 24) C dX4_frees_24 rfl (by decide) (lv' := [(3, .int (0 : Int32)), (2, .int (0 : Int32)), (1, .int (BI 11)), (0, .ref (q 0))]) rfl ?_
    refine r_sub [3, 2, 1, 0] rfl (wl_X4_frees_25 X C q qb qs qS qC tr fa fr rb rl ra wl WS BI BA SI SA LN SZ CE  _ (fun el2_25 el3_25 eBI_25 => ?_) 1000 (0 : Int32) (0 : Int32) BI)
    refine r_aload_n (pc := 61) C 0 dX4_frees_61 rfl rfl ?_
    refine gf_X4_35 (pc := 62) C 0 rfl rfl dX4_frees_62 ?_
    refine r_iload_n (pc := 65) C 1 dX4_frees_65 rfl rfl ?_
    refine pf_X4_121 (pc := 66) (ws' := wdX cI cS q qb qs qS qC (qb 0) (qs 0) tr fa fr rb rl ra wl WS (upd eBI_25 11 (BI 11)) BA SI SA LN SZ CE) C 5 rfl rfl dX4_frees_66 rfl ?_
    refine r_iload_n (pc := 69) C 2 dX4_frees_69 rfl rfl ?_
    exact r_iret (pc := 70) C rfl rfl dX4_frees_70
  · refine r_bipush (pc := 10) C dX4_frees_10 (cb_m3) ?_
    exact r_iret (pc := 12) C rfl rfl dX4_frees_12)
set_option maxHeartbeats 4000000 in
set_option maxRecDepth 100000 in
theorem wl_X4_laws_25 {cI cS : ClassId} (X : CX) (C : Cx X RX4 cX4_laws 4 (some .int) (rmz 5 110) (tyz cI cS)) (q : Nat → Nat) (qb : Nat → Nat) (qs : Nat → Nat) (qS : Nat → Nat) (qC : Nat → Nat) (tr : Int32) (fa : Int32) (fr : Option Nat) (rb : Int32) (rl : Int32) (ra : Int32) (wl : Int32) (WS : Nat → Int32) (BI : Nat → Int32) (BA : Nat → Nat → Int32) (SI : Nat → Int32) (SA : Nat → Nat → Int32) (LN : Nat → Int32) (SZ : Nat → Int32) (CE : Nat → Nat → Int32)  (kk : Int32 → Int32 → (Nat → Int32) → Option (Int32 × (Nat → Int32))) (hk_25 : ∀ (el2_25 : Int32) (el3_25 : Int32) (eBI_25 : Nat → Int32), JR X (QF X (tyz cI cS) 0 0 (fun o : Int32 × (Nat → Int32) => some (.int o.1)) (fun o : Int32 × (Nat → Int32) => wdX cI cS q qb qs qS qC (qb 0) (qs 0) tr fa fr rb rl ra wl WS o.2 BA SI SA LN SZ CE)) 4 0 0 (kk el2_25 el3_25 eBI_25) (wdX cI cS q qb qs qS qC (qb 0) (qs 0) tr fa fr rb rl ra wl WS eBI_25 BA SI SA LN SZ CE) [(0, .ref (q 0)), (1, .int (BI 10)), (2, .int el2_25)] 61 []) : ∀ (fuel : Nat) (l2_25 : Int32) (l3_25 : Int32) (BI_25 : Nat → Int32), JR X (QF X (tyz cI cS) 0 0 (fun o : Int32 × (Nat → Int32) => some (.int o.1)) (fun o : Int32 × (Nat → Int32) => wdX cI cS q qb qs qS qC (qb 0) (qs 0) tr fa fr rb rl ra wl WS o.2 BA SI SA LN SZ CE)) 4 0 0 (lp_X4_laws_25 kk BA fuel l2_25 l3_25 BI_25) (wdX cI cS q qb qs qS qC (qb 0) (qs 0) tr fa fr rb rl ra wl WS BI_25 BA SI SA LN SZ CE) [(0, .ref (q 0)), (1, .int (BI 10)), (2, .int l2_25), (3, .int l3_25)] 25 [] := by
  intro fuel
  induction fuel with
  | zero => intro l2_25 l3_25 BI_25; exact r_none
  | succ fu_25 ih_25 =>
    intro l2_25 l3_25 BI_25
    unfold lp_X4_laws_25
    refine r_iload_n (pc := 25) C 3 dX4_laws_25 rfl rfl ?_
    refine r_bipush (pc := 26) C dX4_laws_26 (cb_7) ?_
    refine r_icmp_gt (pc := 28) (tgt := 61) C dX4_laws_28 (by decide) ?_ ?_
    · exact r_sub [0, 1, 2] rfl (hk_25 l2_25 l3_25 BI_25)
    · refine r_aload_n (pc := 31) C 0 dX4_laws_31 rfl rfl ?_
      refine gf_X4_35 (pc := 32) C 0 rfl rfl dX4_laws_32 ?_
      refine r_iload_n (pc := 35) C 3 dX4_laws_35 rfl rfl ?_
      refine pf_X4_124 (pc := 36) (ws' := wdX cI cS q qb qs qS qC (qb 0) (qs 0) tr fa fr rb rl ra wl WS (upd BI_25 10 l3_25) BA SI SA LN SZ CE) C 5 rfl rfl dX4_laws_36 rfl ?_
      refine r_aload_n (pc := 39) C 0 dX4_laws_39 rfl rfl ?_
      refine gf_X4_35 (pc := 40) C 0 rfl rfl dX4_laws_40 ?_
      refine r_callVr (pc := 43) (rest := []) C [5, 6, 7, 8, 9, 10, 11, 12, 13, 14] (m_X0_readingsAreSo (xl X) (xD X) cI cS qb (upd BI_25 10 l3_25) BA) mv_X4_204 rfl rfl rfl rfl rfl ⟨Nat.zero_le _, Nat.zero_le _⟩ rfl rfl (Nat.le_of_ble_eq_true rfl) dX4_laws_43 (fun r43 => ?_)
      refine r_if_eq (pc := 46) (tgt := 55) C dX4_laws_46 (by decide) ?_ ?_
      · refine r_iinc (pc := 55) C 3 dX4_laws_55 rfl (ci_1) (by decide) (lv' := [(3, .int (l3_25 + (1 : Int32))), (0, .ref (q 0)), (1, .int (BI 10)), (2, .int l2_25)]) rfl ?_
        refine r_goto (pc := 58) (tgt := 25) C dX4_laws_58 (by decide) ?_
        exact r_sub [1, 2, 3, 0] rfl (ih_25 l2_25 (l3_25 + (1 : Int32)) (upd BI_25 10 l3_25))
      · refine r_iload_n (pc := 49) C 2 dX4_laws_49 rfl rfl ?_
        refine r_iconst (pc := 50) C dX4_laws_50 (ci_1) ?_
        refine r_iload_n (pc := 51) C 3 dX4_laws_51 rfl rfl ?_
        refine r_ishl (pc := 52) C dX4_laws_52 ?_
        refine r_ior (pc := 53) C dX4_laws_53 ?_
        refine r_istore_n (pc := 54) C dX4_laws_54 rfl (by decide) (lv' := [(2, .int (l2_25 ||| ((1 : Int32) <<< (l3_25 &&& 31)))), (0, .ref (q 0)), (1, .int (BI 10)), (3, .int l3_25)]) rfl ?_
        refine r_iinc (pc := 55) C 3 dX4_laws_55 rfl (ci_1) (by decide) (lv' := [(3, .int (l3_25 + (1 : Int32))), (2, .int (l2_25 ||| ((1 : Int32) <<< (l3_25 &&& 31)))), (0, .ref (q 0)), (1, .int (BI 10))]) rfl ?_
        refine r_goto (pc := 58) (tgt := 25) C dX4_laws_58 (by decide) ?_
        exact r_sub [2, 3, 1, 0] rfl (ih_25 (l2_25 ||| ((1 : Int32) <<< (l3_25 &&& 31))) (l3_25 + (1 : Int32)) (upd BI_25 10 l3_25))
set_option maxHeartbeats 4000000 in
set_option maxRecDepth 100000 in
theorem m_X4_laws (l : Launch) (D : va_G) (cI cS : ClassId) (q : Nat → Nat) (qb : Nat → Nat) (qs : Nat → Nat) (qS : Nat → Nat) (qC : Nat → Nat) (tr : Int32) (fa : Int32) (fr : Option Nat) (rb : Int32) (rl : Int32) (ra : Int32) (wl : Int32) (WS : Nat → Int32) (BI : Nat → Int32) (BA : Nat → Nat → Int32) (SI : Nat → Int32) (SA : Nat → Nat → Int32) (LN : Nat → Int32) (SZ : Nat → Int32) (CE : Nat → Nat → Int32) : MX l D (tyz cI cS) yX4_laws cX4_laws 4 (some .int) (rmz 5 110) [.ref (q 0)] (wdX cI cS q qb qs qS qC (qb 0) (qs 0) tr fa fr rb rl ra wl WS BI BA SI SA LN SZ CE) (f_X4_laws BI BA) (fun o : Int32 × (Nat → Int32) => some (.int o.1)) (fun o : Int32 × (Nat → Int32) => wdX cI cS q qb qs qS qC (qb 0) (qs 0) tr fa fr rb rl ra wl WS o.2 BA SI SA LN SZ CE) := met_of (own := RX4) (by decide) rfl (Nat.le_of_ble_eq_true rfl) (fun X hxl hxD C => by
  subst hxl
  subst hxD
  show JR X _ _ 0 0 (f_X4_laws BI BA) (wdX cI cS q qb qs qS qC (qb 0) (qs 0) tr fa fr rb rl ra wl WS BI BA SI SA LN SZ CE) [(0, .ref (q 0))] 0 []
  unfold f_X4_laws
  refine r_aload_n (pc := 0) C 0 dX4_laws_0 rfl rfl ?_
  refine gf_X4_35 (pc := 1) C 0 rfl rfl dX4_laws_1 ?_
  refine r_callVr (pc := 4) (rest := []) C [5, 6, 7, 8, 9, 10, 11, 12, 13, 14] (m_X0_isMissing (xl X) (xD X) cI cS qb BI BA) mv_X4_117 rfl rfl rfl rfl rfl ⟨Nat.zero_le _, Nat.zero_le _⟩ rfl rfl (Nat.le_of_ble_eq_true rfl) dX4_laws_4 (fun r4 => ?_)
  refine r_if_eq (pc := 7) (tgt := 13) C dX4_laws_7 (by decide) ?_ ?_
  · refine r_aload_n (pc := 13) C 0 dX4_laws_13 rfl rfl ?_
    refine gf_X4_35 (pc := 14) C 0 rfl rfl dX4_laws_14 ?_
    refine gf_X4_124 (pc := 17) C 5 rfl rfl dX4_laws_17 ?_
    refine r_istore_n (pc := 20) C dX4_laws_20 rfl (by decide) (lv' := [(1, .int (BI 10)), (0, .ref (q 0))]) rfl ?_
    refine r_iconst (pc := 21) C dX4_laws_21 (ci_0) ?_
    refine r_istore_n (pc := 22) C dX4_laws_22 rfl (by decide) (lv' := [(2, .int (0 : Int32)), (1, .int (BI 10)), (0, .ref (q 0))]) rfl ?_
    refine r_iconst (pc := 23) C dX4_laws_23 (ci_0) ?_
    refine r_istore_n (pc := 24) C dX4_laws_24 rfl (by decide) (lv' := [(3, .int (0 : Int32)), (2, .int (0 : Int32)), (1, .int (BI 10)), (0, .ref (q 0))]) rfl ?_
    refine r_sub [3, 2, 1, 0] rfl (wl_X4_laws_25 X C q qb qs qS qC tr fa fr rb rl ra wl WS BI BA SI SA LN SZ CE  _ (fun el2_25 el3_25 eBI_25 => ?_) 1000 (0 : Int32) (0 : Int32) BI)
    refine r_aload_n (pc := 61) C 0 dX4_laws_61 rfl rfl ?_
    refine gf_X4_35 (pc := 62) C 0 rfl rfl dX4_laws_62 ?_
    refine r_iload_n (pc := 65) C 1 dX4_laws_65 rfl rfl ?_
    refine pf_X4_124 (pc := 66) (ws' := wdX cI cS q qb qs qS qC (qb 0) (qs 0) tr fa fr rb rl ra wl WS (upd eBI_25 10 (BI 10)) BA SI SA LN SZ CE) C 5 rfl rfl dX4_laws_66 rfl ?_
    refine r_iload_n (pc := 69) C 2 dX4_laws_69 rfl rfl ?_
    exact r_iret (pc := 70) C rfl rfl dX4_laws_70
  · refine r_bipush (pc := 10) C dX4_laws_10 (cb_m3) ?_
    exact r_iret (pc := 12) C rfl rfl dX4_laws_12)
set_option maxHeartbeats 4000000 in
set_option maxRecDepth 100000 in
theorem wl_X4_kinds_28 {cI cS : ClassId} (X : CX) (C : Cx X RX4 cX4_kinds 5 (some .int) (rmz 5 110) (tyz cI cS)) (q : Nat → Nat) (qb : Nat → Nat) (qs : Nat → Nat) (qS : Nat → Nat) (qC : Nat → Nat) (tr : Int32) (fa : Int32) (fr : Option Nat) (rb : Int32) (rl : Int32) (ra : Int32) (wl : Int32) (WS : Nat → Int32) (BI : Nat → Int32) (BA : Nat → Nat → Int32) (SI : Nat → Int32) (SA : Nat → Nat → Int32) (LN : Nat → Int32) (SZ : Nat → Int32) (CE : Nat → Nat → Int32) (a1 : Int32)  (kk : Int32 → Int32 → (Nat → Nat → Int32) → Option (Int32 × (Nat → Nat → Int32))) (hk_28 : ∀ (el3_28 : Int32) (el4_28 : Int32) (eBA_28 : Nat → Nat → Int32), JR X (QF X (tyz cI cS) 0 0 (fun o : Int32 × (Nat → Nat → Int32) => some (.int o.1)) (fun o : Int32 × (Nat → Nat → Int32) => wdX cI cS q qb qs qS qC (qb 0) (qs 0) tr fa fr rb rl ra wl WS BI o.2 SI SA LN SZ CE)) 5 0 0 (kk el3_28 el4_28 eBA_28) (wdX cI cS q qb qs qS qC (qb 0) (qs 0) tr fa fr rb rl ra wl WS BI eBA_28 SI SA LN SZ CE) [(0, .ref (q 0)), (1, .int a1), (2, .int (BA 4 a1.toNatClampNeg)), (3, .int el3_28)] 68 []) : ∀ (fuel : Nat) (l3_28 : Int32) (l4_28 : Int32) (BA_28 : Nat → Nat → Int32), JR X (QF X (tyz cI cS) 0 0 (fun o : Int32 × (Nat → Nat → Int32) => some (.int o.1)) (fun o : Int32 × (Nat → Nat → Int32) => wdX cI cS q qb qs qS qC (qb 0) (qs 0) tr fa fr rb rl ra wl WS BI o.2 SI SA LN SZ CE)) 5 0 0 (lp_X4_kinds_28 kk BI a1 fuel l3_28 l4_28 BA_28) (wdX cI cS q qb qs qS qC (qb 0) (qs 0) tr fa fr rb rl ra wl WS BI BA_28 SI SA LN SZ CE) [(0, .ref (q 0)), (1, .int a1), (2, .int (BA 4 a1.toNatClampNeg)), (3, .int l3_28), (4, .int l4_28)] 28 [] := by
  intro fuel
  induction fuel with
  | zero => intro l3_28 l4_28 BA_28; exact r_none
  | succ fu_28 ih_28 =>
    intro l3_28 l4_28 BA_28
    unfold lp_X4_kinds_28
    refine r_iload (pc := 28) C 4 dX4_kinds_28 rfl ?_
    refine r_iconst (pc := 30) C dX4_kinds_30 (ci_3) ?_
    refine r_icmp_ge (pc := 31) (tgt := 68) C dX4_kinds_31 (by decide) ?_ ?_
    · exact r_sub [0, 1, 2, 3] rfl (hk_28 l3_28 l4_28 BA_28)
    · refine r_aload_n (pc := 34) C 0 dX4_kinds_34 rfl rfl ?_
      refine gf_X4_35 (pc := 35) C 0 rfl rfl dX4_kinds_35 ?_
      refine gf_X4_89 (pc := 38) C 5 rfl rfl dX4_kinds_38 ?_
      refine r_iload_n (pc := 41) C 1 dX4_kinds_41 rfl rfl ?_
      refine r_iload (pc := 42) C 4 dX4_kinds_42 rfl ?_
      refine r_iast (pc := 44) (ws' := wdX cI cS q qb qs qS qC (qb 0) (qs 0) tr fa fr rb rl ra wl WS BI (va_up BA_28 4 (upd (BA_28 4) a1.toNatClampNeg l4_28)) SI SA LN SZ CE) C 8 rfl dX4_kinds_44 rfl ?_
      refine r_aload_n (pc := 45) C 0 dX4_kinds_45 rfl rfl ?_
      refine gf_X4_35 (pc := 46) C 0 rfl rfl dX4_kinds_46 ?_
      refine r_callVr (pc := 49) (rest := []) C [5, 6, 7, 8, 9, 10, 11, 12, 13, 14] (m_X0_readingsAreSo (xl X) (xD X) cI cS qb BI (va_up BA_28 4 (upd (BA_28 4) a1.toNatClampNeg l4_28))) mv_X4_204 rfl rfl rfl rfl rfl ⟨Nat.zero_le _, Nat.zero_le _⟩ rfl rfl (Nat.le_of_ble_eq_true rfl) dX4_kinds_49 (fun r49 => ?_)
      refine r_if_eq (pc := 52) (tgt := 62) C dX4_kinds_52 (by decide) ?_ ?_
      · refine r_iinc (pc := 62) C 4 dX4_kinds_62 rfl (ci_1) (by decide) (lv' := [(4, .int (l4_28 + (1 : Int32))), (0, .ref (q 0)), (1, .int a1), (2, .int (BA 4 a1.toNatClampNeg)), (3, .int l3_28)]) rfl ?_
        refine r_goto (pc := 65) (tgt := 28) C dX4_kinds_65 (by decide) ?_
        exact r_sub [1, 2, 3, 4, 0] rfl (ih_28 l3_28 (l4_28 + (1 : Int32)) (va_up BA_28 4 (upd (BA_28 4) a1.toNatClampNeg l4_28)))
      · refine r_iload_n (pc := 55) C 3 dX4_kinds_55 rfl rfl ?_
        refine r_iconst (pc := 56) C dX4_kinds_56 (ci_1) ?_
        refine r_iload (pc := 57) C 4 dX4_kinds_57 rfl ?_
        refine r_ishl (pc := 59) C dX4_kinds_59 ?_
        refine r_ior (pc := 60) C dX4_kinds_60 ?_
        refine r_istore_n (pc := 61) C dX4_kinds_61 rfl (by decide) (lv' := [(3, .int (l3_28 ||| ((1 : Int32) <<< (l4_28 &&& 31)))), (0, .ref (q 0)), (1, .int a1), (2, .int (BA 4 a1.toNatClampNeg)), (4, .int l4_28)]) rfl ?_
        refine r_iinc (pc := 62) C 4 dX4_kinds_62 rfl (ci_1) (by decide) (lv' := [(4, .int (l4_28 + (1 : Int32))), (3, .int (l3_28 ||| ((1 : Int32) <<< (l4_28 &&& 31)))), (0, .ref (q 0)), (1, .int a1), (2, .int (BA 4 a1.toNatClampNeg))]) rfl ?_
        refine r_goto (pc := 65) (tgt := 28) C dX4_kinds_65 (by decide) ?_
        exact r_sub [2, 3, 4, 1, 0] rfl (ih_28 (l3_28 ||| ((1 : Int32) <<< (l4_28 &&& 31))) (l4_28 + (1 : Int32)) (va_up BA_28 4 (upd (BA_28 4) a1.toNatClampNeg l4_28)))
set_option maxHeartbeats 4000000 in
set_option maxRecDepth 100000 in
theorem m_X4_kinds (l : Launch) (D : va_G) (cI cS : ClassId) (q : Nat → Nat) (qb : Nat → Nat) (qs : Nat → Nat) (qS : Nat → Nat) (qC : Nat → Nat) (tr : Int32) (fa : Int32) (fr : Option Nat) (rb : Int32) (rl : Int32) (ra : Int32) (wl : Int32) (WS : Nat → Int32) (BI : Nat → Int32) (BA : Nat → Nat → Int32) (SI : Nat → Int32) (SA : Nat → Nat → Int32) (LN : Nat → Int32) (SZ : Nat → Int32) (CE : Nat → Nat → Int32) (a1 : Int32) : MX l D (tyz cI cS) yX4_kinds cX4_kinds 5 (some .int) (rmz 5 110) [.ref (q 0), .int a1] (wdX cI cS q qb qs qS qC (qb 0) (qs 0) tr fa fr rb rl ra wl WS BI BA SI SA LN SZ CE) (f_X4_kinds BI BA a1) (fun o : Int32 × (Nat → Nat → Int32) => some (.int o.1)) (fun o : Int32 × (Nat → Nat → Int32) => wdX cI cS q qb qs qS qC (qb 0) (qs 0) tr fa fr rb rl ra wl WS BI o.2 SI SA LN SZ CE) := met_of (own := RX4) (by decide) rfl (Nat.le_of_ble_eq_true rfl) (fun X hxl hxD C => by
  subst hxl
  subst hxD
  show JR X _ _ 0 0 (f_X4_kinds BI BA a1) (wdX cI cS q qb qs qS qC (qb 0) (qs 0) tr fa fr rb rl ra wl WS BI BA SI SA LN SZ CE) [(0, .ref (q 0)), (1, .int a1)] 0 []
  unfold f_X4_kinds
  refine r_aload_n (pc := 0) C 0 dX4_kinds_0 rfl rfl ?_
  refine gf_X4_35 (pc := 1) C 0 rfl rfl dX4_kinds_1 ?_
  refine r_iload_n (pc := 4) C 1 dX4_kinds_4 rfl rfl ?_
  refine r_callVr (pc := 5) (rest := []) C [5, 6, 7, 8, 9, 10, 11, 12, 13, 14] (m_X0_hasSilence (xl X) (xD X) cI cS qb BI BA a1) mv_X4_86 rfl rfl rfl rfl rfl ⟨Nat.zero_le _, Nat.zero_le _⟩ rfl rfl (Nat.le_of_ble_eq_true rfl) dX4_kinds_5 (fun r5 => ?_)
  refine r_if_ne (pc := 8) (tgt := 13) C dX4_kinds_8 (by decide) ?_ ?_
  · refine r_aload_n (pc := 13) C 0 dX4_kinds_13 rfl rfl ?_
    refine gf_X4_35 (pc := 14) C 0 rfl rfl dX4_kinds_14 ?_
    refine gf_X4_89 (pc := 17) C 5 rfl rfl dX4_kinds_17 ?_
    refine r_iload_n (pc := 20) C 1 dX4_kinds_20 rfl rfl ?_
    refine r_iald (pc := 21) C 8 rfl dX4_kinds_21 ?_
    refine r_istore_n (pc := 22) C dX4_kinds_22 rfl (by decide) (lv' := [(2, .int (BA 4 a1.toNatClampNeg)), (0, .ref (q 0)), (1, .int a1)]) rfl ?_
    refine r_iconst (pc := 23) C dX4_kinds_23 (ci_0) ?_
    refine r_istore_n (pc := 24) C dX4_kinds_24 rfl (by decide) (lv' := [(3, .int (0 : Int32)), (2, .int (BA 4 a1.toNatClampNeg)), (0, .ref (q 0)), (1, .int a1)]) rfl ?_
    refine r_iconst (pc := 25) C dX4_kinds_25 (ci_0) ?_
    refine r_istore (pc := 26) C dX4_kinds_26 (by decide) (lv' := [(4, .int (0 : Int32)), (3, .int (0 : Int32)), (2, .int (BA 4 a1.toNatClampNeg)), (0, .ref (q 0)), (1, .int a1)]) rfl ?_
    refine r_sub [3, 4, 2, 1, 0] rfl (wl_X4_kinds_28 X C q qb qs qS qC tr fa fr rb rl ra wl WS BI BA SI SA LN SZ CE a1  _ (fun el3_28 el4_28 eBA_28 => ?_) 1000 (0 : Int32) (0 : Int32) BA)
    refine r_aload_n (pc := 68) C 0 dX4_kinds_68 rfl rfl ?_
    refine gf_X4_35 (pc := 69) C 0 rfl rfl dX4_kinds_69 ?_
    refine gf_X4_89 (pc := 72) C 5 rfl rfl dX4_kinds_72 ?_
    refine r_iload_n (pc := 75) C 1 dX4_kinds_75 rfl rfl ?_
    refine r_iload_n (pc := 76) C 2 dX4_kinds_76 rfl rfl ?_
    refine r_iast (pc := 77) (ws' := wdX cI cS q qb qs qS qC (qb 0) (qs 0) tr fa fr rb rl ra wl WS BI (va_up eBA_28 4 (upd (eBA_28 4) a1.toNatClampNeg (BA 4 a1.toNatClampNeg))) SI SA LN SZ CE) C 8 rfl dX4_kinds_77 rfl ?_
    refine r_iload_n (pc := 78) C 3 dX4_kinds_78 rfl rfl ?_
    exact r_iret (pc := 79) C rfl rfl dX4_kinds_79
  · refine r_iconst (pc := 11) C dX4_kinds_11 (ci_m1) ?_
    exact r_iret (pc := 12) C rfl rfl dX4_kinds_12)
set_option maxHeartbeats 4000000 in
set_option maxRecDepth 100000 in
theorem wl_X4_odds_58 {cI cS : ClassId} (X : CX) (C : Cx X RX4 cX4_odds 8 (some .long) (rmz 4 89) (tyz cI cS)) (q : Nat → Nat) (qb : Nat → Nat) (qs : Nat → Nat) (qS : Nat → Nat) (qC : Nat → Nat) (tr : Int32) (fa : Int32) (fr : Option Nat) (rb : Int32) (rl : Int32) (ra : Int32) (wl : Int32) (WS : Nat → Int32) (BI : Nat → Int32) (BA : Nat → Nat → Int32) (SI : Nat → Int32) (SA : Nat → Nat → Int32) (LN : Nat → Int32) (SZ : Nat → Int32) (CE : Nat → Nat → Int32) (a1 : Int32) (a2 : Int32) (a3 : Int32) (r47 : Int32)  (kk : Int32 → Int32 → (Nat → Int32) → Option (Int64 × (Nat → Int32))) (hk_58 : ∀ (el6_58 : Int32) (el7_58 : Int32) (eBI_58 : Nat → Int32), JR X (QF X (tyz cI cS) 0 0 (fun o : Int64 × (Nat → Int32) => some (.long o.1)) (fun o : Int64 × (Nat → Int32) => wdX cI cS q qb qs qS qC (qb 0) (qs 0) tr fa fr rb rl ra wl WS o.2 BA SI SA LN SZ CE)) 8 0 0 (kk el6_58 el7_58 eBI_58) (wdX cI cS q qb qs qS qC (qb 0) (qs 0) tr fa fr rb rl ra wl WS eBI_58 BA SI SA LN SZ CE) [(0, .ref (q 0)), (3, .int a3), (4, .int (BI 9)), (5, .int r47), (6, .int el6_58)] 95 []) : ∀ (fuel : Nat) (l6_58 : Int32) (l7_58 : Int32) (BI_58 : Nat → Int32), JR X (QF X (tyz cI cS) 0 0 (fun o : Int64 × (Nat → Int32) => some (.long o.1)) (fun o : Int64 × (Nat → Int32) => wdX cI cS q qb qs qS qC (qb 0) (qs 0) tr fa fr rb rl ra wl WS o.2 BA SI SA LN SZ CE)) 8 0 0 (lp_X4_odds_58 kk BA a1 a2 r47 fuel l6_58 l7_58 BI_58) (wdX cI cS q qb qs qS qC (qb 0) (qs 0) tr fa fr rb rl ra wl WS BI_58 BA SI SA LN SZ CE) [(0, .ref (q 0)), (1, .int a1), (2, .int a2), (3, .int a3), (4, .int (BI 9)), (5, .int r47), (6, .int l6_58), (7, .int l7_58)] 58 [] := by
  intro fuel
  induction fuel with
  | zero => intro l6_58 l7_58 BI_58; exact r_none
  | succ fu_58 ih_58 =>
    intro l6_58 l7_58 BI_58
    unfold lp_X4_odds_58
    refine r_iload (pc := 58) C 7 dX4_odds_58 rfl ?_
    refine r_iload (pc := 60) C 5 dX4_odds_60 rfl ?_
    refine r_icmp_gt (pc := 62) (tgt := 95) C dX4_odds_62 (by decide) ?_ ?_
    · exact r_sub [0, 3, 4, 5, 6] rfl (hk_58 l6_58 l7_58 BI_58)
    · refine r_aload_n (pc := 65) C 0 dX4_odds_65 rfl rfl ?_
      refine gf_X4_35 (pc := 66) C 0 rfl rfl dX4_odds_66 ?_
      refine r_iload (pc := 69) C 7 dX4_odds_69 rfl ?_
      refine pf_X4_127 (pc := 71) (ws' := wdX cI cS q qb qs qS qC (qb 0) (qs 0) tr fa fr rb rl ra wl WS (upd BI_58 9 l7_58) BA SI SA LN SZ CE) C 5 rfl rfl dX4_odds_71 rfl ?_
      refine r_aload_n (pc := 74) C 0 dX4_odds_74 rfl rfl ?_
      refine gf_X4_35 (pc := 75) C 0 rfl rfl dX4_odds_75 ?_
      refine r_iload_n (pc := 78) C 1 dX4_odds_78 rfl rfl ?_
      refine r_callVr (pc := 79) (rest := []) C [5, 6, 7, 8, 9, 10, 11, 12, 13, 14] (m_X0_dutyAt (xl X) (xD X) cI cS qb (upd BI_58 9 l7_58) BA a1) mv_X4_133 rfl rfl rfl rfl rfl ⟨Nat.zero_le _, Nat.zero_le _⟩ rfl rfl (Nat.le_of_ble_eq_true rfl) dX4_odds_79 (fun r79 => ?_)
      refine r_iload_n (pc := 82) C 2 dX4_odds_82 rfl rfl ?_
      refine r_icmp_lt (pc := 83) (tgt := 89) C dX4_odds_83 (by decide) ?_ ?_
      · refine r_iinc (pc := 89) C 7 dX4_odds_89 rfl (ci_1) (by decide) (lv' := [(7, .int (l7_58 + (1 : Int32))), (0, .ref (q 0)), (1, .int a1), (2, .int a2), (3, .int a3), (4, .int (BI 9)), (5, .int r47), (6, .int l6_58)]) rfl ?_
        refine r_goto (pc := 92) (tgt := 58) C dX4_odds_92 (by decide) ?_
        exact r_sub [1, 2, 3, 4, 5, 6, 7, 0] rfl (ih_58 l6_58 (l7_58 + (1 : Int32)) (upd BI_58 9 l7_58))
      · refine r_iinc (pc := 86) C 6 dX4_odds_86 rfl (ci_1) (by decide) (lv' := [(6, .int (l6_58 + (1 : Int32))), (0, .ref (q 0)), (1, .int a1), (2, .int a2), (3, .int a3), (4, .int (BI 9)), (5, .int r47), (7, .int l7_58)]) rfl ?_
        refine r_iinc (pc := 89) C 7 dX4_odds_89 rfl (ci_1) (by decide) (lv' := [(7, .int (l7_58 + (1 : Int32))), (6, .int (l6_58 + (1 : Int32))), (0, .ref (q 0)), (1, .int a1), (2, .int a2), (3, .int a3), (4, .int (BI 9)), (5, .int r47)]) rfl ?_
        refine r_goto (pc := 92) (tgt := 58) C dX4_odds_92 (by decide) ?_
        exact r_sub [2, 3, 4, 5, 6, 7, 1, 0] rfl (ih_58 (l6_58 + (1 : Int32)) (l7_58 + (1 : Int32)) (upd BI_58 9 l7_58))
set_option maxHeartbeats 4000000 in
set_option maxRecDepth 100000 in
theorem m_X4_odds (l : Launch) (D : va_G) (cI cS : ClassId) (q : Nat → Nat) (qb : Nat → Nat) (qs : Nat → Nat) (qS : Nat → Nat) (qC : Nat → Nat) (tr : Int32) (fa : Int32) (fr : Option Nat) (rb : Int32) (rl : Int32) (ra : Int32) (wl : Int32) (WS : Nat → Int32) (BI : Nat → Int32) (BA : Nat → Nat → Int32) (SI : Nat → Int32) (SA : Nat → Nat → Int32) (LN : Nat → Int32) (SZ : Nat → Int32) (CE : Nat → Nat → Int32) (a1 : Int32) (a2 : Int32) (a3 : Int32) : MX l D (tyz cI cS) yX4_odds cX4_odds 8 (some .long) (rmz 4 89) [.ref (q 0), .int a1, .int a2, .int a3] (wdX cI cS q qb qs qS qC (qb 0) (qs 0) tr fa fr rb rl ra wl WS BI BA SI SA LN SZ CE) (f_X4_odds BI BA a1 a2 a3) (fun o : Int64 × (Nat → Int32) => some (.long o.1)) (fun o : Int64 × (Nat → Int32) => wdX cI cS q qb qs qS qC (qb 0) (qs 0) tr fa fr rb rl ra wl WS o.2 BA SI SA LN SZ CE) := met_of (own := RX4) (by decide) rfl (Nat.le_of_ble_eq_true rfl) (fun X hxl hxD C => by
  subst hxl
  subst hxD
  show JR X _ _ 0 0 (f_X4_odds BI BA a1 a2 a3) (wdX cI cS q qb qs qS qC (qb 0) (qs 0) tr fa fr rb rl ra wl WS BI BA SI SA LN SZ CE) [(0, .ref (q 0)), (1, .int a1), (2, .int a2), (3, .int a3)] 0 []
  unfold f_X4_odds
  refine r_aload_n (pc := 0) C 0 dX4_odds_0 rfl rfl ?_
  refine gf_X4_35 (pc := 1) C 0 rfl rfl dX4_odds_1 ?_
  refine r_iload_n (pc := 4) C 1 dX4_odds_4 rfl rfl ?_
  refine r_callVr (pc := 5) (rest := []) C [5, 6, 7, 8, 9, 10, 11, 12, 13, 14] (m_X0_hasPost (xl X) (xD X) cI cS qb BI BA a1) mv_X4_75 rfl rfl rfl rfl rfl ⟨Nat.zero_le _, Nat.zero_le _⟩ rfl rfl (Nat.le_of_ble_eq_true rfl) dX4_odds_5 (fun r5 => ?_)
  refine r_if_eq (pc := 8) (tgt := 30) C dX4_odds_8 (by decide) ?_ ?_
  · refine r_ldc2 (pc := 30) C kk_X4_136 dX4_odds_30 ?_
    exact r_lret (pc := 33) C rfl rfl dX4_odds_33
  · refine r_iload_n (pc := 11) C 2 dX4_odds_11 rfl rfl ?_
    refine r_iconst (pc := 12) C dX4_odds_12 (ci_0) ?_
    refine r_ldc (pc := 13) C kk_X4_191 dX4_odds_13 ?_
    refine r_callSr (pc := 15) (rest := []) C (m_X4_isWithin (xl X) (xD X) cI cS a2 (0 : Int32) (99999 : Int32)) ms_X4_113 rfl ⟨Nat.zero_le _, Nat.zero_le _⟩ rfl rfl (Nat.le_of_ble_eq_true rfl) dX4_odds_15 (fun r15 => ?_)
    refine r_if_eq (pc := 18) (tgt := 30) C dX4_odds_18 (by decide) ?_ ?_
    · refine r_ldc2 (pc := 30) C kk_X4_136 dX4_odds_30 ?_
      exact r_lret (pc := 33) C rfl rfl dX4_odds_33
    · refine r_iload_n (pc := 21) C 3 dX4_odds_21 rfl rfl ?_
      refine r_iconst (pc := 22) C dX4_odds_22 (ci_0) ?_
      refine r_iconst (pc := 23) C dX4_odds_23 (ci_1) ?_
      refine r_callSr (pc := 24) (rest := []) C (m_X4_isWithin (xl X) (xD X) cI cS a3 (0 : Int32) (1 : Int32)) ms_X4_113 rfl ⟨Nat.zero_le _, Nat.zero_le _⟩ rfl rfl (Nat.le_of_ble_eq_true rfl) dX4_odds_24 (fun r24 => ?_)
      refine r_if_ne (pc := 27) (tgt := 34) C dX4_odds_27 (by decide) ?_ ?_
      · refine r_aload_n (pc := 34) C 0 dX4_odds_34 rfl rfl ?_
        refine gf_X4_35 (pc := 35) C 0 rfl rfl dX4_odds_35 ?_
        refine gf_X4_127 (pc := 38) C 5 rfl rfl dX4_odds_38 ?_
        refine r_istore (pc := 41) C dX4_odds_41 (by decide) (lv' := [(4, .int (BI 9)), (0, .ref (q 0)), (1, .int a1), (2, .int a2), (3, .int a3)]) rfl ?_
        refine r_aload_n (pc := 43) C 1 dX4_odds_43 rfl rfl ?_
        refine gf_X4_35 (pc := 44) C 0 rfl rfl dX4_odds_44 ?_
        refine r_callVr (pc := 47) (rest := []) C [5, 6, 7, 8, 9, 10, 11, 12, 13, 14] (m_X0_allSilences (xl X) (xD X) cI cS qb BI BA) mv_X4_201 rfl rfl rfl rfl rfl ⟨Nat.zero_le _, Nat.zero_le _⟩ rfl rfl (Nat.le_of_ble_eq_true rfl) dX4_odds_47 (fun r47 => ?_)
        refine r_istore (pc := 50) C dX4_odds_50 (by decide) (lv' := [(5, .int r47), (4, .int (BI 9)), (0, .ref (q 0)), (1, .int a1), (2, .int a2), (3, .int a3)]) rfl ?_
        refine r_iconst (pc := 52) C dX4_odds_52 (ci_0) ?_
        refine r_istore (pc := 53) C dX4_odds_53 (by decide) (lv' := [(6, .int (0 : Int32)), (5, .int r47), (4, .int (BI 9)), (0, .ref (q 0)), (1, .int a1), (2, .int a2), (3, .int a3)]) rfl ?_
        refine r_iconst (pc := 55) C dX4_odds_55 (ci_0) ?_
        refine r_istore (pc := 56) C dX4_odds_56 (by decide) (lv' := [(7, .int (0 : Int32)), (6, .int (0 : Int32)), (5, .int r47), (4, .int (BI 9)), (0, .ref (q 0)), (1, .int a1), (2, .int a2), (3, .int a3)]) rfl ?_
        refine r_sub [4, 5, 6, 7, 3, 2, 1, 0] rfl (wl_X4_odds_58 X C q qb qs qS qC tr fa fr rb rl ra wl WS BI BA SI SA LN SZ CE a1 a2 a3 r47  _ (fun el6_58 el7_58 eBI_58 => ?_) 1000 (0 : Int32) (0 : Int32) BI)
        refine r_aload_n (pc := 95) C 0 dX4_odds_95 rfl rfl ?_
        refine gf_X4_35 (pc := 96) C 0 rfl rfl dX4_odds_96 ?_
        refine r_iload (pc := 99) C 2 dX4_odds_99 rfl ?_
        refine pf_X4_127 (pc := 101) (ws' := wdX cI cS q qb qs qS qC (qb 0) (qs 0) tr fa fr rb rl ra wl WS (upd eBI_58 9 (BI 9)) BA SI SA LN SZ CE) C 5 rfl rfl dX4_odds_101 rfl ?_
        refine r_iload (pc := 104) C 4 dX4_odds_104 rfl ?_
        refine r_i2l (pc := 106) C dX4_odds_106 ?_
        refine r_iload (pc := 107) C 3 dX4_odds_107 rfl ?_
        refine r_iconst (pc := 109) C dX4_odds_109 (ci_1) ?_
        refine r_iadd (pc := 110) C dX4_odds_110 ?_
        refine r_i2l (pc := 111) C dX4_odds_111 ?_
        refine r_iload_n (pc := 112) C 1 dX4_odds_112 rfl rfl ?_
        refine r_callSr (pc := 113) (rest := []) C (m_X4_leastTerms (xl X) (xD X) cI cS el6_58.toInt64 ((r47 + (1 : Int32)).toInt64) a3) ms_X4_143 rfl ⟨Nat.zero_le _, Nat.zero_le _⟩ rfl rfl (Nat.le_of_ble_eq_true rfl) dX4_odds_113 (fun r113 => ?_)
        exact r_lret (pc := 116) C rfl rfl dX4_odds_116
      · refine r_ldc2 (pc := 30) C kk_X4_136 dX4_odds_30 ?_
        exact r_lret (pc := 33) C rfl rfl dX4_odds_33)
set_option maxHeartbeats 4000000 in
set_option maxRecDepth 100000 in
theorem wj_X4_sheet_22 {cI cS : ClassId} (X : CX) (C : Cx X RX4 cX4_sheet 5 (some .int) (rmz 3 63) (tyz cI cS)) (q : Nat → Nat) (qb : Nat → Nat) (qs : Nat → Nat) (qS : Nat → Nat) (qC : Nat → Nat) (tr : Int32) (fa : Int32) (fr : Option Nat) (rb : Int32) (rl : Int32) (ra : Int32) (wl : Int32) (WS : Nat → Int32) (BI : Nat → Int32) (BA : Nat → Nat → Int32) (SI : Nat → Int32) (SA : Nat → Nat → Int32) (LN : Nat → Int32) (SZ : Nat → Int32) (CE : Nat → Nat → Int32) (a1 : Int32) (a2 : Int32) (a3 : Int32) (j4_22 : Int32)  : JR X (QF X (tyz cI cS) 0 0 (fun o : Int32 × (Int32) × (Nat → Int32) × (Nat → Int32) × (Nat → Nat → Int32) => some (.int o.1)) (fun o : Int32 × (Int32) × (Nat → Int32) × (Nat → Int32) × (Nat → Nat → Int32) => wdX cI cS q qb qs qS qC (qb 0) (qs 0) tr o.2.1 fr rb rl ra wl WS BI BA SI SA o.2.2.1 o.2.2.2.1 o.2.2.2.2)) 5 0 0 (jb_X4_sheet_22 LN SZ CE a1 a2 a3 j4_22) (wdX cI cS q qb qs qS qC (qb 0) (qs 0) tr fa fr rb rl ra wl WS BI BA SI SA LN SZ CE) [(0, .ref (q 0)), (1, .int a1), (2, .int a2), (3, .int a3), (4, .int j4_22)] 22 [] := by
  unfold jb_X4_sheet_22
  refine r_iload (pc := 22) C 4 dX4_sheet_22 rfl ?_
  refine r_if_eq (pc := 24) (tgt := 34) C dX4_sheet_24 (by decide) ?_ ?_
  · refine r_iload_n (pc := 34) C 3 dX4_sheet_34 rfl rfl ?_
    refine r_if_ge (pc := 35) (tgt := 44) C dX4_sheet_35 (by decide) ?_ ?_
    · refine r_aload_n (pc := 44) C 0 dX4_sheet_44 rfl rfl ?_
      refine r_iconst (pc := 45) C dX4_sheet_45 (ci_0) ?_
      refine pf_X4_60 (pc := 46) (ws' := wdX cI cS q qb qs qS qC (qb 0) (qs 0) tr (0 : Int32) fr rb rl ra wl WS BI BA SI SA LN SZ CE) C 0 rfl rfl dX4_sheet_46 rfl ?_
      refine r_aload_n (pc := 49) C 0 dX4_sheet_49 rfl rfl ?_
      refine gf_X4_13 (pc := 50) C 0 rfl rfl dX4_sheet_50 ?_
      refine r_iload_n (pc := 53) C 1 dX4_sheet_53 rfl rfl ?_
      refine r_aald (pc := 54) C 1 rfl dX4_sheet_54 (fun hj54 => ?_)
      refine r_iload_n (pc := 55) C 2 dX4_sheet_55 rfl rfl ?_
      refine r_iload_n (pc := 56) C 3 dX4_sheet_56 rfl rfl ?_
      refine r_callV (pc := 57) (rest := []) C [25 + 2 * a1.toNatClampNeg, 26 + 2 * a1.toNatClampNeg] (fun r57 => wdX cI cS q qb qs qS qC (qb 0) (qs 0) tr (0 : Int32) fr rb rl ra wl WS BI BA SI SA (upd LN a1.toNatClampNeg r57.1) (upd SZ a1.toNatClampNeg r57.2.1) (va_up CE a1.toNatClampNeg r57.2.2)) (m_X1_begin (xl X) (xD X) cI cS (qS a1.toNatClampNeg) (qC a1.toNatClampNeg) (LN a1.toNatClampNeg) (SZ a1.toNatClampNeg) (CE a1.toNatClampNeg) a2 a3) mv_X4_207 (wX_c hj54) (wX_n hj54) (fun _ => wX_b hj54) (fun _ => rfl) rfl rfl rfl ⟨Nat.zero_le _, Nat.zero_le _⟩ rfl rfl (Nat.le_of_ble_eq_true rfl) dX4_sheet_57 (fun r57 => ?_)
      refine r_iconst (pc := 60) C dX4_sheet_60 (ci_1) ?_
      exact r_iret (pc := 61) C rfl rfl dX4_sheet_61
    · refine r_aload_n (pc := 38) C 0 dX4_sheet_38 rfl rfl ?_
      refine r_iconst (pc := 39) C dX4_sheet_39 (ci_4) ?_
      refine r_callV0 (pc := 40) (rest := []) C (m_X4_faulted (xl X) (xD X) cI cS q qb qs qS qC tr fa fr rb rl ra wl WS BI BA SI SA LN SZ CE (4 : Int32)) mv_X4_57 rfl rfl rfl ⟨Nat.zero_le _, Nat.zero_le _⟩ rfl rfl (Nat.le_of_ble_eq_true rfl) dX4_sheet_40 (fun r40 => ?_)
      exact r_iret (pc := 43) C rfl rfl dX4_sheet_43
  · refine r_aload_n (pc := 27) C 0 dX4_sheet_27 rfl rfl ?_
    refine r_iload (pc := 28) C 4 dX4_sheet_28 rfl ?_
    refine r_callV0 (pc := 30) (rest := []) C (m_X4_refused (xl X) (xD X) cI cS q qb qs qS qC tr fa fr rb rl ra wl WS BI BA SI SA LN SZ CE j4_22) mv_X4_46 rfl rfl rfl ⟨Nat.zero_le _, Nat.zero_le _⟩ rfl rfl (Nat.le_of_ble_eq_true rfl) dX4_sheet_30 (fun r30 => ?_)
    exact r_iret (pc := 33) C rfl rfl dX4_sheet_33
set_option maxHeartbeats 4000000 in
set_option maxRecDepth 100000 in
theorem m_X4_sheet (l : Launch) (D : va_G) (cI cS : ClassId) (q : Nat → Nat) (qb : Nat → Nat) (qs : Nat → Nat) (qS : Nat → Nat) (qC : Nat → Nat) (tr : Int32) (fa : Int32) (fr : Option Nat) (rb : Int32) (rl : Int32) (ra : Int32) (wl : Int32) (WS : Nat → Int32) (BI : Nat → Int32) (BA : Nat → Nat → Int32) (SI : Nat → Int32) (SA : Nat → Nat → Int32) (LN : Nat → Int32) (SZ : Nat → Int32) (CE : Nat → Nat → Int32) (a1 : Int32) (a2 : Int32) (a3 : Int32) : MX l D (tyz cI cS) yX4_sheet cX4_sheet 5 (some .int) (rmz 3 63) [.ref (q 0), .int a1, .int a2, .int a3] (wdX cI cS q qb qs qS qC (qb 0) (qs 0) tr fa fr rb rl ra wl WS BI BA SI SA LN SZ CE) (f_X4_sheet LN SZ CE a1 a2 a3) (fun o : Int32 × (Int32) × (Nat → Int32) × (Nat → Int32) × (Nat → Nat → Int32) => some (.int o.1)) (fun o : Int32 × (Int32) × (Nat → Int32) × (Nat → Int32) × (Nat → Nat → Int32) => wdX cI cS q qb qs qS qC (qb 0) (qs 0) tr o.2.1 fr rb rl ra wl WS BI BA SI SA o.2.2.1 o.2.2.2.1 o.2.2.2.2) := met_of (own := RX4) (by decide) rfl (Nat.le_of_ble_eq_true rfl) (fun X hxl hxD C => by
  subst hxl
  subst hxD
  show JR X _ _ 0 0 (f_X4_sheet LN SZ CE a1 a2 a3) (wdX cI cS q qb qs qS qC (qb 0) (qs 0) tr fa fr rb rl ra wl WS BI BA SI SA LN SZ CE) [(0, .ref (q 0)), (1, .int a1), (2, .int a2), (3, .int a3)] 0 []
  unfold f_X4_sheet
  refine r_iload_n (pc := 0) C 1 dX4_sheet_0 rfl rfl ?_
  refine r_iload_n (pc := 1) C 2 dX4_sheet_1 rfl rfl ?_
  refine r_callSr (pc := 2) (rest := []) C (m_X4_refusalOfRow (xl X) (xD X) cI cS a1 a2) ms_X4_42 rfl ⟨Nat.zero_le _, Nat.zero_le _⟩ rfl rfl (Nat.le_of_ble_eq_true rfl) dX4_sheet_2 (fun r2 => ?_)
  refine r_istore (pc := 5) C dX4_sheet_5 (by decide) (lv' := [(4, .int r2), (0, .ref (q 0)), (1, .int a1), (2, .int a2), (3, .int a3)]) rfl ?_
  refine r_iload (pc := 7) C 0 dX4_sheet_7 rfl ?_
  refine r_if_ne (pc := 9) (tgt := 22) C dX4_sheet_9 (by decide) ?_ ?_
  · exact r_sub [1, 2, 3, 4, 0] rfl (wj_X4_sheet_22 X C q qb qs qS qC tr fa fr rb rl ra wl WS BI BA SI SA LN SZ CE a1 a2 a3 r2 )
  · refine r_iload_n (pc := 12) C 4 dX4_sheet_12 rfl rfl ?_
    refine r_bipush (pc := 13) C dX4_sheet_13 (cb_60) ?_
    refine r_icmp_le (pc := 15) (tgt := 22) C dX4_sheet_15 (by decide) ?_ ?_
    · exact r_sub [1, 2, 3, 4, 0] rfl (wj_X4_sheet_22 X C q qb qs qS qC tr fa fr rb rl ra wl WS BI BA SI SA LN SZ CE a1 a2 a3 r2 )
    · refine r_bipush (pc := 18) C dX4_sheet_18 (cb_m2) ?_
      refine r_istore (pc := 20) C dX4_sheet_20 (by decide) (lv' := [(4, .int (-2 : Int32)), (0, .ref (q 0)), (1, .int a1), (2, .int a2), (3, .int a3)]) rfl ?_
      exact r_sub [1, 2, 3, 4, 0] rfl (wj_X4_sheet_22 X C q qb qs qS qC tr fa fr rb rl ra wl WS BI BA SI SA LN SZ CE a1 a2 a3 (-2 : Int32) ))
set_option maxHeartbeats 4000000 in
set_option maxRecDepth 100000 in
theorem m_X4_lose (l : Launch) (D : va_G) (cI cS : ClassId) (q : Nat → Nat) (qb : Nat → Nat) (qs : Nat → Nat) (qS : Nat → Nat) (qC : Nat → Nat) (tr : Int32) (fa : Int32) (fr : Option Nat) (rb : Int32) (rl : Int32) (ra : Int32) (wl : Int32) (WS : Nat → Int32) (BI : Nat → Int32) (BA : Nat → Nat → Int32) (SI : Nat → Int32) (SA : Nat → Nat → Int32) (LN : Nat → Int32) (SZ : Nat → Int32) (CE : Nat → Nat → Int32) (a1 : Int32) : MX l D (tyz cI cS) yX4_lose cX4_lose 2 (some .int) (rmz 2 42) [.ref (q 0), .int a1] (wdX cI cS q qb qs qS qC (qb 0) (qs 0) tr fa fr rb rl ra wl WS BI BA SI SA LN SZ CE) (f_X4_lose LN SZ a1) (fun o : Int32 × (Nat → Int32) × (Nat → Int32) => some (.int o.1)) (fun o : Int32 × (Nat → Int32) × (Nat → Int32) => wdX cI cS q qb qs qS qC (qb 0) (qs 0) tr fa fr rb rl ra wl WS BI BA SI SA o.2.1 o.2.2 CE) := met_of (own := RX4) (by decide) rfl (Nat.le_of_ble_eq_true rfl) (fun X hxl hxD C => by
  subst hxl
  subst hxD
  show JR X _ _ 0 0 (f_X4_lose LN SZ a1) (wdX cI cS q qb qs qS qC (qb 0) (qs 0) tr fa fr rb rl ra wl WS BI BA SI SA LN SZ CE) [(0, .ref (q 0)), (1, .int a1)] 0 []
  unfold f_X4_lose
  refine r_iload_n (pc := 0) C 1 dX4_lose_0 rfl rfl ?_
  refine r_callSr (pc := 1) (rest := []) C (m_X4_isSheet (xl X) (xD X) cI cS a1) ms_X4_210 rfl ⟨Nat.zero_le _, Nat.zero_le _⟩ rfl rfl (Nat.le_of_ble_eq_true rfl) dX4_lose_1 (fun r1 => ?_)
  refine r_if_ne (pc := 4) (tgt := 9) C dX4_lose_4 (by decide) ?_ ?_
  · refine r_aload_n (pc := 9) C 0 dX4_lose_9 rfl rfl ?_
    refine gf_X4_13 (pc := 10) C 0 rfl rfl dX4_lose_10 ?_
    refine r_iload_n (pc := 13) C 1 dX4_lose_13 rfl rfl ?_
    refine r_aald (pc := 14) C 1 rfl dX4_lose_14 (fun hj14 => ?_)
    refine r_callVr (pc := 15) (rest := []) C [25 + 2 * a1.toNatClampNeg, 26 + 2 * a1.toNatClampNeg] (m_X1_hasRow (xl X) (xD X) cI cS (qS a1.toNatClampNeg) (qC a1.toNatClampNeg) (LN a1.toNatClampNeg) (SZ a1.toNatClampNeg) (CE a1.toNatClampNeg)) mv_X4_213 (wX_c hj14) (wX_n hj14) rfl rfl rfl ⟨Nat.zero_le _, Nat.zero_le _⟩ rfl rfl (Nat.le_of_ble_eq_true rfl) dX4_lose_15 (fun r15 => ?_)
    refine r_if_ne (pc := 18) (tgt := 23) C dX4_lose_18 (by decide) ?_ ?_
    · refine r_aload_n (pc := 23) C 0 dX4_lose_23 rfl rfl ?_
      refine gf_X4_13 (pc := 24) C 0 rfl rfl dX4_lose_24 ?_
      refine r_iload_n (pc := 27) C 1 dX4_lose_27 rfl rfl ?_
      refine r_aald (pc := 28) C 1 rfl dX4_lose_28 (fun hj28 => ?_)
      refine r_callV (pc := 29) (rest := []) C [25 + 2 * a1.toNatClampNeg, 26 + 2 * a1.toNatClampNeg] (fun r29 => wdX cI cS q qb qs qS qC (qb 0) (qs 0) tr fa fr rb rl ra wl WS BI BA SI SA (upd LN a1.toNatClampNeg r29.1) (upd SZ a1.toNatClampNeg r29.2) CE) (m_X1_drop (xl X) (xD X) cI cS (qS a1.toNatClampNeg) (qC a1.toNatClampNeg) (LN a1.toNatClampNeg) (SZ a1.toNatClampNeg) (CE a1.toNatClampNeg)) mv_X4_216 (wX_c hj28) (wX_n hj28) (fun _ => wX_b2 hj28) (fun _ => rfl) rfl rfl rfl ⟨Nat.zero_le _, Nat.zero_le _⟩ rfl rfl (Nat.le_of_ble_eq_true rfl) dX4_lose_29 (fun r29 => ?_)
      refine r_iconst (pc := 32) C dX4_lose_32 (ci_1) ?_
      exact r_iret (pc := 33) C rfl rfl dX4_lose_33
    · refine r_iconst (pc := 21) C dX4_lose_21 (ci_0) ?_
      exact r_iret (pc := 22) C rfl rfl dX4_lose_22
  · refine r_iconst (pc := 7) C dX4_lose_7 (ci_m1) ?_
    exact r_iret (pc := 8) C rfl rfl dX4_lose_8)
set_option maxHeartbeats 4000000 in
set_option maxRecDepth 100000 in
theorem m_X4_put (l : Launch) (D : va_G) (cI cS : ClassId) (q : Nat → Nat) (qb : Nat → Nat) (qs : Nat → Nat) (qS : Nat → Nat) (qC : Nat → Nat) (tr : Int32) (fa : Int32) (fr : Option Nat) (rb : Int32) (rl : Int32) (ra : Int32) (wl : Int32) (WS : Nat → Int32) (BI : Nat → Int32) (BA : Nat → Nat → Int32) (SI : Nat → Int32) (SA : Nat → Nat → Int32) (LN : Nat → Int32) (SZ : Nat → Int32) (CE : Nat → Nat → Int32) (a1 : Int32) (a2 : Int32) (a3 : Int32) : MX l D (tyz cI cS) yX4_put cX4_put 5 (some .int) (rmz 2 42) [.ref (q 0), .int a1, .int a2, .int a3] (wdX cI cS q qb qs qS qC (qb 0) (qs 0) tr fa fr rb rl ra wl WS BI BA SI SA LN SZ CE) (f_X4_put LN SZ CE a1 a2 a3) (fun o : Int32 × (Int32) × (Nat → Nat → Int32) => some (.int o.1)) (fun o : Int32 × (Int32) × (Nat → Nat → Int32) => wdX cI cS q qb qs qS qC (qb 0) (qs 0) tr o.2.1 fr rb rl ra wl WS BI BA SI SA LN SZ o.2.2) := met_of (own := RX4) (by decide) rfl (Nat.le_of_ble_eq_true rfl) (fun X hxl hxD C => by
  subst hxl
  subst hxD
  show JR X _ _ 0 0 (f_X4_put LN SZ CE a1 a2 a3) (wdX cI cS q qb qs qS qC (qb 0) (qs 0) tr fa fr rb rl ra wl WS BI BA SI SA LN SZ CE) [(0, .ref (q 0)), (1, .int a1), (2, .int a2), (3, .int a3)] 0 []
  unfold f_X4_put
  refine r_iload_n (pc := 0) C 1 dX4_put_0 rfl rfl ?_
  refine r_callSr (pc := 1) (rest := []) C (m_X4_isSheet (xl X) (xD X) cI cS a1) ms_X4_210 rfl ⟨Nat.zero_le _, Nat.zero_le _⟩ rfl rfl (Nat.le_of_ble_eq_true rfl) dX4_put_1 (fun r1 => ?_)
  refine r_if_ne (pc := 4) (tgt := 13) C dX4_put_4 (by decide) ?_ ?_
  · refine r_aload_n (pc := 13) C 0 dX4_put_13 rfl rfl ?_
    refine gf_X4_13 (pc := 14) C 0 rfl rfl dX4_put_14 ?_
    refine r_iload_n (pc := 17) C 1 dX4_put_17 rfl rfl ?_
    refine r_aald (pc := 18) C 1 rfl dX4_put_18 (fun hj18 => ?_)
    refine r_astore (pc := 19) C dX4_put_19 (by decide) (lv' := [(4, .ref (qS a1.toNatClampNeg)), (0, .ref (q 0)), (1, .int a1), (2, .int a2), (3, .int a3)]) rfl ?_
    refine r_aload (pc := 21) C 0 dX4_put_21 rfl ?_
    refine r_callVr (pc := 23) (rest := []) C [25 + 2 * a1.toNatClampNeg, 26 + 2 * a1.toNatClampNeg] (m_X1_hasRow (xl X) (xD X) cI cS (qS a1.toNatClampNeg) (qC a1.toNatClampNeg) (LN a1.toNatClampNeg) (SZ a1.toNatClampNeg) (CE a1.toNatClampNeg)) mv_X4_213 (wX_c hj18) (wX_n hj18) rfl rfl rfl ⟨Nat.zero_le _, Nat.zero_le _⟩ rfl rfl (Nat.le_of_ble_eq_true rfl) dX4_put_23 (fun r23 => ?_)
    refine r_if_ne (pc := 26) (tgt := 35) C dX4_put_26 (by decide) ?_ ?_
    · refine r_aload (pc := 35) C 0 dX4_put_35 rfl ?_
      refine r_iload_n (pc := 37) C 3 dX4_put_37 rfl rfl ?_
      refine r_callVr (pc := 38) (rest := []) C [25 + 2 * a1.toNatClampNeg, 26 + 2 * a1.toNatClampNeg] (m_X1_hasCell (xl X) (xD X) cI cS (qS a1.toNatClampNeg) (qC a1.toNatClampNeg) (LN a1.toNatClampNeg) (SZ a1.toNatClampNeg) (CE a1.toNatClampNeg) a2) mv_X4_219 (wX_c hj18) (wX_n hj18) rfl rfl rfl ⟨Nat.zero_le _, Nat.zero_le _⟩ rfl rfl (Nat.le_of_ble_eq_true rfl) dX4_put_38 (fun r38 => ?_)
      refine r_if_ne (pc := 41) (tgt := 50) C dX4_put_41 (by decide) ?_ ?_
      · refine r_aload_n (pc := 50) C 1 dX4_put_50 rfl rfl ?_
        refine r_iconst (pc := 51) C dX4_put_51 (ci_0) ?_
        refine pf_X4_60 (pc := 52) (ws' := wdX cI cS q qb qs qS qC (qb 0) (qs 0) tr (0 : Int32) fr rb rl ra wl WS BI BA SI SA LN SZ CE) C 0 rfl rfl dX4_put_52 rfl ?_
        refine r_aload (pc := 55) C 0 dX4_put_55 rfl ?_
        refine gf_X4_222 (pc := 57) C (25 + 2 * a1.toNatClampNeg) (wX_o hj18) rfl dX4_put_57 ?_
        refine r_iload_n (pc := 60) C 3 dX4_put_60 rfl rfl ?_
        refine r_aload (pc := 61) C 0 dX4_put_61 rfl ?_
        refine r_iload_n (pc := 63) C 4 dX4_put_63 rfl rfl ?_
        refine r_callVr (pc := 64) (rest := [.int a2, .ref (qC a1.toNatClampNeg)]) C [25 + 2 * a1.toNatClampNeg, 26 + 2 * a1.toNatClampNeg] (m_X1_cut (xl X) (xD X) cI cS (qS a1.toNatClampNeg) (qC a1.toNatClampNeg) (LN a1.toNatClampNeg) (SZ a1.toNatClampNeg) (CE a1.toNatClampNeg) a3) mv_X4_225 (wX_c hj18) (wX_n hj18) rfl rfl rfl ⟨Nat.zero_le _, Nat.zero_le _⟩ rfl rfl (Nat.le_of_ble_eq_true rfl) dX4_put_64 (fun r64 => ?_)
        refine r_iast (pc := 67) (ws' := wdX cI cS q qb qs qS qC (qb 0) (qs 0) tr (0 : Int32) fr rb rl ra wl WS BI BA SI SA LN SZ (va_up CE a1.toNatClampNeg (upd (CE a1.toNatClampNeg) a2.toNatClampNeg r64))) C (26 + 2 * a1.toNatClampNeg) (wX_a hj18) dX4_put_67 (wX_s hj18) ?_
        refine r_iconst (pc := 68) C dX4_put_68 (ci_1) ?_
        exact r_iret (pc := 69) C rfl rfl dX4_put_69
      · refine r_aload_n (pc := 44) C 1 dX4_put_44 rfl rfl ?_
        refine r_iconst (pc := 45) C dX4_put_45 (ci_3) ?_
        refine r_callV0 (pc := 46) (rest := []) C (m_X4_faulted (xl X) (xD X) cI cS q qb qs qS qC tr fa fr rb rl ra wl WS BI BA SI SA LN SZ CE (3 : Int32)) mv_X4_57 rfl rfl rfl ⟨Nat.zero_le _, Nat.zero_le _⟩ rfl rfl (Nat.le_of_ble_eq_true rfl) dX4_put_46 (fun r46 => ?_)
        exact r_iret (pc := 49) C rfl rfl dX4_put_49
    · refine r_aload_n (pc := 29) C 1 dX4_put_29 rfl rfl ?_
      refine r_iconst (pc := 30) C dX4_put_30 (ci_1) ?_
      refine r_callV0 (pc := 31) (rest := []) C (m_X4_faulted (xl X) (xD X) cI cS q qb qs qS qC tr fa fr rb rl ra wl WS BI BA SI SA LN SZ CE (1 : Int32)) mv_X4_57 rfl rfl rfl ⟨Nat.zero_le _, Nat.zero_le _⟩ rfl rfl (Nat.le_of_ble_eq_true rfl) dX4_put_31 (fun r31 => ?_)
      exact r_iret (pc := 34) C rfl rfl dX4_put_34
  · refine r_aload_n (pc := 7) C 0 dX4_put_7 rfl rfl ?_
    refine r_iconst (pc := 8) C dX4_put_8 (ci_m1) ?_
    refine r_callV0 (pc := 9) (rest := []) C (m_X4_refused (xl X) (xD X) cI cS q qb qs qS qC tr fa fr rb rl ra wl WS BI BA SI SA LN SZ CE (-1 : Int32)) mv_X4_46 rfl rfl rfl ⟨Nat.zero_le _, Nat.zero_le _⟩ rfl rfl (Nat.le_of_ble_eq_true rfl) dX4_put_9 (fun r9 => ?_)
    exact r_iret (pc := 12) C rfl rfl dX4_put_12)
set_option maxHeartbeats 4000000 in
set_option maxRecDepth 100000 in
theorem wj_X4_cell_46 {cI cS : ClassId} (X : CX) (C : Cx X RX4 cX4_cell 6 (some .long) (rmz 3 63) (tyz cI cS)) (q : Nat → Nat) (qb : Nat → Nat) (qs : Nat → Nat) (qS : Nat → Nat) (qC : Nat → Nat) (tr : Int32) (fa : Int32) (fr : Option Nat) (rb : Int32) (rl : Int32) (ra : Int32) (wl : Int32) (WS : Nat → Int32) (BI : Nat → Int32) (BA : Nat → Nat → Int32) (SI : Nat → Int32) (SA : Nat → Nat → Int32) (LN : Nat → Int32) (SZ : Nat → Int32) (CE : Nat → Nat → Int32) (a1 : Int32) (a2 : Int32) (j5_46 : Int32) (hj18 : a1.toNatClampNeg < 4) : JR X (QF X (tyz cI cS) 0 0 (fun o : Int64 × (Int32) => some (.long o.1)) (fun o : Int64 × (Int32) => wdX cI cS q qb qs qS qC (qb 0) (qs 0) tr o.2 fr rb rl ra wl WS BI BA SI SA LN SZ CE)) 6 0 0 (jb_X4_cell_46 CE a1 a2 j5_46) (wdX cI cS q qb qs qS qC (qb 0) (qs 0) tr fa fr rb rl ra wl WS BI BA SI SA LN SZ CE) [(0, .ref (q 0)), (2, .int a2), (4, .ref (qS a1.toNatClampNeg)), (5, .int j5_46)] 46 [] := by
  unfold jb_X4_cell_46
  refine r_aload_n (pc := 46) C 0 dX4_cell_46 rfl rfl ?_
  refine r_iload (pc := 47) C 3 dX4_cell_47 rfl ?_
  refine pf_X4_60 (pc := 49) (ws' := wdX cI cS q qb qs qS qC (qb 0) (qs 0) tr j5_46 fr rb rl ra wl WS BI BA SI SA LN SZ CE) C 0 rfl rfl dX4_cell_49 rfl ?_
  refine r_iload (pc := 52) C 3 dX4_cell_52 rfl ?_
  refine r_if_eq (pc := 54) (tgt := 63) C dX4_cell_54 (by decide) ?_ ?_
  · refine r_aload (pc := 63) C 2 dX4_cell_63 rfl ?_
    refine gf_X4_222 (pc := 65) C (25 + 2 * a1.toNatClampNeg) (wX_o hj18) rfl dX4_cell_65 ?_
    refine r_iload_n (pc := 68) C 1 dX4_cell_68 rfl rfl ?_
    refine r_iald (pc := 69) C (26 + 2 * a1.toNatClampNeg) (wX_a hj18) dX4_cell_69 ?_
    refine r_i2l (pc := 70) C dX4_cell_70 ?_
    exact r_lret (pc := 71) C rfl rfl dX4_cell_71
  · refine r_ldc2 (pc := 57) C kk_X4_136 dX4_cell_57 ?_
    refine r_goto (pc := 60) (tgt := 71) C dX4_cell_60 (by decide) ?_
    exact r_lret (pc := 71) C rfl rfl dX4_cell_71
set_option maxHeartbeats 4000000 in
set_option maxRecDepth 100000 in
theorem m_X4_cell (l : Launch) (D : va_G) (cI cS : ClassId) (q : Nat → Nat) (qb : Nat → Nat) (qs : Nat → Nat) (qS : Nat → Nat) (qC : Nat → Nat) (tr : Int32) (fa : Int32) (fr : Option Nat) (rb : Int32) (rl : Int32) (ra : Int32) (wl : Int32) (WS : Nat → Int32) (BI : Nat → Int32) (BA : Nat → Nat → Int32) (SI : Nat → Int32) (SA : Nat → Nat → Int32) (LN : Nat → Int32) (SZ : Nat → Int32) (CE : Nat → Nat → Int32) (a1 : Int32) (a2 : Int32) (a3 : Int32) : MX l D (tyz cI cS) yX4_cell cX4_cell 6 (some .long) (rmz 3 63) [.ref (q 0), .int a1, .int a2, .int a3] (wdX cI cS q qb qs qS qC (qb 0) (qs 0) tr fa fr rb rl ra wl WS BI BA SI SA LN SZ CE) (f_X4_cell LN SZ CE a1 a2 a3) (fun o : Int64 × (Int32) => some (.long o.1)) (fun o : Int64 × (Int32) => wdX cI cS q qb qs qS qC (qb 0) (qs 0) tr o.2 fr rb rl ra wl WS BI BA SI SA LN SZ CE) := met_of (own := RX4) (by decide) rfl (Nat.le_of_ble_eq_true rfl) (fun X hxl hxD C => by
  subst hxl
  subst hxD
  show JR X _ _ 0 0 (f_X4_cell LN SZ CE a1 a2 a3) (wdX cI cS q qb qs qS qC (qb 0) (qs 0) tr fa fr rb rl ra wl WS BI BA SI SA LN SZ CE) [(0, .ref (q 0)), (1, .int a1), (2, .int a2), (3, .int a3)] 0 []
  unfold f_X4_cell
  refine r_iload_n (pc := 0) C 1 dX4_cell_0 rfl rfl ?_
  refine r_iload_n (pc := 1) C 3 dX4_cell_1 rfl rfl ?_
  refine r_callSr (pc := 2) (rest := []) C (m_X4_refusalOfRow (xl X) (xD X) cI cS a1 a3) ms_X4_42 rfl ⟨Nat.zero_le _, Nat.zero_le _⟩ rfl rfl (Nat.le_of_ble_eq_true rfl) dX4_cell_2 (fun r2 => ?_)
  refine r_if_eq (pc := 5) (tgt := 13) C dX4_cell_5 (by decide) ?_ ?_
  · refine r_aload_n (pc := 13) C 0 dX4_cell_13 rfl rfl ?_
    refine gf_X4_13 (pc := 14) C 0 rfl rfl dX4_cell_14 ?_
    refine r_iload_n (pc := 17) C 1 dX4_cell_17 rfl rfl ?_
    refine r_aald (pc := 18) C 1 rfl dX4_cell_18 (fun hj18 => ?_)
    refine r_astore (pc := 19) C dX4_cell_19 (by decide) (lv' := [(4, .ref (qS a1.toNatClampNeg)), (0, .ref (q 0)), (1, .int a1), (2, .int a2), (3, .int a3)]) rfl ?_
    refine r_aload (pc := 21) C 0 dX4_cell_21 rfl ?_
    refine r_iload_n (pc := 23) C 4 dX4_cell_23 rfl rfl ?_
    refine r_callVr (pc := 24) (rest := []) C [25 + 2 * a1.toNatClampNeg, 26 + 2 * a1.toNatClampNeg] (m_X1_faultAs (xl X) (xD X) cI cS (qS a1.toNatClampNeg) (qC a1.toNatClampNeg) (LN a1.toNatClampNeg) (SZ a1.toNatClampNeg) (CE a1.toNatClampNeg) a3) mv_X4_50 (wX_c hj18) (wX_n hj18) rfl rfl rfl ⟨Nat.zero_le _, Nat.zero_le _⟩ rfl rfl (Nat.le_of_ble_eq_true rfl) dX4_cell_24 (fun r24 => ?_)
    refine r_istore (pc := 27) C dX4_cell_27 (by decide) (lv' := [(5, .int r24), (4, .ref (qS a1.toNatClampNeg)), (0, .ref (q 0)), (1, .int a1), (2, .int a2), (3, .int a3)]) rfl ?_
    refine r_iload (pc := 29) C 0 dX4_cell_29 rfl ?_
    refine r_if_ne (pc := 31) (tgt := 46) C dX4_cell_31 (by decide) ?_ ?_
    · exact r_sub [2, 4, 1, 0] rfl (wj_X4_cell_46 X C q qb qs qS qC tr fa fr rb rl ra wl WS BI BA SI SA LN SZ CE a1 a2 r24 hj18)
    · refine r_aload (pc := 34) C 1 dX4_cell_34 rfl ?_
      refine r_iload_n (pc := 36) C 4 dX4_cell_36 rfl rfl ?_
      refine r_callVr (pc := 37) (rest := []) C [25 + 2 * a1.toNatClampNeg, 26 + 2 * a1.toNatClampNeg] (m_X1_hasCell (xl X) (xD X) cI cS (qS a1.toNatClampNeg) (qC a1.toNatClampNeg) (LN a1.toNatClampNeg) (SZ a1.toNatClampNeg) (CE a1.toNatClampNeg) a2) mv_X4_219 (wX_c hj18) (wX_n hj18) rfl rfl rfl ⟨Nat.zero_le _, Nat.zero_le _⟩ rfl rfl (Nat.le_of_ble_eq_true rfl) dX4_cell_37 (fun r37 => ?_)
      refine r_if_ne (pc := 40) (tgt := 46) C dX4_cell_40 (by decide) ?_ ?_
      · exact r_sub [2, 4, 1, 0] rfl (wj_X4_cell_46 X C q qb qs qS qC tr fa fr rb rl ra wl WS BI BA SI SA LN SZ CE a1 a2 r24 hj18)
      · refine r_iconst (pc := 43) C dX4_cell_43 (ci_3) ?_
        refine r_istore (pc := 44) C dX4_cell_44 (by decide) (lv' := [(5, .int (3 : Int32)), (4, .ref (qS a1.toNatClampNeg)), (0, .ref (q 0)), (1, .int a1), (2, .int a2), (3, .int a3)]) rfl ?_
        exact r_sub [2, 4, 1, 0] rfl (wj_X4_cell_46 X C q qb qs qS qC tr fa fr rb rl ra wl WS BI BA SI SA LN SZ CE a1 a2 (3 : Int32) hj18)
  · refine r_aload_n (pc := 8) C 0 dX4_cell_8 rfl rfl ?_
    refine r_callV0 (pc := 9) (rest := []) C (m_X4_lostUnfaulted (xl X) (xD X) cI cS q qb qs qS qC tr fa fr rb rl ra wl WS BI BA SI SA LN SZ CE) mv_X4_147 rfl rfl rfl ⟨Nat.zero_le _, Nat.zero_le _⟩ rfl rfl (Nat.le_of_ble_eq_true rfl) dX4_cell_9 (fun r9 => ?_)
    exact r_lret (pc := 12) C rfl rfl dX4_cell_12)
set_option maxHeartbeats 4000000 in
set_option maxRecDepth 100000 in
theorem m_X4_copy (l : Launch) (D : va_G) (cI cS : ClassId) (q : Nat → Nat) (qb : Nat → Nat) (qs : Nat → Nat) (qS : Nat → Nat) (qC : Nat → Nat) (tr : Int32) (fa : Int32) (fr : Option Nat) (rb : Int32) (rl : Int32) (ra : Int32) (wl : Int32) (WS : Nat → Int32) (BI : Nat → Int32) (BA : Nat → Nat → Int32) (SI : Nat → Int32) (SA : Nat → Nat → Int32) (LN : Nat → Int32) (SZ : Nat → Int32) (CE : Nat → Nat → Int32) (a1 : Int32) (a2 : Int32) (a3 : Int32) (a4 : Int32) (a5 : Int32) : MX l D (tyz cI cS) yX4_copy cX4_copy 8 (some .int) (rmz 2 42) [.ref (q 0), .int a1, .int a2, .int a3, .int a4, .int a5] (wdX cI cS q qb qs qS qC (qb 0) (qs 0) tr fa fr rb rl ra wl WS BI BA SI SA LN SZ CE) (f_X4_copy LN SZ CE a1 a2 a3 a4 a5) (fun o : Int32 × (Int32) × (Nat → Nat → Int32) => some (.int o.1)) (fun o : Int32 × (Int32) × (Nat → Nat → Int32) => wdX cI cS q qb qs qS qC (qb 0) (qs 0) tr o.2.1 fr rb rl ra wl WS BI BA SI SA LN SZ o.2.2) := met_of (own := RX4) (by decide) rfl (Nat.le_of_ble_eq_true rfl) (fun X hxl hxD C => by
  subst hxl
  subst hxD
  show JR X _ _ 0 0 (f_X4_copy LN SZ CE a1 a2 a3 a4 a5) (wdX cI cS q qb qs qS qC (qb 0) (qs 0) tr fa fr rb rl ra wl WS BI BA SI SA LN SZ CE) [(0, .ref (q 0)), (1, .int a1), (2, .int a2), (3, .int a3), (4, .int a4), (5, .int a5)] 0 []
  unfold f_X4_copy
  refine r_iload_n (pc := 0) C 1 dX4_copy_0 rfl rfl ?_
  refine r_callSr (pc := 1) (rest := []) C (m_X4_isSheet (xl X) (xD X) cI cS a1) ms_X4_210 rfl ⟨Nat.zero_le _, Nat.zero_le _⟩ rfl rfl (Nat.le_of_ble_eq_true rfl) dX4_copy_1 (fun r1 => ?_)
  refine r_if_eq (pc := 4) (tgt := 14) C dX4_copy_4 (by decide) ?_ ?_
  · refine r_aload_n (pc := 14) C 0 dX4_copy_14 rfl rfl ?_
    refine r_iconst (pc := 15) C dX4_copy_15 (ci_m1) ?_
    refine r_callV0 (pc := 16) (rest := []) C (m_X4_refused (xl X) (xD X) cI cS q qb qs qS qC tr fa fr rb rl ra wl WS BI BA SI SA LN SZ CE (-1 : Int32)) mv_X4_46 rfl rfl rfl ⟨Nat.zero_le _, Nat.zero_le _⟩ rfl rfl (Nat.le_of_ble_eq_true rfl) dX4_copy_16 (fun r16 => ?_)
    exact r_iret (pc := 19) C rfl rfl dX4_copy_19
  · refine r_iload_n (pc := 7) C 3 dX4_copy_7 rfl rfl ?_
    refine r_callSr (pc := 8) (rest := []) C (m_X4_isSheet (xl X) (xD X) cI cS a3) ms_X4_210 rfl ⟨Nat.zero_le _, Nat.zero_le _⟩ rfl rfl (Nat.le_of_ble_eq_true rfl) dX4_copy_8 (fun r8 => ?_)
    refine r_if_ne (pc := 11) (tgt := 20) C dX4_copy_11 (by decide) ?_ ?_
    · refine r_aload_n (pc := 20) C 0 dX4_copy_20 rfl rfl ?_
      refine gf_X4_13 (pc := 21) C 0 rfl rfl dX4_copy_21 ?_
      refine r_iload_n (pc := 24) C 1 dX4_copy_24 rfl rfl ?_
      refine r_aald (pc := 25) C 1 rfl dX4_copy_25 (fun hj25 => ?_)
      refine r_astore (pc := 26) C dX4_copy_26 (by decide) (lv' := [(6, .ref (qS a1.toNatClampNeg)), (0, .ref (q 0)), (1, .int a1), (2, .int a2), (3, .int a3), (4, .int a4), (5, .int a5)]) rfl ?_
      refine r_aload_n (pc := 28) C 1 dX4_copy_28 rfl rfl ?_
      refine gf_X4_13 (pc := 29) C 0 rfl rfl dX4_copy_29 ?_
      refine r_iload_n (pc := 32) C 4 dX4_copy_32 rfl rfl ?_
      refine r_aald (pc := 33) C 1 rfl dX4_copy_33 (fun hj33 => ?_)
      refine r_astore (pc := 34) C dX4_copy_34 (by decide) (lv' := [(7, .ref (qS a3.toNatClampNeg)), (6, .ref (qS a1.toNatClampNeg)), (0, .ref (q 0)), (1, .int a1), (2, .int a2), (3, .int a3), (4, .int a4), (5, .int a5)]) rfl ?_
      refine r_aload (pc := 36) C 1 dX4_copy_36 rfl ?_
      refine r_callVr (pc := 38) (rest := []) C [25 + 2 * a1.toNatClampNeg, 26 + 2 * a1.toNatClampNeg] (m_X1_hasRow (xl X) (xD X) cI cS (qS a1.toNatClampNeg) (qC a1.toNatClampNeg) (LN a1.toNatClampNeg) (SZ a1.toNatClampNeg) (CE a1.toNatClampNeg)) mv_X4_213 (wX_c hj25) (wX_n hj25) rfl rfl rfl ⟨Nat.zero_le _, Nat.zero_le _⟩ rfl rfl (Nat.le_of_ble_eq_true rfl) dX4_copy_38 (fun r38 => ?_)
      refine r_if_eq (pc := 41) (tgt := 52) C dX4_copy_41 (by decide) ?_ ?_
      · refine r_aload_n (pc := 52) C 2 dX4_copy_52 rfl rfl ?_
        refine r_iconst (pc := 53) C dX4_copy_53 (ci_1) ?_
        refine r_callV0 (pc := 54) (rest := []) C (m_X4_faulted (xl X) (xD X) cI cS q qb qs qS qC tr fa fr rb rl ra wl WS BI BA SI SA LN SZ CE (1 : Int32)) mv_X4_57 rfl rfl rfl ⟨Nat.zero_le _, Nat.zero_le _⟩ rfl rfl (Nat.le_of_ble_eq_true rfl) dX4_copy_54 (fun r54 => ?_)
        exact r_iret (pc := 57) C rfl rfl dX4_copy_57
      · refine r_aload (pc := 44) C 0 dX4_copy_44 rfl ?_
        refine r_callVr (pc := 46) (rest := []) C [25 + 2 * a3.toNatClampNeg, 26 + 2 * a3.toNatClampNeg] (m_X1_hasRow (xl X) (xD X) cI cS (qS a3.toNatClampNeg) (qC a3.toNatClampNeg) (LN a3.toNatClampNeg) (SZ a3.toNatClampNeg) (CE a3.toNatClampNeg)) mv_X4_213 (wX_c hj33) (wX_n hj33) rfl rfl rfl ⟨Nat.zero_le _, Nat.zero_le _⟩ rfl rfl (Nat.le_of_ble_eq_true rfl) dX4_copy_46 (fun r46 => ?_)
        refine r_if_ne (pc := 49) (tgt := 58) C dX4_copy_49 (by decide) ?_ ?_
        · refine r_aload (pc := 58) C 1 dX4_copy_58 rfl ?_
          refine gf_X4_228 (pc := 60) C (25 + 2 * a1.toNatClampNeg) (wX_o hj25) rfl dX4_copy_60 ?_
          refine r_aload (pc := 63) C 0 dX4_copy_63 rfl ?_
          refine gf_X4_228 (pc := 65) C (25 + 2 * a3.toNatClampNeg) (wX_o hj33) rfl dX4_copy_65 ?_
          refine r_icmp_eq (pc := 68) (tgt := 77) C dX4_copy_68 (by decide) ?_ ?_
          · refine r_aload (pc := 77) C 1 dX4_copy_77 rfl ?_
            refine r_iload_n (pc := 79) C 4 dX4_copy_79 rfl rfl ?_
            refine r_iload (pc := 80) C 7 dX4_copy_80 rfl ?_
            refine r_callVr (pc := 82) (rest := []) C [25 + 2 * a1.toNatClampNeg, 26 + 2 * a1.toNatClampNeg] (m_X1_hasCells (xl X) (xD X) cI cS (qS a1.toNatClampNeg) (qC a1.toNatClampNeg) (LN a1.toNatClampNeg) (SZ a1.toNatClampNeg) (CE a1.toNatClampNeg) a2 a5) mv_X4_53 (wX_c hj25) (wX_n hj25) rfl rfl rfl ⟨Nat.zero_le _, Nat.zero_le _⟩ rfl rfl (Nat.le_of_ble_eq_true rfl) dX4_copy_82 (fun r82 => ?_)
            refine r_if_eq (pc := 85) (tgt := 100) C dX4_copy_85 (by decide) ?_ ?_
            · refine r_aload_n (pc := 100) C 2 dX4_copy_100 rfl rfl ?_
              refine r_iconst (pc := 101) C dX4_copy_101 (ci_3) ?_
              refine r_callV0 (pc := 102) (rest := []) C (m_X4_faulted (xl X) (xD X) cI cS q qb qs qS qC tr fa fr rb rl ra wl WS BI BA SI SA LN SZ CE (3 : Int32)) mv_X4_57 rfl rfl rfl ⟨Nat.zero_le _, Nat.zero_le _⟩ rfl rfl (Nat.le_of_ble_eq_true rfl) dX4_copy_102 (fun r102 => ?_)
              exact r_iret (pc := 105) C rfl rfl dX4_copy_105
            · refine r_aload (pc := 88) C 0 dX4_copy_88 rfl ?_
              refine r_iload (pc := 90) C 6 dX4_copy_90 rfl ?_
              refine r_iload (pc := 92) C 7 dX4_copy_92 rfl ?_
              refine r_callVr (pc := 94) (rest := []) C [25 + 2 * a3.toNatClampNeg, 26 + 2 * a3.toNatClampNeg] (m_X1_hasCells (xl X) (xD X) cI cS (qS a3.toNatClampNeg) (qC a3.toNatClampNeg) (LN a3.toNatClampNeg) (SZ a3.toNatClampNeg) (CE a3.toNatClampNeg) a4 a5) mv_X4_53 (wX_c hj33) (wX_n hj33) rfl rfl rfl ⟨Nat.zero_le _, Nat.zero_le _⟩ rfl rfl (Nat.le_of_ble_eq_true rfl) dX4_copy_94 (fun r94 => ?_)
              refine r_if_ne (pc := 97) (tgt := 106) C dX4_copy_97 (by decide) ?_ ?_
              · refine r_aload_n (pc := 106) C 2 dX4_copy_106 rfl rfl ?_
                refine r_iconst (pc := 107) C dX4_copy_107 (ci_0) ?_
                refine pf_X4_60 (pc := 108) (ws' := wdX cI cS q qb qs qS qC (qb 0) (qs 0) tr (0 : Int32) fr rb rl ra wl WS BI BA SI SA LN SZ CE) C 0 rfl rfl dX4_copy_108 rfl ?_
                refine r_aload (pc := 111) C 1 dX4_copy_111 rfl ?_
                refine gf_X4_222 (pc := 113) C (25 + 2 * a1.toNatClampNeg) (wX_o hj25) rfl dX4_copy_113 ?_
                refine r_iload_n (pc := 116) C 4 dX4_copy_116 rfl rfl ?_
                refine r_aload (pc := 117) C 0 dX4_copy_117 rfl ?_
                refine gf_X4_222 (pc := 119) C (25 + 2 * a3.toNatClampNeg) (wX_o hj33) rfl dX4_copy_119 ?_
                refine r_iload (pc := 122) C 6 dX4_copy_122 rfl ?_
                refine r_iload (pc := 124) C 7 dX4_copy_124 rfl ?_
                refine r_acopy (pc := 126) (ws' := wdX cI cS q qb qs qS qC (qb 0) (qs 0) tr (0 : Int32) fr rb rl ra wl WS BI BA SI SA LN SZ (va_up CE a3.toNatClampNeg (va_cpy (CE a1.toNatClampNeg) (CE a3.toNatClampNeg) a2.toNatClampNeg a4.toNatClampNeg a5.toNatClampNeg))) C (26 + 2 * a1.toNatClampNeg) (26 + 2 * a3.toNatClampNeg) (wX_a hj25) (wX_a hj33) dX4_copy_126 (wX_s hj33) (Nat.le_of_ble_eq_true rfl) (Nat.le_of_ble_eq_true rfl) ?_
                refine r_iload (pc := 129) C 7 dX4_copy_129 rfl ?_
                exact r_iret (pc := 131) C rfl rfl dX4_copy_131
              · refine r_aload_n (pc := 100) C 2 dX4_copy_100 rfl rfl ?_
                refine r_iconst (pc := 101) C dX4_copy_101 (ci_3) ?_
                refine r_callV0 (pc := 102) (rest := []) C (m_X4_faulted (xl X) (xD X) cI cS q qb qs qS qC tr fa fr rb rl ra wl WS BI BA SI SA LN SZ CE (3 : Int32)) mv_X4_57 rfl rfl rfl ⟨Nat.zero_le _, Nat.zero_le _⟩ rfl rfl (Nat.le_of_ble_eq_true rfl) dX4_copy_102 (fun r102 => ?_)
                exact r_iret (pc := 105) C rfl rfl dX4_copy_105
          · refine r_aload_n (pc := 71) C 2 dX4_copy_71 rfl rfl ?_
            refine r_iconst (pc := 72) C dX4_copy_72 (ci_2) ?_
            refine r_callV0 (pc := 73) (rest := []) C (m_X4_faulted (xl X) (xD X) cI cS q qb qs qS qC tr fa fr rb rl ra wl WS BI BA SI SA LN SZ CE (2 : Int32)) mv_X4_57 rfl rfl rfl ⟨Nat.zero_le _, Nat.zero_le _⟩ rfl rfl (Nat.le_of_ble_eq_true rfl) dX4_copy_73 (fun r73 => ?_)
            exact r_iret (pc := 76) C rfl rfl dX4_copy_76
        · refine r_aload_n (pc := 52) C 2 dX4_copy_52 rfl rfl ?_
          refine r_iconst (pc := 53) C dX4_copy_53 (ci_1) ?_
          refine r_callV0 (pc := 54) (rest := []) C (m_X4_faulted (xl X) (xD X) cI cS q qb qs qS qC tr fa fr rb rl ra wl WS BI BA SI SA LN SZ CE (1 : Int32)) mv_X4_57 rfl rfl rfl ⟨Nat.zero_le _, Nat.zero_le _⟩ rfl rfl (Nat.le_of_ble_eq_true rfl) dX4_copy_54 (fun r54 => ?_)
          exact r_iret (pc := 57) C rfl rfl dX4_copy_57
    · refine r_aload_n (pc := 14) C 0 dX4_copy_14 rfl rfl ?_
      refine r_iconst (pc := 15) C dX4_copy_15 (ci_m1) ?_
      refine r_callV0 (pc := 16) (rest := []) C (m_X4_refused (xl X) (xD X) cI cS q qb qs qS qC tr fa fr rb rl ra wl WS BI BA SI SA LN SZ CE (-1 : Int32)) mv_X4_46 rfl rfl rfl ⟨Nat.zero_le _, Nat.zero_le _⟩ rfl rfl (Nat.le_of_ble_eq_true rfl) dX4_copy_16 (fun r16 => ?_)
      exact r_iret (pc := 19) C rfl rfl dX4_copy_19)
set_option maxHeartbeats 4000000 in
set_option maxRecDepth 100000 in
theorem m_X4_leave (l : Launch) (D : va_G) (cI cS : ClassId) (q : Nat → Nat) (qb : Nat → Nat) (qs : Nat → Nat) (qS : Nat → Nat) (qC : Nat → Nat) (tr : Int32) (fa : Int32) (fr : Option Nat) (rb : Int32) (rl : Int32) (ra : Int32) (wl : Int32) (WS : Nat → Int32) (BI : Nat → Int32) (BA : Nat → Nat → Int32) (SI : Nat → Int32) (SA : Nat → Nat → Int32) (LN : Nat → Int32) (SZ : Nat → Int32) (CE : Nat → Nat → Int32) (a1 : Int32) : MX l D (tyz cI cS) yX4_leave cX4_leave 2 none (rmz 0 0) [.ref (q 0), .int a1] (wdX cI cS q qb qs qS qC (qb 0) (qs 0) tr fa fr rb rl ra wl WS BI BA SI SA LN SZ CE) (f_X4_leave tr a1) (fun o : (Int32) => none) (fun o : (Int32) => wdX cI cS q qb qs qS qC (qb 0) (qs 0) o fa fr rb rl ra wl WS BI BA SI SA LN SZ CE) := met_of (own := RX4) (by decide) rfl (Nat.le_of_ble_eq_true rfl) (fun X hxl hxD C => by
  subst hxl
  subst hxD
  show JR X _ _ 0 0 (f_X4_leave tr a1) (wdX cI cS q qb qs qS qC (qb 0) (qs 0) tr fa fr rb rl ra wl WS BI BA SI SA LN SZ CE) [(0, .ref (q 0)), (1, .int a1)] 0 []
  unfold f_X4_leave
  refine r_aload_n (pc := 0) C 0 dX4_leave_0 rfl rfl ?_
  refine r_bipush (pc := 1) C dX4_leave_1 (cb_31) ?_
  refine r_aload_n (pc := 3) C 0 dX4_leave_3 rfl rfl ?_
  refine gf_X4_249 (pc := 4) C 0 rfl rfl dX4_leave_4 ?_
  refine r_imul (pc := 7) C dX4_leave_7 ?_
  refine r_iload_n (pc := 8) C 1 dX4_leave_8 rfl rfl ?_
  refine r_iadd (pc := 9) C dX4_leave_9 ?_
  refine pf_X4_249 (pc := 10) (ws' := wdX cI cS q qb qs qS qC (qb 0) (qs 0) (((31 : Int32) * tr) + a1) fa fr rb rl ra wl WS BI BA SI SA LN SZ CE) C 0 rfl rfl dX4_leave_10 rfl ?_
  exact r_vret (pc := 13) C rfl rfl dX4_leave_13)
set_option maxHeartbeats 4000000 in
set_option maxRecDepth 100000 in
theorem m_X4_silenceTells (l : Launch) (D : va_G) (cI cS : ClassId) (q : Nat → Nat) (qb : Nat → Nat) (qs : Nat → Nat) (qS : Nat → Nat) (qC : Nat → Nat) (tr : Int32) (fa : Int32) (fr : Option Nat) (rb : Int32) (rl : Int32) (ra : Int32) (wl : Int32) (WS : Nat → Int32) (BI : Nat → Int32) (BA : Nat → Nat → Int32) (SI : Nat → Int32) (SA : Nat → Nat → Int32) (LN : Nat → Int32) (SZ : Nat → Int32) (CE : Nat → Nat → Int32) (a1 : Int32) : MX l D (tyz cI cS) yX4_silenceTells cX4_silenceTells 2 (some .int) (rmz 1 21) [.ref (q 0), .int a1] (wdX cI cS q qb qs qS qC (qb 0) (qs 0) tr fa fr rb rl ra wl WS BI BA SI SA LN SZ CE) (f_X4_silenceTells tr a1) (fun o : Int32 × (Int32) => some (.int o.1)) (fun o : Int32 × (Int32) => wdX cI cS q qb qs qS qC (qb 0) (qs 0) o.2 fa fr rb rl ra wl WS BI BA SI SA LN SZ CE) := met_of (own := RX4) (by decide) rfl (Nat.le_of_ble_eq_true rfl) (fun X hxl hxD C => by
  subst hxl
  subst hxD
  show JR X _ _ 0 0 (f_X4_silenceTells tr a1) (wdX cI cS q qb qs qS qC (qb 0) (qs 0) tr fa fr rb rl ra wl WS BI BA SI SA LN SZ CE) [(0, .ref (q 0)), (1, .int a1)] 0 []
  unfold f_X4_silenceTells
  refine r_aload_n (pc := 0) C 0 dX4_silenceTells_0 rfl rfl ?_
  refine r_iconst (pc := 1) C dX4_silenceTells_1 (ci_1) ?_
  refine r_callV0 (pc := 2) (rest := []) C (m_X4_leave (xl X) (xD X) cI cS q qb qs qS qC tr fa fr rb rl ra wl WS BI BA SI SA LN SZ CE (1 : Int32)) mv_X4_246 rfl rfl rfl ⟨Nat.zero_le _, Nat.zero_le _⟩ rfl rfl (Nat.le_of_ble_eq_true rfl) dX4_silenceTells_2 (fun r2 => ?_)
  refine r_iload_n (pc := 5) C 1 dX4_silenceTells_5 rfl rfl ?_
  exact r_iret (pc := 6) C rfl rfl dX4_silenceTells_6)
set_option maxHeartbeats 4000000 in
set_option maxRecDepth 100000 in
theorem m_X4_keptTells (l : Launch) (D : va_G) (cI cS : ClassId) (q : Nat → Nat) (qb : Nat → Nat) (qs : Nat → Nat) (qS : Nat → Nat) (qC : Nat → Nat) (tr : Int32) (fa : Int32) (fr : Option Nat) (rb : Int32) (rl : Int32) (ra : Int32) (wl : Int32) (WS : Nat → Int32) (BI : Nat → Int32) (BA : Nat → Nat → Int32) (SI : Nat → Int32) (SA : Nat → Nat → Int32) (LN : Nat → Int32) (SZ : Nat → Int32) (CE : Nat → Nat → Int32) (a1 : Int32) : MX l D (tyz cI cS) yX4_keptTells cX4_keptTells 2 (some .int) (rmz 2 42) [.ref (q 0), .int a1] (wdX cI cS q qb qs qS qC (qb 0) (qs 0) tr fa fr rb rl ra wl WS BI BA SI SA LN SZ CE) (f_X4_keptTells tr a1) (fun o : Int32 × (Int32) => some (.int o.1)) (fun o : Int32 × (Int32) => wdX cI cS q qb qs qS qC (qb 0) (qs 0) o.2 fa fr rb rl ra wl WS BI BA SI SA LN SZ CE) := met_of (own := RX4) (by decide) rfl (Nat.le_of_ble_eq_true rfl) (fun X hxl hxD C => by
  subst hxl
  subst hxD
  show JR X _ _ 0 0 (f_X4_keptTells tr a1) (wdX cI cS q qb qs qS qC (qb 0) (qs 0) tr fa fr rb rl ra wl WS BI BA SI SA LN SZ CE) [(0, .ref (q 0)), (1, .int a1)] 0 []
  unfold f_X4_keptTells
  refine r_aload_n (pc := 0) C 0 dX4_keptTells_0 rfl rfl ?_
  refine r_iconst (pc := 1) C dX4_keptTells_1 (ci_2) ?_
  refine r_callV0 (pc := 2) (rest := []) C (m_X4_leave (xl X) (xD X) cI cS q qb qs qS qC tr fa fr rb rl ra wl WS BI BA SI SA LN SZ CE (2 : Int32)) mv_X4_246 rfl rfl rfl ⟨Nat.zero_le _, Nat.zero_le _⟩ rfl rfl (Nat.le_of_ble_eq_true rfl) dX4_keptTells_2 (fun r2 => ?_)
  refine r_aload_n (pc := 5) C 0 dX4_keptTells_5 rfl rfl ?_
  refine r_iload_n (pc := 6) C 1 dX4_keptTells_6 rfl rfl ?_
  refine r_callV0 (pc := 7) (rest := []) C (m_X4_silenceTells (xl X) (xD X) cI cS q qb qs qS qC r2 fa fr rb rl ra wl WS BI BA SI SA LN SZ CE a1) mv_X4_243 rfl rfl rfl ⟨Nat.zero_le _, Nat.zero_le _⟩ rfl rfl (Nat.le_of_ble_eq_true rfl) dX4_keptTells_7 (fun r7 => ?_)
  refine r_bipush (pc := 10) C dX4_keptTells_10 (cb_100) ?_
  refine r_iadd (pc := 12) C dX4_keptTells_12 ?_
  exact r_iret (pc := 13) C rfl rfl dX4_keptTells_13)
set_option maxHeartbeats 4000000 in
set_option maxRecDepth 100000 in
theorem m_X4_heldTells (l : Launch) (D : va_G) (cI cS : ClassId) (q : Nat → Nat) (qb : Nat → Nat) (qs : Nat → Nat) (qS : Nat → Nat) (qC : Nat → Nat) (tr : Int32) (fa : Int32) (fr : Option Nat) (rb : Int32) (rl : Int32) (ra : Int32) (wl : Int32) (WS : Nat → Int32) (BI : Nat → Int32) (BA : Nat → Nat → Int32) (SI : Nat → Int32) (SA : Nat → Nat → Int32) (LN : Nat → Int32) (SZ : Nat → Int32) (CE : Nat → Nat → Int32) (a1 : Int32) : MX l D (tyz cI cS) yX4_heldTells cX4_heldTells 3 (some .int) (rmz 3 63) [.ref (q 0), .int a1] (wdX cI cS q qb qs qS qC (qb 0) (qs 0) tr fa fr rb rl ra wl WS BI BA SI SA LN SZ CE) (f_X4_heldTells tr a1) (fun o : Int32 × (Int32) => some (.int o.1)) (fun o : Int32 × (Int32) => wdX cI cS q qb qs qS qC (qb 0) (qs 0) o.2 fa fr rb rl ra wl WS BI BA SI SA LN SZ CE) := met_of (own := RX4) (by decide) rfl (Nat.le_of_ble_eq_true rfl) (fun X hxl hxD C => by
  subst hxl
  subst hxD
  show JR X _ _ 0 0 (f_X4_heldTells tr a1) (wdX cI cS q qb qs qS qC (qb 0) (qs 0) tr fa fr rb rl ra wl WS BI BA SI SA LN SZ CE) [(0, .ref (q 0)), (1, .int a1)] 0 []
  unfold f_X4_heldTells
  refine r_aload_n (pc := 0) C 0 dX4_heldTells_0 rfl rfl ?_
  refine r_iconst (pc := 1) C dX4_heldTells_1 (ci_3) ?_
  refine r_callV0 (pc := 2) (rest := []) C (m_X4_leave (xl X) (xD X) cI cS q qb qs qS qC tr fa fr rb rl ra wl WS BI BA SI SA LN SZ CE (3 : Int32)) mv_X4_246 rfl rfl rfl ⟨Nat.zero_le _, Nat.zero_le _⟩ rfl rfl (Nat.le_of_ble_eq_true rfl) dX4_heldTells_2 (fun r2 => ?_)
  refine r_aload_n (pc := 5) C 0 dX4_heldTells_5 rfl rfl ?_
  refine r_iload_n (pc := 6) C 1 dX4_heldTells_6 rfl rfl ?_
  refine r_callV0 (pc := 7) (rest := []) C (m_X4_keptTells (xl X) (xD X) cI cS q qb qs qS qC r2 fa fr rb rl ra wl WS BI BA SI SA LN SZ CE a1) mv_X4_240 rfl rfl rfl ⟨Nat.zero_le _, Nat.zero_le _⟩ rfl rfl (Nat.le_of_ble_eq_true rfl) dX4_heldTells_7 (fun r7 => ?_)
  refine r_istore_n (pc := 10) C dX4_heldTells_10 rfl (by decide) (lv' := [(2, .int r7.1), (0, .ref (q 0)), (1, .int a1)]) rfl ?_
  refine r_iload_n (pc := 11) C 0 dX4_heldTells_11 rfl rfl ?_
  refine r_aload_n (pc := 12) C 1 dX4_heldTells_12 rfl rfl ?_
  refine r_iload_n (pc := 13) C 2 dX4_heldTells_13 rfl rfl ?_
  refine r_callV0 (pc := 14) (rest := [.int r7.1]) C (m_X4_silenceTells (xl X) (xD X) cI cS q qb qs qS qC r7.2 fa fr rb rl ra wl WS BI BA SI SA LN SZ CE a1) mv_X4_243 rfl rfl rfl ⟨Nat.zero_le _, Nat.zero_le _⟩ rfl rfl (Nat.le_of_ble_eq_true rfl) dX4_heldTells_14 (fun r14 => ?_)
  refine r_iadd (pc := 17) C dX4_heldTells_17 ?_
  exact r_iret (pc := 18) C rfl rfl dX4_heldTells_18)
set_option maxHeartbeats 4000000 in
set_option maxRecDepth 100000 in
theorem m_X4_tell (l : Launch) (D : va_G) (cI cS : ClassId) (q : Nat → Nat) (qb : Nat → Nat) (qs : Nat → Nat) (qS : Nat → Nat) (qC : Nat → Nat) (tr : Int32) (fa : Int32) (fr : Option Nat) (rb : Int32) (rl : Int32) (ra : Int32) (wl : Int32) (WS : Nat → Int32) (BI : Nat → Int32) (BA : Nat → Nat → Int32) (SI : Nat → Int32) (SA : Nat → Nat → Int32) (LN : Nat → Int32) (SZ : Nat → Int32) (CE : Nat → Nat → Int32) (a1 : Int32) : MX l D (tyz cI cS) yX4_tell cX4_tell 3 (some .int) (rmz 4 85) [.ref (q 0), .int a1] (wdX cI cS q qb qs qS qC (qb 0) (qs 0) tr fa fr rb rl ra wl WS BI BA SI SA LN SZ CE) (f_X4_tell tr BI BA a1) (fun o : Int32 × (Int32) => some (.int o.1)) (fun o : Int32 × (Int32) => wdX cI cS q qb qs qS qC (qb 0) (qs 0) o.2 fa fr rb rl ra wl WS BI BA SI SA LN SZ CE) := met_of (own := RX4) (by decide) rfl (Nat.le_of_ble_eq_true rfl) (fun X hxl hxD C => by
  subst hxl
  subst hxD
  show JR X _ _ 0 0 (f_X4_tell tr BI BA a1) (wdX cI cS q qb qs qS qC (qb 0) (qs 0) tr fa fr rb rl ra wl WS BI BA SI SA LN SZ CE) [(0, .ref (q 0)), (1, .int a1)] 0 []
  unfold f_X4_tell
  refine r_aload_n (pc := 0) C 0 dX4_tell_0 rfl rfl ?_
  refine gf_X4_35 (pc := 1) C 0 rfl rfl dX4_tell_1 ?_
  refine r_iload_n (pc := 4) C 1 dX4_tell_4 rfl rfl ?_
  refine r_callVr (pc := 5) (rest := []) C [5, 6, 7, 8, 9, 10, 11, 12, 13, 14] (m_X0_hasSilence (xl X) (xD X) cI cS qb BI BA a1) mv_X4_86 rfl rfl rfl rfl rfl ⟨Nat.zero_le _, Nat.zero_le _⟩ rfl rfl (Nat.le_of_ble_eq_true rfl) dX4_tell_5 (fun r5 => ?_)
  refine r_if_ne (pc := 8) (tgt := 13) C dX4_tell_8 (by decide) ?_ ?_
  · refine r_aload_n (pc := 13) C 0 dX4_tell_13 rfl rfl ?_
    refine gf_X4_35 (pc := 14) C 0 rfl rfl dX4_tell_14 ?_
    refine gf_X4_92 (pc := 17) C 5 rfl rfl dX4_tell_17 ?_
    refine r_iload_n (pc := 20) C 1 dX4_tell_20 rfl rfl ?_
    refine r_iald (pc := 21) C 9 rfl dX4_tell_21 ?_
    refine r_istore_n (pc := 22) C dX4_tell_22 rfl (by decide) (lv' := [(2, .int (BA 5 a1.toNatClampNeg)), (0, .ref (q 0)), (1, .int a1)]) rfl ?_
    refine r_aload_n (pc := 23) C 1 dX4_tell_23 rfl rfl ?_
    refine gf_X4_35 (pc := 24) C 0 rfl rfl dX4_tell_24 ?_
    refine gf_X4_89 (pc := 27) C 5 rfl rfl dX4_tell_27 ?_
    refine r_iload_n (pc := 30) C 2 dX4_tell_30 rfl rfl ?_
    refine r_iald (pc := 31) C 8 rfl dX4_tell_31 ?_
    refine r_lk2 (pc := 32) (t1 := 66) (t2 := 60) (t3 := 72) (z1 := 1) (z2 := 2) C dX4_tell_32 rfl rfl (by decide) (by decide) (by decide) (by decide) ?_ ?_ ?_
    · refine r_aload_n (pc := 66) C 1 dX4_tell_66 rfl rfl ?_
      refine r_iload_n (pc := 67) C 0 dX4_tell_67 rfl rfl ?_
      refine r_callV0 (pc := 68) (rest := []) C (m_X4_keptTells (xl X) (xD X) cI cS q qb qs qS qC tr fa fr rb rl ra wl WS BI BA SI SA LN SZ CE (BA 5 a1.toNatClampNeg)) mv_X4_240 rfl rfl rfl ⟨Nat.zero_le _, Nat.zero_le _⟩ rfl rfl (Nat.le_of_ble_eq_true rfl) dX4_tell_68 (fun r68 => ?_)
      exact r_iret (pc := 71) C rfl rfl dX4_tell_71
    · refine r_aload_n (pc := 60) C 1 dX4_tell_60 rfl rfl ?_
      refine r_iload_n (pc := 61) C 0 dX4_tell_61 rfl rfl ?_
      refine r_callV0 (pc := 62) (rest := []) C (m_X4_heldTells (xl X) (xD X) cI cS q qb qs qS qC tr fa fr rb rl ra wl WS BI BA SI SA LN SZ CE (BA 5 a1.toNatClampNeg)) mv_X4_237 rfl rfl rfl ⟨Nat.zero_le _, Nat.zero_le _⟩ rfl rfl (Nat.le_of_ble_eq_true rfl) dX4_tell_62 (fun r62 => ?_)
      exact r_iret (pc := 65) C rfl rfl dX4_tell_65
    · refine r_aload_n (pc := 72) C 1 dX4_tell_72 rfl rfl ?_
      refine r_iload_n (pc := 73) C 0 dX4_tell_73 rfl rfl ?_
      refine r_callV0 (pc := 74) (rest := []) C (m_X4_silenceTells (xl X) (xD X) cI cS q qb qs qS qC tr fa fr rb rl ra wl WS BI BA SI SA LN SZ CE (BA 5 a1.toNatClampNeg)) mv_X4_243 rfl rfl rfl ⟨Nat.zero_le _, Nat.zero_le _⟩ rfl rfl (Nat.le_of_ble_eq_true rfl) dX4_tell_74 (fun r74 => ?_)
      exact r_iret (pc := 77) C rfl rfl dX4_tell_77
  · refine r_iconst (pc := 11) C dX4_tell_11 (ci_m1) ?_
    exact r_iret (pc := 12) C rfl rfl dX4_tell_12)
set_option maxHeartbeats 4000000 in
set_option maxRecDepth 100000 in
theorem m_X4_hush (l : Launch) (D : va_G) (cI cS : ClassId) (q : Nat → Nat) (qb : Nat → Nat) (qs : Nat → Nat) (qS : Nat → Nat) (qC : Nat → Nat) (tr : Int32) (fa : Int32) (fr : Option Nat) (rb : Int32) (rl : Int32) (ra : Int32) (wl : Int32) (WS : Nat → Int32) (BI : Nat → Int32) (BA : Nat → Nat → Int32) (SI : Nat → Int32) (SA : Nat → Nat → Int32) (LN : Nat → Int32) (SZ : Nat → Int32) (CE : Nat → Nat → Int32) (a1 : Int32) : MX l D (tyz cI cS) yX4_hush cX4_hush 2 (some .int) (rmz 1 21) [.ref (q 0), .int a1] (wdX cI cS q qb qs qS qC (qb 0) (qs 0) tr fa fr rb rl ra wl WS BI BA SI SA LN SZ CE) (f_X4_hush tr BI BA a1) (fun o : Int32 × (Int32) => some (.int o.1)) (fun o : Int32 × (Int32) => wdX cI cS q qb qs qS qC (qb 0) (qs 0) o.2 fa fr rb rl ra wl WS BI BA SI SA LN SZ CE) := met_of (own := RX4) (by decide) rfl (Nat.le_of_ble_eq_true rfl) (fun X hxl hxD C => by
  subst hxl
  subst hxD
  show JR X _ _ 0 0 (f_X4_hush tr BI BA a1) (wdX cI cS q qb qs qS qC (qb 0) (qs 0) tr fa fr rb rl ra wl WS BI BA SI SA LN SZ CE) [(0, .ref (q 0)), (1, .int a1)] 0 []
  unfold f_X4_hush
  refine r_aload_n (pc := 0) C 0 dX4_hush_0 rfl rfl ?_
  refine gf_X4_35 (pc := 1) C 0 rfl rfl dX4_hush_1 ?_
  refine r_iload_n (pc := 4) C 1 dX4_hush_4 rfl rfl ?_
  refine r_callVr (pc := 5) (rest := []) C [5, 6, 7, 8, 9, 10, 11, 12, 13, 14] (m_X0_hasSilence (xl X) (xD X) cI cS qb BI BA a1) mv_X4_86 rfl rfl rfl rfl rfl ⟨Nat.zero_le _, Nat.zero_le _⟩ rfl rfl (Nat.le_of_ble_eq_true rfl) dX4_hush_5 (fun r5 => ?_)
  refine r_if_ne (pc := 8) (tgt := 13) C dX4_hush_8 (by decide) ?_ ?_
  · refine r_aload_n (pc := 13) C 0 dX4_hush_13 rfl rfl ?_
    refine gf_X4_35 (pc := 14) C 0 rfl rfl dX4_hush_14 ?_
    refine gf_X4_89 (pc := 17) C 5 rfl rfl dX4_hush_17 ?_
    refine r_iload_n (pc := 20) C 1 dX4_hush_20 rfl rfl ?_
    refine r_iald (pc := 21) C 8 rfl dX4_hush_21 ?_
    refine r_iconst (pc := 22) C dX4_hush_22 (ci_2) ?_
    refine r_icmp_ne (pc := 23) (tgt := 34) C dX4_hush_23 (by decide) ?_ ?_
    · refine r_aload_n (pc := 34) C 0 dX4_hush_34 rfl rfl ?_
      refine r_iconst (pc := 35) C dX4_hush_35 (ci_4) ?_
      refine r_callV0 (pc := 36) (rest := []) C (m_X4_leave (xl X) (xD X) cI cS q qb qs qS qC tr fa fr rb rl ra wl WS BI BA SI SA LN SZ CE (4 : Int32)) mv_X4_246 rfl rfl rfl ⟨Nat.zero_le _, Nat.zero_le _⟩ rfl rfl (Nat.le_of_ble_eq_true rfl) dX4_hush_36 (fun r36 => ?_)
      refine r_iload_n (pc := 39) C 1 dX4_hush_39 rfl rfl ?_
      exact r_iret (pc := 40) C rfl rfl dX4_hush_40
    · refine r_aload_n (pc := 26) C 0 dX4_hush_26 rfl rfl ?_
      refine r_iconst (pc := 27) C dX4_hush_27 (ci_5) ?_
      refine r_callV0 (pc := 28) (rest := []) C (m_X4_leave (xl X) (xD X) cI cS q qb qs qS qC tr fa fr rb rl ra wl WS BI BA SI SA LN SZ CE (5 : Int32)) mv_X4_246 rfl rfl rfl ⟨Nat.zero_le _, Nat.zero_le _⟩ rfl rfl (Nat.le_of_ble_eq_true rfl) dX4_hush_28 (fun r28 => ?_)
      refine r_bipush (pc := 31) C dX4_hush_31 (cb_80) ?_
      exact r_iret (pc := 33) C rfl rfl dX4_hush_33
  · refine r_iconst (pc := 11) C dX4_hush_11 (ci_m1) ?_
    exact r_iret (pc := 12) C rfl rfl dX4_hush_12)
set_option maxHeartbeats 4000000 in
set_option maxRecDepth 100000 in
theorem m_X4_as (l : Launch) (D : va_G) (cI cS : ClassId) (q : Nat → Nat) (qb : Nat → Nat) (qs : Nat → Nat) (qS : Nat → Nat) (qC : Nat → Nat) (tr : Int32) (fa : Int32) (fr : Option Nat) (rb : Int32) (rl : Int32) (ra : Int32) (wl : Int32) (WS : Nat → Int32) (BI : Nat → Int32) (BA : Nat → Nat → Int32) (SI : Nat → Int32) (SA : Nat → Nat → Int32) (LN : Nat → Int32) (SZ : Nat → Int32) (CE : Nat → Nat → Int32) (a1 : Int32) (a2 : Int32) : MX l D (tyz cI cS) yX4_as cX4_as 3 (some .int) (rmz 1 22) [.ref (q 0), .int a1, .int a2] (wdX cI cS q qb qs qS qC (qb 0) (qs 0) tr fa fr rb rl ra wl WS BI BA SI SA LN SZ CE) (f_X4_as BI BA a1 a2) (fun o : Int32 × (Int32) => some (.int o.1)) (fun o : Int32 × (Int32) => wdX cI cS q qb qs qS qC (qb 0) (qs 0) tr o.2 fr rb rl ra wl WS BI BA SI SA LN SZ CE) := met_of (own := RX4) (by decide) rfl (Nat.le_of_ble_eq_true rfl) (fun X hxl hxD C => by
  subst hxl
  subst hxD
  show JR X _ _ 0 0 (f_X4_as BI BA a1 a2) (wdX cI cS q qb qs qS qC (qb 0) (qs 0) tr fa fr rb rl ra wl WS BI BA SI SA LN SZ CE) [(0, .ref (q 0)), (1, .int a1), (2, .int a2)] 0 []
  unfold f_X4_as
  refine r_aload_n (pc := 0) C 0 dX4_as_0 rfl rfl ?_
  refine gf_X4_35 (pc := 1) C 0 rfl rfl dX4_as_1 ?_
  refine r_iload_n (pc := 4) C 1 dX4_as_4 rfl rfl ?_
  refine r_callVr (pc := 5) (rest := []) C [5, 6, 7, 8, 9, 10, 11, 12, 13, 14] (m_X0_hasSilence (xl X) (xD X) cI cS qb BI BA a1) mv_X4_86 rfl rfl rfl rfl rfl ⟨Nat.zero_le _, Nat.zero_le _⟩ rfl rfl (Nat.le_of_ble_eq_true rfl) dX4_as_5 (fun r5 => ?_)
  refine r_if_ne (pc := 8) (tgt := 17) C dX4_as_8 (by decide) ?_ ?_
  · refine r_iload_n (pc := 17) C 2 dX4_as_17 rfl rfl ?_
    refine r_iconst (pc := 18) C dX4_as_18 (ci_0) ?_
    refine r_iconst (pc := 19) C dX4_as_19 (ci_2) ?_
    refine r_callSr (pc := 20) (rest := []) C (m_X4_isWithin (xl X) (xD X) cI cS a2 (0 : Int32) (2 : Int32)) ms_X4_113 rfl ⟨Nat.zero_le _, Nat.zero_le _⟩ rfl rfl (Nat.le_of_ble_eq_true rfl) dX4_as_20 (fun r20 => ?_)
    refine r_if_ne (pc := 23) (tgt := 33) C dX4_as_23 (by decide) ?_ ?_
    · refine r_aload_n (pc := 33) C 0 dX4_as_33 rfl rfl ?_
      refine gf_X4_35 (pc := 34) C 0 rfl rfl dX4_as_34 ?_
      refine gf_X4_89 (pc := 37) C 5 rfl rfl dX4_as_37 ?_
      refine r_iload_n (pc := 40) C 1 dX4_as_40 rfl rfl ?_
      refine r_iald (pc := 41) C 8 rfl dX4_as_41 ?_
      refine r_iload_n (pc := 42) C 2 dX4_as_42 rfl rfl ?_
      refine r_icmp_ge (pc := 43) (tgt := 52) C dX4_as_43 (by decide) ?_ ?_
      · refine r_aload_n (pc := 52) C 0 dX4_as_52 rfl rfl ?_
        refine r_iconst (pc := 53) C dX4_as_53 (ci_0) ?_
        refine pf_X4_60 (pc := 54) (ws' := wdX cI cS q qb qs qS qC (qb 0) (qs 0) tr (0 : Int32) fr rb rl ra wl WS BI BA SI SA LN SZ CE) C 0 rfl rfl dX4_as_54 rfl ?_
        refine r_iconst (pc := 57) C dX4_as_57 (ci_1) ?_
        exact r_iret (pc := 58) C rfl rfl dX4_as_58
      · refine r_aload_n (pc := 46) C 0 dX4_as_46 rfl rfl ?_
        refine r_iconst (pc := 47) C dX4_as_47 (ci_2) ?_
        refine r_callV0 (pc := 48) (rest := []) C (m_X4_faulted (xl X) (xD X) cI cS q qb qs qS qC tr fa fr rb rl ra wl WS BI BA SI SA LN SZ CE (2 : Int32)) mv_X4_57 rfl rfl rfl ⟨Nat.zero_le _, Nat.zero_le _⟩ rfl rfl (Nat.le_of_ble_eq_true rfl) dX4_as_48 (fun r48 => ?_)
        exact r_iret (pc := 51) C rfl rfl dX4_as_51
    · refine r_aload_n (pc := 26) C 0 dX4_as_26 rfl rfl ?_
      refine r_bipush (pc := 27) C dX4_as_27 (cb_m2) ?_
      refine r_callV0 (pc := 29) (rest := []) C (m_X4_refused (xl X) (xD X) cI cS q qb qs qS qC tr fa fr rb rl ra wl WS BI BA SI SA LN SZ CE (-2 : Int32)) mv_X4_46 rfl rfl rfl ⟨Nat.zero_le _, Nat.zero_le _⟩ rfl rfl (Nat.le_of_ble_eq_true rfl) dX4_as_29 (fun r29 => ?_)
      exact r_iret (pc := 32) C rfl rfl dX4_as_32
  · refine r_aload_n (pc := 11) C 0 dX4_as_11 rfl rfl ?_
    refine r_iconst (pc := 12) C dX4_as_12 (ci_m1) ?_
    refine r_callV0 (pc := 13) (rest := []) C (m_X4_refused (xl X) (xD X) cI cS q qb qs qS qC tr fa fr rb rl ra wl WS BI BA SI SA LN SZ CE (-1 : Int32)) mv_X4_46 rfl rfl rfl ⟨Nat.zero_le _, Nat.zero_le _⟩ rfl rfl (Nat.le_of_ble_eq_true rfl) dX4_as_13 (fun r13 => ?_)
    exact r_iret (pc := 16) C rfl rfl dX4_as_16)
set_option maxHeartbeats 4000000 in
set_option maxRecDepth 100000 in
theorem m_X4_trace (l : Launch) (D : va_G) (cI cS : ClassId) (q : Nat → Nat) (qb : Nat → Nat) (qs : Nat → Nat) (qS : Nat → Nat) (qC : Nat → Nat) (tr : Int32) (fa : Int32) (fr : Option Nat) (rb : Int32) (rl : Int32) (ra : Int32) (wl : Int32) (WS : Nat → Int32) (BI : Nat → Int32) (BA : Nat → Nat → Int32) (SI : Nat → Int32) (SA : Nat → Nat → Int32) (LN : Nat → Int32) (SZ : Nat → Int32) (CE : Nat → Nat → Int32) : MX l D (tyz cI cS) yX4_trace cX4_trace 1 (some .int) (rmz 0 0) [.ref (q 0)] (wdX cI cS q qb qs qS qC (qb 0) (qs 0) tr fa fr rb rl ra wl WS BI BA SI SA LN SZ CE) (f_X4_trace tr) (fun o : Int32 => some (.int o)) (fun o : Int32 => wdX cI cS q qb qs qS qC (qb 0) (qs 0) tr fa fr rb rl ra wl WS BI BA SI SA LN SZ CE) := met_of (own := RX4) (by decide) rfl (Nat.le_of_ble_eq_true rfl) (fun X hxl hxD C => by
  subst hxl
  subst hxD
  show JR X _ _ 0 0 (f_X4_trace tr) (wdX cI cS q qb qs qS qC (qb 0) (qs 0) tr fa fr rb rl ra wl WS BI BA SI SA LN SZ CE) [(0, .ref (q 0))] 0 []
  unfold f_X4_trace
  refine r_aload_n (pc := 0) C 0 dX4_trace_0 rfl rfl ?_
  refine gf_X4_249 (pc := 1) C 0 rfl rfl dX4_trace_1 ?_
  exact r_iret (pc := 4) C rfl rfl dX4_trace_4)
set_option maxHeartbeats 4000000 in
set_option maxRecDepth 100000 in
theorem m_X4_fault (l : Launch) (D : va_G) (cI cS : ClassId) (q : Nat → Nat) (qb : Nat → Nat) (qs : Nat → Nat) (qS : Nat → Nat) (qC : Nat → Nat) (tr : Int32) (fa : Int32) (fr : Option Nat) (rb : Int32) (rl : Int32) (ra : Int32) (wl : Int32) (WS : Nat → Int32) (BI : Nat → Int32) (BA : Nat → Nat → Int32) (SI : Nat → Int32) (SA : Nat → Nat → Int32) (LN : Nat → Int32) (SZ : Nat → Int32) (CE : Nat → Nat → Int32) : MX l D (tyz cI cS) yX4_fault cX4_fault 1 (some .int) (rmz 0 0) [.ref (q 0)] (wdX cI cS q qb qs qS qC (qb 0) (qs 0) tr fa fr rb rl ra wl WS BI BA SI SA LN SZ CE) (f_X4_fault fa) (fun o : Int32 => some (.int o)) (fun o : Int32 => wdX cI cS q qb qs qS qC (qb 0) (qs 0) tr fa fr rb rl ra wl WS BI BA SI SA LN SZ CE) := met_of (own := RX4) (by decide) rfl (Nat.le_of_ble_eq_true rfl) (fun X hxl hxD C => by
  subst hxl
  subst hxD
  show JR X _ _ 0 0 (f_X4_fault fa) (wdX cI cS q qb qs qS qC (qb 0) (qs 0) tr fa fr rb rl ra wl WS BI BA SI SA LN SZ CE) [(0, .ref (q 0))] 0 []
  unfold f_X4_fault
  refine r_aload_n (pc := 0) C 0 dX4_fault_0 rfl rfl ?_
  refine gf_X4_60 (pc := 1) C 0 rfl rfl dX4_fault_1 ?_
  exact r_iret (pc := 4) C rfl rfl dX4_fault_4)
set_option maxHeartbeats 4000000 in
set_option maxRecDepth 100000 in
theorem m_X4_many (l : Launch) (D : va_G) (cI cS : ClassId) (q : Nat → Nat) (qb : Nat → Nat) (qs : Nat → Nat) (qS : Nat → Nat) (qC : Nat → Nat) (tr : Int32) (fa : Int32) (fr : Option Nat) (rb : Int32) (rl : Int32) (ra : Int32) (wl : Int32) (WS : Nat → Int32) (BI : Nat → Int32) (BA : Nat → Nat → Int32) (SI : Nat → Int32) (SA : Nat → Nat → Int32) (LN : Nat → Int32) (SZ : Nat → Int32) (CE : Nat → Nat → Int32) (a1 : Int32) : MX l D (tyz cI cS) yX4_many cX4_many 2 (some .int) (rmz 0 0) [.ref (q 0), .int a1] (wdX cI cS q qb qs qS qC (qb 0) (qs 0) tr fa fr rb rl ra wl WS BI BA SI SA LN SZ CE) (f_X4_many BI a1) (fun o : Int32 => some (.int o)) (fun o : Int32 => wdX cI cS q qb qs qS qC (qb 0) (qs 0) tr fa fr rb rl ra wl WS BI BA SI SA LN SZ CE) := met_of (own := RX4) (by decide) rfl (Nat.le_of_ble_eq_true rfl) (fun X hxl hxD C => by
  subst hxl
  subst hxD
  show JR X _ _ 0 0 (f_X4_many BI a1) (wdX cI cS q qb qs qS qC (qb 0) (qs 0) tr fa fr rb rl ra wl WS BI BA SI SA LN SZ CE) [(0, .ref (q 0)), (1, .int a1)] 0 []
  unfold f_X4_many
  refine r_iload_n (pc := 0) C 1 dX4_many_0 rfl rfl ?_
  refine r_ite (fun h1_0 => ?_) (fun h1_0 => ?_)
  · refine r_tabIn (pc := 1) (tgt := 36) C h1_0 dX4_many_1 (by decide) (by decide) rfl (by decide) ?_
    refine r_aload_n (pc := 36) C 0 dX4_many_36 rfl rfl ?_
    refine gf_X4_35 (pc := 37) C 0 rfl rfl dX4_many_37 ?_
    refine gf_X4_72 (pc := 40) C 5 rfl rfl dX4_many_40 ?_
    exact r_iret (pc := 43) C rfl rfl dX4_many_43
  refine r_ite (fun h1_1 => ?_) (fun h1_1 => ?_)
  · refine r_tabIn (pc := 1) (tgt := 44) C h1_1 dX4_many_1 (by decide) (by decide) rfl (by decide) ?_
    refine r_aload_n (pc := 44) C 0 dX4_many_44 rfl rfl ?_
    refine gf_X4_35 (pc := 45) C 0 rfl rfl dX4_many_45 ?_
    refine gf_X4_179 (pc := 48) C 5 rfl rfl dX4_many_48 ?_
    exact r_iret (pc := 51) C rfl rfl dX4_many_51
  refine r_ite (fun h1_2 => ?_) (fun h1_2 => ?_)
  · refine r_tabIn (pc := 1) (tgt := 52) C h1_2 dX4_many_1 (by decide) (by decide) rfl (by decide) ?_
    refine r_aload_n (pc := 52) C 0 dX4_many_52 rfl rfl ?_
    refine gf_X4_35 (pc := 53) C 0 rfl rfl dX4_many_53 ?_
    refine gf_X4_121 (pc := 56) C 5 rfl rfl dX4_many_56 ?_
    exact r_iret (pc := 59) C rfl rfl dX4_many_59
  refine r_ite (fun h1_3 => ?_) (fun h1_3 => ?_)
  · refine r_tabIn (pc := 1) (tgt := 60) C h1_3 dX4_many_1 (by decide) (by decide) rfl (by decide) ?_
    refine r_aload_n (pc := 60) C 0 dX4_many_60 rfl rfl ?_
    refine gf_X4_35 (pc := 61) C 0 rfl rfl dX4_many_61 ?_
    refine gf_X4_124 (pc := 64) C 5 rfl rfl dX4_many_64 ?_
    exact r_iret (pc := 67) C rfl rfl dX4_many_67
  refine r_ite (fun h1_4 => ?_) (fun h1_4 => ?_)
  · refine r_tabIn (pc := 1) (tgt := 68) C h1_4 dX4_many_1 (by decide) (by decide) rfl (by decide) ?_
    refine r_aload_n (pc := 68) C 0 dX4_many_68 rfl rfl ?_
    refine gf_X4_35 (pc := 69) C 0 rfl rfl dX4_many_69 ?_
    refine gf_X4_192 (pc := 72) C 5 rfl rfl dX4_many_72 ?_
    exact r_iret (pc := 75) C rfl rfl dX4_many_75
  refine r_tabOut (pc := 1) (tgt := 76) (N := 5) C (lt_s (lt_s (lt_s (lt_s (lt_s lt_0 h1_0) h1_1) h1_2) h1_3) h1_4) rfl dX4_many_1 (by decide) ?_
  refine r_bipush (pc := 76) C dX4_many_76 (cb_m2) ?_
  exact r_iret (pc := 78) C rfl rfl dX4_many_78)
