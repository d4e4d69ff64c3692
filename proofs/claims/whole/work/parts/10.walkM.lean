set_option maxHeartbeats 4000000 in
set_option maxRecDepth 100000 in
theorem m_X5_in (l : Launch) (D : va_G) (cI cS : ClassId) (a0 : Int64) (a2 : Int64) (a4 : Int64) : MX l D (tyz cI cS) yX5_in cX5_in 6 (some .boolean) (rmz 0 0) [.long a0, .long a2, .long a4] ([]) (f_X5_in a0 a2 a4) (fun o : Int32 => some (.int o)) (fun o : Int32 => []) := met_of (own := RX5) (by decide) rfl (Nat.le_of_ble_eq_true rfl) (fun X hxl hxD C => by
  subst hxl
  subst hxD
  show JR X _ _ 0 0 (f_X5_in a0 a2 a4) ([]) [(0, .long a0), (2, .long a2), (4, .long a4)] 0 []
  unfold f_X5_in
  refine r_lload_n (pc := 0) C 0 dX5_in_0 rfl rfl ?_
  refine r_lload_n (pc := 1) C 1 dX5_in_1 rfl rfl ?_
  refine r_lcmp (pc := 2) C dX5_in_2 ?_
  refine r_if_lt (pc := 3) (tgt := 17) C dX5_in_3 (by decide) ?_ ?_
  · refine r_iconst (pc := 17) C dX5_in_17 (ci_0) ?_
    exact r_zret (pc := 18) C rfl rfl rfl dX5_in_18
  · refine r_lload_n (pc := 6) C 0 dX5_in_6 rfl rfl ?_
    refine r_lload (pc := 7) C 2 dX5_in_7 rfl ?_
    refine r_lcmp (pc := 9) C dX5_in_9 ?_
    refine r_if_gt (pc := 10) (tgt := 17) C dX5_in_10 (by decide) ?_ ?_
    · refine r_iconst (pc := 17) C dX5_in_17 (ci_0) ?_
      exact r_zret (pc := 18) C rfl rfl rfl dX5_in_18
    · refine r_iconst (pc := 13) C dX5_in_13 (ci_1) ?_
      refine r_goto (pc := 14) (tgt := 18) C dX5_in_14 (by decide) ?_
      exact r_zret (pc := 18) C rfl rfl rfl dX5_in_18)
set_option maxHeartbeats 4000000 in
set_option maxRecDepth 100000 in
theorem m_X5_lost (l : Launch) (D : va_G) (cI cS : ClassId)  : MX l D (tyz cI cS) yX5_lost cX5_lost 0 (some .long) (rmz 0 0) [] ([]) (f_X5_lost ) (fun o : Int64 => some (.long o)) (fun o : Int64 => []) := met_of (own := RX5) (by decide) rfl (Nat.le_of_ble_eq_true rfl) (fun X hxl hxD C => by
  subst hxl
  subst hxD
  show JR X _ _ 0 0 (f_X5_lost ) ([]) [] 0 []
  unfold f_X5_lost
  refine r_ldc2 (pc := 0) C kk_X5_77 dX5_lost_0 ?_
  exact r_lret (pc := 3) C rfl rfl dX5_lost_3)
set_option maxHeartbeats 4000000 in
set_option maxRecDepth 100000 in
theorem m_X5_isIn (l : Launch) (D : va_G) (cI cS : ClassId) (a0 : Int32) (a1 : Int32) : MX l D (tyz cI cS) yX5_isIn cX5_isIn 2 (some .boolean) (rmz 0 0) [.int a0, .int a1] ([]) (f_X5_isIn a0 a1) (fun o : Int32 => some (.int o)) (fun o : Int32 => []) := met_of (own := RX5) (by decide) rfl (Nat.le_of_ble_eq_true rfl) (fun X hxl hxD C => by
  subst hxl
  subst hxD
  show JR X _ _ 0 0 (f_X5_isIn a0 a1) ([]) [(0, .int a0), (1, .int a1)] 0 []
  unfold f_X5_isIn
  refine r_iload_n (pc := 0) C 0 dX5_isIn_0 rfl rfl ?_
  refine r_iload_n (pc := 1) C 1 dX5_isIn_1 rfl rfl ?_
  refine r_ishr (pc := 2) C dX5_isIn_2 ?_
  refine r_iconst (pc := 3) C dX5_isIn_3 (ci_1) ?_
  refine r_iand (pc := 4) C dX5_isIn_4 ?_
  refine r_iconst (pc := 5) C dX5_isIn_5 (ci_1) ?_
  refine r_icmp_ne (pc := 6) (tgt := 13) C dX5_isIn_6 (by decide) ?_ ?_
  · refine r_iconst (pc := 13) C dX5_isIn_13 (ci_0) ?_
    exact r_zret (pc := 14) C rfl rfl rfl dX5_isIn_14
  · refine r_iconst (pc := 9) C dX5_isIn_9 (ci_1) ?_
    refine r_goto (pc := 10) (tgt := 14) C dX5_isIn_10 (by decide) ?_
    exact r_zret (pc := 14) C rfl rfl rfl dX5_isIn_14)
set_option maxHeartbeats 4000000 in
set_option maxRecDepth 100000 in
theorem wl_X5_told_6 {cI cS : ClassId} (X : CX) (C : Cx X RX5 cX5_told 11 (some .long) (rmz 0 0) (tyz cI cS)) (a0 : Int64) (a2 : Int64) (a4 : Int32)  (kk : Int64 → Int64 → Option (Int64)) (hk_6 : ∀ (el5_6 : Int64) (el7_6 : Int64), JR X (QF X (tyz cI cS) 0 0 (fun o : Int64 => some (.long o)) (fun o : Int64 => [])) 11 0 0 (kk el5_6 el7_6) ([]) [(0, .long a0), (2, .long a2), (4, .int a4), (5, .long el5_6)] 31 []) : ∀ (fuel : Nat) (l5_6 : Int64) (l7_6 : Int64), JR X (QF X (tyz cI cS) 0 0 (fun o : Int64 => some (.long o)) (fun o : Int64 => [])) 11 0 0 (lp_X5_told_6 kk fuel l5_6 l7_6) ([]) [(0, .long a0), (2, .long a2), (4, .int a4), (5, .long l5_6), (7, .long l7_6)] 6 [] := by
  intro fuel
  induction fuel with
  | zero => intro l5_6 l7_6; exact r_none
  | succ fu_6 ih_6 =>
    intro l5_6 l7_6
    unfold lp_X5_told_6
    refine r_lload (pc := 6) C 4 dX5_told_6 rfl ?_
    refine r_lconst (pc := 8) (v := 0) C dX5_told_8 rfl ?_
    refine r_lcmp (pc := 9) C dX5_told_9 ?_
    refine r_if_eq (pc := 10) (tgt := 31) C dX5_told_10 (by decide) ?_ ?_
    · exact r_sub [0, 1, 2, 3] rfl (hk_6 l5_6 l7_6)
    · refine r_lload (pc := 13) C 3 dX5_told_13 rfl ?_
      refine r_lload (pc := 15) C 4 dX5_told_15 rfl ?_
      refine r_lrem (pc := 17) C dX5_told_17 ?_
      refine r_lstore (pc := 18) C dX5_told_18 (by decide) (lv' := [(9, .long (l5_6 - l5_6 / l7_6 * l7_6)), (0, .long a0), (2, .long a2), (4, .int a4), (5, .long l5_6), (7, .long l7_6)]) rfl ?_
      refine r_lload (pc := 20) C 5 dX5_told_20 rfl ?_
      refine r_lstore (pc := 22) C dX5_told_22 (by decide) (lv' := [(5, .long l7_6), (9, .long (l5_6 - l5_6 / l7_6 * l7_6)), (0, .long a0), (2, .long a2), (4, .int a4), (7, .long l7_6)]) rfl ?_
      refine r_lload (pc := 24) C 1 dX5_told_24 rfl ?_
      refine r_lstore (pc := 26) C dX5_told_26 (by decide) (lv' := [(7, .long (l5_6 - l5_6 / l7_6 * l7_6)), (5, .long l7_6), (9, .long (l5_6 - l5_6 / l7_6 * l7_6)), (0, .long a0), (2, .long a2), (4, .int a4)]) rfl ?_
      refine r_goto (pc := 28) (tgt := 6) C dX5_told_28 (by decide) ?_
      exact r_sub [3, 4, 5, 1, 0] rfl (ih_6 l7_6 (l5_6 - l5_6 / l7_6 * l7_6))
set_option maxHeartbeats 4000000 in
set_option maxRecDepth 100000 in
theorem m_X5_told (l : Launch) (D : va_G) (cI cS : ClassId) (a0 : Int64) (a2 : Int64) (a4 : Int32) : MX l D (tyz cI cS) yX5_told cX5_told 11 (some .long) (rmz 0 0) [.long a0, .long a2, .int a4] ([]) (f_X5_told a0 a2 a4) (fun o : Int64 => some (.long o)) (fun o : Int64 => []) := met_of (own := RX5) (by decide) rfl (Nat.le_of_ble_eq_true rfl) (fun X hxl hxD C => by
  subst hxl
  subst hxD
  show JR X _ _ 0 0 (f_X5_told a0 a2 a4) ([]) [(0, .long a0), (2, .long a2), (4, .int a4)] 0 []
  unfold f_X5_told
  refine r_lload_n (pc := 0) C 0 dX5_told_0 rfl rfl ?_
  refine r_lstore (pc := 1) C dX5_told_1 (by decide) (lv' := [(5, .long a0), (0, .long a0), (2, .long a2), (4, .int a4)]) rfl ?_
  refine r_lload_n (pc := 3) C 2 dX5_told_3 rfl rfl ?_
  refine r_lstore (pc := 4) C dX5_told_4 (by decide) (lv' := [(7, .long a2), (5, .long a0), (0, .long a0), (2, .long a2), (4, .int a4)]) rfl ?_
  refine r_sub [2, 3, 4, 1, 0] rfl (wl_X5_told_6 X C a0 a2 a4  _ (fun el5_6 el7_6 => ?_) 1000 a0 a2)
  refine r_iload (pc := 31) C 2 dX5_told_31 rfl ?_
  refine r_if_ne (pc := 33) (tgt := 40) C dX5_told_33 (by decide) ?_ ?_
  · refine r_lload_n (pc := 40) C 1 dX5_told_40 rfl rfl ?_
    refine r_lload (pc := 41) C 3 dX5_told_41 rfl ?_
    refine r_ldiv (pc := 43) C dX5_told_43 ?_
    exact r_lret (pc := 44) C rfl rfl dX5_told_44
  · refine r_lload_n (pc := 36) C 0 dX5_told_36 rfl rfl ?_
    refine r_goto (pc := 37) (tgt := 41) C dX5_told_37 (by decide) ?_
    refine r_lload (pc := 41) C 3 dX5_told_41 rfl ?_
    refine r_ldiv (pc := 43) C dX5_told_43 ?_
    exact r_lret (pc := 44) C rfl rfl dX5_told_44)
set_option maxHeartbeats 4000000 in
set_option maxRecDepth 100000 in
theorem wl_X5_tens_4 {cI cS : ClassId} (X : CX) (C : Cx X RX5 cX5_tens 4 (some .long) (rmz 0 0) (tyz cI cS)) (a0 : Int32)  (kk : Int64 → Int32 → Option (Int64)) (hk_4 : ∀ (el1_4 : Int64) (el3_4 : Int32), JR X (QF X (tyz cI cS) 0 0 (fun o : Int64 => some (.long o)) (fun o : Int64 => [])) 4 0 0 (kk el1_4 el3_4) ([]) [(1, .long el1_4)] 21 []) : ∀ (fuel : Nat) (l1_4 : Int64) (l3_4 : Int32), JR X (QF X (tyz cI cS) 0 0 (fun o : Int64 => some (.long o)) (fun o : Int64 => [])) 4 0 0 (lp_X5_tens_4 kk a0 fuel l1_4 l3_4) ([]) [(0, .int a0), (1, .long l1_4), (3, .int l3_4)] 4 [] := by
  intro fuel
  induction fuel with
  | zero => intro l1_4 l3_4; exact r_none
  | succ fu_4 ih_4 =>
    intro l1_4 l3_4
    unfold lp_X5_tens_4
    refine r_iload_n (pc := 4) C 2 dX5_tens_4 rfl rfl ?_
    refine r_iload_n (pc := 5) C 0 dX5_tens_5 rfl rfl ?_
    refine r_icmp_ge (pc := 6) (tgt := 21) C dX5_tens_6 (by decide) ?_ ?_
    · exact r_sub [1] rfl (hk_4 l1_4 l3_4)
    · refine r_lload_n (pc := 9) C 1 dX5_tens_9 rfl rfl ?_
      refine r_ldc2 (pc := 10) C kk_X5_79 dX5_tens_10 ?_
      refine r_lmul (pc := 13) C dX5_tens_13 ?_
      refine r_lstore_n (pc := 14) C dX5_tens_14 rfl (by decide) (lv' := [(1, .long (l1_4 * (10 : Int64))), (0, .int a0), (3, .int l3_4)]) rfl ?_
      refine r_iinc (pc := 15) C 2 dX5_tens_15 rfl (ci_1) (by decide) (lv' := [(3, .int (l3_4 + (1 : Int32))), (1, .long (l1_4 * (10 : Int64))), (0, .int a0)]) rfl ?_
      refine r_goto (pc := 18) (tgt := 4) C dX5_tens_18 (by decide) ?_
      exact r_sub [2, 1, 0] rfl (ih_4 (l1_4 * (10 : Int64)) (l3_4 + (1 : Int32)))
set_option maxHeartbeats 4000000 in
set_option maxRecDepth 100000 in
theorem m_X5_tens (l : Launch) (D : va_G) (cI cS : ClassId) (a0 : Int32) : MX l D (tyz cI cS) yX5_tens cX5_tens 4 (some .long) (rmz 0 0) [.int a0] ([]) (f_X5_tens a0) (fun o : Int64 => some (.long o)) (fun o : Int64 => []) := met_of (own := RX5) (by decide) rfl (Nat.le_of_ble_eq_true rfl) (fun X hxl hxD C => by
  subst hxl
  subst hxD
  show JR X _ _ 0 0 (f_X5_tens a0) ([]) [(0, .int a0)] 0 []
  unfold f_X5_tens
  refine r_lconst (pc := 0) (v := 1) C dX5_tens_0 rfl ?_
  refine r_lstore_n (pc := 1) C dX5_tens_1 rfl (by decide) (lv' := [(1, .long (1 : Int64)), (0, .int a0)]) rfl ?_
  refine r_iconst (pc := 2) C dX5_tens_2 (ci_0) ?_
  refine r_istore_n (pc := 3) C dX5_tens_3 rfl (by decide) (lv' := [(3, .int (0 : Int32)), (1, .long (1 : Int64)), (0, .int a0)]) rfl ?_
  refine r_sub [2, 1, 0] rfl (wl_X5_tens_4 X C a0  _ (fun el1_4 el3_4 => ?_) 1000 (1 : Int64) (0 : Int32))
  refine r_lload_n (pc := 21) C 0 dX5_tens_21 rfl rfl ?_
  exact r_lret (pc := 22) C rfl rfl dX5_tens_22)
set_option maxHeartbeats 4000000 in
set_option maxRecDepth 100000 in
theorem m_X5_refused (l : Launch) (D : va_G) (cI cS : ClassId) (q : Nat → Nat) (MI : Nat → Int32) (MA : Nat → Nat → Int32) (a1 : Int32) : MX l D (tyz cI cS) yX5_refused cX5_refused 2 (some .int) (rmz 0 0) [.ref (q 0), .int a1] (wdM cI q MI MA) (f_X5_refused MI a1) (fun o : Int32 × (Nat → Int32) => some (.int o.1)) (fun o : Int32 × (Nat → Int32) => wdM cI q o.2 MA) := met_of (own := RX5) (by decide) rfl (Nat.le_of_ble_eq_true rfl) (fun X hxl hxD C => by
  subst hxl
  subst hxD
  show JR X _ _ 0 0 (f_X5_refused MI a1) (wdM cI q MI MA) [(0, .ref (q 0)), (1, .int a1)] 0 []
  unfold f_X5_refused
  refine r_aload_n (pc := 0) C 0 dX5_refused_0 rfl rfl ?_
  refine r_iconst (pc := 1) C dX5_refused_1 (ci_0) ?_
  refine pf_X5_81 (pc := 2) (ws' := wdM cI q (upd MI 0 (0 : Int32)) MA) C 0 rfl rfl dX5_refused_2 rfl ?_
  refine r_iload_n (pc := 5) C 1 dX5_refused_5 rfl rfl ?_
  exact r_iret (pc := 6) C rfl rfl dX5_refused_6)
set_option maxHeartbeats 4000000 in
set_option maxRecDepth 100000 in
theorem m_X5_failed (l : Launch) (D : va_G) (cI cS : ClassId) (q : Nat → Nat) (MI : Nat → Int32) (MA : Nat → Nat → Int32) (a1 : Int32) : MX l D (tyz cI cS) yX5_failed cX5_failed 2 (some .int) (rmz 0 0) [.ref (q 0), .int a1] (wdM cI q MI MA) (f_X5_failed MI a1) (fun o : Int32 × (Nat → Int32) => some (.int o.1)) (fun o : Int32 × (Nat → Int32) => wdM cI q o.2 MA) := met_of (own := RX5) (by decide) rfl (Nat.le_of_ble_eq_true rfl) (fun X hxl hxD C => by
  subst hxl
  subst hxD
  show JR X _ _ 0 0 (f_X5_failed MI a1) (wdM cI q MI MA) [(0, .ref (q 0)), (1, .int a1)] 0 []
  unfold f_X5_failed
  refine r_aload_n (pc := 0) C 0 dX5_failed_0 rfl rfl ?_
  refine r_iload_n (pc := 1) C 1 dX5_failed_1 rfl rfl ?_
  refine pf_X5_81 (pc := 2) (ws' := wdM cI q (upd MI 0 a1) MA) C 0 rfl rfl dX5_failed_2 rfl ?_
  refine r_bipush (pc := 5) C dX5_failed_5 (cb_m10) ?_
  refine r_iload_n (pc := 7) C 1 dX5_failed_7 rfl rfl ?_
  refine r_isub (pc := 8) C dX5_failed_8 ?_
  exact r_iret (pc := 9) C rfl rfl dX5_failed_9)
set_option maxHeartbeats 4000000 in
set_option maxRecDepth 100000 in
theorem m_X5_failedLong (l : Launch) (D : va_G) (cI cS : ClassId) (q : Nat → Nat) (MI : Nat → Int32) (MA : Nat → Nat → Int32) (a1 : Int32) : MX l D (tyz cI cS) yX5_failedLong cX5_failedLong 2 (some .long) (rmz 1 19) [.ref (q 0), .int a1] (wdM cI q MI MA) (f_X5_failedLong MI a1) (fun o : Int64 × (Nat → Int32) => some (.long o.1)) (fun o : Int64 × (Nat → Int32) => wdM cI q o.2 MA) := met_of (own := RX5) (by decide) rfl (Nat.le_of_ble_eq_true rfl) (fun X hxl hxD C => by
  subst hxl
  subst hxD
  show JR X _ _ 0 0 (f_X5_failedLong MI a1) (wdM cI q MI MA) [(0, .ref (q 0)), (1, .int a1)] 0 []
  unfold f_X5_failedLong
  refine r_aload_n (pc := 0) C 0 dX5_failedLong_0 rfl rfl ?_
  refine r_iload_n (pc := 1) C 1 dX5_failedLong_1 rfl rfl ?_
  refine pf_X5_81 (pc := 2) (ws' := wdM cI q (upd MI 0 a1) MA) C 0 rfl rfl dX5_failedLong_2 rfl ?_
  refine r_callSr (pc := 5) (rest := []) C (m_X5_lost (xl X) (xD X) cI cS) ms_X5_84 rfl ⟨Nat.zero_le _, Nat.zero_le _⟩ rfl rfl (Nat.le_of_ble_eq_true rfl) dX5_failedLong_5 (fun r5 => ?_)
  exact r_lret (pc := 8) C rfl rfl dX5_failedLong_8)
set_option maxHeartbeats 4000000 in
set_option maxRecDepth 100000 in
theorem m_X5_noPost (l : Launch) (D : va_G) (cI cS : ClassId) (q : Nat → Nat) (MI : Nat → Int32) (MA : Nat → Nat → Int32) (a1 : Int32) : MX l D (tyz cI cS) yX5_noPost cX5_noPost 2 (some .boolean) (rmz 1 25) [.ref (q 0), .int a1] (wdM cI q MI MA) (f_X5_noPost MI a1) (fun o : Int32 => some (.int o)) (fun o : Int32 => wdM cI q MI MA) := met_of (own := RX5) (by decide) rfl (Nat.le_of_ble_eq_true rfl) (fun X hxl hxD C => by
  subst hxl
  subst hxD
  show JR X _ _ 0 0 (f_X5_noPost MI a1) (wdM cI q MI MA) [(0, .ref (q 0)), (1, .int a1)] 0 []
  unfold f_X5_noPost
  refine r_iload_n (pc := 0) C 1 dX5_noPost_0 rfl rfl ?_
  refine r_i2l (pc := 1) C dX5_noPost_1 ?_
  refine r_lconst (pc := 2) (v := 0) C dX5_noPost_2 rfl ?_
  refine r_aload_n (pc := 3) C 0 dX5_noPost_3 rfl rfl ?_
  refine gf_X5_88 (pc := 4) C 0 rfl rfl dX5_noPost_4 ?_
  refine r_i2l (pc := 7) C dX5_noPost_7 ?_
  refine r_lconst (pc := 8) (v := 1) C dX5_noPost_8 rfl ?_
  refine r_lsub (pc := 9) C dX5_noPost_9 ?_
  refine r_callSr (pc := 10) (rest := []) C (m_X5_in (xl X) (xD X) cI cS a1.toInt64 (0 : Int64) (((MI 1).toInt64) - (1 : Int64))) ms_X5_91 rfl ⟨Nat.zero_le _, Nat.zero_le _⟩ rfl rfl (Nat.le_of_ble_eq_true rfl) dX5_noPost_10 (fun r10 => ?_)
  refine r_if_ne (pc := 13) (tgt := 20) C dX5_noPost_13 (by decide) ?_ ?_
  · refine r_iconst (pc := 20) C dX5_noPost_20 (ci_0) ?_
    exact r_zret (pc := 21) C rfl rfl rfl dX5_noPost_21
  · refine r_iconst (pc := 16) C dX5_noPost_16 (ci_1) ?_
    refine r_goto (pc := 17) (tgt := 21) C dX5_noPost_17 (by decide) ?_
    exact r_zret (pc := 21) C rfl rfl rfl dX5_noPost_21)
set_option maxHeartbeats 4000000 in
set_option maxRecDepth 100000 in
theorem m_X5_noSilence (l : Launch) (D : va_G) (cI cS : ClassId) (q : Nat → Nat) (MI : Nat → Int32) (MA : Nat → Nat → Int32) (a1 : Int32) : MX l D (tyz cI cS) yX5_noSilence cX5_noSilence 2 (some .boolean) (rmz 1 25) [.ref (q 0), .int a1] (wdM cI q MI MA) (f_X5_noSilence MI a1) (fun o : Int32 => some (.int o)) (fun o : Int32 => wdM cI q MI MA) := met_of (own := RX5) (by decide) rfl (Nat.le_of_ble_eq_true rfl) (fun X hxl hxD C => by
  subst hxl
  subst hxD
  show JR X _ _ 0 0 (f_X5_noSilence MI a1) (wdM cI q MI MA) [(0, .ref (q 0)), (1, .int a1)] 0 []
  unfold f_X5_noSilence
  refine r_iload_n (pc := 0) C 1 dX5_noSilence_0 rfl rfl ?_
  refine r_i2l (pc := 1) C dX5_noSilence_1 ?_
  refine r_lconst (pc := 2) (v := 0) C dX5_noSilence_2 rfl ?_
  refine r_aload_n (pc := 3) C 0 dX5_noSilence_3 rfl rfl ?_
  refine gf_X5_95 (pc := 4) C 0 rfl rfl dX5_noSilence_4 ?_
  refine r_i2l (pc := 7) C dX5_noSilence_7 ?_
  refine r_lconst (pc := 8) (v := 1) C dX5_noSilence_8 rfl ?_
  refine r_lsub (pc := 9) C dX5_noSilence_9 ?_
  refine r_callSr (pc := 10) (rest := []) C (m_X5_in (xl X) (xD X) cI cS a1.toInt64 (0 : Int64) (((MI 4).toInt64) - (1 : Int64))) ms_X5_91 rfl ⟨Nat.zero_le _, Nat.zero_le _⟩ rfl rfl (Nat.le_of_ble_eq_true rfl) dX5_noSilence_10 (fun r10 => ?_)
  refine r_if_ne (pc := 13) (tgt := 20) C dX5_noSilence_13 (by decide) ?_ ?_
  · refine r_iconst (pc := 20) C dX5_noSilence_20 (ci_0) ?_
    exact r_zret (pc := 21) C rfl rfl rfl dX5_noSilence_21
  · refine r_iconst (pc := 16) C dX5_noSilence_16 (ci_1) ?_
    refine r_goto (pc := 17) (tgt := 21) C dX5_noSilence_17 (by decide) ?_
    exact r_zret (pc := 21) C rfl rfl rfl dX5_noSilence_21)
set_option maxHeartbeats 4000000 in
set_option maxRecDepth 100000 in
theorem m_X5_noCarrier (l : Launch) (D : va_G) (cI cS : ClassId) (a0 : Int32) : MX l D (tyz cI cS) yX5_noCarrier cX5_noCarrier 1 (some .boolean) (rmz 1 25) [.int a0] ([]) (f_X5_noCarrier a0) (fun o : Int32 => some (.int o)) (fun o : Int32 => []) := met_of (own := RX5) (by decide) rfl (Nat.le_of_ble_eq_true rfl) (fun X hxl hxD C => by
  subst hxl
  subst hxD
  show JR X _ _ 0 0 (f_X5_noCarrier a0) ([]) [(0, .int a0)] 0 []
  unfold f_X5_noCarrier
  refine r_iload_n (pc := 0) C 0 dX5_noCarrier_0 rfl rfl ?_
  refine r_i2l (pc := 1) C dX5_noCarrier_1 ?_
  refine r_lconst (pc := 2) (v := 0) C dX5_noCarrier_2 rfl ?_
  refine r_ldc2 (pc := 3) C kk_X5_98 dX5_noCarrier_3 ?_
  refine r_callSr (pc := 6) (rest := []) C (m_X5_in (xl X) (xD X) cI cS a0.toInt64 (0 : Int64) (2 : Int64)) ms_X5_91 rfl ⟨Nat.zero_le _, Nat.zero_le _⟩ rfl rfl (Nat.le_of_ble_eq_true rfl) dX5_noCarrier_6 (fun r6 => ?_)
  refine r_if_ne (pc := 9) (tgt := 16) C dX5_noCarrier_9 (by decide) ?_ ?_
  · refine r_iconst (pc := 16) C dX5_noCarrier_16 (ci_0) ?_
    exact r_zret (pc := 17) C rfl rfl rfl dX5_noCarrier_17
  · refine r_iconst (pc := 12) C dX5_noCarrier_12 (ci_1) ?_
    refine r_goto (pc := 13) (tgt := 17) C dX5_noCarrier_13 (by decide) ?_
    exact r_zret (pc := 17) C rfl rfl rfl dX5_noCarrier_17)
set_option maxHeartbeats 4000000 in
set_option maxRecDepth 100000 in
theorem m_X5_all (l : Launch) (D : va_G) (cI cS : ClassId) (q : Nat → Nat) (MI : Nat → Int32) (MA : Nat → Nat → Int32) : MX l D (tyz cI cS) yX5_all cX5_all 1 (some .int) (rmz 0 0) [.ref (q 0)] (wdM cI q MI MA) (f_X5_all MI) (fun o : Int32 => some (.int o)) (fun o : Int32 => wdM cI q MI MA) := met_of (own := RX5) (by decide) rfl (Nat.le_of_ble_eq_true rfl) (fun X hxl hxD C => by
  subst hxl
  subst hxD
  show JR X _ _ 0 0 (f_X5_all MI) (wdM cI q MI MA) [(0, .ref (q 0))] 0 []
  unfold f_X5_all
  refine r_iconst (pc := 0) C dX5_all_0 (ci_1) ?_
  refine r_aload_n (pc := 1) C 0 dX5_all_1 rfl rfl ?_
  refine gf_X5_95 (pc := 2) C 0 rfl rfl dX5_all_2 ?_
  refine r_ishl (pc := 5) C dX5_all_5 ?_
  refine r_iconst (pc := 6) C dX5_all_6 (ci_1) ?_
  refine r_isub (pc := 7) C dX5_all_7 ?_
  exact r_iret (pc := 8) C rfl rfl dX5_all_8)
set_option maxHeartbeats 4000000 in
set_option maxRecDepth 100000 in
theorem m_X5_codeAt (l : Launch) (D : va_G) (cI cS : ClassId) (q : Nat → Nat) (MI : Nat → Int32) (MA : Nat → Nat → Int32) (a1 : Int32) (a2 : Int32) : MX l D (tyz cI cS) yX5_codeAt cX5_codeAt 3 (some .int) (rmz 0 0) [.ref (q 0), .int a1, .int a2] (wdM cI q MI MA) (f_X5_codeAt MI MA a1 a2) (fun o : Int32 => some (.int o)) (fun o : Int32 => wdM cI q MI MA) := met_of (own := RX5) (by decide) rfl (Nat.le_of_ble_eq_true rfl) (fun X hxl hxD C => by
  subst hxl
  subst hxD
  show JR X _ _ 0 0 (f_X5_codeAt MI MA a1 a2) (wdM cI q MI MA) [(0, .ref (q 0)), (1, .int a1), (2, .int a2)] 0 []
  unfold f_X5_codeAt
  refine r_aload_n (pc := 0) C 0 dX5_codeAt_0 rfl rfl ?_
  refine gf_X5_100 (pc := 1) C 0 rfl rfl dX5_codeAt_1 ?_
  refine r_iload_n (pc := 4) C 2 dX5_codeAt_4 rfl rfl ?_
  refine r_icmp_ge (pc := 5) (tgt := 22) C dX5_codeAt_5 (by decide) ?_ ?_
  · refine r_bipush (pc := 22) C dX5_codeAt_22 (cb_m9) ?_
    exact r_iret (pc := 24) C rfl rfl dX5_codeAt_24
  · refine r_aload_n (pc := 8) C 0 dX5_codeAt_8 rfl rfl ?_
    refine gf_X5_67 (pc := 9) C 0 rfl rfl dX5_codeAt_9 ?_
    refine r_iload_n (pc := 12) C 1 dX5_codeAt_12 rfl rfl ?_
    refine r_aload_n (pc := 13) C 0 dX5_codeAt_13 rfl rfl ?_
    refine gf_X5_100 (pc := 14) C 0 rfl rfl dX5_codeAt_14 ?_
    refine r_iadd (pc := 17) C dX5_codeAt_17 ?_
    refine r_iald (pc := 18) C 20 rfl dX5_codeAt_18 ?_
    refine r_goto (pc := 19) (tgt := 24) C dX5_codeAt_19 (by decide) ?_
    exact r_iret (pc := 24) C rfl rfl dX5_codeAt_24)
set_option maxHeartbeats 4000000 in
set_option maxRecDepth 100000 in
theorem wj_X5_figure_39 {cI cS : ClassId} (X : CX) (C : Cx X RX5 cX5_figure 6 (some .int) (rmz 1 25) (tyz cI cS)) (q : Nat → Nat) (MI : Nat → Int32) (MA : Nat → Nat → Int32) (r3 : Int32) (r19 : Int32) (s0_39 : Int32)  : JR X (QF X (tyz cI cS) 0 0 (fun o : Int32 × (Nat → Int32) => some (.int o.1)) (fun o : Int32 × (Nat → Int32) => wdM cI q o.2 MA)) 6 0 0 (jb_X5_figure_39 MI r3 r19 s0_39) (wdM cI q MI MA) [(4, .int (r3 - (48 : Int32))), (5, .int r19)] 39 [.int s0_39, .int (MI 14), .ref (q 0)] := by
  unfold jb_X5_figure_39
  refine r_iadd (pc := 39) C dX5_figure_39 ?_
  refine pf_X5_100 (pc := 40) (ws' := wdM cI q (upd MI 14 ((MI 14) + s0_39)) MA) C 0 rfl rfl dX5_figure_40 rfl ?_
  refine r_iload (pc := 43) C 1 dX5_figure_43 rfl ?_
  refine r_if_eq (pc := 45) (tgt := 53) C dX5_figure_45 (by decide) ?_ ?_
  · refine r_bipush (pc := 53) C dX5_figure_53 (cb_m9) ?_
    exact r_iret (pc := 55) C rfl rfl dX5_figure_55
  · refine r_iload (pc := 48) C 0 dX5_figure_48 rfl ?_
    refine r_goto (pc := 50) (tgt := 55) C dX5_figure_50 (by decide) ?_
    exact r_iret (pc := 55) C rfl rfl dX5_figure_55
set_option maxHeartbeats 4000000 in
set_option maxRecDepth 100000 in
theorem m_X5_figure (l : Launch) (D : va_G) (cI cS : ClassId) (q : Nat → Nat) (MI : Nat → Int32) (MA : Nat → Nat → Int32) (a1 : Int32) (a2 : Int32) (a3 : Int32) : MX l D (tyz cI cS) yX5_figure cX5_figure 6 (some .int) (rmz 1 25) [.ref (q 0), .int a1, .int a2, .int a3] (wdM cI q MI MA) (f_X5_figure MI MA a1 a2 a3) (fun o : Int32 × (Nat → Int32) => some (.int o.1)) (fun o : Int32 × (Nat → Int32) => wdM cI q o.2 MA) := met_of (own := RX5) (by decide) rfl (Nat.le_of_ble_eq_true rfl) (fun X hxl hxD C => by
  subst hxl
  subst hxD
  show JR X _ _ 0 0 (f_X5_figure MI MA a1 a2 a3) (wdM cI q MI MA) [(0, .ref (q 0)), (1, .int a1), (2, .int a2), (3, .int a3)] 0 []
  unfold f_X5_figure
  refine r_aload_n (pc := 0) C 0 dX5_figure_0 rfl rfl ?_
  refine r_iload_n (pc := 1) C 1 dX5_figure_1 rfl rfl ?_
  refine r_iload_n (pc := 2) C 2 dX5_figure_2 rfl rfl ?_
  refine r_callV0 (pc := 3) (rest := []) C (m_X5_codeAt (xl X) (xD X) cI cS q MI MA a1 a2) mv_X5_103 rfl rfl rfl ⟨Nat.zero_le _, Nat.zero_le _⟩ rfl rfl (Nat.le_of_ble_eq_true rfl) dX5_figure_3 (fun r3 => ?_)
  refine r_bipush (pc := 6) C dX5_figure_6 (cb_48) ?_
  refine r_isub (pc := 8) C dX5_figure_8 ?_
  refine r_istore (pc := 9) C dX5_figure_9 (by decide) (lv' := [(4, .int (r3 - (48 : Int32))), (0, .ref (q 0)), (1, .int a1), (2, .int a2), (3, .int a3)]) rfl ?_
  refine r_iload (pc := 11) C 0 dX5_figure_11 rfl ?_
  refine r_i2l (pc := 13) C dX5_figure_13 ?_
  refine r_iload_n (pc := 14) C 4 dX5_figure_14 rfl rfl ?_
  refine r_i2l (pc := 15) C dX5_figure_15 ?_
  refine r_ldc2 (pc := 16) C kk_X5_107 dX5_figure_16 ?_
  refine r_callSr (pc := 19) (rest := []) C (m_X5_in (xl X) (xD X) cI cS ((r3 - (48 : Int32)).toInt64) a3.toInt64 (9 : Int64)) ms_X5_91 rfl ⟨Nat.zero_le _, Nat.zero_le _⟩ rfl rfl (Nat.le_of_ble_eq_true rfl) dX5_figure_19 (fun r19 => ?_)
  refine r_istore (pc := 22) C dX5_figure_22 (by decide) (lv' := [(5, .int r19), (4, .int (r3 - (48 : Int32))), (0, .ref (q 0)), (1, .int a1), (2, .int a2), (3, .int a3)]) rfl ?_
  refine r_aload_n (pc := 24) C 2 dX5_figure_24 rfl rfl ?_
  refine r_dup (pc := 25) C dX5_figure_25 rfl ?_
  refine gf_X5_100 (pc := 26) C 0 rfl rfl dX5_figure_26 ?_
  refine r_iload (pc := 29) C 0 dX5_figure_29 rfl ?_
  refine r_if_eq (pc := 31) (tgt := 38) C dX5_figure_31 (by decide) ?_ ?_
  · refine r_iconst (pc := 38) C dX5_figure_38 (ci_0) ?_
    exact r_sub [1, 0] rfl (wj_X5_figure_39 X C q MI MA r3 r19 (0 : Int32) )
  · refine r_iconst (pc := 34) C dX5_figure_34 (ci_1) ?_
    refine r_goto (pc := 35) (tgt := 39) C dX5_figure_35 (by decide) ?_
    exact r_sub [1, 0] rfl (wj_X5_figure_39 X C q MI MA r3 r19 (1 : Int32) ))
set_option maxHeartbeats 4000000 in
set_option maxRecDepth 100000 in
theorem wj_X5_readsPost_55 {cI cS : ClassId} (X : CX) (C : Cx X RX5 cX5_readsPost 5 (some .boolean) (rmz 2 50) (tyz cI cS)) (q : Nat → Nat) (MA : Nat → Nat → Int32) (r35 : Int32 × (Nat → Int32)) (s0_55 : Int32) (MI_j55 : Nat → Int32)  : JR X (QF X (tyz cI cS) 0 0 (fun o : Int32 × (Nat → Int32) × (Nat → Nat → Int32) => some (.int o.1)) (fun o : Int32 × (Nat → Int32) × (Nat → Nat → Int32) => wdM cI q o.2.1 o.2.2)) 5 0 0 (jb_X5_readsPost_55 MA r35 s0_55 MI_j55) (wdM cI q MI_j55 MA) [(0, .ref (q 0)), (3, .int r35.1)] 55 [.int s0_55] := by
  unfold jb_X5_readsPost_55
  refine r_istore (pc := 55) C dX5_readsPost_55 (by decide) (lv' := [(4, .int s0_55), (0, .ref (q 0)), (3, .int r35.1)]) rfl ?_
  refine r_iload (pc := 57) C 0 dX5_readsPost_57 rfl ?_
  refine r_if_ge (pc := 59) (tgt := 64) C dX5_readsPost_59 (by decide) ?_ ?_
  · refine r_aload_n (pc := 64) C 1 dX5_readsPost_64 rfl rfl ?_
    refine gf_X5_31 (pc := 65) C 0 rfl rfl dX5_readsPost_65 ?_
    refine r_aload_n (pc := 68) C 1 dX5_readsPost_68 rfl rfl ?_
    refine gf_X5_109 (pc := 69) C 0 rfl rfl dX5_readsPost_69 ?_
    refine r_iload_n (pc := 72) C 2 dX5_readsPost_72 rfl rfl ?_
    refine r_iast (pc := 73) (ws' := wdM cI q MI_j55 (va_up MA 18 (upd (MA 18) (MI_j55 16).toNatClampNeg r35.1))) C 8 rfl dX5_readsPost_73 rfl ?_
    refine r_aload_n (pc := 74) C 1 dX5_readsPost_74 rfl rfl ?_
    refine gf_X5_34 (pc := 75) C 0 rfl rfl dX5_readsPost_75 ?_
    refine r_aload_n (pc := 78) C 1 dX5_readsPost_78 rfl rfl ?_
    refine gf_X5_109 (pc := 79) C 0 rfl rfl dX5_readsPost_79 ?_
    refine r_iload (pc := 82) C 0 dX5_readsPost_82 rfl ?_
    refine r_iast (pc := 84) (ws' := wdM cI q MI_j55 (va_up (va_up MA 18 (upd (MA 18) (MI_j55 16).toNatClampNeg r35.1)) 19 (upd ((va_up MA 18 (upd (MA 18) (MI_j55 16).toNatClampNeg r35.1)) 19) (MI_j55 16).toNatClampNeg s0_55))) C 9 rfl dX5_readsPost_84 rfl ?_
    refine r_aload_n (pc := 85) C 1 dX5_readsPost_85 rfl rfl ?_
    refine r_dup (pc := 86) C dX5_readsPost_86 rfl ?_
    refine gf_X5_109 (pc := 87) C 0 rfl rfl dX5_readsPost_87 ?_
    refine r_iconst (pc := 90) C dX5_readsPost_90 (ci_1) ?_
    refine r_iadd (pc := 91) C dX5_readsPost_91 ?_
    refine pf_X5_109 (pc := 92) (ws' := wdM cI q (upd MI_j55 16 ((MI_j55 16) + (1 : Int32))) (va_up (va_up MA 18 (upd (MA 18) (MI_j55 16).toNatClampNeg r35.1)) 19 (upd ((va_up MA 18 (upd (MA 18) (MI_j55 16).toNatClampNeg r35.1)) 19) (MI_j55 16).toNatClampNeg s0_55))) C 0 rfl rfl dX5_readsPost_92 rfl ?_
    refine r_iconst (pc := 95) C dX5_readsPost_95 (ci_1) ?_
    exact r_zret (pc := 96) C rfl rfl rfl dX5_readsPost_96
  · refine r_iconst (pc := 62) C dX5_readsPost_62 (ci_0) ?_
    exact r_zret (pc := 63) C rfl rfl rfl dX5_readsPost_63
set_option maxHeartbeats 4000000 in
set_option maxRecDepth 100000 in
theorem m_X5_readsPost (l : Launch) (D : va_G) (cI cS : ClassId) (q : Nat → Nat) (MI : Nat → Int32) (MA : Nat → Nat → Int32) (a1 : Int32) (a2 : Int32) : MX l D (tyz cI cS) yX5_readsPost cX5_readsPost 5 (some .boolean) (rmz 2 50) [.ref (q 0), .int a1, .int a2] (wdM cI q MI MA) (f_X5_readsPost MI MA a1 a2) (fun o : Int32 × (Nat → Int32) × (Nat → Nat → Int32) => some (.int o.1)) (fun o : Int32 × (Nat → Int32) × (Nat → Nat → Int32) => wdM cI q o.2.1 o.2.2) := met_of (own := RX5) (by decide) rfl (Nat.le_of_ble_eq_true rfl) (fun X hxl hxD C => by
  subst hxl
  subst hxD
  show JR X _ _ 0 0 (f_X5_readsPost MI MA a1 a2) (wdM cI q MI MA) [(0, .ref (q 0)), (1, .int a1), (2, .int a2)] 0 []
  unfold f_X5_readsPost
  refine r_aload_n (pc := 0) C 0 dX5_readsPost_0 rfl rfl ?_
  refine gf_X5_109 (pc := 1) C 0 rfl rfl dX5_readsPost_1 ?_
  refine r_iconst (pc := 4) C dX5_readsPost_4 (ci_4) ?_
  refine r_icmp_eq (pc := 5) (tgt := 19) C dX5_readsPost_5 (by decide) ?_ ?_
  · refine r_iconst (pc := 19) C dX5_readsPost_19 (ci_0) ?_
    exact r_zret (pc := 20) C rfl rfl rfl dX5_readsPost_20
  · refine r_aload_n (pc := 8) C 0 dX5_readsPost_8 rfl rfl ?_
    refine r_iload_n (pc := 9) C 1 dX5_readsPost_9 rfl rfl ?_
    refine r_iload_n (pc := 10) C 2 dX5_readsPost_10 rfl rfl ?_
    refine r_callV0 (pc := 11) (rest := []) C (m_X5_codeAt (xl X) (xD X) cI cS q MI MA a1 a2) mv_X5_103 rfl rfl rfl ⟨Nat.zero_le _, Nat.zero_le _⟩ rfl rfl (Nat.le_of_ble_eq_true rfl) dX5_readsPost_11 (fun r11 => ?_)
    refine r_bipush (pc := 14) C dX5_readsPost_14 (cb_59) ?_
    refine r_icmp_eq (pc := 16) (tgt := 21) C dX5_readsPost_16 (by decide) ?_ ?_
    · refine r_aload_n (pc := 21) C 0 dX5_readsPost_21 rfl rfl ?_
      refine r_dup (pc := 22) C dX5_readsPost_22 rfl ?_
      refine gf_X5_100 (pc := 23) C 0 rfl rfl dX5_readsPost_23 ?_
      refine r_iconst (pc := 26) C dX5_readsPost_26 (ci_1) ?_
      refine r_iadd (pc := 27) C dX5_readsPost_27 ?_
      refine pf_X5_100 (pc := 28) (ws' := wdM cI q (upd MI 14 ((MI 14) + (1 : Int32))) MA) C 0 rfl rfl dX5_readsPost_28 rfl ?_
      refine r_aload_n (pc := 31) C 0 dX5_readsPost_31 rfl rfl ?_
      refine r_iload_n (pc := 32) C 1 dX5_readsPost_32 rfl rfl ?_
      refine r_iload_n (pc := 33) C 2 dX5_readsPost_33 rfl rfl ?_
      refine r_iconst (pc := 34) C dX5_readsPost_34 (ci_1) ?_
      refine r_callV0 (pc := 35) (rest := []) C (m_X5_figure (xl X) (xD X) cI cS q (upd MI 14 ((MI 14) + (1 : Int32))) MA a1 a2 (1 : Int32)) mv_X5_112 rfl rfl rfl ⟨Nat.zero_le _, Nat.zero_le _⟩ rfl rfl (Nat.le_of_ble_eq_true rfl) dX5_readsPost_35 (fun r35 => ?_)
      refine r_istore_n (pc := 38) C dX5_readsPost_38 rfl (by decide) (lv' := [(3, .int r35.1), (0, .ref (q 0)), (1, .int a1), (2, .int a2)]) rfl ?_
      refine r_iload_n (pc := 39) C 0 dX5_readsPost_39 rfl rfl ?_
      refine r_if_ge (pc := 40) (tgt := 48) C dX5_readsPost_40 (by decide) ?_ ?_
      · refine r_aload_n (pc := 48) C 1 dX5_readsPost_48 rfl rfl ?_
        refine r_iload_n (pc := 49) C 2 dX5_readsPost_49 rfl rfl ?_
        refine r_iload_n (pc := 50) C 3 dX5_readsPost_50 rfl rfl ?_
        refine r_iconst (pc := 51) C dX5_readsPost_51 (ci_0) ?_
        refine r_callV0 (pc := 52) (rest := []) C (m_X5_figure (xl X) (xD X) cI cS q r35.2 MA a1 a2 (0 : Int32)) mv_X5_112 rfl rfl rfl ⟨Nat.zero_le _, Nat.zero_le _⟩ rfl rfl (Nat.le_of_ble_eq_true rfl) dX5_readsPost_52 (fun r52 => ?_)
        exact r_sub [1, 0] rfl (wj_X5_readsPost_55 X C q MA r35 r52.1 r52.2 )
      · refine r_bipush (pc := 43) C dX5_readsPost_43 (cb_m9) ?_
        refine r_goto (pc := 45) (tgt := 55) C dX5_readsPost_45 (by decide) ?_
        exact r_sub [1, 0] rfl (wj_X5_readsPost_55 X C q MA r35 (-9 : Int32) r35.2 )
    · refine r_iconst (pc := 19) C dX5_readsPost_19 (ci_0) ?_
      exact r_zret (pc := 20) C rfl rfl rfl dX5_readsPost_20)
set_option maxHeartbeats 4000000 in
set_option maxRecDepth 100000 in
theorem wj_X5_readsSilence_132 {cI cS : ClassId} (X : CX) (C : Cx X RX5 cX5_readsSilence 6 (some .boolean) (rmz 2 50) (tyz cI cS)) (q : Nat → Nat) (MA : Nat → Nat → Int32) (r72 : Int32 × (Nat → Int32)) (s0_94 : Int32) (MI_j94 : Nat → Int32) (s0_132 : Int32)  : JR X (QF X (tyz cI cS) 0 0 (fun o : Int32 × (Nat → Int32) × (Nat → Nat → Int32) => some (.int o.1)) (fun o : Int32 × (Nat → Int32) × (Nat → Nat → Int32) => wdM cI q o.2.1 o.2.2)) 6 0 0 (jb_X5_readsSilence_132 MA r72 s0_94 MI_j94 s0_132) (wdM cI q MI_j94 MA) [(0, .ref (q 0)), (4, .int r72.1), (5, .int s0_94)] 132 [.int s0_132, .int (MI_j94 17), .ref (q 20)] := by
  unfold jb_X5_readsSilence_132
  refine r_iast (pc := 132) (ws' := wdM cI q MI_j94 (va_up MA 20 (upd (MA 20) (MI_j94 17).toNatClampNeg s0_132))) C 10 rfl dX5_readsSilence_132 rfl ?_
  refine r_aload_n (pc := 133) C 0 dX5_readsSilence_133 rfl rfl ?_
  refine gf_X5_40 (pc := 134) C 0 rfl rfl dX5_readsSilence_134 ?_
  refine r_aload_n (pc := 137) C 0 dX5_readsSilence_137 rfl rfl ?_
  refine gf_X5_116 (pc := 138) C 0 rfl rfl dX5_readsSilence_138 ?_
  refine r_iload (pc := 141) C 1 dX5_readsSilence_141 rfl ?_
  refine r_iast (pc := 143) (ws' := wdM cI q MI_j94 (va_up (va_up MA 20 (upd (MA 20) (MI_j94 17).toNatClampNeg s0_132)) 21 (upd ((va_up MA 20 (upd (MA 20) (MI_j94 17).toNatClampNeg s0_132)) 21) (MI_j94 17).toNatClampNeg r72.1))) C 11 rfl dX5_readsSilence_143 rfl ?_
  refine r_aload_n (pc := 144) C 0 dX5_readsSilence_144 rfl rfl ?_
  refine gf_X5_43 (pc := 145) C 0 rfl rfl dX5_readsSilence_145 ?_
  refine r_aload_n (pc := 148) C 0 dX5_readsSilence_148 rfl rfl ?_
  refine gf_X5_116 (pc := 149) C 0 rfl rfl dX5_readsSilence_149 ?_
  refine r_iload (pc := 152) C 2 dX5_readsSilence_152 rfl ?_
  refine r_iast (pc := 154) (ws' := wdM cI q MI_j94 (va_up (va_up (va_up MA 20 (upd (MA 20) (MI_j94 17).toNatClampNeg s0_132)) 21 (upd ((va_up MA 20 (upd (MA 20) (MI_j94 17).toNatClampNeg s0_132)) 21) (MI_j94 17).toNatClampNeg r72.1)) 22 (upd ((va_up (va_up MA 20 (upd (MA 20) (MI_j94 17).toNatClampNeg s0_132)) 21 (upd ((va_up MA 20 (upd (MA 20) (MI_j94 17).toNatClampNeg s0_132)) 21) (MI_j94 17).toNatClampNeg r72.1)) 22) (MI_j94 17).toNatClampNeg s0_94))) C 12 rfl dX5_readsSilence_154 rfl ?_
  refine r_aload_n (pc := 155) C 0 dX5_readsSilence_155 rfl rfl ?_
  refine r_dup (pc := 156) C dX5_readsSilence_156 rfl ?_
  refine gf_X5_116 (pc := 157) C 0 rfl rfl dX5_readsSilence_157 ?_
  refine r_iconst (pc := 160) C dX5_readsSilence_160 (ci_1) ?_
  refine r_iadd (pc := 161) C dX5_readsSilence_161 ?_
  refine pf_X5_116 (pc := 162) (ws' := wdM cI q (upd MI_j94 17 ((MI_j94 17) + (1 : Int32))) (va_up (va_up (va_up MA 20 (upd (MA 20) (MI_j94 17).toNatClampNeg s0_132)) 21 (upd ((va_up MA 20 (upd (MA 20) (MI_j94 17).toNatClampNeg s0_132)) 21) (MI_j94 17).toNatClampNeg r72.1)) 22 (upd ((va_up (va_up MA 20 (upd (MA 20) (MI_j94 17).toNatClampNeg s0_132)) 21 (upd ((va_up MA 20 (upd (MA 20) (MI_j94 17).toNatClampNeg s0_132)) 21) (MI_j94 17).toNatClampNeg r72.1)) 22) (MI_j94 17).toNatClampNeg s0_94))) C 0 rfl rfl dX5_readsSilence_162 rfl ?_
  refine r_iconst (pc := 165) C dX5_readsSilence_165 (ci_1) ?_
  exact r_zret (pc := 166) C rfl rfl rfl dX5_readsSilence_166
set_option maxHeartbeats 4000000 in
set_option maxRecDepth 100000 in
theorem wj_X5_readsSilence_94 {cI cS : ClassId} (X : CX) (C : Cx X RX5 cX5_readsSilence 6 (some .boolean) (rmz 2 50) (tyz cI cS)) (q : Nat → Nat) (MA : Nat → Nat → Int32) (r34 : Int32) (r72 : Int32 × (Nat → Int32)) (s0_94 : Int32) (MI_j94 : Nat → Int32)  : JR X (QF X (tyz cI cS) 0 0 (fun o : Int32 × (Nat → Int32) × (Nat → Nat → Int32) => some (.int o.1)) (fun o : Int32 × (Nat → Int32) × (Nat → Nat → Int32) => wdM cI q o.2.1 o.2.2)) 6 0 0 (jb_X5_readsSilence_94 MA r34 r72 s0_94 MI_j94) (wdM cI q MI_j94 MA) [(0, .ref (q 0)), (3, .int r34), (4, .int r72.1)] 94 [.int s0_94] := by
  unfold jb_X5_readsSilence_94
  refine r_istore (pc := 94) C dX5_readsSilence_94 (by decide) (lv' := [(5, .int s0_94), (0, .ref (q 0)), (3, .int r34), (4, .int r72.1)]) rfl ?_
  refine r_iload (pc := 96) C 0 dX5_readsSilence_96 rfl ?_
  refine r_if_ge (pc := 98) (tgt := 103) C dX5_readsSilence_98 (by decide) ?_ ?_
  · refine r_aload_n (pc := 103) C 1 dX5_readsSilence_103 rfl rfl ?_
    refine gf_X5_37 (pc := 104) C 0 rfl rfl dX5_readsSilence_104 ?_
    refine r_aload_n (pc := 107) C 1 dX5_readsSilence_107 rfl rfl ?_
    refine gf_X5_116 (pc := 108) C 0 rfl rfl dX5_readsSilence_108 ?_
    refine r_iload_n (pc := 111) C 2 dX5_readsSilence_111 rfl rfl ?_
    refine r_bipush (pc := 112) C dX5_readsSilence_112 (cb_115) ?_
    refine r_icmp_ne (pc := 114) (tgt := 121) C dX5_readsSilence_114 (by decide) ?_ ?_
    · refine r_iload_n (pc := 121) C 2 dX5_readsSilence_121 rfl rfl ?_
      refine r_bipush (pc := 122) C dX5_readsSilence_122 (cb_107) ?_
      refine r_icmp_ne (pc := 124) (tgt := 131) C dX5_readsSilence_124 (by decide) ?_ ?_
      · refine r_iconst (pc := 131) C dX5_readsSilence_131 (ci_2) ?_
        exact r_sub [1, 3, 0] rfl (wj_X5_readsSilence_132 X C q MA r72 s0_94 MI_j94 (2 : Int32) )
      · refine r_iconst (pc := 127) C dX5_readsSilence_127 (ci_1) ?_
        refine r_goto (pc := 128) (tgt := 132) C dX5_readsSilence_128 (by decide) ?_
        exact r_sub [1, 3, 0] rfl (wj_X5_readsSilence_132 X C q MA r72 s0_94 MI_j94 (1 : Int32) )
    · refine r_iconst (pc := 117) C dX5_readsSilence_117 (ci_0) ?_
      refine r_goto (pc := 118) (tgt := 132) C dX5_readsSilence_118 (by decide) ?_
      exact r_sub [1, 3, 0] rfl (wj_X5_readsSilence_132 X C q MA r72 s0_94 MI_j94 (0 : Int32) )
  · refine r_iconst (pc := 101) C dX5_readsSilence_101 (ci_0) ?_
    exact r_zret (pc := 102) C rfl rfl rfl dX5_readsSilence_102
set_option maxHeartbeats 4000000 in
set_option maxRecDepth 100000 in
theorem wj_X5_readsSilence_58 {cI cS : ClassId} (X : CX) (C : Cx X RX5 cX5_readsSilence 6 (some .boolean) (rmz 2 50) (tyz cI cS)) (q : Nat → Nat) (MI : Nat → Int32) (MA : Nat → Nat → Int32) (a1 : Int32) (a2 : Int32) (r34 : Int32)  : JR X (QF X (tyz cI cS) 0 0 (fun o : Int32 × (Nat → Int32) × (Nat → Nat → Int32) => some (.int o.1)) (fun o : Int32 × (Nat → Int32) × (Nat → Nat → Int32) => wdM cI q o.2.1 o.2.2)) 6 0 0 (jb_X5_readsSilence_58 MI MA a1 a2 r34) (wdM cI q (upd MI 14 ((MI 14) + (1 : Int32))) MA) [(0, .ref (q 0)), (1, .int a1), (2, .int a2), (3, .int r34)] 58 [] := by
  unfold jb_X5_readsSilence_58
  refine r_aload_n (pc := 58) C 0 dX5_readsSilence_58 rfl rfl ?_
  refine r_dup (pc := 59) C dX5_readsSilence_59 rfl ?_
  refine gf_X5_100 (pc := 60) C 0 rfl rfl dX5_readsSilence_60 ?_
  refine r_iconst (pc := 63) C dX5_readsSilence_63 (ci_1) ?_
  refine r_iadd (pc := 64) C dX5_readsSilence_64 ?_
  refine pf_X5_100 (pc := 65) (ws' := wdM cI q (upd (upd MI 14 ((MI 14) + (1 : Int32))) 14 (((upd MI 14 ((MI 14) + (1 : Int32))) 14) + (1 : Int32))) MA) C 0 rfl rfl dX5_readsSilence_65 rfl ?_
  refine r_aload_n (pc := 68) C 0 dX5_readsSilence_68 rfl rfl ?_
  refine r_iload_n (pc := 69) C 1 dX5_readsSilence_69 rfl rfl ?_
  refine r_iload_n (pc := 70) C 2 dX5_readsSilence_70 rfl rfl ?_
  refine r_iconst (pc := 71) C dX5_readsSilence_71 (ci_1) ?_
  refine r_callV0 (pc := 72) (rest := []) C (m_X5_figure (xl X) (xD X) cI cS q (upd (upd MI 14 ((MI 14) + (1 : Int32))) 14 (((upd MI 14 ((MI 14) + (1 : Int32))) 14) + (1 : Int32))) MA a1 a2 (1 : Int32)) mv_X5_112 rfl rfl rfl ⟨Nat.zero_le _, Nat.zero_le _⟩ rfl rfl (Nat.le_of_ble_eq_true rfl) dX5_readsSilence_72 (fun r72 => ?_)
  refine r_istore (pc := 75) C dX5_readsSilence_75 (by decide) (lv' := [(4, .int r72.1), (0, .ref (q 0)), (1, .int a1), (2, .int a2), (3, .int r34)]) rfl ?_
  refine r_iload (pc := 77) C 0 dX5_readsSilence_77 rfl ?_
  refine r_if_ge (pc := 79) (tgt := 87) C dX5_readsSilence_79 (by decide) ?_ ?_
  · refine r_aload_n (pc := 87) C 1 dX5_readsSilence_87 rfl rfl ?_
    refine r_iload_n (pc := 88) C 2 dX5_readsSilence_88 rfl rfl ?_
    refine r_iload_n (pc := 89) C 3 dX5_readsSilence_89 rfl rfl ?_
    refine r_iconst (pc := 90) C dX5_readsSilence_90 (ci_1) ?_
    refine r_callV0 (pc := 91) (rest := []) C (m_X5_figure (xl X) (xD X) cI cS q r72.2 MA a1 a2 (1 : Int32)) mv_X5_112 rfl rfl rfl ⟨Nat.zero_le _, Nat.zero_le _⟩ rfl rfl (Nat.le_of_ble_eq_true rfl) dX5_readsSilence_91 (fun r91 => ?_)
    exact r_sub [1, 4, 0] rfl (wj_X5_readsSilence_94 X C q MA r34 r72 r91.1 r91.2 )
  · refine r_bipush (pc := 82) C dX5_readsSilence_82 (cb_m9) ?_
    refine r_goto (pc := 84) (tgt := 94) C dX5_readsSilence_84 (by decide) ?_
    exact r_sub [1, 4, 0] rfl (wj_X5_readsSilence_94 X C q MA r34 r72 (-9 : Int32) r72.2 )
set_option maxHeartbeats 4000000 in
set_option maxRecDepth 100000 in
theorem m_X5_readsSilence (l : Launch) (D : va_G) (cI cS : ClassId) (q : Nat → Nat) (MI : Nat → Int32) (MA : Nat → Nat → Int32) (a1 : Int32) (a2 : Int32) : MX l D (tyz cI cS) yX5_readsSilence cX5_readsSilence 6 (some .boolean) (rmz 2 50) [.ref (q 0), .int a1, .int a2] (wdM cI q MI MA) (f_X5_readsSilence MI MA a1 a2) (fun o : Int32 × (Nat → Int32) × (Nat → Nat → Int32) => some (.int o.1)) (fun o : Int32 × (Nat → Int32) × (Nat → Nat → Int32) => wdM cI q o.2.1 o.2.2) := met_of (own := RX5) (by decide) rfl (Nat.le_of_ble_eq_true rfl) (fun X hxl hxD C => by
  subst hxl
  subst hxD
  show JR X _ _ 0 0 (f_X5_readsSilence MI MA a1 a2) (wdM cI q MI MA) [(0, .ref (q 0)), (1, .int a1), (2, .int a2)] 0 []
  unfold f_X5_readsSilence
  refine r_aload_n (pc := 0) C 0 dX5_readsSilence_0 rfl rfl ?_
  refine gf_X5_116 (pc := 1) C 0 rfl rfl dX5_readsSilence_1 ?_
  refine r_iconst (pc := 4) C dX5_readsSilence_4 (ci_4) ?_
  refine r_icmp_eq (pc := 5) (tgt := 19) C dX5_readsSilence_5 (by decide) ?_ ?_
  · refine r_iconst (pc := 19) C dX5_readsSilence_19 (ci_0) ?_
    exact r_zret (pc := 20) C rfl rfl rfl dX5_readsSilence_20
  · refine r_aload_n (pc := 8) C 0 dX5_readsSilence_8 rfl rfl ?_
    refine r_iload_n (pc := 9) C 1 dX5_readsSilence_9 rfl rfl ?_
    refine r_iload_n (pc := 10) C 2 dX5_readsSilence_10 rfl rfl ?_
    refine r_callV0 (pc := 11) (rest := []) C (m_X5_codeAt (xl X) (xD X) cI cS q MI MA a1 a2) mv_X5_103 rfl rfl rfl ⟨Nat.zero_le _, Nat.zero_le _⟩ rfl rfl (Nat.le_of_ble_eq_true rfl) dX5_readsSilence_11 (fun r11 => ?_)
    refine r_bipush (pc := 14) C dX5_readsSilence_14 (cb_44) ?_
    refine r_icmp_eq (pc := 16) (tgt := 21) C dX5_readsSilence_16 (by decide) ?_ ?_
    · refine r_aload_n (pc := 21) C 0 dX5_readsSilence_21 rfl rfl ?_
      refine r_dup (pc := 22) C dX5_readsSilence_22 rfl ?_
      refine gf_X5_100 (pc := 23) C 0 rfl rfl dX5_readsSilence_23 ?_
      refine r_iconst (pc := 26) C dX5_readsSilence_26 (ci_1) ?_
      refine r_iadd (pc := 27) C dX5_readsSilence_27 ?_
      refine pf_X5_100 (pc := 28) (ws' := wdM cI q (upd MI 14 ((MI 14) + (1 : Int32))) MA) C 0 rfl rfl dX5_readsSilence_28 rfl ?_
      refine r_aload_n (pc := 31) C 0 dX5_readsSilence_31 rfl rfl ?_
      refine r_iload_n (pc := 32) C 1 dX5_readsSilence_32 rfl rfl ?_
      refine r_iload_n (pc := 33) C 2 dX5_readsSilence_33 rfl rfl ?_
      refine r_callV0 (pc := 34) (rest := []) C (m_X5_codeAt (xl X) (xD X) cI cS q (upd MI 14 ((MI 14) + (1 : Int32))) MA a1 a2) mv_X5_103 rfl rfl rfl ⟨Nat.zero_le _, Nat.zero_le _⟩ rfl rfl (Nat.le_of_ble_eq_true rfl) dX5_readsSilence_34 (fun r34 => ?_)
      refine r_istore_n (pc := 37) C dX5_readsSilence_37 rfl (by decide) (lv' := [(3, .int r34), (0, .ref (q 0)), (1, .int a1), (2, .int a2)]) rfl ?_
      refine r_iload_n (pc := 38) C 0 dX5_readsSilence_38 rfl rfl ?_
      refine r_bipush (pc := 39) C dX5_readsSilence_39 (cb_115) ?_
      refine r_icmp_eq (pc := 41) (tgt := 58) C dX5_readsSilence_41 (by decide) ?_ ?_
      · exact r_sub [1, 2, 3, 0] rfl (wj_X5_readsSilence_58 X C q MI MA a1 a2 r34 )
      · refine r_iload_n (pc := 44) C 0 dX5_readsSilence_44 rfl rfl ?_
        refine r_bipush (pc := 45) C dX5_readsSilence_45 (cb_107) ?_
        refine r_icmp_eq (pc := 47) (tgt := 58) C dX5_readsSilence_47 (by decide) ?_ ?_
        · exact r_sub [1, 2, 3, 0] rfl (wj_X5_readsSilence_58 X C q MI MA a1 a2 r34 )
        · refine r_iload_n (pc := 50) C 0 dX5_readsSilence_50 rfl rfl ?_
          refine r_bipush (pc := 51) C dX5_readsSilence_51 (cb_104) ?_
          refine r_icmp_eq (pc := 53) (tgt := 58) C dX5_readsSilence_53 (by decide) ?_ ?_
          · exact r_sub [1, 2, 3, 0] rfl (wj_X5_readsSilence_58 X C q MI MA a1 a2 r34 )
          · refine r_iconst (pc := 56) C dX5_readsSilence_56 (ci_0) ?_
            exact r_zret (pc := 57) C rfl rfl rfl dX5_readsSilence_57
    · refine r_iconst (pc := 19) C dX5_readsSilence_19 (ci_0) ?_
      exact r_zret (pc := 20) C rfl rfl rfl dX5_readsSilence_20)
set_option maxHeartbeats 4000000 in
set_option maxRecDepth 100000 in
theorem wl_X5_readsFrontier_115 {cI cS : ClassId} (X : CX) (C : Cx X RX5 cX5_readsFrontier 4 (some .boolean) (rmz 3 75) (tyz cI cS)) (q : Nat → Nat) (a1 : Int32) (a2 : Int32)  (kk : Int32 → (Nat → Int32) → (Nat → Nat → Int32) → Option (Int32 × (Nat → Int32) × (Nat → Nat → Int32))) (hk_115 : ∀ (el3_115 : Int32) (eMI_115 : Nat → Int32) (eMA_115 : Nat → Nat → Int32), JR X (QF X (tyz cI cS) 0 0 (fun o : Int32 × (Nat → Int32) × (Nat → Nat → Int32) => some (.int o.1)) (fun o : Int32 × (Nat → Int32) × (Nat → Nat → Int32) => wdM cI q o.2.1 o.2.2)) 4 0 0 (kk el3_115 eMI_115 eMA_115) (wdM cI q eMI_115 eMA_115) [(3, .int el3_115)] 144 []) : ∀ (fuel : Nat) (l3_115 : Int32) (MI_115 : Nat → Int32) (MA_115 : Nat → Nat → Int32), JR X (QF X (tyz cI cS) 0 0 (fun o : Int32 × (Nat → Int32) × (Nat → Nat → Int32) => some (.int o.1)) (fun o : Int32 × (Nat → Int32) × (Nat → Nat → Int32) => wdM cI q o.2.1 o.2.2)) 4 0 0 (lp_X5_readsFrontier_115 kk a1 a2 fuel l3_115 MI_115 MA_115) (wdM cI q MI_115 MA_115) [(0, .ref (q 0)), (1, .int a1), (2, .int a2), (3, .int l3_115)] 115 [] := by
  intro fuel
  induction fuel with
  | zero => intro l3_115 MI_115 MA_115; exact r_none
  | succ fu_115 ih_115 =>
    intro l3_115 MI_115 MA_115
    unfold lp_X5_readsFrontier_115
    refine r_iload_n (pc := 115) C 3 dX5_readsFrontier_115 rfl rfl ?_
    refine r_if_eq (pc := 116) (tgt := 144) C dX5_readsFrontier_116 (by decide) ?_ ?_
    · exact r_sub [3] rfl (hk_115 l3_115 MI_115 MA_115)
    · refine r_aload_n (pc := 119) C 0 dX5_readsFrontier_119 rfl rfl ?_
      refine gf_X5_116 (pc := 120) C 0 rfl rfl dX5_readsFrontier_120 ?_
      refine r_if_eq (pc := 123) (tgt := 134) C dX5_readsFrontier_123 (by decide) ?_ ?_
      · refine r_aload_n (pc := 134) C 0 dX5_readsFrontier_134 rfl rfl ?_
        refine r_iload_n (pc := 135) C 1 dX5_readsFrontier_135 rfl rfl ?_
        refine r_iload_n (pc := 136) C 2 dX5_readsFrontier_136 rfl rfl ?_
        refine r_callV0 (pc := 137) (rest := []) C (m_X5_readsSilence (xl X) (xD X) cI cS q MI_115 MA_115 a1 a2) mv_X5_126 rfl rfl rfl ⟨Nat.zero_le _, Nat.zero_le _⟩ rfl rfl (Nat.le_of_ble_eq_true rfl) dX5_readsFrontier_137 (fun r137 => ?_)
        refine r_istore_n (pc := 140) C dX5_readsFrontier_140 rfl (by decide) (lv' := [(3, .int r137.1), (0, .ref (q 0)), (1, .int a1), (2, .int a2)]) rfl ?_
        refine r_goto (pc := 141) (tgt := 115) C dX5_readsFrontier_141 (by decide) ?_
        exact r_sub [1, 2, 3, 0] rfl (ih_115 r137.1 r137.2.1 r137.2.2)
      · refine r_aload_n (pc := 126) C 0 dX5_readsFrontier_126 rfl rfl ?_
        refine gf_X5_100 (pc := 127) C 0 rfl rfl dX5_readsFrontier_127 ?_
        refine r_iload_n (pc := 130) C 2 dX5_readsFrontier_130 rfl rfl ?_
        refine r_icmp_ge (pc := 131) (tgt := 144) C dX5_readsFrontier_131 (by decide) ?_ ?_
        · exact r_sub [3] rfl (hk_115 l3_115 MI_115 MA_115)
        · refine r_aload_n (pc := 134) C 0 dX5_readsFrontier_134 rfl rfl ?_
          refine r_iload_n (pc := 135) C 1 dX5_readsFrontier_135 rfl rfl ?_
          refine r_iload_n (pc := 136) C 2 dX5_readsFrontier_136 rfl rfl ?_
          refine r_callV0 (pc := 137) (rest := []) C (m_X5_readsSilence (xl X) (xD X) cI cS q MI_115 MA_115 a1 a2) mv_X5_126 rfl rfl rfl ⟨Nat.zero_le _, Nat.zero_le _⟩ rfl rfl (Nat.le_of_ble_eq_true rfl) dX5_readsFrontier_137 (fun r137 => ?_)
          refine r_istore_n (pc := 140) C dX5_readsFrontier_140 rfl (by decide) (lv' := [(3, .int r137.1), (0, .ref (q 0)), (1, .int a1), (2, .int a2)]) rfl ?_
          refine r_goto (pc := 141) (tgt := 115) C dX5_readsFrontier_141 (by decide) ?_
          exact r_sub [1, 2, 3, 0] rfl (ih_115 r137.1 r137.2.1 r137.2.2)
set_option maxHeartbeats 4000000 in
set_option maxRecDepth 100000 in
theorem wl_X5_readsFrontier_83 {cI cS : ClassId} (X : CX) (C : Cx X RX5 cX5_readsFrontier 4 (some .boolean) (rmz 3 75) (tyz cI cS)) (q : Nat → Nat) (a1 : Int32) (a2 : Int32)  (kk : Int32 → (Nat → Int32) → (Nat → Nat → Int32) → Option (Int32 × (Nat → Int32) × (Nat → Nat → Int32))) (hk_83 : ∀ (el3_83 : Int32) (eMI_83 : Nat → Int32) (eMA_83 : Nat → Nat → Int32), JR X (QF X (tyz cI cS) 0 0 (fun o : Int32 × (Nat → Int32) × (Nat → Nat → Int32) => some (.int o.1)) (fun o : Int32 × (Nat → Int32) × (Nat → Nat → Int32) => wdM cI q o.2.1 o.2.2)) 4 0 0 (kk el3_83 eMI_83 eMA_83) (wdM cI q eMI_83 eMA_83) [(0, .ref (q 0)), (1, .int a1), (2, .int a2), (3, .int el3_83)] 115 []) : ∀ (fuel : Nat) (l3_83 : Int32) (MI_83 : Nat → Int32) (MA_83 : Nat → Nat → Int32), JR X (QF X (tyz cI cS) 0 0 (fun o : Int32 × (Nat → Int32) × (Nat → Nat → Int32) => some (.int o.1)) (fun o : Int32 × (Nat → Int32) × (Nat → Nat → Int32) => wdM cI q o.2.1 o.2.2)) 4 0 0 (lp_X5_readsFrontier_83 kk a1 a2 fuel l3_83 MI_83 MA_83) (wdM cI q MI_83 MA_83) [(0, .ref (q 0)), (1, .int a1), (2, .int a2), (3, .int l3_83)] 83 [] := by
  intro fuel
  induction fuel with
  | zero => intro l3_83 MI_83 MA_83; exact r_none
  | succ fu_83 ih_83 =>
    intro l3_83 MI_83 MA_83
    unfold lp_X5_readsFrontier_83
    refine r_iload_n (pc := 83) C 3 dX5_readsFrontier_83 rfl rfl ?_
    refine r_if_eq (pc := 84) (tgt := 115) C dX5_readsFrontier_84 (by decide) ?_ ?_
    · exact r_sub [0, 1, 2, 3] rfl (hk_83 l3_83 MI_83 MA_83)
    · refine r_aload_n (pc := 87) C 0 dX5_readsFrontier_87 rfl rfl ?_
      refine gf_X5_109 (pc := 88) C 0 rfl rfl dX5_readsFrontier_88 ?_
      refine r_if_eq (pc := 91) (tgt := 105) C dX5_readsFrontier_91 (by decide) ?_ ?_
      · refine r_aload_n (pc := 105) C 0 dX5_readsFrontier_105 rfl rfl ?_
        refine r_iload_n (pc := 106) C 1 dX5_readsFrontier_106 rfl rfl ?_
        refine r_iload_n (pc := 107) C 2 dX5_readsFrontier_107 rfl rfl ?_
        refine r_callV0 (pc := 108) (rest := []) C (m_X5_readsPost (xl X) (xD X) cI cS q MI_83 MA_83 a1 a2) mv_X5_122 rfl rfl rfl ⟨Nat.zero_le _, Nat.zero_le _⟩ rfl rfl (Nat.le_of_ble_eq_true rfl) dX5_readsFrontier_108 (fun r108 => ?_)
        refine r_istore_n (pc := 111) C dX5_readsFrontier_111 rfl (by decide) (lv' := [(3, .int r108.1), (0, .ref (q 0)), (1, .int a1), (2, .int a2)]) rfl ?_
        refine r_goto (pc := 112) (tgt := 83) C dX5_readsFrontier_112 (by decide) ?_
        exact r_sub [1, 2, 3, 0] rfl (ih_83 r108.1 r108.2.1 r108.2.2)
      · refine r_aload_n (pc := 94) C 0 dX5_readsFrontier_94 rfl rfl ?_
        refine r_iload_n (pc := 95) C 1 dX5_readsFrontier_95 rfl rfl ?_
        refine r_iload_n (pc := 96) C 2 dX5_readsFrontier_96 rfl rfl ?_
        refine r_callV0 (pc := 97) (rest := []) C (m_X5_codeAt (xl X) (xD X) cI cS q MI_83 MA_83 a1 a2) mv_X5_103 rfl rfl rfl ⟨Nat.zero_le _, Nat.zero_le _⟩ rfl rfl (Nat.le_of_ble_eq_true rfl) dX5_readsFrontier_97 (fun r97 => ?_)
        refine r_bipush (pc := 100) C dX5_readsFrontier_100 (cb_59) ?_
        refine r_icmp_ne (pc := 102) (tgt := 115) C dX5_readsFrontier_102 (by decide) ?_ ?_
        · exact r_sub [0, 1, 2, 3] rfl (hk_83 l3_83 MI_83 MA_83)
        · refine r_aload_n (pc := 105) C 0 dX5_readsFrontier_105 rfl rfl ?_
          refine r_iload_n (pc := 106) C 1 dX5_readsFrontier_106 rfl rfl ?_
          refine r_iload_n (pc := 107) C 2 dX5_readsFrontier_107 rfl rfl ?_
          refine r_callV0 (pc := 108) (rest := []) C (m_X5_readsPost (xl X) (xD X) cI cS q MI_83 MA_83 a1 a2) mv_X5_122 rfl rfl rfl ⟨Nat.zero_le _, Nat.zero_le _⟩ rfl rfl (Nat.le_of_ble_eq_true rfl) dX5_readsFrontier_108 (fun r108 => ?_)
          refine r_istore_n (pc := 111) C dX5_readsFrontier_111 rfl (by decide) (lv' := [(3, .int r108.1), (0, .ref (q 0)), (1, .int a1), (2, .int a2)]) rfl ?_
          refine r_goto (pc := 112) (tgt := 83) C dX5_readsFrontier_112 (by decide) ?_
          exact r_sub [1, 2, 3, 0] rfl (ih_83 r108.1 r108.2.1 r108.2.2)
set_option maxHeartbeats 4000000 in
set_option maxRecDepth 100000 in
theorem wj_X5_readsFrontier_82 {cI cS : ClassId} (X : CX) (C : Cx X RX5 cX5_readsFrontier 4 (some .boolean) (rmz 3 75) (tyz cI cS)) (q : Nat → Nat) (MA : Nat → Nat → Int32) (a1 : Int32) (a2 : Int32) (s0_67 : Int32) (MI_j67 : Nat → Int32) (s0_82 : Int32)  : JR X (QF X (tyz cI cS) 0 0 (fun o : Int32 × (Nat → Int32) × (Nat → Nat → Int32) => some (.int o.1)) (fun o : Int32 × (Nat → Int32) × (Nat → Nat → Int32) => wdM cI q o.2.1 o.2.2)) 4 0 0 (jb_X5_readsFrontier_82 MA a1 a2 s0_67 MI_j67 s0_82) (wdM cI q (upd MI_j67 15 s0_67) MA) [(0, .ref (q 0)), (1, .int a1), (2, .int a2)] 82 [.int s0_82] := by
  unfold jb_X5_readsFrontier_82
  refine r_istore_n (pc := 82) C dX5_readsFrontier_82 rfl (by decide) (lv' := [(3, .int s0_82), (0, .ref (q 0)), (1, .int a1), (2, .int a2)]) rfl ?_
  refine r_sub [1, 2, 3, 0] rfl (wl_X5_readsFrontier_83 X C q a1 a2  _ (fun el3_83 eMI_83 eMA_83 => ?_) 1000 s0_82 (upd MI_j67 15 s0_67) MA)
  refine r_sub [0, 1, 2, 3] rfl (wl_X5_readsFrontier_115 X C q a1 a2  _ (fun el3_115 eMI_115 eMA_115 => ?_) 1000 el3_83 eMI_83 eMA_83)
  refine r_iload_n (pc := 144) C 0 dX5_readsFrontier_144 rfl rfl ?_
  exact r_zretG (pc := 145) C rfl rfl dX5_readsFrontier_145
set_option maxHeartbeats 4000000 in
set_option maxRecDepth 100000 in
theorem wj_X5_readsFrontier_67 {cI cS : ClassId} (X : CX) (C : Cx X RX5 cX5_readsFrontier 4 (some .boolean) (rmz 3 75) (tyz cI cS)) (q : Nat → Nat) (MA : Nat → Nat → Int32) (a1 : Int32) (a2 : Int32) (s0_67 : Int32) (MI_j67 : Nat → Int32)  : JR X (QF X (tyz cI cS) 0 0 (fun o : Int32 × (Nat → Int32) × (Nat → Nat → Int32) => some (.int o.1)) (fun o : Int32 × (Nat → Int32) × (Nat → Nat → Int32) => wdM cI q o.2.1 o.2.2)) 4 0 0 (jb_X5_readsFrontier_67 MA a1 a2 s0_67 MI_j67) (wdM cI q MI_j67 MA) [(0, .ref (q 0)), (1, .int a1), (2, .int a2)] 67 [.int s0_67, .ref (q 0)] := by
  unfold jb_X5_readsFrontier_67
  refine pf_X5_119 (pc := 67) (ws' := wdM cI q (upd MI_j67 15 s0_67) MA) C 0 rfl rfl dX5_readsFrontier_67 rfl ?_
  refine r_aload_n (pc := 70) C 0 dX5_readsFrontier_70 rfl rfl ?_
  refine gf_X5_119 (pc := 71) C 0 rfl rfl dX5_readsFrontier_71 ?_
  refine r_if_lt (pc := 74) (tgt := 81) C dX5_readsFrontier_74 (by decide) ?_ ?_
  · refine r_iconst (pc := 81) C dX5_readsFrontier_81 (ci_0) ?_
    exact r_sub [0, 1, 2] rfl (wj_X5_readsFrontier_82 X C q MA a1 a2 s0_67 MI_j67 (0 : Int32) )
  · refine r_iconst (pc := 77) C dX5_readsFrontier_77 (ci_1) ?_
    refine r_goto (pc := 78) (tgt := 82) C dX5_readsFrontier_78 (by decide) ?_
    exact r_sub [0, 1, 2] rfl (wj_X5_readsFrontier_82 X C q MA a1 a2 s0_67 MI_j67 (1 : Int32) )
set_option maxHeartbeats 4000000 in
set_option maxRecDepth 100000 in
theorem wj_X5_readsFrontier_46 {cI cS : ClassId} (X : CX) (C : Cx X RX5 cX5_readsFrontier 4 (some .boolean) (rmz 3 75) (tyz cI cS)) (q : Nat → Nat) (MI : Nat → Int32) (MA : Nat → Nat → Int32) (a1 : Int32) (a2 : Int32) (s0_31 : Int32) (s0_46 : Int32)  : JR X (QF X (tyz cI cS) 0 0 (fun o : Int32 × (Nat → Int32) × (Nat → Nat → Int32) => some (.int o.1)) (fun o : Int32 × (Nat → Int32) × (Nat → Nat → Int32) => wdM cI q o.2.1 o.2.2)) 4 0 0 (jb_X5_readsFrontier_46 MI MA a1 a2 s0_31 s0_46) (wdM cI q (upd (upd (upd MI 14 (0 : Int32)) 16 (0 : Int32)) 17 (0 : Int32)) MA) [(0, .ref (q 0)), (1, .int a1), (2, .int a2), (3, .int s0_31)] 46 [.int s0_46, .int ((upd (upd (upd MI 14 (0 : Int32)) 16 (0 : Int32)) 17 (0 : Int32)) 14), .ref (q 0)] := by
  unfold jb_X5_readsFrontier_46
  refine r_iadd (pc := 46) C dX5_readsFrontier_46 ?_
  refine pf_X5_100 (pc := 47) (ws' := wdM cI q (upd (upd (upd (upd MI 14 (0 : Int32)) 16 (0 : Int32)) 17 (0 : Int32)) 14 (((upd (upd (upd MI 14 (0 : Int32)) 16 (0 : Int32)) 17 (0 : Int32)) 14) + s0_46)) MA) C 0 rfl rfl dX5_readsFrontier_47 rfl ?_
  refine r_aload_n (pc := 50) C 0 dX5_readsFrontier_50 rfl rfl ?_
  refine r_iload_n (pc := 51) C 3 dX5_readsFrontier_51 rfl rfl ?_
  refine r_if_eq (pc := 52) (tgt := 65) C dX5_readsFrontier_52 (by decide) ?_ ?_
  · refine r_bipush (pc := 65) C dX5_readsFrontier_65 (cb_m9) ?_
    exact r_sub [0, 1, 2] rfl (wj_X5_readsFrontier_67 X C q MA a1 a2 (-9 : Int32) (upd (upd (upd (upd MI 14 (0 : Int32)) 16 (0 : Int32)) 17 (0 : Int32)) 14 (((upd (upd (upd MI 14 (0 : Int32)) 16 (0 : Int32)) 17 (0 : Int32)) 14) + s0_46)) )
  · refine r_aload_n (pc := 55) C 0 dX5_readsFrontier_55 rfl rfl ?_
    refine r_iload_n (pc := 56) C 1 dX5_readsFrontier_56 rfl rfl ?_
    refine r_iload_n (pc := 57) C 2 dX5_readsFrontier_57 rfl rfl ?_
    refine r_iconst (pc := 58) C dX5_readsFrontier_58 (ci_0) ?_
    refine r_callV0 (pc := 59) (rest := [.ref (q 0)]) C (m_X5_figure (xl X) (xD X) cI cS q (upd (upd (upd (upd MI 14 (0 : Int32)) 16 (0 : Int32)) 17 (0 : Int32)) 14 (((upd (upd (upd MI 14 (0 : Int32)) 16 (0 : Int32)) 17 (0 : Int32)) 14) + s0_46)) MA a1 a2 (0 : Int32)) mv_X5_112 rfl rfl rfl ⟨Nat.zero_le _, Nat.zero_le _⟩ rfl rfl (Nat.le_of_ble_eq_true rfl) dX5_readsFrontier_59 (fun r59 => ?_)
    refine r_goto (pc := 62) (tgt := 67) C dX5_readsFrontier_62 (by decide) ?_
    exact r_sub [0, 1, 2] rfl (wj_X5_readsFrontier_67 X C q MA a1 a2 r59.1 r59.2 )
set_option maxHeartbeats 4000000 in
set_option maxRecDepth 100000 in
theorem wj_X5_readsFrontier_31 {cI cS : ClassId} (X : CX) (C : Cx X RX5 cX5_readsFrontier 4 (some .boolean) (rmz 3 75) (tyz cI cS)) (q : Nat → Nat) (MI : Nat → Int32) (MA : Nat → Nat → Int32) (a1 : Int32) (a2 : Int32) (s0_31 : Int32)  : JR X (QF X (tyz cI cS) 0 0 (fun o : Int32 × (Nat → Int32) × (Nat → Nat → Int32) => some (.int o.1)) (fun o : Int32 × (Nat → Int32) × (Nat → Nat → Int32) => wdM cI q o.2.1 o.2.2)) 4 0 0 (jb_X5_readsFrontier_31 MI MA a1 a2 s0_31) (wdM cI q (upd (upd (upd MI 14 (0 : Int32)) 16 (0 : Int32)) 17 (0 : Int32)) MA) [(0, .ref (q 0)), (1, .int a1), (2, .int a2)] 31 [.int s0_31] := by
  unfold jb_X5_readsFrontier_31
  refine r_istore_n (pc := 31) C dX5_readsFrontier_31 rfl (by decide) (lv' := [(3, .int s0_31), (0, .ref (q 0)), (1, .int a1), (2, .int a2)]) rfl ?_
  refine r_aload_n (pc := 32) C 1 dX5_readsFrontier_32 rfl rfl ?_
  refine r_dup (pc := 33) C dX5_readsFrontier_33 rfl ?_
  refine gf_X5_100 (pc := 34) C 0 rfl rfl dX5_readsFrontier_34 ?_
  refine r_iload_n (pc := 37) C 0 dX5_readsFrontier_37 rfl rfl ?_
  refine r_if_eq (pc := 38) (tgt := 45) C dX5_readsFrontier_38 (by decide) ?_ ?_
  · refine r_iconst (pc := 45) C dX5_readsFrontier_45 (ci_0) ?_
    exact r_sub [1, 2, 3, 0] rfl (wj_X5_readsFrontier_46 X C q MI MA a1 a2 s0_31 (0 : Int32) )
  · refine r_iconst (pc := 41) C dX5_readsFrontier_41 (ci_1) ?_
    refine r_goto (pc := 42) (tgt := 46) C dX5_readsFrontier_42 (by decide) ?_
    exact r_sub [1, 2, 3, 0] rfl (wj_X5_readsFrontier_46 X C q MI MA a1 a2 s0_31 (1 : Int32) )
set_option maxHeartbeats 4000000 in
set_option maxRecDepth 100000 in
theorem m_X5_readsFrontier (l : Launch) (D : va_G) (cI cS : ClassId) (q : Nat → Nat) (MI : Nat → Int32) (MA : Nat → Nat → Int32) (a1 : Int32) (a2 : Int32) : MX l D (tyz cI cS) yX5_readsFrontier cX5_readsFrontier 4 (some .boolean) (rmz 3 75) [.ref (q 0), .int a1, .int a2] (wdM cI q MI MA) (f_X5_readsFrontier MI MA a1 a2) (fun o : Int32 × (Nat → Int32) × (Nat → Nat → Int32) => some (.int o.1)) (fun o : Int32 × (Nat → Int32) × (Nat → Nat → Int32) => wdM cI q o.2.1 o.2.2) := met_of (own := RX5) (by decide) rfl (Nat.le_of_ble_eq_true rfl) (fun X hxl hxD C => by
  subst hxl
  subst hxD
  show JR X _ _ 0 0 (f_X5_readsFrontier MI MA a1 a2) (wdM cI q MI MA) [(0, .ref (q 0)), (1, .int a1), (2, .int a2)] 0 []
  unfold f_X5_readsFrontier
  refine r_aload_n (pc := 0) C 0 dX5_readsFrontier_0 rfl rfl ?_
  refine r_iconst (pc := 1) C dX5_readsFrontier_1 (ci_0) ?_
  refine pf_X5_100 (pc := 2) (ws' := wdM cI q (upd MI 14 (0 : Int32)) MA) C 0 rfl rfl dX5_readsFrontier_2 rfl ?_
  refine r_aload_n (pc := 5) C 0 dX5_readsFrontier_5 rfl rfl ?_
  refine r_iconst (pc := 6) C dX5_readsFrontier_6 (ci_0) ?_
  refine pf_X5_109 (pc := 7) (ws' := wdM cI q (upd (upd MI 14 (0 : Int32)) 16 (0 : Int32)) MA) C 0 rfl rfl dX5_readsFrontier_7 rfl ?_
  refine r_aload_n (pc := 10) C 0 dX5_readsFrontier_10 rfl rfl ?_
  refine r_iconst (pc := 11) C dX5_readsFrontier_11 (ci_0) ?_
  refine pf_X5_116 (pc := 12) (ws' := wdM cI q (upd (upd (upd MI 14 (0 : Int32)) 16 (0 : Int32)) 17 (0 : Int32)) MA) C 0 rfl rfl dX5_readsFrontier_12 rfl ?_
  refine r_aload_n (pc := 15) C 0 dX5_readsFrontier_15 rfl rfl ?_
  refine r_iload_n (pc := 16) C 1 dX5_readsFrontier_16 rfl rfl ?_
  refine r_iload_n (pc := 17) C 2 dX5_readsFrontier_17 rfl rfl ?_
  refine r_callV0 (pc := 18) (rest := []) C (m_X5_codeAt (xl X) (xD X) cI cS q (upd (upd (upd MI 14 (0 : Int32)) 16 (0 : Int32)) 17 (0 : Int32)) MA a1 a2) mv_X5_103 rfl rfl rfl ⟨Nat.zero_le _, Nat.zero_le _⟩ rfl rfl (Nat.le_of_ble_eq_true rfl) dX5_readsFrontier_18 (fun r18 => ?_)
  refine r_bipush (pc := 21) C dX5_readsFrontier_21 (cb_117) ?_
  refine r_icmp_ne (pc := 23) (tgt := 30) C dX5_readsFrontier_23 (by decide) ?_ ?_
  · refine r_iconst (pc := 30) C dX5_readsFrontier_30 (ci_0) ?_
    exact r_sub [0, 1, 2] rfl (wj_X5_readsFrontier_31 X C q MI MA a1 a2 (0 : Int32) )
  · refine r_iconst (pc := 26) C dX5_readsFrontier_26 (ci_1) ?_
    refine r_goto (pc := 27) (tgt := 31) C dX5_readsFrontier_27 (by decide) ?_
    exact r_sub [0, 1, 2] rfl (wj_X5_readsFrontier_31 X C q MI MA a1 a2 (1 : Int32) ))
set_option maxHeartbeats 4000000 in
set_option maxRecDepth 100000 in
theorem m_X5_isBeyond (l : Launch) (D : va_G) (cI cS : ClassId) (a0 : Int32) (a1 : Int64) (a3 : Int32) : MX l D (tyz cI cS) yX5_isBeyond cX5_isBeyond 4 (some .boolean) (rmz 0 0) [.int a0, .long a1, .int a3] ([]) (f_X5_isBeyond a0 a1 a3) (fun o : Int32 => some (.int o)) (fun o : Int32 => []) := met_of (own := RX5) (by decide) rfl (Nat.le_of_ble_eq_true rfl) (fun X hxl hxD C => by
  subst hxl
  subst hxD
  show JR X _ _ 0 0 (f_X5_isBeyond a0 a1 a3) ([]) [(0, .int a0), (1, .long a1), (3, .int a3)] 0 []
  unfold f_X5_isBeyond
  refine r_iload_n (pc := 0) C 0 dX5_isBeyond_0 rfl rfl ?_
  refine r_if_lt (pc := 1) (tgt := 20) C dX5_isBeyond_1 (by decide) ?_ ?_
  · refine r_iconst (pc := 20) C dX5_isBeyond_20 (ci_1) ?_
    refine r_goto (pc := 21) (tgt := 25) C dX5_isBeyond_21 (by decide) ?_
    exact r_zret (pc := 25) C rfl rfl rfl dX5_isBeyond_25
  · refine r_lload_n (pc := 4) C 1 dX5_isBeyond_4 rfl rfl ?_
    refine r_lconst (pc := 5) (v := 0) C dX5_isBeyond_5 rfl ?_
    refine r_lcmp (pc := 6) C dX5_isBeyond_6 ?_
    refine r_if_lt (pc := 7) (tgt := 20) C dX5_isBeyond_7 (by decide) ?_ ?_
    · refine r_iconst (pc := 20) C dX5_isBeyond_20 (ci_1) ?_
      refine r_goto (pc := 21) (tgt := 25) C dX5_isBeyond_21 (by decide) ?_
      exact r_zret (pc := 25) C rfl rfl rfl dX5_isBeyond_25
    · refine r_iload_n (pc := 10) C 0 dX5_isBeyond_10 rfl rfl ?_
      refine r_i2l (pc := 11) C dX5_isBeyond_11 ?_
      refine r_lload_n (pc := 12) C 1 dX5_isBeyond_12 rfl rfl ?_
      refine r_ladd (pc := 13) C dX5_isBeyond_13 ?_
      refine r_iload_n (pc := 14) C 2 dX5_isBeyond_14 rfl rfl ?_
      refine r_i2l (pc := 15) C dX5_isBeyond_15 ?_
      refine r_lcmp (pc := 16) C dX5_isBeyond_16 ?_
      refine r_if_le (pc := 17) (tgt := 24) C dX5_isBeyond_17 (by decide) ?_ ?_
      · refine r_iconst (pc := 24) C dX5_isBeyond_24 (ci_0) ?_
        exact r_zret (pc := 25) C rfl rfl rfl dX5_isBeyond_25
      · refine r_iconst (pc := 20) C dX5_isBeyond_20 (ci_1) ?_
        refine r_goto (pc := 21) (tgt := 25) C dX5_isBeyond_21 (by decide) ?_
        exact r_zret (pc := 25) C rfl rfl rfl dX5_isBeyond_25)
set_option maxHeartbeats 4000000 in
set_option maxRecDepth 100000 in
theorem wj_X5_cellsBarred_25 {cI cS : ClassId} (X : CX) (C : Cx X RX5 cX5_cellsBarred 6 (some .int) (rmz 1 23) (tyz cI cS)) (q : Nat → Nat) (MI : Nat → Int32) (MA : Nat → Nat → Int32) (a1 : Int32) (a3 : Int32) (a4 : Int64)  : JR X (QF X (tyz cI cS) 0 0 (fun o : Int32 × (Nat → Int32) => some (.int o.1)) (fun o : Int32 × (Nat → Int32) => wdM cI q o.2 MA)) 6 0 0 (jb_X5_cellsBarred_25 MI MA a1 a3 a4) (wdM cI q MI MA) [(0, .ref (q 0)), (1, .int a1), (3, .int a3), (4, .long a4)] 25 [] := by
  unfold jb_X5_cellsBarred_25
  refine r_aload_n (pc := 25) C 0 dX5_cellsBarred_25 rfl rfl ?_
  refine gf_X5_61 (pc := 26) C 0 rfl rfl dX5_cellsBarred_26 ?_
  refine r_iload_n (pc := 29) C 1 dX5_cellsBarred_29 rfl rfl ?_
  refine r_iald (pc := 30) C 18 rfl dX5_cellsBarred_30 ?_
  refine r_if_ge (pc := 31) (tgt := 40) C dX5_cellsBarred_31 (by decide) ?_ ?_
  · refine r_lload (pc := 40) C 3 dX5_cellsBarred_40 rfl ?_
    refine r_lconst (pc := 42) (v := 0) C dX5_cellsBarred_42 rfl ?_
    refine r_lcmp (pc := 43) C dX5_cellsBarred_43 ?_
    refine r_if_ge (pc := 44) (tgt := 53) C dX5_cellsBarred_44 (by decide) ?_ ?_
    · refine r_iload_n (pc := 53) C 2 dX5_cellsBarred_53 rfl rfl ?_
      refine r_lload (pc := 54) C 3 dX5_cellsBarred_54 rfl ?_
      refine r_aload_n (pc := 56) C 0 dX5_cellsBarred_56 rfl rfl ?_
      refine gf_X5_61 (pc := 57) C 0 rfl rfl dX5_cellsBarred_57 ?_
      refine r_iload_n (pc := 60) C 1 dX5_cellsBarred_60 rfl rfl ?_
      refine r_iald (pc := 61) C 18 rfl dX5_cellsBarred_61 ?_
      refine r_callSr (pc := 62) (rest := []) C (m_X5_isBeyond (xl X) (xD X) cI cS a3 a4 (MA 29 a1.toNatClampNeg)) ms_X5_133 rfl ⟨Nat.zero_le _, Nat.zero_le _⟩ rfl rfl (Nat.le_of_ble_eq_true rfl) dX5_cellsBarred_62 (fun r62 => ?_)
      refine r_if_eq (pc := 65) (tgt := 76) C dX5_cellsBarred_65 (by decide) ?_ ?_
      · refine r_iconst (pc := 76) C dX5_cellsBarred_76 (ci_0) ?_
        exact r_iret (pc := 77) C rfl rfl dX5_cellsBarred_77
      · refine r_aload_n (pc := 68) C 0 dX5_cellsBarred_68 rfl rfl ?_
        refine r_iconst (pc := 69) C dX5_cellsBarred_69 (ci_3) ?_
        refine r_callV0 (pc := 70) (rest := []) C (m_X5_failed (xl X) (xD X) cI cS q MI MA (3 : Int32)) mv_X5_129 rfl rfl rfl ⟨Nat.zero_le _, Nat.zero_le _⟩ rfl rfl (Nat.le_of_ble_eq_true rfl) dX5_cellsBarred_70 (fun r70 => ?_)
        refine r_goto (pc := 73) (tgt := 77) C dX5_cellsBarred_73 (by decide) ?_
        exact r_iret (pc := 77) C rfl rfl dX5_cellsBarred_77
    · refine r_aload_n (pc := 47) C 0 dX5_cellsBarred_47 rfl rfl ?_
      refine r_iconst (pc := 48) C dX5_cellsBarred_48 (ci_4) ?_
      refine r_callV0 (pc := 49) (rest := []) C (m_X5_failed (xl X) (xD X) cI cS q MI MA (4 : Int32)) mv_X5_129 rfl rfl rfl ⟨Nat.zero_le _, Nat.zero_le _⟩ rfl rfl (Nat.le_of_ble_eq_true rfl) dX5_cellsBarred_49 (fun r49 => ?_)
      exact r_iret (pc := 52) C rfl rfl dX5_cellsBarred_52
  · refine r_aload_n (pc := 34) C 0 dX5_cellsBarred_34 rfl rfl ?_
    refine r_iconst (pc := 35) C dX5_cellsBarred_35 (ci_1) ?_
    refine r_callV0 (pc := 36) (rest := []) C (m_X5_failed (xl X) (xD X) cI cS q MI MA (1 : Int32)) mv_X5_129 rfl rfl rfl ⟨Nat.zero_le _, Nat.zero_le _⟩ rfl rfl (Nat.le_of_ble_eq_true rfl) dX5_cellsBarred_36 (fun r36 => ?_)
    exact r_iret (pc := 39) C rfl rfl dX5_cellsBarred_39
set_option maxHeartbeats 4000000 in
set_option maxRecDepth 100000 in
theorem m_X5_cellsBarred (l : Launch) (D : va_G) (cI cS : ClassId) (q : Nat → Nat) (MI : Nat → Int32) (MA : Nat → Nat → Int32) (a1 : Int32) (a2 : Int32) (a3 : Int32) (a4 : Int64) : MX l D (tyz cI cS) yX5_cellsBarred cX5_cellsBarred 6 (some .int) (rmz 1 23) [.ref (q 0), .int a1, .int a2, .int a3, .long a4] (wdM cI q MI MA) (f_X5_cellsBarred MI MA a1 a2 a3 a4) (fun o : Int32 × (Nat → Int32) => some (.int o.1)) (fun o : Int32 × (Nat → Int32) => wdM cI q o.2 MA) := met_of (own := RX5) (by decide) rfl (Nat.le_of_ble_eq_true rfl) (fun X hxl hxD C => by
  subst hxl
  subst hxD
  show JR X _ _ 0 0 (f_X5_cellsBarred MI MA a1 a2 a3 a4) (wdM cI q MI MA) [(0, .ref (q 0)), (1, .int a1), (2, .int a2), (3, .int a3), (4, .long a4)] 0 []
  unfold f_X5_cellsBarred
  refine r_aload_n (pc := 0) C 0 dX5_cellsBarred_0 rfl rfl ?_
  refine gf_X5_61 (pc := 1) C 0 rfl rfl dX5_cellsBarred_1 ?_
  refine r_iload_n (pc := 4) C 1 dX5_cellsBarred_4 rfl rfl ?_
  refine r_iald (pc := 5) C 18 rfl dX5_cellsBarred_5 ?_
  refine r_if_lt (pc := 6) (tgt := 25) C dX5_cellsBarred_6 (by decide) ?_ ?_
  · exact r_sub [0, 1, 3, 4] rfl (wj_X5_cellsBarred_25 X C q MI MA a1 a3 a4 )
  · refine r_aload_n (pc := 9) C 0 dX5_cellsBarred_9 rfl rfl ?_
    refine gf_X5_64 (pc := 10) C 0 rfl rfl dX5_cellsBarred_10 ?_
    refine r_iload_n (pc := 13) C 1 dX5_cellsBarred_13 rfl rfl ?_
    refine r_iald (pc := 14) C 19 rfl dX5_cellsBarred_14 ?_
    refine r_iload_n (pc := 15) C 2 dX5_cellsBarred_15 rfl rfl ?_
    refine r_icmp_eq (pc := 16) (tgt := 25) C dX5_cellsBarred_16 (by decide) ?_ ?_
    · exact r_sub [0, 1, 3, 4] rfl (wj_X5_cellsBarred_25 X C q MI MA a1 a3 a4 )
    · refine r_aload_n (pc := 19) C 0 dX5_cellsBarred_19 rfl rfl ?_
      refine r_iconst (pc := 20) C dX5_cellsBarred_20 (ci_2) ?_
      refine r_callV0 (pc := 21) (rest := []) C (m_X5_failed (xl X) (xD X) cI cS q MI MA (2 : Int32)) mv_X5_129 rfl rfl rfl ⟨Nat.zero_le _, Nat.zero_le _⟩ rfl rfl (Nat.le_of_ble_eq_true rfl) dX5_cellsBarred_21 (fun r21 => ?_)
      exact r_iret (pc := 24) C rfl rfl dX5_cellsBarred_24)
set_option maxHeartbeats 4000000 in
set_option maxRecDepth 100000 in
theorem m_X5_noSheet (l : Launch) (D : va_G) (cI cS : ClassId) (a0 : Int32) : MX l D (tyz cI cS) yX5_noSheet cX5_noSheet 1 (some .boolean) (rmz 1 25) [.int a0] ([]) (f_X5_noSheet a0) (fun o : Int32 => some (.int o)) (fun o : Int32 => []) := met_of (own := RX5) (by decide) rfl (Nat.le_of_ble_eq_true rfl) (fun X hxl hxD C => by
  subst hxl
  subst hxD
  show JR X _ _ 0 0 (f_X5_noSheet a0) ([]) [(0, .int a0)] 0 []
  unfold f_X5_noSheet
  refine r_iload_n (pc := 0) C 0 dX5_noSheet_0 rfl rfl ?_
  refine r_i2l (pc := 1) C dX5_noSheet_1 ?_
  refine r_lconst (pc := 2) (v := 0) C dX5_noSheet_2 rfl ?_
  refine r_ldc2 (pc := 3) C kk_X5_227 dX5_noSheet_3 ?_
  refine r_callSr (pc := 6) (rest := []) C (m_X5_in (xl X) (xD X) cI cS a0.toInt64 (0 : Int64) (3 : Int64)) ms_X5_91 rfl ⟨Nat.zero_le _, Nat.zero_le _⟩ rfl rfl (Nat.le_of_ble_eq_true rfl) dX5_noSheet_6 (fun r6 => ?_)
  refine r_if_ne (pc := 9) (tgt := 16) C dX5_noSheet_9 (by decide) ?_ ?_
  · refine r_iconst (pc := 16) C dX5_noSheet_16 (ci_0) ?_
    exact r_zret (pc := 17) C rfl rfl rfl dX5_noSheet_17
  · refine r_iconst (pc := 12) C dX5_noSheet_12 (ci_1) ?_
    refine r_goto (pc := 13) (tgt := 17) C dX5_noSheet_13 (by decide) ?_
    exact r_zret (pc := 17) C rfl rfl rfl dX5_noSheet_17)
set_option maxHeartbeats 4000000 in
set_option maxRecDepth 100000 in
theorem wl_X5_frontier_199 {cI cS : ClassId} (X : CX) (C : Cx X RX5 cX5_frontier 7 (some .int) (rmz 4 98) (tyz cI cS)) (q : Nat → Nat) (r61 : Int32 × (Nat → Int32) × (Nat → Nat → Int32))  (kk : Int32 → (Nat → Nat → Int32) → Option (Int32 × (Nat → Int32) × (Nat → Nat → Int32))) (hk_199 : ∀ (el6_199 : Int32) (eMA_199 : Nat → Nat → Int32), JR X (QF X (tyz cI cS) 0 0 (fun o : Int32 × (Nat → Int32) × (Nat → Nat → Int32) => some (.int o.1)) (fun o : Int32 × (Nat → Int32) × (Nat → Nat → Int32) => wdM cI q o.2.1 o.2.2)) 7 0 0 (kk el6_199 eMA_199) (wdM cI q (upd (upd (upd r61.2.1 11 (r61.2.1 15)) 1 ((upd r61.2.1 11 (r61.2.1 15)) 16)) 4 ((upd (upd r61.2.1 11 (r61.2.1 15)) 1 ((upd r61.2.1 11 (r61.2.1 15)) 16)) 17)) eMA_199) [(0, .ref (q 0))] 219 []) : ∀ (fuel : Nat) (l6_199 : Int32) (MA_199 : Nat → Nat → Int32), JR X (QF X (tyz cI cS) 0 0 (fun o : Int32 × (Nat → Int32) × (Nat → Nat → Int32) => some (.int o.1)) (fun o : Int32 × (Nat → Int32) × (Nat → Nat → Int32) => wdM cI q o.2.1 o.2.2)) 7 0 0 (lp_X5_frontier_199 kk fuel l6_199 MA_199) (wdM cI q (upd (upd (upd r61.2.1 11 (r61.2.1 15)) 1 ((upd r61.2.1 11 (r61.2.1 15)) 16)) 4 ((upd (upd r61.2.1 11 (r61.2.1 15)) 1 ((upd r61.2.1 11 (r61.2.1 15)) 16)) 17)) MA_199) [(0, .ref (q 0)), (6, .int l6_199)] 199 [] := by
  intro fuel
  induction fuel with
  | zero => intro l6_199 MA_199; exact r_none
  | succ fu_199 ih_199 =>
    intro l6_199 MA_199
    unfold lp_X5_frontier_199
    refine r_iload (pc := 199) C 1 dX5_frontier_199 rfl ?_
    refine r_iconst (pc := 201) C dX5_frontier_201 (ci_3) ?_
    refine r_icmp_ge (pc := 202) (tgt := 219) C dX5_frontier_202 (by decide) ?_ ?_
    · exact r_sub [0] rfl (hk_199 l6_199 MA_199)
    · refine r_aload_n (pc := 205) C 0 dX5_frontier_205 rfl rfl ?_
      refine gf_X5_28 (pc := 206) C 0 rfl rfl dX5_frontier_206 ?_
      refine r_iload (pc := 209) C 1 dX5_frontier_209 rfl ?_
      refine r_iconst (pc := 211) C dX5_frontier_211 (ci_0) ?_
      refine r_iast (pc := 212) (ws' := wdM cI q (upd (upd (upd r61.2.1 11 (r61.2.1 15)) 1 ((upd r61.2.1 11 (r61.2.1 15)) 16)) 4 ((upd (upd r61.2.1 11 (r61.2.1 15)) 1 ((upd r61.2.1 11 (r61.2.1 15)) 16)) 17)) (va_up MA_199 9 (upd (MA_199 9) l6_199.toNatClampNeg (0 : Int32)))) C 7 rfl dX5_frontier_212 rfl ?_
      refine r_iinc (pc := 213) C 1 dX5_frontier_213 rfl (ci_1) (by decide) (lv' := [(6, .int (l6_199 + (1 : Int32))), (0, .ref (q 0))]) rfl ?_
      refine r_goto (pc := 216) (tgt := 199) C dX5_frontier_216 (by decide) ?_
      exact r_sub [1, 0] rfl (ih_199 (l6_199 + (1 : Int32)) (va_up MA_199 9 (upd (MA_199 9) l6_199.toNatClampNeg (0 : Int32))))
set_option maxHeartbeats 4000000 in
set_option maxRecDepth 100000 in
theorem wl_X5_frontier_106 {cI cS : ClassId} (X : CX) (C : Cx X RX5 cX5_frontier 7 (some .int) (rmz 4 98) (tyz cI cS)) (q : Nat → Nat) (r61 : Int32 × (Nat → Int32) × (Nat → Nat → Int32))  (kk : Int32 → (Nat → Nat → Int32) → Option (Int32 × (Nat → Int32) × (Nat → Nat → Int32))) (hk_106 : ∀ (el6_106 : Int32) (eMA_106 : Nat → Nat → Int32), JR X (QF X (tyz cI cS) 0 0 (fun o : Int32 × (Nat → Int32) × (Nat → Nat → Int32) => some (.int o.1)) (fun o : Int32 × (Nat → Int32) × (Nat → Nat → Int32) => wdM cI q o.2.1 o.2.2)) 7 0 0 (kk el6_106 eMA_106) (wdM cI q (upd (upd (upd r61.2.1 11 (r61.2.1 15)) 1 ((upd r61.2.1 11 (r61.2.1 15)) 16)) 4 ((upd (upd r61.2.1 11 (r61.2.1 15)) 1 ((upd r61.2.1 11 (r61.2.1 15)) 16)) 17)) eMA_106) [(0, .ref (q 0))] 196 []) : ∀ (fuel : Nat) (l6_106 : Int32) (MA_106 : Nat → Nat → Int32), JR X (QF X (tyz cI cS) 0 0 (fun o : Int32 × (Nat → Int32) × (Nat → Nat → Int32) => some (.int o.1)) (fun o : Int32 × (Nat → Int32) × (Nat → Nat → Int32) => wdM cI q o.2.1 o.2.2)) 7 0 0 (lp_X5_frontier_106 kk fuel l6_106 MA_106) (wdM cI q (upd (upd (upd r61.2.1 11 (r61.2.1 15)) 1 ((upd r61.2.1 11 (r61.2.1 15)) 16)) 4 ((upd (upd r61.2.1 11 (r61.2.1 15)) 1 ((upd r61.2.1 11 (r61.2.1 15)) 16)) 17)) MA_106) [(0, .ref (q 0)), (6, .int l6_106)] 106 [] := by
  intro fuel
  induction fuel with
  | zero => intro l6_106 MA_106; exact r_none
  | succ fu_106 ih_106 =>
    intro l6_106 MA_106
    unfold lp_X5_frontier_106
    refine r_iload (pc := 106) C 1 dX5_frontier_106 rfl ?_
    refine r_iconst (pc := 108) C dX5_frontier_108 (ci_4) ?_
    refine r_icmp_ge (pc := 109) (tgt := 196) C dX5_frontier_109 (by decide) ?_ ?_
    · exact r_sub [0] rfl (hk_106 l6_106 MA_106)
    · refine r_aload_n (pc := 112) C 0 dX5_frontier_112 rfl rfl ?_
      refine gf_X5_7 (pc := 113) C 0 rfl rfl dX5_frontier_113 ?_
      refine r_iload (pc := 116) C 1 dX5_frontier_116 rfl ?_
      refine r_aload_n (pc := 118) C 0 dX5_frontier_118 rfl rfl ?_
      refine gf_X5_31 (pc := 119) C 0 rfl rfl dX5_frontier_119 ?_
      refine r_iload (pc := 122) C 1 dX5_frontier_122 rfl ?_
      refine r_iald (pc := 124) C 8 rfl dX5_frontier_124 ?_
      refine r_iast (pc := 125) (ws' := wdM cI q (upd (upd (upd r61.2.1 11 (r61.2.1 15)) 1 ((upd r61.2.1 11 (r61.2.1 15)) 16)) 4 ((upd (upd r61.2.1 11 (r61.2.1 15)) 1 ((upd r61.2.1 11 (r61.2.1 15)) 16)) 17)) (va_up MA_106 2 (upd (MA_106 2) l6_106.toNatClampNeg (MA_106 18 l6_106.toNatClampNeg)))) C 1 rfl dX5_frontier_125 rfl ?_
      refine r_aload_n (pc := 126) C 0 dX5_frontier_126 rfl rfl ?_
      refine gf_X5_13 (pc := 127) C 0 rfl rfl dX5_frontier_127 ?_
      refine r_iload (pc := 130) C 1 dX5_frontier_130 rfl ?_
      refine r_aload_n (pc := 132) C 0 dX5_frontier_132 rfl rfl ?_
      refine gf_X5_34 (pc := 133) C 0 rfl rfl dX5_frontier_133 ?_
      refine r_iload (pc := 136) C 1 dX5_frontier_136 rfl ?_
      refine r_iald (pc := 138) C 9 rfl dX5_frontier_138 ?_
      refine r_iast (pc := 139) (ws' := wdM cI q (upd (upd (upd r61.2.1 11 (r61.2.1 15)) 1 ((upd r61.2.1 11 (r61.2.1 15)) 16)) 4 ((upd (upd r61.2.1 11 (r61.2.1 15)) 1 ((upd r61.2.1 11 (r61.2.1 15)) 16)) 17)) (va_up (va_up MA_106 2 (upd (MA_106 2) l6_106.toNatClampNeg (MA_106 18 l6_106.toNatClampNeg))) 3 (upd ((va_up MA_106 2 (upd (MA_106 2) l6_106.toNatClampNeg (MA_106 18 l6_106.toNatClampNeg))) 3) l6_106.toNatClampNeg ((va_up MA_106 2 (upd (MA_106 2) l6_106.toNatClampNeg (MA_106 18 l6_106.toNatClampNeg))) 19 l6_106.toNatClampNeg)))) C 2 rfl dX5_frontier_139 rfl ?_
      refine r_aload_n (pc := 140) C 0 dX5_frontier_140 rfl rfl ?_
      refine gf_X5_16 (pc := 141) C 0 rfl rfl dX5_frontier_141 ?_
      refine r_iload (pc := 144) C 1 dX5_frontier_144 rfl ?_
      refine r_aload_n (pc := 146) C 0 dX5_frontier_146 rfl rfl ?_
      refine gf_X5_37 (pc := 147) C 0 rfl rfl dX5_frontier_147 ?_
      refine r_iload (pc := 150) C 1 dX5_frontier_150 rfl ?_
      refine r_iald (pc := 152) C 10 rfl dX5_frontier_152 ?_
      refine r_iast (pc := 153) (ws' := wdM cI q (upd (upd (upd r61.2.1 11 (r61.2.1 15)) 1 ((upd r61.2.1 11 (r61.2.1 15)) 16)) 4 ((upd (upd r61.2.1 11 (r61.2.1 15)) 1 ((upd r61.2.1 11 (r61.2.1 15)) 16)) 17)) (va_up (va_up (va_up MA_106 2 (upd (MA_106 2) l6_106.toNatClampNeg (MA_106 18 l6_106.toNatClampNeg))) 3 (upd ((va_up MA_106 2 (upd (MA_106 2) l6_106.toNatClampNeg (MA_106 18 l6_106.toNatClampNeg))) 3) l6_106.toNatClampNeg ((va_up MA_106 2 (upd (MA_106 2) l6_106.toNatClampNeg (MA_106 18 l6_106.toNatClampNeg))) 19 l6_106.toNatClampNeg))) 5 (upd ((va_up (va_up MA_106 2 (upd (MA_106 2) l6_106.toNatClampNeg (MA_106 18 l6_106.toNatClampNeg))) 3 (upd ((va_up MA_106 2 (upd (MA_106 2) l6_106.toNatClampNeg (MA_106 18 l6_106.toNatClampNeg))) 3) l6_106.toNatClampNeg ((va_up MA_106 2 (upd (MA_106 2) l6_106.toNatClampNeg (MA_106 18 l6_106.toNatClampNeg))) 19 l6_106.toNatClampNeg))) 5) l6_106.toNatClampNeg ((va_up (va_up MA_106 2 (upd (MA_106 2) l6_106.toNatClampNeg (MA_106 18 l6_106.toNatClampNeg))) 3 (upd ((va_up MA_106 2 (upd (MA_106 2) l6_106.toNatClampNeg (MA_106 18 l6_106.toNatClampNeg))) 3) l6_106.toNatClampNeg ((va_up MA_106 2 (upd (MA_106 2) l6_106.toNatClampNeg (MA_106 18 l6_106.toNatClampNeg))) 19 l6_106.toNatClampNeg))) 20 l6_106.toNatClampNeg)))) C 3 rfl dX5_frontier_153 rfl ?_
      refine r_aload_n (pc := 154) C 0 dX5_frontier_154 rfl rfl ?_
      refine gf_X5_19 (pc := 155) C 0 rfl rfl dX5_frontier_155 ?_
      refine r_iload (pc := 158) C 1 dX5_frontier_158 rfl ?_
      refine r_aload_n (pc := 160) C 0 dX5_frontier_160 rfl rfl ?_
      refine gf_X5_40 (pc := 161) C 0 rfl rfl dX5_frontier_161 ?_
      refine r_iload (pc := 164) C 1 dX5_frontier_164 rfl ?_
      refine r_iald (pc := 166) C 11 rfl dX5_frontier_166 ?_
      refine r_iast (pc := 167) (ws' := wdM cI q (upd (upd (upd r61.2.1 11 (r61.2.1 15)) 1 ((upd r61.2.1 11 (r61.2.1 15)) 16)) 4 ((upd (upd r61.2.1 11 (r61.2.1 15)) 1 ((upd r61.2.1 11 (r61.2.1 15)) 16)) 17)) (va_up (va_up (va_up (va_up MA_106 2 (upd (MA_106 2) l6_106.toNatClampNeg (MA_106 18 l6_106.toNatClampNeg))) 3 (upd ((va_up MA_106 2 (upd (MA_106 2) l6_106.toNatClampNeg (MA_106 18 l6_106.toNatClampNeg))) 3) l6_106.toNatClampNeg ((va_up MA_106 2 (upd (MA_106 2) l6_106.toNatClampNeg (MA_106 18 l6_106.toNatClampNeg))) 19 l6_106.toNatClampNeg))) 5 (upd ((va_up (va_up MA_106 2 (upd (MA_106 2) l6_106.toNatClampNeg (MA_106 18 l6_106.toNatClampNeg))) 3 (upd ((va_up MA_106 2 (upd (MA_106 2) l6_106.toNatClampNeg (MA_106 18 l6_106.toNatClampNeg))) 3) l6_106.toNatClampNeg ((va_up MA_106 2 (upd (MA_106 2) l6_106.toNatClampNeg (MA_106 18 l6_106.toNatClampNeg))) 19 l6_106.toNatClampNeg))) 5) l6_106.toNatClampNeg ((va_up (va_up MA_106 2 (upd (MA_106 2) l6_106.toNatClampNeg (MA_106 18 l6_106.toNatClampNeg))) 3 (upd ((va_up MA_106 2 (upd (MA_106 2) l6_106.toNatClampNeg (MA_106 18 l6_106.toNatClampNeg))) 3) l6_106.toNatClampNeg ((va_up MA_106 2 (upd (MA_106 2) l6_106.toNatClampNeg (MA_106 18 l6_106.toNatClampNeg))) 19 l6_106.toNatClampNeg))) 20 l6_106.toNatClampNeg))) 6 (upd ((va_up (va_up (va_up MA_106 2 (upd (MA_106 2) l6_106.toNatClampNeg (MA_106 18 l6_106.toNatClampNeg))) 3 (upd ((va_up MA_106 2 (upd (MA_106 2) l6_106.toNatClampNeg (MA_106 18 l6_106.toNatClampNeg))) 3) l6_106.toNatClampNeg ((va_up MA_106 2 (upd (MA_106 2) l6_106.toNatClampNeg (MA_106 18 l6_106.toNatClampNeg))) 19 l6_106.toNatClampNeg))) 5 (upd ((va_up (va_up MA_106 2 (upd (MA_106 2) l6_106.toNatClampNeg (MA_106 18 l6_106.toNatClampNeg))) 3 (upd ((va_up MA_106 2 (upd (MA_106 2) l6_106.toNatClampNeg (MA_106 18 l6_106.toNatClampNeg))) 3) l6_106.toNatClampNeg ((va_up MA_106 2 (upd (MA_106 2) l6_106.toNatClampNeg (MA_106 18 l6_106.toNatClampNeg))) 19 l6_106.toNatClampNeg))) 5) l6_106.toNatClampNeg ((va_up (va_up MA_106 2 (upd (MA_106 2) l6_106.toNatClampNeg (MA_106 18 l6_106.toNatClampNeg))) 3 (upd ((va_up MA_106 2 (upd (MA_106 2) l6_106.toNatClampNeg (MA_106 18 l6_106.toNatClampNeg))) 3) l6_106.toNatClampNeg ((va_up MA_106 2 (upd (MA_106 2) l6_106.toNatClampNeg (MA_106 18 l6_106.toNatClampNeg))) 19 l6_106.toNatClampNeg))) 20 l6_106.toNatClampNeg))) 6) l6_106.toNatClampNeg ((va_up (va_up (va_up MA_106 2 (upd (MA_106 2) l6_106.toNatClampNeg (MA_106 18 l6_106.toNatClampNeg))) 3 (upd ((va_up MA_106 2 (upd (MA_106 2) l6_106.toNatClampNeg (MA_106 18 l6_106.toNatClampNeg))) 3) l6_106.toNatClampNeg ((va_up MA_106 2 (upd (MA_106 2) l6_106.toNatClampNeg (MA_106 18 l6_106.toNatClampNeg))) 19 l6_106.toNatClampNeg))) 5 (upd ((va_up (va_up MA_106 2 (upd (MA_106 2) l6_106.toNatClampNeg (MA_106 18 l6_106.toNatClampNeg))) 3 (upd ((va_up MA_106 2 (upd (MA_106 2) l6_106.toNatClampNeg (MA_106 18 l6_106.toNatClampNeg))) 3) l6_106.toNatClampNeg ((va_up MA_106 2 (upd (MA_106 2) l6_106.toNatClampNeg (MA_106 18 l6_106.toNatClampNeg))) 19 l6_106.toNatClampNeg))) 5) l6_106.toNatClampNeg ((va_up (va_up MA_106 2 (upd (MA_106 2) l6_106.toNatClampNeg (MA_106 18 l6_106.toNatClampNeg))) 3 (upd ((va_up MA_106 2 (upd (MA_106 2) l6_106.toNatClampNeg (MA_106 18 l6_106.toNatClampNeg))) 3) l6_106.toNatClampNeg ((va_up MA_106 2 (upd (MA_106 2) l6_106.toNatClampNeg (MA_106 18 l6_106.toNatClampNeg))) 19 l6_106.toNatClampNeg))) 20 l6_106.toNatClampNeg))) 21 l6_106.toNatClampNeg)))) C 4 rfl dX5_frontier_167 rfl ?_
      refine r_aload_n (pc := 168) C 0 dX5_frontier_168 rfl rfl ?_
      refine gf_X5_22 (pc := 169) C 0 rfl rfl dX5_frontier_169 ?_
      refine r_iload (pc := 172) C 1 dX5_frontier_172 rfl ?_
      refine r_aload_n (pc := 174) C 0 dX5_frontier_174 rfl rfl ?_
      refine gf_X5_43 (pc := 175) C 0 rfl rfl dX5_frontier_175 ?_
      refine r_iload (pc := 178) C 1 dX5_frontier_178 rfl ?_
      refine r_iald (pc := 180) C 12 rfl dX5_frontier_180 ?_
      refine r_iast (pc := 181) (ws' := wdM cI q (upd (upd (upd r61.2.1 11 (r61.2.1 15)) 1 ((upd r61.2.1 11 (r61.2.1 15)) 16)) 4 ((upd (upd r61.2.1 11 (r61.2.1 15)) 1 ((upd r61.2.1 11 (r61.2.1 15)) 16)) 17)) (va_up (va_up (va_up (va_up (va_up MA_106 2 (upd (MA_106 2) l6_106.toNatClampNeg (MA_106 18 l6_106.toNatClampNeg))) 3 (upd ((va_up MA_106 2 (upd (MA_106 2) l6_106.toNatClampNeg (MA_106 18 l6_106.toNatClampNeg))) 3) l6_106.toNatClampNeg ((va_up MA_106 2 (upd (MA_106 2) l6_106.toNatClampNeg (MA_106 18 l6_106.toNatClampNeg))) 19 l6_106.toNatClampNeg))) 5 (upd ((va_up (va_up MA_106 2 (upd (MA_106 2) l6_106.toNatClampNeg (MA_106 18 l6_106.toNatClampNeg))) 3 (upd ((va_up MA_106 2 (upd (MA_106 2) l6_106.toNatClampNeg (MA_106 18 l6_106.toNatClampNeg))) 3) l6_106.toNatClampNeg ((va_up MA_106 2 (upd (MA_106 2) l6_106.toNatClampNeg (MA_106 18 l6_106.toNatClampNeg))) 19 l6_106.toNatClampNeg))) 5) l6_106.toNatClampNeg ((va_up (va_up MA_106 2 (upd (MA_106 2) l6_106.toNatClampNeg (MA_106 18 l6_106.toNatClampNeg))) 3 (upd ((va_up MA_106 2 (upd (MA_106 2) l6_106.toNatClampNeg (MA_106 18 l6_106.toNatClampNeg))) 3) l6_106.toNatClampNeg ((va_up MA_106 2 (upd (MA_106 2) l6_106.toNatClampNeg (MA_106 18 l6_106.toNatClampNeg))) 19 l6_106.toNatClampNeg))) 20 l6_106.toNatClampNeg))) 6 (upd ((va_up (va_up (va_up MA_106 2 (upd (MA_106 2) l6_106.toNatClampNeg (MA_106 18 l6_106.toNatClampNeg))) 3 (upd ((va_up MA_106 2 (upd (MA_106 2) l6_106.toNatClampNeg (MA_106 18 l6_106.toNatClampNeg))) 3) l6_106.toNatClampNeg ((va_up MA_106 2 (upd (MA_106 2) l6_106.toNatClampNeg (MA_106 18 l6_106.toNatClampNeg))) 19 l6_106.toNatClampNeg))) 5 (upd ((va_up (va_up MA_106 2 (upd (MA_106 2) l6_106.toNatClampNeg (MA_106 18 l6_106.toNatClampNeg))) 3 (upd ((va_up MA_106 2 (upd (MA_106 2) l6_106.toNatClampNeg (MA_106 18 l6_106.toNatClampNeg))) 3) l6_106.toNatClampNeg ((va_up MA_106 2 (upd (MA_106 2) l6_106.toNatClampNeg (MA_106 18 l6_106.toNatClampNeg))) 19 l6_106.toNatClampNeg))) 5) l6_106.toNatClampNeg ((va_up (va_up MA_106 2 (upd (MA_106 2) l6_106.toNatClampNeg (MA_106 18 l6_106.toNatClampNeg))) 3 (upd ((va_up MA_106 2 (upd (MA_106 2) l6_106.toNatClampNeg (MA_106 18 l6_106.toNatClampNeg))) 3) l6_106.toNatClampNeg ((va_up MA_106 2 (upd (MA_106 2) l6_106.toNatClampNeg (MA_106 18 l6_106.toNatClampNeg))) 19 l6_106.toNatClampNeg))) 20 l6_106.toNatClampNeg))) 6) l6_106.toNatClampNeg ((va_up (va_up (va_up MA_106 2 (upd (MA_106 2) l6_106.toNatClampNeg (MA_106 18 l6_106.toNatClampNeg))) 3 (upd ((va_up MA_106 2 (upd (MA_106 2) l6_106.toNatClampNeg (MA_106 18 l6_106.toNatClampNeg))) 3) l6_106.toNatClampNeg ((va_up MA_106 2 (upd (MA_106 2) l6_106.toNatClampNeg (MA_106 18 l6_106.toNatClampNeg))) 19 l6_106.toNatClampNeg))) 5 (upd ((va_up (va_up MA_106 2 (upd (MA_106 2) l6_106.toNatClampNeg (MA_106 18 l6_106.toNatClampNeg))) 3 (upd ((va_up MA_106 2 (upd (MA_106 2) l6_106.toNatClampNeg (MA_106 18 l6_106.toNatClampNeg))) 3) l6_106.toNatClampNeg ((va_up MA_106 2 (upd (MA_106 2) l6_106.toNatClampNeg (MA_106 18 l6_106.toNatClampNeg))) 19 l6_106.toNatClampNeg))) 5) l6_106.toNatClampNeg ((va_up (va_up MA_106 2 (upd (MA_106 2) l6_106.toNatClampNeg (MA_106 18 l6_106.toNatClampNeg))) 3 (upd ((va_up MA_106 2 (upd (MA_106 2) l6_106.toNatClampNeg (MA_106 18 l6_106.toNatClampNeg))) 3) l6_106.toNatClampNeg ((va_up MA_106 2 (upd (MA_106 2) l6_106.toNatClampNeg (MA_106 18 l6_106.toNatClampNeg))) 19 l6_106.toNatClampNeg))) 20 l6_106.toNatClampNeg))) 21 l6_106.toNatClampNeg))) 7 (upd ((va_up (va_up (va_up (va_up MA_106 2 (upd (MA_106 2) l6_106.toNatClampNeg (MA_106 18 l6_106.toNatClampNeg))) 3 (upd ((va_up MA_106 2 (upd (MA_106 2) l6_106.toNatClampNeg (MA_106 18 l6_106.toNatClampNeg))) 3) l6_106.toNatClampNeg ((va_up MA_106 2 (upd (MA_106 2) l6_106.toNatClampNeg (MA_106 18 l6_106.toNatClampNeg))) 19 l6_106.toNatClampNeg))) 5 (upd ((va_up (va_up MA_106 2 (upd (MA_106 2) l6_106.toNatClampNeg (MA_106 18 l6_106.toNatClampNeg))) 3 (upd ((va_up MA_106 2 (upd (MA_106 2) l6_106.toNatClampNeg (MA_106 18 l6_106.toNatClampNeg))) 3) l6_106.toNatClampNeg ((va_up MA_106 2 (upd (MA_106 2) l6_106.toNatClampNeg (MA_106 18 l6_106.toNatClampNeg))) 19 l6_106.toNatClampNeg))) 5) l6_106.toNatClampNeg ((va_up (va_up MA_106 2 (upd (MA_106 2) l6_106.toNatClampNeg (MA_106 18 l6_106.toNatClampNeg))) 3 (upd ((va_up MA_106 2 (upd (MA_106 2) l6_106.toNatClampNeg (MA_106 18 l6_106.toNatClampNeg))) 3) l6_106.toNatClampNeg ((va_up MA_106 2 (upd (MA_106 2) l6_106.toNatClampNeg (MA_106 18 l6_106.toNatClampNeg))) 19 l6_106.toNatClampNeg))) 20 l6_106.toNatClampNeg))) 6 (upd ((va_up (va_up (va_up MA_106 2 (upd (MA_106 2) l6_106.toNatClampNeg (MA_106 18 l6_106.toNatClampNeg))) 3 (upd ((va_up MA_106 2 (upd (MA_106 2) l6_106.toNatClampNeg (MA_106 18 l6_106.toNatClampNeg))) 3) l6_106.toNatClampNeg ((va_up MA_106 2 (upd (MA_106 2) l6_106.toNatClampNeg (MA_106 18 l6_106.toNatClampNeg))) 19 l6_106.toNatClampNeg))) 5 (upd ((va_up (va_up MA_106 2 (upd (MA_106 2) l6_106.toNatClampNeg (MA_106 18 l6_106.toNatClampNeg))) 3 (upd ((va_up MA_106 2 (upd (MA_106 2) l6_106.toNatClampNeg (MA_106 18 l6_106.toNatClampNeg))) 3) l6_106.toNatClampNeg ((va_up MA_106 2 (upd (MA_106 2) l6_106.toNatClampNeg (MA_106 18 l6_106.toNatClampNeg))) 19 l6_106.toNatClampNeg))) 5) l6_106.toNatClampNeg ((va_up (va_up MA_106 2 (upd (MA_106 2) l6_106.toNatClampNeg (MA_106 18 l6_106.toNatClampNeg))) 3 (upd ((va_up MA_106 2 (upd (MA_106 2) l6_106.toNatClampNeg (MA_106 18 l6_106.toNatClampNeg))) 3) l6_106.toNatClampNeg ((va_up MA_106 2 (upd (MA_106 2) l6_106.toNatClampNeg (MA_106 18 l6_106.toNatClampNeg))) 19 l6_106.toNatClampNeg))) 20 l6_106.toNatClampNeg))) 6) l6_106.toNatClampNeg ((va_up (va_up (va_up MA_106 2 (upd (MA_106 2) l6_106.toNatClampNeg (MA_106 18 l6_106.toNatClampNeg))) 3 (upd ((va_up MA_106 2 (upd (MA_106 2) l6_106.toNatClampNeg (MA_106 18 l6_106.toNatClampNeg))) 3) l6_106.toNatClampNeg ((va_up MA_106 2 (upd (MA_106 2) l6_106.toNatClampNeg (MA_106 18 l6_106.toNatClampNeg))) 19 l6_106.toNatClampNeg))) 5 (upd ((va_up (va_up MA_106 2 (upd (MA_106 2) l6_106.toNatClampNeg (MA_106 18 l6_106.toNatClampNeg))) 3 (upd ((va_up MA_106 2 (upd (MA_106 2) l6_106.toNatClampNeg (MA_106 18 l6_106.toNatClampNeg))) 3) l6_106.toNatClampNeg ((va_up MA_106 2 (upd (MA_106 2) l6_106.toNatClampNeg (MA_106 18 l6_106.toNatClampNeg))) 19 l6_106.toNatClampNeg))) 5) l6_106.toNatClampNeg ((va_up (va_up MA_106 2 (upd (MA_106 2) l6_106.toNatClampNeg (MA_106 18 l6_106.toNatClampNeg))) 3 (upd ((va_up MA_106 2 (upd (MA_106 2) l6_106.toNatClampNeg (MA_106 18 l6_106.toNatClampNeg))) 3) l6_106.toNatClampNeg ((va_up MA_106 2 (upd (MA_106 2) l6_106.toNatClampNeg (MA_106 18 l6_106.toNatClampNeg))) 19 l6_106.toNatClampNeg))) 20 l6_106.toNatClampNeg))) 21 l6_106.toNatClampNeg))) 7) l6_106.toNatClampNeg ((va_up (va_up (va_up (va_up MA_106 2 (upd (MA_106 2) l6_106.toNatClampNeg (MA_106 18 l6_106.toNatClampNeg))) 3 (upd ((va_up MA_106 2 (upd (MA_106 2) l6_106.toNatClampNeg (MA_106 18 l6_106.toNatClampNeg))) 3) l6_106.toNatClampNeg ((va_up MA_106 2 (upd (MA_106 2) l6_106.toNatClampNeg (MA_106 18 l6_106.toNatClampNeg))) 19 l6_106.toNatClampNeg))) 5 (upd ((va_up (va_up MA_106 2 (upd (MA_106 2) l6_106.toNatClampNeg (MA_106 18 l6_106.toNatClampNeg))) 3 (upd ((va_up MA_106 2 (upd (MA_106 2) l6_106.toNatClampNeg (MA_106 18 l6_106.toNatClampNeg))) 3) l6_106.toNatClampNeg ((va_up MA_106 2 (upd (MA_106 2) l6_106.toNatClampNeg (MA_106 18 l6_106.toNatClampNeg))) 19 l6_106.toNatClampNeg))) 5) l6_106.toNatClampNeg ((va_up (va_up MA_106 2 (upd (MA_106 2) l6_106.toNatClampNeg (MA_106 18 l6_106.toNatClampNeg))) 3 (upd ((va_up MA_106 2 (upd (MA_106 2) l6_106.toNatClampNeg (MA_106 18 l6_106.toNatClampNeg))) 3) l6_106.toNatClampNeg ((va_up MA_106 2 (upd (MA_106 2) l6_106.toNatClampNeg (MA_106 18 l6_106.toNatClampNeg))) 19 l6_106.toNatClampNeg))) 20 l6_106.toNatClampNeg))) 6 (upd ((va_up (va_up (va_up MA_106 2 (upd (MA_106 2) l6_106.toNatClampNeg (MA_106 18 l6_106.toNatClampNeg))) 3 (upd ((va_up MA_106 2 (upd (MA_106 2) l6_106.toNatClampNeg (MA_106 18 l6_106.toNatClampNeg))) 3) l6_106.toNatClampNeg ((va_up MA_106 2 (upd (MA_106 2) l6_106.toNatClampNeg (MA_106 18 l6_106.toNatClampNeg))) 19 l6_106.toNatClampNeg))) 5 (upd ((va_up (va_up MA_106 2 (upd (MA_106 2) l6_106.toNatClampNeg (MA_106 18 l6_106.toNatClampNeg))) 3 (upd ((va_up MA_106 2 (upd (MA_106 2) l6_106.toNatClampNeg (MA_106 18 l6_106.toNatClampNeg))) 3) l6_106.toNatClampNeg ((va_up MA_106 2 (upd (MA_106 2) l6_106.toNatClampNeg (MA_106 18 l6_106.toNatClampNeg))) 19 l6_106.toNatClampNeg))) 5) l6_106.toNatClampNeg ((va_up (va_up MA_106 2 (upd (MA_106 2) l6_106.toNatClampNeg (MA_106 18 l6_106.toNatClampNeg))) 3 (upd ((va_up MA_106 2 (upd (MA_106 2) l6_106.toNatClampNeg (MA_106 18 l6_106.toNatClampNeg))) 3) l6_106.toNatClampNeg ((va_up MA_106 2 (upd (MA_106 2) l6_106.toNatClampNeg (MA_106 18 l6_106.toNatClampNeg))) 19 l6_106.toNatClampNeg))) 20 l6_106.toNatClampNeg))) 6) l6_106.toNatClampNeg ((va_up (va_up (va_up MA_106 2 (upd (MA_106 2) l6_106.toNatClampNeg (MA_106 18 l6_106.toNatClampNeg))) 3 (upd ((va_up MA_106 2 (upd (MA_106 2) l6_106.toNatClampNeg (MA_106 18 l6_106.toNatClampNeg))) 3) l6_106.toNatClampNeg ((va_up MA_106 2 (upd (MA_106 2) l6_106.toNatClampNeg (MA_106 18 l6_106.toNatClampNeg))) 19 l6_106.toNatClampNeg))) 5 (upd ((va_up (va_up MA_106 2 (upd (MA_106 2) l6_106.toNatClampNeg (MA_106 18 l6_106.toNatClampNeg))) 3 (upd ((va_up MA_106 2 (upd (MA_106 2) l6_106.toNatClampNeg (MA_106 18 l6_106.toNatClampNeg))) 3) l6_106.toNatClampNeg ((va_up MA_106 2 (upd (MA_106 2) l6_106.toNatClampNeg (MA_106 18 l6_106.toNatClampNeg))) 19 l6_106.toNatClampNeg))) 5) l6_106.toNatClampNeg ((va_up (va_up MA_106 2 (upd (MA_106 2) l6_106.toNatClampNeg (MA_106 18 l6_106.toNatClampNeg))) 3 (upd ((va_up MA_106 2 (upd (MA_106 2) l6_106.toNatClampNeg (MA_106 18 l6_106.toNatClampNeg))) 3) l6_106.toNatClampNeg ((va_up MA_106 2 (upd (MA_106 2) l6_106.toNatClampNeg (MA_106 18 l6_106.toNatClampNeg))) 19 l6_106.toNatClampNeg))) 20 l6_106.toNatClampNeg))) 21 l6_106.toNatClampNeg))) 22 l6_106.toNatClampNeg)))) C 5 rfl dX5_frontier_181 rfl ?_
      refine r_aload_n (pc := 182) C 0 dX5_frontier_182 rfl rfl ?_
      refine gf_X5_25 (pc := 183) C 0 rfl rfl dX5_frontier_183 ?_
      refine r_iload (pc := 186) C 1 dX5_frontier_186 rfl ?_
      refine r_iconst (pc := 188) C dX5_frontier_188 (ci_0) ?_
      refine r_iast (pc := 189) (ws' := wdM cI q (upd (upd (upd r61.2.1 11 (r61.2.1 15)) 1 ((upd r61.2.1 11 (r61.2.1 15)) 16)) 4 ((upd (upd r61.2.1 11 (r61.2.1 15)) 1 ((upd r61.2.1 11 (r61.2.1 15)) 16)) 17)) (va_up (va_up (va_up (va_up (va_up (va_up MA_106 2 (upd (MA_106 2) l6_106.toNatClampNeg (MA_106 18 l6_106.toNatClampNeg))) 3 (upd ((va_up MA_106 2 (upd (MA_106 2) l6_106.toNatClampNeg (MA_106 18 l6_106.toNatClampNeg))) 3) l6_106.toNatClampNeg ((va_up MA_106 2 (upd (MA_106 2) l6_106.toNatClampNeg (MA_106 18 l6_106.toNatClampNeg))) 19 l6_106.toNatClampNeg))) 5 (upd ((va_up (va_up MA_106 2 (upd (MA_106 2) l6_106.toNatClampNeg (MA_106 18 l6_106.toNatClampNeg))) 3 (upd ((va_up MA_106 2 (upd (MA_106 2) l6_106.toNatClampNeg (MA_106 18 l6_106.toNatClampNeg))) 3) l6_106.toNatClampNeg ((va_up MA_106 2 (upd (MA_106 2) l6_106.toNatClampNeg (MA_106 18 l6_106.toNatClampNeg))) 19 l6_106.toNatClampNeg))) 5) l6_106.toNatClampNeg ((va_up (va_up MA_106 2 (upd (MA_106 2) l6_106.toNatClampNeg (MA_106 18 l6_106.toNatClampNeg))) 3 (upd ((va_up MA_106 2 (upd (MA_106 2) l6_106.toNatClampNeg (MA_106 18 l6_106.toNatClampNeg))) 3) l6_106.toNatClampNeg ((va_up MA_106 2 (upd (MA_106 2) l6_106.toNatClampNeg (MA_106 18 l6_106.toNatClampNeg))) 19 l6_106.toNatClampNeg))) 20 l6_106.toNatClampNeg))) 6 (upd ((va_up (va_up (va_up MA_106 2 (upd (MA_106 2) l6_106.toNatClampNeg (MA_106 18 l6_106.toNatClampNeg))) 3 (upd ((va_up MA_106 2 (upd (MA_106 2) l6_106.toNatClampNeg (MA_106 18 l6_106.toNatClampNeg))) 3) l6_106.toNatClampNeg ((va_up MA_106 2 (upd (MA_106 2) l6_106.toNatClampNeg (MA_106 18 l6_106.toNatClampNeg))) 19 l6_106.toNatClampNeg))) 5 (upd ((va_up (va_up MA_106 2 (upd (MA_106 2) l6_106.toNatClampNeg (MA_106 18 l6_106.toNatClampNeg))) 3 (upd ((va_up MA_106 2 (upd (MA_106 2) l6_106.toNatClampNeg (MA_106 18 l6_106.toNatClampNeg))) 3) l6_106.toNatClampNeg ((va_up MA_106 2 (upd (MA_106 2) l6_106.toNatClampNeg (MA_106 18 l6_106.toNatClampNeg))) 19 l6_106.toNatClampNeg))) 5) l6_106.toNatClampNeg ((va_up (va_up MA_106 2 (upd (MA_106 2) l6_106.toNatClampNeg (MA_106 18 l6_106.toNatClampNeg))) 3 (upd ((va_up MA_106 2 (upd (MA_106 2) l6_106.toNatClampNeg (MA_106 18 l6_106.toNatClampNeg))) 3) l6_106.toNatClampNeg ((va_up MA_106 2 (upd (MA_106 2) l6_106.toNatClampNeg (MA_106 18 l6_106.toNatClampNeg))) 19 l6_106.toNatClampNeg))) 20 l6_106.toNatClampNeg))) 6) l6_106.toNatClampNeg ((va_up (va_up (va_up MA_106 2 (upd (MA_106 2) l6_106.toNatClampNeg (MA_106 18 l6_106.toNatClampNeg))) 3 (upd ((va_up MA_106 2 (upd (MA_106 2) l6_106.toNatClampNeg (MA_106 18 l6_106.toNatClampNeg))) 3) l6_106.toNatClampNeg ((va_up MA_106 2 (upd (MA_106 2) l6_106.toNatClampNeg (MA_106 18 l6_106.toNatClampNeg))) 19 l6_106.toNatClampNeg))) 5 (upd ((va_up (va_up MA_106 2 (upd (MA_106 2) l6_106.toNatClampNeg (MA_106 18 l6_106.toNatClampNeg))) 3 (upd ((va_up MA_106 2 (upd (MA_106 2) l6_106.toNatClampNeg (MA_106 18 l6_106.toNatClampNeg))) 3) l6_106.toNatClampNeg ((va_up MA_106 2 (upd (MA_106 2) l6_106.toNatClampNeg (MA_106 18 l6_106.toNatClampNeg))) 19 l6_106.toNatClampNeg))) 5) l6_106.toNatClampNeg ((va_up (va_up MA_106 2 (upd (MA_106 2) l6_106.toNatClampNeg (MA_106 18 l6_106.toNatClampNeg))) 3 (upd ((va_up MA_106 2 (upd (MA_106 2) l6_106.toNatClampNeg (MA_106 18 l6_106.toNatClampNeg))) 3) l6_106.toNatClampNeg ((va_up MA_106 2 (upd (MA_106 2) l6_106.toNatClampNeg (MA_106 18 l6_106.toNatClampNeg))) 19 l6_106.toNatClampNeg))) 20 l6_106.toNatClampNeg))) 21 l6_106.toNatClampNeg))) 7 (upd ((va_up (va_up (va_up (va_up MA_106 2 (upd (MA_106 2) l6_106.toNatClampNeg (MA_106 18 l6_106.toNatClampNeg))) 3 (upd ((va_up MA_106 2 (upd (MA_106 2) l6_106.toNatClampNeg (MA_106 18 l6_106.toNatClampNeg))) 3) l6_106.toNatClampNeg ((va_up MA_106 2 (upd (MA_106 2) l6_106.toNatClampNeg (MA_106 18 l6_106.toNatClampNeg))) 19 l6_106.toNatClampNeg))) 5 (upd ((va_up (va_up MA_106 2 (upd (MA_106 2) l6_106.toNatClampNeg (MA_106 18 l6_106.toNatClampNeg))) 3 (upd ((va_up MA_106 2 (upd (MA_106 2) l6_106.toNatClampNeg (MA_106 18 l6_106.toNatClampNeg))) 3) l6_106.toNatClampNeg ((va_up MA_106 2 (upd (MA_106 2) l6_106.toNatClampNeg (MA_106 18 l6_106.toNatClampNeg))) 19 l6_106.toNatClampNeg))) 5) l6_106.toNatClampNeg ((va_up (va_up MA_106 2 (upd (MA_106 2) l6_106.toNatClampNeg (MA_106 18 l6_106.toNatClampNeg))) 3 (upd ((va_up MA_106 2 (upd (MA_106 2) l6_106.toNatClampNeg (MA_106 18 l6_106.toNatClampNeg))) 3) l6_106.toNatClampNeg ((va_up MA_106 2 (upd (MA_106 2) l6_106.toNatClampNeg (MA_106 18 l6_106.toNatClampNeg))) 19 l6_106.toNatClampNeg))) 20 l6_106.toNatClampNeg))) 6 (upd ((va_up (va_up (va_up MA_106 2 (upd (MA_106 2) l6_106.toNatClampNeg (MA_106 18 l6_106.toNatClampNeg))) 3 (upd ((va_up MA_106 2 (upd (MA_106 2) l6_106.toNatClampNeg (MA_106 18 l6_106.toNatClampNeg))) 3) l6_106.toNatClampNeg ((va_up MA_106 2 (upd (MA_106 2) l6_106.toNatClampNeg (MA_106 18 l6_106.toNatClampNeg))) 19 l6_106.toNatClampNeg))) 5 (upd ((va_up (va_up MA_106 2 (upd (MA_106 2) l6_106.toNatClampNeg (MA_106 18 l6_106.toNatClampNeg))) 3 (upd ((va_up MA_106 2 (upd (MA_106 2) l6_106.toNatClampNeg (MA_106 18 l6_106.toNatClampNeg))) 3) l6_106.toNatClampNeg ((va_up MA_106 2 (upd (MA_106 2) l6_106.toNatClampNeg (MA_106 18 l6_106.toNatClampNeg))) 19 l6_106.toNatClampNeg))) 5) l6_106.toNatClampNeg ((va_up (va_up MA_106 2 (upd (MA_106 2) l6_106.toNatClampNeg (MA_106 18 l6_106.toNatClampNeg))) 3 (upd ((va_up MA_106 2 (upd (MA_106 2) l6_106.toNatClampNeg (MA_106 18 l6_106.toNatClampNeg))) 3) l6_106.toNatClampNeg ((va_up MA_106 2 (upd (MA_106 2) l6_106.toNatClampNeg (MA_106 18 l6_106.toNatClampNeg))) 19 l6_106.toNatClampNeg))) 20 l6_106.toNatClampNeg))) 6) l6_106.toNatClampNeg ((va_up (va_up (va_up MA_106 2 (upd (MA_106 2) l6_106.toNatClampNeg (MA_106 18 l6_106.toNatClampNeg))) 3 (upd ((va_up MA_106 2 (upd (MA_106 2) l6_106.toNatClampNeg (MA_106 18 l6_106.toNatClampNeg))) 3) l6_106.toNatClampNeg ((va_up MA_106 2 (upd (MA_106 2) l6_106.toNatClampNeg (MA_106 18 l6_106.toNatClampNeg))) 19 l6_106.toNatClampNeg))) 5 (upd ((va_up (va_up MA_106 2 (upd (MA_106 2) l6_106.toNatClampNeg (MA_106 18 l6_106.toNatClampNeg))) 3 (upd ((va_up MA_106 2 (upd (MA_106 2) l6_106.toNatClampNeg (MA_106 18 l6_106.toNatClampNeg))) 3) l6_106.toNatClampNeg ((va_up MA_106 2 (upd (MA_106 2) l6_106.toNatClampNeg (MA_106 18 l6_106.toNatClampNeg))) 19 l6_106.toNatClampNeg))) 5) l6_106.toNatClampNeg ((va_up (va_up MA_106 2 (upd (MA_106 2) l6_106.toNatClampNeg (MA_106 18 l6_106.toNatClampNeg))) 3 (upd ((va_up MA_106 2 (upd (MA_106 2) l6_106.toNatClampNeg (MA_106 18 l6_106.toNatClampNeg))) 3) l6_106.toNatClampNeg ((va_up MA_106 2 (upd (MA_106 2) l6_106.toNatClampNeg (MA_106 18 l6_106.toNatClampNeg))) 19 l6_106.toNatClampNeg))) 20 l6_106.toNatClampNeg))) 21 l6_106.toNatClampNeg))) 7) l6_106.toNatClampNeg ((va_up (va_up (va_up (va_up MA_106 2 (upd (MA_106 2) l6_106.toNatClampNeg (MA_106 18 l6_106.toNatClampNeg))) 3 (upd ((va_up MA_106 2 (upd (MA_106 2) l6_106.toNatClampNeg (MA_106 18 l6_106.toNatClampNeg))) 3) l6_106.toNatClampNeg ((va_up MA_106 2 (upd (MA_106 2) l6_106.toNatClampNeg (MA_106 18 l6_106.toNatClampNeg))) 19 l6_106.toNatClampNeg))) 5 (upd ((va_up (va_up MA_106 2 (upd (MA_106 2) l6_106.toNatClampNeg (MA_106 18 l6_106.toNatClampNeg))) 3 (upd ((va_up MA_106 2 (upd (MA_106 2) l6_106.toNatClampNeg (MA_106 18 l6_106.toNatClampNeg))) 3) l6_106.toNatClampNeg ((va_up MA_106 2 (upd (MA_106 2) l6_106.toNatClampNeg (MA_106 18 l6_106.toNatClampNeg))) 19 l6_106.toNatClampNeg))) 5) l6_106.toNatClampNeg ((va_up (va_up MA_106 2 (upd (MA_106 2) l6_106.toNatClampNeg (MA_106 18 l6_106.toNatClampNeg))) 3 (upd ((va_up MA_106 2 (upd (MA_106 2) l6_106.toNatClampNeg (MA_106 18 l6_106.toNatClampNeg))) 3) l6_106.toNatClampNeg ((va_up MA_106 2 (upd (MA_106 2) l6_106.toNatClampNeg (MA_106 18 l6_106.toNatClampNeg))) 19 l6_106.toNatClampNeg))) 20 l6_106.toNatClampNeg))) 6 (upd ((va_up (va_up (va_up MA_106 2 (upd (MA_106 2) l6_106.toNatClampNeg (MA_106 18 l6_106.toNatClampNeg))) 3 (upd ((va_up MA_106 2 (upd (MA_106 2) l6_106.toNatClampNeg (MA_106 18 l6_106.toNatClampNeg))) 3) l6_106.toNatClampNeg ((va_up MA_106 2 (upd (MA_106 2) l6_106.toNatClampNeg (MA_106 18 l6_106.toNatClampNeg))) 19 l6_106.toNatClampNeg))) 5 (upd ((va_up (va_up MA_106 2 (upd (MA_106 2) l6_106.toNatClampNeg (MA_106 18 l6_106.toNatClampNeg))) 3 (upd ((va_up MA_106 2 (upd (MA_106 2) l6_106.toNatClampNeg (MA_106 18 l6_106.toNatClampNeg))) 3) l6_106.toNatClampNeg ((va_up MA_106 2 (upd (MA_106 2) l6_106.toNatClampNeg (MA_106 18 l6_106.toNatClampNeg))) 19 l6_106.toNatClampNeg))) 5) l6_106.toNatClampNeg ((va_up (va_up MA_106 2 (upd (MA_106 2) l6_106.toNatClampNeg (MA_106 18 l6_106.toNatClampNeg))) 3 (upd ((va_up MA_106 2 (upd (MA_106 2) l6_106.toNatClampNeg (MA_106 18 l6_106.toNatClampNeg))) 3) l6_106.toNatClampNeg ((va_up MA_106 2 (upd (MA_106 2) l6_106.toNatClampNeg (MA_106 18 l6_106.toNatClampNeg))) 19 l6_106.toNatClampNeg))) 20 l6_106.toNatClampNeg))) 6) l6_106.toNatClampNeg ((va_up (va_up (va_up MA_106 2 (upd (MA_106 2) l6_106.toNatClampNeg (MA_106 18 l6_106.toNatClampNeg))) 3 (upd ((va_up MA_106 2 (upd (MA_106 2) l6_106.toNatClampNeg (MA_106 18 l6_106.toNatClampNeg))) 3) l6_106.toNatClampNeg ((va_up MA_106 2 (upd (MA_106 2) l6_106.toNatClampNeg (MA_106 18 l6_106.toNatClampNeg))) 19 l6_106.toNatClampNeg))) 5 (upd ((va_up (va_up MA_106 2 (upd (MA_106 2) l6_106.toNatClampNeg (MA_106 18 l6_106.toNatClampNeg))) 3 (upd ((va_up MA_106 2 (upd (MA_106 2) l6_106.toNatClampNeg (MA_106 18 l6_106.toNatClampNeg))) 3) l6_106.toNatClampNeg ((va_up MA_106 2 (upd (MA_106 2) l6_106.toNatClampNeg (MA_106 18 l6_106.toNatClampNeg))) 19 l6_106.toNatClampNeg))) 5) l6_106.toNatClampNeg ((va_up (va_up MA_106 2 (upd (MA_106 2) l6_106.toNatClampNeg (MA_106 18 l6_106.toNatClampNeg))) 3 (upd ((va_up MA_106 2 (upd (MA_106 2) l6_106.toNatClampNeg (MA_106 18 l6_106.toNatClampNeg))) 3) l6_106.toNatClampNeg ((va_up MA_106 2 (upd (MA_106 2) l6_106.toNatClampNeg (MA_106 18 l6_106.toNatClampNeg))) 19 l6_106.toNatClampNeg))) 20 l6_106.toNatClampNeg))) 21 l6_106.toNatClampNeg))) 22 l6_106.toNatClampNeg))) 8 (upd ((va_up (va_up (va_up (va_up (va_up MA_106 2 (upd (MA_106 2) l6_106.toNatClampNeg (MA_106 18 l6_106.toNatClampNeg))) 3 (upd ((va_up MA_106 2 (upd (MA_106 2) l6_106.toNatClampNeg (MA_106 18 l6_106.toNatClampNeg))) 3) l6_106.toNatClampNeg ((va_up MA_106 2 (upd (MA_106 2) l6_106.toNatClampNeg (MA_106 18 l6_106.toNatClampNeg))) 19 l6_106.toNatClampNeg))) 5 (upd ((va_up (va_up MA_106 2 (upd (MA_106 2) l6_106.toNatClampNeg (MA_106 18 l6_106.toNatClampNeg))) 3 (upd ((va_up MA_106 2 (upd (MA_106 2) l6_106.toNatClampNeg (MA_106 18 l6_106.toNatClampNeg))) 3) l6_106.toNatClampNeg ((va_up MA_106 2 (upd (MA_106 2) l6_106.toNatClampNeg (MA_106 18 l6_106.toNatClampNeg))) 19 l6_106.toNatClampNeg))) 5) l6_106.toNatClampNeg ((va_up (va_up MA_106 2 (upd (MA_106 2) l6_106.toNatClampNeg (MA_106 18 l6_106.toNatClampNeg))) 3 (upd ((va_up MA_106 2 (upd (MA_106 2) l6_106.toNatClampNeg (MA_106 18 l6_106.toNatClampNeg))) 3) l6_106.toNatClampNeg ((va_up MA_106 2 (upd (MA_106 2) l6_106.toNatClampNeg (MA_106 18 l6_106.toNatClampNeg))) 19 l6_106.toNatClampNeg))) 20 l6_106.toNatClampNeg))) 6 (upd ((va_up (va_up (va_up MA_106 2 (upd (MA_106 2) l6_106.toNatClampNeg (MA_106 18 l6_106.toNatClampNeg))) 3 (upd ((va_up MA_106 2 (upd (MA_106 2) l6_106.toNatClampNeg (MA_106 18 l6_106.toNatClampNeg))) 3) l6_106.toNatClampNeg ((va_up MA_106 2 (upd (MA_106 2) l6_106.toNatClampNeg (MA_106 18 l6_106.toNatClampNeg))) 19 l6_106.toNatClampNeg))) 5 (upd ((va_up (va_up MA_106 2 (upd (MA_106 2) l6_106.toNatClampNeg (MA_106 18 l6_106.toNatClampNeg))) 3 (upd ((va_up MA_106 2 (upd (MA_106 2) l6_106.toNatClampNeg (MA_106 18 l6_106.toNatClampNeg))) 3) l6_106.toNatClampNeg ((va_up MA_106 2 (upd (MA_106 2) l6_106.toNatClampNeg (MA_106 18 l6_106.toNatClampNeg))) 19 l6_106.toNatClampNeg))) 5) l6_106.toNatClampNeg ((va_up (va_up MA_106 2 (upd (MA_106 2) l6_106.toNatClampNeg (MA_106 18 l6_106.toNatClampNeg))) 3 (upd ((va_up MA_106 2 (upd (MA_106 2) l6_106.toNatClampNeg (MA_106 18 l6_106.toNatClampNeg))) 3) l6_106.toNatClampNeg ((va_up MA_106 2 (upd (MA_106 2) l6_106.toNatClampNeg (MA_106 18 l6_106.toNatClampNeg))) 19 l6_106.toNatClampNeg))) 20 l6_106.toNatClampNeg))) 6) l6_106.toNatClampNeg ((va_up (va_up (va_up MA_106 2 (upd (MA_106 2) l6_106.toNatClampNeg (MA_106 18 l6_106.toNatClampNeg))) 3 (upd ((va_up MA_106 2 (upd (MA_106 2) l6_106.toNatClampNeg (MA_106 18 l6_106.toNatClampNeg))) 3) l6_106.toNatClampNeg ((va_up MA_106 2 (upd (MA_106 2) l6_106.toNatClampNeg (MA_106 18 l6_106.toNatClampNeg))) 19 l6_106.toNatClampNeg))) 5 (upd ((va_up (va_up MA_106 2 (upd (MA_106 2) l6_106.toNatClampNeg (MA_106 18 l6_106.toNatClampNeg))) 3 (upd ((va_up MA_106 2 (upd (MA_106 2) l6_106.toNatClampNeg (MA_106 18 l6_106.toNatClampNeg))) 3) l6_106.toNatClampNeg ((va_up MA_106 2 (upd (MA_106 2) l6_106.toNatClampNeg (MA_106 18 l6_106.toNatClampNeg))) 19 l6_106.toNatClampNeg))) 5) l6_106.toNatClampNeg ((va_up (va_up MA_106 2 (upd (MA_106 2) l6_106.toNatClampNeg (MA_106 18 l6_106.toNatClampNeg))) 3 (upd ((va_up MA_106 2 (upd (MA_106 2) l6_106.toNatClampNeg (MA_106 18 l6_106.toNatClampNeg))) 3) l6_106.toNatClampNeg ((va_up MA_106 2 (upd (MA_106 2) l6_106.toNatClampNeg (MA_106 18 l6_106.toNatClampNeg))) 19 l6_106.toNatClampNeg))) 20 l6_106.toNatClampNeg))) 21 l6_106.toNatClampNeg))) 7 (upd ((va_up (va_up (va_up (va_up MA_106 2 (upd (MA_106 2) l6_106.toNatClampNeg (MA_106 18 l6_106.toNatClampNeg))) 3 (upd ((va_up MA_106 2 (upd (MA_106 2) l6_106.toNatClampNeg (MA_106 18 l6_106.toNatClampNeg))) 3) l6_106.toNatClampNeg ((va_up MA_106 2 (upd (MA_106 2) l6_106.toNatClampNeg (MA_106 18 l6_106.toNatClampNeg))) 19 l6_106.toNatClampNeg))) 5 (upd ((va_up (va_up MA_106 2 (upd (MA_106 2) l6_106.toNatClampNeg (MA_106 18 l6_106.toNatClampNeg))) 3 (upd ((va_up MA_106 2 (upd (MA_106 2) l6_106.toNatClampNeg (MA_106 18 l6_106.toNatClampNeg))) 3) l6_106.toNatClampNeg ((va_up MA_106 2 (upd (MA_106 2) l6_106.toNatClampNeg (MA_106 18 l6_106.toNatClampNeg))) 19 l6_106.toNatClampNeg))) 5) l6_106.toNatClampNeg ((va_up (va_up MA_106 2 (upd (MA_106 2) l6_106.toNatClampNeg (MA_106 18 l6_106.toNatClampNeg))) 3 (upd ((va_up MA_106 2 (upd (MA_106 2) l6_106.toNatClampNeg (MA_106 18 l6_106.toNatClampNeg))) 3) l6_106.toNatClampNeg ((va_up MA_106 2 (upd (MA_106 2) l6_106.toNatClampNeg (MA_106 18 l6_106.toNatClampNeg))) 19 l6_106.toNatClampNeg))) 20 l6_106.toNatClampNeg))) 6 (upd ((va_up (va_up (va_up MA_106 2 (upd (MA_106 2) l6_106.toNatClampNeg (MA_106 18 l6_106.toNatClampNeg))) 3 (upd ((va_up MA_106 2 (upd (MA_106 2) l6_106.toNatClampNeg (MA_106 18 l6_106.toNatClampNeg))) 3) l6_106.toNatClampNeg ((va_up MA_106 2 (upd (MA_106 2) l6_106.toNatClampNeg (MA_106 18 l6_106.toNatClampNeg))) 19 l6_106.toNatClampNeg))) 5 (upd ((va_up (va_up MA_106 2 (upd (MA_106 2) l6_106.toNatClampNeg (MA_106 18 l6_106.toNatClampNeg))) 3 (upd ((va_up MA_106 2 (upd (MA_106 2) l6_106.toNatClampNeg (MA_106 18 l6_106.toNatClampNeg))) 3) l6_106.toNatClampNeg ((va_up MA_106 2 (upd (MA_106 2) l6_106.toNatClampNeg (MA_106 18 l6_106.toNatClampNeg))) 19 l6_106.toNatClampNeg))) 5) l6_106.toNatClampNeg ((va_up (va_up MA_106 2 (upd (MA_106 2) l6_106.toNatClampNeg (MA_106 18 l6_106.toNatClampNeg))) 3 (upd ((va_up MA_106 2 (upd (MA_106 2) l6_106.toNatClampNeg (MA_106 18 l6_106.toNatClampNeg))) 3) l6_106.toNatClampNeg ((va_up MA_106 2 (upd (MA_106 2) l6_106.toNatClampNeg (MA_106 18 l6_106.toNatClampNeg))) 19 l6_106.toNatClampNeg))) 20 l6_106.toNatClampNeg))) 6) l6_106.toNatClampNeg ((va_up (va_up (va_up MA_106 2 (upd (MA_106 2) l6_106.toNatClampNeg (MA_106 18 l6_106.toNatClampNeg))) 3 (upd ((va_up MA_106 2 (upd (MA_106 2) l6_106.toNatClampNeg (MA_106 18 l6_106.toNatClampNeg))) 3) l6_106.toNatClampNeg ((va_up MA_106 2 (upd (MA_106 2) l6_106.toNatClampNeg (MA_106 18 l6_106.toNatClampNeg))) 19 l6_106.toNatClampNeg))) 5 (upd ((va_up (va_up MA_106 2 (upd (MA_106 2) l6_106.toNatClampNeg (MA_106 18 l6_106.toNatClampNeg))) 3 (upd ((va_up MA_106 2 (upd (MA_106 2) l6_106.toNatClampNeg (MA_106 18 l6_106.toNatClampNeg))) 3) l6_106.toNatClampNeg ((va_up MA_106 2 (upd (MA_106 2) l6_106.toNatClampNeg (MA_106 18 l6_106.toNatClampNeg))) 19 l6_106.toNatClampNeg))) 5) l6_106.toNatClampNeg ((va_up (va_up MA_106 2 (upd (MA_106 2) l6_106.toNatClampNeg (MA_106 18 l6_106.toNatClampNeg))) 3 (upd ((va_up MA_106 2 (upd (MA_106 2) l6_106.toNatClampNeg (MA_106 18 l6_106.toNatClampNeg))) 3) l6_106.toNatClampNeg ((va_up MA_106 2 (upd (MA_106 2) l6_106.toNatClampNeg (MA_106 18 l6_106.toNatClampNeg))) 19 l6_106.toNatClampNeg))) 20 l6_106.toNatClampNeg))) 21 l6_106.toNatClampNeg))) 7) l6_106.toNatClampNeg ((va_up (va_up (va_up (va_up MA_106 2 (upd (MA_106 2) l6_106.toNatClampNeg (MA_106 18 l6_106.toNatClampNeg))) 3 (upd ((va_up MA_106 2 (upd (MA_106 2) l6_106.toNatClampNeg (MA_106 18 l6_106.toNatClampNeg))) 3) l6_106.toNatClampNeg ((va_up MA_106 2 (upd (MA_106 2) l6_106.toNatClampNeg (MA_106 18 l6_106.toNatClampNeg))) 19 l6_106.toNatClampNeg))) 5 (upd ((va_up (va_up MA_106 2 (upd (MA_106 2) l6_106.toNatClampNeg (MA_106 18 l6_106.toNatClampNeg))) 3 (upd ((va_up MA_106 2 (upd (MA_106 2) l6_106.toNatClampNeg (MA_106 18 l6_106.toNatClampNeg))) 3) l6_106.toNatClampNeg ((va_up MA_106 2 (upd (MA_106 2) l6_106.toNatClampNeg (MA_106 18 l6_106.toNatClampNeg))) 19 l6_106.toNatClampNeg))) 5) l6_106.toNatClampNeg ((va_up (va_up MA_106 2 (upd (MA_106 2) l6_106.toNatClampNeg (MA_106 18 l6_106.toNatClampNeg))) 3 (upd ((va_up MA_106 2 (upd (MA_106 2) l6_106.toNatClampNeg (MA_106 18 l6_106.toNatClampNeg))) 3) l6_106.toNatClampNeg ((va_up MA_106 2 (upd (MA_106 2) l6_106.toNatClampNeg (MA_106 18 l6_106.toNatClampNeg))) 19 l6_106.toNatClampNeg))) 20 l6_106.toNatClampNeg))) 6 (upd ((va_up (va_up (va_up MA_106 2 (upd (MA_106 2) l6_106.toNatClampNeg (MA_106 18 l6_106.toNatClampNeg))) 3 (upd ((va_up MA_106 2 (upd (MA_106 2) l6_106.toNatClampNeg (MA_106 18 l6_106.toNatClampNeg))) 3) l6_106.toNatClampNeg ((va_up MA_106 2 (upd (MA_106 2) l6_106.toNatClampNeg (MA_106 18 l6_106.toNatClampNeg))) 19 l6_106.toNatClampNeg))) 5 (upd ((va_up (va_up MA_106 2 (upd (MA_106 2) l6_106.toNatClampNeg (MA_106 18 l6_106.toNatClampNeg))) 3 (upd ((va_up MA_106 2 (upd (MA_106 2) l6_106.toNatClampNeg (MA_106 18 l6_106.toNatClampNeg))) 3) l6_106.toNatClampNeg ((va_up MA_106 2 (upd (MA_106 2) l6_106.toNatClampNeg (MA_106 18 l6_106.toNatClampNeg))) 19 l6_106.toNatClampNeg))) 5) l6_106.toNatClampNeg ((va_up (va_up MA_106 2 (upd (MA_106 2) l6_106.toNatClampNeg (MA_106 18 l6_106.toNatClampNeg))) 3 (upd ((va_up MA_106 2 (upd (MA_106 2) l6_106.toNatClampNeg (MA_106 18 l6_106.toNatClampNeg))) 3) l6_106.toNatClampNeg ((va_up MA_106 2 (upd (MA_106 2) l6_106.toNatClampNeg (MA_106 18 l6_106.toNatClampNeg))) 19 l6_106.toNatClampNeg))) 20 l6_106.toNatClampNeg))) 6) l6_106.toNatClampNeg ((va_up (va_up (va_up MA_106 2 (upd (MA_106 2) l6_106.toNatClampNeg (MA_106 18 l6_106.toNatClampNeg))) 3 (upd ((va_up MA_106 2 (upd (MA_106 2) l6_106.toNatClampNeg (MA_106 18 l6_106.toNatClampNeg))) 3) l6_106.toNatClampNeg ((va_up MA_106 2 (upd (MA_106 2) l6_106.toNatClampNeg (MA_106 18 l6_106.toNatClampNeg))) 19 l6_106.toNatClampNeg))) 5 (upd ((va_up (va_up MA_106 2 (upd (MA_106 2) l6_106.toNatClampNeg (MA_106 18 l6_106.toNatClampNeg))) 3 (upd ((va_up MA_106 2 (upd (MA_106 2) l6_106.toNatClampNeg (MA_106 18 l6_106.toNatClampNeg))) 3) l6_106.toNatClampNeg ((va_up MA_106 2 (upd (MA_106 2) l6_106.toNatClampNeg (MA_106 18 l6_106.toNatClampNeg))) 19 l6_106.toNatClampNeg))) 5) l6_106.toNatClampNeg ((va_up (va_up MA_106 2 (upd (MA_106 2) l6_106.toNatClampNeg (MA_106 18 l6_106.toNatClampNeg))) 3 (upd ((va_up MA_106 2 (upd (MA_106 2) l6_106.toNatClampNeg (MA_106 18 l6_106.toNatClampNeg))) 3) l6_106.toNatClampNeg ((va_up MA_106 2 (upd (MA_106 2) l6_106.toNatClampNeg (MA_106 18 l6_106.toNatClampNeg))) 19 l6_106.toNatClampNeg))) 20 l6_106.toNatClampNeg))) 21 l6_106.toNatClampNeg))) 22 l6_106.toNatClampNeg))) 8) l6_106.toNatClampNeg (0 : Int32)))) C 6 rfl dX5_frontier_189 rfl ?_
      refine r_iinc (pc := 190) C 1 dX5_frontier_190 rfl (ci_1) (by decide) (lv' := [(6, .int (l6_106 + (1 : Int32))), (0, .ref (q 0))]) rfl ?_
      refine r_goto (pc := 193) (tgt := 106) C dX5_frontier_193 (by decide) ?_
      exact r_sub [1, 0] rfl (ih_106 (l6_106 + (1 : Int32)) (va_up (va_up (va_up (va_up (va_up (va_up MA_106 2 (upd (MA_106 2) l6_106.toNatClampNeg (MA_106 18 l6_106.toNatClampNeg))) 3 (upd ((va_up MA_106 2 (upd (MA_106 2) l6_106.toNatClampNeg (MA_106 18 l6_106.toNatClampNeg))) 3) l6_106.toNatClampNeg ((va_up MA_106 2 (upd (MA_106 2) l6_106.toNatClampNeg (MA_106 18 l6_106.toNatClampNeg))) 19 l6_106.toNatClampNeg))) 5 (upd ((va_up (va_up MA_106 2 (upd (MA_106 2) l6_106.toNatClampNeg (MA_106 18 l6_106.toNatClampNeg))) 3 (upd ((va_up MA_106 2 (upd (MA_106 2) l6_106.toNatClampNeg (MA_106 18 l6_106.toNatClampNeg))) 3) l6_106.toNatClampNeg ((va_up MA_106 2 (upd (MA_106 2) l6_106.toNatClampNeg (MA_106 18 l6_106.toNatClampNeg))) 19 l6_106.toNatClampNeg))) 5) l6_106.toNatClampNeg ((va_up (va_up MA_106 2 (upd (MA_106 2) l6_106.toNatClampNeg (MA_106 18 l6_106.toNatClampNeg))) 3 (upd ((va_up MA_106 2 (upd (MA_106 2) l6_106.toNatClampNeg (MA_106 18 l6_106.toNatClampNeg))) 3) l6_106.toNatClampNeg ((va_up MA_106 2 (upd (MA_106 2) l6_106.toNatClampNeg (MA_106 18 l6_106.toNatClampNeg))) 19 l6_106.toNatClampNeg))) 20 l6_106.toNatClampNeg))) 6 (upd ((va_up (va_up (va_up MA_106 2 (upd (MA_106 2) l6_106.toNatClampNeg (MA_106 18 l6_106.toNatClampNeg))) 3 (upd ((va_up MA_106 2 (upd (MA_106 2) l6_106.toNatClampNeg (MA_106 18 l6_106.toNatClampNeg))) 3) l6_106.toNatClampNeg ((va_up MA_106 2 (upd (MA_106 2) l6_106.toNatClampNeg (MA_106 18 l6_106.toNatClampNeg))) 19 l6_106.toNatClampNeg))) 5 (upd ((va_up (va_up MA_106 2 (upd (MA_106 2) l6_106.toNatClampNeg (MA_106 18 l6_106.toNatClampNeg))) 3 (upd ((va_up MA_106 2 (upd (MA_106 2) l6_106.toNatClampNeg (MA_106 18 l6_106.toNatClampNeg))) 3) l6_106.toNatClampNeg ((va_up MA_106 2 (upd (MA_106 2) l6_106.toNatClampNeg (MA_106 18 l6_106.toNatClampNeg))) 19 l6_106.toNatClampNeg))) 5) l6_106.toNatClampNeg ((va_up (va_up MA_106 2 (upd (MA_106 2) l6_106.toNatClampNeg (MA_106 18 l6_106.toNatClampNeg))) 3 (upd ((va_up MA_106 2 (upd (MA_106 2) l6_106.toNatClampNeg (MA_106 18 l6_106.toNatClampNeg))) 3) l6_106.toNatClampNeg ((va_up MA_106 2 (upd (MA_106 2) l6_106.toNatClampNeg (MA_106 18 l6_106.toNatClampNeg))) 19 l6_106.toNatClampNeg))) 20 l6_106.toNatClampNeg))) 6) l6_106.toNatClampNeg ((va_up (va_up (va_up MA_106 2 (upd (MA_106 2) l6_106.toNatClampNeg (MA_106 18 l6_106.toNatClampNeg))) 3 (upd ((va_up MA_106 2 (upd (MA_106 2) l6_106.toNatClampNeg (MA_106 18 l6_106.toNatClampNeg))) 3) l6_106.toNatClampNeg ((va_up MA_106 2 (upd (MA_106 2) l6_106.toNatClampNeg (MA_106 18 l6_106.toNatClampNeg))) 19 l6_106.toNatClampNeg))) 5 (upd ((va_up (va_up MA_106 2 (upd (MA_106 2) l6_106.toNatClampNeg (MA_106 18 l6_106.toNatClampNeg))) 3 (upd ((va_up MA_106 2 (upd (MA_106 2) l6_106.toNatClampNeg (MA_106 18 l6_106.toNatClampNeg))) 3) l6_106.toNatClampNeg ((va_up MA_106 2 (upd (MA_106 2) l6_106.toNatClampNeg (MA_106 18 l6_106.toNatClampNeg))) 19 l6_106.toNatClampNeg))) 5) l6_106.toNatClampNeg ((va_up (va_up MA_106 2 (upd (MA_106 2) l6_106.toNatClampNeg (MA_106 18 l6_106.toNatClampNeg))) 3 (upd ((va_up MA_106 2 (upd (MA_106 2) l6_106.toNatClampNeg (MA_106 18 l6_106.toNatClampNeg))) 3) l6_106.toNatClampNeg ((va_up MA_106 2 (upd (MA_106 2) l6_106.toNatClampNeg (MA_106 18 l6_106.toNatClampNeg))) 19 l6_106.toNatClampNeg))) 20 l6_106.toNatClampNeg))) 21 l6_106.toNatClampNeg))) 7 (upd ((va_up (va_up (va_up (va_up MA_106 2 (upd (MA_106 2) l6_106.toNatClampNeg (MA_106 18 l6_106.toNatClampNeg))) 3 (upd ((va_up MA_106 2 (upd (MA_106 2) l6_106.toNatClampNeg (MA_106 18 l6_106.toNatClampNeg))) 3) l6_106.toNatClampNeg ((va_up MA_106 2 (upd (MA_106 2) l6_106.toNatClampNeg (MA_106 18 l6_106.toNatClampNeg))) 19 l6_106.toNatClampNeg))) 5 (upd ((va_up (va_up MA_106 2 (upd (MA_106 2) l6_106.toNatClampNeg (MA_106 18 l6_106.toNatClampNeg))) 3 (upd ((va_up MA_106 2 (upd (MA_106 2) l6_106.toNatClampNeg (MA_106 18 l6_106.toNatClampNeg))) 3) l6_106.toNatClampNeg ((va_up MA_106 2 (upd (MA_106 2) l6_106.toNatClampNeg (MA_106 18 l6_106.toNatClampNeg))) 19 l6_106.toNatClampNeg))) 5) l6_106.toNatClampNeg ((va_up (va_up MA_106 2 (upd (MA_106 2) l6_106.toNatClampNeg (MA_106 18 l6_106.toNatClampNeg))) 3 (upd ((va_up MA_106 2 (upd (MA_106 2) l6_106.toNatClampNeg (MA_106 18 l6_106.toNatClampNeg))) 3) l6_106.toNatClampNeg ((va_up MA_106 2 (upd (MA_106 2) l6_106.toNatClampNeg (MA_106 18 l6_106.toNatClampNeg))) 19 l6_106.toNatClampNeg))) 20 l6_106.toNatClampNeg))) 6 (upd ((va_up (va_up (va_up MA_106 2 (upd (MA_106 2) l6_106.toNatClampNeg (MA_106 18 l6_106.toNatClampNeg))) 3 (upd ((va_up MA_106 2 (upd (MA_106 2) l6_106.toNatClampNeg (MA_106 18 l6_106.toNatClampNeg))) 3) l6_106.toNatClampNeg ((va_up MA_106 2 (upd (MA_106 2) l6_106.toNatClampNeg (MA_106 18 l6_106.toNatClampNeg))) 19 l6_106.toNatClampNeg))) 5 (upd ((va_up (va_up MA_106 2 (upd (MA_106 2) l6_106.toNatClampNeg (MA_106 18 l6_106.toNatClampNeg))) 3 (upd ((va_up MA_106 2 (upd (MA_106 2) l6_106.toNatClampNeg (MA_106 18 l6_106.toNatClampNeg))) 3) l6_106.toNatClampNeg ((va_up MA_106 2 (upd (MA_106 2) l6_106.toNatClampNeg (MA_106 18 l6_106.toNatClampNeg))) 19 l6_106.toNatClampNeg))) 5) l6_106.toNatClampNeg ((va_up (va_up MA_106 2 (upd (MA_106 2) l6_106.toNatClampNeg (MA_106 18 l6_106.toNatClampNeg))) 3 (upd ((va_up MA_106 2 (upd (MA_106 2) l6_106.toNatClampNeg (MA_106 18 l6_106.toNatClampNeg))) 3) l6_106.toNatClampNeg ((va_up MA_106 2 (upd (MA_106 2) l6_106.toNatClampNeg (MA_106 18 l6_106.toNatClampNeg))) 19 l6_106.toNatClampNeg))) 20 l6_106.toNatClampNeg))) 6) l6_106.toNatClampNeg ((va_up (va_up (va_up MA_106 2 (upd (MA_106 2) l6_106.toNatClampNeg (MA_106 18 l6_106.toNatClampNeg))) 3 (upd ((va_up MA_106 2 (upd (MA_106 2) l6_106.toNatClampNeg (MA_106 18 l6_106.toNatClampNeg))) 3) l6_106.toNatClampNeg ((va_up MA_106 2 (upd (MA_106 2) l6_106.toNatClampNeg (MA_106 18 l6_106.toNatClampNeg))) 19 l6_106.toNatClampNeg))) 5 (upd ((va_up (va_up MA_106 2 (upd (MA_106 2) l6_106.toNatClampNeg (MA_106 18 l6_106.toNatClampNeg))) 3 (upd ((va_up MA_106 2 (upd (MA_106 2) l6_106.toNatClampNeg (MA_106 18 l6_106.toNatClampNeg))) 3) l6_106.toNatClampNeg ((va_up MA_106 2 (upd (MA_106 2) l6_106.toNatClampNeg (MA_106 18 l6_106.toNatClampNeg))) 19 l6_106.toNatClampNeg))) 5) l6_106.toNatClampNeg ((va_up (va_up MA_106 2 (upd (MA_106 2) l6_106.toNatClampNeg (MA_106 18 l6_106.toNatClampNeg))) 3 (upd ((va_up MA_106 2 (upd (MA_106 2) l6_106.toNatClampNeg (MA_106 18 l6_106.toNatClampNeg))) 3) l6_106.toNatClampNeg ((va_up MA_106 2 (upd (MA_106 2) l6_106.toNatClampNeg (MA_106 18 l6_106.toNatClampNeg))) 19 l6_106.toNatClampNeg))) 20 l6_106.toNatClampNeg))) 21 l6_106.toNatClampNeg))) 7) l6_106.toNatClampNeg ((va_up (va_up (va_up (va_up MA_106 2 (upd (MA_106 2) l6_106.toNatClampNeg (MA_106 18 l6_106.toNatClampNeg))) 3 (upd ((va_up MA_106 2 (upd (MA_106 2) l6_106.toNatClampNeg (MA_106 18 l6_106.toNatClampNeg))) 3) l6_106.toNatClampNeg ((va_up MA_106 2 (upd (MA_106 2) l6_106.toNatClampNeg (MA_106 18 l6_106.toNatClampNeg))) 19 l6_106.toNatClampNeg))) 5 (upd ((va_up (va_up MA_106 2 (upd (MA_106 2) l6_106.toNatClampNeg (MA_106 18 l6_106.toNatClampNeg))) 3 (upd ((va_up MA_106 2 (upd (MA_106 2) l6_106.toNatClampNeg (MA_106 18 l6_106.toNatClampNeg))) 3) l6_106.toNatClampNeg ((va_up MA_106 2 (upd (MA_106 2) l6_106.toNatClampNeg (MA_106 18 l6_106.toNatClampNeg))) 19 l6_106.toNatClampNeg))) 5) l6_106.toNatClampNeg ((va_up (va_up MA_106 2 (upd (MA_106 2) l6_106.toNatClampNeg (MA_106 18 l6_106.toNatClampNeg))) 3 (upd ((va_up MA_106 2 (upd (MA_106 2) l6_106.toNatClampNeg (MA_106 18 l6_106.toNatClampNeg))) 3) l6_106.toNatClampNeg ((va_up MA_106 2 (upd (MA_106 2) l6_106.toNatClampNeg (MA_106 18 l6_106.toNatClampNeg))) 19 l6_106.toNatClampNeg))) 20 l6_106.toNatClampNeg))) 6 (upd ((va_up (va_up (va_up MA_106 2 (upd (MA_106 2) l6_106.toNatClampNeg (MA_106 18 l6_106.toNatClampNeg))) 3 (upd ((va_up MA_106 2 (upd (MA_106 2) l6_106.toNatClampNeg (MA_106 18 l6_106.toNatClampNeg))) 3) l6_106.toNatClampNeg ((va_up MA_106 2 (upd (MA_106 2) l6_106.toNatClampNeg (MA_106 18 l6_106.toNatClampNeg))) 19 l6_106.toNatClampNeg))) 5 (upd ((va_up (va_up MA_106 2 (upd (MA_106 2) l6_106.toNatClampNeg (MA_106 18 l6_106.toNatClampNeg))) 3 (upd ((va_up MA_106 2 (upd (MA_106 2) l6_106.toNatClampNeg (MA_106 18 l6_106.toNatClampNeg))) 3) l6_106.toNatClampNeg ((va_up MA_106 2 (upd (MA_106 2) l6_106.toNatClampNeg (MA_106 18 l6_106.toNatClampNeg))) 19 l6_106.toNatClampNeg))) 5) l6_106.toNatClampNeg ((va_up (va_up MA_106 2 (upd (MA_106 2) l6_106.toNatClampNeg (MA_106 18 l6_106.toNatClampNeg))) 3 (upd ((va_up MA_106 2 (upd (MA_106 2) l6_106.toNatClampNeg (MA_106 18 l6_106.toNatClampNeg))) 3) l6_106.toNatClampNeg ((va_up MA_106 2 (upd (MA_106 2) l6_106.toNatClampNeg (MA_106 18 l6_106.toNatClampNeg))) 19 l6_106.toNatClampNeg))) 20 l6_106.toNatClampNeg))) 6) l6_106.toNatClampNeg ((va_up (va_up (va_up MA_106 2 (upd (MA_106 2) l6_106.toNatClampNeg (MA_106 18 l6_106.toNatClampNeg))) 3 (upd ((va_up MA_106 2 (upd (MA_106 2) l6_106.toNatClampNeg (MA_106 18 l6_106.toNatClampNeg))) 3) l6_106.toNatClampNeg ((va_up MA_106 2 (upd (MA_106 2) l6_106.toNatClampNeg (MA_106 18 l6_106.toNatClampNeg))) 19 l6_106.toNatClampNeg))) 5 (upd ((va_up (va_up MA_106 2 (upd (MA_106 2) l6_106.toNatClampNeg (MA_106 18 l6_106.toNatClampNeg))) 3 (upd ((va_up MA_106 2 (upd (MA_106 2) l6_106.toNatClampNeg (MA_106 18 l6_106.toNatClampNeg))) 3) l6_106.toNatClampNeg ((va_up MA_106 2 (upd (MA_106 2) l6_106.toNatClampNeg (MA_106 18 l6_106.toNatClampNeg))) 19 l6_106.toNatClampNeg))) 5) l6_106.toNatClampNeg ((va_up (va_up MA_106 2 (upd (MA_106 2) l6_106.toNatClampNeg (MA_106 18 l6_106.toNatClampNeg))) 3 (upd ((va_up MA_106 2 (upd (MA_106 2) l6_106.toNatClampNeg (MA_106 18 l6_106.toNatClampNeg))) 3) l6_106.toNatClampNeg ((va_up MA_106 2 (upd (MA_106 2) l6_106.toNatClampNeg (MA_106 18 l6_106.toNatClampNeg))) 19 l6_106.toNatClampNeg))) 20 l6_106.toNatClampNeg))) 21 l6_106.toNatClampNeg))) 22 l6_106.toNatClampNeg))) 8 (upd ((va_up (va_up (va_up (va_up (va_up MA_106 2 (upd (MA_106 2) l6_106.toNatClampNeg (MA_106 18 l6_106.toNatClampNeg))) 3 (upd ((va_up MA_106 2 (upd (MA_106 2) l6_106.toNatClampNeg (MA_106 18 l6_106.toNatClampNeg))) 3) l6_106.toNatClampNeg ((va_up MA_106 2 (upd (MA_106 2) l6_106.toNatClampNeg (MA_106 18 l6_106.toNatClampNeg))) 19 l6_106.toNatClampNeg))) 5 (upd ((va_up (va_up MA_106 2 (upd (MA_106 2) l6_106.toNatClampNeg (MA_106 18 l6_106.toNatClampNeg))) 3 (upd ((va_up MA_106 2 (upd (MA_106 2) l6_106.toNatClampNeg (MA_106 18 l6_106.toNatClampNeg))) 3) l6_106.toNatClampNeg ((va_up MA_106 2 (upd (MA_106 2) l6_106.toNatClampNeg (MA_106 18 l6_106.toNatClampNeg))) 19 l6_106.toNatClampNeg))) 5) l6_106.toNatClampNeg ((va_up (va_up MA_106 2 (upd (MA_106 2) l6_106.toNatClampNeg (MA_106 18 l6_106.toNatClampNeg))) 3 (upd ((va_up MA_106 2 (upd (MA_106 2) l6_106.toNatClampNeg (MA_106 18 l6_106.toNatClampNeg))) 3) l6_106.toNatClampNeg ((va_up MA_106 2 (upd (MA_106 2) l6_106.toNatClampNeg (MA_106 18 l6_106.toNatClampNeg))) 19 l6_106.toNatClampNeg))) 20 l6_106.toNatClampNeg))) 6 (upd ((va_up (va_up (va_up MA_106 2 (upd (MA_106 2) l6_106.toNatClampNeg (MA_106 18 l6_106.toNatClampNeg))) 3 (upd ((va_up MA_106 2 (upd (MA_106 2) l6_106.toNatClampNeg (MA_106 18 l6_106.toNatClampNeg))) 3) l6_106.toNatClampNeg ((va_up MA_106 2 (upd (MA_106 2) l6_106.toNatClampNeg (MA_106 18 l6_106.toNatClampNeg))) 19 l6_106.toNatClampNeg))) 5 (upd ((va_up (va_up MA_106 2 (upd (MA_106 2) l6_106.toNatClampNeg (MA_106 18 l6_106.toNatClampNeg))) 3 (upd ((va_up MA_106 2 (upd (MA_106 2) l6_106.toNatClampNeg (MA_106 18 l6_106.toNatClampNeg))) 3) l6_106.toNatClampNeg ((va_up MA_106 2 (upd (MA_106 2) l6_106.toNatClampNeg (MA_106 18 l6_106.toNatClampNeg))) 19 l6_106.toNatClampNeg))) 5) l6_106.toNatClampNeg ((va_up (va_up MA_106 2 (upd (MA_106 2) l6_106.toNatClampNeg (MA_106 18 l6_106.toNatClampNeg))) 3 (upd ((va_up MA_106 2 (upd (MA_106 2) l6_106.toNatClampNeg (MA_106 18 l6_106.toNatClampNeg))) 3) l6_106.toNatClampNeg ((va_up MA_106 2 (upd (MA_106 2) l6_106.toNatClampNeg (MA_106 18 l6_106.toNatClampNeg))) 19 l6_106.toNatClampNeg))) 20 l6_106.toNatClampNeg))) 6) l6_106.toNatClampNeg ((va_up (va_up (va_up MA_106 2 (upd (MA_106 2) l6_106.toNatClampNeg (MA_106 18 l6_106.toNatClampNeg))) 3 (upd ((va_up MA_106 2 (upd (MA_106 2) l6_106.toNatClampNeg (MA_106 18 l6_106.toNatClampNeg))) 3) l6_106.toNatClampNeg ((va_up MA_106 2 (upd (MA_106 2) l6_106.toNatClampNeg (MA_106 18 l6_106.toNatClampNeg))) 19 l6_106.toNatClampNeg))) 5 (upd ((va_up (va_up MA_106 2 (upd (MA_106 2) l6_106.toNatClampNeg (MA_106 18 l6_106.toNatClampNeg))) 3 (upd ((va_up MA_106 2 (upd (MA_106 2) l6_106.toNatClampNeg (MA_106 18 l6_106.toNatClampNeg))) 3) l6_106.toNatClampNeg ((va_up MA_106 2 (upd (MA_106 2) l6_106.toNatClampNeg (MA_106 18 l6_106.toNatClampNeg))) 19 l6_106.toNatClampNeg))) 5) l6_106.toNatClampNeg ((va_up (va_up MA_106 2 (upd (MA_106 2) l6_106.toNatClampNeg (MA_106 18 l6_106.toNatClampNeg))) 3 (upd ((va_up MA_106 2 (upd (MA_106 2) l6_106.toNatClampNeg (MA_106 18 l6_106.toNatClampNeg))) 3) l6_106.toNatClampNeg ((va_up MA_106 2 (upd (MA_106 2) l6_106.toNatClampNeg (MA_106 18 l6_106.toNatClampNeg))) 19 l6_106.toNatClampNeg))) 20 l6_106.toNatClampNeg))) 21 l6_106.toNatClampNeg))) 7 (upd ((va_up (va_up (va_up (va_up MA_106 2 (upd (MA_106 2) l6_106.toNatClampNeg (MA_106 18 l6_106.toNatClampNeg))) 3 (upd ((va_up MA_106 2 (upd (MA_106 2) l6_106.toNatClampNeg (MA_106 18 l6_106.toNatClampNeg))) 3) l6_106.toNatClampNeg ((va_up MA_106 2 (upd (MA_106 2) l6_106.toNatClampNeg (MA_106 18 l6_106.toNatClampNeg))) 19 l6_106.toNatClampNeg))) 5 (upd ((va_up (va_up MA_106 2 (upd (MA_106 2) l6_106.toNatClampNeg (MA_106 18 l6_106.toNatClampNeg))) 3 (upd ((va_up MA_106 2 (upd (MA_106 2) l6_106.toNatClampNeg (MA_106 18 l6_106.toNatClampNeg))) 3) l6_106.toNatClampNeg ((va_up MA_106 2 (upd (MA_106 2) l6_106.toNatClampNeg (MA_106 18 l6_106.toNatClampNeg))) 19 l6_106.toNatClampNeg))) 5) l6_106.toNatClampNeg ((va_up (va_up MA_106 2 (upd (MA_106 2) l6_106.toNatClampNeg (MA_106 18 l6_106.toNatClampNeg))) 3 (upd ((va_up MA_106 2 (upd (MA_106 2) l6_106.toNatClampNeg (MA_106 18 l6_106.toNatClampNeg))) 3) l6_106.toNatClampNeg ((va_up MA_106 2 (upd (MA_106 2) l6_106.toNatClampNeg (MA_106 18 l6_106.toNatClampNeg))) 19 l6_106.toNatClampNeg))) 20 l6_106.toNatClampNeg))) 6 (upd ((va_up (va_up (va_up MA_106 2 (upd (MA_106 2) l6_106.toNatClampNeg (MA_106 18 l6_106.toNatClampNeg))) 3 (upd ((va_up MA_106 2 (upd (MA_106 2) l6_106.toNatClampNeg (MA_106 18 l6_106.toNatClampNeg))) 3) l6_106.toNatClampNeg ((va_up MA_106 2 (upd (MA_106 2) l6_106.toNatClampNeg (MA_106 18 l6_106.toNatClampNeg))) 19 l6_106.toNatClampNeg))) 5 (upd ((va_up (va_up MA_106 2 (upd (MA_106 2) l6_106.toNatClampNeg (MA_106 18 l6_106.toNatClampNeg))) 3 (upd ((va_up MA_106 2 (upd (MA_106 2) l6_106.toNatClampNeg (MA_106 18 l6_106.toNatClampNeg))) 3) l6_106.toNatClampNeg ((va_up MA_106 2 (upd (MA_106 2) l6_106.toNatClampNeg (MA_106 18 l6_106.toNatClampNeg))) 19 l6_106.toNatClampNeg))) 5) l6_106.toNatClampNeg ((va_up (va_up MA_106 2 (upd (MA_106 2) l6_106.toNatClampNeg (MA_106 18 l6_106.toNatClampNeg))) 3 (upd ((va_up MA_106 2 (upd (MA_106 2) l6_106.toNatClampNeg (MA_106 18 l6_106.toNatClampNeg))) 3) l6_106.toNatClampNeg ((va_up MA_106 2 (upd (MA_106 2) l6_106.toNatClampNeg (MA_106 18 l6_106.toNatClampNeg))) 19 l6_106.toNatClampNeg))) 20 l6_106.toNatClampNeg))) 6) l6_106.toNatClampNeg ((va_up (va_up (va_up MA_106 2 (upd (MA_106 2) l6_106.toNatClampNeg (MA_106 18 l6_106.toNatClampNeg))) 3 (upd ((va_up MA_106 2 (upd (MA_106 2) l6_106.toNatClampNeg (MA_106 18 l6_106.toNatClampNeg))) 3) l6_106.toNatClampNeg ((va_up MA_106 2 (upd (MA_106 2) l6_106.toNatClampNeg (MA_106 18 l6_106.toNatClampNeg))) 19 l6_106.toNatClampNeg))) 5 (upd ((va_up (va_up MA_106 2 (upd (MA_106 2) l6_106.toNatClampNeg (MA_106 18 l6_106.toNatClampNeg))) 3 (upd ((va_up MA_106 2 (upd (MA_106 2) l6_106.toNatClampNeg (MA_106 18 l6_106.toNatClampNeg))) 3) l6_106.toNatClampNeg ((va_up MA_106 2 (upd (MA_106 2) l6_106.toNatClampNeg (MA_106 18 l6_106.toNatClampNeg))) 19 l6_106.toNatClampNeg))) 5) l6_106.toNatClampNeg ((va_up (va_up MA_106 2 (upd (MA_106 2) l6_106.toNatClampNeg (MA_106 18 l6_106.toNatClampNeg))) 3 (upd ((va_up MA_106 2 (upd (MA_106 2) l6_106.toNatClampNeg (MA_106 18 l6_106.toNatClampNeg))) 3) l6_106.toNatClampNeg ((va_up MA_106 2 (upd (MA_106 2) l6_106.toNatClampNeg (MA_106 18 l6_106.toNatClampNeg))) 19 l6_106.toNatClampNeg))) 20 l6_106.toNatClampNeg))) 21 l6_106.toNatClampNeg))) 7) l6_106.toNatClampNeg ((va_up (va_up (va_up (va_up MA_106 2 (upd (MA_106 2) l6_106.toNatClampNeg (MA_106 18 l6_106.toNatClampNeg))) 3 (upd ((va_up MA_106 2 (upd (MA_106 2) l6_106.toNatClampNeg (MA_106 18 l6_106.toNatClampNeg))) 3) l6_106.toNatClampNeg ((va_up MA_106 2 (upd (MA_106 2) l6_106.toNatClampNeg (MA_106 18 l6_106.toNatClampNeg))) 19 l6_106.toNatClampNeg))) 5 (upd ((va_up (va_up MA_106 2 (upd (MA_106 2) l6_106.toNatClampNeg (MA_106 18 l6_106.toNatClampNeg))) 3 (upd ((va_up MA_106 2 (upd (MA_106 2) l6_106.toNatClampNeg (MA_106 18 l6_106.toNatClampNeg))) 3) l6_106.toNatClampNeg ((va_up MA_106 2 (upd (MA_106 2) l6_106.toNatClampNeg (MA_106 18 l6_106.toNatClampNeg))) 19 l6_106.toNatClampNeg))) 5) l6_106.toNatClampNeg ((va_up (va_up MA_106 2 (upd (MA_106 2) l6_106.toNatClampNeg (MA_106 18 l6_106.toNatClampNeg))) 3 (upd ((va_up MA_106 2 (upd (MA_106 2) l6_106.toNatClampNeg (MA_106 18 l6_106.toNatClampNeg))) 3) l6_106.toNatClampNeg ((va_up MA_106 2 (upd (MA_106 2) l6_106.toNatClampNeg (MA_106 18 l6_106.toNatClampNeg))) 19 l6_106.toNatClampNeg))) 20 l6_106.toNatClampNeg))) 6 (upd ((va_up (va_up (va_up MA_106 2 (upd (MA_106 2) l6_106.toNatClampNeg (MA_106 18 l6_106.toNatClampNeg))) 3 (upd ((va_up MA_106 2 (upd (MA_106 2) l6_106.toNatClampNeg (MA_106 18 l6_106.toNatClampNeg))) 3) l6_106.toNatClampNeg ((va_up MA_106 2 (upd (MA_106 2) l6_106.toNatClampNeg (MA_106 18 l6_106.toNatClampNeg))) 19 l6_106.toNatClampNeg))) 5 (upd ((va_up (va_up MA_106 2 (upd (MA_106 2) l6_106.toNatClampNeg (MA_106 18 l6_106.toNatClampNeg))) 3 (upd ((va_up MA_106 2 (upd (MA_106 2) l6_106.toNatClampNeg (MA_106 18 l6_106.toNatClampNeg))) 3) l6_106.toNatClampNeg ((va_up MA_106 2 (upd (MA_106 2) l6_106.toNatClampNeg (MA_106 18 l6_106.toNatClampNeg))) 19 l6_106.toNatClampNeg))) 5) l6_106.toNatClampNeg ((va_up (va_up MA_106 2 (upd (MA_106 2) l6_106.toNatClampNeg (MA_106 18 l6_106.toNatClampNeg))) 3 (upd ((va_up MA_106 2 (upd (MA_106 2) l6_106.toNatClampNeg (MA_106 18 l6_106.toNatClampNeg))) 3) l6_106.toNatClampNeg ((va_up MA_106 2 (upd (MA_106 2) l6_106.toNatClampNeg (MA_106 18 l6_106.toNatClampNeg))) 19 l6_106.toNatClampNeg))) 20 l6_106.toNatClampNeg))) 6) l6_106.toNatClampNeg ((va_up (va_up (va_up MA_106 2 (upd (MA_106 2) l6_106.toNatClampNeg (MA_106 18 l6_106.toNatClampNeg))) 3 (upd ((va_up MA_106 2 (upd (MA_106 2) l6_106.toNatClampNeg (MA_106 18 l6_106.toNatClampNeg))) 3) l6_106.toNatClampNeg ((va_up MA_106 2 (upd (MA_106 2) l6_106.toNatClampNeg (MA_106 18 l6_106.toNatClampNeg))) 19 l6_106.toNatClampNeg))) 5 (upd ((va_up (va_up MA_106 2 (upd (MA_106 2) l6_106.toNatClampNeg (MA_106 18 l6_106.toNatClampNeg))) 3 (upd ((va_up MA_106 2 (upd (MA_106 2) l6_106.toNatClampNeg (MA_106 18 l6_106.toNatClampNeg))) 3) l6_106.toNatClampNeg ((va_up MA_106 2 (upd (MA_106 2) l6_106.toNatClampNeg (MA_106 18 l6_106.toNatClampNeg))) 19 l6_106.toNatClampNeg))) 5) l6_106.toNatClampNeg ((va_up (va_up MA_106 2 (upd (MA_106 2) l6_106.toNatClampNeg (MA_106 18 l6_106.toNatClampNeg))) 3 (upd ((va_up MA_106 2 (upd (MA_106 2) l6_106.toNatClampNeg (MA_106 18 l6_106.toNatClampNeg))) 3) l6_106.toNatClampNeg ((va_up MA_106 2 (upd (MA_106 2) l6_106.toNatClampNeg (MA_106 18 l6_106.toNatClampNeg))) 19 l6_106.toNatClampNeg))) 20 l6_106.toNatClampNeg))) 21 l6_106.toNatClampNeg))) 22 l6_106.toNatClampNeg))) 8) l6_106.toNatClampNeg (0 : Int32))))
set_option maxHeartbeats 4000000 in
set_option maxRecDepth 100000 in
theorem m_X5_frontier (l : Launch) (D : va_G) (cI cS : ClassId) (q : Nat → Nat) (MI : Nat → Int32) (MA : Nat → Nat → Int32) (a1 : Int32) (a2 : Int32) (a3 : Int32) (a4 : Int32) : MX l D (tyz cI cS) yX5_frontier cX5_frontier 7 (some .int) (rmz 4 98) [.ref (q 0), .int a1, .int a2, .int a3, .int a4] (wdM cI q MI MA) (f_X5_frontier MI MA a1 a2 a3 a4) (fun o : Int32 × (Nat → Int32) × (Nat → Nat → Int32) => some (.int o.1)) (fun o : Int32 × (Nat → Int32) × (Nat → Nat → Int32) => wdM cI q o.2.1 o.2.2) := met_of (own := RX5) (by decide) rfl (Nat.le_of_ble_eq_true rfl) (fun X hxl hxD C => by
  subst hxl
  subst hxD
  show JR X _ _ 0 0 (f_X5_frontier MI MA a1 a2 a3 a4) (wdM cI q MI MA) [(0, .ref (q 0)), (1, .int a1), (2, .int a2), (3, .int a3), (4, .int a4)] 0 []
  unfold f_X5_frontier
  refine r_iload_n (pc := 0) C 1 dX5_frontier_0 rfl rfl ?_
  refine r_callSr (pc := 1) (rest := []) C (m_X5_noSheet (xl X) (xD X) cI cS a1) ms_X5_137 rfl ⟨Nat.zero_le _, Nat.zero_le _⟩ rfl rfl (Nat.le_of_ble_eq_true rfl) dX5_frontier_1 (fun r1 => ?_)
  refine r_if_eq (pc := 4) (tgt := 13) C dX5_frontier_4 (by decide) ?_ ?_
  · refine r_iload_n (pc := 13) C 2 dX5_frontier_13 rfl rfl ?_
    refine r_i2l (pc := 14) C dX5_frontier_14 ?_
    refine r_lconst (pc := 15) (v := 0) C dX5_frontier_15 rfl ?_
    refine r_ldc2 (pc := 16) C kk_X5_98 dX5_frontier_16 ?_
    refine r_callSr (pc := 19) (rest := []) C (m_X5_in (xl X) (xD X) cI cS a2.toInt64 (0 : Int64) (2 : Int64)) ms_X5_91 rfl ⟨Nat.zero_le _, Nat.zero_le _⟩ rfl rfl (Nat.le_of_ble_eq_true rfl) dX5_frontier_19 (fun r19 => ?_)
    refine r_if_ne (pc := 22) (tgt := 32) C dX5_frontier_22 (by decide) ?_ ?_
    · refine r_aload_n (pc := 32) C 0 dX5_frontier_32 rfl rfl ?_
      refine r_iload_n (pc := 33) C 1 dX5_frontier_33 rfl rfl ?_
      refine r_iload_n (pc := 34) C 2 dX5_frontier_34 rfl rfl ?_
      refine r_iload_n (pc := 35) C 3 dX5_frontier_35 rfl rfl ?_
      refine r_iload (pc := 36) C 4 dX5_frontier_36 rfl ?_
      refine r_i2l (pc := 38) C dX5_frontier_38 ?_
      refine r_callV0 (pc := 39) (rest := []) C (m_X5_cellsBarred (xl X) (xD X) cI cS q MI MA a1 a2 a3 a4.toInt64) mv_X5_144 rfl rfl rfl ⟨Nat.zero_le _, Nat.zero_le _⟩ rfl rfl (Nat.le_of_ble_eq_true rfl) dX5_frontier_39 (fun r39 => ?_)
      refine r_istore (pc := 42) C dX5_frontier_42 (by decide) (lv' := [(5, .int r39.1), (0, .ref (q 0)), (1, .int a1), (2, .int a2), (3, .int a3), (4, .int a4)]) rfl ?_
      refine r_iload (pc := 44) C 0 dX5_frontier_44 rfl ?_
      refine r_if_ge (pc := 46) (tgt := 52) C dX5_frontier_46 (by decide) ?_ ?_
      · refine r_aload_n (pc := 52) C 1 dX5_frontier_52 rfl rfl ?_
        refine r_bipush (pc := 53) C dX5_frontier_53 (cb_60) ?_
        refine r_iload_n (pc := 55) C 2 dX5_frontier_55 rfl rfl ?_
        refine r_imul (pc := 56) C dX5_frontier_56 ?_
        refine r_iload_n (pc := 57) C 4 dX5_frontier_57 rfl rfl ?_
        refine r_iadd (pc := 58) C dX5_frontier_58 ?_
        refine r_iload (pc := 59) C 5 dX5_frontier_59 rfl ?_
        refine r_callV0 (pc := 61) (rest := []) C (m_X5_readsFrontier (xl X) (xD X) cI cS q r39.2 MA (((60 : Int32) * a1) + a3) a4) mv_X5_148 rfl rfl rfl ⟨Nat.zero_le _, Nat.zero_le _⟩ rfl rfl (Nat.le_of_ble_eq_true rfl) dX5_frontier_61 (fun r61 => ?_)
        refine r_if_ne (pc := 64) (tgt := 79) C dX5_frontier_64 (by decide) ?_ ?_
        · refine r_aload_n (pc := 79) C 1 dX5_frontier_79 rfl rfl ?_
          refine r_aload_n (pc := 80) C 1 dX5_frontier_80 rfl rfl ?_
          refine gf_X5_119 (pc := 81) C 0 rfl rfl dX5_frontier_81 ?_
          refine pf_X5_151 (pc := 84) (ws' := wdM cI q (upd r61.2.1 11 (r61.2.1 15)) r61.2.2) C 0 rfl rfl dX5_frontier_84 rfl ?_
          refine r_aload_n (pc := 87) C 1 dX5_frontier_87 rfl rfl ?_
          refine r_aload_n (pc := 88) C 1 dX5_frontier_88 rfl rfl ?_
          refine gf_X5_109 (pc := 89) C 0 rfl rfl dX5_frontier_89 ?_
          refine pf_X5_88 (pc := 92) (ws' := wdM cI q (upd (upd r61.2.1 11 (r61.2.1 15)) 1 ((upd r61.2.1 11 (r61.2.1 15)) 16)) r61.2.2) C 0 rfl rfl dX5_frontier_92 rfl ?_
          refine r_aload_n (pc := 95) C 1 dX5_frontier_95 rfl rfl ?_
          refine r_aload_n (pc := 96) C 1 dX5_frontier_96 rfl rfl ?_
          refine gf_X5_116 (pc := 97) C 0 rfl rfl dX5_frontier_97 ?_
          refine pf_X5_95 (pc := 100) (ws' := wdM cI q (upd (upd (upd r61.2.1 11 (r61.2.1 15)) 1 ((upd r61.2.1 11 (r61.2.1 15)) 16)) 4 ((upd (upd r61.2.1 11 (r61.2.1 15)) 1 ((upd r61.2.1 11 (r61.2.1 15)) 16)) 17)) r61.2.2) C 0 rfl rfl dX5_frontier_100 rfl ?_
          refine r_iconst (pc := 103) C dX5_frontier_103 (ci_0) ?_
          refine r_istore (pc := 104) C dX5_frontier_104 (by decide) (lv' := [(6, .int (0 : Int32)), (5, .int r39.1), (0, .ref (q 0)), (1, .int a1), (2, .int a2), (3, .int a3), (4, .int a4)]) rfl ?_
          refine r_sub [2, 0] rfl (wl_X5_frontier_106 X C q r61  _ (fun el6_106 eMA_106 => ?_) 1000 (0 : Int32) r61.2.2)
          refine r_iconst (pc := 196) C dX5_frontier_196 (ci_0) ?_
          refine r_istore (pc := 197) C dX5_frontier_197 (by decide) (lv' := [(6, .int (0 : Int32)), (0, .ref (q 0))]) rfl ?_
          refine r_sub [1, 0] rfl (wl_X5_frontier_199 X C q r61  _ (fun el6_199 eMA_199 => ?_) 1000 (0 : Int32) eMA_106)
          refine r_aload_n (pc := 219) C 0 dX5_frontier_219 rfl rfl ?_
          refine r_aload_n (pc := 220) C 0 dX5_frontier_220 rfl rfl ?_
          refine r_callV0 (pc := 221) (rest := [.ref (q 0)]) C (m_X5_all (xl X) (xD X) cI cS q (upd (upd (upd r61.2.1 11 (r61.2.1 15)) 1 ((upd r61.2.1 11 (r61.2.1 15)) 16)) 4 ((upd (upd r61.2.1 11 (r61.2.1 15)) 1 ((upd r61.2.1 11 (r61.2.1 15)) 16)) 17)) eMA_199) mv_X5_154 rfl rfl rfl ⟨Nat.zero_le _, Nat.zero_le _⟩ rfl rfl (Nat.le_of_ble_eq_true rfl) dX5_frontier_221 (fun r221 => ?_)
          refine pf_X5_158 (pc := 224) (ws' := wdM cI q (upd (upd (upd (upd r61.2.1 11 (r61.2.1 15)) 1 ((upd r61.2.1 11 (r61.2.1 15)) 16)) 4 ((upd (upd r61.2.1 11 (r61.2.1 15)) 1 ((upd r61.2.1 11 (r61.2.1 15)) 16)) 17)) 10 r221) eMA_199) C 0 rfl rfl dX5_frontier_224 rfl ?_
          refine r_aload_n (pc := 227) C 0 dX5_frontier_227 rfl rfl ?_
          refine r_bipush (pc := 228) C dX5_frontier_228 (cb_7) ?_
          refine pf_X5_161 (pc := 230) (ws' := wdM cI q (upd (upd (upd (upd (upd r61.2.1 11 (r61.2.1 15)) 1 ((upd r61.2.1 11 (r61.2.1 15)) 16)) 4 ((upd (upd r61.2.1 11 (r61.2.1 15)) 1 ((upd r61.2.1 11 (r61.2.1 15)) 16)) 17)) 10 r221) 12 (7 : Int32)) eMA_199) C 0 rfl rfl dX5_frontier_230 rfl ?_
          refine r_aload_n (pc := 233) C 0 dX5_frontier_233 rfl rfl ?_
          refine r_iconst (pc := 234) C dX5_frontier_234 (ci_0) ?_
          refine pf_X5_164 (pc := 235) (ws' := wdM cI q (upd (upd (upd (upd (upd (upd r61.2.1 11 (r61.2.1 15)) 1 ((upd r61.2.1 11 (r61.2.1 15)) 16)) 4 ((upd (upd r61.2.1 11 (r61.2.1 15)) 1 ((upd r61.2.1 11 (r61.2.1 15)) 16)) 17)) 10 r221) 12 (7 : Int32)) 26 (0 : Int32)) eMA_199) C 0 rfl rfl dX5_frontier_235 rfl ?_
          refine r_aload_n (pc := 238) C 0 dX5_frontier_238 rfl rfl ?_
          refine r_aload_n (pc := 239) C 0 dX5_frontier_239 rfl rfl ?_
          refine gf_X5_95 (pc := 240) C 0 rfl rfl dX5_frontier_240 ?_
          refine r_callV0 (pc := 243) (rest := []) C (m_X5_refused (xl X) (xD X) cI cS q (upd (upd (upd (upd (upd (upd r61.2.1 11 (r61.2.1 15)) 1 ((upd r61.2.1 11 (r61.2.1 15)) 16)) 4 ((upd (upd r61.2.1 11 (r61.2.1 15)) 1 ((upd r61.2.1 11 (r61.2.1 15)) 16)) 17)) 10 r221) 12 (7 : Int32)) 26 (0 : Int32)) eMA_199 ((upd (upd (upd (upd (upd (upd r61.2.1 11 (r61.2.1 15)) 1 ((upd r61.2.1 11 (r61.2.1 15)) 16)) 4 ((upd (upd r61.2.1 11 (r61.2.1 15)) 1 ((upd r61.2.1 11 (r61.2.1 15)) 16)) 17)) 10 r221) 12 (7 : Int32)) 26 (0 : Int32)) 4)) mv_X5_141 rfl rfl rfl ⟨Nat.zero_le _, Nat.zero_le _⟩ rfl rfl (Nat.le_of_ble_eq_true rfl) dX5_frontier_243 (fun r243 => ?_)
          exact r_iret (pc := 246) C rfl rfl dX5_frontier_246
        · refine r_aload_n (pc := 67) C 1 dX5_frontier_67 rfl rfl ?_
          refine r_bipush (pc := 68) C dX5_frontier_68 (cb_m100) ?_
          refine r_aload_n (pc := 70) C 1 dX5_frontier_70 rfl rfl ?_
          refine gf_X5_100 (pc := 71) C 0 rfl rfl dX5_frontier_71 ?_
          refine r_isub (pc := 74) C dX5_frontier_74 ?_
          refine r_callV0 (pc := 75) (rest := []) C (m_X5_refused (xl X) (xD X) cI cS q r61.2.1 r61.2.2 ((-100 : Int32) - (r61.2.1 14))) mv_X5_141 rfl rfl rfl ⟨Nat.zero_le _, Nat.zero_le _⟩ rfl rfl (Nat.le_of_ble_eq_true rfl) dX5_frontier_75 (fun r75 => ?_)
          exact r_iret (pc := 78) C rfl rfl dX5_frontier_78
      · refine r_iload (pc := 49) C 0 dX5_frontier_49 rfl ?_
        exact r_iret (pc := 51) C rfl rfl dX5_frontier_51
    · refine r_aload_n (pc := 25) C 0 dX5_frontier_25 rfl rfl ?_
      refine r_bipush (pc := 26) C dX5_frontier_26 (cb_m2) ?_
      refine r_callV0 (pc := 28) (rest := []) C (m_X5_refused (xl X) (xD X) cI cS q MI MA (-2 : Int32)) mv_X5_141 rfl rfl rfl ⟨Nat.zero_le _, Nat.zero_le _⟩ rfl rfl (Nat.le_of_ble_eq_true rfl) dX5_frontier_28 (fun r28 => ?_)
      exact r_iret (pc := 31) C rfl rfl dX5_frontier_31
  · refine r_aload_n (pc := 7) C 0 dX5_frontier_7 rfl rfl ?_
    refine r_iconst (pc := 8) C dX5_frontier_8 (ci_m1) ?_
    refine r_callV0 (pc := 9) (rest := []) C (m_X5_refused (xl X) (xD X) cI cS q MI MA (-1 : Int32)) mv_X5_141 rfl rfl rfl ⟨Nat.zero_le _, Nat.zero_le _⟩ rfl rfl (Nat.le_of_ble_eq_true rfl) dX5_frontier_9 (fun r9 => ?_)
    exact r_iret (pc := 12) C rfl rfl dX5_frontier_12)
set_option maxHeartbeats 4000000 in
set_option maxRecDepth 100000 in
theorem m_X5_gradeOf (l : Launch) (D : va_G) (cI cS : ClassId) (q : Nat → Nat) (MI : Nat → Int32) (MA : Nat → Nat → Int32) (a1 : Int32) : MX l D (tyz cI cS) yX5_gradeOf cX5_gradeOf 3 (some .int) (rmz 0 0) [.ref (q 0), .int a1] (wdM cI q MI MA) (f_X5_gradeOf MA a1) (fun o : Int32 => some (.int o)) (fun o : Int32 => wdM cI q MI MA) := met_of (own := RX5) (by decide) rfl (Nat.le_of_ble_eq_true rfl) (fun X hxl hxD C => by
  subst hxl
  subst hxD
  show JR X _ _ 0 0 (f_X5_gradeOf MA a1) (wdM cI q MI MA) [(0, .ref (q 0)), (1, .int a1)] 0 []
  unfold f_X5_gradeOf
  refine r_aload_n (pc := 0) C 0 dX5_gradeOf_0 rfl rfl ?_
  refine gf_X5_22 (pc := 1) C 0 rfl rfl dX5_gradeOf_1 ?_
  refine r_iload_n (pc := 4) C 1 dX5_gradeOf_4 rfl rfl ?_
  refine r_iald (pc := 5) C 5 rfl dX5_gradeOf_5 ?_
  refine r_istore_n (pc := 6) C dX5_gradeOf_6 rfl (by decide) (lv' := [(2, .int (MA 7 a1.toNatClampNeg)), (0, .ref (q 0)), (1, .int a1)]) rfl ?_
  refine r_aload_n (pc := 7) C 1 dX5_gradeOf_7 rfl rfl ?_
  refine gf_X5_16 (pc := 8) C 0 rfl rfl dX5_gradeOf_8 ?_
  refine r_iload_n (pc := 11) C 2 dX5_gradeOf_11 rfl rfl ?_
  refine r_iald (pc := 12) C 3 rfl dX5_gradeOf_12 ?_
  refine r_if_ne (pc := 13) (tgt := 20) C dX5_gradeOf_13 (by decide) ?_ ?_
  · refine r_aload_n (pc := 20) C 1 dX5_gradeOf_20 rfl rfl ?_
    refine gf_X5_16 (pc := 21) C 0 rfl rfl dX5_gradeOf_21 ?_
    refine r_iload_n (pc := 24) C 2 dX5_gradeOf_24 rfl rfl ?_
    refine r_iald (pc := 25) C 3 rfl dX5_gradeOf_25 ?_
    refine r_iconst (pc := 26) C dX5_gradeOf_26 (ci_1) ?_
    refine r_icmp_ne (pc := 27) (tgt := 36) C dX5_gradeOf_27 (by decide) ?_ ?_
    · refine r_iconst (pc := 36) C dX5_gradeOf_36 (ci_2) ?_
      refine r_iload_n (pc := 37) C 0 dX5_gradeOf_37 rfl rfl ?_
      refine r_iconst (pc := 38) C dX5_gradeOf_38 (ci_1) ?_
      refine r_iadd (pc := 39) C dX5_gradeOf_39 ?_
      refine r_imul (pc := 40) C dX5_gradeOf_40 ?_
      exact r_iret (pc := 41) C rfl rfl dX5_gradeOf_41
    · refine r_iload_n (pc := 30) C 0 dX5_gradeOf_30 rfl rfl ?_
      refine r_iconst (pc := 31) C dX5_gradeOf_31 (ci_1) ?_
      refine r_iadd (pc := 32) C dX5_gradeOf_32 ?_
      refine r_goto (pc := 33) (tgt := 41) C dX5_gradeOf_33 (by decide) ?_
      exact r_iret (pc := 41) C rfl rfl dX5_gradeOf_41
  · refine r_iload_n (pc := 16) C 0 dX5_gradeOf_16 rfl rfl ?_
    refine r_goto (pc := 17) (tgt := 41) C dX5_gradeOf_17 (by decide) ?_
    exact r_iret (pc := 41) C rfl rfl dX5_gradeOf_41)
set_option maxHeartbeats 4000000 in
set_option maxRecDepth 100000 in
theorem m_X5_isDutiable (l : Launch) (D : va_G) (cI cS : ClassId) (q : Nat → Nat) (MI : Nat → Int32) (MA : Nat → Nat → Int32) (a1 : Int32) : MX l D (tyz cI cS) yX5_isDutiable cX5_isDutiable 2 (some .boolean) (rmz 1 21) [.ref (q 0), .int a1] (wdM cI q MI MA) (f_X5_isDutiable MI MA a1) (fun o : Int32 => some (.int o)) (fun o : Int32 => wdM cI q MI MA) := met_of (own := RX5) (by decide) rfl (Nat.le_of_ble_eq_true rfl) (fun X hxl hxD C => by
  subst hxl
  subst hxD
  show JR X _ _ 0 0 (f_X5_isDutiable MI MA a1) (wdM cI q MI MA) [(0, .ref (q 0)), (1, .int a1)] 0 []
  unfold f_X5_isDutiable
  refine r_iload_n (pc := 0) C 1 dX5_isDutiable_0 rfl rfl ?_
  refine r_aload_n (pc := 1) C 0 dX5_isDutiable_1 rfl rfl ?_
  refine gf_X5_73 (pc := 2) C 0 rfl rfl dX5_isDutiable_2 ?_
  refine r_icmp_eq (pc := 5) (tgt := 28) C dX5_isDutiable_5 (by decide) ?_ ?_
  · refine r_iconst (pc := 28) C dX5_isDutiable_28 (ci_0) ?_
    exact r_zret (pc := 29) C rfl rfl rfl dX5_isDutiable_29
  · refine r_aload_n (pc := 8) C 0 dX5_isDutiable_8 rfl rfl ?_
    refine gf_X5_161 (pc := 9) C 0 rfl rfl dX5_isDutiable_9 ?_
    refine r_aload_n (pc := 12) C 0 dX5_isDutiable_12 rfl rfl ?_
    refine gf_X5_16 (pc := 13) C 0 rfl rfl dX5_isDutiable_13 ?_
    refine r_iload_n (pc := 16) C 1 dX5_isDutiable_16 rfl rfl ?_
    refine r_iald (pc := 17) C 3 rfl dX5_isDutiable_17 ?_
    refine r_callSr (pc := 18) (rest := []) C (m_X5_isIn (xl X) (xD X) cI cS (MI 12) (MA 5 a1.toNatClampNeg)) ms_X5_167 rfl ⟨Nat.zero_le _, Nat.zero_le _⟩ rfl rfl (Nat.le_of_ble_eq_true rfl) dX5_isDutiable_18 (fun r18 => ?_)
    refine r_if_eq (pc := 21) (tgt := 28) C dX5_isDutiable_21 (by decide) ?_ ?_
    · refine r_iconst (pc := 28) C dX5_isDutiable_28 (ci_0) ?_
      exact r_zret (pc := 29) C rfl rfl rfl dX5_isDutiable_29
    · refine r_iconst (pc := 24) C dX5_isDutiable_24 (ci_1) ?_
      refine r_goto (pc := 25) (tgt := 29) C dX5_isDutiable_25 (by decide) ?_
      exact r_zret (pc := 29) C rfl rfl rfl dX5_isDutiable_29)
set_option maxHeartbeats 4000000 in
set_option maxRecDepth 100000 in
theorem m_X5_ofPost (l : Launch) (D : va_G) (cI cS : ClassId) (q : Nat → Nat) (MI : Nat → Int32) (MA : Nat → Nat → Int32) (a1 : Int32) (a2 : Int32) : MX l D (tyz cI cS) yX5_ofPost cX5_ofPost 3 (some .int) (rmz 2 46) [.ref (q 0), .int a1, .int a2] (wdM cI q MI MA) (f_X5_ofPost MI MA a1 a2) (fun o : Int32 => some (.int o)) (fun o : Int32 => wdM cI q MI MA) := met_of (own := RX5) (by decide) rfl (Nat.le_of_ble_eq_true rfl) (fun X hxl hxD C => by
  subst hxl
  subst hxD
  show JR X _ _ 0 0 (f_X5_ofPost MI MA a1 a2) (wdM cI q MI MA) [(0, .ref (q 0)), (1, .int a1), (2, .int a2)] 0 []
  unfold f_X5_ofPost
  refine r_aload_n (pc := 0) C 0 dX5_ofPost_0 rfl rfl ?_
  refine r_iload_n (pc := 1) C 1 dX5_ofPost_1 rfl rfl ?_
  refine r_callV0 (pc := 2) (rest := []) C (m_X5_noPost (xl X) (xD X) cI cS q MI MA a1) mv_X5_170 rfl rfl rfl ⟨Nat.zero_le _, Nat.zero_le _⟩ rfl rfl (Nat.le_of_ble_eq_true rfl) dX5_ofPost_2 (fun r2 => ?_)
  refine r_if_eq (pc := 5) (tgt := 10) C dX5_ofPost_5 (by decide) ?_ ?_
  · refine r_iload_n (pc := 10) C 2 dX5_ofPost_10 rfl rfl ?_
    refine r_if_ne (pc := 11) (tgt := 23) C dX5_ofPost_11 (by decide) ?_ ?_
    · refine r_iload_n (pc := 23) C 2 dX5_ofPost_23 rfl rfl ?_
      refine r_iconst (pc := 24) C dX5_ofPost_24 (ci_1) ?_
      refine r_icmp_ne (pc := 25) (tgt := 37) C dX5_ofPost_25 (by decide) ?_ ?_
      · refine r_bipush (pc := 37) C dX5_ofPost_37 (cb_m2) ?_
        exact r_iret (pc := 39) C rfl rfl dX5_ofPost_39
      · refine r_aload_n (pc := 28) C 0 dX5_ofPost_28 rfl rfl ?_
        refine gf_X5_13 (pc := 29) C 0 rfl rfl dX5_ofPost_29 ?_
        refine r_iload_n (pc := 32) C 1 dX5_ofPost_32 rfl rfl ?_
        refine r_iald (pc := 33) C 2 rfl dX5_ofPost_33 ?_
        refine r_goto (pc := 34) (tgt := 39) C dX5_ofPost_34 (by decide) ?_
        exact r_iret (pc := 39) C rfl rfl dX5_ofPost_39
    · refine r_aload_n (pc := 14) C 0 dX5_ofPost_14 rfl rfl ?_
      refine gf_X5_7 (pc := 15) C 0 rfl rfl dX5_ofPost_15 ?_
      refine r_iload_n (pc := 18) C 1 dX5_ofPost_18 rfl rfl ?_
      refine r_iald (pc := 19) C 1 rfl dX5_ofPost_19 ?_
      refine r_goto (pc := 20) (tgt := 39) C dX5_ofPost_20 (by decide) ?_
      exact r_iret (pc := 39) C rfl rfl dX5_ofPost_39
  · refine r_iconst (pc := 8) C dX5_ofPost_8 (ci_m1) ?_
    exact r_iret (pc := 9) C rfl rfl dX5_ofPost_9)
set_option maxHeartbeats 4000000 in
set_option maxRecDepth 100000 in
theorem m_X5_ofSilence (l : Launch) (D : va_G) (cI cS : ClassId) (q : Nat → Nat) (MI : Nat → Int32) (MA : Nat → Nat → Int32) (a1 : Int32) (a2 : Int32) : MX l D (tyz cI cS) yX5_ofSilence cX5_ofSilence 3 (some .int) (rmz 2 46) [.ref (q 0), .int a1, .int a2] (wdM cI q MI MA) (f_X5_ofSilence MI MA a1 a2) (fun o : Int32 => some (.int o)) (fun o : Int32 => wdM cI q MI MA) := met_of (own := RX5) (by decide) rfl (Nat.le_of_ble_eq_true rfl) (fun X hxl hxD C => by
  subst hxl
  subst hxD
  show JR X _ _ 0 0 (f_X5_ofSilence MI MA a1 a2) (wdM cI q MI MA) [(0, .ref (q 0)), (1, .int a1), (2, .int a2)] 0 []
  unfold f_X5_ofSilence
  refine r_aload_n (pc := 0) C 0 dX5_ofSilence_0 rfl rfl ?_
  refine r_iload_n (pc := 1) C 1 dX5_ofSilence_1 rfl rfl ?_
  refine r_callV0 (pc := 2) (rest := []) C (m_X5_noSilence (xl X) (xD X) cI cS q MI MA a1) mv_X5_173 rfl rfl rfl ⟨Nat.zero_le _, Nat.zero_le _⟩ rfl rfl (Nat.le_of_ble_eq_true rfl) dX5_ofSilence_2 (fun r2 => ?_)
  refine r_if_eq (pc := 5) (tgt := 10) C dX5_ofSilence_5 (by decide) ?_ ?_
  · refine r_iload_n (pc := 10) C 2 dX5_ofSilence_10 rfl rfl ?_
    refine r_ite (fun h11_0 => ?_) (fun h11_0 => ?_)
    · refine r_tabIn (pc := 11) (tgt := 56) C h11_0 dX5_ofSilence_11 (by decide) (by decide) rfl (by decide) ?_
      refine r_aload_n (pc := 56) C 0 dX5_ofSilence_56 rfl rfl ?_
      refine gf_X5_16 (pc := 57) C 0 rfl rfl dX5_ofSilence_57 ?_
      refine r_iload_n (pc := 60) C 1 dX5_ofSilence_60 rfl rfl ?_
      refine r_iald (pc := 61) C 3 rfl dX5_ofSilence_61 ?_
      exact r_iret (pc := 62) C rfl rfl dX5_ofSilence_62
    refine r_ite (fun h11_1 => ?_) (fun h11_1 => ?_)
    · refine r_tabIn (pc := 11) (tgt := 63) C h11_1 dX5_ofSilence_11 (by decide) (by decide) rfl (by decide) ?_
      refine r_aload_n (pc := 63) C 0 dX5_ofSilence_63 rfl rfl ?_
      refine gf_X5_19 (pc := 64) C 0 rfl rfl dX5_ofSilence_64 ?_
      refine r_iload_n (pc := 67) C 1 dX5_ofSilence_67 rfl rfl ?_
      refine r_iald (pc := 68) C 4 rfl dX5_ofSilence_68 ?_
      exact r_iret (pc := 69) C rfl rfl dX5_ofSilence_69
    refine r_ite (fun h11_2 => ?_) (fun h11_2 => ?_)
    · refine r_tabIn (pc := 11) (tgt := 70) C h11_2 dX5_ofSilence_11 (by decide) (by decide) rfl (by decide) ?_
      refine r_aload_n (pc := 70) C 0 dX5_ofSilence_70 rfl rfl ?_
      refine gf_X5_22 (pc := 71) C 0 rfl rfl dX5_ofSilence_71 ?_
      refine r_iload_n (pc := 74) C 1 dX5_ofSilence_74 rfl rfl ?_
      refine r_iald (pc := 75) C 5 rfl dX5_ofSilence_75 ?_
      exact r_iret (pc := 76) C rfl rfl dX5_ofSilence_76
    refine r_ite (fun h11_3 => ?_) (fun h11_3 => ?_)
    · refine r_tabIn (pc := 11) (tgt := 77) C h11_3 dX5_ofSilence_11 (by decide) (by decide) rfl (by decide) ?_
      refine r_aload_n (pc := 77) C 0 dX5_ofSilence_77 rfl rfl ?_
      refine r_iload_n (pc := 78) C 1 dX5_ofSilence_78 rfl rfl ?_
      refine r_callV0 (pc := 79) (rest := []) C (m_X5_gradeOf (xl X) (xD X) cI cS q MI MA a1) mv_X5_176 rfl rfl rfl ⟨Nat.zero_le _, Nat.zero_le _⟩ rfl rfl (Nat.le_of_ble_eq_true rfl) dX5_ofSilence_79 (fun r79 => ?_)
      exact r_iret (pc := 82) C rfl rfl dX5_ofSilence_82
    refine r_ite (fun h11_4 => ?_) (fun h11_4 => ?_)
    · refine r_tabIn (pc := 11) (tgt := 83) C h11_4 dX5_ofSilence_11 (by decide) (by decide) rfl (by decide) ?_
      refine r_aload_n (pc := 83) C 0 dX5_ofSilence_83 rfl rfl ?_
      refine gf_X5_19 (pc := 84) C 0 rfl rfl dX5_ofSilence_84 ?_
      refine r_iload_n (pc := 87) C 1 dX5_ofSilence_87 rfl rfl ?_
      refine r_iald (pc := 88) C 4 rfl dX5_ofSilence_88 ?_
      refine r_aload_n (pc := 89) C 0 dX5_ofSilence_89 rfl rfl ?_
      refine r_iload_n (pc := 90) C 1 dX5_ofSilence_90 rfl rfl ?_
      refine r_callV0 (pc := 91) (rest := [.int (MA 6 a1.toNatClampNeg)]) C (m_X5_gradeOf (xl X) (xD X) cI cS q MI MA a1) mv_X5_176 rfl rfl rfl ⟨Nat.zero_le _, Nat.zero_le _⟩ rfl rfl (Nat.le_of_ble_eq_true rfl) dX5_ofSilence_91 (fun r91 => ?_)
      refine r_imul (pc := 94) C dX5_ofSilence_94 ?_
      exact r_iret (pc := 95) C rfl rfl dX5_ofSilence_95
    refine r_ite (fun h11_5 => ?_) (fun h11_5 => ?_)
    · refine r_tabIn (pc := 11) (tgt := 96) C h11_5 dX5_ofSilence_11 (by decide) (by decide) rfl (by decide) ?_
      refine r_aload_n (pc := 96) C 0 dX5_ofSilence_96 rfl rfl ?_
      refine gf_X5_25 (pc := 97) C 0 rfl rfl dX5_ofSilence_97 ?_
      refine r_iload_n (pc := 100) C 1 dX5_ofSilence_100 rfl rfl ?_
      refine r_iald (pc := 101) C 6 rfl dX5_ofSilence_101 ?_
      exact r_iret (pc := 102) C rfl rfl dX5_ofSilence_102
    refine r_ite (fun h11_6 => ?_) (fun h11_6 => ?_)
    · refine r_tabIn (pc := 11) (tgt := 103) C h11_6 dX5_ofSilence_11 (by decide) (by decide) rfl (by decide) ?_
      refine r_aload_n (pc := 103) C 0 dX5_ofSilence_103 rfl rfl ?_
      refine gf_X5_158 (pc := 104) C 0 rfl rfl dX5_ofSilence_104 ?_
      refine r_iload_n (pc := 107) C 1 dX5_ofSilence_107 rfl rfl ?_
      refine r_callSr (pc := 108) (rest := []) C (m_X5_isIn (xl X) (xD X) cI cS (MI 10) a1) ms_X5_167 rfl ⟨Nat.zero_le _, Nat.zero_le _⟩ rfl rfl (Nat.le_of_ble_eq_true rfl) dX5_ofSilence_108 (fun r108 => ?_)
      refine r_if_eq (pc := 111) (tgt := 118) C dX5_ofSilence_111 (by decide) ?_ ?_
      · refine r_iconst (pc := 118) C dX5_ofSilence_118 (ci_0) ?_
        exact r_iret (pc := 119) C rfl rfl dX5_ofSilence_119
      · refine r_iconst (pc := 114) C dX5_ofSilence_114 (ci_1) ?_
        refine r_goto (pc := 115) (tgt := 119) C dX5_ofSilence_115 (by decide) ?_
        exact r_iret (pc := 119) C rfl rfl dX5_ofSilence_119
    refine r_ite (fun h11_7 => ?_) (fun h11_7 => ?_)
    · refine r_tabIn (pc := 11) (tgt := 120) C h11_7 dX5_ofSilence_11 (by decide) (by decide) rfl (by decide) ?_
      refine r_aload_n (pc := 120) C 0 dX5_ofSilence_120 rfl rfl ?_
      refine r_iload_n (pc := 121) C 1 dX5_ofSilence_121 rfl rfl ?_
      refine r_callV0 (pc := 122) (rest := []) C (m_X5_isDutiable (xl X) (xD X) cI cS q MI MA a1) mv_X5_179 rfl rfl rfl ⟨Nat.zero_le _, Nat.zero_le _⟩ rfl rfl (Nat.le_of_ble_eq_true rfl) dX5_ofSilence_122 (fun r122 => ?_)
      refine r_if_eq (pc := 125) (tgt := 132) C dX5_ofSilence_125 (by decide) ?_ ?_
      · refine r_iconst (pc := 132) C dX5_ofSilence_132 (ci_0) ?_
        exact r_iret (pc := 133) C rfl rfl dX5_ofSilence_133
      · refine r_iconst (pc := 128) C dX5_ofSilence_128 (ci_1) ?_
        refine r_goto (pc := 129) (tgt := 133) C dX5_ofSilence_129 (by decide) ?_
        exact r_iret (pc := 133) C rfl rfl dX5_ofSilence_133
    refine r_tabOut (pc := 11) (tgt := 134) (N := 8) C (lt_s (lt_s (lt_s (lt_s (lt_s (lt_s (lt_s (lt_s lt_0 h11_0) h11_1) h11_2) h11_3) h11_4) h11_5) h11_6) h11_7) rfl dX5_ofSilence_11 (by decide) ?_
    refine r_bipush (pc := 134) C dX5_ofSilence_134 (cb_m2) ?_
    exact r_iret (pc := 136) C rfl rfl dX5_ofSilence_136
  · refine r_iconst (pc := 8) C dX5_ofSilence_8 (ci_m1) ?_
    exact r_iret (pc := 9) C rfl rfl dX5_ofSilence_9)
set_option maxHeartbeats 4000000 in
set_option maxRecDepth 100000 in
theorem m_X5_free (l : Launch) (D : va_G) (cI cS : ClassId) (q : Nat → Nat) (MI : Nat → Int32) (MA : Nat → Nat → Int32) (a1 : Int32) : MX l D (tyz cI cS) yX5_free cX5_free 3 (some .int) (rmz 1 25) [.ref (q 0), .int a1] (wdM cI q MI MA) (f_X5_free MI a1) (fun o : Int32 × (Nat → Int32) => some (.int o.1)) (fun o : Int32 × (Nat → Int32) => wdM cI q o.2 MA) := met_of (own := RX5) (by decide) rfl (Nat.le_of_ble_eq_true rfl) (fun X hxl hxD C => by
  subst hxl
  subst hxD
  show JR X _ _ 0 0 (f_X5_free MI a1) (wdM cI q MI MA) [(0, .ref (q 0)), (1, .int a1)] 0 []
  unfold f_X5_free
  refine r_iload_n (pc := 0) C 1 dX5_free_0 rfl rfl ?_
  refine r_i2l (pc := 1) C dX5_free_1 ?_
  refine r_lconst (pc := 2) (v := 0) C dX5_free_2 rfl ?_
  refine r_ldc2 (pc := 3) C kk_X5_107 dX5_free_3 ?_
  refine r_callSr (pc := 6) (rest := []) C (m_X5_in (xl X) (xD X) cI cS a1.toInt64 (0 : Int64) (9 : Int64)) ms_X5_91 rfl ⟨Nat.zero_le _, Nat.zero_le _⟩ rfl rfl (Nat.le_of_ble_eq_true rfl) dX5_free_6 (fun r6 => ?_)
  refine r_if_ne (pc := 9) (tgt := 15) C dX5_free_9 (by decide) ?_ ?_
  · refine r_aload_n (pc := 15) C 0 dX5_free_15 rfl rfl ?_
    refine gf_X5_95 (pc := 16) C 0 rfl rfl dX5_free_16 ?_
    refine r_if_ne (pc := 19) (tgt := 25) C dX5_free_19 (by decide) ?_ ?_
    · refine r_aload_n (pc := 25) C 0 dX5_free_25 rfl rfl ?_
      refine gf_X5_151 (pc := 26) C 0 rfl rfl dX5_free_26 ?_
      refine r_istore_n (pc := 29) C dX5_free_29 rfl (by decide) (lv' := [(2, .int (MI 11)), (0, .ref (q 0)), (1, .int a1)]) rfl ?_
      refine r_aload_n (pc := 30) C 1 dX5_free_30 rfl rfl ?_
      refine r_iload_n (pc := 31) C 2 dX5_free_31 rfl rfl ?_
      refine pf_X5_151 (pc := 32) (ws' := wdM cI q (upd MI 11 a1) MA) C 0 rfl rfl dX5_free_32 rfl ?_
      refine r_iload_n (pc := 35) C 0 dX5_free_35 rfl rfl ?_
      exact r_iret (pc := 36) C rfl rfl dX5_free_36
    · refine r_bipush (pc := 22) C dX5_free_22 (cb_m3) ?_
      exact r_iret (pc := 24) C rfl rfl dX5_free_24
  · refine r_bipush (pc := 12) C dX5_free_12 (cb_m2) ?_
    exact r_iret (pc := 14) C rfl rfl dX5_free_14)
set_option maxHeartbeats 4000000 in
set_option maxRecDepth 100000 in
theorem m_X5_law (l : Launch) (D : va_G) (cI cS : ClassId) (q : Nat → Nat) (MI : Nat → Int32) (MA : Nat → Nat → Int32) (a1 : Int32) : MX l D (tyz cI cS) yX5_law cX5_law 3 (some .int) (rmz 1 25) [.ref (q 0), .int a1] (wdM cI q MI MA) (f_X5_law MI a1) (fun o : Int32 × (Nat → Int32) => some (.int o.1)) (fun o : Int32 × (Nat → Int32) => wdM cI q o.2 MA) := met_of (own := RX5) (by decide) rfl (Nat.le_of_ble_eq_true rfl) (fun X hxl hxD C => by
  subst hxl
  subst hxD
  show JR X _ _ 0 0 (f_X5_law MI a1) (wdM cI q MI MA) [(0, .ref (q 0)), (1, .int a1)] 0 []
  unfold f_X5_law
  refine r_iload_n (pc := 0) C 1 dX5_law_0 rfl rfl ?_
  refine r_i2l (pc := 1) C dX5_law_1 ?_
  refine r_lconst (pc := 2) (v := 0) C dX5_law_2 rfl ?_
  refine r_ldc2 (pc := 3) C kk_X5_182 dX5_law_3 ?_
  refine r_callSr (pc := 6) (rest := []) C (m_X5_in (xl X) (xD X) cI cS a1.toInt64 (0 : Int64) (7 : Int64)) ms_X5_91 rfl ⟨Nat.zero_le _, Nat.zero_le _⟩ rfl rfl (Nat.le_of_ble_eq_true rfl) dX5_law_6 (fun r6 => ?_)
  refine r_if_ne (pc := 9) (tgt := 15) C dX5_law_9 (by decide) ?_ ?_
  · refine r_aload_n (pc := 15) C 0 dX5_law_15 rfl rfl ?_
    refine gf_X5_95 (pc := 16) C 0 rfl rfl dX5_law_16 ?_
    refine r_if_ne (pc := 19) (tgt := 25) C dX5_law_19 (by decide) ?_ ?_
    · refine r_aload_n (pc := 25) C 0 dX5_law_25 rfl rfl ?_
      refine gf_X5_161 (pc := 26) C 0 rfl rfl dX5_law_26 ?_
      refine r_istore_n (pc := 29) C dX5_law_29 rfl (by decide) (lv' := [(2, .int (MI 12)), (0, .ref (q 0)), (1, .int a1)]) rfl ?_
      refine r_aload_n (pc := 30) C 1 dX5_law_30 rfl rfl ?_
      refine r_iload_n (pc := 31) C 2 dX5_law_31 rfl rfl ?_
      refine pf_X5_161 (pc := 32) (ws' := wdM cI q (upd MI 12 a1) MA) C 0 rfl rfl dX5_law_32 rfl ?_
      refine r_iload_n (pc := 35) C 0 dX5_law_35 rfl rfl ?_
      exact r_iret (pc := 36) C rfl rfl dX5_law_36
    · refine r_bipush (pc := 22) C dX5_law_22 (cb_m3) ?_
      exact r_iret (pc := 24) C rfl rfl dX5_law_24
  · refine r_bipush (pc := 12) C dX5_law_12 (cb_m2) ?_
    exact r_iret (pc := 14) C rfl rfl dX5_law_14)
set_option maxHeartbeats 4000000 in
set_option maxRecDepth 100000 in
theorem m_X5_carry (l : Launch) (D : va_G) (cI cS : ClassId) (q : Nat → Nat) (MI : Nat → Int32) (MA : Nat → Nat → Int32) (a1 : Int32) (a2 : Int32) : MX l D (tyz cI cS) yX5_carry cX5_carry 4 (some .int) (rmz 2 46) [.ref (q 0), .int a1, .int a2] (wdM cI q MI MA) (f_X5_carry MI MA a1 a2) (fun o : Int32 × (Nat → Nat → Int32) => some (.int o.1)) (fun o : Int32 × (Nat → Nat → Int32) => wdM cI q MI o.2) := met_of (own := RX5) (by decide) rfl (Nat.le_of_ble_eq_true rfl) (fun X hxl hxD C => by
  subst hxl
  subst hxD
  show JR X _ _ 0 0 (f_X5_carry MI MA a1 a2) (wdM cI q MI MA) [(0, .ref (q 0)), (1, .int a1), (2, .int a2)] 0 []
  unfold f_X5_carry
  refine r_aload_n (pc := 0) C 0 dX5_carry_0 rfl rfl ?_
  refine r_iload_n (pc := 1) C 1 dX5_carry_1 rfl rfl ?_
  refine r_callV0 (pc := 2) (rest := []) C (m_X5_noSilence (xl X) (xD X) cI cS q MI MA a1) mv_X5_173 rfl rfl rfl ⟨Nat.zero_le _, Nat.zero_le _⟩ rfl rfl (Nat.le_of_ble_eq_true rfl) dX5_carry_2 (fun r2 => ?_)
  refine r_if_ne (pc := 5) (tgt := 15) C dX5_carry_5 (by decide) ?_ ?_
  · refine r_iconst (pc := 15) C dX5_carry_15 (ci_m1) ?_
    exact r_iret (pc := 16) C rfl rfl dX5_carry_16
  · refine r_iload_n (pc := 8) C 2 dX5_carry_8 rfl rfl ?_
    refine r_callSr (pc := 9) (rest := []) C (m_X5_noCarrier (xl X) (xD X) cI cS a2) ms_X5_184 rfl ⟨Nat.zero_le _, Nat.zero_le _⟩ rfl rfl (Nat.le_of_ble_eq_true rfl) dX5_carry_9 (fun r9 => ?_)
    refine r_if_eq (pc := 12) (tgt := 17) C dX5_carry_12 (by decide) ?_ ?_
    · refine r_aload_n (pc := 17) C 0 dX5_carry_17 rfl rfl ?_
      refine gf_X5_25 (pc := 18) C 0 rfl rfl dX5_carry_18 ?_
      refine r_iload_n (pc := 21) C 1 dX5_carry_21 rfl rfl ?_
      refine r_iald (pc := 22) C 6 rfl dX5_carry_22 ?_
      refine r_istore_n (pc := 23) C dX5_carry_23 rfl (by decide) (lv' := [(3, .int (MA 8 a1.toNatClampNeg)), (0, .ref (q 0)), (1, .int a1), (2, .int a2)]) rfl ?_
      refine r_aload_n (pc := 24) C 1 dX5_carry_24 rfl rfl ?_
      refine gf_X5_25 (pc := 25) C 0 rfl rfl dX5_carry_25 ?_
      refine r_iload_n (pc := 28) C 2 dX5_carry_28 rfl rfl ?_
      refine r_iload_n (pc := 29) C 3 dX5_carry_29 rfl rfl ?_
      refine r_iast (pc := 30) (ws' := wdM cI q MI (va_up MA 8 (upd (MA 8) a1.toNatClampNeg a2))) C 6 rfl dX5_carry_30 rfl ?_
      refine r_iload_n (pc := 31) C 0 dX5_carry_31 rfl rfl ?_
      exact r_iret (pc := 32) C rfl rfl dX5_carry_32
    · refine r_iconst (pc := 15) C dX5_carry_15 (ci_m1) ?_
      exact r_iret (pc := 16) C rfl rfl dX5_carry_16)
set_option maxHeartbeats 4000000 in
set_option maxRecDepth 100000 in
theorem wj_X5_declare_45 {cI cS : ClassId} (X : CX) (C : Cx X RX5 cX5_declare 4 (some .int) (rmz 2 46) (tyz cI cS)) (q : Nat → Nat) (MI : Nat → Int32) (MA : Nat → Nat → Int32) (a2 : Int32) (r15 : Int32) (s0_45 : Int32)  : JR X (QF X (tyz cI cS) 0 0 (fun o : Int32 × (Nat → Int32) => some (.int o.1)) (fun o : Int32 × (Nat → Int32) => wdM cI q o.2 MA)) 4 0 0 (jb_X5_declare_45 MI a2 r15 s0_45) (wdM cI q MI MA) [(2, .int a2), (3, .int r15)] 45 [.int s0_45, .ref (q 0)] := by
  unfold jb_X5_declare_45
  refine pf_X5_158 (pc := 45) (ws' := wdM cI q (upd MI 10 s0_45) MA) C 0 rfl rfl dX5_declare_45 rfl ?_
  refine r_iload_n (pc := 48) C 1 dX5_declare_48 rfl rfl ?_
  refine r_iload_n (pc := 49) C 0 dX5_declare_49 rfl rfl ?_
  refine r_icmp_ne (pc := 50) (tgt := 57) C dX5_declare_50 (by decide) ?_ ?_
  · refine r_iconst (pc := 57) C dX5_declare_57 (ci_1) ?_
    exact r_iret (pc := 58) C rfl rfl dX5_declare_58
  · refine r_iconst (pc := 53) C dX5_declare_53 (ci_0) ?_
    refine r_goto (pc := 54) (tgt := 58) C dX5_declare_54 (by decide) ?_
    exact r_iret (pc := 58) C rfl rfl dX5_declare_58
set_option maxHeartbeats 4000000 in
set_option maxRecDepth 100000 in
theorem m_X5_declare (l : Launch) (D : va_G) (cI cS : ClassId) (q : Nat → Nat) (MI : Nat → Int32) (MA : Nat → Nat → Int32) (a1 : Int32) (a2 : Int32) : MX l D (tyz cI cS) yX5_declare cX5_declare 4 (some .int) (rmz 2 46) [.ref (q 0), .int a1, .int a2] (wdM cI q MI MA) (f_X5_declare MI a1 a2) (fun o : Int32 × (Nat → Int32) => some (.int o.1)) (fun o : Int32 × (Nat → Int32) => wdM cI q o.2 MA) := met_of (own := RX5) (by decide) rfl (Nat.le_of_ble_eq_true rfl) (fun X hxl hxD C => by
  subst hxl
  subst hxD
  show JR X _ _ 0 0 (f_X5_declare MI a1 a2) (wdM cI q MI MA) [(0, .ref (q 0)), (1, .int a1), (2, .int a2)] 0 []
  unfold f_X5_declare
  refine r_aload_n (pc := 0) C 0 dX5_declare_0 rfl rfl ?_
  refine r_iload_n (pc := 1) C 1 dX5_declare_1 rfl rfl ?_
  refine r_callV0 (pc := 2) (rest := []) C (m_X5_noSilence (xl X) (xD X) cI cS q MI MA a1) mv_X5_173 rfl rfl rfl ⟨Nat.zero_le _, Nat.zero_le _⟩ rfl rfl (Nat.le_of_ble_eq_true rfl) dX5_declare_2 (fun r2 => ?_)
  refine r_if_eq (pc := 5) (tgt := 10) C dX5_declare_5 (by decide) ?_ ?_
  · refine r_aload_n (pc := 10) C 0 dX5_declare_10 rfl rfl ?_
    refine gf_X5_158 (pc := 11) C 0 rfl rfl dX5_declare_11 ?_
    refine r_iload_n (pc := 14) C 1 dX5_declare_14 rfl rfl ?_
    refine r_callSr (pc := 15) (rest := []) C (m_X5_isIn (xl X) (xD X) cI cS (MI 10) a1) ms_X5_167 rfl ⟨Nat.zero_le _, Nat.zero_le _⟩ rfl rfl (Nat.le_of_ble_eq_true rfl) dX5_declare_15 (fun r15 => ?_)
    refine r_istore_n (pc := 18) C dX5_declare_18 rfl (by decide) (lv' := [(3, .int r15), (0, .ref (q 0)), (1, .int a1), (2, .int a2)]) rfl ?_
    refine r_aload_n (pc := 19) C 1 dX5_declare_19 rfl rfl ?_
    refine r_iload_n (pc := 20) C 3 dX5_declare_20 rfl rfl ?_
    refine r_if_eq (pc := 21) (tgt := 35) C dX5_declare_21 (by decide) ?_ ?_
    · refine r_aload_n (pc := 35) C 1 dX5_declare_35 rfl rfl ?_
      refine gf_X5_158 (pc := 36) C 0 rfl rfl dX5_declare_36 ?_
      refine r_iconst (pc := 39) C dX5_declare_39 (ci_1) ?_
      refine r_iload_n (pc := 40) C 2 dX5_declare_40 rfl rfl ?_
      refine r_ishl (pc := 41) C dX5_declare_41 ?_
      refine r_iconst (pc := 42) C dX5_declare_42 (ci_m1) ?_
      refine r_ixor (pc := 43) C dX5_declare_43 ?_
      refine r_iand (pc := 44) C dX5_declare_44 ?_
      exact r_sub [3, 0] rfl (wj_X5_declare_45 X C q MI MA a2 r15 ((MI 10) &&& (((1 : Int32) <<< (a1 &&& 31)) ^^^ (-1 : Int32))) )
    · refine r_aload_n (pc := 24) C 1 dX5_declare_24 rfl rfl ?_
      refine gf_X5_158 (pc := 25) C 0 rfl rfl dX5_declare_25 ?_
      refine r_iconst (pc := 28) C dX5_declare_28 (ci_1) ?_
      refine r_iload_n (pc := 29) C 2 dX5_declare_29 rfl rfl ?_
      refine r_ishl (pc := 30) C dX5_declare_30 ?_
      refine r_ior (pc := 31) C dX5_declare_31 ?_
      refine r_goto (pc := 32) (tgt := 45) C dX5_declare_32 (by decide) ?_
      exact r_sub [3, 0] rfl (wj_X5_declare_45 X C q MI MA a2 r15 ((MI 10) ||| ((1 : Int32) <<< (a1 &&& 31))) )
  · refine r_iconst (pc := 8) C dX5_declare_8 (ci_m1) ?_
    exact r_iret (pc := 9) C rfl rfl dX5_declare_9)
set_option maxHeartbeats 4000000 in
set_option maxRecDepth 100000 in
theorem m_X5_hum (l : Launch) (D : va_G) (cI cS : ClassId) (q : Nat → Nat) (MI : Nat → Int32) (MA : Nat → Nat → Int32) (a1 : Int32) (a2 : Int32) : MX l D (tyz cI cS) yX5_hum cX5_hum 4 (some .int) (rmz 2 45) [.ref (q 0), .int a1, .int a2] (wdM cI q MI MA) (f_X5_hum MI MA a1 a2) (fun o : Int32 × (Nat → Nat → Int32) => some (.int o.1)) (fun o : Int32 × (Nat → Nat → Int32) => wdM cI q MI o.2) := met_of (own := RX5) (by decide) rfl (Nat.le_of_ble_eq_true rfl) (fun X hxl hxD C => by
  subst hxl
  subst hxD
  show JR X _ _ 0 0 (f_X5_hum MI MA a1 a2) (wdM cI q MI MA) [(0, .ref (q 0)), (1, .int a1), (2, .int a2)] 0 []
  unfold f_X5_hum
  refine r_iload_n (pc := 0) C 1 dX5_hum_0 rfl rfl ?_
  refine r_callSr (pc := 1) (rest := []) C (m_X5_noCarrier (xl X) (xD X) cI cS a1) ms_X5_184 rfl ⟨Nat.zero_le _, Nat.zero_le _⟩ rfl rfl (Nat.le_of_ble_eq_true rfl) dX5_hum_1 (fun r1 => ?_)
  refine r_if_eq (pc := 4) (tgt := 9) C dX5_hum_4 (by decide) ?_ ?_
  · refine r_iload_n (pc := 9) C 2 dX5_hum_9 rfl rfl ?_
    refine r_i2l (pc := 10) C dX5_hum_10 ?_
    refine r_lconst (pc := 11) (v := 0) C dX5_hum_11 rfl ?_
    refine r_ldc2 (pc := 12) C kk_X5_107 dX5_hum_12 ?_
    refine r_callSr (pc := 15) (rest := []) C (m_X5_in (xl X) (xD X) cI cS a2.toInt64 (0 : Int64) (9 : Int64)) ms_X5_91 rfl ⟨Nat.zero_le _, Nat.zero_le _⟩ rfl rfl (Nat.le_of_ble_eq_true rfl) dX5_hum_15 (fun r15 => ?_)
    refine r_if_ne (pc := 18) (tgt := 24) C dX5_hum_18 (by decide) ?_ ?_
    · refine r_aload_n (pc := 24) C 0 dX5_hum_24 rfl rfl ?_
      refine gf_X5_95 (pc := 25) C 0 rfl rfl dX5_hum_25 ?_
      refine r_if_ne (pc := 28) (tgt := 34) C dX5_hum_28 (by decide) ?_ ?_
      · refine r_aload_n (pc := 34) C 0 dX5_hum_34 rfl rfl ?_
        refine gf_X5_28 (pc := 35) C 0 rfl rfl dX5_hum_35 ?_
        refine r_iload_n (pc := 38) C 1 dX5_hum_38 rfl rfl ?_
        refine r_iald (pc := 39) C 7 rfl dX5_hum_39 ?_
        refine r_istore_n (pc := 40) C dX5_hum_40 rfl (by decide) (lv' := [(3, .int (MA 9 a1.toNatClampNeg)), (0, .ref (q 0)), (1, .int a1), (2, .int a2)]) rfl ?_
        refine r_aload_n (pc := 41) C 1 dX5_hum_41 rfl rfl ?_
        refine gf_X5_28 (pc := 42) C 0 rfl rfl dX5_hum_42 ?_
        refine r_iload_n (pc := 45) C 2 dX5_hum_45 rfl rfl ?_
        refine r_iload_n (pc := 46) C 3 dX5_hum_46 rfl rfl ?_
        refine r_iast (pc := 47) (ws' := wdM cI q MI (va_up MA 9 (upd (MA 9) a1.toNatClampNeg a2))) C 7 rfl dX5_hum_47 rfl ?_
        refine r_iload_n (pc := 48) C 0 dX5_hum_48 rfl rfl ?_
        exact r_iret (pc := 49) C rfl rfl dX5_hum_49
      · refine r_bipush (pc := 31) C dX5_hum_31 (cb_m3) ?_
        exact r_iret (pc := 33) C rfl rfl dX5_hum_33
    · refine r_bipush (pc := 21) C dX5_hum_21 (cb_m2) ?_
      exact r_iret (pc := 23) C rfl rfl dX5_hum_23
  · refine r_iconst (pc := 7) C dX5_hum_7 (ci_m1) ?_
    exact r_iret (pc := 8) C rfl rfl dX5_hum_8)
set_option maxHeartbeats 4000000 in
set_option maxRecDepth 100000 in
theorem wl_X5_dutyOf_8 {cI cS : ClassId} (X : CX) (C : Cx X RX5 cX5_dutyOf 6 (some .int) (rmz 2 42) (tyz cI cS)) (q : Nat → Nat) (MI : Nat → Int32) (MA : Nat → Nat → Int32) (a1 : Int32) (a2 : Int32)  (kk : Int32 → Int32 → Int32 → Option (Int32)) (hk_8 : ∀ (el3_8 : Int32) (el4_8 : Int32) (el5_8 : Int32), JR X (QF X (tyz cI cS) 0 0 (fun o : Int32 => some (.int o)) (fun o : Int32 => wdM cI q MI MA)) 6 0 0 (kk el3_8 el4_8 el5_8) (wdM cI q MI MA) [(0, .ref (q 0)), (1, .int a1), (3, .int el3_8), (4, .int el4_8)] 89 []) : ∀ (fuel : Nat) (l3_8 : Int32) (l4_8 : Int32) (l5_8 : Int32), JR X (QF X (tyz cI cS) 0 0 (fun o : Int32 => some (.int o)) (fun o : Int32 => wdM cI q MI MA)) 6 0 0 (lp_X5_dutyOf_8 kk MI MA a2 fuel l3_8 l4_8 l5_8) (wdM cI q MI MA) [(0, .ref (q 0)), (1, .int a1), (2, .int a2), (3, .int l3_8), (4, .int l4_8), (5, .int l5_8)] 8 [] := by
  intro fuel
  induction fuel with
  | zero => intro l3_8 l4_8 l5_8; exact r_none
  | succ fu_8 ih_8 =>
    intro l3_8 l4_8 l5_8
    unfold lp_X5_dutyOf_8
    refine r_iload (pc := 8) C 5 dX5_dutyOf_8 rfl ?_
    refine r_aload_n (pc := 10) C 0 dX5_dutyOf_10 rfl rfl ?_
    refine gf_X5_95 (pc := 11) C 0 rfl rfl dX5_dutyOf_11 ?_
    refine r_icmp_ge (pc := 14) (tgt := 89) C dX5_dutyOf_14 (by decide) ?_ ?_
    · exact r_sub [0, 1, 3, 4] rfl (hk_8 l3_8 l4_8 l5_8)
    · refine r_aload_n (pc := 17) C 0 dX5_dutyOf_17 rfl rfl ?_
      refine gf_X5_25 (pc := 18) C 0 rfl rfl dX5_dutyOf_18 ?_
      refine r_iload (pc := 21) C 5 dX5_dutyOf_21 rfl ?_
      refine r_iald (pc := 23) C 6 rfl dX5_dutyOf_23 ?_
      refine r_iload_n (pc := 24) C 2 dX5_dutyOf_24 rfl rfl ?_
      refine r_icmp_ne (pc := 25) (tgt := 83) C dX5_dutyOf_25 (by decide) ?_ ?_
      · refine r_iinc (pc := 83) C 5 dX5_dutyOf_83 rfl (ci_1) (by decide) (lv' := [(5, .int (l5_8 + (1 : Int32))), (0, .ref (q 0)), (1, .int a1), (2, .int a2), (3, .int l3_8), (4, .int l4_8)]) rfl ?_
        refine r_goto (pc := 86) (tgt := 8) C dX5_dutyOf_86 (by decide) ?_
        exact r_sub [1, 2, 3, 4, 5, 0] rfl (ih_8 l3_8 l4_8 (l5_8 + (1 : Int32)))
      · refine r_aload_n (pc := 28) C 0 dX5_dutyOf_28 rfl rfl ?_
        refine gf_X5_158 (pc := 29) C 0 rfl rfl dX5_dutyOf_29 ?_
        refine r_iload (pc := 32) C 5 dX5_dutyOf_32 rfl ?_
        refine r_callSr (pc := 34) (rest := []) C (m_X5_isIn (xl X) (xD X) cI cS (MI 10) l5_8) ms_X5_167 rfl ⟨Nat.zero_le _, Nat.zero_le _⟩ rfl rfl (Nat.le_of_ble_eq_true rfl) dX5_dutyOf_34 (fun r34 => ?_)
        refine r_if_eq (pc := 37) (tgt := 83) C dX5_dutyOf_37 (by decide) ?_ ?_
        · refine r_iinc (pc := 83) C 5 dX5_dutyOf_83 rfl (ci_1) (by decide) (lv' := [(5, .int (l5_8 + (1 : Int32))), (0, .ref (q 0)), (1, .int a1), (2, .int a2), (3, .int l3_8), (4, .int l4_8)]) rfl ?_
          refine r_goto (pc := 86) (tgt := 8) C dX5_dutyOf_86 (by decide) ?_
          exact r_sub [1, 2, 3, 4, 5, 0] rfl (ih_8 l3_8 l4_8 (l5_8 + (1 : Int32)))
        · refine r_aload_n (pc := 40) C 0 dX5_dutyOf_40 rfl rfl ?_
          refine r_iload (pc := 41) C 5 dX5_dutyOf_41 rfl ?_
          refine r_callV0 (pc := 43) (rest := []) C (m_X5_isDutiable (xl X) (xD X) cI cS q MI MA l5_8) mv_X5_179 rfl rfl rfl ⟨Nat.zero_le _, Nat.zero_le _⟩ rfl rfl (Nat.le_of_ble_eq_true rfl) dX5_dutyOf_43 (fun r43 => ?_)
          refine r_if_eq (pc := 46) (tgt := 83) C dX5_dutyOf_46 (by decide) ?_ ?_
          · refine r_iinc (pc := 83) C 5 dX5_dutyOf_83 rfl (ci_1) (by decide) (lv' := [(5, .int (l5_8 + (1 : Int32))), (0, .ref (q 0)), (1, .int a1), (2, .int a2), (3, .int l3_8), (4, .int l4_8)]) rfl ?_
            refine r_goto (pc := 86) (tgt := 8) C dX5_dutyOf_86 (by decide) ?_
            exact r_sub [1, 2, 3, 4, 5, 0] rfl (ih_8 l3_8 l4_8 (l5_8 + (1 : Int32)))
          · refine r_iload_n (pc := 49) C 3 dX5_dutyOf_49 rfl rfl ?_
            refine r_aload_n (pc := 50) C 0 dX5_dutyOf_50 rfl rfl ?_
            refine gf_X5_19 (pc := 51) C 0 rfl rfl dX5_dutyOf_51 ?_
            refine r_iload (pc := 54) C 5 dX5_dutyOf_54 rfl ?_
            refine r_iald (pc := 56) C 4 rfl dX5_dutyOf_56 ?_
            refine r_iadd (pc := 57) C dX5_dutyOf_57 ?_
            refine r_istore_n (pc := 58) C dX5_dutyOf_58 rfl (by decide) (lv' := [(3, .int (l3_8 + (MA 6 l5_8.toNatClampNeg))), (0, .ref (q 0)), (1, .int a1), (2, .int a2), (4, .int l4_8), (5, .int l5_8)]) rfl ?_
            refine r_aload_n (pc := 59) C 1 dX5_dutyOf_59 rfl rfl ?_
            refine r_iload (pc := 60) C 5 dX5_dutyOf_60 rfl ?_
            refine r_callV0 (pc := 62) (rest := []) C (m_X5_gradeOf (xl X) (xD X) cI cS q MI MA l5_8) mv_X5_176 rfl rfl rfl ⟨Nat.zero_le _, Nat.zero_le _⟩ rfl rfl (Nat.le_of_ble_eq_true rfl) dX5_dutyOf_62 (fun r62 => ?_)
            refine r_iload (pc := 65) C 4 dX5_dutyOf_65 rfl ?_
            refine r_icmp_le (pc := 67) (tgt := 79) C dX5_dutyOf_67 (by decide) ?_ ?_
            · refine r_iload (pc := 79) C 4 dX5_dutyOf_79 rfl ?_
              refine r_istore (pc := 81) C dX5_dutyOf_81 (by decide) (lv' := [(4, .int l4_8), (3, .int (l3_8 + (MA 6 l5_8.toNatClampNeg))), (0, .ref (q 0)), (1, .int a1), (2, .int a2), (5, .int l5_8)]) rfl ?_
              refine r_iinc (pc := 83) C 5 dX5_dutyOf_83 rfl (ci_1) (by decide) (lv' := [(5, .int (l5_8 + (1 : Int32))), (4, .int l4_8), (3, .int (l3_8 + (MA 6 l5_8.toNatClampNeg))), (0, .ref (q 0)), (1, .int a1), (2, .int a2)]) rfl ?_
              refine r_goto (pc := 86) (tgt := 8) C dX5_dutyOf_86 (by decide) ?_
              exact r_sub [3, 4, 5, 2, 1, 0] rfl (ih_8 (l3_8 + (MA 6 l5_8.toNatClampNeg)) l4_8 (l5_8 + (1 : Int32)))
            · refine r_aload_n (pc := 70) C 1 dX5_dutyOf_70 rfl rfl ?_
              refine r_iload (pc := 71) C 5 dX5_dutyOf_71 rfl ?_
              refine r_callV0 (pc := 73) (rest := []) C (m_X5_gradeOf (xl X) (xD X) cI cS q MI MA l5_8) mv_X5_176 rfl rfl rfl ⟨Nat.zero_le _, Nat.zero_le _⟩ rfl rfl (Nat.le_of_ble_eq_true rfl) dX5_dutyOf_73 (fun r73 => ?_)
              refine r_goto (pc := 76) (tgt := 81) C dX5_dutyOf_76 (by decide) ?_
              refine r_istore (pc := 81) C dX5_dutyOf_81 (by decide) (lv' := [(4, .int r73), (3, .int (l3_8 + (MA 6 l5_8.toNatClampNeg))), (0, .ref (q 0)), (1, .int a1), (2, .int a2), (5, .int l5_8)]) rfl ?_
              refine r_iinc (pc := 83) C 5 dX5_dutyOf_83 rfl (ci_1) (by decide) (lv' := [(5, .int (l5_8 + (1 : Int32))), (4, .int r73), (3, .int (l3_8 + (MA 6 l5_8.toNatClampNeg))), (0, .ref (q 0)), (1, .int a1), (2, .int a2)]) rfl ?_
              refine r_goto (pc := 86) (tgt := 8) C dX5_dutyOf_86 (by decide) ?_
              exact r_sub [3, 4, 5, 2, 1, 0] rfl (ih_8 (l3_8 + (MA 6 l5_8.toNatClampNeg)) r73 (l5_8 + (1 : Int32)))
set_option maxHeartbeats 4000000 in
set_option maxRecDepth 100000 in
theorem m_X5_dutyOf (l : Launch) (D : va_G) (cI cS : ClassId) (q : Nat → Nat) (MI : Nat → Int32) (MA : Nat → Nat → Int32) (a1 : Int32) (a2 : Int32) : MX l D (tyz cI cS) yX5_dutyOf cX5_dutyOf 6 (some .int) (rmz 2 42) [.ref (q 0), .int a1, .int a2] (wdM cI q MI MA) (f_X5_dutyOf MI MA a1 a2) (fun o : Int32 => some (.int o)) (fun o : Int32 => wdM cI q MI MA) := met_of (own := RX5) (by decide) rfl (Nat.le_of_ble_eq_true rfl) (fun X hxl hxD C => by
  subst hxl
  subst hxD
  show JR X _ _ 0 0 (f_X5_dutyOf MI MA a1 a2) (wdM cI q MI MA) [(0, .ref (q 0)), (1, .int a1), (2, .int a2)] 0 []
  unfold f_X5_dutyOf
  refine r_iconst (pc := 0) C dX5_dutyOf_0 (ci_0) ?_
  refine r_istore_n (pc := 1) C dX5_dutyOf_1 rfl (by decide) (lv' := [(3, .int (0 : Int32)), (0, .ref (q 0)), (1, .int a1), (2, .int a2)]) rfl ?_
  refine r_iconst (pc := 2) C dX5_dutyOf_2 (ci_0) ?_
  refine r_istore (pc := 3) C dX5_dutyOf_3 (by decide) (lv' := [(4, .int (0 : Int32)), (3, .int (0 : Int32)), (0, .ref (q 0)), (1, .int a1), (2, .int a2)]) rfl ?_
  refine r_iconst (pc := 5) C dX5_dutyOf_5 (ci_0) ?_
  refine r_istore (pc := 6) C dX5_dutyOf_6 (by decide) (lv' := [(5, .int (0 : Int32)), (4, .int (0 : Int32)), (3, .int (0 : Int32)), (0, .ref (q 0)), (1, .int a1), (2, .int a2)]) rfl ?_
  refine r_sub [3, 4, 5, 2, 1, 0] rfl (wl_X5_dutyOf_8 X C q MI MA a1 a2  _ (fun el3_8 el4_8 el5_8 => ?_) 1000 (0 : Int32) (0 : Int32) (0 : Int32))
  refine r_iload_n (pc := 89) C 2 dX5_dutyOf_89 rfl rfl ?_
  refine r_aload_n (pc := 90) C 0 dX5_dutyOf_90 rfl rfl ?_
  refine gf_X5_151 (pc := 91) C 0 rfl rfl dX5_dutyOf_91 ?_
  refine r_icmp_le (pc := 94) (tgt := 116) C dX5_dutyOf_94 (by decide) ?_ ?_
  · refine r_iconst (pc := 116) C dX5_dutyOf_116 (ci_0) ?_
    exact r_iret (pc := 117) C rfl rfl dX5_dutyOf_117
  · refine r_iload_n (pc := 97) C 2 dX5_dutyOf_97 rfl rfl ?_
    refine r_aload_n (pc := 98) C 0 dX5_dutyOf_98 rfl rfl ?_
    refine gf_X5_151 (pc := 99) C 0 rfl rfl dX5_dutyOf_99 ?_
    refine r_isub (pc := 102) C dX5_dutyOf_102 ?_
    refine r_iload (pc := 103) C 3 dX5_dutyOf_103 rfl ?_
    refine r_imul (pc := 105) C dX5_dutyOf_105 ?_
    refine r_aload_n (pc := 106) C 0 dX5_dutyOf_106 rfl rfl ?_
    refine gf_X5_7 (pc := 107) C 0 rfl rfl dX5_dutyOf_107 ?_
    refine r_iload_n (pc := 110) C 1 dX5_dutyOf_110 rfl rfl ?_
    refine r_iald (pc := 111) C 1 rfl dX5_dutyOf_111 ?_
    refine r_imul (pc := 112) C dX5_dutyOf_112 ?_
    refine r_goto (pc := 113) (tgt := 117) C dX5_dutyOf_113 (by decide) ?_
    exact r_iret (pc := 117) C rfl rfl dX5_dutyOf_117)
set_option maxHeartbeats 4000000 in
set_option maxRecDepth 100000 in
theorem wl_X5_dutyAt_4 {cI cS : ClassId} (X : CX) (C : Cx X RX5 cX5_dutyAt 4 (some .int) (rmz 3 67) (tyz cI cS)) (q : Nat → Nat) (MI : Nat → Int32) (MA : Nat → Nat → Int32) (a1 : Int32)  (kk : Int32 → Int32 → Option (Int32)) (hk_4 : ∀ (el2_4 : Int32) (el3_4 : Int32), JR X (QF X (tyz cI cS) 0 0 (fun o : Int32 => some (.int o)) (fun o : Int32 => wdM cI q MI MA)) 4 0 0 (kk el2_4 el3_4) (wdM cI q MI MA) [(2, .int el2_4)] 24 []) : ∀ (fuel : Nat) (l2_4 : Int32) (l3_4 : Int32), JR X (QF X (tyz cI cS) 0 0 (fun o : Int32 => some (.int o)) (fun o : Int32 => wdM cI q MI MA)) 4 0 0 (lp_X5_dutyAt_4 kk MI MA a1 fuel l2_4 l3_4) (wdM cI q MI MA) [(0, .ref (q 0)), (1, .int a1), (2, .int l2_4), (3, .int l3_4)] 4 [] := by
  intro fuel
  induction fuel with
  | zero => intro l2_4 l3_4; exact r_none
  | succ fu_4 ih_4 =>
    intro l2_4 l3_4
    unfold lp_X5_dutyAt_4
    refine r_iload_n (pc := 4) C 3 dX5_dutyAt_4 rfl rfl ?_
    refine r_iconst (pc := 5) C dX5_dutyAt_5 (ci_3) ?_
    refine r_icmp_ge (pc := 6) (tgt := 24) C dX5_dutyAt_6 (by decide) ?_ ?_
    · exact r_sub [2] rfl (hk_4 l2_4 l3_4)
    · refine r_iload_n (pc := 9) C 2 dX5_dutyAt_9 rfl rfl ?_
      refine r_aload_n (pc := 10) C 0 dX5_dutyAt_10 rfl rfl ?_
      refine r_iload_n (pc := 11) C 1 dX5_dutyAt_11 rfl rfl ?_
      refine r_iload_n (pc := 12) C 3 dX5_dutyAt_12 rfl rfl ?_
      refine r_callV0 (pc := 13) (rest := [.int l2_4]) C (m_X5_dutyOf (xl X) (xD X) cI cS q MI MA a1 l3_4) mv_X5_187 rfl rfl rfl ⟨Nat.zero_le _, Nat.zero_le _⟩ rfl rfl (Nat.le_of_ble_eq_true rfl) dX5_dutyAt_13 (fun r13 => ?_)
      refine r_iadd (pc := 16) C dX5_dutyAt_16 ?_
      refine r_istore_n (pc := 17) C dX5_dutyAt_17 rfl (by decide) (lv' := [(2, .int (l2_4 + r13)), (0, .ref (q 0)), (1, .int a1), (3, .int l3_4)]) rfl ?_
      refine r_iinc (pc := 18) C 3 dX5_dutyAt_18 rfl (ci_1) (by decide) (lv' := [(3, .int (l3_4 + (1 : Int32))), (2, .int (l2_4 + r13)), (0, .ref (q 0)), (1, .int a1)]) rfl ?_
      refine r_goto (pc := 21) (tgt := 4) C dX5_dutyAt_21 (by decide) ?_
      exact r_sub [2, 3, 1, 0] rfl (ih_4 (l2_4 + r13) (l3_4 + (1 : Int32)))
set_option maxHeartbeats 4000000 in
set_option maxRecDepth 100000 in
theorem m_X5_dutyAt (l : Launch) (D : va_G) (cI cS : ClassId) (q : Nat → Nat) (MI : Nat → Int32) (MA : Nat → Nat → Int32) (a1 : Int32) : MX l D (tyz cI cS) yX5_dutyAt cX5_dutyAt 4 (some .int) (rmz 3 67) [.ref (q 0), .int a1] (wdM cI q MI MA) (f_X5_dutyAt MI MA a1) (fun o : Int32 => some (.int o)) (fun o : Int32 => wdM cI q MI MA) := met_of (own := RX5) (by decide) rfl (Nat.le_of_ble_eq_true rfl) (fun X hxl hxD C => by
  subst hxl
  subst hxD
  show JR X _ _ 0 0 (f_X5_dutyAt MI MA a1) (wdM cI q MI MA) [(0, .ref (q 0)), (1, .int a1)] 0 []
  unfold f_X5_dutyAt
  refine r_iconst (pc := 0) C dX5_dutyAt_0 (ci_0) ?_
  refine r_istore_n (pc := 1) C dX5_dutyAt_1 rfl (by decide) (lv' := [(2, .int (0 : Int32)), (0, .ref (q 0)), (1, .int a1)]) rfl ?_
  refine r_iconst (pc := 2) C dX5_dutyAt_2 (ci_0) ?_
  refine r_istore_n (pc := 3) C dX5_dutyAt_3 rfl (by decide) (lv' := [(3, .int (0 : Int32)), (2, .int (0 : Int32)), (0, .ref (q 0)), (1, .int a1)]) rfl ?_
  refine r_sub [2, 3, 1, 0] rfl (wl_X5_dutyAt_4 X C q MI MA a1  _ (fun el2_4 el3_4 => ?_) 1000 (0 : Int32) (0 : Int32))
  refine r_iload_n (pc := 24) C 0 dX5_dutyAt_24 rfl rfl ?_
  exact r_iret (pc := 25) C rfl rfl dX5_dutyAt_25)
set_option maxHeartbeats 4000000 in
set_option maxRecDepth 100000 in
theorem m_X5_duty (l : Launch) (D : va_G) (cI cS : ClassId) (q : Nat → Nat) (MI : Nat → Int32) (MA : Nat → Nat → Int32) (a1 : Int32) : MX l D (tyz cI cS) yX5_duty cX5_duty 2 (some .int) (rmz 4 90) [.ref (q 0), .int a1] (wdM cI q MI MA) (f_X5_duty MI MA a1) (fun o : Int32 => some (.int o)) (fun o : Int32 => wdM cI q MI MA) := met_of (own := RX5) (by decide) rfl (Nat.le_of_ble_eq_true rfl) (fun X hxl hxD C => by
  subst hxl
  subst hxD
  show JR X _ _ 0 0 (f_X5_duty MI MA a1) (wdM cI q MI MA) [(0, .ref (q 0)), (1, .int a1)] 0 []
  unfold f_X5_duty
  refine r_aload_n (pc := 0) C 0 dX5_duty_0 rfl rfl ?_
  refine r_iload_n (pc := 1) C 1 dX5_duty_1 rfl rfl ?_
  refine r_callV0 (pc := 2) (rest := []) C (m_X5_noPost (xl X) (xD X) cI cS q MI MA a1) mv_X5_170 rfl rfl rfl ⟨Nat.zero_le _, Nat.zero_le _⟩ rfl rfl (Nat.le_of_ble_eq_true rfl) dX5_duty_2 (fun r2 => ?_)
  refine r_if_eq (pc := 5) (tgt := 12) C dX5_duty_5 (by decide) ?_ ?_
  · refine r_aload_n (pc := 12) C 0 dX5_duty_12 rfl rfl ?_
    refine r_iload_n (pc := 13) C 1 dX5_duty_13 rfl rfl ?_
    refine r_callV0 (pc := 14) (rest := []) C (m_X5_dutyAt (xl X) (xD X) cI cS q MI MA a1) mv_X5_190 rfl rfl rfl ⟨Nat.zero_le _, Nat.zero_le _⟩ rfl rfl (Nat.le_of_ble_eq_true rfl) dX5_duty_14 (fun r14 => ?_)
    exact r_iret (pc := 17) C rfl rfl dX5_duty_17
  · refine r_iconst (pc := 8) C dX5_duty_8 (ci_m1) ?_
    refine r_goto (pc := 9) (tgt := 17) C dX5_duty_9 (by decide) ?_
    exact r_iret (pc := 17) C rfl rfl dX5_duty_17)
set_option maxHeartbeats 4000000 in
set_option maxRecDepth 100000 in
theorem m_X5_heardAt (l : Launch) (D : va_G) (cI cS : ClassId) (q : Nat → Nat) (MI : Nat → Int32) (MA : Nat → Nat → Int32) (a1 : Int32) (a2 : Int32) : MX l D (tyz cI cS) yX5_heardAt cX5_heardAt 4 (some .int) (rmz 2 42) [.ref (q 0), .int a1, .int a2] (wdM cI q MI MA) (f_X5_heardAt MI MA a1 a2) (fun o : Int32 => some (.int o)) (fun o : Int32 => wdM cI q MI MA) := met_of (own := RX5) (by decide) rfl (Nat.le_of_ble_eq_true rfl) (fun X hxl hxD C => by
  subst hxl
  subst hxD
  show JR X _ _ 0 0 (f_X5_heardAt MI MA a1 a2) (wdM cI q MI MA) [(0, .ref (q 0)), (1, .int a1), (2, .int a2)] 0 []
  unfold f_X5_heardAt
  refine r_aload_n (pc := 0) C 0 dX5_heardAt_0 rfl rfl ?_
  refine gf_X5_13 (pc := 1) C 0 rfl rfl dX5_heardAt_1 ?_
  refine r_iload_n (pc := 4) C 2 dX5_heardAt_4 rfl rfl ?_
  refine r_iald (pc := 5) C 2 rfl dX5_heardAt_5 ?_
  refine r_aload_n (pc := 6) C 0 dX5_heardAt_6 rfl rfl ?_
  refine gf_X5_28 (pc := 7) C 0 rfl rfl dX5_heardAt_7 ?_
  refine r_aload_n (pc := 10) C 0 dX5_heardAt_10 rfl rfl ?_
  refine gf_X5_25 (pc := 11) C 0 rfl rfl dX5_heardAt_11 ?_
  refine r_iload_n (pc := 14) C 1 dX5_heardAt_14 rfl rfl ?_
  refine r_iald (pc := 15) C 6 rfl dX5_heardAt_15 ?_
  refine r_iald (pc := 16) C 7 rfl dX5_heardAt_16 ?_
  refine r_isub (pc := 17) C dX5_heardAt_17 ?_
  refine r_istore_n (pc := 18) C dX5_heardAt_18 rfl (by decide) (lv' := [(3, .int ((MA 3 a2.toNatClampNeg) - (MA 9 (MA 8 a1.toNatClampNeg).toNatClampNeg))), (0, .ref (q 0)), (1, .int a1), (2, .int a2)]) rfl ?_
  refine r_iload_n (pc := 19) C 0 dX5_heardAt_19 rfl rfl ?_
  refine r_if_le (pc := 20) (tgt := 46) C dX5_heardAt_20 (by decide) ?_ ?_
  · refine r_iconst (pc := 46) C dX5_heardAt_46 (ci_0) ?_
    exact r_iret (pc := 47) C rfl rfl dX5_heardAt_47
  · refine r_aload_n (pc := 23) C 1 dX5_heardAt_23 rfl rfl ?_
    refine gf_X5_158 (pc := 24) C 0 rfl rfl dX5_heardAt_24 ?_
    refine r_iload_n (pc := 27) C 2 dX5_heardAt_27 rfl rfl ?_
    refine r_callSr (pc := 28) (rest := []) C (m_X5_isIn (xl X) (xD X) cI cS (MI 10) a1) ms_X5_167 rfl ⟨Nat.zero_le _, Nat.zero_le _⟩ rfl rfl (Nat.le_of_ble_eq_true rfl) dX5_heardAt_28 (fun r28 => ?_)
    refine r_if_ne (pc := 31) (tgt := 46) C dX5_heardAt_31 (by decide) ?_ ?_
    · refine r_iconst (pc := 46) C dX5_heardAt_46 (ci_0) ?_
      exact r_iret (pc := 47) C rfl rfl dX5_heardAt_47
    · refine r_aload_n (pc := 34) C 1 dX5_heardAt_34 rfl rfl ?_
      refine r_iload_n (pc := 35) C 2 dX5_heardAt_35 rfl rfl ?_
      refine r_callV0 (pc := 36) (rest := []) C (m_X5_isDutiable (xl X) (xD X) cI cS q MI MA a1) mv_X5_179 rfl rfl rfl ⟨Nat.zero_le _, Nat.zero_le _⟩ rfl rfl (Nat.le_of_ble_eq_true rfl) dX5_heardAt_36 (fun r36 => ?_)
      refine r_if_eq (pc := 39) (tgt := 46) C dX5_heardAt_39 (by decide) ?_ ?_
      · refine r_iconst (pc := 46) C dX5_heardAt_46 (ci_0) ?_
        exact r_iret (pc := 47) C rfl rfl dX5_heardAt_47
      · refine r_iload_n (pc := 42) C 0 dX5_heardAt_42 rfl rfl ?_
        refine r_goto (pc := 43) (tgt := 47) C dX5_heardAt_43 (by decide) ?_
        exact r_iret (pc := 47) C rfl rfl dX5_heardAt_47)
set_option maxHeartbeats 4000000 in
set_option maxRecDepth 100000 in
theorem wl_X5_clear_27 {cI cS : ClassId} (X : CX) (C : Cx X RX5 cX5_clear 6 (some .long) (rmz 3 65) (tyz cI cS)) (q : Nat → Nat) (MI : Nat → Int32) (MA : Nat → Nat → Int32) (a1 : Int32) (a2 : Int32)  (kk : Int64 → Int32 → Option (Int64)) (hk_27 : ∀ (el3_27 : Int64) (el5_27 : Int32), JR X (QF X (tyz cI cS) 0 0 (fun o : Int64 => some (.long o)) (fun o : Int64 => wdM cI q MI MA)) 6 0 0 (kk el3_27 el5_27) (wdM cI q MI MA) [(0, .ref (q 0)), (2, .int a2), (3, .long el3_27)] 57 []) : ∀ (fuel : Nat) (l3_27 : Int64) (l5_27 : Int32), JR X (QF X (tyz cI cS) 0 0 (fun o : Int64 => some (.long o)) (fun o : Int64 => wdM cI q MI MA)) 6 0 0 (lp_X5_clear_27 kk MI MA a1 fuel l3_27 l5_27) (wdM cI q MI MA) [(0, .ref (q 0)), (1, .int a1), (2, .int a2), (3, .long l3_27), (5, .int l5_27)] 27 [] := by
  intro fuel
  induction fuel with
  | zero => intro l3_27 l5_27; exact r_none
  | succ fu_27 ih_27 =>
    intro l3_27 l5_27
    unfold lp_X5_clear_27
    refine r_iload (pc := 27) C 4 dX5_clear_27 rfl ?_
    refine r_aload_n (pc := 29) C 0 dX5_clear_29 rfl rfl ?_
    refine gf_X5_95 (pc := 30) C 0 rfl rfl dX5_clear_30 ?_
    refine r_icmp_ge (pc := 33) (tgt := 57) C dX5_clear_33 (by decide) ?_ ?_
    · exact r_sub [0, 2, 3] rfl (hk_27 l3_27 l5_27)
    · refine r_lload_n (pc := 36) C 3 dX5_clear_36 rfl rfl ?_
      refine r_ldc2 (pc := 37) C kk_X5_79 dX5_clear_37 ?_
      refine r_aload_n (pc := 40) C 0 dX5_clear_40 rfl rfl ?_
      refine r_iload (pc := 41) C 4 dX5_clear_41 rfl ?_
      refine r_iload_n (pc := 43) C 1 dX5_clear_43 rfl rfl ?_
      refine r_callV0 (pc := 44) (rest := [.long (10 : Int64), .long l3_27]) C (m_X5_heardAt (xl X) (xD X) cI cS q MI MA l5_27 a1) mv_X5_193 rfl rfl rfl ⟨Nat.zero_le _, Nat.zero_le _⟩ rfl rfl (Nat.le_of_ble_eq_true rfl) dX5_clear_44 (fun r44 => ?_)
      refine r_i2l (pc := 47) C dX5_clear_47 ?_
      refine r_lsub (pc := 48) C dX5_clear_48 ?_
      refine r_lmul (pc := 49) C dX5_clear_49 ?_
      refine r_lstore_n (pc := 50) C dX5_clear_50 rfl (by decide) (lv' := [(3, .long (l3_27 * ((10 : Int64) - r44.toInt64))), (0, .ref (q 0)), (1, .int a1), (2, .int a2), (5, .int l5_27)]) rfl ?_
      refine r_iinc (pc := 51) C 4 dX5_clear_51 rfl (ci_1) (by decide) (lv' := [(5, .int (l5_27 + (1 : Int32))), (3, .long (l3_27 * ((10 : Int64) - r44.toInt64))), (0, .ref (q 0)), (1, .int a1), (2, .int a2)]) rfl ?_
      refine r_goto (pc := 54) (tgt := 27) C dX5_clear_54 (by decide) ?_
      exact r_sub [2, 3, 4, 1, 0] rfl (ih_27 (l3_27 * ((10 : Int64) - r44.toInt64)) (l5_27 + (1 : Int32)))
set_option maxHeartbeats 4000000 in
set_option maxRecDepth 100000 in
theorem m_X5_clear (l : Launch) (D : va_G) (cI cS : ClassId) (q : Nat → Nat) (MI : Nat → Int32) (MA : Nat → Nat → Int32) (a1 : Int32) (a2 : Int32) : MX l D (tyz cI cS) yX5_clear cX5_clear 6 (some .long) (rmz 3 65) [.ref (q 0), .int a1, .int a2] (wdM cI q MI MA) (f_X5_clear MI MA a1 a2) (fun o : Int64 => some (.long o)) (fun o : Int64 => wdM cI q MI MA) := met_of (own := RX5) (by decide) rfl (Nat.le_of_ble_eq_true rfl) (fun X hxl hxD C => by
  subst hxl
  subst hxD
  show JR X _ _ 0 0 (f_X5_clear MI MA a1 a2) (wdM cI q MI MA) [(0, .ref (q 0)), (1, .int a1), (2, .int a2)] 0 []
  unfold f_X5_clear
  refine r_aload_n (pc := 0) C 0 dX5_clear_0 rfl rfl ?_
  refine r_iload_n (pc := 1) C 1 dX5_clear_1 rfl rfl ?_
  refine r_callV0 (pc := 2) (rest := []) C (m_X5_noPost (xl X) (xD X) cI cS q MI MA a1) mv_X5_170 rfl rfl rfl ⟨Nat.zero_le _, Nat.zero_le _⟩ rfl rfl (Nat.le_of_ble_eq_true rfl) dX5_clear_2 (fun r2 => ?_)
  refine r_if_ne (pc := 5) (tgt := 18) C dX5_clear_5 (by decide) ?_ ?_
  · refine r_callSr (pc := 18) (rest := []) C (m_X5_lost (xl X) (xD X) cI cS) ms_X5_84 rfl ⟨Nat.zero_le _, Nat.zero_le _⟩ rfl rfl (Nat.le_of_ble_eq_true rfl) dX5_clear_18 (fun r18 => ?_)
    exact r_lret (pc := 21) C rfl rfl dX5_clear_21
  · refine r_iload_n (pc := 8) C 2 dX5_clear_8 rfl rfl ?_
    refine r_i2l (pc := 9) C dX5_clear_9 ?_
    refine r_lconst (pc := 10) (v := 0) C dX5_clear_10 rfl ?_
    refine r_lconst (pc := 11) (v := 1) C dX5_clear_11 rfl ?_
    refine r_callSr (pc := 12) (rest := []) C (m_X5_in (xl X) (xD X) cI cS a2.toInt64 (0 : Int64) (1 : Int64)) ms_X5_91 rfl ⟨Nat.zero_le _, Nat.zero_le _⟩ rfl rfl (Nat.le_of_ble_eq_true rfl) dX5_clear_12 (fun r12 => ?_)
    refine r_if_ne (pc := 15) (tgt := 22) C dX5_clear_15 (by decide) ?_ ?_
    · refine r_lconst (pc := 22) (v := 1) C dX5_clear_22 rfl ?_
      refine r_lstore_n (pc := 23) C dX5_clear_23 rfl (by decide) (lv' := [(3, .long (1 : Int64)), (0, .ref (q 0)), (1, .int a1), (2, .int a2)]) rfl ?_
      refine r_iconst (pc := 24) C dX5_clear_24 (ci_0) ?_
      refine r_istore (pc := 25) C dX5_clear_25 (by decide) (lv' := [(5, .int (0 : Int32)), (3, .long (1 : Int64)), (0, .ref (q 0)), (1, .int a1), (2, .int a2)]) rfl ?_
      refine r_sub [2, 3, 4, 1, 0] rfl (wl_X5_clear_27 X C q MI MA a1 a2  _ (fun el3_27 el5_27 => ?_) 1000 (1 : Int64) (0 : Int32))
      refine r_lload_n (pc := 57) C 2 dX5_clear_57 rfl rfl ?_
      refine r_aload_n (pc := 58) C 0 dX5_clear_58 rfl rfl ?_
      refine gf_X5_95 (pc := 59) C 0 rfl rfl dX5_clear_59 ?_
      refine r_callSr (pc := 62) (rest := [.long el3_27]) C (m_X5_tens (xl X) (xD X) cI cS (MI 4)) ms_X5_196 rfl ⟨Nat.zero_le _, Nat.zero_le _⟩ rfl rfl (Nat.le_of_ble_eq_true rfl) dX5_clear_62 (fun r62 => ?_)
      refine r_iload_n (pc := 65) C 1 dX5_clear_65 rfl rfl ?_
      refine r_callSr (pc := 66) (rest := []) C (m_X5_told (xl X) (xD X) cI cS el3_27 r62 a2) ms_X5_200 rfl ⟨Nat.zero_le _, Nat.zero_le _⟩ rfl rfl (Nat.le_of_ble_eq_true rfl) dX5_clear_66 (fun r66 => ?_)
      exact r_lret (pc := 69) C rfl rfl dX5_clear_69
    · refine r_callSr (pc := 18) (rest := []) C (m_X5_lost (xl X) (xD X) cI cS) ms_X5_84 rfl ⟨Nat.zero_le _, Nat.zero_le _⟩ rfl rfl (Nat.le_of_ble_eq_true rfl) dX5_clear_18 (fun r18 => ?_)
      exact r_lret (pc := 21) C rfl rfl dX5_clear_21)
set_option maxHeartbeats 4000000 in
set_option maxRecDepth 100000 in
theorem wl_X5_costNow_55 {cI cS : ClassId} (X : CX) (C : Cx X RX5 cX5_costNow 9 (some .long) (rmz 4 90) (tyz cI cS)) (q : Nat → Nat) (MI : Nat → Int32) (MA : Nat → Nat → Int32) (a1 : Int32) (l4_40 : Int32)  (kk : Int64 → Int64 → Int32 → Option (Int64)) (hk_55 : ∀ (el2_55 : Int64) (el5_55 : Int64) (el7_55 : Int32), JR X (QF X (tyz cI cS) 0 0 (fun o : Int64 => some (.long o)) (fun o : Int64 => wdM cI q MI MA)) 9 0 0 (kk el2_55 el5_55 el7_55) (wdM cI q MI MA) [(0, .ref (q 0)), (1, .int a1), (2, .long el2_55), (4, .int l4_40)] 149 []) : ∀ (fuel : Nat) (l2_55 : Int64) (l5_55 : Int64) (l7_55 : Int32), JR X (QF X (tyz cI cS) 0 0 (fun o : Int64 => some (.long o)) (fun o : Int64 => wdM cI q MI MA)) 9 0 0 (lp_X5_costNow_55 kk MI MA a1 l4_40 fuel l2_55 l5_55 l7_55) (wdM cI q MI MA) [(0, .ref (q 0)), (1, .int a1), (2, .long l2_55), (4, .int l4_40), (5, .long l5_55), (7, .int l7_55)] 55 [] := by
  intro fuel
  induction fuel with
  | zero => intro l2_55 l5_55 l7_55; exact r_none
  | succ fu_55 ih_55 =>
    intro l2_55 l5_55 l7_55
    unfold lp_X5_costNow_55
    refine r_iload (pc := 55) C 5 dX5_costNow_55 rfl ?_
    refine r_iload_n (pc := 57) C 1 dX5_costNow_57 rfl rfl ?_
    refine r_icmp_ge (pc := 58) (tgt := 149) C dX5_costNow_58 (by decide) ?_ ?_
    · exact r_sub [0, 1, 2, 3] rfl (hk_55 l2_55 l5_55 l7_55)
    · refine r_aload_n (pc := 61) C 0 dX5_costNow_61 rfl rfl ?_
      refine gf_X5_46 (pc := 62) C 0 rfl rfl dX5_costNow_62 ?_
      refine r_iload (pc := 65) C 5 dX5_costNow_65 rfl ?_
      refine r_iald (pc := 67) C 13 rfl dX5_costNow_67 ?_
      refine r_istore (pc := 68) C dX5_costNow_68 (by decide) (lv' := [(8, .int (MA 23 l7_55.toNatClampNeg)), (0, .ref (q 0)), (1, .int a1), (2, .long l2_55), (4, .int l4_40), (5, .long l5_55), (7, .int l7_55)]) rfl ?_
      refine r_lload_n (pc := 70) C 3 dX5_costNow_70 rfl rfl ?_
      refine r_lload (pc := 71) C 5 dX5_costNow_71 rfl ?_
      refine r_aload_n (pc := 73) C 1 dX5_costNow_73 rfl rfl ?_
      refine r_iload (pc := 74) C 4 dX5_costNow_74 rfl ?_
      refine r_iload (pc := 76) C 0 dX5_costNow_76 rfl ?_
      refine r_callV0 (pc := 78) (rest := [.long l5_55, .long l2_55]) C (m_X5_heardAt (xl X) (xD X) cI cS q MI MA l4_40 (MA 23 l7_55.toNatClampNeg)) mv_X5_193 rfl rfl rfl ⟨Nat.zero_le _, Nat.zero_le _⟩ rfl rfl (Nat.le_of_ble_eq_true rfl) dX5_costNow_78 (fun r78 => ?_)
      refine r_i2l (pc := 81) C dX5_costNow_81 ?_
      refine r_lmul (pc := 82) C dX5_costNow_82 ?_
      refine r_iload_n (pc := 83) C 2 dX5_costNow_83 rfl rfl ?_
      refine r_iload (pc := 84) C 6 dX5_costNow_84 rfl ?_
      refine r_isub (pc := 86) C dX5_costNow_86 ?_
      refine r_iconst (pc := 87) C dX5_costNow_87 (ci_1) ?_
      refine r_isub (pc := 88) C dX5_costNow_88 ?_
      refine r_callSr (pc := 89) (rest := [.long (l5_55 * r78.toInt64), .long l2_55]) C (m_X5_tens (xl X) (xD X) cI cS ((a1 - l7_55) - (1 : Int32))) ms_X5_196 rfl ⟨Nat.zero_le _, Nat.zero_le _⟩ rfl rfl (Nat.le_of_ble_eq_true rfl) dX5_costNow_89 (fun r89 => ?_)
      refine r_lmul (pc := 92) C dX5_costNow_92 ?_
      refine r_ldc2 (pc := 93) C kk_X5_98 dX5_costNow_93 ?_
      refine r_aload_n (pc := 96) C 1 dX5_costNow_96 rfl rfl ?_
      refine gf_X5_19 (pc := 97) C 0 rfl rfl dX5_costNow_97 ?_
      refine r_iload (pc := 100) C 4 dX5_costNow_100 rfl ?_
      refine r_iald (pc := 102) C 4 rfl dX5_costNow_102 ?_
      refine r_i2l (pc := 103) C dX5_costNow_103 ?_
      refine r_lmul (pc := 104) C dX5_costNow_104 ?_
      refine r_aload_n (pc := 105) C 1 dX5_costNow_105 rfl rfl ?_
      refine r_iload (pc := 106) C 4 dX5_costNow_106 rfl ?_
      refine r_callV0 (pc := 108) (rest := [.long ((2 : Int64) * ((MA 6 l4_40.toNatClampNeg).toInt64)), .long ((l5_55 * r78.toInt64) * r89), .long l2_55]) C (m_X5_gradeOf (xl X) (xD X) cI cS q MI MA l4_40) mv_X5_176 rfl rfl rfl ⟨Nat.zero_le _, Nat.zero_le _⟩ rfl rfl (Nat.le_of_ble_eq_true rfl) dX5_costNow_108 (fun r108 => ?_)
      refine r_i2l (pc := 111) C dX5_costNow_111 ?_
      refine r_lmul (pc := 112) C dX5_costNow_112 ?_
      refine r_aload_n (pc := 113) C 1 dX5_costNow_113 rfl rfl ?_
      refine gf_X5_7 (pc := 114) C 0 rfl rfl dX5_costNow_114 ?_
      refine r_iload (pc := 117) C 0 dX5_costNow_117 rfl ?_
      refine r_iald (pc := 119) C 1 rfl dX5_costNow_119 ?_
      refine r_i2l (pc := 120) C dX5_costNow_120 ?_
      refine r_lmul (pc := 121) C dX5_costNow_121 ?_
      refine r_lmul (pc := 122) C dX5_costNow_122 ?_
      refine r_ladd (pc := 123) C dX5_costNow_123 ?_
      refine r_lstore_n (pc := 124) C dX5_costNow_124 rfl (by decide) (lv' := [(2, .long (l2_55 + (((l5_55 * r78.toInt64) * r89) * ((((2 : Int64) * ((MA 6 l4_40.toNatClampNeg).toInt64)) * r108.toInt64) * ((MA 2 (MA 23 l7_55.toNatClampNeg).toNatClampNeg).toInt64))))), (8, .int (MA 23 l7_55.toNatClampNeg)), (0, .ref (q 0)), (1, .int a1), (4, .int l4_40), (5, .long l5_55), (7, .int l7_55)]) rfl ?_
      refine r_lload (pc := 125) C 5 dX5_costNow_125 rfl ?_
      refine r_ldc2 (pc := 127) C kk_X5_79 dX5_costNow_127 ?_
      refine r_aload_n (pc := 130) C 2 dX5_costNow_130 rfl rfl ?_
      refine r_iload (pc := 131) C 4 dX5_costNow_131 rfl ?_
      refine r_iload (pc := 133) C 1 dX5_costNow_133 rfl ?_
      refine r_callV0 (pc := 135) (rest := [.long (10 : Int64), .long l5_55]) C (m_X5_heardAt (xl X) (xD X) cI cS q MI MA l4_40 (MA 23 l7_55.toNatClampNeg)) mv_X5_193 rfl rfl rfl ⟨Nat.zero_le _, Nat.zero_le _⟩ rfl rfl (Nat.le_of_ble_eq_true rfl) dX5_costNow_135 (fun r135 => ?_)
      refine r_i2l (pc := 138) C dX5_costNow_138 ?_
      refine r_lsub (pc := 139) C dX5_costNow_139 ?_
      refine r_lmul (pc := 140) C dX5_costNow_140 ?_
      refine r_lstore (pc := 141) C dX5_costNow_141 (by decide) (lv' := [(5, .long (l5_55 * ((10 : Int64) - r135.toInt64))), (2, .long (l2_55 + (((l5_55 * r78.toInt64) * r89) * ((((2 : Int64) * ((MA 6 l4_40.toNatClampNeg).toInt64)) * r108.toInt64) * ((MA 2 (MA 23 l7_55.toNatClampNeg).toNatClampNeg).toInt64))))), (8, .int (MA 23 l7_55.toNatClampNeg)), (0, .ref (q 0)), (1, .int a1), (4, .int l4_40), (7, .int l7_55)]) rfl ?_
      refine r_iinc (pc := 143) C 6 dX5_costNow_143 rfl (ci_1) (by decide) (lv' := [(7, .int (l7_55 + (1 : Int32))), (5, .long (l5_55 * ((10 : Int64) - r135.toInt64))), (2, .long (l2_55 + (((l5_55 * r78.toInt64) * r89) * ((((2 : Int64) * ((MA 6 l4_40.toNatClampNeg).toInt64)) * r108.toInt64) * ((MA 2 (MA 23 l7_55.toNatClampNeg).toNatClampNeg).toInt64))))), (8, .int (MA 23 l7_55.toNatClampNeg)), (0, .ref (q 0)), (1, .int a1), (4, .int l4_40)]) rfl ?_
      refine r_goto (pc := 146) (tgt := 55) C dX5_costNow_146 (by decide) ?_
      exact r_sub [4, 5, 2, 6, 1, 0] rfl (ih_55 (l2_55 + (((l5_55 * r78.toInt64) * r89) * ((((2 : Int64) * ((MA 6 l4_40.toNatClampNeg).toInt64)) * r108.toInt64) * ((MA 2 (MA 23 l7_55.toNatClampNeg).toNatClampNeg).toInt64)))) (l5_55 * ((10 : Int64) - r135.toInt64)) (l7_55 + (1 : Int32)))
set_option maxHeartbeats 4000000 in
set_option maxRecDepth 100000 in
theorem wl_X5_costNow_40 {cI cS : ClassId} (X : CX) (C : Cx X RX5 cX5_costNow 9 (some .long) (rmz 4 90) (tyz cI cS)) (q : Nat → Nat) (MI : Nat → Int32) (MA : Nat → Nat → Int32) (a1 : Int32)  (kk : Int64 → Int32 → Option (Int64)) (hk_40 : ∀ (el2_40 : Int64) (el4_40 : Int32), JR X (QF X (tyz cI cS) 0 0 (fun o : Int64 => some (.long o)) (fun o : Int64 => wdM cI q MI MA)) 9 0 0 (kk el2_40 el4_40) (wdM cI q MI MA) [(2, .long el2_40)] 155 []) : ∀ (fuel : Nat) (l2_40 : Int64) (l4_40 : Int32), JR X (QF X (tyz cI cS) 0 0 (fun o : Int64 => some (.long o)) (fun o : Int64 => wdM cI q MI MA)) 9 0 0 (lp_X5_costNow_40 kk MI MA a1 fuel l2_40 l4_40) (wdM cI q MI MA) [(0, .ref (q 0)), (1, .int a1), (2, .long l2_40), (4, .int l4_40)] 40 [] := by
  intro fuel
  induction fuel with
  | zero => intro l2_40 l4_40; exact r_none
  | succ fu_40 ih_40 =>
    intro l2_40 l4_40
    unfold lp_X5_costNow_40
    refine r_iload (pc := 40) C 3 dX5_costNow_40 rfl ?_
    refine r_aload_n (pc := 42) C 0 dX5_costNow_42 rfl rfl ?_
    refine gf_X5_95 (pc := 43) C 0 rfl rfl dX5_costNow_43 ?_
    refine r_icmp_ge (pc := 46) (tgt := 155) C dX5_costNow_46 (by decide) ?_ ?_
    · exact r_sub [2] rfl (hk_40 l2_40 l4_40)
    · refine r_lconst (pc := 49) (v := 1) C dX5_costNow_49 rfl ?_
      refine r_lstore (pc := 50) C dX5_costNow_50 (by decide) (lv' := [(5, .long (1 : Int64)), (0, .ref (q 0)), (1, .int a1), (2, .long l2_40), (4, .int l4_40)]) rfl ?_
      refine r_iconst (pc := 52) C dX5_costNow_52 (ci_0) ?_
      refine r_istore (pc := 53) C dX5_costNow_53 (by decide) (lv' := [(7, .int (0 : Int32)), (5, .long (1 : Int64)), (0, .ref (q 0)), (1, .int a1), (2, .long l2_40), (4, .int l4_40)]) rfl ?_
      refine r_sub [2, 3, 4, 5, 1, 0] rfl (wl_X5_costNow_55 X C q MI MA a1 l4_40  _ (fun el2_55 el5_55 el7_55 => ?_) 1000 l2_40 (1 : Int64) (0 : Int32))
      refine r_iinc (pc := 149) C 3 dX5_costNow_149 rfl (ci_1) (by decide) (lv' := [(4, .int (l4_40 + (1 : Int32))), (0, .ref (q 0)), (1, .int a1), (2, .long el2_55)]) rfl ?_
      refine r_goto (pc := 152) (tgt := 40) C dX5_costNow_152 (by decide) ?_
      exact r_sub [1, 2, 3, 0] rfl (ih_40 el2_55 (l4_40 + (1 : Int32)))
set_option maxHeartbeats 4000000 in
set_option maxRecDepth 100000 in
theorem wl_X5_costNow_5 {cI cS : ClassId} (X : CX) (C : Cx X RX5 cX5_costNow 9 (some .long) (rmz 4 90) (tyz cI cS)) (q : Nat → Nat) (MI : Nat → Int32) (MA : Nat → Nat → Int32) (a1 : Int32)  (kk : Int64 → Int32 → Option (Int64)) (hk_5 : ∀ (el2_5 : Int64) (el4_5 : Int32), JR X (QF X (tyz cI cS) 0 0 (fun o : Int64 => some (.long o)) (fun o : Int64 => wdM cI q MI MA)) 9 0 0 (kk el2_5 el4_5) (wdM cI q MI MA) [(0, .ref (q 0)), (1, .int a1), (2, .long el2_5)] 37 []) : ∀ (fuel : Nat) (l2_5 : Int64) (l4_5 : Int32), JR X (QF X (tyz cI cS) 0 0 (fun o : Int64 => some (.long o)) (fun o : Int64 => wdM cI q MI MA)) 9 0 0 (lp_X5_costNow_5 kk MI MA a1 fuel l2_5 l4_5) (wdM cI q MI MA) [(0, .ref (q 0)), (1, .int a1), (2, .long l2_5), (4, .int l4_5)] 5 [] := by
  intro fuel
  induction fuel with
  | zero => intro l2_5 l4_5; exact r_none
  | succ fu_5 ih_5 =>
    intro l2_5 l4_5
    unfold lp_X5_costNow_5
    refine r_iload (pc := 5) C 3 dX5_costNow_5 rfl ?_
    refine r_iload_n (pc := 7) C 1 dX5_costNow_7 rfl rfl ?_
    refine r_icmp_ge (pc := 8) (tgt := 37) C dX5_costNow_8 (by decide) ?_ ?_
    · exact r_sub [0, 1, 2] rfl (hk_5 l2_5 l4_5)
    · refine r_lload_n (pc := 11) C 2 dX5_costNow_11 rfl rfl ?_
      refine r_aload_n (pc := 12) C 0 dX5_costNow_12 rfl rfl ?_
      refine r_aload_n (pc := 13) C 0 dX5_costNow_13 rfl rfl ?_
      refine gf_X5_46 (pc := 14) C 0 rfl rfl dX5_costNow_14 ?_
      refine r_iload (pc := 17) C 3 dX5_costNow_17 rfl ?_
      refine r_iald (pc := 19) C 13 rfl dX5_costNow_19 ?_
      refine r_callV0 (pc := 20) (rest := [.long l2_5]) C (m_X5_dutyAt (xl X) (xD X) cI cS q MI MA (MA 23 l4_5.toNatClampNeg)) mv_X5_190 rfl rfl rfl ⟨Nat.zero_le _, Nat.zero_le _⟩ rfl rfl (Nat.le_of_ble_eq_true rfl) dX5_costNow_20 (fun r20 => ?_)
      refine r_i2l (pc := 23) C dX5_costNow_23 ?_
      refine r_iload_n (pc := 24) C 1 dX5_costNow_24 rfl rfl ?_
      refine r_callSr (pc := 25) (rest := [.long r20.toInt64, .long l2_5]) C (m_X5_tens (xl X) (xD X) cI cS a1) ms_X5_196 rfl ⟨Nat.zero_le _, Nat.zero_le _⟩ rfl rfl (Nat.le_of_ble_eq_true rfl) dX5_costNow_25 (fun r25 => ?_)
      refine r_lmul (pc := 28) C dX5_costNow_28 ?_
      refine r_ladd (pc := 29) C dX5_costNow_29 ?_
      refine r_lstore_n (pc := 30) C dX5_costNow_30 rfl (by decide) (lv' := [(2, .long (l2_5 + (r20.toInt64 * r25))), (0, .ref (q 0)), (1, .int a1), (4, .int l4_5)]) rfl ?_
      refine r_iinc (pc := 31) C 3 dX5_costNow_31 rfl (ci_1) (by decide) (lv' := [(4, .int (l4_5 + (1 : Int32))), (2, .long (l2_5 + (r20.toInt64 * r25))), (0, .ref (q 0)), (1, .int a1)]) rfl ?_
      refine r_goto (pc := 34) (tgt := 5) C dX5_costNow_34 (by decide) ?_
      exact r_sub [2, 3, 1, 0] rfl (ih_5 (l2_5 + (r20.toInt64 * r25)) (l4_5 + (1 : Int32)))
set_option maxHeartbeats 4000000 in
set_option maxRecDepth 100000 in
theorem m_X5_costNow (l : Launch) (D : va_G) (cI cS : ClassId) (q : Nat → Nat) (MI : Nat → Int32) (MA : Nat → Nat → Int32) (a1 : Int32) : MX l D (tyz cI cS) yX5_costNow cX5_costNow 9 (some .long) (rmz 4 90) [.ref (q 0), .int a1] (wdM cI q MI MA) (f_X5_costNow MI MA a1) (fun o : Int64 => some (.long o)) (fun o : Int64 => wdM cI q MI MA) := met_of (own := RX5) (by decide) rfl (Nat.le_of_ble_eq_true rfl) (fun X hxl hxD C => by
  subst hxl
  subst hxD
  show JR X _ _ 0 0 (f_X5_costNow MI MA a1) (wdM cI q MI MA) [(0, .ref (q 0)), (1, .int a1)] 0 []
  unfold f_X5_costNow
  refine r_lconst (pc := 0) (v := 0) C dX5_costNow_0 rfl ?_
  refine r_lstore_n (pc := 1) C dX5_costNow_1 rfl (by decide) (lv' := [(2, .long (0 : Int64)), (0, .ref (q 0)), (1, .int a1)]) rfl ?_
  refine r_iconst (pc := 2) C dX5_costNow_2 (ci_0) ?_
  refine r_istore (pc := 3) C dX5_costNow_3 (by decide) (lv' := [(4, .int (0 : Int32)), (2, .long (0 : Int64)), (0, .ref (q 0)), (1, .int a1)]) rfl ?_
  refine r_sub [2, 3, 1, 0] rfl (wl_X5_costNow_5 X C q MI MA a1  _ (fun el2_5 el4_5 => ?_) 1000 (0 : Int64) (0 : Int32))
  refine r_iconst (pc := 37) C dX5_costNow_37 (ci_0) ?_
  refine r_istore (pc := 38) C dX5_costNow_38 (by decide) (lv' := [(4, .int (0 : Int32)), (0, .ref (q 0)), (1, .int a1), (2, .long el2_5)]) rfl ?_
  refine r_sub [1, 2, 3, 0] rfl (wl_X5_costNow_40 X C q MI MA a1  _ (fun el2_40 el4_40 => ?_) 1000 el2_5 (0 : Int32))
  refine r_lload_n (pc := 155) C 0 dX5_costNow_155 rfl rfl ?_
  exact r_lret (pc := 156) C rfl rfl dX5_costNow_156)
set_option maxHeartbeats 4000000 in
set_option maxRecDepth 100000 in
theorem wl_X5_wayBarred_23 {cI cS : ClassId} (X : CX) (C : Cx X RX5 cX5_wayBarred 7 (some .int) (rmz 2 48) (tyz cI cS)) (q : Nat → Nat) (a1 : Int32) (a3 : Int32) (a4 : Int32) (r7 : Int32 × (Nat → Int32))  (kk : Int32 → (Nat → Nat → Int32) → Option (Int32 × (Nat → Int32) × (Nat → Nat → Int32))) (hk_23 : ∀ (el6_23 : Int32) (eMA_23 : Nat → Nat → Int32), JR X (QF X (tyz cI cS) 0 0 (fun o : Int32 × (Nat → Int32) × (Nat → Nat → Int32) => some (.int o.1)) (fun o : Int32 × (Nat → Int32) × (Nat → Nat → Int32) => wdM cI q o.2.1 o.2.2)) 7 0 0 (kk el6_23 eMA_23) (wdM cI q r7.2 eMA_23) [(0, .ref (q 0))] 77 []) : ∀ (fuel : Nat) (l6_23 : Int32) (MA_23 : Nat → Nat → Int32), JR X (QF X (tyz cI cS) 0 0 (fun o : Int32 × (Nat → Int32) × (Nat → Nat → Int32) => some (.int o.1)) (fun o : Int32 × (Nat → Int32) × (Nat → Nat → Int32) => wdM cI q o.2.1 o.2.2)) 7 0 0 (lp_X5_wayBarred_23 kk a1 a3 a4 r7 fuel l6_23 MA_23) (wdM cI q r7.2 MA_23) [(0, .ref (q 0)), (1, .int a1), (3, .int a3), (4, .int a4), (6, .int l6_23)] 23 [] := by
  intro fuel
  induction fuel with
  | zero => intro l6_23 MA_23; exact r_none
  | succ fu_23 ih_23 =>
    intro l6_23 MA_23
    unfold lp_X5_wayBarred_23
    refine r_iload (pc := 23) C 4 dX5_wayBarred_23 rfl ?_
    refine r_iload (pc := 25) C 3 dX5_wayBarred_25 rfl ?_
    refine r_icmp_ge (pc := 27) (tgt := 77) C dX5_wayBarred_27 (by decide) ?_ ?_
    · exact r_sub [0] rfl (hk_23 l6_23 MA_23)
    · refine r_aload_n (pc := 30) C 0 dX5_wayBarred_30 rfl rfl ?_
      refine gf_X5_46 (pc := 31) C 0 rfl rfl dX5_wayBarred_31 ?_
      refine r_iload (pc := 34) C 4 dX5_wayBarred_34 rfl ?_
      refine r_aload_n (pc := 36) C 0 dX5_wayBarred_36 rfl rfl ?_
      refine gf_X5_67 (pc := 37) C 0 rfl rfl dX5_wayBarred_37 ?_
      refine r_bipush (pc := 40) C dX5_wayBarred_40 (cb_60) ?_
      refine r_iload_n (pc := 42) C 1 dX5_wayBarred_42 rfl rfl ?_
      refine r_imul (pc := 43) C dX5_wayBarred_43 ?_
      refine r_iload_n (pc := 44) C 2 dX5_wayBarred_44 rfl rfl ?_
      refine r_iadd (pc := 45) C dX5_wayBarred_45 ?_
      refine r_iload (pc := 46) C 4 dX5_wayBarred_46 rfl ?_
      refine r_iadd (pc := 48) C dX5_wayBarred_48 ?_
      refine r_iald (pc := 49) C 20 rfl dX5_wayBarred_49 ?_
      refine r_iast (pc := 50) (ws' := wdM cI q r7.2 (va_up MA_23 23 (upd (MA_23 23) l6_23.toNatClampNeg (MA_23 31 ((((60 : Int32) * a1) + a3) + l6_23).toNatClampNeg)))) C 13 rfl dX5_wayBarred_50 rfl ?_
      refine r_aload_n (pc := 51) C 0 dX5_wayBarred_51 rfl rfl ?_
      refine r_aload_n (pc := 52) C 0 dX5_wayBarred_52 rfl rfl ?_
      refine gf_X5_46 (pc := 53) C 0 rfl rfl dX5_wayBarred_53 ?_
      refine r_iload (pc := 56) C 4 dX5_wayBarred_56 rfl ?_
      refine r_iald (pc := 58) C 13 rfl dX5_wayBarred_58 ?_
      refine r_callV0 (pc := 59) (rest := []) C (m_X5_noPost (xl X) (xD X) cI cS q r7.2 (va_up MA_23 23 (upd (MA_23 23) l6_23.toNatClampNeg (MA_23 31 ((((60 : Int32) * a1) + a3) + l6_23).toNatClampNeg))) ((va_up MA_23 23 (upd (MA_23 23) l6_23.toNatClampNeg (MA_23 31 ((((60 : Int32) * a1) + a3) + l6_23).toNatClampNeg))) 23 l6_23.toNatClampNeg)) mv_X5_170 rfl rfl rfl ⟨Nat.zero_le _, Nat.zero_le _⟩ rfl rfl (Nat.le_of_ble_eq_true rfl) dX5_wayBarred_59 (fun r59 => ?_)
      refine r_if_eq (pc := 62) (tgt := 71) C dX5_wayBarred_62 (by decide) ?_ ?_
      · refine r_iinc (pc := 71) C 4 dX5_wayBarred_71 rfl (ci_1) (by decide) (lv' := [(6, .int (l6_23 + (1 : Int32))), (0, .ref (q 0)), (1, .int a1), (3, .int a3), (4, .int a4)]) rfl ?_
        refine r_goto (pc := 74) (tgt := 23) C dX5_wayBarred_74 (by decide) ?_
        exact r_sub [1, 2, 3, 4, 0] rfl (ih_23 (l6_23 + (1 : Int32)) (va_up MA_23 23 (upd (MA_23 23) l6_23.toNatClampNeg (MA_23 31 ((((60 : Int32) * a1) + a3) + l6_23).toNatClampNeg))))
      · refine r_aload_n (pc := 65) C 0 dX5_wayBarred_65 rfl rfl ?_
        refine r_iconst (pc := 66) C dX5_wayBarred_66 (ci_m1) ?_
        refine r_callV0 (pc := 67) (rest := []) C (m_X5_refused (xl X) (xD X) cI cS q r7.2 (va_up MA_23 23 (upd (MA_23 23) l6_23.toNatClampNeg (MA_23 31 ((((60 : Int32) * a1) + a3) + l6_23).toNatClampNeg))) (-1 : Int32)) mv_X5_141 rfl rfl rfl ⟨Nat.zero_le _, Nat.zero_le _⟩ rfl rfl (Nat.le_of_ble_eq_true rfl) dX5_wayBarred_67 (fun r67 => ?_)
        exact r_iret (pc := 70) C rfl rfl dX5_wayBarred_70
set_option maxHeartbeats 4000000 in
set_option maxRecDepth 100000 in
theorem m_X5_wayBarred (l : Launch) (D : va_G) (cI cS : ClassId) (q : Nat → Nat) (MI : Nat → Int32) (MA : Nat → Nat → Int32) (a1 : Int32) (a2 : Int32) (a3 : Int32) (a4 : Int32) : MX l D (tyz cI cS) yX5_wayBarred cX5_wayBarred 7 (some .int) (rmz 2 48) [.ref (q 0), .int a1, .int a2, .int a3, .int a4] (wdM cI q MI MA) (f_X5_wayBarred MI MA a1 a2 a3 a4) (fun o : Int32 × (Nat → Int32) × (Nat → Nat → Int32) => some (.int o.1)) (fun o : Int32 × (Nat → Int32) × (Nat → Nat → Int32) => wdM cI q o.2.1 o.2.2) := met_of (own := RX5) (by decide) rfl (Nat.le_of_ble_eq_true rfl) (fun X hxl hxD C => by
  subst hxl
  subst hxD
  show JR X _ _ 0 0 (f_X5_wayBarred MI MA a1 a2 a3 a4) (wdM cI q MI MA) [(0, .ref (q 0)), (1, .int a1), (2, .int a2), (3, .int a3), (4, .int a4)] 0 []
  unfold f_X5_wayBarred
  refine r_aload_n (pc := 0) C 0 dX5_wayBarred_0 rfl rfl ?_
  refine r_iload_n (pc := 1) C 1 dX5_wayBarred_1 rfl rfl ?_
  refine r_iload_n (pc := 2) C 2 dX5_wayBarred_2 rfl rfl ?_
  refine r_iload_n (pc := 3) C 3 dX5_wayBarred_3 rfl rfl ?_
  refine r_iload (pc := 4) C 4 dX5_wayBarred_4 rfl ?_
  refine r_i2l (pc := 6) C dX5_wayBarred_6 ?_
  refine r_callV0 (pc := 7) (rest := []) C (m_X5_cellsBarred (xl X) (xD X) cI cS q MI MA a1 a2 a3 a4.toInt64) mv_X5_144 rfl rfl rfl ⟨Nat.zero_le _, Nat.zero_le _⟩ rfl rfl (Nat.le_of_ble_eq_true rfl) dX5_wayBarred_7 (fun r7 => ?_)
  refine r_istore (pc := 10) C dX5_wayBarred_10 (by decide) (lv' := [(5, .int r7.1), (0, .ref (q 0)), (1, .int a1), (2, .int a2), (3, .int a3), (4, .int a4)]) rfl ?_
  refine r_iload (pc := 12) C 0 dX5_wayBarred_12 rfl ?_
  refine r_if_ge (pc := 14) (tgt := 20) C dX5_wayBarred_14 (by decide) ?_ ?_
  · refine r_iconst (pc := 20) C dX5_wayBarred_20 (ci_0) ?_
    refine r_istore (pc := 21) C dX5_wayBarred_21 (by decide) (lv' := [(6, .int (0 : Int32)), (5, .int r7.1), (0, .ref (q 0)), (1, .int a1), (2, .int a2), (3, .int a3), (4, .int a4)]) rfl ?_
    refine r_sub [2, 3, 5, 6, 0] rfl (wl_X5_wayBarred_23 X C q a1 a3 a4 r7  _ (fun el6_23 eMA_23 => ?_) 1000 (0 : Int32) MA)
    refine r_aload_n (pc := 77) C 0 dX5_wayBarred_77 rfl rfl ?_
    refine r_iconst (pc := 78) C dX5_wayBarred_78 (ci_0) ?_
    refine r_callV0 (pc := 79) (rest := []) C (m_X5_refused (xl X) (xD X) cI cS q r7.2 eMA_23 (0 : Int32)) mv_X5_141 rfl rfl rfl ⟨Nat.zero_le _, Nat.zero_le _⟩ rfl rfl (Nat.le_of_ble_eq_true rfl) dX5_wayBarred_79 (fun r79 => ?_)
    exact r_iret (pc := 82) C rfl rfl dX5_wayBarred_82
  · refine r_iload (pc := 17) C 0 dX5_wayBarred_17 rfl ?_
    exact r_iret (pc := 19) C rfl rfl dX5_wayBarred_19)
set_option maxHeartbeats 4000000 in
set_option maxRecDepth 100000 in
theorem m_X5_refusedLong (l : Launch) (D : va_G) (cI cS : ClassId) (q : Nat → Nat) (MI : Nat → Int32) (MA : Nat → Nat → Int32) : MX l D (tyz cI cS) yX5_refusedLong cX5_refusedLong 1 (some .long) (rmz 1 19) [.ref (q 0)] (wdM cI q MI MA) (f_X5_refusedLong MI) (fun o : Int64 × (Nat → Int32) => some (.long o.1)) (fun o : Int64 × (Nat → Int32) => wdM cI q o.2 MA) := met_of (own := RX5) (by decide) rfl (Nat.le_of_ble_eq_true rfl) (fun X hxl hxD C => by
  subst hxl
  subst hxD
  show JR X _ _ 0 0 (f_X5_refusedLong MI) (wdM cI q MI MA) [(0, .ref (q 0))] 0 []
  unfold f_X5_refusedLong
  refine r_aload_n (pc := 0) C 0 dX5_refusedLong_0 rfl rfl ?_
  refine r_iconst (pc := 1) C dX5_refusedLong_1 (ci_0) ?_
  refine pf_X5_81 (pc := 2) (ws' := wdM cI q (upd MI 0 (0 : Int32)) MA) C 0 rfl rfl dX5_refusedLong_2 rfl ?_
  refine r_callSr (pc := 5) (rest := []) C (m_X5_lost (xl X) (xD X) cI cS) ms_X5_84 rfl ⟨Nat.zero_le _, Nat.zero_le _⟩ rfl rfl (Nat.le_of_ble_eq_true rfl) dX5_refusedLong_5 (fun r5 => ?_)
  exact r_lret (pc := 8) C rfl rfl dX5_refusedLong_8)
set_option maxHeartbeats 4000000 in
set_option maxRecDepth 100000 in
theorem m_X5_cost (l : Launch) (D : va_G) (cI cS : ClassId) (q : Nat → Nat) (MI : Nat → Int32) (MA : Nat → Nat → Int32) (a1 : Int32) (a2 : Int32) (a3 : Int32) (a4 : Int32) (a5 : Int32) : MX l D (tyz cI cS) yX5_cost cX5_cost 6 (some .long) (rmz 5 118) [.ref (q 0), .int a1, .int a2, .int a3, .int a4, .int a5] (wdM cI q MI MA) (f_X5_cost MI MA a1 a2 a3 a4 a5) (fun o : Int64 × (Nat → Int32) × (Nat → Nat → Int32) => some (.long o.1)) (fun o : Int64 × (Nat → Int32) × (Nat → Nat → Int32) => wdM cI q o.2.1 o.2.2) := met_of (own := RX5) (by decide) rfl (Nat.le_of_ble_eq_true rfl) (fun X hxl hxD C => by
  subst hxl
  subst hxD
  show JR X _ _ 0 0 (f_X5_cost MI MA a1 a2 a3 a4 a5) (wdM cI q MI MA) [(0, .ref (q 0)), (1, .int a1), (2, .int a2), (3, .int a3), (4, .int a4), (5, .int a5)] 0 []
  unfold f_X5_cost
  refine r_iload_n (pc := 0) C 1 dX5_cost_0 rfl rfl ?_
  refine r_callSr (pc := 1) (rest := []) C (m_X5_noSheet (xl X) (xD X) cI cS a1) ms_X5_137 rfl ⟨Nat.zero_le _, Nat.zero_le _⟩ rfl rfl (Nat.le_of_ble_eq_true rfl) dX5_cost_1 (fun r1 => ?_)
  refine r_if_ne (pc := 4) (tgt := 50) C dX5_cost_4 (by decide) ?_ ?_
  · refine r_aload_n (pc := 50) C 0 dX5_cost_50 rfl rfl ?_
    refine r_callV0 (pc := 51) (rest := []) C (m_X5_refusedLong (xl X) (xD X) cI cS q MI MA) mv_X5_206 rfl rfl rfl ⟨Nat.zero_le _, Nat.zero_le _⟩ rfl rfl (Nat.le_of_ble_eq_true rfl) dX5_cost_51 (fun r51 => ?_)
    exact r_lret (pc := 54) C rfl rfl dX5_cost_54
  · refine r_iload_n (pc := 7) C 2 dX5_cost_7 rfl rfl ?_
    refine r_i2l (pc := 8) C dX5_cost_8 ?_
    refine r_lconst (pc := 9) (v := 0) C dX5_cost_9 rfl ?_
    refine r_ldc2 (pc := 10) C kk_X5_98 dX5_cost_10 ?_
    refine r_callSr (pc := 13) (rest := []) C (m_X5_in (xl X) (xD X) cI cS a2.toInt64 (0 : Int64) (2 : Int64)) ms_X5_91 rfl ⟨Nat.zero_le _, Nat.zero_le _⟩ rfl rfl (Nat.le_of_ble_eq_true rfl) dX5_cost_13 (fun r13 => ?_)
    refine r_if_eq (pc := 16) (tgt := 50) C dX5_cost_16 (by decide) ?_ ?_
    · refine r_aload_n (pc := 50) C 0 dX5_cost_50 rfl rfl ?_
      refine r_callV0 (pc := 51) (rest := []) C (m_X5_refusedLong (xl X) (xD X) cI cS q MI MA) mv_X5_206 rfl rfl rfl ⟨Nat.zero_le _, Nat.zero_le _⟩ rfl rfl (Nat.le_of_ble_eq_true rfl) dX5_cost_51 (fun r51 => ?_)
      exact r_lret (pc := 54) C rfl rfl dX5_cost_54
    · refine r_iload (pc := 19) C 4 dX5_cost_19 rfl ?_
      refine r_i2l (pc := 21) C dX5_cost_21 ?_
      refine r_lconst (pc := 22) (v := 0) C dX5_cost_22 rfl ?_
      refine r_ldc2 (pc := 23) C kk_X5_204 dX5_cost_23 ?_
      refine r_callSr (pc := 26) (rest := []) C (m_X5_in (xl X) (xD X) cI cS a4.toInt64 (0 : Int64) (8 : Int64)) ms_X5_91 rfl ⟨Nat.zero_le _, Nat.zero_le _⟩ rfl rfl (Nat.le_of_ble_eq_true rfl) dX5_cost_26 (fun r26 => ?_)
      refine r_if_eq (pc := 29) (tgt := 50) C dX5_cost_29 (by decide) ?_ ?_
      · refine r_aload_n (pc := 50) C 0 dX5_cost_50 rfl rfl ?_
        refine r_callV0 (pc := 51) (rest := []) C (m_X5_refusedLong (xl X) (xD X) cI cS q MI MA) mv_X5_206 rfl rfl rfl ⟨Nat.zero_le _, Nat.zero_le _⟩ rfl rfl (Nat.le_of_ble_eq_true rfl) dX5_cost_51 (fun r51 => ?_)
        exact r_lret (pc := 54) C rfl rfl dX5_cost_54
      · refine r_iload (pc := 32) C 5 dX5_cost_32 rfl ?_
        refine r_i2l (pc := 34) C dX5_cost_34 ?_
        refine r_lconst (pc := 35) (v := 0) C dX5_cost_35 rfl ?_
        refine r_lconst (pc := 36) (v := 1) C dX5_cost_36 rfl ?_
        refine r_callSr (pc := 37) (rest := []) C (m_X5_in (xl X) (xD X) cI cS a5.toInt64 (0 : Int64) (1 : Int64)) ms_X5_91 rfl ⟨Nat.zero_le _, Nat.zero_le _⟩ rfl rfl (Nat.le_of_ble_eq_true rfl) dX5_cost_37 (fun r37 => ?_)
        refine r_if_eq (pc := 40) (tgt := 50) C dX5_cost_40 (by decide) ?_ ?_
        · refine r_aload_n (pc := 50) C 0 dX5_cost_50 rfl rfl ?_
          refine r_callV0 (pc := 51) (rest := []) C (m_X5_refusedLong (xl X) (xD X) cI cS q MI MA) mv_X5_206 rfl rfl rfl ⟨Nat.zero_le _, Nat.zero_le _⟩ rfl rfl (Nat.le_of_ble_eq_true rfl) dX5_cost_51 (fun r51 => ?_)
          exact r_lret (pc := 54) C rfl rfl dX5_cost_54
        · refine r_aload_n (pc := 43) C 0 dX5_cost_43 rfl rfl ?_
          refine gf_X5_95 (pc := 44) C 0 rfl rfl dX5_cost_44 ?_
          refine r_if_ne (pc := 47) (tgt := 55) C dX5_cost_47 (by decide) ?_ ?_
          · refine r_aload_n (pc := 55) C 0 dX5_cost_55 rfl rfl ?_
            refine r_iload_n (pc := 56) C 1 dX5_cost_56 rfl rfl ?_
            refine r_iload_n (pc := 57) C 2 dX5_cost_57 rfl rfl ?_
            refine r_iload_n (pc := 58) C 3 dX5_cost_58 rfl rfl ?_
            refine r_iload (pc := 59) C 4 dX5_cost_59 rfl ?_
            refine r_callV0 (pc := 61) (rest := []) C (m_X5_wayBarred (xl X) (xD X) cI cS q MI MA a1 a2 a3 a4) mv_X5_209 rfl rfl rfl ⟨Nat.zero_le _, Nat.zero_le _⟩ rfl rfl (Nat.le_of_ble_eq_true rfl) dX5_cost_61 (fun r61 => ?_)
            refine r_if_ge (pc := 64) (tgt := 73) C dX5_cost_64 (by decide) ?_ ?_
            · refine r_aload_n (pc := 73) C 0 dX5_cost_73 rfl rfl ?_
              refine r_iload (pc := 74) C 4 dX5_cost_74 rfl ?_
              refine r_callV0 (pc := 76) (rest := []) C (m_X5_costNow (xl X) (xD X) cI cS q r61.2.1 r61.2.2 a4) mv_X5_213 rfl rfl rfl ⟨Nat.zero_le _, Nat.zero_le _⟩ rfl rfl (Nat.le_of_ble_eq_true rfl) dX5_cost_76 (fun r76 => ?_)
              refine r_iload (pc := 79) C 4 dX5_cost_79 rfl ?_
              refine r_callSr (pc := 81) (rest := [.long r76]) C (m_X5_tens (xl X) (xD X) cI cS a4) ms_X5_196 rfl ⟨Nat.zero_le _, Nat.zero_le _⟩ rfl rfl (Nat.le_of_ble_eq_true rfl) dX5_cost_81 (fun r81 => ?_)
              refine r_iload (pc := 84) C 5 dX5_cost_84 rfl ?_
              refine r_callSr (pc := 86) (rest := []) C (m_X5_told (xl X) (xD X) cI cS r76 r81 a5) ms_X5_200 rfl ⟨Nat.zero_le _, Nat.zero_le _⟩ rfl rfl (Nat.le_of_ble_eq_true rfl) dX5_cost_86 (fun r86 => ?_)
              exact r_lret (pc := 89) C rfl rfl dX5_cost_89
            · refine r_callSr (pc := 67) (rest := []) C (m_X5_lost (xl X) (xD X) cI cS) ms_X5_84 rfl ⟨Nat.zero_le _, Nat.zero_le _⟩ rfl rfl (Nat.le_of_ble_eq_true rfl) dX5_cost_67 (fun r67 => ?_)
              refine r_goto (pc := 70) (tgt := 89) C dX5_cost_70 (by decide) ?_
              exact r_lret (pc := 89) C rfl rfl dX5_cost_89
          · refine r_aload_n (pc := 50) C 0 dX5_cost_50 rfl rfl ?_
            refine r_callV0 (pc := 51) (rest := []) C (m_X5_refusedLong (xl X) (xD X) cI cS q MI MA) mv_X5_206 rfl rfl rfl ⟨Nat.zero_le _, Nat.zero_le _⟩ rfl rfl (Nat.le_of_ble_eq_true rfl) dX5_cost_51 (fun r51 => ?_)
            exact r_lret (pc := 54) C rfl rfl dX5_cost_54)
set_option maxHeartbeats 4000000 in
set_option maxRecDepth 100000 in
theorem wl_X5_say_94 {cI cS : ClassId} (X : CX) (C : Cx X RX5 cX5_say 13 (some .int) (rmz 5 118) (tyz cI cS)) (q : Nat → Nat) (a4 : Int32) (r65 : Int32 × (Nat → Int32) × (Nat → Nat → Int32))  (kk : Int32 → Int64 → Int32 → (Nat → Int32) → Option (Int32 × (Nat → Int32) × (Nat → Nat → Int32))) (hk_94 : ∀ (el7_94 : Int32) (el8_94 : Int64) (el10_94 : Int32) (eMI_94 : Nat → Int32), JR X (QF X (tyz cI cS) 0 0 (fun o : Int32 × (Nat → Int32) × (Nat → Nat → Int32) => some (.int o.1)) (fun o : Int32 × (Nat → Int32) × (Nat → Nat → Int32) => wdM cI q o.2.1 o.2.2)) 13 0 0 (kk el7_94 el8_94 el10_94 eMI_94) (wdM cI q eMI_94 r65.2.2) [(0, .ref (q 0)), (6, .int (r65.2.1 10)), (7, .int el7_94)] 144 []) : ∀ (fuel : Nat) (l7_94 : Int32) (l8_94 : Int64) (l10_94 : Int32) (MI_94 : Nat → Int32), JR X (QF X (tyz cI cS) 0 0 (fun o : Int32 × (Nat → Int32) × (Nat → Nat → Int32) => some (.int o.1)) (fun o : Int32 × (Nat → Int32) × (Nat → Nat → Int32) => wdM cI q o.2.1 o.2.2)) 13 0 0 (lp_X5_say_94 kk a4 r65 fuel l7_94 l8_94 l10_94 MI_94) (wdM cI q MI_94 r65.2.2) [(0, .ref (q 0)), (4, .int a4), (6, .int (r65.2.1 10)), (7, .int l7_94), (8, .long l8_94), (10, .int l10_94)] 94 [] := by
  intro fuel
  induction fuel with
  | zero => intro l7_94 l8_94 l10_94 MI_94; exact r_none
  | succ fu_94 ih_94 =>
    intro l7_94 l8_94 l10_94 MI_94
    unfold lp_X5_say_94
    refine r_iload (pc := 94) C 5 dX5_say_94 rfl ?_
    refine r_aload_n (pc := 96) C 0 dX5_say_96 rfl rfl ?_
    refine r_callV0 (pc := 97) (rest := [.int l10_94]) C (m_X5_all (xl X) (xD X) cI cS q MI_94 r65.2.2) mv_X5_154 rfl rfl rfl ⟨Nat.zero_le _, Nat.zero_le _⟩ rfl rfl (Nat.le_of_ble_eq_true rfl) dX5_say_97 (fun r97 => ?_)
    refine r_icmp_gt (pc := 100) (tgt := 144) C dX5_say_100 (by decide) ?_ ?_
    · exact r_sub [0, 2, 3] rfl (hk_94 l7_94 l8_94 l10_94 MI_94)
    · refine r_aload_n (pc := 103) C 0 dX5_say_103 rfl rfl ?_
      refine r_iload (pc := 104) C 5 dX5_say_104 rfl ?_
      refine pf_X5_158 (pc := 106) (ws' := wdM cI q (upd MI_94 10 l10_94) r65.2.2) C 0 rfl rfl dX5_say_106 rfl ?_
      refine r_aload_n (pc := 109) C 0 dX5_say_109 rfl rfl ?_
      refine r_iload (pc := 110) C 1 dX5_say_110 rfl ?_
      refine r_callV0 (pc := 112) (rest := []) C (m_X5_costNow (xl X) (xD X) cI cS q (upd MI_94 10 l10_94) r65.2.2 a4) mv_X5_213 rfl rfl rfl ⟨Nat.zero_le _, Nat.zero_le _⟩ rfl rfl (Nat.le_of_ble_eq_true rfl) dX5_say_112 (fun r112 => ?_)
      refine r_lstore (pc := 115) C dX5_say_115 (by decide) (lv' := [(11, .long r112), (0, .ref (q 0)), (4, .int a4), (6, .int (r65.2.1 10)), (7, .int l7_94), (8, .long l8_94), (10, .int l10_94)]) rfl ?_
      refine r_iload (pc := 117) C 4 dX5_say_117 rfl ?_
      refine r_if_lt (pc := 119) (tgt := 130) C dX5_say_119 (by decide) ?_ ?_
      · refine r_iload (pc := 130) C 6 dX5_say_130 rfl ?_
        refine r_istore (pc := 132) C dX5_say_132 (by decide) (lv' := [(7, .int l10_94), (11, .long r112), (0, .ref (q 0)), (4, .int a4), (6, .int (r65.2.1 10)), (8, .long l8_94), (10, .int l10_94)]) rfl ?_
        refine r_lload (pc := 134) C 1 dX5_say_134 rfl ?_
        refine r_lstore (pc := 136) C dX5_say_136 (by decide) (lv' := [(8, .long r112), (7, .int l10_94), (11, .long r112), (0, .ref (q 0)), (4, .int a4), (6, .int (r65.2.1 10)), (10, .int l10_94)]) rfl ?_
        refine r_iinc (pc := 138) C 6 dX5_say_138 rfl (ci_1) (by decide) (lv' := [(10, .int (l10_94 + (1 : Int32))), (8, .long r112), (7, .int l10_94), (11, .long r112), (0, .ref (q 0)), (4, .int a4), (6, .int (r65.2.1 10))]) rfl ?_
        refine r_goto (pc := 141) (tgt := 94) C dX5_say_141 (by decide) ?_
        exact r_sub [4, 5, 6, 2, 1, 0] rfl (ih_94 l10_94 r112 (l10_94 + (1 : Int32)) (upd MI_94 10 l10_94))
      · refine r_lload (pc := 122) C 0 dX5_say_122 rfl ?_
        refine r_lload (pc := 124) C 5 dX5_say_124 rfl ?_
        refine r_lcmp (pc := 126) C dX5_say_126 ?_
        refine r_if_ge (pc := 127) (tgt := 138) C dX5_say_127 (by decide) ?_ ?_
        · refine r_iinc (pc := 138) C 6 dX5_say_138 rfl (ci_1) (by decide) (lv' := [(10, .int (l10_94 + (1 : Int32))), (11, .long r112), (0, .ref (q 0)), (4, .int a4), (6, .int (r65.2.1 10)), (7, .int l7_94), (8, .long l8_94)]) rfl ?_
          refine r_goto (pc := 141) (tgt := 94) C dX5_say_141 (by decide) ?_
          exact r_sub [2, 3, 4, 5, 6, 0] rfl (ih_94 l7_94 l8_94 (l10_94 + (1 : Int32)) (upd MI_94 10 l10_94))
        · refine r_iload (pc := 130) C 6 dX5_say_130 rfl ?_
          refine r_istore (pc := 132) C dX5_say_132 (by decide) (lv' := [(7, .int l10_94), (11, .long r112), (0, .ref (q 0)), (4, .int a4), (6, .int (r65.2.1 10)), (8, .long l8_94), (10, .int l10_94)]) rfl ?_
          refine r_lload (pc := 134) C 1 dX5_say_134 rfl ?_
          refine r_lstore (pc := 136) C dX5_say_136 (by decide) (lv' := [(8, .long r112), (7, .int l10_94), (11, .long r112), (0, .ref (q 0)), (4, .int a4), (6, .int (r65.2.1 10)), (10, .int l10_94)]) rfl ?_
          refine r_iinc (pc := 138) C 6 dX5_say_138 rfl (ci_1) (by decide) (lv' := [(10, .int (l10_94 + (1 : Int32))), (8, .long r112), (7, .int l10_94), (11, .long r112), (0, .ref (q 0)), (4, .int a4), (6, .int (r65.2.1 10))]) rfl ?_
          refine r_goto (pc := 141) (tgt := 94) C dX5_say_141 (by decide) ?_
          exact r_sub [4, 5, 6, 2, 1, 0] rfl (ih_94 l10_94 r112 (l10_94 + (1 : Int32)) (upd MI_94 10 l10_94))
set_option maxHeartbeats 4000000 in
set_option maxRecDepth 100000 in
theorem m_X5_say (l : Launch) (D : va_G) (cI cS : ClassId) (q : Nat → Nat) (MI : Nat → Int32) (MA : Nat → Nat → Int32) (a1 : Int32) (a2 : Int32) (a3 : Int32) (a4 : Int32) : MX l D (tyz cI cS) yX5_say cX5_say 13 (some .int) (rmz 5 118) [.ref (q 0), .int a1, .int a2, .int a3, .int a4] (wdM cI q MI MA) (f_X5_say MI MA a1 a2 a3 a4) (fun o : Int32 × (Nat → Int32) × (Nat → Nat → Int32) => some (.int o.1)) (fun o : Int32 × (Nat → Int32) × (Nat → Nat → Int32) => wdM cI q o.2.1 o.2.2) := met_of (own := RX5) (by decide) rfl (Nat.le_of_ble_eq_true rfl) (fun X hxl hxD C => by
  subst hxl
  subst hxD
  show JR X _ _ 0 0 (f_X5_say MI MA a1 a2 a3 a4) (wdM cI q MI MA) [(0, .ref (q 0)), (1, .int a1), (2, .int a2), (3, .int a3), (4, .int a4)] 0 []
  unfold f_X5_say
  refine r_iload_n (pc := 0) C 1 dX5_say_0 rfl rfl ?_
  refine r_callSr (pc := 1) (rest := []) C (m_X5_noSheet (xl X) (xD X) cI cS a1) ms_X5_137 rfl ⟨Nat.zero_le _, Nat.zero_le _⟩ rfl rfl (Nat.le_of_ble_eq_true rfl) dX5_say_1 (fun r1 => ?_)
  refine r_if_eq (pc := 4) (tgt := 13) C dX5_say_4 (by decide) ?_ ?_
  · refine r_iload_n (pc := 13) C 2 dX5_say_13 rfl rfl ?_
    refine r_i2l (pc := 14) C dX5_say_14 ?_
    refine r_lconst (pc := 15) (v := 0) C dX5_say_15 rfl ?_
    refine r_ldc2 (pc := 16) C kk_X5_98 dX5_say_16 ?_
    refine r_callSr (pc := 19) (rest := []) C (m_X5_in (xl X) (xD X) cI cS a2.toInt64 (0 : Int64) (2 : Int64)) ms_X5_91 rfl ⟨Nat.zero_le _, Nat.zero_le _⟩ rfl rfl (Nat.le_of_ble_eq_true rfl) dX5_say_19 (fun r19 => ?_)
    refine r_if_eq (pc := 22) (tgt := 38) C dX5_say_22 (by decide) ?_ ?_
    · refine r_aload_n (pc := 38) C 0 dX5_say_38 rfl rfl ?_
      refine r_bipush (pc := 39) C dX5_say_39 (cb_m2) ?_
      refine r_callV0 (pc := 41) (rest := []) C (m_X5_refused (xl X) (xD X) cI cS q MI MA (-2 : Int32)) mv_X5_141 rfl rfl rfl ⟨Nat.zero_le _, Nat.zero_le _⟩ rfl rfl (Nat.le_of_ble_eq_true rfl) dX5_say_41 (fun r41 => ?_)
      exact r_iret (pc := 44) C rfl rfl dX5_say_44
    · refine r_iload (pc := 25) C 4 dX5_say_25 rfl ?_
      refine r_i2l (pc := 27) C dX5_say_27 ?_
      refine r_lconst (pc := 28) (v := 0) C dX5_say_28 rfl ?_
      refine r_ldc2 (pc := 29) C kk_X5_204 dX5_say_29 ?_
      refine r_callSr (pc := 32) (rest := []) C (m_X5_in (xl X) (xD X) cI cS a4.toInt64 (0 : Int64) (8 : Int64)) ms_X5_91 rfl ⟨Nat.zero_le _, Nat.zero_le _⟩ rfl rfl (Nat.le_of_ble_eq_true rfl) dX5_say_32 (fun r32 => ?_)
      refine r_if_ne (pc := 35) (tgt := 45) C dX5_say_35 (by decide) ?_ ?_
      · refine r_aload_n (pc := 45) C 0 dX5_say_45 rfl rfl ?_
        refine gf_X5_95 (pc := 46) C 0 rfl rfl dX5_say_46 ?_
        refine r_if_ne (pc := 49) (tgt := 59) C dX5_say_49 (by decide) ?_ ?_
        · refine r_aload_n (pc := 59) C 0 dX5_say_59 rfl rfl ?_
          refine r_iload_n (pc := 60) C 1 dX5_say_60 rfl rfl ?_
          refine r_iload_n (pc := 61) C 2 dX5_say_61 rfl rfl ?_
          refine r_iload_n (pc := 62) C 3 dX5_say_62 rfl rfl ?_
          refine r_iload (pc := 63) C 4 dX5_say_63 rfl ?_
          refine r_callV0 (pc := 65) (rest := []) C (m_X5_wayBarred (xl X) (xD X) cI cS q MI MA a1 a2 a3 a4) mv_X5_209 rfl rfl rfl ⟨Nat.zero_le _, Nat.zero_le _⟩ rfl rfl (Nat.le_of_ble_eq_true rfl) dX5_say_65 (fun r65 => ?_)
          refine r_istore (pc := 68) C dX5_say_68 (by decide) (lv' := [(5, .int r65.1), (0, .ref (q 0)), (1, .int a1), (2, .int a2), (3, .int a3), (4, .int a4)]) rfl ?_
          refine r_iload (pc := 70) C 0 dX5_say_70 rfl ?_
          refine r_if_ge (pc := 72) (tgt := 78) C dX5_say_72 (by decide) ?_ ?_
          · refine r_aload_n (pc := 78) C 1 dX5_say_78 rfl rfl ?_
            refine gf_X5_158 (pc := 79) C 0 rfl rfl dX5_say_79 ?_
            refine r_istore (pc := 82) C dX5_say_82 (by decide) (lv' := [(6, .int (r65.2.1 10)), (5, .int r65.1), (0, .ref (q 0)), (1, .int a1), (2, .int a2), (3, .int a3), (4, .int a4)]) rfl ?_
            refine r_bipush (pc := 84) C dX5_say_84 (cb_m9) ?_
            refine r_istore (pc := 86) C dX5_say_86 (by decide) (lv' := [(7, .int (-9 : Int32)), (6, .int (r65.2.1 10)), (5, .int r65.1), (0, .ref (q 0)), (1, .int a1), (2, .int a2), (3, .int a3), (4, .int a4)]) rfl ?_
            refine r_lconst (pc := 88) (v := 0) C dX5_say_88 rfl ?_
            refine r_lstore (pc := 89) C dX5_say_89 (by decide) (lv' := [(8, .long (0 : Int64)), (7, .int (-9 : Int32)), (6, .int (r65.2.1 10)), (5, .int r65.1), (0, .ref (q 0)), (1, .int a1), (2, .int a2), (3, .int a3), (4, .int a4)]) rfl ?_
            refine r_iconst (pc := 91) C dX5_say_91 (ci_0) ?_
            refine r_istore (pc := 92) C dX5_say_92 (by decide) (lv' := [(10, .int (0 : Int32)), (8, .long (0 : Int64)), (7, .int (-9 : Int32)), (6, .int (r65.2.1 10)), (5, .int r65.1), (0, .ref (q 0)), (1, .int a1), (2, .int a2), (3, .int a3), (4, .int a4)]) rfl ?_
            refine r_sub [5, 9, 3, 2, 1, 0] rfl (wl_X5_say_94 X C q a4 r65  _ (fun el7_94 el8_94 el10_94 eMI_94 => ?_) 1000 (-9 : Int32) (0 : Int64) (0 : Int32) r65.2.1)
            refine r_aload_n (pc := 144) C 0 dX5_say_144 rfl rfl ?_
            refine r_iload (pc := 145) C 1 dX5_say_145 rfl ?_
            refine pf_X5_158 (pc := 147) (ws' := wdM cI q (upd eMI_94 10 (r65.2.1 10)) r65.2.2) C 0 rfl rfl dX5_say_147 rfl ?_
            refine r_iload (pc := 150) C 2 dX5_say_150 rfl ?_
            exact r_iret (pc := 152) C rfl rfl dX5_say_152
          · refine r_iload (pc := 75) C 0 dX5_say_75 rfl ?_
            exact r_iret (pc := 77) C rfl rfl dX5_say_77
        · refine r_aload_n (pc := 52) C 0 dX5_say_52 rfl rfl ?_
          refine r_bipush (pc := 53) C dX5_say_53 (cb_m3) ?_
          refine r_callV0 (pc := 55) (rest := []) C (m_X5_refused (xl X) (xD X) cI cS q MI MA (-3 : Int32)) mv_X5_141 rfl rfl rfl ⟨Nat.zero_le _, Nat.zero_le _⟩ rfl rfl (Nat.le_of_ble_eq_true rfl) dX5_say_55 (fun r55 => ?_)
          exact r_iret (pc := 58) C rfl rfl dX5_say_58
      · refine r_aload_n (pc := 38) C 0 dX5_say_38 rfl rfl ?_
        refine r_bipush (pc := 39) C dX5_say_39 (cb_m2) ?_
        refine r_callV0 (pc := 41) (rest := []) C (m_X5_refused (xl X) (xD X) cI cS q MI MA (-2 : Int32)) mv_X5_141 rfl rfl rfl ⟨Nat.zero_le _, Nat.zero_le _⟩ rfl rfl (Nat.le_of_ble_eq_true rfl) dX5_say_41 (fun r41 => ?_)
        exact r_iret (pc := 44) C rfl rfl dX5_say_44
  · refine r_aload_n (pc := 7) C 0 dX5_say_7 rfl rfl ?_
    refine r_iconst (pc := 8) C dX5_say_8 (ci_m1) ?_
    refine r_callV0 (pc := 9) (rest := []) C (m_X5_refused (xl X) (xD X) cI cS q MI MA (-1 : Int32)) mv_X5_141 rfl rfl rfl ⟨Nat.zero_le _, Nat.zero_le _⟩ rfl rfl (Nat.le_of_ble_eq_true rfl) dX5_say_9 (fun r9 => ?_)
    exact r_iret (pc := 12) C rfl rfl dX5_say_12)
set_option maxHeartbeats 4000000 in
set_option maxRecDepth 100000 in
theorem wl_X5_dutyEverywhere_4 {cI cS : ClassId} (X : CX) (C : Cx X RX5 cX5_dutyEverywhere 3 (some .int) (rmz 4 90) (tyz cI cS)) (q : Nat → Nat) (MI : Nat → Int32) (MA : Nat → Nat → Int32)  (kk : Int32 → Int32 → Option (Int32)) (hk_4 : ∀ (el1_4 : Int32) (el2_4 : Int32), JR X (QF X (tyz cI cS) 0 0 (fun o : Int32 => some (.int o)) (fun o : Int32 => wdM cI q MI MA)) 3 0 0 (kk el1_4 el2_4) (wdM cI q MI MA) [(1, .int el1_4)] 26 []) : ∀ (fuel : Nat) (l1_4 : Int32) (l2_4 : Int32), JR X (QF X (tyz cI cS) 0 0 (fun o : Int32 => some (.int o)) (fun o : Int32 => wdM cI q MI MA)) 3 0 0 (lp_X5_dutyEverywhere_4 kk MI MA fuel l1_4 l2_4) (wdM cI q MI MA) [(0, .ref (q 0)), (1, .int l1_4), (2, .int l2_4)] 4 [] := by
  intro fuel
  induction fuel with
  | zero => intro l1_4 l2_4; exact r_none
  | succ fu_4 ih_4 =>
    intro l1_4 l2_4
    unfold lp_X5_dutyEverywhere_4
    refine r_iload_n (pc := 4) C 2 dX5_dutyEverywhere_4 rfl rfl ?_
    refine r_aload_n (pc := 5) C 0 dX5_dutyEverywhere_5 rfl rfl ?_
    refine gf_X5_88 (pc := 6) C 0 rfl rfl dX5_dutyEverywhere_6 ?_
    refine r_icmp_ge (pc := 9) (tgt := 26) C dX5_dutyEverywhere_9 (by decide) ?_ ?_
    · exact r_sub [1] rfl (hk_4 l1_4 l2_4)
    · refine r_iload_n (pc := 12) C 1 dX5_dutyEverywhere_12 rfl rfl ?_
      refine r_aload_n (pc := 13) C 0 dX5_dutyEverywhere_13 rfl rfl ?_
      refine r_iload_n (pc := 14) C 2 dX5_dutyEverywhere_14 rfl rfl ?_
      refine r_callV0 (pc := 15) (rest := [.int l1_4]) C (m_X5_dutyAt (xl X) (xD X) cI cS q MI MA l2_4) mv_X5_190 rfl rfl rfl ⟨Nat.zero_le _, Nat.zero_le _⟩ rfl rfl (Nat.le_of_ble_eq_true rfl) dX5_dutyEverywhere_15 (fun r15 => ?_)
      refine r_iadd (pc := 18) C dX5_dutyEverywhere_18 ?_
      refine r_istore_n (pc := 19) C dX5_dutyEverywhere_19 rfl (by decide) (lv' := [(1, .int (l1_4 + r15)), (0, .ref (q 0)), (2, .int l2_4)]) rfl ?_
      refine r_iinc (pc := 20) C 2 dX5_dutyEverywhere_20 rfl (ci_1) (by decide) (lv' := [(2, .int (l2_4 + (1 : Int32))), (1, .int (l1_4 + r15)), (0, .ref (q 0))]) rfl ?_
      refine r_goto (pc := 23) (tgt := 4) C dX5_dutyEverywhere_23 (by decide) ?_
      exact r_sub [2, 1, 0] rfl (ih_4 (l1_4 + r15) (l2_4 + (1 : Int32)))
set_option maxHeartbeats 4000000 in
set_option maxRecDepth 100000 in
theorem m_X5_dutyEverywhere (l : Launch) (D : va_G) (cI cS : ClassId) (q : Nat → Nat) (MI : Nat → Int32) (MA : Nat → Nat → Int32) : MX l D (tyz cI cS) yX5_dutyEverywhere cX5_dutyEverywhere 3 (some .int) (rmz 4 90) [.ref (q 0)] (wdM cI q MI MA) (f_X5_dutyEverywhere MI MA) (fun o : Int32 => some (.int o)) (fun o : Int32 => wdM cI q MI MA) := met_of (own := RX5) (by decide) rfl (Nat.le_of_ble_eq_true rfl) (fun X hxl hxD C => by
  subst hxl
  subst hxD
  show JR X _ _ 0 0 (f_X5_dutyEverywhere MI MA) (wdM cI q MI MA) [(0, .ref (q 0))] 0 []
  unfold f_X5_dutyEverywhere
  refine r_iconst (pc := 0) C dX5_dutyEverywhere_0 (ci_0) ?_
  refine r_istore_n (pc := 1) C dX5_dutyEverywhere_1 rfl (by decide) (lv' := [(1, .int (0 : Int32)), (0, .ref (q 0))]) rfl ?_
  refine r_iconst (pc := 2) C dX5_dutyEverywhere_2 (ci_0) ?_
  refine r_istore_n (pc := 3) C dX5_dutyEverywhere_3 rfl (by decide) (lv' := [(2, .int (0 : Int32)), (1, .int (0 : Int32)), (0, .ref (q 0))]) rfl ?_
  refine r_sub [2, 1, 0] rfl (wl_X5_dutyEverywhere_4 X C q MI MA  _ (fun el1_4 el2_4 => ?_) 1000 (0 : Int32) (0 : Int32))
  refine r_iload_n (pc := 26) C 0 dX5_dutyEverywhere_26 rfl rfl ?_
  exact r_iret (pc := 27) C rfl rfl dX5_dutyEverywhere_27)
set_option maxHeartbeats 4000000 in
set_option maxRecDepth 100000 in
theorem wl_X5_pack_125 {cI cS : ClassId} (X : CX) (C : Cx X RX5 cX5_pack 8 (some .int) (rmz 5 112) (tyz cI cS)) (q : Nat → Nat) (MI : Nat → Int32) (a1 : Int32) (r104 : Int32) (el2_21 : Int32) (l4_57 : Int32)  (kk : Int32 → (Nat → Nat → Int32) → Option (Int32 × (Nat → Nat → Int32))) (hk_125 : ∀ (el7_125 : Int32) (eMA_125 : Nat → Nat → Int32), JR X (QF X (tyz cI cS) 0 0 (fun o : Int32 × (Nat → Nat → Int32) => some (.int o.1)) (fun o : Int32 × (Nat → Nat → Int32) => wdM cI q MI o.2)) 8 0 0 (kk el7_125 eMA_125) (wdM cI q MI eMA_125) [(0, .ref (q 0)), (1, .int a1), (2, .int el2_21), (3, .int r104), (4, .int l4_57)] 154 []) : ∀ (fuel : Nat) (l7_125 : Int32) (MA_125 : Nat → Nat → Int32), JR X (QF X (tyz cI cS) 0 0 (fun o : Int32 × (Nat → Nat → Int32) => some (.int o.1)) (fun o : Int32 × (Nat → Nat → Int32) => wdM cI q MI o.2)) 8 0 0 (lp_X5_pack_125 kk MI fuel l7_125 MA_125) (wdM cI q MI MA_125) [(0, .ref (q 0)), (1, .int a1), (2, .int el2_21), (3, .int r104), (4, .int l4_57), (7, .int l7_125)] 125 [] := by
  intro fuel
  induction fuel with
  | zero => intro l7_125 MA_125; exact r_none
  | succ fu_125 ih_125 =>
    intro l7_125 MA_125
    unfold lp_X5_pack_125
    refine r_iload (pc := 125) C 5 dX5_pack_125 rfl ?_
    refine r_aload_n (pc := 127) C 0 dX5_pack_127 rfl rfl ?_
    refine gf_X5_95 (pc := 128) C 0 rfl rfl dX5_pack_128 ?_
    refine r_icmp_ge (pc := 131) (tgt := 154) C dX5_pack_131 (by decide) ?_ ?_
    · exact r_sub [0, 1, 2, 3, 4] rfl (hk_125 l7_125 MA_125)
    · refine r_aload_n (pc := 134) C 0 dX5_pack_134 rfl rfl ?_
      refine gf_X5_52 (pc := 135) C 0 rfl rfl dX5_pack_135 ?_
      refine r_iload (pc := 138) C 5 dX5_pack_138 rfl ?_
      refine r_aload_n (pc := 140) C 0 dX5_pack_140 rfl rfl ?_
      refine gf_X5_25 (pc := 141) C 0 rfl rfl dX5_pack_141 ?_
      refine r_iload (pc := 144) C 5 dX5_pack_144 rfl ?_
      refine r_iald (pc := 146) C 6 rfl dX5_pack_146 ?_
      refine r_iast (pc := 147) (ws' := wdM cI q MI (va_up MA_125 25 (upd (MA_125 25) l7_125.toNatClampNeg (MA_125 8 l7_125.toNatClampNeg)))) C 15 rfl dX5_pack_147 rfl ?_
      refine r_iinc (pc := 148) C 5 dX5_pack_148 rfl (ci_1) (by decide) (lv' := [(7, .int (l7_125 + (1 : Int32))), (0, .ref (q 0)), (1, .int a1), (2, .int el2_21), (3, .int r104), (4, .int l4_57)]) rfl ?_
      refine r_goto (pc := 151) (tgt := 125) C dX5_pack_151 (by decide) ?_
      exact r_sub [1, 2, 3, 4, 5, 0] rfl (ih_125 (l7_125 + (1 : Int32)) (va_up MA_125 25 (upd (MA_125 25) l7_125.toNatClampNeg (MA_125 8 l7_125.toNatClampNeg))))
set_option maxHeartbeats 4000000 in
set_option maxRecDepth 100000 in
theorem wl_X5_pack_75 {cI cS : ClassId} (X : CX) (C : Cx X RX5 cX5_pack 8 (some .int) (rmz 5 112) (tyz cI cS)) (q : Nat → Nat) (MI : Nat → Int32) (a1 : Int32) (el2_21 : Int32) (l3_57 : Int32) (l4_57 : Int32)  (kk : Int32 → Int32 → (Nat → Nat → Int32) → Option (Int32 × (Nat → Nat → Int32))) (hk_75 : ∀ (el5_75 : Int32) (el6_75 : Int32) (eMA_75 : Nat → Nat → Int32), JR X (QF X (tyz cI cS) 0 0 (fun o : Int32 × (Nat → Nat → Int32) => some (.int o.1)) (fun o : Int32 × (Nat → Nat → Int32) => wdM cI q MI o.2)) 8 0 0 (kk el5_75 el6_75 eMA_75) (wdM cI q MI eMA_75) [(0, .ref (q 0)), (1, .int a1), (2, .int el2_21), (3, .int l3_57), (4, .int l4_57)] 103 []) : ∀ (fuel : Nat) (l5_75 : Int32) (l6_75 : Int32) (MA_75 : Nat → Nat → Int32), JR X (QF X (tyz cI cS) 0 0 (fun o : Int32 × (Nat → Nat → Int32) => some (.int o.1)) (fun o : Int32 × (Nat → Nat → Int32) => wdM cI q MI o.2)) 8 0 0 (lp_X5_pack_75 kk fuel l5_75 l6_75 MA_75) (wdM cI q MI MA_75) [(0, .ref (q 0)), (1, .int a1), (2, .int el2_21), (3, .int l3_57), (4, .int l4_57), (5, .int l5_75), (6, .int l6_75)] 75 [] := by
  intro fuel
  induction fuel with
  | zero => intro l5_75 l6_75 MA_75; exact r_none
  | succ fu_75 ih_75 =>
    intro l5_75 l6_75 MA_75
    unfold lp_X5_pack_75
    refine r_iload (pc := 75) C 6 dX5_pack_75 rfl ?_
    refine r_if_lt (pc := 77) (tgt := 103) C dX5_pack_77 (by decide) ?_ ?_
    · exact r_sub [0, 1, 2, 3, 4] rfl (hk_75 l5_75 l6_75 MA_75)
    · refine r_aload_n (pc := 80) C 0 dX5_pack_80 rfl rfl ?_
      refine gf_X5_25 (pc := 81) C 0 rfl rfl dX5_pack_81 ?_
      refine r_iload (pc := 84) C 6 dX5_pack_84 rfl ?_
      refine r_iload (pc := 86) C 5 dX5_pack_86 rfl ?_
      refine r_iconst (pc := 88) C dX5_pack_88 (ci_3) ?_
      refine r_irem (pc := 89) C dX5_pack_89 ?_
      refine r_iast (pc := 90) (ws' := wdM cI q MI (va_up MA_75 8 (upd (MA_75 8) l6_75.toNatClampNeg (l5_75 - l5_75 / (3 : Int32) * (3 : Int32))))) C 6 rfl dX5_pack_90 rfl ?_
      refine r_iload (pc := 91) C 5 dX5_pack_91 rfl ?_
      refine r_iconst (pc := 93) C dX5_pack_93 (ci_3) ?_
      refine r_idiv (pc := 94) C dX5_pack_94 ?_
      refine r_istore (pc := 95) C dX5_pack_95 (by decide) (lv' := [(5, .int (l5_75 / (3 : Int32))), (0, .ref (q 0)), (1, .int a1), (2, .int el2_21), (3, .int l3_57), (4, .int l4_57), (6, .int l6_75)]) rfl ?_
      refine r_iinc (pc := 97) C 6 dX5_pack_97 rfl (ci_m1) (by decide) (lv' := [(6, .int (l6_75 + (-1 : Int32))), (5, .int (l5_75 / (3 : Int32))), (0, .ref (q 0)), (1, .int a1), (2, .int el2_21), (3, .int l3_57), (4, .int l4_57)]) rfl ?_
      refine r_goto (pc := 100) (tgt := 75) C dX5_pack_100 (by decide) ?_
      exact r_sub [2, 3, 4, 5, 6, 1, 0] rfl (ih_75 (l5_75 / (3 : Int32)) (l6_75 + (-1 : Int32)) (va_up MA_75 8 (upd (MA_75 8) l6_75.toNatClampNeg (l5_75 - l5_75 / (3 : Int32) * (3 : Int32)))))
set_option maxHeartbeats 4000000 in
set_option maxRecDepth 100000 in
theorem wl_X5_pack_163 {cI cS : ClassId} (X : CX) (C : Cx X RX5 cX5_pack 8 (some .int) (rmz 5 112) (tyz cI cS)) (q : Nat → Nat) (MI : Nat → Int32) (a1 : Int32) (el3_57 : Int32)  (kk : Int32 → (Nat → Nat → Int32) → Option (Int32 × (Nat → Nat → Int32))) (hk_163 : ∀ (el4_163 : Int32) (eMA_163 : Nat → Nat → Int32), JR X (QF X (tyz cI cS) 0 0 (fun o : Int32 × (Nat → Nat → Int32) => some (.int o.1)) (fun o : Int32 × (Nat → Nat → Int32) => wdM cI q MI o.2)) 8 0 0 (kk el4_163 eMA_163) (wdM cI q MI eMA_163) [(0, .ref (q 0)), (1, .int a1), (3, .int el3_57)] 192 []) : ∀ (fuel : Nat) (l4_163 : Int32) (MA_163 : Nat → Nat → Int32), JR X (QF X (tyz cI cS) 0 0 (fun o : Int32 × (Nat → Nat → Int32) => some (.int o.1)) (fun o : Int32 × (Nat → Nat → Int32) => wdM cI q MI o.2)) 8 0 0 (lp_X5_pack_163 kk MI fuel l4_163 MA_163) (wdM cI q MI MA_163) [(0, .ref (q 0)), (1, .int a1), (3, .int el3_57), (4, .int l4_163)] 163 [] := by
  intro fuel
  induction fuel with
  | zero => intro l4_163 MA_163; exact r_none
  | succ fu_163 ih_163 =>
    intro l4_163 MA_163
    unfold lp_X5_pack_163
    refine r_iload (pc := 163) C 3 dX5_pack_163 rfl ?_
    refine r_aload_n (pc := 165) C 0 dX5_pack_165 rfl rfl ?_
    refine gf_X5_95 (pc := 166) C 0 rfl rfl dX5_pack_166 ?_
    refine r_icmp_ge (pc := 169) (tgt := 192) C dX5_pack_169 (by decide) ?_ ?_
    · exact r_sub [0, 1, 2] rfl (hk_163 l4_163 MA_163)
    · refine r_aload_n (pc := 172) C 0 dX5_pack_172 rfl rfl ?_
      refine gf_X5_25 (pc := 173) C 0 rfl rfl dX5_pack_173 ?_
      refine r_iload (pc := 176) C 3 dX5_pack_176 rfl ?_
      refine r_aload_n (pc := 178) C 0 dX5_pack_178 rfl rfl ?_
      refine gf_X5_49 (pc := 179) C 0 rfl rfl dX5_pack_179 ?_
      refine r_iload (pc := 182) C 3 dX5_pack_182 rfl ?_
      refine r_iald (pc := 184) C 14 rfl dX5_pack_184 ?_
      refine r_iast (pc := 185) (ws' := wdM cI q MI (va_up MA_163 8 (upd (MA_163 8) l4_163.toNatClampNeg (MA_163 24 l4_163.toNatClampNeg)))) C 6 rfl dX5_pack_185 rfl ?_
      refine r_iinc (pc := 186) C 3 dX5_pack_186 rfl (ci_1) (by decide) (lv' := [(4, .int (l4_163 + (1 : Int32))), (0, .ref (q 0)), (1, .int a1), (3, .int el3_57)]) rfl ?_
      refine r_goto (pc := 189) (tgt := 163) C dX5_pack_189 (by decide) ?_
      exact r_sub [1, 2, 3, 0] rfl (ih_163 (l4_163 + (1 : Int32)) (va_up MA_163 8 (upd (MA_163 8) l4_163.toNatClampNeg (MA_163 24 l4_163.toNatClampNeg))))
set_option maxHeartbeats 4000000 in
set_option maxRecDepth 100000 in
theorem wl_X5_pack_57 {cI cS : ClassId} (X : CX) (C : Cx X RX5 cX5_pack 8 (some .int) (rmz 5 112) (tyz cI cS)) (q : Nat → Nat) (MI : Nat → Int32) (a1 : Int32) (el2_21 : Int32)  (kk : Int32 → Int32 → (Nat → Nat → Int32) → Option (Int32 × (Nat → Nat → Int32))) (hk_57 : ∀ (el3_57 : Int32) (el4_57 : Int32) (eMA_57 : Nat → Nat → Int32), JR X (QF X (tyz cI cS) 0 0 (fun o : Int32 × (Nat → Nat → Int32) => some (.int o.1)) (fun o : Int32 × (Nat → Nat → Int32) => wdM cI q MI o.2)) 8 0 0 (kk el3_57 el4_57 eMA_57) (wdM cI q MI eMA_57) [(0, .ref (q 0)), (1, .int a1), (3, .int el3_57)] 160 []) : ∀ (fuel : Nat) (l3_57 : Int32) (l4_57 : Int32) (MA_57 : Nat → Nat → Int32), JR X (QF X (tyz cI cS) 0 0 (fun o : Int32 × (Nat → Nat → Int32) => some (.int o.1)) (fun o : Int32 × (Nat → Nat → Int32) => wdM cI q MI o.2)) 8 0 0 (lp_X5_pack_57 kk MI el2_21 fuel l3_57 l4_57 MA_57) (wdM cI q MI MA_57) [(0, .ref (q 0)), (1, .int a1), (2, .int el2_21), (3, .int l3_57), (4, .int l4_57)] 57 [] := by
  intro fuel
  induction fuel with
  | zero => intro l3_57 l4_57 MA_57; exact r_none
  | succ fu_57 ih_57 =>
    intro l3_57 l4_57 MA_57
    unfold lp_X5_pack_57
    refine r_iload (pc := 57) C 4 dX5_pack_57 rfl ?_
    refine r_iload_n (pc := 59) C 2 dX5_pack_59 rfl rfl ?_
    refine r_icmp_ge (pc := 60) (tgt := 160) C dX5_pack_60 (by decide) ?_ ?_
    · exact r_sub [0, 1, 3] rfl (hk_57 l3_57 l4_57 MA_57)
    · refine r_iload (pc := 63) C 4 dX5_pack_63 rfl ?_
      refine r_istore (pc := 65) C dX5_pack_65 (by decide) (lv' := [(5, .int l4_57), (0, .ref (q 0)), (1, .int a1), (2, .int el2_21), (3, .int l3_57), (4, .int l4_57)]) rfl ?_
      refine r_aload_n (pc := 67) C 1 dX5_pack_67 rfl rfl ?_
      refine gf_X5_95 (pc := 68) C 0 rfl rfl dX5_pack_68 ?_
      refine r_iconst (pc := 71) C dX5_pack_71 (ci_1) ?_
      refine r_isub (pc := 72) C dX5_pack_72 ?_
      refine r_istore (pc := 73) C dX5_pack_73 (by decide) (lv' := [(6, .int ((MI 4) - (1 : Int32))), (5, .int l4_57), (0, .ref (q 0)), (1, .int a1), (2, .int el2_21), (3, .int l3_57), (4, .int l4_57)]) rfl ?_
      refine r_sub [2, 3, 4, 5, 6, 1, 0] rfl (wl_X5_pack_75 X C q MI a1 el2_21 l3_57 l4_57  _ (fun el5_75 el6_75 eMA_75 => ?_) 1000 l4_57 ((MI 4) - (1 : Int32)) MA_57)
      refine r_aload_n (pc := 103) C 0 dX5_pack_103 rfl rfl ?_
      refine r_callV0 (pc := 104) (rest := []) C (m_X5_dutyEverywhere (xl X) (xD X) cI cS q MI eMA_75) mv_X5_216 rfl rfl rfl ⟨Nat.zero_le _, Nat.zero_le _⟩ rfl rfl (Nat.le_of_ble_eq_true rfl) dX5_pack_104 (fun r104 => ?_)
      refine r_istore (pc := 107) C dX5_pack_107 (by decide) (lv' := [(6, .int r104), (0, .ref (q 0)), (1, .int a1), (2, .int el2_21), (3, .int l3_57), (4, .int l4_57)]) rfl ?_
      refine r_iload_n (pc := 109) C 4 dX5_pack_109 rfl rfl ?_
      refine r_if_lt (pc := 110) (tgt := 119) C dX5_pack_110 (by decide) ?_ ?_
      · refine r_iload (pc := 119) C 0 dX5_pack_119 rfl ?_
        refine r_istore_n (pc := 121) C dX5_pack_121 rfl (by decide) (lv' := [(3, .int r104), (6, .int r104), (0, .ref (q 0)), (1, .int a1), (2, .int el2_21), (4, .int l4_57)]) rfl ?_
        refine r_iconst (pc := 122) C dX5_pack_122 (ci_0) ?_
        refine r_istore (pc := 123) C dX5_pack_123 (by decide) (lv' := [(7, .int (0 : Int32)), (3, .int r104), (6, .int r104), (0, .ref (q 0)), (1, .int a1), (2, .int el2_21), (4, .int l4_57)]) rfl ?_
        refine r_sub [3, 4, 5, 1, 6, 0] rfl (wl_X5_pack_125 X C q MI a1 r104 el2_21 l4_57  _ (fun el7_125 eMA_125 => ?_) 1000 (0 : Int32) eMA_75)
        refine r_iinc (pc := 154) C 4 dX5_pack_154 rfl (ci_1) (by decide) (lv' := [(4, .int (l4_57 + (1 : Int32))), (0, .ref (q 0)), (1, .int a1), (2, .int el2_21), (3, .int r104)]) rfl ?_
        refine r_goto (pc := 157) (tgt := 57) C dX5_pack_157 (by decide) ?_
        exact r_sub [1, 2, 3, 4, 0] rfl (ih_57 r104 (l4_57 + (1 : Int32)) eMA_125)
      · refine r_iload (pc := 113) C 0 dX5_pack_113 rfl ?_
        refine r_iload_n (pc := 115) C 4 dX5_pack_115 rfl rfl ?_
        refine r_icmp_ge (pc := 116) (tgt := 154) C dX5_pack_116 (by decide) ?_ ?_
        · refine r_iinc (pc := 154) C 5 dX5_pack_154 rfl (ci_1) (by decide) (lv' := [(4, .int (l4_57 + (1 : Int32))), (6, .int r104), (0, .ref (q 0)), (1, .int a1), (2, .int el2_21), (3, .int l3_57)]) rfl ?_
          refine r_goto (pc := 157) (tgt := 57) C dX5_pack_157 (by decide) ?_
          exact r_sub [2, 3, 4, 5, 0] rfl (ih_57 l3_57 (l4_57 + (1 : Int32)) eMA_75)
        · refine r_iload (pc := 119) C 0 dX5_pack_119 rfl ?_
          refine r_istore_n (pc := 121) C dX5_pack_121 rfl (by decide) (lv' := [(3, .int r104), (6, .int r104), (0, .ref (q 0)), (1, .int a1), (2, .int el2_21), (4, .int l4_57)]) rfl ?_
          refine r_iconst (pc := 122) C dX5_pack_122 (ci_0) ?_
          refine r_istore (pc := 123) C dX5_pack_123 (by decide) (lv' := [(7, .int (0 : Int32)), (3, .int r104), (6, .int r104), (0, .ref (q 0)), (1, .int a1), (2, .int el2_21), (4, .int l4_57)]) rfl ?_
          refine r_sub [3, 4, 5, 1, 6, 0] rfl (wl_X5_pack_125 X C q MI a1 r104 el2_21 l4_57  _ (fun el7_125 eMA_125 => ?_) 1000 (0 : Int32) eMA_75)
          refine r_iinc (pc := 154) C 4 dX5_pack_154 rfl (ci_1) (by decide) (lv' := [(4, .int (l4_57 + (1 : Int32))), (0, .ref (q 0)), (1, .int a1), (2, .int el2_21), (3, .int r104)]) rfl ?_
          refine r_goto (pc := 157) (tgt := 57) C dX5_pack_157 (by decide) ?_
          exact r_sub [1, 2, 3, 4, 0] rfl (ih_57 r104 (l4_57 + (1 : Int32)) eMA_125)
set_option maxHeartbeats 4000000 in
set_option maxRecDepth 100000 in
theorem wl_X5_pack_21 {cI cS : ClassId} (X : CX) (C : Cx X RX5 cX5_pack 8 (some .int) (rmz 5 112) (tyz cI cS)) (q : Nat → Nat) (MI : Nat → Int32) (a1 : Int32)  (kk : Int32 → Int32 → (Nat → Nat → Int32) → Option (Int32 × (Nat → Nat → Int32))) (hk_21 : ∀ (el2_21 : Int32) (el3_21 : Int32) (eMA_21 : Nat → Nat → Int32), JR X (QF X (tyz cI cS) 0 0 (fun o : Int32 × (Nat → Nat → Int32) => some (.int o.1)) (fun o : Int32 × (Nat → Nat → Int32) => wdM cI q MI o.2)) 8 0 0 (kk el2_21 el3_21 eMA_21) (wdM cI q MI eMA_21) [(0, .ref (q 0)), (1, .int a1), (2, .int el2_21)] 51 []) : ∀ (fuel : Nat) (l2_21 : Int32) (l3_21 : Int32) (MA_21 : Nat → Nat → Int32), JR X (QF X (tyz cI cS) 0 0 (fun o : Int32 × (Nat → Nat → Int32) => some (.int o.1)) (fun o : Int32 × (Nat → Nat → Int32) => wdM cI q MI o.2)) 8 0 0 (lp_X5_pack_21 kk MI fuel l2_21 l3_21 MA_21) (wdM cI q MI MA_21) [(0, .ref (q 0)), (1, .int a1), (2, .int l2_21), (3, .int l3_21)] 21 [] := by
  intro fuel
  induction fuel with
  | zero => intro l2_21 l3_21 MA_21; exact r_none
  | succ fu_21 ih_21 =>
    intro l2_21 l3_21 MA_21
    unfold lp_X5_pack_21
    refine r_iload_n (pc := 21) C 3 dX5_pack_21 rfl rfl ?_
    refine r_aload_n (pc := 22) C 0 dX5_pack_22 rfl rfl ?_
    refine gf_X5_95 (pc := 23) C 0 rfl rfl dX5_pack_23 ?_
    refine r_icmp_ge (pc := 26) (tgt := 51) C dX5_pack_26 (by decide) ?_ ?_
    · exact r_sub [0, 1, 2] rfl (hk_21 l2_21 l3_21 MA_21)
    · refine r_aload_n (pc := 29) C 0 dX5_pack_29 rfl rfl ?_
      refine gf_X5_49 (pc := 30) C 0 rfl rfl dX5_pack_30 ?_
      refine r_iload_n (pc := 33) C 3 dX5_pack_33 rfl rfl ?_
      refine r_aload_n (pc := 34) C 0 dX5_pack_34 rfl rfl ?_
      refine gf_X5_25 (pc := 35) C 0 rfl rfl dX5_pack_35 ?_
      refine r_iload_n (pc := 38) C 3 dX5_pack_38 rfl rfl ?_
      refine r_iald (pc := 39) C 6 rfl dX5_pack_39 ?_
      refine r_iast (pc := 40) (ws' := wdM cI q MI (va_up MA_21 24 (upd (MA_21 24) l3_21.toNatClampNeg (MA_21 8 l3_21.toNatClampNeg)))) C 14 rfl dX5_pack_40 rfl ?_
      refine r_iload_n (pc := 41) C 2 dX5_pack_41 rfl rfl ?_
      refine r_iconst (pc := 42) C dX5_pack_42 (ci_3) ?_
      refine r_imul (pc := 43) C dX5_pack_43 ?_
      refine r_istore_n (pc := 44) C dX5_pack_44 rfl (by decide) (lv' := [(2, .int (l2_21 * (3 : Int32))), (0, .ref (q 0)), (1, .int a1), (3, .int l3_21)]) rfl ?_
      refine r_iinc (pc := 45) C 3 dX5_pack_45 rfl (ci_1) (by decide) (lv' := [(3, .int (l3_21 + (1 : Int32))), (2, .int (l2_21 * (3 : Int32))), (0, .ref (q 0)), (1, .int a1)]) rfl ?_
      refine r_goto (pc := 48) (tgt := 21) C dX5_pack_48 (by decide) ?_
      exact r_sub [2, 3, 1, 0] rfl (ih_21 (l2_21 * (3 : Int32)) (l3_21 + (1 : Int32)) (va_up MA_21 24 (upd (MA_21 24) l3_21.toNatClampNeg (MA_21 8 l3_21.toNatClampNeg))))
set_option maxHeartbeats 4000000 in
set_option maxRecDepth 100000 in
theorem m_X5_pack (l : Launch) (D : va_G) (cI cS : ClassId) (q : Nat → Nat) (MI : Nat → Int32) (MA : Nat → Nat → Int32) (a1 : Int32) : MX l D (tyz cI cS) yX5_pack cX5_pack 8 (some .int) (rmz 5 112) [.ref (q 0), .int a1] (wdM cI q MI MA) (f_X5_pack MI MA a1) (fun o : Int32 × (Nat → Nat → Int32) => some (.int o.1)) (fun o : Int32 × (Nat → Nat → Int32) => wdM cI q MI o.2) := met_of (own := RX5) (by decide) rfl (Nat.le_of_ble_eq_true rfl) (fun X hxl hxD C => by
  subst hxl
  subst hxD
  show JR X _ _ 0 0 (f_X5_pack MI MA a1) (wdM cI q MI MA) [(0, .ref (q 0)), (1, .int a1)] 0 []
  unfold f_X5_pack
  refine r_iload_n (pc := 0) C 1 dX5_pack_0 rfl rfl ?_
  refine r_iconst (pc := 1) C dX5_pack_1 (ci_m1) ?_
  refine r_icmp_ge (pc := 2) (tgt := 7) C dX5_pack_2 (by decide) ?_ ?_
  · refine r_aload_n (pc := 7) C 0 dX5_pack_7 rfl rfl ?_
    refine gf_X5_95 (pc := 8) C 0 rfl rfl dX5_pack_8 ?_
    refine r_if_ne (pc := 11) (tgt := 17) C dX5_pack_11 (by decide) ?_ ?_
    · refine r_iconst (pc := 17) C dX5_pack_17 (ci_1) ?_
      refine r_istore_n (pc := 18) C dX5_pack_18 rfl (by decide) (lv' := [(2, .int (1 : Int32)), (0, .ref (q 0)), (1, .int a1)]) rfl ?_
      refine r_iconst (pc := 19) C dX5_pack_19 (ci_0) ?_
      refine r_istore_n (pc := 20) C dX5_pack_20 rfl (by decide) (lv' := [(3, .int (0 : Int32)), (2, .int (1 : Int32)), (0, .ref (q 0)), (1, .int a1)]) rfl ?_
      refine r_sub [2, 3, 1, 0] rfl (wl_X5_pack_21 X C q MI a1  _ (fun el2_21 el3_21 eMA_21 => ?_) 1000 (1 : Int32) (0 : Int32) MA)
      refine r_bipush (pc := 51) C dX5_pack_51 (cb_m9) ?_
      refine r_istore_n (pc := 53) C dX5_pack_53 rfl (by decide) (lv' := [(3, .int (-9 : Int32)), (0, .ref (q 0)), (1, .int a1), (2, .int el2_21)]) rfl ?_
      refine r_iconst (pc := 54) C dX5_pack_54 (ci_0) ?_
      refine r_istore (pc := 55) C dX5_pack_55 (by decide) (lv' := [(4, .int (0 : Int32)), (3, .int (-9 : Int32)), (0, .ref (q 0)), (1, .int a1), (2, .int el2_21)]) rfl ?_
      refine r_sub [2, 3, 4, 1, 0] rfl (wl_X5_pack_57 X C q MI a1 el2_21  _ (fun el3_57 el4_57 eMA_57 => ?_) 1000 (-9 : Int32) (0 : Int32) eMA_21)
      refine r_iconst (pc := 160) C dX5_pack_160 (ci_0) ?_
      refine r_istore (pc := 161) C dX5_pack_161 (by decide) (lv' := [(4, .int (0 : Int32)), (0, .ref (q 0)), (1, .int a1), (3, .int el3_57)]) rfl ?_
      refine r_sub [1, 2, 3, 0] rfl (wl_X5_pack_163 X C q MI a1 el3_57  _ (fun el4_163 eMA_163 => ?_) 1000 (0 : Int32) eMA_57)
      refine r_iload_n (pc := 192) C 1 dX5_pack_192 rfl rfl ?_
      refine r_if_ge (pc := 193) (tgt := 200) C dX5_pack_193 (by decide) ?_ ?_
      · refine r_iload_n (pc := 200) C 1 dX5_pack_200 rfl rfl ?_
        refine r_aload_n (pc := 201) C 0 dX5_pack_201 rfl rfl ?_
        refine gf_X5_95 (pc := 202) C 0 rfl rfl dX5_pack_202 ?_
        refine r_icmp_ge (pc := 205) (tgt := 217) C dX5_pack_205 (by decide) ?_ ?_
        · refine r_bipush (pc := 217) C dX5_pack_217 (cb_m9) ?_
          exact r_iret (pc := 219) C rfl rfl dX5_pack_219
        · refine r_aload_n (pc := 208) C 0 dX5_pack_208 rfl rfl ?_
          refine gf_X5_52 (pc := 209) C 0 rfl rfl dX5_pack_209 ?_
          refine r_iload_n (pc := 212) C 1 dX5_pack_212 rfl rfl ?_
          refine r_iald (pc := 213) C 15 rfl dX5_pack_213 ?_
          refine r_goto (pc := 214) (tgt := 219) C dX5_pack_214 (by decide) ?_
          exact r_iret (pc := 219) C rfl rfl dX5_pack_219
      · refine r_iload_n (pc := 196) C 2 dX5_pack_196 rfl rfl ?_
        refine r_goto (pc := 197) (tgt := 219) C dX5_pack_197 (by decide) ?_
        exact r_iret (pc := 219) C rfl rfl dX5_pack_219
    · refine r_bipush (pc := 14) C dX5_pack_14 (cb_m3) ?_
      exact r_iret (pc := 16) C rfl rfl dX5_pack_16
  · refine r_iconst (pc := 5) C dX5_pack_5 (ci_m1) ?_
    exact r_iret (pc := 6) C rfl rfl dX5_pack_6)
set_option maxHeartbeats 4000000 in
set_option maxRecDepth 100000 in
theorem wl_X5_road_19 {cI cS : ClassId} (X : CX) (C : Cx X RX5 cX5_road 7 (some .int) (rmz 5 118) (tyz cI cS)) (q : Nat → Nat) (MI : Nat → Int32)  (kk : Int32 → Int64 → Int32 → (Nat → Nat → Int32) → Option (Int32 × (Nat → Nat → Int32))) (hk_19 : ∀ (el1_19 : Int32) (el2_19 : Int64) (el4_19 : Int32) (eMA_19 : Nat → Nat → Int32), JR X (QF X (tyz cI cS) 0 0 (fun o : Int32 × (Nat → Nat → Int32) => some (.int o.1)) (fun o : Int32 × (Nat → Nat → Int32) => wdM cI q MI o.2)) 7 0 0 (kk el1_19 el2_19 el4_19 eMA_19) (wdM cI q MI eMA_19) [(1, .int el1_19)] 82 []) : ∀ (fuel : Nat) (l1_19 : Int32) (l2_19 : Int64) (l4_19 : Int32) (MA_19 : Nat → Nat → Int32), JR X (QF X (tyz cI cS) 0 0 (fun o : Int32 × (Nat → Nat → Int32) => some (.int o.1)) (fun o : Int32 × (Nat → Nat → Int32) => wdM cI q MI o.2)) 7 0 0 (lp_X5_road_19 kk MI fuel l1_19 l2_19 l4_19 MA_19) (wdM cI q MI MA_19) [(0, .ref (q 0)), (1, .int l1_19), (2, .long l2_19), (4, .int l4_19)] 19 [] := by
  intro fuel
  induction fuel with
  | zero => intro l1_19 l2_19 l4_19 MA_19; exact r_none
  | succ fu_19 ih_19 =>
    intro l1_19 l2_19 l4_19 MA_19
    unfold lp_X5_road_19
    refine r_iload (pc := 19) C 3 dX5_road_19 rfl ?_
    refine r_aload_n (pc := 21) C 0 dX5_road_21 rfl rfl ?_
    refine gf_X5_88 (pc := 22) C 0 rfl rfl dX5_road_22 ?_
    refine r_icmp_ge (pc := 25) (tgt := 82) C dX5_road_25 (by decide) ?_ ?_
    · exact r_sub [1] rfl (hk_19 l1_19 l2_19 l4_19 MA_19)
    · refine r_aload_n (pc := 28) C 0 dX5_road_28 rfl rfl ?_
      refine gf_X5_46 (pc := 29) C 0 rfl rfl dX5_road_29 ?_
      refine r_iconst (pc := 32) C dX5_road_32 (ci_0) ?_
      refine r_iload (pc := 33) C 3 dX5_road_33 rfl ?_
      refine r_iast (pc := 35) (ws' := wdM cI q MI (va_up MA_19 23 (upd (MA_19 23) (0 : Int32).toNatClampNeg l4_19))) C 13 rfl dX5_road_35 rfl ?_
      refine r_aload_n (pc := 36) C 0 dX5_road_36 rfl rfl ?_
      refine r_iconst (pc := 37) C dX5_road_37 (ci_1) ?_
      refine r_callV0 (pc := 38) (rest := []) C (m_X5_costNow (xl X) (xD X) cI cS q MI (va_up MA_19 23 (upd (MA_19 23) (0 : Int32).toNatClampNeg l4_19)) (1 : Int32)) mv_X5_213 rfl rfl rfl ⟨Nat.zero_le _, Nat.zero_le _⟩ rfl rfl (Nat.le_of_ble_eq_true rfl) dX5_road_38 (fun r38 => ?_)
      refine r_lstore (pc := 41) C dX5_road_41 (by decide) (lv' := [(5, .long r38), (0, .ref (q 0)), (1, .int l1_19), (2, .long l2_19), (4, .int l4_19)]) rfl ?_
      refine r_lload_n (pc := 43) C 3 dX5_road_43 rfl rfl ?_
      refine r_lconst (pc := 44) (v := 0) C dX5_road_44 rfl ?_
      refine r_lcmp (pc := 45) C dX5_road_45 ?_
      refine r_if_lt (pc := 46) (tgt := 56) C dX5_road_46 (by decide) ?_ ?_
      · refine r_iload (pc := 56) C 4 dX5_road_56 rfl ?_
        refine r_goto (pc := 58) (tgt := 62) C dX5_road_58 (by decide) ?_
        refine r_istore_n (pc := 62) C dX5_road_62 rfl (by decide) (lv' := [(1, .int l4_19), (5, .long r38), (0, .ref (q 0)), (2, .long l2_19), (4, .int l4_19)]) rfl ?_
        refine r_iload_n (pc := 63) C 0 dX5_road_63 rfl rfl ?_
        refine r_iload (pc := 64) C 4 dX5_road_64 rfl ?_
        refine r_icmp_ne (pc := 66) (tgt := 74) C dX5_road_66 (by decide) ?_ ?_
        · refine r_lload_n (pc := 74) C 3 dX5_road_74 rfl rfl ?_
          refine r_lstore_n (pc := 75) C dX5_road_75 rfl (by decide) (lv' := [(2, .long l2_19), (1, .int l4_19), (5, .long r38), (0, .ref (q 0)), (4, .int l4_19)]) rfl ?_
          refine r_iinc (pc := 76) C 4 dX5_road_76 rfl (ci_1) (by decide) (lv' := [(4, .int (l4_19 + (1 : Int32))), (2, .long l2_19), (1, .int l4_19), (5, .long r38), (0, .ref (q 0))]) rfl ?_
          refine r_goto (pc := 79) (tgt := 19) C dX5_road_79 (by decide) ?_
          exact r_sub [4, 2, 1, 0] rfl (ih_19 l4_19 l2_19 (l4_19 + (1 : Int32)) (va_up MA_19 23 (upd (MA_19 23) (0 : Int32).toNatClampNeg l4_19)))
        · refine r_lload (pc := 69) C 1 dX5_road_69 rfl ?_
          refine r_goto (pc := 71) (tgt := 75) C dX5_road_71 (by decide) ?_
          refine r_lstore_n (pc := 75) C dX5_road_75 rfl (by decide) (lv' := [(2, .long r38), (1, .int l4_19), (5, .long r38), (0, .ref (q 0)), (4, .int l4_19)]) rfl ?_
          refine r_iinc (pc := 76) C 4 dX5_road_76 rfl (ci_1) (by decide) (lv' := [(4, .int (l4_19 + (1 : Int32))), (2, .long r38), (1, .int l4_19), (5, .long r38), (0, .ref (q 0))]) rfl ?_
          refine r_goto (pc := 79) (tgt := 19) C dX5_road_79 (by decide) ?_
          exact r_sub [4, 2, 1, 0] rfl (ih_19 l4_19 r38 (l4_19 + (1 : Int32)) (va_up MA_19 23 (upd (MA_19 23) (0 : Int32).toNatClampNeg l4_19)))
      · refine r_lload (pc := 49) C 0 dX5_road_49 rfl ?_
        refine r_lload_n (pc := 51) C 3 dX5_road_51 rfl rfl ?_
        refine r_lcmp (pc := 52) C dX5_road_52 ?_
        refine r_if_ge (pc := 53) (tgt := 61) C dX5_road_53 (by decide) ?_ ?_
        · refine r_iload_n (pc := 61) C 2 dX5_road_61 rfl rfl ?_
          refine r_istore_n (pc := 62) C dX5_road_62 rfl (by decide) (lv' := [(1, .int l1_19), (5, .long r38), (0, .ref (q 0)), (2, .long l2_19), (4, .int l4_19)]) rfl ?_
          refine r_iload_n (pc := 63) C 0 dX5_road_63 rfl rfl ?_
          refine r_iload (pc := 64) C 4 dX5_road_64 rfl ?_
          refine r_icmp_ne (pc := 66) (tgt := 74) C dX5_road_66 (by decide) ?_ ?_
          · refine r_lload_n (pc := 74) C 3 dX5_road_74 rfl rfl ?_
            refine r_lstore_n (pc := 75) C dX5_road_75 rfl (by decide) (lv' := [(2, .long l2_19), (1, .int l1_19), (5, .long r38), (0, .ref (q 0)), (4, .int l4_19)]) rfl ?_
            refine r_iinc (pc := 76) C 4 dX5_road_76 rfl (ci_1) (by decide) (lv' := [(4, .int (l4_19 + (1 : Int32))), (2, .long l2_19), (1, .int l1_19), (5, .long r38), (0, .ref (q 0))]) rfl ?_
            refine r_goto (pc := 79) (tgt := 19) C dX5_road_79 (by decide) ?_
            exact r_sub [4, 2, 1, 0] rfl (ih_19 l1_19 l2_19 (l4_19 + (1 : Int32)) (va_up MA_19 23 (upd (MA_19 23) (0 : Int32).toNatClampNeg l4_19)))
          · refine r_lload (pc := 69) C 1 dX5_road_69 rfl ?_
            refine r_goto (pc := 71) (tgt := 75) C dX5_road_71 (by decide) ?_
            refine r_lstore_n (pc := 75) C dX5_road_75 rfl (by decide) (lv' := [(2, .long r38), (1, .int l1_19), (5, .long r38), (0, .ref (q 0)), (4, .int l4_19)]) rfl ?_
            refine r_iinc (pc := 76) C 4 dX5_road_76 rfl (ci_1) (by decide) (lv' := [(4, .int (l4_19 + (1 : Int32))), (2, .long r38), (1, .int l1_19), (5, .long r38), (0, .ref (q 0))]) rfl ?_
            refine r_goto (pc := 79) (tgt := 19) C dX5_road_79 (by decide) ?_
            exact r_sub [4, 2, 1, 0] rfl (ih_19 l1_19 r38 (l4_19 + (1 : Int32)) (va_up MA_19 23 (upd (MA_19 23) (0 : Int32).toNatClampNeg l4_19)))
        · refine r_iload (pc := 56) C 4 dX5_road_56 rfl ?_
          refine r_goto (pc := 58) (tgt := 62) C dX5_road_58 (by decide) ?_
          refine r_istore_n (pc := 62) C dX5_road_62 rfl (by decide) (lv' := [(1, .int l4_19), (5, .long r38), (0, .ref (q 0)), (2, .long l2_19), (4, .int l4_19)]) rfl ?_
          refine r_iload_n (pc := 63) C 0 dX5_road_63 rfl rfl ?_
          refine r_iload (pc := 64) C 4 dX5_road_64 rfl ?_
          refine r_icmp_ne (pc := 66) (tgt := 74) C dX5_road_66 (by decide) ?_ ?_
          · refine r_lload_n (pc := 74) C 3 dX5_road_74 rfl rfl ?_
            refine r_lstore_n (pc := 75) C dX5_road_75 rfl (by decide) (lv' := [(2, .long l2_19), (1, .int l4_19), (5, .long r38), (0, .ref (q 0)), (4, .int l4_19)]) rfl ?_
            refine r_iinc (pc := 76) C 4 dX5_road_76 rfl (ci_1) (by decide) (lv' := [(4, .int (l4_19 + (1 : Int32))), (2, .long l2_19), (1, .int l4_19), (5, .long r38), (0, .ref (q 0))]) rfl ?_
            refine r_goto (pc := 79) (tgt := 19) C dX5_road_79 (by decide) ?_
            exact r_sub [4, 2, 1, 0] rfl (ih_19 l4_19 l2_19 (l4_19 + (1 : Int32)) (va_up MA_19 23 (upd (MA_19 23) (0 : Int32).toNatClampNeg l4_19)))
          · refine r_lload (pc := 69) C 1 dX5_road_69 rfl ?_
            refine r_goto (pc := 71) (tgt := 75) C dX5_road_71 (by decide) ?_
            refine r_lstore_n (pc := 75) C dX5_road_75 rfl (by decide) (lv' := [(2, .long r38), (1, .int l4_19), (5, .long r38), (0, .ref (q 0)), (4, .int l4_19)]) rfl ?_
            refine r_iinc (pc := 76) C 4 dX5_road_76 rfl (ci_1) (by decide) (lv' := [(4, .int (l4_19 + (1 : Int32))), (2, .long r38), (1, .int l4_19), (5, .long r38), (0, .ref (q 0))]) rfl ?_
            refine r_goto (pc := 79) (tgt := 19) C dX5_road_79 (by decide) ?_
            exact r_sub [4, 2, 1, 0] rfl (ih_19 l4_19 r38 (l4_19 + (1 : Int32)) (va_up MA_19 23 (upd (MA_19 23) (0 : Int32).toNatClampNeg l4_19)))
set_option maxHeartbeats 4000000 in
set_option maxRecDepth 100000 in
theorem m_X5_road (l : Launch) (D : va_G) (cI cS : ClassId) (q : Nat → Nat) (MI : Nat → Int32) (MA : Nat → Nat → Int32) : MX l D (tyz cI cS) yX5_road cX5_road 7 (some .int) (rmz 5 118) [.ref (q 0)] (wdM cI q MI MA) (f_X5_road MI MA) (fun o : Int32 × (Nat → Nat → Int32) => some (.int o.1)) (fun o : Int32 × (Nat → Nat → Int32) => wdM cI q MI o.2) := met_of (own := RX5) (by decide) rfl (Nat.le_of_ble_eq_true rfl) (fun X hxl hxD C => by
  subst hxl
  subst hxD
  show JR X _ _ 0 0 (f_X5_road MI MA) (wdM cI q MI MA) [(0, .ref (q 0))] 0 []
  unfold f_X5_road
  refine r_aload_n (pc := 0) C 0 dX5_road_0 rfl rfl ?_
  refine gf_X5_95 (pc := 1) C 0 rfl rfl dX5_road_1 ?_
  refine r_if_ne (pc := 4) (tgt := 10) C dX5_road_4 (by decide) ?_ ?_
  · refine r_iconst (pc := 10) C dX5_road_10 (ci_0) ?_
    refine r_istore_n (pc := 11) C dX5_road_11 rfl (by decide) (lv' := [(1, .int (0 : Int32)), (0, .ref (q 0))]) rfl ?_
    refine r_ldc2 (pc := 12) C kk_X5_219 dX5_road_12 ?_
    refine r_lstore_n (pc := 15) C dX5_road_15 rfl (by decide) (lv' := [(2, .long (-1 : Int64)), (1, .int (0 : Int32)), (0, .ref (q 0))]) rfl ?_
    refine r_iconst (pc := 16) C dX5_road_16 (ci_0) ?_
    refine r_istore (pc := 17) C dX5_road_17 (by decide) (lv' := [(4, .int (0 : Int32)), (2, .long (-1 : Int64)), (1, .int (0 : Int32)), (0, .ref (q 0))]) rfl ?_
    refine r_sub [3, 2, 1, 0] rfl (wl_X5_road_19 X C q MI  _ (fun el1_19 el2_19 el4_19 eMA_19 => ?_) 1000 (0 : Int32) (-1 : Int64) (0 : Int32) MA)
    refine r_iload_n (pc := 82) C 0 dX5_road_82 rfl rfl ?_
    exact r_iret (pc := 83) C rfl rfl dX5_road_83
  · refine r_bipush (pc := 7) C dX5_road_7 (cb_m3) ?_
    exact r_iret (pc := 9) C rfl rfl dX5_road_9)
set_option maxHeartbeats 4000000 in
set_option maxRecDepth 100000 in
theorem m_X5_worth (l : Launch) (D : va_G) (cI cS : ClassId) (q : Nat → Nat) (MI : Nat → Int32) (MA : Nat → Nat → Int32) (a1 : Int32) (a2 : Int32) (a3 : Int32) (a4 : Int32) (a5 : Int32) : MX l D (tyz cI cS) yX5_worth cX5_worth 10 (some .long) (rmz 5 118) [.ref (q 0), .int a1, .int a2, .int a3, .int a4, .int a5] (wdM cI q MI MA) (f_X5_worth MI MA a1 a2 a3 a4 a5) (fun o : Int64 × (Nat → Int32) × (Nat → Nat → Int32) => some (.long o.1)) (fun o : Int64 × (Nat → Int32) × (Nat → Nat → Int32) => wdM cI q o.2.1 o.2.2) := met_of (own := RX5) (by decide) rfl (Nat.le_of_ble_eq_true rfl) (fun X hxl hxD C => by
  subst hxl
  subst hxD
  show JR X _ _ 0 0 (f_X5_worth MI MA a1 a2 a3 a4 a5) (wdM cI q MI MA) [(0, .ref (q 0)), (1, .int a1), (2, .int a2), (3, .int a3), (4, .int a4), (5, .int a5)] 0 []
  unfold f_X5_worth
  refine r_aload_n (pc := 0) C 0 dX5_worth_0 rfl rfl ?_
  refine r_iload_n (pc := 1) C 1 dX5_worth_1 rfl rfl ?_
  refine r_callV0 (pc := 2) (rest := []) C (m_X5_noSilence (xl X) (xD X) cI cS q MI MA a1) mv_X5_173 rfl rfl rfl ⟨Nat.zero_le _, Nat.zero_le _⟩ rfl rfl (Nat.le_of_ble_eq_true rfl) dX5_worth_2 (fun r2 => ?_)
  refine r_if_ne (pc := 5) (tgt := 40) C dX5_worth_5 (by decide) ?_ ?_
  · refine r_aload_n (pc := 40) C 0 dX5_worth_40 rfl rfl ?_
    refine r_callV0 (pc := 41) (rest := []) C (m_X5_refusedLong (xl X) (xD X) cI cS q MI MA) mv_X5_206 rfl rfl rfl ⟨Nat.zero_le _, Nat.zero_le _⟩ rfl rfl (Nat.le_of_ble_eq_true rfl) dX5_worth_41 (fun r41 => ?_)
    exact r_lret (pc := 44) C rfl rfl dX5_worth_44
  · refine r_iload_n (pc := 8) C 2 dX5_worth_8 rfl rfl ?_
    refine r_callSr (pc := 9) (rest := []) C (m_X5_noSheet (xl X) (xD X) cI cS a2) ms_X5_137 rfl ⟨Nat.zero_le _, Nat.zero_le _⟩ rfl rfl (Nat.le_of_ble_eq_true rfl) dX5_worth_9 (fun r9 => ?_)
    refine r_if_ne (pc := 12) (tgt := 40) C dX5_worth_12 (by decide) ?_ ?_
    · refine r_aload_n (pc := 40) C 0 dX5_worth_40 rfl rfl ?_
      refine r_callV0 (pc := 41) (rest := []) C (m_X5_refusedLong (xl X) (xD X) cI cS q MI MA) mv_X5_206 rfl rfl rfl ⟨Nat.zero_le _, Nat.zero_le _⟩ rfl rfl (Nat.le_of_ble_eq_true rfl) dX5_worth_41 (fun r41 => ?_)
      exact r_lret (pc := 44) C rfl rfl dX5_worth_44
    · refine r_iload_n (pc := 15) C 3 dX5_worth_15 rfl rfl ?_
      refine r_i2l (pc := 16) C dX5_worth_16 ?_
      refine r_lconst (pc := 17) (v := 0) C dX5_worth_17 rfl ?_
      refine r_ldc2 (pc := 18) C kk_X5_98 dX5_worth_18 ?_
      refine r_callSr (pc := 21) (rest := []) C (m_X5_in (xl X) (xD X) cI cS a3.toInt64 (0 : Int64) (2 : Int64)) ms_X5_91 rfl ⟨Nat.zero_le _, Nat.zero_le _⟩ rfl rfl (Nat.le_of_ble_eq_true rfl) dX5_worth_21 (fun r21 => ?_)
      refine r_if_eq (pc := 24) (tgt := 40) C dX5_worth_24 (by decide) ?_ ?_
      · refine r_aload_n (pc := 40) C 0 dX5_worth_40 rfl rfl ?_
        refine r_callV0 (pc := 41) (rest := []) C (m_X5_refusedLong (xl X) (xD X) cI cS q MI MA) mv_X5_206 rfl rfl rfl ⟨Nat.zero_le _, Nat.zero_le _⟩ rfl rfl (Nat.le_of_ble_eq_true rfl) dX5_worth_41 (fun r41 => ?_)
        exact r_lret (pc := 44) C rfl rfl dX5_worth_44
      · refine r_iload (pc := 27) C 5 dX5_worth_27 rfl ?_
        refine r_i2l (pc := 29) C dX5_worth_29 ?_
        refine r_lconst (pc := 30) (v := 0) C dX5_worth_30 rfl ?_
        refine r_ldc2 (pc := 31) C kk_X5_204 dX5_worth_31 ?_
        refine r_callSr (pc := 34) (rest := []) C (m_X5_in (xl X) (xD X) cI cS a5.toInt64 (0 : Int64) (8 : Int64)) ms_X5_91 rfl ⟨Nat.zero_le _, Nat.zero_le _⟩ rfl rfl (Nat.le_of_ble_eq_true rfl) dX5_worth_34 (fun r34 => ?_)
        refine r_if_ne (pc := 37) (tgt := 45) C dX5_worth_37 (by decide) ?_ ?_
        · refine r_aload_n (pc := 45) C 0 dX5_worth_45 rfl rfl ?_
          refine r_iload_n (pc := 46) C 2 dX5_worth_46 rfl rfl ?_
          refine r_iload_n (pc := 47) C 3 dX5_worth_47 rfl rfl ?_
          refine r_iload (pc := 48) C 4 dX5_worth_48 rfl ?_
          refine r_iload (pc := 50) C 5 dX5_worth_50 rfl ?_
          refine r_callV0 (pc := 52) (rest := []) C (m_X5_wayBarred (xl X) (xD X) cI cS q MI MA a2 a3 a4 a5) mv_X5_209 rfl rfl rfl ⟨Nat.zero_le _, Nat.zero_le _⟩ rfl rfl (Nat.le_of_ble_eq_true rfl) dX5_worth_52 (fun r52 => ?_)
          refine r_if_ge (pc := 55) (tgt := 62) C dX5_worth_55 (by decide) ?_ ?_
          · refine r_aload_n (pc := 62) C 0 dX5_worth_62 rfl rfl ?_
            refine r_iload (pc := 63) C 5 dX5_worth_63 rfl ?_
            refine r_callV0 (pc := 65) (rest := []) C (m_X5_costNow (xl X) (xD X) cI cS q r52.2.1 r52.2.2 a5) mv_X5_213 rfl rfl rfl ⟨Nat.zero_le _, Nat.zero_le _⟩ rfl rfl (Nat.le_of_ble_eq_true rfl) dX5_worth_65 (fun r65 => ?_)
            refine r_lstore (pc := 68) C dX5_worth_68 (by decide) (lv' := [(6, .long r65), (0, .ref (q 0)), (1, .int a1), (2, .int a2), (3, .int a3), (4, .int a4), (5, .int a5)]) rfl ?_
            refine r_aload_n (pc := 70) C 1 dX5_worth_70 rfl rfl ?_
            refine r_iload_n (pc := 71) C 2 dX5_worth_71 rfl rfl ?_
            refine pf_X5_73 (pc := 72) (ws' := wdM cI q (upd r52.2.1 13 a1) r52.2.2) C 0 rfl rfl dX5_worth_72 rfl ?_
            refine r_lload (pc := 75) C 0 dX5_worth_75 rfl ?_
            refine r_aload_n (pc := 77) C 1 dX5_worth_77 rfl rfl ?_
            refine r_iload (pc := 78) C 6 dX5_worth_78 rfl ?_
            refine r_callV0 (pc := 80) (rest := [.long r65]) C (m_X5_costNow (xl X) (xD X) cI cS q (upd r52.2.1 13 a1) r52.2.2 a5) mv_X5_213 rfl rfl rfl ⟨Nat.zero_le _, Nat.zero_le _⟩ rfl rfl (Nat.le_of_ble_eq_true rfl) dX5_worth_80 (fun r80 => ?_)
            refine r_lsub (pc := 83) C dX5_worth_83 ?_
            refine r_bipush (pc := 84) C dX5_worth_84 (cb_8) ?_
            refine r_iload (pc := 86) C 6 dX5_worth_86 rfl ?_
            refine r_isub (pc := 88) C dX5_worth_88 ?_
            refine r_callSr (pc := 89) (rest := [.long (r65 - r80)]) C (m_X5_tens (xl X) (xD X) cI cS ((8 : Int32) - a5)) ms_X5_196 rfl ⟨Nat.zero_le _, Nat.zero_le _⟩ rfl rfl (Nat.le_of_ble_eq_true rfl) dX5_worth_89 (fun r89 => ?_)
            refine r_lmul (pc := 92) C dX5_worth_92 ?_
            refine r_lstore (pc := 93) C dX5_worth_93 (by decide) (lv' := [(8, .long ((r65 - r80) * r89)), (6, .long r65), (0, .ref (q 0)), (1, .int a1), (2, .int a2), (3, .int a3), (4, .int a4), (5, .int a5)]) rfl ?_
            refine r_aload_n (pc := 95) C 2 dX5_worth_95 rfl rfl ?_
            refine r_bipush (pc := 96) C dX5_worth_96 (cb_m9) ?_
            refine pf_X5_73 (pc := 98) (ws' := wdM cI q (upd (upd r52.2.1 13 a1) 13 (-9 : Int32)) r52.2.2) C 0 rfl rfl dX5_worth_98 rfl ?_
            refine r_lload (pc := 101) C 0 dX5_worth_101 rfl ?_
            exact r_lret (pc := 103) C rfl rfl dX5_worth_103
          · refine r_callSr (pc := 58) (rest := []) C (m_X5_lost (xl X) (xD X) cI cS) ms_X5_84 rfl ⟨Nat.zero_le _, Nat.zero_le _⟩ rfl rfl (Nat.le_of_ble_eq_true rfl) dX5_worth_58 (fun r58 => ?_)
            exact r_lret (pc := 61) C rfl rfl dX5_worth_61
        · refine r_aload_n (pc := 40) C 0 dX5_worth_40 rfl rfl ?_
          refine r_callV0 (pc := 41) (rest := []) C (m_X5_refusedLong (xl X) (xD X) cI cS q MI MA) mv_X5_206 rfl rfl rfl ⟨Nat.zero_le _, Nat.zero_le _⟩ rfl rfl (Nat.le_of_ble_eq_true rfl) dX5_worth_41 (fun r41 => ?_)
          exact r_lret (pc := 44) C rfl rfl dX5_worth_44)
set_option maxHeartbeats 4000000 in
set_option maxRecDepth 100000 in
theorem m_X5_reading (l : Launch) (D : va_G) (cI cS : ClassId) (q : Nat → Nat) (MI : Nat → Int32) (MA : Nat → Nat → Int32) (a1 : Int32) (a2 : Int32) : MX l D (tyz cI cS) yX5_reading cX5_reading 3 (some .int) (rmz 2 46) [.ref (q 0), .int a1, .int a2] (wdM cI q MI MA) (f_X5_reading MI MA a1 a2) (fun o : Int32 × (Nat → Int32) × (Nat → Nat → Int32) => some (.int o.1)) (fun o : Int32 × (Nat → Int32) × (Nat → Nat → Int32) => wdM cI q o.2.1 o.2.2) := met_of (own := RX5) (by decide) rfl (Nat.le_of_ble_eq_true rfl) (fun X hxl hxD C => by
  subst hxl
  subst hxD
  show JR X _ _ 0 0 (f_X5_reading MI MA a1 a2) (wdM cI q MI MA) [(0, .ref (q 0)), (1, .int a1), (2, .int a2)] 0 []
  unfold f_X5_reading
  refine r_aload_n (pc := 0) C 0 dX5_reading_0 rfl rfl ?_
  refine r_iload_n (pc := 1) C 1 dX5_reading_1 rfl rfl ?_
  refine r_callV0 (pc := 2) (rest := []) C (m_X5_noPost (xl X) (xD X) cI cS q MI MA a1) mv_X5_170 rfl rfl rfl ⟨Nat.zero_le _, Nat.zero_le _⟩ rfl rfl (Nat.le_of_ble_eq_true rfl) dX5_reading_2 (fun r2 => ?_)
  refine r_if_eq (pc := 5) (tgt := 10) C dX5_reading_5 (by decide) ?_ ?_
  · refine r_iload_n (pc := 10) C 2 dX5_reading_10 rfl rfl ?_
    refine r_i2l (pc := 11) C dX5_reading_11 ?_
    refine r_lconst (pc := 12) (v := 0) C dX5_reading_12 rfl ?_
    refine r_ldc2 (pc := 13) C kk_X5_221 dX5_reading_13 ?_
    refine r_callSr (pc := 16) (rest := []) C (m_X5_in (xl X) (xD X) cI cS a2.toInt64 (0 : Int64) (99999 : Int64)) ms_X5_91 rfl ⟨Nat.zero_le _, Nat.zero_le _⟩ rfl rfl (Nat.le_of_ble_eq_true rfl) dX5_reading_16 (fun r16 => ?_)
    refine r_if_ne (pc := 19) (tgt := 25) C dX5_reading_19 (by decide) ?_ ?_
    · refine r_aload_n (pc := 25) C 0 dX5_reading_25 rfl rfl ?_
      refine gf_X5_164 (pc := 26) C 0 rfl rfl dX5_reading_26 ?_
      refine r_bipush (pc := 29) C dX5_reading_29 (cb_8) ?_
      refine r_icmp_ne (pc := 31) (tgt := 37) C dX5_reading_31 (by decide) ?_ ?_
      · refine r_aload_n (pc := 37) C 0 dX5_reading_37 rfl rfl ?_
        refine gf_X5_55 (pc := 38) C 0 rfl rfl dX5_reading_38 ?_
        refine r_aload_n (pc := 41) C 0 dX5_reading_41 rfl rfl ?_
        refine gf_X5_164 (pc := 42) C 0 rfl rfl dX5_reading_42 ?_
        refine r_iload_n (pc := 45) C 1 dX5_reading_45 rfl rfl ?_
        refine r_iast (pc := 46) (ws' := wdM cI q MI (va_up MA 27 (upd (MA 27) (MI 26).toNatClampNeg a1))) C 16 rfl dX5_reading_46 rfl ?_
        refine r_aload_n (pc := 47) C 0 dX5_reading_47 rfl rfl ?_
        refine gf_X5_58 (pc := 48) C 0 rfl rfl dX5_reading_48 ?_
        refine r_aload_n (pc := 51) C 0 dX5_reading_51 rfl rfl ?_
        refine gf_X5_164 (pc := 52) C 0 rfl rfl dX5_reading_52 ?_
        refine r_iload_n (pc := 55) C 2 dX5_reading_55 rfl rfl ?_
        refine r_iast (pc := 56) (ws' := wdM cI q MI (va_up (va_up MA 27 (upd (MA 27) (MI 26).toNatClampNeg a1)) 28 (upd ((va_up MA 27 (upd (MA 27) (MI 26).toNatClampNeg a1)) 28) (MI 26).toNatClampNeg a2))) C 17 rfl dX5_reading_56 rfl ?_
        refine r_aload_n (pc := 57) C 0 dX5_reading_57 rfl rfl ?_
        refine r_dup (pc := 58) C dX5_reading_58 rfl ?_
        refine gf_X5_164 (pc := 59) C 0 rfl rfl dX5_reading_59 ?_
        refine r_iconst (pc := 62) C dX5_reading_62 (ci_1) ?_
        refine r_iadd (pc := 63) C dX5_reading_63 ?_
        refine pf_X5_164 (pc := 64) (ws' := wdM cI q (upd MI 26 ((MI 26) + (1 : Int32))) (va_up (va_up MA 27 (upd (MA 27) (MI 26).toNatClampNeg a1)) 28 (upd ((va_up MA 27 (upd (MA 27) (MI 26).toNatClampNeg a1)) 28) (MI 26).toNatClampNeg a2))) C 0 rfl rfl dX5_reading_64 rfl ?_
        refine r_aload_n (pc := 67) C 0 dX5_reading_67 rfl rfl ?_
        refine gf_X5_164 (pc := 68) C 0 rfl rfl dX5_reading_68 ?_
        refine r_iconst (pc := 71) C dX5_reading_71 (ci_1) ?_
        refine r_isub (pc := 72) C dX5_reading_72 ?_
        exact r_iret (pc := 73) C rfl rfl dX5_reading_73
      · refine r_bipush (pc := 34) C dX5_reading_34 (cb_m4) ?_
        exact r_iret (pc := 36) C rfl rfl dX5_reading_36
    · refine r_bipush (pc := 22) C dX5_reading_22 (cb_m2) ?_
      exact r_iret (pc := 24) C rfl rfl dX5_reading_24
  · refine r_iconst (pc := 8) C dX5_reading_8 (ci_m1) ?_
    exact r_iret (pc := 9) C rfl rfl dX5_reading_9)
set_option maxHeartbeats 4000000 in
set_option maxRecDepth 100000 in
theorem m_X5_back (l : Launch) (D : va_G) (cI cS : ClassId) (q : Nat → Nat) (MI : Nat → Int32) (MA : Nat → Nat → Int32) (a1 : Int32) : MX l D (tyz cI cS) yX5_back cX5_back 2 (some .int) (rmz 1 25) [.ref (q 0), .int a1] (wdM cI q MI MA) (f_X5_back MI a1) (fun o : Int32 × (Nat → Int32) => some (.int o.1)) (fun o : Int32 × (Nat → Int32) => wdM cI q o.2 MA) := met_of (own := RX5) (by decide) rfl (Nat.le_of_ble_eq_true rfl) (fun X hxl hxD C => by
  subst hxl
  subst hxD
  show JR X _ _ 0 0 (f_X5_back MI a1) (wdM cI q MI MA) [(0, .ref (q 0)), (1, .int a1)] 0 []
  unfold f_X5_back
  refine r_iload_n (pc := 0) C 1 dX5_back_0 rfl rfl ?_
  refine r_i2l (pc := 1) C dX5_back_1 ?_
  refine r_lconst (pc := 2) (v := 0) C dX5_back_2 rfl ?_
  refine r_aload_n (pc := 3) C 0 dX5_back_3 rfl rfl ?_
  refine gf_X5_164 (pc := 4) C 0 rfl rfl dX5_back_4 ?_
  refine r_i2l (pc := 7) C dX5_back_7 ?_
  refine r_callSr (pc := 8) (rest := []) C (m_X5_in (xl X) (xD X) cI cS a1.toInt64 (0 : Int64) ((MI 26).toInt64)) ms_X5_91 rfl ⟨Nat.zero_le _, Nat.zero_le _⟩ rfl rfl (Nat.le_of_ble_eq_true rfl) dX5_back_8 (fun r8 => ?_)
  refine r_if_ne (pc := 11) (tgt := 17) C dX5_back_11 (by decide) ?_ ?_
  · refine r_aload_n (pc := 17) C 0 dX5_back_17 rfl rfl ?_
    refine r_dup (pc := 18) C dX5_back_18 rfl ?_
    refine gf_X5_164 (pc := 19) C 0 rfl rfl dX5_back_19 ?_
    refine r_iload_n (pc := 22) C 1 dX5_back_22 rfl rfl ?_
    refine r_isub (pc := 23) C dX5_back_23 ?_
    refine pf_X5_164 (pc := 24) (ws' := wdM cI q (upd MI 26 ((MI 26) - a1)) MA) C 0 rfl rfl dX5_back_24 rfl ?_
    refine r_aload_n (pc := 27) C 0 dX5_back_27 rfl rfl ?_
    refine gf_X5_164 (pc := 28) C 0 rfl rfl dX5_back_28 ?_
    exact r_iret (pc := 31) C rfl rfl dX5_back_31
  · refine r_bipush (pc := 14) C dX5_back_14 (cb_m2) ?_
    exact r_iret (pc := 16) C rfl rfl dX5_back_16)
set_option maxHeartbeats 4000000 in
set_option maxRecDepth 100000 in
theorem wl_X5_areSo_4 {cI cS : ClassId} (X : CX) (C : Cx X RX5 cX5_areSo 3 (some .boolean) (rmz 4 90) (tyz cI cS)) (q : Nat → Nat) (MI : Nat → Int32) (MA : Nat → Nat → Int32)  (kk : Int32 → Int32 → Option (Int32)) (hk_4 : ∀ (el1_4 : Int32) (el2_4 : Int32), JR X (QF X (tyz cI cS) 0 0 (fun o : Int32 => some (.int o)) (fun o : Int32 => wdM cI q MI MA)) 3 0 0 (kk el1_4 el2_4) (wdM cI q MI MA) [(1, .int el1_4)] 47 []) : ∀ (fuel : Nat) (l1_4 : Int32) (l2_4 : Int32), JR X (QF X (tyz cI cS) 0 0 (fun o : Int32 => some (.int o)) (fun o : Int32 => wdM cI q MI MA)) 3 0 0 (lp_X5_areSo_4 kk MI MA fuel l1_4 l2_4) (wdM cI q MI MA) [(0, .ref (q 0)), (1, .int l1_4), (2, .int l2_4)] 4 [] := by
  intro fuel
  induction fuel with
  | zero => intro l1_4 l2_4; exact r_none
  | succ fu_4 ih_4 =>
    intro l1_4 l2_4
    unfold lp_X5_areSo_4
    refine r_iload_n (pc := 4) C 2 dX5_areSo_4 rfl rfl ?_
    refine r_aload_n (pc := 5) C 0 dX5_areSo_5 rfl rfl ?_
    refine gf_X5_164 (pc := 6) C 0 rfl rfl dX5_areSo_6 ?_
    refine r_icmp_ge (pc := 9) (tgt := 47) C dX5_areSo_9 (by decide) ?_ ?_
    · exact r_sub [1] rfl (hk_4 l1_4 l2_4)
    · refine r_iload_n (pc := 12) C 1 dX5_areSo_12 rfl rfl ?_
      refine r_if_eq (pc := 13) (tgt := 39) C dX5_areSo_13 (by decide) ?_ ?_
      · refine r_iconst (pc := 39) C dX5_areSo_39 (ci_0) ?_
        refine r_istore_n (pc := 40) C dX5_areSo_40 rfl (by decide) (lv' := [(1, .int (0 : Int32)), (0, .ref (q 0)), (2, .int l2_4)]) rfl ?_
        refine r_iinc (pc := 41) C 2 dX5_areSo_41 rfl (ci_1) (by decide) (lv' := [(2, .int (l2_4 + (1 : Int32))), (1, .int (0 : Int32)), (0, .ref (q 0))]) rfl ?_
        refine r_goto (pc := 44) (tgt := 4) C dX5_areSo_44 (by decide) ?_
        exact r_sub [2, 1, 0] rfl (ih_4 (0 : Int32) (l2_4 + (1 : Int32)))
      · refine r_aload_n (pc := 16) C 0 dX5_areSo_16 rfl rfl ?_
        refine r_aload_n (pc := 17) C 0 dX5_areSo_17 rfl rfl ?_
        refine gf_X5_55 (pc := 18) C 0 rfl rfl dX5_areSo_18 ?_
        refine r_iload_n (pc := 21) C 2 dX5_areSo_21 rfl rfl ?_
        refine r_iald (pc := 22) C 16 rfl dX5_areSo_22 ?_
        refine r_callV0 (pc := 23) (rest := []) C (m_X5_dutyAt (xl X) (xD X) cI cS q MI MA (MA 27 l2_4.toNatClampNeg)) mv_X5_190 rfl rfl rfl ⟨Nat.zero_le _, Nat.zero_le _⟩ rfl rfl (Nat.le_of_ble_eq_true rfl) dX5_areSo_23 (fun r23 => ?_)
        refine r_aload_n (pc := 26) C 0 dX5_areSo_26 rfl rfl ?_
        refine gf_X5_58 (pc := 27) C 0 rfl rfl dX5_areSo_27 ?_
        refine r_iload_n (pc := 30) C 2 dX5_areSo_30 rfl rfl ?_
        refine r_iald (pc := 31) C 17 rfl dX5_areSo_31 ?_
        refine r_icmp_ne (pc := 32) (tgt := 39) C dX5_areSo_32 (by decide) ?_ ?_
        · refine r_iconst (pc := 39) C dX5_areSo_39 (ci_0) ?_
          refine r_istore_n (pc := 40) C dX5_areSo_40 rfl (by decide) (lv' := [(1, .int (0 : Int32)), (0, .ref (q 0)), (2, .int l2_4)]) rfl ?_
          refine r_iinc (pc := 41) C 2 dX5_areSo_41 rfl (ci_1) (by decide) (lv' := [(2, .int (l2_4 + (1 : Int32))), (1, .int (0 : Int32)), (0, .ref (q 0))]) rfl ?_
          refine r_goto (pc := 44) (tgt := 4) C dX5_areSo_44 (by decide) ?_
          exact r_sub [2, 1, 0] rfl (ih_4 (0 : Int32) (l2_4 + (1 : Int32)))
        · refine r_iconst (pc := 35) C dX5_areSo_35 (ci_1) ?_
          refine r_goto (pc := 36) (tgt := 40) C dX5_areSo_36 (by decide) ?_
          refine r_istore_n (pc := 40) C dX5_areSo_40 rfl (by decide) (lv' := [(1, .int (1 : Int32)), (0, .ref (q 0)), (2, .int l2_4)]) rfl ?_
          refine r_iinc (pc := 41) C 2 dX5_areSo_41 rfl (ci_1) (by decide) (lv' := [(2, .int (l2_4 + (1 : Int32))), (1, .int (1 : Int32)), (0, .ref (q 0))]) rfl ?_
          refine r_goto (pc := 44) (tgt := 4) C dX5_areSo_44 (by decide) ?_
          exact r_sub [2, 1, 0] rfl (ih_4 (1 : Int32) (l2_4 + (1 : Int32)))
set_option maxHeartbeats 4000000 in
set_option maxRecDepth 100000 in
theorem m_X5_areSo (l : Launch) (D : va_G) (cI cS : ClassId) (q : Nat → Nat) (MI : Nat → Int32) (MA : Nat → Nat → Int32) : MX l D (tyz cI cS) yX5_areSo cX5_areSo 3 (some .boolean) (rmz 4 90) [.ref (q 0)] (wdM cI q MI MA) (f_X5_areSo MI MA) (fun o : Int32 => some (.int o)) (fun o : Int32 => wdM cI q MI MA) := met_of (own := RX5) (by decide) rfl (Nat.le_of_ble_eq_true rfl) (fun X hxl hxD C => by
  subst hxl
  subst hxD
  show JR X _ _ 0 0 (f_X5_areSo MI MA) (wdM cI q MI MA) [(0, .ref (q 0))] 0 []
  unfold f_X5_areSo
  refine r_iconst (pc := 0) C dX5_areSo_0 (ci_1) ?_
  refine r_istore_n (pc := 1) C dX5_areSo_1 rfl (by decide) (lv' := [(1, .int (1 : Int32)), (0, .ref (q 0))]) rfl ?_
  refine r_iconst (pc := 2) C dX5_areSo_2 (ci_0) ?_
  refine r_istore_n (pc := 3) C dX5_areSo_3 rfl (by decide) (lv' := [(2, .int (0 : Int32)), (1, .int (1 : Int32)), (0, .ref (q 0))]) rfl ?_
  refine r_sub [2, 1, 0] rfl (wl_X5_areSo_4 X C q MI MA  _ (fun el1_4 el2_4 => ?_) 1000 (1 : Int32) (0 : Int32))
  refine r_iload_n (pc := 47) C 0 dX5_areSo_47 rfl rfl ?_
  exact r_zretG (pc := 48) C rfl rfl dX5_areSo_48)
set_option maxHeartbeats 4000000 in
set_option maxRecDepth 100000 in
theorem wl_X5_said_37 {cI cS : ClassId} (X : CX) (C : Cx X RX5 cX5_said 6 (some .int) (rmz 5 112) (tyz cI cS)) (q : Nat → Nat) (MI : Nat → Int32) (MA : Nat → Nat → Int32) (a1 : Int32)  (kk : Int32 → Int32 → Int32 → (Nat → Int32) → Option (Int32 × (Nat → Int32))) (hk_37 : ∀ (el3_37 : Int32) (el4_37 : Int32) (el5_37 : Int32) (eMI_37 : Nat → Int32), JR X (QF X (tyz cI cS) 0 0 (fun o : Int32 × (Nat → Int32) => some (.int o.1)) (fun o : Int32 × (Nat → Int32) => wdM cI q o.2 MA)) 6 0 0 (kk el3_37 el4_37 el5_37 eMI_37) (wdM cI q eMI_37 MA) [(0, .ref (q 0)), (1, .int a1), (2, .int (MI 10)), (3, .int el3_37), (4, .int el4_37)] 82 []) : ∀ (fuel : Nat) (l3_37 : Int32) (l4_37 : Int32) (l5_37 : Int32) (MI_37 : Nat → Int32), JR X (QF X (tyz cI cS) 0 0 (fun o : Int32 × (Nat → Int32) => some (.int o.1)) (fun o : Int32 × (Nat → Int32) => wdM cI q o.2 MA)) 6 0 0 (lp_X5_said_37 kk MA fuel l3_37 l4_37 l5_37 MI_37) (wdM cI q MI_37 MA) [(0, .ref (q 0)), (1, .int a1), (2, .int (MI 10)), (3, .int l3_37), (4, .int l4_37), (5, .int l5_37)] 37 [] := by
  intro fuel
  induction fuel with
  | zero => intro l3_37 l4_37 l5_37 MI_37; exact r_none
  | succ fu_37 ih_37 =>
    intro l3_37 l4_37 l5_37 MI_37
    unfold lp_X5_said_37
    refine r_iload (pc := 37) C 5 dX5_said_37 rfl ?_
    refine r_aload_n (pc := 39) C 0 dX5_said_39 rfl rfl ?_
    refine r_callV0 (pc := 40) (rest := [.int l5_37]) C (m_X5_all (xl X) (xD X) cI cS q MI_37 MA) mv_X5_154 rfl rfl rfl ⟨Nat.zero_le _, Nat.zero_le _⟩ rfl rfl (Nat.le_of_ble_eq_true rfl) dX5_said_40 (fun r40 => ?_)
    refine r_icmp_gt (pc := 43) (tgt := 82) C dX5_said_43 (by decide) ?_ ?_
    · exact r_sub [0, 1, 2, 3, 4] rfl (hk_37 l3_37 l4_37 l5_37 MI_37)
    · refine r_aload_n (pc := 46) C 0 dX5_said_46 rfl rfl ?_
      refine r_iload (pc := 47) C 5 dX5_said_47 rfl ?_
      refine pf_X5_158 (pc := 49) (ws' := wdM cI q (upd MI_37 10 l5_37) MA) C 0 rfl rfl dX5_said_49 rfl ?_
      refine r_aload_n (pc := 52) C 0 dX5_said_52 rfl rfl ?_
      refine r_callV0 (pc := 53) (rest := []) C (m_X5_areSo (xl X) (xD X) cI cS q (upd MI_37 10 l5_37) MA) mv_X5_223 rfl rfl rfl ⟨Nat.zero_le _, Nat.zero_le _⟩ rfl rfl (Nat.le_of_ble_eq_true rfl) dX5_said_53 (fun r53 => ?_)
      refine r_if_eq (pc := 56) (tgt := 76) C dX5_said_56 (by decide) ?_ ?_
      · refine r_iinc (pc := 76) C 5 dX5_said_76 rfl (ci_1) (by decide) (lv' := [(5, .int (l5_37 + (1 : Int32))), (0, .ref (q 0)), (1, .int a1), (2, .int (MI 10)), (3, .int l3_37), (4, .int l4_37)]) rfl ?_
        refine r_goto (pc := 79) (tgt := 37) C dX5_said_79 (by decide) ?_
        exact r_sub [1, 2, 3, 4, 5, 0] rfl (ih_37 l3_37 l4_37 (l5_37 + (1 : Int32)) (upd MI_37 10 l5_37))
      · refine r_iinc (pc := 59) C 3 dX5_said_59 rfl (ci_1) (by decide) (lv' := [(3, .int (l3_37 + (1 : Int32))), (0, .ref (q 0)), (1, .int a1), (2, .int (MI 10)), (4, .int l4_37), (5, .int l5_37)]) rfl ?_
        refine r_iload (pc := 62) C 4 dX5_said_62 rfl ?_
        refine r_if_ge (pc := 64) (tgt := 72) C dX5_said_64 (by decide) ?_ ?_
        · refine r_iload (pc := 72) C 4 dX5_said_72 rfl ?_
          refine r_istore (pc := 74) C dX5_said_74 (by decide) (lv' := [(4, .int l4_37), (3, .int (l3_37 + (1 : Int32))), (0, .ref (q 0)), (1, .int a1), (2, .int (MI 10)), (5, .int l5_37)]) rfl ?_
          refine r_iinc (pc := 76) C 5 dX5_said_76 rfl (ci_1) (by decide) (lv' := [(5, .int (l5_37 + (1 : Int32))), (4, .int l4_37), (3, .int (l3_37 + (1 : Int32))), (0, .ref (q 0)), (1, .int a1), (2, .int (MI 10))]) rfl ?_
          refine r_goto (pc := 79) (tgt := 37) C dX5_said_79 (by decide) ?_
          exact r_sub [3, 4, 5, 2, 1, 0] rfl (ih_37 (l3_37 + (1 : Int32)) l4_37 (l5_37 + (1 : Int32)) (upd MI_37 10 l5_37))
        · refine r_iload (pc := 67) C 5 dX5_said_67 rfl ?_
          refine r_goto (pc := 69) (tgt := 74) C dX5_said_69 (by decide) ?_
          refine r_istore (pc := 74) C dX5_said_74 (by decide) (lv' := [(4, .int l5_37), (3, .int (l3_37 + (1 : Int32))), (0, .ref (q 0)), (1, .int a1), (2, .int (MI 10)), (5, .int l5_37)]) rfl ?_
          refine r_iinc (pc := 76) C 5 dX5_said_76 rfl (ci_1) (by decide) (lv' := [(5, .int (l5_37 + (1 : Int32))), (4, .int l5_37), (3, .int (l3_37 + (1 : Int32))), (0, .ref (q 0)), (1, .int a1), (2, .int (MI 10))]) rfl ?_
          refine r_goto (pc := 79) (tgt := 37) C dX5_said_79 (by decide) ?_
          exact r_sub [3, 4, 5, 2, 1, 0] rfl (ih_37 (l3_37 + (1 : Int32)) l5_37 (l5_37 + (1 : Int32)) (upd MI_37 10 l5_37))
set_option maxHeartbeats 4000000 in
set_option maxRecDepth 100000 in
theorem m_X5_said (l : Launch) (D : va_G) (cI cS : ClassId) (q : Nat → Nat) (MI : Nat → Int32) (MA : Nat → Nat → Int32) (a1 : Int32) : MX l D (tyz cI cS) yX5_said cX5_said 6 (some .int) (rmz 5 112) [.ref (q 0), .int a1] (wdM cI q MI MA) (f_X5_said MI MA a1) (fun o : Int32 × (Nat → Int32) => some (.int o.1)) (fun o : Int32 × (Nat → Int32) => wdM cI q o.2 MA) := met_of (own := RX5) (by decide) rfl (Nat.le_of_ble_eq_true rfl) (fun X hxl hxD C => by
  subst hxl
  subst hxD
  show JR X _ _ 0 0 (f_X5_said MI MA a1) (wdM cI q MI MA) [(0, .ref (q 0)), (1, .int a1)] 0 []
  unfold f_X5_said
  refine r_iload_n (pc := 0) C 1 dX5_said_0 rfl rfl ?_
  refine r_i2l (pc := 1) C dX5_said_1 ?_
  refine r_lconst (pc := 2) (v := 0) C dX5_said_2 rfl ?_
  refine r_lconst (pc := 3) (v := 1) C dX5_said_3 rfl ?_
  refine r_callSr (pc := 4) (rest := []) C (m_X5_in (xl X) (xD X) cI cS a1.toInt64 (0 : Int64) (1 : Int64)) ms_X5_91 rfl ⟨Nat.zero_le _, Nat.zero_le _⟩ rfl rfl (Nat.le_of_ble_eq_true rfl) dX5_said_4 (fun r4 => ?_)
  refine r_if_ne (pc := 7) (tgt := 13) C dX5_said_7 (by decide) ?_ ?_
  · refine r_aload_n (pc := 13) C 0 dX5_said_13 rfl rfl ?_
    refine gf_X5_95 (pc := 14) C 0 rfl rfl dX5_said_14 ?_
    refine r_if_ne (pc := 17) (tgt := 23) C dX5_said_17 (by decide) ?_ ?_
    · refine r_aload_n (pc := 23) C 0 dX5_said_23 rfl rfl ?_
      refine gf_X5_158 (pc := 24) C 0 rfl rfl dX5_said_24 ?_
      refine r_istore_n (pc := 27) C dX5_said_27 rfl (by decide) (lv' := [(2, .int (MI 10)), (0, .ref (q 0)), (1, .int a1)]) rfl ?_
      refine r_iconst (pc := 28) C dX5_said_28 (ci_0) ?_
      refine r_istore_n (pc := 29) C dX5_said_29 rfl (by decide) (lv' := [(3, .int (0 : Int32)), (2, .int (MI 10)), (0, .ref (q 0)), (1, .int a1)]) rfl ?_
      refine r_bipush (pc := 30) C dX5_said_30 (cb_m9) ?_
      refine r_istore (pc := 32) C dX5_said_32 (by decide) (lv' := [(4, .int (-9 : Int32)), (3, .int (0 : Int32)), (2, .int (MI 10)), (0, .ref (q 0)), (1, .int a1)]) rfl ?_
      refine r_iconst (pc := 34) C dX5_said_34 (ci_0) ?_
      refine r_istore (pc := 35) C dX5_said_35 (by decide) (lv' := [(5, .int (0 : Int32)), (4, .int (-9 : Int32)), (3, .int (0 : Int32)), (2, .int (MI 10)), (0, .ref (q 0)), (1, .int a1)]) rfl ?_
      refine r_sub [4, 5, 3, 2, 1, 0] rfl (wl_X5_said_37 X C q MI MA a1  _ (fun el3_37 el4_37 el5_37 eMI_37 => ?_) 1000 (0 : Int32) (-9 : Int32) (0 : Int32) MI)
      refine r_aload_n (pc := 82) C 0 dX5_said_82 rfl rfl ?_
      refine r_iload_n (pc := 83) C 2 dX5_said_83 rfl rfl ?_
      refine pf_X5_158 (pc := 84) (ws' := wdM cI q (upd eMI_37 10 (MI 10)) MA) C 0 rfl rfl dX5_said_84 rfl ?_
      refine r_iload_n (pc := 87) C 1 dX5_said_87 rfl rfl ?_
      refine r_if_ne (pc := 88) (tgt := 95) C dX5_said_88 (by decide) ?_ ?_
      · refine r_iload (pc := 95) C 4 dX5_said_95 rfl ?_
        exact r_iret (pc := 97) C rfl rfl dX5_said_97
      · refine r_iload_n (pc := 91) C 3 dX5_said_91 rfl rfl ?_
        refine r_goto (pc := 92) (tgt := 97) C dX5_said_92 (by decide) ?_
        exact r_iret (pc := 97) C rfl rfl dX5_said_97
    · refine r_bipush (pc := 20) C dX5_said_20 (cb_m3) ?_
      exact r_iret (pc := 22) C rfl rfl dX5_said_22
  · refine r_bipush (pc := 10) C dX5_said_10 (cb_m2) ?_
    exact r_iret (pc := 12) C rfl rfl dX5_said_12)
set_option maxHeartbeats 4000000 in
set_option maxRecDepth 100000 in
theorem wl_X5_frees_19 {cI cS : ClassId} (X : CX) (C : Cx X RX5 cX5_frees 4 (some .int) (rmz 5 112) (tyz cI cS)) (q : Nat → Nat) (MI : Nat → Int32) (MA : Nat → Nat → Int32)  (kk : Int32 → Int32 → (Nat → Int32) → Option (Int32 × (Nat → Int32))) (hk_19 : ∀ (el2_19 : Int32) (el3_19 : Int32) (eMI_19 : Nat → Int32), JR X (QF X (tyz cI cS) 0 0 (fun o : Int32 × (Nat → Int32) => some (.int o.1)) (fun o : Int32 × (Nat → Int32) => wdM cI q o.2 MA)) 4 0 0 (kk el2_19 el3_19 eMI_19) (wdM cI q eMI_19 MA) [(0, .ref (q 0)), (1, .int (MI 11)), (2, .int el2_19)] 53 []) : ∀ (fuel : Nat) (l2_19 : Int32) (l3_19 : Int32) (MI_19 : Nat → Int32), JR X (QF X (tyz cI cS) 0 0 (fun o : Int32 × (Nat → Int32) => some (.int o.1)) (fun o : Int32 × (Nat → Int32) => wdM cI q o.2 MA)) 4 0 0 (lp_X5_frees_19 kk MA fuel l2_19 l3_19 MI_19) (wdM cI q MI_19 MA) [(0, .ref (q 0)), (1, .int (MI 11)), (2, .int l2_19), (3, .int l3_19)] 19 [] := by
  intro fuel
  induction fuel with
  | zero => intro l2_19 l3_19 MI_19; exact r_none
  | succ fu_19 ih_19 =>
    intro l2_19 l3_19 MI_19
    unfold lp_X5_frees_19
    refine r_iload_n (pc := 19) C 3 dX5_frees_19 rfl rfl ?_
    refine r_bipush (pc := 20) C dX5_frees_20 (cb_10) ?_
    refine r_icmp_ge (pc := 22) (tgt := 53) C dX5_frees_22 (by decide) ?_ ?_
    · exact r_sub [0, 1, 2] rfl (hk_19 l2_19 l3_19 MI_19)
    · refine r_aload_n (pc := 25) C 0 dX5_frees_25 rfl rfl ?_
      refine r_iload_n (pc := 26) C 3 dX5_frees_26 rfl rfl ?_
      refine pf_X5_151 (pc := 27) (ws' := wdM cI q (upd MI_19 11 l3_19) MA) C 0 rfl rfl dX5_frees_27 rfl ?_
      refine r_iload_n (pc := 30) C 2 dX5_frees_30 rfl rfl ?_
      refine r_aload_n (pc := 31) C 0 dX5_frees_31 rfl rfl ?_
      refine r_callV0 (pc := 32) (rest := [.int l2_19]) C (m_X5_areSo (xl X) (xD X) cI cS q (upd MI_19 11 l3_19) MA) mv_X5_223 rfl rfl rfl ⟨Nat.zero_le _, Nat.zero_le _⟩ rfl rfl (Nat.le_of_ble_eq_true rfl) dX5_frees_32 (fun r32 => ?_)
      refine r_if_eq (pc := 35) (tgt := 44) C dX5_frees_35 (by decide) ?_ ?_
      · refine r_iconst (pc := 44) C dX5_frees_44 (ci_0) ?_
        refine r_ior (pc := 45) C dX5_frees_45 ?_
        refine r_istore_n (pc := 46) C dX5_frees_46 rfl (by decide) (lv' := [(2, .int (l2_19 ||| (0 : Int32))), (0, .ref (q 0)), (1, .int (MI 11)), (3, .int l3_19)]) rfl ?_
        refine r_iinc (pc := 47) C 3 dX5_frees_47 rfl (ci_1) (by decide) (lv' := [(3, .int (l3_19 + (1 : Int32))), (2, .int (l2_19 ||| (0 : Int32))), (0, .ref (q 0)), (1, .int (MI 11))]) rfl ?_
        refine r_goto (pc := 50) (tgt := 19) C dX5_frees_50 (by decide) ?_
        exact r_sub [2, 3, 1, 0] rfl (ih_19 (l2_19 ||| (0 : Int32)) (l3_19 + (1 : Int32)) (upd MI_19 11 l3_19))
      · refine r_iconst (pc := 38) C dX5_frees_38 (ci_1) ?_
        refine r_iload_n (pc := 39) C 3 dX5_frees_39 rfl rfl ?_
        refine r_ishl (pc := 40) C dX5_frees_40 ?_
        refine r_goto (pc := 41) (tgt := 45) C dX5_frees_41 (by decide) ?_
        refine r_ior (pc := 45) C dX5_frees_45 ?_
        refine r_istore_n (pc := 46) C dX5_frees_46 rfl (by decide) (lv' := [(2, .int (l2_19 ||| ((1 : Int32) <<< (l3_19 &&& 31)))), (0, .ref (q 0)), (1, .int (MI 11)), (3, .int l3_19)]) rfl ?_
        refine r_iinc (pc := 47) C 3 dX5_frees_47 rfl (ci_1) (by decide) (lv' := [(3, .int (l3_19 + (1 : Int32))), (2, .int (l2_19 ||| ((1 : Int32) <<< (l3_19 &&& 31)))), (0, .ref (q 0)), (1, .int (MI 11))]) rfl ?_
        refine r_goto (pc := 50) (tgt := 19) C dX5_frees_50 (by decide) ?_
        exact r_sub [2, 3, 1, 0] rfl (ih_19 (l2_19 ||| ((1 : Int32) <<< (l3_19 &&& 31))) (l3_19 + (1 : Int32)) (upd MI_19 11 l3_19))
set_option maxHeartbeats 4000000 in
set_option maxRecDepth 100000 in
theorem m_X5_frees (l : Launch) (D : va_G) (cI cS : ClassId) (q : Nat → Nat) (MI : Nat → Int32) (MA : Nat → Nat → Int32) : MX l D (tyz cI cS) yX5_frees cX5_frees 4 (some .int) (rmz 5 112) [.ref (q 0)] (wdM cI q MI MA) (f_X5_frees MI MA) (fun o : Int32 × (Nat → Int32) => some (.int o.1)) (fun o : Int32 × (Nat → Int32) => wdM cI q o.2 MA) := met_of (own := RX5) (by decide) rfl (Nat.le_of_ble_eq_true rfl) (fun X hxl hxD C => by
  subst hxl
  subst hxD
  show JR X _ _ 0 0 (f_X5_frees MI MA) (wdM cI q MI MA) [(0, .ref (q 0))] 0 []
  unfold f_X5_frees
  refine r_aload_n (pc := 0) C 0 dX5_frees_0 rfl rfl ?_
  refine gf_X5_95 (pc := 1) C 0 rfl rfl dX5_frees_1 ?_
  refine r_if_ne (pc := 4) (tgt := 10) C dX5_frees_4 (by decide) ?_ ?_
  · refine r_aload_n (pc := 10) C 0 dX5_frees_10 rfl rfl ?_
    refine gf_X5_151 (pc := 11) C 0 rfl rfl dX5_frees_11 ?_
    refine r_istore_n (pc := 14) C dX5_frees_14 rfl (by decide) (lv' := [(1, .int (MI 11)), (0, .ref (q 0))]) rfl ?_
    refine r_iconst (pc := 15) C dX5_frees_15 (ci_0) ?_
    refine r_istore_n (pc := 16) C dX5_frees_16 rfl (by decide) (lv' := [(2, .int (0 : Int32)), (1, .int (MI 11)), (0, .ref (q 0))]) rfl ?_
    refine r_iconst (pc := 17) C dX5_frees_17 (ci_0) ?_
    refine r_istore_n (pc := 18) C dX5_frees_18 rfl (by decide) (lv' := [(3, .int (0 : Int32)), (2, .int (0 : Int32)), (1, .int (MI 11)), (0, .ref (q 0))]) rfl ?_
    refine r_sub [3, 2, 1, 0] rfl (wl_X5_frees_19 X C q MI MA  _ (fun el2_19 el3_19 eMI_19 => ?_) 1000 (0 : Int32) (0 : Int32) MI)
    refine r_aload_n (pc := 53) C 0 dX5_frees_53 rfl rfl ?_
    refine r_iload_n (pc := 54) C 1 dX5_frees_54 rfl rfl ?_
    refine pf_X5_151 (pc := 55) (ws' := wdM cI q (upd eMI_19 11 (MI 11)) MA) C 0 rfl rfl dX5_frees_55 rfl ?_
    refine r_iload_n (pc := 58) C 2 dX5_frees_58 rfl rfl ?_
    exact r_iret (pc := 59) C rfl rfl dX5_frees_59
  · refine r_bipush (pc := 7) C dX5_frees_7 (cb_m3) ?_
    exact r_iret (pc := 9) C rfl rfl dX5_frees_9)
set_option maxHeartbeats 4000000 in
set_option maxRecDepth 100000 in
theorem wl_X5_laws_19 {cI cS : ClassId} (X : CX) (C : Cx X RX5 cX5_laws 4 (some .int) (rmz 5 112) (tyz cI cS)) (q : Nat → Nat) (MI : Nat → Int32) (MA : Nat → Nat → Int32)  (kk : Int32 → Int32 → (Nat → Int32) → Option (Int32 × (Nat → Int32))) (hk_19 : ∀ (el2_19 : Int32) (el3_19 : Int32) (eMI_19 : Nat → Int32), JR X (QF X (tyz cI cS) 0 0 (fun o : Int32 × (Nat → Int32) => some (.int o.1)) (fun o : Int32 × (Nat → Int32) => wdM cI q o.2 MA)) 4 0 0 (kk el2_19 el3_19 eMI_19) (wdM cI q eMI_19 MA) [(0, .ref (q 0)), (1, .int (MI 12)), (2, .int el2_19)] 53 []) : ∀ (fuel : Nat) (l2_19 : Int32) (l3_19 : Int32) (MI_19 : Nat → Int32), JR X (QF X (tyz cI cS) 0 0 (fun o : Int32 × (Nat → Int32) => some (.int o.1)) (fun o : Int32 × (Nat → Int32) => wdM cI q o.2 MA)) 4 0 0 (lp_X5_laws_19 kk MA fuel l2_19 l3_19 MI_19) (wdM cI q MI_19 MA) [(0, .ref (q 0)), (1, .int (MI 12)), (2, .int l2_19), (3, .int l3_19)] 19 [] := by
  intro fuel
  induction fuel with
  | zero => intro l2_19 l3_19 MI_19; exact r_none
  | succ fu_19 ih_19 =>
    intro l2_19 l3_19 MI_19
    unfold lp_X5_laws_19
    refine r_iload_n (pc := 19) C 3 dX5_laws_19 rfl rfl ?_
    refine r_bipush (pc := 20) C dX5_laws_20 (cb_8) ?_
    refine r_icmp_ge (pc := 22) (tgt := 53) C dX5_laws_22 (by decide) ?_ ?_
    · exact r_sub [0, 1, 2] rfl (hk_19 l2_19 l3_19 MI_19)
    · refine r_aload_n (pc := 25) C 0 dX5_laws_25 rfl rfl ?_
      refine r_iload_n (pc := 26) C 3 dX5_laws_26 rfl rfl ?_
      refine pf_X5_161 (pc := 27) (ws' := wdM cI q (upd MI_19 12 l3_19) MA) C 0 rfl rfl dX5_laws_27 rfl ?_
      refine r_iload_n (pc := 30) C 2 dX5_laws_30 rfl rfl ?_
      refine r_aload_n (pc := 31) C 0 dX5_laws_31 rfl rfl ?_
      refine r_callV0 (pc := 32) (rest := [.int l2_19]) C (m_X5_areSo (xl X) (xD X) cI cS q (upd MI_19 12 l3_19) MA) mv_X5_223 rfl rfl rfl ⟨Nat.zero_le _, Nat.zero_le _⟩ rfl rfl (Nat.le_of_ble_eq_true rfl) dX5_laws_32 (fun r32 => ?_)
      refine r_if_eq (pc := 35) (tgt := 44) C dX5_laws_35 (by decide) ?_ ?_
      · refine r_iconst (pc := 44) C dX5_laws_44 (ci_0) ?_
        refine r_ior (pc := 45) C dX5_laws_45 ?_
        refine r_istore_n (pc := 46) C dX5_laws_46 rfl (by decide) (lv' := [(2, .int (l2_19 ||| (0 : Int32))), (0, .ref (q 0)), (1, .int (MI 12)), (3, .int l3_19)]) rfl ?_
        refine r_iinc (pc := 47) C 3 dX5_laws_47 rfl (ci_1) (by decide) (lv' := [(3, .int (l3_19 + (1 : Int32))), (2, .int (l2_19 ||| (0 : Int32))), (0, .ref (q 0)), (1, .int (MI 12))]) rfl ?_
        refine r_goto (pc := 50) (tgt := 19) C dX5_laws_50 (by decide) ?_
        exact r_sub [2, 3, 1, 0] rfl (ih_19 (l2_19 ||| (0 : Int32)) (l3_19 + (1 : Int32)) (upd MI_19 12 l3_19))
      · refine r_iconst (pc := 38) C dX5_laws_38 (ci_1) ?_
        refine r_iload_n (pc := 39) C 3 dX5_laws_39 rfl rfl ?_
        refine r_ishl (pc := 40) C dX5_laws_40 ?_
        refine r_goto (pc := 41) (tgt := 45) C dX5_laws_41 (by decide) ?_
        refine r_ior (pc := 45) C dX5_laws_45 ?_
        refine r_istore_n (pc := 46) C dX5_laws_46 rfl (by decide) (lv' := [(2, .int (l2_19 ||| ((1 : Int32) <<< (l3_19 &&& 31)))), (0, .ref (q 0)), (1, .int (MI 12)), (3, .int l3_19)]) rfl ?_
        refine r_iinc (pc := 47) C 3 dX5_laws_47 rfl (ci_1) (by decide) (lv' := [(3, .int (l3_19 + (1 : Int32))), (2, .int (l2_19 ||| ((1 : Int32) <<< (l3_19 &&& 31)))), (0, .ref (q 0)), (1, .int (MI 12))]) rfl ?_
        refine r_goto (pc := 50) (tgt := 19) C dX5_laws_50 (by decide) ?_
        exact r_sub [2, 3, 1, 0] rfl (ih_19 (l2_19 ||| ((1 : Int32) <<< (l3_19 &&& 31))) (l3_19 + (1 : Int32)) (upd MI_19 12 l3_19))
set_option maxHeartbeats 4000000 in
set_option maxRecDepth 100000 in
theorem m_X5_laws (l : Launch) (D : va_G) (cI cS : ClassId) (q : Nat → Nat) (MI : Nat → Int32) (MA : Nat → Nat → Int32) : MX l D (tyz cI cS) yX5_laws cX5_laws 4 (some .int) (rmz 5 112) [.ref (q 0)] (wdM cI q MI MA) (f_X5_laws MI MA) (fun o : Int32 × (Nat → Int32) => some (.int o.1)) (fun o : Int32 × (Nat → Int32) => wdM cI q o.2 MA) := met_of (own := RX5) (by decide) rfl (Nat.le_of_ble_eq_true rfl) (fun X hxl hxD C => by
  subst hxl
  subst hxD
  show JR X _ _ 0 0 (f_X5_laws MI MA) (wdM cI q MI MA) [(0, .ref (q 0))] 0 []
  unfold f_X5_laws
  refine r_aload_n (pc := 0) C 0 dX5_laws_0 rfl rfl ?_
  refine gf_X5_95 (pc := 1) C 0 rfl rfl dX5_laws_1 ?_
  refine r_if_ne (pc := 4) (tgt := 10) C dX5_laws_4 (by decide) ?_ ?_
  · refine r_aload_n (pc := 10) C 0 dX5_laws_10 rfl rfl ?_
    refine gf_X5_161 (pc := 11) C 0 rfl rfl dX5_laws_11 ?_
    refine r_istore_n (pc := 14) C dX5_laws_14 rfl (by decide) (lv' := [(1, .int (MI 12)), (0, .ref (q 0))]) rfl ?_
    refine r_iconst (pc := 15) C dX5_laws_15 (ci_0) ?_
    refine r_istore_n (pc := 16) C dX5_laws_16 rfl (by decide) (lv' := [(2, .int (0 : Int32)), (1, .int (MI 12)), (0, .ref (q 0))]) rfl ?_
    refine r_iconst (pc := 17) C dX5_laws_17 (ci_0) ?_
    refine r_istore_n (pc := 18) C dX5_laws_18 rfl (by decide) (lv' := [(3, .int (0 : Int32)), (2, .int (0 : Int32)), (1, .int (MI 12)), (0, .ref (q 0))]) rfl ?_
    refine r_sub [3, 2, 1, 0] rfl (wl_X5_laws_19 X C q MI MA  _ (fun el2_19 el3_19 eMI_19 => ?_) 1000 (0 : Int32) (0 : Int32) MI)
    refine r_aload_n (pc := 53) C 0 dX5_laws_53 rfl rfl ?_
    refine r_iload_n (pc := 54) C 1 dX5_laws_54 rfl rfl ?_
    refine pf_X5_161 (pc := 55) (ws' := wdM cI q (upd eMI_19 12 (MI 12)) MA) C 0 rfl rfl dX5_laws_55 rfl ?_
    refine r_iload_n (pc := 58) C 2 dX5_laws_58 rfl rfl ?_
    exact r_iret (pc := 59) C rfl rfl dX5_laws_59
  · refine r_bipush (pc := 7) C dX5_laws_7 (cb_m3) ?_
    exact r_iret (pc := 9) C rfl rfl dX5_laws_9)
set_option maxHeartbeats 4000000 in
set_option maxRecDepth 100000 in
theorem wl_X5_kinds_22 {cI cS : ClassId} (X : CX) (C : Cx X RX5 cX5_kinds 5 (some .int) (rmz 5 112) (tyz cI cS)) (q : Nat → Nat) (MI : Nat → Int32) (MA : Nat → Nat → Int32) (a1 : Int32)  (kk : Int32 → Int32 → (Nat → Nat → Int32) → Option (Int32 × (Nat → Nat → Int32))) (hk_22 : ∀ (el3_22 : Int32) (el4_22 : Int32) (eMA_22 : Nat → Nat → Int32), JR X (QF X (tyz cI cS) 0 0 (fun o : Int32 × (Nat → Nat → Int32) => some (.int o.1)) (fun o : Int32 × (Nat → Nat → Int32) => wdM cI q MI o.2)) 5 0 0 (kk el3_22 el4_22 eMA_22) (wdM cI q MI eMA_22) [(0, .ref (q 0)), (1, .int a1), (2, .int (MA 5 a1.toNatClampNeg)), (3, .int el3_22)] 60 []) : ∀ (fuel : Nat) (l3_22 : Int32) (l4_22 : Int32) (MA_22 : Nat → Nat → Int32), JR X (QF X (tyz cI cS) 0 0 (fun o : Int32 × (Nat → Nat → Int32) => some (.int o.1)) (fun o : Int32 × (Nat → Nat → Int32) => wdM cI q MI o.2)) 5 0 0 (lp_X5_kinds_22 kk MI a1 fuel l3_22 l4_22 MA_22) (wdM cI q MI MA_22) [(0, .ref (q 0)), (1, .int a1), (2, .int (MA 5 a1.toNatClampNeg)), (3, .int l3_22), (4, .int l4_22)] 22 [] := by
  intro fuel
  induction fuel with
  | zero => intro l3_22 l4_22 MA_22; exact r_none
  | succ fu_22 ih_22 =>
    intro l3_22 l4_22 MA_22
    unfold lp_X5_kinds_22
    refine r_iload (pc := 22) C 4 dX5_kinds_22 rfl ?_
    refine r_iconst (pc := 24) C dX5_kinds_24 (ci_3) ?_
    refine r_icmp_ge (pc := 25) (tgt := 60) C dX5_kinds_25 (by decide) ?_ ?_
    · exact r_sub [0, 1, 2, 3] rfl (hk_22 l3_22 l4_22 MA_22)
    · refine r_aload_n (pc := 28) C 0 dX5_kinds_28 rfl rfl ?_
      refine gf_X5_16 (pc := 29) C 0 rfl rfl dX5_kinds_29 ?_
      refine r_iload_n (pc := 32) C 1 dX5_kinds_32 rfl rfl ?_
      refine r_iload (pc := 33) C 4 dX5_kinds_33 rfl ?_
      refine r_iast (pc := 35) (ws' := wdM cI q MI (va_up MA_22 5 (upd (MA_22 5) a1.toNatClampNeg l4_22))) C 3 rfl dX5_kinds_35 rfl ?_
      refine r_iload_n (pc := 36) C 3 dX5_kinds_36 rfl rfl ?_
      refine r_aload_n (pc := 37) C 0 dX5_kinds_37 rfl rfl ?_
      refine r_callV0 (pc := 38) (rest := [.int l3_22]) C (m_X5_areSo (xl X) (xD X) cI cS q MI (va_up MA_22 5 (upd (MA_22 5) a1.toNatClampNeg l4_22))) mv_X5_223 rfl rfl rfl ⟨Nat.zero_le _, Nat.zero_le _⟩ rfl rfl (Nat.le_of_ble_eq_true rfl) dX5_kinds_38 (fun r38 => ?_)
      refine r_if_eq (pc := 41) (tgt := 51) C dX5_kinds_41 (by decide) ?_ ?_
      · refine r_iconst (pc := 51) C dX5_kinds_51 (ci_0) ?_
        refine r_ior (pc := 52) C dX5_kinds_52 ?_
        refine r_istore_n (pc := 53) C dX5_kinds_53 rfl (by decide) (lv' := [(3, .int (l3_22 ||| (0 : Int32))), (0, .ref (q 0)), (1, .int a1), (2, .int (MA 5 a1.toNatClampNeg)), (4, .int l4_22)]) rfl ?_
        refine r_iinc (pc := 54) C 4 dX5_kinds_54 rfl (ci_1) (by decide) (lv' := [(4, .int (l4_22 + (1 : Int32))), (3, .int (l3_22 ||| (0 : Int32))), (0, .ref (q 0)), (1, .int a1), (2, .int (MA 5 a1.toNatClampNeg))]) rfl ?_
        refine r_goto (pc := 57) (tgt := 22) C dX5_kinds_57 (by decide) ?_
        exact r_sub [2, 3, 4, 1, 0] rfl (ih_22 (l3_22 ||| (0 : Int32)) (l4_22 + (1 : Int32)) (va_up MA_22 5 (upd (MA_22 5) a1.toNatClampNeg l4_22)))
      · refine r_iconst (pc := 44) C dX5_kinds_44 (ci_1) ?_
        refine r_iload (pc := 45) C 4 dX5_kinds_45 rfl ?_
        refine r_ishl (pc := 47) C dX5_kinds_47 ?_
        refine r_goto (pc := 48) (tgt := 52) C dX5_kinds_48 (by decide) ?_
        refine r_ior (pc := 52) C dX5_kinds_52 ?_
        refine r_istore_n (pc := 53) C dX5_kinds_53 rfl (by decide) (lv' := [(3, .int (l3_22 ||| ((1 : Int32) <<< (l4_22 &&& 31)))), (0, .ref (q 0)), (1, .int a1), (2, .int (MA 5 a1.toNatClampNeg)), (4, .int l4_22)]) rfl ?_
        refine r_iinc (pc := 54) C 4 dX5_kinds_54 rfl (ci_1) (by decide) (lv' := [(4, .int (l4_22 + (1 : Int32))), (3, .int (l3_22 ||| ((1 : Int32) <<< (l4_22 &&& 31)))), (0, .ref (q 0)), (1, .int a1), (2, .int (MA 5 a1.toNatClampNeg))]) rfl ?_
        refine r_goto (pc := 57) (tgt := 22) C dX5_kinds_57 (by decide) ?_
        exact r_sub [2, 3, 4, 1, 0] rfl (ih_22 (l3_22 ||| ((1 : Int32) <<< (l4_22 &&& 31))) (l4_22 + (1 : Int32)) (va_up MA_22 5 (upd (MA_22 5) a1.toNatClampNeg l4_22)))
set_option maxHeartbeats 4000000 in
set_option maxRecDepth 100000 in
theorem m_X5_kinds (l : Launch) (D : va_G) (cI cS : ClassId) (q : Nat → Nat) (MI : Nat → Int32) (MA : Nat → Nat → Int32) (a1 : Int32) : MX l D (tyz cI cS) yX5_kinds cX5_kinds 5 (some .int) (rmz 5 112) [.ref (q 0), .int a1] (wdM cI q MI MA) (f_X5_kinds MI MA a1) (fun o : Int32 × (Nat → Nat → Int32) => some (.int o.1)) (fun o : Int32 × (Nat → Nat → Int32) => wdM cI q MI o.2) := met_of (own := RX5) (by decide) rfl (Nat.le_of_ble_eq_true rfl) (fun X hxl hxD C => by
  subst hxl
  subst hxD
  show JR X _ _ 0 0 (f_X5_kinds MI MA a1) (wdM cI q MI MA) [(0, .ref (q 0)), (1, .int a1)] 0 []
  unfold f_X5_kinds
  refine r_aload_n (pc := 0) C 0 dX5_kinds_0 rfl rfl ?_
  refine r_iload_n (pc := 1) C 1 dX5_kinds_1 rfl rfl ?_
  refine r_callV0 (pc := 2) (rest := []) C (m_X5_noSilence (xl X) (xD X) cI cS q MI MA a1) mv_X5_173 rfl rfl rfl ⟨Nat.zero_le _, Nat.zero_le _⟩ rfl rfl (Nat.le_of_ble_eq_true rfl) dX5_kinds_2 (fun r2 => ?_)
  refine r_if_eq (pc := 5) (tgt := 10) C dX5_kinds_5 (by decide) ?_ ?_
  · refine r_aload_n (pc := 10) C 0 dX5_kinds_10 rfl rfl ?_
    refine gf_X5_16 (pc := 11) C 0 rfl rfl dX5_kinds_11 ?_
    refine r_iload_n (pc := 14) C 1 dX5_kinds_14 rfl rfl ?_
    refine r_iald (pc := 15) C 3 rfl dX5_kinds_15 ?_
    refine r_istore_n (pc := 16) C dX5_kinds_16 rfl (by decide) (lv' := [(2, .int (MA 5 a1.toNatClampNeg)), (0, .ref (q 0)), (1, .int a1)]) rfl ?_
    refine r_iconst (pc := 17) C dX5_kinds_17 (ci_0) ?_
    refine r_istore_n (pc := 18) C dX5_kinds_18 rfl (by decide) (lv' := [(3, .int (0 : Int32)), (2, .int (MA 5 a1.toNatClampNeg)), (0, .ref (q 0)), (1, .int a1)]) rfl ?_
    refine r_iconst (pc := 19) C dX5_kinds_19 (ci_0) ?_
    refine r_istore (pc := 20) C dX5_kinds_20 (by decide) (lv' := [(4, .int (0 : Int32)), (3, .int (0 : Int32)), (2, .int (MA 5 a1.toNatClampNeg)), (0, .ref (q 0)), (1, .int a1)]) rfl ?_
    refine r_sub [3, 4, 2, 1, 0] rfl (wl_X5_kinds_22 X C q MI MA a1  _ (fun el3_22 el4_22 eMA_22 => ?_) 1000 (0 : Int32) (0 : Int32) MA)
    refine r_aload_n (pc := 60) C 0 dX5_kinds_60 rfl rfl ?_
    refine gf_X5_16 (pc := 61) C 0 rfl rfl dX5_kinds_61 ?_
    refine r_iload_n (pc := 64) C 1 dX5_kinds_64 rfl rfl ?_
    refine r_iload_n (pc := 65) C 2 dX5_kinds_65 rfl rfl ?_
    refine r_iast (pc := 66) (ws' := wdM cI q MI (va_up eMA_22 5 (upd (eMA_22 5) a1.toNatClampNeg (MA 5 a1.toNatClampNeg)))) C 3 rfl dX5_kinds_66 rfl ?_
    refine r_iload_n (pc := 67) C 3 dX5_kinds_67 rfl rfl ?_
    exact r_iret (pc := 68) C rfl rfl dX5_kinds_68
  · refine r_iconst (pc := 8) C dX5_kinds_8 (ci_m1) ?_
    exact r_iret (pc := 9) C rfl rfl dX5_kinds_9)
set_option maxHeartbeats 4000000 in
set_option maxRecDepth 100000 in
theorem wl_X5_odds_46 {cI cS : ClassId} (X : CX) (C : Cx X RX5 cX5_odds 8 (some .long) (rmz 4 90) (tyz cI cS)) (q : Nat → Nat) (MI : Nat → Int32) (MA : Nat → Nat → Int32) (a1 : Int32) (a2 : Int32) (a3 : Int32)  (kk : Int64 → Int32 → (Nat → Int32) → Option (Int64 × (Nat → Int32))) (hk_46 : ∀ (el5_46 : Int64) (el7_46 : Int32) (eMI_46 : Nat → Int32), JR X (QF X (tyz cI cS) 0 0 (fun o : Int64 × (Nat → Int32) => some (.long o.1)) (fun o : Int64 × (Nat → Int32) => wdM cI q o.2 MA)) 8 0 0 (kk el5_46 el7_46 eMI_46) (wdM cI q eMI_46 MA) [(0, .ref (q 0)), (3, .int a3), (4, .int (MI 10)), (5, .long el5_46)] 86 []) : ∀ (fuel : Nat) (l5_46 : Int64) (l7_46 : Int32) (MI_46 : Nat → Int32), JR X (QF X (tyz cI cS) 0 0 (fun o : Int64 × (Nat → Int32) => some (.long o.1)) (fun o : Int64 × (Nat → Int32) => wdM cI q o.2 MA)) 8 0 0 (lp_X5_odds_46 kk MA a1 a2 fuel l5_46 l7_46 MI_46) (wdM cI q MI_46 MA) [(0, .ref (q 0)), (1, .int a1), (2, .int a2), (3, .int a3), (4, .int (MI 10)), (5, .long l5_46), (7, .int l7_46)] 46 [] := by
  intro fuel
  induction fuel with
  | zero => intro l5_46 l7_46 MI_46; exact r_none
  | succ fu_46 ih_46 =>
    intro l5_46 l7_46 MI_46
    unfold lp_X5_odds_46
    refine r_iload (pc := 46) C 6 dX5_odds_46 rfl ?_
    refine r_aload_n (pc := 48) C 0 dX5_odds_48 rfl rfl ?_
    refine r_callV0 (pc := 49) (rest := [.int l7_46]) C (m_X5_all (xl X) (xD X) cI cS q MI_46 MA) mv_X5_154 rfl rfl rfl ⟨Nat.zero_le _, Nat.zero_le _⟩ rfl rfl (Nat.le_of_ble_eq_true rfl) dX5_odds_49 (fun r49 => ?_)
    refine r_icmp_gt (pc := 52) (tgt := 86) C dX5_odds_52 (by decide) ?_ ?_
    · exact r_sub [0, 3, 4, 5] rfl (hk_46 l5_46 l7_46 MI_46)
    · refine r_aload_n (pc := 55) C 0 dX5_odds_55 rfl rfl ?_
      refine r_iload (pc := 56) C 6 dX5_odds_56 rfl ?_
      refine pf_X5_158 (pc := 58) (ws' := wdM cI q (upd MI_46 10 l7_46) MA) C 0 rfl rfl dX5_odds_58 rfl ?_
      refine r_lload (pc := 61) C 5 dX5_odds_61 rfl ?_
      refine r_aload_n (pc := 63) C 0 dX5_odds_63 rfl rfl ?_
      refine r_iload_n (pc := 64) C 1 dX5_odds_64 rfl rfl ?_
      refine r_callV0 (pc := 65) (rest := [.long l5_46]) C (m_X5_dutyAt (xl X) (xD X) cI cS q (upd MI_46 10 l7_46) MA a1) mv_X5_190 rfl rfl rfl ⟨Nat.zero_le _, Nat.zero_le _⟩ rfl rfl (Nat.le_of_ble_eq_true rfl) dX5_odds_65 (fun r65 => ?_)
      refine r_iload_n (pc := 68) C 2 dX5_odds_68 rfl rfl ?_
      refine r_icmp_lt (pc := 69) (tgt := 76) C dX5_odds_69 (by decide) ?_ ?_
      · refine r_lconst (pc := 76) (v := 0) C dX5_odds_76 rfl ?_
        refine r_ladd (pc := 77) C dX5_odds_77 ?_
        refine r_lstore (pc := 78) C dX5_odds_78 (by decide) (lv' := [(5, .long (l5_46 + (0 : Int64))), (0, .ref (q 0)), (1, .int a1), (2, .int a2), (3, .int a3), (4, .int (MI 10)), (7, .int l7_46)]) rfl ?_
        refine r_iinc (pc := 80) C 6 dX5_odds_80 rfl (ci_1) (by decide) (lv' := [(7, .int (l7_46 + (1 : Int32))), (5, .long (l5_46 + (0 : Int64))), (0, .ref (q 0)), (1, .int a1), (2, .int a2), (3, .int a3), (4, .int (MI 10))]) rfl ?_
        refine r_goto (pc := 83) (tgt := 46) C dX5_odds_83 (by decide) ?_
        exact r_sub [2, 3, 4, 5, 6, 1, 0] rfl (ih_46 (l5_46 + (0 : Int64)) (l7_46 + (1 : Int32)) (upd MI_46 10 l7_46))
      · refine r_lconst (pc := 72) (v := 1) C dX5_odds_72 rfl ?_
        refine r_goto (pc := 73) (tgt := 77) C dX5_odds_73 (by decide) ?_
        refine r_ladd (pc := 77) C dX5_odds_77 ?_
        refine r_lstore (pc := 78) C dX5_odds_78 (by decide) (lv' := [(5, .long (l5_46 + (1 : Int64))), (0, .ref (q 0)), (1, .int a1), (2, .int a2), (3, .int a3), (4, .int (MI 10)), (7, .int l7_46)]) rfl ?_
        refine r_iinc (pc := 80) C 6 dX5_odds_80 rfl (ci_1) (by decide) (lv' := [(7, .int (l7_46 + (1 : Int32))), (5, .long (l5_46 + (1 : Int64))), (0, .ref (q 0)), (1, .int a1), (2, .int a2), (3, .int a3), (4, .int (MI 10))]) rfl ?_
        refine r_goto (pc := 83) (tgt := 46) C dX5_odds_83 (by decide) ?_
        exact r_sub [2, 3, 4, 5, 6, 1, 0] rfl (ih_46 (l5_46 + (1 : Int64)) (l7_46 + (1 : Int32)) (upd MI_46 10 l7_46))
set_option maxHeartbeats 4000000 in
set_option maxRecDepth 100000 in
theorem m_X5_odds (l : Launch) (D : va_G) (cI cS : ClassId) (q : Nat → Nat) (MI : Nat → Int32) (MA : Nat → Nat → Int32) (a1 : Int32) (a2 : Int32) (a3 : Int32) : MX l D (tyz cI cS) yX5_odds cX5_odds 8 (some .long) (rmz 4 90) [.ref (q 0), .int a1, .int a2, .int a3] (wdM cI q MI MA) (f_X5_odds MI MA a1 a2 a3) (fun o : Int64 × (Nat → Int32) => some (.long o.1)) (fun o : Int64 × (Nat → Int32) => wdM cI q o.2 MA) := met_of (own := RX5) (by decide) rfl (Nat.le_of_ble_eq_true rfl) (fun X hxl hxD C => by
  subst hxl
  subst hxD
  show JR X _ _ 0 0 (f_X5_odds MI MA a1 a2 a3) (wdM cI q MI MA) [(0, .ref (q 0)), (1, .int a1), (2, .int a2), (3, .int a3)] 0 []
  unfold f_X5_odds
  refine r_aload_n (pc := 0) C 0 dX5_odds_0 rfl rfl ?_
  refine r_iload_n (pc := 1) C 1 dX5_odds_1 rfl rfl ?_
  refine r_callV0 (pc := 2) (rest := []) C (m_X5_noPost (xl X) (xD X) cI cS q MI MA a1) mv_X5_170 rfl rfl rfl ⟨Nat.zero_le _, Nat.zero_le _⟩ rfl rfl (Nat.le_of_ble_eq_true rfl) dX5_odds_2 (fun r2 => ?_)
  refine r_if_ne (pc := 5) (tgt := 30) C dX5_odds_5 (by decide) ?_ ?_
  · refine r_callSr (pc := 30) (rest := []) C (m_X5_lost (xl X) (xD X) cI cS) ms_X5_84 rfl ⟨Nat.zero_le _, Nat.zero_le _⟩ rfl rfl (Nat.le_of_ble_eq_true rfl) dX5_odds_30 (fun r30 => ?_)
    exact r_lret (pc := 33) C rfl rfl dX5_odds_33
  · refine r_iload_n (pc := 8) C 2 dX5_odds_8 rfl rfl ?_
    refine r_i2l (pc := 9) C dX5_odds_9 ?_
    refine r_lconst (pc := 10) (v := 0) C dX5_odds_10 rfl ?_
    refine r_ldc2 (pc := 11) C kk_X5_221 dX5_odds_11 ?_
    refine r_callSr (pc := 14) (rest := []) C (m_X5_in (xl X) (xD X) cI cS a2.toInt64 (0 : Int64) (99999 : Int64)) ms_X5_91 rfl ⟨Nat.zero_le _, Nat.zero_le _⟩ rfl rfl (Nat.le_of_ble_eq_true rfl) dX5_odds_14 (fun r14 => ?_)
    refine r_if_eq (pc := 17) (tgt := 30) C dX5_odds_17 (by decide) ?_ ?_
    · refine r_callSr (pc := 30) (rest := []) C (m_X5_lost (xl X) (xD X) cI cS) ms_X5_84 rfl ⟨Nat.zero_le _, Nat.zero_le _⟩ rfl rfl (Nat.le_of_ble_eq_true rfl) dX5_odds_30 (fun r30 => ?_)
      exact r_lret (pc := 33) C rfl rfl dX5_odds_33
    · refine r_iload_n (pc := 20) C 3 dX5_odds_20 rfl rfl ?_
      refine r_i2l (pc := 21) C dX5_odds_21 ?_
      refine r_lconst (pc := 22) (v := 0) C dX5_odds_22 rfl ?_
      refine r_lconst (pc := 23) (v := 1) C dX5_odds_23 rfl ?_
      refine r_callSr (pc := 24) (rest := []) C (m_X5_in (xl X) (xD X) cI cS a3.toInt64 (0 : Int64) (1 : Int64)) ms_X5_91 rfl ⟨Nat.zero_le _, Nat.zero_le _⟩ rfl rfl (Nat.le_of_ble_eq_true rfl) dX5_odds_24 (fun r24 => ?_)
      refine r_if_ne (pc := 27) (tgt := 34) C dX5_odds_27 (by decide) ?_ ?_
      · refine r_aload_n (pc := 34) C 0 dX5_odds_34 rfl rfl ?_
        refine gf_X5_158 (pc := 35) C 0 rfl rfl dX5_odds_35 ?_
        refine r_istore (pc := 38) C dX5_odds_38 (by decide) (lv' := [(4, .int (MI 10)), (0, .ref (q 0)), (1, .int a1), (2, .int a2), (3, .int a3)]) rfl ?_
        refine r_lconst (pc := 40) (v := 0) C dX5_odds_40 rfl ?_
        refine r_lstore (pc := 41) C dX5_odds_41 (by decide) (lv' := [(5, .long (0 : Int64)), (4, .int (MI 10)), (0, .ref (q 0)), (1, .int a1), (2, .int a2), (3, .int a3)]) rfl ?_
        refine r_iconst (pc := 43) C dX5_odds_43 (ci_0) ?_
        refine r_istore (pc := 44) C dX5_odds_44 (by decide) (lv' := [(7, .int (0 : Int32)), (5, .long (0 : Int64)), (4, .int (MI 10)), (0, .ref (q 0)), (1, .int a1), (2, .int a2), (3, .int a3)]) rfl ?_
        refine r_sub [3, 4, 5, 6, 2, 1, 0] rfl (wl_X5_odds_46 X C q MI MA a1 a2 a3  _ (fun el5_46 el7_46 eMI_46 => ?_) 1000 (0 : Int64) (0 : Int32) MI)
        refine r_aload_n (pc := 86) C 0 dX5_odds_86 rfl rfl ?_
        refine r_iload (pc := 87) C 2 dX5_odds_87 rfl ?_
        refine pf_X5_158 (pc := 89) (ws' := wdM cI q (upd eMI_46 10 (MI 10)) MA) C 0 rfl rfl dX5_odds_89 rfl ?_
        refine r_lload (pc := 92) C 3 dX5_odds_92 rfl ?_
        refine r_aload_n (pc := 94) C 0 dX5_odds_94 rfl rfl ?_
        refine r_callV0 (pc := 95) (rest := [.long el5_46]) C (m_X5_all (xl X) (xD X) cI cS q (upd eMI_46 10 (MI 10)) MA) mv_X5_154 rfl rfl rfl ⟨Nat.zero_le _, Nat.zero_le _⟩ rfl rfl (Nat.le_of_ble_eq_true rfl) dX5_odds_95 (fun r95 => ?_)
        refine r_i2l (pc := 98) C dX5_odds_98 ?_
        refine r_lconst (pc := 99) (v := 1) C dX5_odds_99 rfl ?_
        refine r_ladd (pc := 100) C dX5_odds_100 ?_
        refine r_iload_n (pc := 101) C 1 dX5_odds_101 rfl rfl ?_
        refine r_callSr (pc := 102) (rest := []) C (m_X5_told (xl X) (xD X) cI cS el5_46 (r95.toInt64 + (1 : Int64)) a3) ms_X5_200 rfl ⟨Nat.zero_le _, Nat.zero_le _⟩ rfl rfl (Nat.le_of_ble_eq_true rfl) dX5_odds_102 (fun r102 => ?_)
        exact r_lret (pc := 105) C rfl rfl dX5_odds_105
      · refine r_callSr (pc := 30) (rest := []) C (m_X5_lost (xl X) (xD X) cI cS) ms_X5_84 rfl ⟨Nat.zero_le _, Nat.zero_le _⟩ rfl rfl (Nat.le_of_ble_eq_true rfl) dX5_odds_30 (fun r30 => ?_)
        exact r_lret (pc := 33) C rfl rfl dX5_odds_33)
set_option maxHeartbeats 4000000 in
set_option maxRecDepth 100000 in
theorem wl_X5_sheet_65 {cI cS : ClassId} (X : CX) (C : Cx X RX5 cX5_sheet 5 (some .int) (rmz 2 45) (tyz cI cS)) (q : Nat → Nat) (MI : Nat → Int32) (a1 : Int32) (a3 : Int32)  (kk : Int32 → (Nat → Nat → Int32) → Option (Int32 × (Nat → Int32) × (Nat → Nat → Int32))) (hk_65 : ∀ (el4_65 : Int32) (eMA_65 : Nat → Nat → Int32), JR X (QF X (tyz cI cS) 0 0 (fun o : Int32 × (Nat → Int32) × (Nat → Nat → Int32) => some (.int o.1)) (fun o : Int32 × (Nat → Int32) × (Nat → Nat → Int32) => wdM cI q o.2.1 o.2.2)) 5 0 0 (kk el4_65 eMA_65) (wdM cI q MI eMA_65) [(0, .ref (q 0))] 90 []) : ∀ (fuel : Nat) (l4_65 : Int32) (MA_65 : Nat → Nat → Int32), JR X (QF X (tyz cI cS) 0 0 (fun o : Int32 × (Nat → Int32) × (Nat → Nat → Int32) => some (.int o.1)) (fun o : Int32 × (Nat → Int32) × (Nat → Nat → Int32) => wdM cI q o.2.1 o.2.2)) 5 0 0 (lp_X5_sheet_65 kk a1 a3 fuel l4_65 MA_65) (wdM cI q MI MA_65) [(0, .ref (q 0)), (1, .int a1), (3, .int a3), (4, .int l4_65)] 65 [] := by
  intro fuel
  induction fuel with
  | zero => intro l4_65 MA_65; exact r_none
  | succ fu_65 ih_65 =>
    intro l4_65 MA_65
    unfold lp_X5_sheet_65
    refine r_iload (pc := 65) C 3 dX5_sheet_65 rfl ?_
    refine r_iload_n (pc := 67) C 2 dX5_sheet_67 rfl rfl ?_
    refine r_icmp_ge (pc := 68) (tgt := 90) C dX5_sheet_68 (by decide) ?_ ?_
    · exact r_sub [0] rfl (hk_65 l4_65 MA_65)
    · refine r_aload_n (pc := 71) C 0 dX5_sheet_71 rfl rfl ?_
      refine gf_X5_67 (pc := 72) C 0 rfl rfl dX5_sheet_72 ?_
      refine r_bipush (pc := 75) C dX5_sheet_75 (cb_60) ?_
      refine r_iload_n (pc := 77) C 1 dX5_sheet_77 rfl rfl ?_
      refine r_imul (pc := 78) C dX5_sheet_78 ?_
      refine r_iload (pc := 79) C 3 dX5_sheet_79 rfl ?_
      refine r_iadd (pc := 81) C dX5_sheet_81 ?_
      refine r_iconst (pc := 82) C dX5_sheet_82 (ci_0) ?_
      refine r_iast (pc := 83) (ws' := wdM cI q MI (va_up MA_65 31 (upd (MA_65 31) (((60 : Int32) * a1) + l4_65).toNatClampNeg (0 : Int32)))) C 20 rfl dX5_sheet_83 rfl ?_
      refine r_iinc (pc := 84) C 3 dX5_sheet_84 rfl (ci_1) (by decide) (lv' := [(4, .int (l4_65 + (1 : Int32))), (0, .ref (q 0)), (1, .int a1), (3, .int a3)]) rfl ?_
      refine r_goto (pc := 87) (tgt := 65) C dX5_sheet_87 (by decide) ?_
      exact r_sub [1, 2, 3, 0] rfl (ih_65 (l4_65 + (1 : Int32)) (va_up MA_65 31 (upd (MA_65 31) (((60 : Int32) * a1) + l4_65).toNatClampNeg (0 : Int32))))
set_option maxHeartbeats 4000000 in
set_option maxRecDepth 100000 in
theorem m_X5_sheet (l : Launch) (D : va_G) (cI cS : ClassId) (q : Nat → Nat) (MI : Nat → Int32) (MA : Nat → Nat → Int32) (a1 : Int32) (a2 : Int32) (a3 : Int32) : MX l D (tyz cI cS) yX5_sheet cX5_sheet 5 (some .int) (rmz 2 45) [.ref (q 0), .int a1, .int a2, .int a3] (wdM cI q MI MA) (f_X5_sheet MI MA a1 a2 a3) (fun o : Int32 × (Nat → Int32) × (Nat → Nat → Int32) => some (.int o.1)) (fun o : Int32 × (Nat → Int32) × (Nat → Nat → Int32) => wdM cI q o.2.1 o.2.2) := met_of (own := RX5) (by decide) rfl (Nat.le_of_ble_eq_true rfl) (fun X hxl hxD C => by
  subst hxl
  subst hxD
  show JR X _ _ 0 0 (f_X5_sheet MI MA a1 a2 a3) (wdM cI q MI MA) [(0, .ref (q 0)), (1, .int a1), (2, .int a2), (3, .int a3)] 0 []
  unfold f_X5_sheet
  refine r_iload_n (pc := 0) C 1 dX5_sheet_0 rfl rfl ?_
  refine r_callSr (pc := 1) (rest := []) C (m_X5_noSheet (xl X) (xD X) cI cS a1) ms_X5_137 rfl ⟨Nat.zero_le _, Nat.zero_le _⟩ rfl rfl (Nat.le_of_ble_eq_true rfl) dX5_sheet_1 (fun r1 => ?_)
  refine r_if_eq (pc := 4) (tgt := 13) C dX5_sheet_4 (by decide) ?_ ?_
  · refine r_iload_n (pc := 13) C 2 dX5_sheet_13 rfl rfl ?_
    refine r_i2l (pc := 14) C dX5_sheet_14 ?_
    refine r_lconst (pc := 15) (v := 0) C dX5_sheet_15 rfl ?_
    refine r_ldc2 (pc := 16) C kk_X5_98 dX5_sheet_16 ?_
    refine r_callSr (pc := 19) (rest := []) C (m_X5_in (xl X) (xD X) cI cS a2.toInt64 (0 : Int64) (2 : Int64)) ms_X5_91 rfl ⟨Nat.zero_le _, Nat.zero_le _⟩ rfl rfl (Nat.le_of_ble_eq_true rfl) dX5_sheet_19 (fun r19 => ?_)
    refine r_if_eq (pc := 22) (tgt := 31) C dX5_sheet_22 (by decide) ?_ ?_
    · refine r_aload_n (pc := 31) C 0 dX5_sheet_31 rfl rfl ?_
      refine r_bipush (pc := 32) C dX5_sheet_32 (cb_m2) ?_
      refine r_callV0 (pc := 34) (rest := []) C (m_X5_refused (xl X) (xD X) cI cS q MI MA (-2 : Int32)) mv_X5_141 rfl rfl rfl ⟨Nat.zero_le _, Nat.zero_le _⟩ rfl rfl (Nat.le_of_ble_eq_true rfl) dX5_sheet_34 (fun r34 => ?_)
      exact r_iret (pc := 37) C rfl rfl dX5_sheet_37
    · refine r_iload_n (pc := 25) C 3 dX5_sheet_25 rfl rfl ?_
      refine r_bipush (pc := 26) C dX5_sheet_26 (cb_60) ?_
      refine r_icmp_le (pc := 28) (tgt := 38) C dX5_sheet_28 (by decide) ?_ ?_
      · refine r_iload_n (pc := 38) C 3 dX5_sheet_38 rfl rfl ?_
        refine r_if_ge (pc := 39) (tgt := 48) C dX5_sheet_39 (by decide) ?_ ?_
        · refine r_aload_n (pc := 48) C 0 dX5_sheet_48 rfl rfl ?_
          refine gf_X5_61 (pc := 49) C 0 rfl rfl dX5_sheet_49 ?_
          refine r_iload_n (pc := 52) C 1 dX5_sheet_52 rfl rfl ?_
          refine r_iload_n (pc := 53) C 3 dX5_sheet_53 rfl rfl ?_
          refine r_iast (pc := 54) (ws' := wdM cI q MI (va_up MA 29 (upd (MA 29) a1.toNatClampNeg a3))) C 18 rfl dX5_sheet_54 rfl ?_
          refine r_aload_n (pc := 55) C 0 dX5_sheet_55 rfl rfl ?_
          refine gf_X5_64 (pc := 56) C 0 rfl rfl dX5_sheet_56 ?_
          refine r_iload_n (pc := 59) C 1 dX5_sheet_59 rfl rfl ?_
          refine r_iload_n (pc := 60) C 2 dX5_sheet_60 rfl rfl ?_
          refine r_iast (pc := 61) (ws' := wdM cI q MI (va_up (va_up MA 29 (upd (MA 29) a1.toNatClampNeg a3)) 30 (upd ((va_up MA 29 (upd (MA 29) a1.toNatClampNeg a3)) 30) a1.toNatClampNeg a2))) C 19 rfl dX5_sheet_61 rfl ?_
          refine r_iconst (pc := 62) C dX5_sheet_62 (ci_0) ?_
          refine r_istore (pc := 63) C dX5_sheet_63 (by decide) (lv' := [(4, .int (0 : Int32)), (0, .ref (q 0)), (1, .int a1), (2, .int a2), (3, .int a3)]) rfl ?_
          refine r_sub [1, 2, 4, 0] rfl (wl_X5_sheet_65 X C q MI a1 a3  _ (fun el4_65 eMA_65 => ?_) 1000 (0 : Int32) (va_up (va_up MA 29 (upd (MA 29) a1.toNatClampNeg a3)) 30 (upd ((va_up MA 29 (upd (MA 29) a1.toNatClampNeg a3)) 30) a1.toNatClampNeg a2)))
          refine r_aload_n (pc := 90) C 0 dX5_sheet_90 rfl rfl ?_
          refine r_iconst (pc := 91) C dX5_sheet_91 (ci_1) ?_
          refine r_callV0 (pc := 92) (rest := []) C (m_X5_refused (xl X) (xD X) cI cS q MI eMA_65 (1 : Int32)) mv_X5_141 rfl rfl rfl ⟨Nat.zero_le _, Nat.zero_le _⟩ rfl rfl (Nat.le_of_ble_eq_true rfl) dX5_sheet_92 (fun r92 => ?_)
          exact r_iret (pc := 95) C rfl rfl dX5_sheet_95
        · refine r_aload_n (pc := 42) C 0 dX5_sheet_42 rfl rfl ?_
          refine r_iconst (pc := 43) C dX5_sheet_43 (ci_4) ?_
          refine r_callV0 (pc := 44) (rest := []) C (m_X5_failed (xl X) (xD X) cI cS q MI MA (4 : Int32)) mv_X5_129 rfl rfl rfl ⟨Nat.zero_le _, Nat.zero_le _⟩ rfl rfl (Nat.le_of_ble_eq_true rfl) dX5_sheet_44 (fun r44 => ?_)
          exact r_iret (pc := 47) C rfl rfl dX5_sheet_47
      · refine r_aload_n (pc := 31) C 0 dX5_sheet_31 rfl rfl ?_
        refine r_bipush (pc := 32) C dX5_sheet_32 (cb_m2) ?_
        refine r_callV0 (pc := 34) (rest := []) C (m_X5_refused (xl X) (xD X) cI cS q MI MA (-2 : Int32)) mv_X5_141 rfl rfl rfl ⟨Nat.zero_le _, Nat.zero_le _⟩ rfl rfl (Nat.le_of_ble_eq_true rfl) dX5_sheet_34 (fun r34 => ?_)
        exact r_iret (pc := 37) C rfl rfl dX5_sheet_37
  · refine r_aload_n (pc := 7) C 0 dX5_sheet_7 rfl rfl ?_
    refine r_iconst (pc := 8) C dX5_sheet_8 (ci_m1) ?_
    refine r_callV0 (pc := 9) (rest := []) C (m_X5_refused (xl X) (xD X) cI cS q MI MA (-1 : Int32)) mv_X5_141 rfl rfl rfl ⟨Nat.zero_le _, Nat.zero_le _⟩ rfl rfl (Nat.le_of_ble_eq_true rfl) dX5_sheet_9 (fun r9 => ?_)
    exact r_iret (pc := 12) C rfl rfl dX5_sheet_12)
set_option maxHeartbeats 4000000 in
set_option maxRecDepth 100000 in
theorem wj_X5_lose_23 {cI cS : ClassId} (X : CX) (C : Cx X RX5 cX5_lose 3 (some .int) (rmz 2 45) (tyz cI cS)) (q : Nat → Nat) (MI : Nat → Int32) (MA : Nat → Nat → Int32) (a1 : Int32) (s0_23 : Int32)  : JR X (QF X (tyz cI cS) 0 0 (fun o : Int32 × (Nat → Nat → Int32) => some (.int o.1)) (fun o : Int32 × (Nat → Nat → Int32) => wdM cI q MI o.2)) 3 0 0 (jb_X5_lose_23 MA a1 s0_23) (wdM cI q MI MA) [(0, .ref (q 0)), (1, .int a1)] 23 [.int s0_23] := by
  unfold jb_X5_lose_23
  refine r_istore_n (pc := 23) C dX5_lose_23 rfl (by decide) (lv' := [(2, .int s0_23), (0, .ref (q 0)), (1, .int a1)]) rfl ?_
  refine r_aload_n (pc := 24) C 1 dX5_lose_24 rfl rfl ?_
  refine gf_X5_61 (pc := 25) C 0 rfl rfl dX5_lose_25 ?_
  refine r_iload_n (pc := 28) C 2 dX5_lose_28 rfl rfl ?_
  refine r_iconst (pc := 29) C dX5_lose_29 (ci_m1) ?_
  refine r_iast (pc := 30) (ws' := wdM cI q MI (va_up MA 29 (upd (MA 29) a1.toNatClampNeg (-1 : Int32)))) C 18 rfl dX5_lose_30 rfl ?_
  refine r_iload_n (pc := 31) C 0 dX5_lose_31 rfl rfl ?_
  exact r_iret (pc := 32) C rfl rfl dX5_lose_32
set_option maxHeartbeats 4000000 in
set_option maxRecDepth 100000 in
theorem m_X5_lose (l : Launch) (D : va_G) (cI cS : ClassId) (q : Nat → Nat) (MI : Nat → Int32) (MA : Nat → Nat → Int32) (a1 : Int32) : MX l D (tyz cI cS) yX5_lose cX5_lose 3 (some .int) (rmz 2 45) [.ref (q 0), .int a1] (wdM cI q MI MA) (f_X5_lose MA a1) (fun o : Int32 × (Nat → Nat → Int32) => some (.int o.1)) (fun o : Int32 × (Nat → Nat → Int32) => wdM cI q MI o.2) := met_of (own := RX5) (by decide) rfl (Nat.le_of_ble_eq_true rfl) (fun X hxl hxD C => by
  subst hxl
  subst hxD
  show JR X _ _ 0 0 (f_X5_lose MA a1) (wdM cI q MI MA) [(0, .ref (q 0)), (1, .int a1)] 0 []
  unfold f_X5_lose
  refine r_iload_n (pc := 0) C 1 dX5_lose_0 rfl rfl ?_
  refine r_callSr (pc := 1) (rest := []) C (m_X5_noSheet (xl X) (xD X) cI cS a1) ms_X5_137 rfl ⟨Nat.zero_le _, Nat.zero_le _⟩ rfl rfl (Nat.le_of_ble_eq_true rfl) dX5_lose_1 (fun r1 => ?_)
  refine r_if_eq (pc := 4) (tgt := 9) C dX5_lose_4 (by decide) ?_ ?_
  · refine r_aload_n (pc := 9) C 0 dX5_lose_9 rfl rfl ?_
    refine gf_X5_61 (pc := 10) C 0 rfl rfl dX5_lose_10 ?_
    refine r_iload_n (pc := 13) C 1 dX5_lose_13 rfl rfl ?_
    refine r_iald (pc := 14) C 18 rfl dX5_lose_14 ?_
    refine r_if_ge (pc := 15) (tgt := 22) C dX5_lose_15 (by decide) ?_ ?_
    · refine r_iconst (pc := 22) C dX5_lose_22 (ci_1) ?_
      exact r_sub [0, 1] rfl (wj_X5_lose_23 X C q MI MA a1 (1 : Int32) )
    · refine r_iconst (pc := 18) C dX5_lose_18 (ci_0) ?_
      refine r_goto (pc := 19) (tgt := 23) C dX5_lose_19 (by decide) ?_
      exact r_sub [0, 1] rfl (wj_X5_lose_23 X C q MI MA a1 (0 : Int32) )
  · refine r_iconst (pc := 7) C dX5_lose_7 (ci_m1) ?_
    exact r_iret (pc := 8) C rfl rfl dX5_lose_8)
set_option maxHeartbeats 4000000 in
set_option maxRecDepth 100000 in
theorem m_X5_noCell (l : Launch) (D : va_G) (cI cS : ClassId) (q : Nat → Nat) (MI : Nat → Int32) (MA : Nat → Nat → Int32) (a1 : Int32) (a2 : Int32) : MX l D (tyz cI cS) yX5_noCell cX5_noCell 3 (some .int) (rmz 1 25) [.ref (q 0), .int a1, .int a2] (wdM cI q MI MA) (f_X5_noCell MA a1 a2) (fun o : Int32 => some (.int o)) (fun o : Int32 => wdM cI q MI MA) := met_of (own := RX5) (by decide) rfl (Nat.le_of_ble_eq_true rfl) (fun X hxl hxD C => by
  subst hxl
  subst hxD
  show JR X _ _ 0 0 (f_X5_noCell MA a1 a2) (wdM cI q MI MA) [(0, .ref (q 0)), (1, .int a1), (2, .int a2)] 0 []
  unfold f_X5_noCell
  refine r_aload_n (pc := 0) C 0 dX5_noCell_0 rfl rfl ?_
  refine gf_X5_61 (pc := 1) C 0 rfl rfl dX5_noCell_1 ?_
  refine r_iload_n (pc := 4) C 1 dX5_noCell_4 rfl rfl ?_
  refine r_iald (pc := 5) C 18 rfl dX5_noCell_5 ?_
  refine r_if_ge (pc := 6) (tgt := 13) C dX5_noCell_6 (by decide) ?_ ?_
  · refine r_iload_n (pc := 13) C 2 dX5_noCell_13 rfl rfl ?_
    refine r_i2l (pc := 14) C dX5_noCell_14 ?_
    refine r_lconst (pc := 15) (v := 0) C dX5_noCell_15 rfl ?_
    refine r_aload_n (pc := 16) C 0 dX5_noCell_16 rfl rfl ?_
    refine gf_X5_61 (pc := 17) C 0 rfl rfl dX5_noCell_17 ?_
    refine r_iload_n (pc := 20) C 1 dX5_noCell_20 rfl rfl ?_
    refine r_iald (pc := 21) C 18 rfl dX5_noCell_21 ?_
    refine r_i2l (pc := 22) C dX5_noCell_22 ?_
    refine r_lconst (pc := 23) (v := 1) C dX5_noCell_23 rfl ?_
    refine r_lsub (pc := 24) C dX5_noCell_24 ?_
    refine r_callSr (pc := 25) (rest := []) C (m_X5_in (xl X) (xD X) cI cS a2.toInt64 (0 : Int64) (((MA 29 a1.toNatClampNeg).toInt64) - (1 : Int64))) ms_X5_91 rfl ⟨Nat.zero_le _, Nat.zero_le _⟩ rfl rfl (Nat.le_of_ble_eq_true rfl) dX5_noCell_25 (fun r25 => ?_)
    refine r_if_eq (pc := 28) (tgt := 35) C dX5_noCell_28 (by decide) ?_ ?_
    · refine r_iconst (pc := 35) C dX5_noCell_35 (ci_3) ?_
      exact r_iret (pc := 36) C rfl rfl dX5_noCell_36
    · refine r_iconst (pc := 31) C dX5_noCell_31 (ci_0) ?_
      refine r_goto (pc := 32) (tgt := 36) C dX5_noCell_32 (by decide) ?_
      exact r_iret (pc := 36) C rfl rfl dX5_noCell_36
  · refine r_iconst (pc := 9) C dX5_noCell_9 (ci_1) ?_
    refine r_goto (pc := 10) (tgt := 36) C dX5_noCell_10 (by decide) ?_
    exact r_iret (pc := 36) C rfl rfl dX5_noCell_36)
set_option maxHeartbeats 4000000 in
set_option maxRecDepth 100000 in
theorem m_X5_put (l : Launch) (D : va_G) (cI cS : ClassId) (q : Nat → Nat) (MI : Nat → Int32) (MA : Nat → Nat → Int32) (a1 : Int32) (a2 : Int32) (a3 : Int32) : MX l D (tyz cI cS) yX5_put cX5_put 4 (some .int) (rmz 2 47) [.ref (q 0), .int a1, .int a2, .int a3] (wdM cI q MI MA) (f_X5_put MI MA a1 a2 a3) (fun o : Int32 × (Nat → Int32) × (Nat → Nat → Int32) => some (.int o.1)) (fun o : Int32 × (Nat → Int32) × (Nat → Nat → Int32) => wdM cI q o.2.1 o.2.2) := met_of (own := RX5) (by decide) rfl (Nat.le_of_ble_eq_true rfl) (fun X hxl hxD C => by
  subst hxl
  subst hxD
  show JR X _ _ 0 0 (f_X5_put MI MA a1 a2 a3) (wdM cI q MI MA) [(0, .ref (q 0)), (1, .int a1), (2, .int a2), (3, .int a3)] 0 []
  unfold f_X5_put
  refine r_iload_n (pc := 0) C 1 dX5_put_0 rfl rfl ?_
  refine r_callSr (pc := 1) (rest := []) C (m_X5_noSheet (xl X) (xD X) cI cS a1) ms_X5_137 rfl ⟨Nat.zero_le _, Nat.zero_le _⟩ rfl rfl (Nat.le_of_ble_eq_true rfl) dX5_put_1 (fun r1 => ?_)
  refine r_if_eq (pc := 4) (tgt := 13) C dX5_put_4 (by decide) ?_ ?_
  · refine r_aload_n (pc := 13) C 0 dX5_put_13 rfl rfl ?_
    refine r_iload_n (pc := 14) C 1 dX5_put_14 rfl rfl ?_
    refine r_iload_n (pc := 15) C 2 dX5_put_15 rfl rfl ?_
    refine r_callV0 (pc := 16) (rest := []) C (m_X5_noCell (xl X) (xD X) cI cS q MI MA a1 a2) mv_X5_229 rfl rfl rfl ⟨Nat.zero_le _, Nat.zero_le _⟩ rfl rfl (Nat.le_of_ble_eq_true rfl) dX5_put_16 (fun r16 => ?_)
    refine r_if_le (pc := 19) (tgt := 33) C dX5_put_19 (by decide) ?_ ?_
    · refine r_aload_n (pc := 33) C 0 dX5_put_33 rfl rfl ?_
      refine gf_X5_67 (pc := 34) C 0 rfl rfl dX5_put_34 ?_
      refine r_bipush (pc := 37) C dX5_put_37 (cb_60) ?_
      refine r_iload_n (pc := 39) C 1 dX5_put_39 rfl rfl ?_
      refine r_imul (pc := 40) C dX5_put_40 ?_
      refine r_iload_n (pc := 41) C 2 dX5_put_41 rfl rfl ?_
      refine r_iadd (pc := 42) C dX5_put_42 ?_
      refine r_aload_n (pc := 43) C 0 dX5_put_43 rfl rfl ?_
      refine gf_X5_64 (pc := 44) C 0 rfl rfl dX5_put_44 ?_
      refine r_iload_n (pc := 47) C 1 dX5_put_47 rfl rfl ?_
      refine r_iald (pc := 48) C 19 rfl dX5_put_48 ?_
      refine r_if_ne (pc := 49) (tgt := 57) C dX5_put_49 (by decide) ?_ ?_
      · refine r_aload_n (pc := 57) C 0 dX5_put_57 rfl rfl ?_
        refine gf_X5_64 (pc := 58) C 0 rfl rfl dX5_put_58 ?_
        refine r_iload_n (pc := 61) C 1 dX5_put_61 rfl rfl ?_
        refine r_iald (pc := 62) C 19 rfl dX5_put_62 ?_
        refine r_iconst (pc := 63) C dX5_put_63 (ci_1) ?_
        refine r_icmp_ne (pc := 64) (tgt := 72) C dX5_put_64 (by decide) ?_ ?_
        · refine r_iload_n (pc := 72) C 3 dX5_put_72 rfl rfl ?_
          refine r_iast (pc := 73) (ws' := wdM cI q MI (va_up MA 31 (upd (MA 31) (((60 : Int32) * a1) + a2).toNatClampNeg a3))) C 20 rfl dX5_put_73 rfl ?_
          refine r_aload_n (pc := 74) C 0 dX5_put_74 rfl rfl ?_
          refine r_iconst (pc := 75) C dX5_put_75 (ci_1) ?_
          refine r_callV0 (pc := 76) (rest := []) C (m_X5_refused (xl X) (xD X) cI cS q MI (va_up MA 31 (upd (MA 31) (((60 : Int32) * a1) + a2).toNatClampNeg a3)) (1 : Int32)) mv_X5_141 rfl rfl rfl ⟨Nat.zero_le _, Nat.zero_le _⟩ rfl rfl (Nat.le_of_ble_eq_true rfl) dX5_put_76 (fun r76 => ?_)
          exact r_iret (pc := 79) C rfl rfl dX5_put_79
        · refine r_iload_n (pc := 67) C 3 dX5_put_67 rfl rfl ?_
          refine r_i2s (pc := 68) C dX5_put_68 ?_
          refine r_goto (pc := 69) (tgt := 73) C dX5_put_69 (by decide) ?_
          refine r_iast (pc := 73) (ws' := wdM cI q MI (va_up MA 31 (upd (MA 31) (((60 : Int32) * a1) + a2).toNatClampNeg a3.toInt16.toInt32))) C 20 rfl dX5_put_73 rfl ?_
          refine r_aload_n (pc := 74) C 0 dX5_put_74 rfl rfl ?_
          refine r_iconst (pc := 75) C dX5_put_75 (ci_1) ?_
          refine r_callV0 (pc := 76) (rest := []) C (m_X5_refused (xl X) (xD X) cI cS q MI (va_up MA 31 (upd (MA 31) (((60 : Int32) * a1) + a2).toNatClampNeg a3.toInt16.toInt32)) (1 : Int32)) mv_X5_141 rfl rfl rfl ⟨Nat.zero_le _, Nat.zero_le _⟩ rfl rfl (Nat.le_of_ble_eq_true rfl) dX5_put_76 (fun r76 => ?_)
          exact r_iret (pc := 79) C rfl rfl dX5_put_79
      · refine r_iload_n (pc := 52) C 3 dX5_put_52 rfl rfl ?_
        refine r_i2b (pc := 53) C dX5_put_53 ?_
        refine r_goto (pc := 54) (tgt := 73) C dX5_put_54 (by decide) ?_
        refine r_iast (pc := 73) (ws' := wdM cI q MI (va_up MA 31 (upd (MA 31) (((60 : Int32) * a1) + a2).toNatClampNeg a3.toInt8.toInt32))) C 20 rfl dX5_put_73 rfl ?_
        refine r_aload_n (pc := 74) C 0 dX5_put_74 rfl rfl ?_
        refine r_iconst (pc := 75) C dX5_put_75 (ci_1) ?_
        refine r_callV0 (pc := 76) (rest := []) C (m_X5_refused (xl X) (xD X) cI cS q MI (va_up MA 31 (upd (MA 31) (((60 : Int32) * a1) + a2).toNatClampNeg a3.toInt8.toInt32)) (1 : Int32)) mv_X5_141 rfl rfl rfl ⟨Nat.zero_le _, Nat.zero_le _⟩ rfl rfl (Nat.le_of_ble_eq_true rfl) dX5_put_76 (fun r76 => ?_)
        exact r_iret (pc := 79) C rfl rfl dX5_put_79
    · refine r_aload_n (pc := 22) C 0 dX5_put_22 rfl rfl ?_
      refine r_aload_n (pc := 23) C 0 dX5_put_23 rfl rfl ?_
      refine r_iload_n (pc := 24) C 1 dX5_put_24 rfl rfl ?_
      refine r_iload_n (pc := 25) C 2 dX5_put_25 rfl rfl ?_
      refine r_callV0 (pc := 26) (rest := [.ref (q 0)]) C (m_X5_noCell (xl X) (xD X) cI cS q MI MA a1 a2) mv_X5_229 rfl rfl rfl ⟨Nat.zero_le _, Nat.zero_le _⟩ rfl rfl (Nat.le_of_ble_eq_true rfl) dX5_put_26 (fun r26 => ?_)
      refine r_callV0 (pc := 29) (rest := []) C (m_X5_failed (xl X) (xD X) cI cS q MI MA r26) mv_X5_129 rfl rfl rfl ⟨Nat.zero_le _, Nat.zero_le _⟩ rfl rfl (Nat.le_of_ble_eq_true rfl) dX5_put_29 (fun r29 => ?_)
      exact r_iret (pc := 32) C rfl rfl dX5_put_32
  · refine r_aload_n (pc := 7) C 0 dX5_put_7 rfl rfl ?_
    refine r_iconst (pc := 8) C dX5_put_8 (ci_m1) ?_
    refine r_callV0 (pc := 9) (rest := []) C (m_X5_refused (xl X) (xD X) cI cS q MI MA (-1 : Int32)) mv_X5_141 rfl rfl rfl ⟨Nat.zero_le _, Nat.zero_le _⟩ rfl rfl (Nat.le_of_ble_eq_true rfl) dX5_put_9 (fun r9 => ?_)
    exact r_iret (pc := 12) C rfl rfl dX5_put_12)
set_option maxHeartbeats 4000000 in
set_option maxRecDepth 100000 in
theorem wj_X5_cell_53 {cI cS : ClassId} (X : CX) (C : Cx X RX5 cX5_cell 4 (some .long) (rmz 2 47) (tyz cI cS)) (q : Nat → Nat) (MI : Nat → Int32) (MA : Nat → Nat → Int32) (a1 : Int32) (a2 : Int32)  : JR X (QF X (tyz cI cS) 0 0 (fun o : Int64 × (Nat → Int32) => some (.long o.1)) (fun o : Int64 × (Nat → Int32) => wdM cI q o.2 MA)) 4 0 0 (jb_X5_cell_53 MI MA a1 a2) (wdM cI q (upd MI 0 (0 : Int32)) MA) [(0, .ref (q 0)), (1, .int a1), (2, .int a2)] 53 [] := by
  unfold jb_X5_cell_53
  refine r_aload_n (pc := 53) C 0 dX5_cell_53 rfl rfl ?_
  refine r_iload_n (pc := 54) C 1 dX5_cell_54 rfl rfl ?_
  refine r_iload_n (pc := 55) C 2 dX5_cell_55 rfl rfl ?_
  refine r_callV0 (pc := 56) (rest := []) C (m_X5_noCell (xl X) (xD X) cI cS q (upd MI 0 (0 : Int32)) MA a1 a2) mv_X5_229 rfl rfl rfl ⟨Nat.zero_le _, Nat.zero_le _⟩ rfl rfl (Nat.le_of_ble_eq_true rfl) dX5_cell_56 (fun r56 => ?_)
  refine r_if_le (pc := 59) (tgt := 75) C dX5_cell_59 (by decide) ?_ ?_
  · refine r_aload_n (pc := 75) C 0 dX5_cell_75 rfl rfl ?_
    refine gf_X5_67 (pc := 76) C 0 rfl rfl dX5_cell_76 ?_
    refine r_bipush (pc := 79) C dX5_cell_79 (cb_60) ?_
    refine r_iload_n (pc := 81) C 1 dX5_cell_81 rfl rfl ?_
    refine r_imul (pc := 82) C dX5_cell_82 ?_
    refine r_iload_n (pc := 83) C 2 dX5_cell_83 rfl rfl ?_
    refine r_iadd (pc := 84) C dX5_cell_84 ?_
    refine r_iald (pc := 85) C 20 rfl dX5_cell_85 ?_
    refine r_i2l (pc := 86) C dX5_cell_86 ?_
    exact r_lret (pc := 87) C rfl rfl dX5_cell_87
  · refine r_aload_n (pc := 62) C 0 dX5_cell_62 rfl rfl ?_
    refine r_aload_n (pc := 63) C 0 dX5_cell_63 rfl rfl ?_
    refine r_iload_n (pc := 64) C 1 dX5_cell_64 rfl rfl ?_
    refine r_iload_n (pc := 65) C 2 dX5_cell_65 rfl rfl ?_
    refine r_callV0 (pc := 66) (rest := [.ref (q 0)]) C (m_X5_noCell (xl X) (xD X) cI cS q (upd MI 0 (0 : Int32)) MA a1 a2) mv_X5_229 rfl rfl rfl ⟨Nat.zero_le _, Nat.zero_le _⟩ rfl rfl (Nat.le_of_ble_eq_true rfl) dX5_cell_66 (fun r66 => ?_)
    refine r_callV0 (pc := 69) (rest := []) C (m_X5_failedLong (xl X) (xD X) cI cS q (upd MI 0 (0 : Int32)) MA r66) mv_X5_232 rfl rfl rfl ⟨Nat.zero_le _, Nat.zero_le _⟩ rfl rfl (Nat.le_of_ble_eq_true rfl) dX5_cell_69 (fun r69 => ?_)
    refine r_goto (pc := 72) (tgt := 87) C dX5_cell_72 (by decide) ?_
    exact r_lret (pc := 87) C rfl rfl dX5_cell_87
set_option maxHeartbeats 4000000 in
set_option maxRecDepth 100000 in
theorem m_X5_cell (l : Launch) (D : va_G) (cI cS : ClassId) (q : Nat → Nat) (MI : Nat → Int32) (MA : Nat → Nat → Int32) (a1 : Int32) (a2 : Int32) (a3 : Int32) : MX l D (tyz cI cS) yX5_cell cX5_cell 4 (some .long) (rmz 2 47) [.ref (q 0), .int a1, .int a2, .int a3] (wdM cI q MI MA) (f_X5_cell MI MA a1 a2 a3) (fun o : Int64 × (Nat → Int32) => some (.long o.1)) (fun o : Int64 × (Nat → Int32) => wdM cI q o.2 MA) := met_of (own := RX5) (by decide) rfl (Nat.le_of_ble_eq_true rfl) (fun X hxl hxD C => by
  subst hxl
  subst hxD
  show JR X _ _ 0 0 (f_X5_cell MI MA a1 a2 a3) (wdM cI q MI MA) [(0, .ref (q 0)), (1, .int a1), (2, .int a2), (3, .int a3)] 0 []
  unfold f_X5_cell
  refine r_aload_n (pc := 0) C 0 dX5_cell_0 rfl rfl ?_
  refine r_iconst (pc := 1) C dX5_cell_1 (ci_0) ?_
  refine pf_X5_81 (pc := 2) (ws' := wdM cI q (upd MI 0 (0 : Int32)) MA) C 0 rfl rfl dX5_cell_2 rfl ?_
  refine r_iload_n (pc := 5) C 1 dX5_cell_5 rfl rfl ?_
  refine r_callSr (pc := 6) (rest := []) C (m_X5_noSheet (xl X) (xD X) cI cS a1) ms_X5_137 rfl ⟨Nat.zero_le _, Nat.zero_le _⟩ rfl rfl (Nat.le_of_ble_eq_true rfl) dX5_cell_6 (fun r6 => ?_)
  refine r_if_ne (pc := 9) (tgt := 24) C dX5_cell_9 (by decide) ?_ ?_
  · refine r_callSr (pc := 24) (rest := []) C (m_X5_lost (xl X) (xD X) cI cS) ms_X5_84 rfl ⟨Nat.zero_le _, Nat.zero_le _⟩ rfl rfl (Nat.le_of_ble_eq_true rfl) dX5_cell_24 (fun r24 => ?_)
    exact r_lret (pc := 27) C rfl rfl dX5_cell_27
  · refine r_iload_n (pc := 12) C 3 dX5_cell_12 rfl rfl ?_
    refine r_i2l (pc := 13) C dX5_cell_13 ?_
    refine r_lconst (pc := 14) (v := 0) C dX5_cell_14 rfl ?_
    refine r_ldc2 (pc := 15) C kk_X5_98 dX5_cell_15 ?_
    refine r_callSr (pc := 18) (rest := []) C (m_X5_in (xl X) (xD X) cI cS a3.toInt64 (0 : Int64) (2 : Int64)) ms_X5_91 rfl ⟨Nat.zero_le _, Nat.zero_le _⟩ rfl rfl (Nat.le_of_ble_eq_true rfl) dX5_cell_18 (fun r18 => ?_)
    refine r_if_ne (pc := 21) (tgt := 28) C dX5_cell_21 (by decide) ?_ ?_
    · refine r_aload_n (pc := 28) C 0 dX5_cell_28 rfl rfl ?_
      refine gf_X5_61 (pc := 29) C 0 rfl rfl dX5_cell_29 ?_
      refine r_iload_n (pc := 32) C 1 dX5_cell_32 rfl rfl ?_
      refine r_iald (pc := 33) C 18 rfl dX5_cell_33 ?_
      refine r_if_lt (pc := 34) (tgt := 53) C dX5_cell_34 (by decide) ?_ ?_
      · exact r_sub [0, 1, 2] rfl (wj_X5_cell_53 X C q MI MA a1 a2 )
      · refine r_aload_n (pc := 37) C 0 dX5_cell_37 rfl rfl ?_
        refine gf_X5_64 (pc := 38) C 0 rfl rfl dX5_cell_38 ?_
        refine r_iload_n (pc := 41) C 1 dX5_cell_41 rfl rfl ?_
        refine r_iald (pc := 42) C 19 rfl dX5_cell_42 ?_
        refine r_iload_n (pc := 43) C 3 dX5_cell_43 rfl rfl ?_
        refine r_icmp_eq (pc := 44) (tgt := 53) C dX5_cell_44 (by decide) ?_ ?_
        · exact r_sub [0, 1, 2] rfl (wj_X5_cell_53 X C q MI MA a1 a2 )
        · refine r_aload_n (pc := 47) C 0 dX5_cell_47 rfl rfl ?_
          refine r_iconst (pc := 48) C dX5_cell_48 (ci_2) ?_
          refine r_callV0 (pc := 49) (rest := []) C (m_X5_failedLong (xl X) (xD X) cI cS q (upd MI 0 (0 : Int32)) MA (2 : Int32)) mv_X5_232 rfl rfl rfl ⟨Nat.zero_le _, Nat.zero_le _⟩ rfl rfl (Nat.le_of_ble_eq_true rfl) dX5_cell_49 (fun r49 => ?_)
          exact r_lret (pc := 52) C rfl rfl dX5_cell_52
    · refine r_callSr (pc := 24) (rest := []) C (m_X5_lost (xl X) (xD X) cI cS) ms_X5_84 rfl ⟨Nat.zero_le _, Nat.zero_le _⟩ rfl rfl (Nat.le_of_ble_eq_true rfl) dX5_cell_24 (fun r24 => ?_)
      exact r_lret (pc := 27) C rfl rfl dX5_cell_27)
set_option maxHeartbeats 4000000 in
set_option maxRecDepth 100000 in
theorem wl_X5_copy_144 {cI cS : ClassId} (X : CX) (C : Cx X RX5 cX5_copy 7 (some .int) (rmz 2 45) (tyz cI cS)) (q : Nat → Nat) (MI : Nat → Int32) (a3 : Int32) (a4 : Int32) (a5 : Int32)  (kk : Int32 → (Nat → Nat → Int32) → Option (Int32 × (Nat → Int32) × (Nat → Nat → Int32))) (hk_144 : ∀ (el6_144 : Int32) (eMA_144 : Nat → Nat → Int32), JR X (QF X (tyz cI cS) 0 0 (fun o : Int32 × (Nat → Int32) × (Nat → Nat → Int32) => some (.int o.1)) (fun o : Int32 × (Nat → Int32) × (Nat → Nat → Int32) => wdM cI q o.2.1 o.2.2)) 7 0 0 (kk el6_144 eMA_144) (wdM cI q MI eMA_144) [(0, .ref (q 0)), (5, .int a5)] 179 []) : ∀ (fuel : Nat) (l6_144 : Int32) (MA_144 : Nat → Nat → Int32), JR X (QF X (tyz cI cS) 0 0 (fun o : Int32 × (Nat → Int32) × (Nat → Nat → Int32) => some (.int o.1)) (fun o : Int32 × (Nat → Int32) × (Nat → Nat → Int32) => wdM cI q o.2.1 o.2.2)) 7 0 0 (lp_X5_copy_144 kk a3 a4 a5 fuel l6_144 MA_144) (wdM cI q MI MA_144) [(0, .ref (q 0)), (3, .int a3), (4, .int a4), (5, .int a5), (6, .int l6_144)] 144 [] := by
  intro fuel
  induction fuel with
  | zero => intro l6_144 MA_144; exact r_none
  | succ fu_144 ih_144 =>
    intro l6_144 MA_144
    unfold lp_X5_copy_144
    refine r_iload (pc := 144) C 4 dX5_copy_144 rfl ?_
    refine r_iload (pc := 146) C 3 dX5_copy_146 rfl ?_
    refine r_icmp_ge (pc := 148) (tgt := 179) C dX5_copy_148 (by decide) ?_ ?_
    · exact r_sub [0, 3] rfl (hk_144 l6_144 MA_144)
    · refine r_aload_n (pc := 151) C 0 dX5_copy_151 rfl rfl ?_
      refine gf_X5_67 (pc := 152) C 0 rfl rfl dX5_copy_152 ?_
      refine r_bipush (pc := 155) C dX5_copy_155 (cb_60) ?_
      refine r_iload_n (pc := 157) C 1 dX5_copy_157 rfl rfl ?_
      refine r_imul (pc := 158) C dX5_copy_158 ?_
      refine r_iload (pc := 159) C 2 dX5_copy_159 rfl ?_
      refine r_iadd (pc := 161) C dX5_copy_161 ?_
      refine r_iload (pc := 162) C 4 dX5_copy_162 rfl ?_
      refine r_iadd (pc := 164) C dX5_copy_164 ?_
      refine r_aload_n (pc := 165) C 0 dX5_copy_165 rfl rfl ?_
      refine gf_X5_70 (pc := 166) C 0 rfl rfl dX5_copy_166 ?_
      refine r_iload (pc := 169) C 4 dX5_copy_169 rfl ?_
      refine r_iald (pc := 171) C 21 rfl dX5_copy_171 ?_
      refine r_iast (pc := 172) (ws' := wdM cI q MI (va_up MA_144 31 (upd (MA_144 31) ((((60 : Int32) * a3) + a4) + l6_144).toNatClampNeg (MA_144 32 l6_144.toNatClampNeg)))) C 20 rfl dX5_copy_172 rfl ?_
      refine r_iinc (pc := 173) C 4 dX5_copy_173 rfl (ci_1) (by decide) (lv' := [(6, .int (l6_144 + (1 : Int32))), (0, .ref (q 0)), (3, .int a3), (4, .int a4), (5, .int a5)]) rfl ?_
      refine r_goto (pc := 176) (tgt := 144) C dX5_copy_176 (by decide) ?_
      exact r_sub [1, 2, 3, 4, 0] rfl (ih_144 (l6_144 + (1 : Int32)) (va_up MA_144 31 (upd (MA_144 31) ((((60 : Int32) * a3) + a4) + l6_144).toNatClampNeg (MA_144 32 l6_144.toNatClampNeg))))
set_option maxHeartbeats 4000000 in
set_option maxRecDepth 100000 in
theorem wl_X5_copy_107 {cI cS : ClassId} (X : CX) (C : Cx X RX5 cX5_copy 7 (some .int) (rmz 2 45) (tyz cI cS)) (q : Nat → Nat) (MI : Nat → Int32) (a1 : Int32) (a2 : Int32) (a3 : Int32) (a4 : Int32) (a5 : Int32)  (kk : Int32 → (Nat → Nat → Int32) → Option (Int32 × (Nat → Int32) × (Nat → Nat → Int32))) (hk_107 : ∀ (el6_107 : Int32) (eMA_107 : Nat → Nat → Int32), JR X (QF X (tyz cI cS) 0 0 (fun o : Int32 × (Nat → Int32) × (Nat → Nat → Int32) => some (.int o.1)) (fun o : Int32 × (Nat → Int32) × (Nat → Nat → Int32) => wdM cI q o.2.1 o.2.2)) 7 0 0 (kk el6_107 eMA_107) (wdM cI q MI eMA_107) [(0, .ref (q 0)), (3, .int a3), (4, .int a4), (5, .int a5)] 141 []) : ∀ (fuel : Nat) (l6_107 : Int32) (MA_107 : Nat → Nat → Int32), JR X (QF X (tyz cI cS) 0 0 (fun o : Int32 × (Nat → Int32) × (Nat → Nat → Int32) => some (.int o.1)) (fun o : Int32 × (Nat → Int32) × (Nat → Nat → Int32) => wdM cI q o.2.1 o.2.2)) 7 0 0 (lp_X5_copy_107 kk a1 a2 a5 fuel l6_107 MA_107) (wdM cI q MI MA_107) [(0, .ref (q 0)), (1, .int a1), (2, .int a2), (3, .int a3), (4, .int a4), (5, .int a5), (6, .int l6_107)] 107 [] := by
  intro fuel
  induction fuel with
  | zero => intro l6_107 MA_107; exact r_none
  | succ fu_107 ih_107 =>
    intro l6_107 MA_107
    unfold lp_X5_copy_107
    refine r_iload (pc := 107) C 6 dX5_copy_107 rfl ?_
    refine r_iload (pc := 109) C 5 dX5_copy_109 rfl ?_
    refine r_icmp_ge (pc := 111) (tgt := 141) C dX5_copy_111 (by decide) ?_ ?_
    · exact r_sub [0, 3, 4, 5] rfl (hk_107 l6_107 MA_107)
    · refine r_aload_n (pc := 114) C 0 dX5_copy_114 rfl rfl ?_
      refine gf_X5_70 (pc := 115) C 0 rfl rfl dX5_copy_115 ?_
      refine r_iload (pc := 118) C 6 dX5_copy_118 rfl ?_
      refine r_aload_n (pc := 120) C 0 dX5_copy_120 rfl rfl ?_
      refine gf_X5_67 (pc := 121) C 0 rfl rfl dX5_copy_121 ?_
      refine r_bipush (pc := 124) C dX5_copy_124 (cb_60) ?_
      refine r_iload_n (pc := 126) C 1 dX5_copy_126 rfl rfl ?_
      refine r_imul (pc := 127) C dX5_copy_127 ?_
      refine r_iload_n (pc := 128) C 2 dX5_copy_128 rfl rfl ?_
      refine r_iadd (pc := 129) C dX5_copy_129 ?_
      refine r_iload (pc := 130) C 6 dX5_copy_130 rfl ?_
      refine r_iadd (pc := 132) C dX5_copy_132 ?_
      refine r_iald (pc := 133) C 20 rfl dX5_copy_133 ?_
      refine r_iast (pc := 134) (ws' := wdM cI q MI (va_up MA_107 32 (upd (MA_107 32) l6_107.toNatClampNeg (MA_107 31 ((((60 : Int32) * a1) + a2) + l6_107).toNatClampNeg)))) C 21 rfl dX5_copy_134 rfl ?_
      refine r_iinc (pc := 135) C 6 dX5_copy_135 rfl (ci_1) (by decide) (lv' := [(6, .int (l6_107 + (1 : Int32))), (0, .ref (q 0)), (1, .int a1), (2, .int a2), (3, .int a3), (4, .int a4), (5, .int a5)]) rfl ?_
      refine r_goto (pc := 138) (tgt := 107) C dX5_copy_138 (by decide) ?_
      exact r_sub [1, 2, 3, 4, 5, 6, 0] rfl (ih_107 (l6_107 + (1 : Int32)) (va_up MA_107 32 (upd (MA_107 32) l6_107.toNatClampNeg (MA_107 31 ((((60 : Int32) * a1) + a2) + l6_107).toNatClampNeg))))
set_option maxHeartbeats 4000000 in
set_option maxRecDepth 100000 in
theorem m_X5_copy (l : Launch) (D : va_G) (cI cS : ClassId) (q : Nat → Nat) (MI : Nat → Int32) (MA : Nat → Nat → Int32) (a1 : Int32) (a2 : Int32) (a3 : Int32) (a4 : Int32) (a5 : Int32) : MX l D (tyz cI cS) yX5_copy cX5_copy 7 (some .int) (rmz 2 45) [.ref (q 0), .int a1, .int a2, .int a3, .int a4, .int a5] (wdM cI q MI MA) (f_X5_copy MI MA a1 a2 a3 a4 a5) (fun o : Int32 × (Nat → Int32) × (Nat → Nat → Int32) => some (.int o.1)) (fun o : Int32 × (Nat → Int32) × (Nat → Nat → Int32) => wdM cI q o.2.1 o.2.2) := met_of (own := RX5) (by decide) rfl (Nat.le_of_ble_eq_true rfl) (fun X hxl hxD C => by
  subst hxl
  subst hxD
  show JR X _ _ 0 0 (f_X5_copy MI MA a1 a2 a3 a4 a5) (wdM cI q MI MA) [(0, .ref (q 0)), (1, .int a1), (2, .int a2), (3, .int a3), (4, .int a4), (5, .int a5)] 0 []
  unfold f_X5_copy
  refine r_iload_n (pc := 0) C 1 dX5_copy_0 rfl rfl ?_
  refine r_callSr (pc := 1) (rest := []) C (m_X5_noSheet (xl X) (xD X) cI cS a1) ms_X5_137 rfl ⟨Nat.zero_le _, Nat.zero_le _⟩ rfl rfl (Nat.le_of_ble_eq_true rfl) dX5_copy_1 (fun r1 => ?_)
  refine r_if_ne (pc := 4) (tgt := 14) C dX5_copy_4 (by decide) ?_ ?_
  · refine r_aload_n (pc := 14) C 0 dX5_copy_14 rfl rfl ?_
    refine r_iconst (pc := 15) C dX5_copy_15 (ci_m1) ?_
    refine r_callV0 (pc := 16) (rest := []) C (m_X5_refused (xl X) (xD X) cI cS q MI MA (-1 : Int32)) mv_X5_141 rfl rfl rfl ⟨Nat.zero_le _, Nat.zero_le _⟩ rfl rfl (Nat.le_of_ble_eq_true rfl) dX5_copy_16 (fun r16 => ?_)
    exact r_iret (pc := 19) C rfl rfl dX5_copy_19
  · refine r_iload_n (pc := 7) C 3 dX5_copy_7 rfl rfl ?_
    refine r_callSr (pc := 8) (rest := []) C (m_X5_noSheet (xl X) (xD X) cI cS a3) ms_X5_137 rfl ⟨Nat.zero_le _, Nat.zero_le _⟩ rfl rfl (Nat.le_of_ble_eq_true rfl) dX5_copy_8 (fun r8 => ?_)
    refine r_if_eq (pc := 11) (tgt := 20) C dX5_copy_11 (by decide) ?_ ?_
    · refine r_aload_n (pc := 20) C 0 dX5_copy_20 rfl rfl ?_
      refine gf_X5_61 (pc := 21) C 0 rfl rfl dX5_copy_21 ?_
      refine r_iload_n (pc := 24) C 1 dX5_copy_24 rfl rfl ?_
      refine r_iald (pc := 25) C 18 rfl dX5_copy_25 ?_
      refine r_if_lt (pc := 26) (tgt := 38) C dX5_copy_26 (by decide) ?_ ?_
      · refine r_aload_n (pc := 38) C 0 dX5_copy_38 rfl rfl ?_
        refine r_iconst (pc := 39) C dX5_copy_39 (ci_1) ?_
        refine r_callV0 (pc := 40) (rest := []) C (m_X5_failed (xl X) (xD X) cI cS q MI MA (1 : Int32)) mv_X5_129 rfl rfl rfl ⟨Nat.zero_le _, Nat.zero_le _⟩ rfl rfl (Nat.le_of_ble_eq_true rfl) dX5_copy_40 (fun r40 => ?_)
        exact r_iret (pc := 43) C rfl rfl dX5_copy_43
      · refine r_aload_n (pc := 29) C 0 dX5_copy_29 rfl rfl ?_
        refine gf_X5_61 (pc := 30) C 0 rfl rfl dX5_copy_30 ?_
        refine r_iload_n (pc := 33) C 3 dX5_copy_33 rfl rfl ?_
        refine r_iald (pc := 34) C 18 rfl dX5_copy_34 ?_
        refine r_if_ge (pc := 35) (tgt := 44) C dX5_copy_35 (by decide) ?_ ?_
        · refine r_aload_n (pc := 44) C 0 dX5_copy_44 rfl rfl ?_
          refine gf_X5_64 (pc := 45) C 0 rfl rfl dX5_copy_45 ?_
          refine r_iload_n (pc := 48) C 1 dX5_copy_48 rfl rfl ?_
          refine r_iald (pc := 49) C 19 rfl dX5_copy_49 ?_
          refine r_aload_n (pc := 50) C 0 dX5_copy_50 rfl rfl ?_
          refine gf_X5_64 (pc := 51) C 0 rfl rfl dX5_copy_51 ?_
          refine r_iload_n (pc := 54) C 3 dX5_copy_54 rfl rfl ?_
          refine r_iald (pc := 55) C 19 rfl dX5_copy_55 ?_
          refine r_icmp_eq (pc := 56) (tgt := 65) C dX5_copy_56 (by decide) ?_ ?_
          · refine r_iload_n (pc := 65) C 2 dX5_copy_65 rfl rfl ?_
            refine r_iload (pc := 66) C 5 dX5_copy_66 rfl ?_
            refine r_i2l (pc := 68) C dX5_copy_68 ?_
            refine r_aload_n (pc := 69) C 0 dX5_copy_69 rfl rfl ?_
            refine gf_X5_61 (pc := 70) C 0 rfl rfl dX5_copy_70 ?_
            refine r_iload_n (pc := 73) C 1 dX5_copy_73 rfl rfl ?_
            refine r_iald (pc := 74) C 18 rfl dX5_copy_74 ?_
            refine r_callSr (pc := 75) (rest := []) C (m_X5_isBeyond (xl X) (xD X) cI cS a2 a5.toInt64 (MA 29 a1.toNatClampNeg)) ms_X5_133 rfl ⟨Nat.zero_le _, Nat.zero_le _⟩ rfl rfl (Nat.le_of_ble_eq_true rfl) dX5_copy_75 (fun r75 => ?_)
            refine r_if_ne (pc := 78) (tgt := 98) C dX5_copy_78 (by decide) ?_ ?_
            · refine r_aload_n (pc := 98) C 0 dX5_copy_98 rfl rfl ?_
              refine r_iconst (pc := 99) C dX5_copy_99 (ci_3) ?_
              refine r_callV0 (pc := 100) (rest := []) C (m_X5_failed (xl X) (xD X) cI cS q MI MA (3 : Int32)) mv_X5_129 rfl rfl rfl ⟨Nat.zero_le _, Nat.zero_le _⟩ rfl rfl (Nat.le_of_ble_eq_true rfl) dX5_copy_100 (fun r100 => ?_)
              exact r_iret (pc := 103) C rfl rfl dX5_copy_103
            · refine r_iload (pc := 81) C 4 dX5_copy_81 rfl ?_
              refine r_iload (pc := 83) C 5 dX5_copy_83 rfl ?_
              refine r_i2l (pc := 85) C dX5_copy_85 ?_
              refine r_aload_n (pc := 86) C 0 dX5_copy_86 rfl rfl ?_
              refine gf_X5_61 (pc := 87) C 0 rfl rfl dX5_copy_87 ?_
              refine r_iload_n (pc := 90) C 3 dX5_copy_90 rfl rfl ?_
              refine r_iald (pc := 91) C 18 rfl dX5_copy_91 ?_
              refine r_callSr (pc := 92) (rest := []) C (m_X5_isBeyond (xl X) (xD X) cI cS a4 a5.toInt64 (MA 29 a3.toNatClampNeg)) ms_X5_133 rfl ⟨Nat.zero_le _, Nat.zero_le _⟩ rfl rfl (Nat.le_of_ble_eq_true rfl) dX5_copy_92 (fun r92 => ?_)
              refine r_if_eq (pc := 95) (tgt := 104) C dX5_copy_95 (by decide) ?_ ?_
              · refine r_iconst (pc := 104) C dX5_copy_104 (ci_0) ?_
                refine r_istore (pc := 105) C dX5_copy_105 (by decide) (lv' := [(6, .int (0 : Int32)), (0, .ref (q 0)), (1, .int a1), (2, .int a2), (3, .int a3), (4, .int a4), (5, .int a5)]) rfl ?_
                refine r_sub [1, 2, 3, 4, 5, 6, 0] rfl (wl_X5_copy_107 X C q MI a1 a2 a3 a4 a5  _ (fun el6_107 eMA_107 => ?_) 1000 (0 : Int32) MA)
                refine r_iconst (pc := 141) C dX5_copy_141 (ci_0) ?_
                refine r_istore (pc := 142) C dX5_copy_142 (by decide) (lv' := [(6, .int (0 : Int32)), (0, .ref (q 0)), (3, .int a3), (4, .int a4), (5, .int a5)]) rfl ?_
                refine r_sub [1, 2, 3, 4, 0] rfl (wl_X5_copy_144 X C q MI a3 a4 a5  _ (fun el6_144 eMA_144 => ?_) 1000 (0 : Int32) eMA_107)
                refine r_aload_n (pc := 179) C 0 dX5_copy_179 rfl rfl ?_
                refine r_iload (pc := 180) C 1 dX5_copy_180 rfl ?_
                refine r_callV0 (pc := 182) (rest := []) C (m_X5_refused (xl X) (xD X) cI cS q MI eMA_144 a5) mv_X5_141 rfl rfl rfl ⟨Nat.zero_le _, Nat.zero_le _⟩ rfl rfl (Nat.le_of_ble_eq_true rfl) dX5_copy_182 (fun r182 => ?_)
                exact r_iret (pc := 185) C rfl rfl dX5_copy_185
              · refine r_aload_n (pc := 98) C 0 dX5_copy_98 rfl rfl ?_
                refine r_iconst (pc := 99) C dX5_copy_99 (ci_3) ?_
                refine r_callV0 (pc := 100) (rest := []) C (m_X5_failed (xl X) (xD X) cI cS q MI MA (3 : Int32)) mv_X5_129 rfl rfl rfl ⟨Nat.zero_le _, Nat.zero_le _⟩ rfl rfl (Nat.le_of_ble_eq_true rfl) dX5_copy_100 (fun r100 => ?_)
                exact r_iret (pc := 103) C rfl rfl dX5_copy_103
          · refine r_aload_n (pc := 59) C 0 dX5_copy_59 rfl rfl ?_
            refine r_iconst (pc := 60) C dX5_copy_60 (ci_2) ?_
            refine r_callV0 (pc := 61) (rest := []) C (m_X5_failed (xl X) (xD X) cI cS q MI MA (2 : Int32)) mv_X5_129 rfl rfl rfl ⟨Nat.zero_le _, Nat.zero_le _⟩ rfl rfl (Nat.le_of_ble_eq_true rfl) dX5_copy_61 (fun r61 => ?_)
            exact r_iret (pc := 64) C rfl rfl dX5_copy_64
        · refine r_aload_n (pc := 38) C 0 dX5_copy_38 rfl rfl ?_
          refine r_iconst (pc := 39) C dX5_copy_39 (ci_1) ?_
          refine r_callV0 (pc := 40) (rest := []) C (m_X5_failed (xl X) (xD X) cI cS q MI MA (1 : Int32)) mv_X5_129 rfl rfl rfl ⟨Nat.zero_le _, Nat.zero_le _⟩ rfl rfl (Nat.le_of_ble_eq_true rfl) dX5_copy_40 (fun r40 => ?_)
          exact r_iret (pc := 43) C rfl rfl dX5_copy_43
    · refine r_aload_n (pc := 14) C 0 dX5_copy_14 rfl rfl ?_
      refine r_iconst (pc := 15) C dX5_copy_15 (ci_m1) ?_
      refine r_callV0 (pc := 16) (rest := []) C (m_X5_refused (xl X) (xD X) cI cS q MI MA (-1 : Int32)) mv_X5_141 rfl rfl rfl ⟨Nat.zero_le _, Nat.zero_le _⟩ rfl rfl (Nat.le_of_ble_eq_true rfl) dX5_copy_16 (fun r16 => ?_)
      exact r_iret (pc := 19) C rfl rfl dX5_copy_19)
set_option maxHeartbeats 4000000 in
set_option maxRecDepth 100000 in
theorem m_X5_traced (l : Launch) (D : va_G) (cI cS : ClassId) (q : Nat → Nat) (MI : Nat → Int32) (MA : Nat → Nat → Int32) (a1 : Int32) : MX l D (tyz cI cS) yX5_traced cX5_traced 2 none (rmz 0 0) [.ref (q 0), .int a1] (wdM cI q MI MA) (f_X5_traced MI a1) (fun o : (Nat → Int32) => none) (fun o : (Nat → Int32) => wdM cI q o MA) := met_of (own := RX5) (by decide) rfl (Nat.le_of_ble_eq_true rfl) (fun X hxl hxD C => by
  subst hxl
  subst hxD
  show JR X _ _ 0 0 (f_X5_traced MI a1) (wdM cI q MI MA) [(0, .ref (q 0)), (1, .int a1)] 0 []
  unfold f_X5_traced
  refine r_aload_n (pc := 0) C 0 dX5_traced_0 rfl rfl ?_
  refine r_bipush (pc := 1) C dX5_traced_1 (cb_31) ?_
  refine r_aload_n (pc := 3) C 0 dX5_traced_3 rfl rfl ?_
  refine gf_X5_235 (pc := 4) C 0 rfl rfl dX5_traced_4 ?_
  refine r_imul (pc := 7) C dX5_traced_7 ?_
  refine r_iload_n (pc := 8) C 1 dX5_traced_8 rfl rfl ?_
  refine r_iadd (pc := 9) C dX5_traced_9 ?_
  refine pf_X5_235 (pc := 10) (ws' := wdM cI q (upd MI 33 (((31 : Int32) * (MI 33)) + a1)) MA) C 0 rfl rfl dX5_traced_10 rfl ?_
  exact r_vret (pc := 13) C rfl rfl dX5_traced_13)
set_option maxHeartbeats 4000000 in
set_option maxRecDepth 100000 in
theorem wj_X5_tell_51 {cI cS : ClassId} (X : CX) (C : Cx X RX5 cX5_tell 4 (some .int) (rmz 2 46) (tyz cI cS)) (q : Nat → Nat) (MA : Nat → Nat → Int32) (a1 : Int32) (MI_j51 : Nat → Int32)  : JR X (QF X (tyz cI cS) 0 0 (fun o : Int32 × (Nat → Int32) => some (.int o.1)) (fun o : Int32 × (Nat → Int32) => wdM cI q o.2 MA)) 4 0 0 (jb_X5_tell_51 MA a1 MI_j51) (wdM cI q MI_j51 MA) [(0, .ref (q 0)), (1, .int a1), (2, .int (MA 5 a1.toNatClampNeg))] 51 [] := by
  unfold jb_X5_tell_51
  refine r_aload_n (pc := 51) C 0 dX5_tell_51 rfl rfl ?_
  refine gf_X5_19 (pc := 52) C 0 rfl rfl dX5_tell_52 ?_
  refine r_iload_n (pc := 55) C 1 dX5_tell_55 rfl rfl ?_
  refine r_iald (pc := 56) C 4 rfl dX5_tell_56 ?_
  refine r_istore_n (pc := 57) C dX5_tell_57 rfl (by decide) (lv' := [(3, .int (MA 6 a1.toNatClampNeg)), (0, .ref (q 0)), (1, .int a1), (2, .int (MA 5 a1.toNatClampNeg))]) rfl ?_
  refine r_iload_n (pc := 58) C 3 dX5_tell_58 rfl rfl ?_
  refine r_if_ne (pc := 59) (tgt := 66) C dX5_tell_59 (by decide) ?_ ?_
  · refine r_iload_n (pc := 66) C 3 dX5_tell_66 rfl rfl ?_
    refine r_iconst (pc := 67) C dX5_tell_67 (ci_1) ?_
    refine r_icmp_ne (pc := 68) (tgt := 78) C dX5_tell_68 (by decide) ?_ ?_
    · refine r_iconst (pc := 78) C dX5_tell_78 (ci_2) ?_
      refine r_iload_n (pc := 79) C 0 dX5_tell_79 rfl rfl ?_
      refine r_imul (pc := 80) C dX5_tell_80 ?_
      refine r_bipush (pc := 81) C dX5_tell_81 (cb_100) ?_
      refine r_iadd (pc := 83) C dX5_tell_83 ?_
      exact r_iret (pc := 84) C rfl rfl dX5_tell_84
    · refine r_iload_n (pc := 71) C 0 dX5_tell_71 rfl rfl ?_
      refine r_bipush (pc := 72) C dX5_tell_72 (cb_100) ?_
      refine r_iadd (pc := 74) C dX5_tell_74 ?_
      refine r_goto (pc := 75) (tgt := 84) C dX5_tell_75 (by decide) ?_
      exact r_iret (pc := 84) C rfl rfl dX5_tell_84
  · refine r_iload_n (pc := 62) C 0 dX5_tell_62 rfl rfl ?_
    refine r_goto (pc := 63) (tgt := 84) C dX5_tell_63 (by decide) ?_
    exact r_iret (pc := 84) C rfl rfl dX5_tell_84
set_option maxHeartbeats 4000000 in
set_option maxRecDepth 100000 in
theorem wj_X5_tell_36 {cI cS : ClassId} (X : CX) (C : Cx X RX5 cX5_tell 4 (some .int) (rmz 2 46) (tyz cI cS)) (q : Nat → Nat) (MA : Nat → Nat → Int32) (a1 : Int32) (MI_j36 : Nat → Int32)  : JR X (QF X (tyz cI cS) 0 0 (fun o : Int32 × (Nat → Int32) => some (.int o.1)) (fun o : Int32 × (Nat → Int32) => wdM cI q o.2 MA)) 4 0 0 (jb_X5_tell_36 MA a1 MI_j36) (wdM cI q MI_j36 MA) [(0, .ref (q 0)), (1, .int a1), (2, .int (MA 5 a1.toNatClampNeg))] 36 [] := by
  unfold jb_X5_tell_36
  refine r_aload_n (pc := 36) C 0 dX5_tell_36 rfl rfl ?_
  refine r_iconst (pc := 37) C dX5_tell_37 (ci_1) ?_
  refine r_callV0 (pc := 38) (rest := []) C (m_X5_traced (xl X) (xD X) cI cS q MI_j36 MA (1 : Int32)) mv_X5_238 rfl rfl rfl ⟨Nat.zero_le _, Nat.zero_le _⟩ rfl rfl (Nat.le_of_ble_eq_true rfl) dX5_tell_38 (fun r38 => ?_)
  refine r_iload_n (pc := 41) C 2 dX5_tell_41 rfl rfl ?_
  refine r_iconst (pc := 42) C dX5_tell_42 (ci_2) ?_
  refine r_icmp_ne (pc := 43) (tgt := 51) C dX5_tell_43 (by decide) ?_ ?_
  · exact r_sub [0, 1, 2] rfl (wj_X5_tell_51 X C q MA a1 r38 )
  · refine r_aload_n (pc := 46) C 0 dX5_tell_46 rfl rfl ?_
    refine r_iconst (pc := 47) C dX5_tell_47 (ci_1) ?_
    refine r_callV0 (pc := 48) (rest := []) C (m_X5_traced (xl X) (xD X) cI cS q r38 MA (1 : Int32)) mv_X5_238 rfl rfl rfl ⟨Nat.zero_le _, Nat.zero_le _⟩ rfl rfl (Nat.le_of_ble_eq_true rfl) dX5_tell_48 (fun r48 => ?_)
    exact r_sub [0, 1, 2] rfl (wj_X5_tell_51 X C q MA a1 r48 )
set_option maxHeartbeats 4000000 in
set_option maxRecDepth 100000 in
theorem wj_X5_tell_27 {cI cS : ClassId} (X : CX) (C : Cx X RX5 cX5_tell 4 (some .int) (rmz 2 46) (tyz cI cS)) (q : Nat → Nat) (MA : Nat → Nat → Int32) (a1 : Int32) (MI_j27 : Nat → Int32)  : JR X (QF X (tyz cI cS) 0 0 (fun o : Int32 × (Nat → Int32) => some (.int o.1)) (fun o : Int32 × (Nat → Int32) => wdM cI q o.2 MA)) 4 0 0 (jb_X5_tell_27 MA a1 MI_j27) (wdM cI q MI_j27 MA) [(0, .ref (q 0)), (1, .int a1), (2, .int (MA 5 a1.toNatClampNeg))] 27 [] := by
  unfold jb_X5_tell_27
  refine r_iload_n (pc := 27) C 2 dX5_tell_27 rfl rfl ?_
  refine r_if_le (pc := 28) (tgt := 36) C dX5_tell_28 (by decide) ?_ ?_
  · exact r_sub [0, 1, 2] rfl (wj_X5_tell_36 X C q MA a1 MI_j27 )
  · refine r_aload_n (pc := 31) C 0 dX5_tell_31 rfl rfl ?_
    refine r_iconst (pc := 32) C dX5_tell_32 (ci_2) ?_
    refine r_callV0 (pc := 33) (rest := []) C (m_X5_traced (xl X) (xD X) cI cS q MI_j27 MA (2 : Int32)) mv_X5_238 rfl rfl rfl ⟨Nat.zero_le _, Nat.zero_le _⟩ rfl rfl (Nat.le_of_ble_eq_true rfl) dX5_tell_33 (fun r33 => ?_)
    exact r_sub [0, 1, 2] rfl (wj_X5_tell_36 X C q MA a1 r33 )
set_option maxHeartbeats 4000000 in
set_option maxRecDepth 100000 in
theorem m_X5_tell (l : Launch) (D : va_G) (cI cS : ClassId) (q : Nat → Nat) (MI : Nat → Int32) (MA : Nat → Nat → Int32) (a1 : Int32) : MX l D (tyz cI cS) yX5_tell cX5_tell 4 (some .int) (rmz 2 46) [.ref (q 0), .int a1] (wdM cI q MI MA) (f_X5_tell MI MA a1) (fun o : Int32 × (Nat → Int32) => some (.int o.1)) (fun o : Int32 × (Nat → Int32) => wdM cI q o.2 MA) := met_of (own := RX5) (by decide) rfl (Nat.le_of_ble_eq_true rfl) (fun X hxl hxD C => by
  subst hxl
  subst hxD
  show JR X _ _ 0 0 (f_X5_tell MI MA a1) (wdM cI q MI MA) [(0, .ref (q 0)), (1, .int a1)] 0 []
  unfold f_X5_tell
  refine r_aload_n (pc := 0) C 0 dX5_tell_0 rfl rfl ?_
  refine r_iload_n (pc := 1) C 1 dX5_tell_1 rfl rfl ?_
  refine r_callV0 (pc := 2) (rest := []) C (m_X5_noSilence (xl X) (xD X) cI cS q MI MA a1) mv_X5_173 rfl rfl rfl ⟨Nat.zero_le _, Nat.zero_le _⟩ rfl rfl (Nat.le_of_ble_eq_true rfl) dX5_tell_2 (fun r2 => ?_)
  refine r_if_eq (pc := 5) (tgt := 10) C dX5_tell_5 (by decide) ?_ ?_
  · refine r_aload_n (pc := 10) C 0 dX5_tell_10 rfl rfl ?_
    refine gf_X5_16 (pc := 11) C 0 rfl rfl dX5_tell_11 ?_
    refine r_iload_n (pc := 14) C 1 dX5_tell_14 rfl rfl ?_
    refine r_iald (pc := 15) C 3 rfl dX5_tell_15 ?_
    refine r_istore_n (pc := 16) C dX5_tell_16 rfl (by decide) (lv' := [(2, .int (MA 5 a1.toNatClampNeg)), (0, .ref (q 0)), (1, .int a1)]) rfl ?_
    refine r_iload_n (pc := 17) C 0 dX5_tell_17 rfl rfl ?_
    refine r_iconst (pc := 18) C dX5_tell_18 (ci_2) ?_
    refine r_icmp_ne (pc := 19) (tgt := 27) C dX5_tell_19 (by decide) ?_ ?_
    · exact r_sub [1, 2, 0] rfl (wj_X5_tell_27 X C q MA a1 MI )
    · refine r_aload_n (pc := 22) C 1 dX5_tell_22 rfl rfl ?_
      refine r_iconst (pc := 23) C dX5_tell_23 (ci_3) ?_
      refine r_callV0 (pc := 24) (rest := []) C (m_X5_traced (xl X) (xD X) cI cS q MI MA (3 : Int32)) mv_X5_238 rfl rfl rfl ⟨Nat.zero_le _, Nat.zero_le _⟩ rfl rfl (Nat.le_of_ble_eq_true rfl) dX5_tell_24 (fun r24 => ?_)
      exact r_sub [1, 2, 0] rfl (wj_X5_tell_27 X C q MA a1 r24 )
  · refine r_iconst (pc := 8) C dX5_tell_8 (ci_m1) ?_
    exact r_iret (pc := 9) C rfl rfl dX5_tell_9)
set_option maxHeartbeats 4000000 in
set_option maxRecDepth 100000 in
theorem wj_X5_hush_26 {cI cS : ClassId} (X : CX) (C : Cx X RX5 cX5_hush 2 (some .int) (rmz 2 46) (tyz cI cS)) (q : Nat → Nat) (MI : Nat → Int32) (MA : Nat → Nat → Int32) (a1 : Int32) (s0_26 : Int32)  : JR X (QF X (tyz cI cS) 0 0 (fun o : Int32 × (Nat → Int32) => some (.int o.1)) (fun o : Int32 × (Nat → Int32) => wdM cI q o.2 MA)) 2 0 0 (jb_X5_hush_26 MI MA a1 s0_26) (wdM cI q MI MA) [(0, .ref (q 0)), (1, .int a1)] 26 [.int s0_26, .ref (q 0)] := by
  unfold jb_X5_hush_26
  refine r_callV0 (pc := 26) (rest := []) C (m_X5_traced (xl X) (xD X) cI cS q MI MA s0_26) mv_X5_238 rfl rfl rfl ⟨Nat.zero_le _, Nat.zero_le _⟩ rfl rfl (Nat.le_of_ble_eq_true rfl) dX5_hush_26 (fun r26 => ?_)
  refine r_aload_n (pc := 29) C 0 dX5_hush_29 rfl rfl ?_
  refine gf_X5_16 (pc := 30) C 0 rfl rfl dX5_hush_30 ?_
  refine r_iload_n (pc := 33) C 1 dX5_hush_33 rfl rfl ?_
  refine r_iald (pc := 34) C 3 rfl dX5_hush_34 ?_
  refine r_iconst (pc := 35) C dX5_hush_35 (ci_2) ?_
  refine r_icmp_ne (pc := 36) (tgt := 44) C dX5_hush_36 (by decide) ?_ ?_
  · refine r_iload_n (pc := 44) C 1 dX5_hush_44 rfl rfl ?_
    exact r_iret (pc := 45) C rfl rfl dX5_hush_45
  · refine r_bipush (pc := 39) C dX5_hush_39 (cb_80) ?_
    refine r_goto (pc := 41) (tgt := 45) C dX5_hush_41 (by decide) ?_
    exact r_iret (pc := 45) C rfl rfl dX5_hush_45
set_option maxHeartbeats 4000000 in
set_option maxRecDepth 100000 in
theorem m_X5_hush (l : Launch) (D : va_G) (cI cS : ClassId) (q : Nat → Nat) (MI : Nat → Int32) (MA : Nat → Nat → Int32) (a1 : Int32) : MX l D (tyz cI cS) yX5_hush cX5_hush 2 (some .int) (rmz 2 46) [.ref (q 0), .int a1] (wdM cI q MI MA) (f_X5_hush MI MA a1) (fun o : Int32 × (Nat → Int32) => some (.int o.1)) (fun o : Int32 × (Nat → Int32) => wdM cI q o.2 MA) := met_of (own := RX5) (by decide) rfl (Nat.le_of_ble_eq_true rfl) (fun X hxl hxD C => by
  subst hxl
  subst hxD
  show JR X _ _ 0 0 (f_X5_hush MI MA a1) (wdM cI q MI MA) [(0, .ref (q 0)), (1, .int a1)] 0 []
  unfold f_X5_hush
  refine r_aload_n (pc := 0) C 0 dX5_hush_0 rfl rfl ?_
  refine r_iload_n (pc := 1) C 1 dX5_hush_1 rfl rfl ?_
  refine r_callV0 (pc := 2) (rest := []) C (m_X5_noSilence (xl X) (xD X) cI cS q MI MA a1) mv_X5_173 rfl rfl rfl ⟨Nat.zero_le _, Nat.zero_le _⟩ rfl rfl (Nat.le_of_ble_eq_true rfl) dX5_hush_2 (fun r2 => ?_)
  refine r_if_eq (pc := 5) (tgt := 10) C dX5_hush_5 (by decide) ?_ ?_
  · refine r_aload_n (pc := 10) C 0 dX5_hush_10 rfl rfl ?_
    refine r_aload_n (pc := 11) C 0 dX5_hush_11 rfl rfl ?_
    refine gf_X5_16 (pc := 12) C 0 rfl rfl dX5_hush_12 ?_
    refine r_iload_n (pc := 15) C 1 dX5_hush_15 rfl rfl ?_
    refine r_iald (pc := 16) C 3 rfl dX5_hush_16 ?_
    refine r_iconst (pc := 17) C dX5_hush_17 (ci_2) ?_
    refine r_icmp_ne (pc := 18) (tgt := 25) C dX5_hush_18 (by decide) ?_ ?_
    · refine r_iconst (pc := 25) C dX5_hush_25 (ci_4) ?_
      exact r_sub [0, 1] rfl (wj_X5_hush_26 X C q MI MA a1 (4 : Int32) )
    · refine r_iconst (pc := 21) C dX5_hush_21 (ci_5) ?_
      refine r_goto (pc := 22) (tgt := 26) C dX5_hush_22 (by decide) ?_
      exact r_sub [0, 1] rfl (wj_X5_hush_26 X C q MI MA a1 (5 : Int32) )
  · refine r_iconst (pc := 8) C dX5_hush_8 (ci_m1) ?_
    exact r_iret (pc := 9) C rfl rfl dX5_hush_9)
set_option maxHeartbeats 4000000 in
set_option maxRecDepth 100000 in
theorem m_X5_as (l : Launch) (D : va_G) (cI cS : ClassId) (q : Nat → Nat) (MI : Nat → Int32) (MA : Nat → Nat → Int32) (a1 : Int32) (a2 : Int32) : MX l D (tyz cI cS) yX5_as cX5_as 3 (some .int) (rmz 2 46) [.ref (q 0), .int a1, .int a2] (wdM cI q MI MA) (f_X5_as MI MA a1 a2) (fun o : Int32 × (Nat → Int32) => some (.int o.1)) (fun o : Int32 × (Nat → Int32) => wdM cI q o.2 MA) := met_of (own := RX5) (by decide) rfl (Nat.le_of_ble_eq_true rfl) (fun X hxl hxD C => by
  subst hxl
  subst hxD
  show JR X _ _ 0 0 (f_X5_as MI MA a1 a2) (wdM cI q MI MA) [(0, .ref (q 0)), (1, .int a1), (2, .int a2)] 0 []
  unfold f_X5_as
  refine r_aload_n (pc := 0) C 0 dX5_as_0 rfl rfl ?_
  refine r_iload_n (pc := 1) C 1 dX5_as_1 rfl rfl ?_
  refine r_callV0 (pc := 2) (rest := []) C (m_X5_noSilence (xl X) (xD X) cI cS q MI MA a1) mv_X5_173 rfl rfl rfl ⟨Nat.zero_le _, Nat.zero_le _⟩ rfl rfl (Nat.le_of_ble_eq_true rfl) dX5_as_2 (fun r2 => ?_)
  refine r_if_eq (pc := 5) (tgt := 14) C dX5_as_5 (by decide) ?_ ?_
  · refine r_iload_n (pc := 14) C 2 dX5_as_14 rfl rfl ?_
    refine r_i2l (pc := 15) C dX5_as_15 ?_
    refine r_lconst (pc := 16) (v := 0) C dX5_as_16 rfl ?_
    refine r_ldc2 (pc := 17) C kk_X5_98 dX5_as_17 ?_
    refine r_callSr (pc := 20) (rest := []) C (m_X5_in (xl X) (xD X) cI cS a2.toInt64 (0 : Int64) (2 : Int64)) ms_X5_91 rfl ⟨Nat.zero_le _, Nat.zero_le _⟩ rfl rfl (Nat.le_of_ble_eq_true rfl) dX5_as_20 (fun r20 => ?_)
    refine r_if_ne (pc := 23) (tgt := 33) C dX5_as_23 (by decide) ?_ ?_
    · refine r_aload_n (pc := 33) C 0 dX5_as_33 rfl rfl ?_
      refine gf_X5_16 (pc := 34) C 0 rfl rfl dX5_as_34 ?_
      refine r_iload_n (pc := 37) C 1 dX5_as_37 rfl rfl ?_
      refine r_iald (pc := 38) C 3 rfl dX5_as_38 ?_
      refine r_iload_n (pc := 39) C 2 dX5_as_39 rfl rfl ?_
      refine r_icmp_lt (pc := 40) (tgt := 51) C dX5_as_40 (by decide) ?_ ?_
      · refine r_aload_n (pc := 51) C 0 dX5_as_51 rfl rfl ?_
        refine r_iconst (pc := 52) C dX5_as_52 (ci_2) ?_
        refine r_callV0 (pc := 53) (rest := []) C (m_X5_failed (xl X) (xD X) cI cS q MI MA (2 : Int32)) mv_X5_129 rfl rfl rfl ⟨Nat.zero_le _, Nat.zero_le _⟩ rfl rfl (Nat.le_of_ble_eq_true rfl) dX5_as_53 (fun r53 => ?_)
        exact r_iret (pc := 56) C rfl rfl dX5_as_56
      · refine r_aload_n (pc := 43) C 0 dX5_as_43 rfl rfl ?_
        refine r_iconst (pc := 44) C dX5_as_44 (ci_1) ?_
        refine r_callV0 (pc := 45) (rest := []) C (m_X5_refused (xl X) (xD X) cI cS q MI MA (1 : Int32)) mv_X5_141 rfl rfl rfl ⟨Nat.zero_le _, Nat.zero_le _⟩ rfl rfl (Nat.le_of_ble_eq_true rfl) dX5_as_45 (fun r45 => ?_)
        refine r_goto (pc := 48) (tgt := 56) C dX5_as_48 (by decide) ?_
        exact r_iret (pc := 56) C rfl rfl dX5_as_56
    · refine r_aload_n (pc := 26) C 0 dX5_as_26 rfl rfl ?_
      refine r_bipush (pc := 27) C dX5_as_27 (cb_m2) ?_
      refine r_callV0 (pc := 29) (rest := []) C (m_X5_refused (xl X) (xD X) cI cS q MI MA (-2 : Int32)) mv_X5_141 rfl rfl rfl ⟨Nat.zero_le _, Nat.zero_le _⟩ rfl rfl (Nat.le_of_ble_eq_true rfl) dX5_as_29 (fun r29 => ?_)
      exact r_iret (pc := 32) C rfl rfl dX5_as_32
  · refine r_aload_n (pc := 8) C 0 dX5_as_8 rfl rfl ?_
    refine r_iconst (pc := 9) C dX5_as_9 (ci_m1) ?_
    refine r_callV0 (pc := 10) (rest := []) C (m_X5_refused (xl X) (xD X) cI cS q MI MA (-1 : Int32)) mv_X5_141 rfl rfl rfl ⟨Nat.zero_le _, Nat.zero_le _⟩ rfl rfl (Nat.le_of_ble_eq_true rfl) dX5_as_10 (fun r10 => ?_)
    exact r_iret (pc := 13) C rfl rfl dX5_as_13)
set_option maxHeartbeats 4000000 in
set_option maxRecDepth 100000 in
theorem m_X5_trace (l : Launch) (D : va_G) (cI cS : ClassId) (q : Nat → Nat) (MI : Nat → Int32) (MA : Nat → Nat → Int32) : MX l D (tyz cI cS) yX5_trace cX5_trace 1 (some .int) (rmz 0 0) [.ref (q 0)] (wdM cI q MI MA) (f_X5_trace MI) (fun o : Int32 => some (.int o)) (fun o : Int32 => wdM cI q MI MA) := met_of (own := RX5) (by decide) rfl (Nat.le_of_ble_eq_true rfl) (fun X hxl hxD C => by
  subst hxl
  subst hxD
  show JR X _ _ 0 0 (f_X5_trace MI) (wdM cI q MI MA) [(0, .ref (q 0))] 0 []
  unfold f_X5_trace
  refine r_aload_n (pc := 0) C 0 dX5_trace_0 rfl rfl ?_
  refine gf_X5_235 (pc := 1) C 0 rfl rfl dX5_trace_1 ?_
  exact r_iret (pc := 4) C rfl rfl dX5_trace_4)
set_option maxHeartbeats 4000000 in
set_option maxRecDepth 100000 in
theorem m_X5_fault (l : Launch) (D : va_G) (cI cS : ClassId) (q : Nat → Nat) (MI : Nat → Int32) (MA : Nat → Nat → Int32) : MX l D (tyz cI cS) yX5_fault cX5_fault 1 (some .int) (rmz 0 0) [.ref (q 0)] (wdM cI q MI MA) (f_X5_fault MI) (fun o : Int32 => some (.int o)) (fun o : Int32 => wdM cI q MI MA) := met_of (own := RX5) (by decide) rfl (Nat.le_of_ble_eq_true rfl) (fun X hxl hxD C => by
  subst hxl
  subst hxD
  show JR X _ _ 0 0 (f_X5_fault MI) (wdM cI q MI MA) [(0, .ref (q 0))] 0 []
  unfold f_X5_fault
  refine r_aload_n (pc := 0) C 0 dX5_fault_0 rfl rfl ?_
  refine gf_X5_81 (pc := 1) C 0 rfl rfl dX5_fault_1 ?_
  exact r_iret (pc := 4) C rfl rfl dX5_fault_4)
set_option maxHeartbeats 4000000 in
set_option maxRecDepth 100000 in
theorem m_X5_many (l : Launch) (D : va_G) (cI cS : ClassId) (q : Nat → Nat) (MI : Nat → Int32) (MA : Nat → Nat → Int32) (a1 : Int32) : MX l D (tyz cI cS) yX5_many cX5_many 2 (some .int) (rmz 0 0) [.ref (q 0), .int a1] (wdM cI q MI MA) (f_X5_many MI a1) (fun o : Int32 => some (.int o)) (fun o : Int32 => wdM cI q MI MA) := met_of (own := RX5) (by decide) rfl (Nat.le_of_ble_eq_true rfl) (fun X hxl hxD C => by
  subst hxl
  subst hxD
  show JR X _ _ 0 0 (f_X5_many MI a1) (wdM cI q MI MA) [(0, .ref (q 0)), (1, .int a1)] 0 []
  unfold f_X5_many
  refine r_iload_n (pc := 0) C 1 dX5_many_0 rfl rfl ?_
  refine r_ite (fun h1_0 => ?_) (fun h1_0 => ?_)
  · refine r_tabIn (pc := 1) (tgt := 36) C h1_0 dX5_many_1 (by decide) (by decide) rfl (by decide) ?_
    refine r_aload_n (pc := 36) C 0 dX5_many_36 rfl rfl ?_
    refine gf_X5_95 (pc := 37) C 0 rfl rfl dX5_many_37 ?_
    exact r_iret (pc := 40) C rfl rfl dX5_many_40
  refine r_ite (fun h1_1 => ?_) (fun h1_1 => ?_)
  · refine r_tabIn (pc := 1) (tgt := 41) C h1_1 dX5_many_1 (by decide) (by decide) rfl (by decide) ?_
    refine r_aload_n (pc := 41) C 0 dX5_many_41 rfl rfl ?_
    refine gf_X5_88 (pc := 42) C 0 rfl rfl dX5_many_42 ?_
    exact r_iret (pc := 45) C rfl rfl dX5_many_45
  refine r_ite (fun h1_2 => ?_) (fun h1_2 => ?_)
  · refine r_tabIn (pc := 1) (tgt := 46) C h1_2 dX5_many_1 (by decide) (by decide) rfl (by decide) ?_
    refine r_aload_n (pc := 46) C 0 dX5_many_46 rfl rfl ?_
    refine gf_X5_151 (pc := 47) C 0 rfl rfl dX5_many_47 ?_
    exact r_iret (pc := 50) C rfl rfl dX5_many_50
  refine r_ite (fun h1_3 => ?_) (fun h1_3 => ?_)
  · refine r_tabIn (pc := 1) (tgt := 51) C h1_3 dX5_many_1 (by decide) (by decide) rfl (by decide) ?_
    refine r_aload_n (pc := 51) C 0 dX5_many_51 rfl rfl ?_
    refine gf_X5_161 (pc := 52) C 0 rfl rfl dX5_many_52 ?_
    exact r_iret (pc := 55) C rfl rfl dX5_many_55
  refine r_ite (fun h1_4 => ?_) (fun h1_4 => ?_)
  · refine r_tabIn (pc := 1) (tgt := 56) C h1_4 dX5_many_1 (by decide) (by decide) rfl (by decide) ?_
    refine r_aload_n (pc := 56) C 0 dX5_many_56 rfl rfl ?_
    refine gf_X5_164 (pc := 57) C 0 rfl rfl dX5_many_57 ?_
    exact r_iret (pc := 60) C rfl rfl dX5_many_60
  refine r_tabOut (pc := 1) (tgt := 61) (N := 5) C (lt_s (lt_s (lt_s (lt_s (lt_s lt_0 h1_0) h1_1) h1_2) h1_3) h1_4) rfl dX5_many_1 (by decide) ?_
  refine r_bipush (pc := 61) C dX5_many_61 (cb_m2) ?_
  exact r_iret (pc := 63) C rfl rfl dX5_many_63)
