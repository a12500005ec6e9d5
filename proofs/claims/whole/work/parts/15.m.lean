def wp_X8_can (x1 : Int) (x2 : Int) (h : aH) (Q : Int → aH → Prop) : Prop :=
  wp_X8_isPerson x1 h (fun r1 => ((r1 = 0 → Q (-1) h) ∧ (¬ r1 = 0 → wp_X8_within x2 0 2 h (fun r3 => ((r3 = 0 → Q (-1) h) ∧ (¬ r3 = 0 → wp_X1_prepareWays h (fun h5 => wp_X1_lowestOf x1 h5 (fun r6 => wp_X1_highestOf x1 h5 (fun r7 => inR x2 ∧ ((x2 = 0 → wp_X1_waysBetween r6 r7 h5 (fun r9 => Q r9 h5)) ∧ (¬ x2 = 0 → ((x2 = 1 → wp_X1_leastBetween r6 r7 h5 (fun r10 => Q r10 h5)) ∧ (¬ x2 = 1 → wp_X1_greatestBetween r6 r7 h5 (fun r11 => Q r11 h5))))))))))))))
set_option maxRecDepth 100000 in
set_option maxHeartbeats 4000000 in
theorem M_X8_can {Γ : Gm} {l : Launch} {n : Nat} {g : aG} (hn : 59 ≤ n) (tg : TC g) (x1 : Int) (x2 : Int)  {h : aH} {Q : Int → aH → Prop} (hw : wp_X8_can x1 x2 h Q) : Cl Γ l mX8_can [vR 0, vI x1, vI x2] n g h (RI g Q) := by
  refine Cl.of (by decide) [some (vR 0), some (vI x1), some (vI x2), none, none] rfl (Nat.le_of_ble_eq_true rfl) ?_
  intro p e s m args below meth c a
  unfold wp_X8_can at hw
  refine ok_aload_n (pc := 0) a dX8_can_0 rfl rfl ?_
  refine ok_iload_n (pc := 1) a dX8_can_1 rfl rfl ?_
  refine ok_VPZ (pc := 2) a [(vI x1)] [] (M_X8_isPerson hn tg x1  hw) dX8_can_2 lkRX8_109 rfl (Nat.lt_of_lt_of_le (by decide) hn) kq0 (by decide) rfl ⟨Nat.le_of_ble_eq_true rfl, Nat.le_of_ble_eq_true rfl⟩ rfl (Nat.le_of_ble_eq_true rfl) rfl (fun r1 hz2 hw => ?_)
  refine ok_if_eq (pc := 5) a 17 dX8_can_5 (by decide) (inR_b hz2) (fun hd15 => ?_) (fun hd15 => ?_)
  · have hw := hw.1 hd15
    refine ok_iconst (pc := 17) a dX8_can_17 ?_
    exact ok_iret (pc := 18) a dX8_can_18 ⟨_, rfl, rfl, hw⟩
  · have hw := hw.2 hd15
    refine ok_iload_n (pc := 8) a dX8_can_8 rfl rfl ?_
    refine ok_iconst (pc := 9) a dX8_can_9 ?_
    refine ok_iconst (pc := 10) a dX8_can_10 ?_
    refine ok_SPZ (pc := 11) a [(vI x2), (vI 0), (vI 2)] [] (M_X8_within hn tg x2 0 2  hw) dX8_can_11 lkRX8_82 rfl ⟨Nat.le_of_ble_eq_true rfl, Nat.le_of_ble_eq_true rfl⟩ rfl (Nat.le_of_ble_eq_true rfl) rfl (fun r3 hz4 hw => ?_)
    refine ok_if_ne (pc := 14) a 19 dX8_can_14 (by decide) (inR_b hz4) (fun hd14 => ?_) (fun hd14 => ?_)
    · have hw := hw.2 hd14
      refine ok_aload_n (pc := 19) a dX8_can_19 rfl rfl ?_
      refine ok_getR (pc := 20) a dX8_can_20 lfRX8_72 (Nat.lt_of_lt_of_le (by decide) hn) kq0 rfl (tg.at 0 10 52 (by decide) (by decide)) ?_
      refine ok_aload_n (pc := 23) a dX8_can_23 rfl rfl ?_
      refine ok_getR (pc := 24) a dX8_can_24 lfRX8_19 (Nat.lt_of_lt_of_le (by decide) hn) kq0 rfl (tg.at 0 1 3 (by decide) (by decide)) ?_
      refine ok_getR (pc := 27) a dX8_can_27 lfRX8_123 (Nat.lt_of_lt_of_le (by decide) hn) kq3 rfl (tg.at 3 0 4 (by decide) (by decide)) ?_
      refine ok_VRV (pc := 30) a [(vR 4)] [] (M_X1_prepareWays hn tg   hw) dX8_can_30 lkRX8_240 rfl (Nat.lt_of_lt_of_le (by decide) hn) kq52 (by decide) rfl ⟨Nat.le_of_ble_eq_true rfl, Nat.le_of_ble_eq_true rfl⟩ rfl (Nat.le_of_ble_eq_true rfl) rfl (fun h5 hw => ?_)
      refine ok_aload_n (pc := 33) a dX8_can_33 rfl rfl ?_
      refine ok_getR (pc := 34) a dX8_can_34 lfRX8_72 (Nat.lt_of_lt_of_le (by decide) hn) kq0 rfl (tg.at 0 10 52 (by decide) (by decide)) ?_
      refine ok_iload_n (pc := 37) a dX8_can_37 rfl rfl ?_
      refine ok_VPI (pc := 38) a [(vI x1)] [] (M_X1_lowestOf hn tg x1  hw) dX8_can_38 lkRX8_244 rfl (Nat.lt_of_lt_of_le (by decide) hn) kq52 (by decide) rfl ⟨Nat.le_of_ble_eq_true rfl, Nat.le_of_ble_eq_true rfl⟩ rfl (Nat.le_of_ble_eq_true rfl) rfl (fun r6 hw => ?_)
      refine ok_sI_n (pc := 41) a [some (vR 0), some (vI x1), some (vI x2), some (vI r6), none] dX8_can_41 rfl (by decide) rfl rfl ?_
      refine ok_aload_n (pc := 42) a dX8_can_42 rfl rfl ?_
      refine ok_getR (pc := 43) a dX8_can_43 lfRX8_72 (Nat.lt_of_lt_of_le (by decide) hn) kq0 rfl (tg.at 0 10 52 (by decide) (by decide)) ?_
      refine ok_iload_n (pc := 46) a dX8_can_46 rfl rfl ?_
      refine ok_VPI (pc := 47) a [(vI x1)] [] (M_X1_highestOf hn tg x1  hw) dX8_can_47 lkRX8_247 rfl (Nat.lt_of_lt_of_le (by decide) hn) kq52 (by decide) rfl ⟨Nat.le_of_ble_eq_true rfl, Nat.le_of_ble_eq_true rfl⟩ rfl (Nat.le_of_ble_eq_true rfl) rfl (fun r7 hw => ?_)
      refine ok_sI (pc := 50) a [some (vR 0), some (vI x1), some (vI x2), some (vI r6), some (vI r7)] dX8_can_50 (by decide) rfl rfl ?_
      refine ok_iload_n (pc := 52) a dX8_can_52 rfl rfl ?_
      obtain ⟨hc8, hw⟩ := hw
      refine ok_if_ne (pc := 53) a 67 dX8_can_53 (by decide) hc8 (fun hd13 => ?_) (fun hd13 => ?_)
      · have hw := hw.2 hd13
        refine ok_iload_n (pc := 67) a dX8_can_67 rfl rfl ?_
        refine ok_iconst (pc := 68) a dX8_can_68 ?_
        refine ok_icmp_ne (pc := 69) a 85 dX8_can_69 (by decide) hc8 ⟨by decide, by decide⟩ (fun hd12 => ?_) (fun hd12 => ?_)
        · have hw := hw.2 hd12
          refine ok_aload_n (pc := 85) a dX8_can_85 rfl rfl ?_
          refine ok_getR (pc := 86) a dX8_can_86 lfRX8_72 (Nat.lt_of_lt_of_le (by decide) hn) kq0 rfl (tg.at 0 10 52 (by decide) (by decide)) ?_
          refine ok_iload_n (pc := 89) a dX8_can_89 rfl rfl ?_
          refine ok_iload (pc := 90) a dX8_can_90 rfl ?_
          refine ok_VPI (pc := 92) a [(vI r6), (vI r7)] [] (M_X1_greatestBetween hn tg r6 r7  hw) dX8_can_92 lkRX8_256 rfl (Nat.lt_of_lt_of_le (by decide) hn) kq52 (by decide) rfl ⟨Nat.le_of_ble_eq_true rfl, Nat.le_of_ble_eq_true rfl⟩ rfl (Nat.le_of_ble_eq_true rfl) rfl (fun r11 hw => ?_)
          exact ok_iret (pc := 95) a dX8_can_95 ⟨_, rfl, rfl, hw⟩
        · have hw := hw.1 hd12
          refine ok_aload_n (pc := 72) a dX8_can_72 rfl rfl ?_
          refine ok_getR (pc := 73) a dX8_can_73 lfRX8_72 (Nat.lt_of_lt_of_le (by decide) hn) kq0 rfl (tg.at 0 10 52 (by decide) (by decide)) ?_
          refine ok_iload_n (pc := 76) a dX8_can_76 rfl rfl ?_
          refine ok_iload (pc := 77) a dX8_can_77 rfl ?_
          refine ok_VPI (pc := 79) a [(vI r6), (vI r7)] [] (M_X1_leastBetween hn tg r6 r7  hw) dX8_can_79 lkRX8_253 rfl (Nat.lt_of_lt_of_le (by decide) hn) kq52 (by decide) rfl ⟨Nat.le_of_ble_eq_true rfl, Nat.le_of_ble_eq_true rfl⟩ rfl (Nat.le_of_ble_eq_true rfl) rfl (fun r10 hw => ?_)
          refine ok_goto (pc := 82) a 95 dX8_can_82 (by decide) ?_
          exact ok_iret (pc := 95) a dX8_can_95 ⟨_, rfl, rfl, hw⟩
      · have hw := hw.1 hd13
        refine ok_aload_n (pc := 56) a dX8_can_56 rfl rfl ?_
        refine ok_getR (pc := 57) a dX8_can_57 lfRX8_72 (Nat.lt_of_lt_of_le (by decide) hn) kq0 rfl (tg.at 0 10 52 (by decide) (by decide)) ?_
        refine ok_iload_n (pc := 60) a dX8_can_60 rfl rfl ?_
        refine ok_iload (pc := 61) a dX8_can_61 rfl ?_
        refine ok_VPI (pc := 63) a [(vI r6), (vI r7)] [] (M_X1_waysBetween hn tg r6 r7  hw) dX8_can_63 lkRX8_250 rfl (Nat.lt_of_lt_of_le (by decide) hn) kq52 (by decide) rfl ⟨Nat.le_of_ble_eq_true rfl, Nat.le_of_ble_eq_true rfl⟩ rfl (Nat.le_of_ble_eq_true rfl) rfl (fun r9 hw => ?_)
        exact ok_iret (pc := 66) a dX8_can_66 ⟨_, rfl, rfl, hw⟩
    · have hw := hw.1 hd14
      refine ok_iconst (pc := 17) a dX8_can_17 ?_
      exact ok_iret (pc := 18) a dX8_can_18 ⟨_, rfl, rfl, hw⟩

def wp_X8_saw (x1 : Int) (x2 : Int) (h : aH) (Q : Int → aH → Prop) : Prop :=
  wp_X8_isPerson x1 h (fun r1 => ((r1 = 0 → Q (-1) h) ∧ (¬ r1 = 0 → wp_X8_within x2 0 240 h (fun r3 => ((r3 = 0 → Q (-1) h) ∧ (¬ r3 = 0 → wp_X1_addSeen x1 x2 h (fun r5 h6 => Q (if r5 = 0 then (-3) else (h6 52 8) : Int) h6)))))))
set_option maxRecDepth 100000 in
set_option maxHeartbeats 4000000 in
theorem M_X8_saw {Γ : Gm} {l : Launch} {n : Nat} {g : aG} (hn : 59 ≤ n) (tg : TC g) (x1 : Int) (x2 : Int)  {h : aH} {Q : Int → aH → Prop} (hw : wp_X8_saw x1 x2 h Q) : Cl Γ l mX8_saw [vR 0, vI x1, vI x2] n g h (RI g Q) := by
  refine Cl.of (by decide) [some (vR 0), some (vI x1), some (vI x2)] rfl (Nat.le_of_ble_eq_true rfl) ?_
  intro p e s m args below meth c a
  unfold wp_X8_saw at hw
  refine ok_aload_n (pc := 0) a dX8_saw_0 rfl rfl ?_
  refine ok_iload_n (pc := 1) a dX8_saw_1 rfl rfl ?_
  refine ok_VPZ (pc := 2) a [(vI x1)] [] (M_X8_isPerson hn tg x1  hw) dX8_saw_2 lkRX8_109 rfl (Nat.lt_of_lt_of_le (by decide) hn) kq0 (by decide) rfl ⟨Nat.le_of_ble_eq_true rfl, Nat.le_of_ble_eq_true rfl⟩ rfl (Nat.le_of_ble_eq_true rfl) rfl (fun r1 hz2 hw => ?_)
  refine ok_if_eq (pc := 5) a 19 dX8_saw_5 (by decide) (inR_b hz2) (fun hd10 => ?_) (fun hd10 => ?_)
  · have hw := hw.1 hd10
    refine ok_iconst (pc := 19) a dX8_saw_19 ?_
    exact ok_iret (pc := 20) a dX8_saw_20 ⟨_, rfl, rfl, hw⟩
  · have hw := hw.2 hd10
    refine ok_iload_n (pc := 8) a dX8_saw_8 rfl rfl ?_
    refine ok_iconst (pc := 9) a dX8_saw_9 ?_
    refine ok_sipush (pc := 10) a dX8_saw_10 (by decide) ?_
    refine ok_SPZ (pc := 13) a [(vI x2), (vI 0), (vI 240)] [] (M_X8_within hn tg x2 0 240  hw) dX8_saw_13 lkRX8_82 rfl ⟨Nat.le_of_ble_eq_true rfl, Nat.le_of_ble_eq_true rfl⟩ rfl (Nat.le_of_ble_eq_true rfl) rfl (fun r3 hz4 hw => ?_)
    refine ok_if_ne (pc := 16) a 21 dX8_saw_16 (by decide) (inR_b hz4) (fun hd9 => ?_) (fun hd9 => ?_)
    · have hw := hw.2 hd9
      refine ok_aload_n (pc := 21) a dX8_saw_21 rfl rfl ?_
      refine ok_getR (pc := 22) a dX8_saw_22 lfRX8_72 (Nat.lt_of_lt_of_le (by decide) hn) kq0 rfl (tg.at 0 10 52 (by decide) (by decide)) ?_
      refine ok_iload_n (pc := 25) a dX8_saw_25 rfl rfl ?_
      refine ok_iload_n (pc := 26) a dX8_saw_26 rfl rfl ?_
      refine ok_VRZ (pc := 27) a [(vI x1), (vI x2)] [] (M_X1_addSeen hn tg x1 x2  hw) dX8_saw_27 lkRX8_259 rfl (Nat.lt_of_lt_of_le (by decide) hn) kq52 (by decide) rfl ⟨Nat.le_of_ble_eq_true rfl, Nat.le_of_ble_eq_true rfl⟩ rfl (Nat.le_of_ble_eq_true rfl) rfl (fun r5 h6 hz7 hw => ?_)
      have hK : OK Γ p l e (rmd 2 n n) s m args below meth c n (MQ below (QQ Γ n (RI g Q)) args s (n - n) (sl n - sl n) (AA Γ)) 45 [some (vR 0), some (vI x1), some (vI x2)] [(vI (if r5 = 0 then (-3) else (h6 52 8) : Int))] n g h6 := by
        exact ok_iret (pc := 45) a dX8_saw_45 ⟨_, rfl, rfl, hw⟩
      refine ok_if_eq (pc := 30) a 43 dX8_saw_30 (by decide) (inR_b hz7) (fun hd8 => ?_) (fun hd8 => ?_)
      · refine ok_bipush (pc := 43) a dX8_saw_43 (by decide) ?_
        simp only [if_pos hd8] at hK
        exact hK
      · refine ok_aload_n (pc := 33) a dX8_saw_33 rfl rfl ?_
        refine ok_getR (pc := 34) a dX8_saw_34 lfRX8_72 (Nat.lt_of_lt_of_le (by decide) hn) kq0 rfl (tg.at 0 10 52 (by decide) (by decide)) ?_
        refine ok_fI (pc := 37) 8 a dX8_saw_37 lfRX8_262 (Nat.lt_of_lt_of_le (by decide) hn) kq52 ty_1_8 rfl ?_
        refine ok_goto (pc := 40) a 45 dX8_saw_40 (by decide) ?_
        simp only [if_neg hd8] at hK
        exact hK
    · have hw := hw.1 hd9
      refine ok_iconst (pc := 19) a dX8_saw_19 ?_
      exact ok_iret (pc := 20) a dX8_saw_20 ⟨_, rfl, rfl, hw⟩

def wp_X8_laws (x1 : Int) (x2 : Int) (h : aH) (Q : Int → Prop) : Prop :=
  wp_X8_isPerson x1 h (fun r1 => ((r1 = 0 → Q (-1)) ∧ (¬ r1 = 0 → wp_X8_within x2 0 1 h (fun r3 => ((r3 = 0 → Q (-1)) ∧ (¬ r3 = 0 → inR x2 ∧ ((x2 = 0 → wp_X1_lawsOf x1 h (fun r6 => Q r6)) ∧ (¬ x2 = 0 → wp_X1_firstLawOf x1 h (fun r7 => Q r7)))))))))
set_option maxRecDepth 100000 in
set_option maxHeartbeats 4000000 in
theorem M_X8_laws {Γ : Gm} {l : Launch} {n : Nat} {g : aG} (hn : 59 ≤ n) (tg : TC g) (x1 : Int) (x2 : Int)  {h : aH} {Q : Int → Prop} (hw : wp_X8_laws x1 x2 h Q) : Cl Γ l mX8_laws [vR 0, vI x1, vI x2] n g h (PI g h Q) := by
  refine Cl.of (by decide) [some (vR 0), some (vI x1), some (vI x2)] rfl (Nat.le_of_ble_eq_true rfl) ?_
  intro p e s m args below meth c a
  unfold wp_X8_laws at hw
  refine ok_aload_n (pc := 0) a dX8_laws_0 rfl rfl ?_
  refine ok_iload_n (pc := 1) a dX8_laws_1 rfl rfl ?_
  refine ok_VPZ (pc := 2) a [(vI x1)] [] (M_X8_isPerson hn tg x1  hw) dX8_laws_2 lkRX8_109 rfl (Nat.lt_of_lt_of_le (by decide) hn) kq0 (by decide) rfl ⟨Nat.le_of_ble_eq_true rfl, Nat.le_of_ble_eq_true rfl⟩ rfl (Nat.le_of_ble_eq_true rfl) rfl (fun r1 hz2 hw => ?_)
  refine ok_if_eq (pc := 5) a 17 dX8_laws_5 (by decide) (inR_b hz2) (fun hd10 => ?_) (fun hd10 => ?_)
  · have hw := hw.1 hd10
    refine ok_iconst (pc := 17) a dX8_laws_17 ?_
    exact ok_iret (pc := 18) a dX8_laws_18 ⟨_, rfl, rfl, rfl, hw⟩
  · have hw := hw.2 hd10
    refine ok_iload_n (pc := 8) a dX8_laws_8 rfl rfl ?_
    refine ok_iconst (pc := 9) a dX8_laws_9 ?_
    refine ok_iconst (pc := 10) a dX8_laws_10 ?_
    refine ok_SPZ (pc := 11) a [(vI x2), (vI 0), (vI 1)] [] (M_X8_within hn tg x2 0 1  hw) dX8_laws_11 lkRX8_82 rfl ⟨Nat.le_of_ble_eq_true rfl, Nat.le_of_ble_eq_true rfl⟩ rfl (Nat.le_of_ble_eq_true rfl) rfl (fun r3 hz4 hw => ?_)
    refine ok_if_ne (pc := 14) a 19 dX8_laws_14 (by decide) (inR_b hz4) (fun hd9 => ?_) (fun hd9 => ?_)
    · have hw := hw.2 hd9
      refine ok_iload_n (pc := 19) a dX8_laws_19 rfl rfl ?_
      obtain ⟨hc5, hw⟩ := hw
      refine ok_if_ne (pc := 20) a 41 dX8_laws_20 (by decide) hc5 (fun hd8 => ?_) (fun hd8 => ?_)
      · have hw := hw.2 hd8
        refine ok_aload_n (pc := 41) a dX8_laws_41 rfl rfl ?_
        refine ok_getR (pc := 42) a dX8_laws_42 lfRX8_72 (Nat.lt_of_lt_of_le (by decide) hn) kq0 rfl (tg.at 0 10 52 (by decide) (by decide)) ?_
        refine ok_iload_n (pc := 45) a dX8_laws_45 rfl rfl ?_
        refine ok_aload_n (pc := 46) a dX8_laws_46 rfl rfl ?_
        refine ok_getR (pc := 47) a dX8_laws_47 lfRX8_19 (Nat.lt_of_lt_of_le (by decide) hn) kq0 rfl (tg.at 0 1 3 (by decide) (by decide)) ?_
        refine ok_getR (pc := 50) a dX8_laws_50 lfRX8_123 (Nat.lt_of_lt_of_le (by decide) hn) kq3 rfl (tg.at 3 0 4 (by decide) (by decide)) ?_
        refine ok_VPI (pc := 53) a [(vI x1), (vR 4)] [] (M_X1_firstLawOf hn tg x1  hw) dX8_laws_53 lkRX8_269 rfl (Nat.lt_of_lt_of_le (by decide) hn) kq52 (by decide) rfl ⟨Nat.le_of_ble_eq_true rfl, Nat.le_of_ble_eq_true rfl⟩ rfl (Nat.le_of_ble_eq_true rfl) rfl (fun r7 hw => ?_)
        exact ok_iret (pc := 56) a dX8_laws_56 ⟨_, rfl, rfl, rfl, hw⟩
      · have hw := hw.1 hd8
        refine ok_aload_n (pc := 23) a dX8_laws_23 rfl rfl ?_
        refine ok_getR (pc := 24) a dX8_laws_24 lfRX8_72 (Nat.lt_of_lt_of_le (by decide) hn) kq0 rfl (tg.at 0 10 52 (by decide) (by decide)) ?_
        refine ok_iload_n (pc := 27) a dX8_laws_27 rfl rfl ?_
        refine ok_aload_n (pc := 28) a dX8_laws_28 rfl rfl ?_
        refine ok_getR (pc := 29) a dX8_laws_29 lfRX8_19 (Nat.lt_of_lt_of_le (by decide) hn) kq0 rfl (tg.at 0 1 3 (by decide) (by decide)) ?_
        refine ok_getR (pc := 32) a dX8_laws_32 lfRX8_123 (Nat.lt_of_lt_of_le (by decide) hn) kq3 rfl (tg.at 3 0 4 (by decide) (by decide)) ?_
        refine ok_VPI (pc := 35) a [(vI x1), (vR 4)] [] (M_X1_lawsOf hn tg x1  hw) dX8_laws_35 lkRX8_265 rfl (Nat.lt_of_lt_of_le (by decide) hn) kq52 (by decide) rfl ⟨Nat.le_of_ble_eq_true rfl, Nat.le_of_ble_eq_true rfl⟩ rfl (Nat.le_of_ble_eq_true rfl) rfl (fun r6 hw => ?_)
        refine ok_goto (pc := 38) a 56 dX8_laws_38 (by decide) ?_
        exact ok_iret (pc := 56) a dX8_laws_56 ⟨_, rfl, rfl, rfl, hw⟩
    · have hw := hw.1 hd9
      refine ok_iconst (pc := 17) a dX8_laws_17 ?_
      exact ok_iret (pc := 18) a dX8_laws_18 ⟨_, rfl, rfl, rfl, hw⟩

def wp_X8_clean  (h : aH) (Q : Int → aH → Prop) : Prop :=
  ∀ x1_15, x1_15 = ((h 52 7) + (h 52 8)) → wp_X1_dropRecords h (fun h1 => Q x1_15 h1)
set_option maxRecDepth 100000 in
set_option maxHeartbeats 4000000 in
theorem M_X8_clean {Γ : Gm} {l : Launch} {n : Nat} {g : aG} (hn : 59 ≤ n) (tg : TC g)   {h : aH} {Q : Int → aH → Prop} (hw : wp_X8_clean  h Q) : Cl Γ l mX8_clean [vR 0] n g h (RI g Q) := by
  refine Cl.of (by decide) [some (vR 0), none] rfl (Nat.le_of_ble_eq_true rfl) ?_
  intro p e s m args below meth c a
  unfold wp_X8_clean at hw
  refine ok_aload_n (pc := 0) a dX8_clean_0 rfl rfl ?_
  refine ok_getR (pc := 1) a dX8_clean_1 lfRX8_72 (Nat.lt_of_lt_of_le (by decide) hn) kq0 rfl (tg.at 0 10 52 (by decide) (by decide)) ?_
  refine ok_fI (pc := 4) 7 a dX8_clean_4 lfRX8_237 (Nat.lt_of_lt_of_le (by decide) hn) kq52 ty_1_7 rfl ?_
  refine ok_aload_n (pc := 7) a dX8_clean_7 rfl rfl ?_
  refine ok_getR (pc := 8) a dX8_clean_8 lfRX8_72 (Nat.lt_of_lt_of_le (by decide) hn) kq0 rfl (tg.at 0 10 52 (by decide) (by decide)) ?_
  refine ok_fI (pc := 11) 8 a dX8_clean_11 lfRX8_262 (Nat.lt_of_lt_of_le (by decide) hn) kq52 ty_1_8 rfl ?_
  refine ok_iadd (pc := 14) a dX8_clean_14 ?_
  refine ok_nmI (fun x1_15 ex1_15 => ?_)
  have hw := hw x1_15 ex1_15
  refine ok_sI_n (pc := 15) a [some (vR 0), some (vI x1_15)] dX8_clean_15 rfl (by decide) rfl rfl ?_
  refine ok_aload_n (pc := 16) a dX8_clean_16 rfl rfl ?_
  refine ok_getR (pc := 17) a dX8_clean_17 lfRX8_72 (Nat.lt_of_lt_of_le (by decide) hn) kq0 rfl (tg.at 0 10 52 (by decide) (by decide)) ?_
  refine ok_VRV (pc := 20) a [] [] (M_X1_dropRecords hn tg   hw) dX8_clean_20 lkRX8_272 rfl (Nat.lt_of_lt_of_le (by decide) hn) kq52 (by decide) rfl ⟨Nat.le_of_ble_eq_true rfl, Nat.le_of_ble_eq_true rfl⟩ rfl (Nat.le_of_ble_eq_true rfl) rfl (fun h1 hw => ?_)
  refine ok_iload_n (pc := 23) a dX8_clean_23 rfl rfl ?_
  exact ok_iret (pc := 24) a dX8_clean_24 ⟨_, rfl, rfl, hw⟩

def wp_X8_asPerson (x1 : Int) (h : aH) (Q : Int → aH → Prop) : Prop :=
  ∀ h1, h1 = up h 0 11 ((h 0 11) + 1) → wp_X8_heavinessOf x1 h1 (fun r2 => Q r2 h1)
set_option maxRecDepth 100000 in
set_option maxHeartbeats 4000000 in
theorem M_X8_asPerson {Γ : Gm} {l : Launch} {n : Nat} {g : aG} (hn : 59 ≤ n) (tg : TC g) (x1 : Int)  {h : aH} {Q : Int → aH → Prop} (hw : wp_X8_asPerson x1 h Q) : Cl Γ l mX8_asPerson [vR 0, vI x1] n g h (RI g Q) := by
  refine Cl.of (by decide) [some (vR 0), some (vI x1)] rfl (Nat.le_of_ble_eq_true rfl) ?_
  intro p e s m args below meth c a
  unfold wp_X8_asPerson at hw
  refine ok_aload_n (pc := 0) a dX8_asPerson_0 rfl rfl ?_
  refine ok_dup (pc := 1) a dX8_asPerson_1 (by rfl) ?_
  refine ok_fJ (pc := 2) 11 a dX8_asPerson_2 lfRX8_295 (Nat.lt_of_lt_of_le (by decide) hn) kq0 ty_8_11 rfl ?_
  refine ok_lconst (pc := 5) (x := 1) a dX8_asPerson_5 (by decide) ?_
  refine ok_ladd (pc := 6) a dX8_asPerson_6 ?_
  refine ok_pJ (pc := 7) 11 a dX8_asPerson_7 lfRX8_295 fi_8_11 (Nat.lt_of_lt_of_le (by decide) hn) kq0 ty_8_11 rfl (fun h1 eh1 => ?_)
  have hw := hw h1 eh1
  refine ok_aload_n (pc := 10) a dX8_asPerson_10 rfl rfl ?_
  refine ok_iload_n (pc := 11) a dX8_asPerson_11 rfl rfl ?_
  refine ok_VPI (pc := 12) a [(vI x1)] [] (M_X8_heavinessOf hn tg x1  hw) dX8_asPerson_12 lkRX8_132 rfl (Nat.lt_of_lt_of_le (by decide) hn) kq0 (by decide) rfl ⟨Nat.le_of_ble_eq_true rfl, Nat.le_of_ble_eq_true rfl⟩ rfl (Nat.le_of_ble_eq_true rfl) rfl (fun r2 hw => ?_)
  exact ok_iret (pc := 15) a dX8_asPerson_15 ⟨_, rfl, rfl, hw⟩

def wp_X8_sumOfSorts_B4 (k : Nat) (x1 : Int) (h : aH) (Q : Int → Prop) (X4 : Int × Int → Prop) (x2_4 : Int) (x3_4 : Int) : Prop :=
  inR x3_4 ∧ ((4 ≤ x3_4 → Q x2_4) ∧ (¬ 4 ≤ x3_4 → (0 ≤ ((x1 * 4) + x3_4) ∧ ((x1 * 4) + x3_4) < 16) ∧ ∀ x2_18, x2_18 = (x2_4 + (h k ((x1 * 4) + x3_4))) → X4 (x2_18, (x3_4 + 1))))
def wp_X8_sumOfSorts (k : Nat) (x1 : Int) (h : aH) (Q : Int → Prop) : Prop :=
  lp (fun X y => wp_X8_sumOfSorts_B4 k x1 h Q X y.1 y.2) (0, 0)
set_option maxRecDepth 100000 in
set_option maxHeartbeats 4000000 in
theorem M_X8_sumOfSorts {Γ : Gm} {l : Launch} {n : Nat} {g : aG} (hn : 59 ≤ n) (tg : TC g) (k : Nat) (x1 : Int) (hkk : kd k = (10, 16)) (hlk : k < 59) {h : aH} {Q : Int → Prop} (hw : wp_X8_sumOfSorts k x1 h Q) : Cl Γ l mX8_sumOfSorts [vR k, vI x1] n g h (PI g h Q) := by
  refine Cl.of (by decide) [some (vR k), some (vI x1), none, none] rfl (Nat.le_of_ble_eq_true rfl) ?_
  intro p e s m args below meth c a
  unfold wp_X8_sumOfSorts at hw
  refine ok_iconst (pc := 0) a dX8_sumOfSorts_0 ?_
  refine ok_sI_n (pc := 1) a [some (vR k), some (vI x1), some (vI 0), none] dX8_sumOfSorts_1 rfl (by decide) rfl rfl ?_
  refine ok_iconst (pc := 2) a dX8_sumOfSorts_2 ?_
  refine ok_sI_n (pc := 3) a [some (vR k), some (vI x1), some (vI 0), some (vI 0)] dX8_sumOfSorts_3 rfl (by decide) rfl rfl ?_
  refine lp.use (P := fun y => OK Γ p l e (rmd 0 n n) s m args below meth c n (MQ below (QQ Γ n (PI g h Q)) args s (n - n) (sl n - sl n) (AA Γ)) 4 [some (vR k), some (vI x1), some (vI y.1), some (vI y.2)] [] n g h) ?_ (0, 0) hw
  clear hw
  intro X4 hX4 y hw
  obtain ⟨x2_4, x3_4⟩ := y
  have hw : wp_X8_sumOfSorts_B4 k x1 h Q X4 x2_4 x3_4 := hw
  unfold wp_X8_sumOfSorts_B4 at hw
  try dsimp only
  refine ok_iload_n (pc := 4) a dX8_sumOfSorts_4 rfl rfl ?_
  refine ok_iconst (pc := 5) a dX8_sumOfSorts_5 ?_
  obtain ⟨hc1, hw⟩ := hw
  refine ok_icmp_ge (pc := 6) a 25 dX8_sumOfSorts_6 (by decide) hc1 ⟨by decide, by decide⟩ (fun hd3 => ?_) (fun hd3 => ?_)
  · have hw := hw.1 hd3
    refine ok_iload_n (pc := 25) a dX8_sumOfSorts_25 rfl rfl ?_
    exact ok_iret (pc := 26) a dX8_sumOfSorts_26 ⟨_, rfl, rfl, rfl, hw⟩
  · have hw := hw.2 hd3
    refine ok_iload_n (pc := 9) a dX8_sumOfSorts_9 rfl rfl ?_
    refine ok_aload_n (pc := 10) a dX8_sumOfSorts_10 rfl rfl ?_
    refine ok_iload_n (pc := 11) a dX8_sumOfSorts_11 rfl rfl ?_
    refine ok_iconst (pc := 12) a dX8_sumOfSorts_12 ?_
    refine ok_imul (pc := 13) a dX8_sumOfSorts_13 ?_
    refine ok_iload_n (pc := 14) a dX8_sumOfSorts_14 rfl rfl ?_
    refine ok_iadd (pc := 15) a dX8_sumOfSorts_15 ?_
    obtain ⟨hc2, hw⟩ := hw
    refine ok_iald (pc := 16) a dX8_sumOfSorts_16 (Nat.lt_of_lt_of_le hlk hn) hkk (by decide) hc2 ?_
    refine ok_iadd (pc := 17) a dX8_sumOfSorts_17 ?_
    refine ok_nmI (fun x2_18 ex2_18 => ?_)
    have hw := hw x2_18 ex2_18
    refine ok_sI_n (pc := 18) a [some (vR k), some (vI x1), some (vI x2_18), some (vI x3_4)] dX8_sumOfSorts_18 rfl (by decide) rfl rfl ?_
    refine ok_inc (pc := 19) a [some (vR k), some (vI x1), some (vI x2_18), some (vI (x3_4 + 1))] dX8_sumOfSorts_19 rfl (by decide) rfl rfl ?_
    refine ok_goto (pc := 22) a 4 dX8_sumOfSorts_22 (by decide) ?_
    exact hX4 (x2_18, (x3_4 + 1)) hw

def wp_X8_asBride (x1 : Int) (h : aH) (Q : Int → aH → Prop) : Prop :=
  ∀ h1, h1 = up h 0 11 ((h 0 11) + 10) → wp_X8_asPerson x1 h1 (fun r2 h3 => wp_X8_sumOfSorts 14 x1 h3 (fun r4 => Q (r2 + r4) h3))
set_option maxRecDepth 100000 in
set_option maxHeartbeats 4000000 in
theorem M_X8_asBride {Γ : Gm} {l : Launch} {n : Nat} {g : aG} (hn : 59 ≤ n) (tg : TC g) (x1 : Int)  {h : aH} {Q : Int → aH → Prop} (hw : wp_X8_asBride x1 h Q) : Cl Γ l mX8_asBride [vR 0, vI x1] n g h (RI g Q) := by
  refine Cl.of (by decide) [some (vR 0), some (vI x1)] rfl (Nat.le_of_ble_eq_true rfl) ?_
  intro p e s m args below meth c a
  unfold wp_X8_asBride at hw
  refine ok_aload_n (pc := 0) a dX8_asBride_0 rfl rfl ?_
  refine ok_dup (pc := 1) a dX8_asBride_1 (by rfl) ?_
  refine ok_fJ (pc := 2) 11 a dX8_asBride_2 lfRX8_295 (Nat.lt_of_lt_of_le (by decide) hn) kq0 ty_8_11 rfl ?_
  refine ok_ldc2 (pc := 5) (x := 10) a dX8_asBride_5 ctRX8_331 (by decide) ?_
  refine ok_ladd (pc := 8) a dX8_asBride_8 ?_
  refine ok_pJ (pc := 9) 11 a dX8_asBride_9 lfRX8_295 fi_8_11 (Nat.lt_of_lt_of_le (by decide) hn) kq0 ty_8_11 rfl (fun h1 eh1 => ?_)
  have hw := hw h1 eh1
  refine ok_aload_n (pc := 12) a dX8_asBride_12 rfl rfl ?_
  refine ok_iload_n (pc := 13) a dX8_asBride_13 rfl rfl ?_
  refine ok_VRI (pc := 14) a [(vI x1)] [] (M_X8_asPerson hn tg x1  hw) dX8_asBride_14 lkRX8_275 rfl (Nat.lt_of_lt_of_le (by decide) hn) kq0 (by decide) rfl ⟨Nat.le_of_ble_eq_true rfl, Nat.le_of_ble_eq_true rfl⟩ rfl (Nat.le_of_ble_eq_true rfl) rfl (fun r2 h3 hw => ?_)
  refine ok_aload_n (pc := 17) a dX8_asBride_17 rfl rfl ?_
  refine ok_getR (pc := 18) a dX8_asBride_18 lfRX8_29 (Nat.lt_of_lt_of_le (by decide) hn) kq0 rfl (tg.at 0 3 13 (by decide) (by decide)) ?_
  refine ok_getR (pc := 21) a dX8_asBride_21 lfRX8_116 (Nat.lt_of_lt_of_le (by decide) hn) kq13 rfl (tg.at 13 0 14 (by decide) (by decide)) ?_
  refine ok_iload_n (pc := 24) a dX8_asBride_24 rfl rfl ?_
  refine ok_SPI (pc := 25) a [(vR 14), (vI x1)] [(vI r2)] (M_X8_sumOfSorts hn tg 14 x1 kq14 (by decide) hw) dX8_asBride_25 lkRX8_333 rfl ⟨Nat.le_of_ble_eq_true rfl, Nat.le_of_ble_eq_true rfl⟩ rfl (Nat.le_of_ble_eq_true rfl) rfl (fun r4 hw => ?_)
  refine ok_iadd (pc := 28) a dX8_asBride_28 ?_
  exact ok_iret (pc := 29) a dX8_asBride_29 ⟨_, rfl, rfl, hw⟩

def wp_X8_asPartner (x1 : Int) (h : aH) (Q : Int → aH → Prop) : Prop :=
  ∀ h1, h1 = up h 0 11 ((h 0 11) + 100) → wp_X8_asPerson x1 h1 (fun r2 h3 => wp_X8_sumOfSorts 6 x1 h3 (fun r4 => Q (r2 - r4) h3))
set_option maxRecDepth 100000 in
set_option maxHeartbeats 4000000 in
theorem M_X8_asPartner {Γ : Gm} {l : Launch} {n : Nat} {g : aG} (hn : 59 ≤ n) (tg : TC g) (x1 : Int)  {h : aH} {Q : Int → aH → Prop} (hw : wp_X8_asPartner x1 h Q) : Cl Γ l mX8_asPartner [vR 0, vI x1] n g h (RI g Q) := by
  refine Cl.of (by decide) [some (vR 0), some (vI x1)] rfl (Nat.le_of_ble_eq_true rfl) ?_
  intro p e s m args below meth c a
  unfold wp_X8_asPartner at hw
  refine ok_aload_n (pc := 0) a dX8_asPartner_0 rfl rfl ?_
  refine ok_dup (pc := 1) a dX8_asPartner_1 (by rfl) ?_
  refine ok_fJ (pc := 2) 11 a dX8_asPartner_2 lfRX8_295 (Nat.lt_of_lt_of_le (by decide) hn) kq0 ty_8_11 rfl ?_
  refine ok_ldc2 (pc := 5) (x := 100) a dX8_asPartner_5 ctRX8_337 (by decide) ?_
  refine ok_ladd (pc := 8) a dX8_asPartner_8 ?_
  refine ok_pJ (pc := 9) 11 a dX8_asPartner_9 lfRX8_295 fi_8_11 (Nat.lt_of_lt_of_le (by decide) hn) kq0 ty_8_11 rfl (fun h1 eh1 => ?_)
  have hw := hw h1 eh1
  refine ok_aload_n (pc := 12) a dX8_asPartner_12 rfl rfl ?_
  refine ok_iload_n (pc := 13) a dX8_asPartner_13 rfl rfl ?_
  refine ok_VRI (pc := 14) a [(vI x1)] [] (M_X8_asPerson hn tg x1  hw) dX8_asPartner_14 lkRX8_275 rfl (Nat.lt_of_lt_of_le (by decide) hn) kq0 (by decide) rfl ⟨Nat.le_of_ble_eq_true rfl, Nat.le_of_ble_eq_true rfl⟩ rfl (Nat.le_of_ble_eq_true rfl) rfl (fun r2 h3 hw => ?_)
  refine ok_aload_n (pc := 17) a dX8_asPartner_17 rfl rfl ?_
  refine ok_getR (pc := 18) a dX8_asPartner_18 lfRX8_19 (Nat.lt_of_lt_of_le (by decide) hn) kq0 rfl (tg.at 0 1 3 (by decide) (by decide)) ?_
  refine ok_getR (pc := 21) a dX8_asPartner_21 lfRX8_120 (Nat.lt_of_lt_of_le (by decide) hn) kq3 rfl (tg.at 3 2 6 (by decide) (by decide)) ?_
  refine ok_iload_n (pc := 24) a dX8_asPartner_24 rfl rfl ?_
  refine ok_SPI (pc := 25) a [(vR 6), (vI x1)] [(vI r2)] (M_X8_sumOfSorts hn tg 6 x1 kq6 (by decide) hw) dX8_asPartner_25 lkRX8_333 rfl ⟨Nat.le_of_ble_eq_true rfl, Nat.le_of_ble_eq_true rfl⟩ rfl (Nat.le_of_ble_eq_true rfl) rfl (fun r4 hw => ?_)
  refine ok_isub (pc := 28) a dX8_asPartner_28 ?_
  exact ok_iret (pc := 29) a dX8_asPartner_29 ⟨_, rfl, rfl, hw⟩

def wp_X8_asBrother (x1 : Int) (h : aH) (Q : Int → aH → Prop) : Prop :=
  ∀ h1, h1 = up h 0 11 ((h 0 11) + 1000) → wp_X8_asBride x1 h1 (fun r2 h3 => Q (2 * r2) h3)
set_option maxRecDepth 100000 in
set_option maxHeartbeats 4000000 in
theorem M_X8_asBrother {Γ : Gm} {l : Launch} {n : Nat} {g : aG} (hn : 59 ≤ n) (tg : TC g) (x1 : Int)  {h : aH} {Q : Int → aH → Prop} (hw : wp_X8_asBrother x1 h Q) : Cl Γ l mX8_asBrother [vR 0, vI x1] n g h (RI g Q) := by
  refine Cl.of (by decide) [some (vR 0), some (vI x1)] rfl (Nat.le_of_ble_eq_true rfl) ?_
  intro p e s m args below meth c a
  unfold wp_X8_asBrother at hw
  refine ok_aload_n (pc := 0) a dX8_asBrother_0 rfl rfl ?_
  refine ok_dup (pc := 1) a dX8_asBrother_1 (by rfl) ?_
  refine ok_fJ (pc := 2) 11 a dX8_asBrother_2 lfRX8_295 (Nat.lt_of_lt_of_le (by decide) hn) kq0 ty_8_11 rfl ?_
  refine ok_ldc2 (pc := 5) (x := 1000) a dX8_asBrother_5 ctRX8_339 (by decide) ?_
  refine ok_ladd (pc := 8) a dX8_asBrother_8 ?_
  refine ok_pJ (pc := 9) 11 a dX8_asBrother_9 lfRX8_295 fi_8_11 (Nat.lt_of_lt_of_le (by decide) hn) kq0 ty_8_11 rfl (fun h1 eh1 => ?_)
  have hw := hw h1 eh1
  refine ok_iconst (pc := 12) a dX8_asBrother_12 ?_
  refine ok_aload_n (pc := 13) a dX8_asBrother_13 rfl rfl ?_
  refine ok_iload_n (pc := 14) a dX8_asBrother_14 rfl rfl ?_
  refine ok_VRI (pc := 15) a [(vI x1)] [(vI 2)] (M_X8_asBride hn tg x1  hw) dX8_asBrother_15 lkRX8_278 rfl (Nat.lt_of_lt_of_le (by decide) hn) kq0 (by decide) rfl ⟨Nat.le_of_ble_eq_true rfl, Nat.le_of_ble_eq_true rfl⟩ rfl (Nat.le_of_ble_eq_true rfl) rfl (fun r2 h3 hw => ?_)
  refine ok_imul (pc := 18) a dX8_asBrother_18 ?_
  exact ok_iret (pc := 19) a dX8_asBrother_19 ⟨_, rfl, rfl, hw⟩

def wp_X8_asBankrupt (x1 : Int) (h : aH) (Q : Int → aH → Prop) : Prop :=
  ∀ h1, h1 = up h 0 11 ((h 0 11) + 10000) → wp_X8_asPartner x1 h1 (fun r2 h3 => Q (r2 + x1) h3)
set_option maxRecDepth 100000 in
set_option maxHeartbeats 4000000 in
theorem M_X8_asBankrupt {Γ : Gm} {l : Launch} {n : Nat} {g : aG} (hn : 59 ≤ n) (tg : TC g) (x1 : Int)  {h : aH} {Q : Int → aH → Prop} (hw : wp_X8_asBankrupt x1 h Q) : Cl Γ l mX8_asBankrupt [vR 0, vI x1] n g h (RI g Q) := by
  refine Cl.of (by decide) [some (vR 0), some (vI x1)] rfl (Nat.le_of_ble_eq_true rfl) ?_
  intro p e s m args below meth c a
  unfold wp_X8_asBankrupt at hw
  refine ok_aload_n (pc := 0) a dX8_asBankrupt_0 rfl rfl ?_
  refine ok_dup (pc := 1) a dX8_asBankrupt_1 (by rfl) ?_
  refine ok_fJ (pc := 2) 11 a dX8_asBankrupt_2 lfRX8_295 (Nat.lt_of_lt_of_le (by decide) hn) kq0 ty_8_11 rfl ?_
  refine ok_ldc2 (pc := 5) (x := 10000) a dX8_asBankrupt_5 ctRX8_341 (by decide) ?_
  refine ok_ladd (pc := 8) a dX8_asBankrupt_8 ?_
  refine ok_pJ (pc := 9) 11 a dX8_asBankrupt_9 lfRX8_295 fi_8_11 (Nat.lt_of_lt_of_le (by decide) hn) kq0 ty_8_11 rfl (fun h1 eh1 => ?_)
  have hw := hw h1 eh1
  refine ok_aload_n (pc := 12) a dX8_asBankrupt_12 rfl rfl ?_
  refine ok_iload_n (pc := 13) a dX8_asBankrupt_13 rfl rfl ?_
  refine ok_VRI (pc := 14) a [(vI x1)] [] (M_X8_asPartner hn tg x1  hw) dX8_asBankrupt_14 lkRX8_281 rfl (Nat.lt_of_lt_of_le (by decide) hn) kq0 (by decide) rfl ⟨Nat.le_of_ble_eq_true rfl, Nat.le_of_ble_eq_true rfl⟩ rfl (Nat.le_of_ble_eq_true rfl) rfl (fun r2 h3 hw => ?_)
  refine ok_iload_n (pc := 17) a dX8_asBankrupt_17 rfl rfl ?_
  refine ok_iadd (pc := 18) a dX8_asBankrupt_18 ?_
  exact ok_iret (pc := 19) a dX8_asBankrupt_19 ⟨_, rfl, rfl, hw⟩

def wp_X8_asStranger (x1 : Int) (h : aH) (Q : Int → aH → Prop) : Prop :=
  ∀ h1, h1 = up h 0 11 ((h 0 11) + 100000) → wp_X8_asPerson x1 h1 (fun r2 h3 => Q (r2 + (h3 13 1)) h3)
set_option maxRecDepth 100000 in
set_option maxHeartbeats 4000000 in
theorem M_X8_asStranger {Γ : Gm} {l : Launch} {n : Nat} {g : aG} (hn : 59 ≤ n) (tg : TC g) (x1 : Int)  {h : aH} {Q : Int → aH → Prop} (hw : wp_X8_asStranger x1 h Q) : Cl Γ l mX8_asStranger [vR 0, vI x1] n g h (RI g Q) := by
  refine Cl.of (by decide) [some (vR 0), some (vI x1)] rfl (Nat.le_of_ble_eq_true rfl) ?_
  intro p e s m args below meth c a
  unfold wp_X8_asStranger at hw
  refine ok_aload_n (pc := 0) a dX8_asStranger_0 rfl rfl ?_
  refine ok_dup (pc := 1) a dX8_asStranger_1 (by rfl) ?_
  refine ok_fJ (pc := 2) 11 a dX8_asStranger_2 lfRX8_295 (Nat.lt_of_lt_of_le (by decide) hn) kq0 ty_8_11 rfl ?_
  refine ok_ldc2 (pc := 5) (x := 100000) a dX8_asStranger_5 ctRX8_343 (by decide) ?_
  refine ok_ladd (pc := 8) a dX8_asStranger_8 ?_
  refine ok_pJ (pc := 9) 11 a dX8_asStranger_9 lfRX8_295 fi_8_11 (Nat.lt_of_lt_of_le (by decide) hn) kq0 ty_8_11 rfl (fun h1 eh1 => ?_)
  have hw := hw h1 eh1
  refine ok_aload_n (pc := 12) a dX8_asStranger_12 rfl rfl ?_
  refine ok_iload_n (pc := 13) a dX8_asStranger_13 rfl rfl ?_
  refine ok_VRI (pc := 14) a [(vI x1)] [] (M_X8_asPerson hn tg x1  hw) dX8_asStranger_14 lkRX8_275 rfl (Nat.lt_of_lt_of_le (by decide) hn) kq0 (by decide) rfl ⟨Nat.le_of_ble_eq_true rfl, Nat.le_of_ble_eq_true rfl⟩ rfl (Nat.le_of_ble_eq_true rfl) rfl (fun r2 h3 hw => ?_)
  refine ok_aload_n (pc := 17) a dX8_asStranger_17 rfl rfl ?_
  refine ok_getR (pc := 18) a dX8_asStranger_18 lfRX8_29 (Nat.lt_of_lt_of_le (by decide) hn) kq0 rfl (tg.at 0 3 13 (by decide) (by decide)) ?_
  refine ok_fI (pc := 21) 1 a dX8_asStranger_21 lfRX8_144 (Nat.lt_of_lt_of_le (by decide) hn) kq13 ty_4_1 rfl ?_
  refine ok_iadd (pc := 24) a dX8_asStranger_24 ?_
  exact ok_iret (pc := 25) a dX8_asStranger_25 ⟨_, rfl, rfl, hw⟩

def wp_X8_rate (x1 : Int) (x2 : Int) (h : aH) (Q : Int → aH → Prop) : Prop :=
  wp_X8_isPerson x2 h (fun r1 => ((r1 = 0 → Q (-1000000) h) ∧ (¬ r1 = 0 → inR x1 ∧ (((x1 < 0 ∨ 5 < x1) → Q (-1000000) h) ∧ (x1 = 0 → wp_X8_asPerson x2 h (fun r5 h6 => Q r5 h6)) ∧ (x1 = 1 → wp_X8_asBride x2 h (fun r7 h8 => Q r7 h8)) ∧ (x1 = 2 → wp_X8_asPartner x2 h (fun r9 h10 => Q r9 h10)) ∧ (x1 = 3 → wp_X8_asBrother x2 h (fun r11 h12 => Q r11 h12)) ∧ (x1 = 4 → wp_X8_asBankrupt x2 h (fun r13 h14 => Q r13 h14)) ∧ (x1 = 5 → wp_X8_asStranger x2 h (fun r15 h16 => Q r15 h16))))))
set_option maxRecDepth 100000 in
set_option maxHeartbeats 4000000 in
theorem M_X8_rate {Γ : Gm} {l : Launch} {n : Nat} {g : aG} (hn : 59 ≤ n) (tg : TC g) (x1 : Int) (x2 : Int)  {h : aH} {Q : Int → aH → Prop} (hw : wp_X8_rate x1 x2 h Q) : Cl Γ l mX8_rate [vR 0, vI x1, vI x2] n g h (RI g Q) := by
  refine Cl.of (by decide) [some (vR 0), some (vI x1), some (vI x2)] rfl (Nat.le_of_ble_eq_true rfl) ?_
  intro p e s m args below meth c a
  unfold wp_X8_rate at hw
  refine ok_aload_n (pc := 0) a dX8_rate_0 rfl rfl ?_
  refine ok_iload_n (pc := 1) a dX8_rate_1 rfl rfl ?_
  refine ok_VPZ (pc := 2) a [(vI x2)] [] (M_X8_isPerson hn tg x2  hw) dX8_rate_2 lkRX8_109 rfl (Nat.lt_of_lt_of_le (by decide) hn) kq0 (by decide) rfl ⟨Nat.le_of_ble_eq_true rfl, Nat.le_of_ble_eq_true rfl⟩ rfl (Nat.le_of_ble_eq_true rfl) rfl (fun r1 hz2 hw => ?_)
  refine ok_if_ne (pc := 5) a 11 dX8_rate_5 (by decide) (inR_b hz2) (fun hd17 => ?_) (fun hd17 => ?_)
  · have hw := hw.2 hd17
    refine ok_iload_n (pc := 11) a dX8_rate_11 rfl rfl ?_
    obtain ⟨hc3, hw⟩ := hw
    by_cases hd4 : x1 < 0 ∨ 5 < x1
    · have hw := hw.1 hd4
      refine ok_tabOut (pc := 12) a 88 dX8_rate_12 hc3 hd4 (by decide) ?_
      refine ok_ldc (pc := 88) (x := (-1000000)) a dX8_rate_88 ctRX8_187 (by decide) ?_
      exact ok_iret (pc := 90) a dX8_rate_90 ⟨_, rfl, rfl, hw⟩
    · have hv : x1 = 0 ∨ x1 = 1 ∨ x1 = 2 ∨ x1 = 3 ∨ x1 = 4 ∨ x1 = 5 := by omega
      have hw := hw.2
      rcases hv with hv | hv | hv | hv | hv | hv
      · have hw := hw.1 hv
        refine ok_tabIn (pc := 12) a 52 dX8_rate_12 hc3 (by omega) (by omega) (by rw [hv]; rfl) (by decide) ?_
        refine ok_aload_n (pc := 52) a dX8_rate_52 rfl rfl ?_
        refine ok_iload_n (pc := 53) a dX8_rate_53 rfl rfl ?_
        refine ok_VRI (pc := 54) a [(vI x2)] [] (M_X8_asPerson hn tg x2  hw) dX8_rate_54 lkRX8_275 rfl (Nat.lt_of_lt_of_le (by decide) hn) kq0 (by decide) rfl ⟨Nat.le_of_ble_eq_true rfl, Nat.le_of_ble_eq_true rfl⟩ rfl (Nat.le_of_ble_eq_true rfl) rfl (fun r5 h6 hw => ?_)
        exact ok_iret (pc := 57) a dX8_rate_57 ⟨_, rfl, rfl, hw⟩
      · have hw := hw.2.1 hv
        refine ok_tabIn (pc := 12) a 58 dX8_rate_12 hc3 (by omega) (by omega) (by rw [hv]; rfl) (by decide) ?_
        refine ok_aload_n (pc := 58) a dX8_rate_58 rfl rfl ?_
        refine ok_iload_n (pc := 59) a dX8_rate_59 rfl rfl ?_
        refine ok_VRI (pc := 60) a [(vI x2)] [] (M_X8_asBride hn tg x2  hw) dX8_rate_60 lkRX8_278 rfl (Nat.lt_of_lt_of_le (by decide) hn) kq0 (by decide) rfl ⟨Nat.le_of_ble_eq_true rfl, Nat.le_of_ble_eq_true rfl⟩ rfl (Nat.le_of_ble_eq_true rfl) rfl (fun r7 h8 hw => ?_)
        exact ok_iret (pc := 63) a dX8_rate_63 ⟨_, rfl, rfl, hw⟩
      · have hw := hw.2.2.1 hv
        refine ok_tabIn (pc := 12) a 64 dX8_rate_12 hc3 (by omega) (by omega) (by rw [hv]; rfl) (by decide) ?_
        refine ok_aload_n (pc := 64) a dX8_rate_64 rfl rfl ?_
        refine ok_iload_n (pc := 65) a dX8_rate_65 rfl rfl ?_
        refine ok_VRI (pc := 66) a [(vI x2)] [] (M_X8_asPartner hn tg x2  hw) dX8_rate_66 lkRX8_281 rfl (Nat.lt_of_lt_of_le (by decide) hn) kq0 (by decide) rfl ⟨Nat.le_of_ble_eq_true rfl, Nat.le_of_ble_eq_true rfl⟩ rfl (Nat.le_of_ble_eq_true rfl) rfl (fun r9 h10 hw => ?_)
        exact ok_iret (pc := 69) a dX8_rate_69 ⟨_, rfl, rfl, hw⟩
      · have hw := hw.2.2.2.1 hv
        refine ok_tabIn (pc := 12) a 70 dX8_rate_12 hc3 (by omega) (by omega) (by rw [hv]; rfl) (by decide) ?_
        refine ok_aload_n (pc := 70) a dX8_rate_70 rfl rfl ?_
        refine ok_iload_n (pc := 71) a dX8_rate_71 rfl rfl ?_
        refine ok_VRI (pc := 72) a [(vI x2)] [] (M_X8_asBrother hn tg x2  hw) dX8_rate_72 lkRX8_284 rfl (Nat.lt_of_lt_of_le (by decide) hn) kq0 (by decide) rfl ⟨Nat.le_of_ble_eq_true rfl, Nat.le_of_ble_eq_true rfl⟩ rfl (Nat.le_of_ble_eq_true rfl) rfl (fun r11 h12 hw => ?_)
        exact ok_iret (pc := 75) a dX8_rate_75 ⟨_, rfl, rfl, hw⟩
      · have hw := hw.2.2.2.2.1 hv
        refine ok_tabIn (pc := 12) a 76 dX8_rate_12 hc3 (by omega) (by omega) (by rw [hv]; rfl) (by decide) ?_
        refine ok_aload_n (pc := 76) a dX8_rate_76 rfl rfl ?_
        refine ok_iload_n (pc := 77) a dX8_rate_77 rfl rfl ?_
        refine ok_VRI (pc := 78) a [(vI x2)] [] (M_X8_asBankrupt hn tg x2  hw) dX8_rate_78 lkRX8_287 rfl (Nat.lt_of_lt_of_le (by decide) hn) kq0 (by decide) rfl ⟨Nat.le_of_ble_eq_true rfl, Nat.le_of_ble_eq_true rfl⟩ rfl (Nat.le_of_ble_eq_true rfl) rfl (fun r13 h14 hw => ?_)
        exact ok_iret (pc := 81) a dX8_rate_81 ⟨_, rfl, rfl, hw⟩
      · have hw := hw.2.2.2.2.2 hv
        refine ok_tabIn (pc := 12) a 82 dX8_rate_12 hc3 (by omega) (by omega) (by rw [hv]; rfl) (by decide) ?_
        refine ok_aload_n (pc := 82) a dX8_rate_82 rfl rfl ?_
        refine ok_iload_n (pc := 83) a dX8_rate_83 rfl rfl ?_
        refine ok_VRI (pc := 84) a [(vI x2)] [] (M_X8_asStranger hn tg x2  hw) dX8_rate_84 lkRX8_290 rfl (Nat.lt_of_lt_of_le (by decide) hn) kq0 (by decide) rfl ⟨Nat.le_of_ble_eq_true rfl, Nat.le_of_ble_eq_true rfl⟩ rfl (Nat.le_of_ble_eq_true rfl) rfl (fun r15 h16 hw => ?_)
        exact ok_iret (pc := 87) a dX8_rate_87 ⟨_, rfl, rfl, hw⟩
  · have hw := hw.1 hd17
    refine ok_ldc (pc := 8) (x := (-1000000)) a dX8_rate_8 ctRX8_187 (by decide) ?_
    exact ok_iret (pc := 10) a dX8_rate_10 ⟨_, rfl, rfl, hw⟩

def wp_X8_keep (x1 : Int) (h : aH) (Q : Int → aH → Prop) : Prop :=
  wp_X8_within x1 0 1 h (fun r1 => ((r1 = 0 → Q (-1) h) ∧ (¬ r1 = 0 → (0 ≤ x1 ∧ x1 < 2) ∧ wp_X4_copyFrom (38 + 2 * x1.toNat) 13 h (fun h4 => ∀ h5, h5 = up h4 42 x1 1 → Q (h5 13 1) h5))))
set_option maxRecDepth 100000 in
set_option maxHeartbeats 4000000 in
theorem M_X8_keep {Γ : Gm} {l : Launch} {n : Nat} {g : aG} (hn : 59 ≤ n) (tg : TC g) (x1 : Int)  {h : aH} {Q : Int → aH → Prop} (hw : wp_X8_keep x1 h Q) : Cl Γ l mX8_keep [vR 0, vI x1] n g h (RI g Q) := by
  refine Cl.of (by decide) [some (vR 0), some (vI x1)] rfl (Nat.le_of_ble_eq_true rfl) ?_
  intro p e s m args below meth c a
  unfold wp_X8_keep at hw
  refine ok_iload_n (pc := 0) a dX8_keep_0 rfl rfl ?_
  refine ok_iconst (pc := 1) a dX8_keep_1 ?_
  refine ok_iconst (pc := 2) a dX8_keep_2 ?_
  refine ok_SPZ (pc := 3) a [(vI x1), (vI 0), (vI 1)] [] (M_X8_within hn tg x1 0 1  hw) dX8_keep_3 lkRX8_82 rfl ⟨Nat.le_of_ble_eq_true rfl, Nat.le_of_ble_eq_true rfl⟩ rfl (Nat.le_of_ble_eq_true rfl) rfl (fun r1 hz2 hw => ?_)
  refine ok_if_ne (pc := 6) a 11 dX8_keep_6 (by decide) (inR_b hz2) (fun hd6 => ?_) (fun hd6 => ?_)
  · have hw := hw.2 hd6
    refine ok_aload_n (pc := 11) a dX8_keep_11 rfl rfl ?_
    refine ok_getR (pc := 12) a dX8_keep_12 lfRX8_40 (Nat.lt_of_lt_of_le (by decide) hn) kq0 rfl (tg.at 0 5 37 (by decide) (by decide)) ?_
    refine ok_iload_n (pc := 15) a dX8_keep_15 rfl rfl ?_
    obtain ⟨hc3, hw⟩ := hw
    refine ok_aald (pc := 16) a dX8_keep_16 (Nat.lt_of_lt_of_le (by decide) hn) kq37 (by decide) hc3 (tg.img hc3) ?_
    refine ok_aload_n (pc := 17) a dX8_keep_17 rfl rfl ?_
    refine ok_getR (pc := 18) a dX8_keep_18 lfRX8_29 (Nat.lt_of_lt_of_le (by decide) hn) kq0 rfl (tg.at 0 3 13 (by decide) (by decide)) ?_
    refine ok_VRV (pc := 21) a [(vR 13)] [] (M_X4_copyFrom hn tg (38 + 2 * x1.toNat) 13 (img_fix x1.toNat (by omega)).2.1 (img_fix x1.toNat (by omega)).2.2 kq13 (by decide) hw) dX8_keep_21 lkRX8_293 rfl (Nat.lt_of_lt_of_le (img_fix x1.toNat (by omega)).2.2 hn) (img_fix x1.toNat (by omega)).2.1 (by decide) rfl ⟨Nat.le_of_ble_eq_true rfl, Nat.le_of_ble_eq_true rfl⟩ rfl (Nat.le_of_ble_eq_true rfl) rfl (fun h4 hw => ?_)
    refine ok_aload_n (pc := 24) a dX8_keep_24 rfl rfl ?_
    refine ok_getR (pc := 25) a dX8_keep_25 lfRX8_44 (Nat.lt_of_lt_of_le (by decide) hn) kq0 rfl (tg.at 0 6 42 (by decide) (by decide)) ?_
    refine ok_iload_n (pc := 28) a dX8_keep_28 rfl rfl ?_
    refine ok_iconst (pc := 29) a dX8_keep_29 ?_
    refine ok_bast (pc := 30) a dX8_keep_30 (Nat.lt_of_lt_of_le (by decide) hn) kq42 (by decide) hc3 (Or.inr rfl) (ok_nmH (fun h5 eh5 => ?_))
    have hw := hw h5 eh5
    refine ok_aload_n (pc := 31) a dX8_keep_31 rfl rfl ?_
    refine ok_getR (pc := 32) a dX8_keep_32 lfRX8_29 (Nat.lt_of_lt_of_le (by decide) hn) kq0 rfl (tg.at 0 3 13 (by decide) (by decide)) ?_
    refine ok_fI (pc := 35) 1 a dX8_keep_35 lfRX8_144 (Nat.lt_of_lt_of_le (by decide) hn) kq13 ty_4_1 rfl ?_
    exact ok_iret (pc := 38) a dX8_keep_38 ⟨_, rfl, rfl, hw⟩
  · have hw := hw.1 hd6
    refine ok_iconst (pc := 9) a dX8_keep_9 ?_
    exact ok_iret (pc := 10) a dX8_keep_10 ⟨_, rfl, rfl, hw⟩

def wp_X8_back (x1 : Int) (h : aH) (Q : Int → aH → Prop) : Prop :=
  wp_X8_within x1 0 1 h (fun r1 => ((r1 = 0 → Q (-1) h) ∧ (¬ r1 = 0 → (0 ≤ x1 ∧ x1 < 2) ∧ inR (h 42 x1) ∧ (((h 42 x1) = 0 → Q (-2) h) ∧ (¬ (h 42 x1) = 0 → wp_X4_copyFrom 13 (38 + 2 * x1.toNat) h (fun h5 => ∀ h6, h6 = up h5 15 2 0 → Q (h6 13 1) h6))))))
set_option maxRecDepth 100000 in
set_option maxHeartbeats 4000000 in
theorem M_X8_back {Γ : Gm} {l : Launch} {n : Nat} {g : aG} (hn : 59 ≤ n) (tg : TC g) (x1 : Int)  {h : aH} {Q : Int → aH → Prop} (hw : wp_X8_back x1 h Q) : Cl Γ l mX8_back [vR 0, vI x1] n g h (RI g Q) := by
  refine Cl.of (by decide) [some (vR 0), some (vI x1)] rfl (Nat.le_of_ble_eq_true rfl) ?_
  intro p e s m args below meth c a
  unfold wp_X8_back at hw
  refine ok_iload_n (pc := 0) a dX8_back_0 rfl rfl ?_
  refine ok_iconst (pc := 1) a dX8_back_1 ?_
  refine ok_iconst (pc := 2) a dX8_back_2 ?_
  refine ok_SPZ (pc := 3) a [(vI x1), (vI 0), (vI 1)] [] (M_X8_within hn tg x1 0 1  hw) dX8_back_3 lkRX8_82 rfl ⟨Nat.le_of_ble_eq_true rfl, Nat.le_of_ble_eq_true rfl⟩ rfl (Nat.le_of_ble_eq_true rfl) rfl (fun r1 hz2 hw => ?_)
  refine ok_if_ne (pc := 6) a 11 dX8_back_6 (by decide) (inR_b hz2) (fun hd8 => ?_) (fun hd8 => ?_)
  · have hw := hw.2 hd8
    refine ok_aload_n (pc := 11) a dX8_back_11 rfl rfl ?_
    refine ok_getR (pc := 12) a dX8_back_12 lfRX8_44 (Nat.lt_of_lt_of_le (by decide) hn) kq0 rfl (tg.at 0 6 42 (by decide) (by decide)) ?_
    refine ok_iload_n (pc := 15) a dX8_back_15 rfl rfl ?_
    obtain ⟨hc3, hw⟩ := hw
    refine ok_bald (pc := 16) a dX8_back_16 (Nat.lt_of_lt_of_le (by decide) hn) kq42 (by decide) hc3 ?_
    obtain ⟨hc4, hw⟩ := hw
    refine ok_if_ne (pc := 17) a 23 dX8_back_17 (by decide) hc4 (fun hd7 => ?_) (fun hd7 => ?_)
    · have hw := hw.2 hd7
      refine ok_aload_n (pc := 23) a dX8_back_23 rfl rfl ?_
      refine ok_getR (pc := 24) a dX8_back_24 lfRX8_29 (Nat.lt_of_lt_of_le (by decide) hn) kq0 rfl (tg.at 0 3 13 (by decide) (by decide)) ?_
      refine ok_aload_n (pc := 27) a dX8_back_27 rfl rfl ?_
      refine ok_getR (pc := 28) a dX8_back_28 lfRX8_40 (Nat.lt_of_lt_of_le (by decide) hn) kq0 rfl (tg.at 0 5 37 (by decide) (by decide)) ?_
      refine ok_iload_n (pc := 31) a dX8_back_31 rfl rfl ?_
      refine ok_aald (pc := 32) a dX8_back_32 (Nat.lt_of_lt_of_le (by decide) hn) kq37 (by decide) hc3 (tg.img hc3) ?_
      refine ok_VRV (pc := 33) a [(vR (38 + 2 * x1.toNat))] [] (M_X4_copyFrom hn tg 13 (38 + 2 * x1.toNat) kq13 (by decide) (img_fix x1.toNat (by omega)).2.1 (img_fix x1.toNat (by omega)).2.2 hw) dX8_back_33 lkRX8_293 rfl (Nat.lt_of_lt_of_le (by decide) hn) kq13 (by decide) rfl ⟨Nat.le_of_ble_eq_true rfl, Nat.le_of_ble_eq_true rfl⟩ rfl (Nat.le_of_ble_eq_true rfl) rfl (fun h5 hw => ?_)
      refine ok_aload_n (pc := 36) a dX8_back_36 rfl rfl ?_
      refine ok_getR (pc := 37) a dX8_back_37 lfRX8_36 (Nat.lt_of_lt_of_le (by decide) hn) kq0 rfl (tg.at 0 4 15 (by decide) (by decide)) ?_
      refine ok_iconst (pc := 40) a dX8_back_40 ?_
      refine ok_pI (pc := 41) 2 a dX8_back_41 lfRX8_157 fi_2_2 (Nat.lt_of_lt_of_le (by decide) hn) kq15 ty_2_2 rfl (fun h6 eh6 => ?_)
      have hw := hw h6 eh6
      refine ok_aload_n (pc := 44) a dX8_back_44 rfl rfl ?_
      refine ok_getR (pc := 45) a dX8_back_45 lfRX8_29 (Nat.lt_of_lt_of_le (by decide) hn) kq0 rfl (tg.at 0 3 13 (by decide) (by decide)) ?_
      refine ok_fI (pc := 48) 1 a dX8_back_48 lfRX8_144 (Nat.lt_of_lt_of_le (by decide) hn) kq13 ty_4_1 rfl ?_
      exact ok_iret (pc := 51) a dX8_back_51 ⟨_, rfl, rfl, hw⟩
    · have hw := hw.1 hd7
      refine ok_bipush (pc := 20) a dX8_back_20 (by decide) ?_
      exact ok_iret (pc := 22) a dX8_back_22 ⟨_, rfl, rfl, hw⟩
  · have hw := hw.1 hd8
    refine ok_iconst (pc := 9) a dX8_back_9 ?_
    exact ok_iret (pc := 10) a dX8_back_10 ⟨_, rfl, rfl, hw⟩

def wp_X8_count (x1 : Int) (h : aH) (Q : Int → Prop) : Prop :=
  inR x1 ∧ (((x1 < 0 ∨ 4 < x1) → Q (-1)) ∧ (x1 = 0 → Q (h 3 4)) ∧ (x1 = 1 → Q (h 3 5)) ∧ (x1 = 2 → Q (h 52 7)) ∧ (x1 = 3 → Q (h 52 8)) ∧ (x1 = 4 → Q (h 1 1)))
set_option maxRecDepth 100000 in
set_option maxHeartbeats 4000000 in
theorem M_X8_count {Γ : Gm} {l : Launch} {n : Nat} {g : aG} (hn : 59 ≤ n) (tg : TC g) (x1 : Int)  {h : aH} {Q : Int → Prop} (hw : wp_X8_count x1 h Q) : Cl Γ l mX8_count [vR 0, vI x1] n g h (PI g h Q) := by
  refine Cl.of (by decide) [some (vR 0), some (vI x1)] rfl (Nat.le_of_ble_eq_true rfl) ?_
  intro p e s m args below meth c a
  unfold wp_X8_count at hw
  refine ok_iload_n (pc := 0) a dX8_count_0 rfl rfl ?_
  obtain ⟨hc1, hw⟩ := hw
  by_cases hd2 : x1 < 0 ∨ 4 < x1
  · have hw := hw.1 hd2
    refine ok_tabOut (pc := 1) a 76 dX8_count_1 hc1 hd2 (by decide) ?_
    refine ok_iconst (pc := 76) a dX8_count_76 ?_
    exact ok_iret (pc := 77) a dX8_count_77 ⟨_, rfl, rfl, rfl, hw⟩
  · have hv : x1 = 0 ∨ x1 = 1 ∨ x1 = 2 ∨ x1 = 3 ∨ x1 = 4 := by omega
    have hw := hw.2
    rcases hv with hv | hv | hv | hv | hv
    · have hw := hw.1 hv
      refine ok_tabIn (pc := 1) a 36 dX8_count_1 hc1 (by omega) (by omega) (by rw [hv]; rfl) (by decide) ?_
      refine ok_aload_n (pc := 36) a dX8_count_36 rfl rfl ?_
      refine ok_getR (pc := 37) a dX8_count_37 lfRX8_19 (Nat.lt_of_lt_of_le (by decide) hn) kq0 rfl (tg.at 0 1 3 (by decide) (by decide)) ?_
      refine ok_fI (pc := 40) 4 a dX8_count_40 lfRX8_168 (Nat.lt_of_lt_of_le (by decide) hn) kq3 ty_7_4 rfl ?_
      exact ok_iret (pc := 43) a dX8_count_43 ⟨_, rfl, rfl, rfl, hw⟩
    · have hw := hw.2.1 hv
      refine ok_tabIn (pc := 1) a 44 dX8_count_1 hc1 (by omega) (by omega) (by rw [hv]; rfl) (by decide) ?_
      refine ok_aload_n (pc := 44) a dX8_count_44 rfl rfl ?_
      refine ok_getR (pc := 45) a dX8_count_45 lfRX8_19 (Nat.lt_of_lt_of_le (by decide) hn) kq0 rfl (tg.at 0 1 3 (by decide) (by decide)) ?_
      refine ok_fI (pc := 48) 5 a dX8_count_48 lfRX8_126 (Nat.lt_of_lt_of_le (by decide) hn) kq3 ty_7_5 rfl ?_
      exact ok_iret (pc := 51) a dX8_count_51 ⟨_, rfl, rfl, rfl, hw⟩
    · have hw := hw.2.2.1 hv
      refine ok_tabIn (pc := 1) a 52 dX8_count_1 hc1 (by omega) (by omega) (by rw [hv]; rfl) (by decide) ?_
      refine ok_aload_n (pc := 52) a dX8_count_52 rfl rfl ?_
      refine ok_getR (pc := 53) a dX8_count_53 lfRX8_72 (Nat.lt_of_lt_of_le (by decide) hn) kq0 rfl (tg.at 0 10 52 (by decide) (by decide)) ?_
      refine ok_fI (pc := 56) 7 a dX8_count_56 lfRX8_237 (Nat.lt_of_lt_of_le (by decide) hn) kq52 ty_1_7 rfl ?_
      exact ok_iret (pc := 59) a dX8_count_59 ⟨_, rfl, rfl, rfl, hw⟩
    · have hw := hw.2.2.2.1 hv
      refine ok_tabIn (pc := 1) a 60 dX8_count_1 hc1 (by omega) (by omega) (by rw [hv]; rfl) (by decide) ?_
      refine ok_aload_n (pc := 60) a dX8_count_60 rfl rfl ?_
      refine ok_getR (pc := 61) a dX8_count_61 lfRX8_72 (Nat.lt_of_lt_of_le (by decide) hn) kq0 rfl (tg.at 0 10 52 (by decide) (by decide)) ?_
      refine ok_fI (pc := 64) 8 a dX8_count_64 lfRX8_262 (Nat.lt_of_lt_of_le (by decide) hn) kq52 ty_1_8 rfl ?_
      exact ok_iret (pc := 67) a dX8_count_67 ⟨_, rfl, rfl, rfl, hw⟩
    · have hw := hw.2.2.2.2 hv
      refine ok_tabIn (pc := 1) a 68 dX8_count_1 hc1 (by omega) (by omega) (by rw [hv]; rfl) (by decide) ?_
      refine ok_aload_n (pc := 68) a dX8_count_68 rfl rfl ?_
      refine ok_getR (pc := 69) a dX8_count_69 lfRX8_12 (Nat.lt_of_lt_of_le (by decide) hn) kq0 rfl (tg.at 0 0 1 (by decide) (by decide)) ?_
      refine ok_fI (pc := 72) 1 a dX8_count_72 lfRX8_90 (Nat.lt_of_lt_of_le (by decide) hn) kq1 ty_6_1 rfl ?_
      exact ok_iret (pc := 75) a dX8_count_75 ⟨_, rfl, rfl, rfl, hw⟩

def wp_X8_trace  (h : aH) (Q : Int → Prop) : Prop :=
  Q (h 0 11)
set_option maxRecDepth 100000 in
set_option maxHeartbeats 4000000 in
theorem M_X8_trace {Γ : Gm} {l : Launch} {n : Nat} {g : aG} (hn : 59 ≤ n) (tg : TC g)   {h : aH} {Q : Int → Prop} (hw : wp_X8_trace  h Q) : Cl Γ l mX8_trace [vR 0] n g h (PL g h Q) := by
  refine Cl.of (by decide) [some (vR 0)] rfl (Nat.le_of_ble_eq_true rfl) ?_
  intro p e s m args below meth c a
  unfold wp_X8_trace at hw
  refine ok_aload_n (pc := 0) a dX8_trace_0 rfl rfl ?_
  refine ok_fJ (pc := 1) 11 a dX8_trace_1 lfRX8_295 (Nat.lt_of_lt_of_le (by decide) hn) kq0 ty_8_11 rfl ?_
  exact ok_lret (pc := 4) a dX8_trace_4 ⟨_, rfl, rfl, rfl, hw⟩

def wp_X9_in (x0 : Int) (x1 : Int) (x2 : Int) (h : aH) (Q : Int → Prop) : Prop :=
  (inR x0 ∧ inR x1 ∧ ((x0 < x1 → True) ∧ (¬ x0 < x1 → inR x2 ∧ True))) ∧ Q (if x0 < x1 then 0 else (if x2 < x0 then 0 else 1 : Int) : Int)
set_option maxRecDepth 100000 in
set_option maxHeartbeats 4000000 in
theorem M_X9_in {Γ : Gm} {l : Launch} {n : Nat} {g : aG} (hn : 80 ≤ n) (tg : TM g) (x0 : Int) (x1 : Int) (x2 : Int)  {h : aH} {Q : Int → Prop} (hw : wp_X9_in x0 x1 x2 h Q) : Cl Γ l mX9_in [vI x0, vI x1, vI x2] n g h (PZ g h Q) := by
  refine Cl.of (by decide) [some (vI x0), some (vI x1), some (vI x2)] rfl (Nat.le_of_ble_eq_true rfl) ?_
  intro p e s m args below meth c a
  unfold wp_X9_in at hw
  refine ok_iload_n (pc := 0) a dX9_in_0 rfl rfl ?_
  refine ok_iload_n (pc := 1) a dX9_in_1 rfl rfl ?_
  obtain ⟨hR, hw⟩ := hw
  have hK : OK Γ p l e (rmd 0 n n) s m args below meth c n (MQ below (QQ Γ n (PZ g h Q)) args s (n - n) (sl n - sl n) (AA Γ)) 15 [some (vI x0), some (vI x1), some (vI x2)] [(vI (if x0 < x1 then 0 else (if x2 < x0 then 0 else 1 : Int) : Int))] n g h := by
    exact ok_zret (pc := 15) a dX9_in_15 (ite01 (Or.inl rfl) (ite01 (Or.inl rfl) (Or.inr rfl))) ⟨_, rfl, rfl, rfl, (ite01 (Or.inl rfl) (ite01 (Or.inl rfl) (Or.inr rfl))), hw⟩
  have hw := hR
  obtain ⟨hc1, hw⟩ := hw
  obtain ⟨hc2, hw⟩ := hw
  refine ok_icmp_lt (pc := 2) a 14 dX9_in_2 (by decide) hc1 hc2 (fun hd3 => ?_) (fun hd3 => ?_)
  · refine ok_iconst (pc := 14) a dX9_in_14 ?_
    simp only [if_pos hd3] at hK
    exact hK
  · have hw := hw.2 hd3
    refine ok_iload_n (pc := 5) a dX9_in_5 rfl rfl ?_
    refine ok_iload_n (pc := 6) a dX9_in_6 rfl rfl ?_
    obtain ⟨hc4, hw⟩ := hw
    refine ok_icmp_gt (pc := 7) a 14 dX9_in_7 (by decide) hc1 hc4 (fun hd5 => ?_) (fun hd5 => ?_)
    · refine ok_iconst (pc := 14) a dX9_in_14 ?_
      simp only [if_neg hd3, if_pos hd5] at hK
      exact hK
    · refine ok_iconst (pc := 10) a dX9_in_10 ?_
      refine ok_goto (pc := 11) a 15 dX9_in_11 (by decide) ?_
      simp only [if_neg hd3, if_neg hd5] at hK
      exact hK

def wp_X9_type (x1 : Int) (h : aH) (Q : Int → aH → Prop) : Prop :=
  ∀ h1, h1 = up h 59 0 0 → wp_X9_in x1 0 255 h1 (fun r2 => ((r2 = 0 → Q (-1) h1) ∧ (¬ r2 = 0 → inR (h1 59 3) ∧ (((h1 59 3) = 150 → Q (-3) h1) ∧ (¬ (h1 59 3) = 150 → (0 ≤ (h1 59 3) ∧ (h1 59 3) < 150) ∧ ∀ h6, h6 = up h1 60 (h1 59 3) x1 → ∀ h7, h7 = up h6 59 3 ((h6 59 3) + 1) → Q (h7 59 3) h7)))))
set_option maxRecDepth 100000 in
set_option maxHeartbeats 4000000 in
theorem M_X9_type {Γ : Gm} {l : Launch} {n : Nat} {g : aG} (hn : 80 ≤ n) (tg : TM g) (x1 : Int)  {h : aH} {Q : Int → aH → Prop} (hw : wp_X9_type x1 h Q) : Cl Γ l mX9_type [vR 59, vI x1] n g h (RI g Q) := by
  refine Cl.of (by decide) [some (vR 59), some (vI x1)] rfl (Nat.le_of_ble_eq_true rfl) ?_
  intro p e s m args below meth c a
  unfold wp_X9_type at hw
  refine ok_aload_n (pc := 0) a dX9_type_0 rfl rfl ?_
  refine ok_iconst (pc := 1) a dX9_type_1 ?_
  refine ok_pI (pc := 2) 0 a dX9_type_2 lfRX9_77 fi_9_0 (Nat.lt_of_lt_of_le (by decide) hn) kq59 ty_9_0 rfl (fun h1 eh1 => ?_)
  have hw := hw h1 eh1
  refine ok_iload_n (pc := 5) a dX9_type_5 rfl rfl ?_
  refine ok_iconst (pc := 6) a dX9_type_6 ?_
  refine ok_sipush (pc := 7) a dX9_type_7 (by decide) ?_
  refine ok_SPZ (pc := 10) a [(vI x1), (vI 0), (vI 255)] [] (M_X9_in hn tg x1 0 255  hw) dX9_type_10 lkRX9_81 rfl ⟨Nat.le_of_ble_eq_true rfl, Nat.le_of_ble_eq_true rfl⟩ rfl (Nat.le_of_ble_eq_true rfl) rfl (fun r2 hz3 hw => ?_)
  refine ok_if_ne (pc := 13) a 18 dX9_type_13 (by decide) (inR_b hz3) (fun hd9 => ?_) (fun hd9 => ?_)
  · have hw := hw.2 hd9
    refine ok_aload_n (pc := 18) a dX9_type_18 rfl rfl ?_
    refine ok_fI (pc := 19) 3 a dX9_type_19 lfRX9_85 (Nat.lt_of_lt_of_le (by decide) hn) kq59 ty_9_3 rfl ?_
    refine ok_sipush (pc := 22) a dX9_type_22 (by decide) ?_
    obtain ⟨hc4, hw⟩ := hw
    refine ok_icmp_ne (pc := 25) a 31 dX9_type_25 (by decide) hc4 ⟨by decide, by decide⟩ (fun hd8 => ?_) (fun hd8 => ?_)
    · have hw := hw.2 hd8
      refine ok_aload_n (pc := 31) a dX9_type_31 rfl rfl ?_
      refine ok_getR (pc := 32) a dX9_type_32 lfRX9_7 (Nat.lt_of_lt_of_le (by decide) hn) kq59 rfl (tg.at 59 2 60 (by decide) (by decide)) ?_
      refine ok_aload_n (pc := 35) a dX9_type_35 rfl rfl ?_
      refine ok_fI (pc := 36) 3 a dX9_type_36 lfRX9_85 (Nat.lt_of_lt_of_le (by decide) hn) kq59 ty_9_3 rfl ?_
      refine ok_iload_n (pc := 39) a dX9_type_39 rfl rfl ?_
      obtain ⟨hc5, hw⟩ := hw
      refine ok_iast (pc := 40) a dX9_type_40 (Nat.lt_of_lt_of_le (by decide) hn) kq60 (by decide) hc5 (ok_nmH (fun h6 eh6 => ?_))
      have hw := hw h6 eh6
      refine ok_aload_n (pc := 41) a dX9_type_41 rfl rfl ?_
      refine ok_dup (pc := 42) a dX9_type_42 (by rfl) ?_
      refine ok_fI (pc := 43) 3 a dX9_type_43 lfRX9_85 (Nat.lt_of_lt_of_le (by decide) hn) kq59 ty_9_3 rfl ?_
      refine ok_iconst (pc := 46) a dX9_type_46 ?_
      refine ok_iadd (pc := 47) a dX9_type_47 ?_
      refine ok_pI (pc := 48) 3 a dX9_type_48 lfRX9_85 fi_9_3 (Nat.lt_of_lt_of_le (by decide) hn) kq59 ty_9_3 rfl (fun h7 eh7 => ?_)
      have hw := hw h7 eh7
      refine ok_aload_n (pc := 51) a dX9_type_51 rfl rfl ?_
      refine ok_fI (pc := 52) 3 a dX9_type_52 lfRX9_85 (Nat.lt_of_lt_of_le (by decide) hn) kq59 ty_9_3 rfl ?_
      exact ok_iret (pc := 55) a dX9_type_55 ⟨_, rfl, rfl, hw⟩
    · have hw := hw.1 hd8
      refine ok_bipush (pc := 28) a dX9_type_28 (by decide) ?_
      exact ok_iret (pc := 30) a dX9_type_30 ⟨_, rfl, rfl, hw⟩
  · have hw := hw.1 hd9
    refine ok_iconst (pc := 16) a dX9_type_16 ?_
    exact ok_iret (pc := 17) a dX9_type_17 ⟨_, rfl, rfl, hw⟩

def wp_X9_clear  (h : aH) (Q : Int → aH → Prop) : Prop :=
  ∀ h1, h1 = up h 59 0 0 → ∀ x1_9, x1_9 = (h1 59 3) → ∀ h2, h2 = up h1 59 3 0 → Q x1_9 h2
set_option maxRecDepth 100000 in
set_option maxHeartbeats 4000000 in
theorem M_X9_clear {Γ : Gm} {l : Launch} {n : Nat} {g : aG} (hn : 80 ≤ n) (tg : TM g)   {h : aH} {Q : Int → aH → Prop} (hw : wp_X9_clear  h Q) : Cl Γ l mX9_clear [vR 59] n g h (RI g Q) := by
  refine Cl.of (by decide) [some (vR 59), none] rfl (Nat.le_of_ble_eq_true rfl) ?_
  intro p e s m args below meth c a
  unfold wp_X9_clear at hw
  refine ok_aload_n (pc := 0) a dX9_clear_0 rfl rfl ?_
  refine ok_iconst (pc := 1) a dX9_clear_1 ?_
  refine ok_pI (pc := 2) 0 a dX9_clear_2 lfRX9_77 fi_9_0 (Nat.lt_of_lt_of_le (by decide) hn) kq59 ty_9_0 rfl (fun h1 eh1 => ?_)
  have hw := hw h1 eh1
  refine ok_aload_n (pc := 5) a dX9_clear_5 rfl rfl ?_
  refine ok_fI (pc := 6) 3 a dX9_clear_6 lfRX9_85 (Nat.lt_of_lt_of_le (by decide) hn) kq59 ty_9_3 rfl ?_
  refine ok_nmI (fun x1_9 ex1_9 => ?_)
  have hw := hw x1_9 ex1_9
  refine ok_sI_n (pc := 9) a [some (vR 59), some (vI x1_9)] dX9_clear_9 rfl (by decide) rfl rfl ?_
  refine ok_aload_n (pc := 10) a dX9_clear_10 rfl rfl ?_
  refine ok_iconst (pc := 11) a dX9_clear_11 ?_
  refine ok_pI (pc := 12) 3 a dX9_clear_12 lfRX9_85 fi_9_3 (Nat.lt_of_lt_of_le (by decide) hn) kq59 ty_9_3 rfl (fun h2 eh2 => ?_)
  have hw := hw h2 eh2
  refine ok_iload_n (pc := 15) a dX9_clear_15 rfl rfl ?_
  exact ok_iret (pc := 16) a dX9_clear_16 ⟨_, rfl, rfl, hw⟩

def wp_X9_letterAt (x1 : Int) (h : aH) (Q : Int → Prop) : Prop :=
  (inR x1 ∧ inR (h 59 3) ∧ (((h 59 3) ≤ x1 → True) ∧ (¬ (h 59 3) ≤ x1 → (0 ≤ x1 ∧ x1 < 150) ∧ True))) ∧ Q (if (h 59 3) ≤ x1 then (-1) else (h 60 x1) : Int)
set_option maxRecDepth 100000 in
set_option maxHeartbeats 4000000 in
theorem M_X9_letterAt {Γ : Gm} {l : Launch} {n : Nat} {g : aG} (hn : 80 ≤ n) (tg : TM g) (x1 : Int)  {h : aH} {Q : Int → Prop} (hw : wp_X9_letterAt x1 h Q) : Cl Γ l mX9_letterAt [vR 59, vI x1] n g h (PI g h Q) := by
  refine Cl.of (by decide) [some (vR 59), some (vI x1)] rfl (Nat.le_of_ble_eq_true rfl) ?_
  intro p e s m args below meth c a
  unfold wp_X9_letterAt at hw
  refine ok_iload_n (pc := 0) a dX9_letterAt_0 rfl rfl ?_
  refine ok_aload_n (pc := 1) a dX9_letterAt_1 rfl rfl ?_
  refine ok_fI (pc := 2) 3 a dX9_letterAt_2 lfRX9_85 (Nat.lt_of_lt_of_le (by decide) hn) kq59 ty_9_3 rfl ?_
  obtain ⟨hR, hw⟩ := hw
  have hK : OK Γ p l e (rmd 0 n n) s m args below meth c n (MQ below (QQ Γ n (PI g h Q)) args s (n - n) (sl n - sl n) (AA Γ)) 18 [some (vR 59), some (vI x1)] [(vI (if (h 59 3) ≤ x1 then (-1) else (h 60 x1) : Int))] n g h := by
    exact ok_iret (pc := 18) a dX9_letterAt_18 ⟨_, rfl, rfl, rfl, hw⟩
  have hw := hR
  obtain ⟨hc1, hw⟩ := hw
  obtain ⟨hc2, hw⟩ := hw
  refine ok_icmp_ge (pc := 5) a 17 dX9_letterAt_5 (by decide) hc1 hc2 (fun hd3 => ?_) (fun hd3 => ?_)
  · refine ok_iconst (pc := 17) a dX9_letterAt_17 ?_
    simp only [if_pos hd3] at hK
    exact hK
  · have hw := hw.2 hd3
    refine ok_aload_n (pc := 8) a dX9_letterAt_8 rfl rfl ?_
    refine ok_getR (pc := 9) a dX9_letterAt_9 lfRX9_7 (Nat.lt_of_lt_of_le (by decide) hn) kq59 rfl (tg.at 59 2 60 (by decide) (by decide)) ?_
    refine ok_iload_n (pc := 12) a dX9_letterAt_12 rfl rfl ?_
    obtain ⟨hc4, hw⟩ := hw
    refine ok_iald (pc := 13) a dX9_letterAt_13 (Nat.lt_of_lt_of_le (by decide) hn) kq60 (by decide) hc4 ?_
    refine ok_goto (pc := 14) a 18 dX9_letterAt_14 (by decide) ?_
    simp only [if_neg hd3] at hK
    exact hK

def wp_X9_advances_J125 (X71 : aH → Prop) (h_71 : aH) (s1_125 : Int) : Prop :=
  ∀ h28, h28 = up h_71 59 7 s1_125 → ∀ h29, h29 = up h28 59 4 ((h28 59 4) + 1) → X71 h29
def wp_X9_advances_B71 (Q : aH → Prop) (r5 : Int) (X71 : aH → Prop) (h_71 : aH) : Prop :=
  wp_X9_letterAt (h_71 59 4) h_71 (fun r18 => wp_X9_in r18 48 57 h_71 (fun r19 => ((r19 = 0 → (inR (h_71 59 7) ∧ ((99 < (h_71 59 7) → True) ∧ (¬ 99 < (h_71 59 7) → ((r5 = 48 → inR ((h_71 59 4) - (h_71 59 6)) ∧ True) ∧ (¬ r5 = 48 → True))))) ∧ ∀ h26, h26 = up h_71 59 5 (if 99 < (h_71 59 7) then 4 else (if r5 = 48 then (if ((h_71 59 4) - (h_71 59 6)) ≤ 1 then 2 else 4 : Int) else 2 : Int) : Int) → Q h26) ∧ (¬ r19 = 0 → inR (h_71 59 7) ∧ (((h_71 59 7) ≤ 99 → wp_X9_letterAt (h_71 59 4) h_71 (fun r30 => wp_X9_advances_J125 X71 h_71 (((10 * (h_71 59 7)) + r30) - 48))) ∧ (¬ (h_71 59 7) ≤ 99 → wp_X9_advances_J125 X71 h_71 (h_71 59 7)))))))
def wp_X9_advances_B0 (Q : aH → Prop) (X0 : aH → Prop) (h_0 : aH) : Prop :=
  wp_X9_letterAt (h_0 59 4) h_0 (fun r1 => inR r1 ∧ ((r1 = 32 → ∀ h3, h3 = up h_0 59 4 ((h_0 59 4) + 1) → X0 h3) ∧ (¬ r1 = 32 → ∀ h4, h4 = up h_0 59 6 (h_0 59 4) → wp_X9_letterAt (h4 59 4) h4 (fun r5 => inR r5 ∧ ((0 ≤ r5 → wp_X9_in r5 48 57 h4 (fun r7 => ((r7 = 0 → ∀ h9, h9 = up h4 59 4 ((h4 59 4) + 1) → ∀ h10, h10 = up h9 59 7 r5 → ∀ h16, h16 = up h10 59 5 (if r5 = 59 then 3 else (if r5 = 115 then 1 else (if r5 = 112 then 1 else (if r5 = 103 then 1 else (if r5 = 98 then 1 else 4 : Int) : Int) : Int) : Int) : Int) → Q h16) ∧ (¬ r7 = 0 → ∀ h17, h17 = up h4 59 7 0 → lp (fun X y => wp_X9_advances_B71 Q r5 X y) h17)))) ∧ (¬ 0 ≤ r5 → ∀ h34, h34 = up h4 59 5 0 → Q h34))))))
def wp_X9_advances  (h : aH) (Q : aH → Prop) : Prop :=
  lp (fun X y => wp_X9_advances_B0 Q X y) h
set_option maxRecDepth 100000 in
set_option maxHeartbeats 4000000 in
theorem M_X9_advances {Γ : Gm} {l : Launch} {n : Nat} {g : aG} (hn : 80 ≤ n) (tg : TM g)   {h : aH} {Q : aH → Prop} (hw : wp_X9_advances  h Q) : Cl Γ l mX9_advances [vR 59] n g h (RV g Q) := by
  refine Cl.of (by decide) [some (vR 59), none] rfl (Nat.le_of_ble_eq_true rfl) ?_
  intro p e s m args below meth c a
  unfold wp_X9_advances at hw
  refine lp.use (P := fun y => OK Γ p l e (rmd 1 n n) s m args below meth c n (MQ below (QQ Γ n (RV g Q)) args s (n - n) (sl n - sl n) (AA Γ)) 0 [some (vR 59), none] [] n g y) ?_ h hw
  clear hw
  intro X0 hX0 y hw
  generalize y = h_0 at hw ⊢
  have hw : wp_X9_advances_B0 Q X0 h_0 := hw
  unfold wp_X9_advances_B0 at hw
  try dsimp only
  refine ok_aload_n (pc := 0) a dX9_advances_0 rfl rfl ?_
  refine ok_aload_n (pc := 1) a dX9_advances_1 rfl rfl ?_
  refine ok_fI (pc := 2) 4 a dX9_advances_2 lfRX9_88 (Nat.lt_of_lt_of_le (by decide) hn) kq59 ty_9_4 rfl ?_
  refine ok_VPI (pc := 5) a [(vI (h_0 59 4))] [] (M_X9_letterAt hn tg (h_0 59 4)  hw) dX9_advances_5 lkRX9_91 rfl (Nat.lt_of_lt_of_le (by decide) hn) kq59 (by decide) rfl ⟨Nat.le_of_ble_eq_true rfl, Nat.le_of_ble_eq_true rfl⟩ rfl (Nat.le_of_ble_eq_true rfl) rfl (fun r1 hw => ?_)
  refine ok_bipush (pc := 8) a dX9_advances_8 (by decide) ?_
  obtain ⟨hc2, hw⟩ := hw
  refine ok_icmp_ne (pc := 10) a 26 dX9_advances_10 (by decide) hc2 ⟨by decide, by decide⟩ (fun hd36 => ?_) (fun hd36 => ?_)
  · have hw := hw.2 hd36
    refine ok_aload_n (pc := 26) a dX9_advances_26 rfl rfl ?_
    refine ok_aload_n (pc := 27) a dX9_advances_27 rfl rfl ?_
    refine ok_fI (pc := 28) 4 a dX9_advances_28 lfRX9_88 (Nat.lt_of_lt_of_le (by decide) hn) kq59 ty_9_4 rfl ?_
    refine ok_pI (pc := 31) 6 a dX9_advances_31 lfRX9_95 fi_9_6 (Nat.lt_of_lt_of_le (by decide) hn) kq59 ty_9_6 rfl (fun h4 eh4 => ?_)
    have hw := hw h4 eh4
    refine ok_aload_n (pc := 34) a dX9_advances_34 rfl rfl ?_
    refine ok_aload_n (pc := 35) a dX9_advances_35 rfl rfl ?_
    refine ok_fI (pc := 36) 4 a dX9_advances_36 lfRX9_88 (Nat.lt_of_lt_of_le (by decide) hn) kq59 ty_9_4 rfl ?_
    refine ok_VPI (pc := 39) a [(vI (h4 59 4))] [] (M_X9_letterAt hn tg (h4 59 4)  hw) dX9_advances_39 lkRX9_91 rfl (Nat.lt_of_lt_of_le (by decide) hn) kq59 (by decide) rfl ⟨Nat.le_of_ble_eq_true rfl, Nat.le_of_ble_eq_true rfl⟩ rfl (Nat.le_of_ble_eq_true rfl) rfl (fun r5 hw => ?_)
    refine ok_sI_n (pc := 42) a [some (vR 59), some (vI r5)] dX9_advances_42 rfl (by decide) rfl rfl ?_
    refine ok_iload_n (pc := 43) a dX9_advances_43 rfl rfl ?_
    obtain ⟨hc6, hw⟩ := hw
    refine ok_if_ge (pc := 44) a 55 dX9_advances_44 (by decide) hc6 (fun hd35 => ?_) (fun hd35 => ?_)
    · have hw := hw.1 hd35
      refine ok_iload_n (pc := 55) a dX9_advances_55 rfl rfl ?_
      refine ok_bipush (pc := 56) a dX9_advances_56 (by decide) ?_
      refine ok_bipush (pc := 58) a dX9_advances_58 (by decide) ?_
      refine ok_SPZ (pc := 60) a [(vI r5), (vI 48), (vI 57)] [] (M_X9_in hn tg r5 48 57  hw) dX9_advances_60 lkRX9_81 rfl ⟨Nat.le_of_ble_eq_true rfl, Nat.le_of_ble_eq_true rfl⟩ rfl (Nat.le_of_ble_eq_true rfl) rfl (fun r7 hz8 hw => ?_)
      refine ok_if_eq (pc := 63) a 181 dX9_advances_63 (by decide) (inR_b hz8) (fun hd33 => ?_) (fun hd33 => ?_)
      · have hw := hw.1 hd33
        refine ok_aload_n (pc := 181) a dX9_advances_181 rfl rfl ?_
        refine ok_dup (pc := 182) a dX9_advances_182 (by rfl) ?_
        refine ok_fI (pc := 183) 4 a dX9_advances_183 lfRX9_88 (Nat.lt_of_lt_of_le (by decide) hn) kq59 ty_9_4 rfl ?_
        refine ok_iconst (pc := 186) a dX9_advances_186 ?_
        refine ok_iadd (pc := 187) a dX9_advances_187 ?_
        refine ok_pI (pc := 188) 4 a dX9_advances_188 lfRX9_88 fi_9_4 (Nat.lt_of_lt_of_le (by decide) hn) kq59 ty_9_4 rfl (fun h9 eh9 => ?_)
        have hw := hw h9 eh9
        refine ok_aload_n (pc := 191) a dX9_advances_191 rfl rfl ?_
        refine ok_iload_n (pc := 192) a dX9_advances_192 rfl rfl ?_
        refine ok_pI (pc := 193) 7 a dX9_advances_193 lfRX9_101 fi_9_7 (Nat.lt_of_lt_of_le (by decide) hn) kq59 ty_9_7 rfl (fun h10 eh10 => ?_)
        have hw := hw h10 eh10
        refine ok_aload_n (pc := 196) a dX9_advances_196 rfl rfl ?_
        refine ok_iload_n (pc := 197) a dX9_advances_197 rfl rfl ?_
        refine ok_bipush (pc := 198) a dX9_advances_198 (by decide) ?_
        have hK : OK Γ p l e (rmd 1 n n) s m args below meth c n (MQ below (QQ Γ n (RV g Q)) args s (n - n) (sl n - sl n) (AA Γ)) 236 [some (vR 59), some (vI r5)] [(vI (if r5 = 59 then 3 else (if r5 = 115 then 1 else (if r5 = 112 then 1 else (if r5 = 103 then 1 else (if r5 = 98 then 1 else 4 : Int) : Int) : Int) : Int) : Int)), (vR 59)] n g h10 := by
          refine ok_pI (pc := 236) 5 a dX9_advances_236 lfRX9_98 fi_9_5 (Nat.lt_of_lt_of_le (by decide) hn) kq59 ty_9_5 rfl (fun h16 eh16 => ?_)
          have hw := hw h16 eh16
          exact ok_vret (pc := 239) a dX9_advances_239 ⟨rfl, rfl, hw⟩
        refine ok_icmp_ne (pc := 200) a 207 dX9_advances_200 (by decide) hc6 ⟨by decide, by decide⟩ (fun hd11 => ?_) (fun hd11 => ?_)
        · refine ok_iload_n (pc := 207) a dX9_advances_207 rfl rfl ?_
          refine ok_bipush (pc := 208) a dX9_advances_208 (by decide) ?_
          refine ok_icmp_eq (pc := 210) a 231 dX9_advances_210 (by decide) hc6 ⟨by decide, by decide⟩ (fun hd12 => ?_) (fun hd12 => ?_)
          · refine ok_iconst (pc := 231) a dX9_advances_231 ?_
            refine ok_goto (pc := 232) a 236 dX9_advances_232 (by decide) ?_
            simp only [if_neg hd11, if_pos hd12] at hK
            exact hK
          · refine ok_iload_n (pc := 213) a dX9_advances_213 rfl rfl ?_
            refine ok_bipush (pc := 214) a dX9_advances_214 (by decide) ?_
            refine ok_icmp_eq (pc := 216) a 231 dX9_advances_216 (by decide) hc6 ⟨by decide, by decide⟩ (fun hd13 => ?_) (fun hd13 => ?_)
            · refine ok_iconst (pc := 231) a dX9_advances_231 ?_
              refine ok_goto (pc := 232) a 236 dX9_advances_232 (by decide) ?_
              simp only [if_neg hd11, if_neg hd12, if_pos hd13] at hK
              exact hK
            · refine ok_iload_n (pc := 219) a dX9_advances_219 rfl rfl ?_
              refine ok_bipush (pc := 220) a dX9_advances_220 (by decide) ?_
              refine ok_icmp_eq (pc := 222) a 231 dX9_advances_222 (by decide) hc6 ⟨by decide, by decide⟩ (fun hd14 => ?_) (fun hd14 => ?_)
              · refine ok_iconst (pc := 231) a dX9_advances_231 ?_
                refine ok_goto (pc := 232) a 236 dX9_advances_232 (by decide) ?_
                simp only [if_neg hd11, if_neg hd12, if_neg hd13, if_pos hd14] at hK
                exact hK
              · refine ok_iload_n (pc := 225) a dX9_advances_225 rfl rfl ?_
                refine ok_bipush (pc := 226) a dX9_advances_226 (by decide) ?_
                refine ok_icmp_ne (pc := 228) a 235 dX9_advances_228 (by decide) hc6 ⟨by decide, by decide⟩ (fun hd15 => ?_) (fun hd15 => ?_)
                · refine ok_iconst (pc := 235) a dX9_advances_235 ?_
                  simp only [if_neg hd11, if_neg hd12, if_neg hd13, if_neg hd14, if_neg hd15] at hK
                  exact hK
                · refine ok_iconst (pc := 231) a dX9_advances_231 ?_
                  refine ok_goto (pc := 232) a 236 dX9_advances_232 (by decide) ?_
                  simp only [if_neg hd11, if_neg hd12, if_neg hd13, if_neg hd14, if_pos hd15] at hK
                  exact hK
        · refine ok_iconst (pc := 203) a dX9_advances_203 ?_
          refine ok_goto (pc := 204) a 236 dX9_advances_204 (by decide) ?_
          simp only [if_pos hd11] at hK
          exact hK
      · have hw := hw.2 hd33
        refine ok_aload_n (pc := 66) a dX9_advances_66 rfl rfl ?_
        refine ok_iconst (pc := 67) a dX9_advances_67 ?_
        refine ok_pI (pc := 68) 7 a dX9_advances_68 lfRX9_101 fi_9_7 (Nat.lt_of_lt_of_le (by decide) hn) kq59 ty_9_7 rfl (fun h17 eh17 => ?_)
        have hw := hw h17 eh17
        refine lp.use (P := fun y => OK Γ p l e (rmd 1 n n) s m args below meth c n (MQ below (QQ Γ n (RV g Q)) args s (n - n) (sl n - sl n) (AA Γ)) 71 [some (vR 59), some (vI r5)] [] n g y) ?_ h17 hw
        clear hw
        intro X71 hX71 y hw
        generalize y = h_71 at hw ⊢
        have hw : wp_X9_advances_B71 Q r5 X71 h_71 := hw
        unfold wp_X9_advances_B71 at hw
        try dsimp only
        refine ok_aload_n (pc := 71) a dX9_advances_71 rfl rfl ?_
        refine ok_aload_n (pc := 72) a dX9_advances_72 rfl rfl ?_
        refine ok_fI (pc := 73) 4 a dX9_advances_73 lfRX9_88 (Nat.lt_of_lt_of_le (by decide) hn) kq59 ty_9_4 rfl ?_
        refine ok_VPI (pc := 76) a [(vI (h_71 59 4))] [] (M_X9_letterAt hn tg (h_71 59 4)  hw) dX9_advances_76 lkRX9_91 rfl (Nat.lt_of_lt_of_le (by decide) hn) kq59 (by decide) rfl ⟨Nat.le_of_ble_eq_true rfl, Nat.le_of_ble_eq_true rfl⟩ rfl (Nat.le_of_ble_eq_true rfl) rfl (fun r18 hw => ?_)
        refine ok_bipush (pc := 79) a dX9_advances_79 (by decide) ?_
        refine ok_bipush (pc := 81) a dX9_advances_81 (by decide) ?_
        refine ok_SPZ (pc := 83) a [(vI r18), (vI 48), (vI 57)] [] (M_X9_in hn tg r18 48 57  hw) dX9_advances_83 lkRX9_81 rfl ⟨Nat.le_of_ble_eq_true rfl, Nat.le_of_ble_eq_true rfl⟩ rfl (Nat.le_of_ble_eq_true rfl) rfl (fun r19 hz20 hw => ?_)
        refine ok_if_eq (pc := 86) a 141 dX9_advances_86 (by decide) (inR_b hz20) (fun hd32 => ?_) (fun hd32 => ?_)
        · have hw := hw.1 hd32
          refine ok_aload_n (pc := 141) a dX9_advances_141 rfl rfl ?_
          refine ok_aload_n (pc := 142) a dX9_advances_142 rfl rfl ?_
          refine ok_fI (pc := 143) 7 a dX9_advances_143 lfRX9_101 (Nat.lt_of_lt_of_le (by decide) hn) kq59 ty_9_7 rfl ?_
          refine ok_bipush (pc := 146) a dX9_advances_146 (by decide) ?_
          obtain ⟨hR, hw⟩ := hw
          have hK : OK Γ p l e (rmd 1 n n) s m args below meth c n (MQ below (QQ Γ n (RV g Q)) args s (n - n) (sl n - sl n) (AA Γ)) 175 [some (vR 59), some (vI r5)] [(vI (if 99 < (h_71 59 7) then 4 else (if r5 = 48 then (if ((h_71 59 4) - (h_71 59 6)) ≤ 1 then 2 else 4 : Int) else 2 : Int) : Int)), (vR 59)] n g h_71 := by
            refine ok_pI (pc := 175) 5 a dX9_advances_175 lfRX9_98 fi_9_5 (Nat.lt_of_lt_of_le (by decide) hn) kq59 ty_9_5 rfl (fun h26 eh26 => ?_)
            have hw := hw h26 eh26
            refine ok_goto (pc := 178) a 239 dX9_advances_178 (by decide) ?_
            exact ok_vret (pc := 239) a dX9_advances_239 ⟨rfl, rfl, hw⟩
          have hw := hR
          obtain ⟨hc21, hw⟩ := hw
          refine ok_icmp_gt (pc := 148) a 170 dX9_advances_148 (by decide) hc21 ⟨by decide, by decide⟩ (fun hd22 => ?_) (fun hd22 => ?_)
          · refine ok_iconst (pc := 170) a dX9_advances_170 ?_
            refine ok_goto (pc := 171) a 175 dX9_advances_171 (by decide) ?_
            simp only [if_pos hd22] at hK
            exact hK
          · have hw := hw.2 hd22
            refine ok_iload_n (pc := 151) a dX9_advances_151 rfl rfl ?_
            refine ok_bipush (pc := 152) a dX9_advances_152 (by decide) ?_
            refine ok_icmp_ne (pc := 154) a 174 dX9_advances_154 (by decide) hc6 ⟨by decide, by decide⟩ (fun hd23 => ?_) (fun hd23 => ?_)
            · refine ok_iconst (pc := 174) a dX9_advances_174 ?_
              simp only [if_neg hd22, if_neg hd23] at hK
              exact hK
            · have hw := hw.1 hd23
              refine ok_aload_n (pc := 157) a dX9_advances_157 rfl rfl ?_
              refine ok_fI (pc := 158) 4 a dX9_advances_158 lfRX9_88 (Nat.lt_of_lt_of_le (by decide) hn) kq59 ty_9_4 rfl ?_
              refine ok_aload_n (pc := 161) a dX9_advances_161 rfl rfl ?_
              refine ok_fI (pc := 162) 6 a dX9_advances_162 lfRX9_95 (Nat.lt_of_lt_of_le (by decide) hn) kq59 ty_9_6 rfl ?_
              refine ok_isub (pc := 165) a dX9_advances_165 ?_
              refine ok_iconst (pc := 166) a dX9_advances_166 ?_
              obtain ⟨hc24, hw⟩ := hw
              refine ok_icmp_le (pc := 167) a 174 dX9_advances_167 (by decide) hc24 ⟨by decide, by decide⟩ (fun hd25 => ?_) (fun hd25 => ?_)
              · refine ok_iconst (pc := 174) a dX9_advances_174 ?_
                simp only [if_neg hd22, if_pos hd23, if_pos hd25] at hK
                exact hK
              · refine ok_iconst (pc := 170) a dX9_advances_170 ?_
                refine ok_goto (pc := 171) a 175 dX9_advances_171 (by decide) ?_
                simp only [if_neg hd22, if_pos hd23, if_neg hd25] at hK
                exact hK
        · have hw := hw.2 hd32
          refine ok_aload_n (pc := 89) a dX9_advances_89 rfl rfl ?_
          refine ok_aload_n (pc := 90) a dX9_advances_90 rfl rfl ?_
          refine ok_fI (pc := 91) 7 a dX9_advances_91 lfRX9_101 (Nat.lt_of_lt_of_le (by decide) hn) kq59 ty_9_7 rfl ?_
          refine ok_bipush (pc := 94) a dX9_advances_94 (by decide) ?_
          obtain ⟨hc27, hw⟩ := hw
          have hJ125 : ∀ (s1_125 : Int), wp_X9_advances_J125 X71 h_71 s1_125 → OK Γ p l e (rmd 1 n n) s m args below meth c n (MQ below (QQ Γ n (RV g Q)) args s (n - n) (sl n - sl n) (AA Γ)) 125 [some (vR 59), some (vI r5)] [(vI s1_125), (vR 59)] n g h_71 := by
            intro s1_125 hw
            unfold wp_X9_advances_J125 at hw
            refine ok_pI (pc := 125) 7 a dX9_advances_125 lfRX9_101 fi_9_7 (Nat.lt_of_lt_of_le (by decide) hn) kq59 ty_9_7 rfl (fun h28 eh28 => ?_)
            have hw := hw h28 eh28
            refine ok_aload_n (pc := 128) a dX9_advances_128 rfl rfl ?_
            refine ok_dup (pc := 129) a dX9_advances_129 (by rfl) ?_
            refine ok_fI (pc := 130) 4 a dX9_advances_130 lfRX9_88 (Nat.lt_of_lt_of_le (by decide) hn) kq59 ty_9_4 rfl ?_
            refine ok_iconst (pc := 133) a dX9_advances_133 ?_
            refine ok_iadd (pc := 134) a dX9_advances_134 ?_
            refine ok_pI (pc := 135) 4 a dX9_advances_135 lfRX9_88 fi_9_4 (Nat.lt_of_lt_of_le (by decide) hn) kq59 ty_9_4 rfl (fun h29 eh29 => ?_)
            have hw := hw h29 eh29
            refine ok_goto (pc := 138) a 71 dX9_advances_138 (by decide) ?_
            exact hX71 h29 hw
          refine ok_icmp_le (pc := 96) a 106 dX9_advances_96 (by decide) hc27 ⟨by decide, by decide⟩ (fun hd31 => ?_) (fun hd31 => ?_)
          · have hw := hw.1 hd31
            refine ok_bipush (pc := 106) a dX9_advances_106 (by decide) ?_
            refine ok_aload_n (pc := 108) a dX9_advances_108 rfl rfl ?_
            refine ok_fI (pc := 109) 7 a dX9_advances_109 lfRX9_101 (Nat.lt_of_lt_of_le (by decide) hn) kq59 ty_9_7 rfl ?_
            refine ok_imul (pc := 112) a dX9_advances_112 ?_
            refine ok_aload_n (pc := 113) a dX9_advances_113 rfl rfl ?_
            refine ok_aload_n (pc := 114) a dX9_advances_114 rfl rfl ?_
            refine ok_fI (pc := 115) 4 a dX9_advances_115 lfRX9_88 (Nat.lt_of_lt_of_le (by decide) hn) kq59 ty_9_4 rfl ?_
            refine ok_VPI (pc := 118) a [(vI (h_71 59 4))] [(vI (10 * (h_71 59 7))), (vR 59)] (M_X9_letterAt hn tg (h_71 59 4)  hw) dX9_advances_118 lkRX9_91 rfl (Nat.lt_of_lt_of_le (by decide) hn) kq59 (by decide) rfl ⟨Nat.le_of_ble_eq_true rfl, Nat.le_of_ble_eq_true rfl⟩ rfl (Nat.le_of_ble_eq_true rfl) rfl (fun r30 hw => ?_)
            refine ok_iadd (pc := 121) a dX9_advances_121 ?_
            refine ok_bipush (pc := 122) a dX9_advances_122 (by decide) ?_
            refine ok_isub (pc := 124) a dX9_advances_124 ?_
            exact hJ125 (((10 * (h_71 59 7)) + r30) - 48) hw
          · have hw := hw.2 hd31
            refine ok_aload_n (pc := 99) a dX9_advances_99 rfl rfl ?_
            refine ok_fI (pc := 100) 7 a dX9_advances_100 lfRX9_101 (Nat.lt_of_lt_of_le (by decide) hn) kq59 ty_9_7 rfl ?_
            refine ok_goto (pc := 103) a 125 dX9_advances_103 (by decide) ?_
            exact hJ125 (h_71 59 7) hw
    · have hw := hw.2 hd35
      refine ok_aload_n (pc := 47) a dX9_advances_47 rfl rfl ?_
      refine ok_iconst (pc := 48) a dX9_advances_48 ?_
      refine ok_pI (pc := 49) 5 a dX9_advances_49 lfRX9_98 fi_9_5 (Nat.lt_of_lt_of_le (by decide) hn) kq59 ty_9_5 rfl (fun h34 eh34 => ?_)
      have hw := hw h34 eh34
      refine ok_goto (pc := 52) a 239 dX9_advances_52 (by decide) ?_
      exact ok_vret (pc := 239) a dX9_advances_239 ⟨rfl, rfl, hw⟩
  · have hw := hw.1 hd36
    refine ok_aload_n (pc := 13) a dX9_advances_13 rfl rfl ?_
    refine ok_dup (pc := 14) a dX9_advances_14 (by rfl) ?_
    refine ok_fI (pc := 15) 4 a dX9_advances_15 lfRX9_88 (Nat.lt_of_lt_of_le (by decide) hn) kq59 ty_9_4 rfl ?_
    refine ok_iconst (pc := 18) a dX9_advances_18 ?_
    refine ok_iadd (pc := 19) a dX9_advances_19 ?_
    refine ok_pI (pc := 20) 4 a dX9_advances_20 lfRX9_88 fi_9_4 (Nat.lt_of_lt_of_le (by decide) hn) kq59 ty_9_4 rfl (fun h3 eh3 => ?_)
    have hw := hw h3 eh3
    refine ok_goto (pc := 23) a 0 dX9_advances_23 (by decide) ?_
    exact hX0 h3 hw

def wp_X9_isWell  (h : aH) (Q : Int → Prop) : Prop :=
  (inR (h 59 8) ∧ True) ∧ Q (if 0 ≤ (h 59 8) then 0 else 1 : Int)
set_option maxRecDepth 100000 in
set_option maxHeartbeats 4000000 in
theorem M_X9_isWell {Γ : Gm} {l : Launch} {n : Nat} {g : aG} (hn : 80 ≤ n) (tg : TM g)   {h : aH} {Q : Int → Prop} (hw : wp_X9_isWell  h Q) : Cl Γ l mX9_isWell [vR 59] n g h (PZ g h Q) := by
  refine Cl.of (by decide) [some (vR 59)] rfl (Nat.le_of_ble_eq_true rfl) ?_
  intro p e s m args below meth c a
  unfold wp_X9_isWell at hw
  refine ok_aload_n (pc := 0) a dX9_isWell_0 rfl rfl ?_
  refine ok_fI (pc := 1) 8 a dX9_isWell_1 lfRX9_104 (Nat.lt_of_lt_of_le (by decide) hn) kq59 ty_9_8 rfl ?_
  obtain ⟨hR, hw⟩ := hw
  have hK : OK Γ p l e (rmd 0 n n) s m args below meth c n (MQ below (QQ Γ n (PZ g h Q)) args s (n - n) (sl n - sl n) (AA Γ)) 12 [some (vR 59)] [(vI (if 0 ≤ (h 59 8) then 0 else 1 : Int))] n g h := by
    exact ok_zret (pc := 12) a dX9_isWell_12 (ite01 (Or.inl rfl) (Or.inr rfl)) ⟨_, rfl, rfl, rfl, (ite01 (Or.inl rfl) (Or.inr rfl)), hw⟩
  have hw := hR
  obtain ⟨hc1, hw⟩ := hw
  refine ok_if_ge (pc := 4) a 11 dX9_isWell_4 (by decide) hc1 (fun hd2 => ?_) (fun hd2 => ?_)
  · refine ok_iconst (pc := 11) a dX9_isWell_11 ?_
    simp only [if_pos hd2] at hK
    exact hK
  · refine ok_iconst (pc := 7) a dX9_isWell_7 ?_
    refine ok_goto (pc := 8) a 12 dX9_isWell_8 (by decide) ?_
    simp only [if_neg hd2] at hK
    exact hK

def wp_X9_takes (x1 : Int) (h : aH) (Q : Int → aH → Prop) : Prop :=
  wp_X9_isWell h (fun r1 => ((r1 = 0 → Q 0 h) ∧ (¬ r1 = 0 → inR x1 ∧ ((x1 = 0 → ∀ h4, h4 = up h 59 8 (h 59 6) → Q 0 h4) ∧ (¬ x1 = 0 → ∀ x2_27, x2_27 = (h 59 7) → wp_X9_advances h (fun h5 => Q x2_27 h5))))))
set_option maxRecDepth 100000 in
set_option maxHeartbeats 4000000 in
theorem M_X9_takes {Γ : Gm} {l : Launch} {n : Nat} {g : aG} (hn : 80 ≤ n) (tg : TM g) (x1 : Int)  {h : aH} {Q : Int → aH → Prop} (hw : wp_X9_takes x1 h Q) : Cl Γ l mX9_takes [vR 59, vI x1] n g h (RI g Q) := by
  refine Cl.of (by decide) [some (vR 59), some (vI x1), none] rfl (Nat.le_of_ble_eq_true rfl) ?_
  intro p e s m args below meth c a
  unfold wp_X9_takes at hw
  refine ok_aload_n (pc := 0) a dX9_takes_0 rfl rfl ?_
  refine ok_VPZ (pc := 1) a [] [] (M_X9_isWell hn tg   hw) dX9_takes_1 lkRX9_107 rfl (Nat.lt_of_lt_of_le (by decide) hn) kq59 (by decide) rfl ⟨Nat.le_of_ble_eq_true rfl, Nat.le_of_ble_eq_true rfl⟩ rfl (Nat.le_of_ble_eq_true rfl) rfl (fun r1 hz2 hw => ?_)
  refine ok_if_ne (pc := 4) a 9 dX9_takes_4 (by decide) (inR_b hz2) (fun hd7 => ?_) (fun hd7 => ?_)
  · have hw := hw.2 hd7
    refine ok_iload_n (pc := 9) a dX9_takes_9 rfl rfl ?_
    obtain ⟨hc3, hw⟩ := hw
    refine ok_if_ne (pc := 10) a 23 dX9_takes_10 (by decide) hc3 (fun hd6 => ?_) (fun hd6 => ?_)
    · have hw := hw.2 hd6
      refine ok_aload_n (pc := 23) a dX9_takes_23 rfl rfl ?_
      refine ok_fI (pc := 24) 7 a dX9_takes_24 lfRX9_101 (Nat.lt_of_lt_of_le (by decide) hn) kq59 ty_9_7 rfl ?_
      refine ok_nmI (fun x2_27 ex2_27 => ?_)
      have hw := hw x2_27 ex2_27
      refine ok_sI_n (pc := 27) a [some (vR 59), some (vI x1), some (vI x2_27)] dX9_takes_27 rfl (by decide) rfl rfl ?_
      refine ok_aload_n (pc := 28) a dX9_takes_28 rfl rfl ?_
      refine ok_VRV (pc := 29) a [] [] (M_X9_advances hn tg   hw) dX9_takes_29 lkRX9_111 rfl (Nat.lt_of_lt_of_le (by decide) hn) kq59 (by decide) rfl ⟨Nat.le_of_ble_eq_true rfl, Nat.le_of_ble_eq_true rfl⟩ rfl (Nat.le_of_ble_eq_true rfl) rfl (fun h5 hw => ?_)
      refine ok_iload_n (pc := 32) a dX9_takes_32 rfl rfl ?_
      exact ok_iret (pc := 33) a dX9_takes_33 ⟨_, rfl, rfl, hw⟩
    · have hw := hw.1 hd6
      refine ok_aload_n (pc := 13) a dX9_takes_13 rfl rfl ?_
      refine ok_aload_n (pc := 14) a dX9_takes_14 rfl rfl ?_
      refine ok_fI (pc := 15) 6 a dX9_takes_15 lfRX9_95 (Nat.lt_of_lt_of_le (by decide) hn) kq59 ty_9_6 rfl ?_
      refine ok_pI (pc := 18) 8 a dX9_takes_18 lfRX9_104 fi_9_8 (Nat.lt_of_lt_of_le (by decide) hn) kq59 ty_9_8 rfl (fun h4 eh4 => ?_)
      have hw := hw h4 eh4
      refine ok_iconst (pc := 21) a dX9_takes_21 ?_
      exact ok_iret (pc := 22) a dX9_takes_22 ⟨_, rfl, rfl, hw⟩
  · have hw := hw.1 hd7
    refine ok_iconst (pc := 7) a dX9_takes_7 ?_
    exact ok_iret (pc := 8) a dX9_takes_8 ⟨_, rfl, rfl, hw⟩

def wp_X9_number (x1 : Int) (x2 : Int) (h : aH) (Q : Int → aH → Prop) : Prop :=
  inR (h 59 5) ∧ (((h 59 5) = 2 → wp_X9_in (h 59 7) x1 x2 h (fun r2 => wp_X9_takes (if r2 = 0 then 0 else 1 : Int) h (fun r5 h6 => Q r5 h6))) ∧ (¬ (h 59 5) = 2 → wp_X9_takes 0 h (fun r7 h8 => Q r7 h8)))
set_option maxRecDepth 100000 in
set_option maxHeartbeats 4000000 in
theorem M_X9_number {Γ : Gm} {l : Launch} {n : Nat} {g : aG} (hn : 80 ≤ n) (tg : TM g) (x1 : Int) (x2 : Int)  {h : aH} {Q : Int → aH → Prop} (hw : wp_X9_number x1 x2 h Q) : Cl Γ l mX9_number [vR 59, vI x1, vI x2] n g h (RI g Q) := by
  refine Cl.of (by decide) [some (vR 59), some (vI x1), some (vI x2)] rfl (Nat.le_of_ble_eq_true rfl) ?_
  intro p e s m args below meth c a
  unfold wp_X9_number at hw
  refine ok_aload_n (pc := 0) a dX9_number_0 rfl rfl ?_
  refine ok_aload_n (pc := 1) a dX9_number_1 rfl rfl ?_
  refine ok_fI (pc := 2) 5 a dX9_number_2 lfRX9_98 (Nat.lt_of_lt_of_le (by decide) hn) kq59 ty_9_5 rfl ?_
  refine ok_iconst (pc := 5) a dX9_number_5 ?_
  obtain ⟨hc1, hw⟩ := hw
  refine ok_icmp_ne (pc := 6) a 25 dX9_number_6 (by decide) hc1 ⟨by decide, by decide⟩ (fun hd9 => ?_) (fun hd9 => ?_)
  · have hw := hw.2 hd9
    refine ok_iconst (pc := 25) a dX9_number_25 ?_
    refine ok_VRI (pc := 26) a [(vI 0)] [] (M_X9_takes hn tg 0  hw) dX9_number_26 lkRX9_114 rfl (Nat.lt_of_lt_of_le (by decide) hn) kq59 (by decide) rfl ⟨Nat.le_of_ble_eq_true rfl, Nat.le_of_ble_eq_true rfl⟩ rfl (Nat.le_of_ble_eq_true rfl) rfl (fun r7 h8 hw => ?_)
    exact ok_iret (pc := 29) a dX9_number_29 ⟨_, rfl, rfl, hw⟩
  · have hw := hw.1 hd9
    refine ok_aload_n (pc := 9) a dX9_number_9 rfl rfl ?_
    refine ok_fI (pc := 10) 7 a dX9_number_10 lfRX9_101 (Nat.lt_of_lt_of_le (by decide) hn) kq59 ty_9_7 rfl ?_
    refine ok_iload_n (pc := 13) a dX9_number_13 rfl rfl ?_
    refine ok_iload_n (pc := 14) a dX9_number_14 rfl rfl ?_
    refine ok_SPZ (pc := 15) a [(vI (h 59 7)), (vI x1), (vI x2)] [(vR 59)] (M_X9_in hn tg (h 59 7) x1 x2  hw) dX9_number_15 lkRX9_81 rfl ⟨Nat.le_of_ble_eq_true rfl, Nat.le_of_ble_eq_true rfl⟩ rfl (Nat.le_of_ble_eq_true rfl) rfl (fun r2 hz3 hw => ?_)
    have hK : OK Γ p l e (rmd 3 n n) s m args below meth c n (MQ below (QQ Γ n (RI g Q)) args s (n - n) (sl n - sl n) (AA Γ)) 26 [some (vR 59), some (vI x1), some (vI x2)] [(vI (if r2 = 0 then 0 else 1 : Int)), (vR 59)] n g h := by
      refine ok_VRI (pc := 26) a [(vI (if r2 = 0 then 0 else 1 : Int))] [] (M_X9_takes hn tg (if r2 = 0 then 0 else 1 : Int)  hw) dX9_number_26 lkRX9_114 rfl (Nat.lt_of_lt_of_le (by decide) hn) kq59 (by decide) rfl ⟨Nat.le_of_ble_eq_true rfl, Nat.le_of_ble_eq_true rfl⟩ rfl (Nat.le_of_ble_eq_true rfl) rfl (fun r5 h6 hw => ?_)
      exact ok_iret (pc := 29) a dX9_number_29 ⟨_, rfl, rfl, hw⟩
    refine ok_if_eq (pc := 18) a 25 dX9_number_18 (by decide) (inR_b hz3) (fun hd4 => ?_) (fun hd4 => ?_)
    · refine ok_iconst (pc := 25) a dX9_number_25 ?_
      simp only [if_pos hd4] at hK
      exact hK
    · refine ok_iconst (pc := 21) a dX9_number_21 ?_
      refine ok_goto (pc := 22) a 26 dX9_number_22 (by decide) ?_
      simp only [if_neg hd4] at hK
      exact hK

def wp_X9_begins_B45 (Q : aH → Prop) (X45 : Int × aH → Prop) (x1_45 : Int) (h_45 : aH) : Prop :=
  inR x1_45 ∧ ((32 ≤ x1_45 → Q h_45) ∧ (¬ 32 ≤ x1_45 → (0 ≤ x1_45 ∧ x1_45 < 32) ∧ ∀ h6, h6 = up h_45 64 x1_45 0 → X45 ((x1_45 + 1), h6)))
def wp_X9_begins_B16 (Q : aH → Prop) (X16 : Int × aH → Prop) (x1_16 : Int) (h_16 : aH) : Prop :=
  inR x1_16 ∧ ((4 ≤ x1_16 → lp (fun X y => wp_X9_begins_B45 Q X y.1 y.2) (16, h_16)) ∧ (¬ 4 ≤ x1_16 → (0 ≤ (4 + x1_16) ∧ (4 + x1_16) < 8) ∧ ∀ h9, h9 = up h_16 62 (4 + x1_16) ((x1_16 + 1) * (x1_16 + 1)) → X16 ((x1_16 + 1), h9)))
def wp_X9_begins  (h : aH) (Q : aH → Prop) : Prop :=
  ∀ h1, h1 = up h 61 2 0 → ∀ h2, h2 = up h1 61 3 0 → lp (fun X y => wp_X9_begins_B16 Q X y.1 y.2) (0, h2)
set_option maxRecDepth 100000 in
set_option maxHeartbeats 4000000 in
theorem M_X9_begins {Γ : Gm} {l : Launch} {n : Nat} {g : aG} (hn : 80 ≤ n) (tg : TM g)   {h : aH} {Q : aH → Prop} (hw : wp_X9_begins  h Q) : Cl Γ l mX9_begins [vR 59] n g h (RV g Q) := by
  refine Cl.of (by decide) [some (vR 59), none] rfl (Nat.le_of_ble_eq_true rfl) ?_
  intro p e s m args below meth c a
  unfold wp_X9_begins at hw
  refine ok_aload_n (pc := 0) a dX9_begins_0 rfl rfl ?_
  refine ok_getR (pc := 1) a dX9_begins_1 lfRX9_13 (Nat.lt_of_lt_of_le (by decide) hn) kq59 rfl (tg.at 59 9 61 (by decide) (by decide)) ?_
  refine ok_iconst (pc := 4) a dX9_begins_4 ?_
  refine ok_iconst (pc := 5) a dX9_begins_5 ?_
  refine ok_iast (pc := 6) a dX9_begins_6 (Nat.lt_of_lt_of_le (by decide) hn) kq61 (by decide) ⟨by decide, by decide⟩ (ok_nmH (fun h1 eh1 => ?_))
  have hw := hw h1 eh1
  refine ok_aload_n (pc := 7) a dX9_begins_7 rfl rfl ?_
  refine ok_getR (pc := 8) a dX9_begins_8 lfRX9_13 (Nat.lt_of_lt_of_le (by decide) hn) kq59 rfl (tg.at 59 9 61 (by decide) (by decide)) ?_
  refine ok_iconst (pc := 11) a dX9_begins_11 ?_
  refine ok_iconst (pc := 12) a dX9_begins_12 ?_
  refine ok_iast (pc := 13) a dX9_begins_13 (Nat.lt_of_lt_of_le (by decide) hn) kq61 (by decide) ⟨by decide, by decide⟩ (ok_nmH (fun h2 eh2 => ?_))
  have hw := hw h2 eh2
  refine ok_iconst (pc := 14) a dX9_begins_14 ?_
  refine ok_sI_n (pc := 15) a [some (vR 59), some (vI 0)] dX9_begins_15 rfl (by decide) rfl rfl ?_
  refine lp.use (P := fun y => OK Γ p l e (rmd 0 n n) s m args below meth c n (MQ below (QQ Γ n (RV g Q)) args s (n - n) (sl n - sl n) (AA Γ)) 16 [some (vR 59), some (vI y.1)] [] n g y.2) ?_ (0, h2) hw
  clear hw
  intro X16 hX16 y hw
  obtain ⟨x1_16, h_16⟩ := y
  have hw : wp_X9_begins_B16 Q X16 x1_16 h_16 := hw
  unfold wp_X9_begins_B16 at hw
  try dsimp only
  refine ok_iload_n (pc := 16) a dX9_begins_16 rfl rfl ?_
  refine ok_iconst (pc := 17) a dX9_begins_17 ?_
  obtain ⟨hc3, hw⟩ := hw
  refine ok_icmp_ge (pc := 18) a 42 dX9_begins_18 (by decide) hc3 ⟨by decide, by decide⟩ (fun hd10 => ?_) (fun hd10 => ?_)
  · have hw := hw.1 hd10
    refine ok_bipush (pc := 42) a dX9_begins_42 (by decide) ?_
    refine ok_sI_n (pc := 44) a [some (vR 59), some (vI 16)] dX9_begins_44 rfl (by decide) rfl rfl ?_
    refine lp.use (P := fun y => OK Γ p l e (rmd 0 n n) s m args below meth c n (MQ below (QQ Γ n (RV g Q)) args s (n - n) (sl n - sl n) (AA Γ)) 45 [some (vR 59), some (vI y.1)] [] n g y.2) ?_ (16, h_16) hw
    clear hw
    intro X45 hX45 y hw
    obtain ⟨x1_45, h_45⟩ := y
    have hw : wp_X9_begins_B45 Q X45 x1_45 h_45 := hw
    unfold wp_X9_begins_B45 at hw
    try dsimp only
    refine ok_iload_n (pc := 45) a dX9_begins_45 rfl rfl ?_
    refine ok_bipush (pc := 46) a dX9_begins_46 (by decide) ?_
    obtain ⟨hc4, hw⟩ := hw
    refine ok_icmp_ge (pc := 48) a 64 dX9_begins_48 (by decide) hc4 ⟨by decide, by decide⟩ (fun hd7 => ?_) (fun hd7 => ?_)
    · have hw := hw.1 hd7
      exact ok_vret (pc := 64) a dX9_begins_64 ⟨rfl, rfl, hw⟩
    · have hw := hw.2 hd7
      refine ok_aload_n (pc := 51) a dX9_begins_51 rfl rfl ?_
      refine ok_getR (pc := 52) a dX9_begins_52 lfRX9_22 (Nat.lt_of_lt_of_le (by decide) hn) kq59 rfl (tg.at 59 12 64 (by decide) (by decide)) ?_
      refine ok_iload_n (pc := 55) a dX9_begins_55 rfl rfl ?_
      refine ok_iconst (pc := 56) a dX9_begins_56 ?_
      obtain ⟨hc5, hw⟩ := hw
      refine ok_iast (pc := 57) a dX9_begins_57 (Nat.lt_of_lt_of_le (by decide) hn) kq64 (by decide) hc5 (ok_nmH (fun h6 eh6 => ?_))
      have hw := hw h6 eh6
      refine ok_inc (pc := 58) a [some (vR 59), some (vI (x1_45 + 1))] dX9_begins_58 rfl (by decide) rfl rfl ?_
      refine ok_goto (pc := 61) a 45 dX9_begins_61 (by decide) ?_
      exact hX45 ((x1_45 + 1), h6) hw
  · have hw := hw.2 hd10
    refine ok_aload_n (pc := 21) a dX9_begins_21 rfl rfl ?_
    refine ok_getR (pc := 22) a dX9_begins_22 lfRX9_16 (Nat.lt_of_lt_of_le (by decide) hn) kq59 rfl (tg.at 59 10 62 (by decide) (by decide)) ?_
    refine ok_iconst (pc := 25) a dX9_begins_25 ?_
    refine ok_iload_n (pc := 26) a dX9_begins_26 rfl rfl ?_
    refine ok_iadd (pc := 27) a dX9_begins_27 ?_
    refine ok_iload_n (pc := 28) a dX9_begins_28 rfl rfl ?_
    refine ok_iconst (pc := 29) a dX9_begins_29 ?_
    refine ok_iadd (pc := 30) a dX9_begins_30 ?_
    refine ok_iload_n (pc := 31) a dX9_begins_31 rfl rfl ?_
    refine ok_iconst (pc := 32) a dX9_begins_32 ?_
    refine ok_iadd (pc := 33) a dX9_begins_33 ?_
    refine ok_imul (pc := 34) a dX9_begins_34 ?_
    obtain ⟨hc8, hw⟩ := hw
    refine ok_iast (pc := 35) a dX9_begins_35 (Nat.lt_of_lt_of_le (by decide) hn) kq62 (by decide) hc8 (ok_nmH (fun h9 eh9 => ?_))
    have hw := hw h9 eh9
    refine ok_inc (pc := 36) a [some (vR 59), some (vI (x1_16 + 1))] dX9_begins_36 rfl (by decide) rfl rfl ?_
    refine ok_goto (pc := 39) a 16 dX9_begins_39 (by decide) ?_
    exact hX16 ((x1_16 + 1), h9) hw
