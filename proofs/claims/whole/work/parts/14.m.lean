def wp_X8_tells_J85 (x1 : Int) (Q : Int → aH → Prop) (h_85 : aH) : Prop :=
  wp_X8_heavinessOf x1 h_85 (fun r10 => Q r10 h_85)
def wp_X8_tells (x1 : Int) (x2 : Int) (x3 : Int) (h : aH) (Q : Int → aH → Prop) : Prop :=
  wp_X8_isPair x1 x2 h (fun r1 => ((r1 = 0 → Q (-1) h) ∧ (¬ r1 = 0 → wp_X8_isSort x3 h (fun r3 => ((r3 = 0 → Q (-1) h) ∧ (¬ r3 = 0 → ∀ x4_23, x4_23 = ((x1 * 4) + x3) → (0 ≤ x4_23 ∧ x4_23 < 16) ∧ inR (h 14 x4_23) ∧ (((h 14 x4_23) = 0 → Q (-2) h) ∧ (¬ (h 14 x4_23) = 0 → wp_X2_push h (fun h7 => ∀ h8, h8 = up h7 14 x4_23 ((h7 14 x4_23) - 1) → inR x3 ∧ ((x3 ≤ 0 → wp_X8_tells_J85 x1 Q h8) ∧ (¬ x3 ≤ 0 → wp_X4_add (((x2 * 4) + x3) - 1) 1 h8 (fun h11 => wp_X8_tells_J85 x1 Q h11))))))))))))
set_option maxRecDepth 100000 in
set_option maxHeartbeats 4000000 in
theorem M_X8_tells {Γ : Gm} {l : Launch} {n : Nat} {g : aG} (hn : 59 ≤ n) (tg : TC g) (x1 : Int) (x2 : Int) (x3 : Int)  {h : aH} {Q : Int → aH → Prop} (hw : wp_X8_tells x1 x2 x3 h Q) : Cl Γ l mX8_tells [vR 0, vI x1, vI x2, vI x3] n g h (RI g Q) := by
  refine Cl.of (by decide) [some (vR 0), some (vI x1), some (vI x2), some (vI x3), none] rfl (Nat.le_of_ble_eq_true rfl) ?_
  intro p e s m args below meth c a
  unfold wp_X8_tells at hw
  refine ok_aload_n (pc := 0) a dX8_tells_0 rfl rfl ?_
  refine ok_iload_n (pc := 1) a dX8_tells_1 rfl rfl ?_
  refine ok_iload_n (pc := 2) a dX8_tells_2 rfl rfl ?_
  refine ok_VPZ (pc := 3) a [(vI x1), (vI x2)] [] (M_X8_isPair hn tg x1 x2  hw) dX8_tells_3 lkRX8_136 rfl (Nat.lt_of_lt_of_le (by decide) hn) kq0 (by decide) rfl ⟨Nat.le_of_ble_eq_true rfl, Nat.le_of_ble_eq_true rfl⟩ rfl (Nat.le_of_ble_eq_true rfl) rfl (fun r1 hz2 hw => ?_)
  refine ok_if_eq (pc := 6) a 16 dX8_tells_6 (by decide) (inR_b hz2) (fun hd15 => ?_) (fun hd15 => ?_)
  · have hw := hw.1 hd15
    refine ok_iconst (pc := 16) a dX8_tells_16 ?_
    exact ok_iret (pc := 17) a dX8_tells_17 ⟨_, rfl, rfl, hw⟩
  · have hw := hw.2 hd15
    refine ok_iload_n (pc := 9) a dX8_tells_9 rfl rfl ?_
    refine ok_SPZ (pc := 10) a [(vI x3)] [] (M_X8_isSort hn tg x3  hw) dX8_tells_10 lkRX8_113 rfl ⟨Nat.le_of_ble_eq_true rfl, Nat.le_of_ble_eq_true rfl⟩ rfl (Nat.le_of_ble_eq_true rfl) rfl (fun r3 hz4 hw => ?_)
    refine ok_if_ne (pc := 13) a 18 dX8_tells_13 (by decide) (inR_b hz4) (fun hd14 => ?_) (fun hd14 => ?_)
    · have hw := hw.2 hd14
      refine ok_iload_n (pc := 18) a dX8_tells_18 rfl rfl ?_
      refine ok_iconst (pc := 19) a dX8_tells_19 ?_
      refine ok_imul (pc := 20) a dX8_tells_20 ?_
      refine ok_iload_n (pc := 21) a dX8_tells_21 rfl rfl ?_
      refine ok_iadd (pc := 22) a dX8_tells_22 ?_
      refine ok_nmI (fun x4_23 ex4_23 => ?_)
      have hw := hw x4_23 ex4_23
      refine ok_sI (pc := 23) a [some (vR 0), some (vI x1), some (vI x2), some (vI x3), some (vI x4_23)] dX8_tells_23 (by decide) rfl rfl ?_
      refine ok_aload_n (pc := 25) a dX8_tells_25 rfl rfl ?_
      refine ok_getR (pc := 26) a dX8_tells_26 lfRX8_29 (Nat.lt_of_lt_of_le (by decide) hn) kq0 rfl (tg.at 0 3 13 (by decide) (by decide)) ?_
      refine ok_getR (pc := 29) a dX8_tells_29 lfRX8_116 (Nat.lt_of_lt_of_le (by decide) hn) kq13 rfl (tg.at 13 0 14 (by decide) (by decide)) ?_
      refine ok_iload (pc := 32) a dX8_tells_32 rfl ?_
      obtain ⟨hc5, hw⟩ := hw
      refine ok_iald (pc := 34) a dX8_tells_34 (Nat.lt_of_lt_of_le (by decide) hn) kq14 (by decide) hc5 ?_
      obtain ⟨hc6, hw⟩ := hw
      refine ok_if_ne (pc := 35) a 41 dX8_tells_35 (by decide) hc6 (fun hd13 => ?_) (fun hd13 => ?_)
      · have hw := hw.2 hd13
        refine ok_aload_n (pc := 41) a dX8_tells_41 rfl rfl ?_
        refine ok_getR (pc := 42) a dX8_tells_42 lfRX8_36 (Nat.lt_of_lt_of_le (by decide) hn) kq0 rfl (tg.at 0 4 15 (by decide) (by decide)) ?_
        refine ok_aload_n (pc := 45) a dX8_tells_45 rfl rfl ?_
        refine ok_getR (pc := 46) a dX8_tells_46 lfRX8_29 (Nat.lt_of_lt_of_le (by decide) hn) kq0 rfl (tg.at 0 3 13 (by decide) (by decide)) ?_
        refine ok_VRV (pc := 49) a [(vR 13)] [] (M_X2_push hn tg   hw) dX8_tells_49 lkRX8_160 rfl (Nat.lt_of_lt_of_le (by decide) hn) kq15 (by decide) rfl ⟨Nat.le_of_ble_eq_true rfl, Nat.le_of_ble_eq_true rfl⟩ rfl (Nat.le_of_ble_eq_true rfl) rfl (fun h7 hw => ?_)
        refine ok_aload_n (pc := 52) a dX8_tells_52 rfl rfl ?_
        refine ok_getR (pc := 53) a dX8_tells_53 lfRX8_29 (Nat.lt_of_lt_of_le (by decide) hn) kq0 rfl (tg.at 0 3 13 (by decide) (by decide)) ?_
        refine ok_getR (pc := 56) a dX8_tells_56 lfRX8_116 (Nat.lt_of_lt_of_le (by decide) hn) kq13 rfl (tg.at 13 0 14 (by decide) (by decide)) ?_
        refine ok_iload (pc := 59) a dX8_tells_59 rfl ?_
        refine ok_dup2 (pc := 61) a dX8_tells_61 (by rfl) (by rfl) ?_
        refine ok_iald (pc := 62) a dX8_tells_62 (Nat.lt_of_lt_of_le (by decide) hn) kq14 (by decide) hc5 ?_
        refine ok_iconst (pc := 63) a dX8_tells_63 ?_
        refine ok_isub (pc := 64) a dX8_tells_64 ?_
        refine ok_iast (pc := 65) a dX8_tells_65 (Nat.lt_of_lt_of_le (by decide) hn) kq14 (by decide) hc5 (ok_nmH (fun h8 eh8 => ?_))
        have hw := hw h8 eh8
        refine ok_iload_n (pc := 66) a dX8_tells_66 rfl rfl ?_
        obtain ⟨hc9, hw⟩ := hw
        have hJ85 : ∀ (h_85 : aH), wp_X8_tells_J85 x1 Q h_85 → OK Γ p l e (rmd 3 n n) s m args below meth c n (MQ below (QQ Γ n (RI g Q)) args s (n - n) (sl n - sl n) (AA Γ)) 85 [some (vR 0), some (vI x1), some (vI x2), some (vI x3), some (vI x4_23)] [] n g h_85 := by
          intro h_85 hw
          unfold wp_X8_tells_J85 at hw
          refine ok_aload_n (pc := 85) a dX8_tells_85 rfl rfl ?_
          refine ok_iload_n (pc := 86) a dX8_tells_86 rfl rfl ?_
          refine ok_VPI (pc := 87) a [(vI x1)] [] (M_X8_heavinessOf hn tg x1  hw) dX8_tells_87 lkRX8_132 rfl (Nat.lt_of_lt_of_le (by decide) hn) kq0 (by decide) rfl ⟨Nat.le_of_ble_eq_true rfl, Nat.le_of_ble_eq_true rfl⟩ rfl (Nat.le_of_ble_eq_true rfl) rfl (fun r10 hw => ?_)
          exact ok_iret (pc := 90) a dX8_tells_90 ⟨_, rfl, rfl, hw⟩
        refine ok_if_le (pc := 67) a 85 dX8_tells_67 (by decide) hc9 (fun hd12 => ?_) (fun hd12 => ?_)
        · have hw := hw.1 hd12
          exact hJ85 h8 hw
        · have hw := hw.2 hd12
          refine ok_aload_n (pc := 70) a dX8_tells_70 rfl rfl ?_
          refine ok_getR (pc := 71) a dX8_tells_71 lfRX8_29 (Nat.lt_of_lt_of_le (by decide) hn) kq0 rfl (tg.at 0 3 13 (by decide) (by decide)) ?_
          refine ok_iload_n (pc := 74) a dX8_tells_74 rfl rfl ?_
          refine ok_iconst (pc := 75) a dX8_tells_75 ?_
          refine ok_imul (pc := 76) a dX8_tells_76 ?_
          refine ok_iload_n (pc := 77) a dX8_tells_77 rfl rfl ?_
          refine ok_iadd (pc := 78) a dX8_tells_78 ?_
          refine ok_iconst (pc := 79) a dX8_tells_79 ?_
          refine ok_isub (pc := 80) a dX8_tells_80 ?_
          refine ok_iconst (pc := 81) a dX8_tells_81 ?_
          refine ok_VRV (pc := 82) a [(vI (((x2 * 4) + x3) - 1)), (vI 1)] [] (M_X4_add hn tg (((x2 * 4) + x3) - 1) 1  hw) dX8_tells_82 lkRX8_164 rfl (Nat.lt_of_lt_of_le (by decide) hn) kq13 (by decide) rfl ⟨Nat.le_of_ble_eq_true rfl, Nat.le_of_ble_eq_true rfl⟩ rfl (Nat.le_of_ble_eq_true rfl) rfl (fun h11 hw => ?_)
          exact hJ85 h11 hw
      · have hw := hw.1 hd13
        refine ok_bipush (pc := 38) a dX8_tells_38 (by decide) ?_
        exact ok_iret (pc := 40) a dX8_tells_40 ⟨_, rfl, rfl, hw⟩
    · have hw := hw.1 hd14
      refine ok_iconst (pc := 16) a dX8_tells_16 ?_
      exact ok_iret (pc := 17) a dX8_tells_17 ⟨_, rfl, rfl, hw⟩

def wp_X8_keeps (x1 : Int) (x2 : Int) (h : aH) (Q : Int → aH → Prop) : Prop :=
  wp_X8_isPerson x1 h (fun r1 => ((r1 = 0 → Q (-1) h) ∧ (¬ r1 = 0 → wp_X8_isSort x2 h (fun r3 => ((r3 = 0 → Q (-1) h) ∧ (¬ r3 = 0 → ∀ x3_22, x3_22 = ((x1 * 4) + x2) → (0 ≤ x3_22 ∧ x3_22 < 16) ∧ inR (h 14 x3_22) ∧ (((h 14 x3_22) < 9 → wp_X2_push h (fun h7 => wp_X4_add x3_22 1 h7 (fun h8 => Q (h8 14 x3_22) h8))) ∧ (¬ (h 14 x3_22) < 9 → Q (-2) h))))))))
set_option maxRecDepth 100000 in
set_option maxHeartbeats 4000000 in
theorem M_X8_keeps {Γ : Gm} {l : Launch} {n : Nat} {g : aG} (hn : 59 ≤ n) (tg : TC g) (x1 : Int) (x2 : Int)  {h : aH} {Q : Int → aH → Prop} (hw : wp_X8_keeps x1 x2 h Q) : Cl Γ l mX8_keeps [vR 0, vI x1, vI x2] n g h (RI g Q) := by
  refine Cl.of (by decide) [some (vR 0), some (vI x1), some (vI x2), none] rfl (Nat.le_of_ble_eq_true rfl) ?_
  intro p e s m args below meth c a
  unfold wp_X8_keeps at hw
  refine ok_aload_n (pc := 0) a dX8_keeps_0 rfl rfl ?_
  refine ok_iload_n (pc := 1) a dX8_keeps_1 rfl rfl ?_
  refine ok_VPZ (pc := 2) a [(vI x1)] [] (M_X8_isPerson hn tg x1  hw) dX8_keeps_2 lkRX8_109 rfl (Nat.lt_of_lt_of_le (by decide) hn) kq0 (by decide) rfl ⟨Nat.le_of_ble_eq_true rfl, Nat.le_of_ble_eq_true rfl⟩ rfl (Nat.le_of_ble_eq_true rfl) rfl (fun r1 hz2 hw => ?_)
  refine ok_if_eq (pc := 5) a 15 dX8_keeps_5 (by decide) (inR_b hz2) (fun hd11 => ?_) (fun hd11 => ?_)
  · have hw := hw.1 hd11
    refine ok_iconst (pc := 15) a dX8_keeps_15 ?_
    exact ok_iret (pc := 16) a dX8_keeps_16 ⟨_, rfl, rfl, hw⟩
  · have hw := hw.2 hd11
    refine ok_iload_n (pc := 8) a dX8_keeps_8 rfl rfl ?_
    refine ok_SPZ (pc := 9) a [(vI x2)] [] (M_X8_isSort hn tg x2  hw) dX8_keeps_9 lkRX8_113 rfl ⟨Nat.le_of_ble_eq_true rfl, Nat.le_of_ble_eq_true rfl⟩ rfl (Nat.le_of_ble_eq_true rfl) rfl (fun r3 hz4 hw => ?_)
    refine ok_if_ne (pc := 12) a 17 dX8_keeps_12 (by decide) (inR_b hz4) (fun hd10 => ?_) (fun hd10 => ?_)
    · have hw := hw.2 hd10
      refine ok_iload_n (pc := 17) a dX8_keeps_17 rfl rfl ?_
      refine ok_iconst (pc := 18) a dX8_keeps_18 ?_
      refine ok_imul (pc := 19) a dX8_keeps_19 ?_
      refine ok_iload_n (pc := 20) a dX8_keeps_20 rfl rfl ?_
      refine ok_iadd (pc := 21) a dX8_keeps_21 ?_
      refine ok_nmI (fun x3_22 ex3_22 => ?_)
      have hw := hw x3_22 ex3_22
      refine ok_sI_n (pc := 22) a [some (vR 0), some (vI x1), some (vI x2), some (vI x3_22)] dX8_keeps_22 rfl (by decide) rfl rfl ?_
      refine ok_aload_n (pc := 23) a dX8_keeps_23 rfl rfl ?_
      refine ok_getR (pc := 24) a dX8_keeps_24 lfRX8_29 (Nat.lt_of_lt_of_le (by decide) hn) kq0 rfl (tg.at 0 3 13 (by decide) (by decide)) ?_
      refine ok_getR (pc := 27) a dX8_keeps_27 lfRX8_116 (Nat.lt_of_lt_of_le (by decide) hn) kq13 rfl (tg.at 13 0 14 (by decide) (by decide)) ?_
      refine ok_iload_n (pc := 30) a dX8_keeps_30 rfl rfl ?_
      obtain ⟨hc5, hw⟩ := hw
      refine ok_iald (pc := 31) a dX8_keeps_31 (Nat.lt_of_lt_of_le (by decide) hn) kq14 (by decide) hc5 ?_
      refine ok_bipush (pc := 32) a dX8_keeps_32 (by decide) ?_
      obtain ⟨hc6, hw⟩ := hw
      refine ok_icmp_lt (pc := 34) a 40 dX8_keeps_34 (by decide) hc6 ⟨by decide, by decide⟩ (fun hd9 => ?_) (fun hd9 => ?_)
      · have hw := hw.1 hd9
        refine ok_aload_n (pc := 40) a dX8_keeps_40 rfl rfl ?_
        refine ok_getR (pc := 41) a dX8_keeps_41 lfRX8_36 (Nat.lt_of_lt_of_le (by decide) hn) kq0 rfl (tg.at 0 4 15 (by decide) (by decide)) ?_
        refine ok_aload_n (pc := 44) a dX8_keeps_44 rfl rfl ?_
        refine ok_getR (pc := 45) a dX8_keeps_45 lfRX8_29 (Nat.lt_of_lt_of_le (by decide) hn) kq0 rfl (tg.at 0 3 13 (by decide) (by decide)) ?_
        refine ok_VRV (pc := 48) a [(vR 13)] [] (M_X2_push hn tg   hw) dX8_keeps_48 lkRX8_160 rfl (Nat.lt_of_lt_of_le (by decide) hn) kq15 (by decide) rfl ⟨Nat.le_of_ble_eq_true rfl, Nat.le_of_ble_eq_true rfl⟩ rfl (Nat.le_of_ble_eq_true rfl) rfl (fun h7 hw => ?_)
        refine ok_aload_n (pc := 51) a dX8_keeps_51 rfl rfl ?_
        refine ok_getR (pc := 52) a dX8_keeps_52 lfRX8_29 (Nat.lt_of_lt_of_le (by decide) hn) kq0 rfl (tg.at 0 3 13 (by decide) (by decide)) ?_
        refine ok_iload_n (pc := 55) a dX8_keeps_55 rfl rfl ?_
        refine ok_iconst (pc := 56) a dX8_keeps_56 ?_
        refine ok_VRV (pc := 57) a [(vI x3_22), (vI 1)] [] (M_X4_add hn tg x3_22 1  hw) dX8_keeps_57 lkRX8_164 rfl (Nat.lt_of_lt_of_le (by decide) hn) kq13 (by decide) rfl ⟨Nat.le_of_ble_eq_true rfl, Nat.le_of_ble_eq_true rfl⟩ rfl (Nat.le_of_ble_eq_true rfl) rfl (fun h8 hw => ?_)
        refine ok_aload_n (pc := 60) a dX8_keeps_60 rfl rfl ?_
        refine ok_getR (pc := 61) a dX8_keeps_61 lfRX8_29 (Nat.lt_of_lt_of_le (by decide) hn) kq0 rfl (tg.at 0 3 13 (by decide) (by decide)) ?_
        refine ok_getR (pc := 64) a dX8_keeps_64 lfRX8_116 (Nat.lt_of_lt_of_le (by decide) hn) kq13 rfl (tg.at 13 0 14 (by decide) (by decide)) ?_
        refine ok_iload_n (pc := 67) a dX8_keeps_67 rfl rfl ?_
        refine ok_iald (pc := 68) a dX8_keeps_68 (Nat.lt_of_lt_of_le (by decide) hn) kq14 (by decide) hc5 ?_
        exact ok_iret (pc := 69) a dX8_keeps_69 ⟨_, rfl, rfl, hw⟩
      · have hw := hw.2 hd9
        refine ok_bipush (pc := 37) a dX8_keeps_37 (by decide) ?_
        exact ok_iret (pc := 39) a dX8_keeps_39 ⟨_, rfl, rfl, hw⟩
    · have hw := hw.1 hd10
      refine ok_iconst (pc := 15) a dX8_keeps_15 ?_
      exact ok_iret (pc := 16) a dX8_keeps_16 ⟨_, rfl, rfl, hw⟩

def wp_X8_day_B29 (Q : Int → aH → Prop) (X29 : Int × aH → Prop) (x1_29 : Int) (h_29 : aH) : Prop :=
  inR x1_29 ∧ inR ((h_29 3 4) * 4) ∧ ((((h_29 3 4) * 4) ≤ x1_29 → ∀ h5, h5 = up h_29 13 1 ((h_29 13 1) + 1) → Q (h5 13 1) h5) ∧ (¬ ((h_29 3 4) * 4) ≤ x1_29 → (0 ≤ x1_29 ∧ x1_29 < 16) ∧ wp_X4_add x1_29 (h_29 6 x1_29) h_29 (fun h7 => X29 ((x1_29 + 1), h7))))
def wp_X8_day  (h : aH) (Q : Int → aH → Prop) : Prop :=
  inR (h 13 1) ∧ (((h 13 1) < 999 → wp_X2_push h (fun h2 => lp (fun X y => wp_X8_day_B29 Q X y.1 y.2) (0, h2))) ∧ (¬ (h 13 1) < 999 → Q (-2) h))
set_option maxRecDepth 100000 in
set_option maxHeartbeats 4000000 in
theorem M_X8_day {Γ : Gm} {l : Launch} {n : Nat} {g : aG} (hn : 59 ≤ n) (tg : TC g)   {h : aH} {Q : Int → aH → Prop} (hw : wp_X8_day  h Q) : Cl Γ l mX8_day [vR 0] n g h (RI g Q) := by
  refine Cl.of (by decide) [some (vR 0), none] rfl (Nat.le_of_ble_eq_true rfl) ?_
  intro p e s m args below meth c a
  unfold wp_X8_day at hw
  refine ok_aload_n (pc := 0) a dX8_day_0 rfl rfl ?_
  refine ok_getR (pc := 1) a dX8_day_1 lfRX8_29 (Nat.lt_of_lt_of_le (by decide) hn) kq0 rfl (tg.at 0 3 13 (by decide) (by decide)) ?_
  refine ok_fI (pc := 4) 1 a dX8_day_4 lfRX8_144 (Nat.lt_of_lt_of_le (by decide) hn) kq13 ty_4_1 rfl ?_
  refine ok_sipush (pc := 7) a dX8_day_7 (by decide) ?_
  obtain ⟨hc1, hw⟩ := hw
  refine ok_icmp_lt (pc := 10) a 16 dX8_day_10 (by decide) hc1 ⟨by decide, by decide⟩ (fun hd9 => ?_) (fun hd9 => ?_)
  · have hw := hw.1 hd9
    refine ok_aload_n (pc := 16) a dX8_day_16 rfl rfl ?_
    refine ok_getR (pc := 17) a dX8_day_17 lfRX8_36 (Nat.lt_of_lt_of_le (by decide) hn) kq0 rfl (tg.at 0 4 15 (by decide) (by decide)) ?_
    refine ok_aload_n (pc := 20) a dX8_day_20 rfl rfl ?_
    refine ok_getR (pc := 21) a dX8_day_21 lfRX8_29 (Nat.lt_of_lt_of_le (by decide) hn) kq0 rfl (tg.at 0 3 13 (by decide) (by decide)) ?_
    refine ok_VRV (pc := 24) a [(vR 13)] [] (M_X2_push hn tg   hw) dX8_day_24 lkRX8_160 rfl (Nat.lt_of_lt_of_le (by decide) hn) kq15 (by decide) rfl ⟨Nat.le_of_ble_eq_true rfl, Nat.le_of_ble_eq_true rfl⟩ rfl (Nat.le_of_ble_eq_true rfl) rfl (fun h2 hw => ?_)
    refine ok_iconst (pc := 27) a dX8_day_27 ?_
    refine ok_sI_n (pc := 28) a [some (vR 0), some (vI 0)] dX8_day_28 rfl (by decide) rfl rfl ?_
    refine lp.use (P := fun y => OK Γ p l e (rmd 3 n n) s m args below meth c n (MQ below (QQ Γ n (RI g Q)) args s (n - n) (sl n - sl n) (AA Γ)) 29 [some (vR 0), some (vI y.1)] [] n g y.2) ?_ (0, h2) hw
    clear hw
    intro X29 hX29 y hw
    obtain ⟨x1_29, h_29⟩ := y
    have hw : wp_X8_day_B29 Q X29 x1_29 h_29 := hw
    unfold wp_X8_day_B29 at hw
    try dsimp only
    refine ok_iload_n (pc := 29) a dX8_day_29 rfl rfl ?_
    refine ok_aload_n (pc := 30) a dX8_day_30 rfl rfl ?_
    refine ok_getR (pc := 31) a dX8_day_31 lfRX8_19 (Nat.lt_of_lt_of_le (by decide) hn) kq0 rfl (tg.at 0 1 3 (by decide) (by decide)) ?_
    refine ok_fI (pc := 34) 4 a dX8_day_34 lfRX8_168 (Nat.lt_of_lt_of_le (by decide) hn) kq3 ty_7_4 rfl ?_
    refine ok_iconst (pc := 37) a dX8_day_37 ?_
    refine ok_imul (pc := 38) a dX8_day_38 ?_
    obtain ⟨hc3, hw⟩ := hw
    obtain ⟨hc4, hw⟩ := hw
    refine ok_icmp_ge (pc := 39) a 65 dX8_day_39 (by decide) hc3 hc4 (fun hd8 => ?_) (fun hd8 => ?_)
    · have hw := hw.1 hd8
      refine ok_aload_n (pc := 65) a dX8_day_65 rfl rfl ?_
      refine ok_getR (pc := 66) a dX8_day_66 lfRX8_29 (Nat.lt_of_lt_of_le (by decide) hn) kq0 rfl (tg.at 0 3 13 (by decide) (by decide)) ?_
      refine ok_dup (pc := 69) a dX8_day_69 (by rfl) ?_
      refine ok_fI (pc := 70) 1 a dX8_day_70 lfRX8_144 (Nat.lt_of_lt_of_le (by decide) hn) kq13 ty_4_1 rfl ?_
      refine ok_iconst (pc := 73) a dX8_day_73 ?_
      refine ok_iadd (pc := 74) a dX8_day_74 ?_
      refine ok_pI (pc := 75) 1 a dX8_day_75 lfRX8_144 fi_4_1 (Nat.lt_of_lt_of_le (by decide) hn) kq13 ty_4_1 rfl (fun h5 eh5 => ?_)
      have hw := hw h5 eh5
      refine ok_aload_n (pc := 78) a dX8_day_78 rfl rfl ?_
      refine ok_getR (pc := 79) a dX8_day_79 lfRX8_29 (Nat.lt_of_lt_of_le (by decide) hn) kq0 rfl (tg.at 0 3 13 (by decide) (by decide)) ?_
      refine ok_fI (pc := 82) 1 a dX8_day_82 lfRX8_144 (Nat.lt_of_lt_of_le (by decide) hn) kq13 ty_4_1 rfl ?_
      exact ok_iret (pc := 85) a dX8_day_85 ⟨_, rfl, rfl, hw⟩
    · have hw := hw.2 hd8
      refine ok_aload_n (pc := 42) a dX8_day_42 rfl rfl ?_
      refine ok_getR (pc := 43) a dX8_day_43 lfRX8_29 (Nat.lt_of_lt_of_le (by decide) hn) kq0 rfl (tg.at 0 3 13 (by decide) (by decide)) ?_
      refine ok_iload_n (pc := 46) a dX8_day_46 rfl rfl ?_
      refine ok_aload_n (pc := 47) a dX8_day_47 rfl rfl ?_
      refine ok_getR (pc := 48) a dX8_day_48 lfRX8_19 (Nat.lt_of_lt_of_le (by decide) hn) kq0 rfl (tg.at 0 1 3 (by decide) (by decide)) ?_
      refine ok_getR (pc := 51) a dX8_day_51 lfRX8_120 (Nat.lt_of_lt_of_le (by decide) hn) kq3 rfl (tg.at 3 2 6 (by decide) (by decide)) ?_
      refine ok_iload_n (pc := 54) a dX8_day_54 rfl rfl ?_
      obtain ⟨hc6, hw⟩ := hw
      refine ok_iald (pc := 55) a dX8_day_55 (Nat.lt_of_lt_of_le (by decide) hn) kq6 (by decide) hc6 ?_
      refine ok_VRV (pc := 56) a [(vI x1_29), (vI (h_29 6 x1_29))] [] (M_X4_add hn tg x1_29 (h_29 6 x1_29)  hw) dX8_day_56 lkRX8_164 rfl (Nat.lt_of_lt_of_le (by decide) hn) kq13 (by decide) rfl ⟨Nat.le_of_ble_eq_true rfl, Nat.le_of_ble_eq_true rfl⟩ rfl (Nat.le_of_ble_eq_true rfl) rfl (fun h7 hw => ?_)
      refine ok_inc (pc := 59) a [some (vR 0), some (vI (x1_29 + 1))] dX8_day_59 rfl (by decide) rfl rfl ?_
      refine ok_goto (pc := 62) a 29 dX8_day_62 (by decide) ?_
      exact hX29 ((x1_29 + 1), h7) hw
  · have hw := hw.2 hd9
    refine ok_bipush (pc := 13) a dX8_day_13 (by decide) ?_
    exact ok_iret (pc := 15) a dX8_day_15 ⟨_, rfl, rfl, hw⟩

def wp_X8_compareLower (x1 : Int) (x2 : Int) (h : aH) (Q : Int → Prop) : Prop :=
  inR x1 ∧ inR x2 ∧ wp_X8_heavinessOf (min x1 x2) h (fun r3 => wp_X8_heavinessOf (max x1 x2) h (fun r4 => ∀ x3_19, x3_19 = (r3 - r4) → inR x3_19 ∧ ((x3_19 = 0 → Q 3) ∧ (¬ x3_19 = 0 → Q (if x3_19 ≤ 0 then 2 else 1 : Int)))))
set_option maxRecDepth 100000 in
set_option maxHeartbeats 4000000 in
theorem M_X8_compareLower {Γ : Gm} {l : Launch} {n : Nat} {g : aG} (hn : 59 ≤ n) (tg : TC g) (x1 : Int) (x2 : Int)  {h : aH} {Q : Int → Prop} (hw : wp_X8_compareLower x1 x2 h Q) : Cl Γ l mX8_compareLower [vR 0, vI x1, vI x2] n g h (PI g h Q) := by
  refine Cl.of (by decide) [some (vR 0), some (vI x1), some (vI x2), none] rfl (Nat.le_of_ble_eq_true rfl) ?_
  intro p e s m args below meth c a
  unfold wp_X8_compareLower at hw
  refine ok_aload_n (pc := 0) a dX8_compareLower_0 rfl rfl ?_
  refine ok_iload_n (pc := 1) a dX8_compareLower_1 rfl rfl ?_
  refine ok_iload_n (pc := 2) a dX8_compareLower_2 rfl rfl ?_
  obtain ⟨hc1, hw⟩ := hw
  obtain ⟨hc2, hw⟩ := hw
  refine ok_mmin (pc := 3) (st := [(vR 0)]) a dX8_compareLower_3 mmRX8_307 hc1 hc2 (Nat.le_of_ble_eq_true rfl) (Nat.le_of_ble_eq_true rfl) ?_
  refine ok_VPI (pc := 6) a [(vI (min x1 x2))] [] (M_X8_heavinessOf hn tg (min x1 x2)  hw) dX8_compareLower_6 lkRX8_132 rfl (Nat.lt_of_lt_of_le (by decide) hn) kq0 (by decide) rfl ⟨Nat.le_of_ble_eq_true rfl, Nat.le_of_ble_eq_true rfl⟩ rfl (Nat.le_of_ble_eq_true rfl) rfl (fun r3 hw => ?_)
  refine ok_aload_n (pc := 9) a dX8_compareLower_9 rfl rfl ?_
  refine ok_iload_n (pc := 10) a dX8_compareLower_10 rfl rfl ?_
  refine ok_iload_n (pc := 11) a dX8_compareLower_11 rfl rfl ?_
  refine ok_mmax (pc := 12) (st := [(vR 0), (vI r3)]) a dX8_compareLower_12 mmRX8_312 hc1 hc2 (Nat.le_of_ble_eq_true rfl) (Nat.le_of_ble_eq_true rfl) ?_
  refine ok_VPI (pc := 15) a [(vI (max x1 x2))] [(vI r3)] (M_X8_heavinessOf hn tg (max x1 x2)  hw) dX8_compareLower_15 lkRX8_132 rfl (Nat.lt_of_lt_of_le (by decide) hn) kq0 (by decide) rfl ⟨Nat.le_of_ble_eq_true rfl, Nat.le_of_ble_eq_true rfl⟩ rfl (Nat.le_of_ble_eq_true rfl) rfl (fun r4 hw => ?_)
  refine ok_isub (pc := 18) a dX8_compareLower_18 ?_
  refine ok_nmI (fun x3_19 ex3_19 => ?_)
  have hw := hw x3_19 ex3_19
  refine ok_sI_n (pc := 19) a [some (vR 0), some (vI x1), some (vI x2), some (vI x3_19)] dX8_compareLower_19 rfl (by decide) rfl rfl ?_
  refine ok_iload_n (pc := 20) a dX8_compareLower_20 rfl rfl ?_
  obtain ⟨hc5, hw⟩ := hw
  refine ok_if_ne (pc := 21) a 26 dX8_compareLower_21 (by decide) hc5 (fun hd7 => ?_) (fun hd7 => ?_)
  · have hw := hw.2 hd7
    refine ok_iload_n (pc := 26) a dX8_compareLower_26 rfl rfl ?_
    have hK : OK Γ p l e (rmd 3 n n) s m args below meth c n (MQ below (QQ Γ n (PI g h Q)) args s (n - n) (sl n - sl n) (AA Γ)) 35 [some (vR 0), some (vI x1), some (vI x2), some (vI x3_19)] [(vI (if x3_19 ≤ 0 then 2 else 1 : Int))] n g h := by
      exact ok_iret (pc := 35) a dX8_compareLower_35 ⟨_, rfl, rfl, rfl, hw⟩
    refine ok_if_le (pc := 27) a 34 dX8_compareLower_27 (by decide) hc5 (fun hd6 => ?_) (fun hd6 => ?_)
    · refine ok_iconst (pc := 34) a dX8_compareLower_34 ?_
      simp only [if_pos hd6] at hK
      exact hK
    · refine ok_iconst (pc := 30) a dX8_compareLower_30 ?_
      refine ok_goto (pc := 31) a 35 dX8_compareLower_31 (by decide) ?_
      simp only [if_neg hd6] at hK
      exact hK
  · have hw := hw.1 hd7
    refine ok_iconst (pc := 24) a dX8_compareLower_24 ?_
    exact ok_iret (pc := 25) a dX8_compareLower_25 ⟨_, rfl, rfl, rfl, hw⟩

def wp_X8_weighs (x1 : Int) (x2 : Int) (h : aH) (Q : Int → aH → Prop) : Prop :=
  wp_X8_isPair x1 x2 h (fun r1 => ((r1 = 0 → Q (-1) h) ∧ (¬ r1 = 0 → wp_X2_push h (fun h3 => wp_X8_pairOf x1 x2 h3 (fun r4 => wp_X8_compareLower x1 x2 h3 (fun r5 => wp_X8_withFound (h3 13 2) r4 r5 h3 (fun r6 => ∀ h7, h7 = up h3 13 2 r6 → wp_X8_knownOf x1 x2 h7 (fun r8 => Q r8 h7))))))))
set_option maxRecDepth 100000 in
set_option maxHeartbeats 4000000 in
theorem M_X8_weighs {Γ : Gm} {l : Launch} {n : Nat} {g : aG} (hn : 59 ≤ n) (tg : TC g) (x1 : Int) (x2 : Int)  {h : aH} {Q : Int → aH → Prop} (hw : wp_X8_weighs x1 x2 h Q) : Cl Γ l mX8_weighs [vR 0, vI x1, vI x2] n g h (RI g Q) := by
  refine Cl.of (by decide) [some (vR 0), some (vI x1), some (vI x2)] rfl (Nat.le_of_ble_eq_true rfl) ?_
  intro p e s m args below meth c a
  unfold wp_X8_weighs at hw
  refine ok_aload_n (pc := 0) a dX8_weighs_0 rfl rfl ?_
  refine ok_iload_n (pc := 1) a dX8_weighs_1 rfl rfl ?_
  refine ok_iload_n (pc := 2) a dX8_weighs_2 rfl rfl ?_
  refine ok_VPZ (pc := 3) a [(vI x1), (vI x2)] [] (M_X8_isPair hn tg x1 x2  hw) dX8_weighs_3 lkRX8_136 rfl (Nat.lt_of_lt_of_le (by decide) hn) kq0 (by decide) rfl ⟨Nat.le_of_ble_eq_true rfl, Nat.le_of_ble_eq_true rfl⟩ rfl (Nat.le_of_ble_eq_true rfl) rfl (fun r1 hz2 hw => ?_)
  refine ok_if_ne (pc := 6) a 11 dX8_weighs_6 (by decide) (inR_b hz2) (fun hd9 => ?_) (fun hd9 => ?_)
  · have hw := hw.2 hd9
    refine ok_aload_n (pc := 11) a dX8_weighs_11 rfl rfl ?_
    refine ok_getR (pc := 12) a dX8_weighs_12 lfRX8_36 (Nat.lt_of_lt_of_le (by decide) hn) kq0 rfl (tg.at 0 4 15 (by decide) (by decide)) ?_
    refine ok_aload_n (pc := 15) a dX8_weighs_15 rfl rfl ?_
    refine ok_getR (pc := 16) a dX8_weighs_16 lfRX8_29 (Nat.lt_of_lt_of_le (by decide) hn) kq0 rfl (tg.at 0 3 13 (by decide) (by decide)) ?_
    refine ok_VRV (pc := 19) a [(vR 13)] [] (M_X2_push hn tg   hw) dX8_weighs_19 lkRX8_160 rfl (Nat.lt_of_lt_of_le (by decide) hn) kq15 (by decide) rfl ⟨Nat.le_of_ble_eq_true rfl, Nat.le_of_ble_eq_true rfl⟩ rfl (Nat.le_of_ble_eq_true rfl) rfl (fun h3 hw => ?_)
    refine ok_aload_n (pc := 22) a dX8_weighs_22 rfl rfl ?_
    refine ok_getR (pc := 23) a dX8_weighs_23 lfRX8_29 (Nat.lt_of_lt_of_le (by decide) hn) kq0 rfl (tg.at 0 3 13 (by decide) (by decide)) ?_
    refine ok_aload_n (pc := 26) a dX8_weighs_26 rfl rfl ?_
    refine ok_getR (pc := 27) a dX8_weighs_27 lfRX8_29 (Nat.lt_of_lt_of_le (by decide) hn) kq0 rfl (tg.at 0 3 13 (by decide) (by decide)) ?_
    refine ok_fI (pc := 30) 2 a dX8_weighs_30 lfRX8_171 (Nat.lt_of_lt_of_le (by decide) hn) kq13 ty_4_2 rfl ?_
    refine ok_iload_n (pc := 33) a dX8_weighs_33 rfl rfl ?_
    refine ok_iload_n (pc := 34) a dX8_weighs_34 rfl rfl ?_
    refine ok_SPI (pc := 35) a [(vI x1), (vI x2)] [(vI (h3 13 2)), (vR 13)] (M_X8_pairOf hn tg x1 x2  hw) dX8_weighs_35 lkRX8_174 rfl ⟨Nat.le_of_ble_eq_true rfl, Nat.le_of_ble_eq_true rfl⟩ rfl (Nat.le_of_ble_eq_true rfl) rfl (fun r4 hw => ?_)
    refine ok_aload_n (pc := 38) a dX8_weighs_38 rfl rfl ?_
    refine ok_iload_n (pc := 39) a dX8_weighs_39 rfl rfl ?_
    refine ok_iload_n (pc := 40) a dX8_weighs_40 rfl rfl ?_
    refine ok_VPI (pc := 41) a [(vI x1), (vI x2)] [(vI r4), (vI (h3 13 2)), (vR 13)] (M_X8_compareLower hn tg x1 x2  hw) dX8_weighs_41 lkRX8_177 rfl (Nat.lt_of_lt_of_le (by decide) hn) kq0 (by decide) rfl ⟨Nat.le_of_ble_eq_true rfl, Nat.le_of_ble_eq_true rfl⟩ rfl (Nat.le_of_ble_eq_true rfl) rfl (fun r5 hw => ?_)
    refine ok_SPI (pc := 44) a [(vI (h3 13 2)), (vI r4), (vI r5)] [(vR 13)] (M_X8_withFound hn tg (h3 13 2) r4 r5  hw) dX8_weighs_44 lkRX8_180 rfl ⟨Nat.le_of_ble_eq_true rfl, Nat.le_of_ble_eq_true rfl⟩ rfl (Nat.le_of_ble_eq_true rfl) rfl (fun r6 hw => ?_)
    refine ok_pI (pc := 47) 2 a dX8_weighs_47 lfRX8_171 fi_4_2 (Nat.lt_of_lt_of_le (by decide) hn) kq13 ty_4_2 rfl (fun h7 eh7 => ?_)
    have hw := hw h7 eh7
    refine ok_aload_n (pc := 50) a dX8_weighs_50 rfl rfl ?_
    refine ok_iload_n (pc := 51) a dX8_weighs_51 rfl rfl ?_
    refine ok_iload_n (pc := 52) a dX8_weighs_52 rfl rfl ?_
    refine ok_VPI (pc := 53) a [(vI x1), (vI x2)] [] (M_X8_knownOf hn tg x1 x2  hw) dX8_weighs_53 lkRX8_140 rfl (Nat.lt_of_lt_of_le (by decide) hn) kq0 (by decide) rfl ⟨Nat.le_of_ble_eq_true rfl, Nat.le_of_ble_eq_true rfl⟩ rfl (Nat.le_of_ble_eq_true rfl) rfl (fun r8 hw => ?_)
    exact ok_iret (pc := 56) a dX8_weighs_56 ⟨_, rfl, rfl, hw⟩
  · have hw := hw.1 hd9
    refine ok_iconst (pc := 9) a dX8_weighs_9 ?_
    exact ok_iret (pc := 10) a dX8_weighs_10 ⟨_, rfl, rfl, hw⟩

def wp_X8_forgets  (h : aH) (Q : Int → aH → Prop) : Prop :=
  wp_X8_knownPairs h (fun r1 => wp_X2_push h (fun h2 => ∀ h3, h3 = up h2 13 2 0 → Q r1 h3))
set_option maxRecDepth 100000 in
set_option maxHeartbeats 4000000 in
theorem M_X8_forgets {Γ : Gm} {l : Launch} {n : Nat} {g : aG} (hn : 59 ≤ n) (tg : TC g)   {h : aH} {Q : Int → aH → Prop} (hw : wp_X8_forgets  h Q) : Cl Γ l mX8_forgets [vR 0] n g h (RI g Q) := by
  refine Cl.of (by decide) [some (vR 0), none] rfl (Nat.le_of_ble_eq_true rfl) ?_
  intro p e s m args below meth c a
  unfold wp_X8_forgets at hw
  refine ok_aload_n (pc := 0) a dX8_forgets_0 rfl rfl ?_
  refine ok_VPI (pc := 1) a [] [] (M_X8_knownPairs hn tg   hw) dX8_forgets_1 lkRX8_147 rfl (Nat.lt_of_lt_of_le (by decide) hn) kq0 (by decide) rfl ⟨Nat.le_of_ble_eq_true rfl, Nat.le_of_ble_eq_true rfl⟩ rfl (Nat.le_of_ble_eq_true rfl) rfl (fun r1 hw => ?_)
  refine ok_sI_n (pc := 4) a [some (vR 0), some (vI r1)] dX8_forgets_4 rfl (by decide) rfl rfl ?_
  refine ok_aload_n (pc := 5) a dX8_forgets_5 rfl rfl ?_
  refine ok_getR (pc := 6) a dX8_forgets_6 lfRX8_36 (Nat.lt_of_lt_of_le (by decide) hn) kq0 rfl (tg.at 0 4 15 (by decide) (by decide)) ?_
  refine ok_aload_n (pc := 9) a dX8_forgets_9 rfl rfl ?_
  refine ok_getR (pc := 10) a dX8_forgets_10 lfRX8_29 (Nat.lt_of_lt_of_le (by decide) hn) kq0 rfl (tg.at 0 3 13 (by decide) (by decide)) ?_
  refine ok_VRV (pc := 13) a [(vR 13)] [] (M_X2_push hn tg   hw) dX8_forgets_13 lkRX8_160 rfl (Nat.lt_of_lt_of_le (by decide) hn) kq15 (by decide) rfl ⟨Nat.le_of_ble_eq_true rfl, Nat.le_of_ble_eq_true rfl⟩ rfl (Nat.le_of_ble_eq_true rfl) rfl (fun h2 hw => ?_)
  refine ok_aload_n (pc := 16) a dX8_forgets_16 rfl rfl ?_
  refine ok_getR (pc := 17) a dX8_forgets_17 lfRX8_29 (Nat.lt_of_lt_of_le (by decide) hn) kq0 rfl (tg.at 0 3 13 (by decide) (by decide)) ?_
  refine ok_iconst (pc := 20) a dX8_forgets_20 ?_
  refine ok_pI (pc := 21) 2 a dX8_forgets_21 lfRX8_171 fi_4_2 (Nat.lt_of_lt_of_le (by decide) hn) kq13 ty_4_2 rfl (fun h3 eh3 => ?_)
  have hw := hw h3 eh3
  refine ok_iload_n (pc := 24) a dX8_forgets_24 rfl rfl ?_
  exact ok_iret (pc := 25) a dX8_forgets_25 ⟨_, rfl, rfl, hw⟩

def wp_X8_undo  (h : aH) (Q : Int → aH → Prop) : Prop :=
  inR (h 15 2) ∧ (((h 15 2) = 0 → Q (-2) h) ∧ (¬ (h 15 2) = 0 → wp_X2_popInto h (fun h2 => Q (h2 15 2) h2)))
set_option maxRecDepth 100000 in
set_option maxHeartbeats 4000000 in
theorem M_X8_undo {Γ : Gm} {l : Launch} {n : Nat} {g : aG} (hn : 59 ≤ n) (tg : TC g)   {h : aH} {Q : Int → aH → Prop} (hw : wp_X8_undo  h Q) : Cl Γ l mX8_undo [vR 0] n g h (RI g Q) := by
  refine Cl.of (by decide) [some (vR 0)] rfl (Nat.le_of_ble_eq_true rfl) ?_
  intro p e s m args below meth c a
  unfold wp_X8_undo at hw
  refine ok_aload_n (pc := 0) a dX8_undo_0 rfl rfl ?_
  refine ok_getR (pc := 1) a dX8_undo_1 lfRX8_36 (Nat.lt_of_lt_of_le (by decide) hn) kq0 rfl (tg.at 0 4 15 (by decide) (by decide)) ?_
  refine ok_fI (pc := 4) 2 a dX8_undo_4 lfRX8_157 (Nat.lt_of_lt_of_le (by decide) hn) kq15 ty_2_2 rfl ?_
  obtain ⟨hc1, hw⟩ := hw
  refine ok_if_ne (pc := 7) a 13 dX8_undo_7 (by decide) hc1 (fun hd3 => ?_) (fun hd3 => ?_)
  · have hw := hw.2 hd3
    refine ok_aload_n (pc := 13) a dX8_undo_13 rfl rfl ?_
    refine ok_getR (pc := 14) a dX8_undo_14 lfRX8_36 (Nat.lt_of_lt_of_le (by decide) hn) kq0 rfl (tg.at 0 4 15 (by decide) (by decide)) ?_
    refine ok_aload_n (pc := 17) a dX8_undo_17 rfl rfl ?_
    refine ok_getR (pc := 18) a dX8_undo_18 lfRX8_29 (Nat.lt_of_lt_of_le (by decide) hn) kq0 rfl (tg.at 0 3 13 (by decide) (by decide)) ?_
    refine ok_VRV (pc := 21) a [(vR 13)] [] (M_X2_popInto hn tg   hw) dX8_undo_21 lkRX8_184 rfl (Nat.lt_of_lt_of_le (by decide) hn) kq15 (by decide) rfl ⟨Nat.le_of_ble_eq_true rfl, Nat.le_of_ble_eq_true rfl⟩ rfl (Nat.le_of_ble_eq_true rfl) rfl (fun h2 hw => ?_)
    refine ok_aload_n (pc := 24) a dX8_undo_24 rfl rfl ?_
    refine ok_getR (pc := 25) a dX8_undo_25 lfRX8_36 (Nat.lt_of_lt_of_le (by decide) hn) kq0 rfl (tg.at 0 4 15 (by decide) (by decide)) ?_
    refine ok_fI (pc := 28) 2 a dX8_undo_28 lfRX8_157 (Nat.lt_of_lt_of_le (by decide) hn) kq15 ty_2_2 rfl ?_
    exact ok_iret (pc := 31) a dX8_undo_31 ⟨_, rfl, rfl, hw⟩
  · have hw := hw.1 hd3
    refine ok_bipush (pc := 10) a dX8_undo_10 (by decide) ?_
    exact ok_iret (pc := 12) a dX8_undo_12 ⟨_, rfl, rfl, hw⟩

def wp_X8_beam (x1 : Int) (x2 : Int) (h : aH) (Q : Int → Prop) : Prop :=
  wp_X8_isPair x1 x2 h (fun r1 => ((r1 = 0 → Q (-1000000)) ∧ (¬ r1 = 0 → wp_X8_heavinessOf x1 h (fun r3 => wp_X8_heavinessOf x2 h (fun r4 => Q (r3 - r4))))))
set_option maxRecDepth 100000 in
set_option maxHeartbeats 4000000 in
theorem M_X8_beam {Γ : Gm} {l : Launch} {n : Nat} {g : aG} (hn : 59 ≤ n) (tg : TC g) (x1 : Int) (x2 : Int)  {h : aH} {Q : Int → Prop} (hw : wp_X8_beam x1 x2 h Q) : Cl Γ l mX8_beam [vR 0, vI x1, vI x2] n g h (PI g h Q) := by
  refine Cl.of (by decide) [some (vR 0), some (vI x1), some (vI x2)] rfl (Nat.le_of_ble_eq_true rfl) ?_
  intro p e s m args below meth c a
  unfold wp_X8_beam at hw
  refine ok_aload_n (pc := 0) a dX8_beam_0 rfl rfl ?_
  refine ok_iload_n (pc := 1) a dX8_beam_1 rfl rfl ?_
  refine ok_iload_n (pc := 2) a dX8_beam_2 rfl rfl ?_
  refine ok_VPZ (pc := 3) a [(vI x1), (vI x2)] [] (M_X8_isPair hn tg x1 x2  hw) dX8_beam_3 lkRX8_136 rfl (Nat.lt_of_lt_of_le (by decide) hn) kq0 (by decide) rfl ⟨Nat.le_of_ble_eq_true rfl, Nat.le_of_ble_eq_true rfl⟩ rfl (Nat.le_of_ble_eq_true rfl) rfl (fun r1 hz2 hw => ?_)
  refine ok_if_eq (pc := 6) a 23 dX8_beam_6 (by decide) (inR_b hz2) (fun hd5 => ?_) (fun hd5 => ?_)
  · have hw := hw.1 hd5
    refine ok_ldc (pc := 23) (x := (-1000000)) a dX8_beam_23 ctRX8_187 (by decide) ?_
    exact ok_iret (pc := 25) a dX8_beam_25 ⟨_, rfl, rfl, rfl, hw⟩
  · have hw := hw.2 hd5
    refine ok_aload_n (pc := 9) a dX8_beam_9 rfl rfl ?_
    refine ok_iload_n (pc := 10) a dX8_beam_10 rfl rfl ?_
    refine ok_VPI (pc := 11) a [(vI x1)] [] (M_X8_heavinessOf hn tg x1  hw) dX8_beam_11 lkRX8_132 rfl (Nat.lt_of_lt_of_le (by decide) hn) kq0 (by decide) rfl ⟨Nat.le_of_ble_eq_true rfl, Nat.le_of_ble_eq_true rfl⟩ rfl (Nat.le_of_ble_eq_true rfl) rfl (fun r3 hw => ?_)
    refine ok_aload_n (pc := 14) a dX8_beam_14 rfl rfl ?_
    refine ok_iload_n (pc := 15) a dX8_beam_15 rfl rfl ?_
    refine ok_VPI (pc := 16) a [(vI x2)] [(vI r3)] (M_X8_heavinessOf hn tg x2  hw) dX8_beam_16 lkRX8_132 rfl (Nat.lt_of_lt_of_le (by decide) hn) kq0 (by decide) rfl ⟨Nat.le_of_ble_eq_true rfl, Nat.le_of_ble_eq_true rfl⟩ rfl (Nat.le_of_ble_eq_true rfl) rfl (fun r4 hw => ?_)
    refine ok_isub (pc := 19) a dX8_beam_19 ?_
    refine ok_goto (pc := 20) a 25 dX8_beam_20 (by decide) ?_
    exact ok_iret (pc := 25) a dX8_beam_25 ⟨_, rfl, rfl, rfl, hw⟩

def wp_X8_level (x1 : Int) (x2 : Int) (x3 : Int) (h : aH) (Q : Int → aH → Prop) : Prop :=
  wp_X8_isPair x1 x2 h (fun r1 => ((r1 = 0 → Q (-1) h) ∧ (¬ r1 = 0 → wp_X8_within x3 0 9 h (fun r3 => ((r3 = 0 → Q (-1) h) ∧ (¬ r3 = 0 → wp_X3_find x1 x2 h (fun h5 => inR x3 ∧ ((x3 = 0 → Q (h5 49 2) h5) ∧ (¬ x3 = 0 → ((x3 = 1 → Q (h5 49 3) h5) ∧ (¬ x3 = 1 → ((6 ≤ x3 → wp_X3_secondSays x2 (x3 - 6) h5 (fun r7 => Q r7 h5)) ∧ (¬ 6 ≤ x3 → wp_X3_firstSays x1 (x3 - 2) h5 (fun r8 => Q r8 h5))))))))))))))
set_option maxRecDepth 100000 in
set_option maxHeartbeats 4000000 in
theorem M_X8_level {Γ : Gm} {l : Launch} {n : Nat} {g : aG} (hn : 59 ≤ n) (tg : TC g) (x1 : Int) (x2 : Int) (x3 : Int)  {h : aH} {Q : Int → aH → Prop} (hw : wp_X8_level x1 x2 x3 h Q) : Cl Γ l mX8_level [vR 0, vI x1, vI x2, vI x3] n g h (RI g Q) := by
  refine Cl.of (by decide) [some (vR 0), some (vI x1), some (vI x2), some (vI x3)] rfl (Nat.le_of_ble_eq_true rfl) ?_
  intro p e s m args below meth c a
  unfold wp_X8_level at hw
  refine ok_aload_n (pc := 0) a dX8_level_0 rfl rfl ?_
  refine ok_iload_n (pc := 1) a dX8_level_1 rfl rfl ?_
  refine ok_iload_n (pc := 2) a dX8_level_2 rfl rfl ?_
  refine ok_VPZ (pc := 3) a [(vI x1), (vI x2)] [] (M_X8_isPair hn tg x1 x2  hw) dX8_level_3 lkRX8_136 rfl (Nat.lt_of_lt_of_le (by decide) hn) kq0 (by decide) rfl ⟨Nat.le_of_ble_eq_true rfl, Nat.le_of_ble_eq_true rfl⟩ rfl (Nat.le_of_ble_eq_true rfl) rfl (fun r1 hz2 hw => ?_)
  refine ok_if_eq (pc := 6) a 19 dX8_level_6 (by decide) (inR_b hz2) (fun hd13 => ?_) (fun hd13 => ?_)
  · have hw := hw.1 hd13
    refine ok_iconst (pc := 19) a dX8_level_19 ?_
    exact ok_iret (pc := 20) a dX8_level_20 ⟨_, rfl, rfl, hw⟩
  · have hw := hw.2 hd13
    refine ok_iload_n (pc := 9) a dX8_level_9 rfl rfl ?_
    refine ok_iconst (pc := 10) a dX8_level_10 ?_
    refine ok_bipush (pc := 11) a dX8_level_11 (by decide) ?_
    refine ok_SPZ (pc := 13) a [(vI x3), (vI 0), (vI 9)] [] (M_X8_within hn tg x3 0 9  hw) dX8_level_13 lkRX8_82 rfl ⟨Nat.le_of_ble_eq_true rfl, Nat.le_of_ble_eq_true rfl⟩ rfl (Nat.le_of_ble_eq_true rfl) rfl (fun r3 hz4 hw => ?_)
    refine ok_if_ne (pc := 16) a 21 dX8_level_16 (by decide) (inR_b hz4) (fun hd12 => ?_) (fun hd12 => ?_)
    · have hw := hw.2 hd12
      refine ok_aload_n (pc := 21) a dX8_level_21 rfl rfl ?_
      refine ok_getR (pc := 22) a dX8_level_22 lfRX8_65 (Nat.lt_of_lt_of_le (by decide) hn) kq0 rfl (tg.at 0 9 49 (by decide) (by decide)) ?_
      refine ok_aload_n (pc := 25) a dX8_level_25 rfl rfl ?_
      refine ok_getR (pc := 26) a dX8_level_26 lfRX8_19 (Nat.lt_of_lt_of_le (by decide) hn) kq0 rfl (tg.at 0 1 3 (by decide) (by decide)) ?_
      refine ok_getR (pc := 29) a dX8_level_29 lfRX8_123 (Nat.lt_of_lt_of_le (by decide) hn) kq3 rfl (tg.at 3 0 4 (by decide) (by decide)) ?_
      refine ok_aload_n (pc := 32) a dX8_level_32 rfl rfl ?_
      refine ok_getR (pc := 33) a dX8_level_33 lfRX8_29 (Nat.lt_of_lt_of_le (by decide) hn) kq0 rfl (tg.at 0 3 13 (by decide) (by decide)) ?_
      refine ok_getR (pc := 36) a dX8_level_36 lfRX8_116 (Nat.lt_of_lt_of_le (by decide) hn) kq13 rfl (tg.at 13 0 14 (by decide) (by decide)) ?_
      refine ok_iload_n (pc := 39) a dX8_level_39 rfl rfl ?_
      refine ok_iload_n (pc := 40) a dX8_level_40 rfl rfl ?_
      refine ok_VRV (pc := 41) a [(vR 4), (vR 14), (vI x1), (vI x2)] [] (M_X3_find hn tg x1 x2  hw) dX8_level_41 lkRX8_188 rfl (Nat.lt_of_lt_of_le (by decide) hn) kq49 (by decide) rfl ⟨Nat.le_of_ble_eq_true rfl, Nat.le_of_ble_eq_true rfl⟩ rfl (Nat.le_of_ble_eq_true rfl) rfl (fun h5 hw => ?_)
      refine ok_iload_n (pc := 44) a dX8_level_44 rfl rfl ?_
      obtain ⟨hc6, hw⟩ := hw
      refine ok_if_ne (pc := 45) a 56 dX8_level_45 (by decide) hc6 (fun hd11 => ?_) (fun hd11 => ?_)
      · have hw := hw.2 hd11
        refine ok_iload_n (pc := 56) a dX8_level_56 rfl rfl ?_
        refine ok_iconst (pc := 57) a dX8_level_57 ?_
        refine ok_icmp_ne (pc := 58) a 69 dX8_level_58 (by decide) hc6 ⟨by decide, by decide⟩ (fun hd10 => ?_) (fun hd10 => ?_)
        · have hw := hw.2 hd10
          refine ok_iload_n (pc := 69) a dX8_level_69 rfl rfl ?_
          refine ok_bipush (pc := 70) a dX8_level_70 (by decide) ?_
          refine ok_icmp_ge (pc := 72) a 103 dX8_level_72 (by decide) hc6 ⟨by decide, by decide⟩ (fun hd9 => ?_) (fun hd9 => ?_)
          · have hw := hw.1 hd9
            refine ok_aload_n (pc := 103) a dX8_level_103 rfl rfl ?_
            refine ok_getR (pc := 104) a dX8_level_104 lfRX8_65 (Nat.lt_of_lt_of_le (by decide) hn) kq0 rfl (tg.at 0 9 49 (by decide) (by decide)) ?_
            refine ok_aload_n (pc := 107) a dX8_level_107 rfl rfl ?_
            refine ok_getR (pc := 108) a dX8_level_108 lfRX8_19 (Nat.lt_of_lt_of_le (by decide) hn) kq0 rfl (tg.at 0 1 3 (by decide) (by decide)) ?_
            refine ok_getR (pc := 111) a dX8_level_111 lfRX8_123 (Nat.lt_of_lt_of_le (by decide) hn) kq3 rfl (tg.at 3 0 4 (by decide) (by decide)) ?_
            refine ok_aload_n (pc := 114) a dX8_level_114 rfl rfl ?_
            refine ok_getR (pc := 115) a dX8_level_115 lfRX8_29 (Nat.lt_of_lt_of_le (by decide) hn) kq0 rfl (tg.at 0 3 13 (by decide) (by decide)) ?_
            refine ok_getR (pc := 118) a dX8_level_118 lfRX8_116 (Nat.lt_of_lt_of_le (by decide) hn) kq13 rfl (tg.at 13 0 14 (by decide) (by decide)) ?_
            refine ok_iload_n (pc := 121) a dX8_level_121 rfl rfl ?_
            refine ok_iload_n (pc := 122) a dX8_level_122 rfl rfl ?_
            refine ok_bipush (pc := 123) a dX8_level_123 (by decide) ?_
            refine ok_isub (pc := 125) a dX8_level_125 ?_
            refine ok_VPI (pc := 126) a [(vR 4), (vR 14), (vI x2), (vI (x3 - 6))] [] (M_X3_secondSays hn tg x2 (x3 - 6)  hw) dX8_level_126 lkRX8_202 rfl (Nat.lt_of_lt_of_le (by decide) hn) kq49 (by decide) rfl ⟨Nat.le_of_ble_eq_true rfl, Nat.le_of_ble_eq_true rfl⟩ rfl (Nat.le_of_ble_eq_true rfl) rfl (fun r7 hw => ?_)
            exact ok_iret (pc := 129) a dX8_level_129 ⟨_, rfl, rfl, hw⟩
          · have hw := hw.2 hd9
            refine ok_aload_n (pc := 75) a dX8_level_75 rfl rfl ?_
            refine ok_getR (pc := 76) a dX8_level_76 lfRX8_65 (Nat.lt_of_lt_of_le (by decide) hn) kq0 rfl (tg.at 0 9 49 (by decide) (by decide)) ?_
            refine ok_aload_n (pc := 79) a dX8_level_79 rfl rfl ?_
            refine ok_getR (pc := 80) a dX8_level_80 lfRX8_19 (Nat.lt_of_lt_of_le (by decide) hn) kq0 rfl (tg.at 0 1 3 (by decide) (by decide)) ?_
            refine ok_getR (pc := 83) a dX8_level_83 lfRX8_123 (Nat.lt_of_lt_of_le (by decide) hn) kq3 rfl (tg.at 3 0 4 (by decide) (by decide)) ?_
            refine ok_aload_n (pc := 86) a dX8_level_86 rfl rfl ?_
            refine ok_getR (pc := 87) a dX8_level_87 lfRX8_29 (Nat.lt_of_lt_of_le (by decide) hn) kq0 rfl (tg.at 0 3 13 (by decide) (by decide)) ?_
            refine ok_getR (pc := 90) a dX8_level_90 lfRX8_116 (Nat.lt_of_lt_of_le (by decide) hn) kq13 rfl (tg.at 13 0 14 (by decide) (by decide)) ?_
            refine ok_iload_n (pc := 93) a dX8_level_93 rfl rfl ?_
            refine ok_iload_n (pc := 94) a dX8_level_94 rfl rfl ?_
            refine ok_iconst (pc := 95) a dX8_level_95 ?_
            refine ok_isub (pc := 96) a dX8_level_96 ?_
            refine ok_VPI (pc := 97) a [(vR 4), (vR 14), (vI x1), (vI (x3 - 2))] [] (M_X3_firstSays hn tg x1 (x3 - 2)  hw) dX8_level_97 lkRX8_198 rfl (Nat.lt_of_lt_of_le (by decide) hn) kq49 (by decide) rfl ⟨Nat.le_of_ble_eq_true rfl, Nat.le_of_ble_eq_true rfl⟩ rfl (Nat.le_of_ble_eq_true rfl) rfl (fun r8 hw => ?_)
            refine ok_goto (pc := 100) a 129 dX8_level_100 (by decide) ?_
            exact ok_iret (pc := 129) a dX8_level_129 ⟨_, rfl, rfl, hw⟩
        · have hw := hw.1 hd10
          refine ok_aload_n (pc := 61) a dX8_level_61 rfl rfl ?_
          refine ok_getR (pc := 62) a dX8_level_62 lfRX8_65 (Nat.lt_of_lt_of_le (by decide) hn) kq0 rfl (tg.at 0 9 49 (by decide) (by decide)) ?_
          refine ok_fI (pc := 65) 3 a dX8_level_65 lfRX8_195 (Nat.lt_of_lt_of_le (by decide) hn) kq49 ty_3_3 rfl ?_
          exact ok_iret (pc := 68) a dX8_level_68 ⟨_, rfl, rfl, hw⟩
      · have hw := hw.1 hd11
        refine ok_aload_n (pc := 48) a dX8_level_48 rfl rfl ?_
        refine ok_getR (pc := 49) a dX8_level_49 lfRX8_65 (Nat.lt_of_lt_of_le (by decide) hn) kq0 rfl (tg.at 0 9 49 (by decide) (by decide)) ?_
        refine ok_fI (pc := 52) 2 a dX8_level_52 lfRX8_192 (Nat.lt_of_lt_of_le (by decide) hn) kq49 ty_3_2 rfl ?_
        exact ok_iret (pc := 55) a dX8_level_55 ⟨_, rfl, rfl, hw⟩
    · have hw := hw.1 hd12
      refine ok_iconst (pc := 19) a dX8_level_19 ?_
      exact ok_iret (pc := 20) a dX8_level_20 ⟨_, rfl, rfl, hw⟩

def wp_X8_when_B13 (x1 : Int) (x2 : Int) (h : aH) (Q : Int → Prop) (X13 : Int → Prop) (x3_13 : Int) : Prop :=
  inR x3_13 ∧ ((99 < x3_13 → Q (-9)) ∧ (¬ 99 < x3_13 → wp_X8_heavinessAhead x1 x3_13 h (fun r4 => wp_X8_heavinessAhead x2 x3_13 h (fun r5 => inR r4 ∧ inR r5 ∧ ((r4 ≤ r5 → X13 (x3_13 + 1)) ∧ (¬ r4 ≤ r5 → Q ((h 13 1) + x3_13)))))))
def wp_X8_when (x1 : Int) (x2 : Int) (h : aH) (Q : Int → Prop) : Prop :=
  wp_X8_isPair x1 x2 h (fun r1 => ((r1 = 0 → Q (-1)) ∧ (¬ r1 = 0 → lp (fun X y => wp_X8_when_B13 x1 x2 h Q X y) 0)))
set_option maxRecDepth 100000 in
set_option maxHeartbeats 4000000 in
theorem M_X8_when {Γ : Gm} {l : Launch} {n : Nat} {g : aG} (hn : 59 ≤ n) (tg : TC g) (x1 : Int) (x2 : Int)  {h : aH} {Q : Int → Prop} (hw : wp_X8_when x1 x2 h Q) : Cl Γ l mX8_when [vR 0, vI x1, vI x2] n g h (PI g h Q) := by
  refine Cl.of (by decide) [some (vR 0), some (vI x1), some (vI x2), none] rfl (Nat.le_of_ble_eq_true rfl) ?_
  intro p e s m args below meth c a
  unfold wp_X8_when at hw
  refine ok_aload_n (pc := 0) a dX8_when_0 rfl rfl ?_
  refine ok_iload_n (pc := 1) a dX8_when_1 rfl rfl ?_
  refine ok_iload_n (pc := 2) a dX8_when_2 rfl rfl ?_
  refine ok_VPZ (pc := 3) a [(vI x1), (vI x2)] [] (M_X8_isPair hn tg x1 x2  hw) dX8_when_3 lkRX8_136 rfl (Nat.lt_of_lt_of_le (by decide) hn) kq0 (by decide) rfl ⟨Nat.le_of_ble_eq_true rfl, Nat.le_of_ble_eq_true rfl⟩ rfl (Nat.le_of_ble_eq_true rfl) rfl (fun r1 hz2 hw => ?_)
  refine ok_if_ne (pc := 6) a 11 dX8_when_6 (by decide) (inR_b hz2) (fun hd10 => ?_) (fun hd10 => ?_)
  · have hw := hw.2 hd10
    refine ok_iconst (pc := 11) a dX8_when_11 ?_
    refine ok_sI_n (pc := 12) a [some (vR 0), some (vI x1), some (vI x2), some (vI 0)] dX8_when_12 rfl (by decide) rfl rfl ?_
    refine lp.use (P := fun y => OK Γ p l e (rmd 3 n n) s m args below meth c n (MQ below (QQ Γ n (PI g h Q)) args s (n - n) (sl n - sl n) (AA Γ)) 13 [some (vR 0), some (vI x1), some (vI x2), some (vI y)] [] n g h) ?_ 0 hw
    clear hw
    intro X13 hX13 y hw
    generalize y = x3_13 at hw ⊢
    have hw : wp_X8_when_B13 x1 x2 h Q X13 x3_13 := hw
    unfold wp_X8_when_B13 at hw
    try dsimp only
    refine ok_iload_n (pc := 13) a dX8_when_13 rfl rfl ?_
    refine ok_bipush (pc := 14) a dX8_when_14 (by decide) ?_
    obtain ⟨hc3, hw⟩ := hw
    refine ok_icmp_gt (pc := 16) a 50 dX8_when_16 (by decide) hc3 ⟨by decide, by decide⟩ (fun hd9 => ?_) (fun hd9 => ?_)
    · have hw := hw.1 hd9
      refine ok_bipush (pc := 50) a dX8_when_50 (by decide) ?_
      exact ok_iret (pc := 52) a dX8_when_52 ⟨_, rfl, rfl, rfl, hw⟩
    · have hw := hw.2 hd9
      refine ok_aload_n (pc := 19) a dX8_when_19 rfl rfl ?_
      refine ok_iload_n (pc := 20) a dX8_when_20 rfl rfl ?_
      refine ok_iload_n (pc := 21) a dX8_when_21 rfl rfl ?_
      refine ok_VPI (pc := 22) a [(vI x1), (vI x3_13)] [] (M_X8_heavinessAhead hn tg x1 x3_13  hw) dX8_when_22 lkRX8_205 rfl (Nat.lt_of_lt_of_le (by decide) hn) kq0 (by decide) rfl ⟨Nat.le_of_ble_eq_true rfl, Nat.le_of_ble_eq_true rfl⟩ rfl (Nat.le_of_ble_eq_true rfl) rfl (fun r4 hw => ?_)
      refine ok_aload_n (pc := 25) a dX8_when_25 rfl rfl ?_
      refine ok_iload_n (pc := 26) a dX8_when_26 rfl rfl ?_
      refine ok_iload_n (pc := 27) a dX8_when_27 rfl rfl ?_
      refine ok_VPI (pc := 28) a [(vI x2), (vI x3_13)] [(vI r4)] (M_X8_heavinessAhead hn tg x2 x3_13  hw) dX8_when_28 lkRX8_205 rfl (Nat.lt_of_lt_of_le (by decide) hn) kq0 (by decide) rfl ⟨Nat.le_of_ble_eq_true rfl, Nat.le_of_ble_eq_true rfl⟩ rfl (Nat.le_of_ble_eq_true rfl) rfl (fun r5 hw => ?_)
      obtain ⟨hc6, hw⟩ := hw
      obtain ⟨hc7, hw⟩ := hw
      refine ok_icmp_le (pc := 31) a 44 dX8_when_31 (by decide) hc6 hc7 (fun hd8 => ?_) (fun hd8 => ?_)
      · have hw := hw.1 hd8
        refine ok_inc (pc := 44) a [some (vR 0), some (vI x1), some (vI x2), some (vI (x3_13 + 1))] dX8_when_44 rfl (by decide) rfl rfl ?_
        refine ok_goto (pc := 47) a 13 dX8_when_47 (by decide) ?_
        exact hX13 (x3_13 + 1) hw
      · have hw := hw.2 hd8
        refine ok_aload_n (pc := 34) a dX8_when_34 rfl rfl ?_
        refine ok_getR (pc := 35) a dX8_when_35 lfRX8_29 (Nat.lt_of_lt_of_le (by decide) hn) kq0 rfl (tg.at 0 3 13 (by decide) (by decide)) ?_
        refine ok_fI (pc := 38) 1 a dX8_when_38 lfRX8_144 (Nat.lt_of_lt_of_le (by decide) hn) kq13 ty_4_1 rfl ?_
        refine ok_iload_n (pc := 41) a dX8_when_41 rfl rfl ?_
        refine ok_iadd (pc := 42) a dX8_when_42 ?_
        exact ok_iret (pc := 43) a dX8_when_43 ⟨_, rfl, rfl, rfl, hw⟩
  · have hw := hw.1 hd10
    refine ok_iconst (pc := 9) a dX8_when_9 ?_
    exact ok_iret (pc := 10) a dX8_when_10 ⟨_, rfl, rfl, rfl, hw⟩

def wp_X8_power_B5 (x0 : Int) (x1 : Int) (Q : Int → Prop) (X5 : Int × Int → Prop) (x2_5 : Int) (x4_5 : Int) : Prop :=
  inR x4_5 ∧ inR x1 ∧ ((x1 ≤ x4_5 → Q x2_5) ∧ (¬ x1 ≤ x4_5 → inR x0 ∧ ∀ x2_15, x2_15 = (x2_5 * x0) → X5 (x2_15, (x4_5 + 1))))
def wp_X8_power (x0 : Int) (x1 : Int) (h : aH) (Q : Int → Prop) : Prop :=
  lp (fun X y => wp_X8_power_B5 x0 x1 Q X y.1 y.2) (1, 0)
set_option maxRecDepth 100000 in
set_option maxHeartbeats 4000000 in
theorem M_X8_power {Γ : Gm} {l : Launch} {n : Nat} {g : aG} (hn : 59 ≤ n) (tg : TC g) (x0 : Int) (x1 : Int)  {h : aH} {Q : Int → Prop} (hw : wp_X8_power x0 x1 h Q) : Cl Γ l mX8_power [vI x0, vI x1] n g h (PL g h Q) := by
  refine Cl.of (by decide) [some (vI x0), some (vI x1), none, none, none] rfl (Nat.le_of_ble_eq_true rfl) ?_
  intro p e s m args below meth c a
  unfold wp_X8_power at hw
  refine ok_lconst (pc := 0) (x := 1) a dX8_power_0 (by decide) ?_
  refine ok_sL_n (pc := 1) a [some (vI x0), some (vI x1), some (vL 1), none, none] dX8_power_1 rfl (by decide) rfl rfl ?_
  refine ok_iconst (pc := 2) a dX8_power_2 ?_
  refine ok_sI (pc := 3) a [some (vI x0), some (vI x1), some (vL 1), none, some (vI 0)] dX8_power_3 (by decide) rfl rfl ?_
  refine lp.use (P := fun y => OK Γ p l e (rmd 0 n n) s m args below meth c n (MQ below (QQ Γ n (PL g h Q)) args s (n - n) (sl n - sl n) (AA Γ)) 5 [some (vI x0), some (vI x1), some (vL y.1), none, some (vI y.2)] [] n g h) ?_ (1, 0) hw
  clear hw
  intro X5 hX5 y hw
  obtain ⟨x2_5, x4_5⟩ := y
  have hw : wp_X8_power_B5 x0 x1 Q X5 x2_5 x4_5 := hw
  unfold wp_X8_power_B5 at hw
  try dsimp only
  refine ok_iload (pc := 5) a dX8_power_5 rfl ?_
  refine ok_iload_n (pc := 7) a dX8_power_7 rfl rfl ?_
  obtain ⟨hc1, hw⟩ := hw
  obtain ⟨hc2, hw⟩ := hw
  refine ok_icmp_ge (pc := 8) a 22 dX8_power_8 (by decide) hc1 hc2 (fun hd4 => ?_) (fun hd4 => ?_)
  · have hw := hw.1 hd4
    refine ok_lload_n (pc := 22) a dX8_power_22 rfl rfl ?_
    exact ok_lret (pc := 23) a dX8_power_23 ⟨_, rfl, rfl, rfl, hw⟩
  · have hw := hw.2 hd4
    refine ok_lload_n (pc := 11) a dX8_power_11 rfl rfl ?_
    refine ok_iload_n (pc := 12) a dX8_power_12 rfl rfl ?_
    obtain ⟨hc3, hw⟩ := hw
    refine ok_i2l (pc := 13) a dX8_power_13 hc3 ?_
    refine ok_lmul (pc := 14) a dX8_power_14 ?_
    refine ok_nmL (fun x2_15 ex2_15 => ?_)
    have hw := hw x2_15 ex2_15
    refine ok_sL_n (pc := 15) a [some (vI x0), some (vI x1), some (vL x2_15), none, some (vI x4_5)] dX8_power_15 rfl (by decide) rfl rfl ?_
    refine ok_inc (pc := 16) a [some (vI x0), some (vI x1), some (vL x2_15), none, some (vI (x4_5 + 1))] dX8_power_16 rfl (by decide) rfl rfl ?_
    refine ok_goto (pc := 19) a 5 dX8_power_19 (by decide) ?_
    exact hX5 (x2_15, (x4_5 + 1)) hw

def wp_X8_lighterWays_J91 (x5_13 : Int) (X37 : Int × Int × Int → Prop) (x7_37 : Int) (x11_37 : Int) (x9_91 : Int) : Prop :=
  inR (x5_13 - x11_37) ∧ inR (x11_37 + 1) ∧ ((0 ≤ (x7_37 * (x5_13 - x11_37)) ∧ (x7_37 * (x5_13 - x11_37)) < 9223372036854775808) ∧ 0 < (x11_37 + 1) ∧ (x11_37 + 1) < 9223372036854775808) ∧ ∀ x7_106, x7_106 = ((x7_37 * (x5_13 - x11_37)) / (x11_37 + 1)) → X37 (x7_106, x9_91, (x11_37 + 1))
def wp_X8_lighterWays_B37 (x3 : Int) (x4 : Int) (h : aH) (Q : Int → Prop) (x5_13 : Int) (x6_26 : Int) (X37 : Int × Int × Int → Prop) (x7_37 : Int) (x9_37 : Int) (x11_37 : Int) : Prop :=
  inR x11_37 ∧ inR x5_13 ∧ ((x5_13 < x11_37 → Q x9_37) ∧ (¬ x5_13 < x11_37 → (0 ≤ x3 ∧ x3 < 4) ∧ inR (x6_26 - (x11_37 * (h 4 x3))) ∧ ((0 ≤ (x6_26 - (x11_37 * (h 4 x3))) → wp_X8_lighterWays_J91 x5_13 X37 x7_37 x11_37 x9_37) ∧ (¬ 0 ≤ (x6_26 - (x11_37 * (h 4 x3))) → wp_X8_power x4 x11_37 h (fun r11 => wp_X8_power (10 - x4) (x5_13 - x11_37) h (fun r12 => ∀ x9_89, x9_89 = (x9_37 + ((x7_37 * r11) * r12)) → wp_X8_lighterWays_J91 x5_13 X37 x7_37 x11_37 x9_89))))))
def wp_X8_lighterWays (x1 : Int) (x2 : Int) (x3 : Int) (x4 : Int) (h : aH) (Q : Int → Prop) : Prop :=
  (0 ≤ ((x1 * 4) + x3) ∧ ((x1 * 4) + x3) < 16) ∧ ∀ x5_13, x5_13 = (h 14 ((x1 * 4) + x3)) → wp_X8_heavinessOf x1 h (fun r2 => wp_X8_heavinessOf x2 h (fun r3 => ∀ x6_26, x6_26 = (r2 - r3) → lp (fun X y => wp_X8_lighterWays_B37 x3 x4 h Q x5_13 x6_26 X y.1 y.2.1 y.2.2) (1, 0, 0)))
set_option maxRecDepth 100000 in
set_option maxHeartbeats 4000000 in
theorem M_X8_lighterWays {Γ : Gm} {l : Launch} {n : Nat} {g : aG} (hn : 59 ≤ n) (tg : TC g) (x1 : Int) (x2 : Int) (x3 : Int) (x4 : Int)  {h : aH} {Q : Int → Prop} (hw : wp_X8_lighterWays x1 x2 x3 x4 h Q) : Cl Γ l mX8_lighterWays [vR 0, vI x1, vI x2, vI x3, vI x4] n g h (PL g h Q) := by
  refine Cl.of (by decide) [some (vR 0), some (vI x1), some (vI x2), some (vI x3), some (vI x4), none, none, none, none, none, none, none] rfl (Nat.le_of_ble_eq_true rfl) ?_
  intro p e s m args below meth c a
  unfold wp_X8_lighterWays at hw
  refine ok_aload_n (pc := 0) a dX8_lighterWays_0 rfl rfl ?_
  refine ok_getR (pc := 1) a dX8_lighterWays_1 lfRX8_29 (Nat.lt_of_lt_of_le (by decide) hn) kq0 rfl (tg.at 0 3 13 (by decide) (by decide)) ?_
  refine ok_getR (pc := 4) a dX8_lighterWays_4 lfRX8_116 (Nat.lt_of_lt_of_le (by decide) hn) kq13 rfl (tg.at 13 0 14 (by decide) (by decide)) ?_
  refine ok_iload_n (pc := 7) a dX8_lighterWays_7 rfl rfl ?_
  refine ok_iconst (pc := 8) a dX8_lighterWays_8 ?_
  refine ok_imul (pc := 9) a dX8_lighterWays_9 ?_
  refine ok_iload_n (pc := 10) a dX8_lighterWays_10 rfl rfl ?_
  refine ok_iadd (pc := 11) a dX8_lighterWays_11 ?_
  obtain ⟨hc1, hw⟩ := hw
  refine ok_iald (pc := 12) a dX8_lighterWays_12 (Nat.lt_of_lt_of_le (by decide) hn) kq14 (by decide) hc1 ?_
  refine ok_nmI (fun x5_13 ex5_13 => ?_)
  have hw := hw x5_13 ex5_13
  refine ok_sI (pc := 13) a [some (vR 0), some (vI x1), some (vI x2), some (vI x3), some (vI x4), some (vI x5_13), none, none, none, none, none, none] dX8_lighterWays_13 (by decide) rfl rfl ?_
  refine ok_aload_n (pc := 15) a dX8_lighterWays_15 rfl rfl ?_
  refine ok_iload_n (pc := 16) a dX8_lighterWays_16 rfl rfl ?_
  refine ok_VPI (pc := 17) a [(vI x1)] [] (M_X8_heavinessOf hn tg x1  hw) dX8_lighterWays_17 lkRX8_132 rfl (Nat.lt_of_lt_of_le (by decide) hn) kq0 (by decide) rfl ⟨Nat.le_of_ble_eq_true rfl, Nat.le_of_ble_eq_true rfl⟩ rfl (Nat.le_of_ble_eq_true rfl) rfl (fun r2 hw => ?_)
  refine ok_aload_n (pc := 20) a dX8_lighterWays_20 rfl rfl ?_
  refine ok_iload_n (pc := 21) a dX8_lighterWays_21 rfl rfl ?_
  refine ok_VPI (pc := 22) a [(vI x2)] [(vI r2)] (M_X8_heavinessOf hn tg x2  hw) dX8_lighterWays_22 lkRX8_132 rfl (Nat.lt_of_lt_of_le (by decide) hn) kq0 (by decide) rfl ⟨Nat.le_of_ble_eq_true rfl, Nat.le_of_ble_eq_true rfl⟩ rfl (Nat.le_of_ble_eq_true rfl) rfl (fun r3 hw => ?_)
  refine ok_isub (pc := 25) a dX8_lighterWays_25 ?_
  refine ok_nmI (fun x6_26 ex6_26 => ?_)
  have hw := hw x6_26 ex6_26
  refine ok_sI (pc := 26) a [some (vR 0), some (vI x1), some (vI x2), some (vI x3), some (vI x4), some (vI x5_13), some (vI x6_26), none, none, none, none, none] dX8_lighterWays_26 (by decide) rfl rfl ?_
  refine ok_lconst (pc := 28) (x := 1) a dX8_lighterWays_28 (by decide) ?_
  refine ok_sL (pc := 29) a [some (vR 0), some (vI x1), some (vI x2), some (vI x3), some (vI x4), some (vI x5_13), some (vI x6_26), some (vL 1), none, none, none, none] dX8_lighterWays_29 (by decide) rfl rfl ?_
  refine ok_lconst (pc := 31) (x := 0) a dX8_lighterWays_31 (by decide) ?_
  refine ok_sL (pc := 32) a [some (vR 0), some (vI x1), some (vI x2), some (vI x3), some (vI x4), some (vI x5_13), some (vI x6_26), some (vL 1), none, some (vL 0), none, none] dX8_lighterWays_32 (by decide) rfl rfl ?_
  refine ok_iconst (pc := 34) a dX8_lighterWays_34 ?_
  refine ok_sI (pc := 35) a [some (vR 0), some (vI x1), some (vI x2), some (vI x3), some (vI x4), some (vI x5_13), some (vI x6_26), some (vL 1), none, some (vL 0), none, some (vI 0)] dX8_lighterWays_35 (by decide) rfl rfl ?_
  refine lp.use (P := fun y => OK Γ p l e (rmd 3 n n) s m args below meth c n (MQ below (QQ Γ n (PL g h Q)) args s (n - n) (sl n - sl n) (AA Γ)) 37 [some (vR 0), some (vI x1), some (vI x2), some (vI x3), some (vI x4), some (vI x5_13), some (vI x6_26), some (vL y.1), none, some (vL y.2.1), none, some (vI y.2.2)] [] n g h) ?_ (1, 0, 0) hw
  clear hw
  intro X37 hX37 y hw
  obtain ⟨x7_37, x9_37, x11_37⟩ := y
  have hw : wp_X8_lighterWays_B37 x3 x4 h Q x5_13 x6_26 X37 x7_37 x9_37 x11_37 := hw
  unfold wp_X8_lighterWays_B37 at hw
  try dsimp only
  refine ok_iload (pc := 37) a dX8_lighterWays_37 rfl ?_
  refine ok_iload (pc := 39) a dX8_lighterWays_39 rfl ?_
  obtain ⟨hc4, hw⟩ := hw
  obtain ⟨hc5, hw⟩ := hw
  refine ok_icmp_gt (pc := 41) a 114 dX8_lighterWays_41 (by decide) hc4 hc5 (fun hd14 => ?_) (fun hd14 => ?_)
  · have hw := hw.1 hd14
    refine ok_lload (pc := 114) a dX8_lighterWays_114 rfl ?_
    exact ok_lret (pc := 116) a dX8_lighterWays_116 ⟨_, rfl, rfl, rfl, hw⟩
  · have hw := hw.2 hd14
    refine ok_iload (pc := 44) a dX8_lighterWays_44 rfl ?_
    refine ok_iload (pc := 46) a dX8_lighterWays_46 rfl ?_
    refine ok_aload_n (pc := 48) a dX8_lighterWays_48 rfl rfl ?_
    refine ok_getR (pc := 49) a dX8_lighterWays_49 lfRX8_19 (Nat.lt_of_lt_of_le (by decide) hn) kq0 rfl (tg.at 0 1 3 (by decide) (by decide)) ?_
    refine ok_getR (pc := 52) a dX8_lighterWays_52 lfRX8_123 (Nat.lt_of_lt_of_le (by decide) hn) kq3 rfl (tg.at 3 0 4 (by decide) (by decide)) ?_
    refine ok_iload_n (pc := 55) a dX8_lighterWays_55 rfl rfl ?_
    obtain ⟨hc6, hw⟩ := hw
    refine ok_iald (pc := 56) a dX8_lighterWays_56 (Nat.lt_of_lt_of_le (by decide) hn) kq4 (by decide) hc6 ?_
    refine ok_imul (pc := 57) a dX8_lighterWays_57 ?_
    refine ok_isub (pc := 58) a dX8_lighterWays_58 ?_
    obtain ⟨hc7, hw⟩ := hw
    have hJ91 : ∀ (x9_91 : Int), wp_X8_lighterWays_J91 x5_13 X37 x7_37 x11_37 x9_91 → OK Γ p l e (rmd 3 n n) s m args below meth c n (MQ below (QQ Γ n (PL g h Q)) args s (n - n) (sl n - sl n) (AA Γ)) 91 [some (vR 0), some (vI x1), some (vI x2), some (vI x3), some (vI x4), some (vI x5_13), some (vI x6_26), some (vL x7_37), none, some (vL x9_91), none, some (vI x11_37)] [] n g h := by
      intro x9_91 hw
      unfold wp_X8_lighterWays_J91 at hw
      refine ok_lload (pc := 91) a dX8_lighterWays_91 rfl ?_
      refine ok_iload (pc := 93) a dX8_lighterWays_93 rfl ?_
      refine ok_iload (pc := 95) a dX8_lighterWays_95 rfl ?_
      refine ok_isub (pc := 97) a dX8_lighterWays_97 ?_
      obtain ⟨hc8, hw⟩ := hw
      refine ok_i2l (pc := 98) a dX8_lighterWays_98 hc8 ?_
      refine ok_lmul (pc := 99) a dX8_lighterWays_99 ?_
      refine ok_iload (pc := 100) a dX8_lighterWays_100 rfl ?_
      refine ok_iconst (pc := 102) a dX8_lighterWays_102 ?_
      refine ok_iadd (pc := 103) a dX8_lighterWays_103 ?_
      obtain ⟨hc9, hw⟩ := hw
      refine ok_i2l (pc := 104) a dX8_lighterWays_104 hc9 ?_
      obtain ⟨hc10, hw⟩ := hw
      refine ok_ldiv (pc := 105) a dX8_lighterWays_105 hc10 ?_
      refine ok_nmL (fun x7_106 ex7_106 => ?_)
      have hw := hw x7_106 ex7_106
      refine ok_sL (pc := 106) a [some (vR 0), some (vI x1), some (vI x2), some (vI x3), some (vI x4), some (vI x5_13), some (vI x6_26), some (vL x7_106), none, some (vL x9_91), none, some (vI x11_37)] dX8_lighterWays_106 (by decide) rfl rfl ?_
      refine ok_inc (pc := 108) a [some (vR 0), some (vI x1), some (vI x2), some (vI x3), some (vI x4), some (vI x5_13), some (vI x6_26), some (vL x7_106), none, some (vL x9_91), none, some (vI (x11_37 + 1))] dX8_lighterWays_108 rfl (by decide) rfl rfl ?_
      refine ok_goto (pc := 111) a 37 dX8_lighterWays_111 (by decide) ?_
      exact hX37 (x7_106, x9_91, (x11_37 + 1)) hw
    refine ok_if_ge (pc := 59) a 91 dX8_lighterWays_59 (by decide) hc7 (fun hd13 => ?_) (fun hd13 => ?_)
    · have hw := hw.1 hd13
      exact hJ91 x9_37 hw
    · have hw := hw.2 hd13
      refine ok_lload (pc := 62) a dX8_lighterWays_62 rfl ?_
      refine ok_lload (pc := 64) a dX8_lighterWays_64 rfl ?_
      refine ok_iload (pc := 66) a dX8_lighterWays_66 rfl ?_
      refine ok_iload (pc := 68) a dX8_lighterWays_68 rfl ?_
      refine ok_SPL (pc := 70) a [(vI x4), (vI x11_37)] [(vL x7_37), (vL x9_37)] (M_X8_power hn tg x4 x11_37  hw) dX8_lighterWays_70 lkRX8_214 rfl ⟨Nat.le_of_ble_eq_true rfl, Nat.le_of_ble_eq_true rfl⟩ rfl (Nat.le_of_ble_eq_true rfl) rfl (fun r11 hw => ?_)
      refine ok_lmul (pc := 73) a dX8_lighterWays_73 ?_
      refine ok_bipush (pc := 74) a dX8_lighterWays_74 (by decide) ?_
      refine ok_iload (pc := 76) a dX8_lighterWays_76 rfl ?_
      refine ok_isub (pc := 78) a dX8_lighterWays_78 ?_
      refine ok_iload (pc := 79) a dX8_lighterWays_79 rfl ?_
      refine ok_iload (pc := 81) a dX8_lighterWays_81 rfl ?_
      refine ok_isub (pc := 83) a dX8_lighterWays_83 ?_
      refine ok_SPL (pc := 84) a [(vI (10 - x4)), (vI (x5_13 - x11_37))] [(vL (x7_37 * r11)), (vL x9_37)] (M_X8_power hn tg (10 - x4) (x5_13 - x11_37)  hw) dX8_lighterWays_84 lkRX8_214 rfl ⟨Nat.le_of_ble_eq_true rfl, Nat.le_of_ble_eq_true rfl⟩ rfl (Nat.le_of_ble_eq_true rfl) rfl (fun r12 hw => ?_)
      refine ok_lmul (pc := 87) a dX8_lighterWays_87 ?_
      refine ok_ladd (pc := 88) a dX8_lighterWays_88 ?_
      refine ok_nmL (fun x9_89 ex9_89 => ?_)
      have hw := hw x9_89 ex9_89
      refine ok_sL (pc := 89) a [some (vR 0), some (vI x1), some (vI x2), some (vI x3), some (vI x4), some (vI x5_13), some (vI x6_26), some (vL x7_37), none, some (vL x9_89), none, some (vI x11_37)] dX8_lighterWays_89 (by decide) rfl rfl ?_
      exact hJ91 x9_89 hw

def wp_X8_commonDivisor_B9 (Q : Int → Prop) (X9 : Int × Int × Int → Prop) (x4_9 : Int) (x6_9 : Int) (x8_9 : Int) : Prop :=
  inR x8_9 ∧ ((200 ≤ x8_9 → Q x4_9) ∧ (¬ 200 ≤ x8_9 → inL x6_9 ∧ (((cmpL x6_9 0) = 0 → Q x4_9) ∧ (¬ (cmpL x6_9 0) = 0 → ((0 ≤ x4_9 ∧ x4_9 < 9223372036854775808) ∧ 0 < x6_9 ∧ x6_9 < 9223372036854775808) ∧ ∀ x9_29, x9_29 = (x4_9 % x6_9) → X9 (x6_9, x9_29, (x8_9 + 1))))))
def wp_X8_commonDivisor (x0 : Int) (x2 : Int) (h : aH) (Q : Int → Prop) : Prop :=
  lp (fun X y => wp_X8_commonDivisor_B9 Q X y.1 y.2.1 y.2.2) (x0, x2, 0)
set_option maxRecDepth 100000 in
set_option maxHeartbeats 4000000 in
theorem M_X8_commonDivisor {Γ : Gm} {l : Launch} {n : Nat} {g : aG} (hn : 59 ≤ n) (tg : TC g) (x0 : Int) (x2 : Int)  {h : aH} {Q : Int → Prop} (hw : wp_X8_commonDivisor x0 x2 h Q) : Cl Γ l mX8_commonDivisor [vL x0, vL x2] n g h (PL g h Q) := by
  refine Cl.of (by decide) [some (vL x0), none, some (vL x2), none, none, none, none, none, none, none, none] rfl (Nat.le_of_ble_eq_true rfl) ?_
  intro p e s m args below meth c a
  unfold wp_X8_commonDivisor at hw
  refine ok_lload_n (pc := 0) a dX8_commonDivisor_0 rfl rfl ?_
  refine ok_sL (pc := 1) a [some (vL x0), none, some (vL x2), none, some (vL x0), none, none, none, none, none, none] dX8_commonDivisor_1 (by decide) rfl rfl ?_
  refine ok_lload_n (pc := 3) a dX8_commonDivisor_3 rfl rfl ?_
  refine ok_sL (pc := 4) a [some (vL x0), none, some (vL x2), none, some (vL x0), none, some (vL x2), none, none, none, none] dX8_commonDivisor_4 (by decide) rfl rfl ?_
  refine ok_iconst (pc := 6) a dX8_commonDivisor_6 ?_
  refine ok_sI (pc := 7) a [some (vL x0), none, some (vL x2), none, some (vL x0), none, some (vL x2), none, some (vI 0), none, none] dX8_commonDivisor_7 (by decide) rfl rfl ?_
  refine lp.use (P := fun y => OK Γ p l e (rmd 0 n n) s m args below meth c n (MQ below (QQ Γ n (PL g h Q)) args s (n - n) (sl n - sl n) (AA Γ)) 9 [some (vL x0), none, some (vL x2), none, some (vL y.1), none, some (vL y.2.1), none, some (vI y.2.2), none, none] [] n g h) ?_ (x0, x2, 0) hw
  clear hw
  intro X9 hX9 y hw
  obtain ⟨x4_9, x6_9, x8_9⟩ := y
  have hw : wp_X8_commonDivisor_B9 Q X9 x4_9 x6_9 x8_9 := hw
  unfold wp_X8_commonDivisor_B9 at hw
  try dsimp only
  refine ok_iload (pc := 9) a dX8_commonDivisor_9 rfl ?_
  refine ok_sipush (pc := 11) a dX8_commonDivisor_11 (by decide) ?_
  obtain ⟨hc1, hw⟩ := hw
  refine ok_icmp_ge (pc := 14) a 45 dX8_commonDivisor_14 (by decide) hc1 ⟨by decide, by decide⟩ (fun hd5 => ?_) (fun hd5 => ?_)
  · have hw := hw.1 hd5
    refine ok_lload (pc := 45) a dX8_commonDivisor_45 rfl ?_
    exact ok_lret (pc := 47) a dX8_commonDivisor_47 ⟨_, rfl, rfl, rfl, hw⟩
  · have hw := hw.2 hd5
    refine ok_lload (pc := 17) a dX8_commonDivisor_17 rfl ?_
    refine ok_lconst (pc := 19) (x := 0) a dX8_commonDivisor_19 (by decide) ?_
    obtain ⟨hc2, hw⟩ := hw
    refine ok_lcmp (pc := 20) a dX8_commonDivisor_20 hc2 ⟨by decide, by decide⟩ ?_
    refine ok_if_eq (pc := 21) a 45 dX8_commonDivisor_21 (by decide) (inR_cmpL x6_9 0) (fun hd4 => ?_) (fun hd4 => ?_)
    · have hw := hw.1 hd4
      refine ok_lload (pc := 45) a dX8_commonDivisor_45 rfl ?_
      exact ok_lret (pc := 47) a dX8_commonDivisor_47 ⟨_, rfl, rfl, rfl, hw⟩
    · have hw := hw.2 hd4
      refine ok_lload (pc := 24) a dX8_commonDivisor_24 rfl ?_
      refine ok_lload (pc := 26) a dX8_commonDivisor_26 rfl ?_
      obtain ⟨hc3, hw⟩ := hw
      refine ok_lrem (pc := 28) a dX8_commonDivisor_28 hc3 ?_
      refine ok_nmL (fun x9_29 ex9_29 => ?_)
      have hw := hw x9_29 ex9_29
      refine ok_sL (pc := 29) a [some (vL x0), none, some (vL x2), none, some (vL x4_9), none, some (vL x6_9), none, some (vI x8_9), some (vL x9_29), none] dX8_commonDivisor_29 (by decide) rfl rfl ?_
      refine ok_lload (pc := 31) a dX8_commonDivisor_31 rfl ?_
      refine ok_sL (pc := 33) a [some (vL x0), none, some (vL x2), none, some (vL x6_9), none, some (vL x6_9), none, some (vI x8_9), some (vL x9_29), none] dX8_commonDivisor_33 (by decide) rfl rfl ?_
      refine ok_lload (pc := 35) a dX8_commonDivisor_35 rfl ?_
      refine ok_sL (pc := 37) a [some (vL x0), none, some (vL x2), none, some (vL x6_9), none, some (vL x9_29), none, some (vI x8_9), some (vL x9_29), none] dX8_commonDivisor_37 (by decide) rfl rfl ?_
      refine ok_inc (pc := 39) a [some (vL x0), none, some (vL x2), none, some (vL x6_9), none, some (vL x9_29), none, some (vI (x8_9 + 1)), some (vL x9_29), none] dX8_commonDivisor_39 rfl (by decide) rfl rfl ?_
      refine ok_goto (pc := 42) a 9 dX8_commonDivisor_42 (by decide) ?_
      refine ok_forget 9 ?_
      exact hX9 (x6_9, x9_29, (x8_9 + 1)) hw

def wp_X8_odds (x1 : Int) (x2 : Int) (x3 : Int) (x4 : Int) (x5 : Int) (h : aH) (Q : Int → Prop) : Prop :=
  wp_X8_isPair x1 x2 h (fun r1 => ((r1 = 0 → Q (-1)) ∧ (¬ r1 = 0 → wp_X8_isSort x3 h (fun r3 => ((r3 = 0 → Q (-1)) ∧ (¬ r3 = 0 → wp_X8_within x4 0 10 h (fun r5 => ((r5 = 0 → Q (-1)) ∧ (¬ r5 = 0 → wp_X8_within x5 0 1 h (fun r7 => ((r7 = 0 → Q (-1)) ∧ (¬ r7 = 0 → wp_X8_lighterWays x1 x2 x3 x4 h (fun r9 => (0 ≤ ((x1 * 4) + x3) ∧ ((x1 * 4) + x3) < 16) ∧ wp_X8_power 10 (h 14 ((x1 * 4) + x3)) h (fun r11 => wp_X8_commonDivisor r9 r11 h (fun r12 => inL r12 ∧ (((cmpL r12 0) = 0 → Q (-1)) ∧ (¬ (cmpL r12 0) = 0 → inR x5 ∧ ((x5 = 0 → ((0 ≤ r9 ∧ r9 < 9223372036854775808) ∧ 0 < r12 ∧ r12 < 9223372036854775808) ∧ Q (r9 / r12)) ∧ (¬ x5 = 0 → ((0 ≤ r11 ∧ r11 < 9223372036854775808) ∧ 0 < r12 ∧ r12 < 9223372036854775808) ∧ Q (r11 / r12))))))))))))))))))))
set_option maxRecDepth 100000 in
set_option maxHeartbeats 4000000 in
theorem M_X8_odds {Γ : Gm} {l : Launch} {n : Nat} {g : aG} (hn : 59 ≤ n) (tg : TC g) (x1 : Int) (x2 : Int) (x3 : Int) (x4 : Int) (x5 : Int)  {h : aH} {Q : Int → Prop} (hw : wp_X8_odds x1 x2 x3 x4 x5 h Q) : Cl Γ l mX8_odds [vR 0, vI x1, vI x2, vI x3, vI x4, vI x5] n g h (PL g h Q) := by
  refine Cl.of (by decide) [some (vR 0), some (vI x1), some (vI x2), some (vI x3), some (vI x4), some (vI x5), none, none, none, none, none, none] rfl (Nat.le_of_ble_eq_true rfl) ?_
  intro p e s m args below meth c a
  unfold wp_X8_odds at hw
  refine ok_aload_n (pc := 0) a dX8_odds_0 rfl rfl ?_
  refine ok_iload_n (pc := 1) a dX8_odds_1 rfl rfl ?_
  refine ok_iload_n (pc := 2) a dX8_odds_2 rfl rfl ?_
  refine ok_VPZ (pc := 3) a [(vI x1), (vI x2)] [] (M_X8_isPair hn tg x1 x2  hw) dX8_odds_3 lkRX8_136 rfl (Nat.lt_of_lt_of_le (by decide) hn) kq0 (by decide) rfl ⟨Nat.le_of_ble_eq_true rfl, Nat.le_of_ble_eq_true rfl⟩ rfl (Nat.le_of_ble_eq_true rfl) rfl (fun r1 hz2 hw => ?_)
  refine ok_if_eq (pc := 6) a 37 dX8_odds_6 (by decide) (inR_b hz2) (fun hd22 => ?_) (fun hd22 => ?_)
  · have hw := hw.1 hd22
    refine ok_ldc2 (pc := 37) (x := (-1)) a dX8_odds_37 ctRX8_208 (by decide) ?_
    exact ok_lret (pc := 40) a dX8_odds_40 ⟨_, rfl, rfl, rfl, hw⟩
  · have hw := hw.2 hd22
    refine ok_iload_n (pc := 9) a dX8_odds_9 rfl rfl ?_
    refine ok_SPZ (pc := 10) a [(vI x3)] [] (M_X8_isSort hn tg x3  hw) dX8_odds_10 lkRX8_113 rfl ⟨Nat.le_of_ble_eq_true rfl, Nat.le_of_ble_eq_true rfl⟩ rfl (Nat.le_of_ble_eq_true rfl) rfl (fun r3 hz4 hw => ?_)
    refine ok_if_eq (pc := 13) a 37 dX8_odds_13 (by decide) (inR_b hz4) (fun hd21 => ?_) (fun hd21 => ?_)
    · have hw := hw.1 hd21
      refine ok_ldc2 (pc := 37) (x := (-1)) a dX8_odds_37 ctRX8_208 (by decide) ?_
      exact ok_lret (pc := 40) a dX8_odds_40 ⟨_, rfl, rfl, rfl, hw⟩
    · have hw := hw.2 hd21
      refine ok_iload (pc := 16) a dX8_odds_16 rfl ?_
      refine ok_iconst (pc := 18) a dX8_odds_18 ?_
      refine ok_bipush (pc := 19) a dX8_odds_19 (by decide) ?_
      refine ok_SPZ (pc := 21) a [(vI x4), (vI 0), (vI 10)] [] (M_X8_within hn tg x4 0 10  hw) dX8_odds_21 lkRX8_82 rfl ⟨Nat.le_of_ble_eq_true rfl, Nat.le_of_ble_eq_true rfl⟩ rfl (Nat.le_of_ble_eq_true rfl) rfl (fun r5 hz6 hw => ?_)
      refine ok_if_eq (pc := 24) a 37 dX8_odds_24 (by decide) (inR_b hz6) (fun hd20 => ?_) (fun hd20 => ?_)
      · have hw := hw.1 hd20
        refine ok_ldc2 (pc := 37) (x := (-1)) a dX8_odds_37 ctRX8_208 (by decide) ?_
        exact ok_lret (pc := 40) a dX8_odds_40 ⟨_, rfl, rfl, rfl, hw⟩
      · have hw := hw.2 hd20
        refine ok_iload (pc := 27) a dX8_odds_27 rfl ?_
        refine ok_iconst (pc := 29) a dX8_odds_29 ?_
        refine ok_iconst (pc := 30) a dX8_odds_30 ?_
        refine ok_SPZ (pc := 31) a [(vI x5), (vI 0), (vI 1)] [] (M_X8_within hn tg x5 0 1  hw) dX8_odds_31 lkRX8_82 rfl ⟨Nat.le_of_ble_eq_true rfl, Nat.le_of_ble_eq_true rfl⟩ rfl (Nat.le_of_ble_eq_true rfl) rfl (fun r7 hz8 hw => ?_)
        refine ok_if_ne (pc := 34) a 41 dX8_odds_34 (by decide) (inR_b hz8) (fun hd19 => ?_) (fun hd19 => ?_)
        · have hw := hw.2 hd19
          refine ok_aload_n (pc := 41) a dX8_odds_41 rfl rfl ?_
          refine ok_iload_n (pc := 42) a dX8_odds_42 rfl rfl ?_
          refine ok_iload_n (pc := 43) a dX8_odds_43 rfl rfl ?_
          refine ok_iload_n (pc := 44) a dX8_odds_44 rfl rfl ?_
          refine ok_iload (pc := 45) a dX8_odds_45 rfl ?_
          refine ok_VPL (pc := 47) a [(vI x1), (vI x2), (vI x3), (vI x4)] [] (M_X8_lighterWays hn tg x1 x2 x3 x4  hw) dX8_odds_47 lkRX8_210 rfl (Nat.lt_of_lt_of_le (by decide) hn) kq0 (by decide) rfl ⟨Nat.le_of_ble_eq_true rfl, Nat.le_of_ble_eq_true rfl⟩ rfl (Nat.le_of_ble_eq_true rfl) rfl (fun r9 hw => ?_)
          refine ok_sL (pc := 50) a [some (vR 0), some (vI x1), some (vI x2), some (vI x3), some (vI x4), some (vI x5), some (vL r9), none, none, none, none, none] dX8_odds_50 (by decide) rfl rfl ?_
          refine ok_bipush (pc := 52) a dX8_odds_52 (by decide) ?_
          refine ok_aload_n (pc := 54) a dX8_odds_54 rfl rfl ?_
          refine ok_getR (pc := 55) a dX8_odds_55 lfRX8_29 (Nat.lt_of_lt_of_le (by decide) hn) kq0 rfl (tg.at 0 3 13 (by decide) (by decide)) ?_
          refine ok_getR (pc := 58) a dX8_odds_58 lfRX8_116 (Nat.lt_of_lt_of_le (by decide) hn) kq13 rfl (tg.at 13 0 14 (by decide) (by decide)) ?_
          refine ok_iload_n (pc := 61) a dX8_odds_61 rfl rfl ?_
          refine ok_iconst (pc := 62) a dX8_odds_62 ?_
          refine ok_imul (pc := 63) a dX8_odds_63 ?_
          refine ok_iload_n (pc := 64) a dX8_odds_64 rfl rfl ?_
          refine ok_iadd (pc := 65) a dX8_odds_65 ?_
          obtain ⟨hc10, hw⟩ := hw
          refine ok_iald (pc := 66) a dX8_odds_66 (Nat.lt_of_lt_of_le (by decide) hn) kq14 (by decide) hc10 ?_
          refine ok_SPL (pc := 67) a [(vI 10), (vI (h 14 ((x1 * 4) + x3)))] [] (M_X8_power hn tg 10 (h 14 ((x1 * 4) + x3))  hw) dX8_odds_67 lkRX8_214 rfl ⟨Nat.le_of_ble_eq_true rfl, Nat.le_of_ble_eq_true rfl⟩ rfl (Nat.le_of_ble_eq_true rfl) rfl (fun r11 hw => ?_)
          refine ok_sL (pc := 70) a [some (vR 0), some (vI x1), some (vI x2), some (vI x3), some (vI x4), some (vI x5), some (vL r9), none, some (vL r11), none, none, none] dX8_odds_70 (by decide) rfl rfl ?_
          refine ok_lload (pc := 72) a dX8_odds_72 rfl ?_
          refine ok_lload (pc := 74) a dX8_odds_74 rfl ?_
          refine ok_SPL (pc := 76) a [(vL r9), (vL r11)] [] (M_X8_commonDivisor hn tg r9 r11  hw) dX8_odds_76 lkRX8_218 rfl ⟨Nat.le_of_ble_eq_true rfl, Nat.le_of_ble_eq_true rfl⟩ rfl (Nat.le_of_ble_eq_true rfl) rfl (fun r12 hw => ?_)
          refine ok_sL (pc := 79) a [some (vR 0), some (vI x1), some (vI x2), some (vI x3), some (vI x4), some (vI x5), some (vL r9), none, some (vL r11), none, some (vL r12), none] dX8_odds_79 (by decide) rfl rfl ?_
          refine ok_lload (pc := 81) a dX8_odds_81 rfl ?_
          refine ok_lconst (pc := 83) (x := 0) a dX8_odds_83 (by decide) ?_
          obtain ⟨hc13, hw⟩ := hw
          refine ok_lcmp (pc := 84) a dX8_odds_84 hc13 ⟨by decide, by decide⟩ ?_
          refine ok_if_ne (pc := 85) a 92 dX8_odds_85 (by decide) (inR_cmpL r12 0) (fun hd18 => ?_) (fun hd18 => ?_)
          · have hw := hw.2 hd18
            refine ok_iload (pc := 92) a dX8_odds_92 rfl ?_
            obtain ⟨hc14, hw⟩ := hw
            refine ok_if_ne (pc := 94) a 105 dX8_odds_94 (by decide) hc14 (fun hd17 => ?_) (fun hd17 => ?_)
            · have hw := hw.2 hd17
              refine ok_lload (pc := 105) a dX8_odds_105 rfl ?_
              refine ok_lload (pc := 107) a dX8_odds_107 rfl ?_
              obtain ⟨hc16, hw⟩ := hw
              refine ok_ldiv (pc := 109) a dX8_odds_109 hc16 ?_
              exact ok_lret (pc := 110) a dX8_odds_110 ⟨_, rfl, rfl, rfl, hw⟩
            · have hw := hw.1 hd17
              refine ok_lload (pc := 97) a dX8_odds_97 rfl ?_
              refine ok_lload (pc := 99) a dX8_odds_99 rfl ?_
              obtain ⟨hc15, hw⟩ := hw
              refine ok_ldiv (pc := 101) a dX8_odds_101 hc15 ?_
              refine ok_goto (pc := 102) a 110 dX8_odds_102 (by decide) ?_
              exact ok_lret (pc := 110) a dX8_odds_110 ⟨_, rfl, rfl, rfl, hw⟩
          · have hw := hw.1 hd18
            refine ok_ldc2 (pc := 88) (x := (-1)) a dX8_odds_88 ctRX8_208 (by decide) ?_
            exact ok_lret (pc := 91) a dX8_odds_91 ⟨_, rfl, rfl, rfl, hw⟩
        · have hw := hw.1 hd19
          refine ok_ldc2 (pc := 37) (x := (-1)) a dX8_odds_37 ctRX8_208 (by decide) ?_
          exact ok_lret (pc := 40) a dX8_odds_40 ⟨_, rfl, rfl, rfl, hw⟩

def wp_X8_brass (x1 : Int) (x2 : Int) (h : aH) (Q : Int → Prop) : Prop :=
  wp_X8_within x1 0 300 h (fun r1 => ((r1 = 0 → Q (-1)) ∧ (¬ r1 = 0 → wp_X8_within x2 0 2 h (fun r3 => ((r3 = 0 → Q (-1)) ∧ (¬ r3 = 0 → wp_X0_canWeigh x1 h (fun r5 => ((r5 = 0 → Q (-9)) ∧ (¬ r5 = 0 → inR x2 ∧ ((x2 = 0 → wp_X0_fewestPieces x1 h (fun r8 => Q r8)) ∧ (¬ x2 = 0 → ((x2 = 1 → wp_X0_heavierPan x1 h (fun r9 => Q r9)) ∧ (¬ x2 = 1 → wp_X0_otherPan x1 h (fun r10 => Q r10))))))))))))))
set_option maxRecDepth 100000 in
set_option maxHeartbeats 4000000 in
theorem M_X8_brass {Γ : Gm} {l : Launch} {n : Nat} {g : aG} (hn : 59 ≤ n) (tg : TC g) (x1 : Int) (x2 : Int)  {h : aH} {Q : Int → Prop} (hw : wp_X8_brass x1 x2 h Q) : Cl Γ l mX8_brass [vR 0, vI x1, vI x2] n g h (PI g h Q) := by
  refine Cl.of (by decide) [some (vR 0), some (vI x1), some (vI x2)] rfl (Nat.le_of_ble_eq_true rfl) ?_
  intro p e s m args below meth c a
  unfold wp_X8_brass at hw
  refine ok_iload_n (pc := 0) a dX8_brass_0 rfl rfl ?_
  refine ok_iconst (pc := 1) a dX8_brass_1 ?_
  refine ok_sipush (pc := 2) a dX8_brass_2 (by decide) ?_
  refine ok_SPZ (pc := 5) a [(vI x1), (vI 0), (vI 300)] [] (M_X8_within hn tg x1 0 300  hw) dX8_brass_5 lkRX8_82 rfl ⟨Nat.le_of_ble_eq_true rfl, Nat.le_of_ble_eq_true rfl⟩ rfl (Nat.le_of_ble_eq_true rfl) rfl (fun r1 hz2 hw => ?_)
  refine ok_if_eq (pc := 8) a 20 dX8_brass_8 (by decide) (inR_b hz2) (fun hd15 => ?_) (fun hd15 => ?_)
  · have hw := hw.1 hd15
    refine ok_iconst (pc := 20) a dX8_brass_20 ?_
    exact ok_iret (pc := 21) a dX8_brass_21 ⟨_, rfl, rfl, rfl, hw⟩
  · have hw := hw.2 hd15
    refine ok_iload_n (pc := 11) a dX8_brass_11 rfl rfl ?_
    refine ok_iconst (pc := 12) a dX8_brass_12 ?_
    refine ok_iconst (pc := 13) a dX8_brass_13 ?_
    refine ok_SPZ (pc := 14) a [(vI x2), (vI 0), (vI 2)] [] (M_X8_within hn tg x2 0 2  hw) dX8_brass_14 lkRX8_82 rfl ⟨Nat.le_of_ble_eq_true rfl, Nat.le_of_ble_eq_true rfl⟩ rfl (Nat.le_of_ble_eq_true rfl) rfl (fun r3 hz4 hw => ?_)
    refine ok_if_ne (pc := 17) a 22 dX8_brass_17 (by decide) (inR_b hz4) (fun hd14 => ?_) (fun hd14 => ?_)
    · have hw := hw.2 hd14
      refine ok_aload_n (pc := 22) a dX8_brass_22 rfl rfl ?_
      refine ok_getR (pc := 23) a dX8_brass_23 lfRX8_58 (Nat.lt_of_lt_of_le (by decide) hn) kq0 rfl (tg.at 0 8 46 (by decide) (by decide)) ?_
      refine ok_iload_n (pc := 26) a dX8_brass_26 rfl rfl ?_
      refine ok_VPZ (pc := 27) a [(vI x1)] [] (M_X0_canWeigh hn tg x1  hw) dX8_brass_27 lkRX8_222 rfl (Nat.lt_of_lt_of_le (by decide) hn) kq46 (by decide) rfl ⟨Nat.le_of_ble_eq_true rfl, Nat.le_of_ble_eq_true rfl⟩ rfl (Nat.le_of_ble_eq_true rfl) rfl (fun r5 hz6 hw => ?_)
      refine ok_if_ne (pc := 30) a 36 dX8_brass_30 (by decide) (inR_b hz6) (fun hd13 => ?_) (fun hd13 => ?_)
      · have hw := hw.2 hd13
        refine ok_iload_n (pc := 36) a dX8_brass_36 rfl rfl ?_
        obtain ⟨hc7, hw⟩ := hw
        refine ok_if_ne (pc := 37) a 49 dX8_brass_37 (by decide) hc7 (fun hd12 => ?_) (fun hd12 => ?_)
        · have hw := hw.2 hd12
          refine ok_iload_n (pc := 49) a dX8_brass_49 rfl rfl ?_
          refine ok_iconst (pc := 50) a dX8_brass_50 ?_
          refine ok_icmp_ne (pc := 51) a 65 dX8_brass_51 (by decide) hc7 ⟨by decide, by decide⟩ (fun hd11 => ?_) (fun hd11 => ?_)
          · have hw := hw.2 hd11
            refine ok_aload_n (pc := 65) a dX8_brass_65 rfl rfl ?_
            refine ok_getR (pc := 66) a dX8_brass_66 lfRX8_58 (Nat.lt_of_lt_of_le (by decide) hn) kq0 rfl (tg.at 0 8 46 (by decide) (by decide)) ?_
            refine ok_iload_n (pc := 69) a dX8_brass_69 rfl rfl ?_
            refine ok_VPI (pc := 70) a [(vI x1)] [] (M_X0_otherPan hn tg x1  hw) dX8_brass_70 lkRX8_231 rfl (Nat.lt_of_lt_of_le (by decide) hn) kq46 (by decide) rfl ⟨Nat.le_of_ble_eq_true rfl, Nat.le_of_ble_eq_true rfl⟩ rfl (Nat.le_of_ble_eq_true rfl) rfl (fun r10 hw => ?_)
            exact ok_iret (pc := 73) a dX8_brass_73 ⟨_, rfl, rfl, rfl, hw⟩
          · have hw := hw.1 hd11
            refine ok_aload_n (pc := 54) a dX8_brass_54 rfl rfl ?_
            refine ok_getR (pc := 55) a dX8_brass_55 lfRX8_58 (Nat.lt_of_lt_of_le (by decide) hn) kq0 rfl (tg.at 0 8 46 (by decide) (by decide)) ?_
            refine ok_iload_n (pc := 58) a dX8_brass_58 rfl rfl ?_
            refine ok_VPI (pc := 59) a [(vI x1)] [] (M_X0_heavierPan hn tg x1  hw) dX8_brass_59 lkRX8_228 rfl (Nat.lt_of_lt_of_le (by decide) hn) kq46 (by decide) rfl ⟨Nat.le_of_ble_eq_true rfl, Nat.le_of_ble_eq_true rfl⟩ rfl (Nat.le_of_ble_eq_true rfl) rfl (fun r9 hw => ?_)
            refine ok_goto (pc := 62) a 73 dX8_brass_62 (by decide) ?_
            exact ok_iret (pc := 73) a dX8_brass_73 ⟨_, rfl, rfl, rfl, hw⟩
        · have hw := hw.1 hd12
          refine ok_aload_n (pc := 40) a dX8_brass_40 rfl rfl ?_
          refine ok_getR (pc := 41) a dX8_brass_41 lfRX8_58 (Nat.lt_of_lt_of_le (by decide) hn) kq0 rfl (tg.at 0 8 46 (by decide) (by decide)) ?_
          refine ok_iload_n (pc := 44) a dX8_brass_44 rfl rfl ?_
          refine ok_VPI (pc := 45) a [(vI x1)] [] (M_X0_fewestPieces hn tg x1  hw) dX8_brass_45 lkRX8_225 rfl (Nat.lt_of_lt_of_le (by decide) hn) kq46 (by decide) rfl ⟨Nat.le_of_ble_eq_true rfl, Nat.le_of_ble_eq_true rfl⟩ rfl (Nat.le_of_ble_eq_true rfl) rfl (fun r8 hw => ?_)
          exact ok_iret (pc := 48) a dX8_brass_48 ⟨_, rfl, rfl, rfl, hw⟩
      · have hw := hw.1 hd13
        refine ok_bipush (pc := 33) a dX8_brass_33 (by decide) ?_
        exact ok_iret (pc := 35) a dX8_brass_35 ⟨_, rfl, rfl, rfl, hw⟩
    · have hw := hw.1 hd14
      refine ok_iconst (pc := 20) a dX8_brass_20 ?_
      exact ok_iret (pc := 21) a dX8_brass_21 ⟨_, rfl, rfl, rfl, hw⟩

def wp_X8_shows (x1 : Int) (x2 : Int) (x3 : Int) (h : aH) (Q : Int → aH → Prop) : Prop :=
  wp_X8_isPerson x1 h (fun r1 => ((r1 = 0 → Q (-1) h) ∧ (¬ r1 = 0 → wp_X8_within x2 0 720 h (fun r3 => ((r3 = 0 → Q (-1) h) ∧ (¬ r3 = 0 → wp_X8_within x3 0 2 h (fun r5 => ((r5 = 0 → Q (-1) h) ∧ (¬ r5 = 0 → wp_X1_addShown x1 x2 x3 h (fun r7 h8 => Q (if r7 = 0 then (-3) else (h8 52 7) : Int) h8))))))))))
set_option maxRecDepth 100000 in
set_option maxHeartbeats 4000000 in
theorem M_X8_shows {Γ : Gm} {l : Launch} {n : Nat} {g : aG} (hn : 59 ≤ n) (tg : TC g) (x1 : Int) (x2 : Int) (x3 : Int)  {h : aH} {Q : Int → aH → Prop} (hw : wp_X8_shows x1 x2 x3 h Q) : Cl Γ l mX8_shows [vR 0, vI x1, vI x2, vI x3] n g h (RI g Q) := by
  refine Cl.of (by decide) [some (vR 0), some (vI x1), some (vI x2), some (vI x3)] rfl (Nat.le_of_ble_eq_true rfl) ?_
  intro p e s m args below meth c a
  unfold wp_X8_shows at hw
  refine ok_aload_n (pc := 0) a dX8_shows_0 rfl rfl ?_
  refine ok_iload_n (pc := 1) a dX8_shows_1 rfl rfl ?_
  refine ok_VPZ (pc := 2) a [(vI x1)] [] (M_X8_isPerson hn tg x1  hw) dX8_shows_2 lkRX8_109 rfl (Nat.lt_of_lt_of_le (by decide) hn) kq0 (by decide) rfl ⟨Nat.le_of_ble_eq_true rfl, Nat.le_of_ble_eq_true rfl⟩ rfl (Nat.le_of_ble_eq_true rfl) rfl (fun r1 hz2 hw => ?_)
  refine ok_if_eq (pc := 5) a 28 dX8_shows_5 (by decide) (inR_b hz2) (fun hd13 => ?_) (fun hd13 => ?_)
  · have hw := hw.1 hd13
    refine ok_iconst (pc := 28) a dX8_shows_28 ?_
    exact ok_iret (pc := 29) a dX8_shows_29 ⟨_, rfl, rfl, hw⟩
  · have hw := hw.2 hd13
    refine ok_iload_n (pc := 8) a dX8_shows_8 rfl rfl ?_
    refine ok_iconst (pc := 9) a dX8_shows_9 ?_
    refine ok_sipush (pc := 10) a dX8_shows_10 (by decide) ?_
    refine ok_SPZ (pc := 13) a [(vI x2), (vI 0), (vI 720)] [] (M_X8_within hn tg x2 0 720  hw) dX8_shows_13 lkRX8_82 rfl ⟨Nat.le_of_ble_eq_true rfl, Nat.le_of_ble_eq_true rfl⟩ rfl (Nat.le_of_ble_eq_true rfl) rfl (fun r3 hz4 hw => ?_)
    refine ok_if_eq (pc := 16) a 28 dX8_shows_16 (by decide) (inR_b hz4) (fun hd12 => ?_) (fun hd12 => ?_)
    · have hw := hw.1 hd12
      refine ok_iconst (pc := 28) a dX8_shows_28 ?_
      exact ok_iret (pc := 29) a dX8_shows_29 ⟨_, rfl, rfl, hw⟩
    · have hw := hw.2 hd12
      refine ok_iload_n (pc := 19) a dX8_shows_19 rfl rfl ?_
      refine ok_iconst (pc := 20) a dX8_shows_20 ?_
      refine ok_iconst (pc := 21) a dX8_shows_21 ?_
      refine ok_SPZ (pc := 22) a [(vI x3), (vI 0), (vI 2)] [] (M_X8_within hn tg x3 0 2  hw) dX8_shows_22 lkRX8_82 rfl ⟨Nat.le_of_ble_eq_true rfl, Nat.le_of_ble_eq_true rfl⟩ rfl (Nat.le_of_ble_eq_true rfl) rfl (fun r5 hz6 hw => ?_)
      refine ok_if_ne (pc := 25) a 30 dX8_shows_25 (by decide) (inR_b hz6) (fun hd11 => ?_) (fun hd11 => ?_)
      · have hw := hw.2 hd11
        refine ok_aload_n (pc := 30) a dX8_shows_30 rfl rfl ?_
        refine ok_getR (pc := 31) a dX8_shows_31 lfRX8_72 (Nat.lt_of_lt_of_le (by decide) hn) kq0 rfl (tg.at 0 10 52 (by decide) (by decide)) ?_
        refine ok_iload_n (pc := 34) a dX8_shows_34 rfl rfl ?_
        refine ok_iload_n (pc := 35) a dX8_shows_35 rfl rfl ?_
        refine ok_iload_n (pc := 36) a dX8_shows_36 rfl rfl ?_
        refine ok_VRZ (pc := 37) a [(vI x1), (vI x2), (vI x3)] [] (M_X1_addShown hn tg x1 x2 x3  hw) dX8_shows_37 lkRX8_234 rfl (Nat.lt_of_lt_of_le (by decide) hn) kq52 (by decide) rfl ⟨Nat.le_of_ble_eq_true rfl, Nat.le_of_ble_eq_true rfl⟩ rfl (Nat.le_of_ble_eq_true rfl) rfl (fun r7 h8 hz9 hw => ?_)
        have hK : OK Γ p l e (rmd 2 n n) s m args below meth c n (MQ below (QQ Γ n (RI g Q)) args s (n - n) (sl n - sl n) (AA Γ)) 55 [some (vR 0), some (vI x1), some (vI x2), some (vI x3)] [(vI (if r7 = 0 then (-3) else (h8 52 7) : Int))] n g h8 := by
          exact ok_iret (pc := 55) a dX8_shows_55 ⟨_, rfl, rfl, hw⟩
        refine ok_if_eq (pc := 40) a 53 dX8_shows_40 (by decide) (inR_b hz9) (fun hd10 => ?_) (fun hd10 => ?_)
        · refine ok_bipush (pc := 53) a dX8_shows_53 (by decide) ?_
          simp only [if_pos hd10] at hK
          exact hK
        · refine ok_aload_n (pc := 43) a dX8_shows_43 rfl rfl ?_
          refine ok_getR (pc := 44) a dX8_shows_44 lfRX8_72 (Nat.lt_of_lt_of_le (by decide) hn) kq0 rfl (tg.at 0 10 52 (by decide) (by decide)) ?_
          refine ok_fI (pc := 47) 7 a dX8_shows_47 lfRX8_237 (Nat.lt_of_lt_of_le (by decide) hn) kq52 ty_1_7 rfl ?_
          refine ok_goto (pc := 50) a 55 dX8_shows_50 (by decide) ?_
          simp only [if_neg hd10] at hK
          exact hK
      · have hw := hw.1 hd11
        refine ok_iconst (pc := 28) a dX8_shows_28 ?_
        exact ok_iret (pc := 29) a dX8_shows_29 ⟨_, rfl, rfl, hw⟩
