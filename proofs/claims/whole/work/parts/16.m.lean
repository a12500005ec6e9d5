def wp_X9_readsItem_B48 (Q : aH → Prop) (x2_45 : Int) (X48 : Int × aH → Prop) (x3_48 : Int) (h_48 : aH) : Prop :=
  inR x3_48 ∧ ((4 ≤ x3_48 → ∀ h9, h9 = up h_48 61 2 ((h_48 61 2) + 1) → Q h9) ∧ (¬ 4 ≤ x3_48 → wp_X9_number 0 9 h_48 (fun r10 h11 => (0 ≤ ((4 * x2_45) + x3_48) ∧ ((4 * x2_45) + x3_48) < 16) ∧ ∀ h13, h13 = up h11 63 ((4 * x2_45) + x3_48) r10 → X48 ((x3_48 + 1), h13))))
def wp_X9_readsItem (x1 : Int) (h : aH) (Q : aH → Prop) : Prop :=
  inR x1 ∧ ((x1 = 115 → wp_X9_number 0 3 h (fun r2 h3 => wp_X9_number 1 20 h3 (fun r4 h5 => (0 ≤ (4 + r2) ∧ (4 + r2) < 8) ∧ ∀ h7, h7 = up h5 62 (4 + r2) r4 → Q h7))) ∧ (¬ x1 = 115 → ((x1 = 112 → ∀ x2_45, x2_45 = (h 61 2) → lp (fun X y => wp_X9_readsItem_B48 Q x2_45 X y.1 y.2) (0, h)) ∧ (¬ x1 = 112 → ((x1 = 103 → wp_X9_number 0 ((h 61 2) - 1) h (fun r15 h16 => wp_X9_number 0 3 h16 (fun r17 h18 => wp_X9_number 0 3 h18 (fun r19 h20 => (0 ≤ ((16 + (4 * r15)) + r17) ∧ ((16 + (4 * r15)) + r17) < 32) ∧ ∀ h22, h22 = up h20 64 ((16 + (4 * r15)) + r17) r19 → Q h22)))) ∧ (¬ x1 = 103 → wp_X9_number 1 60 h (fun r23 h24 => (0 ≤ (5 + (h 61 3)) ∧ (5 + (h 61 3)) < 10) ∧ ∀ h26, h26 = up h24 65 (5 + (h 61 3)) r23 → ∀ h27, h27 = up h26 61 3 ((h26 61 3) + 1) → Q h27)))))))
set_option maxRecDepth 100000 in
set_option maxHeartbeats 4000000 in
theorem M_X9_readsItem {Γ : Gm} {l : Launch} {n : Nat} {g : aG} (hn : 80 ≤ n) (tg : TM g) (x1 : Int)  {h : aH} {Q : aH → Prop} (hw : wp_X9_readsItem x1 h Q) : Cl Γ l mX9_readsItem [vR 59, vI x1] n g h (RV g Q) := by
  refine Cl.of (by decide) [some (vR 59), some (vI x1), none, none, none] rfl (Nat.le_of_ble_eq_true rfl) ?_
  intro p e s m args below meth c a
  unfold wp_X9_readsItem at hw
  refine ok_iload_n (pc := 0) a dX9_readsItem_0 rfl rfl ?_
  refine ok_bipush (pc := 1) a dX9_readsItem_1 (by decide) ?_
  obtain ⟨hc1, hw⟩ := hw
  refine ok_icmp_ne (pc := 3) a 33 dX9_readsItem_3 (by decide) hc1 ⟨by decide, by decide⟩ (fun hd30 => ?_) (fun hd30 => ?_)
  · have hw := hw.2 hd30
    refine ok_iload_n (pc := 33) a dX9_readsItem_33 rfl rfl ?_
    refine ok_bipush (pc := 34) a dX9_readsItem_34 (by decide) ?_
    refine ok_icmp_ne (pc := 36) a 89 dX9_readsItem_36 (by decide) hc1 ⟨by decide, by decide⟩ (fun hd29 => ?_) (fun hd29 => ?_)
    · have hw := hw.2 hd29
      refine ok_iload_n (pc := 89) a dX9_readsItem_89 rfl rfl ?_
      refine ok_bipush (pc := 90) a dX9_readsItem_90 (by decide) ?_
      refine ok_icmp_ne (pc := 92) a 142 dX9_readsItem_92 (by decide) hc1 ⟨by decide, by decide⟩ (fun hd28 => ?_) (fun hd28 => ?_)
      · have hw := hw.2 hd28
        refine ok_aload_n (pc := 142) a dX9_readsItem_142 rfl rfl ?_
        refine ok_getR (pc := 143) a dX9_readsItem_143 lfRX9_25 (Nat.lt_of_lt_of_le (by decide) hn) kq59 rfl (tg.at 59 13 65 (by decide) (by decide)) ?_
        refine ok_iconst (pc := 146) a dX9_readsItem_146 ?_
        refine ok_aload_n (pc := 147) a dX9_readsItem_147 rfl rfl ?_
        refine ok_getR (pc := 148) a dX9_readsItem_148 lfRX9_13 (Nat.lt_of_lt_of_le (by decide) hn) kq59 rfl (tg.at 59 9 61 (by decide) (by decide)) ?_
        refine ok_iconst (pc := 151) a dX9_readsItem_151 ?_
        refine ok_iald (pc := 152) a dX9_readsItem_152 (Nat.lt_of_lt_of_le (by decide) hn) kq61 (by decide) ⟨by decide, by decide⟩ ?_
        refine ok_iadd (pc := 153) a dX9_readsItem_153 ?_
        refine ok_aload_n (pc := 154) a dX9_readsItem_154 rfl rfl ?_
        refine ok_iconst (pc := 155) a dX9_readsItem_155 ?_
        refine ok_bipush (pc := 156) a dX9_readsItem_156 (by decide) ?_
        refine ok_VRI (pc := 158) a [(vI 1), (vI 60)] [(vI (5 + (h 61 3))), (vR 65)] (M_X9_number hn tg 1 60  hw) dX9_readsItem_158 lkRX9_118 rfl (Nat.lt_of_lt_of_le (by decide) hn) kq59 (by decide) rfl ⟨Nat.le_of_ble_eq_true rfl, Nat.le_of_ble_eq_true rfl⟩ rfl (Nat.le_of_ble_eq_true rfl) rfl (fun r23 h24 hw => ?_)
        obtain ⟨hc25, hw⟩ := hw
        refine ok_iast (pc := 161) a dX9_readsItem_161 (Nat.lt_of_lt_of_le (by decide) hn) kq65 (by decide) hc25 (ok_nmH (fun h26 eh26 => ?_))
        have hw := hw h26 eh26
        refine ok_aload_n (pc := 162) a dX9_readsItem_162 rfl rfl ?_
        refine ok_getR (pc := 163) a dX9_readsItem_163 lfRX9_13 (Nat.lt_of_lt_of_le (by decide) hn) kq59 rfl (tg.at 59 9 61 (by decide) (by decide)) ?_
        refine ok_iconst (pc := 166) a dX9_readsItem_166 ?_
        refine ok_dup2 (pc := 167) a dX9_readsItem_167 (by rfl) (by rfl) ?_
        refine ok_iald (pc := 168) a dX9_readsItem_168 (Nat.lt_of_lt_of_le (by decide) hn) kq61 (by decide) ⟨by decide, by decide⟩ ?_
        refine ok_iconst (pc := 169) a dX9_readsItem_169 ?_
        refine ok_iadd (pc := 170) a dX9_readsItem_170 ?_
        refine ok_iast (pc := 171) a dX9_readsItem_171 (Nat.lt_of_lt_of_le (by decide) hn) kq61 (by decide) ⟨by decide, by decide⟩ (ok_nmH (fun h27 eh27 => ?_))
        have hw := hw h27 eh27
        exact ok_vret (pc := 172) a dX9_readsItem_172 ⟨rfl, rfl, hw⟩
      · have hw := hw.1 hd28
        refine ok_aload_n (pc := 95) a dX9_readsItem_95 rfl rfl ?_
        refine ok_iconst (pc := 96) a dX9_readsItem_96 ?_
        refine ok_aload_n (pc := 97) a dX9_readsItem_97 rfl rfl ?_
        refine ok_getR (pc := 98) a dX9_readsItem_98 lfRX9_13 (Nat.lt_of_lt_of_le (by decide) hn) kq59 rfl (tg.at 59 9 61 (by decide) (by decide)) ?_
        refine ok_iconst (pc := 101) a dX9_readsItem_101 ?_
        refine ok_iald (pc := 102) a dX9_readsItem_102 (Nat.lt_of_lt_of_le (by decide) hn) kq61 (by decide) ⟨by decide, by decide⟩ ?_
        refine ok_iconst (pc := 103) a dX9_readsItem_103 ?_
        refine ok_isub (pc := 104) a dX9_readsItem_104 ?_
        refine ok_VRI (pc := 105) a [(vI 0), (vI ((h 61 2) - 1))] [] (M_X9_number hn tg 0 ((h 61 2) - 1)  hw) dX9_readsItem_105 lkRX9_118 rfl (Nat.lt_of_lt_of_le (by decide) hn) kq59 (by decide) rfl ⟨Nat.le_of_ble_eq_true rfl, Nat.le_of_ble_eq_true rfl⟩ rfl (Nat.le_of_ble_eq_true rfl) rfl (fun r15 h16 hw => ?_)
        refine ok_sI_n (pc := 108) a [some (vR 59), some (vI x1), some (vI r15), none, none] dX9_readsItem_108 rfl (by decide) rfl rfl ?_
        refine ok_aload_n (pc := 109) a dX9_readsItem_109 rfl rfl ?_
        refine ok_iconst (pc := 110) a dX9_readsItem_110 ?_
        refine ok_iconst (pc := 111) a dX9_readsItem_111 ?_
        refine ok_VRI (pc := 112) a [(vI 0), (vI 3)] [] (M_X9_number hn tg 0 3  hw) dX9_readsItem_112 lkRX9_118 rfl (Nat.lt_of_lt_of_le (by decide) hn) kq59 (by decide) rfl ⟨Nat.le_of_ble_eq_true rfl, Nat.le_of_ble_eq_true rfl⟩ rfl (Nat.le_of_ble_eq_true rfl) rfl (fun r17 h18 hw => ?_)
        refine ok_sI_n (pc := 115) a [some (vR 59), some (vI x1), some (vI r15), some (vI r17), none] dX9_readsItem_115 rfl (by decide) rfl rfl ?_
        refine ok_aload_n (pc := 116) a dX9_readsItem_116 rfl rfl ?_
        refine ok_iconst (pc := 117) a dX9_readsItem_117 ?_
        refine ok_iconst (pc := 118) a dX9_readsItem_118 ?_
        refine ok_VRI (pc := 119) a [(vI 0), (vI 3)] [] (M_X9_number hn tg 0 3  hw) dX9_readsItem_119 lkRX9_118 rfl (Nat.lt_of_lt_of_le (by decide) hn) kq59 (by decide) rfl ⟨Nat.le_of_ble_eq_true rfl, Nat.le_of_ble_eq_true rfl⟩ rfl (Nat.le_of_ble_eq_true rfl) rfl (fun r19 h20 hw => ?_)
        refine ok_sI (pc := 122) a [some (vR 59), some (vI x1), some (vI r15), some (vI r17), some (vI r19)] dX9_readsItem_122 (by decide) rfl rfl ?_
        refine ok_aload_n (pc := 124) a dX9_readsItem_124 rfl rfl ?_
        refine ok_getR (pc := 125) a dX9_readsItem_125 lfRX9_22 (Nat.lt_of_lt_of_le (by decide) hn) kq59 rfl (tg.at 59 12 64 (by decide) (by decide)) ?_
        refine ok_bipush (pc := 128) a dX9_readsItem_128 (by decide) ?_
        refine ok_iconst (pc := 130) a dX9_readsItem_130 ?_
        refine ok_iload_n (pc := 131) a dX9_readsItem_131 rfl rfl ?_
        refine ok_imul (pc := 132) a dX9_readsItem_132 ?_
        refine ok_iadd (pc := 133) a dX9_readsItem_133 ?_
        refine ok_iload_n (pc := 134) a dX9_readsItem_134 rfl rfl ?_
        refine ok_iadd (pc := 135) a dX9_readsItem_135 ?_
        refine ok_iload (pc := 136) a dX9_readsItem_136 rfl ?_
        obtain ⟨hc21, hw⟩ := hw
        refine ok_iast (pc := 138) a dX9_readsItem_138 (Nat.lt_of_lt_of_le (by decide) hn) kq64 (by decide) hc21 (ok_nmH (fun h22 eh22 => ?_))
        have hw := hw h22 eh22
        refine ok_goto (pc := 139) a 172 dX9_readsItem_139 (by decide) ?_
        exact ok_vret (pc := 172) a dX9_readsItem_172 ⟨rfl, rfl, hw⟩
    · have hw := hw.1 hd29
      refine ok_aload_n (pc := 39) a dX9_readsItem_39 rfl rfl ?_
      refine ok_getR (pc := 40) a dX9_readsItem_40 lfRX9_13 (Nat.lt_of_lt_of_le (by decide) hn) kq59 rfl (tg.at 59 9 61 (by decide) (by decide)) ?_
      refine ok_iconst (pc := 43) a dX9_readsItem_43 ?_
      refine ok_iald (pc := 44) a dX9_readsItem_44 (Nat.lt_of_lt_of_le (by decide) hn) kq61 (by decide) ⟨by decide, by decide⟩ ?_
      refine ok_nmI (fun x2_45 ex2_45 => ?_)
      have hw := hw x2_45 ex2_45
      refine ok_sI_n (pc := 45) a [some (vR 59), some (vI x1), some (vI x2_45), none, none] dX9_readsItem_45 rfl (by decide) rfl rfl ?_
      refine ok_iconst (pc := 46) a dX9_readsItem_46 ?_
      refine ok_sI_n (pc := 47) a [some (vR 59), some (vI x1), some (vI x2_45), some (vI 0), none] dX9_readsItem_47 rfl (by decide) rfl rfl ?_
      refine lp.use (P := fun y => OK Γ p l e (rmd 4 n n) s m args below meth c n (MQ below (QQ Γ n (RV g Q)) args s (n - n) (sl n - sl n) (AA Γ)) 48 [some (vR 59), some (vI x1), some (vI x2_45), some (vI y.1), none] [] n g y.2) ?_ (0, h) hw
      clear hw
      intro X48 hX48 y hw
      obtain ⟨x3_48, h_48⟩ := y
      have hw : wp_X9_readsItem_B48 Q x2_45 X48 x3_48 h_48 := hw
      unfold wp_X9_readsItem_B48 at hw
      try dsimp only
      refine ok_iload_n (pc := 48) a dX9_readsItem_48 rfl rfl ?_
      refine ok_iconst (pc := 49) a dX9_readsItem_49 ?_
      obtain ⟨hc8, hw⟩ := hw
      refine ok_icmp_ge (pc := 50) a 76 dX9_readsItem_50 (by decide) hc8 ⟨by decide, by decide⟩ (fun hd14 => ?_) (fun hd14 => ?_)
      · have hw := hw.1 hd14
        refine ok_aload_n (pc := 76) a dX9_readsItem_76 rfl rfl ?_
        refine ok_getR (pc := 77) a dX9_readsItem_77 lfRX9_13 (Nat.lt_of_lt_of_le (by decide) hn) kq59 rfl (tg.at 59 9 61 (by decide) (by decide)) ?_
        refine ok_iconst (pc := 80) a dX9_readsItem_80 ?_
        refine ok_dup2 (pc := 81) a dX9_readsItem_81 (by rfl) (by rfl) ?_
        refine ok_iald (pc := 82) a dX9_readsItem_82 (Nat.lt_of_lt_of_le (by decide) hn) kq61 (by decide) ⟨by decide, by decide⟩ ?_
        refine ok_iconst (pc := 83) a dX9_readsItem_83 ?_
        refine ok_iadd (pc := 84) a dX9_readsItem_84 ?_
        refine ok_iast (pc := 85) a dX9_readsItem_85 (Nat.lt_of_lt_of_le (by decide) hn) kq61 (by decide) ⟨by decide, by decide⟩ (ok_nmH (fun h9 eh9 => ?_))
        have hw := hw h9 eh9
        refine ok_goto (pc := 86) a 172 dX9_readsItem_86 (by decide) ?_
        exact ok_vret (pc := 172) a dX9_readsItem_172 ⟨rfl, rfl, hw⟩
      · have hw := hw.2 hd14
        refine ok_aload_n (pc := 53) a dX9_readsItem_53 rfl rfl ?_
        refine ok_getR (pc := 54) a dX9_readsItem_54 lfRX9_19 (Nat.lt_of_lt_of_le (by decide) hn) kq59 rfl (tg.at 59 11 63 (by decide) (by decide)) ?_
        refine ok_iconst (pc := 57) a dX9_readsItem_57 ?_
        refine ok_iload_n (pc := 58) a dX9_readsItem_58 rfl rfl ?_
        refine ok_imul (pc := 59) a dX9_readsItem_59 ?_
        refine ok_iload_n (pc := 60) a dX9_readsItem_60 rfl rfl ?_
        refine ok_iadd (pc := 61) a dX9_readsItem_61 ?_
        refine ok_aload_n (pc := 62) a dX9_readsItem_62 rfl rfl ?_
        refine ok_iconst (pc := 63) a dX9_readsItem_63 ?_
        refine ok_bipush (pc := 64) a dX9_readsItem_64 (by decide) ?_
        refine ok_VRI (pc := 66) a [(vI 0), (vI 9)] [(vI ((4 * x2_45) + x3_48)), (vR 63)] (M_X9_number hn tg 0 9  hw) dX9_readsItem_66 lkRX9_118 rfl (Nat.lt_of_lt_of_le (by decide) hn) kq59 (by decide) rfl ⟨Nat.le_of_ble_eq_true rfl, Nat.le_of_ble_eq_true rfl⟩ rfl (Nat.le_of_ble_eq_true rfl) rfl (fun r10 h11 hw => ?_)
        obtain ⟨hc12, hw⟩ := hw
        refine ok_iast (pc := 69) a dX9_readsItem_69 (Nat.lt_of_lt_of_le (by decide) hn) kq63 (by decide) hc12 (ok_nmH (fun h13 eh13 => ?_))
        have hw := hw h13 eh13
        refine ok_inc (pc := 70) a [some (vR 59), some (vI x1), some (vI x2_45), some (vI (x3_48 + 1)), none] dX9_readsItem_70 rfl (by decide) rfl rfl ?_
        refine ok_goto (pc := 73) a 48 dX9_readsItem_73 (by decide) ?_
        exact hX48 ((x3_48 + 1), h13) hw
  · have hw := hw.1 hd30
    refine ok_aload_n (pc := 6) a dX9_readsItem_6 rfl rfl ?_
    refine ok_iconst (pc := 7) a dX9_readsItem_7 ?_
    refine ok_iconst (pc := 8) a dX9_readsItem_8 ?_
    refine ok_VRI (pc := 9) a [(vI 0), (vI 3)] [] (M_X9_number hn tg 0 3  hw) dX9_readsItem_9 lkRX9_118 rfl (Nat.lt_of_lt_of_le (by decide) hn) kq59 (by decide) rfl ⟨Nat.le_of_ble_eq_true rfl, Nat.le_of_ble_eq_true rfl⟩ rfl (Nat.le_of_ble_eq_true rfl) rfl (fun r2 h3 hw => ?_)
    refine ok_sI_n (pc := 12) a [some (vR 59), some (vI x1), some (vI r2), none, none] dX9_readsItem_12 rfl (by decide) rfl rfl ?_
    refine ok_aload_n (pc := 13) a dX9_readsItem_13 rfl rfl ?_
    refine ok_iconst (pc := 14) a dX9_readsItem_14 ?_
    refine ok_bipush (pc := 15) a dX9_readsItem_15 (by decide) ?_
    refine ok_VRI (pc := 17) a [(vI 1), (vI 20)] [] (M_X9_number hn tg 1 20  hw) dX9_readsItem_17 lkRX9_118 rfl (Nat.lt_of_lt_of_le (by decide) hn) kq59 (by decide) rfl ⟨Nat.le_of_ble_eq_true rfl, Nat.le_of_ble_eq_true rfl⟩ rfl (Nat.le_of_ble_eq_true rfl) rfl (fun r4 h5 hw => ?_)
    refine ok_sI_n (pc := 20) a [some (vR 59), some (vI x1), some (vI r2), some (vI r4), none] dX9_readsItem_20 rfl (by decide) rfl rfl ?_
    refine ok_aload_n (pc := 21) a dX9_readsItem_21 rfl rfl ?_
    refine ok_getR (pc := 22) a dX9_readsItem_22 lfRX9_16 (Nat.lt_of_lt_of_le (by decide) hn) kq59 rfl (tg.at 59 10 62 (by decide) (by decide)) ?_
    refine ok_iconst (pc := 25) a dX9_readsItem_25 ?_
    refine ok_iload_n (pc := 26) a dX9_readsItem_26 rfl rfl ?_
    refine ok_iadd (pc := 27) a dX9_readsItem_27 ?_
    refine ok_iload_n (pc := 28) a dX9_readsItem_28 rfl rfl ?_
    obtain ⟨hc6, hw⟩ := hw
    refine ok_iast (pc := 29) a dX9_readsItem_29 (Nat.lt_of_lt_of_le (by decide) hn) kq62 (by decide) hc6 (ok_nmH (fun h7 eh7 => ?_))
    have hw := hw h7 eh7
    refine ok_goto (pc := 30) a 172 dX9_readsItem_30 (by decide) ?_
    exact ok_vret (pc := 172) a dX9_readsItem_172 ⟨rfl, rfl, hw⟩

def wp_X9_mayBegin  (h : aH) (Q : Int → Prop) : Prop :=
  (inR (h 59 7) ∧ (((h 59 7) = 112 → inR (h 61 2) ∧ True) ∧ (¬ (h 59 7) = 112 → (((h 59 7) = 98 → inR (h 61 3) ∧ True) ∧ (¬ (h 59 7) = 98 → True))))) ∧ Q (if (h 59 7) = 112 then (if 4 ≤ (h 61 2) then 0 else 1 : Int) else (if (h 59 7) = 98 then (if 5 ≤ (h 61 3) then 0 else 1 : Int) else 1 : Int) : Int)
set_option maxRecDepth 100000 in
set_option maxHeartbeats 4000000 in
theorem M_X9_mayBegin {Γ : Gm} {l : Launch} {n : Nat} {g : aG} (hn : 80 ≤ n) (tg : TM g)   {h : aH} {Q : Int → Prop} (hw : wp_X9_mayBegin  h Q) : Cl Γ l mX9_mayBegin [vR 59] n g h (PZ g h Q) := by
  refine Cl.of (by decide) [some (vR 59)] rfl (Nat.le_of_ble_eq_true rfl) ?_
  intro p e s m args below meth c a
  unfold wp_X9_mayBegin at hw
  refine ok_aload_n (pc := 0) a dX9_mayBegin_0 rfl rfl ?_
  refine ok_fI (pc := 1) 7 a dX9_mayBegin_1 lfRX9_101 (Nat.lt_of_lt_of_le (by decide) hn) kq59 ty_9_7 rfl ?_
  refine ok_bipush (pc := 4) a dX9_mayBegin_4 (by decide) ?_
  obtain ⟨hR, hw⟩ := hw
  have hK : OK Γ p l e (rmd 0 n n) s m args below meth c n (MQ below (QQ Γ n (PZ g h Q)) args s (n - n) (sl n - sl n) (AA Γ)) 51 [some (vR 59)] [(vI (if (h 59 7) = 112 then (if 4 ≤ (h 61 2) then 0 else 1 : Int) else (if (h 59 7) = 98 then (if 5 ≤ (h 61 3) then 0 else 1 : Int) else 1 : Int) : Int))] n g h := by
    exact ok_zret (pc := 51) a dX9_mayBegin_51 (ite01 (ite01 (Or.inl rfl) (Or.inr rfl)) (ite01 (ite01 (Or.inl rfl) (Or.inr rfl)) (Or.inr rfl))) ⟨_, rfl, rfl, rfl, (ite01 (ite01 (Or.inl rfl) (Or.inr rfl)) (ite01 (ite01 (Or.inl rfl) (Or.inr rfl)) (Or.inr rfl))), hw⟩
  have hw := hR
  obtain ⟨hc1, hw⟩ := hw
  refine ok_icmp_ne (pc := 6) a 27 dX9_mayBegin_6 (by decide) hc1 ⟨by decide, by decide⟩ (fun hd2 => ?_) (fun hd2 => ?_)
  · have hw := hw.2 hd2
    refine ok_aload_n (pc := 27) a dX9_mayBegin_27 rfl rfl ?_
    refine ok_fI (pc := 28) 7 a dX9_mayBegin_28 lfRX9_101 (Nat.lt_of_lt_of_le (by decide) hn) kq59 ty_9_7 rfl ?_
    refine ok_bipush (pc := 31) a dX9_mayBegin_31 (by decide) ?_
    refine ok_icmp_ne (pc := 33) a 46 dX9_mayBegin_33 (by decide) hc1 ⟨by decide, by decide⟩ (fun hd5 => ?_) (fun hd5 => ?_)
    · refine ok_iconst (pc := 46) a dX9_mayBegin_46 ?_
      refine ok_goto (pc := 47) a 51 dX9_mayBegin_47 (by decide) ?_
      simp only [if_neg hd2, if_neg hd5] at hK
      exact hK
    · have hw := hw.1 hd5
      refine ok_aload_n (pc := 36) a dX9_mayBegin_36 rfl rfl ?_
      refine ok_getR (pc := 37) a dX9_mayBegin_37 lfRX9_13 (Nat.lt_of_lt_of_le (by decide) hn) kq59 rfl (tg.at 59 9 61 (by decide) (by decide)) ?_
      refine ok_iconst (pc := 40) a dX9_mayBegin_40 ?_
      refine ok_iald (pc := 41) a dX9_mayBegin_41 (Nat.lt_of_lt_of_le (by decide) hn) kq61 (by decide) ⟨by decide, by decide⟩ ?_
      refine ok_iconst (pc := 42) a dX9_mayBegin_42 ?_
      obtain ⟨hc6, hw⟩ := hw
      refine ok_icmp_ge (pc := 43) a 50 dX9_mayBegin_43 (by decide) hc6 ⟨by decide, by decide⟩ (fun hd7 => ?_) (fun hd7 => ?_)
      · refine ok_iconst (pc := 50) a dX9_mayBegin_50 ?_
        simp only [if_neg hd2, if_pos hd5, if_pos hd7] at hK
        exact hK
      · refine ok_iconst (pc := 46) a dX9_mayBegin_46 ?_
        refine ok_goto (pc := 47) a 51 dX9_mayBegin_47 (by decide) ?_
        simp only [if_neg hd2, if_pos hd5, if_neg hd7] at hK
        exact hK
  · have hw := hw.1 hd2
    refine ok_aload_n (pc := 9) a dX9_mayBegin_9 rfl rfl ?_
    refine ok_getR (pc := 10) a dX9_mayBegin_10 lfRX9_13 (Nat.lt_of_lt_of_le (by decide) hn) kq59 rfl (tg.at 59 9 61 (by decide) (by decide)) ?_
    refine ok_iconst (pc := 13) a dX9_mayBegin_13 ?_
    refine ok_iald (pc := 14) a dX9_mayBegin_14 (Nat.lt_of_lt_of_le (by decide) hn) kq61 (by decide) ⟨by decide, by decide⟩ ?_
    refine ok_iconst (pc := 15) a dX9_mayBegin_15 ?_
    obtain ⟨hc3, hw⟩ := hw
    refine ok_icmp_ge (pc := 16) a 23 dX9_mayBegin_16 (by decide) hc3 ⟨by decide, by decide⟩ (fun hd4 => ?_) (fun hd4 => ?_)
    · refine ok_iconst (pc := 23) a dX9_mayBegin_23 ?_
      refine ok_goto (pc := 24) a 51 dX9_mayBegin_24 (by decide) ?_
      simp only [if_pos hd2, if_pos hd4] at hK
      exact hK
    · refine ok_iconst (pc := 19) a dX9_mayBegin_19 ?_
      refine ok_goto (pc := 20) a 51 dX9_mayBegin_20 (by decide) ?_
      simp only [if_pos hd2, if_neg hd4] at hK
      exact hK

def wp_X9_lowerOf (x0 : Int) (h : aH) (Q : Int → Prop) : Prop :=
  (inR x0 ∧ True) ∧ Q (if 3 ≤ x0 then (if 5 ≤ x0 then 2 else 1 : Int) else 0 : Int)
set_option maxRecDepth 100000 in
set_option maxHeartbeats 4000000 in
theorem M_X9_lowerOf {Γ : Gm} {l : Launch} {n : Nat} {g : aG} (hn : 80 ≤ n) (tg : TM g) (x0 : Int)  {h : aH} {Q : Int → Prop} (hw : wp_X9_lowerOf x0 h Q) : Cl Γ l mX9_lowerOf [vI x0] n g h (PI g h Q) := by
  refine Cl.of (by decide) [some (vI x0)] rfl (Nat.le_of_ble_eq_true rfl) ?_
  intro p e s m args below meth c a
  unfold wp_X9_lowerOf at hw
  refine ok_iload_n (pc := 0) a dX9_lowerOf_0 rfl rfl ?_
  refine ok_iconst (pc := 1) a dX9_lowerOf_1 ?_
  obtain ⟨hR, hw⟩ := hw
  have hK : OK Γ p l e (rmd 0 n n) s m args below meth c n (MQ below (QQ Γ n (PI g h Q)) args s (n - n) (sl n - sl n) (AA Γ)) 19 [some (vI x0)] [(vI (if 3 ≤ x0 then (if 5 ≤ x0 then 2 else 1 : Int) else 0 : Int))] n g h := by
    exact ok_iret (pc := 19) a dX9_lowerOf_19 ⟨_, rfl, rfl, rfl, hw⟩
  have hw := hR
  obtain ⟨hc1, hw⟩ := hw
  refine ok_icmp_ge (pc := 2) a 9 dX9_lowerOf_2 (by decide) hc1 ⟨by decide, by decide⟩ (fun hd2 => ?_) (fun hd2 => ?_)
  · refine ok_iload_n (pc := 9) a dX9_lowerOf_9 rfl rfl ?_
    refine ok_iconst (pc := 10) a dX9_lowerOf_10 ?_
    refine ok_icmp_ge (pc := 11) a 18 dX9_lowerOf_11 (by decide) hc1 ⟨by decide, by decide⟩ (fun hd3 => ?_) (fun hd3 => ?_)
    · refine ok_iconst (pc := 18) a dX9_lowerOf_18 ?_
      simp only [if_pos hd2, if_pos hd3] at hK
      exact hK
    · refine ok_iconst (pc := 14) a dX9_lowerOf_14 ?_
      refine ok_goto (pc := 15) a 19 dX9_lowerOf_15 (by decide) ?_
      simp only [if_pos hd2, if_neg hd3] at hK
      exact hK
  · refine ok_iconst (pc := 5) a dX9_lowerOf_5 ?_
    refine ok_goto (pc := 6) a 19 dX9_lowerOf_6 (by decide) ?_
    simp only [if_neg hd2] at hK
    exact hK

def wp_X9_upperOf (x0 : Int) (h : aH) (Q : Int → Prop) : Prop :=
  (inR x0 ∧ True) ∧ Q (if 3 ≤ x0 then (if 5 ≤ x0 then 3 else (x0 - 1) : Int) else (x0 + 1) : Int)
set_option maxRecDepth 100000 in
set_option maxHeartbeats 4000000 in
theorem M_X9_upperOf {Γ : Gm} {l : Launch} {n : Nat} {g : aG} (hn : 80 ≤ n) (tg : TM g) (x0 : Int)  {h : aH} {Q : Int → Prop} (hw : wp_X9_upperOf x0 h Q) : Cl Γ l mX9_upperOf [vI x0] n g h (PI g h Q) := by
  refine Cl.of (by decide) [some (vI x0)] rfl (Nat.le_of_ble_eq_true rfl) ?_
  intro p e s m args below meth c a
  unfold wp_X9_upperOf at hw
  refine ok_iload_n (pc := 0) a dX9_upperOf_0 rfl rfl ?_
  refine ok_iconst (pc := 1) a dX9_upperOf_1 ?_
  obtain ⟨hR, hw⟩ := hw
  have hK : OK Γ p l e (rmd 0 n n) s m args below meth c n (MQ below (QQ Γ n (PI g h Q)) args s (n - n) (sl n - sl n) (AA Γ)) 23 [some (vI x0)] [(vI (if 3 ≤ x0 then (if 5 ≤ x0 then 3 else (x0 - 1) : Int) else (x0 + 1) : Int))] n g h := by
    exact ok_iret (pc := 23) a dX9_upperOf_23 ⟨_, rfl, rfl, rfl, hw⟩
  have hw := hR
  obtain ⟨hc1, hw⟩ := hw
  refine ok_icmp_ge (pc := 2) a 11 dX9_upperOf_2 (by decide) hc1 ⟨by decide, by decide⟩ (fun hd2 => ?_) (fun hd2 => ?_)
  · refine ok_iload_n (pc := 11) a dX9_upperOf_11 rfl rfl ?_
    refine ok_iconst (pc := 12) a dX9_upperOf_12 ?_
    refine ok_icmp_ge (pc := 13) a 22 dX9_upperOf_13 (by decide) hc1 ⟨by decide, by decide⟩ (fun hd3 => ?_) (fun hd3 => ?_)
    · refine ok_iconst (pc := 22) a dX9_upperOf_22 ?_
      simp only [if_pos hd2, if_pos hd3] at hK
      exact hK
    · refine ok_iload_n (pc := 16) a dX9_upperOf_16 rfl rfl ?_
      refine ok_iconst (pc := 17) a dX9_upperOf_17 ?_
      refine ok_isub (pc := 18) a dX9_upperOf_18 ?_
      refine ok_goto (pc := 19) a 23 dX9_upperOf_19 (by decide) ?_
      simp only [if_pos hd2, if_neg hd3] at hK
      exact hK
  · refine ok_iload_n (pc := 5) a dX9_upperOf_5 rfl rfl ?_
    refine ok_iconst (pc := 6) a dX9_upperOf_6 ?_
    refine ok_iadd (pc := 7) a dX9_upperOf_7 ?_
    refine ok_goto (pc := 8) a 23 dX9_upperOf_8 (by decide) ?_
    simp only [if_neg hd2] at hK
    exact hK

def wp_X9_isPairNumber (x1 : Int) (h : aH) (Q : Int → Prop) : Prop :=
  wp_X9_upperOf x1 h (fun r1 => (inR r1 ∧ inR (h 61 0) ∧ True) ∧ Q (if (h 61 0) ≤ r1 then 0 else 1 : Int))
set_option maxRecDepth 100000 in
set_option maxHeartbeats 4000000 in
theorem M_X9_isPairNumber {Γ : Gm} {l : Launch} {n : Nat} {g : aG} (hn : 80 ≤ n) (tg : TM g) (x1 : Int)  {h : aH} {Q : Int → Prop} (hw : wp_X9_isPairNumber x1 h Q) : Cl Γ l mX9_isPairNumber [vR 59, vI x1] n g h (PZ g h Q) := by
  refine Cl.of (by decide) [some (vR 59), some (vI x1)] rfl (Nat.le_of_ble_eq_true rfl) ?_
  intro p e s m args below meth c a
  unfold wp_X9_isPairNumber at hw
  refine ok_iload_n (pc := 0) a dX9_isPairNumber_0 rfl rfl ?_
  refine ok_SPI (pc := 1) a [(vI x1)] [] (M_X9_upperOf hn tg x1  hw) dX9_isPairNumber_1 lkRX9_153 rfl ⟨Nat.le_of_ble_eq_true rfl, Nat.le_of_ble_eq_true rfl⟩ rfl (Nat.le_of_ble_eq_true rfl) rfl (fun r1 hw => ?_)
  refine ok_aload_n (pc := 4) a dX9_isPairNumber_4 rfl rfl ?_
  refine ok_getR (pc := 5) a dX9_isPairNumber_5 lfRX9_13 (Nat.lt_of_lt_of_le (by decide) hn) kq59 rfl (tg.at 59 9 61 (by decide) (by decide)) ?_
  refine ok_iconst (pc := 8) a dX9_isPairNumber_8 ?_
  refine ok_iald (pc := 9) a dX9_isPairNumber_9 (Nat.lt_of_lt_of_le (by decide) hn) kq61 (by decide) ⟨by decide, by decide⟩ ?_
  obtain ⟨hR, hw⟩ := hw
  have hK : OK Γ p l e (rmd 1 n n) s m args below meth c n (MQ below (QQ Γ n (PZ g h Q)) args s (n - n) (sl n - sl n) (AA Γ)) 18 [some (vR 59), some (vI x1)] [(vI (if (h 61 0) ≤ r1 then 0 else 1 : Int))] n g h := by
    exact ok_zret (pc := 18) a dX9_isPairNumber_18 (ite01 (Or.inl rfl) (Or.inr rfl)) ⟨_, rfl, rfl, rfl, (ite01 (Or.inl rfl) (Or.inr rfl)), hw⟩
  have hw := hR
  obtain ⟨hc2, hw⟩ := hw
  obtain ⟨hc3, hw⟩ := hw
  refine ok_icmp_ge (pc := 10) a 17 dX9_isPairNumber_10 (by decide) hc2 hc3 (fun hd4 => ?_) (fun hd4 => ?_)
  · refine ok_iconst (pc := 17) a dX9_isPairNumber_17 ?_
    simp only [if_pos hd4] at hK
    exact hK
  · refine ok_iconst (pc := 13) a dX9_isPairNumber_13 ?_
    refine ok_goto (pc := 14) a 18 dX9_isPairNumber_14 (by decide) ?_
    simp only [if_neg hd4] at hK
    exact hK

def wp_X9_orders_J216 (X14 : Int × aH → Prop) (x2_14 : Int) (x5_216 : Int) (h_216 : aH) : Prop :=
  X14 ((x2_14 + 1), h_216)
def wp_X9_orders_B106 (X14 : Int × aH → Prop) (x2_14 : Int) (h_14 : aH) (X106 : Int × Int → Prop) (x5_106 : Int) (x6_106 : Int) : Prop :=
  inR x6_106 ∧ ((6 ≤ x6_106 → (0 ≤ (h_14 59 27) ∧ (h_14 59 27) < 75) ∧ ∀ h8, h8 = up h_14 75 (h_14 59 27) x5_106 → ∀ h9, h9 = up h8 59 27 ((h8 59 27) + 1) → wp_X9_orders_J216 X14 x2_14 x5_106 h9) ∧ (¬ 6 ≤ x6_106 → wp_X9_lowerOf x6_106 h_14 (fun r10 => ∀ x7_124, x7_124 = (band (bshr x2_14 (2 * r10)) 3) → wp_X9_upperOf x6_106 h_14 (fun r11 => ∀ x8_137, x8_137 = (band (bshr x2_14 (2 * r11)) 3) → (inR x7_124 ∧ inR x8_137 ∧ True) ∧ ∀ x9_162, x9_162 = (if x7_124 ≤ x8_137 then (if x8_137 ≤ x7_124 then 1 else 3 : Int) else 2 : Int) → wp_X9_isPairNumber x6_106 h_14 (fun r16 => ∀ x5_187, x5_187 = (bor x5_106 (if r16 = 0 then 0 else (bshl x9_162 (2 * x6_106)) : Int)) → X106 (x5_187, (x6_106 + 1)))))))
def wp_X9_orders_B29 (x1_11 : Int) (X14 : Int × aH → Prop) (x2_14 : Int) (h_14 : aH) (X29 : Int × Int × Int → Prop) (x3_29 : Int) (x4_29 : Int) (x5_29 : Int) : Prop :=
  inR x5_29 ∧ ((4 ≤ x5_29 → inR x4_29 ∧ ((x4_29 = 0 → inR (band x3_29 (x3_29 + 1)) ∧ (((band x3_29 (x3_29 + 1)) = 0 → lp (fun X y => wp_X9_orders_B106 X14 x2_14 h_14 X y.1 y.2) (0, 0)) ∧ (¬ (band x3_29 (x3_29 + 1)) = 0 → wp_X9_orders_J216 X14 x2_14 x5_29 h_14))) ∧ (¬ x4_29 = 0 → wp_X9_orders_J216 X14 x2_14 x5_29 h_14))) ∧ (¬ 4 ≤ x5_29 → (inR x1_11 ∧ True) ∧ ∀ x3_57, x3_57 = (bor x3_29 (if x1_11 ≤ x5_29 then 0 else (bshl 1 (band (bshr x2_14 (2 * x5_29)) 3)) : Int)) → (inR x1_11 ∧ True) ∧ ∀ x4_79, x4_79 = (bor x4_29 (if x1_11 ≤ x5_29 then (band (bshr x2_14 (2 * x5_29)) 3) else 0 : Int)) → X29 (x3_57, x4_79, (x5_29 + 1))))
def wp_X9_orders_B14 (Q : aH → Prop) (x1_11 : Int) (X14 : Int × aH → Prop) (x2_14 : Int) (h_14 : aH) : Prop :=
  inR x2_14 ∧ ((256 ≤ x2_14 → Q h_14) ∧ (¬ 256 ≤ x2_14 → lp (fun X y => wp_X9_orders_B29 x1_11 X14 x2_14 h_14 X y.1 y.2.1 y.2.2) (0, 0, 0)))
def wp_X9_orders  (h : aH) (Q : aH → Prop) : Prop :=
  ∀ h1, h1 = up h 59 27 0 → ∀ x1_11, x1_11 = (h1 61 0) → lp (fun X y => wp_X9_orders_B14 Q x1_11 X y.1 y.2) (0, h1)
set_option maxRecDepth 100000 in
set_option maxHeartbeats 4000000 in
theorem M_X9_orders {Γ : Gm} {l : Launch} {n : Nat} {g : aG} (hn : 80 ≤ n) (tg : TM g)   {h : aH} {Q : aH → Prop} (hw : wp_X9_orders  h Q) : Cl Γ l mX9_orders [vR 59] n g h (RV g Q) := by
  refine Cl.of (by decide) [some (vR 59), none, none, none, none, none, none, none, none, none] rfl (Nat.le_of_ble_eq_true rfl) ?_
  intro p e s m args below meth c a
  unfold wp_X9_orders at hw
  refine ok_aload_n (pc := 0) a dX9_orders_0 rfl rfl ?_
  refine ok_iconst (pc := 1) a dX9_orders_1 ?_
  refine ok_pI (pc := 2) 27 a dX9_orders_2 lfRX9_166 fi_9_27 (Nat.lt_of_lt_of_le (by decide) hn) kq59 ty_9_27 rfl (fun h1 eh1 => ?_)
  have hw := hw h1 eh1
  refine ok_aload_n (pc := 5) a dX9_orders_5 rfl rfl ?_
  refine ok_getR (pc := 6) a dX9_orders_6 lfRX9_13 (Nat.lt_of_lt_of_le (by decide) hn) kq59 rfl (tg.at 59 9 61 (by decide) (by decide)) ?_
  refine ok_iconst (pc := 9) a dX9_orders_9 ?_
  refine ok_iald (pc := 10) a dX9_orders_10 (Nat.lt_of_lt_of_le (by decide) hn) kq61 (by decide) ⟨by decide, by decide⟩ ?_
  refine ok_nmI (fun x1_11 ex1_11 => ?_)
  have hw := hw x1_11 ex1_11
  refine ok_sI_n (pc := 11) a [some (vR 59), some (vI x1_11), none, none, none, none, none, none, none, none] dX9_orders_11 rfl (by decide) rfl rfl ?_
  refine ok_iconst (pc := 12) a dX9_orders_12 ?_
  refine ok_sI_n (pc := 13) a [some (vR 59), some (vI x1_11), some (vI 0), none, none, none, none, none, none, none] dX9_orders_13 rfl (by decide) rfl rfl ?_
  refine lp.use (P := fun y => OK Γ p l e (rmd 2 n n) s m args below meth c n (MQ below (QQ Γ n (RV g Q)) args s (n - n) (sl n - sl n) (AA Γ)) 14 [some (vR 59), some (vI x1_11), some (vI y.1), none, none, none, none, none, none, none] [] n g y.2) ?_ (0, h1) hw
  clear hw
  intro X14 hX14 y hw
  obtain ⟨x2_14, h_14⟩ := y
  have hw : wp_X9_orders_B14 Q x1_11 X14 x2_14 h_14 := hw
  unfold wp_X9_orders_B14 at hw
  try dsimp only
  refine ok_iload_n (pc := 14) a dX9_orders_14 rfl rfl ?_
  refine ok_sipush (pc := 15) a dX9_orders_15 (by decide) ?_
  obtain ⟨hc2, hw⟩ := hw
  refine ok_icmp_ge (pc := 18) a 222 dX9_orders_18 (by decide) hc2 ⟨by decide, by decide⟩ (fun hd27 => ?_) (fun hd27 => ?_)
  · have hw := hw.1 hd27
    exact ok_vret (pc := 222) a dX9_orders_222 ⟨rfl, rfl, hw⟩
  · have hw := hw.2 hd27
    refine ok_iconst (pc := 21) a dX9_orders_21 ?_
    refine ok_sI_n (pc := 22) a [some (vR 59), some (vI x1_11), some (vI x2_14), some (vI 0), none, none, none, none, none, none] dX9_orders_22 rfl (by decide) rfl rfl ?_
    refine ok_iconst (pc := 23) a dX9_orders_23 ?_
    refine ok_sI (pc := 24) a [some (vR 59), some (vI x1_11), some (vI x2_14), some (vI 0), some (vI 0), none, none, none, none, none] dX9_orders_24 (by decide) rfl rfl ?_
    refine ok_iconst (pc := 26) a dX9_orders_26 ?_
    refine ok_sI (pc := 27) a [some (vR 59), some (vI x1_11), some (vI x2_14), some (vI 0), some (vI 0), some (vI 0), none, none, none, none] dX9_orders_27 (by decide) rfl rfl ?_
    refine lp.use (P := fun y => OK Γ p l e (rmd 2 n n) s m args below meth c n (MQ below (QQ Γ n (RV g Q)) args s (n - n) (sl n - sl n) (AA Γ)) 29 [some (vR 59), some (vI x1_11), some (vI x2_14), some (vI y.1), some (vI y.2.1), some (vI y.2.2), none, none, none, none] [] n g h_14) ?_ (0, 0, 0) hw
    clear hw
    intro X29 hX29 y hw
    obtain ⟨x3_29, x4_29, x5_29⟩ := y
    have hw : wp_X9_orders_B29 x1_11 X14 x2_14 h_14 X29 x3_29 x4_29 x5_29 := hw
    unfold wp_X9_orders_B29 at hw
    try dsimp only
    refine ok_iload (pc := 29) a dX9_orders_29 rfl ?_
    refine ok_iconst (pc := 31) a dX9_orders_31 ?_
    obtain ⟨hc3, hw⟩ := hw
    refine ok_icmp_ge (pc := 32) a 87 dX9_orders_32 (by decide) hc3 ⟨by decide, by decide⟩ (fun hd26 => ?_) (fun hd26 => ?_)
    · have hw := hw.1 hd26
      refine ok_iload (pc := 87) a dX9_orders_87 rfl ?_
      obtain ⟨hc4, hw⟩ := hw
      have hJ216 : ∀ (x5_216 : Int), ∀ (h_216 : aH), wp_X9_orders_J216 X14 x2_14 x5_216 h_216 → OK Γ p l e (rmd 2 n n) s m args below meth c n (MQ below (QQ Γ n (RV g Q)) args s (n - n) (sl n - sl n) (AA Γ)) 216 [some (vR 59), some (vI x1_11), some (vI x2_14), some (vI x3_29), some (vI x4_29), some (vI x5_216), none, none, none, none] [] n g h_216 := by
        intro x5_216 h_216 hw
        unfold wp_X9_orders_J216 at hw
        refine ok_inc (pc := 216) a [some (vR 59), some (vI x1_11), some (vI (x2_14 + 1)), some (vI x3_29), some (vI x4_29), some (vI x5_216), none, none, none, none] dX9_orders_216 rfl (by decide) rfl rfl ?_
        refine ok_goto (pc := 219) a 14 dX9_orders_219 (by decide) ?_
        refine ok_forget 3 ?_
        refine ok_forget 4 ?_
        refine ok_forget 5 ?_
        exact hX14 ((x2_14 + 1), h_216) hw
      refine ok_if_ne (pc := 89) a 216 dX9_orders_89 (by decide) hc4 (fun hd21 => ?_) (fun hd21 => ?_)
      · have hw := hw.2 hd21
        exact hJ216 x5_29 h_14 hw
      · have hw := hw.1 hd21
        refine ok_iload_n (pc := 92) a dX9_orders_92 rfl rfl ?_
        refine ok_iload_n (pc := 93) a dX9_orders_93 rfl rfl ?_
        refine ok_iconst (pc := 94) a dX9_orders_94 ?_
        refine ok_iadd (pc := 95) a dX9_orders_95 ?_
        refine ok_iand (pc := 96) a dX9_orders_96 ?_
        obtain ⟨hc5, hw⟩ := hw
        refine ok_if_ne (pc := 97) a 216 dX9_orders_97 (by decide) hc5 (fun hd20 => ?_) (fun hd20 => ?_)
        · have hw := hw.2 hd20
          exact hJ216 x5_29 h_14 hw
        · have hw := hw.1 hd20
          refine ok_iconst (pc := 100) a dX9_orders_100 ?_
          refine ok_sI (pc := 101) a [some (vR 59), some (vI x1_11), some (vI x2_14), some (vI x3_29), some (vI x4_29), some (vI 0), none, none, none, none] dX9_orders_101 (by decide) rfl rfl ?_
          refine ok_iconst (pc := 103) a dX9_orders_103 ?_
          refine ok_sI (pc := 104) a [some (vR 59), some (vI x1_11), some (vI x2_14), some (vI x3_29), some (vI x4_29), some (vI 0), some (vI 0), none, none, none] dX9_orders_104 (by decide) rfl rfl ?_
          refine lp.use (P := fun y => OK Γ p l e (rmd 2 n n) s m args below meth c n (MQ below (QQ Γ n (RV g Q)) args s (n - n) (sl n - sl n) (AA Γ)) 106 [some (vR 59), some (vI x1_11), some (vI x2_14), some (vI x3_29), some (vI x4_29), some (vI y.1), some (vI y.2), none, none, none] [] n g h_14) ?_ (0, 0) hw
          clear hw
          intro X106 hX106 y hw
          obtain ⟨x5_106, x6_106⟩ := y
          have hw : wp_X9_orders_B106 X14 x2_14 h_14 X106 x5_106 x6_106 := hw
          unfold wp_X9_orders_B106 at hw
          try dsimp only
          refine ok_iload (pc := 106) a dX9_orders_106 rfl ?_
          refine ok_bipush (pc := 108) a dX9_orders_108 (by decide) ?_
          obtain ⟨hc6, hw⟩ := hw
          refine ok_icmp_ge (pc := 110) a 195 dX9_orders_110 (by decide) hc6 ⟨by decide, by decide⟩ (fun hd19 => ?_) (fun hd19 => ?_)
          · have hw := hw.1 hd19
            refine ok_aload_n (pc := 195) a dX9_orders_195 rfl rfl ?_
            refine ok_getR (pc := 196) a dX9_orders_196 lfRX9_56 (Nat.lt_of_lt_of_le (by decide) hn) kq59 rfl (tg.at 59 26 75 (by decide) (by decide)) ?_
            refine ok_aload_n (pc := 199) a dX9_orders_199 rfl rfl ?_
            refine ok_fI (pc := 200) 27 a dX9_orders_200 lfRX9_166 (Nat.lt_of_lt_of_le (by decide) hn) kq59 ty_9_27 rfl ?_
            refine ok_iload (pc := 203) a dX9_orders_203 rfl ?_
            obtain ⟨hc7, hw⟩ := hw
            refine ok_iast (pc := 205) a dX9_orders_205 (Nat.lt_of_lt_of_le (by decide) hn) kq75 (by decide) hc7 (ok_nmH (fun h8 eh8 => ?_))
            have hw := hw h8 eh8
            refine ok_aload_n (pc := 206) a dX9_orders_206 rfl rfl ?_
            refine ok_dup (pc := 207) a dX9_orders_207 (by rfl) ?_
            refine ok_fI (pc := 208) 27 a dX9_orders_208 lfRX9_166 (Nat.lt_of_lt_of_le (by decide) hn) kq59 ty_9_27 rfl ?_
            refine ok_iconst (pc := 211) a dX9_orders_211 ?_
            refine ok_iadd (pc := 212) a dX9_orders_212 ?_
            refine ok_pI (pc := 213) 27 a dX9_orders_213 lfRX9_166 fi_9_27 (Nat.lt_of_lt_of_le (by decide) hn) kq59 ty_9_27 rfl (fun h9 eh9 => ?_)
            have hw := hw h9 eh9
            refine ok_forget 6 ?_
            exact hJ216 x5_106 h9 hw
          · have hw := hw.2 hd19
            refine ok_iload_n (pc := 113) a dX9_orders_113 rfl rfl ?_
            refine ok_iconst (pc := 114) a dX9_orders_114 ?_
            refine ok_iload (pc := 115) a dX9_orders_115 rfl ?_
            refine ok_SPI (pc := 117) a [(vI x6_106)] [(vI 2), (vI x2_14)] (M_X9_lowerOf hn tg x6_106  hw) dX9_orders_117 lkRX9_169 rfl ⟨Nat.le_of_ble_eq_true rfl, Nat.le_of_ble_eq_true rfl⟩ rfl (Nat.le_of_ble_eq_true rfl) rfl (fun r10 hw => ?_)
            refine ok_imul (pc := 120) a dX9_orders_120 ?_
            refine ok_ishr (pc := 121) a dX9_orders_121 ?_
            refine ok_iconst (pc := 122) a dX9_orders_122 ?_
            refine ok_iand (pc := 123) a dX9_orders_123 ?_
            refine ok_nmI (fun x7_124 ex7_124 => ?_)
            have hw := hw x7_124 ex7_124
            refine ok_sI (pc := 124) a [some (vR 59), some (vI x1_11), some (vI x2_14), some (vI x3_29), some (vI x4_29), some (vI x5_106), some (vI x6_106), some (vI x7_124), none, none] dX9_orders_124 (by decide) rfl rfl ?_
            refine ok_iload_n (pc := 126) a dX9_orders_126 rfl rfl ?_
            refine ok_iconst (pc := 127) a dX9_orders_127 ?_
            refine ok_iload (pc := 128) a dX9_orders_128 rfl ?_
            refine ok_SPI (pc := 130) a [(vI x6_106)] [(vI 2), (vI x2_14)] (M_X9_upperOf hn tg x6_106  hw) dX9_orders_130 lkRX9_153 rfl ⟨Nat.le_of_ble_eq_true rfl, Nat.le_of_ble_eq_true rfl⟩ rfl (Nat.le_of_ble_eq_true rfl) rfl (fun r11 hw => ?_)
            refine ok_imul (pc := 133) a dX9_orders_133 ?_
            refine ok_ishr (pc := 134) a dX9_orders_134 ?_
            refine ok_iconst (pc := 135) a dX9_orders_135 ?_
            refine ok_iand (pc := 136) a dX9_orders_136 ?_
            refine ok_nmI (fun x8_137 ex8_137 => ?_)
            have hw := hw x8_137 ex8_137
            refine ok_sI (pc := 137) a [some (vR 59), some (vI x1_11), some (vI x2_14), some (vI x3_29), some (vI x4_29), some (vI x5_106), some (vI x6_106), some (vI x7_124), some (vI x8_137), none] dX9_orders_137 (by decide) rfl rfl ?_
            refine ok_iload (pc := 139) a dX9_orders_139 rfl ?_
            refine ok_iload (pc := 141) a dX9_orders_141 rfl ?_
            obtain ⟨hR, hw⟩ := hw
            have hK : OK Γ p l e (rmd 2 n n) s m args below meth c n (MQ below (QQ Γ n (RV g Q)) args s (n - n) (sl n - sl n) (AA Γ)) 162 [some (vR 59), some (vI x1_11), some (vI x2_14), some (vI x3_29), some (vI x4_29), some (vI x5_106), some (vI x6_106), some (vI x7_124), some (vI x8_137), none] [(vI (if x7_124 ≤ x8_137 then (if x8_137 ≤ x7_124 then 1 else 3 : Int) else 2 : Int))] n g h_14 := by
              refine ok_nmI (fun x9_162 ex9_162 => ?_)
              have hw := hw x9_162 ex9_162
              refine ok_sI (pc := 162) a [some (vR 59), some (vI x1_11), some (vI x2_14), some (vI x3_29), some (vI x4_29), some (vI x5_106), some (vI x6_106), some (vI x7_124), some (vI x8_137), some (vI x9_162)] dX9_orders_162 (by decide) rfl rfl ?_
              refine ok_iload (pc := 164) a dX9_orders_164 rfl ?_
              refine ok_aload_n (pc := 166) a dX9_orders_166 rfl rfl ?_
              refine ok_iload (pc := 167) a dX9_orders_167 rfl ?_
              refine ok_VPZ (pc := 169) a [(vI x6_106)] [(vI x5_106)] (M_X9_isPairNumber hn tg x6_106  hw) dX9_orders_169 lkRX9_172 rfl (Nat.lt_of_lt_of_le (by decide) hn) kq59 (by decide) rfl ⟨Nat.le_of_ble_eq_true rfl, Nat.le_of_ble_eq_true rfl⟩ rfl (Nat.le_of_ble_eq_true rfl) rfl (fun r16 hz17 hw => ?_)
              have hK : OK Γ p l e (rmd 2 n n) s m args below meth c n (MQ below (QQ Γ n (RV g Q)) args s (n - n) (sl n - sl n) (AA Γ)) 186 [some (vR 59), some (vI x1_11), some (vI x2_14), some (vI x3_29), some (vI x4_29), some (vI x5_106), some (vI x6_106), some (vI x7_124), some (vI x8_137), some (vI x9_162)] [(vI (if r16 = 0 then 0 else (bshl x9_162 (2 * x6_106)) : Int)), (vI x5_106)] n g h_14 := by
                refine ok_ior (pc := 186) a dX9_orders_186 ?_
                refine ok_nmI (fun x5_187 ex5_187 => ?_)
                have hw := hw x5_187 ex5_187
                refine ok_sI (pc := 187) a [some (vR 59), some (vI x1_11), some (vI x2_14), some (vI x3_29), some (vI x4_29), some (vI x5_187), some (vI x6_106), some (vI x7_124), some (vI x8_137), some (vI x9_162)] dX9_orders_187 (by decide) rfl rfl ?_
                refine ok_inc (pc := 189) a [some (vR 59), some (vI x1_11), some (vI x2_14), some (vI x3_29), some (vI x4_29), some (vI x5_187), some (vI (x6_106 + 1)), some (vI x7_124), some (vI x8_137), some (vI x9_162)] dX9_orders_189 rfl (by decide) rfl rfl ?_
                refine ok_goto (pc := 192) a 106 dX9_orders_192 (by decide) ?_
                refine ok_forget 7 ?_
                refine ok_forget 8 ?_
                refine ok_forget 9 ?_
                exact hX106 (x5_187, (x6_106 + 1)) hw
              refine ok_if_eq (pc := 172) a 185 dX9_orders_172 (by decide) (inR_b hz17) (fun hd18 => ?_) (fun hd18 => ?_)
              · refine ok_iconst (pc := 185) a dX9_orders_185 ?_
                simp only [if_pos hd18] at hK
                exact hK
              · refine ok_iload (pc := 175) a dX9_orders_175 rfl ?_
                refine ok_iconst (pc := 177) a dX9_orders_177 ?_
                refine ok_iload (pc := 178) a dX9_orders_178 rfl ?_
                refine ok_imul (pc := 180) a dX9_orders_180 ?_
                refine ok_ishl (pc := 181) a dX9_orders_181 ?_
                refine ok_goto (pc := 182) a 186 dX9_orders_182 (by decide) ?_
                simp only [if_neg hd18] at hK
                exact hK
            have hw := hR
            obtain ⟨hc12, hw⟩ := hw
            obtain ⟨hc13, hw⟩ := hw
            refine ok_icmp_le (pc := 143) a 150 dX9_orders_143 (by decide) hc12 hc13 (fun hd14 => ?_) (fun hd14 => ?_)
            · refine ok_iload (pc := 150) a dX9_orders_150 rfl ?_
              refine ok_iload (pc := 152) a dX9_orders_152 rfl ?_
              refine ok_icmp_ge (pc := 154) a 161 dX9_orders_154 (by decide) hc12 hc13 (fun hd15 => ?_) (fun hd15 => ?_)
              · refine ok_iconst (pc := 161) a dX9_orders_161 ?_
                simp only [if_pos hd14, if_pos hd15] at hK
                exact hK
              · refine ok_iconst (pc := 157) a dX9_orders_157 ?_
                refine ok_goto (pc := 158) a 162 dX9_orders_158 (by decide) ?_
                simp only [if_pos hd14, if_neg hd15] at hK
                exact hK
            · refine ok_iconst (pc := 146) a dX9_orders_146 ?_
              refine ok_goto (pc := 147) a 162 dX9_orders_147 (by decide) ?_
              simp only [if_neg hd14] at hK
              exact hK
    · have hw := hw.2 hd26
      refine ok_iload_n (pc := 35) a dX9_orders_35 rfl rfl ?_
      refine ok_iload (pc := 36) a dX9_orders_36 rfl ?_
      refine ok_iload_n (pc := 38) a dX9_orders_38 rfl rfl ?_
      obtain ⟨hR, hw⟩ := hw
      have hK : OK Γ p l e (rmd 2 n n) s m args below meth c n (MQ below (QQ Γ n (RV g Q)) args s (n - n) (sl n - sl n) (AA Γ)) 56 [some (vR 59), some (vI x1_11), some (vI x2_14), some (vI x3_29), some (vI x4_29), some (vI x5_29), none, none, none, none] [(vI (if x1_11 ≤ x5_29 then 0 else (bshl 1 (band (bshr x2_14 (2 * x5_29)) 3)) : Int)), (vI x3_29)] n g h_14 := by
        refine ok_ior (pc := 56) a dX9_orders_56 ?_
        refine ok_nmI (fun x3_57 ex3_57 => ?_)
        have hw := hw x3_57 ex3_57
        refine ok_sI_n (pc := 57) a [some (vR 59), some (vI x1_11), some (vI x2_14), some (vI x3_57), some (vI x4_29), some (vI x5_29), none, none, none, none] dX9_orders_57 rfl (by decide) rfl rfl ?_
        refine ok_iload (pc := 58) a dX9_orders_58 rfl ?_
        refine ok_iload (pc := 60) a dX9_orders_60 rfl ?_
        refine ok_iload_n (pc := 62) a dX9_orders_62 rfl rfl ?_
        obtain ⟨hR, hw⟩ := hw
        have hK : OK Γ p l e (rmd 2 n n) s m args below meth c n (MQ below (QQ Γ n (RV g Q)) args s (n - n) (sl n - sl n) (AA Γ)) 78 [some (vR 59), some (vI x1_11), some (vI x2_14), some (vI x3_57), some (vI x4_29), some (vI x5_29), none, none, none, none] [(vI (if x1_11 ≤ x5_29 then (band (bshr x2_14 (2 * x5_29)) 3) else 0 : Int)), (vI x4_29)] n g h_14 := by
          refine ok_ior (pc := 78) a dX9_orders_78 ?_
          refine ok_nmI (fun x4_79 ex4_79 => ?_)
          have hw := hw x4_79 ex4_79
          refine ok_sI (pc := 79) a [some (vR 59), some (vI x1_11), some (vI x2_14), some (vI x3_57), some (vI x4_79), some (vI x5_29), none, none, none, none] dX9_orders_79 (by decide) rfl rfl ?_
          refine ok_inc (pc := 81) a [some (vR 59), some (vI x1_11), some (vI x2_14), some (vI x3_57), some (vI x4_79), some (vI (x5_29 + 1)), none, none, none, none] dX9_orders_81 rfl (by decide) rfl rfl ?_
          refine ok_goto (pc := 84) a 29 dX9_orders_84 (by decide) ?_
          exact hX29 (x3_57, x4_79, (x5_29 + 1)) hw
        have hw := hR
        obtain ⟨hc24, hw⟩ := hw
        refine ok_icmp_ge (pc := 63) a 70 dX9_orders_63 (by decide) hc3 hc24 (fun hd25 => ?_) (fun hd25 => ?_)
        · refine ok_iload_n (pc := 70) a dX9_orders_70 rfl rfl ?_
          refine ok_iconst (pc := 71) a dX9_orders_71 ?_
          refine ok_iload (pc := 72) a dX9_orders_72 rfl ?_
          refine ok_imul (pc := 74) a dX9_orders_74 ?_
          refine ok_ishr (pc := 75) a dX9_orders_75 ?_
          refine ok_iconst (pc := 76) a dX9_orders_76 ?_
          refine ok_iand (pc := 77) a dX9_orders_77 ?_
          simp only [if_pos hd25] at hK
          exact hK
        · refine ok_iconst (pc := 66) a dX9_orders_66 ?_
          refine ok_goto (pc := 67) a 78 dX9_orders_67 (by decide) ?_
          simp only [if_neg hd25] at hK
          exact hK
      have hw := hR
      obtain ⟨hc22, hw⟩ := hw
      refine ok_icmp_ge (pc := 39) a 55 dX9_orders_39 (by decide) hc3 hc22 (fun hd23 => ?_) (fun hd23 => ?_)
      · refine ok_iconst (pc := 55) a dX9_orders_55 ?_
        simp only [if_pos hd23] at hK
        exact hK
      · refine ok_iconst (pc := 42) a dX9_orders_42 ?_
        refine ok_iload_n (pc := 43) a dX9_orders_43 rfl rfl ?_
        refine ok_iconst (pc := 44) a dX9_orders_44 ?_
        refine ok_iload (pc := 45) a dX9_orders_45 rfl ?_
        refine ok_imul (pc := 47) a dX9_orders_47 ?_
        refine ok_ishr (pc := 48) a dX9_orders_48 ?_
        refine ok_iconst (pc := 49) a dX9_orders_49 ?_
        refine ok_iand (pc := 50) a dX9_orders_50 ?_
        refine ok_ishl (pc := 51) a dX9_orders_51 ?_
        refine ok_goto (pc := 52) a 56 dX9_orders_52 (by decide) ?_
        simp only [if_neg hd23] at hK
        exact hK

def wp_X9_worstBehind_B26 (x1 : Int) (x2 : Int) (h : aH) (Q : Int → Prop) (X26 : Int × Int → Prop) (x3_26 : Int) (x4_26 : Int) : Prop :=
  inR x4_26 ∧ ((4 ≤ x4_26 → Q (x3_26 + 1)) ∧ (¬ 4 ≤ x4_26 → (0 ≤ (bor x1 (bshl x4_26 (2 * x2))) ∧ (bor x1 (bshl x4_26 (2 * x2))) < 4096) ∧ ∀ x5_45, x5_45 = (h 77 (bor x1 (bshl x4_26 (2 * x2)))) → (inR x5_45 ∧ inR x3_26 ∧ True) ∧ ∀ x3_59, x3_59 = (if x5_45 ≤ x3_26 then x3_26 else x5_45 : Int) → X26 (x3_59, (x4_26 + 1))))
def wp_X9_worstBehind (x1 : Int) (x2 : Int) (h : aH) (Q : Int → Prop) : Prop :=
  wp_X9_isPairNumber x2 h (fun r1 => ((r1 = 0 → Q 1000000) ∧ (¬ r1 = 0 → inR (band (bshr x1 (2 * x2)) 3) ∧ (((band (bshr x1 (2 * x2)) 3) = 0 → lp (fun X y => wp_X9_worstBehind_B26 x1 x2 h Q X y.1 y.2) (0, 1)) ∧ (¬ (band (bshr x1 (2 * x2)) 3) = 0 → Q 1000000)))))
set_option maxRecDepth 100000 in
set_option maxHeartbeats 4000000 in
theorem M_X9_worstBehind {Γ : Gm} {l : Launch} {n : Nat} {g : aG} (hn : 80 ≤ n) (tg : TM g) (x1 : Int) (x2 : Int)  {h : aH} {Q : Int → Prop} (hw : wp_X9_worstBehind x1 x2 h Q) : Cl Γ l mX9_worstBehind [vR 59, vI x1, vI x2] n g h (PI g h Q) := by
  refine Cl.of (by decide) [some (vR 59), some (vI x1), some (vI x2), none, none, none] rfl (Nat.le_of_ble_eq_true rfl) ?_
  intro p e s m args below meth c a
  unfold wp_X9_worstBehind at hw
  refine ok_aload_n (pc := 0) a dX9_worstBehind_0 rfl rfl ?_
  refine ok_iload_n (pc := 1) a dX9_worstBehind_1 rfl rfl ?_
  refine ok_VPZ (pc := 2) a [(vI x2)] [] (M_X9_isPairNumber hn tg x2  hw) dX9_worstBehind_2 lkRX9_172 rfl (Nat.lt_of_lt_of_le (by decide) hn) kq59 (by decide) rfl ⟨Nat.le_of_ble_eq_true rfl, Nat.le_of_ble_eq_true rfl⟩ rfl (Nat.le_of_ble_eq_true rfl) rfl (fun r1 hz2 hw => ?_)
  refine ok_if_eq (pc := 5) a 18 dX9_worstBehind_5 (by decide) (inR_b hz2) (fun hd11 => ?_) (fun hd11 => ?_)
  · have hw := hw.1 hd11
    refine ok_ldc (pc := 18) (x := 1000000) a dX9_worstBehind_18 ctRX9_175 (by decide) ?_
    exact ok_iret (pc := 20) a dX9_worstBehind_20 ⟨_, rfl, rfl, rfl, hw⟩
  · have hw := hw.2 hd11
    refine ok_iload_n (pc := 8) a dX9_worstBehind_8 rfl rfl ?_
    refine ok_iconst (pc := 9) a dX9_worstBehind_9 ?_
    refine ok_iload_n (pc := 10) a dX9_worstBehind_10 rfl rfl ?_
    refine ok_imul (pc := 11) a dX9_worstBehind_11 ?_
    refine ok_ishr (pc := 12) a dX9_worstBehind_12 ?_
    refine ok_iconst (pc := 13) a dX9_worstBehind_13 ?_
    refine ok_iand (pc := 14) a dX9_worstBehind_14 ?_
    obtain ⟨hc3, hw⟩ := hw
    refine ok_if_eq (pc := 15) a 21 dX9_worstBehind_15 (by decide) hc3 (fun hd10 => ?_) (fun hd10 => ?_)
    · have hw := hw.1 hd10
      refine ok_iconst (pc := 21) a dX9_worstBehind_21 ?_
      refine ok_sI_n (pc := 22) a [some (vR 59), some (vI x1), some (vI x2), some (vI 0), none, none] dX9_worstBehind_22 rfl (by decide) rfl rfl ?_
      refine ok_iconst (pc := 23) a dX9_worstBehind_23 ?_
      refine ok_sI (pc := 24) a [some (vR 59), some (vI x1), some (vI x2), some (vI 0), some (vI 1), none] dX9_worstBehind_24 (by decide) rfl rfl ?_
      refine lp.use (P := fun y => OK Γ p l e (rmd 2 n n) s m args below meth c n (MQ below (QQ Γ n (PI g h Q)) args s (n - n) (sl n - sl n) (AA Γ)) 26 [some (vR 59), some (vI x1), some (vI x2), some (vI y.1), some (vI y.2), none] [] n g h) ?_ (0, 1) hw
      clear hw
      intro X26 hX26 y hw
      obtain ⟨x3_26, x4_26⟩ := y
      have hw : wp_X9_worstBehind_B26 x1 x2 h Q X26 x3_26 x4_26 := hw
      unfold wp_X9_worstBehind_B26 at hw
      try dsimp only
      refine ok_iload (pc := 26) a dX9_worstBehind_26 rfl ?_
      refine ok_iconst (pc := 28) a dX9_worstBehind_28 ?_
      obtain ⟨hc4, hw⟩ := hw
      refine ok_icmp_ge (pc := 29) a 66 dX9_worstBehind_29 (by decide) hc4 ⟨by decide, by decide⟩ (fun hd9 => ?_) (fun hd9 => ?_)
      · have hw := hw.1 hd9
        refine ok_iload_n (pc := 66) a dX9_worstBehind_66 rfl rfl ?_
        refine ok_iconst (pc := 67) a dX9_worstBehind_67 ?_
        refine ok_iadd (pc := 68) a dX9_worstBehind_68 ?_
        exact ok_iret (pc := 69) a dX9_worstBehind_69 ⟨_, rfl, rfl, rfl, hw⟩
      · have hw := hw.2 hd9
        refine ok_aload_n (pc := 32) a dX9_worstBehind_32 rfl rfl ?_
        refine ok_getR (pc := 33) a dX9_worstBehind_33 lfRX9_62 (Nat.lt_of_lt_of_le (by decide) hn) kq59 rfl (tg.at 59 29 77 (by decide) (by decide)) ?_
        refine ok_iload_n (pc := 36) a dX9_worstBehind_36 rfl rfl ?_
        refine ok_iload (pc := 37) a dX9_worstBehind_37 rfl ?_
        refine ok_iconst (pc := 39) a dX9_worstBehind_39 ?_
        refine ok_iload_n (pc := 40) a dX9_worstBehind_40 rfl rfl ?_
        refine ok_imul (pc := 41) a dX9_worstBehind_41 ?_
        refine ok_ishl (pc := 42) a dX9_worstBehind_42 ?_
        refine ok_ior (pc := 43) a dX9_worstBehind_43 ?_
        obtain ⟨hc5, hw⟩ := hw
        refine ok_iald (pc := 44) a dX9_worstBehind_44 (Nat.lt_of_lt_of_le (by decide) hn) kq77 (by decide) hc5 ?_
        refine ok_nmI (fun x5_45 ex5_45 => ?_)
        have hw := hw x5_45 ex5_45
        refine ok_sI (pc := 45) a [some (vR 59), some (vI x1), some (vI x2), some (vI x3_26), some (vI x4_26), some (vI x5_45)] dX9_worstBehind_45 (by decide) rfl rfl ?_
        refine ok_iload (pc := 47) a dX9_worstBehind_47 rfl ?_
        refine ok_iload_n (pc := 49) a dX9_worstBehind_49 rfl rfl ?_
        obtain ⟨hR, hw⟩ := hw
        have hK : OK Γ p l e (rmd 2 n n) s m args below meth c n (MQ below (QQ Γ n (PI g h Q)) args s (n - n) (sl n - sl n) (AA Γ)) 59 [some (vR 59), some (vI x1), some (vI x2), some (vI x3_26), some (vI x4_26), some (vI x5_45)] [(vI (if x5_45 ≤ x3_26 then x3_26 else x5_45 : Int))] n g h := by
          refine ok_nmI (fun x3_59 ex3_59 => ?_)
          have hw := hw x3_59 ex3_59
          refine ok_sI_n (pc := 59) a [some (vR 59), some (vI x1), some (vI x2), some (vI x3_59), some (vI x4_26), some (vI x5_45)] dX9_worstBehind_59 rfl (by decide) rfl rfl ?_
          refine ok_inc (pc := 60) a [some (vR 59), some (vI x1), some (vI x2), some (vI x3_59), some (vI (x4_26 + 1)), some (vI x5_45)] dX9_worstBehind_60 rfl (by decide) rfl rfl ?_
          refine ok_goto (pc := 63) a 26 dX9_worstBehind_63 (by decide) ?_
          refine ok_forget 5 ?_
          exact hX26 (x3_59, (x4_26 + 1)) hw
        have hw := hR
        obtain ⟨hc6, hw⟩ := hw
        obtain ⟨hc7, hw⟩ := hw
        refine ok_icmp_le (pc := 50) a 58 dX9_worstBehind_50 (by decide) hc6 hc7 (fun hd8 => ?_) (fun hd8 => ?_)
        · refine ok_iload_n (pc := 58) a dX9_worstBehind_58 rfl rfl ?_
          simp only [if_pos hd8] at hK
          exact hK
        · refine ok_iload (pc := 53) a dX9_worstBehind_53 rfl ?_
          refine ok_goto (pc := 55) a 59 dX9_worstBehind_55 (by decide) ?_
          simp only [if_neg hd8] at hK
          exact hK
    · have hw := hw.2 hd10
      refine ok_ldc (pc := 18) (x := 1000000) a dX9_worstBehind_18 ctRX9_175 (by decide) ?_
      exact ok_iret (pc := 20) a dX9_worstBehind_20 ⟨_, rfl, rfl, rfl, hw⟩

def wp_X9_worsts_J145 (X4 : Int × aH → Prop) (x1_4 : Int) (x3_51 : Int) (h6 : aH) (x4_102 : Int)  : Prop :=
  (inR x3_51 ∧ True) ∧ ∀ h10, h10 = up h6 77 x1_4 (if x3_51 ≤ 1 then 0 else x4_102 : Int) → X4 ((x1_4 + (-1)), h10)
def wp_X9_worsts_B102 (X4 : Int × aH → Prop) (x1_4 : Int) (x3_51 : Int) (h6 : aH) (X102 : Int × Int → Prop) (x4_102 : Int) (x5_102 : Int) : Prop :=
  inR x5_102 ∧ ((6 ≤ x5_102 → wp_X9_worsts_J145 X4 x1_4 x3_51 h6 x4_102 ) ∧ (¬ 6 ≤ x5_102 → inR x3_51 ∧ ((x3_51 ≤ 1 → wp_X9_worsts_J145 X4 x1_4 x3_51 h6 x4_102 ) ∧ (¬ x3_51 ≤ 1 → wp_X9_worstBehind x1_4 x5_102 h6 (fun r12 => (inR r12 ∧ inR x4_102 ∧ True) ∧ ∀ x4_137, x4_137 = (if x4_102 ≤ r12 then x4_102 else r12 : Int) → X102 (x4_137, (x5_102 + 1)))))))
def wp_X9_worsts_B51 (X4 : Int × aH → Prop) (x1_4 : Int) (h_4 : aH) (x2_12 : Int) (X51 : Int × Int → Prop) (x3_51 : Int) (x4_51 : Int) : Prop :=
  inR x4_51 ∧ inR (h_4 59 27) ∧ (((h_4 59 27) ≤ x4_51 → (0 ≤ x1_4 ∧ x1_4 < 4096) ∧ ∀ h6, h6 = up h_4 76 x1_4 x3_51 → lp (fun X y => wp_X9_worsts_B102 X4 x1_4 x3_51 h6 X y.1 y.2) (1000000, 0)) ∧ (¬ (h_4 59 27) ≤ x4_51 → (0 ≤ x4_51 ∧ x4_51 < 75) ∧ (inR (band (bxor (h_4 75 x4_51) x1_4) x2_12) ∧ True) ∧ ∀ x3_81, x3_81 = (x3_51 + (if (band (bxor (h_4 75 x4_51) x1_4) x2_12) = 0 then 1 else 0 : Int)) → X51 (x3_81, (x4_51 + 1))))
def wp_X9_worsts_B12 (X4 : Int × aH → Prop) (x1_4 : Int) (h_4 : aH) (X12 : Int × Int → Prop) (x2_12 : Int) (x3_12 : Int) : Prop :=
  inR x3_12 ∧ ((6 ≤ x3_12 → lp (fun X y => wp_X9_worsts_B51 X4 x1_4 h_4 x2_12 X y.1 y.2) (0, 0)) ∧ (¬ 6 ≤ x3_12 → (inR (band (bshr x1_4 (2 * x3_12)) 3) ∧ True) ∧ ∀ x2_39, x2_39 = (bor x2_12 (if (band (bshr x1_4 (2 * x3_12)) 3) = 0 then 0 else (bshl 3 (2 * x3_12)) : Int)) → X12 (x2_39, (x3_12 + 1))))
def wp_X9_worsts_B4 (Q : aH → Prop) (X4 : Int × aH → Prop) (x1_4 : Int) (h_4 : aH) : Prop :=
  inR x1_4 ∧ ((x1_4 < 0 → Q h_4) ∧ (¬ x1_4 < 0 → lp (fun X y => wp_X9_worsts_B12 X4 x1_4 h_4 X y.1 y.2) (0, 0)))
def wp_X9_worsts  (h : aH) (Q : aH → Prop) : Prop :=
  lp (fun X y => wp_X9_worsts_B4 Q X y.1 y.2) (4095, h)
set_option maxRecDepth 100000 in
set_option maxHeartbeats 4000000 in
theorem M_X9_worsts {Γ : Gm} {l : Launch} {n : Nat} {g : aG} (hn : 80 ≤ n) (tg : TM g)   {h : aH} {Q : aH → Prop} (hw : wp_X9_worsts  h Q) : Cl Γ l mX9_worsts [vR 59] n g h (RV g Q) := by
  refine Cl.of (by decide) [some (vR 59), none, none, none, none, none, none] rfl (Nat.le_of_ble_eq_true rfl) ?_
  intro p e s m args below meth c a
  unfold wp_X9_worsts at hw
  refine ok_sipush (pc := 0) a dX9_worsts_0 (by decide) ?_
  refine ok_sI_n (pc := 3) a [some (vR 59), some (vI 4095), none, none, none, none, none] dX9_worsts_3 rfl (by decide) rfl rfl ?_
  refine lp.use (P := fun y => OK Γ p l e (rmd 3 n n) s m args below meth c n (MQ below (QQ Γ n (RV g Q)) args s (n - n) (sl n - sl n) (AA Γ)) 4 [some (vR 59), some (vI y.1), none, none, none, none, none] [] n g y.2) ?_ (4095, h) hw
  clear hw
  intro X4 hX4 y hw
  obtain ⟨x1_4, h_4⟩ := y
  have hw : wp_X9_worsts_B4 Q X4 x1_4 h_4 := hw
  unfold wp_X9_worsts_B4 at hw
  try dsimp only
  refine ok_iload_n (pc := 4) a dX9_worsts_4 rfl rfl ?_
  obtain ⟨hc1, hw⟩ := hw
  refine ok_if_lt (pc := 5) a 168 dX9_worsts_5 (by decide) hc1 (fun hd25 => ?_) (fun hd25 => ?_)
  · have hw := hw.1 hd25
    exact ok_vret (pc := 168) a dX9_worsts_168 ⟨rfl, rfl, hw⟩
  · have hw := hw.2 hd25
    refine ok_iconst (pc := 8) a dX9_worsts_8 ?_
    refine ok_sI_n (pc := 9) a [some (vR 59), some (vI x1_4), some (vI 0), none, none, none, none] dX9_worsts_9 rfl (by decide) rfl rfl ?_
    refine ok_iconst (pc := 10) a dX9_worsts_10 ?_
    refine ok_sI_n (pc := 11) a [some (vR 59), some (vI x1_4), some (vI 0), some (vI 0), none, none, none] dX9_worsts_11 rfl (by decide) rfl rfl ?_
    refine lp.use (P := fun y => OK Γ p l e (rmd 3 n n) s m args below meth c n (MQ below (QQ Γ n (RV g Q)) args s (n - n) (sl n - sl n) (AA Γ)) 12 [some (vR 59), some (vI x1_4), some (vI y.1), some (vI y.2), none, none, none] [] n g h_4) ?_ (0, 0) hw
    clear hw
    intro X12 hX12 y hw
    obtain ⟨x2_12, x3_12⟩ := y
    have hw : wp_X9_worsts_B12 X4 x1_4 h_4 X12 x2_12 x3_12 := hw
    unfold wp_X9_worsts_B12 at hw
    try dsimp only
    refine ok_iload_n (pc := 12) a dX9_worsts_12 rfl rfl ?_
    refine ok_bipush (pc := 13) a dX9_worsts_13 (by decide) ?_
    obtain ⟨hc2, hw⟩ := hw
    refine ok_icmp_ge (pc := 15) a 46 dX9_worsts_15 (by decide) hc2 ⟨by decide, by decide⟩ (fun hd24 => ?_) (fun hd24 => ?_)
    · have hw := hw.1 hd24
      refine ok_iconst (pc := 46) a dX9_worsts_46 ?_
      refine ok_sI_n (pc := 47) a [some (vR 59), some (vI x1_4), some (vI x2_12), some (vI 0), none, none, none] dX9_worsts_47 rfl (by decide) rfl rfl ?_
      refine ok_iconst (pc := 48) a dX9_worsts_48 ?_
      refine ok_sI (pc := 49) a [some (vR 59), some (vI x1_4), some (vI x2_12), some (vI 0), some (vI 0), none, none] dX9_worsts_49 (by decide) rfl rfl ?_
      refine lp.use (P := fun y => OK Γ p l e (rmd 3 n n) s m args below meth c n (MQ below (QQ Γ n (RV g Q)) args s (n - n) (sl n - sl n) (AA Γ)) 51 [some (vR 59), some (vI x1_4), some (vI x2_12), some (vI y.1), some (vI y.2), none, none] [] n g h_4) ?_ (0, 0) hw
      clear hw
      intro X51 hX51 y hw
      obtain ⟨x3_51, x4_51⟩ := y
      have hw : wp_X9_worsts_B51 X4 x1_4 h_4 x2_12 X51 x3_51 x4_51 := hw
      unfold wp_X9_worsts_B51 at hw
      try dsimp only
      refine ok_iload (pc := 51) a dX9_worsts_51 rfl ?_
      refine ok_aload_n (pc := 53) a dX9_worsts_53 rfl rfl ?_
      refine ok_fI (pc := 54) 27 a dX9_worsts_54 lfRX9_166 (Nat.lt_of_lt_of_le (by decide) hn) kq59 ty_9_27 rfl ?_
      obtain ⟨hc3, hw⟩ := hw
      obtain ⟨hc4, hw⟩ := hw
      refine ok_icmp_ge (pc := 57) a 88 dX9_worsts_57 (by decide) hc3 hc4 (fun hd21 => ?_) (fun hd21 => ?_)
      · have hw := hw.1 hd21
        refine ok_aload_n (pc := 88) a dX9_worsts_88 rfl rfl ?_
        refine ok_getR (pc := 89) a dX9_worsts_89 lfRX9_59 (Nat.lt_of_lt_of_le (by decide) hn) kq59 rfl (tg.at 59 28 76 (by decide) (by decide)) ?_
        refine ok_iload_n (pc := 92) a dX9_worsts_92 rfl rfl ?_
        refine ok_iload_n (pc := 93) a dX9_worsts_93 rfl rfl ?_
        obtain ⟨hc5, hw⟩ := hw
        refine ok_iast (pc := 94) a dX9_worsts_94 (Nat.lt_of_lt_of_le (by decide) hn) kq76 (by decide) hc5 (ok_nmH (fun h6 eh6 => ?_))
        have hw := hw h6 eh6
        refine ok_ldc (pc := 95) (x := 1000000) a dX9_worsts_95 ctRX9_175 (by decide) ?_
        refine ok_sI (pc := 97) a [some (vR 59), some (vI x1_4), some (vI x2_12), some (vI x3_51), some (vI 1000000), none, none] dX9_worsts_97 (by decide) rfl rfl ?_
        refine ok_iconst (pc := 99) a dX9_worsts_99 ?_
        refine ok_sI (pc := 100) a [some (vR 59), some (vI x1_4), some (vI x2_12), some (vI x3_51), some (vI 1000000), some (vI 0), none] dX9_worsts_100 (by decide) rfl rfl ?_
        refine lp.use (P := fun y => OK Γ p l e (rmd 3 n n) s m args below meth c n (MQ below (QQ Γ n (RV g Q)) args s (n - n) (sl n - sl n) (AA Γ)) 102 [some (vR 59), some (vI x1_4), some (vI x2_12), some (vI x3_51), some (vI y.1), some (vI y.2), none] [] n g h6) ?_ (1000000, 0) hw
        clear hw
        intro X102 hX102 y hw
        obtain ⟨x4_102, x5_102⟩ := y
        have hw : wp_X9_worsts_B102 X4 x1_4 x3_51 h6 X102 x4_102 x5_102 := hw
        unfold wp_X9_worsts_B102 at hw
        try dsimp only
        refine ok_iload (pc := 102) a dX9_worsts_102 rfl ?_
        refine ok_bipush (pc := 104) a dX9_worsts_104 (by decide) ?_
        obtain ⟨hc7, hw⟩ := hw
        have hJ145 : wp_X9_worsts_J145 X4 x1_4 x3_51 h6 x4_102  → OK Γ p l e (rmd 3 n n) s m args below meth c n (MQ below (QQ Γ n (RV g Q)) args s (n - n) (sl n - sl n) (AA Γ)) 145 [some (vR 59), some (vI x1_4), some (vI x2_12), some (vI x3_51), some (vI x4_102), some (vI x5_102), none] [] n g h6 := by
          intro  hw
          unfold wp_X9_worsts_J145 at hw
          refine ok_aload_n (pc := 145) a dX9_worsts_145 rfl rfl ?_
          refine ok_getR (pc := 146) a dX9_worsts_146 lfRX9_62 (Nat.lt_of_lt_of_le (by decide) hn) kq59 rfl (tg.at 59 29 77 (by decide) (by decide)) ?_
          refine ok_iload_n (pc := 149) a dX9_worsts_149 rfl rfl ?_
          refine ok_iload_n (pc := 150) a dX9_worsts_150 rfl rfl ?_
          refine ok_iconst (pc := 151) a dX9_worsts_151 ?_
          obtain ⟨hR, hw⟩ := hw
          have hK : OK Γ p l e (rmd 3 n n) s m args below meth c n (MQ below (QQ Γ n (RV g Q)) args s (n - n) (sl n - sl n) (AA Γ)) 161 [some (vR 59), some (vI x1_4), some (vI x2_12), some (vI x3_51), some (vI x4_102), some (vI x5_102), none] [(vI (if x3_51 ≤ 1 then 0 else x4_102 : Int)), (vI x1_4), (vR 77)] n g h6 := by
            refine ok_iast (pc := 161) a dX9_worsts_161 (Nat.lt_of_lt_of_le (by decide) hn) kq77 (by decide) hc5 (ok_nmH (fun h10 eh10 => ?_))
            have hw := hw h10 eh10
            refine ok_inc (pc := 162) a [some (vR 59), some (vI (x1_4 + (-1))), some (vI x2_12), some (vI x3_51), some (vI x4_102), some (vI x5_102), none] dX9_worsts_162 rfl (by decide) rfl rfl ?_
            refine ok_goto (pc := 165) a 4 dX9_worsts_165 (by decide) ?_
            refine ok_forget 2 ?_
            refine ok_forget 3 ?_
            refine ok_forget 4 ?_
            refine ok_forget 5 ?_
            exact hX4 ((x1_4 + (-1)), h10) hw
          have hw := hR
          obtain ⟨hc8, hw⟩ := hw
          refine ok_icmp_le (pc := 152) a 160 dX9_worsts_152 (by decide) hc8 ⟨by decide, by decide⟩ (fun hd9 => ?_) (fun hd9 => ?_)
          · refine ok_iconst (pc := 160) a dX9_worsts_160 ?_
            simp only [if_pos hd9] at hK
            exact hK
          · refine ok_iload (pc := 155) a dX9_worsts_155 rfl ?_
            refine ok_goto (pc := 157) a 161 dX9_worsts_157 (by decide) ?_
            simp only [if_neg hd9] at hK
            exact hK
        refine ok_icmp_ge (pc := 106) a 145 dX9_worsts_106 (by decide) hc7 ⟨by decide, by decide⟩ (fun hd17 => ?_) (fun hd17 => ?_)
        · have hw := hw.1 hd17
          exact hJ145  hw
        · have hw := hw.2 hd17
          refine ok_iload_n (pc := 109) a dX9_worsts_109 rfl rfl ?_
          refine ok_iconst (pc := 110) a dX9_worsts_110 ?_
          obtain ⟨hc11, hw⟩ := hw
          refine ok_icmp_le (pc := 111) a 145 dX9_worsts_111 (by decide) hc11 ⟨by decide, by decide⟩ (fun hd16 => ?_) (fun hd16 => ?_)
          · have hw := hw.1 hd16
            exact hJ145  hw
          · have hw := hw.2 hd16
            refine ok_aload_n (pc := 114) a dX9_worsts_114 rfl rfl ?_
            refine ok_iload_n (pc := 115) a dX9_worsts_115 rfl rfl ?_
            refine ok_iload (pc := 116) a dX9_worsts_116 rfl ?_
            refine ok_VPI (pc := 118) a [(vI x1_4), (vI x5_102)] [] (M_X9_worstBehind hn tg x1_4 x5_102  hw) dX9_worsts_118 lkRX9_176 rfl (Nat.lt_of_lt_of_le (by decide) hn) kq59 (by decide) rfl ⟨Nat.le_of_ble_eq_true rfl, Nat.le_of_ble_eq_true rfl⟩ rfl (Nat.le_of_ble_eq_true rfl) rfl (fun r12 hw => ?_)
            refine ok_sI (pc := 121) a [some (vR 59), some (vI x1_4), some (vI x2_12), some (vI x3_51), some (vI x4_102), some (vI x5_102), some (vI r12)] dX9_worsts_121 (by decide) rfl rfl ?_
            refine ok_iload (pc := 123) a dX9_worsts_123 rfl ?_
            refine ok_iload (pc := 125) a dX9_worsts_125 rfl ?_
            obtain ⟨hR, hw⟩ := hw
            have hK : OK Γ p l e (rmd 3 n n) s m args below meth c n (MQ below (QQ Γ n (RV g Q)) args s (n - n) (sl n - sl n) (AA Γ)) 137 [some (vR 59), some (vI x1_4), some (vI x2_12), some (vI x3_51), some (vI x4_102), some (vI x5_102), some (vI r12)] [(vI (if x4_102 ≤ r12 then x4_102 else r12 : Int))] n g h6 := by
              refine ok_nmI (fun x4_137 ex4_137 => ?_)
              have hw := hw x4_137 ex4_137
              refine ok_sI (pc := 137) a [some (vR 59), some (vI x1_4), some (vI x2_12), some (vI x3_51), some (vI x4_137), some (vI x5_102), some (vI r12)] dX9_worsts_137 (by decide) rfl rfl ?_
              refine ok_inc (pc := 139) a [some (vR 59), some (vI x1_4), some (vI x2_12), some (vI x3_51), some (vI x4_137), some (vI (x5_102 + 1)), some (vI r12)] dX9_worsts_139 rfl (by decide) rfl rfl ?_
              refine ok_goto (pc := 142) a 102 dX9_worsts_142 (by decide) ?_
              refine ok_forget 6 ?_
              exact hX102 (x4_137, (x5_102 + 1)) hw
            have hw := hR
            obtain ⟨hc13, hw⟩ := hw
            obtain ⟨hc14, hw⟩ := hw
            refine ok_icmp_ge (pc := 127) a 135 dX9_worsts_127 (by decide) hc13 hc14 (fun hd15 => ?_) (fun hd15 => ?_)
            · refine ok_iload (pc := 135) a dX9_worsts_135 rfl ?_
              simp only [if_pos hd15] at hK
              exact hK
            · refine ok_iload (pc := 130) a dX9_worsts_130 rfl ?_
              refine ok_goto (pc := 132) a 137 dX9_worsts_132 (by decide) ?_
              simp only [if_neg hd15] at hK
              exact hK
      · have hw := hw.2 hd21
        refine ok_iload_n (pc := 60) a dX9_worsts_60 rfl rfl ?_
        refine ok_aload_n (pc := 61) a dX9_worsts_61 rfl rfl ?_
        refine ok_getR (pc := 62) a dX9_worsts_62 lfRX9_56 (Nat.lt_of_lt_of_le (by decide) hn) kq59 rfl (tg.at 59 26 75 (by decide) (by decide)) ?_
        refine ok_iload (pc := 65) a dX9_worsts_65 rfl ?_
        obtain ⟨hc18, hw⟩ := hw
        refine ok_iald (pc := 67) a dX9_worsts_67 (Nat.lt_of_lt_of_le (by decide) hn) kq75 (by decide) hc18 ?_
        refine ok_iload_n (pc := 68) a dX9_worsts_68 rfl rfl ?_
        refine ok_ixor (pc := 69) a dX9_worsts_69 ?_
        refine ok_iload_n (pc := 70) a dX9_worsts_70 rfl rfl ?_
        refine ok_iand (pc := 71) a dX9_worsts_71 ?_
        obtain ⟨hR, hw⟩ := hw
        have hK : OK Γ p l e (rmd 3 n n) s m args below meth c n (MQ below (QQ Γ n (RV g Q)) args s (n - n) (sl n - sl n) (AA Γ)) 80 [some (vR 59), some (vI x1_4), some (vI x2_12), some (vI x3_51), some (vI x4_51), none, none] [(vI (if (band (bxor (h_4 75 x4_51) x1_4) x2_12) = 0 then 1 else 0 : Int)), (vI x3_51)] n g h_4 := by
          refine ok_iadd (pc := 80) a dX9_worsts_80 ?_
          refine ok_nmI (fun x3_81 ex3_81 => ?_)
          have hw := hw x3_81 ex3_81
          refine ok_sI_n (pc := 81) a [some (vR 59), some (vI x1_4), some (vI x2_12), some (vI x3_81), some (vI x4_51), none, none] dX9_worsts_81 rfl (by decide) rfl rfl ?_
          refine ok_inc (pc := 82) a [some (vR 59), some (vI x1_4), some (vI x2_12), some (vI x3_81), some (vI (x4_51 + 1)), none, none] dX9_worsts_82 rfl (by decide) rfl rfl ?_
          refine ok_goto (pc := 85) a 51 dX9_worsts_85 (by decide) ?_
          exact hX51 (x3_81, (x4_51 + 1)) hw
        have hw := hR
        obtain ⟨hc19, hw⟩ := hw
        refine ok_if_ne (pc := 72) a 79 dX9_worsts_72 (by decide) hc19 (fun hd20 => ?_) (fun hd20 => ?_)
        · refine ok_iconst (pc := 79) a dX9_worsts_79 ?_
          simp only [if_neg hd20] at hK
          exact hK
        · refine ok_iconst (pc := 75) a dX9_worsts_75 ?_
          refine ok_goto (pc := 76) a 80 dX9_worsts_76 (by decide) ?_
          simp only [if_pos hd20] at hK
          exact hK
    · have hw := hw.2 hd24
      refine ok_iload_n (pc := 18) a dX9_worsts_18 rfl rfl ?_
      refine ok_iload_n (pc := 19) a dX9_worsts_19 rfl rfl ?_
      refine ok_iconst (pc := 20) a dX9_worsts_20 ?_
      refine ok_iload_n (pc := 21) a dX9_worsts_21 rfl rfl ?_
      refine ok_imul (pc := 22) a dX9_worsts_22 ?_
      refine ok_ishr (pc := 23) a dX9_worsts_23 ?_
      refine ok_iconst (pc := 24) a dX9_worsts_24 ?_
      refine ok_iand (pc := 25) a dX9_worsts_25 ?_
      obtain ⟨hR, hw⟩ := hw
      have hK : OK Γ p l e (rmd 3 n n) s m args below meth c n (MQ below (QQ Γ n (RV g Q)) args s (n - n) (sl n - sl n) (AA Γ)) 38 [some (vR 59), some (vI x1_4), some (vI x2_12), some (vI x3_12), none, none, none] [(vI (if (band (bshr x1_4 (2 * x3_12)) 3) = 0 then 0 else (bshl 3 (2 * x3_12)) : Int)), (vI x2_12)] n g h_4 := by
        refine ok_ior (pc := 38) a dX9_worsts_38 ?_
        refine ok_nmI (fun x2_39 ex2_39 => ?_)
        have hw := hw x2_39 ex2_39
        refine ok_sI_n (pc := 39) a [some (vR 59), some (vI x1_4), some (vI x2_39), some (vI x3_12), none, none, none] dX9_worsts_39 rfl (by decide) rfl rfl ?_
        refine ok_inc (pc := 40) a [some (vR 59), some (vI x1_4), some (vI x2_39), some (vI (x3_12 + 1)), none, none, none] dX9_worsts_40 rfl (by decide) rfl rfl ?_
        refine ok_goto (pc := 43) a 12 dX9_worsts_43 (by decide) ?_
        exact hX12 (x2_39, (x3_12 + 1)) hw
      have hw := hR
      obtain ⟨hc22, hw⟩ := hw
      refine ok_if_ne (pc := 26) a 33 dX9_worsts_26 (by decide) hc22 (fun hd23 => ?_) (fun hd23 => ?_)
      · refine ok_iconst (pc := 33) a dX9_worsts_33 ?_
        refine ok_iconst (pc := 34) a dX9_worsts_34 ?_
        refine ok_iload_n (pc := 35) a dX9_worsts_35 rfl rfl ?_
        refine ok_imul (pc := 36) a dX9_worsts_36 ?_
        refine ok_ishl (pc := 37) a dX9_worsts_37 ?_
        simp only [if_neg hd23] at hK
        exact hK
      · refine ok_iconst (pc := 29) a dX9_worsts_29 ?_
        refine ok_goto (pc := 30) a 38 dX9_worsts_30 (by decide) ?_
        simp only [if_pos hd23] at hK
        exact hK

def wp_X9_settles_B101 (Q : aH → Prop) (X101 : Int × aH → Prop) (x1_101 : Int) (h_101 : aH) : Prop :=
  inR x1_101 ∧ ((16 ≤ x1_101 → ∀ h7, h7 = up h_101 59 3 0 → ∀ h8, h8 = up h7 59 22 0 → ∀ h9, h9 = up h8 59 25 0 → ∀ h10, h10 = up h9 59 18 0 → ∀ h11, h11 = up h10 68 0 0 → ∀ h12, h12 = up h11 68 1 0 → wp_X9_orders h12 (fun h13 => wp_X9_worsts h13 (fun h14 => Q h14))) ∧ (¬ 16 ≤ x1_101 → (0 ≤ (16 + x1_101) ∧ (16 + x1_101) < 32) ∧ (0 ≤ x1_101 ∧ x1_101 < 32) ∧ ∀ h17, h17 = up h_101 64 x1_101 (h_101 64 (16 + x1_101)) → (inR (4 * (h17 61 0)) ∧ (((4 * (h17 61 0)) ≤ x1_101 → True) ∧ (¬ (4 * (h17 61 0)) ≤ x1_101 → (0 ≤ x1_101 ∧ x1_101 < 16) ∧ True))) ∧ (0 ≤ (1 + x1_101) ∧ (1 + x1_101) < 23) ∧ ∀ h22, h22 = up h17 66 (1 + x1_101) (if (4 * (h17 61 0)) ≤ x1_101 then 0 else (h17 63 x1_101) : Int) → X101 ((x1_101 + 1), h22)))
def wp_X9_settles_B80 (Q : aH → Prop) (X80 : Int × aH → Prop) (x1_80 : Int) (h_80 : aH) : Prop :=
  inR x1_80 ∧ ((23 ≤ x1_80 → lp (fun X y => wp_X9_settles_B101 Q X y.1 y.2) (0, h_80)) ∧ (¬ 23 ≤ x1_80 → (0 ≤ x1_80 ∧ x1_80 < 23) ∧ ∀ h25, h25 = up h_80 66 x1_80 0 → X80 ((x1_80 + 1), h25)))
def wp_X9_settles_B53 (Q : aH → Prop) (X53 : Int × aH → Prop) (x1_53 : Int) (h_53 : aH) : Prop :=
  inR x1_53 ∧ ((5 ≤ x1_53 → lp (fun X y => wp_X9_settles_B80 Q X y.1 y.2) (0, h_53)) ∧ (¬ 5 ≤ x1_53 → (0 ≤ (5 + x1_53) ∧ (5 + x1_53) < 10) ∧ (0 ≤ x1_53 ∧ x1_53 < 10) ∧ ∀ h29, h29 = up h_53 65 x1_53 (h_53 65 (5 + x1_53)) → X53 ((x1_53 + 1), h29)))
def wp_X9_settles_B26 (Q : aH → Prop) (X26 : Int × aH → Prop) (x1_26 : Int) (h_26 : aH) : Prop :=
  inR x1_26 ∧ ((4 ≤ x1_26 → lp (fun X y => wp_X9_settles_B53 Q X y.1 y.2) (0, h_26)) ∧ (¬ 4 ≤ x1_26 → (0 ≤ (4 + x1_26) ∧ (4 + x1_26) < 8) ∧ (0 ≤ x1_26 ∧ x1_26 < 8) ∧ ∀ h33, h33 = up h_26 62 x1_26 (h_26 62 (4 + x1_26)) → X26 ((x1_26 + 1), h33)))
def wp_X9_settles  (h : aH) (Q : aH → Prop) : Prop :=
  ∀ h1, h1 = up h 61 0 (h 61 2) → ∀ h2, h2 = up h1 61 1 (h1 61 3) → lp (fun X y => wp_X9_settles_B26 Q X y.1 y.2) (0, h2)
set_option maxRecDepth 100000 in
set_option maxHeartbeats 4000000 in
theorem M_X9_settles {Γ : Gm} {l : Launch} {n : Nat} {g : aG} (hn : 80 ≤ n) (tg : TM g)   {h : aH} {Q : aH → Prop} (hw : wp_X9_settles  h Q) : Cl Γ l mX9_settles [vR 59] n g h (RV g Q) := by
  refine Cl.of (by decide) [some (vR 59), none] rfl (Nat.le_of_ble_eq_true rfl) ?_
  intro p e s m args below meth c a
  unfold wp_X9_settles at hw
  refine ok_aload_n (pc := 0) a dX9_settles_0 rfl rfl ?_
  refine ok_getR (pc := 1) a dX9_settles_1 lfRX9_13 (Nat.lt_of_lt_of_le (by decide) hn) kq59 rfl (tg.at 59 9 61 (by decide) (by decide)) ?_
  refine ok_iconst (pc := 4) a dX9_settles_4 ?_
  refine ok_aload_n (pc := 5) a dX9_settles_5 rfl rfl ?_
  refine ok_getR (pc := 6) a dX9_settles_6 lfRX9_13 (Nat.lt_of_lt_of_le (by decide) hn) kq59 rfl (tg.at 59 9 61 (by decide) (by decide)) ?_
  refine ok_iconst (pc := 9) a dX9_settles_9 ?_
  refine ok_iald (pc := 10) a dX9_settles_10 (Nat.lt_of_lt_of_le (by decide) hn) kq61 (by decide) ⟨by decide, by decide⟩ ?_
  refine ok_iast (pc := 11) a dX9_settles_11 (Nat.lt_of_lt_of_le (by decide) hn) kq61 (by decide) ⟨by decide, by decide⟩ (ok_nmH (fun h1 eh1 => ?_))
  have hw := hw h1 eh1
  refine ok_aload_n (pc := 12) a dX9_settles_12 rfl rfl ?_
  refine ok_getR (pc := 13) a dX9_settles_13 lfRX9_13 (Nat.lt_of_lt_of_le (by decide) hn) kq59 rfl (tg.at 59 9 61 (by decide) (by decide)) ?_
  refine ok_iconst (pc := 16) a dX9_settles_16 ?_
  refine ok_aload_n (pc := 17) a dX9_settles_17 rfl rfl ?_
  refine ok_getR (pc := 18) a dX9_settles_18 lfRX9_13 (Nat.lt_of_lt_of_le (by decide) hn) kq59 rfl (tg.at 59 9 61 (by decide) (by decide)) ?_
  refine ok_iconst (pc := 21) a dX9_settles_21 ?_
  refine ok_iald (pc := 22) a dX9_settles_22 (Nat.lt_of_lt_of_le (by decide) hn) kq61 (by decide) ⟨by decide, by decide⟩ ?_
  refine ok_iast (pc := 23) a dX9_settles_23 (Nat.lt_of_lt_of_le (by decide) hn) kq61 (by decide) ⟨by decide, by decide⟩ (ok_nmH (fun h2 eh2 => ?_))
  have hw := hw h2 eh2
  refine ok_iconst (pc := 24) a dX9_settles_24 ?_
  refine ok_sI_n (pc := 25) a [some (vR 59), some (vI 0)] dX9_settles_25 rfl (by decide) rfl rfl ?_
  refine lp.use (P := fun y => OK Γ p l e (rmd 4 n n) s m args below meth c n (MQ below (QQ Γ n (RV g Q)) args s (n - n) (sl n - sl n) (AA Γ)) 26 [some (vR 59), some (vI y.1)] [] n g y.2) ?_ (0, h2) hw
  clear hw
  intro X26 hX26 y hw
  obtain ⟨x1_26, h_26⟩ := y
  have hw : wp_X9_settles_B26 Q X26 x1_26 h_26 := hw
  unfold wp_X9_settles_B26 at hw
  try dsimp only
  refine ok_iload_n (pc := 26) a dX9_settles_26 rfl rfl ?_
  refine ok_iconst (pc := 27) a dX9_settles_27 ?_
  obtain ⟨hc3, hw⟩ := hw
  refine ok_icmp_ge (pc := 28) a 51 dX9_settles_28 (by decide) hc3 ⟨by decide, by decide⟩ (fun hd34 => ?_) (fun hd34 => ?_)
  · have hw := hw.1 hd34
    refine ok_iconst (pc := 51) a dX9_settles_51 ?_
    refine ok_sI_n (pc := 52) a [some (vR 59), some (vI 0)] dX9_settles_52 rfl (by decide) rfl rfl ?_
    refine lp.use (P := fun y => OK Γ p l e (rmd 4 n n) s m args below meth c n (MQ below (QQ Γ n (RV g Q)) args s (n - n) (sl n - sl n) (AA Γ)) 53 [some (vR 59), some (vI y.1)] [] n g y.2) ?_ (0, h_26) hw
    clear hw
    intro X53 hX53 y hw
    obtain ⟨x1_53, h_53⟩ := y
    have hw : wp_X9_settles_B53 Q X53 x1_53 h_53 := hw
    unfold wp_X9_settles_B53 at hw
    try dsimp only
    refine ok_iload_n (pc := 53) a dX9_settles_53 rfl rfl ?_
    refine ok_iconst (pc := 54) a dX9_settles_54 ?_
    obtain ⟨hc4, hw⟩ := hw
    refine ok_icmp_ge (pc := 55) a 78 dX9_settles_55 (by decide) hc4 ⟨by decide, by decide⟩ (fun hd30 => ?_) (fun hd30 => ?_)
    · have hw := hw.1 hd30
      refine ok_iconst (pc := 78) a dX9_settles_78 ?_
      refine ok_sI_n (pc := 79) a [some (vR 59), some (vI 0)] dX9_settles_79 rfl (by decide) rfl rfl ?_
      refine lp.use (P := fun y => OK Γ p l e (rmd 4 n n) s m args below meth c n (MQ below (QQ Γ n (RV g Q)) args s (n - n) (sl n - sl n) (AA Γ)) 80 [some (vR 59), some (vI y.1)] [] n g y.2) ?_ (0, h_53) hw
      clear hw
      intro X80 hX80 y hw
      obtain ⟨x1_80, h_80⟩ := y
      have hw : wp_X9_settles_B80 Q X80 x1_80 h_80 := hw
      unfold wp_X9_settles_B80 at hw
      try dsimp only
      refine ok_iload_n (pc := 80) a dX9_settles_80 rfl rfl ?_
      refine ok_bipush (pc := 81) a dX9_settles_81 (by decide) ?_
      obtain ⟨hc5, hw⟩ := hw
      refine ok_icmp_ge (pc := 83) a 99 dX9_settles_83 (by decide) hc5 ⟨by decide, by decide⟩ (fun hd26 => ?_) (fun hd26 => ?_)
      · have hw := hw.1 hd26
        refine ok_iconst (pc := 99) a dX9_settles_99 ?_
        refine ok_sI_n (pc := 100) a [some (vR 59), some (vI 0)] dX9_settles_100 rfl (by decide) rfl rfl ?_
        refine lp.use (P := fun y => OK Γ p l e (rmd 4 n n) s m args below meth c n (MQ below (QQ Γ n (RV g Q)) args s (n - n) (sl n - sl n) (AA Γ)) 101 [some (vR 59), some (vI y.1)] [] n g y.2) ?_ (0, h_80) hw
        clear hw
        intro X101 hX101 y hw
        obtain ⟨x1_101, h_101⟩ := y
        have hw : wp_X9_settles_B101 Q X101 x1_101 h_101 := hw
        unfold wp_X9_settles_B101 at hw
        try dsimp only
        refine ok_iload_n (pc := 101) a dX9_settles_101 rfl rfl ?_
        refine ok_bipush (pc := 102) a dX9_settles_102 (by decide) ?_
        obtain ⟨hc6, hw⟩ := hw
        refine ok_icmp_ge (pc := 104) a 158 dX9_settles_104 (by decide) hc6 ⟨by decide, by decide⟩ (fun hd23 => ?_) (fun hd23 => ?_)
        · have hw := hw.1 hd23
          refine ok_aload_n (pc := 158) a dX9_settles_158 rfl rfl ?_
          refine ok_iconst (pc := 159) a dX9_settles_159 ?_
          refine ok_pI (pc := 160) 3 a dX9_settles_160 lfRX9_85 fi_9_3 (Nat.lt_of_lt_of_le (by decide) hn) kq59 ty_9_3 rfl (fun h7 eh7 => ?_)
          have hw := hw h7 eh7
          refine ok_aload_n (pc := 163) a dX9_settles_163 rfl rfl ?_
          refine ok_iconst (pc := 164) a dX9_settles_164 ?_
          refine ok_pI (pc := 165) 22 a dX9_settles_165 lfRX9_129 fi_9_22 (Nat.lt_of_lt_of_le (by decide) hn) kq59 ty_9_22 rfl (fun h8 eh8 => ?_)
          have hw := hw h8 eh8
          refine ok_aload_n (pc := 168) a dX9_settles_168 rfl rfl ?_
          refine ok_iconst (pc := 169) a dX9_settles_169 ?_
          refine ok_pI (pc := 170) 25 a dX9_settles_170 lfRX9_132 fi_9_25 (Nat.lt_of_lt_of_le (by decide) hn) kq59 ty_9_25 rfl (fun h9 eh9 => ?_)
          have hw := hw h9 eh9
          refine ok_aload_n (pc := 173) a dX9_settles_173 rfl rfl ?_
          refine ok_iconst (pc := 174) a dX9_settles_174 ?_
          refine ok_pI (pc := 175) 18 a dX9_settles_175 lfRX9_135 fi_9_18 (Nat.lt_of_lt_of_le (by decide) hn) kq59 ty_9_18 rfl (fun h10 eh10 => ?_)
          have hw := hw h10 eh10
          refine ok_aload_n (pc := 178) a dX9_settles_178 rfl rfl ?_
          refine ok_getR (pc := 179) a dX9_settles_179 lfRX9_34 (Nat.lt_of_lt_of_le (by decide) hn) kq59 rfl (tg.at 59 16 68 (by decide) (by decide)) ?_
          refine ok_iconst (pc := 182) a dX9_settles_182 ?_
          refine ok_iconst (pc := 183) a dX9_settles_183 ?_
          refine ok_bast (pc := 184) a dX9_settles_184 (Nat.lt_of_lt_of_le (by decide) hn) kq68 (by decide) ⟨by decide, by decide⟩ (Or.inl rfl) (ok_nmH (fun h11 eh11 => ?_))
          have hw := hw h11 eh11
          refine ok_aload_n (pc := 185) a dX9_settles_185 rfl rfl ?_
          refine ok_getR (pc := 186) a dX9_settles_186 lfRX9_34 (Nat.lt_of_lt_of_le (by decide) hn) kq59 rfl (tg.at 59 16 68 (by decide) (by decide)) ?_
          refine ok_iconst (pc := 189) a dX9_settles_189 ?_
          refine ok_iconst (pc := 190) a dX9_settles_190 ?_
          refine ok_bast (pc := 191) a dX9_settles_191 (Nat.lt_of_lt_of_le (by decide) hn) kq68 (by decide) ⟨by decide, by decide⟩ (Or.inl rfl) (ok_nmH (fun h12 eh12 => ?_))
          have hw := hw h12 eh12
          refine ok_aload_n (pc := 192) a dX9_settles_192 rfl rfl ?_
          refine ok_VRV (pc := 193) a [] [] (M_X9_orders hn tg   hw) dX9_settles_193 lkRX9_138 rfl (Nat.lt_of_lt_of_le (by decide) hn) kq59 (by decide) rfl ⟨Nat.le_of_ble_eq_true rfl, Nat.le_of_ble_eq_true rfl⟩ rfl (Nat.le_of_ble_eq_true rfl) rfl (fun h13 hw => ?_)
          refine ok_aload_n (pc := 196) a dX9_settles_196 rfl rfl ?_
          refine ok_VRV (pc := 197) a [] [] (M_X9_worsts hn tg   hw) dX9_settles_197 lkRX9_140 rfl (Nat.lt_of_lt_of_le (by decide) hn) kq59 (by decide) rfl ⟨Nat.le_of_ble_eq_true rfl, Nat.le_of_ble_eq_true rfl⟩ rfl (Nat.le_of_ble_eq_true rfl) rfl (fun h14 hw => ?_)
          exact ok_vret (pc := 200) a dX9_settles_200 ⟨rfl, rfl, hw⟩
        · have hw := hw.2 hd23
          refine ok_aload_n (pc := 107) a dX9_settles_107 rfl rfl ?_
          refine ok_getR (pc := 108) a dX9_settles_108 lfRX9_22 (Nat.lt_of_lt_of_le (by decide) hn) kq59 rfl (tg.at 59 12 64 (by decide) (by decide)) ?_
          refine ok_iload_n (pc := 111) a dX9_settles_111 rfl rfl ?_
          refine ok_aload_n (pc := 112) a dX9_settles_112 rfl rfl ?_
          refine ok_getR (pc := 113) a dX9_settles_113 lfRX9_22 (Nat.lt_of_lt_of_le (by decide) hn) kq59 rfl (tg.at 59 12 64 (by decide) (by decide)) ?_
          refine ok_bipush (pc := 116) a dX9_settles_116 (by decide) ?_
          refine ok_iload_n (pc := 118) a dX9_settles_118 rfl rfl ?_
          refine ok_iadd (pc := 119) a dX9_settles_119 ?_
          obtain ⟨hc15, hw⟩ := hw
          refine ok_iald (pc := 120) a dX9_settles_120 (Nat.lt_of_lt_of_le (by decide) hn) kq64 (by decide) hc15 ?_
          obtain ⟨hc16, hw⟩ := hw
          refine ok_iast (pc := 121) a dX9_settles_121 (Nat.lt_of_lt_of_le (by decide) hn) kq64 (by decide) hc16 (ok_nmH (fun h17 eh17 => ?_))
          have hw := hw h17 eh17
          refine ok_aload_n (pc := 122) a dX9_settles_122 rfl rfl ?_
          refine ok_getR (pc := 123) a dX9_settles_123 lfRX9_28 (Nat.lt_of_lt_of_le (by decide) hn) kq59 rfl (tg.at 59 14 66 (by decide) (by decide)) ?_
          refine ok_iconst (pc := 126) a dX9_settles_126 ?_
          refine ok_iload_n (pc := 127) a dX9_settles_127 rfl rfl ?_
          refine ok_iadd (pc := 128) a dX9_settles_128 ?_
          refine ok_iload_n (pc := 129) a dX9_settles_129 rfl rfl ?_
          refine ok_iconst (pc := 130) a dX9_settles_130 ?_
          refine ok_aload_n (pc := 131) a dX9_settles_131 rfl rfl ?_
          refine ok_getR (pc := 132) a dX9_settles_132 lfRX9_13 (Nat.lt_of_lt_of_le (by decide) hn) kq59 rfl (tg.at 59 9 61 (by decide) (by decide)) ?_
          refine ok_iconst (pc := 135) a dX9_settles_135 ?_
          refine ok_iald (pc := 136) a dX9_settles_136 (Nat.lt_of_lt_of_le (by decide) hn) kq61 (by decide) ⟨by decide, by decide⟩ ?_
          refine ok_imul (pc := 137) a dX9_settles_137 ?_
          obtain ⟨hR, hw⟩ := hw
          have hK : OK Γ p l e (rmd 4 n n) s m args below meth c n (MQ below (QQ Γ n (RV g Q)) args s (n - n) (sl n - sl n) (AA Γ)) 151 [some (vR 59), some (vI x1_101)] [(vI (if (4 * (h17 61 0)) ≤ x1_101 then 0 else (h17 63 x1_101) : Int)), (vI (1 + x1_101)), (vR 66)] n g h17 := by
            obtain ⟨hc21, hw⟩ := hw
            refine ok_iast (pc := 151) a dX9_settles_151 (Nat.lt_of_lt_of_le (by decide) hn) kq66 (by decide) hc21 (ok_nmH (fun h22 eh22 => ?_))
            have hw := hw h22 eh22
            refine ok_inc (pc := 152) a [some (vR 59), some (vI (x1_101 + 1))] dX9_settles_152 rfl (by decide) rfl rfl ?_
            refine ok_goto (pc := 155) a 101 dX9_settles_155 (by decide) ?_
            exact hX101 ((x1_101 + 1), h22) hw
          have hw := hR
          obtain ⟨hc18, hw⟩ := hw
          refine ok_icmp_ge (pc := 138) a 150 dX9_settles_138 (by decide) hc6 hc18 (fun hd19 => ?_) (fun hd19 => ?_)
          · refine ok_iconst (pc := 150) a dX9_settles_150 ?_
            simp only [if_pos hd19] at hK
            exact hK
          · have hw := hw.2 hd19
            refine ok_aload_n (pc := 141) a dX9_settles_141 rfl rfl ?_
            refine ok_getR (pc := 142) a dX9_settles_142 lfRX9_19 (Nat.lt_of_lt_of_le (by decide) hn) kq59 rfl (tg.at 59 11 63 (by decide) (by decide)) ?_
            refine ok_iload_n (pc := 145) a dX9_settles_145 rfl rfl ?_
            obtain ⟨hc20, hw⟩ := hw
            refine ok_iald (pc := 146) a dX9_settles_146 (Nat.lt_of_lt_of_le (by decide) hn) kq63 (by decide) hc20 ?_
            refine ok_goto (pc := 147) a 151 dX9_settles_147 (by decide) ?_
            simp only [if_neg hd19] at hK
            exact hK
      · have hw := hw.2 hd26
        refine ok_aload_n (pc := 86) a dX9_settles_86 rfl rfl ?_
        refine ok_getR (pc := 87) a dX9_settles_87 lfRX9_28 (Nat.lt_of_lt_of_le (by decide) hn) kq59 rfl (tg.at 59 14 66 (by decide) (by decide)) ?_
        refine ok_iload_n (pc := 90) a dX9_settles_90 rfl rfl ?_
        refine ok_iconst (pc := 91) a dX9_settles_91 ?_
        obtain ⟨hc24, hw⟩ := hw
        refine ok_iast (pc := 92) a dX9_settles_92 (Nat.lt_of_lt_of_le (by decide) hn) kq66 (by decide) hc24 (ok_nmH (fun h25 eh25 => ?_))
        have hw := hw h25 eh25
        refine ok_inc (pc := 93) a [some (vR 59), some (vI (x1_80 + 1))] dX9_settles_93 rfl (by decide) rfl rfl ?_
        refine ok_goto (pc := 96) a 80 dX9_settles_96 (by decide) ?_
        exact hX80 ((x1_80 + 1), h25) hw
    · have hw := hw.2 hd30
      refine ok_aload_n (pc := 58) a dX9_settles_58 rfl rfl ?_
      refine ok_getR (pc := 59) a dX9_settles_59 lfRX9_25 (Nat.lt_of_lt_of_le (by decide) hn) kq59 rfl (tg.at 59 13 65 (by decide) (by decide)) ?_
      refine ok_iload_n (pc := 62) a dX9_settles_62 rfl rfl ?_
      refine ok_aload_n (pc := 63) a dX9_settles_63 rfl rfl ?_
      refine ok_getR (pc := 64) a dX9_settles_64 lfRX9_25 (Nat.lt_of_lt_of_le (by decide) hn) kq59 rfl (tg.at 59 13 65 (by decide) (by decide)) ?_
      refine ok_iconst (pc := 67) a dX9_settles_67 ?_
      refine ok_iload_n (pc := 68) a dX9_settles_68 rfl rfl ?_
      refine ok_iadd (pc := 69) a dX9_settles_69 ?_
      obtain ⟨hc27, hw⟩ := hw
      refine ok_iald (pc := 70) a dX9_settles_70 (Nat.lt_of_lt_of_le (by decide) hn) kq65 (by decide) hc27 ?_
      obtain ⟨hc28, hw⟩ := hw
      refine ok_iast (pc := 71) a dX9_settles_71 (Nat.lt_of_lt_of_le (by decide) hn) kq65 (by decide) hc28 (ok_nmH (fun h29 eh29 => ?_))
      have hw := hw h29 eh29
      refine ok_inc (pc := 72) a [some (vR 59), some (vI (x1_53 + 1))] dX9_settles_72 rfl (by decide) rfl rfl ?_
      refine ok_goto (pc := 75) a 53 dX9_settles_75 (by decide) ?_
      exact hX53 ((x1_53 + 1), h29) hw
  · have hw := hw.2 hd34
    refine ok_aload_n (pc := 31) a dX9_settles_31 rfl rfl ?_
    refine ok_getR (pc := 32) a dX9_settles_32 lfRX9_16 (Nat.lt_of_lt_of_le (by decide) hn) kq59 rfl (tg.at 59 10 62 (by decide) (by decide)) ?_
    refine ok_iload_n (pc := 35) a dX9_settles_35 rfl rfl ?_
    refine ok_aload_n (pc := 36) a dX9_settles_36 rfl rfl ?_
    refine ok_getR (pc := 37) a dX9_settles_37 lfRX9_16 (Nat.lt_of_lt_of_le (by decide) hn) kq59 rfl (tg.at 59 10 62 (by decide) (by decide)) ?_
    refine ok_iconst (pc := 40) a dX9_settles_40 ?_
    refine ok_iload_n (pc := 41) a dX9_settles_41 rfl rfl ?_
    refine ok_iadd (pc := 42) a dX9_settles_42 ?_
    obtain ⟨hc31, hw⟩ := hw
    refine ok_iald (pc := 43) a dX9_settles_43 (Nat.lt_of_lt_of_le (by decide) hn) kq62 (by decide) hc31 ?_
    obtain ⟨hc32, hw⟩ := hw
    refine ok_iast (pc := 44) a dX9_settles_44 (Nat.lt_of_lt_of_le (by decide) hn) kq62 (by decide) hc32 (ok_nmH (fun h33 eh33 => ?_))
    have hw := hw h33 eh33
    refine ok_inc (pc := 45) a [some (vR 59), some (vI (x1_26 + 1))] dX9_settles_45 rfl (by decide) rfl rfl ?_
    refine ok_goto (pc := 48) a 26 dX9_settles_48 (by decide) ?_
    exact hX26 ((x1_26 + 1), h33) hw
