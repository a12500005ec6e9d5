def wp_X9_notes_B47 (Q : aH → Prop) (X47 : Int × aH → Prop) (x1_47 : Int) (h_47 : aH) : Prop :=
  inR x1_47 ∧ ((23 ≤ x1_47 → ∀ h3, h3 = up h_47 59 18 ((h_47 59 18) + 1) → Q h3) ∧ (¬ 23 ≤ x1_47 → (0 ≤ x1_47 ∧ x1_47 < 23) ∧ (0 ≤ ((23 * (h_47 59 18)) + x1_47) ∧ ((23 * (h_47 59 18)) + x1_47) < 230) ∧ ∀ h6, h6 = up h_47 69 ((23 * (h_47 59 18)) + x1_47) (h_47 66 x1_47) → X47 ((x1_47 + 1), h6)))
def wp_X9_notes_J45 (Q : aH → Prop) (h_45 : aH) : Prop :=
  lp (fun X y => wp_X9_notes_B47 Q X y.1 y.2) (0, h_45)
def wp_X9_notes_B11 (Q : aH → Prop) (X11 : Int × aH → Prop) (x1_11 : Int) (h_11 : aH) : Prop :=
  inR x1_11 ∧ ((207 ≤ x1_11 → ∀ h9, h9 = up h_11 59 18 9 → wp_X9_notes_J45 Q h9) ∧ (¬ 207 ≤ x1_11 → (0 ≤ (x1_11 + 23) ∧ (x1_11 + 23) < 230) ∧ (0 ≤ x1_11 ∧ x1_11 < 230) ∧ ∀ h12, h12 = up h_11 69 x1_11 (h_11 69 (x1_11 + 23)) → X11 ((x1_11 + 1), h12)))
def wp_X9_notes  (h : aH) (Q : aH → Prop) : Prop :=
  inR (h 59 18) ∧ (((h 59 18) = 10 → lp (fun X y => wp_X9_notes_B11 Q X y.1 y.2) (0, h)) ∧ (¬ (h 59 18) = 10 → wp_X9_notes_J45 Q h))
set_option maxRecDepth 100000 in
set_option maxHeartbeats 4000000 in
theorem M_X9_notes {Γ : Gm} {l : Launch} {n : Nat} {g : aG} (hn : 80 ≤ n) (tg : TM g)   {h : aH} {Q : aH → Prop} (hw : wp_X9_notes  h Q) : Cl Γ l mX9_notes [vR 59] n g h (RV g Q) := by
  refine Cl.of (by decide) [some (vR 59), none] rfl (Nat.le_of_ble_eq_true rfl) ?_
  intro p e s m args below meth c a
  unfold wp_X9_notes at hw
  refine ok_aload_n (pc := 0) a dX9_notes_0 rfl rfl ?_
  refine ok_fI (pc := 1) 18 a dX9_notes_1 lfRX9_135 (Nat.lt_of_lt_of_le (by decide) hn) kq59 ty_9_18 rfl ?_
  refine ok_bipush (pc := 4) a dX9_notes_4 (by decide) ?_
  obtain ⟨hc1, hw⟩ := hw
  have hJ45 : ∀ (h_45 : aH), wp_X9_notes_J45 Q h_45 → OK Γ p l e (rmd 0 n n) s m args below meth c n (MQ below (QQ Γ n (RV g Q)) args s (n - n) (sl n - sl n) (AA Γ)) 45 [some (vR 59), none] [] n g h_45 := by
    intro h_45 hw
    unfold wp_X9_notes_J45 at hw
    refine ok_iconst (pc := 45) a dX9_notes_45 ?_
    refine ok_sI_n (pc := 46) a [some (vR 59), some (vI 0)] dX9_notes_46 rfl (by decide) rfl rfl ?_
    refine lp.use (P := fun y => OK Γ p l e (rmd 0 n n) s m args below meth c n (MQ below (QQ Γ n (RV g Q)) args s (n - n) (sl n - sl n) (AA Γ)) 47 [some (vR 59), some (vI y.1)] [] n g y.2) ?_ (0, h_45) hw
    clear hw
    intro X47 hX47 y hw
    obtain ⟨x1_47, h_47⟩ := y
    have hw : wp_X9_notes_B47 Q X47 x1_47 h_47 := hw
    unfold wp_X9_notes_B47 at hw
    try dsimp only
    refine ok_iload_n (pc := 47) a dX9_notes_47 rfl rfl ?_
    refine ok_bipush (pc := 48) a dX9_notes_48 (by decide) ?_
    obtain ⟨hc2, hw⟩ := hw
    refine ok_icmp_ge (pc := 50) a 79 dX9_notes_50 (by decide) hc2 ⟨by decide, by decide⟩ (fun hd7 => ?_) (fun hd7 => ?_)
    · have hw := hw.1 hd7
      refine ok_aload_n (pc := 79) a dX9_notes_79 rfl rfl ?_
      refine ok_dup (pc := 80) a dX9_notes_80 (by rfl) ?_
      refine ok_fI (pc := 81) 18 a dX9_notes_81 lfRX9_135 (Nat.lt_of_lt_of_le (by decide) hn) kq59 ty_9_18 rfl ?_
      refine ok_iconst (pc := 84) a dX9_notes_84 ?_
      refine ok_iadd (pc := 85) a dX9_notes_85 ?_
      refine ok_pI (pc := 86) 18 a dX9_notes_86 lfRX9_135 fi_9_18 (Nat.lt_of_lt_of_le (by decide) hn) kq59 ty_9_18 rfl (fun h3 eh3 => ?_)
      have hw := hw h3 eh3
      exact ok_vret (pc := 89) a dX9_notes_89 ⟨rfl, rfl, hw⟩
    · have hw := hw.2 hd7
      refine ok_aload_n (pc := 53) a dX9_notes_53 rfl rfl ?_
      refine ok_getR (pc := 54) a dX9_notes_54 lfRX9_38 (Nat.lt_of_lt_of_le (by decide) hn) kq59 rfl (tg.at 59 17 69 (by decide) (by decide)) ?_
      refine ok_bipush (pc := 57) a dX9_notes_57 (by decide) ?_
      refine ok_aload_n (pc := 59) a dX9_notes_59 rfl rfl ?_
      refine ok_fI (pc := 60) 18 a dX9_notes_60 lfRX9_135 (Nat.lt_of_lt_of_le (by decide) hn) kq59 ty_9_18 rfl ?_
      refine ok_imul (pc := 63) a dX9_notes_63 ?_
      refine ok_iload_n (pc := 64) a dX9_notes_64 rfl rfl ?_
      refine ok_iadd (pc := 65) a dX9_notes_65 ?_
      refine ok_aload_n (pc := 66) a dX9_notes_66 rfl rfl ?_
      refine ok_getR (pc := 67) a dX9_notes_67 lfRX9_28 (Nat.lt_of_lt_of_le (by decide) hn) kq59 rfl (tg.at 59 14 66 (by decide) (by decide)) ?_
      refine ok_iload_n (pc := 70) a dX9_notes_70 rfl rfl ?_
      obtain ⟨hc4, hw⟩ := hw
      refine ok_iald (pc := 71) a dX9_notes_71 (Nat.lt_of_lt_of_le (by decide) hn) kq66 (by decide) hc4 ?_
      obtain ⟨hc5, hw⟩ := hw
      refine ok_iast (pc := 72) a dX9_notes_72 (Nat.lt_of_lt_of_le (by decide) hn) kq69 (by decide) hc5 (ok_nmH (fun h6 eh6 => ?_))
      have hw := hw h6 eh6
      refine ok_inc (pc := 73) a [some (vR 59), some (vI (x1_47 + 1))] dX9_notes_73 rfl (by decide) rfl rfl ?_
      refine ok_goto (pc := 76) a 47 dX9_notes_76 (by decide) ?_
      exact hX47 ((x1_47 + 1), h6) hw
  refine ok_icmp_ne (pc := 6) a 45 dX9_notes_6 (by decide) hc1 ⟨by decide, by decide⟩ (fun hd14 => ?_) (fun hd14 => ?_)
  · have hw := hw.2 hd14
    exact hJ45 h hw
  · have hw := hw.1 hd14
    refine ok_iconst (pc := 9) a dX9_notes_9 ?_
    refine ok_sI_n (pc := 10) a [some (vR 59), some (vI 0)] dX9_notes_10 rfl (by decide) rfl rfl ?_
    refine lp.use (P := fun y => OK Γ p l e (rmd 0 n n) s m args below meth c n (MQ below (QQ Γ n (RV g Q)) args s (n - n) (sl n - sl n) (AA Γ)) 11 [some (vR 59), some (vI y.1)] [] n g y.2) ?_ (0, h) hw
    clear hw
    intro X11 hX11 y hw
    obtain ⟨x1_11, h_11⟩ := y
    have hw : wp_X9_notes_B11 Q X11 x1_11 h_11 := hw
    unfold wp_X9_notes_B11 at hw
    try dsimp only
    refine ok_iload_n (pc := 11) a dX9_notes_11 rfl rfl ?_
    refine ok_sipush (pc := 12) a dX9_notes_12 (by decide) ?_
    obtain ⟨hc8, hw⟩ := hw
    refine ok_icmp_ge (pc := 15) a 39 dX9_notes_15 (by decide) hc8 ⟨by decide, by decide⟩ (fun hd13 => ?_) (fun hd13 => ?_)
    · have hw := hw.1 hd13
      refine ok_aload_n (pc := 39) a dX9_notes_39 rfl rfl ?_
      refine ok_bipush (pc := 40) a dX9_notes_40 (by decide) ?_
      refine ok_pI (pc := 42) 18 a dX9_notes_42 lfRX9_135 fi_9_18 (Nat.lt_of_lt_of_le (by decide) hn) kq59 ty_9_18 rfl (fun h9 eh9 => ?_)
      have hw := hw h9 eh9
      refine ok_forget 1 ?_
      exact hJ45 h9 hw
    · have hw := hw.2 hd13
      refine ok_aload_n (pc := 18) a dX9_notes_18 rfl rfl ?_
      refine ok_getR (pc := 19) a dX9_notes_19 lfRX9_38 (Nat.lt_of_lt_of_le (by decide) hn) kq59 rfl (tg.at 59 17 69 (by decide) (by decide)) ?_
      refine ok_iload_n (pc := 22) a dX9_notes_22 rfl rfl ?_
      refine ok_aload_n (pc := 23) a dX9_notes_23 rfl rfl ?_
      refine ok_getR (pc := 24) a dX9_notes_24 lfRX9_38 (Nat.lt_of_lt_of_le (by decide) hn) kq59 rfl (tg.at 59 17 69 (by decide) (by decide)) ?_
      refine ok_iload_n (pc := 27) a dX9_notes_27 rfl rfl ?_
      refine ok_bipush (pc := 28) a dX9_notes_28 (by decide) ?_
      refine ok_iadd (pc := 30) a dX9_notes_30 ?_
      obtain ⟨hc10, hw⟩ := hw
      refine ok_iald (pc := 31) a dX9_notes_31 (Nat.lt_of_lt_of_le (by decide) hn) kq69 (by decide) hc10 ?_
      obtain ⟨hc11, hw⟩ := hw
      refine ok_iast (pc := 32) a dX9_notes_32 (Nat.lt_of_lt_of_le (by decide) hn) kq69 (by decide) hc11 (ok_nmH (fun h12 eh12 => ?_))
      have hw := hw h12 eh12
      refine ok_inc (pc := 33) a [some (vR 59), some (vI (x1_11 + 1))] dX9_notes_33 rfl (by decide) rfl rfl ?_
      refine ok_goto (pc := 36) a 11 dX9_notes_36 (by decide) ?_
      exact hX11 ((x1_11 + 1), h12) hw

def wp_X9_gets (x1 : Int) (x2 : Int) (x3 : Int) (h : aH) (Q : aH → Prop) : Prop :=
  (0 ≤ ((1 + (4 * x1)) + x2) ∧ ((1 + (4 * x1)) + x2) < 23) ∧ ∀ x4_14, x4_14 = ((h 66 ((1 + (4 * x1)) + x2)) + x3) → (inR x4_14 ∧ True) ∧ ∀ h4, h4 = up h 66 ((1 + (4 * x1)) + x2) (if x4_14 ≤ 9 then x4_14 else 9 : Int) → Q h4
set_option maxRecDepth 100000 in
set_option maxHeartbeats 4000000 in
theorem M_X9_gets {Γ : Gm} {l : Launch} {n : Nat} {g : aG} (hn : 80 ≤ n) (tg : TM g) (x1 : Int) (x2 : Int) (x3 : Int)  {h : aH} {Q : aH → Prop} (hw : wp_X9_gets x1 x2 x3 h Q) : Cl Γ l mX9_gets [vR 59, vI x1, vI x2, vI x3] n g h (RV g Q) := by
  refine Cl.of (by decide) [some (vR 59), some (vI x1), some (vI x2), some (vI x3), none] rfl (Nat.le_of_ble_eq_true rfl) ?_
  intro p e s m args below meth c a
  unfold wp_X9_gets at hw
  refine ok_aload_n (pc := 0) a dX9_gets_0 rfl rfl ?_
  refine ok_getR (pc := 1) a dX9_gets_1 lfRX9_28 (Nat.lt_of_lt_of_le (by decide) hn) kq59 rfl (tg.at 59 14 66 (by decide) (by decide)) ?_
  refine ok_iconst (pc := 4) a dX9_gets_4 ?_
  refine ok_iconst (pc := 5) a dX9_gets_5 ?_
  refine ok_iload_n (pc := 6) a dX9_gets_6 rfl rfl ?_
  refine ok_imul (pc := 7) a dX9_gets_7 ?_
  refine ok_iadd (pc := 8) a dX9_gets_8 ?_
  refine ok_iload_n (pc := 9) a dX9_gets_9 rfl rfl ?_
  refine ok_iadd (pc := 10) a dX9_gets_10 ?_
  obtain ⟨hc1, hw⟩ := hw
  refine ok_iald (pc := 11) a dX9_gets_11 (Nat.lt_of_lt_of_le (by decide) hn) kq66 (by decide) hc1 ?_
  refine ok_iload_n (pc := 12) a dX9_gets_12 rfl rfl ?_
  refine ok_iadd (pc := 13) a dX9_gets_13 ?_
  refine ok_nmI (fun x4_14 ex4_14 => ?_)
  have hw := hw x4_14 ex4_14
  refine ok_sI (pc := 14) a [some (vR 59), some (vI x1), some (vI x2), some (vI x3), some (vI x4_14)] dX9_gets_14 (by decide) rfl rfl ?_
  refine ok_aload_n (pc := 16) a dX9_gets_16 rfl rfl ?_
  refine ok_getR (pc := 17) a dX9_gets_17 lfRX9_28 (Nat.lt_of_lt_of_le (by decide) hn) kq59 rfl (tg.at 59 14 66 (by decide) (by decide)) ?_
  refine ok_iconst (pc := 20) a dX9_gets_20 ?_
  refine ok_iconst (pc := 21) a dX9_gets_21 ?_
  refine ok_iload_n (pc := 22) a dX9_gets_22 rfl rfl ?_
  refine ok_imul (pc := 23) a dX9_gets_23 ?_
  refine ok_iadd (pc := 24) a dX9_gets_24 ?_
  refine ok_iload_n (pc := 25) a dX9_gets_25 rfl rfl ?_
  refine ok_iadd (pc := 26) a dX9_gets_26 ?_
  refine ok_iload (pc := 27) a dX9_gets_27 rfl ?_
  refine ok_bipush (pc := 29) a dX9_gets_29 (by decide) ?_
  obtain ⟨hR, hw⟩ := hw
  have hK : OK Γ p l e (rmd 0 n n) s m args below meth c n (MQ below (QQ Γ n (RV g Q)) args s (n - n) (sl n - sl n) (AA Γ)) 41 [some (vR 59), some (vI x1), some (vI x2), some (vI x3), some (vI x4_14)] [(vI (if x4_14 ≤ 9 then x4_14 else 9 : Int)), (vI ((1 + (4 * x1)) + x2)), (vR 66)] n g h := by
    refine ok_iast (pc := 41) a dX9_gets_41 (Nat.lt_of_lt_of_le (by decide) hn) kq66 (by decide) hc1 (ok_nmH (fun h4 eh4 => ?_))
    have hw := hw h4 eh4
    exact ok_vret (pc := 42) a dX9_gets_42 ⟨rfl, rfl, hw⟩
  have hw := hR
  obtain ⟨hc2, hw⟩ := hw
  refine ok_icmp_le (pc := 31) a 39 dX9_gets_31 (by decide) hc2 ⟨by decide, by decide⟩ (fun hd3 => ?_) (fun hd3 => ?_)
  · refine ok_iload (pc := 39) a dX9_gets_39 rfl ?_
    simp only [if_pos hd3] at hK
    exact hK
  · refine ok_bipush (pc := 34) a dX9_gets_34 (by decide) ?_
    refine ok_goto (pc := 36) a 41 dX9_gets_36 (by decide) ?_
    simp only [if_neg hd3] at hK
    exact hK

def wp_X9_tells_J74 (x1 : Int) (Q : Int → aH → Prop) (h_74 : aH) : Prop :=
  wp_X9_heaviness x1 h_74 (fun r11 => Q r11 h_74)
def wp_X9_tells (x1 : Int) (x2 : Int) (x3 : Int) (h : aH) (Q : Int → aH → Prop) : Prop :=
  ∀ h1, h1 = up h 59 0 0 → wp_X9_isPair x1 x2 h1 (fun r2 => ((r2 = 0 → Q (-1) h1) ∧ (¬ r2 = 0 → wp_X9_isSort x3 h1 (fun r4 => ((r4 = 0 → Q (-1) h1) ∧ (¬ r4 = 0 → (0 ≤ ((1 + (4 * x1)) + x3) ∧ ((1 + (4 * x1)) + x3) < 23) ∧ inR (h1 66 ((1 + (4 * x1)) + x3)) ∧ (((h1 66 ((1 + (4 * x1)) + x3)) = 0 → Q (-2) h1) ∧ (¬ (h1 66 ((1 + (4 * x1)) + x3)) = 0 → wp_X9_notes h1 (fun h8 => ∀ h9, h9 = up h8 66 ((1 + (4 * x1)) + x3) ((h8 66 ((1 + (4 * x1)) + x3)) - 1) → inR x3 ∧ ((x3 ≤ 0 → wp_X9_tells_J74 x1 Q h9) ∧ (¬ x3 ≤ 0 → wp_X9_gets x2 (x3 - 1) 1 h9 (fun h12 => wp_X9_tells_J74 x1 Q h12))))))))))))
set_option maxRecDepth 100000 in
set_option maxHeartbeats 4000000 in
theorem M_X9_tells {Γ : Gm} {l : Launch} {n : Nat} {g : aG} (hn : 80 ≤ n) (tg : TM g) (x1 : Int) (x2 : Int) (x3 : Int)  {h : aH} {Q : Int → aH → Prop} (hw : wp_X9_tells x1 x2 x3 h Q) : Cl Γ l mX9_tells [vR 59, vI x1, vI x2, vI x3] n g h (RI g Q) := by
  refine Cl.of (by decide) [some (vR 59), some (vI x1), some (vI x2), some (vI x3)] rfl (Nat.le_of_ble_eq_true rfl) ?_
  intro p e s m args below meth c a
  unfold wp_X9_tells at hw
  refine ok_aload_n (pc := 0) a dX9_tells_0 rfl rfl ?_
  refine ok_iconst (pc := 1) a dX9_tells_1 ?_
  refine ok_pI (pc := 2) 0 a dX9_tells_2 lfRX9_77 fi_9_0 (Nat.lt_of_lt_of_le (by decide) hn) kq59 ty_9_0 rfl (fun h1 eh1 => ?_)
  have hw := hw h1 eh1
  refine ok_aload_n (pc := 5) a dX9_tells_5 rfl rfl ?_
  refine ok_iload_n (pc := 6) a dX9_tells_6 rfl rfl ?_
  refine ok_iload_n (pc := 7) a dX9_tells_7 rfl rfl ?_
  refine ok_VPZ (pc := 8) a [(vI x1), (vI x2)] [] (M_X9_isPair hn tg x1 x2  hw) dX9_tells_8 lkRX9_156 rfl (Nat.lt_of_lt_of_le (by decide) hn) kq59 (by decide) rfl ⟨Nat.le_of_ble_eq_true rfl, Nat.le_of_ble_eq_true rfl⟩ rfl (Nat.le_of_ble_eq_true rfl) rfl (fun r2 hz3 hw => ?_)
  refine ok_if_eq (pc := 11) a 21 dX9_tells_11 (by decide) (inR_b hz3) (fun hd16 => ?_) (fun hd16 => ?_)
  · have hw := hw.1 hd16
    refine ok_iconst (pc := 21) a dX9_tells_21 ?_
    exact ok_iret (pc := 22) a dX9_tells_22 ⟨_, rfl, rfl, hw⟩
  · have hw := hw.2 hd16
    refine ok_iload_n (pc := 14) a dX9_tells_14 rfl rfl ?_
    refine ok_SPZ (pc := 15) a [(vI x3)] [] (M_X9_isSort hn tg x3  hw) dX9_tells_15 lkRX9_147 rfl ⟨Nat.le_of_ble_eq_true rfl, Nat.le_of_ble_eq_true rfl⟩ rfl (Nat.le_of_ble_eq_true rfl) rfl (fun r4 hz5 hw => ?_)
    refine ok_if_ne (pc := 18) a 23 dX9_tells_18 (by decide) (inR_b hz5) (fun hd15 => ?_) (fun hd15 => ?_)
    · have hw := hw.2 hd15
      refine ok_aload_n (pc := 23) a dX9_tells_23 rfl rfl ?_
      refine ok_getR (pc := 24) a dX9_tells_24 lfRX9_28 (Nat.lt_of_lt_of_le (by decide) hn) kq59 rfl (tg.at 59 14 66 (by decide) (by decide)) ?_
      refine ok_iconst (pc := 27) a dX9_tells_27 ?_
      refine ok_iconst (pc := 28) a dX9_tells_28 ?_
      refine ok_iload_n (pc := 29) a dX9_tells_29 rfl rfl ?_
      refine ok_imul (pc := 30) a dX9_tells_30 ?_
      refine ok_iadd (pc := 31) a dX9_tells_31 ?_
      refine ok_iload_n (pc := 32) a dX9_tells_32 rfl rfl ?_
      refine ok_iadd (pc := 33) a dX9_tells_33 ?_
      obtain ⟨hc6, hw⟩ := hw
      refine ok_iald (pc := 34) a dX9_tells_34 (Nat.lt_of_lt_of_le (by decide) hn) kq66 (by decide) hc6 ?_
      obtain ⟨hc7, hw⟩ := hw
      refine ok_if_ne (pc := 35) a 41 dX9_tells_35 (by decide) hc7 (fun hd14 => ?_) (fun hd14 => ?_)
      · have hw := hw.2 hd14
        refine ok_aload_n (pc := 41) a dX9_tells_41 rfl rfl ?_
        refine ok_VRV (pc := 42) a [] [] (M_X9_notes hn tg   hw) dX9_tells_42 lkRX9_195 rfl (Nat.lt_of_lt_of_le (by decide) hn) kq59 (by decide) rfl ⟨Nat.le_of_ble_eq_true rfl, Nat.le_of_ble_eq_true rfl⟩ rfl (Nat.le_of_ble_eq_true rfl) rfl (fun h8 hw => ?_)
        refine ok_aload_n (pc := 45) a dX9_tells_45 rfl rfl ?_
        refine ok_getR (pc := 46) a dX9_tells_46 lfRX9_28 (Nat.lt_of_lt_of_le (by decide) hn) kq59 rfl (tg.at 59 14 66 (by decide) (by decide)) ?_
        refine ok_iconst (pc := 49) a dX9_tells_49 ?_
        refine ok_iconst (pc := 50) a dX9_tells_50 ?_
        refine ok_iload_n (pc := 51) a dX9_tells_51 rfl rfl ?_
        refine ok_imul (pc := 52) a dX9_tells_52 ?_
        refine ok_iadd (pc := 53) a dX9_tells_53 ?_
        refine ok_iload_n (pc := 54) a dX9_tells_54 rfl rfl ?_
        refine ok_iadd (pc := 55) a dX9_tells_55 ?_
        refine ok_dup2 (pc := 56) a dX9_tells_56 (by rfl) (by rfl) ?_
        refine ok_iald (pc := 57) a dX9_tells_57 (Nat.lt_of_lt_of_le (by decide) hn) kq66 (by decide) hc6 ?_
        refine ok_iconst (pc := 58) a dX9_tells_58 ?_
        refine ok_isub (pc := 59) a dX9_tells_59 ?_
        refine ok_iast (pc := 60) a dX9_tells_60 (Nat.lt_of_lt_of_le (by decide) hn) kq66 (by decide) hc6 (ok_nmH (fun h9 eh9 => ?_))
        have hw := hw h9 eh9
        refine ok_iload_n (pc := 61) a dX9_tells_61 rfl rfl ?_
        obtain ⟨hc10, hw⟩ := hw
        have hJ74 : ∀ (h_74 : aH), wp_X9_tells_J74 x1 Q h_74 → OK Γ p l e (rmd 3 n n) s m args below meth c n (MQ below (QQ Γ n (RI g Q)) args s (n - n) (sl n - sl n) (AA Γ)) 74 [some (vR 59), some (vI x1), some (vI x2), some (vI x3)] [] n g h_74 := by
          intro h_74 hw
          unfold wp_X9_tells_J74 at hw
          refine ok_aload_n (pc := 74) a dX9_tells_74 rfl rfl ?_
          refine ok_iload_n (pc := 75) a dX9_tells_75 rfl rfl ?_
          refine ok_VPI (pc := 76) a [(vI x1)] [] (M_X9_heaviness hn tg x1  hw) dX9_tells_76 lkRX9_150 rfl (Nat.lt_of_lt_of_le (by decide) hn) kq59 (by decide) rfl ⟨Nat.le_of_ble_eq_true rfl, Nat.le_of_ble_eq_true rfl⟩ rfl (Nat.le_of_ble_eq_true rfl) rfl (fun r11 hw => ?_)
          exact ok_iret (pc := 79) a dX9_tells_79 ⟨_, rfl, rfl, hw⟩
        refine ok_if_le (pc := 62) a 74 dX9_tells_62 (by decide) hc10 (fun hd13 => ?_) (fun hd13 => ?_)
        · have hw := hw.1 hd13
          exact hJ74 h9 hw
        · have hw := hw.2 hd13
          refine ok_aload_n (pc := 65) a dX9_tells_65 rfl rfl ?_
          refine ok_iload_n (pc := 66) a dX9_tells_66 rfl rfl ?_
          refine ok_iload_n (pc := 67) a dX9_tells_67 rfl rfl ?_
          refine ok_iconst (pc := 68) a dX9_tells_68 ?_
          refine ok_isub (pc := 69) a dX9_tells_69 ?_
          refine ok_iconst (pc := 70) a dX9_tells_70 ?_
          refine ok_VRV (pc := 71) a [(vI x2), (vI (x3 - 1)), (vI 1)] [] (M_X9_gets hn tg x2 (x3 - 1) 1  hw) dX9_tells_71 lkRX9_198 rfl (Nat.lt_of_lt_of_le (by decide) hn) kq59 (by decide) rfl ⟨Nat.le_of_ble_eq_true rfl, Nat.le_of_ble_eq_true rfl⟩ rfl (Nat.le_of_ble_eq_true rfl) rfl (fun h12 hw => ?_)
          exact hJ74 h12 hw
      · have hw := hw.1 hd14
        refine ok_bipush (pc := 38) a dX9_tells_38 (by decide) ?_
        exact ok_iret (pc := 40) a dX9_tells_40 ⟨_, rfl, rfl, hw⟩
    · have hw := hw.1 hd15
      refine ok_iconst (pc := 21) a dX9_tells_21 ?_
      exact ok_iret (pc := 22) a dX9_tells_22 ⟨_, rfl, rfl, hw⟩

def wp_X9_keeps (x1 : Int) (x2 : Int) (h : aH) (Q : Int → aH → Prop) : Prop :=
  ∀ h1, h1 = up h 59 0 0 → wp_X9_isPerson x1 h1 (fun r2 => ((r2 = 0 → Q (-1) h1) ∧ (¬ r2 = 0 → wp_X9_isSort x2 h1 (fun r4 => ((r4 = 0 → Q (-1) h1) ∧ (¬ r4 = 0 → (0 ≤ ((1 + (4 * x1)) + x2) ∧ ((1 + (4 * x1)) + x2) < 23) ∧ inR (h1 66 ((1 + (4 * x1)) + x2)) ∧ (((h1 66 ((1 + (4 * x1)) + x2)) = 9 → Q (-2) h1) ∧ (¬ (h1 66 ((1 + (4 * x1)) + x2)) = 9 → wp_X9_notes h1 (fun h8 => wp_X9_gets x1 x2 1 h8 (fun h9 => Q (h9 66 ((1 + (4 * x1)) + x2)) h9))))))))))
set_option maxRecDepth 100000 in
set_option maxHeartbeats 4000000 in
theorem M_X9_keeps {Γ : Gm} {l : Launch} {n : Nat} {g : aG} (hn : 80 ≤ n) (tg : TM g) (x1 : Int) (x2 : Int)  {h : aH} {Q : Int → aH → Prop} (hw : wp_X9_keeps x1 x2 h Q) : Cl Γ l mX9_keeps [vR 59, vI x1, vI x2] n g h (RI g Q) := by
  refine Cl.of (by decide) [some (vR 59), some (vI x1), some (vI x2)] rfl (Nat.le_of_ble_eq_true rfl) ?_
  intro p e s m args below meth c a
  unfold wp_X9_keeps at hw
  refine ok_aload_n (pc := 0) a dX9_keeps_0 rfl rfl ?_
  refine ok_iconst (pc := 1) a dX9_keeps_1 ?_
  refine ok_pI (pc := 2) 0 a dX9_keeps_2 lfRX9_77 fi_9_0 (Nat.lt_of_lt_of_le (by decide) hn) kq59 ty_9_0 rfl (fun h1 eh1 => ?_)
  have hw := hw h1 eh1
  refine ok_aload_n (pc := 5) a dX9_keeps_5 rfl rfl ?_
  refine ok_iload_n (pc := 6) a dX9_keeps_6 rfl rfl ?_
  refine ok_VPZ (pc := 7) a [(vI x1)] [] (M_X9_isPerson hn tg x1  hw) dX9_keeps_7 lkRX9_143 rfl (Nat.lt_of_lt_of_le (by decide) hn) kq59 (by decide) rfl ⟨Nat.le_of_ble_eq_true rfl, Nat.le_of_ble_eq_true rfl⟩ rfl (Nat.le_of_ble_eq_true rfl) rfl (fun r2 hz3 hw => ?_)
  refine ok_if_eq (pc := 10) a 20 dX9_keeps_10 (by decide) (inR_b hz3) (fun hd12 => ?_) (fun hd12 => ?_)
  · have hw := hw.1 hd12
    refine ok_iconst (pc := 20) a dX9_keeps_20 ?_
    exact ok_iret (pc := 21) a dX9_keeps_21 ⟨_, rfl, rfl, hw⟩
  · have hw := hw.2 hd12
    refine ok_iload_n (pc := 13) a dX9_keeps_13 rfl rfl ?_
    refine ok_SPZ (pc := 14) a [(vI x2)] [] (M_X9_isSort hn tg x2  hw) dX9_keeps_14 lkRX9_147 rfl ⟨Nat.le_of_ble_eq_true rfl, Nat.le_of_ble_eq_true rfl⟩ rfl (Nat.le_of_ble_eq_true rfl) rfl (fun r4 hz5 hw => ?_)
    refine ok_if_ne (pc := 17) a 22 dX9_keeps_17 (by decide) (inR_b hz5) (fun hd11 => ?_) (fun hd11 => ?_)
    · have hw := hw.2 hd11
      refine ok_aload_n (pc := 22) a dX9_keeps_22 rfl rfl ?_
      refine ok_getR (pc := 23) a dX9_keeps_23 lfRX9_28 (Nat.lt_of_lt_of_le (by decide) hn) kq59 rfl (tg.at 59 14 66 (by decide) (by decide)) ?_
      refine ok_iconst (pc := 26) a dX9_keeps_26 ?_
      refine ok_iconst (pc := 27) a dX9_keeps_27 ?_
      refine ok_iload_n (pc := 28) a dX9_keeps_28 rfl rfl ?_
      refine ok_imul (pc := 29) a dX9_keeps_29 ?_
      refine ok_iadd (pc := 30) a dX9_keeps_30 ?_
      refine ok_iload_n (pc := 31) a dX9_keeps_31 rfl rfl ?_
      refine ok_iadd (pc := 32) a dX9_keeps_32 ?_
      obtain ⟨hc6, hw⟩ := hw
      refine ok_iald (pc := 33) a dX9_keeps_33 (Nat.lt_of_lt_of_le (by decide) hn) kq66 (by decide) hc6 ?_
      refine ok_bipush (pc := 34) a dX9_keeps_34 (by decide) ?_
      obtain ⟨hc7, hw⟩ := hw
      refine ok_icmp_ne (pc := 36) a 42 dX9_keeps_36 (by decide) hc7 ⟨by decide, by decide⟩ (fun hd10 => ?_) (fun hd10 => ?_)
      · have hw := hw.2 hd10
        refine ok_aload_n (pc := 42) a dX9_keeps_42 rfl rfl ?_
        refine ok_VRV (pc := 43) a [] [] (M_X9_notes hn tg   hw) dX9_keeps_43 lkRX9_195 rfl (Nat.lt_of_lt_of_le (by decide) hn) kq59 (by decide) rfl ⟨Nat.le_of_ble_eq_true rfl, Nat.le_of_ble_eq_true rfl⟩ rfl (Nat.le_of_ble_eq_true rfl) rfl (fun h8 hw => ?_)
        refine ok_aload_n (pc := 46) a dX9_keeps_46 rfl rfl ?_
        refine ok_iload_n (pc := 47) a dX9_keeps_47 rfl rfl ?_
        refine ok_iload_n (pc := 48) a dX9_keeps_48 rfl rfl ?_
        refine ok_iconst (pc := 49) a dX9_keeps_49 ?_
        refine ok_VRV (pc := 50) a [(vI x1), (vI x2), (vI 1)] [] (M_X9_gets hn tg x1 x2 1  hw) dX9_keeps_50 lkRX9_198 rfl (Nat.lt_of_lt_of_le (by decide) hn) kq59 (by decide) rfl ⟨Nat.le_of_ble_eq_true rfl, Nat.le_of_ble_eq_true rfl⟩ rfl (Nat.le_of_ble_eq_true rfl) rfl (fun h9 hw => ?_)
        refine ok_aload_n (pc := 53) a dX9_keeps_53 rfl rfl ?_
        refine ok_getR (pc := 54) a dX9_keeps_54 lfRX9_28 (Nat.lt_of_lt_of_le (by decide) hn) kq59 rfl (tg.at 59 14 66 (by decide) (by decide)) ?_
        refine ok_iconst (pc := 57) a dX9_keeps_57 ?_
        refine ok_iconst (pc := 58) a dX9_keeps_58 ?_
        refine ok_iload_n (pc := 59) a dX9_keeps_59 rfl rfl ?_
        refine ok_imul (pc := 60) a dX9_keeps_60 ?_
        refine ok_iadd (pc := 61) a dX9_keeps_61 ?_
        refine ok_iload_n (pc := 62) a dX9_keeps_62 rfl rfl ?_
        refine ok_iadd (pc := 63) a dX9_keeps_63 ?_
        refine ok_iald (pc := 64) a dX9_keeps_64 (Nat.lt_of_lt_of_le (by decide) hn) kq66 (by decide) hc6 ?_
        exact ok_iret (pc := 65) a dX9_keeps_65 ⟨_, rfl, rfl, hw⟩
      · have hw := hw.1 hd10
        refine ok_bipush (pc := 39) a dX9_keeps_39 (by decide) ?_
        exact ok_iret (pc := 41) a dX9_keeps_41 ⟨_, rfl, rfl, hw⟩
    · have hw := hw.1 hd11
      refine ok_iconst (pc := 20) a dX9_keeps_20 ?_
      exact ok_iret (pc := 21) a dX9_keeps_21 ⟨_, rfl, rfl, hw⟩

def wp_X9_day_B36 (Q : Int → aH → Prop) (X36 : Int × aH → Prop) (x1_36 : Int) (h_36 : aH) : Prop :=
  inR x1_36 ∧ ((16 ≤ x1_36 → Q (h_36 66 0) h_36) ∧ (¬ 16 ≤ x1_36 → (0 ≤ x1_36 ∧ x1_36 < 2147483648) ∧ (0 ≤ x1_36 ∧ x1_36 < 32) ∧ wp_X9_gets (x1_36 / 4) (x1_36 % 4) (h_36 64 x1_36) h_36 (fun h8 => X36 ((x1_36 + 1), h8))))
def wp_X9_day  (h : aH) (Q : Int → aH → Prop) : Prop :=
  ∀ h1, h1 = up h 59 0 0 → inR (h1 66 0) ∧ (((h1 66 0) = 999 → Q (-2) h1) ∧ (¬ (h1 66 0) = 999 → wp_X9_notes h1 (fun h3 => ∀ h4, h4 = up h3 66 0 ((h3 66 0) + 1) → lp (fun X y => wp_X9_day_B36 Q X y.1 y.2) (0, h4))))
set_option maxRecDepth 100000 in
set_option maxHeartbeats 4000000 in
theorem M_X9_day {Γ : Gm} {l : Launch} {n : Nat} {g : aG} (hn : 80 ≤ n) (tg : TM g)   {h : aH} {Q : Int → aH → Prop} (hw : wp_X9_day  h Q) : Cl Γ l mX9_day [vR 59] n g h (RI g Q) := by
  refine Cl.of (by decide) [some (vR 59), none] rfl (Nat.le_of_ble_eq_true rfl) ?_
  intro p e s m args below meth c a
  unfold wp_X9_day at hw
  refine ok_aload_n (pc := 0) a dX9_day_0 rfl rfl ?_
  refine ok_iconst (pc := 1) a dX9_day_1 ?_
  refine ok_pI (pc := 2) 0 a dX9_day_2 lfRX9_77 fi_9_0 (Nat.lt_of_lt_of_le (by decide) hn) kq59 ty_9_0 rfl (fun h1 eh1 => ?_)
  have hw := hw h1 eh1
  refine ok_aload_n (pc := 5) a dX9_day_5 rfl rfl ?_
  refine ok_getR (pc := 6) a dX9_day_6 lfRX9_28 (Nat.lt_of_lt_of_le (by decide) hn) kq59 rfl (tg.at 59 14 66 (by decide) (by decide)) ?_
  refine ok_iconst (pc := 9) a dX9_day_9 ?_
  refine ok_iald (pc := 10) a dX9_day_10 (Nat.lt_of_lt_of_le (by decide) hn) kq66 (by decide) ⟨by decide, by decide⟩ ?_
  refine ok_sipush (pc := 11) a dX9_day_11 (by decide) ?_
  obtain ⟨hc2, hw⟩ := hw
  refine ok_icmp_ne (pc := 14) a 20 dX9_day_14 (by decide) hc2 ⟨by decide, by decide⟩ (fun hd10 => ?_) (fun hd10 => ?_)
  · have hw := hw.2 hd10
    refine ok_aload_n (pc := 20) a dX9_day_20 rfl rfl ?_
    refine ok_VRV (pc := 21) a [] [] (M_X9_notes hn tg   hw) dX9_day_21 lkRX9_195 rfl (Nat.lt_of_lt_of_le (by decide) hn) kq59 (by decide) rfl ⟨Nat.le_of_ble_eq_true rfl, Nat.le_of_ble_eq_true rfl⟩ rfl (Nat.le_of_ble_eq_true rfl) rfl (fun h3 hw => ?_)
    refine ok_aload_n (pc := 24) a dX9_day_24 rfl rfl ?_
    refine ok_getR (pc := 25) a dX9_day_25 lfRX9_28 (Nat.lt_of_lt_of_le (by decide) hn) kq59 rfl (tg.at 59 14 66 (by decide) (by decide)) ?_
    refine ok_iconst (pc := 28) a dX9_day_28 ?_
    refine ok_dup2 (pc := 29) a dX9_day_29 (by rfl) (by rfl) ?_
    refine ok_iald (pc := 30) a dX9_day_30 (Nat.lt_of_lt_of_le (by decide) hn) kq66 (by decide) ⟨by decide, by decide⟩ ?_
    refine ok_iconst (pc := 31) a dX9_day_31 ?_
    refine ok_iadd (pc := 32) a dX9_day_32 ?_
    refine ok_iast (pc := 33) a dX9_day_33 (Nat.lt_of_lt_of_le (by decide) hn) kq66 (by decide) ⟨by decide, by decide⟩ (ok_nmH (fun h4 eh4 => ?_))
    have hw := hw h4 eh4
    refine ok_iconst (pc := 34) a dX9_day_34 ?_
    refine ok_sI_n (pc := 35) a [some (vR 59), some (vI 0)] dX9_day_35 rfl (by decide) rfl rfl ?_
    refine lp.use (P := fun y => OK Γ p l e (rmd 1 n n) s m args below meth c n (MQ below (QQ Γ n (RI g Q)) args s (n - n) (sl n - sl n) (AA Γ)) 36 [some (vR 59), some (vI y.1)] [] n g y.2) ?_ (0, h4) hw
    clear hw
    intro X36 hX36 y hw
    obtain ⟨x1_36, h_36⟩ := y
    have hw : wp_X9_day_B36 Q X36 x1_36 h_36 := hw
    unfold wp_X9_day_B36 at hw
    try dsimp only
    refine ok_iload_n (pc := 36) a dX9_day_36 rfl rfl ?_
    refine ok_bipush (pc := 37) a dX9_day_37 (by decide) ?_
    obtain ⟨hc5, hw⟩ := hw
    refine ok_icmp_ge (pc := 39) a 64 dX9_day_39 (by decide) hc5 ⟨by decide, by decide⟩ (fun hd9 => ?_) (fun hd9 => ?_)
    · have hw := hw.1 hd9
      refine ok_aload_n (pc := 64) a dX9_day_64 rfl rfl ?_
      refine ok_getR (pc := 65) a dX9_day_65 lfRX9_28 (Nat.lt_of_lt_of_le (by decide) hn) kq59 rfl (tg.at 59 14 66 (by decide) (by decide)) ?_
      refine ok_iconst (pc := 68) a dX9_day_68 ?_
      refine ok_iald (pc := 69) a dX9_day_69 (Nat.lt_of_lt_of_le (by decide) hn) kq66 (by decide) ⟨by decide, by decide⟩ ?_
      exact ok_iret (pc := 70) a dX9_day_70 ⟨_, rfl, rfl, hw⟩
    · have hw := hw.2 hd9
      refine ok_aload_n (pc := 42) a dX9_day_42 rfl rfl ?_
      refine ok_iload_n (pc := 43) a dX9_day_43 rfl rfl ?_
      refine ok_iconst (pc := 44) a dX9_day_44 ?_
      obtain ⟨hc6, hw⟩ := hw
      refine ok_idiv (pc := 45) a dX9_day_45 ⟨hc6, by decide, by decide⟩ ?_
      refine ok_iload_n (pc := 46) a dX9_day_46 rfl rfl ?_
      refine ok_iconst (pc := 47) a dX9_day_47 ?_
      refine ok_irem (pc := 48) a dX9_day_48 ⟨hc6, by decide, by decide⟩ ?_
      refine ok_aload_n (pc := 49) a dX9_day_49 rfl rfl ?_
      refine ok_getR (pc := 50) a dX9_day_50 lfRX9_22 (Nat.lt_of_lt_of_le (by decide) hn) kq59 rfl (tg.at 59 12 64 (by decide) (by decide)) ?_
      refine ok_iload_n (pc := 53) a dX9_day_53 rfl rfl ?_
      obtain ⟨hc7, hw⟩ := hw
      refine ok_iald (pc := 54) a dX9_day_54 (Nat.lt_of_lt_of_le (by decide) hn) kq64 (by decide) hc7 ?_
      refine ok_VRV (pc := 55) a [(vI (x1_36 / 4)), (vI (x1_36 % 4)), (vI (h_36 64 x1_36))] [] (M_X9_gets hn tg (x1_36 / 4) (x1_36 % 4) (h_36 64 x1_36)  hw) dX9_day_55 lkRX9_198 rfl (Nat.lt_of_lt_of_le (by decide) hn) kq59 (by decide) rfl ⟨Nat.le_of_ble_eq_true rfl, Nat.le_of_ble_eq_true rfl⟩ rfl (Nat.le_of_ble_eq_true rfl) rfl (fun h8 hw => ?_)
      refine ok_inc (pc := 58) a [some (vR 59), some (vI (x1_36 + 1))] dX9_day_58 rfl (by decide) rfl rfl ?_
      refine ok_goto (pc := 61) a 36 dX9_day_61 (by decide) ?_
      exact hX36 ((x1_36 + 1), h8) hw
  · have hw := hw.1 hd10
    refine ok_bipush (pc := 17) a dX9_day_17 (by decide) ?_
    exact ok_iret (pc := 19) a dX9_day_19 ⟨_, rfl, rfl, hw⟩

def wp_X9_weighs (x1 : Int) (x2 : Int) (h : aH) (Q : Int → aH → Prop) : Prop :=
  ∀ h1, h1 = up h 59 0 0 → wp_X9_isPair x1 x2 h1 (fun r2 => ((r2 = 0 → Q (-1) h1) ∧ (¬ r2 = 0 → wp_X9_notes h1 (fun h4 => wp_X9_heaviness x1 h4 (fun r5 => wp_X9_heaviness x2 h4 (fun r6 => ∀ x3_31, x3_31 = (r5 - r6) → (inR x3_31 ∧ True) ∧ ∀ x4_49, x4_49 = (if x3_31 ≤ 0 then (if 0 ≤ x3_31 then 0 else 2 : Int) else 1 : Int) → wp_X9_pairOf x1 x2 h4 (fun r10 => inR x1 ∧ inR x2 ∧ ((x2 ≤ x1 → wp_X9_turned x4_49 h4 (fun r13 => (0 ≤ (17 + r10) ∧ (17 + r10) < 23) ∧ ∀ h15, h15 = up h4 66 (17 + r10) (1 + r13) → Q x4_49 h15)) ∧ (¬ x2 ≤ x1 → (0 ≤ (17 + r10) ∧ (17 + r10) < 23) ∧ ∀ h17, h17 = up h4 66 (17 + r10) (1 + x4_49) → Q x4_49 h17)))))))))
set_option maxRecDepth 100000 in
set_option maxHeartbeats 4000000 in
theorem M_X9_weighs {Γ : Gm} {l : Launch} {n : Nat} {g : aG} (hn : 80 ≤ n) (tg : TM g) (x1 : Int) (x2 : Int)  {h : aH} {Q : Int → aH → Prop} (hw : wp_X9_weighs x1 x2 h Q) : Cl Γ l mX9_weighs [vR 59, vI x1, vI x2] n g h (RI g Q) := by
  refine Cl.of (by decide) [some (vR 59), some (vI x1), some (vI x2), none, none] rfl (Nat.le_of_ble_eq_true rfl) ?_
  intro p e s m args below meth c a
  unfold wp_X9_weighs at hw
  refine ok_aload_n (pc := 0) a dX9_weighs_0 rfl rfl ?_
  refine ok_iconst (pc := 1) a dX9_weighs_1 ?_
  refine ok_pI (pc := 2) 0 a dX9_weighs_2 lfRX9_77 fi_9_0 (Nat.lt_of_lt_of_le (by decide) hn) kq59 ty_9_0 rfl (fun h1 eh1 => ?_)
  have hw := hw h1 eh1
  refine ok_aload_n (pc := 5) a dX9_weighs_5 rfl rfl ?_
  refine ok_iload_n (pc := 6) a dX9_weighs_6 rfl rfl ?_
  refine ok_iload_n (pc := 7) a dX9_weighs_7 rfl rfl ?_
  refine ok_VPZ (pc := 8) a [(vI x1), (vI x2)] [] (M_X9_isPair hn tg x1 x2  hw) dX9_weighs_8 lkRX9_156 rfl (Nat.lt_of_lt_of_le (by decide) hn) kq59 (by decide) rfl ⟨Nat.le_of_ble_eq_true rfl, Nat.le_of_ble_eq_true rfl⟩ rfl (Nat.le_of_ble_eq_true rfl) rfl (fun r2 hz3 hw => ?_)
  refine ok_if_ne (pc := 11) a 16 dX9_weighs_11 (by decide) (inR_b hz3) (fun hd19 => ?_) (fun hd19 => ?_)
  · have hw := hw.2 hd19
    refine ok_aload_n (pc := 16) a dX9_weighs_16 rfl rfl ?_
    refine ok_VRV (pc := 17) a [] [] (M_X9_notes hn tg   hw) dX9_weighs_17 lkRX9_195 rfl (Nat.lt_of_lt_of_le (by decide) hn) kq59 (by decide) rfl ⟨Nat.le_of_ble_eq_true rfl, Nat.le_of_ble_eq_true rfl⟩ rfl (Nat.le_of_ble_eq_true rfl) rfl (fun h4 hw => ?_)
    refine ok_aload_n (pc := 20) a dX9_weighs_20 rfl rfl ?_
    refine ok_iload_n (pc := 21) a dX9_weighs_21 rfl rfl ?_
    refine ok_VPI (pc := 22) a [(vI x1)] [] (M_X9_heaviness hn tg x1  hw) dX9_weighs_22 lkRX9_150 rfl (Nat.lt_of_lt_of_le (by decide) hn) kq59 (by decide) rfl ⟨Nat.le_of_ble_eq_true rfl, Nat.le_of_ble_eq_true rfl⟩ rfl (Nat.le_of_ble_eq_true rfl) rfl (fun r5 hw => ?_)
    refine ok_aload_n (pc := 25) a dX9_weighs_25 rfl rfl ?_
    refine ok_iload_n (pc := 26) a dX9_weighs_26 rfl rfl ?_
    refine ok_VPI (pc := 27) a [(vI x2)] [(vI r5)] (M_X9_heaviness hn tg x2  hw) dX9_weighs_27 lkRX9_150 rfl (Nat.lt_of_lt_of_le (by decide) hn) kq59 (by decide) rfl ⟨Nat.le_of_ble_eq_true rfl, Nat.le_of_ble_eq_true rfl⟩ rfl (Nat.le_of_ble_eq_true rfl) rfl (fun r6 hw => ?_)
    refine ok_isub (pc := 30) a dX9_weighs_30 ?_
    refine ok_nmI (fun x3_31 ex3_31 => ?_)
    have hw := hw x3_31 ex3_31
    refine ok_sI_n (pc := 31) a [some (vR 59), some (vI x1), some (vI x2), some (vI x3_31), none] dX9_weighs_31 rfl (by decide) rfl rfl ?_
    refine ok_iload_n (pc := 32) a dX9_weighs_32 rfl rfl ?_
    obtain ⟨hR, hw⟩ := hw
    have hK : OK Γ p l e (rmd 3 n n) s m args below meth c n (MQ below (QQ Γ n (RI g Q)) args s (n - n) (sl n - sl n) (AA Γ)) 49 [some (vR 59), some (vI x1), some (vI x2), some (vI x3_31), none] [(vI (if x3_31 ≤ 0 then (if 0 ≤ x3_31 then 0 else 2 : Int) else 1 : Int))] n g h4 := by
      refine ok_nmI (fun x4_49 ex4_49 => ?_)
      have hw := hw x4_49 ex4_49
      refine ok_sI (pc := 49) a [some (vR 59), some (vI x1), some (vI x2), some (vI x3_31), some (vI x4_49)] dX9_weighs_49 (by decide) rfl rfl ?_
      refine ok_aload_n (pc := 51) a dX9_weighs_51 rfl rfl ?_
      refine ok_getR (pc := 52) a dX9_weighs_52 lfRX9_28 (Nat.lt_of_lt_of_le (by decide) hn) kq59 rfl (tg.at 59 14 66 (by decide) (by decide)) ?_
      refine ok_bipush (pc := 55) a dX9_weighs_55 (by decide) ?_
      refine ok_iload_n (pc := 57) a dX9_weighs_57 rfl rfl ?_
      refine ok_iload_n (pc := 58) a dX9_weighs_58 rfl rfl ?_
      refine ok_SPI (pc := 59) a [(vI x1), (vI x2)] [(vI 17), (vR 66)] (M_X9_pairOf hn tg x1 x2  hw) dX9_weighs_59 lkRX9_160 rfl ⟨Nat.le_of_ble_eq_true rfl, Nat.le_of_ble_eq_true rfl⟩ rfl (Nat.le_of_ble_eq_true rfl) rfl (fun r10 hw => ?_)
      refine ok_iadd (pc := 62) a dX9_weighs_62 ?_
      refine ok_iconst (pc := 63) a dX9_weighs_63 ?_
      refine ok_iload_n (pc := 64) a dX9_weighs_64 rfl rfl ?_
      refine ok_iload_n (pc := 65) a dX9_weighs_65 rfl rfl ?_
      obtain ⟨hc11, hw⟩ := hw
      obtain ⟨hc12, hw⟩ := hw
      refine ok_icmp_ge (pc := 66) a 74 dX9_weighs_66 (by decide) hc11 hc12 (fun hd18 => ?_) (fun hd18 => ?_)
      · have hw := hw.1 hd18
        refine ok_iload (pc := 74) a dX9_weighs_74 rfl ?_
        refine ok_SPI (pc := 76) a [(vI x4_49)] [(vI 1), (vI (17 + r10)), (vR 66)] (M_X9_turned hn tg x4_49  hw) dX9_weighs_76 lkRX9_163 rfl ⟨Nat.le_of_ble_eq_true rfl, Nat.le_of_ble_eq_true rfl⟩ rfl (Nat.le_of_ble_eq_true rfl) rfl (fun r13 hw => ?_)
        refine ok_iadd (pc := 79) a dX9_weighs_79 ?_
        obtain ⟨hc14, hw⟩ := hw
        refine ok_iast (pc := 80) a dX9_weighs_80 (Nat.lt_of_lt_of_le (by decide) hn) kq66 (by decide) hc14 (ok_nmH (fun h15 eh15 => ?_))
        have hw := hw h15 eh15
        refine ok_iload (pc := 81) a dX9_weighs_81 rfl ?_
        exact ok_iret (pc := 83) a dX9_weighs_83 ⟨_, rfl, rfl, hw⟩
      · have hw := hw.2 hd18
        refine ok_iload (pc := 69) a dX9_weighs_69 rfl ?_
        refine ok_goto (pc := 71) a 79 dX9_weighs_71 (by decide) ?_
        refine ok_iadd (pc := 79) a dX9_weighs_79 ?_
        obtain ⟨hc16, hw⟩ := hw
        refine ok_iast (pc := 80) a dX9_weighs_80 (Nat.lt_of_lt_of_le (by decide) hn) kq66 (by decide) hc16 (ok_nmH (fun h17 eh17 => ?_))
        have hw := hw h17 eh17
        refine ok_iload (pc := 81) a dX9_weighs_81 rfl ?_
        exact ok_iret (pc := 83) a dX9_weighs_83 ⟨_, rfl, rfl, hw⟩
    have hw := hR
    obtain ⟨hc7, hw⟩ := hw
    refine ok_if_le (pc := 33) a 40 dX9_weighs_33 (by decide) hc7 (fun hd8 => ?_) (fun hd8 => ?_)
    · refine ok_iload_n (pc := 40) a dX9_weighs_40 rfl rfl ?_
      refine ok_if_ge (pc := 41) a 48 dX9_weighs_41 (by decide) hc7 (fun hd9 => ?_) (fun hd9 => ?_)
      · refine ok_iconst (pc := 48) a dX9_weighs_48 ?_
        simp only [if_pos hd8, if_pos hd9] at hK
        exact hK
      · refine ok_iconst (pc := 44) a dX9_weighs_44 ?_
        refine ok_goto (pc := 45) a 49 dX9_weighs_45 (by decide) ?_
        simp only [if_pos hd8, if_neg hd9] at hK
        exact hK
    · refine ok_iconst (pc := 36) a dX9_weighs_36 ?_
      refine ok_goto (pc := 37) a 49 dX9_weighs_37 (by decide) ?_
      simp only [if_neg hd8] at hK
      exact hK
  · have hw := hw.1 hd19
    refine ok_iconst (pc := 14) a dX9_weighs_14 ?_
    exact ok_iret (pc := 15) a dX9_weighs_15 ⟨_, rfl, rfl, hw⟩

def wp_X9_forgets_B16 (Q : Int → aH → Prop) (r3 : Int) (X16 : Int × aH → Prop) (x2_16 : Int) (h_16 : aH) : Prop :=
  inR x2_16 ∧ ((6 ≤ x2_16 → Q r3 h_16) ∧ (¬ 6 ≤ x2_16 → (0 ≤ (17 + x2_16) ∧ (17 + x2_16) < 23) ∧ ∀ h6, h6 = up h_16 66 (17 + x2_16) 0 → X16 ((x2_16 + 1), h6)))
def wp_X9_forgets  (h : aH) (Q : Int → aH → Prop) : Prop :=
  ∀ h1, h1 = up h 59 0 0 → wp_X9_notes h1 (fun h2 => wp_X9_knownMany h2 (fun r3 => lp (fun X y => wp_X9_forgets_B16 Q r3 X y.1 y.2) (0, h2)))
set_option maxRecDepth 100000 in
set_option maxHeartbeats 4000000 in
theorem M_X9_forgets {Γ : Gm} {l : Launch} {n : Nat} {g : aG} (hn : 80 ≤ n) (tg : TM g)   {h : aH} {Q : Int → aH → Prop} (hw : wp_X9_forgets  h Q) : Cl Γ l mX9_forgets [vR 59] n g h (RI g Q) := by
  refine Cl.of (by decide) [some (vR 59), none, none] rfl (Nat.le_of_ble_eq_true rfl) ?_
  intro p e s m args below meth c a
  unfold wp_X9_forgets at hw
  refine ok_aload_n (pc := 0) a dX9_forgets_0 rfl rfl ?_
  refine ok_iconst (pc := 1) a dX9_forgets_1 ?_
  refine ok_pI (pc := 2) 0 a dX9_forgets_2 lfRX9_77 fi_9_0 (Nat.lt_of_lt_of_le (by decide) hn) kq59 ty_9_0 rfl (fun h1 eh1 => ?_)
  have hw := hw h1 eh1
  refine ok_aload_n (pc := 5) a dX9_forgets_5 rfl rfl ?_
  refine ok_VRV (pc := 6) a [] [] (M_X9_notes hn tg   hw) dX9_forgets_6 lkRX9_195 rfl (Nat.lt_of_lt_of_le (by decide) hn) kq59 (by decide) rfl ⟨Nat.le_of_ble_eq_true rfl, Nat.le_of_ble_eq_true rfl⟩ rfl (Nat.le_of_ble_eq_true rfl) rfl (fun h2 hw => ?_)
  refine ok_aload_n (pc := 9) a dX9_forgets_9 rfl rfl ?_
  refine ok_VPI (pc := 10) a [] [] (M_X9_knownMany hn tg   hw) dX9_forgets_10 lkRX9_186 rfl (Nat.lt_of_lt_of_le (by decide) hn) kq59 (by decide) rfl ⟨Nat.le_of_ble_eq_true rfl, Nat.le_of_ble_eq_true rfl⟩ rfl (Nat.le_of_ble_eq_true rfl) rfl (fun r3 hw => ?_)
  refine ok_sI_n (pc := 13) a [some (vR 59), some (vI r3), none] dX9_forgets_13 rfl (by decide) rfl rfl ?_
  refine ok_iconst (pc := 14) a dX9_forgets_14 ?_
  refine ok_sI_n (pc := 15) a [some (vR 59), some (vI r3), some (vI 0)] dX9_forgets_15 rfl (by decide) rfl rfl ?_
  refine lp.use (P := fun y => OK Γ p l e (rmd 1 n n) s m args below meth c n (MQ below (QQ Γ n (RI g Q)) args s (n - n) (sl n - sl n) (AA Γ)) 16 [some (vR 59), some (vI r3), some (vI y.1)] [] n g y.2) ?_ (0, h2) hw
  clear hw
  intro X16 hX16 y hw
  obtain ⟨x2_16, h_16⟩ := y
  have hw : wp_X9_forgets_B16 Q r3 X16 x2_16 h_16 := hw
  unfold wp_X9_forgets_B16 at hw
  try dsimp only
  refine ok_iload_n (pc := 16) a dX9_forgets_16 rfl rfl ?_
  refine ok_bipush (pc := 17) a dX9_forgets_17 (by decide) ?_
  obtain ⟨hc4, hw⟩ := hw
  refine ok_icmp_ge (pc := 19) a 38 dX9_forgets_19 (by decide) hc4 ⟨by decide, by decide⟩ (fun hd7 => ?_) (fun hd7 => ?_)
  · have hw := hw.1 hd7
    refine ok_iload_n (pc := 38) a dX9_forgets_38 rfl rfl ?_
    exact ok_iret (pc := 39) a dX9_forgets_39 ⟨_, rfl, rfl, hw⟩
  · have hw := hw.2 hd7
    refine ok_aload_n (pc := 22) a dX9_forgets_22 rfl rfl ?_
    refine ok_getR (pc := 23) a dX9_forgets_23 lfRX9_28 (Nat.lt_of_lt_of_le (by decide) hn) kq59 rfl (tg.at 59 14 66 (by decide) (by decide)) ?_
    refine ok_bipush (pc := 26) a dX9_forgets_26 (by decide) ?_
    refine ok_iload_n (pc := 28) a dX9_forgets_28 rfl rfl ?_
    refine ok_iadd (pc := 29) a dX9_forgets_29 ?_
    refine ok_iconst (pc := 30) a dX9_forgets_30 ?_
    obtain ⟨hc5, hw⟩ := hw
    refine ok_iast (pc := 31) a dX9_forgets_31 (Nat.lt_of_lt_of_le (by decide) hn) kq66 (by decide) hc5 (ok_nmH (fun h6 eh6 => ?_))
    have hw := hw h6 eh6
    refine ok_inc (pc := 32) a [some (vR 59), some (vI r3), some (vI (x2_16 + 1))] dX9_forgets_32 rfl (by decide) rfl rfl ?_
    refine ok_goto (pc := 35) a 16 dX9_forgets_35 (by decide) ?_
    exact hX16 ((x2_16 + 1), h6) hw

def wp_X9_undo_B27 (Q : Int → aH → Prop) (X27 : Int × aH → Prop) (x1_27 : Int) (h_27 : aH) : Prop :=
  inR x1_27 ∧ ((23 ≤ x1_27 → Q (h_27 59 18) h_27) ∧ (¬ 23 ≤ x1_27 → (0 ≤ ((23 * (h_27 59 18)) + x1_27) ∧ ((23 * (h_27 59 18)) + x1_27) < 230) ∧ (0 ≤ x1_27 ∧ x1_27 < 23) ∧ ∀ h7, h7 = up h_27 66 x1_27 (h_27 69 ((23 * (h_27 59 18)) + x1_27)) → X27 ((x1_27 + 1), h7)))
def wp_X9_undo  (h : aH) (Q : Int → aH → Prop) : Prop :=
  ∀ h1, h1 = up h 59 0 0 → inR (h1 59 18) ∧ (((h1 59 18) = 0 → Q (-2) h1) ∧ (¬ (h1 59 18) = 0 → ∀ h3, h3 = up h1 59 18 ((h1 59 18) - 1) → lp (fun X y => wp_X9_undo_B27 Q X y.1 y.2) (0, h3)))
set_option maxRecDepth 100000 in
set_option maxHeartbeats 4000000 in
theorem M_X9_undo {Γ : Gm} {l : Launch} {n : Nat} {g : aG} (hn : 80 ≤ n) (tg : TM g)   {h : aH} {Q : Int → aH → Prop} (hw : wp_X9_undo  h Q) : Cl Γ l mX9_undo [vR 59] n g h (RI g Q) := by
  refine Cl.of (by decide) [some (vR 59), none] rfl (Nat.le_of_ble_eq_true rfl) ?_
  intro p e s m args below meth c a
  unfold wp_X9_undo at hw
  refine ok_aload_n (pc := 0) a dX9_undo_0 rfl rfl ?_
  refine ok_iconst (pc := 1) a dX9_undo_1 ?_
  refine ok_pI (pc := 2) 0 a dX9_undo_2 lfRX9_77 fi_9_0 (Nat.lt_of_lt_of_le (by decide) hn) kq59 ty_9_0 rfl (fun h1 eh1 => ?_)
  have hw := hw h1 eh1
  refine ok_aload_n (pc := 5) a dX9_undo_5 rfl rfl ?_
  refine ok_fI (pc := 6) 18 a dX9_undo_6 lfRX9_135 (Nat.lt_of_lt_of_le (by decide) hn) kq59 ty_9_18 rfl ?_
  obtain ⟨hc2, hw⟩ := hw
  refine ok_if_ne (pc := 9) a 15 dX9_undo_9 (by decide) hc2 (fun hd9 => ?_) (fun hd9 => ?_)
  · have hw := hw.2 hd9
    refine ok_aload_n (pc := 15) a dX9_undo_15 rfl rfl ?_
    refine ok_dup (pc := 16) a dX9_undo_16 (by rfl) ?_
    refine ok_fI (pc := 17) 18 a dX9_undo_17 lfRX9_135 (Nat.lt_of_lt_of_le (by decide) hn) kq59 ty_9_18 rfl ?_
    refine ok_iconst (pc := 20) a dX9_undo_20 ?_
    refine ok_isub (pc := 21) a dX9_undo_21 ?_
    refine ok_pI (pc := 22) 18 a dX9_undo_22 lfRX9_135 fi_9_18 (Nat.lt_of_lt_of_le (by decide) hn) kq59 ty_9_18 rfl (fun h3 eh3 => ?_)
    have hw := hw h3 eh3
    refine ok_iconst (pc := 25) a dX9_undo_25 ?_
    refine ok_sI_n (pc := 26) a [some (vR 59), some (vI 0)] dX9_undo_26 rfl (by decide) rfl rfl ?_
    refine lp.use (P := fun y => OK Γ p l e (rmd 0 n n) s m args below meth c n (MQ below (QQ Γ n (RI g Q)) args s (n - n) (sl n - sl n) (AA Γ)) 27 [some (vR 59), some (vI y.1)] [] n g y.2) ?_ (0, h3) hw
    clear hw
    intro X27 hX27 y hw
    obtain ⟨x1_27, h_27⟩ := y
    have hw : wp_X9_undo_B27 Q X27 x1_27 h_27 := hw
    unfold wp_X9_undo_B27 at hw
    try dsimp only
    refine ok_iload_n (pc := 27) a dX9_undo_27 rfl rfl ?_
    refine ok_bipush (pc := 28) a dX9_undo_28 (by decide) ?_
    obtain ⟨hc4, hw⟩ := hw
    refine ok_icmp_ge (pc := 30) a 59 dX9_undo_30 (by decide) hc4 ⟨by decide, by decide⟩ (fun hd8 => ?_) (fun hd8 => ?_)
    · have hw := hw.1 hd8
      refine ok_aload_n (pc := 59) a dX9_undo_59 rfl rfl ?_
      refine ok_fI (pc := 60) 18 a dX9_undo_60 lfRX9_135 (Nat.lt_of_lt_of_le (by decide) hn) kq59 ty_9_18 rfl ?_
      exact ok_iret (pc := 63) a dX9_undo_63 ⟨_, rfl, rfl, hw⟩
    · have hw := hw.2 hd8
      refine ok_aload_n (pc := 33) a dX9_undo_33 rfl rfl ?_
      refine ok_getR (pc := 34) a dX9_undo_34 lfRX9_28 (Nat.lt_of_lt_of_le (by decide) hn) kq59 rfl (tg.at 59 14 66 (by decide) (by decide)) ?_
      refine ok_iload_n (pc := 37) a dX9_undo_37 rfl rfl ?_
      refine ok_aload_n (pc := 38) a dX9_undo_38 rfl rfl ?_
      refine ok_getR (pc := 39) a dX9_undo_39 lfRX9_38 (Nat.lt_of_lt_of_le (by decide) hn) kq59 rfl (tg.at 59 17 69 (by decide) (by decide)) ?_
      refine ok_bipush (pc := 42) a dX9_undo_42 (by decide) ?_
      refine ok_aload_n (pc := 44) a dX9_undo_44 rfl rfl ?_
      refine ok_fI (pc := 45) 18 a dX9_undo_45 lfRX9_135 (Nat.lt_of_lt_of_le (by decide) hn) kq59 ty_9_18 rfl ?_
      refine ok_imul (pc := 48) a dX9_undo_48 ?_
      refine ok_iload_n (pc := 49) a dX9_undo_49 rfl rfl ?_
      refine ok_iadd (pc := 50) a dX9_undo_50 ?_
      obtain ⟨hc5, hw⟩ := hw
      refine ok_iald (pc := 51) a dX9_undo_51 (Nat.lt_of_lt_of_le (by decide) hn) kq69 (by decide) hc5 ?_
      obtain ⟨hc6, hw⟩ := hw
      refine ok_iast (pc := 52) a dX9_undo_52 (Nat.lt_of_lt_of_le (by decide) hn) kq66 (by decide) hc6 (ok_nmH (fun h7 eh7 => ?_))
      have hw := hw h7 eh7
      refine ok_inc (pc := 53) a [some (vR 59), some (vI (x1_27 + 1))] dX9_undo_53 rfl (by decide) rfl rfl ?_
      refine ok_goto (pc := 56) a 27 dX9_undo_56 (by decide) ?_
      exact hX27 ((x1_27 + 1), h7) hw
  · have hw := hw.1 hd9
    refine ok_bipush (pc := 12) a dX9_undo_12 (by decide) ?_
    exact ok_iret (pc := 14) a dX9_undo_14 ⟨_, rfl, rfl, hw⟩

def wp_X9_beam (x1 : Int) (x2 : Int) (h : aH) (Q : Int → aH → Prop) : Prop :=
  ∀ h1, h1 = up h 59 0 0 → wp_X9_isPair x1 x2 h1 (fun r2 => ((r2 = 0 → Q (-1000000) h1) ∧ (¬ r2 = 0 → wp_X9_heaviness x1 h1 (fun r4 => wp_X9_heaviness x2 h1 (fun r5 => Q (r4 - r5) h1)))))
set_option maxRecDepth 100000 in
set_option maxHeartbeats 4000000 in
theorem M_X9_beam {Γ : Gm} {l : Launch} {n : Nat} {g : aG} (hn : 80 ≤ n) (tg : TM g) (x1 : Int) (x2 : Int)  {h : aH} {Q : Int → aH → Prop} (hw : wp_X9_beam x1 x2 h Q) : Cl Γ l mX9_beam [vR 59, vI x1, vI x2] n g h (RI g Q) := by
  refine Cl.of (by decide) [some (vR 59), some (vI x1), some (vI x2)] rfl (Nat.le_of_ble_eq_true rfl) ?_
  intro p e s m args below meth c a
  unfold wp_X9_beam at hw
  refine ok_aload_n (pc := 0) a dX9_beam_0 rfl rfl ?_
  refine ok_iconst (pc := 1) a dX9_beam_1 ?_
  refine ok_pI (pc := 2) 0 a dX9_beam_2 lfRX9_77 fi_9_0 (Nat.lt_of_lt_of_le (by decide) hn) kq59 ty_9_0 rfl (fun h1 eh1 => ?_)
  have hw := hw h1 eh1
  refine ok_aload_n (pc := 5) a dX9_beam_5 rfl rfl ?_
  refine ok_iload_n (pc := 6) a dX9_beam_6 rfl rfl ?_
  refine ok_iload_n (pc := 7) a dX9_beam_7 rfl rfl ?_
  refine ok_VPZ (pc := 8) a [(vI x1), (vI x2)] [] (M_X9_isPair hn tg x1 x2  hw) dX9_beam_8 lkRX9_156 rfl (Nat.lt_of_lt_of_le (by decide) hn) kq59 (by decide) rfl ⟨Nat.le_of_ble_eq_true rfl, Nat.le_of_ble_eq_true rfl⟩ rfl (Nat.le_of_ble_eq_true rfl) rfl (fun r2 hz3 hw => ?_)
  refine ok_if_eq (pc := 11) a 28 dX9_beam_11 (by decide) (inR_b hz3) (fun hd6 => ?_) (fun hd6 => ?_)
  · have hw := hw.1 hd6
    refine ok_ldc (pc := 28) (x := (-1000000)) a dX9_beam_28 ctRX9_202 (by decide) ?_
    exact ok_iret (pc := 30) a dX9_beam_30 ⟨_, rfl, rfl, hw⟩
  · have hw := hw.2 hd6
    refine ok_aload_n (pc := 14) a dX9_beam_14 rfl rfl ?_
    refine ok_iload_n (pc := 15) a dX9_beam_15 rfl rfl ?_
    refine ok_VPI (pc := 16) a [(vI x1)] [] (M_X9_heaviness hn tg x1  hw) dX9_beam_16 lkRX9_150 rfl (Nat.lt_of_lt_of_le (by decide) hn) kq59 (by decide) rfl ⟨Nat.le_of_ble_eq_true rfl, Nat.le_of_ble_eq_true rfl⟩ rfl (Nat.le_of_ble_eq_true rfl) rfl (fun r4 hw => ?_)
    refine ok_aload_n (pc := 19) a dX9_beam_19 rfl rfl ?_
    refine ok_iload_n (pc := 20) a dX9_beam_20 rfl rfl ?_
    refine ok_VPI (pc := 21) a [(vI x2)] [(vI r4)] (M_X9_heaviness hn tg x2  hw) dX9_beam_21 lkRX9_150 rfl (Nat.lt_of_lt_of_le (by decide) hn) kq59 (by decide) rfl ⟨Nat.le_of_ble_eq_true rfl, Nat.le_of_ble_eq_true rfl⟩ rfl (Nat.le_of_ble_eq_true rfl) rfl (fun r5 hw => ?_)
    refine ok_isub (pc := 24) a dX9_beam_24 ?_
    refine ok_goto (pc := 25) a 30 dX9_beam_25 (by decide) ?_
    exact ok_iret (pc := 30) a dX9_beam_30 ⟨_, rfl, rfl, hw⟩

def wp_X9_canSay (x1 : Int) (x2 : Int) (h : aH) (Q : Int → Prop) : Prop :=
  ∀ x3_5, x3_5 = (1 + (4 * x1)) → (0 ≤ x2 ∧ x2 < 2147483648) ∧ (0 ≤ x3_5 ∧ x3_5 < 23) ∧ inR (x2 / 1000) ∧ inR (h 66 x3_5) ∧ (((h 66 x3_5) < (x2 / 1000) → Q 0) ∧ (¬ (h 66 x3_5) < (x2 / 1000) → (0 ≤ (x2 / 100) ∧ (x2 / 100) < 2147483648) ∧ (0 ≤ (x3_5 + 1) ∧ (x3_5 + 1) < 23) ∧ inR ((x2 / 100) % 10) ∧ inR (h 66 (x3_5 + 1)) ∧ (((h 66 (x3_5 + 1)) < ((x2 / 100) % 10) → Q 0) ∧ (¬ (h 66 (x3_5 + 1)) < ((x2 / 100) % 10) → (0 ≤ (x2 / 10) ∧ (x2 / 10) < 2147483648) ∧ (0 ≤ (x3_5 + 2) ∧ (x3_5 + 2) < 23) ∧ inR ((x2 / 10) % 10) ∧ inR (h 66 (x3_5 + 2)) ∧ (((h 66 (x3_5 + 2)) < ((x2 / 10) % 10) → Q 0) ∧ (¬ (h 66 (x3_5 + 2)) < ((x2 / 10) % 10) → (0 ≤ (x3_5 + 3) ∧ (x3_5 + 3) < 23) ∧ (inR (x2 % 10) ∧ inR (h 66 (x3_5 + 3)) ∧ True) ∧ Q (if (h 66 (x3_5 + 3)) < (x2 % 10) then 0 else 1 : Int)))))))
set_option maxRecDepth 100000 in
set_option maxHeartbeats 4000000 in
theorem M_X9_canSay {Γ : Gm} {l : Launch} {n : Nat} {g : aG} (hn : 80 ≤ n) (tg : TM g) (x1 : Int) (x2 : Int)  {h : aH} {Q : Int → Prop} (hw : wp_X9_canSay x1 x2 h Q) : Cl Γ l mX9_canSay [vR 59, vI x1, vI x2] n g h (PZ g h Q) := by
  refine Cl.of (by decide) [some (vR 59), some (vI x1), some (vI x2), none] rfl (Nat.le_of_ble_eq_true rfl) ?_
  intro p e s m args below meth c a
  unfold wp_X9_canSay at hw
  refine ok_iconst (pc := 0) a dX9_canSay_0 ?_
  refine ok_iconst (pc := 1) a dX9_canSay_1 ?_
  refine ok_iload_n (pc := 2) a dX9_canSay_2 rfl rfl ?_
  refine ok_imul (pc := 3) a dX9_canSay_3 ?_
  refine ok_iadd (pc := 4) a dX9_canSay_4 ?_
  refine ok_nmI (fun x3_5 ex3_5 => ?_)
  have hw := hw x3_5 ex3_5
  refine ok_sI_n (pc := 5) a [some (vR 59), some (vI x1), some (vI x2), some (vI x3_5)] dX9_canSay_5 rfl (by decide) rfl rfl ?_
  refine ok_iload_n (pc := 6) a dX9_canSay_6 rfl rfl ?_
  refine ok_sipush (pc := 7) a dX9_canSay_7 (by decide) ?_
  obtain ⟨hc1, hw⟩ := hw
  refine ok_idiv (pc := 10) a dX9_canSay_10 ⟨hc1, by decide, by decide⟩ ?_
  refine ok_aload_n (pc := 11) a dX9_canSay_11 rfl rfl ?_
  refine ok_getR (pc := 12) a dX9_canSay_12 lfRX9_28 (Nat.lt_of_lt_of_le (by decide) hn) kq59 rfl (tg.at 59 14 66 (by decide) (by decide)) ?_
  refine ok_iload_n (pc := 15) a dX9_canSay_15 rfl rfl ?_
  obtain ⟨hc2, hw⟩ := hw
  refine ok_iald (pc := 16) a dX9_canSay_16 (Nat.lt_of_lt_of_le (by decide) hn) kq66 (by decide) hc2 ?_
  obtain ⟨hc3, hw⟩ := hw
  obtain ⟨hc4, hw⟩ := hw
  refine ok_icmp_gt (pc := 17) a 75 dX9_canSay_17 (by decide) hc3 hc4 (fun hd19 => ?_) (fun hd19 => ?_)
  · have hw := hw.1 hd19
    refine ok_iconst (pc := 75) a dX9_canSay_75 ?_
    exact ok_zret (pc := 76) a dX9_canSay_76 (Or.inl rfl) ⟨_, rfl, rfl, rfl, (Or.inl rfl), hw⟩
  · have hw := hw.2 hd19
    refine ok_iload_n (pc := 20) a dX9_canSay_20 rfl rfl ?_
    refine ok_bipush (pc := 21) a dX9_canSay_21 (by decide) ?_
    refine ok_idiv (pc := 23) a dX9_canSay_23 ⟨hc1, by decide, by decide⟩ ?_
    refine ok_bipush (pc := 24) a dX9_canSay_24 (by decide) ?_
    obtain ⟨hc5, hw⟩ := hw
    refine ok_irem (pc := 26) a dX9_canSay_26 ⟨hc5, by decide, by decide⟩ ?_
    refine ok_aload_n (pc := 27) a dX9_canSay_27 rfl rfl ?_
    refine ok_getR (pc := 28) a dX9_canSay_28 lfRX9_28 (Nat.lt_of_lt_of_le (by decide) hn) kq59 rfl (tg.at 59 14 66 (by decide) (by decide)) ?_
    refine ok_iload_n (pc := 31) a dX9_canSay_31 rfl rfl ?_
    refine ok_iconst (pc := 32) a dX9_canSay_32 ?_
    refine ok_iadd (pc := 33) a dX9_canSay_33 ?_
    obtain ⟨hc6, hw⟩ := hw
    refine ok_iald (pc := 34) a dX9_canSay_34 (Nat.lt_of_lt_of_le (by decide) hn) kq66 (by decide) hc6 ?_
    obtain ⟨hc7, hw⟩ := hw
    obtain ⟨hc8, hw⟩ := hw
    refine ok_icmp_gt (pc := 35) a 75 dX9_canSay_35 (by decide) hc7 hc8 (fun hd18 => ?_) (fun hd18 => ?_)
    · have hw := hw.1 hd18
      refine ok_iconst (pc := 75) a dX9_canSay_75 ?_
      exact ok_zret (pc := 76) a dX9_canSay_76 (Or.inl rfl) ⟨_, rfl, rfl, rfl, (Or.inl rfl), hw⟩
    · have hw := hw.2 hd18
      refine ok_iload_n (pc := 38) a dX9_canSay_38 rfl rfl ?_
      refine ok_bipush (pc := 39) a dX9_canSay_39 (by decide) ?_
      refine ok_idiv (pc := 41) a dX9_canSay_41 ⟨hc1, by decide, by decide⟩ ?_
      refine ok_bipush (pc := 42) a dX9_canSay_42 (by decide) ?_
      obtain ⟨hc9, hw⟩ := hw
      refine ok_irem (pc := 44) a dX9_canSay_44 ⟨hc9, by decide, by decide⟩ ?_
      refine ok_aload_n (pc := 45) a dX9_canSay_45 rfl rfl ?_
      refine ok_getR (pc := 46) a dX9_canSay_46 lfRX9_28 (Nat.lt_of_lt_of_le (by decide) hn) kq59 rfl (tg.at 59 14 66 (by decide) (by decide)) ?_
      refine ok_iload_n (pc := 49) a dX9_canSay_49 rfl rfl ?_
      refine ok_iconst (pc := 50) a dX9_canSay_50 ?_
      refine ok_iadd (pc := 51) a dX9_canSay_51 ?_
      obtain ⟨hc10, hw⟩ := hw
      refine ok_iald (pc := 52) a dX9_canSay_52 (Nat.lt_of_lt_of_le (by decide) hn) kq66 (by decide) hc10 ?_
      obtain ⟨hc11, hw⟩ := hw
      obtain ⟨hc12, hw⟩ := hw
      refine ok_icmp_gt (pc := 53) a 75 dX9_canSay_53 (by decide) hc11 hc12 (fun hd17 => ?_) (fun hd17 => ?_)
      · have hw := hw.1 hd17
        refine ok_iconst (pc := 75) a dX9_canSay_75 ?_
        exact ok_zret (pc := 76) a dX9_canSay_76 (Or.inl rfl) ⟨_, rfl, rfl, rfl, (Or.inl rfl), hw⟩
      · have hw := hw.2 hd17
        refine ok_iload_n (pc := 56) a dX9_canSay_56 rfl rfl ?_
        refine ok_bipush (pc := 57) a dX9_canSay_57 (by decide) ?_
        refine ok_irem (pc := 59) a dX9_canSay_59 ⟨hc1, by decide, by decide⟩ ?_
        refine ok_aload_n (pc := 60) a dX9_canSay_60 rfl rfl ?_
        refine ok_getR (pc := 61) a dX9_canSay_61 lfRX9_28 (Nat.lt_of_lt_of_le (by decide) hn) kq59 rfl (tg.at 59 14 66 (by decide) (by decide)) ?_
        refine ok_iload_n (pc := 64) a dX9_canSay_64 rfl rfl ?_
        refine ok_iconst (pc := 65) a dX9_canSay_65 ?_
        refine ok_iadd (pc := 66) a dX9_canSay_66 ?_
        obtain ⟨hc13, hw⟩ := hw
        refine ok_iald (pc := 67) a dX9_canSay_67 (Nat.lt_of_lt_of_le (by decide) hn) kq66 (by decide) hc13 ?_
        obtain ⟨hR, hw⟩ := hw
        have hK : OK Γ p l e (rmd 0 n n) s m args below meth c n (MQ below (QQ Γ n (PZ g h Q)) args s (n - n) (sl n - sl n) (AA Γ)) 76 [some (vR 59), some (vI x1), some (vI x2), some (vI x3_5)] [(vI (if (h 66 (x3_5 + 3)) < (x2 % 10) then 0 else 1 : Int))] n g h := by
          exact ok_zret (pc := 76) a dX9_canSay_76 (ite01 (Or.inl rfl) (Or.inr rfl)) ⟨_, rfl, rfl, rfl, (ite01 (Or.inl rfl) (Or.inr rfl)), hw⟩
        have hw := hR
        obtain ⟨hc14, hw⟩ := hw
        obtain ⟨hc15, hw⟩ := hw
        refine ok_icmp_gt (pc := 68) a 75 dX9_canSay_68 (by decide) hc14 hc15 (fun hd16 => ?_) (fun hd16 => ?_)
        · refine ok_iconst (pc := 75) a dX9_canSay_75 ?_
          simp only [if_pos hd16] at hK
          exact hK
        · refine ok_iconst (pc := 71) a dX9_canSay_71 ?_
          refine ok_goto (pc := 72) a 76 dX9_canSay_72 (by decide) ?_
          simp only [if_neg hd16] at hK
          exact hK

def wp_X9_weighsOf (x1 : Int) (h : aH) (Q : Int → Prop) : Prop :=
  (0 ≤ x1 ∧ x1 < 2147483648) ∧ (0 ≤ (x1 / 100) ∧ (x1 / 100) < 2147483648) ∧ (0 ≤ (x1 / 10) ∧ (x1 / 10) < 2147483648) ∧ Q (((((h 62 0) * (x1 / 1000)) + ((h 62 1) * ((x1 / 100) % 10))) + ((h 62 2) * ((x1 / 10) % 10))) + ((h 62 3) * (x1 % 10)))
set_option maxRecDepth 100000 in
set_option maxHeartbeats 4000000 in
theorem M_X9_weighsOf {Γ : Gm} {l : Launch} {n : Nat} {g : aG} (hn : 80 ≤ n) (tg : TM g) (x1 : Int)  {h : aH} {Q : Int → Prop} (hw : wp_X9_weighsOf x1 h Q) : Cl Γ l mX9_weighsOf [vR 59, vI x1] n g h (PI g h Q) := by
  refine Cl.of (by decide) [some (vR 59), some (vI x1)] rfl (Nat.le_of_ble_eq_true rfl) ?_
  intro p e s m args below meth c a
  unfold wp_X9_weighsOf at hw
  refine ok_aload_n (pc := 0) a dX9_weighsOf_0 rfl rfl ?_
  refine ok_getR (pc := 1) a dX9_weighsOf_1 lfRX9_16 (Nat.lt_of_lt_of_le (by decide) hn) kq59 rfl (tg.at 59 10 62 (by decide) (by decide)) ?_
  refine ok_iconst (pc := 4) a dX9_weighsOf_4 ?_
  refine ok_iald (pc := 5) a dX9_weighsOf_5 (Nat.lt_of_lt_of_le (by decide) hn) kq62 (by decide) ⟨by decide, by decide⟩ ?_
  refine ok_iload_n (pc := 6) a dX9_weighsOf_6 rfl rfl ?_
  refine ok_sipush (pc := 7) a dX9_weighsOf_7 (by decide) ?_
  obtain ⟨hc1, hw⟩ := hw
  refine ok_idiv (pc := 10) a dX9_weighsOf_10 ⟨hc1, by decide, by decide⟩ ?_
  refine ok_imul (pc := 11) a dX9_weighsOf_11 ?_
  refine ok_aload_n (pc := 12) a dX9_weighsOf_12 rfl rfl ?_
  refine ok_getR (pc := 13) a dX9_weighsOf_13 lfRX9_16 (Nat.lt_of_lt_of_le (by decide) hn) kq59 rfl (tg.at 59 10 62 (by decide) (by decide)) ?_
  refine ok_iconst (pc := 16) a dX9_weighsOf_16 ?_
  refine ok_iald (pc := 17) a dX9_weighsOf_17 (Nat.lt_of_lt_of_le (by decide) hn) kq62 (by decide) ⟨by decide, by decide⟩ ?_
  refine ok_iload_n (pc := 18) a dX9_weighsOf_18 rfl rfl ?_
  refine ok_bipush (pc := 19) a dX9_weighsOf_19 (by decide) ?_
  refine ok_idiv (pc := 21) a dX9_weighsOf_21 ⟨hc1, by decide, by decide⟩ ?_
  refine ok_bipush (pc := 22) a dX9_weighsOf_22 (by decide) ?_
  obtain ⟨hc2, hw⟩ := hw
  refine ok_irem (pc := 24) a dX9_weighsOf_24 ⟨hc2, by decide, by decide⟩ ?_
  refine ok_imul (pc := 25) a dX9_weighsOf_25 ?_
  refine ok_iadd (pc := 26) a dX9_weighsOf_26 ?_
  refine ok_aload_n (pc := 27) a dX9_weighsOf_27 rfl rfl ?_
  refine ok_getR (pc := 28) a dX9_weighsOf_28 lfRX9_16 (Nat.lt_of_lt_of_le (by decide) hn) kq59 rfl (tg.at 59 10 62 (by decide) (by decide)) ?_
  refine ok_iconst (pc := 31) a dX9_weighsOf_31 ?_
  refine ok_iald (pc := 32) a dX9_weighsOf_32 (Nat.lt_of_lt_of_le (by decide) hn) kq62 (by decide) ⟨by decide, by decide⟩ ?_
  refine ok_iload_n (pc := 33) a dX9_weighsOf_33 rfl rfl ?_
  refine ok_bipush (pc := 34) a dX9_weighsOf_34 (by decide) ?_
  refine ok_idiv (pc := 36) a dX9_weighsOf_36 ⟨hc1, by decide, by decide⟩ ?_
  refine ok_bipush (pc := 37) a dX9_weighsOf_37 (by decide) ?_
  obtain ⟨hc3, hw⟩ := hw
  refine ok_irem (pc := 39) a dX9_weighsOf_39 ⟨hc3, by decide, by decide⟩ ?_
  refine ok_imul (pc := 40) a dX9_weighsOf_40 ?_
  refine ok_iadd (pc := 41) a dX9_weighsOf_41 ?_
  refine ok_aload_n (pc := 42) a dX9_weighsOf_42 rfl rfl ?_
  refine ok_getR (pc := 43) a dX9_weighsOf_43 lfRX9_16 (Nat.lt_of_lt_of_le (by decide) hn) kq59 rfl (tg.at 59 10 62 (by decide) (by decide)) ?_
  refine ok_iconst (pc := 46) a dX9_weighsOf_46 ?_
  refine ok_iald (pc := 47) a dX9_weighsOf_47 (Nat.lt_of_lt_of_le (by decide) hn) kq62 (by decide) ⟨by decide, by decide⟩ ?_
  refine ok_iload_n (pc := 48) a dX9_weighsOf_48 rfl rfl ?_
  refine ok_bipush (pc := 49) a dX9_weighsOf_49 (by decide) ?_
  refine ok_irem (pc := 51) a dX9_weighsOf_51 ⟨hc1, by decide, by decide⟩ ?_
  refine ok_imul (pc := 52) a dX9_weighsOf_52 ?_
  refine ok_iadd (pc := 53) a dX9_weighsOf_53 ?_
  exact ok_iret (pc := 54) a dX9_weighsOf_54 ⟨_, rfl, rfl, rfl, hw⟩

def wp_X9_sheds_J131 (X34 : Int × aH → Prop) (x4_34 : Int) (h_131 : aH) : Prop :=
  X34 ((x4_34 + 1), h_131)
def wp_X9_sheds_B34 (x1 : Int) (x2 : Int) (Q : aH → Prop) (r2 : Int) (X34 : Int × aH → Prop) (x4_34 : Int) (h_34 : aH) : Prop :=
  inR x4_34 ∧ ((10000 ≤ x4_34 → Q h_34) ∧ (¬ 10000 ≤ x4_34 → wp_X9_canSay x2 x4_34 h_34 (fun r4 => ((r4 = 0 → wp_X9_sheds_J131 X34 x4_34 h_34) ∧ (¬ r4 = 0 → wp_X9_weighsOf x4_34 h_34 (fun r6 => ∀ x5_60, x5_60 = (r2 - r6) → (0 ≤ x4_34 ∧ x4_34 < 2147483648) ∧ (0 ≤ (x4_34 / 100) ∧ (x4_34 / 100) < 2147483648) ∧ (0 ≤ (x4_34 / 10) ∧ (x4_34 / 10) < 2147483648) ∧ ∀ x6_92, x6_92 = ((((x4_34 / 1000) + ((x4_34 / 100) % 10)) + ((x4_34 / 10) % 10)) + (x4_34 % 10)) → (0 ≤ (x1 + x5_60) ∧ (x1 + x5_60) < 1442) ∧ (inR x6_92 ∧ inR (h_34 78 (x1 + x5_60)) ∧ True) ∧ ∀ h14, h14 = up h_34 78 (x1 + x5_60) (if (h_34 78 (x1 + x5_60)) ≤ x6_92 then (h_34 78 (x1 + x5_60)) else x6_92 : Int) → wp_X9_sheds_J131 X34 x4_34 h14))))))
def wp_X9_sheds_B2 (x1 : Int) (x2 : Int) (Q : aH → Prop) (X2 : Int × aH → Prop) (x3_2 : Int) (h_2 : aH) : Prop :=
  inR x3_2 ∧ ((721 ≤ x3_2 → wp_X9_heaviness x2 h_2 (fun r2 => lp (fun X y => wp_X9_sheds_B34 x1 x2 Q r2 X y.1 y.2) (0, h_2))) ∧ (¬ 721 ≤ x3_2 → (0 ≤ (x1 + x3_2) ∧ (x1 + x3_2) < 1442) ∧ ∀ h18, h18 = up h_2 78 (x1 + x3_2) 1000000 → X2 ((x3_2 + 1), h18)))
def wp_X9_sheds (x1 : Int) (x2 : Int) (h : aH) (Q : aH → Prop) : Prop :=
  lp (fun X y => wp_X9_sheds_B2 x1 x2 Q X y.1 y.2) (0, h)
set_option maxRecDepth 100000 in
set_option maxHeartbeats 4000000 in
theorem M_X9_sheds {Γ : Gm} {l : Launch} {n : Nat} {g : aG} (hn : 80 ≤ n) (tg : TM g) (x1 : Int) (x2 : Int)  {h : aH} {Q : aH → Prop} (hw : wp_X9_sheds x1 x2 h Q) : Cl Γ l mX9_sheds [vR 59, vI x1, vI x2] n g h (RV g Q) := by
  refine Cl.of (by decide) [some (vR 59), some (vI x1), some (vI x2), none, none, none, none] rfl (Nat.le_of_ble_eq_true rfl) ?_
  intro p e s m args below meth c a
  unfold wp_X9_sheds at hw
  refine ok_iconst (pc := 0) a dX9_sheds_0 ?_
  refine ok_sI_n (pc := 1) a [some (vR 59), some (vI x1), some (vI x2), some (vI 0), none, none, none] dX9_sheds_1 rfl (by decide) rfl rfl ?_
  refine lp.use (P := fun y => OK Γ p l e (rmd 1 n n) s m args below meth c n (MQ below (QQ Γ n (RV g Q)) args s (n - n) (sl n - sl n) (AA Γ)) 2 [some (vR 59), some (vI x1), some (vI x2), some (vI y.1), none, none, none] [] n g y.2) ?_ (0, h) hw
  clear hw
  intro X2 hX2 y hw
  obtain ⟨x3_2, h_2⟩ := y
  have hw : wp_X9_sheds_B2 x1 x2 Q X2 x3_2 h_2 := hw
  unfold wp_X9_sheds_B2 at hw
  try dsimp only
  refine ok_iload_n (pc := 2) a dX9_sheds_2 rfl rfl ?_
  refine ok_sipush (pc := 3) a dX9_sheds_3 (by decide) ?_
  obtain ⟨hc1, hw⟩ := hw
  refine ok_icmp_ge (pc := 6) a 25 dX9_sheds_6 (by decide) hc1 ⟨by decide, by decide⟩ (fun hd19 => ?_) (fun hd19 => ?_)
  · have hw := hw.1 hd19
    refine ok_aload_n (pc := 25) a dX9_sheds_25 rfl rfl ?_
    refine ok_iload_n (pc := 26) a dX9_sheds_26 rfl rfl ?_
    refine ok_VPI (pc := 27) a [(vI x2)] [] (M_X9_heaviness hn tg x2  hw) dX9_sheds_27 lkRX9_150 rfl (Nat.lt_of_lt_of_le (by decide) hn) kq59 (by decide) rfl ⟨Nat.le_of_ble_eq_true rfl, Nat.le_of_ble_eq_true rfl⟩ rfl (Nat.le_of_ble_eq_true rfl) rfl (fun r2 hw => ?_)
    refine ok_sI_n (pc := 30) a [some (vR 59), some (vI x1), some (vI x2), some (vI r2), none, none, none] dX9_sheds_30 rfl (by decide) rfl rfl ?_
    refine ok_iconst (pc := 31) a dX9_sheds_31 ?_
    refine ok_sI (pc := 32) a [some (vR 59), some (vI x1), some (vI x2), some (vI r2), some (vI 0), none, none] dX9_sheds_32 (by decide) rfl rfl ?_
    refine lp.use (P := fun y => OK Γ p l e (rmd 1 n n) s m args below meth c n (MQ below (QQ Γ n (RV g Q)) args s (n - n) (sl n - sl n) (AA Γ)) 34 [some (vR 59), some (vI x1), some (vI x2), some (vI r2), some (vI y.1), none, none] [] n g y.2) ?_ (0, h_2) hw
    clear hw
    intro X34 hX34 y hw
    obtain ⟨x4_34, h_34⟩ := y
    have hw : wp_X9_sheds_B34 x1 x2 Q r2 X34 x4_34 h_34 := hw
    unfold wp_X9_sheds_B34 at hw
    try dsimp only
    refine ok_iload (pc := 34) a dX9_sheds_34 rfl ?_
    refine ok_sipush (pc := 36) a dX9_sheds_36 (by decide) ?_
    obtain ⟨hc3, hw⟩ := hw
    refine ok_icmp_ge (pc := 39) a 137 dX9_sheds_39 (by decide) hc3 ⟨by decide, by decide⟩ (fun hd16 => ?_) (fun hd16 => ?_)
    · have hw := hw.1 hd16
      exact ok_vret (pc := 137) a dX9_sheds_137 ⟨rfl, rfl, hw⟩
    · have hw := hw.2 hd16
      refine ok_aload_n (pc := 42) a dX9_sheds_42 rfl rfl ?_
      refine ok_iload_n (pc := 43) a dX9_sheds_43 rfl rfl ?_
      refine ok_iload (pc := 44) a dX9_sheds_44 rfl ?_
      refine ok_VPZ (pc := 46) a [(vI x2), (vI x4_34)] [] (M_X9_canSay hn tg x2 x4_34  hw) dX9_sheds_46 lkRX9_203 rfl (Nat.lt_of_lt_of_le (by decide) hn) kq59 (by decide) rfl ⟨Nat.le_of_ble_eq_true rfl, Nat.le_of_ble_eq_true rfl⟩ rfl (Nat.le_of_ble_eq_true rfl) rfl (fun r4 hz5 hw => ?_)
      have hJ131 : ∀ (h_131 : aH), wp_X9_sheds_J131 X34 x4_34 h_131 → OK Γ p l e (rmd 1 n n) s m args below meth c n (MQ below (QQ Γ n (RV g Q)) args s (n - n) (sl n - sl n) (AA Γ)) 131 [some (vR 59), some (vI x1), some (vI x2), some (vI r2), some (vI x4_34), none, none] [] n g h_131 := by
        intro h_131 hw
        unfold wp_X9_sheds_J131 at hw
        refine ok_inc (pc := 131) a [some (vR 59), some (vI x1), some (vI x2), some (vI r2), some (vI (x4_34 + 1)), none, none] dX9_sheds_131 rfl (by decide) rfl rfl ?_
        refine ok_goto (pc := 134) a 34 dX9_sheds_134 (by decide) ?_
        exact hX34 ((x4_34 + 1), h_131) hw
      refine ok_if_eq (pc := 49) a 131 dX9_sheds_49 (by decide) (inR_b hz5) (fun hd15 => ?_) (fun hd15 => ?_)
      · have hw := hw.1 hd15
        exact hJ131 h_34 hw
      · have hw := hw.2 hd15
        refine ok_iload_n (pc := 52) a dX9_sheds_52 rfl rfl ?_
        refine ok_aload_n (pc := 53) a dX9_sheds_53 rfl rfl ?_
        refine ok_iload (pc := 54) a dX9_sheds_54 rfl ?_
        refine ok_VPI (pc := 56) a [(vI x4_34)] [(vI r2)] (M_X9_weighsOf hn tg x4_34  hw) dX9_sheds_56 lkRX9_206 rfl (Nat.lt_of_lt_of_le (by decide) hn) kq59 (by decide) rfl ⟨Nat.le_of_ble_eq_true rfl, Nat.le_of_ble_eq_true rfl⟩ rfl (Nat.le_of_ble_eq_true rfl) rfl (fun r6 hw => ?_)
        refine ok_isub (pc := 59) a dX9_sheds_59 ?_
        refine ok_nmI (fun x5_60 ex5_60 => ?_)
        have hw := hw x5_60 ex5_60
        refine ok_sI (pc := 60) a [some (vR 59), some (vI x1), some (vI x2), some (vI r2), some (vI x4_34), some (vI x5_60), none] dX9_sheds_60 (by decide) rfl rfl ?_
        refine ok_iload (pc := 62) a dX9_sheds_62 rfl ?_
        refine ok_sipush (pc := 64) a dX9_sheds_64 (by decide) ?_
        obtain ⟨hc7, hw⟩ := hw
        refine ok_idiv (pc := 67) a dX9_sheds_67 ⟨hc7, by decide, by decide⟩ ?_
        refine ok_iload (pc := 68) a dX9_sheds_68 rfl ?_
        refine ok_bipush (pc := 70) a dX9_sheds_70 (by decide) ?_
        refine ok_idiv (pc := 72) a dX9_sheds_72 ⟨hc7, by decide, by decide⟩ ?_
        refine ok_bipush (pc := 73) a dX9_sheds_73 (by decide) ?_
        obtain ⟨hc8, hw⟩ := hw
        refine ok_irem (pc := 75) a dX9_sheds_75 ⟨hc8, by decide, by decide⟩ ?_
        refine ok_iadd (pc := 76) a dX9_sheds_76 ?_
        refine ok_iload (pc := 77) a dX9_sheds_77 rfl ?_
        refine ok_bipush (pc := 79) a dX9_sheds_79 (by decide) ?_
        refine ok_idiv (pc := 81) a dX9_sheds_81 ⟨hc7, by decide, by decide⟩ ?_
        refine ok_bipush (pc := 82) a dX9_sheds_82 (by decide) ?_
        obtain ⟨hc9, hw⟩ := hw
        refine ok_irem (pc := 84) a dX9_sheds_84 ⟨hc9, by decide, by decide⟩ ?_
        refine ok_iadd (pc := 85) a dX9_sheds_85 ?_
        refine ok_iload (pc := 86) a dX9_sheds_86 rfl ?_
        refine ok_bipush (pc := 88) a dX9_sheds_88 (by decide) ?_
        refine ok_irem (pc := 90) a dX9_sheds_90 ⟨hc7, by decide, by decide⟩ ?_
        refine ok_iadd (pc := 91) a dX9_sheds_91 ?_
        refine ok_nmI (fun x6_92 ex6_92 => ?_)
        have hw := hw x6_92 ex6_92
        refine ok_sI (pc := 92) a [some (vR 59), some (vI x1), some (vI x2), some (vI r2), some (vI x4_34), some (vI x5_60), some (vI x6_92)] dX9_sheds_92 (by decide) rfl rfl ?_
        refine ok_aload_n (pc := 94) a dX9_sheds_94 rfl rfl ?_
        refine ok_getR (pc := 95) a dX9_sheds_95 lfRX9_65 (Nat.lt_of_lt_of_le (by decide) hn) kq59 rfl (tg.at 59 30 78 (by decide) (by decide)) ?_
        refine ok_iload_n (pc := 98) a dX9_sheds_98 rfl rfl ?_
        refine ok_iload (pc := 99) a dX9_sheds_99 rfl ?_
        refine ok_iadd (pc := 101) a dX9_sheds_101 ?_
        refine ok_iload (pc := 102) a dX9_sheds_102 rfl ?_
        refine ok_aload_n (pc := 104) a dX9_sheds_104 rfl rfl ?_
        refine ok_getR (pc := 105) a dX9_sheds_105 lfRX9_65 (Nat.lt_of_lt_of_le (by decide) hn) kq59 rfl (tg.at 59 30 78 (by decide) (by decide)) ?_
        refine ok_iload_n (pc := 108) a dX9_sheds_108 rfl rfl ?_
        refine ok_iload (pc := 109) a dX9_sheds_109 rfl ?_
        refine ok_iadd (pc := 111) a dX9_sheds_111 ?_
        obtain ⟨hc10, hw⟩ := hw
        refine ok_iald (pc := 112) a dX9_sheds_112 (Nat.lt_of_lt_of_le (by decide) hn) kq78 (by decide) hc10 ?_
        obtain ⟨hR, hw⟩ := hw
        have hK : OK Γ p l e (rmd 1 n n) s m args below meth c n (MQ below (QQ Γ n (RV g Q)) args s (n - n) (sl n - sl n) (AA Γ)) 130 [some (vR 59), some (vI x1), some (vI x2), some (vI r2), some (vI x4_34), some (vI x5_60), some (vI x6_92)] [(vI (if (h_34 78 (x1 + x5_60)) ≤ x6_92 then (h_34 78 (x1 + x5_60)) else x6_92 : Int)), (vI (x1 + x5_60)), (vR 78)] n g h_34 := by
          refine ok_iast (pc := 130) a dX9_sheds_130 (Nat.lt_of_lt_of_le (by decide) hn) kq78 (by decide) hc10 (ok_nmH (fun h14 eh14 => ?_))
          have hw := hw h14 eh14
          refine ok_forget 5 ?_
          refine ok_forget 6 ?_
          exact hJ131 h14 hw
        have hw := hR
        obtain ⟨hc11, hw⟩ := hw
        obtain ⟨hc12, hw⟩ := hw
        refine ok_icmp_ge (pc := 113) a 121 dX9_sheds_113 (by decide) hc11 hc12 (fun hd13 => ?_) (fun hd13 => ?_)
        · refine ok_aload_n (pc := 121) a dX9_sheds_121 rfl rfl ?_
          refine ok_getR (pc := 122) a dX9_sheds_122 lfRX9_65 (Nat.lt_of_lt_of_le (by decide) hn) kq59 rfl (tg.at 59 30 78 (by decide) (by decide)) ?_
          refine ok_iload_n (pc := 125) a dX9_sheds_125 rfl rfl ?_
          refine ok_iload (pc := 126) a dX9_sheds_126 rfl ?_
          refine ok_iadd (pc := 128) a dX9_sheds_128 ?_
          refine ok_iald (pc := 129) a dX9_sheds_129 (Nat.lt_of_lt_of_le (by decide) hn) kq78 (by decide) hc10 ?_
          simp only [if_pos hd13] at hK
          exact hK
        · refine ok_iload (pc := 116) a dX9_sheds_116 rfl ?_
          refine ok_goto (pc := 118) a 130 dX9_sheds_118 (by decide) ?_
          simp only [if_neg hd13] at hK
          exact hK
  · have hw := hw.2 hd19
    refine ok_aload_n (pc := 9) a dX9_sheds_9 rfl rfl ?_
    refine ok_getR (pc := 10) a dX9_sheds_10 lfRX9_65 (Nat.lt_of_lt_of_le (by decide) hn) kq59 rfl (tg.at 59 30 78 (by decide) (by decide)) ?_
    refine ok_iload_n (pc := 13) a dX9_sheds_13 rfl rfl ?_
    refine ok_iload_n (pc := 14) a dX9_sheds_14 rfl rfl ?_
    refine ok_iadd (pc := 15) a dX9_sheds_15 ?_
    refine ok_ldc (pc := 16) (x := 1000000) a dX9_sheds_16 ctRX9_175 (by decide) ?_
    obtain ⟨hc17, hw⟩ := hw
    refine ok_iast (pc := 18) a dX9_sheds_18 (Nat.lt_of_lt_of_le (by decide) hn) kq78 (by decide) hc17 (ok_nmH (fun h18 eh18 => ?_))
    have hw := hw h18 eh18
    refine ok_inc (pc := 19) a [some (vR 59), some (vI x1), some (vI x2), some (vI (x3_2 + 1)), none, none, none] dX9_sheds_19 rfl (by decide) rfl rfl ?_
    refine ok_goto (pc := 22) a 2 dX9_sheds_22 (by decide) ?_
    exact hX2 ((x3_2 + 1), h18) hw

def wp_X9_wayOf_J67 (X10 : Int → Prop) (x5_10 : Int)  : Prop :=
  X10 (x5_10 + 1)
def wp_X9_wayOf_B10 (x1 : Int) (x2 : Int) (x3 : Int) (h : aH) (Q : Int → Prop) (r1 : Int) (X10 : Int → Prop) (x5_10 : Int) : Prop :=
  wp_X9_canSay x1 x5_10 h (fun r2 => ((r2 = 0 → wp_X9_wayOf_J67 X10 x5_10 ) ∧ (¬ r2 = 0 → wp_X9_weighsOf x5_10 h (fun r4 => inR (r1 - r4) ∧ inR x2 ∧ (((r1 - r4) = x2 → (0 ≤ x5_10 ∧ x5_10 < 2147483648) ∧ (0 ≤ (x5_10 / 100) ∧ (x5_10 / 100) < 2147483648) ∧ (0 ≤ (x5_10 / 10) ∧ (x5_10 / 10) < 2147483648) ∧ inR ((((x5_10 / 1000) + ((x5_10 / 100) % 10)) + ((x5_10 / 10) % 10)) + (x5_10 % 10)) ∧ inR x3 ∧ ((((((x5_10 / 1000) + ((x5_10 / 100) % 10)) + ((x5_10 / 10) % 10)) + (x5_10 % 10)) = x3 → Q x5_10) ∧ (¬ ((((x5_10 / 1000) + ((x5_10 / 100) % 10)) + ((x5_10 / 10) % 10)) + (x5_10 % 10)) = x3 → wp_X9_wayOf_J67 X10 x5_10 ))) ∧ (¬ (r1 - r4) = x2 → wp_X9_wayOf_J67 X10 x5_10 ))))))
def wp_X9_wayOf (x1 : Int) (x2 : Int) (x3 : Int) (h : aH) (Q : Int → Prop) : Prop :=
  wp_X9_heaviness x1 h (fun r1 => lp (fun X y => wp_X9_wayOf_B10 x1 x2 x3 h Q r1 X y) 0)
set_option maxRecDepth 100000 in
set_option maxHeartbeats 4000000 in
theorem M_X9_wayOf {Γ : Gm} {l : Launch} {n : Nat} {g : aG} (hn : 80 ≤ n) (tg : TM g) (x1 : Int) (x2 : Int) (x3 : Int)  {h : aH} {Q : Int → Prop} (hw : wp_X9_wayOf x1 x2 x3 h Q) : Cl Γ l mX9_wayOf [vR 59, vI x1, vI x2, vI x3] n g h (PI g h Q) := by
  refine Cl.of (by decide) [some (vR 59), some (vI x1), some (vI x2), some (vI x3), none, none] rfl (Nat.le_of_ble_eq_true rfl) ?_
  intro p e s m args below meth c a
  unfold wp_X9_wayOf at hw
  refine ok_aload_n (pc := 0) a dX9_wayOf_0 rfl rfl ?_
  refine ok_iload_n (pc := 1) a dX9_wayOf_1 rfl rfl ?_
  refine ok_VPI (pc := 2) a [(vI x1)] [] (M_X9_heaviness hn tg x1  hw) dX9_wayOf_2 lkRX9_150 rfl (Nat.lt_of_lt_of_le (by decide) hn) kq59 (by decide) rfl ⟨Nat.le_of_ble_eq_true rfl, Nat.le_of_ble_eq_true rfl⟩ rfl (Nat.le_of_ble_eq_true rfl) rfl (fun r1 hw => ?_)
  refine ok_sI (pc := 5) a [some (vR 59), some (vI x1), some (vI x2), some (vI x3), some (vI r1), none] dX9_wayOf_5 (by decide) rfl rfl ?_
  refine ok_iconst (pc := 7) a dX9_wayOf_7 ?_
  refine ok_sI (pc := 8) a [some (vR 59), some (vI x1), some (vI x2), some (vI x3), some (vI r1), some (vI 0)] dX9_wayOf_8 (by decide) rfl rfl ?_
  refine lp.use (P := fun y => OK Γ p l e (rmd 1 n n) s m args below meth c n (MQ below (QQ Γ n (PI g h Q)) args s (n - n) (sl n - sl n) (AA Γ)) 10 [some (vR 59), some (vI x1), some (vI x2), some (vI x3), some (vI r1), some (vI y)] [] n g h) ?_ 0 hw
  clear hw
  intro X10 hX10 y hw
  generalize y = x5_10 at hw ⊢
  have hw : wp_X9_wayOf_B10 x1 x2 x3 h Q r1 X10 x5_10 := hw
  unfold wp_X9_wayOf_B10 at hw
  try dsimp only
  refine ok_aload_n (pc := 10) a dX9_wayOf_10 rfl rfl ?_
  refine ok_iload_n (pc := 11) a dX9_wayOf_11 rfl rfl ?_
  refine ok_iload (pc := 12) a dX9_wayOf_12 rfl ?_
  refine ok_VPZ (pc := 14) a [(vI x1), (vI x5_10)] [] (M_X9_canSay hn tg x1 x5_10  hw) dX9_wayOf_14 lkRX9_203 rfl (Nat.lt_of_lt_of_le (by decide) hn) kq59 (by decide) rfl ⟨Nat.le_of_ble_eq_true rfl, Nat.le_of_ble_eq_true rfl⟩ rfl (Nat.le_of_ble_eq_true rfl) rfl (fun r2 hz3 hw => ?_)
  have hJ67 : wp_X9_wayOf_J67 X10 x5_10  → OK Γ p l e (rmd 1 n n) s m args below meth c n (MQ below (QQ Γ n (PI g h Q)) args s (n - n) (sl n - sl n) (AA Γ)) 67 [some (vR 59), some (vI x1), some (vI x2), some (vI x3), some (vI r1), some (vI x5_10)] [] n g h := by
    intro  hw
    unfold wp_X9_wayOf_J67 at hw
    refine ok_inc (pc := 67) a [some (vR 59), some (vI x1), some (vI x2), some (vI x3), some (vI r1), some (vI (x5_10 + 1))] dX9_wayOf_67 rfl (by decide) rfl rfl ?_
    refine ok_goto (pc := 70) a 10 dX9_wayOf_70 (by decide) ?_
    exact hX10 (x5_10 + 1) hw
  refine ok_if_eq (pc := 17) a 67 dX9_wayOf_17 (by decide) (inR_b hz3) (fun hd14 => ?_) (fun hd14 => ?_)
  · have hw := hw.1 hd14
    exact hJ67  hw
  · have hw := hw.2 hd14
    refine ok_iload (pc := 20) a dX9_wayOf_20 rfl ?_
    refine ok_aload_n (pc := 22) a dX9_wayOf_22 rfl rfl ?_
    refine ok_iload (pc := 23) a dX9_wayOf_23 rfl ?_
    refine ok_VPI (pc := 25) a [(vI x5_10)] [(vI r1)] (M_X9_weighsOf hn tg x5_10  hw) dX9_wayOf_25 lkRX9_206 rfl (Nat.lt_of_lt_of_le (by decide) hn) kq59 (by decide) rfl ⟨Nat.le_of_ble_eq_true rfl, Nat.le_of_ble_eq_true rfl⟩ rfl (Nat.le_of_ble_eq_true rfl) rfl (fun r4 hw => ?_)
    refine ok_isub (pc := 28) a dX9_wayOf_28 ?_
    refine ok_iload_n (pc := 29) a dX9_wayOf_29 rfl rfl ?_
    obtain ⟨hc5, hw⟩ := hw
    obtain ⟨hc6, hw⟩ := hw
    refine ok_icmp_ne (pc := 30) a 67 dX9_wayOf_30 (by decide) hc5 hc6 (fun hd13 => ?_) (fun hd13 => ?_)
    · have hw := hw.2 hd13
      exact hJ67  hw
    · have hw := hw.1 hd13
      refine ok_iload (pc := 33) a dX9_wayOf_33 rfl ?_
      refine ok_sipush (pc := 35) a dX9_wayOf_35 (by decide) ?_
      obtain ⟨hc7, hw⟩ := hw
      refine ok_idiv (pc := 38) a dX9_wayOf_38 ⟨hc7, by decide, by decide⟩ ?_
      refine ok_iload (pc := 39) a dX9_wayOf_39 rfl ?_
      refine ok_bipush (pc := 41) a dX9_wayOf_41 (by decide) ?_
      refine ok_idiv (pc := 43) a dX9_wayOf_43 ⟨hc7, by decide, by decide⟩ ?_
      refine ok_bipush (pc := 44) a dX9_wayOf_44 (by decide) ?_
      obtain ⟨hc8, hw⟩ := hw
      refine ok_irem (pc := 46) a dX9_wayOf_46 ⟨hc8, by decide, by decide⟩ ?_
      refine ok_iadd (pc := 47) a dX9_wayOf_47 ?_
      refine ok_iload (pc := 48) a dX9_wayOf_48 rfl ?_
      refine ok_bipush (pc := 50) a dX9_wayOf_50 (by decide) ?_
      refine ok_idiv (pc := 52) a dX9_wayOf_52 ⟨hc7, by decide, by decide⟩ ?_
      refine ok_bipush (pc := 53) a dX9_wayOf_53 (by decide) ?_
      obtain ⟨hc9, hw⟩ := hw
      refine ok_irem (pc := 55) a dX9_wayOf_55 ⟨hc9, by decide, by decide⟩ ?_
      refine ok_iadd (pc := 56) a dX9_wayOf_56 ?_
      refine ok_iload (pc := 57) a dX9_wayOf_57 rfl ?_
      refine ok_bipush (pc := 59) a dX9_wayOf_59 (by decide) ?_
      refine ok_irem (pc := 61) a dX9_wayOf_61 ⟨hc7, by decide, by decide⟩ ?_
      refine ok_iadd (pc := 62) a dX9_wayOf_62 ?_
      refine ok_iload_n (pc := 63) a dX9_wayOf_63 rfl rfl ?_
      obtain ⟨hc10, hw⟩ := hw
      obtain ⟨hc11, hw⟩ := hw
      refine ok_icmp_eq (pc := 64) a 73 dX9_wayOf_64 (by decide) hc10 hc11 (fun hd12 => ?_) (fun hd12 => ?_)
      · have hw := hw.1 hd12
        refine ok_iload (pc := 73) a dX9_wayOf_73 rfl ?_
        exact ok_iret (pc := 75) a dX9_wayOf_75 ⟨_, rfl, rfl, rfl, hw⟩
      · have hw := hw.2 hd12
        exact hJ67  hw
