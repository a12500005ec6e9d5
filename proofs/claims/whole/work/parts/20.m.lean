def wp_X9_isAsShown_B5 (x1 : Int) (x2 : Int) (h : aH) (Q : Int → Prop) (X5 : Int × Int → Prop) (x3_5 : Int) (x4_5 : Int) : Prop :=
  inR x4_5 ∧ inR (h 59 22) ∧ (((h 59 22) ≤ x4_5 → (x3_5 = 0 ∨ x3_5 = 1) ∧ Q x3_5) ∧ (¬ (h 59 22) ≤ x4_5 → (0 ≤ x4_5 ∧ x4_5 < 6) ∧ ∀ x5_23, x5_23 = (x2 - (h 71 x4_5)) → (inR x3_5 ∧ ((x3_5 = 0 → True) ∧ (¬ x3_5 = 0 → inR (h 70 x4_5) ∧ inR x1 ∧ (((h 70 x4_5) = x1 → inR x5_23 ∧ ((x5_23 ≤ 0 → ((0 ≤ x5_23 → inR (h 72 x4_5) ∧ True) ∧ (¬ 0 ≤ x5_23 → inR (h 72 x4_5) ∧ True))) ∧ (¬ x5_23 ≤ 0 → inR (h 72 x4_5) ∧ True))) ∧ (¬ (h 70 x4_5) = x1 → True))))) ∧ ∀ x3_74, x3_74 = (if x3_5 = 0 then 0 else (if (h 70 x4_5) = x1 then (if x5_23 ≤ 0 then (if 0 ≤ x5_23 then (if (h 72 x4_5) = 0 then 1 else 0 : Int) else (if (h 72 x4_5) = 2 then 1 else 0 : Int) : Int) else (if (h 72 x4_5) = 1 then 1 else 0 : Int) : Int) else 1 : Int) : Int) → X5 (x3_74, (x4_5 + 1))))
def wp_X9_isAsShown (x1 : Int) (x2 : Int) (h : aH) (Q : Int → Prop) : Prop :=
  lp (fun X y => wp_X9_isAsShown_B5 x1 x2 h Q X y.1 y.2) (1, 0)
set_option maxRecDepth 100000 in
set_option maxHeartbeats 4000000 in
theorem M_X9_isAsShown {Γ : Gm} {l : Launch} {n : Nat} {g : aG} (hn : 80 ≤ n) (tg : TM g) (x1 : Int) (x2 : Int)  {h : aH} {Q : Int → Prop} (hw : wp_X9_isAsShown x1 x2 h Q) : Cl Γ l mX9_isAsShown [vR 59, vI x1, vI x2] n g h (PZ g h Q) := by
  refine Cl.of (by decide) [some (vR 59), some (vI x1), some (vI x2), none, none, none] rfl (Nat.le_of_ble_eq_true rfl) ?_
  intro p e s m args below meth c a
  unfold wp_X9_isAsShown at hw
  refine ok_iconst (pc := 0) a dX9_isAsShown_0 ?_
  refine ok_sI_n (pc := 1) a [some (vR 59), some (vI x1), some (vI x2), some (vI 1), none, none] dX9_isAsShown_1 rfl (by decide) rfl rfl ?_
  refine ok_iconst (pc := 2) a dX9_isAsShown_2 ?_
  refine ok_sI (pc := 3) a [some (vR 59), some (vI x1), some (vI x2), some (vI 1), some (vI 0), none] dX9_isAsShown_3 (by decide) rfl rfl ?_
  refine lp.use (P := fun y => OK Γ p l e (rmd 0 n n) s m args below meth c n (MQ below (QQ Γ n (PZ g h Q)) args s (n - n) (sl n - sl n) (AA Γ)) 5 [some (vR 59), some (vI x1), some (vI x2), some (vI y.1), some (vI y.2), none] [] n g h) ?_ (1, 0) hw
  clear hw
  intro X5 hX5 y hw
  obtain ⟨x3_5, x4_5⟩ := y
  have hw : wp_X9_isAsShown_B5 x1 x2 h Q X5 x3_5 x4_5 := hw
  unfold wp_X9_isAsShown_B5 at hw
  try dsimp only
  refine ok_iload (pc := 5) a dX9_isAsShown_5 rfl ?_
  refine ok_aload_n (pc := 7) a dX9_isAsShown_7 rfl rfl ?_
  refine ok_fI (pc := 8) 22 a dX9_isAsShown_8 lfRX9_129 (Nat.lt_of_lt_of_le (by decide) hn) kq59 ty_9_22 rfl ?_
  obtain ⟨hc1, hw⟩ := hw
  obtain ⟨hc2, hw⟩ := hw
  refine ok_icmp_ge (pc := 11) a 81 dX9_isAsShown_11 (by decide) hc1 hc2 (fun hd19 => ?_) (fun hd19 => ?_)
  · have hw := hw.1 hd19
    refine ok_iload_n (pc := 81) a dX9_isAsShown_81 rfl rfl ?_
    obtain ⟨hc3, hw⟩ := hw
    exact ok_zret (pc := 82) a dX9_isAsShown_82 hc3 ⟨_, rfl, rfl, rfl, hc3, hw⟩
  · have hw := hw.2 hd19
    refine ok_iload_n (pc := 14) a dX9_isAsShown_14 rfl rfl ?_
    refine ok_aload_n (pc := 15) a dX9_isAsShown_15 rfl rfl ?_
    refine ok_getR (pc := 16) a dX9_isAsShown_16 lfRX9_44 (Nat.lt_of_lt_of_le (by decide) hn) kq59 rfl (tg.at 59 20 71 (by decide) (by decide)) ?_
    refine ok_iload (pc := 19) a dX9_isAsShown_19 rfl ?_
    obtain ⟨hc4, hw⟩ := hw
    refine ok_iald (pc := 21) a dX9_isAsShown_21 (Nat.lt_of_lt_of_le (by decide) hn) kq71 (by decide) hc4 ?_
    refine ok_isub (pc := 22) a dX9_isAsShown_22 ?_
    refine ok_nmI (fun x5_23 ex5_23 => ?_)
    have hw := hw x5_23 ex5_23
    refine ok_sI (pc := 23) a [some (vR 59), some (vI x1), some (vI x2), some (vI x3_5), some (vI x4_5), some (vI x5_23)] dX9_isAsShown_23 (by decide) rfl rfl ?_
    refine ok_iload_n (pc := 25) a dX9_isAsShown_25 rfl rfl ?_
    obtain ⟨hR, hw⟩ := hw
    have hK : OK Γ p l e (rmd 0 n n) s m args below meth c n (MQ below (QQ Γ n (PZ g h Q)) args s (n - n) (sl n - sl n) (AA Γ)) 74 [some (vR 59), some (vI x1), some (vI x2), some (vI x3_5), some (vI x4_5), some (vI x5_23)] [(vI (if x3_5 = 0 then 0 else (if (h 70 x4_5) = x1 then (if x5_23 ≤ 0 then (if 0 ≤ x5_23 then (if (h 72 x4_5) = 0 then 1 else 0 : Int) else (if (h 72 x4_5) = 2 then 1 else 0 : Int) : Int) else (if (h 72 x4_5) = 1 then 1 else 0 : Int) : Int) else 1 : Int) : Int))] n g h := by
      refine ok_nmI (fun x3_74 ex3_74 => ?_)
      have hw := hw x3_74 ex3_74
      refine ok_sI_n (pc := 74) a [some (vR 59), some (vI x1), some (vI x2), some (vI x3_74), some (vI x4_5), some (vI x5_23)] dX9_isAsShown_74 rfl (by decide) rfl rfl ?_
      refine ok_inc (pc := 75) a [some (vR 59), some (vI x1), some (vI x2), some (vI x3_74), some (vI (x4_5 + 1)), some (vI x5_23)] dX9_isAsShown_75 rfl (by decide) rfl rfl ?_
      refine ok_goto (pc := 78) a 5 dX9_isAsShown_78 (by decide) ?_
      refine ok_forget 5 ?_
      exact hX5 (x3_74, (x4_5 + 1)) hw
    have hw := hR
    obtain ⟨hc5, hw⟩ := hw
    refine ok_if_eq (pc := 26) a 73 dX9_isAsShown_26 (by decide) hc5 (fun hd6 => ?_) (fun hd6 => ?_)
    · refine ok_iconst (pc := 73) a dX9_isAsShown_73 ?_
      simp only [if_pos hd6] at hK
      exact hK
    · have hw := hw.2 hd6
      refine ok_aload_n (pc := 29) a dX9_isAsShown_29 rfl rfl ?_
      refine ok_getR (pc := 30) a dX9_isAsShown_30 lfRX9_41 (Nat.lt_of_lt_of_le (by decide) hn) kq59 rfl (tg.at 59 19 70 (by decide) (by decide)) ?_
      refine ok_iload (pc := 33) a dX9_isAsShown_33 rfl ?_
      refine ok_iald (pc := 35) a dX9_isAsShown_35 (Nat.lt_of_lt_of_le (by decide) hn) kq70 (by decide) hc4 ?_
      refine ok_iload_n (pc := 36) a dX9_isAsShown_36 rfl rfl ?_
      obtain ⟨hc7, hw⟩ := hw
      obtain ⟨hc8, hw⟩ := hw
      refine ok_icmp_ne (pc := 37) a 69 dX9_isAsShown_37 (by decide) hc7 hc8 (fun hd9 => ?_) (fun hd9 => ?_)
      · refine ok_iconst (pc := 69) a dX9_isAsShown_69 ?_
        refine ok_goto (pc := 70) a 74 dX9_isAsShown_70 (by decide) ?_
        simp only [if_neg hd6, if_neg hd9] at hK
        exact hK
      · have hw := hw.1 hd9
        refine ok_aload_n (pc := 40) a dX9_isAsShown_40 rfl rfl ?_
        refine ok_getR (pc := 41) a dX9_isAsShown_41 lfRX9_47 (Nat.lt_of_lt_of_le (by decide) hn) kq59 rfl (tg.at 59 21 72 (by decide) (by decide)) ?_
        refine ok_iload (pc := 44) a dX9_isAsShown_44 rfl ?_
        refine ok_iald (pc := 46) a dX9_isAsShown_46 (Nat.lt_of_lt_of_le (by decide) hn) kq72 (by decide) hc4 ?_
        refine ok_iload (pc := 47) a dX9_isAsShown_47 rfl ?_
        obtain ⟨hc10, hw⟩ := hw
        refine ok_if_le (pc := 49) a 56 dX9_isAsShown_49 (by decide) hc10 (fun hd11 => ?_) (fun hd11 => ?_)
        · have hw := hw.1 hd11
          refine ok_iload (pc := 56) a dX9_isAsShown_56 rfl ?_
          refine ok_if_ge (pc := 58) a 65 dX9_isAsShown_58 (by decide) hc10 (fun hd12 => ?_) (fun hd12 => ?_)
          · have hw := hw.1 hd12
            refine ok_iconst (pc := 65) a dX9_isAsShown_65 ?_
            obtain ⟨hc13, hw⟩ := hw
            refine ok_icmp_ne (pc := 66) a 73 dX9_isAsShown_66 (by decide) hc13 ⟨by decide, by decide⟩ (fun hd14 => ?_) (fun hd14 => ?_)
            · refine ok_iconst (pc := 73) a dX9_isAsShown_73 ?_
              simp only [if_neg hd6, if_pos hd9, if_pos hd11, if_pos hd12, if_neg hd14] at hK
              exact hK
            · refine ok_iconst (pc := 69) a dX9_isAsShown_69 ?_
              refine ok_goto (pc := 70) a 74 dX9_isAsShown_70 (by decide) ?_
              simp only [if_neg hd6, if_pos hd9, if_pos hd11, if_pos hd12, if_pos hd14] at hK
              exact hK
          · have hw := hw.2 hd12
            refine ok_iconst (pc := 61) a dX9_isAsShown_61 ?_
            refine ok_goto (pc := 62) a 66 dX9_isAsShown_62 (by decide) ?_
            obtain ⟨hc15, hw⟩ := hw
            refine ok_icmp_ne (pc := 66) a 73 dX9_isAsShown_66 (by decide) hc15 ⟨by decide, by decide⟩ (fun hd16 => ?_) (fun hd16 => ?_)
            · refine ok_iconst (pc := 73) a dX9_isAsShown_73 ?_
              simp only [if_neg hd6, if_pos hd9, if_pos hd11, if_neg hd12, if_neg hd16] at hK
              exact hK
            · refine ok_iconst (pc := 69) a dX9_isAsShown_69 ?_
              refine ok_goto (pc := 70) a 74 dX9_isAsShown_70 (by decide) ?_
              simp only [if_neg hd6, if_pos hd9, if_pos hd11, if_neg hd12, if_pos hd16] at hK
              exact hK
        · have hw := hw.2 hd11
          refine ok_iconst (pc := 52) a dX9_isAsShown_52 ?_
          refine ok_goto (pc := 53) a 66 dX9_isAsShown_53 (by decide) ?_
          obtain ⟨hc17, hw⟩ := hw
          refine ok_icmp_ne (pc := 66) a 73 dX9_isAsShown_66 (by decide) hc17 ⟨by decide, by decide⟩ (fun hd18 => ?_) (fun hd18 => ?_)
          · refine ok_iconst (pc := 73) a dX9_isAsShown_73 ?_
            simp only [if_neg hd6, if_pos hd9, if_neg hd11, if_neg hd18] at hK
            exact hK
          · refine ok_iconst (pc := 69) a dX9_isAsShown_69 ?_
            refine ok_goto (pc := 70) a 74 dX9_isAsShown_70 (by decide) ?_
            simp only [if_neg hd6, if_pos hd9, if_neg hd11, if_pos hd18] at hK
            exact hK

def wp_X9_can_B37 (x1 : Int) (x2 : Int) (Q : Int → aH → Prop) (h1 : aH) (X37 : Int × Int × Int × Int → Prop) (x3_37 : Int) (x4_37 : Int) (x5_37 : Int) (x6_37 : Int) : Prop :=
  inR x6_37 ∧ ((10000 ≤ x6_37 → (inR x2 ∧ True) ∧ Q (if x2 = 0 then x3_37 else (if x2 = 1 then x4_37 else x5_37 : Int) : Int) h1) ∧ (¬ 10000 ≤ x6_37 → wp_X9_weighsOf x6_37 h1 (fun r10 => wp_X9_isAsShown x1 r10 h1 (fun r11 => (((r11 = 0 → True) ∧ (¬ r11 = 0 → inR x3_37 ∧ ((x3_37 = 0 → inR r10 ∧ inR x5_37 ∧ True) ∧ (¬ x3_37 = 0 → inR r10 ∧ inR x4_37 ∧ ((x4_37 ≤ r10 → inR x5_37 ∧ True) ∧ (¬ x4_37 ≤ r10 → inR x5_37 ∧ True))))))) ∧ X37 ((if r11 = 0 then x3_37 else (x3_37 + 1) : Int), (if r11 = 0 then x4_37 else (if x3_37 = 0 then r10 else (if x4_37 ≤ r10 then x4_37 else r10 : Int) : Int) : Int), (if r11 = 0 then x5_37 else (if r10 ≤ x5_37 then x5_37 else r10 : Int) : Int), (x6_37 + 1))))))
def wp_X9_can (x1 : Int) (x2 : Int) (h : aH) (Q : Int → aH → Prop) : Prop :=
  ∀ h1, h1 = up h 59 0 0 → wp_X9_isPerson x1 h1 (fun r2 => ((r2 = 0 → Q (-1) h1) ∧ (¬ r2 = 0 → wp_X9_in x2 0 2 h1 (fun r4 => ((r4 = 0 → Q (-1) h1) ∧ (¬ r4 = 0 → lp (fun X y => wp_X9_can_B37 x1 x2 Q h1 X y.1 y.2.1 y.2.2.1 y.2.2.2) (0, (-9), (-9), 0)))))))
set_option maxRecDepth 100000 in
set_option maxHeartbeats 4000000 in
theorem M_X9_can {Γ : Gm} {l : Launch} {n : Nat} {g : aG} (hn : 80 ≤ n) (tg : TM g) (x1 : Int) (x2 : Int)  {h : aH} {Q : Int → aH → Prop} (hw : wp_X9_can x1 x2 h Q) : Cl Γ l mX9_can [vR 59, vI x1, vI x2] n g h (RI g Q) := by
  refine Cl.of (by decide) [some (vR 59), some (vI x1), some (vI x2), none, none, none, none, none] rfl (Nat.le_of_ble_eq_true rfl) ?_
  intro p e s m args below meth c a
  unfold wp_X9_can at hw
  refine ok_aload_n (pc := 0) a dX9_can_0 rfl rfl ?_
  refine ok_iconst (pc := 1) a dX9_can_1 ?_
  refine ok_pI (pc := 2) 0 a dX9_can_2 lfRX9_77 fi_9_0 (Nat.lt_of_lt_of_le (by decide) hn) kq59 ty_9_0 rfl (fun h1 eh1 => ?_)
  have hw := hw h1 eh1
  refine ok_aload_n (pc := 5) a dX9_can_5 rfl rfl ?_
  refine ok_iload_n (pc := 6) a dX9_can_6 rfl rfl ?_
  refine ok_VPZ (pc := 7) a [(vI x1)] [] (M_X9_isPerson hn tg x1  hw) dX9_can_7 lkRX9_143 rfl (Nat.lt_of_lt_of_le (by decide) hn) kq59 (by decide) rfl ⟨Nat.le_of_ble_eq_true rfl, Nat.le_of_ble_eq_true rfl⟩ rfl (Nat.le_of_ble_eq_true rfl) rfl (fun r2 hz3 hw => ?_)
  refine ok_if_eq (pc := 10) a 22 dX9_can_10 (by decide) (inR_b hz3) (fun hd28 => ?_) (fun hd28 => ?_)
  · have hw := hw.1 hd28
    refine ok_iconst (pc := 22) a dX9_can_22 ?_
    exact ok_iret (pc := 23) a dX9_can_23 ⟨_, rfl, rfl, hw⟩
  · have hw := hw.2 hd28
    refine ok_iload_n (pc := 13) a dX9_can_13 rfl rfl ?_
    refine ok_iconst (pc := 14) a dX9_can_14 ?_
    refine ok_iconst (pc := 15) a dX9_can_15 ?_
    refine ok_SPZ (pc := 16) a [(vI x2), (vI 0), (vI 2)] [] (M_X9_in hn tg x2 0 2  hw) dX9_can_16 lkRX9_81 rfl ⟨Nat.le_of_ble_eq_true rfl, Nat.le_of_ble_eq_true rfl⟩ rfl (Nat.le_of_ble_eq_true rfl) rfl (fun r4 hz5 hw => ?_)
    refine ok_if_ne (pc := 19) a 24 dX9_can_19 (by decide) (inR_b hz5) (fun hd27 => ?_) (fun hd27 => ?_)
    · have hw := hw.2 hd27
      refine ok_iconst (pc := 24) a dX9_can_24 ?_
      refine ok_sI_n (pc := 25) a [some (vR 59), some (vI x1), some (vI x2), some (vI 0), none, none, none, none] dX9_can_25 rfl (by decide) rfl rfl ?_
      refine ok_bipush (pc := 26) a dX9_can_26 (by decide) ?_
      refine ok_sI (pc := 28) a [some (vR 59), some (vI x1), some (vI x2), some (vI 0), some (vI (-9)), none, none, none] dX9_can_28 (by decide) rfl rfl ?_
      refine ok_bipush (pc := 30) a dX9_can_30 (by decide) ?_
      refine ok_sI (pc := 32) a [some (vR 59), some (vI x1), some (vI x2), some (vI 0), some (vI (-9)), some (vI (-9)), none, none] dX9_can_32 (by decide) rfl rfl ?_
      refine ok_iconst (pc := 34) a dX9_can_34 ?_
      refine ok_sI (pc := 35) a [some (vR 59), some (vI x1), some (vI x2), some (vI 0), some (vI (-9)), some (vI (-9)), some (vI 0), none] dX9_can_35 (by decide) rfl rfl ?_
      refine lp.use (P := fun y => OK Γ p l e (rmd 2 n n) s m args below meth c n (MQ below (QQ Γ n (RI g Q)) args s (n - n) (sl n - sl n) (AA Γ)) 37 [some (vR 59), some (vI x1), some (vI x2), some (vI y.1), some (vI y.2.1), some (vI y.2.2.1), some (vI y.2.2.2), none] [] n g h1) ?_ (0, (-9), (-9), 0) hw
      clear hw
      intro X37 hX37 y hw
      obtain ⟨x3_37, x4_37, x5_37, x6_37⟩ := y
      have hw : wp_X9_can_B37 x1 x2 Q h1 X37 x3_37 x4_37 x5_37 x6_37 := hw
      unfold wp_X9_can_B37 at hw
      try dsimp only
      refine ok_iload (pc := 37) a dX9_can_37 rfl ?_
      refine ok_sipush (pc := 39) a dX9_can_39 (by decide) ?_
      obtain ⟨hc6, hw⟩ := hw
      refine ok_icmp_ge (pc := 42) a 108 dX9_can_42 (by decide) hc6 ⟨by decide, by decide⟩ (fun hd26 => ?_) (fun hd26 => ?_)
      · have hw := hw.1 hd26
        refine ok_iload_n (pc := 108) a dX9_can_108 rfl rfl ?_
        obtain ⟨hR, hw⟩ := hw
        have hK : OK Γ p l e (rmd 2 n n) s m args below meth c n (MQ below (QQ Γ n (RI g Q)) args s (n - n) (sl n - sl n) (AA Γ)) 128 [some (vR 59), some (vI x1), some (vI x2), some (vI x3_37), some (vI x4_37), some (vI x5_37), some (vI x6_37), none] [(vI (if x2 = 0 then x3_37 else (if x2 = 1 then x4_37 else x5_37 : Int) : Int))] n g h1 := by
          exact ok_iret (pc := 128) a dX9_can_128 ⟨_, rfl, rfl, hw⟩
        have hw := hR
        obtain ⟨hc7, hw⟩ := hw
        refine ok_if_ne (pc := 109) a 116 dX9_can_109 (by decide) hc7 (fun hd8 => ?_) (fun hd8 => ?_)
        · refine ok_iload_n (pc := 116) a dX9_can_116 rfl rfl ?_
          refine ok_iconst (pc := 117) a dX9_can_117 ?_
          refine ok_icmp_ne (pc := 118) a 126 dX9_can_118 (by decide) hc7 ⟨by decide, by decide⟩ (fun hd9 => ?_) (fun hd9 => ?_)
          · refine ok_iload (pc := 126) a dX9_can_126 rfl ?_
            simp only [if_neg hd8, if_neg hd9] at hK
            exact hK
          · refine ok_iload (pc := 121) a dX9_can_121 rfl ?_
            refine ok_goto (pc := 123) a 128 dX9_can_123 (by decide) ?_
            simp only [if_neg hd8, if_pos hd9] at hK
            exact hK
        · refine ok_iload_n (pc := 112) a dX9_can_112 rfl rfl ?_
          refine ok_goto (pc := 113) a 128 dX9_can_113 (by decide) ?_
          simp only [if_pos hd8] at hK
          exact hK
      · have hw := hw.2 hd26
        refine ok_aload_n (pc := 45) a dX9_can_45 rfl rfl ?_
        refine ok_iload (pc := 46) a dX9_can_46 rfl ?_
        refine ok_VPI (pc := 48) a [(vI x6_37)] [] (M_X9_weighsOf hn tg x6_37  hw) dX9_can_48 lkRX9_206 rfl (Nat.lt_of_lt_of_le (by decide) hn) kq59 (by decide) rfl ⟨Nat.le_of_ble_eq_true rfl, Nat.le_of_ble_eq_true rfl⟩ rfl (Nat.le_of_ble_eq_true rfl) rfl (fun r10 hw => ?_)
        refine ok_sI (pc := 51) a [some (vR 59), some (vI x1), some (vI x2), some (vI x3_37), some (vI x4_37), some (vI x5_37), some (vI x6_37), some (vI r10)] dX9_can_51 (by decide) rfl rfl ?_
        refine ok_aload_n (pc := 53) a dX9_can_53 rfl rfl ?_
        refine ok_iload_n (pc := 54) a dX9_can_54 rfl rfl ?_
        refine ok_iload (pc := 55) a dX9_can_55 rfl ?_
        refine ok_VPZ (pc := 57) a [(vI x1), (vI r10)] [] (M_X9_isAsShown hn tg x1 r10  hw) dX9_can_57 lkRX9_237 rfl (Nat.lt_of_lt_of_le (by decide) hn) kq59 (by decide) rfl ⟨Nat.le_of_ble_eq_true rfl, Nat.le_of_ble_eq_true rfl⟩ rfl (Nat.le_of_ble_eq_true rfl) rfl (fun r11 hz12 hw => ?_)
        obtain ⟨hR, hw⟩ := hw
        have hK : OK Γ p l e (rmd 2 n n) s m args below meth c n (MQ below (QQ Γ n (RI g Q)) args s (n - n) (sl n - sl n) (AA Γ)) 102 [some (vR 59), some (vI x1), some (vI x2), some (vI (if r11 = 0 then x3_37 else (x3_37 + 1) : Int)), some (vI (if r11 = 0 then x4_37 else (if x3_37 = 0 then r10 else (if x4_37 ≤ r10 then x4_37 else r10 : Int) : Int) : Int)), some (vI (if r11 = 0 then x5_37 else (if r10 ≤ x5_37 then x5_37 else r10 : Int) : Int)), some (vI x6_37), some (vI r10)] [] n g h1 := by
          refine ok_inc (pc := 102) a [some (vR 59), some (vI x1), some (vI x2), some (vI (if r11 = 0 then x3_37 else (x3_37 + 1) : Int)), some (vI (if r11 = 0 then x4_37 else (if x3_37 = 0 then r10 else (if x4_37 ≤ r10 then x4_37 else r10 : Int) : Int) : Int)), some (vI (if r11 = 0 then x5_37 else (if r10 ≤ x5_37 then x5_37 else r10 : Int) : Int)), some (vI (x6_37 + 1)), some (vI r10)] dX9_can_102 rfl (by decide) rfl rfl ?_
          refine ok_goto (pc := 105) a 37 dX9_can_105 (by decide) ?_
          refine ok_forget 7 ?_
          exact hX37 ((if r11 = 0 then x3_37 else (x3_37 + 1) : Int), (if r11 = 0 then x4_37 else (if x3_37 = 0 then r10 else (if x4_37 ≤ r10 then x4_37 else r10 : Int) : Int) : Int), (if r11 = 0 then x5_37 else (if r10 ≤ x5_37 then x5_37 else r10 : Int) : Int), (x6_37 + 1)) hw
        have hw := hR
        refine ok_if_eq (pc := 60) a 102 dX9_can_60 (by decide) (inR_b hz12) (fun hd13 => ?_) (fun hd13 => ?_)
        · simp only [if_pos hd13] at hK
          exact hK
        · have hw := hw.2 hd13
          refine ok_iload_n (pc := 63) a dX9_can_63 rfl rfl ?_
          obtain ⟨hc14, hw⟩ := hw
          refine ok_if_eq (pc := 64) a 74 dX9_can_64 (by decide) hc14 (fun hd15 => ?_) (fun hd15 => ?_)
          · have hw := hw.1 hd15
            refine ok_iload (pc := 74) a dX9_can_74 rfl ?_
            refine ok_goto (pc := 76) a 81 dX9_can_76 (by decide) ?_
            refine ok_sI (pc := 81) a [some (vR 59), some (vI x1), some (vI x2), some (vI x3_37), some (vI r10), some (vI x5_37), some (vI x6_37), some (vI r10)] dX9_can_81 (by decide) rfl rfl ?_
            refine ok_iload (pc := 83) a dX9_can_83 rfl ?_
            refine ok_iload (pc := 85) a dX9_can_85 rfl ?_
            obtain ⟨hc16, hw⟩ := hw
            obtain ⟨hc17, hw⟩ := hw
            refine ok_icmp_le (pc := 87) a 95 dX9_can_87 (by decide) hc16 hc17 (fun hd18 => ?_) (fun hd18 => ?_)
            · refine ok_iload (pc := 95) a dX9_can_95 rfl ?_
              refine ok_sI (pc := 97) a [some (vR 59), some (vI x1), some (vI x2), some (vI x3_37), some (vI r10), some (vI x5_37), some (vI x6_37), some (vI r10)] dX9_can_97 (by decide) rfl rfl ?_
              refine ok_inc (pc := 99) a [some (vR 59), some (vI x1), some (vI x2), some (vI (x3_37 + 1)), some (vI r10), some (vI x5_37), some (vI x6_37), some (vI r10)] dX9_can_99 rfl (by decide) rfl rfl ?_
              simp only [if_neg hd13, if_pos hd15, if_pos hd18] at hK
              exact hK
            · refine ok_iload (pc := 90) a dX9_can_90 rfl ?_
              refine ok_goto (pc := 92) a 97 dX9_can_92 (by decide) ?_
              refine ok_sI (pc := 97) a [some (vR 59), some (vI x1), some (vI x2), some (vI x3_37), some (vI r10), some (vI r10), some (vI x6_37), some (vI r10)] dX9_can_97 (by decide) rfl rfl ?_
              refine ok_inc (pc := 99) a [some (vR 59), some (vI x1), some (vI x2), some (vI (x3_37 + 1)), some (vI r10), some (vI r10), some (vI x6_37), some (vI r10)] dX9_can_99 rfl (by decide) rfl rfl ?_
              simp only [if_neg hd13, if_pos hd15, if_neg hd18] at hK
              exact hK
          · have hw := hw.2 hd15
            refine ok_iload (pc := 67) a dX9_can_67 rfl ?_
            refine ok_iload (pc := 69) a dX9_can_69 rfl ?_
            obtain ⟨hc19, hw⟩ := hw
            obtain ⟨hc20, hw⟩ := hw
            refine ok_icmp_ge (pc := 71) a 79 dX9_can_71 (by decide) hc19 hc20 (fun hd21 => ?_) (fun hd21 => ?_)
            · have hw := hw.1 hd21
              refine ok_iload (pc := 79) a dX9_can_79 rfl ?_
              refine ok_sI (pc := 81) a [some (vR 59), some (vI x1), some (vI x2), some (vI x3_37), some (vI x4_37), some (vI x5_37), some (vI x6_37), some (vI r10)] dX9_can_81 (by decide) rfl rfl ?_
              refine ok_iload (pc := 83) a dX9_can_83 rfl ?_
              refine ok_iload (pc := 85) a dX9_can_85 rfl ?_
              obtain ⟨hc22, hw⟩ := hw
              refine ok_icmp_le (pc := 87) a 95 dX9_can_87 (by decide) hc19 hc22 (fun hd23 => ?_) (fun hd23 => ?_)
              · refine ok_iload (pc := 95) a dX9_can_95 rfl ?_
                refine ok_sI (pc := 97) a [some (vR 59), some (vI x1), some (vI x2), some (vI x3_37), some (vI x4_37), some (vI x5_37), some (vI x6_37), some (vI r10)] dX9_can_97 (by decide) rfl rfl ?_
                refine ok_inc (pc := 99) a [some (vR 59), some (vI x1), some (vI x2), some (vI (x3_37 + 1)), some (vI x4_37), some (vI x5_37), some (vI x6_37), some (vI r10)] dX9_can_99 rfl (by decide) rfl rfl ?_
                simp only [if_neg hd13, if_neg hd15, if_pos hd21, if_pos hd23] at hK
                exact hK
              · refine ok_iload (pc := 90) a dX9_can_90 rfl ?_
                refine ok_goto (pc := 92) a 97 dX9_can_92 (by decide) ?_
                refine ok_sI (pc := 97) a [some (vR 59), some (vI x1), some (vI x2), some (vI x3_37), some (vI x4_37), some (vI r10), some (vI x6_37), some (vI r10)] dX9_can_97 (by decide) rfl rfl ?_
                refine ok_inc (pc := 99) a [some (vR 59), some (vI x1), some (vI x2), some (vI (x3_37 + 1)), some (vI x4_37), some (vI r10), some (vI x6_37), some (vI r10)] dX9_can_99 rfl (by decide) rfl rfl ?_
                simp only [if_neg hd13, if_neg hd15, if_pos hd21, if_neg hd23] at hK
                exact hK
            · have hw := hw.2 hd21
              refine ok_iload (pc := 74) a dX9_can_74 rfl ?_
              refine ok_goto (pc := 76) a 81 dX9_can_76 (by decide) ?_
              refine ok_sI (pc := 81) a [some (vR 59), some (vI x1), some (vI x2), some (vI x3_37), some (vI r10), some (vI x5_37), some (vI x6_37), some (vI r10)] dX9_can_81 (by decide) rfl rfl ?_
              refine ok_iload (pc := 83) a dX9_can_83 rfl ?_
              refine ok_iload (pc := 85) a dX9_can_85 rfl ?_
              obtain ⟨hc24, hw⟩ := hw
              refine ok_icmp_le (pc := 87) a 95 dX9_can_87 (by decide) hc19 hc24 (fun hd25 => ?_) (fun hd25 => ?_)
              · refine ok_iload (pc := 95) a dX9_can_95 rfl ?_
                refine ok_sI (pc := 97) a [some (vR 59), some (vI x1), some (vI x2), some (vI x3_37), some (vI r10), some (vI x5_37), some (vI x6_37), some (vI r10)] dX9_can_97 (by decide) rfl rfl ?_
                refine ok_inc (pc := 99) a [some (vR 59), some (vI x1), some (vI x2), some (vI (x3_37 + 1)), some (vI r10), some (vI x5_37), some (vI x6_37), some (vI r10)] dX9_can_99 rfl (by decide) rfl rfl ?_
                simp only [if_neg hd13, if_neg hd15, if_neg hd21, if_pos hd25] at hK
                exact hK
              · refine ok_iload (pc := 90) a dX9_can_90 rfl ?_
                refine ok_goto (pc := 92) a 97 dX9_can_92 (by decide) ?_
                refine ok_sI (pc := 97) a [some (vR 59), some (vI x1), some (vI x2), some (vI x3_37), some (vI r10), some (vI r10), some (vI x6_37), some (vI r10)] dX9_can_97 (by decide) rfl rfl ?_
                refine ok_inc (pc := 99) a [some (vR 59), some (vI x1), some (vI x2), some (vI (x3_37 + 1)), some (vI r10), some (vI r10), some (vI x6_37), some (vI r10)] dX9_can_99 rfl (by decide) rfl rfl ?_
                simp only [if_neg hd13, if_neg hd15, if_neg hd21, if_neg hd25] at hK
                exact hK
    · have hw := hw.1 hd27
      refine ok_iconst (pc := 22) a dX9_can_22 ?_
      exact ok_iret (pc := 23) a dX9_can_23 ⟨_, rfl, rfl, hw⟩

def wp_X9_saw (x1 : Int) (x2 : Int) (h : aH) (Q : Int → aH → Prop) : Prop :=
  ∀ h1, h1 = up h 59 0 0 → wp_X9_isPerson x1 h1 (fun r2 => ((r2 = 0 → Q (-1) h1) ∧ (¬ r2 = 0 → wp_X9_in x2 0 240 h1 (fun r4 => ((r4 = 0 → Q (-1) h1) ∧ (¬ r4 = 0 → inR (h1 59 25) ∧ (((h1 59 25) = 6 → Q (-3) h1) ∧ (¬ (h1 59 25) = 6 → (0 ≤ (h1 59 25) ∧ (h1 59 25) < 6) ∧ ∀ h8, h8 = up h1 73 (h1 59 25) x1 → (0 ≤ (h8 59 25) ∧ (h8 59 25) < 6) ∧ ∀ h10, h10 = up h8 74 (h8 59 25) x2 → ∀ h11, h11 = up h10 59 25 ((h10 59 25) + 1) → Q (h11 59 25) h11))))))))
set_option maxRecDepth 100000 in
set_option maxHeartbeats 4000000 in
theorem M_X9_saw {Γ : Gm} {l : Launch} {n : Nat} {g : aG} (hn : 80 ≤ n) (tg : TM g) (x1 : Int) (x2 : Int)  {h : aH} {Q : Int → aH → Prop} (hw : wp_X9_saw x1 x2 h Q) : Cl Γ l mX9_saw [vR 59, vI x1, vI x2] n g h (RI g Q) := by
  refine Cl.of (by decide) [some (vR 59), some (vI x1), some (vI x2)] rfl (Nat.le_of_ble_eq_true rfl) ?_
  intro p e s m args below meth c a
  unfold wp_X9_saw at hw
  refine ok_aload_n (pc := 0) a dX9_saw_0 rfl rfl ?_
  refine ok_iconst (pc := 1) a dX9_saw_1 ?_
  refine ok_pI (pc := 2) 0 a dX9_saw_2 lfRX9_77 fi_9_0 (Nat.lt_of_lt_of_le (by decide) hn) kq59 ty_9_0 rfl (fun h1 eh1 => ?_)
  have hw := hw h1 eh1
  refine ok_aload_n (pc := 5) a dX9_saw_5 rfl rfl ?_
  refine ok_iload_n (pc := 6) a dX9_saw_6 rfl rfl ?_
  refine ok_VPZ (pc := 7) a [(vI x1)] [] (M_X9_isPerson hn tg x1  hw) dX9_saw_7 lkRX9_143 rfl (Nat.lt_of_lt_of_le (by decide) hn) kq59 (by decide) rfl ⟨Nat.le_of_ble_eq_true rfl, Nat.le_of_ble_eq_true rfl⟩ rfl (Nat.le_of_ble_eq_true rfl) rfl (fun r2 hz3 hw => ?_)
  refine ok_if_eq (pc := 10) a 24 dX9_saw_10 (by decide) (inR_b hz3) (fun hd14 => ?_) (fun hd14 => ?_)
  · have hw := hw.1 hd14
    refine ok_iconst (pc := 24) a dX9_saw_24 ?_
    exact ok_iret (pc := 25) a dX9_saw_25 ⟨_, rfl, rfl, hw⟩
  · have hw := hw.2 hd14
    refine ok_iload_n (pc := 13) a dX9_saw_13 rfl rfl ?_
    refine ok_iconst (pc := 14) a dX9_saw_14 ?_
    refine ok_sipush (pc := 15) a dX9_saw_15 (by decide) ?_
    refine ok_SPZ (pc := 18) a [(vI x2), (vI 0), (vI 240)] [] (M_X9_in hn tg x2 0 240  hw) dX9_saw_18 lkRX9_81 rfl ⟨Nat.le_of_ble_eq_true rfl, Nat.le_of_ble_eq_true rfl⟩ rfl (Nat.le_of_ble_eq_true rfl) rfl (fun r4 hz5 hw => ?_)
    refine ok_if_ne (pc := 21) a 26 dX9_saw_21 (by decide) (inR_b hz5) (fun hd13 => ?_) (fun hd13 => ?_)
    · have hw := hw.2 hd13
      refine ok_aload_n (pc := 26) a dX9_saw_26 rfl rfl ?_
      refine ok_fI (pc := 27) 25 a dX9_saw_27 lfRX9_132 (Nat.lt_of_lt_of_le (by decide) hn) kq59 ty_9_25 rfl ?_
      refine ok_bipush (pc := 30) a dX9_saw_30 (by decide) ?_
      obtain ⟨hc6, hw⟩ := hw
      refine ok_icmp_ne (pc := 32) a 38 dX9_saw_32 (by decide) hc6 ⟨by decide, by decide⟩ (fun hd12 => ?_) (fun hd12 => ?_)
      · have hw := hw.2 hd12
        refine ok_aload_n (pc := 38) a dX9_saw_38 rfl rfl ?_
        refine ok_getR (pc := 39) a dX9_saw_39 lfRX9_50 (Nat.lt_of_lt_of_le (by decide) hn) kq59 rfl (tg.at 59 23 73 (by decide) (by decide)) ?_
        refine ok_aload_n (pc := 42) a dX9_saw_42 rfl rfl ?_
        refine ok_fI (pc := 43) 25 a dX9_saw_43 lfRX9_132 (Nat.lt_of_lt_of_le (by decide) hn) kq59 ty_9_25 rfl ?_
        refine ok_iload_n (pc := 46) a dX9_saw_46 rfl rfl ?_
        obtain ⟨hc7, hw⟩ := hw
        refine ok_iast (pc := 47) a dX9_saw_47 (Nat.lt_of_lt_of_le (by decide) hn) kq73 (by decide) hc7 (ok_nmH (fun h8 eh8 => ?_))
        have hw := hw h8 eh8
        refine ok_aload_n (pc := 48) a dX9_saw_48 rfl rfl ?_
        refine ok_getR (pc := 49) a dX9_saw_49 lfRX9_53 (Nat.lt_of_lt_of_le (by decide) hn) kq59 rfl (tg.at 59 24 74 (by decide) (by decide)) ?_
        refine ok_aload_n (pc := 52) a dX9_saw_52 rfl rfl ?_
        refine ok_fI (pc := 53) 25 a dX9_saw_53 lfRX9_132 (Nat.lt_of_lt_of_le (by decide) hn) kq59 ty_9_25 rfl ?_
        refine ok_iload_n (pc := 56) a dX9_saw_56 rfl rfl ?_
        obtain ⟨hc9, hw⟩ := hw
        refine ok_iast (pc := 57) a dX9_saw_57 (Nat.lt_of_lt_of_le (by decide) hn) kq74 (by decide) hc9 (ok_nmH (fun h10 eh10 => ?_))
        have hw := hw h10 eh10
        refine ok_aload_n (pc := 58) a dX9_saw_58 rfl rfl ?_
        refine ok_dup (pc := 59) a dX9_saw_59 (by rfl) ?_
        refine ok_fI (pc := 60) 25 a dX9_saw_60 lfRX9_132 (Nat.lt_of_lt_of_le (by decide) hn) kq59 ty_9_25 rfl ?_
        refine ok_iconst (pc := 63) a dX9_saw_63 ?_
        refine ok_iadd (pc := 64) a dX9_saw_64 ?_
        refine ok_pI (pc := 65) 25 a dX9_saw_65 lfRX9_132 fi_9_25 (Nat.lt_of_lt_of_le (by decide) hn) kq59 ty_9_25 rfl (fun h11 eh11 => ?_)
        have hw := hw h11 eh11
        refine ok_aload_n (pc := 68) a dX9_saw_68 rfl rfl ?_
        refine ok_fI (pc := 69) 25 a dX9_saw_69 lfRX9_132 (Nat.lt_of_lt_of_le (by decide) hn) kq59 ty_9_25 rfl ?_
        exact ok_iret (pc := 72) a dX9_saw_72 ⟨_, rfl, rfl, hw⟩
      · have hw := hw.1 hd12
        refine ok_bipush (pc := 35) a dX9_saw_35 (by decide) ?_
        exact ok_iret (pc := 37) a dX9_saw_37 ⟨_, rfl, rfl, hw⟩
    · have hw := hw.1 hd13
      refine ok_iconst (pc := 24) a dX9_saw_24 ?_
      exact ok_iret (pc := 25) a dX9_saw_25 ⟨_, rfl, rfl, hw⟩

def wp_X9_laws_B83 (x1 : Int) (h1 : aH) (X33 : Int × Int × Int → Prop) (x3_33 : Int) (x4_33 : Int) (x5_33 : Int) (x6_75 : Int) (X83 : Int × Int → Prop) (x7_83 : Int) (x8_83 : Int) : Prop :=
  inR x8_83 ∧ inR (h1 59 25) ∧ (((h1 59 25) ≤ x8_83 → (inR x7_83 ∧ ((x7_83 = 0 → True) ∧ (¬ x7_83 = 0 → inR x3_33 ∧ True))) ∧ ∀ x4_153, x4_153 = (if x7_83 = 0 then x4_33 else (if x3_33 = 0 then x6_75 else x4_33 : Int) : Int) → (inR x7_83 ∧ True) ∧ ∀ x3_167, x3_167 = (x3_33 + (if x7_83 = 0 then 0 else 1 : Int)) → X33 (x3_167, x4_153, (x5_33 + 1))) ∧ (¬ (h1 59 25) ≤ x8_83 → inR x7_83 ∧ ((x7_83 = 0 → X83 (0, (x8_83 + 1))) ∧ (¬ x7_83 = 0 → (0 ≤ x8_83 ∧ x8_83 < 6) ∧ inR (h1 73 x8_83) ∧ inR x1 ∧ (((h1 73 x8_83) = x1 → wp_X9_weighsOf x6_75 h1 (fun r21 => (inR (h1 74 x8_83) ∧ inR r21 ∧ True) ∧ ∀ x7_129, x7_129 = (if (h1 74 x8_83) = r21 then 1 else 0 : Int) → X83 (x7_129, (x8_83 + 1)))) ∧ (¬ (h1 73 x8_83) = x1 → X83 (1, (x8_83 + 1))))))))
def wp_X9_laws_B33 (x1 : Int) (x2 : Int) (Q : Int → aH → Prop) (h1 : aH) (X33 : Int × Int × Int → Prop) (x3_33 : Int) (x4_33 : Int) (x5_33 : Int) : Prop :=
  inR x5_33 ∧ ((256 ≤ x5_33 → (inR x2 ∧ True) ∧ Q (if x2 = 0 then x3_33 else x4_33 : Int) h1) ∧ (¬ 256 ≤ x5_33 → ∀ x6_75, x6_75 = ((((1000 * (bshr x5_33 6)) + (100 * (band (bshr x5_33 4) 3))) + (10 * (band (bshr x5_33 2) 3))) + (band x5_33 3)) → lp (fun X y => wp_X9_laws_B83 x1 h1 X33 x3_33 x4_33 x5_33 x6_75 X y.1 y.2) (1, 0)))
def wp_X9_laws (x1 : Int) (x2 : Int) (h : aH) (Q : Int → aH → Prop) : Prop :=
  ∀ h1, h1 = up h 59 0 0 → wp_X9_isPerson x1 h1 (fun r2 => ((r2 = 0 → Q (-1) h1) ∧ (¬ r2 = 0 → wp_X9_in x2 0 1 h1 (fun r4 => ((r4 = 0 → Q (-1) h1) ∧ (¬ r4 = 0 → lp (fun X y => wp_X9_laws_B33 x1 x2 Q h1 X y.1 y.2.1 y.2.2) (0, (-9), 0)))))))
set_option maxRecDepth 100000 in
set_option maxHeartbeats 4000000 in
theorem M_X9_laws {Γ : Gm} {l : Launch} {n : Nat} {g : aG} (hn : 80 ≤ n) (tg : TM g) (x1 : Int) (x2 : Int)  {h : aH} {Q : Int → aH → Prop} (hw : wp_X9_laws x1 x2 h Q) : Cl Γ l mX9_laws [vR 59, vI x1, vI x2] n g h (RI g Q) := by
  refine Cl.of (by decide) [some (vR 59), some (vI x1), some (vI x2), none, none, none, none, none, none] rfl (Nat.le_of_ble_eq_true rfl) ?_
  intro p e s m args below meth c a
  unfold wp_X9_laws at hw
  refine ok_aload_n (pc := 0) a dX9_laws_0 rfl rfl ?_
  refine ok_iconst (pc := 1) a dX9_laws_1 ?_
  refine ok_pI (pc := 2) 0 a dX9_laws_2 lfRX9_77 fi_9_0 (Nat.lt_of_lt_of_le (by decide) hn) kq59 ty_9_0 rfl (fun h1 eh1 => ?_)
  have hw := hw h1 eh1
  refine ok_aload_n (pc := 5) a dX9_laws_5 rfl rfl ?_
  refine ok_iload_n (pc := 6) a dX9_laws_6 rfl rfl ?_
  refine ok_VPZ (pc := 7) a [(vI x1)] [] (M_X9_isPerson hn tg x1  hw) dX9_laws_7 lkRX9_143 rfl (Nat.lt_of_lt_of_le (by decide) hn) kq59 (by decide) rfl ⟨Nat.le_of_ble_eq_true rfl, Nat.le_of_ble_eq_true rfl⟩ rfl (Nat.le_of_ble_eq_true rfl) rfl (fun r2 hz3 hw => ?_)
  refine ok_if_eq (pc := 10) a 22 dX9_laws_10 (by decide) (inR_b hz3) (fun hd30 => ?_) (fun hd30 => ?_)
  · have hw := hw.1 hd30
    refine ok_iconst (pc := 22) a dX9_laws_22 ?_
    exact ok_iret (pc := 23) a dX9_laws_23 ⟨_, rfl, rfl, hw⟩
  · have hw := hw.2 hd30
    refine ok_iload_n (pc := 13) a dX9_laws_13 rfl rfl ?_
    refine ok_iconst (pc := 14) a dX9_laws_14 ?_
    refine ok_iconst (pc := 15) a dX9_laws_15 ?_
    refine ok_SPZ (pc := 16) a [(vI x2), (vI 0), (vI 1)] [] (M_X9_in hn tg x2 0 1  hw) dX9_laws_16 lkRX9_81 rfl ⟨Nat.le_of_ble_eq_true rfl, Nat.le_of_ble_eq_true rfl⟩ rfl (Nat.le_of_ble_eq_true rfl) rfl (fun r4 hz5 hw => ?_)
    refine ok_if_ne (pc := 19) a 24 dX9_laws_19 (by decide) (inR_b hz5) (fun hd29 => ?_) (fun hd29 => ?_)
    · have hw := hw.2 hd29
      refine ok_iconst (pc := 24) a dX9_laws_24 ?_
      refine ok_sI_n (pc := 25) a [some (vR 59), some (vI x1), some (vI x2), some (vI 0), none, none, none, none, none] dX9_laws_25 rfl (by decide) rfl rfl ?_
      refine ok_bipush (pc := 26) a dX9_laws_26 (by decide) ?_
      refine ok_sI (pc := 28) a [some (vR 59), some (vI x1), some (vI x2), some (vI 0), some (vI (-9)), none, none, none, none] dX9_laws_28 (by decide) rfl rfl ?_
      refine ok_iconst (pc := 30) a dX9_laws_30 ?_
      refine ok_sI (pc := 31) a [some (vR 59), some (vI x1), some (vI x2), some (vI 0), some (vI (-9)), some (vI 0), none, none, none] dX9_laws_31 (by decide) rfl rfl ?_
      refine lp.use (P := fun y => OK Γ p l e (rmd 2 n n) s m args below meth c n (MQ below (QQ Γ n (RI g Q)) args s (n - n) (sl n - sl n) (AA Γ)) 33 [some (vR 59), some (vI x1), some (vI x2), some (vI y.1), some (vI y.2.1), some (vI y.2.2), none, none, none] [] n g h1) ?_ (0, (-9), 0) hw
      clear hw
      intro X33 hX33 y hw
      obtain ⟨x3_33, x4_33, x5_33⟩ := y
      have hw : wp_X9_laws_B33 x1 x2 Q h1 X33 x3_33 x4_33 x5_33 := hw
      unfold wp_X9_laws_B33 at hw
      try dsimp only
      refine ok_iload (pc := 33) a dX9_laws_33 rfl ?_
      refine ok_sipush (pc := 35) a dX9_laws_35 (by decide) ?_
      obtain ⟨hc6, hw⟩ := hw
      refine ok_icmp_ge (pc := 38) a 174 dX9_laws_38 (by decide) hc6 ⟨by decide, by decide⟩ (fun hd28 => ?_) (fun hd28 => ?_)
      · have hw := hw.1 hd28
        refine ok_iload_n (pc := 174) a dX9_laws_174 rfl rfl ?_
        obtain ⟨hR, hw⟩ := hw
        have hK : OK Γ p l e (rmd 2 n n) s m args below meth c n (MQ below (QQ Γ n (RI g Q)) args s (n - n) (sl n - sl n) (AA Γ)) 184 [some (vR 59), some (vI x1), some (vI x2), some (vI x3_33), some (vI x4_33), some (vI x5_33), none, none, none] [(vI (if x2 = 0 then x3_33 else x4_33 : Int))] n g h1 := by
          exact ok_iret (pc := 184) a dX9_laws_184 ⟨_, rfl, rfl, hw⟩
        have hw := hR
        obtain ⟨hc7, hw⟩ := hw
        refine ok_if_ne (pc := 175) a 182 dX9_laws_175 (by decide) hc7 (fun hd8 => ?_) (fun hd8 => ?_)
        · refine ok_iload (pc := 182) a dX9_laws_182 rfl ?_
          simp only [if_neg hd8] at hK
          exact hK
        · refine ok_iload_n (pc := 178) a dX9_laws_178 rfl rfl ?_
          refine ok_goto (pc := 179) a 184 dX9_laws_179 (by decide) ?_
          simp only [if_pos hd8] at hK
          exact hK
      · have hw := hw.2 hd28
        refine ok_sipush (pc := 41) a dX9_laws_41 (by decide) ?_
        refine ok_iload (pc := 44) a dX9_laws_44 rfl ?_
        refine ok_bipush (pc := 46) a dX9_laws_46 (by decide) ?_
        refine ok_ishr (pc := 48) a dX9_laws_48 ?_
        refine ok_imul (pc := 49) a dX9_laws_49 ?_
        refine ok_bipush (pc := 50) a dX9_laws_50 (by decide) ?_
        refine ok_iload (pc := 52) a dX9_laws_52 rfl ?_
        refine ok_iconst (pc := 54) a dX9_laws_54 ?_
        refine ok_ishr (pc := 55) a dX9_laws_55 ?_
        refine ok_iconst (pc := 56) a dX9_laws_56 ?_
        refine ok_iand (pc := 57) a dX9_laws_57 ?_
        refine ok_imul (pc := 58) a dX9_laws_58 ?_
        refine ok_iadd (pc := 59) a dX9_laws_59 ?_
        refine ok_bipush (pc := 60) a dX9_laws_60 (by decide) ?_
        refine ok_iload (pc := 62) a dX9_laws_62 rfl ?_
        refine ok_iconst (pc := 64) a dX9_laws_64 ?_
        refine ok_ishr (pc := 65) a dX9_laws_65 ?_
        refine ok_iconst (pc := 66) a dX9_laws_66 ?_
        refine ok_iand (pc := 67) a dX9_laws_67 ?_
        refine ok_imul (pc := 68) a dX9_laws_68 ?_
        refine ok_iadd (pc := 69) a dX9_laws_69 ?_
        refine ok_iload (pc := 70) a dX9_laws_70 rfl ?_
        refine ok_iconst (pc := 72) a dX9_laws_72 ?_
        refine ok_iand (pc := 73) a dX9_laws_73 ?_
        refine ok_iadd (pc := 74) a dX9_laws_74 ?_
        refine ok_nmI (fun x6_75 ex6_75 => ?_)
        have hw := hw x6_75 ex6_75
        refine ok_sI (pc := 75) a [some (vR 59), some (vI x1), some (vI x2), some (vI x3_33), some (vI x4_33), some (vI x5_33), some (vI x6_75), none, none] dX9_laws_75 (by decide) rfl rfl ?_
        refine ok_iconst (pc := 77) a dX9_laws_77 ?_
        refine ok_sI (pc := 78) a [some (vR 59), some (vI x1), some (vI x2), some (vI x3_33), some (vI x4_33), some (vI x5_33), some (vI x6_75), some (vI 1), none] dX9_laws_78 (by decide) rfl rfl ?_
        refine ok_iconst (pc := 80) a dX9_laws_80 ?_
        refine ok_sI (pc := 81) a [some (vR 59), some (vI x1), some (vI x2), some (vI x3_33), some (vI x4_33), some (vI x5_33), some (vI x6_75), some (vI 1), some (vI 0)] dX9_laws_81 (by decide) rfl rfl ?_
        refine lp.use (P := fun y => OK Γ p l e (rmd 2 n n) s m args below meth c n (MQ below (QQ Γ n (RI g Q)) args s (n - n) (sl n - sl n) (AA Γ)) 83 [some (vR 59), some (vI x1), some (vI x2), some (vI x3_33), some (vI x4_33), some (vI x5_33), some (vI x6_75), some (vI y.1), some (vI y.2)] [] n g h1) ?_ (1, 0) hw
        clear hw
        intro X83 hX83 y hw
        obtain ⟨x7_83, x8_83⟩ := y
        have hw : wp_X9_laws_B83 x1 h1 X33 x3_33 x4_33 x5_33 x6_75 X83 x7_83 x8_83 := hw
        unfold wp_X9_laws_B83 at hw
        try dsimp only
        refine ok_iload (pc := 83) a dX9_laws_83 rfl ?_
        refine ok_aload_n (pc := 85) a dX9_laws_85 rfl rfl ?_
        refine ok_fI (pc := 86) 25 a dX9_laws_86 lfRX9_132 (Nat.lt_of_lt_of_le (by decide) hn) kq59 ty_9_25 rfl ?_
        obtain ⟨hc9, hw⟩ := hw
        obtain ⟨hc10, hw⟩ := hw
        refine ok_icmp_ge (pc := 89) a 137 dX9_laws_89 (by decide) hc9 hc10 (fun hd27 => ?_) (fun hd27 => ?_)
        · have hw := hw.1 hd27
          refine ok_iload (pc := 137) a dX9_laws_137 rfl ?_
          obtain ⟨hR, hw⟩ := hw
          have hK : OK Γ p l e (rmd 2 n n) s m args below meth c n (MQ below (QQ Γ n (RI g Q)) args s (n - n) (sl n - sl n) (AA Γ)) 153 [some (vR 59), some (vI x1), some (vI x2), some (vI x3_33), some (vI x4_33), some (vI x5_33), some (vI x6_75), some (vI x7_83), some (vI x8_83)] [(vI (if x7_83 = 0 then x4_33 else (if x3_33 = 0 then x6_75 else x4_33 : Int) : Int))] n g h1 := by
            refine ok_nmI (fun x4_153 ex4_153 => ?_)
            have hw := hw x4_153 ex4_153
            refine ok_sI (pc := 153) a [some (vR 59), some (vI x1), some (vI x2), some (vI x3_33), some (vI x4_153), some (vI x5_33), some (vI x6_75), some (vI x7_83), some (vI x8_83)] dX9_laws_153 (by decide) rfl rfl ?_
            refine ok_iload_n (pc := 155) a dX9_laws_155 rfl rfl ?_
            refine ok_iload (pc := 156) a dX9_laws_156 rfl ?_
            obtain ⟨hR, hw⟩ := hw
            have hK : OK Γ p l e (rmd 2 n n) s m args below meth c n (MQ below (QQ Γ n (RI g Q)) args s (n - n) (sl n - sl n) (AA Γ)) 166 [some (vR 59), some (vI x1), some (vI x2), some (vI x3_33), some (vI x4_153), some (vI x5_33), some (vI x6_75), some (vI x7_83), some (vI x8_83)] [(vI (if x7_83 = 0 then 0 else 1 : Int)), (vI x3_33)] n g h1 := by
              refine ok_iadd (pc := 166) a dX9_laws_166 ?_
              refine ok_nmI (fun x3_167 ex3_167 => ?_)
              have hw := hw x3_167 ex3_167
              refine ok_sI_n (pc := 167) a [some (vR 59), some (vI x1), some (vI x2), some (vI x3_167), some (vI x4_153), some (vI x5_33), some (vI x6_75), some (vI x7_83), some (vI x8_83)] dX9_laws_167 rfl (by decide) rfl rfl ?_
              refine ok_inc (pc := 168) a [some (vR 59), some (vI x1), some (vI x2), some (vI x3_167), some (vI x4_153), some (vI (x5_33 + 1)), some (vI x6_75), some (vI x7_83), some (vI x8_83)] dX9_laws_168 rfl (by decide) rfl rfl ?_
              refine ok_goto (pc := 171) a 33 dX9_laws_171 (by decide) ?_
              refine ok_forget 6 ?_
              refine ok_forget 7 ?_
              refine ok_forget 8 ?_
              exact hX33 (x3_167, x4_153, (x5_33 + 1)) hw
            have hw := hR
            obtain ⟨hc15, hw⟩ := hw
            refine ok_if_eq (pc := 158) a 165 dX9_laws_158 (by decide) hc15 (fun hd16 => ?_) (fun hd16 => ?_)
            · refine ok_iconst (pc := 165) a dX9_laws_165 ?_
              simp only [if_pos hd16] at hK
              exact hK
            · refine ok_iconst (pc := 161) a dX9_laws_161 ?_
              refine ok_goto (pc := 162) a 166 dX9_laws_162 (by decide) ?_
              simp only [if_neg hd16] at hK
              exact hK
          have hw := hR
          obtain ⟨hc11, hw⟩ := hw
          refine ok_if_eq (pc := 139) a 151 dX9_laws_139 (by decide) hc11 (fun hd12 => ?_) (fun hd12 => ?_)
          · refine ok_iload (pc := 151) a dX9_laws_151 rfl ?_
            simp only [if_pos hd12] at hK
            exact hK
          · have hw := hw.2 hd12
            refine ok_iload_n (pc := 142) a dX9_laws_142 rfl rfl ?_
            obtain ⟨hc13, hw⟩ := hw
            refine ok_if_ne (pc := 143) a 151 dX9_laws_143 (by decide) hc13 (fun hd14 => ?_) (fun hd14 => ?_)
            · refine ok_iload (pc := 151) a dX9_laws_151 rfl ?_
              simp only [if_neg hd12, if_neg hd14] at hK
              exact hK
            · refine ok_iload (pc := 146) a dX9_laws_146 rfl ?_
              refine ok_goto (pc := 148) a 153 dX9_laws_148 (by decide) ?_
              simp only [if_neg hd12, if_pos hd14] at hK
              exact hK
        · have hw := hw.2 hd27
          refine ok_iload (pc := 92) a dX9_laws_92 rfl ?_
          obtain ⟨hc17, hw⟩ := hw
          refine ok_if_eq (pc := 94) a 128 dX9_laws_94 (by decide) hc17 (fun hd26 => ?_) (fun hd26 => ?_)
          · have hw := hw.1 hd26
            refine ok_iconst (pc := 128) a dX9_laws_128 ?_
            refine ok_sI (pc := 129) a [some (vR 59), some (vI x1), some (vI x2), some (vI x3_33), some (vI x4_33), some (vI x5_33), some (vI x6_75), some (vI 0), some (vI x8_83)] dX9_laws_129 (by decide) rfl rfl ?_
            refine ok_inc (pc := 131) a [some (vR 59), some (vI x1), some (vI x2), some (vI x3_33), some (vI x4_33), some (vI x5_33), some (vI x6_75), some (vI 0), some (vI (x8_83 + 1))] dX9_laws_131 rfl (by decide) rfl rfl ?_
            refine ok_goto (pc := 134) a 83 dX9_laws_134 (by decide) ?_
            exact hX83 (0, (x8_83 + 1)) hw
          · have hw := hw.2 hd26
            refine ok_aload_n (pc := 97) a dX9_laws_97 rfl rfl ?_
            refine ok_getR (pc := 98) a dX9_laws_98 lfRX9_50 (Nat.lt_of_lt_of_le (by decide) hn) kq59 rfl (tg.at 59 23 73 (by decide) (by decide)) ?_
            refine ok_iload (pc := 101) a dX9_laws_101 rfl ?_
            obtain ⟨hc18, hw⟩ := hw
            refine ok_iald (pc := 103) a dX9_laws_103 (Nat.lt_of_lt_of_le (by decide) hn) kq73 (by decide) hc18 ?_
            refine ok_iload_n (pc := 104) a dX9_laws_104 rfl rfl ?_
            obtain ⟨hc19, hw⟩ := hw
            obtain ⟨hc20, hw⟩ := hw
            refine ok_icmp_ne (pc := 105) a 124 dX9_laws_105 (by decide) hc19 hc20 (fun hd25 => ?_) (fun hd25 => ?_)
            · have hw := hw.2 hd25
              refine ok_iconst (pc := 124) a dX9_laws_124 ?_
              refine ok_goto (pc := 125) a 129 dX9_laws_125 (by decide) ?_
              refine ok_sI (pc := 129) a [some (vR 59), some (vI x1), some (vI x2), some (vI x3_33), some (vI x4_33), some (vI x5_33), some (vI x6_75), some (vI 1), some (vI x8_83)] dX9_laws_129 (by decide) rfl rfl ?_
              refine ok_inc (pc := 131) a [some (vR 59), some (vI x1), some (vI x2), some (vI x3_33), some (vI x4_33), some (vI x5_33), some (vI x6_75), some (vI 1), some (vI (x8_83 + 1))] dX9_laws_131 rfl (by decide) rfl rfl ?_
              refine ok_goto (pc := 134) a 83 dX9_laws_134 (by decide) ?_
              exact hX83 (1, (x8_83 + 1)) hw
            · have hw := hw.1 hd25
              refine ok_aload_n (pc := 108) a dX9_laws_108 rfl rfl ?_
              refine ok_getR (pc := 109) a dX9_laws_109 lfRX9_53 (Nat.lt_of_lt_of_le (by decide) hn) kq59 rfl (tg.at 59 24 74 (by decide) (by decide)) ?_
              refine ok_iload (pc := 112) a dX9_laws_112 rfl ?_
              refine ok_iald (pc := 114) a dX9_laws_114 (Nat.lt_of_lt_of_le (by decide) hn) kq74 (by decide) hc18 ?_
              refine ok_aload_n (pc := 115) a dX9_laws_115 rfl rfl ?_
              refine ok_iload (pc := 116) a dX9_laws_116 rfl ?_
              refine ok_VPI (pc := 118) a [(vI x6_75)] [(vI (h1 74 x8_83))] (M_X9_weighsOf hn tg x6_75  hw) dX9_laws_118 lkRX9_206 rfl (Nat.lt_of_lt_of_le (by decide) hn) kq59 (by decide) rfl ⟨Nat.le_of_ble_eq_true rfl, Nat.le_of_ble_eq_true rfl⟩ rfl (Nat.le_of_ble_eq_true rfl) rfl (fun r21 hw => ?_)
              obtain ⟨hR, hw⟩ := hw
              have hK : OK Γ p l e (rmd 2 n n) s m args below meth c n (MQ below (QQ Γ n (RI g Q)) args s (n - n) (sl n - sl n) (AA Γ)) 129 [some (vR 59), some (vI x1), some (vI x2), some (vI x3_33), some (vI x4_33), some (vI x5_33), some (vI x6_75), some (vI x7_83), some (vI x8_83)] [(vI (if (h1 74 x8_83) = r21 then 1 else 0 : Int))] n g h1 := by
                refine ok_nmI (fun x7_129 ex7_129 => ?_)
                have hw := hw x7_129 ex7_129
                refine ok_sI (pc := 129) a [some (vR 59), some (vI x1), some (vI x2), some (vI x3_33), some (vI x4_33), some (vI x5_33), some (vI x6_75), some (vI x7_129), some (vI x8_83)] dX9_laws_129 (by decide) rfl rfl ?_
                refine ok_inc (pc := 131) a [some (vR 59), some (vI x1), some (vI x2), some (vI x3_33), some (vI x4_33), some (vI x5_33), some (vI x6_75), some (vI x7_129), some (vI (x8_83 + 1))] dX9_laws_131 rfl (by decide) rfl rfl ?_
                refine ok_goto (pc := 134) a 83 dX9_laws_134 (by decide) ?_
                exact hX83 (x7_129, (x8_83 + 1)) hw
              have hw := hR
              obtain ⟨hc22, hw⟩ := hw
              obtain ⟨hc23, hw⟩ := hw
              refine ok_icmp_ne (pc := 121) a 128 dX9_laws_121 (by decide) hc22 hc23 (fun hd24 => ?_) (fun hd24 => ?_)
              · refine ok_iconst (pc := 128) a dX9_laws_128 ?_
                simp only [if_neg hd24] at hK
                exact hK
              · refine ok_iconst (pc := 124) a dX9_laws_124 ?_
                refine ok_goto (pc := 125) a 129 dX9_laws_125 (by decide) ?_
                simp only [if_pos hd24] at hK
                exact hK
    · have hw := hw.1 hd29
      refine ok_iconst (pc := 22) a dX9_laws_22 ?_
      exact ok_iret (pc := 23) a dX9_laws_23 ⟨_, rfl, rfl, hw⟩

def wp_X9_clean  (h : aH) (Q : Int → aH → Prop) : Prop :=
  ∀ h1, h1 = up h 59 0 0 → ∀ x1_14, x1_14 = ((h1 59 22) + (h1 59 25)) → ∀ h2, h2 = up h1 59 22 0 → ∀ h3, h3 = up h2 59 25 0 → Q x1_14 h3
set_option maxRecDepth 100000 in
set_option maxHeartbeats 4000000 in
theorem M_X9_clean {Γ : Gm} {l : Launch} {n : Nat} {g : aG} (hn : 80 ≤ n) (tg : TM g)   {h : aH} {Q : Int → aH → Prop} (hw : wp_X9_clean  h Q) : Cl Γ l mX9_clean [vR 59] n g h (RI g Q) := by
  refine Cl.of (by decide) [some (vR 59), none] rfl (Nat.le_of_ble_eq_true rfl) ?_
  intro p e s m args below meth c a
  unfold wp_X9_clean at hw
  refine ok_aload_n (pc := 0) a dX9_clean_0 rfl rfl ?_
  refine ok_iconst (pc := 1) a dX9_clean_1 ?_
  refine ok_pI (pc := 2) 0 a dX9_clean_2 lfRX9_77 fi_9_0 (Nat.lt_of_lt_of_le (by decide) hn) kq59 ty_9_0 rfl (fun h1 eh1 => ?_)
  have hw := hw h1 eh1
  refine ok_aload_n (pc := 5) a dX9_clean_5 rfl rfl ?_
  refine ok_fI (pc := 6) 22 a dX9_clean_6 lfRX9_129 (Nat.lt_of_lt_of_le (by decide) hn) kq59 ty_9_22 rfl ?_
  refine ok_aload_n (pc := 9) a dX9_clean_9 rfl rfl ?_
  refine ok_fI (pc := 10) 25 a dX9_clean_10 lfRX9_132 (Nat.lt_of_lt_of_le (by decide) hn) kq59 ty_9_25 rfl ?_
  refine ok_iadd (pc := 13) a dX9_clean_13 ?_
  refine ok_nmI (fun x1_14 ex1_14 => ?_)
  have hw := hw x1_14 ex1_14
  refine ok_sI_n (pc := 14) a [some (vR 59), some (vI x1_14)] dX9_clean_14 rfl (by decide) rfl rfl ?_
  refine ok_aload_n (pc := 15) a dX9_clean_15 rfl rfl ?_
  refine ok_iconst (pc := 16) a dX9_clean_16 ?_
  refine ok_pI (pc := 17) 22 a dX9_clean_17 lfRX9_129 fi_9_22 (Nat.lt_of_lt_of_le (by decide) hn) kq59 ty_9_22 rfl (fun h2 eh2 => ?_)
  have hw := hw h2 eh2
  refine ok_aload_n (pc := 20) a dX9_clean_20 rfl rfl ?_
  refine ok_iconst (pc := 21) a dX9_clean_21 ?_
  refine ok_pI (pc := 22) 25 a dX9_clean_22 lfRX9_132 fi_9_25 (Nat.lt_of_lt_of_le (by decide) hn) kq59 ty_9_25 rfl (fun h3 eh3 => ?_)
  have hw := hw h3 eh3
  refine ok_iload_n (pc := 25) a dX9_clean_25 rfl rfl ?_
  exact ok_iret (pc := 26) a dX9_clean_26 ⟨_, rfl, rfl, hw⟩

def wp_X9_rate_B40 (x1 : Int) (x2 : Int) (Q : Int → aH → Prop) (h1 : aH) (r6 : Int) (X40 : Int × Int × Int → Prop) (x4_40 : Int) (x5_40 : Int) (x6_40 : Int) : Prop :=
  inR x6_40 ∧ ((4 ≤ x6_40 → (inR x1 ∧ True) ∧ ∀ h14, h14 = up h1 59 1 ((h1 59 1) + (if x1 = 0 then 1 else (if x1 = 1 then 11 else (if x1 = 2 then 101 else (if x1 = 3 then 1011 else (if x1 = 4 then 10101 else 100001 : Int) : Int) : Int) : Int) : Int)) → (inR x1 ∧ True) ∧ Q (if x1 = 0 then r6 else (if x1 = 1 then x4_40 else (if x1 = 2 then x5_40 else (if x1 = 3 then (2 * x4_40) else (if x1 = 4 then (x5_40 + x2) else (r6 + (h14 66 0)) : Int) : Int) : Int) : Int) : Int) h14) ∧ (¬ 4 ≤ x6_40 → (0 ≤ ((1 + (4 * x2)) + x6_40) ∧ ((1 + (4 * x2)) + x6_40) < 23) ∧ ∀ x4_62, x4_62 = (x4_40 + (h1 66 ((1 + (4 * x2)) + x6_40))) → (0 ≤ ((4 * x2) + x6_40) ∧ ((4 * x2) + x6_40) < 32) ∧ ∀ x5_78, x5_78 = (x5_40 - (h1 64 ((4 * x2) + x6_40))) → X40 (x4_62, x5_78, (x6_40 + 1))))
def wp_X9_rate (x1 : Int) (x2 : Int) (h : aH) (Q : Int → aH → Prop) : Prop :=
  ∀ h1, h1 = up h 59 0 0 → wp_X9_in x1 0 5 h1 (fun r2 => ((r2 = 0 → Q (-1000000) h1) ∧ (¬ r2 = 0 → wp_X9_isPerson x2 h1 (fun r4 => ((r4 = 0 → Q (-1000000) h1) ∧ (¬ r4 = 0 → wp_X9_heaviness x2 h1 (fun r6 => lp (fun X y => wp_X9_rate_B40 x1 x2 Q h1 r6 X y.1 y.2.1 y.2.2) (r6, r6, 0))))))))
set_option maxRecDepth 100000 in
set_option maxHeartbeats 4000000 in
theorem M_X9_rate {Γ : Gm} {l : Launch} {n : Nat} {g : aG} (hn : 80 ≤ n) (tg : TM g) (x1 : Int) (x2 : Int)  {h : aH} {Q : Int → aH → Prop} (hw : wp_X9_rate x1 x2 h Q) : Cl Γ l mX9_rate [vR 59, vI x1, vI x2] n g h (RI g Q) := by
  refine Cl.of (by decide) [some (vR 59), some (vI x1), some (vI x2), none, none, none, none] rfl (Nat.le_of_ble_eq_true rfl) ?_
  intro p e s m args below meth c a
  unfold wp_X9_rate at hw
  refine ok_aload_n (pc := 0) a dX9_rate_0 rfl rfl ?_
  refine ok_iconst (pc := 1) a dX9_rate_1 ?_
  refine ok_pI (pc := 2) 0 a dX9_rate_2 lfRX9_77 fi_9_0 (Nat.lt_of_lt_of_le (by decide) hn) kq59 ty_9_0 rfl (fun h1 eh1 => ?_)
  have hw := hw h1 eh1
  refine ok_iload_n (pc := 5) a dX9_rate_5 rfl rfl ?_
  refine ok_iconst (pc := 6) a dX9_rate_6 ?_
  refine ok_iconst (pc := 7) a dX9_rate_7 ?_
  refine ok_SPZ (pc := 8) a [(vI x1), (vI 0), (vI 5)] [] (M_X9_in hn tg x1 0 5  hw) dX9_rate_8 lkRX9_81 rfl ⟨Nat.le_of_ble_eq_true rfl, Nat.le_of_ble_eq_true rfl⟩ rfl (Nat.le_of_ble_eq_true rfl) rfl (fun r2 hz3 hw => ?_)
  refine ok_if_eq (pc := 11) a 22 dX9_rate_11 (by decide) (inR_b hz3) (fun hd25 => ?_) (fun hd25 => ?_)
  · have hw := hw.1 hd25
    refine ok_ldc (pc := 22) (x := (-1000000)) a dX9_rate_22 ctRX9_202 (by decide) ?_
    exact ok_iret (pc := 24) a dX9_rate_24 ⟨_, rfl, rfl, hw⟩
  · have hw := hw.2 hd25
    refine ok_aload_n (pc := 14) a dX9_rate_14 rfl rfl ?_
    refine ok_iload_n (pc := 15) a dX9_rate_15 rfl rfl ?_
    refine ok_VPZ (pc := 16) a [(vI x2)] [] (M_X9_isPerson hn tg x2  hw) dX9_rate_16 lkRX9_143 rfl (Nat.lt_of_lt_of_le (by decide) hn) kq59 (by decide) rfl ⟨Nat.le_of_ble_eq_true rfl, Nat.le_of_ble_eq_true rfl⟩ rfl (Nat.le_of_ble_eq_true rfl) rfl (fun r4 hz5 hw => ?_)
    refine ok_if_ne (pc := 19) a 25 dX9_rate_19 (by decide) (inR_b hz5) (fun hd24 => ?_) (fun hd24 => ?_)
    · have hw := hw.2 hd24
      refine ok_aload_n (pc := 25) a dX9_rate_25 rfl rfl ?_
      refine ok_iload_n (pc := 26) a dX9_rate_26 rfl rfl ?_
      refine ok_VPI (pc := 27) a [(vI x2)] [] (M_X9_heaviness hn tg x2  hw) dX9_rate_27 lkRX9_150 rfl (Nat.lt_of_lt_of_le (by decide) hn) kq59 (by decide) rfl ⟨Nat.le_of_ble_eq_true rfl, Nat.le_of_ble_eq_true rfl⟩ rfl (Nat.le_of_ble_eq_true rfl) rfl (fun r6 hw => ?_)
      refine ok_sI_n (pc := 30) a [some (vR 59), some (vI x1), some (vI x2), some (vI r6), none, none, none] dX9_rate_30 rfl (by decide) rfl rfl ?_
      refine ok_iload_n (pc := 31) a dX9_rate_31 rfl rfl ?_
      refine ok_sI (pc := 32) a [some (vR 59), some (vI x1), some (vI x2), some (vI r6), some (vI r6), none, none] dX9_rate_32 (by decide) rfl rfl ?_
      refine ok_iload_n (pc := 34) a dX9_rate_34 rfl rfl ?_
      refine ok_sI (pc := 35) a [some (vR 59), some (vI x1), some (vI x2), some (vI r6), some (vI r6), some (vI r6), none] dX9_rate_35 (by decide) rfl rfl ?_
      refine ok_iconst (pc := 37) a dX9_rate_37 ?_
      refine ok_sI (pc := 38) a [some (vR 59), some (vI x1), some (vI x2), some (vI r6), some (vI r6), some (vI r6), some (vI 0)] dX9_rate_38 (by decide) rfl rfl ?_
      refine lp.use (P := fun y => OK Γ p l e (rmd 2 n n) s m args below meth c n (MQ below (QQ Γ n (RI g Q)) args s (n - n) (sl n - sl n) (AA Γ)) 40 [some (vR 59), some (vI x1), some (vI x2), some (vI r6), some (vI y.1), some (vI y.2.1), some (vI y.2.2)] [] n g h1) ?_ (r6, r6, 0) hw
      clear hw
      intro X40 hX40 y hw
      obtain ⟨x4_40, x5_40, x6_40⟩ := y
      have hw : wp_X9_rate_B40 x1 x2 Q h1 r6 X40 x4_40 x5_40 x6_40 := hw
      unfold wp_X9_rate_B40 at hw
      try dsimp only
      refine ok_iload (pc := 40) a dX9_rate_40 rfl ?_
      refine ok_iconst (pc := 42) a dX9_rate_42 ?_
      obtain ⟨hc7, hw⟩ := hw
      refine ok_icmp_ge (pc := 43) a 86 dX9_rate_43 (by decide) hc7 ⟨by decide, by decide⟩ (fun hd23 => ?_) (fun hd23 => ?_)
      · have hw := hw.1 hd23
        refine ok_aload_n (pc := 86) a dX9_rate_86 rfl rfl ?_
        refine ok_dup (pc := 87) a dX9_rate_87 (by rfl) ?_
        refine ok_fJ (pc := 88) 1 a dX9_rate_88 lfRX9_240 (Nat.lt_of_lt_of_le (by decide) hn) kq59 ty_9_1 rfl ?_
        refine ok_iload_n (pc := 91) a dX9_rate_91 rfl rfl ?_
        obtain ⟨hR, hw⟩ := hw
        have hK : OK Γ p l e (rmd 2 n n) s m args below meth c n (MQ below (QQ Γ n (RI g Q)) args s (n - n) (sl n - sl n) (AA Γ)) 146 [some (vR 59), some (vI x1), some (vI x2), some (vI r6), some (vI x4_40), some (vI x5_40), some (vI x6_40)] [(vL (if x1 = 0 then 1 else (if x1 = 1 then 11 else (if x1 = 2 then 101 else (if x1 = 3 then 1011 else (if x1 = 4 then 10101 else 100001 : Int) : Int) : Int) : Int) : Int)), (vL (h1 59 1)), (vR 59)] n g h1 := by
          refine ok_ladd (pc := 146) a dX9_rate_146 ?_
          refine ok_pJ (pc := 147) 1 a dX9_rate_147 lfRX9_240 fi_9_1 (Nat.lt_of_lt_of_le (by decide) hn) kq59 ty_9_1 rfl (fun h14 eh14 => ?_)
          have hw := hw h14 eh14
          refine ok_iload_n (pc := 150) a dX9_rate_150 rfl rfl ?_
          obtain ⟨hR, hw⟩ := hw
          have hK : OK Γ p l e (rmd 2 n n) s m args below meth c n (MQ below (QQ Γ n (RI g Q)) args s (n - n) (sl n - sl n) (AA Γ)) 210 [some (vR 59), some (vI x1), some (vI x2), some (vI r6), some (vI x4_40), some (vI x5_40), some (vI x6_40)] [(vI (if x1 = 0 then r6 else (if x1 = 1 then x4_40 else (if x1 = 2 then x5_40 else (if x1 = 3 then (2 * x4_40) else (if x1 = 4 then (x5_40 + x2) else (r6 + (h14 66 0)) : Int) : Int) : Int) : Int) : Int))] n g h14 := by
            exact ok_iret (pc := 210) a dX9_rate_210 ⟨_, rfl, rfl, hw⟩
          have hw := hR
          obtain ⟨hc15, hw⟩ := hw
          refine ok_if_ne (pc := 151) a 158 dX9_rate_151 (by decide) hc15 (fun hd16 => ?_) (fun hd16 => ?_)
          · refine ok_iload_n (pc := 158) a dX9_rate_158 rfl rfl ?_
            refine ok_iconst (pc := 159) a dX9_rate_159 ?_
            refine ok_icmp_ne (pc := 160) a 168 dX9_rate_160 (by decide) hc15 ⟨by decide, by decide⟩ (fun hd17 => ?_) (fun hd17 => ?_)
            · refine ok_iload_n (pc := 168) a dX9_rate_168 rfl rfl ?_
              refine ok_iconst (pc := 169) a dX9_rate_169 ?_
              refine ok_icmp_ne (pc := 170) a 178 dX9_rate_170 (by decide) hc15 ⟨by decide, by decide⟩ (fun hd18 => ?_) (fun hd18 => ?_)
              · refine ok_iload_n (pc := 178) a dX9_rate_178 rfl rfl ?_
                refine ok_iconst (pc := 179) a dX9_rate_179 ?_
                refine ok_icmp_ne (pc := 180) a 190 dX9_rate_180 (by decide) hc15 ⟨by decide, by decide⟩ (fun hd19 => ?_) (fun hd19 => ?_)
                · refine ok_iload_n (pc := 190) a dX9_rate_190 rfl rfl ?_
                  refine ok_iconst (pc := 191) a dX9_rate_191 ?_
                  refine ok_icmp_ne (pc := 192) a 202 dX9_rate_192 (by decide) hc15 ⟨by decide, by decide⟩ (fun hd20 => ?_) (fun hd20 => ?_)
                  · refine ok_iload_n (pc := 202) a dX9_rate_202 rfl rfl ?_
                    refine ok_aload_n (pc := 203) a dX9_rate_203 rfl rfl ?_
                    refine ok_getR (pc := 204) a dX9_rate_204 lfRX9_28 (Nat.lt_of_lt_of_le (by decide) hn) kq59 rfl (tg.at 59 14 66 (by decide) (by decide)) ?_
                    refine ok_iconst (pc := 207) a dX9_rate_207 ?_
                    refine ok_iald (pc := 208) a dX9_rate_208 (Nat.lt_of_lt_of_le (by decide) hn) kq66 (by decide) ⟨by decide, by decide⟩ ?_
                    refine ok_iadd (pc := 209) a dX9_rate_209 ?_
                    simp only [if_neg hd16, if_neg hd17, if_neg hd18, if_neg hd19, if_neg hd20] at hK
                    exact hK
                  · refine ok_iload (pc := 195) a dX9_rate_195 rfl ?_
                    refine ok_iload_n (pc := 197) a dX9_rate_197 rfl rfl ?_
                    refine ok_iadd (pc := 198) a dX9_rate_198 ?_
                    refine ok_goto (pc := 199) a 210 dX9_rate_199 (by decide) ?_
                    simp only [if_neg hd16, if_neg hd17, if_neg hd18, if_neg hd19, if_pos hd20] at hK
                    exact hK
                · refine ok_iconst (pc := 183) a dX9_rate_183 ?_
                  refine ok_iload (pc := 184) a dX9_rate_184 rfl ?_
                  refine ok_imul (pc := 186) a dX9_rate_186 ?_
                  refine ok_goto (pc := 187) a 210 dX9_rate_187 (by decide) ?_
                  simp only [if_neg hd16, if_neg hd17, if_neg hd18, if_pos hd19] at hK
                  exact hK
              · refine ok_iload (pc := 173) a dX9_rate_173 rfl ?_
                refine ok_goto (pc := 175) a 210 dX9_rate_175 (by decide) ?_
                simp only [if_neg hd16, if_neg hd17, if_pos hd18] at hK
                exact hK
            · refine ok_iload (pc := 163) a dX9_rate_163 rfl ?_
              refine ok_goto (pc := 165) a 210 dX9_rate_165 (by decide) ?_
              simp only [if_neg hd16, if_pos hd17] at hK
              exact hK
          · refine ok_iload_n (pc := 154) a dX9_rate_154 rfl rfl ?_
            refine ok_goto (pc := 155) a 210 dX9_rate_155 (by decide) ?_
            simp only [if_pos hd16] at hK
            exact hK
        have hw := hR
        obtain ⟨hc8, hw⟩ := hw
        refine ok_if_ne (pc := 92) a 99 dX9_rate_92 (by decide) hc8 (fun hd9 => ?_) (fun hd9 => ?_)
        · refine ok_iload_n (pc := 99) a dX9_rate_99 rfl rfl ?_
          refine ok_iconst (pc := 100) a dX9_rate_100 ?_
          refine ok_icmp_ne (pc := 101) a 110 dX9_rate_101 (by decide) hc8 ⟨by decide, by decide⟩ (fun hd10 => ?_) (fun hd10 => ?_)
          · refine ok_iload_n (pc := 110) a dX9_rate_110 rfl rfl ?_
            refine ok_iconst (pc := 111) a dX9_rate_111 ?_
            refine ok_icmp_ne (pc := 112) a 121 dX9_rate_112 (by decide) hc8 ⟨by decide, by decide⟩ (fun hd11 => ?_) (fun hd11 => ?_)
            · refine ok_iload_n (pc := 121) a dX9_rate_121 rfl rfl ?_
              refine ok_iconst (pc := 122) a dX9_rate_122 ?_
              refine ok_icmp_ne (pc := 123) a 132 dX9_rate_123 (by decide) hc8 ⟨by decide, by decide⟩ (fun hd12 => ?_) (fun hd12 => ?_)
              · refine ok_iload_n (pc := 132) a dX9_rate_132 rfl rfl ?_
                refine ok_iconst (pc := 133) a dX9_rate_133 ?_
                refine ok_icmp_ne (pc := 134) a 143 dX9_rate_134 (by decide) hc8 ⟨by decide, by decide⟩ (fun hd13 => ?_) (fun hd13 => ?_)
                · refine ok_ldc2 (pc := 143) (x := 100001) a dX9_rate_143 ctRX9_252 (by decide) ?_
                  simp only [if_neg hd9, if_neg hd10, if_neg hd11, if_neg hd12, if_neg hd13] at hK
                  exact hK
                · refine ok_ldc2 (pc := 137) (x := 10101) a dX9_rate_137 ctRX9_250 (by decide) ?_
                  refine ok_goto (pc := 140) a 146 dX9_rate_140 (by decide) ?_
                  simp only [if_neg hd9, if_neg hd10, if_neg hd11, if_neg hd12, if_pos hd13] at hK
                  exact hK
              · refine ok_ldc2 (pc := 126) (x := 1011) a dX9_rate_126 ctRX9_248 (by decide) ?_
                refine ok_goto (pc := 129) a 146 dX9_rate_129 (by decide) ?_
                simp only [if_neg hd9, if_neg hd10, if_neg hd11, if_pos hd12] at hK
                exact hK
            · refine ok_ldc2 (pc := 115) (x := 101) a dX9_rate_115 ctRX9_246 (by decide) ?_
              refine ok_goto (pc := 118) a 146 dX9_rate_118 (by decide) ?_
              simp only [if_neg hd9, if_neg hd10, if_pos hd11] at hK
              exact hK
          · refine ok_ldc2 (pc := 104) (x := 11) a dX9_rate_104 ctRX9_244 (by decide) ?_
            refine ok_goto (pc := 107) a 146 dX9_rate_107 (by decide) ?_
            simp only [if_neg hd9, if_pos hd10] at hK
            exact hK
        · refine ok_lconst (pc := 95) (x := 1) a dX9_rate_95 (by decide) ?_
          refine ok_goto (pc := 96) a 146 dX9_rate_96 (by decide) ?_
          simp only [if_pos hd9] at hK
          exact hK
      · have hw := hw.2 hd23
        refine ok_iload (pc := 46) a dX9_rate_46 rfl ?_
        refine ok_aload_n (pc := 48) a dX9_rate_48 rfl rfl ?_
        refine ok_getR (pc := 49) a dX9_rate_49 lfRX9_28 (Nat.lt_of_lt_of_le (by decide) hn) kq59 rfl (tg.at 59 14 66 (by decide) (by decide)) ?_
        refine ok_iconst (pc := 52) a dX9_rate_52 ?_
        refine ok_iconst (pc := 53) a dX9_rate_53 ?_
        refine ok_iload_n (pc := 54) a dX9_rate_54 rfl rfl ?_
        refine ok_imul (pc := 55) a dX9_rate_55 ?_
        refine ok_iadd (pc := 56) a dX9_rate_56 ?_
        refine ok_iload (pc := 57) a dX9_rate_57 rfl ?_
        refine ok_iadd (pc := 59) a dX9_rate_59 ?_
        obtain ⟨hc21, hw⟩ := hw
        refine ok_iald (pc := 60) a dX9_rate_60 (Nat.lt_of_lt_of_le (by decide) hn) kq66 (by decide) hc21 ?_
        refine ok_iadd (pc := 61) a dX9_rate_61 ?_
        refine ok_nmI (fun x4_62 ex4_62 => ?_)
        have hw := hw x4_62 ex4_62
        refine ok_sI (pc := 62) a [some (vR 59), some (vI x1), some (vI x2), some (vI r6), some (vI x4_62), some (vI x5_40), some (vI x6_40)] dX9_rate_62 (by decide) rfl rfl ?_
        refine ok_iload (pc := 64) a dX9_rate_64 rfl ?_
        refine ok_aload_n (pc := 66) a dX9_rate_66 rfl rfl ?_
        refine ok_getR (pc := 67) a dX9_rate_67 lfRX9_22 (Nat.lt_of_lt_of_le (by decide) hn) kq59 rfl (tg.at 59 12 64 (by decide) (by decide)) ?_
        refine ok_iconst (pc := 70) a dX9_rate_70 ?_
        refine ok_iload_n (pc := 71) a dX9_rate_71 rfl rfl ?_
        refine ok_imul (pc := 72) a dX9_rate_72 ?_
        refine ok_iload (pc := 73) a dX9_rate_73 rfl ?_
        refine ok_iadd (pc := 75) a dX9_rate_75 ?_
        obtain ⟨hc22, hw⟩ := hw
        refine ok_iald (pc := 76) a dX9_rate_76 (Nat.lt_of_lt_of_le (by decide) hn) kq64 (by decide) hc22 ?_
        refine ok_isub (pc := 77) a dX9_rate_77 ?_
        refine ok_nmI (fun x5_78 ex5_78 => ?_)
        have hw := hw x5_78 ex5_78
        refine ok_sI (pc := 78) a [some (vR 59), some (vI x1), some (vI x2), some (vI r6), some (vI x4_62), some (vI x5_78), some (vI x6_40)] dX9_rate_78 (by decide) rfl rfl ?_
        refine ok_inc (pc := 80) a [some (vR 59), some (vI x1), some (vI x2), some (vI r6), some (vI x4_62), some (vI x5_78), some (vI (x6_40 + 1))] dX9_rate_80 rfl (by decide) rfl rfl ?_
        refine ok_goto (pc := 83) a 40 dX9_rate_83 (by decide) ?_
        exact hX40 (x4_62, x5_78, (x6_40 + 1)) hw
    · have hw := hw.1 hd24
      refine ok_ldc (pc := 22) (x := (-1000000)) a dX9_rate_22 ctRX9_202 (by decide) ?_
      exact ok_iret (pc := 24) a dX9_rate_24 ⟨_, rfl, rfl, hw⟩

def wp_X9_keep_B18 (x1 : Int) (Q : Int → aH → Prop) (X18 : Int × aH → Prop) (x2_18 : Int) (h_18 : aH) : Prop :=
  inR x2_18 ∧ ((23 ≤ x2_18 → (0 ≤ x1 ∧ x1 < 2) ∧ ∀ h6, h6 = up h_18 68 x1 1 → Q (h6 66 0) h6) ∧ (¬ 23 ≤ x2_18 → (0 ≤ x2_18 ∧ x2_18 < 23) ∧ (0 ≤ ((23 * x1) + x2_18) ∧ ((23 * x1) + x2_18) < 46) ∧ ∀ h9, h9 = up h_18 67 ((23 * x1) + x2_18) (h_18 66 x2_18) → X18 ((x2_18 + 1), h9)))
def wp_X9_keep (x1 : Int) (h : aH) (Q : Int → aH → Prop) : Prop :=
  ∀ h1, h1 = up h 59 0 0 → wp_X9_in x1 0 1 h1 (fun r2 => ((r2 = 0 → Q (-1) h1) ∧ (¬ r2 = 0 → lp (fun X y => wp_X9_keep_B18 x1 Q X y.1 y.2) (0, h1))))
set_option maxRecDepth 100000 in
set_option maxHeartbeats 4000000 in
theorem M_X9_keep {Γ : Gm} {l : Launch} {n : Nat} {g : aG} (hn : 80 ≤ n) (tg : TM g) (x1 : Int)  {h : aH} {Q : Int → aH → Prop} (hw : wp_X9_keep x1 h Q) : Cl Γ l mX9_keep [vR 59, vI x1] n g h (RI g Q) := by
  refine Cl.of (by decide) [some (vR 59), some (vI x1), none] rfl (Nat.le_of_ble_eq_true rfl) ?_
  intro p e s m args below meth c a
  unfold wp_X9_keep at hw
  refine ok_aload_n (pc := 0) a dX9_keep_0 rfl rfl ?_
  refine ok_iconst (pc := 1) a dX9_keep_1 ?_
  refine ok_pI (pc := 2) 0 a dX9_keep_2 lfRX9_77 fi_9_0 (Nat.lt_of_lt_of_le (by decide) hn) kq59 ty_9_0 rfl (fun h1 eh1 => ?_)
  have hw := hw h1 eh1
  refine ok_iload_n (pc := 5) a dX9_keep_5 rfl rfl ?_
  refine ok_iconst (pc := 6) a dX9_keep_6 ?_
  refine ok_iconst (pc := 7) a dX9_keep_7 ?_
  refine ok_SPZ (pc := 8) a [(vI x1), (vI 0), (vI 1)] [] (M_X9_in hn tg x1 0 1  hw) dX9_keep_8 lkRX9_81 rfl ⟨Nat.le_of_ble_eq_true rfl, Nat.le_of_ble_eq_true rfl⟩ rfl (Nat.le_of_ble_eq_true rfl) rfl (fun r2 hz3 hw => ?_)
  refine ok_if_ne (pc := 11) a 16 dX9_keep_11 (by decide) (inR_b hz3) (fun hd11 => ?_) (fun hd11 => ?_)
  · have hw := hw.2 hd11
    refine ok_iconst (pc := 16) a dX9_keep_16 ?_
    refine ok_sI_n (pc := 17) a [some (vR 59), some (vI x1), some (vI 0)] dX9_keep_17 rfl (by decide) rfl rfl ?_
    refine lp.use (P := fun y => OK Γ p l e (rmd 1 n n) s m args below meth c n (MQ below (QQ Γ n (RI g Q)) args s (n - n) (sl n - sl n) (AA Γ)) 18 [some (vR 59), some (vI x1), some (vI y.1)] [] n g y.2) ?_ (0, h1) hw
    clear hw
    intro X18 hX18 y hw
    obtain ⟨x2_18, h_18⟩ := y
    have hw : wp_X9_keep_B18 x1 Q X18 x2_18 h_18 := hw
    unfold wp_X9_keep_B18 at hw
    try dsimp only
    refine ok_iload_n (pc := 18) a dX9_keep_18 rfl rfl ?_
    refine ok_bipush (pc := 19) a dX9_keep_19 (by decide) ?_
    obtain ⟨hc4, hw⟩ := hw
    refine ok_icmp_ge (pc := 21) a 47 dX9_keep_21 (by decide) hc4 ⟨by decide, by decide⟩ (fun hd10 => ?_) (fun hd10 => ?_)
    · have hw := hw.1 hd10
      refine ok_aload_n (pc := 47) a dX9_keep_47 rfl rfl ?_
      refine ok_getR (pc := 48) a dX9_keep_48 lfRX9_34 (Nat.lt_of_lt_of_le (by decide) hn) kq59 rfl (tg.at 59 16 68 (by decide) (by decide)) ?_
      refine ok_iload_n (pc := 51) a dX9_keep_51 rfl rfl ?_
      refine ok_iconst (pc := 52) a dX9_keep_52 ?_
      obtain ⟨hc5, hw⟩ := hw
      refine ok_bast (pc := 53) a dX9_keep_53 (Nat.lt_of_lt_of_le (by decide) hn) kq68 (by decide) hc5 (Or.inr rfl) (ok_nmH (fun h6 eh6 => ?_))
      have hw := hw h6 eh6
      refine ok_aload_n (pc := 54) a dX9_keep_54 rfl rfl ?_
      refine ok_getR (pc := 55) a dX9_keep_55 lfRX9_28 (Nat.lt_of_lt_of_le (by decide) hn) kq59 rfl (tg.at 59 14 66 (by decide) (by decide)) ?_
      refine ok_iconst (pc := 58) a dX9_keep_58 ?_
      refine ok_iald (pc := 59) a dX9_keep_59 (Nat.lt_of_lt_of_le (by decide) hn) kq66 (by decide) ⟨by decide, by decide⟩ ?_
      exact ok_iret (pc := 60) a dX9_keep_60 ⟨_, rfl, rfl, hw⟩
    · have hw := hw.2 hd10
      refine ok_aload_n (pc := 24) a dX9_keep_24 rfl rfl ?_
      refine ok_getR (pc := 25) a dX9_keep_25 lfRX9_31 (Nat.lt_of_lt_of_le (by decide) hn) kq59 rfl (tg.at 59 15 67 (by decide) (by decide)) ?_
      refine ok_bipush (pc := 28) a dX9_keep_28 (by decide) ?_
      refine ok_iload_n (pc := 30) a dX9_keep_30 rfl rfl ?_
      refine ok_imul (pc := 31) a dX9_keep_31 ?_
      refine ok_iload_n (pc := 32) a dX9_keep_32 rfl rfl ?_
      refine ok_iadd (pc := 33) a dX9_keep_33 ?_
      refine ok_aload_n (pc := 34) a dX9_keep_34 rfl rfl ?_
      refine ok_getR (pc := 35) a dX9_keep_35 lfRX9_28 (Nat.lt_of_lt_of_le (by decide) hn) kq59 rfl (tg.at 59 14 66 (by decide) (by decide)) ?_
      refine ok_iload_n (pc := 38) a dX9_keep_38 rfl rfl ?_
      obtain ⟨hc7, hw⟩ := hw
      refine ok_iald (pc := 39) a dX9_keep_39 (Nat.lt_of_lt_of_le (by decide) hn) kq66 (by decide) hc7 ?_
      obtain ⟨hc8, hw⟩ := hw
      refine ok_iast (pc := 40) a dX9_keep_40 (Nat.lt_of_lt_of_le (by decide) hn) kq67 (by decide) hc8 (ok_nmH (fun h9 eh9 => ?_))
      have hw := hw h9 eh9
      refine ok_inc (pc := 41) a [some (vR 59), some (vI x1), some (vI (x2_18 + 1))] dX9_keep_41 rfl (by decide) rfl rfl ?_
      refine ok_goto (pc := 44) a 18 dX9_keep_44 (by decide) ?_
      exact hX18 ((x2_18 + 1), h9) hw
  · have hw := hw.1 hd11
    refine ok_iconst (pc := 14) a dX9_keep_14 ?_
    exact ok_iret (pc := 15) a dX9_keep_15 ⟨_, rfl, rfl, hw⟩

def wp_X9_back_B30 (x1 : Int) (Q : Int → aH → Prop) (X30 : Int × aH → Prop) (x2_30 : Int) (h_30 : aH) : Prop :=
  inR x2_30 ∧ ((23 ≤ x2_30 → ∀ h7, h7 = up h_30 59 18 0 → Q (h7 66 0) h7) ∧ (¬ 23 ≤ x2_30 → (0 ≤ ((23 * x1) + x2_30) ∧ ((23 * x1) + x2_30) < 46) ∧ (0 ≤ x2_30 ∧ x2_30 < 23) ∧ ∀ h10, h10 = up h_30 66 x2_30 (h_30 67 ((23 * x1) + x2_30)) → X30 ((x2_30 + 1), h10)))
def wp_X9_back (x1 : Int) (h : aH) (Q : Int → aH → Prop) : Prop :=
  ∀ h1, h1 = up h 59 0 0 → wp_X9_in x1 0 1 h1 (fun r2 => ((r2 = 0 → Q (-1) h1) ∧ (¬ r2 = 0 → (0 ≤ x1 ∧ x1 < 2) ∧ inR (h1 68 x1) ∧ (((h1 68 x1) = 0 → Q (-2) h1) ∧ (¬ (h1 68 x1) = 0 → lp (fun X y => wp_X9_back_B30 x1 Q X y.1 y.2) (0, h1))))))
set_option maxRecDepth 100000 in
set_option maxHeartbeats 4000000 in
theorem M_X9_back {Γ : Gm} {l : Launch} {n : Nat} {g : aG} (hn : 80 ≤ n) (tg : TM g) (x1 : Int)  {h : aH} {Q : Int → aH → Prop} (hw : wp_X9_back x1 h Q) : Cl Γ l mX9_back [vR 59, vI x1] n g h (RI g Q) := by
  refine Cl.of (by decide) [some (vR 59), some (vI x1), none] rfl (Nat.le_of_ble_eq_true rfl) ?_
  intro p e s m args below meth c a
  unfold wp_X9_back at hw
  refine ok_aload_n (pc := 0) a dX9_back_0 rfl rfl ?_
  refine ok_iconst (pc := 1) a dX9_back_1 ?_
  refine ok_pI (pc := 2) 0 a dX9_back_2 lfRX9_77 fi_9_0 (Nat.lt_of_lt_of_le (by decide) hn) kq59 ty_9_0 rfl (fun h1 eh1 => ?_)
  have hw := hw h1 eh1
  refine ok_iload_n (pc := 5) a dX9_back_5 rfl rfl ?_
  refine ok_iconst (pc := 6) a dX9_back_6 ?_
  refine ok_iconst (pc := 7) a dX9_back_7 ?_
  refine ok_SPZ (pc := 8) a [(vI x1), (vI 0), (vI 1)] [] (M_X9_in hn tg x1 0 1  hw) dX9_back_8 lkRX9_81 rfl ⟨Nat.le_of_ble_eq_true rfl, Nat.le_of_ble_eq_true rfl⟩ rfl (Nat.le_of_ble_eq_true rfl) rfl (fun r2 hz3 hw => ?_)
  refine ok_if_ne (pc := 11) a 16 dX9_back_11 (by decide) (inR_b hz3) (fun hd13 => ?_) (fun hd13 => ?_)
  · have hw := hw.2 hd13
    refine ok_aload_n (pc := 16) a dX9_back_16 rfl rfl ?_
    refine ok_getR (pc := 17) a dX9_back_17 lfRX9_34 (Nat.lt_of_lt_of_le (by decide) hn) kq59 rfl (tg.at 59 16 68 (by decide) (by decide)) ?_
    refine ok_iload_n (pc := 20) a dX9_back_20 rfl rfl ?_
    obtain ⟨hc4, hw⟩ := hw
    refine ok_bald (pc := 21) a dX9_back_21 (Nat.lt_of_lt_of_le (by decide) hn) kq68 (by decide) hc4 ?_
    obtain ⟨hc5, hw⟩ := hw
    refine ok_if_ne (pc := 22) a 28 dX9_back_22 (by decide) hc5 (fun hd12 => ?_) (fun hd12 => ?_)
    · have hw := hw.2 hd12
      refine ok_iconst (pc := 28) a dX9_back_28 ?_
      refine ok_sI_n (pc := 29) a [some (vR 59), some (vI x1), some (vI 0)] dX9_back_29 rfl (by decide) rfl rfl ?_
      refine lp.use (P := fun y => OK Γ p l e (rmd 1 n n) s m args below meth c n (MQ below (QQ Γ n (RI g Q)) args s (n - n) (sl n - sl n) (AA Γ)) 30 [some (vR 59), some (vI x1), some (vI y.1)] [] n g y.2) ?_ (0, h1) hw
      clear hw
      intro X30 hX30 y hw
      obtain ⟨x2_30, h_30⟩ := y
      have hw : wp_X9_back_B30 x1 Q X30 x2_30 h_30 := hw
      unfold wp_X9_back_B30 at hw
      try dsimp only
      refine ok_iload_n (pc := 30) a dX9_back_30 rfl rfl ?_
      refine ok_bipush (pc := 31) a dX9_back_31 (by decide) ?_
      obtain ⟨hc6, hw⟩ := hw
      refine ok_icmp_ge (pc := 33) a 59 dX9_back_33 (by decide) hc6 ⟨by decide, by decide⟩ (fun hd11 => ?_) (fun hd11 => ?_)
      · have hw := hw.1 hd11
        refine ok_aload_n (pc := 59) a dX9_back_59 rfl rfl ?_
        refine ok_iconst (pc := 60) a dX9_back_60 ?_
        refine ok_pI (pc := 61) 18 a dX9_back_61 lfRX9_135 fi_9_18 (Nat.lt_of_lt_of_le (by decide) hn) kq59 ty_9_18 rfl (fun h7 eh7 => ?_)
        have hw := hw h7 eh7
        refine ok_aload_n (pc := 64) a dX9_back_64 rfl rfl ?_
        refine ok_getR (pc := 65) a dX9_back_65 lfRX9_28 (Nat.lt_of_lt_of_le (by decide) hn) kq59 rfl (tg.at 59 14 66 (by decide) (by decide)) ?_
        refine ok_iconst (pc := 68) a dX9_back_68 ?_
        refine ok_iald (pc := 69) a dX9_back_69 (Nat.lt_of_lt_of_le (by decide) hn) kq66 (by decide) ⟨by decide, by decide⟩ ?_
        exact ok_iret (pc := 70) a dX9_back_70 ⟨_, rfl, rfl, hw⟩
      · have hw := hw.2 hd11
        refine ok_aload_n (pc := 36) a dX9_back_36 rfl rfl ?_
        refine ok_getR (pc := 37) a dX9_back_37 lfRX9_28 (Nat.lt_of_lt_of_le (by decide) hn) kq59 rfl (tg.at 59 14 66 (by decide) (by decide)) ?_
        refine ok_iload_n (pc := 40) a dX9_back_40 rfl rfl ?_
        refine ok_aload_n (pc := 41) a dX9_back_41 rfl rfl ?_
        refine ok_getR (pc := 42) a dX9_back_42 lfRX9_31 (Nat.lt_of_lt_of_le (by decide) hn) kq59 rfl (tg.at 59 15 67 (by decide) (by decide)) ?_
        refine ok_bipush (pc := 45) a dX9_back_45 (by decide) ?_
        refine ok_iload_n (pc := 47) a dX9_back_47 rfl rfl ?_
        refine ok_imul (pc := 48) a dX9_back_48 ?_
        refine ok_iload_n (pc := 49) a dX9_back_49 rfl rfl ?_
        refine ok_iadd (pc := 50) a dX9_back_50 ?_
        obtain ⟨hc8, hw⟩ := hw
        refine ok_iald (pc := 51) a dX9_back_51 (Nat.lt_of_lt_of_le (by decide) hn) kq67 (by decide) hc8 ?_
        obtain ⟨hc9, hw⟩ := hw
        refine ok_iast (pc := 52) a dX9_back_52 (Nat.lt_of_lt_of_le (by decide) hn) kq66 (by decide) hc9 (ok_nmH (fun h10 eh10 => ?_))
        have hw := hw h10 eh10
        refine ok_inc (pc := 53) a [some (vR 59), some (vI x1), some (vI (x2_30 + 1))] dX9_back_53 rfl (by decide) rfl rfl ?_
        refine ok_goto (pc := 56) a 30 dX9_back_56 (by decide) ?_
        exact hX30 ((x2_30 + 1), h10) hw
    · have hw := hw.1 hd12
      refine ok_bipush (pc := 25) a dX9_back_25 (by decide) ?_
      exact ok_iret (pc := 27) a dX9_back_27 ⟨_, rfl, rfl, hw⟩
  · have hw := hw.1 hd13
    refine ok_iconst (pc := 14) a dX9_back_14 ?_
    exact ok_iret (pc := 15) a dX9_back_15 ⟨_, rfl, rfl, hw⟩

def wp_X9_count (x1 : Int) (h : aH) (Q : Int → aH → Prop) : Prop :=
  ∀ h1, h1 = up h 59 0 0 → wp_X9_in x1 0 1 h1 (fun r2 => (((r2 = 0 → inR x1 ∧ True) ∧ (¬ r2 = 0 → (0 ≤ x1 ∧ x1 < 4) ∧ True))) ∧ Q (if r2 = 0 then (if x1 = 2 then (h1 59 22) else (if x1 = 3 then (h1 59 25) else (if x1 = 4 then (h1 59 3) else (-1) : Int) : Int) : Int) else (h1 61 x1) : Int) h1)
set_option maxRecDepth 100000 in
set_option maxHeartbeats 4000000 in
theorem M_X9_count {Γ : Gm} {l : Launch} {n : Nat} {g : aG} (hn : 80 ≤ n) (tg : TM g) (x1 : Int)  {h : aH} {Q : Int → aH → Prop} (hw : wp_X9_count x1 h Q) : Cl Γ l mX9_count [vR 59, vI x1] n g h (RI g Q) := by
  refine Cl.of (by decide) [some (vR 59), some (vI x1)] rfl (Nat.le_of_ble_eq_true rfl) ?_
  intro p e s m args below meth c a
  unfold wp_X9_count at hw
  refine ok_aload_n (pc := 0) a dX9_count_0 rfl rfl ?_
  refine ok_iconst (pc := 1) a dX9_count_1 ?_
  refine ok_pI (pc := 2) 0 a dX9_count_2 lfRX9_77 fi_9_0 (Nat.lt_of_lt_of_le (by decide) hn) kq59 ty_9_0 rfl (fun h1 eh1 => ?_)
  have hw := hw h1 eh1
  refine ok_iload_n (pc := 5) a dX9_count_5 rfl rfl ?_
  refine ok_iconst (pc := 6) a dX9_count_6 ?_
  refine ok_iconst (pc := 7) a dX9_count_7 ?_
  refine ok_SPZ (pc := 8) a [(vI x1), (vI 0), (vI 1)] [] (M_X9_in hn tg x1 0 1  hw) dX9_count_8 lkRX9_81 rfl ⟨Nat.le_of_ble_eq_true rfl, Nat.le_of_ble_eq_true rfl⟩ rfl (Nat.le_of_ble_eq_true rfl) rfl (fun r2 hz3 hw => ?_)
  obtain ⟨hR, hw⟩ := hw
  have hK : OK Γ p l e (rmd 1 n n) s m args below meth c n (MQ below (QQ Γ n (RI g Q)) args s (n - n) (sl n - sl n) (AA Γ)) 60 [some (vR 59), some (vI x1)] [(vI (if r2 = 0 then (if x1 = 2 then (h1 59 22) else (if x1 = 3 then (h1 59 25) else (if x1 = 4 then (h1 59 3) else (-1) : Int) : Int) : Int) else (h1 61 x1) : Int))] n g h1 := by
    exact ok_iret (pc := 60) a dX9_count_60 ⟨_, rfl, rfl, hw⟩
  have hw := hR
  refine ok_if_eq (pc := 11) a 23 dX9_count_11 (by decide) (inR_b hz3) (fun hd4 => ?_) (fun hd4 => ?_)
  · have hw := hw.1 hd4
    refine ok_iload_n (pc := 23) a dX9_count_23 rfl rfl ?_
    refine ok_iconst (pc := 24) a dX9_count_24 ?_
    obtain ⟨hc5, hw⟩ := hw
    refine ok_icmp_ne (pc := 25) a 35 dX9_count_25 (by decide) hc5 ⟨by decide, by decide⟩ (fun hd6 => ?_) (fun hd6 => ?_)
    · refine ok_iload_n (pc := 35) a dX9_count_35 rfl rfl ?_
      refine ok_iconst (pc := 36) a dX9_count_36 ?_
      refine ok_icmp_ne (pc := 37) a 47 dX9_count_37 (by decide) hc5 ⟨by decide, by decide⟩ (fun hd7 => ?_) (fun hd7 => ?_)
      · refine ok_iload_n (pc := 47) a dX9_count_47 rfl rfl ?_
        refine ok_iconst (pc := 48) a dX9_count_48 ?_
        refine ok_icmp_ne (pc := 49) a 59 dX9_count_49 (by decide) hc5 ⟨by decide, by decide⟩ (fun hd8 => ?_) (fun hd8 => ?_)
        · refine ok_iconst (pc := 59) a dX9_count_59 ?_
          simp only [if_pos hd4, if_neg hd6, if_neg hd7, if_neg hd8] at hK
          exact hK
        · refine ok_aload_n (pc := 52) a dX9_count_52 rfl rfl ?_
          refine ok_fI (pc := 53) 3 a dX9_count_53 lfRX9_85 (Nat.lt_of_lt_of_le (by decide) hn) kq59 ty_9_3 rfl ?_
          refine ok_goto (pc := 56) a 60 dX9_count_56 (by decide) ?_
          simp only [if_pos hd4, if_neg hd6, if_neg hd7, if_pos hd8] at hK
          exact hK
      · refine ok_aload_n (pc := 40) a dX9_count_40 rfl rfl ?_
        refine ok_fI (pc := 41) 25 a dX9_count_41 lfRX9_132 (Nat.lt_of_lt_of_le (by decide) hn) kq59 ty_9_25 rfl ?_
        refine ok_goto (pc := 44) a 60 dX9_count_44 (by decide) ?_
        simp only [if_pos hd4, if_neg hd6, if_pos hd7] at hK
        exact hK
    · refine ok_aload_n (pc := 28) a dX9_count_28 rfl rfl ?_
      refine ok_fI (pc := 29) 22 a dX9_count_29 lfRX9_129 (Nat.lt_of_lt_of_le (by decide) hn) kq59 ty_9_22 rfl ?_
      refine ok_goto (pc := 32) a 60 dX9_count_32 (by decide) ?_
      simp only [if_pos hd4, if_pos hd6] at hK
      exact hK
  · have hw := hw.2 hd4
    refine ok_aload_n (pc := 14) a dX9_count_14 rfl rfl ?_
    refine ok_getR (pc := 15) a dX9_count_15 lfRX9_13 (Nat.lt_of_lt_of_le (by decide) hn) kq59 rfl (tg.at 59 9 61 (by decide) (by decide)) ?_
    refine ok_iload_n (pc := 18) a dX9_count_18 rfl rfl ?_
    obtain ⟨hc9, hw⟩ := hw
    refine ok_iald (pc := 19) a dX9_count_19 (Nat.lt_of_lt_of_le (by decide) hn) kq61 (by decide) hc9 ?_
    refine ok_goto (pc := 20) a 60 dX9_count_20 (by decide) ?_
    simp only [if_neg hd4] at hK
    exact hK

def wp_X9_trace  (h : aH) (Q : Int → aH → Prop) : Prop :=
  ∀ h1, h1 = up h 59 0 0 → Q (h1 59 1) h1
set_option maxRecDepth 100000 in
set_option maxHeartbeats 4000000 in
theorem M_X9_trace {Γ : Gm} {l : Launch} {n : Nat} {g : aG} (hn : 80 ≤ n) (tg : TM g)   {h : aH} {Q : Int → aH → Prop} (hw : wp_X9_trace  h Q) : Cl Γ l mX9_trace [vR 59] n g h (RL' g Q) := by
  refine Cl.of (by decide) [some (vR 59)] rfl (Nat.le_of_ble_eq_true rfl) ?_
  intro p e s m args below meth c a
  unfold wp_X9_trace at hw
  refine ok_aload_n (pc := 0) a dX9_trace_0 rfl rfl ?_
  refine ok_iconst (pc := 1) a dX9_trace_1 ?_
  refine ok_pI (pc := 2) 0 a dX9_trace_2 lfRX9_77 fi_9_0 (Nat.lt_of_lt_of_le (by decide) hn) kq59 ty_9_0 rfl (fun h1 eh1 => ?_)
  have hw := hw h1 eh1
  refine ok_aload_n (pc := 5) a dX9_trace_5 rfl rfl ?_
  refine ok_fJ (pc := 6) 1 a dX9_trace_6 lfRX9_240 (Nat.lt_of_lt_of_le (by decide) hn) kq59 ty_9_1 rfl ?_
  exact ok_lret (pc := 9) a dX9_trace_9 ⟨_, rfl, rfl, hw⟩
