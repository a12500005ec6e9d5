def wp_X6_readPiece  (h : aH) (Q : aH → Prop) : Prop :=
  wp_X6_readNumber 1 60 h (fun r1 h2 => wp_X6_readEnd h2 (fun h3 => wp_X6_hasFault h3 (fun r4 => ((r4 = 0 → (0 ≤ (h3 8 5) ∧ (h3 8 5) < 5) ∧ ∀ h7, h7 = up h3 12 (h3 8 5) r1 → ∀ h8, h8 = up h7 8 5 ((h7 8 5) + 1) → Q h8) ∧ (¬ r4 = 0 → Q h3)))))
set_option maxRecDepth 100000 in
set_option maxHeartbeats 4000000 in
theorem M_X6_readPiece {Γ : Gm} {l : Launch} {n : Nat} {g : aG} (hn : 59 ≤ n) (tg : TC g)   {h : aH} {Q : aH → Prop} (hw : wp_X6_readPiece  h Q) : Cl Γ l mX6_readPiece [vR 1, vR 8] n g h (RV g Q) := by
  refine Cl.of (by decide) [some (vR 1), some (vR 8), none] rfl (Nat.le_of_ble_eq_true rfl) ?_
  intro p e s m args below meth c a
  unfold wp_X6_readPiece at hw
  refine ok_aload_n (pc := 0) a dX6_readPiece_0 rfl rfl ?_
  refine ok_iconst (pc := 1) a dX6_readPiece_1 ?_
  refine ok_bipush (pc := 2) a dX6_readPiece_2 (by decide) ?_
  refine ok_VRI (pc := 4) a [(vI 1), (vI 60)] [] (M_X6_readNumber hn tg 1 60  hw) dX6_readPiece_4 lkRX6_59 rfl (Nat.lt_of_lt_of_le (by decide) hn) kq1 (by decide) rfl ⟨Nat.le_of_ble_eq_true rfl, Nat.le_of_ble_eq_true rfl⟩ rfl (Nat.le_of_ble_eq_true rfl) rfl (fun r1 h2 hw => ?_)
  refine ok_sI_n (pc := 7) a [some (vR 1), some (vR 8), some (vI r1)] dX6_readPiece_7 rfl (by decide) rfl rfl ?_
  refine ok_aload_n (pc := 8) a dX6_readPiece_8 rfl rfl ?_
  refine ok_VRV (pc := 9) a [] [] (M_X6_readEnd hn tg   hw) dX6_readPiece_9 lkRX6_63 rfl (Nat.lt_of_lt_of_le (by decide) hn) kq1 (by decide) rfl ⟨Nat.le_of_ble_eq_true rfl, Nat.le_of_ble_eq_true rfl⟩ rfl (Nat.le_of_ble_eq_true rfl) rfl (fun h3 hw => ?_)
  refine ok_aload_n (pc := 12) a dX6_readPiece_12 rfl rfl ?_
  refine ok_VPZ (pc := 13) a [] [] (M_X6_hasFault hn tg   hw) dX6_readPiece_13 lkRX6_33 rfl (Nat.lt_of_lt_of_le (by decide) hn) kq1 (by decide) rfl ⟨Nat.le_of_ble_eq_true rfl, Nat.le_of_ble_eq_true rfl⟩ rfl (Nat.le_of_ble_eq_true rfl) rfl (fun r4 hz5 hw => ?_)
  refine ok_if_ne (pc := 16) a 39 dX6_readPiece_16 (by decide) (inR_b hz5) (fun hd9 => ?_) (fun hd9 => ?_)
  · have hw := hw.2 hd9
    exact ok_vret (pc := 39) a dX6_readPiece_39 ⟨rfl, rfl, hw⟩
  · have hw := hw.1 hd9
    refine ok_aload_n (pc := 19) a dX6_readPiece_19 rfl rfl ?_
    refine ok_getR (pc := 20) a dX6_readPiece_20 lfRX6_76 (Nat.lt_of_lt_of_le (by decide) hn) kq8 rfl (tg.at 8 3 12 (by decide) (by decide)) ?_
    refine ok_aload_n (pc := 23) a dX6_readPiece_23 rfl rfl ?_
    refine ok_fI (pc := 24) 5 a dX6_readPiece_24 lfRX6_44 (Nat.lt_of_lt_of_le (by decide) hn) kq8 ty_7_5 rfl ?_
    refine ok_iload_n (pc := 27) a dX6_readPiece_27 rfl rfl ?_
    obtain ⟨hc6, hw⟩ := hw
    refine ok_iast (pc := 28) a dX6_readPiece_28 (Nat.lt_of_lt_of_le (by decide) hn) kq12 (by decide) hc6 (ok_nmH (fun h7 eh7 => ?_))
    have hw := hw h7 eh7
    refine ok_aload_n (pc := 29) a dX6_readPiece_29 rfl rfl ?_
    refine ok_dup (pc := 30) a dX6_readPiece_30 (by rfl) ?_
    refine ok_fI (pc := 31) 5 a dX6_readPiece_31 lfRX6_44 (Nat.lt_of_lt_of_le (by decide) hn) kq8 ty_7_5 rfl ?_
    refine ok_iconst (pc := 34) a dX6_readPiece_34 ?_
    refine ok_iadd (pc := 35) a dX6_readPiece_35 ?_
    refine ok_pI (pc := 36) 5 a dX6_readPiece_36 lfRX6_44 fi_7_5 (Nat.lt_of_lt_of_le (by decide) hn) kq8 ty_7_5 rfl (fun h8 eh8 => ?_)
    have hw := hw h8 eh8
    exact ok_vret (pc := 39) a dX6_readPiece_39 ⟨rfl, rfl, hw⟩

def wp_X6_readItem  (h : aH) (Q : aH → Prop) : Prop :=
  (0 ≤ (h 1 2) ∧ (h 1 2) < 150) ∧ ∀ x2_9, x2_9 = (h 2 (h 1 2)) → (inR x2_9 ∧ ((x2_9 = 115 → True) ∧ (¬ x2_9 = 115 → ((x2_9 = 103 → True) ∧ (¬ x2_9 = 103 → ((x2_9 = 112 → inR (h 8 4) ∧ (((h 8 4) < 4 → True) ∧ (¬ (h 8 4) < 4 → ((x2_9 = 98 → inR (h 8 5) ∧ True) ∧ (¬ x2_9 = 98 → True))))) ∧ (¬ x2_9 = 112 → ((x2_9 = 98 → inR (h 8 5) ∧ True) ∧ (¬ x2_9 = 98 → True))))))))) ∧ ∀ x3_55, x3_55 = (if x2_9 = 115 then 1 else (if x2_9 = 103 then 1 else (if x2_9 = 112 then (if (h 8 4) < 4 then 1 else (if x2_9 = 98 then (if 5 ≤ (h 8 5) then 0 else 1 : Int) else 0 : Int) : Int) else (if x2_9 = 98 then (if 5 ≤ (h 8 5) then 0 else 1 : Int) else 0 : Int) : Int) : Int) : Int) → inR x3_55 ∧ ((x3_55 = 0 → ∀ h15, h15 = up h 1 3 (h 1 2) → Q h15) ∧ (¬ x3_55 = 0 → ∀ h16, h16 = up h 1 2 ((h 1 2) + 1) → inR x2_9 ∧ ((x2_9 = 115 → wp_X6_readWeight h16 (fun h18 => Q h18)) ∧ (¬ x2_9 = 115 → ((x2_9 = 112 → wp_X6_readPerson h16 (fun h19 => Q h19)) ∧ (¬ x2_9 = 112 → ((x2_9 = 103 → wp_X6_readGrowth h16 (fun h20 => Q h20)) ∧ (¬ x2_9 = 103 → wp_X6_readPiece h16 (fun h21 => Q h21)))))))))
set_option maxRecDepth 100000 in
set_option maxHeartbeats 4000000 in
theorem M_X6_readItem {Γ : Gm} {l : Launch} {n : Nat} {g : aG} (hn : 59 ≤ n) (tg : TC g)   {h : aH} {Q : aH → Prop} (hw : wp_X6_readItem  h Q) : Cl Γ l mX6_readItem [vR 1, vR 8] n g h (RV g Q) := by
  refine Cl.of (by decide) [some (vR 1), some (vR 8), none, none] rfl (Nat.le_of_ble_eq_true rfl) ?_
  intro p e s m args below meth c a
  unfold wp_X6_readItem at hw
  refine ok_aload_n (pc := 0) a dX6_readItem_0 rfl rfl ?_
  refine ok_getR (pc := 1) a dX6_readItem_1 lfRX6_9 (Nat.lt_of_lt_of_le (by decide) hn) kq1 rfl (tg.at 1 0 2 (by decide) (by decide)) ?_
  refine ok_aload_n (pc := 4) a dX6_readItem_4 rfl rfl ?_
  refine ok_fI (pc := 5) 2 a dX6_readItem_5 lfRX6_27 (Nat.lt_of_lt_of_le (by decide) hn) kq1 ty_6_2 rfl ?_
  obtain ⟨hc1, hw⟩ := hw
  refine ok_cald (pc := 8) a dX6_readItem_8 (Nat.lt_of_lt_of_le (by decide) hn) kq2 (by decide) hc1 ?_
  refine ok_nmI (fun x2_9 ex2_9 => ?_)
  have hw := hw x2_9 ex2_9
  refine ok_sI_n (pc := 9) a [some (vR 1), some (vR 8), some (vI x2_9), none] dX6_readItem_9 rfl (by decide) rfl rfl ?_
  refine ok_iload_n (pc := 10) a dX6_readItem_10 rfl rfl ?_
  refine ok_bipush (pc := 11) a dX6_readItem_11 (by decide) ?_
  obtain ⟨hR, hw⟩ := hw
  have hK : OK Γ p l e (rmd 3 n n) s m args below meth c n (MQ below (QQ Γ n (RV g Q)) args s (n - n) (sl n - sl n) (AA Γ)) 55 [some (vR 1), some (vR 8), some (vI x2_9), none] [(vI (if x2_9 = 115 then 1 else (if x2_9 = 103 then 1 else (if x2_9 = 112 then (if (h 8 4) < 4 then 1 else (if x2_9 = 98 then (if 5 ≤ (h 8 5) then 0 else 1 : Int) else 0 : Int) : Int) else (if x2_9 = 98 then (if 5 ≤ (h 8 5) then 0 else 1 : Int) else 0 : Int) : Int) : Int) : Int))] n g h := by
    refine ok_nmI (fun x3_55 ex3_55 => ?_)
    have hw := hw x3_55 ex3_55
    refine ok_sI_n (pc := 55) a [some (vR 1), some (vR 8), some (vI x2_9), some (vI x3_55)] dX6_readItem_55 rfl (by decide) rfl rfl ?_
    refine ok_iload_n (pc := 56) a dX6_readItem_56 rfl rfl ?_
    obtain ⟨hc14, hw⟩ := hw
    refine ok_if_ne (pc := 57) a 69 dX6_readItem_57 (by decide) hc14 (fun hd25 => ?_) (fun hd25 => ?_)
    · have hw := hw.2 hd25
      refine ok_aload_n (pc := 69) a dX6_readItem_69 rfl rfl ?_
      refine ok_dup (pc := 70) a dX6_readItem_70 (by rfl) ?_
      refine ok_fI (pc := 71) 2 a dX6_readItem_71 lfRX6_27 (Nat.lt_of_lt_of_le (by decide) hn) kq1 ty_6_2 rfl ?_
      refine ok_iconst (pc := 74) a dX6_readItem_74 ?_
      refine ok_iadd (pc := 75) a dX6_readItem_75 ?_
      refine ok_pI (pc := 76) 2 a dX6_readItem_76 lfRX6_27 fi_6_2 (Nat.lt_of_lt_of_le (by decide) hn) kq1 ty_6_2 rfl (fun h16 eh16 => ?_)
      have hw := hw h16 eh16
      refine ok_iload_n (pc := 79) a dX6_readItem_79 rfl rfl ?_
      refine ok_bipush (pc := 80) a dX6_readItem_80 (by decide) ?_
      obtain ⟨hc17, hw⟩ := hw
      refine ok_icmp_ne (pc := 82) a 93 dX6_readItem_82 (by decide) hc17 ⟨by decide, by decide⟩ (fun hd24 => ?_) (fun hd24 => ?_)
      · have hw := hw.2 hd24
        refine ok_iload_n (pc := 93) a dX6_readItem_93 rfl rfl ?_
        refine ok_bipush (pc := 94) a dX6_readItem_94 (by decide) ?_
        refine ok_icmp_ne (pc := 96) a 107 dX6_readItem_96 (by decide) hc17 ⟨by decide, by decide⟩ (fun hd23 => ?_) (fun hd23 => ?_)
        · have hw := hw.2 hd23
          refine ok_iload_n (pc := 107) a dX6_readItem_107 rfl rfl ?_
          refine ok_bipush (pc := 108) a dX6_readItem_108 (by decide) ?_
          refine ok_icmp_ne (pc := 110) a 121 dX6_readItem_110 (by decide) hc17 ⟨by decide, by decide⟩ (fun hd22 => ?_) (fun hd22 => ?_)
          · have hw := hw.2 hd22
            refine ok_aload_n (pc := 121) a dX6_readItem_121 rfl rfl ?_
            refine ok_aload_n (pc := 122) a dX6_readItem_122 rfl rfl ?_
            refine ok_VRV (pc := 123) a [(vR 8)] [] (M_X6_readPiece hn tg   hw) dX6_readItem_123 lkRX6_56 rfl (Nat.lt_of_lt_of_le (by decide) hn) kq1 (by decide) rfl ⟨Nat.le_of_ble_eq_true rfl, Nat.le_of_ble_eq_true rfl⟩ rfl (Nat.le_of_ble_eq_true rfl) rfl (fun h21 hw => ?_)
            exact ok_vret (pc := 126) a dX6_readItem_126 ⟨rfl, rfl, hw⟩
          · have hw := hw.1 hd22
            refine ok_aload_n (pc := 113) a dX6_readItem_113 rfl rfl ?_
            refine ok_aload_n (pc := 114) a dX6_readItem_114 rfl rfl ?_
            refine ok_VRV (pc := 115) a [(vR 8)] [] (M_X6_readGrowth hn tg   hw) dX6_readItem_115 lkRX6_53 rfl (Nat.lt_of_lt_of_le (by decide) hn) kq1 (by decide) rfl ⟨Nat.le_of_ble_eq_true rfl, Nat.le_of_ble_eq_true rfl⟩ rfl (Nat.le_of_ble_eq_true rfl) rfl (fun h20 hw => ?_)
            refine ok_goto (pc := 118) a 126 dX6_readItem_118 (by decide) ?_
            exact ok_vret (pc := 126) a dX6_readItem_126 ⟨rfl, rfl, hw⟩
        · have hw := hw.1 hd23
          refine ok_aload_n (pc := 99) a dX6_readItem_99 rfl rfl ?_
          refine ok_aload_n (pc := 100) a dX6_readItem_100 rfl rfl ?_
          refine ok_VRV (pc := 101) a [(vR 8)] [] (M_X6_readPerson hn tg   hw) dX6_readItem_101 lkRX6_50 rfl (Nat.lt_of_lt_of_le (by decide) hn) kq1 (by decide) rfl ⟨Nat.le_of_ble_eq_true rfl, Nat.le_of_ble_eq_true rfl⟩ rfl (Nat.le_of_ble_eq_true rfl) rfl (fun h19 hw => ?_)
          refine ok_goto (pc := 104) a 126 dX6_readItem_104 (by decide) ?_
          exact ok_vret (pc := 126) a dX6_readItem_126 ⟨rfl, rfl, hw⟩
      · have hw := hw.1 hd24
        refine ok_aload_n (pc := 85) a dX6_readItem_85 rfl rfl ?_
        refine ok_aload_n (pc := 86) a dX6_readItem_86 rfl rfl ?_
        refine ok_VRV (pc := 87) a [(vR 8)] [] (M_X6_readWeight hn tg   hw) dX6_readItem_87 lkRX6_47 rfl (Nat.lt_of_lt_of_le (by decide) hn) kq1 (by decide) rfl ⟨Nat.le_of_ble_eq_true rfl, Nat.le_of_ble_eq_true rfl⟩ rfl (Nat.le_of_ble_eq_true rfl) rfl (fun h18 hw => ?_)
        refine ok_goto (pc := 90) a 126 dX6_readItem_90 (by decide) ?_
        exact ok_vret (pc := 126) a dX6_readItem_126 ⟨rfl, rfl, hw⟩
    · have hw := hw.1 hd25
      refine ok_aload_n (pc := 60) a dX6_readItem_60 rfl rfl ?_
      refine ok_aload_n (pc := 61) a dX6_readItem_61 rfl rfl ?_
      refine ok_fI (pc := 62) 2 a dX6_readItem_62 lfRX6_27 (Nat.lt_of_lt_of_le (by decide) hn) kq1 ty_6_2 rfl ?_
      refine ok_pI (pc := 65) 3 a dX6_readItem_65 lfRX6_15 fi_6_3 (Nat.lt_of_lt_of_le (by decide) hn) kq1 ty_6_3 rfl (fun h15 eh15 => ?_)
      have hw := hw h15 eh15
      exact ok_vret (pc := 68) a dX6_readItem_68 ⟨rfl, rfl, hw⟩
  have hw := hR
  obtain ⟨hc2, hw⟩ := hw
  refine ok_icmp_eq (pc := 13) a 50 dX6_readItem_13 (by decide) hc2 ⟨by decide, by decide⟩ (fun hd3 => ?_) (fun hd3 => ?_)
  · refine ok_iconst (pc := 50) a dX6_readItem_50 ?_
    refine ok_goto (pc := 51) a 55 dX6_readItem_51 (by decide) ?_
    simp only [if_pos hd3] at hK
    exact hK
  · have hw := hw.2 hd3
    refine ok_iload_n (pc := 16) a dX6_readItem_16 rfl rfl ?_
    refine ok_bipush (pc := 17) a dX6_readItem_17 (by decide) ?_
    refine ok_icmp_eq (pc := 19) a 50 dX6_readItem_19 (by decide) hc2 ⟨by decide, by decide⟩ (fun hd4 => ?_) (fun hd4 => ?_)
    · refine ok_iconst (pc := 50) a dX6_readItem_50 ?_
      refine ok_goto (pc := 51) a 55 dX6_readItem_51 (by decide) ?_
      simp only [if_neg hd3, if_pos hd4] at hK
      exact hK
    · have hw := hw.2 hd4
      refine ok_iload_n (pc := 22) a dX6_readItem_22 rfl rfl ?_
      refine ok_bipush (pc := 23) a dX6_readItem_23 (by decide) ?_
      refine ok_icmp_ne (pc := 25) a 36 dX6_readItem_25 (by decide) hc2 ⟨by decide, by decide⟩ (fun hd5 => ?_) (fun hd5 => ?_)
      · have hw := hw.2 hd5
        refine ok_iload_n (pc := 36) a dX6_readItem_36 rfl rfl ?_
        refine ok_bipush (pc := 37) a dX6_readItem_37 (by decide) ?_
        refine ok_icmp_ne (pc := 39) a 54 dX6_readItem_39 (by decide) hc2 ⟨by decide, by decide⟩ (fun hd11 => ?_) (fun hd11 => ?_)
        · refine ok_iconst (pc := 54) a dX6_readItem_54 ?_
          simp only [if_neg hd3, if_neg hd4, if_neg hd5, if_neg hd11] at hK
          exact hK
        · have hw := hw.1 hd11
          refine ok_aload_n (pc := 42) a dX6_readItem_42 rfl rfl ?_
          refine ok_fI (pc := 43) 5 a dX6_readItem_43 lfRX6_44 (Nat.lt_of_lt_of_le (by decide) hn) kq8 ty_7_5 rfl ?_
          refine ok_iconst (pc := 46) a dX6_readItem_46 ?_
          obtain ⟨hc12, hw⟩ := hw
          refine ok_icmp_ge (pc := 47) a 54 dX6_readItem_47 (by decide) hc12 ⟨by decide, by decide⟩ (fun hd13 => ?_) (fun hd13 => ?_)
          · refine ok_iconst (pc := 54) a dX6_readItem_54 ?_
            simp only [if_neg hd3, if_neg hd4, if_neg hd5, if_pos hd11, if_pos hd13] at hK
            exact hK
          · refine ok_iconst (pc := 50) a dX6_readItem_50 ?_
            refine ok_goto (pc := 51) a 55 dX6_readItem_51 (by decide) ?_
            simp only [if_neg hd3, if_neg hd4, if_neg hd5, if_pos hd11, if_neg hd13] at hK
            exact hK
      · have hw := hw.1 hd5
        refine ok_aload_n (pc := 28) a dX6_readItem_28 rfl rfl ?_
        refine ok_fI (pc := 29) 4 a dX6_readItem_29 lfRX6_41 (Nat.lt_of_lt_of_le (by decide) hn) kq8 ty_7_4 rfl ?_
        refine ok_iconst (pc := 32) a dX6_readItem_32 ?_
        obtain ⟨hc6, hw⟩ := hw
        refine ok_icmp_lt (pc := 33) a 50 dX6_readItem_33 (by decide) hc6 ⟨by decide, by decide⟩ (fun hd7 => ?_) (fun hd7 => ?_)
        · refine ok_iconst (pc := 50) a dX6_readItem_50 ?_
          refine ok_goto (pc := 51) a 55 dX6_readItem_51 (by decide) ?_
          simp only [if_neg hd3, if_neg hd4, if_pos hd5, if_pos hd7] at hK
          exact hK
        · have hw := hw.2 hd7
          refine ok_iload_n (pc := 36) a dX6_readItem_36 rfl rfl ?_
          refine ok_bipush (pc := 37) a dX6_readItem_37 (by decide) ?_
          refine ok_icmp_ne (pc := 39) a 54 dX6_readItem_39 (by decide) hc2 ⟨by decide, by decide⟩ (fun hd8 => ?_) (fun hd8 => ?_)
          · refine ok_iconst (pc := 54) a dX6_readItem_54 ?_
            simp only [if_neg hd3, if_neg hd4, if_pos hd5, if_neg hd7, if_neg hd8] at hK
            exact hK
          · have hw := hw.1 hd8
            refine ok_aload_n (pc := 42) a dX6_readItem_42 rfl rfl ?_
            refine ok_fI (pc := 43) 5 a dX6_readItem_43 lfRX6_44 (Nat.lt_of_lt_of_le (by decide) hn) kq8 ty_7_5 rfl ?_
            refine ok_iconst (pc := 46) a dX6_readItem_46 ?_
            obtain ⟨hc9, hw⟩ := hw
            refine ok_icmp_ge (pc := 47) a 54 dX6_readItem_47 (by decide) hc9 ⟨by decide, by decide⟩ (fun hd10 => ?_) (fun hd10 => ?_)
            · refine ok_iconst (pc := 54) a dX6_readItem_54 ?_
              simp only [if_neg hd3, if_neg hd4, if_pos hd5, if_neg hd7, if_pos hd8, if_pos hd10] at hK
              exact hK
            · refine ok_iconst (pc := 50) a dX6_readItem_50 ?_
              refine ok_goto (pc := 51) a 55 dX6_readItem_51 (by decide) ?_
              simp only [if_neg hd3, if_neg hd4, if_pos hd5, if_neg hd7, if_pos hd8, if_neg hd10] at hK
              exact hK

def wp_X6_readInto_B20 (Q : Int → aH → Prop) (X20 : Int × aH → Prop) (x2_20 : Int) (h_20 : aH) : Prop :=
  inR x2_20 ∧ ((150 ≤ x2_20 → Q x2_20 h_20) ∧ (¬ 150 ≤ x2_20 → inR (h_20 1 2) ∧ inR (h_20 1 1) ∧ (((h_20 1 1) ≤ (h_20 1 2) → Q x2_20 h_20) ∧ (¬ (h_20 1 1) ≤ (h_20 1 2) → wp_X6_hasFault h_20 (fun r8 => ((r8 = 0 → wp_X6_readItem h_20 (fun h10 => wp_X6_skipBlanks h10 (fun h11 => X20 ((x2_20 + 1), h11)))) ∧ (¬ r8 = 0 → Q x2_20 h_20)))))))
def wp_X6_readInto  (h : aH) (Q : Int → aH → Prop) : Prop :=
  wp_X7_makeEmpty 8 h (fun h1 => ∀ h2, h2 = up h1 1 2 0 → ∀ h3, h3 = up h2 1 3 (-1) → wp_X6_skipBlanks h3 (fun h4 => lp (fun X y => wp_X6_readInto_B20 Q X y.1 y.2) (0, h4)))
set_option maxRecDepth 100000 in
set_option maxHeartbeats 4000000 in
theorem M_X6_readInto {Γ : Gm} {l : Launch} {n : Nat} {g : aG} (hn : 59 ≤ n) (tg : TC g)   {h : aH} {Q : Int → aH → Prop} (hw : wp_X6_readInto  h Q) : Cl Γ l mX6_readInto [vR 1, vR 8] n g h (RI g Q) := by
  refine Cl.of (by decide) [some (vR 1), some (vR 8), none] rfl (Nat.le_of_ble_eq_true rfl) ?_
  intro p e s m args below meth c a
  unfold wp_X6_readInto at hw
  refine ok_aload_n (pc := 0) a dX6_readInto_0 rfl rfl ?_
  refine ok_VRV (pc := 1) a [] [] (M_X7_makeEmpty hn tg 8 kq8 (by decide) hw) dX6_readInto_1 lkRX6_22 rfl (Nat.lt_of_lt_of_le (by decide) hn) kq8 (by decide) rfl ⟨Nat.le_of_ble_eq_true rfl, Nat.le_of_ble_eq_true rfl⟩ rfl (Nat.le_of_ble_eq_true rfl) rfl (fun h1 hw => ?_)
  refine ok_aload_n (pc := 4) a dX6_readInto_4 rfl rfl ?_
  refine ok_iconst (pc := 5) a dX6_readInto_5 ?_
  refine ok_pI (pc := 6) 2 a dX6_readInto_6 lfRX6_27 fi_6_2 (Nat.lt_of_lt_of_le (by decide) hn) kq1 ty_6_2 rfl (fun h2 eh2 => ?_)
  have hw := hw h2 eh2
  refine ok_aload_n (pc := 9) a dX6_readInto_9 rfl rfl ?_
  refine ok_iconst (pc := 10) a dX6_readInto_10 ?_
  refine ok_pI (pc := 11) 3 a dX6_readInto_11 lfRX6_15 fi_6_3 (Nat.lt_of_lt_of_le (by decide) hn) kq1 ty_6_3 rfl (fun h3 eh3 => ?_)
  have hw := hw h3 eh3
  refine ok_iconst (pc := 14) a dX6_readInto_14 ?_
  refine ok_sI_n (pc := 15) a [some (vR 1), some (vR 8), some (vI 0)] dX6_readInto_15 rfl (by decide) rfl rfl ?_
  refine ok_aload_n (pc := 16) a dX6_readInto_16 rfl rfl ?_
  refine ok_VRV (pc := 17) a [] [] (M_X6_skipBlanks hn tg   hw) dX6_readInto_17 lkRX6_30 rfl (Nat.lt_of_lt_of_le (by decide) hn) kq1 (by decide) rfl ⟨Nat.le_of_ble_eq_true rfl, Nat.le_of_ble_eq_true rfl⟩ rfl (Nat.le_of_ble_eq_true rfl) rfl (fun h4 hw => ?_)
  refine lp.use (P := fun y => OK Γ p l e (rmd 4 n n) s m args below meth c n (MQ below (QQ Γ n (RI g Q)) args s (n - n) (sl n - sl n) (AA Γ)) 20 [some (vR 1), some (vR 8), some (vI y.1)] [] n g y.2) ?_ (0, h4) hw
  clear hw
  intro X20 hX20 y hw
  obtain ⟨x2_20, h_20⟩ := y
  have hw : wp_X6_readInto_B20 Q X20 x2_20 h_20 := hw
  unfold wp_X6_readInto_B20 at hw
  try dsimp only
  refine ok_iload_n (pc := 20) a dX6_readInto_20 rfl rfl ?_
  refine ok_sipush (pc := 21) a dX6_readInto_21 (by decide) ?_
  obtain ⟨hc5, hw⟩ := hw
  refine ok_icmp_ge (pc := 24) a 60 dX6_readInto_24 (by decide) hc5 ⟨by decide, by decide⟩ (fun hd14 => ?_) (fun hd14 => ?_)
  · have hw := hw.1 hd14
    refine ok_iload_n (pc := 60) a dX6_readInto_60 rfl rfl ?_
    exact ok_iret (pc := 61) a dX6_readInto_61 ⟨_, rfl, rfl, hw⟩
  · have hw := hw.2 hd14
    refine ok_aload_n (pc := 27) a dX6_readInto_27 rfl rfl ?_
    refine ok_fI (pc := 28) 2 a dX6_readInto_28 lfRX6_27 (Nat.lt_of_lt_of_le (by decide) hn) kq1 ty_6_2 rfl ?_
    refine ok_aload_n (pc := 31) a dX6_readInto_31 rfl rfl ?_
    refine ok_fI (pc := 32) 1 a dX6_readInto_32 lfRX6_19 (Nat.lt_of_lt_of_le (by decide) hn) kq1 ty_6_1 rfl ?_
    obtain ⟨hc6, hw⟩ := hw
    obtain ⟨hc7, hw⟩ := hw
    refine ok_icmp_ge (pc := 35) a 60 dX6_readInto_35 (by decide) hc6 hc7 (fun hd13 => ?_) (fun hd13 => ?_)
    · have hw := hw.1 hd13
      refine ok_iload_n (pc := 60) a dX6_readInto_60 rfl rfl ?_
      exact ok_iret (pc := 61) a dX6_readInto_61 ⟨_, rfl, rfl, hw⟩
    · have hw := hw.2 hd13
      refine ok_aload_n (pc := 38) a dX6_readInto_38 rfl rfl ?_
      refine ok_VPZ (pc := 39) a [] [] (M_X6_hasFault hn tg   hw) dX6_readInto_39 lkRX6_33 rfl (Nat.lt_of_lt_of_le (by decide) hn) kq1 (by decide) rfl ⟨Nat.le_of_ble_eq_true rfl, Nat.le_of_ble_eq_true rfl⟩ rfl (Nat.le_of_ble_eq_true rfl) rfl (fun r8 hz9 hw => ?_)
      refine ok_if_ne (pc := 42) a 60 dX6_readInto_42 (by decide) (inR_b hz9) (fun hd12 => ?_) (fun hd12 => ?_)
      · have hw := hw.2 hd12
        refine ok_iload_n (pc := 60) a dX6_readInto_60 rfl rfl ?_
        exact ok_iret (pc := 61) a dX6_readInto_61 ⟨_, rfl, rfl, hw⟩
      · have hw := hw.1 hd12
        refine ok_aload_n (pc := 45) a dX6_readInto_45 rfl rfl ?_
        refine ok_aload_n (pc := 46) a dX6_readInto_46 rfl rfl ?_
        refine ok_VRV (pc := 47) a [(vR 8)] [] (M_X6_readItem hn tg   hw) dX6_readInto_47 lkRX6_37 rfl (Nat.lt_of_lt_of_le (by decide) hn) kq1 (by decide) rfl ⟨Nat.le_of_ble_eq_true rfl, Nat.le_of_ble_eq_true rfl⟩ rfl (Nat.le_of_ble_eq_true rfl) rfl (fun h10 hw => ?_)
        refine ok_inc (pc := 50) a [some (vR 1), some (vR 8), some (vI (x2_20 + 1))] dX6_readInto_50 rfl (by decide) rfl rfl ?_
        refine ok_aload_n (pc := 53) a dX6_readInto_53 rfl rfl ?_
        refine ok_VRV (pc := 54) a [] [] (M_X6_skipBlanks hn tg   hw) dX6_readInto_54 lkRX6_30 rfl (Nat.lt_of_lt_of_le (by decide) hn) kq1 (by decide) rfl ⟨Nat.le_of_ble_eq_true rfl, Nat.le_of_ble_eq_true rfl⟩ rfl (Nat.le_of_ble_eq_true rfl) rfl (fun h11 hw => ?_)
        refine ok_goto (pc := 57) a 20 dX6_readInto_57 (by decide) ?_
        exact hX20 ((x2_20 + 1), h11) hw

def wp_X7_copyFrom  (h : aH) (Q : aH → Prop) : Prop :=
  ∀ h1, h1 = cpy h 9 0 4 0 4 → ∀ h2, h2 = cpy h1 10 0 5 0 16 → ∀ h3, h3 = cpy h2 11 0 6 0 16 → ∀ h4, h4 = cpy h3 12 0 7 0 5 → ∀ h5, h5 = up h4 3 4 (h4 8 4) → ∀ h6, h6 = up h5 3 5 (h5 8 5) → Q h6
set_option maxRecDepth 100000 in
set_option maxHeartbeats 4000000 in
theorem M_X7_copyFrom {Γ : Gm} {l : Launch} {n : Nat} {g : aG} (hn : 59 ≤ n) (tg : TC g)   {h : aH} {Q : aH → Prop} (hw : wp_X7_copyFrom  h Q) : Cl Γ l mX7_copyFrom [vR 3, vR 8] n g h (RV g Q) := by
  refine Cl.of (by decide) [some (vR 3), some (vR 8)] rfl (Nat.le_of_ble_eq_true rfl) ?_
  intro p e s m args below meth c a
  unfold wp_X7_copyFrom at hw
  refine ok_aload_n (pc := 0) a dX7_copyFrom_0 rfl rfl ?_
  refine ok_getR (pc := 1) a dX7_copyFrom_1 lfRX7_9 (Nat.lt_of_lt_of_le (by decide) hn) kq8 rfl (tg.at 8 0 9 (by decide) (by decide)) ?_
  refine ok_iconst (pc := 4) a dX7_copyFrom_4 ?_
  refine ok_aload_n (pc := 5) a dX7_copyFrom_5 rfl rfl ?_
  refine ok_getR (pc := 6) a dX7_copyFrom_6 lfRX7_9 (Nat.lt_of_lt_of_le (by decide) hn) kq3 rfl (tg.at 3 0 4 (by decide) (by decide)) ?_
  refine ok_iconst (pc := 9) a dX7_copyFrom_9 ?_
  refine ok_aload_n (pc := 10) a dX7_copyFrom_10 rfl rfl ?_
  refine ok_getR (pc := 11) a dX7_copyFrom_11 lfRX7_9 (Nat.lt_of_lt_of_le (by decide) hn) kq3 rfl (tg.at 3 0 4 (by decide) (by decide)) ?_
  refine ok_al (pc := 14) 4 a dX7_copyFrom_14 (Nat.lt_of_lt_of_le (by decide) hn) kq4 (by decide) rfl ?_
  refine ok_copy (pc := 15) (st := []) a dX7_copyFrom_15 lcRX7_27 (Nat.lt_of_lt_of_le (by decide) hn) (Nat.lt_of_lt_of_le (by decide) hn) kq9 kq4 (by decide) (by decide) ⟨by decide, by decide, by decide, by decide, by decide⟩ (Nat.le_of_ble_eq_true rfl) (Nat.le_of_ble_eq_true rfl) (ok_nmH (fun h1 eh1 => ?_))
  have hw := hw h1 eh1
  refine ok_aload_n (pc := 18) a dX7_copyFrom_18 rfl rfl ?_
  refine ok_getR (pc := 19) a dX7_copyFrom_19 lfRX7_15 (Nat.lt_of_lt_of_le (by decide) hn) kq8 rfl (tg.at 8 1 10 (by decide) (by decide)) ?_
  refine ok_iconst (pc := 22) a dX7_copyFrom_22 ?_
  refine ok_aload_n (pc := 23) a dX7_copyFrom_23 rfl rfl ?_
  refine ok_getR (pc := 24) a dX7_copyFrom_24 lfRX7_15 (Nat.lt_of_lt_of_le (by decide) hn) kq3 rfl (tg.at 3 1 5 (by decide) (by decide)) ?_
  refine ok_iconst (pc := 27) a dX7_copyFrom_27 ?_
  refine ok_aload_n (pc := 28) a dX7_copyFrom_28 rfl rfl ?_
  refine ok_getR (pc := 29) a dX7_copyFrom_29 lfRX7_15 (Nat.lt_of_lt_of_le (by decide) hn) kq3 rfl (tg.at 3 1 5 (by decide) (by decide)) ?_
  refine ok_al (pc := 32) 16 a dX7_copyFrom_32 (Nat.lt_of_lt_of_le (by decide) hn) kq5 (by decide) rfl ?_
  refine ok_copy (pc := 33) (st := []) a dX7_copyFrom_33 lcRX7_27 (Nat.lt_of_lt_of_le (by decide) hn) (Nat.lt_of_lt_of_le (by decide) hn) kq10 kq5 (by decide) (by decide) ⟨by decide, by decide, by decide, by decide, by decide⟩ (Nat.le_of_ble_eq_true rfl) (Nat.le_of_ble_eq_true rfl) (ok_nmH (fun h2 eh2 => ?_))
  have hw := hw h2 eh2
  refine ok_aload_n (pc := 36) a dX7_copyFrom_36 rfl rfl ?_
  refine ok_getR (pc := 37) a dX7_copyFrom_37 lfRX7_18 (Nat.lt_of_lt_of_le (by decide) hn) kq8 rfl (tg.at 8 2 11 (by decide) (by decide)) ?_
  refine ok_iconst (pc := 40) a dX7_copyFrom_40 ?_
  refine ok_aload_n (pc := 41) a dX7_copyFrom_41 rfl rfl ?_
  refine ok_getR (pc := 42) a dX7_copyFrom_42 lfRX7_18 (Nat.lt_of_lt_of_le (by decide) hn) kq3 rfl (tg.at 3 2 6 (by decide) (by decide)) ?_
  refine ok_iconst (pc := 45) a dX7_copyFrom_45 ?_
  refine ok_aload_n (pc := 46) a dX7_copyFrom_46 rfl rfl ?_
  refine ok_getR (pc := 47) a dX7_copyFrom_47 lfRX7_18 (Nat.lt_of_lt_of_le (by decide) hn) kq3 rfl (tg.at 3 2 6 (by decide) (by decide)) ?_
  refine ok_al (pc := 50) 16 a dX7_copyFrom_50 (Nat.lt_of_lt_of_le (by decide) hn) kq6 (by decide) rfl ?_
  refine ok_copy (pc := 51) (st := []) a dX7_copyFrom_51 lcRX7_27 (Nat.lt_of_lt_of_le (by decide) hn) (Nat.lt_of_lt_of_le (by decide) hn) kq11 kq6 (by decide) (by decide) ⟨by decide, by decide, by decide, by decide, by decide⟩ (Nat.le_of_ble_eq_true rfl) (Nat.le_of_ble_eq_true rfl) (ok_nmH (fun h3 eh3 => ?_))
  have hw := hw h3 eh3
  refine ok_aload_n (pc := 54) a dX7_copyFrom_54 rfl rfl ?_
  refine ok_getR (pc := 55) a dX7_copyFrom_55 lfRX7_21 (Nat.lt_of_lt_of_le (by decide) hn) kq8 rfl (tg.at 8 3 12 (by decide) (by decide)) ?_
  refine ok_iconst (pc := 58) a dX7_copyFrom_58 ?_
  refine ok_aload_n (pc := 59) a dX7_copyFrom_59 rfl rfl ?_
  refine ok_getR (pc := 60) a dX7_copyFrom_60 lfRX7_21 (Nat.lt_of_lt_of_le (by decide) hn) kq3 rfl (tg.at 3 3 7 (by decide) (by decide)) ?_
  refine ok_iconst (pc := 63) a dX7_copyFrom_63 ?_
  refine ok_aload_n (pc := 64) a dX7_copyFrom_64 rfl rfl ?_
  refine ok_getR (pc := 65) a dX7_copyFrom_65 lfRX7_21 (Nat.lt_of_lt_of_le (by decide) hn) kq3 rfl (tg.at 3 3 7 (by decide) (by decide)) ?_
  refine ok_al (pc := 68) 5 a dX7_copyFrom_68 (Nat.lt_of_lt_of_le (by decide) hn) kq7 (by decide) rfl ?_
  refine ok_copy (pc := 69) (st := []) a dX7_copyFrom_69 lcRX7_27 (Nat.lt_of_lt_of_le (by decide) hn) (Nat.lt_of_lt_of_le (by decide) hn) kq12 kq7 (by decide) (by decide) ⟨by decide, by decide, by decide, by decide, by decide⟩ (Nat.le_of_ble_eq_true rfl) (Nat.le_of_ble_eq_true rfl) (ok_nmH (fun h4 eh4 => ?_))
  have hw := hw h4 eh4
  refine ok_aload_n (pc := 72) a dX7_copyFrom_72 rfl rfl ?_
  refine ok_aload_n (pc := 73) a dX7_copyFrom_73 rfl rfl ?_
  refine ok_fI (pc := 74) 4 a dX7_copyFrom_74 lfRX7_39 (Nat.lt_of_lt_of_le (by decide) hn) kq8 ty_7_4 rfl ?_
  refine ok_pI (pc := 77) 4 a dX7_copyFrom_77 lfRX7_39 fi_7_4 (Nat.lt_of_lt_of_le (by decide) hn) kq3 ty_7_4 rfl (fun h5 eh5 => ?_)
  have hw := hw h5 eh5
  refine ok_aload_n (pc := 80) a dX7_copyFrom_80 rfl rfl ?_
  refine ok_aload_n (pc := 81) a dX7_copyFrom_81 rfl rfl ?_
  refine ok_fI (pc := 82) 5 a dX7_copyFrom_82 lfRX7_43 (Nat.lt_of_lt_of_le (by decide) hn) kq8 ty_7_5 rfl ?_
  refine ok_pI (pc := 85) 5 a dX7_copyFrom_85 lfRX7_43 fi_7_5 (Nat.lt_of_lt_of_le (by decide) hn) kq3 ty_7_5 rfl (fun h6 eh6 => ?_)
  have hw := hw h6 eh6
  exact ok_vret (pc := 88) a dX7_copyFrom_88 ⟨rfl, rfl, hw⟩

def wp_X8_type (x1 : Int) (h : aH) (Q : Int → aH → Prop) : Prop :=
  wp_X8_within x1 0 255 h (fun r1 => ((r1 = 0 → Q (-1) h) ∧ (¬ r1 = 0 → (0 ≤ x1 ∧ x1 < 65536) ∧ wp_X6_append x1 h (fun r4 h5 => Q (if r4 = 0 then (-3) else (h5 1 1) : Int) h5))))
set_option maxRecDepth 100000 in
set_option maxHeartbeats 4000000 in
theorem M_X8_type {Γ : Gm} {l : Launch} {n : Nat} {g : aG} (hn : 59 ≤ n) (tg : TC g) (x1 : Int)  {h : aH} {Q : Int → aH → Prop} (hw : wp_X8_type x1 h Q) : Cl Γ l mX8_type [vR 0, vI x1] n g h (RI g Q) := by
  refine Cl.of (by decide) [some (vR 0), some (vI x1)] rfl (Nat.le_of_ble_eq_true rfl) ?_
  intro p e s m args below meth c a
  unfold wp_X8_type at hw
  refine ok_iload_n (pc := 0) a dX8_type_0 rfl rfl ?_
  refine ok_iconst (pc := 1) a dX8_type_1 ?_
  refine ok_sipush (pc := 2) a dX8_type_2 (by decide) ?_
  refine ok_SPZ (pc := 5) a [(vI x1), (vI 0), (vI 255)] [] (M_X8_within hn tg x1 0 255  hw) dX8_type_5 lkRX8_82 rfl ⟨Nat.le_of_ble_eq_true rfl, Nat.le_of_ble_eq_true rfl⟩ rfl (Nat.le_of_ble_eq_true rfl) rfl (fun r1 hz2 hw => ?_)
  refine ok_if_ne (pc := 8) a 13 dX8_type_8 (by decide) (inR_b hz2) (fun hd8 => ?_) (fun hd8 => ?_)
  · have hw := hw.2 hd8
    refine ok_aload_n (pc := 13) a dX8_type_13 rfl rfl ?_
    refine ok_getR (pc := 14) a dX8_type_14 lfRX8_12 (Nat.lt_of_lt_of_le (by decide) hn) kq0 rfl (tg.at 0 0 1 (by decide) (by decide)) ?_
    refine ok_iload_n (pc := 17) a dX8_type_17 rfl rfl ?_
    obtain ⟨hc3, hw⟩ := hw
    refine ok_i2c (pc := 18) a dX8_type_18 hc3 ?_
    refine ok_VRZ (pc := 19) a [(vI x1)] [] (M_X6_append hn tg x1  hw) dX8_type_19 lkRX8_86 rfl (Nat.lt_of_lt_of_le (by decide) hn) kq1 (by decide) rfl ⟨Nat.le_of_ble_eq_true rfl, Nat.le_of_ble_eq_true rfl⟩ rfl (Nat.le_of_ble_eq_true rfl) rfl (fun r4 h5 hz6 hw => ?_)
    have hK : OK Γ p l e (rmd 1 n n) s m args below meth c n (MQ below (QQ Γ n (RI g Q)) args s (n - n) (sl n - sl n) (AA Γ)) 37 [some (vR 0), some (vI x1)] [(vI (if r4 = 0 then (-3) else (h5 1 1) : Int))] n g h5 := by
      exact ok_iret (pc := 37) a dX8_type_37 ⟨_, rfl, rfl, hw⟩
    refine ok_if_eq (pc := 22) a 35 dX8_type_22 (by decide) (inR_b hz6) (fun hd7 => ?_) (fun hd7 => ?_)
    · refine ok_bipush (pc := 35) a dX8_type_35 (by decide) ?_
      simp only [if_pos hd7] at hK
      exact hK
    · refine ok_aload_n (pc := 25) a dX8_type_25 rfl rfl ?_
      refine ok_getR (pc := 26) a dX8_type_26 lfRX8_12 (Nat.lt_of_lt_of_le (by decide) hn) kq0 rfl (tg.at 0 0 1 (by decide) (by decide)) ?_
      refine ok_fI (pc := 29) 1 a dX8_type_29 lfRX8_90 (Nat.lt_of_lt_of_le (by decide) hn) kq1 ty_6_1 rfl ?_
      refine ok_goto (pc := 32) a 37 dX8_type_32 (by decide) ?_
      simp only [if_neg hd7] at hK
      exact hK
  · have hw := hw.1 hd8
    refine ok_iconst (pc := 11) a dX8_type_11 ?_
    exact ok_iret (pc := 12) a dX8_type_12 ⟨_, rfl, rfl, hw⟩

def wp_X8_clear  (h : aH) (Q : Int → aH → Prop) : Prop :=
  ∀ x1_7, x1_7 = (h 1 1) → ∀ h1, h1 = up h 1 1 0 → Q x1_7 h1
set_option maxRecDepth 100000 in
set_option maxHeartbeats 4000000 in
theorem M_X8_clear {Γ : Gm} {l : Launch} {n : Nat} {g : aG} (hn : 59 ≤ n) (tg : TC g)   {h : aH} {Q : Int → aH → Prop} (hw : wp_X8_clear  h Q) : Cl Γ l mX8_clear [vR 0] n g h (RI g Q) := by
  refine Cl.of (by decide) [some (vR 0), none] rfl (Nat.le_of_ble_eq_true rfl) ?_
  intro p e s m args below meth c a
  unfold wp_X8_clear at hw
  refine ok_aload_n (pc := 0) a dX8_clear_0 rfl rfl ?_
  refine ok_getR (pc := 1) a dX8_clear_1 lfRX8_12 (Nat.lt_of_lt_of_le (by decide) hn) kq0 rfl (tg.at 0 0 1 (by decide) (by decide)) ?_
  refine ok_fI (pc := 4) 1 a dX8_clear_4 lfRX8_90 (Nat.lt_of_lt_of_le (by decide) hn) kq1 ty_6_1 rfl ?_
  refine ok_nmI (fun x1_7 ex1_7 => ?_)
  have hw := hw x1_7 ex1_7
  refine ok_sI_n (pc := 7) a [some (vR 0), some (vI x1_7)] dX8_clear_7 rfl (by decide) rfl rfl ?_
  refine ok_aload_n (pc := 8) a dX8_clear_8 rfl rfl ?_
  refine ok_getR (pc := 9) a dX8_clear_9 lfRX8_12 (Nat.lt_of_lt_of_le (by decide) hn) kq0 rfl (tg.at 0 0 1 (by decide) (by decide)) ?_
  refine ok_iconst (pc := 12) a dX8_clear_12 ?_
  refine ok_pI (pc := 13) 1 a dX8_clear_13 lfRX8_90 fi_6_1 (Nat.lt_of_lt_of_le (by decide) hn) kq1 ty_6_1 rfl (fun h1 eh1 => ?_)
  have hw := hw h1 eh1
  refine ok_iload_n (pc := 16) a dX8_clear_16 rfl rfl ?_
  exact ok_iret (pc := 17) a dX8_clear_17 ⟨_, rfl, rfl, hw⟩

def wp_X8_beginAnew_B21 (Q : aH → Prop) (X21 : Int × aH → Prop) (x1_21 : Int) (h_21 : aH) : Prop :=
  inR x1_21 ∧ ((2 ≤ x1_21 → wp_X0_layOut h_21 (fun h4 => wp_X1_begin h4 (fun h5 => Q h5))) ∧ (¬ 2 ≤ x1_21 → (0 ≤ x1_21 ∧ x1_21 < 2) ∧ ∀ h7, h7 = up h_21 42 x1_21 0 → X21 ((x1_21 + 1), h7)))
def wp_X8_beginAnew  (h : aH) (Q : aH → Prop) : Prop :=
  wp_X4_begin h (fun h1 => ∀ h2, h2 = up h1 15 2 0 → lp (fun X y => wp_X8_beginAnew_B21 Q X y.1 y.2) (0, h2))
set_option maxRecDepth 100000 in
set_option maxHeartbeats 4000000 in
theorem M_X8_beginAnew {Γ : Gm} {l : Launch} {n : Nat} {g : aG} (hn : 59 ≤ n) (tg : TC g)   {h : aH} {Q : aH → Prop} (hw : wp_X8_beginAnew  h Q) : Cl Γ l mX8_beginAnew [vR 0] n g h (RV g Q) := by
  refine Cl.of (by decide) [some (vR 0), none] rfl (Nat.le_of_ble_eq_true rfl) ?_
  intro p e s m args below meth c a
  unfold wp_X8_beginAnew at hw
  refine ok_aload_n (pc := 0) a dX8_beginAnew_0 rfl rfl ?_
  refine ok_getR (pc := 1) a dX8_beginAnew_1 lfRX8_29 (Nat.lt_of_lt_of_le (by decide) hn) kq0 rfl (tg.at 0 3 13 (by decide) (by decide)) ?_
  refine ok_aload_n (pc := 4) a dX8_beginAnew_4 rfl rfl ?_
  refine ok_getR (pc := 5) a dX8_beginAnew_5 lfRX8_19 (Nat.lt_of_lt_of_le (by decide) hn) kq0 rfl (tg.at 0 1 3 (by decide) (by decide)) ?_
  refine ok_VRV (pc := 8) a [(vR 3)] [] (M_X4_begin hn tg   hw) dX8_beginAnew_8 lkRX8_299 rfl (Nat.lt_of_lt_of_le (by decide) hn) kq13 (by decide) rfl ⟨Nat.le_of_ble_eq_true rfl, Nat.le_of_ble_eq_true rfl⟩ rfl (Nat.le_of_ble_eq_true rfl) rfl (fun h1 hw => ?_)
  refine ok_aload_n (pc := 11) a dX8_beginAnew_11 rfl rfl ?_
  refine ok_getR (pc := 12) a dX8_beginAnew_12 lfRX8_36 (Nat.lt_of_lt_of_le (by decide) hn) kq0 rfl (tg.at 0 4 15 (by decide) (by decide)) ?_
  refine ok_iconst (pc := 15) a dX8_beginAnew_15 ?_
  refine ok_pI (pc := 16) 2 a dX8_beginAnew_16 lfRX8_157 fi_2_2 (Nat.lt_of_lt_of_le (by decide) hn) kq15 ty_2_2 rfl (fun h2 eh2 => ?_)
  have hw := hw h2 eh2
  refine ok_iconst (pc := 19) a dX8_beginAnew_19 ?_
  refine ok_sI_n (pc := 20) a [some (vR 0), some (vI 0)] dX8_beginAnew_20 rfl (by decide) rfl rfl ?_
  refine lp.use (P := fun y => OK Γ p l e (rmd 4 n n) s m args below meth c n (MQ below (QQ Γ n (RV g Q)) args s (n - n) (sl n - sl n) (AA Γ)) 21 [some (vR 0), some (vI y.1)] [] n g y.2) ?_ (0, h2) hw
  clear hw
  intro X21 hX21 y hw
  obtain ⟨x1_21, h_21⟩ := y
  have hw : wp_X8_beginAnew_B21 Q X21 x1_21 h_21 := hw
  unfold wp_X8_beginAnew_B21 at hw
  try dsimp only
  refine ok_iload_n (pc := 21) a dX8_beginAnew_21 rfl rfl ?_
  refine ok_iconst (pc := 22) a dX8_beginAnew_22 ?_
  obtain ⟨hc3, hw⟩ := hw
  refine ok_icmp_ge (pc := 23) a 39 dX8_beginAnew_23 (by decide) hc3 ⟨by decide, by decide⟩ (fun hd8 => ?_) (fun hd8 => ?_)
  · have hw := hw.1 hd8
    refine ok_aload_n (pc := 39) a dX8_beginAnew_39 rfl rfl ?_
    refine ok_getR (pc := 40) a dX8_beginAnew_40 lfRX8_58 (Nat.lt_of_lt_of_le (by decide) hn) kq0 rfl (tg.at 0 8 46 (by decide) (by decide)) ?_
    refine ok_aload_n (pc := 43) a dX8_beginAnew_43 rfl rfl ?_
    refine ok_getR (pc := 44) a dX8_beginAnew_44 lfRX8_19 (Nat.lt_of_lt_of_le (by decide) hn) kq0 rfl (tg.at 0 1 3 (by decide) (by decide)) ?_
    refine ok_VRV (pc := 47) a [(vR 3)] [] (M_X0_layOut hn tg   hw) dX8_beginAnew_47 lkRX8_302 rfl (Nat.lt_of_lt_of_le (by decide) hn) kq46 (by decide) rfl ⟨Nat.le_of_ble_eq_true rfl, Nat.le_of_ble_eq_true rfl⟩ rfl (Nat.le_of_ble_eq_true rfl) rfl (fun h4 hw => ?_)
    refine ok_aload_n (pc := 50) a dX8_beginAnew_50 rfl rfl ?_
    refine ok_getR (pc := 51) a dX8_beginAnew_51 lfRX8_72 (Nat.lt_of_lt_of_le (by decide) hn) kq0 rfl (tg.at 0 10 52 (by decide) (by decide)) ?_
    refine ok_VRV (pc := 54) a [] [] (M_X1_begin hn tg   hw) dX8_beginAnew_54 lkRX8_305 rfl (Nat.lt_of_lt_of_le (by decide) hn) kq52 (by decide) rfl ⟨Nat.le_of_ble_eq_true rfl, Nat.le_of_ble_eq_true rfl⟩ rfl (Nat.le_of_ble_eq_true rfl) rfl (fun h5 hw => ?_)
    exact ok_vret (pc := 57) a dX8_beginAnew_57 ⟨rfl, rfl, hw⟩
  · have hw := hw.2 hd8
    refine ok_aload_n (pc := 26) a dX8_beginAnew_26 rfl rfl ?_
    refine ok_getR (pc := 27) a dX8_beginAnew_27 lfRX8_44 (Nat.lt_of_lt_of_le (by decide) hn) kq0 rfl (tg.at 0 6 42 (by decide) (by decide)) ?_
    refine ok_iload_n (pc := 30) a dX8_beginAnew_30 rfl rfl ?_
    refine ok_iconst (pc := 31) a dX8_beginAnew_31 ?_
    obtain ⟨hc6, hw⟩ := hw
    refine ok_bast (pc := 32) a dX8_beginAnew_32 (Nat.lt_of_lt_of_le (by decide) hn) kq42 (by decide) hc6 (Or.inl rfl) (ok_nmH (fun h7 eh7 => ?_))
    have hw := hw h7 eh7
    refine ok_inc (pc := 33) a [some (vR 0), some (vI (x1_21 + 1))] dX8_beginAnew_33 rfl (by decide) rfl rfl ?_
    refine ok_goto (pc := 36) a 21 dX8_beginAnew_36 (by decide) ?_
    exact hX21 ((x1_21 + 1), h7) hw

def wp_X8_shop  (h : aH) (Q : Int → aH → Prop) : Prop :=
  wp_X6_readInto h (fun r1 h2 => wp_X6_hasFault h2 (fun r3 => ((r3 = 0 → wp_X7_copyFrom h2 (fun h5 => ∀ h6, h6 = up h5 1 1 0 → wp_X8_beginAnew h6 (fun h7 => Q r1 h7))) ∧ (¬ r3 = 0 → Q ((-10) - (h2 1 3)) h2))))
set_option maxRecDepth 100000 in
set_option maxHeartbeats 4000000 in
theorem M_X8_shop {Γ : Gm} {l : Launch} {n : Nat} {g : aG} (hn : 59 ≤ n) (tg : TC g)   {h : aH} {Q : Int → aH → Prop} (hw : wp_X8_shop  h Q) : Cl Γ l mX8_shop [vR 0] n g h (RI g Q) := by
  refine Cl.of (by decide) [some (vR 0), none] rfl (Nat.le_of_ble_eq_true rfl) ?_
  intro p e s m args below meth c a
  unfold wp_X8_shop at hw
  refine ok_aload_n (pc := 0) a dX8_shop_0 rfl rfl ?_
  refine ok_getR (pc := 1) a dX8_shop_1 lfRX8_12 (Nat.lt_of_lt_of_le (by decide) hn) kq0 rfl (tg.at 0 0 1 (by decide) (by decide)) ?_
  refine ok_aload_n (pc := 4) a dX8_shop_4 rfl rfl ?_
  refine ok_getR (pc := 5) a dX8_shop_5 lfRX8_23 (Nat.lt_of_lt_of_le (by decide) hn) kq0 rfl (tg.at 0 2 8 (by decide) (by decide)) ?_
  refine ok_VRI (pc := 8) a [(vR 8)] [] (M_X6_readInto hn tg   hw) dX8_shop_8 lkRX8_94 rfl (Nat.lt_of_lt_of_le (by decide) hn) kq1 (by decide) rfl ⟨Nat.le_of_ble_eq_true rfl, Nat.le_of_ble_eq_true rfl⟩ rfl (Nat.le_of_ble_eq_true rfl) rfl (fun r1 h2 hw => ?_)
  refine ok_sI_n (pc := 11) a [some (vR 0), some (vI r1)] dX8_shop_11 rfl (by decide) rfl rfl ?_
  refine ok_aload_n (pc := 12) a dX8_shop_12 rfl rfl ?_
  refine ok_getR (pc := 13) a dX8_shop_13 lfRX8_12 (Nat.lt_of_lt_of_le (by decide) hn) kq0 rfl (tg.at 0 0 1 (by decide) (by decide)) ?_
  refine ok_VPZ (pc := 16) a [] [] (M_X6_hasFault hn tg   hw) dX8_shop_16 lkRX8_98 rfl (Nat.lt_of_lt_of_le (by decide) hn) kq1 (by decide) rfl ⟨Nat.le_of_ble_eq_true rfl, Nat.le_of_ble_eq_true rfl⟩ rfl (Nat.le_of_ble_eq_true rfl) rfl (fun r3 hz4 hw => ?_)
  refine ok_if_eq (pc := 19) a 33 dX8_shop_19 (by decide) (inR_b hz4) (fun hd8 => ?_) (fun hd8 => ?_)
  · have hw := hw.1 hd8
    refine ok_aload_n (pc := 33) a dX8_shop_33 rfl rfl ?_
    refine ok_getR (pc := 34) a dX8_shop_34 lfRX8_19 (Nat.lt_of_lt_of_le (by decide) hn) kq0 rfl (tg.at 0 1 3 (by decide) (by decide)) ?_
    refine ok_aload_n (pc := 37) a dX8_shop_37 rfl rfl ?_
    refine ok_getR (pc := 38) a dX8_shop_38 lfRX8_23 (Nat.lt_of_lt_of_le (by decide) hn) kq0 rfl (tg.at 0 2 8 (by decide) (by decide)) ?_
    refine ok_VRV (pc := 41) a [(vR 8)] [] (M_X7_copyFrom hn tg   hw) dX8_shop_41 lkRX8_105 rfl (Nat.lt_of_lt_of_le (by decide) hn) kq3 (by decide) rfl ⟨Nat.le_of_ble_eq_true rfl, Nat.le_of_ble_eq_true rfl⟩ rfl (Nat.le_of_ble_eq_true rfl) rfl (fun h5 hw => ?_)
    refine ok_aload_n (pc := 44) a dX8_shop_44 rfl rfl ?_
    refine ok_getR (pc := 45) a dX8_shop_45 lfRX8_12 (Nat.lt_of_lt_of_le (by decide) hn) kq0 rfl (tg.at 0 0 1 (by decide) (by decide)) ?_
    refine ok_iconst (pc := 48) a dX8_shop_48 ?_
    refine ok_pI (pc := 49) 1 a dX8_shop_49 lfRX8_90 fi_6_1 (Nat.lt_of_lt_of_le (by decide) hn) kq1 ty_6_1 rfl (fun h6 eh6 => ?_)
    have hw := hw h6 eh6
    refine ok_aload_n (pc := 52) a dX8_shop_52 rfl rfl ?_
    refine ok_VRV (pc := 53) a [] [] (M_X8_beginAnew hn tg   hw) dX8_shop_53 lkRX8_79 rfl (Nat.lt_of_lt_of_le (by decide) hn) kq0 (by decide) rfl ⟨Nat.le_of_ble_eq_true rfl, Nat.le_of_ble_eq_true rfl⟩ rfl (Nat.le_of_ble_eq_true rfl) rfl (fun h7 hw => ?_)
    refine ok_iload_n (pc := 56) a dX8_shop_56 rfl rfl ?_
    exact ok_iret (pc := 57) a dX8_shop_57 ⟨_, rfl, rfl, hw⟩
  · have hw := hw.2 hd8
    refine ok_bipush (pc := 22) a dX8_shop_22 (by decide) ?_
    refine ok_aload_n (pc := 24) a dX8_shop_24 rfl rfl ?_
    refine ok_getR (pc := 25) a dX8_shop_25 lfRX8_12 (Nat.lt_of_lt_of_le (by decide) hn) kq0 rfl (tg.at 0 0 1 (by decide) (by decide)) ?_
    refine ok_fI (pc := 28) 3 a dX8_shop_28 lfRX8_102 (Nat.lt_of_lt_of_le (by decide) hn) kq1 ty_6_3 rfl ?_
    refine ok_isub (pc := 31) a dX8_shop_31 ?_
    exact ok_iret (pc := 32) a dX8_shop_32 ⟨_, rfl, rfl, hw⟩

def wp_X8_isPerson (x1 : Int) (h : aH) (Q : Int → Prop) : Prop :=
  wp_X8_within x1 0 ((h 3 4) - 1) h (fun r1 => Q r1)
set_option maxRecDepth 100000 in
set_option maxHeartbeats 4000000 in
theorem M_X8_isPerson {Γ : Gm} {l : Launch} {n : Nat} {g : aG} (hn : 59 ≤ n) (tg : TC g) (x1 : Int)  {h : aH} {Q : Int → Prop} (hw : wp_X8_isPerson x1 h Q) : Cl Γ l mX8_isPerson [vR 0, vI x1] n g h (PZ g h Q) := by
  refine Cl.of (by decide) [some (vR 0), some (vI x1)] rfl (Nat.le_of_ble_eq_true rfl) ?_
  intro p e s m args below meth c a
  unfold wp_X8_isPerson at hw
  refine ok_iload_n (pc := 0) a dX8_isPerson_0 rfl rfl ?_
  refine ok_iconst (pc := 1) a dX8_isPerson_1 ?_
  refine ok_aload_n (pc := 2) a dX8_isPerson_2 rfl rfl ?_
  refine ok_getR (pc := 3) a dX8_isPerson_3 lfRX8_19 (Nat.lt_of_lt_of_le (by decide) hn) kq0 rfl (tg.at 0 1 3 (by decide) (by decide)) ?_
  refine ok_fI (pc := 6) 4 a dX8_isPerson_6 lfRX8_168 (Nat.lt_of_lt_of_le (by decide) hn) kq3 ty_7_4 rfl ?_
  refine ok_iconst (pc := 9) a dX8_isPerson_9 ?_
  refine ok_isub (pc := 10) a dX8_isPerson_10 ?_
  refine ok_SPZ (pc := 11) a [(vI x1), (vI 0), (vI ((h 3 4) - 1))] [] (M_X8_within hn tg x1 0 ((h 3 4) - 1)  hw) dX8_isPerson_11 lkRX8_82 rfl ⟨Nat.le_of_ble_eq_true rfl, Nat.le_of_ble_eq_true rfl⟩ rfl (Nat.le_of_ble_eq_true rfl) rfl (fun r1 hz2 hw => ?_)
  exact ok_zret (pc := 14) a dX8_isPerson_14 hz2 ⟨_, rfl, rfl, rfl, hz2, hw⟩

def wp_X8_isSort (x0 : Int) (h : aH) (Q : Int → Prop) : Prop :=
  wp_X8_within x0 0 3 h (fun r1 => Q r1)
set_option maxRecDepth 100000 in
set_option maxHeartbeats 4000000 in
theorem M_X8_isSort {Γ : Gm} {l : Launch} {n : Nat} {g : aG} (hn : 59 ≤ n) (tg : TC g) (x0 : Int)  {h : aH} {Q : Int → Prop} (hw : wp_X8_isSort x0 h Q) : Cl Γ l mX8_isSort [vI x0] n g h (PZ g h Q) := by
  refine Cl.of (by decide) [some (vI x0)] rfl (Nat.le_of_ble_eq_true rfl) ?_
  intro p e s m args below meth c a
  unfold wp_X8_isSort at hw
  refine ok_iload_n (pc := 0) a dX8_isSort_0 rfl rfl ?_
  refine ok_iconst (pc := 1) a dX8_isSort_1 ?_
  refine ok_iconst (pc := 2) a dX8_isSort_2 ?_
  refine ok_SPZ (pc := 3) a [(vI x0), (vI 0), (vI 3)] [] (M_X8_within hn tg x0 0 3  hw) dX8_isSort_3 lkRX8_82 rfl ⟨Nat.le_of_ble_eq_true rfl, Nat.le_of_ble_eq_true rfl⟩ rfl (Nat.le_of_ble_eq_true rfl) rfl (fun r1 hz2 hw => ?_)
  exact ok_zret (pc := 6) a dX8_isSort_6 hz2 ⟨_, rfl, rfl, rfl, hz2, hw⟩

def wp_X8_holds (x1 : Int) (x2 : Int) (h : aH) (Q : Int → Prop) : Prop :=
  wp_X8_isPerson x1 h (fun r1 => ((r1 = 0 → Q (-1)) ∧ (¬ r1 = 0 → wp_X8_isSort x2 h (fun r3 => (((r3 = 0 → True) ∧ (¬ r3 = 0 → (0 ≤ ((x1 * 4) + x2) ∧ ((x1 * 4) + x2) < 16) ∧ True))) ∧ Q (if r3 = 0 then (-1) else (h 14 ((x1 * 4) + x2)) : Int)))))
set_option maxRecDepth 100000 in
set_option maxHeartbeats 4000000 in
theorem M_X8_holds {Γ : Gm} {l : Launch} {n : Nat} {g : aG} (hn : 59 ≤ n) (tg : TC g) (x1 : Int) (x2 : Int)  {h : aH} {Q : Int → Prop} (hw : wp_X8_holds x1 x2 h Q) : Cl Γ l mX8_holds [vR 0, vI x1, vI x2] n g h (PI g h Q) := by
  refine Cl.of (by decide) [some (vR 0), some (vI x1), some (vI x2)] rfl (Nat.le_of_ble_eq_true rfl) ?_
  intro p e s m args below meth c a
  unfold wp_X8_holds at hw
  refine ok_aload_n (pc := 0) a dX8_holds_0 rfl rfl ?_
  refine ok_iload_n (pc := 1) a dX8_holds_1 rfl rfl ?_
  refine ok_VPZ (pc := 2) a [(vI x1)] [] (M_X8_isPerson hn tg x1  hw) dX8_holds_2 lkRX8_109 rfl (Nat.lt_of_lt_of_le (by decide) hn) kq0 (by decide) rfl ⟨Nat.le_of_ble_eq_true rfl, Nat.le_of_ble_eq_true rfl⟩ rfl (Nat.le_of_ble_eq_true rfl) rfl (fun r1 hz2 hw => ?_)
  refine ok_if_eq (pc := 5) a 31 dX8_holds_5 (by decide) (inR_b hz2) (fun hd7 => ?_) (fun hd7 => ?_)
  · have hw := hw.1 hd7
    refine ok_iconst (pc := 31) a dX8_holds_31 ?_
    exact ok_iret (pc := 32) a dX8_holds_32 ⟨_, rfl, rfl, rfl, hw⟩
  · have hw := hw.2 hd7
    refine ok_iload_n (pc := 8) a dX8_holds_8 rfl rfl ?_
    refine ok_SPZ (pc := 9) a [(vI x2)] [] (M_X8_isSort hn tg x2  hw) dX8_holds_9 lkRX8_113 rfl ⟨Nat.le_of_ble_eq_true rfl, Nat.le_of_ble_eq_true rfl⟩ rfl (Nat.le_of_ble_eq_true rfl) rfl (fun r3 hz4 hw => ?_)
    obtain ⟨hR, hw⟩ := hw
    have hK : OK Γ p l e (rmd 2 n n) s m args below meth c n (MQ below (QQ Γ n (PI g h Q)) args s (n - n) (sl n - sl n) (AA Γ)) 32 [some (vR 0), some (vI x1), some (vI x2)] [(vI (if r3 = 0 then (-1) else (h 14 ((x1 * 4) + x2)) : Int))] n g h := by
      exact ok_iret (pc := 32) a dX8_holds_32 ⟨_, rfl, rfl, rfl, hw⟩
    have hw := hR
    refine ok_if_eq (pc := 12) a 31 dX8_holds_12 (by decide) (inR_b hz4) (fun hd5 => ?_) (fun hd5 => ?_)
    · refine ok_iconst (pc := 31) a dX8_holds_31 ?_
      simp only [if_pos hd5] at hK
      exact hK
    · have hw := hw.2 hd5
      refine ok_aload_n (pc := 15) a dX8_holds_15 rfl rfl ?_
      refine ok_getR (pc := 16) a dX8_holds_16 lfRX8_29 (Nat.lt_of_lt_of_le (by decide) hn) kq0 rfl (tg.at 0 3 13 (by decide) (by decide)) ?_
      refine ok_getR (pc := 19) a dX8_holds_19 lfRX8_116 (Nat.lt_of_lt_of_le (by decide) hn) kq13 rfl (tg.at 13 0 14 (by decide) (by decide)) ?_
      refine ok_iload_n (pc := 22) a dX8_holds_22 rfl rfl ?_
      refine ok_iconst (pc := 23) a dX8_holds_23 ?_
      refine ok_imul (pc := 24) a dX8_holds_24 ?_
      refine ok_iload_n (pc := 25) a dX8_holds_25 rfl rfl ?_
      refine ok_iadd (pc := 26) a dX8_holds_26 ?_
      obtain ⟨hc6, hw⟩ := hw
      refine ok_iald (pc := 27) a dX8_holds_27 (Nat.lt_of_lt_of_le (by decide) hn) kq14 (by decide) hc6 ?_
      refine ok_goto (pc := 28) a 32 dX8_holds_28 (by decide) ?_
      simp only [if_neg hd5] at hK
      exact hK

def wp_X8_grows (x1 : Int) (x2 : Int) (h : aH) (Q : Int → Prop) : Prop :=
  wp_X8_isPerson x1 h (fun r1 => ((r1 = 0 → Q (-1)) ∧ (¬ r1 = 0 → wp_X8_isSort x2 h (fun r3 => (((r3 = 0 → True) ∧ (¬ r3 = 0 → (0 ≤ ((x1 * 4) + x2) ∧ ((x1 * 4) + x2) < 16) ∧ True))) ∧ Q (if r3 = 0 then (-1) else (h 6 ((x1 * 4) + x2)) : Int)))))
set_option maxRecDepth 100000 in
set_option maxHeartbeats 4000000 in
theorem M_X8_grows {Γ : Gm} {l : Launch} {n : Nat} {g : aG} (hn : 59 ≤ n) (tg : TC g) (x1 : Int) (x2 : Int)  {h : aH} {Q : Int → Prop} (hw : wp_X8_grows x1 x2 h Q) : Cl Γ l mX8_grows [vR 0, vI x1, vI x2] n g h (PI g h Q) := by
  refine Cl.of (by decide) [some (vR 0), some (vI x1), some (vI x2)] rfl (Nat.le_of_ble_eq_true rfl) ?_
  intro p e s m args below meth c a
  unfold wp_X8_grows at hw
  refine ok_aload_n (pc := 0) a dX8_grows_0 rfl rfl ?_
  refine ok_iload_n (pc := 1) a dX8_grows_1 rfl rfl ?_
  refine ok_VPZ (pc := 2) a [(vI x1)] [] (M_X8_isPerson hn tg x1  hw) dX8_grows_2 lkRX8_109 rfl (Nat.lt_of_lt_of_le (by decide) hn) kq0 (by decide) rfl ⟨Nat.le_of_ble_eq_true rfl, Nat.le_of_ble_eq_true rfl⟩ rfl (Nat.le_of_ble_eq_true rfl) rfl (fun r1 hz2 hw => ?_)
  refine ok_if_eq (pc := 5) a 31 dX8_grows_5 (by decide) (inR_b hz2) (fun hd7 => ?_) (fun hd7 => ?_)
  · have hw := hw.1 hd7
    refine ok_iconst (pc := 31) a dX8_grows_31 ?_
    exact ok_iret (pc := 32) a dX8_grows_32 ⟨_, rfl, rfl, rfl, hw⟩
  · have hw := hw.2 hd7
    refine ok_iload_n (pc := 8) a dX8_grows_8 rfl rfl ?_
    refine ok_SPZ (pc := 9) a [(vI x2)] [] (M_X8_isSort hn tg x2  hw) dX8_grows_9 lkRX8_113 rfl ⟨Nat.le_of_ble_eq_true rfl, Nat.le_of_ble_eq_true rfl⟩ rfl (Nat.le_of_ble_eq_true rfl) rfl (fun r3 hz4 hw => ?_)
    obtain ⟨hR, hw⟩ := hw
    have hK : OK Γ p l e (rmd 2 n n) s m args below meth c n (MQ below (QQ Γ n (PI g h Q)) args s (n - n) (sl n - sl n) (AA Γ)) 32 [some (vR 0), some (vI x1), some (vI x2)] [(vI (if r3 = 0 then (-1) else (h 6 ((x1 * 4) + x2)) : Int))] n g h := by
      exact ok_iret (pc := 32) a dX8_grows_32 ⟨_, rfl, rfl, rfl, hw⟩
    have hw := hR
    refine ok_if_eq (pc := 12) a 31 dX8_grows_12 (by decide) (inR_b hz4) (fun hd5 => ?_) (fun hd5 => ?_)
    · refine ok_iconst (pc := 31) a dX8_grows_31 ?_
      simp only [if_pos hd5] at hK
      exact hK
    · have hw := hw.2 hd5
      refine ok_aload_n (pc := 15) a dX8_grows_15 rfl rfl ?_
      refine ok_getR (pc := 16) a dX8_grows_16 lfRX8_19 (Nat.lt_of_lt_of_le (by decide) hn) kq0 rfl (tg.at 0 1 3 (by decide) (by decide)) ?_
      refine ok_getR (pc := 19) a dX8_grows_19 lfRX8_120 (Nat.lt_of_lt_of_le (by decide) hn) kq3 rfl (tg.at 3 2 6 (by decide) (by decide)) ?_
      refine ok_iload_n (pc := 22) a dX8_grows_22 rfl rfl ?_
      refine ok_iconst (pc := 23) a dX8_grows_23 ?_
      refine ok_imul (pc := 24) a dX8_grows_24 ?_
      refine ok_iload_n (pc := 25) a dX8_grows_25 rfl rfl ?_
      refine ok_iadd (pc := 26) a dX8_grows_26 ?_
      obtain ⟨hc6, hw⟩ := hw
      refine ok_iald (pc := 27) a dX8_grows_27 (Nat.lt_of_lt_of_le (by decide) hn) kq6 (by decide) hc6 ?_
      refine ok_goto (pc := 28) a 32 dX8_grows_28 (by decide) ?_
      simp only [if_neg hd5] at hK
      exact hK

def wp_X8_weight (x1 : Int) (h : aH) (Q : Int → Prop) : Prop :=
  wp_X8_isSort x1 h (fun r1 => ((r1 = 0 → wp_X8_within x1 4 8 h (fun r3 => ((r3 = 0 → Q (-1)) ∧ (¬ r3 = 0 → ∀ x2_32, x2_32 = (x1 - 4) → (inR x2_32 ∧ inR (h 3 5) ∧ (((h 3 5) ≤ x2_32 → True) ∧ (¬ (h 3 5) ≤ x2_32 → (0 ≤ x2_32 ∧ x2_32 < 5) ∧ True))) ∧ Q (if (h 3 5) ≤ x2_32 then (-9) else (h 7 x2_32) : Int))))) ∧ (¬ r1 = 0 → (0 ≤ x1 ∧ x1 < 4) ∧ Q (h 4 x1))))
set_option maxRecDepth 100000 in
set_option maxHeartbeats 4000000 in
theorem M_X8_weight {Γ : Gm} {l : Launch} {n : Nat} {g : aG} (hn : 59 ≤ n) (tg : TC g) (x1 : Int)  {h : aH} {Q : Int → Prop} (hw : wp_X8_weight x1 h Q) : Cl Γ l mX8_weight [vR 0, vI x1] n g h (PI g h Q) := by
  refine Cl.of (by decide) [some (vR 0), some (vI x1), none] rfl (Nat.le_of_ble_eq_true rfl) ?_
  intro p e s m args below meth c a
  unfold wp_X8_weight at hw
  refine ok_iload_n (pc := 0) a dX8_weight_0 rfl rfl ?_
  refine ok_SPZ (pc := 1) a [(vI x1)] [] (M_X8_isSort hn tg x1  hw) dX8_weight_1 lkRX8_113 rfl ⟨Nat.le_of_ble_eq_true rfl, Nat.le_of_ble_eq_true rfl⟩ rfl (Nat.le_of_ble_eq_true rfl) rfl (fun r1 hz2 hw => ?_)
  refine ok_if_eq (pc := 4) a 17 dX8_weight_4 (by decide) (inR_b hz2) (fun hd11 => ?_) (fun hd11 => ?_)
  · have hw := hw.1 hd11
    refine ok_iload_n (pc := 17) a dX8_weight_17 rfl rfl ?_
    refine ok_iconst (pc := 18) a dX8_weight_18 ?_
    refine ok_bipush (pc := 19) a dX8_weight_19 (by decide) ?_
    refine ok_SPZ (pc := 21) a [(vI x1), (vI 4), (vI 8)] [] (M_X8_within hn tg x1 4 8  hw) dX8_weight_21 lkRX8_82 rfl ⟨Nat.le_of_ble_eq_true rfl, Nat.le_of_ble_eq_true rfl⟩ rfl (Nat.le_of_ble_eq_true rfl) rfl (fun r3 hz4 hw => ?_)
    refine ok_if_ne (pc := 24) a 29 dX8_weight_24 (by decide) (inR_b hz4) (fun hd9 => ?_) (fun hd9 => ?_)
    · have hw := hw.2 hd9
      refine ok_iload_n (pc := 29) a dX8_weight_29 rfl rfl ?_
      refine ok_iconst (pc := 30) a dX8_weight_30 ?_
      refine ok_isub (pc := 31) a dX8_weight_31 ?_
      refine ok_nmI (fun x2_32 ex2_32 => ?_)
      have hw := hw x2_32 ex2_32
      refine ok_sI_n (pc := 32) a [some (vR 0), some (vI x1), some (vI x2_32)] dX8_weight_32 rfl (by decide) rfl rfl ?_
      refine ok_iload_n (pc := 33) a dX8_weight_33 rfl rfl ?_
      refine ok_aload_n (pc := 34) a dX8_weight_34 rfl rfl ?_
      refine ok_getR (pc := 35) a dX8_weight_35 lfRX8_19 (Nat.lt_of_lt_of_le (by decide) hn) kq0 rfl (tg.at 0 1 3 (by decide) (by decide)) ?_
      refine ok_fI (pc := 38) 5 a dX8_weight_38 lfRX8_126 (Nat.lt_of_lt_of_le (by decide) hn) kq3 ty_7_5 rfl ?_
      obtain ⟨hR, hw⟩ := hw
      have hK : OK Γ p l e (rmd 2 n n) s m args below meth c n (MQ below (QQ Γ n (PI g h Q)) args s (n - n) (sl n - sl n) (AA Γ)) 58 [some (vR 0), some (vI x1), some (vI x2_32)] [(vI (if (h 3 5) ≤ x2_32 then (-9) else (h 7 x2_32) : Int))] n g h := by
        exact ok_iret (pc := 58) a dX8_weight_58 ⟨_, rfl, rfl, rfl, hw⟩
      have hw := hR
      obtain ⟨hc5, hw⟩ := hw
      obtain ⟨hc6, hw⟩ := hw
      refine ok_icmp_ge (pc := 41) a 56 dX8_weight_41 (by decide) hc5 hc6 (fun hd7 => ?_) (fun hd7 => ?_)
      · refine ok_bipush (pc := 56) a dX8_weight_56 (by decide) ?_
        simp only [if_pos hd7] at hK
        exact hK
      · have hw := hw.2 hd7
        refine ok_aload_n (pc := 44) a dX8_weight_44 rfl rfl ?_
        refine ok_getR (pc := 45) a dX8_weight_45 lfRX8_19 (Nat.lt_of_lt_of_le (by decide) hn) kq0 rfl (tg.at 0 1 3 (by decide) (by decide)) ?_
        refine ok_getR (pc := 48) a dX8_weight_48 lfRX8_129 (Nat.lt_of_lt_of_le (by decide) hn) kq3 rfl (tg.at 3 3 7 (by decide) (by decide)) ?_
        refine ok_iload_n (pc := 51) a dX8_weight_51 rfl rfl ?_
        obtain ⟨hc8, hw⟩ := hw
        refine ok_iald (pc := 52) a dX8_weight_52 (Nat.lt_of_lt_of_le (by decide) hn) kq7 (by decide) hc8 ?_
        refine ok_goto (pc := 53) a 58 dX8_weight_53 (by decide) ?_
        simp only [if_neg hd7] at hK
        exact hK
    · have hw := hw.1 hd9
      refine ok_iconst (pc := 27) a dX8_weight_27 ?_
      exact ok_iret (pc := 28) a dX8_weight_28 ⟨_, rfl, rfl, rfl, hw⟩
  · have hw := hw.2 hd11
    refine ok_aload_n (pc := 7) a dX8_weight_7 rfl rfl ?_
    refine ok_getR (pc := 8) a dX8_weight_8 lfRX8_19 (Nat.lt_of_lt_of_le (by decide) hn) kq0 rfl (tg.at 0 1 3 (by decide) (by decide)) ?_
    refine ok_getR (pc := 11) a dX8_weight_11 lfRX8_123 (Nat.lt_of_lt_of_le (by decide) hn) kq3 rfl (tg.at 3 0 4 (by decide) (by decide)) ?_
    refine ok_iload_n (pc := 14) a dX8_weight_14 rfl rfl ?_
    obtain ⟨hc10, hw⟩ := hw
    refine ok_iald (pc := 15) a dX8_weight_15 (Nat.lt_of_lt_of_le (by decide) hn) kq4 (by decide) hc10 ?_
    exact ok_iret (pc := 16) a dX8_weight_16 ⟨_, rfl, rfl, rfl, hw⟩

def wp_X8_heavinessAhead_B5 (x1 : Int) (x2 : Int) (h : aH) (Q : Int → Prop) (X5 : Int × Int → Prop) (x3_5 : Int) (x4_5 : Int) : Prop :=
  inR x4_5 ∧ ((4 ≤ x4_5 → Q x3_5) ∧ (¬ 4 ≤ x4_5 → ∀ x5_17, x5_17 = ((x1 * 4) + x4_5) → (0 ≤ x5_17 ∧ x5_17 < 16) ∧ inR ((h 14 x5_17) + ((h 6 x5_17) * x2)) ∧ ∀ x6_47, x6_47 = (min 9 ((h 14 x5_17) + ((h 6 x5_17) * x2))) → (0 ≤ x4_5 ∧ x4_5 < 4) ∧ ∀ x3_64, x3_64 = (x3_5 + ((h 4 x4_5) * x6_47)) → X5 (x3_64, (x4_5 + 1))))
def wp_X8_heavinessAhead (x1 : Int) (x2 : Int) (h : aH) (Q : Int → Prop) : Prop :=
  lp (fun X y => wp_X8_heavinessAhead_B5 x1 x2 h Q X y.1 y.2) (0, 0)
set_option maxRecDepth 100000 in
set_option maxHeartbeats 4000000 in
theorem M_X8_heavinessAhead {Γ : Gm} {l : Launch} {n : Nat} {g : aG} (hn : 59 ≤ n) (tg : TC g) (x1 : Int) (x2 : Int)  {h : aH} {Q : Int → Prop} (hw : wp_X8_heavinessAhead x1 x2 h Q) : Cl Γ l mX8_heavinessAhead [vR 0, vI x1, vI x2] n g h (PI g h Q) := by
  refine Cl.of (by decide) [some (vR 0), some (vI x1), some (vI x2), none, none, none, none] rfl (Nat.le_of_ble_eq_true rfl) ?_
  intro p e s m args below meth c a
  unfold wp_X8_heavinessAhead at hw
  refine ok_iconst (pc := 0) a dX8_heavinessAhead_0 ?_
  refine ok_sI_n (pc := 1) a [some (vR 0), some (vI x1), some (vI x2), some (vI 0), none, none, none] dX8_heavinessAhead_1 rfl (by decide) rfl rfl ?_
  refine ok_iconst (pc := 2) a dX8_heavinessAhead_2 ?_
  refine ok_sI (pc := 3) a [some (vR 0), some (vI x1), some (vI x2), some (vI 0), some (vI 0), none, none] dX8_heavinessAhead_3 (by decide) rfl rfl ?_
  refine lp.use (P := fun y => OK Γ p l e (rmd 1 n n) s m args below meth c n (MQ below (QQ Γ n (PI g h Q)) args s (n - n) (sl n - sl n) (AA Γ)) 5 [some (vR 0), some (vI x1), some (vI x2), some (vI y.1), some (vI y.2), none, none] [] n g h) ?_ (0, 0) hw
  clear hw
  intro X5 hX5 y hw
  obtain ⟨x3_5, x4_5⟩ := y
  have hw : wp_X8_heavinessAhead_B5 x1 x2 h Q X5 x3_5 x4_5 := hw
  unfold wp_X8_heavinessAhead_B5 at hw
  try dsimp only
  refine ok_iload (pc := 5) a dX8_heavinessAhead_5 rfl ?_
  refine ok_iconst (pc := 7) a dX8_heavinessAhead_7 ?_
  obtain ⟨hc1, hw⟩ := hw
  refine ok_icmp_ge (pc := 8) a 71 dX8_heavinessAhead_8 (by decide) hc1 ⟨by decide, by decide⟩ (fun hd5 => ?_) (fun hd5 => ?_)
  · have hw := hw.1 hd5
    refine ok_iload_n (pc := 71) a dX8_heavinessAhead_71 rfl rfl ?_
    exact ok_iret (pc := 72) a dX8_heavinessAhead_72 ⟨_, rfl, rfl, rfl, hw⟩
  · have hw := hw.2 hd5
    refine ok_iload_n (pc := 11) a dX8_heavinessAhead_11 rfl rfl ?_
    refine ok_iconst (pc := 12) a dX8_heavinessAhead_12 ?_
    refine ok_imul (pc := 13) a dX8_heavinessAhead_13 ?_
    refine ok_iload (pc := 14) a dX8_heavinessAhead_14 rfl ?_
    refine ok_iadd (pc := 16) a dX8_heavinessAhead_16 ?_
    refine ok_nmI (fun x5_17 ex5_17 => ?_)
    have hw := hw x5_17 ex5_17
    refine ok_sI (pc := 17) a [some (vR 0), some (vI x1), some (vI x2), some (vI x3_5), some (vI x4_5), some (vI x5_17), none] dX8_heavinessAhead_17 (by decide) rfl rfl ?_
    refine ok_bipush (pc := 19) a dX8_heavinessAhead_19 (by decide) ?_
    refine ok_aload_n (pc := 21) a dX8_heavinessAhead_21 rfl rfl ?_
    refine ok_getR (pc := 22) a dX8_heavinessAhead_22 lfRX8_29 (Nat.lt_of_lt_of_le (by decide) hn) kq0 rfl (tg.at 0 3 13 (by decide) (by decide)) ?_
    refine ok_getR (pc := 25) a dX8_heavinessAhead_25 lfRX8_116 (Nat.lt_of_lt_of_le (by decide) hn) kq13 rfl (tg.at 13 0 14 (by decide) (by decide)) ?_
    refine ok_iload (pc := 28) a dX8_heavinessAhead_28 rfl ?_
    obtain ⟨hc2, hw⟩ := hw
    refine ok_iald (pc := 30) a dX8_heavinessAhead_30 (Nat.lt_of_lt_of_le (by decide) hn) kq14 (by decide) hc2 ?_
    refine ok_aload_n (pc := 31) a dX8_heavinessAhead_31 rfl rfl ?_
    refine ok_getR (pc := 32) a dX8_heavinessAhead_32 lfRX8_19 (Nat.lt_of_lt_of_le (by decide) hn) kq0 rfl (tg.at 0 1 3 (by decide) (by decide)) ?_
    refine ok_getR (pc := 35) a dX8_heavinessAhead_35 lfRX8_120 (Nat.lt_of_lt_of_le (by decide) hn) kq3 rfl (tg.at 3 2 6 (by decide) (by decide)) ?_
    refine ok_iload (pc := 38) a dX8_heavinessAhead_38 rfl ?_
    refine ok_iald (pc := 40) a dX8_heavinessAhead_40 (Nat.lt_of_lt_of_le (by decide) hn) kq6 (by decide) hc2 ?_
    refine ok_iload_n (pc := 41) a dX8_heavinessAhead_41 rfl rfl ?_
    refine ok_imul (pc := 42) a dX8_heavinessAhead_42 ?_
    refine ok_iadd (pc := 43) a dX8_heavinessAhead_43 ?_
    obtain ⟨hc3, hw⟩ := hw
    refine ok_mmin (pc := 44) (st := []) a dX8_heavinessAhead_44 mmRX8_307 ⟨by decide, by decide⟩ hc3 (Nat.le_of_ble_eq_true rfl) (Nat.le_of_ble_eq_true rfl) ?_
    refine ok_nmI (fun x6_47 ex6_47 => ?_)
    have hw := hw x6_47 ex6_47
    refine ok_sI (pc := 47) a [some (vR 0), some (vI x1), some (vI x2), some (vI x3_5), some (vI x4_5), some (vI x5_17), some (vI x6_47)] dX8_heavinessAhead_47 (by decide) rfl rfl ?_
    refine ok_iload_n (pc := 49) a dX8_heavinessAhead_49 rfl rfl ?_
    refine ok_aload_n (pc := 50) a dX8_heavinessAhead_50 rfl rfl ?_
    refine ok_getR (pc := 51) a dX8_heavinessAhead_51 lfRX8_19 (Nat.lt_of_lt_of_le (by decide) hn) kq0 rfl (tg.at 0 1 3 (by decide) (by decide)) ?_
    refine ok_getR (pc := 54) a dX8_heavinessAhead_54 lfRX8_123 (Nat.lt_of_lt_of_le (by decide) hn) kq3 rfl (tg.at 3 0 4 (by decide) (by decide)) ?_
    refine ok_iload (pc := 57) a dX8_heavinessAhead_57 rfl ?_
    obtain ⟨hc4, hw⟩ := hw
    refine ok_iald (pc := 59) a dX8_heavinessAhead_59 (Nat.lt_of_lt_of_le (by decide) hn) kq4 (by decide) hc4 ?_
    refine ok_iload (pc := 60) a dX8_heavinessAhead_60 rfl ?_
    refine ok_imul (pc := 62) a dX8_heavinessAhead_62 ?_
    refine ok_iadd (pc := 63) a dX8_heavinessAhead_63 ?_
    refine ok_nmI (fun x3_64 ex3_64 => ?_)
    have hw := hw x3_64 ex3_64
    refine ok_sI_n (pc := 64) a [some (vR 0), some (vI x1), some (vI x2), some (vI x3_64), some (vI x4_5), some (vI x5_17), some (vI x6_47)] dX8_heavinessAhead_64 rfl (by decide) rfl rfl ?_
    refine ok_inc (pc := 65) a [some (vR 0), some (vI x1), some (vI x2), some (vI x3_64), some (vI (x4_5 + 1)), some (vI x5_17), some (vI x6_47)] dX8_heavinessAhead_65 rfl (by decide) rfl rfl ?_
    refine ok_goto (pc := 68) a 5 dX8_heavinessAhead_68 (by decide) ?_
    refine ok_forget 5 ?_
    refine ok_forget 6 ?_
    exact hX5 (x3_64, (x4_5 + 1)) hw

def wp_X8_heavinessOf (x1 : Int) (h : aH) (Q : Int → Prop) : Prop :=
  wp_X8_heavinessAhead x1 0 h (fun r1 => Q r1)
set_option maxRecDepth 100000 in
set_option maxHeartbeats 4000000 in
theorem M_X8_heavinessOf {Γ : Gm} {l : Launch} {n : Nat} {g : aG} (hn : 59 ≤ n) (tg : TC g) (x1 : Int)  {h : aH} {Q : Int → Prop} (hw : wp_X8_heavinessOf x1 h Q) : Cl Γ l mX8_heavinessOf [vR 0, vI x1] n g h (PI g h Q) := by
  refine Cl.of (by decide) [some (vR 0), some (vI x1)] rfl (Nat.le_of_ble_eq_true rfl) ?_
  intro p e s m args below meth c a
  unfold wp_X8_heavinessOf at hw
  refine ok_aload_n (pc := 0) a dX8_heavinessOf_0 rfl rfl ?_
  refine ok_iload_n (pc := 1) a dX8_heavinessOf_1 rfl rfl ?_
  refine ok_iconst (pc := 2) a dX8_heavinessOf_2 ?_
  refine ok_VPI (pc := 3) a [(vI x1), (vI 0)] [] (M_X8_heavinessAhead hn tg x1 0  hw) dX8_heavinessOf_3 lkRX8_205 rfl (Nat.lt_of_lt_of_le (by decide) hn) kq0 (by decide) rfl ⟨Nat.le_of_ble_eq_true rfl, Nat.le_of_ble_eq_true rfl⟩ rfl (Nat.le_of_ble_eq_true rfl) rfl (fun r1 hw => ?_)
  exact ok_iret (pc := 6) a dX8_heavinessOf_6 ⟨_, rfl, rfl, rfl, hw⟩

def wp_X8_heavy (x1 : Int) (h : aH) (Q : Int → Prop) : Prop :=
  wp_X8_isPerson x1 h (fun r1 => ((r1 = 0 → Q (-1)) ∧ (¬ r1 = 0 → wp_X8_heavinessOf x1 h (fun r3 => Q r3))))
set_option maxRecDepth 100000 in
set_option maxHeartbeats 4000000 in
theorem M_X8_heavy {Γ : Gm} {l : Launch} {n : Nat} {g : aG} (hn : 59 ≤ n) (tg : TC g) (x1 : Int)  {h : aH} {Q : Int → Prop} (hw : wp_X8_heavy x1 h Q) : Cl Γ l mX8_heavy [vR 0, vI x1] n g h (PI g h Q) := by
  refine Cl.of (by decide) [some (vR 0), some (vI x1)] rfl (Nat.le_of_ble_eq_true rfl) ?_
  intro p e s m args below meth c a
  unfold wp_X8_heavy at hw
  refine ok_aload_n (pc := 0) a dX8_heavy_0 rfl rfl ?_
  refine ok_iload_n (pc := 1) a dX8_heavy_1 rfl rfl ?_
  refine ok_VPZ (pc := 2) a [(vI x1)] [] (M_X8_isPerson hn tg x1  hw) dX8_heavy_2 lkRX8_109 rfl (Nat.lt_of_lt_of_le (by decide) hn) kq0 (by decide) rfl ⟨Nat.le_of_ble_eq_true rfl, Nat.le_of_ble_eq_true rfl⟩ rfl (Nat.le_of_ble_eq_true rfl) rfl (fun r1 hz2 hw => ?_)
  refine ok_if_eq (pc := 5) a 16 dX8_heavy_5 (by decide) (inR_b hz2) (fun hd4 => ?_) (fun hd4 => ?_)
  · have hw := hw.1 hd4
    refine ok_iconst (pc := 16) a dX8_heavy_16 ?_
    exact ok_iret (pc := 17) a dX8_heavy_17 ⟨_, rfl, rfl, rfl, hw⟩
  · have hw := hw.2 hd4
    refine ok_aload_n (pc := 8) a dX8_heavy_8 rfl rfl ?_
    refine ok_iload_n (pc := 9) a dX8_heavy_9 rfl rfl ?_
    refine ok_VPI (pc := 10) a [(vI x1)] [] (M_X8_heavinessOf hn tg x1  hw) dX8_heavy_10 lkRX8_132 rfl (Nat.lt_of_lt_of_le (by decide) hn) kq0 (by decide) rfl ⟨Nat.le_of_ble_eq_true rfl, Nat.le_of_ble_eq_true rfl⟩ rfl (Nat.le_of_ble_eq_true rfl) rfl (fun r3 hw => ?_)
    refine ok_goto (pc := 13) a 17 dX8_heavy_13 (by decide) ?_
    exact ok_iret (pc := 17) a dX8_heavy_17 ⟨_, rfl, rfl, rfl, hw⟩

def wp_X8_isPair (x1 : Int) (x2 : Int) (h : aH) (Q : Int → Prop) : Prop :=
  wp_X8_isPerson x1 h (fun r1 => ((r1 = 0 → Q 0) ∧ (¬ r1 = 0 → wp_X8_isPerson x2 h (fun r3 => (((r3 = 0 → True) ∧ (¬ r3 = 0 → inR x1 ∧ inR x2 ∧ True))) ∧ Q (if r3 = 0 then 0 else (if x1 = x2 then 0 else 1 : Int) : Int)))))
set_option maxRecDepth 100000 in
set_option maxHeartbeats 4000000 in
theorem M_X8_isPair {Γ : Gm} {l : Launch} {n : Nat} {g : aG} (hn : 59 ≤ n) (tg : TC g) (x1 : Int) (x2 : Int)  {h : aH} {Q : Int → Prop} (hw : wp_X8_isPair x1 x2 h Q) : Cl Γ l mX8_isPair [vR 0, vI x1, vI x2] n g h (PZ g h Q) := by
  refine Cl.of (by decide) [some (vR 0), some (vI x1), some (vI x2)] rfl (Nat.le_of_ble_eq_true rfl) ?_
  intro p e s m args below meth c a
  unfold wp_X8_isPair at hw
  refine ok_aload_n (pc := 0) a dX8_isPair_0 rfl rfl ?_
  refine ok_iload_n (pc := 1) a dX8_isPair_1 rfl rfl ?_
  refine ok_VPZ (pc := 2) a [(vI x1)] [] (M_X8_isPerson hn tg x1  hw) dX8_isPair_2 lkRX8_109 rfl (Nat.lt_of_lt_of_le (by decide) hn) kq0 (by decide) rfl ⟨Nat.le_of_ble_eq_true rfl, Nat.le_of_ble_eq_true rfl⟩ rfl (Nat.le_of_ble_eq_true rfl) rfl (fun r1 hz2 hw => ?_)
  refine ok_if_eq (pc := 5) a 25 dX8_isPair_5 (by decide) (inR_b hz2) (fun hd9 => ?_) (fun hd9 => ?_)
  · have hw := hw.1 hd9
    refine ok_iconst (pc := 25) a dX8_isPair_25 ?_
    exact ok_zret (pc := 26) a dX8_isPair_26 (Or.inl rfl) ⟨_, rfl, rfl, rfl, (Or.inl rfl), hw⟩
  · have hw := hw.2 hd9
    refine ok_aload_n (pc := 8) a dX8_isPair_8 rfl rfl ?_
    refine ok_iload_n (pc := 9) a dX8_isPair_9 rfl rfl ?_
    refine ok_VPZ (pc := 10) a [(vI x2)] [] (M_X8_isPerson hn tg x2  hw) dX8_isPair_10 lkRX8_109 rfl (Nat.lt_of_lt_of_le (by decide) hn) kq0 (by decide) rfl ⟨Nat.le_of_ble_eq_true rfl, Nat.le_of_ble_eq_true rfl⟩ rfl (Nat.le_of_ble_eq_true rfl) rfl (fun r3 hz4 hw => ?_)
    obtain ⟨hR, hw⟩ := hw
    have hK : OK Γ p l e (rmd 2 n n) s m args below meth c n (MQ below (QQ Γ n (PZ g h Q)) args s (n - n) (sl n - sl n) (AA Γ)) 26 [some (vR 0), some (vI x1), some (vI x2)] [(vI (if r3 = 0 then 0 else (if x1 = x2 then 0 else 1 : Int) : Int))] n g h := by
      exact ok_zret (pc := 26) a dX8_isPair_26 (ite01 (Or.inl rfl) (ite01 (Or.inl rfl) (Or.inr rfl))) ⟨_, rfl, rfl, rfl, (ite01 (Or.inl rfl) (ite01 (Or.inl rfl) (Or.inr rfl))), hw⟩
    have hw := hR
    refine ok_if_eq (pc := 13) a 25 dX8_isPair_13 (by decide) (inR_b hz4) (fun hd5 => ?_) (fun hd5 => ?_)
    · refine ok_iconst (pc := 25) a dX8_isPair_25 ?_
      simp only [if_pos hd5] at hK
      exact hK
    · have hw := hw.2 hd5
      refine ok_iload_n (pc := 16) a dX8_isPair_16 rfl rfl ?_
      refine ok_iload_n (pc := 17) a dX8_isPair_17 rfl rfl ?_
      obtain ⟨hc6, hw⟩ := hw
      obtain ⟨hc7, hw⟩ := hw
      refine ok_icmp_eq (pc := 18) a 25 dX8_isPair_18 (by decide) hc6 hc7 (fun hd8 => ?_) (fun hd8 => ?_)
      · refine ok_iconst (pc := 25) a dX8_isPair_25 ?_
        simp only [if_neg hd5, if_pos hd8] at hK
        exact hK
      · refine ok_iconst (pc := 21) a dX8_isPair_21 ?_
        refine ok_goto (pc := 22) a 26 dX8_isPair_22 (by decide) ?_
        simp only [if_neg hd5, if_neg hd8] at hK
        exact hK

def wp_X8_knownOf (x1 : Int) (x2 : Int) (h : aH) (Q : Int → Prop) : Prop :=
  wp_X8_pairOf x1 x2 h (fun r1 => wp_X8_foundOf (h 13 2) r1 h (fun r2 => inR r2 ∧ ((r2 = 0 → Q (-9)) ∧ (¬ r2 = 0 → ((r2 = 3 → Q 0) ∧ (¬ r2 = 3 → (inR x1 ∧ inR x2 ∧ True) ∧ Q (if (if r2 = 1 then 1 else 0 : Int) = (if x2 ≤ x1 then 0 else 1 : Int) then 1 else 2 : Int)))))))
set_option maxRecDepth 100000 in
set_option maxHeartbeats 4000000 in
theorem M_X8_knownOf {Γ : Gm} {l : Launch} {n : Nat} {g : aG} (hn : 59 ≤ n) (tg : TC g) (x1 : Int) (x2 : Int)  {h : aH} {Q : Int → Prop} (hw : wp_X8_knownOf x1 x2 h Q) : Cl Γ l mX8_knownOf [vR 0, vI x1, vI x2] n g h (PI g h Q) := by
  refine Cl.of (by decide) [some (vR 0), some (vI x1), some (vI x2), none] rfl (Nat.le_of_ble_eq_true rfl) ?_
  intro p e s m args below meth c a
  unfold wp_X8_knownOf at hw
  refine ok_aload_n (pc := 0) a dX8_knownOf_0 rfl rfl ?_
  refine ok_getR (pc := 1) a dX8_knownOf_1 lfRX8_29 (Nat.lt_of_lt_of_le (by decide) hn) kq0 rfl (tg.at 0 3 13 (by decide) (by decide)) ?_
  refine ok_fI (pc := 4) 2 a dX8_knownOf_4 lfRX8_171 (Nat.lt_of_lt_of_le (by decide) hn) kq13 ty_4_2 rfl ?_
  refine ok_iload_n (pc := 7) a dX8_knownOf_7 rfl rfl ?_
  refine ok_iload_n (pc := 8) a dX8_knownOf_8 rfl rfl ?_
  refine ok_SPI (pc := 9) a [(vI x1), (vI x2)] [(vI (h 13 2))] (M_X8_pairOf hn tg x1 x2  hw) dX8_knownOf_9 lkRX8_174 rfl ⟨Nat.le_of_ble_eq_true rfl, Nat.le_of_ble_eq_true rfl⟩ rfl (Nat.le_of_ble_eq_true rfl) rfl (fun r1 hw => ?_)
  refine ok_SPI (pc := 12) a [(vI (h 13 2)), (vI r1)] [] (M_X8_foundOf hn tg (h 13 2) r1  hw) dX8_knownOf_12 lkRX8_315 rfl ⟨Nat.le_of_ble_eq_true rfl, Nat.le_of_ble_eq_true rfl⟩ rfl (Nat.le_of_ble_eq_true rfl) rfl (fun r2 hw => ?_)
  refine ok_sI_n (pc := 15) a [some (vR 0), some (vI x1), some (vI x2), some (vI r2)] dX8_knownOf_15 rfl (by decide) rfl rfl ?_
  refine ok_iload_n (pc := 16) a dX8_knownOf_16 rfl rfl ?_
  obtain ⟨hc3, hw⟩ := hw
  refine ok_if_ne (pc := 17) a 23 dX8_knownOf_17 (by decide) hc3 (fun hd10 => ?_) (fun hd10 => ?_)
  · have hw := hw.2 hd10
    refine ok_iload_n (pc := 23) a dX8_knownOf_23 rfl rfl ?_
    refine ok_iconst (pc := 24) a dX8_knownOf_24 ?_
    refine ok_icmp_ne (pc := 25) a 30 dX8_knownOf_25 (by decide) hc3 ⟨by decide, by decide⟩ (fun hd9 => ?_) (fun hd9 => ?_)
    · have hw := hw.2 hd9
      refine ok_iload_n (pc := 30) a dX8_knownOf_30 rfl rfl ?_
      refine ok_iconst (pc := 31) a dX8_knownOf_31 ?_
      have hK : OK Γ p l e (rmd 2 n n) s m args below meth c n (MQ below (QQ Γ n (PI g h Q)) args s (n - n) (sl n - sl n) (AA Γ)) 40 [some (vR 0), some (vI x1), some (vI x2), some (vI r2)] [(vI (if r2 = 1 then 1 else 0 : Int))] n g h := by
        refine ok_iload_n (pc := 40) a dX8_knownOf_40 rfl rfl ?_
        refine ok_iload_n (pc := 41) a dX8_knownOf_41 rfl rfl ?_
        obtain ⟨hR, hw⟩ := hw
        have hK : OK Γ p l e (rmd 2 n n) s m args below meth c n (MQ below (QQ Γ n (PI g h Q)) args s (n - n) (sl n - sl n) (AA Γ)) 50 [some (vR 0), some (vI x1), some (vI x2), some (vI r2)] [(vI (if x2 ≤ x1 then 0 else 1 : Int)), (vI (if r2 = 1 then 1 else 0 : Int))] n g h := by
          have hK : OK Γ p l e (rmd 2 n n) s m args below meth c n (MQ below (QQ Γ n (PI g h Q)) args s (n - n) (sl n - sl n) (AA Γ)) 58 [some (vR 0), some (vI x1), some (vI x2), some (vI r2)] [(vI (if (if r2 = 1 then 1 else 0 : Int) = (if x2 ≤ x1 then 0 else 1 : Int) then 1 else 2 : Int))] n g h := by
            exact ok_iret (pc := 58) a dX8_knownOf_58 ⟨_, rfl, rfl, rfl, hw⟩
          refine ok_icmp_ne (pc := 50) a 57 dX8_knownOf_50 (by decide) (inR_b (ite01 (Or.inr rfl) (Or.inl rfl))) (inR_b (ite01 (Or.inl rfl) (Or.inr rfl))) (fun hd8 => ?_) (fun hd8 => ?_)
          · refine ok_iconst (pc := 57) a dX8_knownOf_57 ?_
            simp only [if_neg hd8] at hK
            exact hK
          · refine ok_iconst (pc := 53) a dX8_knownOf_53 ?_
            refine ok_goto (pc := 54) a 58 dX8_knownOf_54 (by decide) ?_
            simp only [if_pos hd8] at hK
            exact hK
        have hw := hR
        obtain ⟨hc5, hw⟩ := hw
        obtain ⟨hc6, hw⟩ := hw
        refine ok_icmp_ge (pc := 42) a 49 dX8_knownOf_42 (by decide) hc5 hc6 (fun hd7 => ?_) (fun hd7 => ?_)
        · refine ok_iconst (pc := 49) a dX8_knownOf_49 ?_
          simp only [if_pos hd7] at hK
          exact hK
        · refine ok_iconst (pc := 45) a dX8_knownOf_45 ?_
          refine ok_goto (pc := 46) a 50 dX8_knownOf_46 (by decide) ?_
          simp only [if_neg hd7] at hK
          exact hK
      refine ok_icmp_ne (pc := 32) a 39 dX8_knownOf_32 (by decide) hc3 ⟨by decide, by decide⟩ (fun hd4 => ?_) (fun hd4 => ?_)
      · refine ok_iconst (pc := 39) a dX8_knownOf_39 ?_
        simp only [if_neg hd4] at hK
        exact hK
      · refine ok_iconst (pc := 35) a dX8_knownOf_35 ?_
        refine ok_goto (pc := 36) a 40 dX8_knownOf_36 (by decide) ?_
        simp only [if_pos hd4] at hK
        exact hK
    · have hw := hw.1 hd9
      refine ok_iconst (pc := 28) a dX8_knownOf_28 ?_
      exact ok_iret (pc := 29) a dX8_knownOf_29 ⟨_, rfl, rfl, rfl, hw⟩
  · have hw := hw.1 hd10
    refine ok_bipush (pc := 20) a dX8_knownOf_20 (by decide) ?_
    exact ok_iret (pc := 22) a dX8_knownOf_22 ⟨_, rfl, rfl, rfl, hw⟩

def wp_X8_known (x1 : Int) (x2 : Int) (h : aH) (Q : Int → Prop) : Prop :=
  wp_X8_isPair x1 x2 h (fun r1 => ((r1 = 0 → Q (-1)) ∧ (¬ r1 = 0 → wp_X8_knownOf x1 x2 h (fun r3 => Q r3))))
set_option maxRecDepth 100000 in
set_option maxHeartbeats 4000000 in
theorem M_X8_known {Γ : Gm} {l : Launch} {n : Nat} {g : aG} (hn : 59 ≤ n) (tg : TC g) (x1 : Int) (x2 : Int)  {h : aH} {Q : Int → Prop} (hw : wp_X8_known x1 x2 h Q) : Cl Γ l mX8_known [vR 0, vI x1, vI x2] n g h (PI g h Q) := by
  refine Cl.of (by decide) [some (vR 0), some (vI x1), some (vI x2)] rfl (Nat.le_of_ble_eq_true rfl) ?_
  intro p e s m args below meth c a
  unfold wp_X8_known at hw
  refine ok_aload_n (pc := 0) a dX8_known_0 rfl rfl ?_
  refine ok_iload_n (pc := 1) a dX8_known_1 rfl rfl ?_
  refine ok_iload_n (pc := 2) a dX8_known_2 rfl rfl ?_
  refine ok_VPZ (pc := 3) a [(vI x1), (vI x2)] [] (M_X8_isPair hn tg x1 x2  hw) dX8_known_3 lkRX8_136 rfl (Nat.lt_of_lt_of_le (by decide) hn) kq0 (by decide) rfl ⟨Nat.le_of_ble_eq_true rfl, Nat.le_of_ble_eq_true rfl⟩ rfl (Nat.le_of_ble_eq_true rfl) rfl (fun r1 hz2 hw => ?_)
  refine ok_if_eq (pc := 6) a 18 dX8_known_6 (by decide) (inR_b hz2) (fun hd4 => ?_) (fun hd4 => ?_)
  · have hw := hw.1 hd4
    refine ok_iconst (pc := 18) a dX8_known_18 ?_
    exact ok_iret (pc := 19) a dX8_known_19 ⟨_, rfl, rfl, rfl, hw⟩
  · have hw := hw.2 hd4
    refine ok_aload_n (pc := 9) a dX8_known_9 rfl rfl ?_
    refine ok_iload_n (pc := 10) a dX8_known_10 rfl rfl ?_
    refine ok_iload_n (pc := 11) a dX8_known_11 rfl rfl ?_
    refine ok_VPI (pc := 12) a [(vI x1), (vI x2)] [] (M_X8_knownOf hn tg x1 x2  hw) dX8_known_12 lkRX8_140 rfl (Nat.lt_of_lt_of_le (by decide) hn) kq0 (by decide) rfl ⟨Nat.le_of_ble_eq_true rfl, Nat.le_of_ble_eq_true rfl⟩ rfl (Nat.le_of_ble_eq_true rfl) rfl (fun r3 hw => ?_)
    refine ok_goto (pc := 15) a 19 dX8_known_15 (by decide) ?_
    exact ok_iret (pc := 19) a dX8_known_19 ⟨_, rfl, rfl, rfl, hw⟩

def wp_X8_knownPairs_B4 (h : aH) (Q : Int → Prop) (X4 : Int × Int → Prop) (x1_4 : Int) (x2_4 : Int) : Prop :=
  inR x2_4 ∧ ((6 ≤ x2_4 → Q x1_4) ∧ (¬ 6 ≤ x2_4 → wp_X8_foundOf (h 13 2) x2_4 h (fun r2 => (inR r2 ∧ True) ∧ X4 ((if r2 = 0 then x1_4 else (x1_4 + 1) : Int), (x2_4 + 1)))))
def wp_X8_knownPairs  (h : aH) (Q : Int → Prop) : Prop :=
  lp (fun X y => wp_X8_knownPairs_B4 h Q X y.1 y.2) (0, 0)
set_option maxRecDepth 100000 in
set_option maxHeartbeats 4000000 in
theorem M_X8_knownPairs {Γ : Gm} {l : Launch} {n : Nat} {g : aG} (hn : 59 ≤ n) (tg : TC g)   {h : aH} {Q : Int → Prop} (hw : wp_X8_knownPairs  h Q) : Cl Γ l mX8_knownPairs [vR 0] n g h (PI g h Q) := by
  refine Cl.of (by decide) [some (vR 0), none, none] rfl (Nat.le_of_ble_eq_true rfl) ?_
  intro p e s m args below meth c a
  unfold wp_X8_knownPairs at hw
  refine ok_iconst (pc := 0) a dX8_knownPairs_0 ?_
  refine ok_sI_n (pc := 1) a [some (vR 0), some (vI 0), none] dX8_knownPairs_1 rfl (by decide) rfl rfl ?_
  refine ok_iconst (pc := 2) a dX8_knownPairs_2 ?_
  refine ok_sI_n (pc := 3) a [some (vR 0), some (vI 0), some (vI 0)] dX8_knownPairs_3 rfl (by decide) rfl rfl ?_
  refine lp.use (P := fun y => OK Γ p l e (rmd 1 n n) s m args below meth c n (MQ below (QQ Γ n (PI g h Q)) args s (n - n) (sl n - sl n) (AA Γ)) 4 [some (vR 0), some (vI y.1), some (vI y.2)] [] n g h) ?_ (0, 0) hw
  clear hw
  intro X4 hX4 y hw
  obtain ⟨x1_4, x2_4⟩ := y
  have hw : wp_X8_knownPairs_B4 h Q X4 x1_4 x2_4 := hw
  unfold wp_X8_knownPairs_B4 at hw
  try dsimp only
  refine ok_iload_n (pc := 4) a dX8_knownPairs_4 rfl rfl ?_
  refine ok_bipush (pc := 5) a dX8_knownPairs_5 (by decide) ?_
  obtain ⟨hc1, hw⟩ := hw
  refine ok_icmp_ge (pc := 7) a 33 dX8_knownPairs_7 (by decide) hc1 ⟨by decide, by decide⟩ (fun hd5 => ?_) (fun hd5 => ?_)
  · have hw := hw.1 hd5
    refine ok_iload_n (pc := 33) a dX8_knownPairs_33 rfl rfl ?_
    exact ok_iret (pc := 34) a dX8_knownPairs_34 ⟨_, rfl, rfl, rfl, hw⟩
  · have hw := hw.2 hd5
    refine ok_aload_n (pc := 10) a dX8_knownPairs_10 rfl rfl ?_
    refine ok_getR (pc := 11) a dX8_knownPairs_11 lfRX8_29 (Nat.lt_of_lt_of_le (by decide) hn) kq0 rfl (tg.at 0 3 13 (by decide) (by decide)) ?_
    refine ok_fI (pc := 14) 2 a dX8_knownPairs_14 lfRX8_171 (Nat.lt_of_lt_of_le (by decide) hn) kq13 ty_4_2 rfl ?_
    refine ok_iload_n (pc := 17) a dX8_knownPairs_17 rfl rfl ?_
    refine ok_SPI (pc := 18) a [(vI (h 13 2)), (vI x2_4)] [] (M_X8_foundOf hn tg (h 13 2) x2_4  hw) dX8_knownPairs_18 lkRX8_315 rfl ⟨Nat.le_of_ble_eq_true rfl, Nat.le_of_ble_eq_true rfl⟩ rfl (Nat.le_of_ble_eq_true rfl) rfl (fun r2 hw => ?_)
    obtain ⟨hR, hw⟩ := hw
    have hK : OK Γ p l e (rmd 1 n n) s m args below meth c n (MQ below (QQ Γ n (PI g h Q)) args s (n - n) (sl n - sl n) (AA Γ)) 27 [some (vR 0), some (vI (if r2 = 0 then x1_4 else (x1_4 + 1) : Int)), some (vI x2_4)] [] n g h := by
      refine ok_inc (pc := 27) a [some (vR 0), some (vI (if r2 = 0 then x1_4 else (x1_4 + 1) : Int)), some (vI (x2_4 + 1))] dX8_knownPairs_27 rfl (by decide) rfl rfl ?_
      refine ok_goto (pc := 30) a 4 dX8_knownPairs_30 (by decide) ?_
      exact hX4 ((if r2 = 0 then x1_4 else (x1_4 + 1) : Int), (x2_4 + 1)) hw
    have hw := hR
    obtain ⟨hc3, hw⟩ := hw
    refine ok_if_eq (pc := 21) a 27 dX8_knownPairs_21 (by decide) hc3 (fun hd4 => ?_) (fun hd4 => ?_)
    · simp only [if_pos hd4] at hK
      exact hK
    · refine ok_inc (pc := 24) a [some (vR 0), some (vI (x1_4 + 1)), some (vI x2_4)] dX8_knownPairs_24 rfl (by decide) rfl rfl ?_
      simp only [if_neg hd4] at hK
      exact hK

def wp_X8_planned (x1 : Int) (h : aH) (Q : Int → aH → Prop) : Prop :=
  wp_X5_prepare (h 3 4) h (fun h1 => inR x1 ∧ ((x1 = 2 → wp_X5_ordersLeft (h1 13 2) h1 (fun r3 => Q r3 h1)) ∧ (¬ x1 = 2 → ((x1 = 3 → wp_X5_worstOf (h1 13 2) h1 (fun r4 => Q r4 h1)) ∧ (¬ x1 = 3 → wp_X5_nextPair (h1 13 2) h1 (fun r5 => Q r5 h1))))))
set_option maxRecDepth 100000 in
set_option maxHeartbeats 4000000 in
theorem M_X8_planned {Γ : Gm} {l : Launch} {n : Nat} {g : aG} (hn : 59 ≤ n) (tg : TC g) (x1 : Int)  {h : aH} {Q : Int → aH → Prop} (hw : wp_X8_planned x1 h Q) : Cl Γ l mX8_planned [vR 0, vI x1] n g h (RI g Q) := by
  refine Cl.of (by decide) [some (vR 0), some (vI x1)] rfl (Nat.le_of_ble_eq_true rfl) ?_
  intro p e s m args below meth c a
  unfold wp_X8_planned at hw
  refine ok_aload_n (pc := 0) a dX8_planned_0 rfl rfl ?_
  refine ok_getR (pc := 1) a dX8_planned_1 lfRX8_51 (Nat.lt_of_lt_of_le (by decide) hn) kq0 rfl (tg.at 0 7 43 (by decide) (by decide)) ?_
  refine ok_aload_n (pc := 4) a dX8_planned_4 rfl rfl ?_
  refine ok_getR (pc := 5) a dX8_planned_5 lfRX8_19 (Nat.lt_of_lt_of_le (by decide) hn) kq0 rfl (tg.at 0 1 3 (by decide) (by decide)) ?_
  refine ok_fI (pc := 8) 4 a dX8_planned_8 lfRX8_168 (Nat.lt_of_lt_of_le (by decide) hn) kq3 ty_7_4 rfl ?_
  refine ok_VRV (pc := 11) a [(vI (h 3 4))] [] (M_X5_prepare hn tg (h 3 4)  hw) dX8_planned_11 lkRX8_318 rfl (Nat.lt_of_lt_of_le (by decide) hn) kq43 (by decide) rfl ⟨Nat.le_of_ble_eq_true rfl, Nat.le_of_ble_eq_true rfl⟩ rfl (Nat.le_of_ble_eq_true rfl) rfl (fun h1 hw => ?_)
  refine ok_iload_n (pc := 14) a dX8_planned_14 rfl rfl ?_
  refine ok_iconst (pc := 15) a dX8_planned_15 ?_
  obtain ⟨hc2, hw⟩ := hw
  refine ok_icmp_ne (pc := 16) a 34 dX8_planned_16 (by decide) hc2 ⟨by decide, by decide⟩ (fun hd7 => ?_) (fun hd7 => ?_)
  · have hw := hw.2 hd7
    refine ok_iload_n (pc := 34) a dX8_planned_34 rfl rfl ?_
    refine ok_iconst (pc := 35) a dX8_planned_35 ?_
    refine ok_icmp_ne (pc := 36) a 56 dX8_planned_36 (by decide) hc2 ⟨by decide, by decide⟩ (fun hd6 => ?_) (fun hd6 => ?_)
    · have hw := hw.2 hd6
      refine ok_aload_n (pc := 56) a dX8_planned_56 rfl rfl ?_
      refine ok_getR (pc := 57) a dX8_planned_57 lfRX8_51 (Nat.lt_of_lt_of_le (by decide) hn) kq0 rfl (tg.at 0 7 43 (by decide) (by decide)) ?_
      refine ok_aload_n (pc := 60) a dX8_planned_60 rfl rfl ?_
      refine ok_getR (pc := 61) a dX8_planned_61 lfRX8_29 (Nat.lt_of_lt_of_le (by decide) hn) kq0 rfl (tg.at 0 3 13 (by decide) (by decide)) ?_
      refine ok_fI (pc := 64) 2 a dX8_planned_64 lfRX8_171 (Nat.lt_of_lt_of_le (by decide) hn) kq13 ty_4_2 rfl ?_
      refine ok_VPI (pc := 67) a [(vI (h1 13 2))] [] (M_X5_nextPair hn tg (h1 13 2)  hw) dX8_planned_67 lkRX8_328 rfl (Nat.lt_of_lt_of_le (by decide) hn) kq43 (by decide) rfl ⟨Nat.le_of_ble_eq_true rfl, Nat.le_of_ble_eq_true rfl⟩ rfl (Nat.le_of_ble_eq_true rfl) rfl (fun r5 hw => ?_)
      exact ok_iret (pc := 70) a dX8_planned_70 ⟨_, rfl, rfl, hw⟩
    · have hw := hw.1 hd6
      refine ok_aload_n (pc := 39) a dX8_planned_39 rfl rfl ?_
      refine ok_getR (pc := 40) a dX8_planned_40 lfRX8_51 (Nat.lt_of_lt_of_le (by decide) hn) kq0 rfl (tg.at 0 7 43 (by decide) (by decide)) ?_
      refine ok_aload_n (pc := 43) a dX8_planned_43 rfl rfl ?_
      refine ok_getR (pc := 44) a dX8_planned_44 lfRX8_29 (Nat.lt_of_lt_of_le (by decide) hn) kq0 rfl (tg.at 0 3 13 (by decide) (by decide)) ?_
      refine ok_fI (pc := 47) 2 a dX8_planned_47 lfRX8_171 (Nat.lt_of_lt_of_le (by decide) hn) kq13 ty_4_2 rfl ?_
      refine ok_VPI (pc := 50) a [(vI (h1 13 2))] [] (M_X5_worstOf hn tg (h1 13 2)  hw) dX8_planned_50 lkRX8_325 rfl (Nat.lt_of_lt_of_le (by decide) hn) kq43 (by decide) rfl ⟨Nat.le_of_ble_eq_true rfl, Nat.le_of_ble_eq_true rfl⟩ rfl (Nat.le_of_ble_eq_true rfl) rfl (fun r4 hw => ?_)
      refine ok_goto (pc := 53) a 70 dX8_planned_53 (by decide) ?_
      exact ok_iret (pc := 70) a dX8_planned_70 ⟨_, rfl, rfl, hw⟩
  · have hw := hw.1 hd7
    refine ok_aload_n (pc := 19) a dX8_planned_19 rfl rfl ?_
    refine ok_getR (pc := 20) a dX8_planned_20 lfRX8_51 (Nat.lt_of_lt_of_le (by decide) hn) kq0 rfl (tg.at 0 7 43 (by decide) (by decide)) ?_
    refine ok_aload_n (pc := 23) a dX8_planned_23 rfl rfl ?_
    refine ok_getR (pc := 24) a dX8_planned_24 lfRX8_29 (Nat.lt_of_lt_of_le (by decide) hn) kq0 rfl (tg.at 0 3 13 (by decide) (by decide)) ?_
    refine ok_fI (pc := 27) 2 a dX8_planned_27 lfRX8_171 (Nat.lt_of_lt_of_le (by decide) hn) kq13 ty_4_2 rfl ?_
    refine ok_VPI (pc := 30) a [(vI (h1 13 2))] [] (M_X5_ordersLeft hn tg (h1 13 2)  hw) dX8_planned_30 lkRX8_322 rfl (Nat.lt_of_lt_of_le (by decide) hn) kq43 (by decide) rfl ⟨Nat.le_of_ble_eq_true rfl, Nat.le_of_ble_eq_true rfl⟩ rfl (Nat.le_of_ble_eq_true rfl) rfl (fun r3 hw => ?_)
    exact ok_iret (pc := 33) a dX8_planned_33 ⟨_, rfl, rfl, hw⟩

def wp_X8_now (x1 : Int) (h : aH) (Q : Int → aH → Prop) : Prop :=
  inR x1 ∧ (((x1 < 0 ∨ 6 < x1) → Q (-1) h) ∧ (x1 = 0 → Q (h 13 1) h) ∧ (x1 = 1 → wp_X8_knownPairs h (fun r3 => Q r3 h)) ∧ (x1 = 2 → wp_X8_planned x1 h (fun r4 h5 => Q r4 h5)) ∧ (x1 = 3 → wp_X8_planned x1 h (fun r6 h7 => Q r6 h7)) ∧ (x1 = 4 → wp_X8_planned x1 h (fun r8 h9 => Q r8 h9)) ∧ (x1 = 5 → wp_X0_range h (fun r10 => Q r10 h)) ∧ (x1 = 6 → Q (h 15 2) h))
set_option maxRecDepth 100000 in
set_option maxHeartbeats 4000000 in
theorem M_X8_now {Γ : Gm} {l : Launch} {n : Nat} {g : aG} (hn : 59 ≤ n) (tg : TC g) (x1 : Int)  {h : aH} {Q : Int → aH → Prop} (hw : wp_X8_now x1 h Q) : Cl Γ l mX8_now [vR 0, vI x1] n g h (RI g Q) := by
  refine Cl.of (by decide) [some (vR 0), some (vI x1)] rfl (Nat.le_of_ble_eq_true rfl) ?_
  intro p e s m args below meth c a
  unfold wp_X8_now at hw
  refine ok_iload_n (pc := 0) a dX8_now_0 rfl rfl ?_
  obtain ⟨hc1, hw⟩ := hw
  by_cases hd2 : x1 < 0 ∨ 6 < x1
  · have hw := hw.1 hd2
    refine ok_tabOut (pc := 1) a 79 dX8_now_1 hc1 hd2 (by decide) ?_
    refine ok_iconst (pc := 79) a dX8_now_79 ?_
    exact ok_iret (pc := 80) a dX8_now_80 ⟨_, rfl, rfl, hw⟩
  · have hv : x1 = 0 ∨ x1 = 1 ∨ x1 = 2 ∨ x1 = 3 ∨ x1 = 4 ∨ x1 = 5 ∨ x1 = 6 := by omega
    have hw := hw.2
    rcases hv with hv | hv | hv | hv | hv | hv | hv
    · have hw := hw.1 hv
      refine ok_tabIn (pc := 1) a 44 dX8_now_1 hc1 (by omega) (by omega) (by rw [hv]; rfl) (by decide) ?_
      refine ok_aload_n (pc := 44) a dX8_now_44 rfl rfl ?_
      refine ok_getR (pc := 45) a dX8_now_45 lfRX8_29 (Nat.lt_of_lt_of_le (by decide) hn) kq0 rfl (tg.at 0 3 13 (by decide) (by decide)) ?_
      refine ok_fI (pc := 48) 1 a dX8_now_48 lfRX8_144 (Nat.lt_of_lt_of_le (by decide) hn) kq13 ty_4_1 rfl ?_
      exact ok_iret (pc := 51) a dX8_now_51 ⟨_, rfl, rfl, hw⟩
    · have hw := hw.2.1 hv
      refine ok_tabIn (pc := 1) a 52 dX8_now_1 hc1 (by omega) (by omega) (by rw [hv]; rfl) (by decide) ?_
      refine ok_aload_n (pc := 52) a dX8_now_52 rfl rfl ?_
      refine ok_VPI (pc := 53) a [] [] (M_X8_knownPairs hn tg   hw) dX8_now_53 lkRX8_147 rfl (Nat.lt_of_lt_of_le (by decide) hn) kq0 (by decide) rfl ⟨Nat.le_of_ble_eq_true rfl, Nat.le_of_ble_eq_true rfl⟩ rfl (Nat.le_of_ble_eq_true rfl) rfl (fun r3 hw => ?_)
      exact ok_iret (pc := 56) a dX8_now_56 ⟨_, rfl, rfl, hw⟩
    · have hw := hw.2.2.1 hv
      refine ok_tabIn (pc := 1) a 57 dX8_now_1 hc1 (by omega) (by omega) (by rw [hv]; rfl) (by decide) ?_
      refine ok_aload_n (pc := 57) a dX8_now_57 rfl rfl ?_
      refine ok_iload_n (pc := 58) a dX8_now_58 rfl rfl ?_
      refine ok_VRI (pc := 59) a [(vI x1)] [] (M_X8_planned hn tg x1  hw) dX8_now_59 lkRX8_151 rfl (Nat.lt_of_lt_of_le (by decide) hn) kq0 (by decide) rfl ⟨Nat.le_of_ble_eq_true rfl, Nat.le_of_ble_eq_true rfl⟩ rfl (Nat.le_of_ble_eq_true rfl) rfl (fun r4 h5 hw => ?_)
      exact ok_iret (pc := 62) a dX8_now_62 ⟨_, rfl, rfl, hw⟩
    · have hw := hw.2.2.2.1 hv
      refine ok_tabIn (pc := 1) a 57 dX8_now_1 hc1 (by omega) (by omega) (by rw [hv]; rfl) (by decide) ?_
      refine ok_aload_n (pc := 57) a dX8_now_57 rfl rfl ?_
      refine ok_iload_n (pc := 58) a dX8_now_58 rfl rfl ?_
      refine ok_VRI (pc := 59) a [(vI x1)] [] (M_X8_planned hn tg x1  hw) dX8_now_59 lkRX8_151 rfl (Nat.lt_of_lt_of_le (by decide) hn) kq0 (by decide) rfl ⟨Nat.le_of_ble_eq_true rfl, Nat.le_of_ble_eq_true rfl⟩ rfl (Nat.le_of_ble_eq_true rfl) rfl (fun r6 h7 hw => ?_)
      exact ok_iret (pc := 62) a dX8_now_62 ⟨_, rfl, rfl, hw⟩
    · have hw := hw.2.2.2.2.1 hv
      refine ok_tabIn (pc := 1) a 57 dX8_now_1 hc1 (by omega) (by omega) (by rw [hv]; rfl) (by decide) ?_
      refine ok_aload_n (pc := 57) a dX8_now_57 rfl rfl ?_
      refine ok_iload_n (pc := 58) a dX8_now_58 rfl rfl ?_
      refine ok_VRI (pc := 59) a [(vI x1)] [] (M_X8_planned hn tg x1  hw) dX8_now_59 lkRX8_151 rfl (Nat.lt_of_lt_of_le (by decide) hn) kq0 (by decide) rfl ⟨Nat.le_of_ble_eq_true rfl, Nat.le_of_ble_eq_true rfl⟩ rfl (Nat.le_of_ble_eq_true rfl) rfl (fun r8 h9 hw => ?_)
      exact ok_iret (pc := 62) a dX8_now_62 ⟨_, rfl, rfl, hw⟩
    · have hw := hw.2.2.2.2.2.1 hv
      refine ok_tabIn (pc := 1) a 63 dX8_now_1 hc1 (by omega) (by omega) (by rw [hv]; rfl) (by decide) ?_
      refine ok_aload_n (pc := 63) a dX8_now_63 rfl rfl ?_
      refine ok_getR (pc := 64) a dX8_now_64 lfRX8_58 (Nat.lt_of_lt_of_le (by decide) hn) kq0 rfl (tg.at 0 8 46 (by decide) (by decide)) ?_
      refine ok_VPI (pc := 67) a [] [] (M_X0_range hn tg   hw) dX8_now_67 lkRX8_154 rfl (Nat.lt_of_lt_of_le (by decide) hn) kq46 (by decide) rfl ⟨Nat.le_of_ble_eq_true rfl, Nat.le_of_ble_eq_true rfl⟩ rfl (Nat.le_of_ble_eq_true rfl) rfl (fun r10 hw => ?_)
      exact ok_iret (pc := 70) a dX8_now_70 ⟨_, rfl, rfl, hw⟩
    · have hw := hw.2.2.2.2.2.2 hv
      refine ok_tabIn (pc := 1) a 71 dX8_now_1 hc1 (by omega) (by omega) (by rw [hv]; rfl) (by decide) ?_
      refine ok_aload_n (pc := 71) a dX8_now_71 rfl rfl ?_
      refine ok_getR (pc := 72) a dX8_now_72 lfRX8_36 (Nat.lt_of_lt_of_le (by decide) hn) kq0 rfl (tg.at 0 4 15 (by decide) (by decide)) ?_
      refine ok_fI (pc := 75) 2 a dX8_now_75 lfRX8_157 (Nat.lt_of_lt_of_le (by decide) hn) kq15 ty_2_2 rfl ?_
      exact ok_iret (pc := 78) a dX8_now_78 ⟨_, rfl, rfl, hw⟩
