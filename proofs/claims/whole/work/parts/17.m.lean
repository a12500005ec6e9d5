def wp_X9_shop_J100 (Q : Int → aH → Prop) (x1_25 : Int) (h_25 : aH)  : Prop :=
  wp_X9_isWell h_25 (fun r8 => ((r8 = 0 → Q ((-10) - (h_25 59 8)) h_25) ∧ (¬ r8 = 0 → wp_X9_settles h_25 (fun h10 => Q x1_25 h10))))
def wp_X9_shop_J76 (X25 : Int × aH → Prop) (x1_25 : Int) (h_76 : aH) : Prop :=
  (inR (h_76 59 5) ∧ True) ∧ wp_X9_takes (if (h_76 59 5) = 3 then 1 else 0 : Int) h_76 (fun r22 h23 => X25 ((x1_25 + 1), h23))
def wp_X9_shop_J76a (X25 : Int × aH → Prop) (x1_25 : Int) (h_76 : aH) : Prop :=
  (inR (h_76 59 5) ∧ True) ∧ wp_X9_takes (if (h_76 59 5) = 3 then 1 else 0 : Int) h_76 (fun r32 h33 => X25 ((x1_25 + 1), h33))
def wp_X9_shop_B25 (Q : Int → aH → Prop) (X25 : Int × aH → Prop) (x1_25 : Int) (h_25 : aH) : Prop :=
  wp_X9_isWell h_25 (fun r6 => ((r6 = 0 → wp_X9_shop_J100 Q x1_25 h_25 ) ∧ (¬ r6 = 0 → inR (h_25 59 5) ∧ (((h_25 59 5) = 0 → wp_X9_shop_J100 Q x1_25 h_25 ) ∧ (¬ (h_25 59 5) = 0 → (((h_25 59 5) = 1 → wp_X9_mayBegin h_25 (fun r13 => wp_X9_takes (if r13 = 0 then 0 else 1 : Int) h_25 (fun r16 h17 => wp_X9_isWell h17 (fun r18 => ((r18 = 0 → wp_X9_shop_J76 X25 x1_25 h17) ∧ (¬ r18 = 0 → wp_X9_readsItem r16 h17 (fun h24 => wp_X9_shop_J76 X25 x1_25 h24))))))) ∧ (¬ (h_25 59 5) = 1 → wp_X9_takes 0 h_25 (fun r26 h27 => wp_X9_isWell h27 (fun r28 => ((r28 = 0 → wp_X9_shop_J76a X25 x1_25 h27) ∧ (¬ r28 = 0 → wp_X9_readsItem r26 h27 (fun h34 => wp_X9_shop_J76a X25 x1_25 h34))))))))))))
def wp_X9_shop  (h : aH) (Q : Int → aH → Prop) : Prop :=
  ∀ h1, h1 = up h 59 0 0 → ∀ h2, h2 = up h1 59 8 (-1) → ∀ h3, h3 = up h2 59 4 0 → wp_X9_begins h3 (fun h4 => wp_X9_advances h4 (fun h5 => lp (fun X y => wp_X9_shop_B25 Q X y.1 y.2) (0, h5)))
set_option maxRecDepth 100000 in
set_option maxHeartbeats 4000000 in
theorem M_X9_shop {Γ : Gm} {l : Launch} {n : Nat} {g : aG} (hn : 80 ≤ n) (tg : TM g)   {h : aH} {Q : Int → aH → Prop} (hw : wp_X9_shop  h Q) : Cl Γ l mX9_shop [vR 59] n g h (RI g Q) := by
  refine Cl.of (by decide) [some (vR 59), none, none] rfl (Nat.le_of_ble_eq_true rfl) ?_
  intro p e s m args below meth c a
  unfold wp_X9_shop at hw
  refine ok_aload_n (pc := 0) a dX9_shop_0 rfl rfl ?_
  refine ok_iconst (pc := 1) a dX9_shop_1 ?_
  refine ok_pI (pc := 2) 0 a dX9_shop_2 lfRX9_77 fi_9_0 (Nat.lt_of_lt_of_le (by decide) hn) kq59 ty_9_0 rfl (fun h1 eh1 => ?_)
  have hw := hw h1 eh1
  refine ok_aload_n (pc := 5) a dX9_shop_5 rfl rfl ?_
  refine ok_iconst (pc := 6) a dX9_shop_6 ?_
  refine ok_pI (pc := 7) 8 a dX9_shop_7 lfRX9_104 fi_9_8 (Nat.lt_of_lt_of_le (by decide) hn) kq59 ty_9_8 rfl (fun h2 eh2 => ?_)
  have hw := hw h2 eh2
  refine ok_aload_n (pc := 10) a dX9_shop_10 rfl rfl ?_
  refine ok_iconst (pc := 11) a dX9_shop_11 ?_
  refine ok_pI (pc := 12) 4 a dX9_shop_12 lfRX9_88 fi_9_4 (Nat.lt_of_lt_of_le (by decide) hn) kq59 ty_9_4 rfl (fun h3 eh3 => ?_)
  have hw := hw h3 eh3
  refine ok_aload_n (pc := 15) a dX9_shop_15 rfl rfl ?_
  refine ok_VRV (pc := 16) a [] [] (M_X9_begins hn tg   hw) dX9_shop_16 lkRX9_71 rfl (Nat.lt_of_lt_of_le (by decide) hn) kq59 (by decide) rfl ⟨Nat.le_of_ble_eq_true rfl, Nat.le_of_ble_eq_true rfl⟩ rfl (Nat.le_of_ble_eq_true rfl) rfl (fun h4 hw => ?_)
  refine ok_iconst (pc := 19) a dX9_shop_19 ?_
  refine ok_sI_n (pc := 20) a [some (vR 59), some (vI 0), none] dX9_shop_20 rfl (by decide) rfl rfl ?_
  refine ok_aload_n (pc := 21) a dX9_shop_21 rfl rfl ?_
  refine ok_VRV (pc := 22) a [] [] (M_X9_advances hn tg   hw) dX9_shop_22 lkRX9_111 rfl (Nat.lt_of_lt_of_le (by decide) hn) kq59 (by decide) rfl ⟨Nat.le_of_ble_eq_true rfl, Nat.le_of_ble_eq_true rfl⟩ rfl (Nat.le_of_ble_eq_true rfl) rfl (fun h5 hw => ?_)
  refine lp.use (P := fun y => OK Γ p l e (rmd 5 n n) s m args below meth c n (MQ below (QQ Γ n (RI g Q)) args s (n - n) (sl n - sl n) (AA Γ)) 25 [some (vR 59), some (vI y.1), none] [] n g y.2) ?_ (0, h5) hw
  clear hw
  intro X25 hX25 y hw
  obtain ⟨x1_25, h_25⟩ := y
  have hw : wp_X9_shop_B25 Q X25 x1_25 h_25 := hw
  unfold wp_X9_shop_B25 at hw
  try dsimp only
  refine ok_aload_n (pc := 25) a dX9_shop_25 rfl rfl ?_
  refine ok_VPZ (pc := 26) a [] [] (M_X9_isWell hn tg   hw) dX9_shop_26 lkRX9_107 rfl (Nat.lt_of_lt_of_le (by decide) hn) kq59 (by decide) rfl ⟨Nat.le_of_ble_eq_true rfl, Nat.le_of_ble_eq_true rfl⟩ rfl (Nat.le_of_ble_eq_true rfl) rfl (fun r6 hz7 hw => ?_)
  have hJ100 : wp_X9_shop_J100 Q x1_25 h_25  → OK Γ p l e (rmd 5 n n) s m args below meth c n (MQ below (QQ Γ n (RI g Q)) args s (n - n) (sl n - sl n) (AA Γ)) 100 [some (vR 59), some (vI x1_25), none] [] n g h_25 := by
    intro  hw
    unfold wp_X9_shop_J100 at hw
    refine ok_aload_n (pc := 100) a dX9_shop_100 rfl rfl ?_
    refine ok_VPZ (pc := 101) a [] [] (M_X9_isWell hn tg   hw) dX9_shop_101 lkRX9_107 rfl (Nat.lt_of_lt_of_le (by decide) hn) kq59 (by decide) rfl ⟨Nat.le_of_ble_eq_true rfl, Nat.le_of_ble_eq_true rfl⟩ rfl (Nat.le_of_ble_eq_true rfl) rfl (fun r8 hz9 hw => ?_)
    refine ok_if_ne (pc := 104) a 115 dX9_shop_104 (by decide) (inR_b hz9) (fun hd11 => ?_) (fun hd11 => ?_)
    · have hw := hw.2 hd11
      refine ok_aload_n (pc := 115) a dX9_shop_115 rfl rfl ?_
      refine ok_VRV (pc := 116) a [] [] (M_X9_settles hn tg   hw) dX9_shop_116 lkRX9_74 rfl (Nat.lt_of_lt_of_le (by decide) hn) kq59 (by decide) rfl ⟨Nat.le_of_ble_eq_true rfl, Nat.le_of_ble_eq_true rfl⟩ rfl (Nat.le_of_ble_eq_true rfl) rfl (fun h10 hw => ?_)
      refine ok_iload_n (pc := 119) a dX9_shop_119 rfl rfl ?_
      exact ok_iret (pc := 120) a dX9_shop_120 ⟨_, rfl, rfl, hw⟩
    · have hw := hw.1 hd11
      refine ok_bipush (pc := 107) a dX9_shop_107 (by decide) ?_
      refine ok_aload_n (pc := 109) a dX9_shop_109 rfl rfl ?_
      refine ok_fI (pc := 110) 8 a dX9_shop_110 lfRX9_104 (Nat.lt_of_lt_of_le (by decide) hn) kq59 ty_9_8 rfl ?_
      refine ok_isub (pc := 113) a dX9_shop_113 ?_
      exact ok_iret (pc := 114) a dX9_shop_114 ⟨_, rfl, rfl, hw⟩
  refine ok_if_eq (pc := 29) a 100 dX9_shop_29 (by decide) (inR_b hz7) (fun hd38 => ?_) (fun hd38 => ?_)
  · have hw := hw.1 hd38
    exact hJ100  hw
  · have hw := hw.2 hd38
    refine ok_aload_n (pc := 32) a dX9_shop_32 rfl rfl ?_
    refine ok_fI (pc := 33) 5 a dX9_shop_33 lfRX9_98 (Nat.lt_of_lt_of_le (by decide) hn) kq59 ty_9_5 rfl ?_
    obtain ⟨hc12, hw⟩ := hw
    refine ok_if_eq (pc := 36) a 100 dX9_shop_36 (by decide) hc12 (fun hd37 => ?_) (fun hd37 => ?_)
    · have hw := hw.1 hd37
      exact hJ100  hw
    · have hw := hw.2 hd37
      refine ok_aload_n (pc := 39) a dX9_shop_39 rfl rfl ?_
      refine ok_aload_n (pc := 40) a dX9_shop_40 rfl rfl ?_
      refine ok_fI (pc := 41) 5 a dX9_shop_41 lfRX9_98 (Nat.lt_of_lt_of_le (by decide) hn) kq59 ty_9_5 rfl ?_
      refine ok_iconst (pc := 44) a dX9_shop_44 ?_
      refine ok_icmp_ne (pc := 45) a 59 dX9_shop_45 (by decide) hc12 ⟨by decide, by decide⟩ (fun hd36 => ?_) (fun hd36 => ?_)
      · have hw := hw.2 hd36
        refine ok_iconst (pc := 59) a dX9_shop_59 ?_
        refine ok_VRI (pc := 60) a [(vI 0)] [] (M_X9_takes hn tg 0  hw) dX9_shop_60 lkRX9_114 rfl (Nat.lt_of_lt_of_le (by decide) hn) kq59 (by decide) rfl ⟨Nat.le_of_ble_eq_true rfl, Nat.le_of_ble_eq_true rfl⟩ rfl (Nat.le_of_ble_eq_true rfl) rfl (fun r26 h27 hw => ?_)
        refine ok_sI_n (pc := 63) a [some (vR 59), some (vI x1_25), some (vI r26)] dX9_shop_63 rfl (by decide) rfl rfl ?_
        refine ok_aload_n (pc := 64) a dX9_shop_64 rfl rfl ?_
        refine ok_VPZ (pc := 65) a [] [] (M_X9_isWell hn tg   hw) dX9_shop_65 lkRX9_107 rfl (Nat.lt_of_lt_of_le (by decide) hn) kq59 (by decide) rfl ⟨Nat.le_of_ble_eq_true rfl, Nat.le_of_ble_eq_true rfl⟩ rfl (Nat.le_of_ble_eq_true rfl) rfl (fun r28 hz29 hw => ?_)
        have hJ76 : ∀ (h_76 : aH), wp_X9_shop_J76a X25 x1_25 h_76 → OK Γ p l e (rmd 5 n n) s m args below meth c n (MQ below (QQ Γ n (RI g Q)) args s (n - n) (sl n - sl n) (AA Γ)) 76 [some (vR 59), some (vI x1_25), some (vI r26)] [] n g h_76 := by
          intro h_76 hw
          unfold wp_X9_shop_J76a at hw
          refine ok_aload_n (pc := 76) a dX9_shop_76 rfl rfl ?_
          refine ok_aload_n (pc := 77) a dX9_shop_77 rfl rfl ?_
          refine ok_fI (pc := 78) 5 a dX9_shop_78 lfRX9_98 (Nat.lt_of_lt_of_le (by decide) hn) kq59 ty_9_5 rfl ?_
          refine ok_iconst (pc := 81) a dX9_shop_81 ?_
          obtain ⟨hR, hw⟩ := hw
          have hK : OK Γ p l e (rmd 5 n n) s m args below meth c n (MQ below (QQ Γ n (RI g Q)) args s (n - n) (sl n - sl n) (AA Γ)) 90 [some (vR 59), some (vI x1_25), some (vI r26)] [(vI (if (h_76 59 5) = 3 then 1 else 0 : Int)), (vR 59)] n g h_76 := by
            refine ok_VRI (pc := 90) a [(vI (if (h_76 59 5) = 3 then 1 else 0 : Int))] [] (M_X9_takes hn tg (if (h_76 59 5) = 3 then 1 else 0 : Int)  hw) dX9_shop_90 lkRX9_114 rfl (Nat.lt_of_lt_of_le (by decide) hn) kq59 (by decide) rfl ⟨Nat.le_of_ble_eq_true rfl, Nat.le_of_ble_eq_true rfl⟩ rfl (Nat.le_of_ble_eq_true rfl) rfl (fun r32 h33 hw => ?_)
            refine ok_pop (pc := 93) a dX9_shop_93 (by rfl) ?_
            refine ok_inc (pc := 94) a [some (vR 59), some (vI (x1_25 + 1)), some (vI r26)] dX9_shop_94 rfl (by decide) rfl rfl ?_
            refine ok_goto (pc := 97) a 25 dX9_shop_97 (by decide) ?_
            refine ok_forget 2 ?_
            exact hX25 ((x1_25 + 1), h33) hw
          have hw := hR
          obtain ⟨hc30, hw⟩ := hw
          refine ok_icmp_ne (pc := 82) a 89 dX9_shop_82 (by decide) hc30 ⟨by decide, by decide⟩ (fun hd31 => ?_) (fun hd31 => ?_)
          · refine ok_iconst (pc := 89) a dX9_shop_89 ?_
            simp only [if_neg hd31] at hK
            exact hK
          · refine ok_iconst (pc := 85) a dX9_shop_85 ?_
            refine ok_goto (pc := 86) a 90 dX9_shop_86 (by decide) ?_
            simp only [if_pos hd31] at hK
            exact hK
        refine ok_if_eq (pc := 68) a 76 dX9_shop_68 (by decide) (inR_b hz29) (fun hd35 => ?_) (fun hd35 => ?_)
        · have hw := hw.1 hd35
          exact hJ76 h27 hw
        · have hw := hw.2 hd35
          refine ok_aload_n (pc := 71) a dX9_shop_71 rfl rfl ?_
          refine ok_iload_n (pc := 72) a dX9_shop_72 rfl rfl ?_
          refine ok_VRV (pc := 73) a [(vI r26)] [] (M_X9_readsItem hn tg r26  hw) dX9_shop_73 lkRX9_125 rfl (Nat.lt_of_lt_of_le (by decide) hn) kq59 (by decide) rfl ⟨Nat.le_of_ble_eq_true rfl, Nat.le_of_ble_eq_true rfl⟩ rfl (Nat.le_of_ble_eq_true rfl) rfl (fun h34 hw => ?_)
          exact hJ76 h34 hw
      · have hw := hw.1 hd36
        refine ok_aload_n (pc := 48) a dX9_shop_48 rfl rfl ?_
        refine ok_VPZ (pc := 49) a [] [(vR 59)] (M_X9_mayBegin hn tg   hw) dX9_shop_49 lkRX9_122 rfl (Nat.lt_of_lt_of_le (by decide) hn) kq59 (by decide) rfl ⟨Nat.le_of_ble_eq_true rfl, Nat.le_of_ble_eq_true rfl⟩ rfl (Nat.le_of_ble_eq_true rfl) rfl (fun r13 hz14 hw => ?_)
        have hK : OK Γ p l e (rmd 5 n n) s m args below meth c n (MQ below (QQ Γ n (RI g Q)) args s (n - n) (sl n - sl n) (AA Γ)) 60 [some (vR 59), some (vI x1_25), none] [(vI (if r13 = 0 then 0 else 1 : Int)), (vR 59)] n g h_25 := by
          refine ok_VRI (pc := 60) a [(vI (if r13 = 0 then 0 else 1 : Int))] [] (M_X9_takes hn tg (if r13 = 0 then 0 else 1 : Int)  hw) dX9_shop_60 lkRX9_114 rfl (Nat.lt_of_lt_of_le (by decide) hn) kq59 (by decide) rfl ⟨Nat.le_of_ble_eq_true rfl, Nat.le_of_ble_eq_true rfl⟩ rfl (Nat.le_of_ble_eq_true rfl) rfl (fun r16 h17 hw => ?_)
          refine ok_sI_n (pc := 63) a [some (vR 59), some (vI x1_25), some (vI r16)] dX9_shop_63 rfl (by decide) rfl rfl ?_
          refine ok_aload_n (pc := 64) a dX9_shop_64 rfl rfl ?_
          refine ok_VPZ (pc := 65) a [] [] (M_X9_isWell hn tg   hw) dX9_shop_65 lkRX9_107 rfl (Nat.lt_of_lt_of_le (by decide) hn) kq59 (by decide) rfl ⟨Nat.le_of_ble_eq_true rfl, Nat.le_of_ble_eq_true rfl⟩ rfl (Nat.le_of_ble_eq_true rfl) rfl (fun r18 hz19 hw => ?_)
          have hJ76 : ∀ (h_76 : aH), wp_X9_shop_J76 X25 x1_25 h_76 → OK Γ p l e (rmd 5 n n) s m args below meth c n (MQ below (QQ Γ n (RI g Q)) args s (n - n) (sl n - sl n) (AA Γ)) 76 [some (vR 59), some (vI x1_25), some (vI r16)] [] n g h_76 := by
            intro h_76 hw
            unfold wp_X9_shop_J76 at hw
            refine ok_aload_n (pc := 76) a dX9_shop_76 rfl rfl ?_
            refine ok_aload_n (pc := 77) a dX9_shop_77 rfl rfl ?_
            refine ok_fI (pc := 78) 5 a dX9_shop_78 lfRX9_98 (Nat.lt_of_lt_of_le (by decide) hn) kq59 ty_9_5 rfl ?_
            refine ok_iconst (pc := 81) a dX9_shop_81 ?_
            obtain ⟨hR, hw⟩ := hw
            have hK : OK Γ p l e (rmd 5 n n) s m args below meth c n (MQ below (QQ Γ n (RI g Q)) args s (n - n) (sl n - sl n) (AA Γ)) 90 [some (vR 59), some (vI x1_25), some (vI r16)] [(vI (if (h_76 59 5) = 3 then 1 else 0 : Int)), (vR 59)] n g h_76 := by
              refine ok_VRI (pc := 90) a [(vI (if (h_76 59 5) = 3 then 1 else 0 : Int))] [] (M_X9_takes hn tg (if (h_76 59 5) = 3 then 1 else 0 : Int)  hw) dX9_shop_90 lkRX9_114 rfl (Nat.lt_of_lt_of_le (by decide) hn) kq59 (by decide) rfl ⟨Nat.le_of_ble_eq_true rfl, Nat.le_of_ble_eq_true rfl⟩ rfl (Nat.le_of_ble_eq_true rfl) rfl (fun r22 h23 hw => ?_)
              refine ok_pop (pc := 93) a dX9_shop_93 (by rfl) ?_
              refine ok_inc (pc := 94) a [some (vR 59), some (vI (x1_25 + 1)), some (vI r16)] dX9_shop_94 rfl (by decide) rfl rfl ?_
              refine ok_goto (pc := 97) a 25 dX9_shop_97 (by decide) ?_
              refine ok_forget 2 ?_
              exact hX25 ((x1_25 + 1), h23) hw
            have hw := hR
            obtain ⟨hc20, hw⟩ := hw
            refine ok_icmp_ne (pc := 82) a 89 dX9_shop_82 (by decide) hc20 ⟨by decide, by decide⟩ (fun hd21 => ?_) (fun hd21 => ?_)
            · refine ok_iconst (pc := 89) a dX9_shop_89 ?_
              simp only [if_neg hd21] at hK
              exact hK
            · refine ok_iconst (pc := 85) a dX9_shop_85 ?_
              refine ok_goto (pc := 86) a 90 dX9_shop_86 (by decide) ?_
              simp only [if_pos hd21] at hK
              exact hK
          refine ok_if_eq (pc := 68) a 76 dX9_shop_68 (by decide) (inR_b hz19) (fun hd25 => ?_) (fun hd25 => ?_)
          · have hw := hw.1 hd25
            exact hJ76 h17 hw
          · have hw := hw.2 hd25
            refine ok_aload_n (pc := 71) a dX9_shop_71 rfl rfl ?_
            refine ok_iload_n (pc := 72) a dX9_shop_72 rfl rfl ?_
            refine ok_VRV (pc := 73) a [(vI r16)] [] (M_X9_readsItem hn tg r16  hw) dX9_shop_73 lkRX9_125 rfl (Nat.lt_of_lt_of_le (by decide) hn) kq59 (by decide) rfl ⟨Nat.le_of_ble_eq_true rfl, Nat.le_of_ble_eq_true rfl⟩ rfl (Nat.le_of_ble_eq_true rfl) rfl (fun h24 hw => ?_)
            exact hJ76 h24 hw
        refine ok_if_eq (pc := 52) a 59 dX9_shop_52 (by decide) (inR_b hz14) (fun hd15 => ?_) (fun hd15 => ?_)
        · refine ok_iconst (pc := 59) a dX9_shop_59 ?_
          simp only [if_pos hd15] at hK
          exact hK
        · refine ok_iconst (pc := 55) a dX9_shop_55 ?_
          refine ok_goto (pc := 56) a 60 dX9_shop_56 (by decide) ?_
          simp only [if_neg hd15] at hK
          exact hK

def wp_X9_isPerson (x1 : Int) (h : aH) (Q : Int → Prop) : Prop :=
  wp_X9_in x1 0 ((h 61 0) - 1) h (fun r1 => Q r1)
set_option maxRecDepth 100000 in
set_option maxHeartbeats 4000000 in
theorem M_X9_isPerson {Γ : Gm} {l : Launch} {n : Nat} {g : aG} (hn : 80 ≤ n) (tg : TM g) (x1 : Int)  {h : aH} {Q : Int → Prop} (hw : wp_X9_isPerson x1 h Q) : Cl Γ l mX9_isPerson [vR 59, vI x1] n g h (PZ g h Q) := by
  refine Cl.of (by decide) [some (vR 59), some (vI x1)] rfl (Nat.le_of_ble_eq_true rfl) ?_
  intro p e s m args below meth c a
  unfold wp_X9_isPerson at hw
  refine ok_iload_n (pc := 0) a dX9_isPerson_0 rfl rfl ?_
  refine ok_iconst (pc := 1) a dX9_isPerson_1 ?_
  refine ok_aload_n (pc := 2) a dX9_isPerson_2 rfl rfl ?_
  refine ok_getR (pc := 3) a dX9_isPerson_3 lfRX9_13 (Nat.lt_of_lt_of_le (by decide) hn) kq59 rfl (tg.at 59 9 61 (by decide) (by decide)) ?_
  refine ok_iconst (pc := 6) a dX9_isPerson_6 ?_
  refine ok_iald (pc := 7) a dX9_isPerson_7 (Nat.lt_of_lt_of_le (by decide) hn) kq61 (by decide) ⟨by decide, by decide⟩ ?_
  refine ok_iconst (pc := 8) a dX9_isPerson_8 ?_
  refine ok_isub (pc := 9) a dX9_isPerson_9 ?_
  refine ok_SPZ (pc := 10) a [(vI x1), (vI 0), (vI ((h 61 0) - 1))] [] (M_X9_in hn tg x1 0 ((h 61 0) - 1)  hw) dX9_isPerson_10 lkRX9_81 rfl ⟨Nat.le_of_ble_eq_true rfl, Nat.le_of_ble_eq_true rfl⟩ rfl (Nat.le_of_ble_eq_true rfl) rfl (fun r1 hz2 hw => ?_)
  exact ok_zret (pc := 13) a dX9_isPerson_13 hz2 ⟨_, rfl, rfl, rfl, hz2, hw⟩

def wp_X9_isSort (x0 : Int) (h : aH) (Q : Int → Prop) : Prop :=
  wp_X9_in x0 0 3 h (fun r1 => Q r1)
set_option maxRecDepth 100000 in
set_option maxHeartbeats 4000000 in
theorem M_X9_isSort {Γ : Gm} {l : Launch} {n : Nat} {g : aG} (hn : 80 ≤ n) (tg : TM g) (x0 : Int)  {h : aH} {Q : Int → Prop} (hw : wp_X9_isSort x0 h Q) : Cl Γ l mX9_isSort [vI x0] n g h (PZ g h Q) := by
  refine Cl.of (by decide) [some (vI x0)] rfl (Nat.le_of_ble_eq_true rfl) ?_
  intro p e s m args below meth c a
  unfold wp_X9_isSort at hw
  refine ok_iload_n (pc := 0) a dX9_isSort_0 rfl rfl ?_
  refine ok_iconst (pc := 1) a dX9_isSort_1 ?_
  refine ok_iconst (pc := 2) a dX9_isSort_2 ?_
  refine ok_SPZ (pc := 3) a [(vI x0), (vI 0), (vI 3)] [] (M_X9_in hn tg x0 0 3  hw) dX9_isSort_3 lkRX9_81 rfl ⟨Nat.le_of_ble_eq_true rfl, Nat.le_of_ble_eq_true rfl⟩ rfl (Nat.le_of_ble_eq_true rfl) rfl (fun r1 hz2 hw => ?_)
  exact ok_zret (pc := 6) a dX9_isSort_6 hz2 ⟨_, rfl, rfl, rfl, hz2, hw⟩

def wp_X9_isPair (x1 : Int) (x2 : Int) (h : aH) (Q : Int → Prop) : Prop :=
  wp_X9_isPerson x1 h (fun r1 => ((r1 = 0 → Q 0) ∧ (¬ r1 = 0 → wp_X9_isPerson x2 h (fun r3 => (((r3 = 0 → True) ∧ (¬ r3 = 0 → inR x1 ∧ inR x2 ∧ True))) ∧ Q (if r3 = 0 then 0 else (if x1 = x2 then 0 else 1 : Int) : Int)))))
set_option maxRecDepth 100000 in
set_option maxHeartbeats 4000000 in
theorem M_X9_isPair {Γ : Gm} {l : Launch} {n : Nat} {g : aG} (hn : 80 ≤ n) (tg : TM g) (x1 : Int) (x2 : Int)  {h : aH} {Q : Int → Prop} (hw : wp_X9_isPair x1 x2 h Q) : Cl Γ l mX9_isPair [vR 59, vI x1, vI x2] n g h (PZ g h Q) := by
  refine Cl.of (by decide) [some (vR 59), some (vI x1), some (vI x2)] rfl (Nat.le_of_ble_eq_true rfl) ?_
  intro p e s m args below meth c a
  unfold wp_X9_isPair at hw
  refine ok_aload_n (pc := 0) a dX9_isPair_0 rfl rfl ?_
  refine ok_iload_n (pc := 1) a dX9_isPair_1 rfl rfl ?_
  refine ok_VPZ (pc := 2) a [(vI x1)] [] (M_X9_isPerson hn tg x1  hw) dX9_isPair_2 lkRX9_143 rfl (Nat.lt_of_lt_of_le (by decide) hn) kq59 (by decide) rfl ⟨Nat.le_of_ble_eq_true rfl, Nat.le_of_ble_eq_true rfl⟩ rfl (Nat.le_of_ble_eq_true rfl) rfl (fun r1 hz2 hw => ?_)
  refine ok_if_eq (pc := 5) a 25 dX9_isPair_5 (by decide) (inR_b hz2) (fun hd9 => ?_) (fun hd9 => ?_)
  · have hw := hw.1 hd9
    refine ok_iconst (pc := 25) a dX9_isPair_25 ?_
    exact ok_zret (pc := 26) a dX9_isPair_26 (Or.inl rfl) ⟨_, rfl, rfl, rfl, (Or.inl rfl), hw⟩
  · have hw := hw.2 hd9
    refine ok_aload_n (pc := 8) a dX9_isPair_8 rfl rfl ?_
    refine ok_iload_n (pc := 9) a dX9_isPair_9 rfl rfl ?_
    refine ok_VPZ (pc := 10) a [(vI x2)] [] (M_X9_isPerson hn tg x2  hw) dX9_isPair_10 lkRX9_143 rfl (Nat.lt_of_lt_of_le (by decide) hn) kq59 (by decide) rfl ⟨Nat.le_of_ble_eq_true rfl, Nat.le_of_ble_eq_true rfl⟩ rfl (Nat.le_of_ble_eq_true rfl) rfl (fun r3 hz4 hw => ?_)
    obtain ⟨hR, hw⟩ := hw
    have hK : OK Γ p l e (rmd 2 n n) s m args below meth c n (MQ below (QQ Γ n (PZ g h Q)) args s (n - n) (sl n - sl n) (AA Γ)) 26 [some (vR 59), some (vI x1), some (vI x2)] [(vI (if r3 = 0 then 0 else (if x1 = x2 then 0 else 1 : Int) : Int))] n g h := by
      exact ok_zret (pc := 26) a dX9_isPair_26 (ite01 (Or.inl rfl) (ite01 (Or.inl rfl) (Or.inr rfl))) ⟨_, rfl, rfl, rfl, (ite01 (Or.inl rfl) (ite01 (Or.inl rfl) (Or.inr rfl))), hw⟩
    have hw := hR
    refine ok_if_eq (pc := 13) a 25 dX9_isPair_13 (by decide) (inR_b hz4) (fun hd5 => ?_) (fun hd5 => ?_)
    · refine ok_iconst (pc := 25) a dX9_isPair_25 ?_
      simp only [if_pos hd5] at hK
      exact hK
    · have hw := hw.2 hd5
      refine ok_iload_n (pc := 16) a dX9_isPair_16 rfl rfl ?_
      refine ok_iload_n (pc := 17) a dX9_isPair_17 rfl rfl ?_
      obtain ⟨hc6, hw⟩ := hw
      obtain ⟨hc7, hw⟩ := hw
      refine ok_icmp_eq (pc := 18) a 25 dX9_isPair_18 (by decide) hc6 hc7 (fun hd8 => ?_) (fun hd8 => ?_)
      · refine ok_iconst (pc := 25) a dX9_isPair_25 ?_
        simp only [if_neg hd5, if_pos hd8] at hK
        exact hK
      · refine ok_iconst (pc := 21) a dX9_isPair_21 ?_
        refine ok_goto (pc := 22) a 26 dX9_isPair_22 (by decide) ?_
        simp only [if_neg hd5, if_neg hd8] at hK
        exact hK

def wp_X9_heaviness_B4 (x1 : Int) (h : aH) (Q : Int → Prop) (X4 : Int × Int → Prop) (x2_4 : Int) (x3_4 : Int) : Prop :=
  inR x3_4 ∧ ((4 ≤ x3_4 → Q x2_4) ∧ (¬ 4 ≤ x3_4 → (0 ≤ x3_4 ∧ x3_4 < 8) ∧ (0 ≤ ((1 + (4 * x1)) + x3_4) ∧ ((1 + (4 * x1)) + x3_4) < 23) ∧ ∀ x2_30, x2_30 = (x2_4 + ((h 62 x3_4) * (h 66 ((1 + (4 * x1)) + x3_4)))) → X4 (x2_30, (x3_4 + 1))))
def wp_X9_heaviness (x1 : Int) (h : aH) (Q : Int → Prop) : Prop :=
  lp (fun X y => wp_X9_heaviness_B4 x1 h Q X y.1 y.2) (0, 0)
set_option maxRecDepth 100000 in
set_option maxHeartbeats 4000000 in
theorem M_X9_heaviness {Γ : Gm} {l : Launch} {n : Nat} {g : aG} (hn : 80 ≤ n) (tg : TM g) (x1 : Int)  {h : aH} {Q : Int → Prop} (hw : wp_X9_heaviness x1 h Q) : Cl Γ l mX9_heaviness [vR 59, vI x1] n g h (PI g h Q) := by
  refine Cl.of (by decide) [some (vR 59), some (vI x1), none, none] rfl (Nat.le_of_ble_eq_true rfl) ?_
  intro p e s m args below meth c a
  unfold wp_X9_heaviness at hw
  refine ok_iconst (pc := 0) a dX9_heaviness_0 ?_
  refine ok_sI_n (pc := 1) a [some (vR 59), some (vI x1), some (vI 0), none] dX9_heaviness_1 rfl (by decide) rfl rfl ?_
  refine ok_iconst (pc := 2) a dX9_heaviness_2 ?_
  refine ok_sI_n (pc := 3) a [some (vR 59), some (vI x1), some (vI 0), some (vI 0)] dX9_heaviness_3 rfl (by decide) rfl rfl ?_
  refine lp.use (P := fun y => OK Γ p l e (rmd 0 n n) s m args below meth c n (MQ below (QQ Γ n (PI g h Q)) args s (n - n) (sl n - sl n) (AA Γ)) 4 [some (vR 59), some (vI x1), some (vI y.1), some (vI y.2)] [] n g h) ?_ (0, 0) hw
  clear hw
  intro X4 hX4 y hw
  obtain ⟨x2_4, x3_4⟩ := y
  have hw : wp_X9_heaviness_B4 x1 h Q X4 x2_4 x3_4 := hw
  unfold wp_X9_heaviness_B4 at hw
  try dsimp only
  refine ok_iload_n (pc := 4) a dX9_heaviness_4 rfl rfl ?_
  refine ok_iconst (pc := 5) a dX9_heaviness_5 ?_
  obtain ⟨hc1, hw⟩ := hw
  refine ok_icmp_ge (pc := 6) a 37 dX9_heaviness_6 (by decide) hc1 ⟨by decide, by decide⟩ (fun hd4 => ?_) (fun hd4 => ?_)
  · have hw := hw.1 hd4
    refine ok_iload_n (pc := 37) a dX9_heaviness_37 rfl rfl ?_
    exact ok_iret (pc := 38) a dX9_heaviness_38 ⟨_, rfl, rfl, rfl, hw⟩
  · have hw := hw.2 hd4
    refine ok_iload_n (pc := 9) a dX9_heaviness_9 rfl rfl ?_
    refine ok_aload_n (pc := 10) a dX9_heaviness_10 rfl rfl ?_
    refine ok_getR (pc := 11) a dX9_heaviness_11 lfRX9_16 (Nat.lt_of_lt_of_le (by decide) hn) kq59 rfl (tg.at 59 10 62 (by decide) (by decide)) ?_
    refine ok_iload_n (pc := 14) a dX9_heaviness_14 rfl rfl ?_
    obtain ⟨hc2, hw⟩ := hw
    refine ok_iald (pc := 15) a dX9_heaviness_15 (Nat.lt_of_lt_of_le (by decide) hn) kq62 (by decide) hc2 ?_
    refine ok_aload_n (pc := 16) a dX9_heaviness_16 rfl rfl ?_
    refine ok_getR (pc := 17) a dX9_heaviness_17 lfRX9_28 (Nat.lt_of_lt_of_le (by decide) hn) kq59 rfl (tg.at 59 14 66 (by decide) (by decide)) ?_
    refine ok_iconst (pc := 20) a dX9_heaviness_20 ?_
    refine ok_iconst (pc := 21) a dX9_heaviness_21 ?_
    refine ok_iload_n (pc := 22) a dX9_heaviness_22 rfl rfl ?_
    refine ok_imul (pc := 23) a dX9_heaviness_23 ?_
    refine ok_iadd (pc := 24) a dX9_heaviness_24 ?_
    refine ok_iload_n (pc := 25) a dX9_heaviness_25 rfl rfl ?_
    refine ok_iadd (pc := 26) a dX9_heaviness_26 ?_
    obtain ⟨hc3, hw⟩ := hw
    refine ok_iald (pc := 27) a dX9_heaviness_27 (Nat.lt_of_lt_of_le (by decide) hn) kq66 (by decide) hc3 ?_
    refine ok_imul (pc := 28) a dX9_heaviness_28 ?_
    refine ok_iadd (pc := 29) a dX9_heaviness_29 ?_
    refine ok_nmI (fun x2_30 ex2_30 => ?_)
    have hw := hw x2_30 ex2_30
    refine ok_sI_n (pc := 30) a [some (vR 59), some (vI x1), some (vI x2_30), some (vI x3_4)] dX9_heaviness_30 rfl (by decide) rfl rfl ?_
    refine ok_inc (pc := 31) a [some (vR 59), some (vI x1), some (vI x2_30), some (vI (x3_4 + 1))] dX9_heaviness_31 rfl (by decide) rfl rfl ?_
    refine ok_goto (pc := 34) a 4 dX9_heaviness_34 (by decide) ?_
    exact hX4 (x2_30, (x3_4 + 1)) hw

def wp_X9_holds (x1 : Int) (x2 : Int) (h : aH) (Q : Int → aH → Prop) : Prop :=
  ∀ h1, h1 = up h 59 0 0 → wp_X9_isPerson x1 h1 (fun r2 => ((r2 = 0 → Q (-1) h1) ∧ (¬ r2 = 0 → wp_X9_isSort x2 h1 (fun r4 => (((r4 = 0 → True) ∧ (¬ r4 = 0 → (0 ≤ ((1 + (4 * x1)) + x2) ∧ ((1 + (4 * x1)) + x2) < 23) ∧ True))) ∧ Q (if r4 = 0 then (-1) else (h1 66 ((1 + (4 * x1)) + x2)) : Int) h1))))
set_option maxRecDepth 100000 in
set_option maxHeartbeats 4000000 in
theorem M_X9_holds {Γ : Gm} {l : Launch} {n : Nat} {g : aG} (hn : 80 ≤ n) (tg : TM g) (x1 : Int) (x2 : Int)  {h : aH} {Q : Int → aH → Prop} (hw : wp_X9_holds x1 x2 h Q) : Cl Γ l mX9_holds [vR 59, vI x1, vI x2] n g h (RI g Q) := by
  refine Cl.of (by decide) [some (vR 59), some (vI x1), some (vI x2)] rfl (Nat.le_of_ble_eq_true rfl) ?_
  intro p e s m args below meth c a
  unfold wp_X9_holds at hw
  refine ok_aload_n (pc := 0) a dX9_holds_0 rfl rfl ?_
  refine ok_iconst (pc := 1) a dX9_holds_1 ?_
  refine ok_pI (pc := 2) 0 a dX9_holds_2 lfRX9_77 fi_9_0 (Nat.lt_of_lt_of_le (by decide) hn) kq59 ty_9_0 rfl (fun h1 eh1 => ?_)
  have hw := hw h1 eh1
  refine ok_aload_n (pc := 5) a dX9_holds_5 rfl rfl ?_
  refine ok_iload_n (pc := 6) a dX9_holds_6 rfl rfl ?_
  refine ok_VPZ (pc := 7) a [(vI x1)] [] (M_X9_isPerson hn tg x1  hw) dX9_holds_7 lkRX9_143 rfl (Nat.lt_of_lt_of_le (by decide) hn) kq59 (by decide) rfl ⟨Nat.le_of_ble_eq_true rfl, Nat.le_of_ble_eq_true rfl⟩ rfl (Nat.le_of_ble_eq_true rfl) rfl (fun r2 hz3 hw => ?_)
  refine ok_if_eq (pc := 10) a 35 dX9_holds_10 (by decide) (inR_b hz3) (fun hd8 => ?_) (fun hd8 => ?_)
  · have hw := hw.1 hd8
    refine ok_iconst (pc := 35) a dX9_holds_35 ?_
    exact ok_iret (pc := 36) a dX9_holds_36 ⟨_, rfl, rfl, hw⟩
  · have hw := hw.2 hd8
    refine ok_iload_n (pc := 13) a dX9_holds_13 rfl rfl ?_
    refine ok_SPZ (pc := 14) a [(vI x2)] [] (M_X9_isSort hn tg x2  hw) dX9_holds_14 lkRX9_147 rfl ⟨Nat.le_of_ble_eq_true rfl, Nat.le_of_ble_eq_true rfl⟩ rfl (Nat.le_of_ble_eq_true rfl) rfl (fun r4 hz5 hw => ?_)
    obtain ⟨hR, hw⟩ := hw
    have hK : OK Γ p l e (rmd 2 n n) s m args below meth c n (MQ below (QQ Γ n (RI g Q)) args s (n - n) (sl n - sl n) (AA Γ)) 36 [some (vR 59), some (vI x1), some (vI x2)] [(vI (if r4 = 0 then (-1) else (h1 66 ((1 + (4 * x1)) + x2)) : Int))] n g h1 := by
      exact ok_iret (pc := 36) a dX9_holds_36 ⟨_, rfl, rfl, hw⟩
    have hw := hR
    refine ok_if_eq (pc := 17) a 35 dX9_holds_17 (by decide) (inR_b hz5) (fun hd6 => ?_) (fun hd6 => ?_)
    · refine ok_iconst (pc := 35) a dX9_holds_35 ?_
      simp only [if_pos hd6] at hK
      exact hK
    · have hw := hw.2 hd6
      refine ok_aload_n (pc := 20) a dX9_holds_20 rfl rfl ?_
      refine ok_getR (pc := 21) a dX9_holds_21 lfRX9_28 (Nat.lt_of_lt_of_le (by decide) hn) kq59 rfl (tg.at 59 14 66 (by decide) (by decide)) ?_
      refine ok_iconst (pc := 24) a dX9_holds_24 ?_
      refine ok_iconst (pc := 25) a dX9_holds_25 ?_
      refine ok_iload_n (pc := 26) a dX9_holds_26 rfl rfl ?_
      refine ok_imul (pc := 27) a dX9_holds_27 ?_
      refine ok_iadd (pc := 28) a dX9_holds_28 ?_
      refine ok_iload_n (pc := 29) a dX9_holds_29 rfl rfl ?_
      refine ok_iadd (pc := 30) a dX9_holds_30 ?_
      obtain ⟨hc7, hw⟩ := hw
      refine ok_iald (pc := 31) a dX9_holds_31 (Nat.lt_of_lt_of_le (by decide) hn) kq66 (by decide) hc7 ?_
      refine ok_goto (pc := 32) a 36 dX9_holds_32 (by decide) ?_
      simp only [if_neg hd6] at hK
      exact hK

def wp_X9_grows (x1 : Int) (x2 : Int) (h : aH) (Q : Int → aH → Prop) : Prop :=
  ∀ h1, h1 = up h 59 0 0 → wp_X9_isPerson x1 h1 (fun r2 => ((r2 = 0 → Q (-1) h1) ∧ (¬ r2 = 0 → wp_X9_isSort x2 h1 (fun r4 => (((r4 = 0 → True) ∧ (¬ r4 = 0 → (0 ≤ ((4 * x1) + x2) ∧ ((4 * x1) + x2) < 32) ∧ True))) ∧ Q (if r4 = 0 then (-1) else (h1 64 ((4 * x1) + x2)) : Int) h1))))
set_option maxRecDepth 100000 in
set_option maxHeartbeats 4000000 in
theorem M_X9_grows {Γ : Gm} {l : Launch} {n : Nat} {g : aG} (hn : 80 ≤ n) (tg : TM g) (x1 : Int) (x2 : Int)  {h : aH} {Q : Int → aH → Prop} (hw : wp_X9_grows x1 x2 h Q) : Cl Γ l mX9_grows [vR 59, vI x1, vI x2] n g h (RI g Q) := by
  refine Cl.of (by decide) [some (vR 59), some (vI x1), some (vI x2)] rfl (Nat.le_of_ble_eq_true rfl) ?_
  intro p e s m args below meth c a
  unfold wp_X9_grows at hw
  refine ok_aload_n (pc := 0) a dX9_grows_0 rfl rfl ?_
  refine ok_iconst (pc := 1) a dX9_grows_1 ?_
  refine ok_pI (pc := 2) 0 a dX9_grows_2 lfRX9_77 fi_9_0 (Nat.lt_of_lt_of_le (by decide) hn) kq59 ty_9_0 rfl (fun h1 eh1 => ?_)
  have hw := hw h1 eh1
  refine ok_aload_n (pc := 5) a dX9_grows_5 rfl rfl ?_
  refine ok_iload_n (pc := 6) a dX9_grows_6 rfl rfl ?_
  refine ok_VPZ (pc := 7) a [(vI x1)] [] (M_X9_isPerson hn tg x1  hw) dX9_grows_7 lkRX9_143 rfl (Nat.lt_of_lt_of_le (by decide) hn) kq59 (by decide) rfl ⟨Nat.le_of_ble_eq_true rfl, Nat.le_of_ble_eq_true rfl⟩ rfl (Nat.le_of_ble_eq_true rfl) rfl (fun r2 hz3 hw => ?_)
  refine ok_if_eq (pc := 10) a 33 dX9_grows_10 (by decide) (inR_b hz3) (fun hd8 => ?_) (fun hd8 => ?_)
  · have hw := hw.1 hd8
    refine ok_iconst (pc := 33) a dX9_grows_33 ?_
    exact ok_iret (pc := 34) a dX9_grows_34 ⟨_, rfl, rfl, hw⟩
  · have hw := hw.2 hd8
    refine ok_iload_n (pc := 13) a dX9_grows_13 rfl rfl ?_
    refine ok_SPZ (pc := 14) a [(vI x2)] [] (M_X9_isSort hn tg x2  hw) dX9_grows_14 lkRX9_147 rfl ⟨Nat.le_of_ble_eq_true rfl, Nat.le_of_ble_eq_true rfl⟩ rfl (Nat.le_of_ble_eq_true rfl) rfl (fun r4 hz5 hw => ?_)
    obtain ⟨hR, hw⟩ := hw
    have hK : OK Γ p l e (rmd 2 n n) s m args below meth c n (MQ below (QQ Γ n (RI g Q)) args s (n - n) (sl n - sl n) (AA Γ)) 34 [some (vR 59), some (vI x1), some (vI x2)] [(vI (if r4 = 0 then (-1) else (h1 64 ((4 * x1) + x2)) : Int))] n g h1 := by
      exact ok_iret (pc := 34) a dX9_grows_34 ⟨_, rfl, rfl, hw⟩
    have hw := hR
    refine ok_if_eq (pc := 17) a 33 dX9_grows_17 (by decide) (inR_b hz5) (fun hd6 => ?_) (fun hd6 => ?_)
    · refine ok_iconst (pc := 33) a dX9_grows_33 ?_
      simp only [if_pos hd6] at hK
      exact hK
    · have hw := hw.2 hd6
      refine ok_aload_n (pc := 20) a dX9_grows_20 rfl rfl ?_
      refine ok_getR (pc := 21) a dX9_grows_21 lfRX9_22 (Nat.lt_of_lt_of_le (by decide) hn) kq59 rfl (tg.at 59 12 64 (by decide) (by decide)) ?_
      refine ok_iconst (pc := 24) a dX9_grows_24 ?_
      refine ok_iload_n (pc := 25) a dX9_grows_25 rfl rfl ?_
      refine ok_imul (pc := 26) a dX9_grows_26 ?_
      refine ok_iload_n (pc := 27) a dX9_grows_27 rfl rfl ?_
      refine ok_iadd (pc := 28) a dX9_grows_28 ?_
      obtain ⟨hc7, hw⟩ := hw
      refine ok_iald (pc := 29) a dX9_grows_29 (Nat.lt_of_lt_of_le (by decide) hn) kq64 (by decide) hc7 ?_
      refine ok_goto (pc := 30) a 34 dX9_grows_30 (by decide) ?_
      simp only [if_neg hd6] at hK
      exact hK

def wp_X9_weight (x1 : Int) (h : aH) (Q : Int → aH → Prop) : Prop :=
  ∀ h1, h1 = up h 59 0 0 → wp_X9_in x1 0 8 h1 (fun r2 => ((r2 = 0 → Q (-1) h1) ∧ (¬ r2 = 0 → (inR x1 ∧ ((4 ≤ x1 → inR (x1 - 4) ∧ inR (h1 61 1) ∧ (((h1 61 1) ≤ (x1 - 4) → True) ∧ (¬ (h1 61 1) ≤ (x1 - 4) → (0 ≤ (x1 - 4) ∧ (x1 - 4) < 10) ∧ True))) ∧ (¬ 4 ≤ x1 → (0 ≤ x1 ∧ x1 < 8) ∧ True))) ∧ Q (if 4 ≤ x1 then (if (h1 61 1) ≤ (x1 - 4) then (-9) else (h1 65 (x1 - 4)) : Int) else (h1 62 x1) : Int) h1)))
set_option maxRecDepth 100000 in
set_option maxHeartbeats 4000000 in
theorem M_X9_weight {Γ : Gm} {l : Launch} {n : Nat} {g : aG} (hn : 80 ≤ n) (tg : TM g) (x1 : Int)  {h : aH} {Q : Int → aH → Prop} (hw : wp_X9_weight x1 h Q) : Cl Γ l mX9_weight [vR 59, vI x1] n g h (RI g Q) := by
  refine Cl.of (by decide) [some (vR 59), some (vI x1)] rfl (Nat.le_of_ble_eq_true rfl) ?_
  intro p e s m args below meth c a
  unfold wp_X9_weight at hw
  refine ok_aload_n (pc := 0) a dX9_weight_0 rfl rfl ?_
  refine ok_iconst (pc := 1) a dX9_weight_1 ?_
  refine ok_pI (pc := 2) 0 a dX9_weight_2 lfRX9_77 fi_9_0 (Nat.lt_of_lt_of_le (by decide) hn) kq59 ty_9_0 rfl (fun h1 eh1 => ?_)
  have hw := hw h1 eh1
  refine ok_iload_n (pc := 5) a dX9_weight_5 rfl rfl ?_
  refine ok_iconst (pc := 6) a dX9_weight_6 ?_
  refine ok_bipush (pc := 7) a dX9_weight_7 (by decide) ?_
  refine ok_SPZ (pc := 9) a [(vI x1), (vI 0), (vI 8)] [] (M_X9_in hn tg x1 0 8  hw) dX9_weight_9 lkRX9_81 rfl ⟨Nat.le_of_ble_eq_true rfl, Nat.le_of_ble_eq_true rfl⟩ rfl (Nat.le_of_ble_eq_true rfl) rfl (fun r2 hz3 hw => ?_)
  refine ok_if_ne (pc := 12) a 17 dX9_weight_12 (by decide) (inR_b hz3) (fun hd11 => ?_) (fun hd11 => ?_)
  · have hw := hw.2 hd11
    refine ok_iload_n (pc := 17) a dX9_weight_17 rfl rfl ?_
    refine ok_iconst (pc := 18) a dX9_weight_18 ?_
    obtain ⟨hR, hw⟩ := hw
    have hK : OK Γ p l e (rmd 1 n n) s m args below meth c n (MQ below (QQ Γ n (RI g Q)) args s (n - n) (sl n - sl n) (AA Γ)) 56 [some (vR 59), some (vI x1)] [(vI (if 4 ≤ x1 then (if (h1 61 1) ≤ (x1 - 4) then (-9) else (h1 65 (x1 - 4)) : Int) else (h1 62 x1) : Int))] n g h1 := by
      exact ok_iret (pc := 56) a dX9_weight_56 ⟨_, rfl, rfl, hw⟩
    have hw := hR
    obtain ⟨hc4, hw⟩ := hw
    refine ok_icmp_ge (pc := 19) a 31 dX9_weight_19 (by decide) hc4 ⟨by decide, by decide⟩ (fun hd5 => ?_) (fun hd5 => ?_)
    · have hw := hw.1 hd5
      refine ok_iload_n (pc := 31) a dX9_weight_31 rfl rfl ?_
      refine ok_iconst (pc := 32) a dX9_weight_32 ?_
      refine ok_isub (pc := 33) a dX9_weight_33 ?_
      refine ok_aload_n (pc := 34) a dX9_weight_34 rfl rfl ?_
      refine ok_getR (pc := 35) a dX9_weight_35 lfRX9_13 (Nat.lt_of_lt_of_le (by decide) hn) kq59 rfl (tg.at 59 9 61 (by decide) (by decide)) ?_
      refine ok_iconst (pc := 38) a dX9_weight_38 ?_
      refine ok_iald (pc := 39) a dX9_weight_39 (Nat.lt_of_lt_of_le (by decide) hn) kq61 (by decide) ⟨by decide, by decide⟩ ?_
      obtain ⟨hc6, hw⟩ := hw
      obtain ⟨hc7, hw⟩ := hw
      refine ok_icmp_ge (pc := 40) a 54 dX9_weight_40 (by decide) hc6 hc7 (fun hd8 => ?_) (fun hd8 => ?_)
      · refine ok_bipush (pc := 54) a dX9_weight_54 (by decide) ?_
        simp only [if_pos hd5, if_pos hd8] at hK
        exact hK
      · have hw := hw.2 hd8
        refine ok_aload_n (pc := 43) a dX9_weight_43 rfl rfl ?_
        refine ok_getR (pc := 44) a dX9_weight_44 lfRX9_25 (Nat.lt_of_lt_of_le (by decide) hn) kq59 rfl (tg.at 59 13 65 (by decide) (by decide)) ?_
        refine ok_iload_n (pc := 47) a dX9_weight_47 rfl rfl ?_
        refine ok_iconst (pc := 48) a dX9_weight_48 ?_
        refine ok_isub (pc := 49) a dX9_weight_49 ?_
        obtain ⟨hc9, hw⟩ := hw
        refine ok_iald (pc := 50) a dX9_weight_50 (Nat.lt_of_lt_of_le (by decide) hn) kq65 (by decide) hc9 ?_
        refine ok_goto (pc := 51) a 56 dX9_weight_51 (by decide) ?_
        simp only [if_pos hd5, if_neg hd8] at hK
        exact hK
    · have hw := hw.2 hd5
      refine ok_aload_n (pc := 22) a dX9_weight_22 rfl rfl ?_
      refine ok_getR (pc := 23) a dX9_weight_23 lfRX9_16 (Nat.lt_of_lt_of_le (by decide) hn) kq59 rfl (tg.at 59 10 62 (by decide) (by decide)) ?_
      refine ok_iload_n (pc := 26) a dX9_weight_26 rfl rfl ?_
      obtain ⟨hc10, hw⟩ := hw
      refine ok_iald (pc := 27) a dX9_weight_27 (Nat.lt_of_lt_of_le (by decide) hn) kq62 (by decide) hc10 ?_
      refine ok_goto (pc := 28) a 56 dX9_weight_28 (by decide) ?_
      simp only [if_neg hd5] at hK
      exact hK
  · have hw := hw.1 hd11
    refine ok_iconst (pc := 15) a dX9_weight_15 ?_
    exact ok_iret (pc := 16) a dX9_weight_16 ⟨_, rfl, rfl, hw⟩

def wp_X9_heavy (x1 : Int) (h : aH) (Q : Int → aH → Prop) : Prop :=
  ∀ h1, h1 = up h 59 0 0 → wp_X9_isPerson x1 h1 (fun r2 => ((r2 = 0 → Q (-1) h1) ∧ (¬ r2 = 0 → wp_X9_heaviness x1 h1 (fun r4 => Q r4 h1))))
set_option maxRecDepth 100000 in
set_option maxHeartbeats 4000000 in
theorem M_X9_heavy {Γ : Gm} {l : Launch} {n : Nat} {g : aG} (hn : 80 ≤ n) (tg : TM g) (x1 : Int)  {h : aH} {Q : Int → aH → Prop} (hw : wp_X9_heavy x1 h Q) : Cl Γ l mX9_heavy [vR 59, vI x1] n g h (RI g Q) := by
  refine Cl.of (by decide) [some (vR 59), some (vI x1)] rfl (Nat.le_of_ble_eq_true rfl) ?_
  intro p e s m args below meth c a
  unfold wp_X9_heavy at hw
  refine ok_aload_n (pc := 0) a dX9_heavy_0 rfl rfl ?_
  refine ok_iconst (pc := 1) a dX9_heavy_1 ?_
  refine ok_pI (pc := 2) 0 a dX9_heavy_2 lfRX9_77 fi_9_0 (Nat.lt_of_lt_of_le (by decide) hn) kq59 ty_9_0 rfl (fun h1 eh1 => ?_)
  have hw := hw h1 eh1
  refine ok_aload_n (pc := 5) a dX9_heavy_5 rfl rfl ?_
  refine ok_iload_n (pc := 6) a dX9_heavy_6 rfl rfl ?_
  refine ok_VPZ (pc := 7) a [(vI x1)] [] (M_X9_isPerson hn tg x1  hw) dX9_heavy_7 lkRX9_143 rfl (Nat.lt_of_lt_of_le (by decide) hn) kq59 (by decide) rfl ⟨Nat.le_of_ble_eq_true rfl, Nat.le_of_ble_eq_true rfl⟩ rfl (Nat.le_of_ble_eq_true rfl) rfl (fun r2 hz3 hw => ?_)
  refine ok_if_eq (pc := 10) a 21 dX9_heavy_10 (by decide) (inR_b hz3) (fun hd5 => ?_) (fun hd5 => ?_)
  · have hw := hw.1 hd5
    refine ok_iconst (pc := 21) a dX9_heavy_21 ?_
    exact ok_iret (pc := 22) a dX9_heavy_22 ⟨_, rfl, rfl, hw⟩
  · have hw := hw.2 hd5
    refine ok_aload_n (pc := 13) a dX9_heavy_13 rfl rfl ?_
    refine ok_iload_n (pc := 14) a dX9_heavy_14 rfl rfl ?_
    refine ok_VPI (pc := 15) a [(vI x1)] [] (M_X9_heaviness hn tg x1  hw) dX9_heavy_15 lkRX9_150 rfl (Nat.lt_of_lt_of_le (by decide) hn) kq59 (by decide) rfl ⟨Nat.le_of_ble_eq_true rfl, Nat.le_of_ble_eq_true rfl⟩ rfl (Nat.le_of_ble_eq_true rfl) rfl (fun r4 hw => ?_)
    refine ok_goto (pc := 18) a 22 dX9_heavy_18 (by decide) ?_
    exact ok_iret (pc := 22) a dX9_heavy_22 ⟨_, rfl, rfl, hw⟩

def wp_X9_pairOf (x0 : Int) (x1 : Int) (h : aH) (Q : Int → Prop) : Prop :=
  (inR x0 ∧ inR x1 ∧ True) ∧ ∀ x2_10, x2_10 = (if x1 ≤ x0 then x1 else x0 : Int) → (inR x0 ∧ inR x1 ∧ True) ∧ ∀ x3_21, x3_21 = (if x1 ≤ x0 then x0 else x1 : Int) → (inR x2_10 ∧ True) ∧ Q (if x2_10 = 0 then (x3_21 - 1) else (x2_10 + x3_21) : Int)
set_option maxRecDepth 100000 in
set_option maxHeartbeats 4000000 in
theorem M_X9_pairOf {Γ : Gm} {l : Launch} {n : Nat} {g : aG} (hn : 80 ≤ n) (tg : TM g) (x0 : Int) (x1 : Int)  {h : aH} {Q : Int → Prop} (hw : wp_X9_pairOf x0 x1 h Q) : Cl Γ l mX9_pairOf [vI x0, vI x1] n g h (PI g h Q) := by
  refine Cl.of (by decide) [some (vI x0), some (vI x1), none, none] rfl (Nat.le_of_ble_eq_true rfl) ?_
  intro p e s m args below meth c a
  unfold wp_X9_pairOf at hw
  refine ok_iload_n (pc := 0) a dX9_pairOf_0 rfl rfl ?_
  refine ok_iload_n (pc := 1) a dX9_pairOf_1 rfl rfl ?_
  obtain ⟨hR, hw⟩ := hw
  have hK : OK Γ p l e (rmd 0 n n) s m args below meth c n (MQ below (QQ Γ n (PI g h Q)) args s (n - n) (sl n - sl n) (AA Γ)) 10 [some (vI x0), some (vI x1), none, none] [(vI (if x1 ≤ x0 then x1 else x0 : Int))] n g h := by
    refine ok_nmI (fun x2_10 ex2_10 => ?_)
    have hw := hw x2_10 ex2_10
    refine ok_sI_n (pc := 10) a [some (vI x0), some (vI x1), some (vI x2_10), none] dX9_pairOf_10 rfl (by decide) rfl rfl ?_
    refine ok_iload_n (pc := 11) a dX9_pairOf_11 rfl rfl ?_
    refine ok_iload_n (pc := 12) a dX9_pairOf_12 rfl rfl ?_
    obtain ⟨hR, hw⟩ := hw
    have hK : OK Γ p l e (rmd 0 n n) s m args below meth c n (MQ below (QQ Γ n (PI g h Q)) args s (n - n) (sl n - sl n) (AA Γ)) 21 [some (vI x0), some (vI x1), some (vI x2_10), none] [(vI (if x1 ≤ x0 then x0 else x1 : Int))] n g h := by
      refine ok_nmI (fun x3_21 ex3_21 => ?_)
      have hw := hw x3_21 ex3_21
      refine ok_sI_n (pc := 21) a [some (vI x0), some (vI x1), some (vI x2_10), some (vI x3_21)] dX9_pairOf_21 rfl (by decide) rfl rfl ?_
      refine ok_iload_n (pc := 22) a dX9_pairOf_22 rfl rfl ?_
      obtain ⟨hR, hw⟩ := hw
      have hK : OK Γ p l e (rmd 0 n n) s m args below meth c n (MQ below (QQ Γ n (PI g h Q)) args s (n - n) (sl n - sl n) (AA Γ)) 35 [some (vI x0), some (vI x1), some (vI x2_10), some (vI x3_21)] [(vI (if x2_10 = 0 then (x3_21 - 1) else (x2_10 + x3_21) : Int))] n g h := by
        exact ok_iret (pc := 35) a dX9_pairOf_35 ⟨_, rfl, rfl, rfl, hw⟩
      have hw := hR
      obtain ⟨hc7, hw⟩ := hw
      refine ok_if_ne (pc := 23) a 32 dX9_pairOf_23 (by decide) hc7 (fun hd8 => ?_) (fun hd8 => ?_)
      · refine ok_iload_n (pc := 32) a dX9_pairOf_32 rfl rfl ?_
        refine ok_iload_n (pc := 33) a dX9_pairOf_33 rfl rfl ?_
        refine ok_iadd (pc := 34) a dX9_pairOf_34 ?_
        simp only [if_neg hd8] at hK
        exact hK
      · refine ok_iload_n (pc := 26) a dX9_pairOf_26 rfl rfl ?_
        refine ok_iconst (pc := 27) a dX9_pairOf_27 ?_
        refine ok_isub (pc := 28) a dX9_pairOf_28 ?_
        refine ok_goto (pc := 29) a 35 dX9_pairOf_29 (by decide) ?_
        simp only [if_pos hd8] at hK
        exact hK
    have hw := hR
    obtain ⟨hc4, hw⟩ := hw
    obtain ⟨hc5, hw⟩ := hw
    refine ok_icmp_ge (pc := 13) a 20 dX9_pairOf_13 (by decide) hc4 hc5 (fun hd6 => ?_) (fun hd6 => ?_)
    · refine ok_iload_n (pc := 20) a dX9_pairOf_20 rfl rfl ?_
      simp only [if_pos hd6] at hK
      exact hK
    · refine ok_iload_n (pc := 16) a dX9_pairOf_16 rfl rfl ?_
      refine ok_goto (pc := 17) a 21 dX9_pairOf_17 (by decide) ?_
      simp only [if_neg hd6] at hK
      exact hK
  have hw := hR
  obtain ⟨hc1, hw⟩ := hw
  obtain ⟨hc2, hw⟩ := hw
  refine ok_icmp_ge (pc := 2) a 9 dX9_pairOf_2 (by decide) hc1 hc2 (fun hd3 => ?_) (fun hd3 => ?_)
  · refine ok_iload_n (pc := 9) a dX9_pairOf_9 rfl rfl ?_
    simp only [if_pos hd3] at hK
    exact hK
  · refine ok_iload_n (pc := 5) a dX9_pairOf_5 rfl rfl ?_
    refine ok_goto (pc := 6) a 10 dX9_pairOf_6 (by decide) ?_
    simp only [if_neg hd3] at hK
    exact hK

def wp_X9_turned (x0 : Int) (h : aH) (Q : Int → Prop) : Prop :=
  (inR x0 ∧ True) ∧ Q (if x0 = 0 then 0 else (3 - x0) : Int)
set_option maxRecDepth 100000 in
set_option maxHeartbeats 4000000 in
theorem M_X9_turned {Γ : Gm} {l : Launch} {n : Nat} {g : aG} (hn : 80 ≤ n) (tg : TM g) (x0 : Int)  {h : aH} {Q : Int → Prop} (hw : wp_X9_turned x0 h Q) : Cl Γ l mX9_turned [vI x0] n g h (PI g h Q) := by
  refine Cl.of (by decide) [some (vI x0)] rfl (Nat.le_of_ble_eq_true rfl) ?_
  intro p e s m args below meth c a
  unfold wp_X9_turned at hw
  refine ok_iload_n (pc := 0) a dX9_turned_0 rfl rfl ?_
  obtain ⟨hR, hw⟩ := hw
  have hK : OK Γ p l e (rmd 0 n n) s m args below meth c n (MQ below (QQ Γ n (PI g h Q)) args s (n - n) (sl n - sl n) (AA Γ)) 11 [some (vI x0)] [(vI (if x0 = 0 then 0 else (3 - x0) : Int))] n g h := by
    exact ok_iret (pc := 11) a dX9_turned_11 ⟨_, rfl, rfl, rfl, hw⟩
  have hw := hR
  obtain ⟨hc1, hw⟩ := hw
  refine ok_if_ne (pc := 1) a 8 dX9_turned_1 (by decide) hc1 (fun hd2 => ?_) (fun hd2 => ?_)
  · refine ok_iconst (pc := 8) a dX9_turned_8 ?_
    refine ok_iload_n (pc := 9) a dX9_turned_9 rfl rfl ?_
    refine ok_isub (pc := 10) a dX9_turned_10 ?_
    simp only [if_neg hd2] at hK
    exact hK
  · refine ok_iconst (pc := 4) a dX9_turned_4 ?_
    refine ok_goto (pc := 5) a 11 dX9_turned_5 (by decide) ?_
    simp only [if_pos hd2] at hK
    exact hK

def wp_X9_known (x1 : Int) (x2 : Int) (h : aH) (Q : Int → aH → Prop) : Prop :=
  ∀ h1, h1 = up h 59 0 0 → wp_X9_isPair x1 x2 h1 (fun r2 => ((r2 = 0 → Q (-1) h1) ∧ (¬ r2 = 0 → wp_X9_pairOf x1 x2 h1 (fun r4 => (0 ≤ (17 + r4) ∧ (17 + r4) < 23) ∧ ∀ x3_31, x3_31 = ((h1 66 (17 + r4)) - 1) → inR x3_31 ∧ ((0 ≤ x3_31 → inR x1 ∧ inR x2 ∧ ((x2 ≤ x1 → wp_X9_turned x3_31 h1 (fun r9 => Q r9 h1)) ∧ (¬ x2 ≤ x1 → Q x3_31 h1))) ∧ (¬ 0 ≤ x3_31 → Q (-9) h1))))))
set_option maxRecDepth 100000 in
set_option maxHeartbeats 4000000 in
theorem M_X9_known {Γ : Gm} {l : Launch} {n : Nat} {g : aG} (hn : 80 ≤ n) (tg : TM g) (x1 : Int) (x2 : Int)  {h : aH} {Q : Int → aH → Prop} (hw : wp_X9_known x1 x2 h Q) : Cl Γ l mX9_known [vR 59, vI x1, vI x2] n g h (RI g Q) := by
  refine Cl.of (by decide) [some (vR 59), some (vI x1), some (vI x2), none] rfl (Nat.le_of_ble_eq_true rfl) ?_
  intro p e s m args below meth c a
  unfold wp_X9_known at hw
  refine ok_aload_n (pc := 0) a dX9_known_0 rfl rfl ?_
  refine ok_iconst (pc := 1) a dX9_known_1 ?_
  refine ok_pI (pc := 2) 0 a dX9_known_2 lfRX9_77 fi_9_0 (Nat.lt_of_lt_of_le (by decide) hn) kq59 ty_9_0 rfl (fun h1 eh1 => ?_)
  have hw := hw h1 eh1
  refine ok_aload_n (pc := 5) a dX9_known_5 rfl rfl ?_
  refine ok_iload_n (pc := 6) a dX9_known_6 rfl rfl ?_
  refine ok_iload_n (pc := 7) a dX9_known_7 rfl rfl ?_
  refine ok_VPZ (pc := 8) a [(vI x1), (vI x2)] [] (M_X9_isPair hn tg x1 x2  hw) dX9_known_8 lkRX9_156 rfl (Nat.lt_of_lt_of_le (by decide) hn) kq59 (by decide) rfl ⟨Nat.le_of_ble_eq_true rfl, Nat.le_of_ble_eq_true rfl⟩ rfl (Nat.le_of_ble_eq_true rfl) rfl (fun r2 hz3 hw => ?_)
  refine ok_if_ne (pc := 11) a 16 dX9_known_11 (by decide) (inR_b hz3) (fun hd12 => ?_) (fun hd12 => ?_)
  · have hw := hw.2 hd12
    refine ok_aload_n (pc := 16) a dX9_known_16 rfl rfl ?_
    refine ok_getR (pc := 17) a dX9_known_17 lfRX9_28 (Nat.lt_of_lt_of_le (by decide) hn) kq59 rfl (tg.at 59 14 66 (by decide) (by decide)) ?_
    refine ok_bipush (pc := 20) a dX9_known_20 (by decide) ?_
    refine ok_iload_n (pc := 22) a dX9_known_22 rfl rfl ?_
    refine ok_iload_n (pc := 23) a dX9_known_23 rfl rfl ?_
    refine ok_SPI (pc := 24) a [(vI x1), (vI x2)] [(vI 17), (vR 66)] (M_X9_pairOf hn tg x1 x2  hw) dX9_known_24 lkRX9_160 rfl ⟨Nat.le_of_ble_eq_true rfl, Nat.le_of_ble_eq_true rfl⟩ rfl (Nat.le_of_ble_eq_true rfl) rfl (fun r4 hw => ?_)
    refine ok_iadd (pc := 27) a dX9_known_27 ?_
    obtain ⟨hc5, hw⟩ := hw
    refine ok_iald (pc := 28) a dX9_known_28 (Nat.lt_of_lt_of_le (by decide) hn) kq66 (by decide) hc5 ?_
    refine ok_iconst (pc := 29) a dX9_known_29 ?_
    refine ok_isub (pc := 30) a dX9_known_30 ?_
    refine ok_nmI (fun x3_31 ex3_31 => ?_)
    have hw := hw x3_31 ex3_31
    refine ok_sI_n (pc := 31) a [some (vR 59), some (vI x1), some (vI x2), some (vI x3_31)] dX9_known_31 rfl (by decide) rfl rfl ?_
    refine ok_iload_n (pc := 32) a dX9_known_32 rfl rfl ?_
    obtain ⟨hc6, hw⟩ := hw
    refine ok_if_ge (pc := 33) a 41 dX9_known_33 (by decide) hc6 (fun hd11 => ?_) (fun hd11 => ?_)
    · have hw := hw.1 hd11
      refine ok_iload_n (pc := 41) a dX9_known_41 rfl rfl ?_
      refine ok_iload_n (pc := 42) a dX9_known_42 rfl rfl ?_
      obtain ⟨hc7, hw⟩ := hw
      obtain ⟨hc8, hw⟩ := hw
      refine ok_icmp_ge (pc := 43) a 50 dX9_known_43 (by decide) hc7 hc8 (fun hd10 => ?_) (fun hd10 => ?_)
      · have hw := hw.1 hd10
        refine ok_iload_n (pc := 50) a dX9_known_50 rfl rfl ?_
        refine ok_SPI (pc := 51) a [(vI x3_31)] [] (M_X9_turned hn tg x3_31  hw) dX9_known_51 lkRX9_163 rfl ⟨Nat.le_of_ble_eq_true rfl, Nat.le_of_ble_eq_true rfl⟩ rfl (Nat.le_of_ble_eq_true rfl) rfl (fun r9 hw => ?_)
        exact ok_iret (pc := 54) a dX9_known_54 ⟨_, rfl, rfl, hw⟩
      · have hw := hw.2 hd10
        refine ok_iload_n (pc := 46) a dX9_known_46 rfl rfl ?_
        refine ok_goto (pc := 47) a 54 dX9_known_47 (by decide) ?_
        exact ok_iret (pc := 54) a dX9_known_54 ⟨_, rfl, rfl, hw⟩
    · have hw := hw.2 hd11
      refine ok_bipush (pc := 36) a dX9_known_36 (by decide) ?_
      refine ok_goto (pc := 38) a 54 dX9_known_38 (by decide) ?_
      exact ok_iret (pc := 54) a dX9_known_54 ⟨_, rfl, rfl, hw⟩
  · have hw := hw.1 hd12
    refine ok_iconst (pc := 14) a dX9_known_14 ?_
    exact ok_iret (pc := 15) a dX9_known_15 ⟨_, rfl, rfl, hw⟩

def wp_X9_codeNow_B4 (h : aH) (Q : Int → Prop) (X4 : Int × Int → Prop) (x1_4 : Int) (x2_4 : Int) : Prop :=
  inR x2_4 ∧ ((6 ≤ x2_4 → Q x1_4) ∧ (¬ 6 ≤ x2_4 → (0 ≤ (17 + x2_4) ∧ (17 + x2_4) < 23) ∧ ∀ x1_25, x1_25 = (bor x1_4 (bshl (h 66 (17 + x2_4)) (2 * x2_4))) → X4 (x1_25, (x2_4 + 1))))
def wp_X9_codeNow  (h : aH) (Q : Int → Prop) : Prop :=
  lp (fun X y => wp_X9_codeNow_B4 h Q X y.1 y.2) (0, 0)
set_option maxRecDepth 100000 in
set_option maxHeartbeats 4000000 in
theorem M_X9_codeNow {Γ : Gm} {l : Launch} {n : Nat} {g : aG} (hn : 80 ≤ n) (tg : TM g)   {h : aH} {Q : Int → Prop} (hw : wp_X9_codeNow  h Q) : Cl Γ l mX9_codeNow [vR 59] n g h (PI g h Q) := by
  refine Cl.of (by decide) [some (vR 59), none, none] rfl (Nat.le_of_ble_eq_true rfl) ?_
  intro p e s m args below meth c a
  unfold wp_X9_codeNow at hw
  refine ok_iconst (pc := 0) a dX9_codeNow_0 ?_
  refine ok_sI_n (pc := 1) a [some (vR 59), some (vI 0), none] dX9_codeNow_1 rfl (by decide) rfl rfl ?_
  refine ok_iconst (pc := 2) a dX9_codeNow_2 ?_
  refine ok_sI_n (pc := 3) a [some (vR 59), some (vI 0), some (vI 0)] dX9_codeNow_3 rfl (by decide) rfl rfl ?_
  refine lp.use (P := fun y => OK Γ p l e (rmd 0 n n) s m args below meth c n (MQ below (QQ Γ n (PI g h Q)) args s (n - n) (sl n - sl n) (AA Γ)) 4 [some (vR 59), some (vI y.1), some (vI y.2)] [] n g h) ?_ (0, 0) hw
  clear hw
  intro X4 hX4 y hw
  obtain ⟨x1_4, x2_4⟩ := y
  have hw : wp_X9_codeNow_B4 h Q X4 x1_4 x2_4 := hw
  unfold wp_X9_codeNow_B4 at hw
  try dsimp only
  refine ok_iload_n (pc := 4) a dX9_codeNow_4 rfl rfl ?_
  refine ok_bipush (pc := 5) a dX9_codeNow_5 (by decide) ?_
  obtain ⟨hc1, hw⟩ := hw
  refine ok_icmp_ge (pc := 7) a 32 dX9_codeNow_7 (by decide) hc1 ⟨by decide, by decide⟩ (fun hd3 => ?_) (fun hd3 => ?_)
  · have hw := hw.1 hd3
    refine ok_iload_n (pc := 32) a dX9_codeNow_32 rfl rfl ?_
    exact ok_iret (pc := 33) a dX9_codeNow_33 ⟨_, rfl, rfl, rfl, hw⟩
  · have hw := hw.2 hd3
    refine ok_iload_n (pc := 10) a dX9_codeNow_10 rfl rfl ?_
    refine ok_aload_n (pc := 11) a dX9_codeNow_11 rfl rfl ?_
    refine ok_getR (pc := 12) a dX9_codeNow_12 lfRX9_28 (Nat.lt_of_lt_of_le (by decide) hn) kq59 rfl (tg.at 59 14 66 (by decide) (by decide)) ?_
    refine ok_bipush (pc := 15) a dX9_codeNow_15 (by decide) ?_
    refine ok_iload_n (pc := 17) a dX9_codeNow_17 rfl rfl ?_
    refine ok_iadd (pc := 18) a dX9_codeNow_18 ?_
    obtain ⟨hc2, hw⟩ := hw
    refine ok_iald (pc := 19) a dX9_codeNow_19 (Nat.lt_of_lt_of_le (by decide) hn) kq66 (by decide) hc2 ?_
    refine ok_iconst (pc := 20) a dX9_codeNow_20 ?_
    refine ok_iload_n (pc := 21) a dX9_codeNow_21 rfl rfl ?_
    refine ok_imul (pc := 22) a dX9_codeNow_22 ?_
    refine ok_ishl (pc := 23) a dX9_codeNow_23 ?_
    refine ok_ior (pc := 24) a dX9_codeNow_24 ?_
    refine ok_nmI (fun x1_25 ex1_25 => ?_)
    have hw := hw x1_25 ex1_25
    refine ok_sI_n (pc := 25) a [some (vR 59), some (vI x1_25), some (vI x2_4)] dX9_codeNow_25 rfl (by decide) rfl rfl ?_
    refine ok_inc (pc := 26) a [some (vR 59), some (vI x1_25), some (vI (x2_4 + 1))] dX9_codeNow_26 rfl (by decide) rfl rfl ?_
    refine ok_goto (pc := 29) a 4 dX9_codeNow_29 (by decide) ?_
    exact hX4 (x1_25, (x2_4 + 1)) hw

def wp_X9_nextPair_J63 (X14 : Int × Int × Int → Prop) (x3_14 : Int) (x4_14 : Int) (r5 : Int) (s0_63 : Int) : Prop :=
  ∀ x3_76, x3_76 = (if x3_14 ≤ r5 then x3_14 else r5 : Int) → X14 (s0_63, x3_76, (x4_14 + 1))
def wp_X9_nextPair_B14 (h : aH) (Q : Int → Prop) (r1 : Int) (X14 : Int × Int × Int → Prop) (x2_14 : Int) (x3_14 : Int) (x4_14 : Int) : Prop :=
  inR x4_14 ∧ ((6 ≤ x4_14 → Q x2_14) ∧ (¬ 6 ≤ x4_14 → (0 ≤ r1 ∧ r1 < 4096) ∧ inR (h 77 r1) ∧ (((h 77 r1) ≤ 0 → Q x2_14) ∧ (¬ (h 77 r1) ≤ 0 → wp_X9_worstBehind r1 x4_14 h (fun r5 => inR r5 ∧ inR x3_14 ∧ ((x3_14 ≤ r5 → wp_X9_nextPair_J63 X14 x3_14 x4_14 r5 x2_14) ∧ (¬ x3_14 ≤ r5 → wp_X9_lowerOf x4_14 h (fun r9 => wp_X9_upperOf x4_14 h (fun r10 => wp_X9_nextPair_J63 X14 x3_14 x4_14 r5 ((10 * r9) + r10))))))))))
def wp_X9_nextPair  (h : aH) (Q : Int → Prop) : Prop :=
  wp_X9_codeNow h (fun r1 => lp (fun X y => wp_X9_nextPair_B14 h Q r1 X y.1 y.2.1 y.2.2) ((-9), 1000000, 0))
set_option maxRecDepth 100000 in
set_option maxHeartbeats 4000000 in
theorem M_X9_nextPair {Γ : Gm} {l : Launch} {n : Nat} {g : aG} (hn : 80 ≤ n) (tg : TM g)   {h : aH} {Q : Int → Prop} (hw : wp_X9_nextPair  h Q) : Cl Γ l mX9_nextPair [vR 59] n g h (PI g h Q) := by
  refine Cl.of (by decide) [some (vR 59), none, none, none, none, none] rfl (Nat.le_of_ble_eq_true rfl) ?_
  intro p e s m args below meth c a
  unfold wp_X9_nextPair at hw
  refine ok_aload_n (pc := 0) a dX9_nextPair_0 rfl rfl ?_
  refine ok_VPI (pc := 1) a [] [] (M_X9_codeNow hn tg   hw) dX9_nextPair_1 lkRX9_179 rfl (Nat.lt_of_lt_of_le (by decide) hn) kq59 (by decide) rfl ⟨Nat.le_of_ble_eq_true rfl, Nat.le_of_ble_eq_true rfl⟩ rfl (Nat.le_of_ble_eq_true rfl) rfl (fun r1 hw => ?_)
  refine ok_sI_n (pc := 4) a [some (vR 59), some (vI r1), none, none, none, none] dX9_nextPair_4 rfl (by decide) rfl rfl ?_
  refine ok_bipush (pc := 5) a dX9_nextPair_5 (by decide) ?_
  refine ok_sI_n (pc := 7) a [some (vR 59), some (vI r1), some (vI (-9)), none, none, none] dX9_nextPair_7 rfl (by decide) rfl rfl ?_
  refine ok_ldc (pc := 8) (x := 1000000) a dX9_nextPair_8 ctRX9_175 (by decide) ?_
  refine ok_sI_n (pc := 10) a [some (vR 59), some (vI r1), some (vI (-9)), some (vI 1000000), none, none] dX9_nextPair_10 rfl (by decide) rfl rfl ?_
  refine ok_iconst (pc := 11) a dX9_nextPair_11 ?_
  refine ok_sI (pc := 12) a [some (vR 59), some (vI r1), some (vI (-9)), some (vI 1000000), some (vI 0), none] dX9_nextPair_12 (by decide) rfl rfl ?_
  refine lp.use (P := fun y => OK Γ p l e (rmd 3 n n) s m args below meth c n (MQ below (QQ Γ n (PI g h Q)) args s (n - n) (sl n - sl n) (AA Γ)) 14 [some (vR 59), some (vI r1), some (vI y.1), some (vI y.2.1), some (vI y.2.2), none] [] n g h) ?_ ((-9), 1000000, 0) hw
  clear hw
  intro X14 hX14 y hw
  obtain ⟨x2_14, x3_14, x4_14⟩ := y
  have hw : wp_X9_nextPair_B14 h Q r1 X14 x2_14 x3_14 x4_14 := hw
  unfold wp_X9_nextPair_B14 at hw
  try dsimp only
  refine ok_iload (pc := 14) a dX9_nextPair_14 rfl ?_
  refine ok_bipush (pc := 16) a dX9_nextPair_16 (by decide) ?_
  obtain ⟨hc2, hw⟩ := hw
  refine ok_icmp_ge (pc := 18) a 83 dX9_nextPair_18 (by decide) hc2 ⟨by decide, by decide⟩ (fun hd13 => ?_) (fun hd13 => ?_)
  · have hw := hw.1 hd13
    refine ok_iload_n (pc := 83) a dX9_nextPair_83 rfl rfl ?_
    exact ok_iret (pc := 84) a dX9_nextPair_84 ⟨_, rfl, rfl, rfl, hw⟩
  · have hw := hw.2 hd13
    refine ok_aload_n (pc := 21) a dX9_nextPair_21 rfl rfl ?_
    refine ok_getR (pc := 22) a dX9_nextPair_22 lfRX9_62 (Nat.lt_of_lt_of_le (by decide) hn) kq59 rfl (tg.at 59 29 77 (by decide) (by decide)) ?_
    refine ok_iload_n (pc := 25) a dX9_nextPair_25 rfl rfl ?_
    obtain ⟨hc3, hw⟩ := hw
    refine ok_iald (pc := 26) a dX9_nextPair_26 (Nat.lt_of_lt_of_le (by decide) hn) kq77 (by decide) hc3 ?_
    obtain ⟨hc4, hw⟩ := hw
    refine ok_if_le (pc := 27) a 83 dX9_nextPair_27 (by decide) hc4 (fun hd12 => ?_) (fun hd12 => ?_)
    · have hw := hw.1 hd12
      refine ok_iload_n (pc := 83) a dX9_nextPair_83 rfl rfl ?_
      exact ok_iret (pc := 84) a dX9_nextPair_84 ⟨_, rfl, rfl, rfl, hw⟩
    · have hw := hw.2 hd12
      refine ok_aload_n (pc := 30) a dX9_nextPair_30 rfl rfl ?_
      refine ok_iload_n (pc := 31) a dX9_nextPair_31 rfl rfl ?_
      refine ok_iload (pc := 32) a dX9_nextPair_32 rfl ?_
      refine ok_VPI (pc := 34) a [(vI r1), (vI x4_14)] [] (M_X9_worstBehind hn tg r1 x4_14  hw) dX9_nextPair_34 lkRX9_176 rfl (Nat.lt_of_lt_of_le (by decide) hn) kq59 (by decide) rfl ⟨Nat.le_of_ble_eq_true rfl, Nat.le_of_ble_eq_true rfl⟩ rfl (Nat.le_of_ble_eq_true rfl) rfl (fun r5 hw => ?_)
      refine ok_sI (pc := 37) a [some (vR 59), some (vI r1), some (vI x2_14), some (vI x3_14), some (vI x4_14), some (vI r5)] dX9_nextPair_37 (by decide) rfl rfl ?_
      refine ok_iload (pc := 39) a dX9_nextPair_39 rfl ?_
      refine ok_iload_n (pc := 41) a dX9_nextPair_41 rfl rfl ?_
      obtain ⟨hc6, hw⟩ := hw
      obtain ⟨hc7, hw⟩ := hw
      have hJ63 : ∀ (s0_63 : Int), wp_X9_nextPair_J63 X14 x3_14 x4_14 r5 s0_63 → OK Γ p l e (rmd 3 n n) s m args below meth c n (MQ below (QQ Γ n (PI g h Q)) args s (n - n) (sl n - sl n) (AA Γ)) 63 [some (vR 59), some (vI r1), some (vI x2_14), some (vI x3_14), some (vI x4_14), some (vI r5)] [(vI s0_63)] n g h := by
        intro s0_63 hw
        unfold wp_X9_nextPair_J63 at hw
        refine ok_sI_n (pc := 63) a [some (vR 59), some (vI r1), some (vI s0_63), some (vI x3_14), some (vI x4_14), some (vI r5)] dX9_nextPair_63 rfl (by decide) rfl rfl ?_
        refine ok_iload (pc := 64) a dX9_nextPair_64 rfl ?_
        refine ok_iload_n (pc := 66) a dX9_nextPair_66 rfl rfl ?_
        have hK : OK Γ p l e (rmd 3 n n) s m args below meth c n (MQ below (QQ Γ n (PI g h Q)) args s (n - n) (sl n - sl n) (AA Γ)) 76 [some (vR 59), some (vI r1), some (vI s0_63), some (vI x3_14), some (vI x4_14), some (vI r5)] [(vI (if x3_14 ≤ r5 then x3_14 else r5 : Int))] n g h := by
          refine ok_nmI (fun x3_76 ex3_76 => ?_)
          have hw := hw x3_76 ex3_76
          refine ok_sI_n (pc := 76) a [some (vR 59), some (vI r1), some (vI s0_63), some (vI x3_76), some (vI x4_14), some (vI r5)] dX9_nextPair_76 rfl (by decide) rfl rfl ?_
          refine ok_inc (pc := 77) a [some (vR 59), some (vI r1), some (vI s0_63), some (vI x3_76), some (vI (x4_14 + 1)), some (vI r5)] dX9_nextPair_77 rfl (by decide) rfl rfl ?_
          refine ok_goto (pc := 80) a 14 dX9_nextPair_80 (by decide) ?_
          refine ok_forget 5 ?_
          exact hX14 (s0_63, x3_76, (x4_14 + 1)) hw
        refine ok_icmp_ge (pc := 67) a 75 dX9_nextPair_67 (by decide) hc6 hc7 (fun hd8 => ?_) (fun hd8 => ?_)
        · refine ok_iload_n (pc := 75) a dX9_nextPair_75 rfl rfl ?_
          simp only [if_pos hd8] at hK
          exact hK
        · refine ok_iload (pc := 70) a dX9_nextPair_70 rfl ?_
          refine ok_goto (pc := 72) a 76 dX9_nextPair_72 (by decide) ?_
          simp only [if_neg hd8] at hK
          exact hK
      refine ok_icmp_ge (pc := 42) a 62 dX9_nextPair_42 (by decide) hc6 hc7 (fun hd11 => ?_) (fun hd11 => ?_)
      · have hw := hw.1 hd11
        refine ok_iload_n (pc := 62) a dX9_nextPair_62 rfl rfl ?_
        exact hJ63 x2_14 hw
      · have hw := hw.2 hd11
        refine ok_bipush (pc := 45) a dX9_nextPair_45 (by decide) ?_
        refine ok_iload (pc := 47) a dX9_nextPair_47 rfl ?_
        refine ok_SPI (pc := 49) a [(vI x4_14)] [(vI 10)] (M_X9_lowerOf hn tg x4_14  hw) dX9_nextPair_49 lkRX9_169 rfl ⟨Nat.le_of_ble_eq_true rfl, Nat.le_of_ble_eq_true rfl⟩ rfl (Nat.le_of_ble_eq_true rfl) rfl (fun r9 hw => ?_)
        refine ok_imul (pc := 52) a dX9_nextPair_52 ?_
        refine ok_iload (pc := 53) a dX9_nextPair_53 rfl ?_
        refine ok_SPI (pc := 55) a [(vI x4_14)] [(vI (10 * r9))] (M_X9_upperOf hn tg x4_14  hw) dX9_nextPair_55 lkRX9_153 rfl ⟨Nat.le_of_ble_eq_true rfl, Nat.le_of_ble_eq_true rfl⟩ rfl (Nat.le_of_ble_eq_true rfl) rfl (fun r10 hw => ?_)
        refine ok_iadd (pc := 58) a dX9_nextPair_58 ?_
        refine ok_goto (pc := 59) a 63 dX9_nextPair_59 (by decide) ?_
        exact hJ63 ((10 * r9) + r10) hw

def wp_X9_knownMany_B4 (h : aH) (Q : Int → Prop) (X4 : Int × Int → Prop) (x1_4 : Int) (x2_4 : Int) : Prop :=
  inR x2_4 ∧ ((6 ≤ x2_4 → Q x1_4) ∧ (¬ 6 ≤ x2_4 → (0 ≤ (17 + x2_4) ∧ (17 + x2_4) < 23) ∧ (inR (h 66 (17 + x2_4)) ∧ True) ∧ ∀ x1_29, x1_29 = (x1_4 + (if (h 66 (17 + x2_4)) ≤ 0 then 0 else 1 : Int)) → X4 (x1_29, (x2_4 + 1))))
def wp_X9_knownMany  (h : aH) (Q : Int → Prop) : Prop :=
  lp (fun X y => wp_X9_knownMany_B4 h Q X y.1 y.2) (0, 0)
set_option maxRecDepth 100000 in
set_option maxHeartbeats 4000000 in
theorem M_X9_knownMany {Γ : Gm} {l : Launch} {n : Nat} {g : aG} (hn : 80 ≤ n) (tg : TM g)   {h : aH} {Q : Int → Prop} (hw : wp_X9_knownMany  h Q) : Cl Γ l mX9_knownMany [vR 59] n g h (PI g h Q) := by
  refine Cl.of (by decide) [some (vR 59), none, none] rfl (Nat.le_of_ble_eq_true rfl) ?_
  intro p e s m args below meth c a
  unfold wp_X9_knownMany at hw
  refine ok_iconst (pc := 0) a dX9_knownMany_0 ?_
  refine ok_sI_n (pc := 1) a [some (vR 59), some (vI 0), none] dX9_knownMany_1 rfl (by decide) rfl rfl ?_
  refine ok_iconst (pc := 2) a dX9_knownMany_2 ?_
  refine ok_sI_n (pc := 3) a [some (vR 59), some (vI 0), some (vI 0)] dX9_knownMany_3 rfl (by decide) rfl rfl ?_
  refine lp.use (P := fun y => OK Γ p l e (rmd 0 n n) s m args below meth c n (MQ below (QQ Γ n (PI g h Q)) args s (n - n) (sl n - sl n) (AA Γ)) 4 [some (vR 59), some (vI y.1), some (vI y.2)] [] n g h) ?_ (0, 0) hw
  clear hw
  intro X4 hX4 y hw
  obtain ⟨x1_4, x2_4⟩ := y
  have hw : wp_X9_knownMany_B4 h Q X4 x1_4 x2_4 := hw
  unfold wp_X9_knownMany_B4 at hw
  try dsimp only
  refine ok_iload_n (pc := 4) a dX9_knownMany_4 rfl rfl ?_
  refine ok_bipush (pc := 5) a dX9_knownMany_5 (by decide) ?_
  obtain ⟨hc1, hw⟩ := hw
  refine ok_icmp_ge (pc := 7) a 36 dX9_knownMany_7 (by decide) hc1 ⟨by decide, by decide⟩ (fun hd5 => ?_) (fun hd5 => ?_)
  · have hw := hw.1 hd5
    refine ok_iload_n (pc := 36) a dX9_knownMany_36 rfl rfl ?_
    exact ok_iret (pc := 37) a dX9_knownMany_37 ⟨_, rfl, rfl, rfl, hw⟩
  · have hw := hw.2 hd5
    refine ok_iload_n (pc := 10) a dX9_knownMany_10 rfl rfl ?_
    refine ok_aload_n (pc := 11) a dX9_knownMany_11 rfl rfl ?_
    refine ok_getR (pc := 12) a dX9_knownMany_12 lfRX9_28 (Nat.lt_of_lt_of_le (by decide) hn) kq59 rfl (tg.at 59 14 66 (by decide) (by decide)) ?_
    refine ok_bipush (pc := 15) a dX9_knownMany_15 (by decide) ?_
    refine ok_iload_n (pc := 17) a dX9_knownMany_17 rfl rfl ?_
    refine ok_iadd (pc := 18) a dX9_knownMany_18 ?_
    obtain ⟨hc2, hw⟩ := hw
    refine ok_iald (pc := 19) a dX9_knownMany_19 (Nat.lt_of_lt_of_le (by decide) hn) kq66 (by decide) hc2 ?_
    obtain ⟨hR, hw⟩ := hw
    have hK : OK Γ p l e (rmd 0 n n) s m args below meth c n (MQ below (QQ Γ n (PI g h Q)) args s (n - n) (sl n - sl n) (AA Γ)) 28 [some (vR 59), some (vI x1_4), some (vI x2_4)] [(vI (if (h 66 (17 + x2_4)) ≤ 0 then 0 else 1 : Int)), (vI x1_4)] n g h := by
      refine ok_iadd (pc := 28) a dX9_knownMany_28 ?_
      refine ok_nmI (fun x1_29 ex1_29 => ?_)
      have hw := hw x1_29 ex1_29
      refine ok_sI_n (pc := 29) a [some (vR 59), some (vI x1_29), some (vI x2_4)] dX9_knownMany_29 rfl (by decide) rfl rfl ?_
      refine ok_inc (pc := 30) a [some (vR 59), some (vI x1_29), some (vI (x2_4 + 1))] dX9_knownMany_30 rfl (by decide) rfl rfl ?_
      refine ok_goto (pc := 33) a 4 dX9_knownMany_33 (by decide) ?_
      exact hX4 (x1_29, (x2_4 + 1)) hw
    have hw := hR
    obtain ⟨hc3, hw⟩ := hw
    refine ok_if_le (pc := 20) a 27 dX9_knownMany_20 (by decide) hc3 (fun hd4 => ?_) (fun hd4 => ?_)
    · refine ok_iconst (pc := 27) a dX9_knownMany_27 ?_
      simp only [if_pos hd4] at hK
      exact hK
    · refine ok_iconst (pc := 23) a dX9_knownMany_23 ?_
      refine ok_goto (pc := 24) a 28 dX9_knownMany_24 (by decide) ?_
      simp only [if_neg hd4] at hK
      exact hK

def wp_X9_sumOf_B4 (x1 : Int) (h : aH) (Q : Int → Prop) (X4 : Int × Int → Prop) (x2_4 : Int) (x3_4 : Int) : Prop :=
  inR x3_4 ∧ inR (h 61 1) ∧ (((h 61 1) ≤ x3_4 → Q x2_4) ∧ (¬ (h 61 1) ≤ x3_4 → (inR (band (bshr x1 x3_4) 1) ∧ (((band (bshr x1 x3_4) 1) = 1 → (0 ≤ x3_4 ∧ x3_4 < 10) ∧ True) ∧ (¬ (band (bshr x1 x3_4) 1) = 1 → True))) ∧ ∀ x2_35, x2_35 = (x2_4 + (if (band (bshr x1 x3_4) 1) = 1 then (h 65 x3_4) else 0 : Int)) → X4 (x2_35, (x3_4 + 1))))
def wp_X9_sumOf (x1 : Int) (h : aH) (Q : Int → Prop) : Prop :=
  lp (fun X y => wp_X9_sumOf_B4 x1 h Q X y.1 y.2) (0, 0)
set_option maxRecDepth 100000 in
set_option maxHeartbeats 4000000 in
theorem M_X9_sumOf {Γ : Gm} {l : Launch} {n : Nat} {g : aG} (hn : 80 ≤ n) (tg : TM g) (x1 : Int)  {h : aH} {Q : Int → Prop} (hw : wp_X9_sumOf x1 h Q) : Cl Γ l mX9_sumOf [vR 59, vI x1] n g h (PI g h Q) := by
  refine Cl.of (by decide) [some (vR 59), some (vI x1), none, none] rfl (Nat.le_of_ble_eq_true rfl) ?_
  intro p e s m args below meth c a
  unfold wp_X9_sumOf at hw
  refine ok_iconst (pc := 0) a dX9_sumOf_0 ?_
  refine ok_sI_n (pc := 1) a [some (vR 59), some (vI x1), some (vI 0), none] dX9_sumOf_1 rfl (by decide) rfl rfl ?_
  refine ok_iconst (pc := 2) a dX9_sumOf_2 ?_
  refine ok_sI_n (pc := 3) a [some (vR 59), some (vI x1), some (vI 0), some (vI 0)] dX9_sumOf_3 rfl (by decide) rfl rfl ?_
  refine lp.use (P := fun y => OK Γ p l e (rmd 0 n n) s m args below meth c n (MQ below (QQ Γ n (PI g h Q)) args s (n - n) (sl n - sl n) (AA Γ)) 4 [some (vR 59), some (vI x1), some (vI y.1), some (vI y.2)] [] n g h) ?_ (0, 0) hw
  clear hw
  intro X4 hX4 y hw
  obtain ⟨x2_4, x3_4⟩ := y
  have hw : wp_X9_sumOf_B4 x1 h Q X4 x2_4 x3_4 := hw
  unfold wp_X9_sumOf_B4 at hw
  try dsimp only
  refine ok_iload_n (pc := 4) a dX9_sumOf_4 rfl rfl ?_
  refine ok_aload_n (pc := 5) a dX9_sumOf_5 rfl rfl ?_
  refine ok_getR (pc := 6) a dX9_sumOf_6 lfRX9_13 (Nat.lt_of_lt_of_le (by decide) hn) kq59 rfl (tg.at 59 9 61 (by decide) (by decide)) ?_
  refine ok_iconst (pc := 9) a dX9_sumOf_9 ?_
  refine ok_iald (pc := 10) a dX9_sumOf_10 (Nat.lt_of_lt_of_le (by decide) hn) kq61 (by decide) ⟨by decide, by decide⟩ ?_
  obtain ⟨hc1, hw⟩ := hw
  obtain ⟨hc2, hw⟩ := hw
  refine ok_icmp_ge (pc := 11) a 42 dX9_sumOf_11 (by decide) hc1 hc2 (fun hd6 => ?_) (fun hd6 => ?_)
  · have hw := hw.1 hd6
    refine ok_iload_n (pc := 42) a dX9_sumOf_42 rfl rfl ?_
    exact ok_iret (pc := 43) a dX9_sumOf_43 ⟨_, rfl, rfl, rfl, hw⟩
  · have hw := hw.2 hd6
    refine ok_iload_n (pc := 14) a dX9_sumOf_14 rfl rfl ?_
    refine ok_iload_n (pc := 15) a dX9_sumOf_15 rfl rfl ?_
    refine ok_iload_n (pc := 16) a dX9_sumOf_16 rfl rfl ?_
    refine ok_ishr (pc := 17) a dX9_sumOf_17 ?_
    refine ok_iconst (pc := 18) a dX9_sumOf_18 ?_
    refine ok_iand (pc := 19) a dX9_sumOf_19 ?_
    refine ok_iconst (pc := 20) a dX9_sumOf_20 ?_
    obtain ⟨hR, hw⟩ := hw
    have hK : OK Γ p l e (rmd 0 n n) s m args below meth c n (MQ below (QQ Γ n (PI g h Q)) args s (n - n) (sl n - sl n) (AA Γ)) 34 [some (vR 59), some (vI x1), some (vI x2_4), some (vI x3_4)] [(vI (if (band (bshr x1 x3_4) 1) = 1 then (h 65 x3_4) else 0 : Int)), (vI x2_4)] n g h := by
      refine ok_iadd (pc := 34) a dX9_sumOf_34 ?_
      refine ok_nmI (fun x2_35 ex2_35 => ?_)
      have hw := hw x2_35 ex2_35
      refine ok_sI_n (pc := 35) a [some (vR 59), some (vI x1), some (vI x2_35), some (vI x3_4)] dX9_sumOf_35 rfl (by decide) rfl rfl ?_
      refine ok_inc (pc := 36) a [some (vR 59), some (vI x1), some (vI x2_35), some (vI (x3_4 + 1))] dX9_sumOf_36 rfl (by decide) rfl rfl ?_
      refine ok_goto (pc := 39) a 4 dX9_sumOf_39 (by decide) ?_
      exact hX4 (x2_35, (x3_4 + 1)) hw
    have hw := hR
    obtain ⟨hc3, hw⟩ := hw
    refine ok_icmp_ne (pc := 21) a 33 dX9_sumOf_21 (by decide) hc3 ⟨by decide, by decide⟩ (fun hd4 => ?_) (fun hd4 => ?_)
    · refine ok_iconst (pc := 33) a dX9_sumOf_33 ?_
      simp only [if_neg hd4] at hK
      exact hK
    · have hw := hw.1 hd4
      refine ok_aload_n (pc := 24) a dX9_sumOf_24 rfl rfl ?_
      refine ok_getR (pc := 25) a dX9_sumOf_25 lfRX9_25 (Nat.lt_of_lt_of_le (by decide) hn) kq59 rfl (tg.at 59 13 65 (by decide) (by decide)) ?_
      refine ok_iload_n (pc := 28) a dX9_sumOf_28 rfl rfl ?_
      obtain ⟨hc5, hw⟩ := hw
      refine ok_iald (pc := 29) a dX9_sumOf_29 (Nat.lt_of_lt_of_le (by decide) hn) kq65 (by decide) hc5 ?_
      refine ok_goto (pc := 30) a 34 dX9_sumOf_30 (by decide) ?_
      simp only [if_pos hd4] at hK
      exact hK

def wp_X9_range_B101 (Q : Int → aH → Prop) (h_24 : aH) (X101 : Int → Prop) (x1_101 : Int) : Prop :=
  inR x1_101 ∧ ((300 ≤ x1_101 → Q x1_101 h_24) ∧ (¬ 300 ≤ x1_101 → (0 ≤ (x1_101 + 1) ∧ (x1_101 + 1) < 301) ∧ inR (h_24 79 (x1_101 + 1)) ∧ (((h_24 79 (x1_101 + 1)) = 0 → Q x1_101 h_24) ∧ (¬ (h_24 79 (x1_101 + 1)) = 0 → X101 (x1_101 + 1)))))
def wp_X9_range_J71 (X38 : Int × aH → Prop) (x2_38 : Int) (h_38 : aH) (s0_71 : Int) : Prop :=
  (inR s0_71 ∧ True) ∧ (0 ≤ (if s0_71 ≤ 0 then 0 else s0_71 : Int) ∧ (if s0_71 ≤ 0 then 0 else s0_71 : Int) < 301) ∧ ∀ h15, h15 = up h_38 79 (if s0_71 ≤ 0 then 0 else s0_71 : Int) 1 → X38 ((x2_38 + 1), h15)
def wp_X9_range_B38 (X24 : Int × aH → Prop) (x1_24 : Int) (X38 : Int × aH → Prop) (x2_38 : Int) (h_38 : aH) : Prop :=
  inR x2_38 ∧ inR (bshl 1 (h_38 61 1)) ∧ (((bshl 1 (h_38 61 1)) ≤ x2_38 → X24 ((x1_24 + 1), h_38)) ∧ (¬ (bshl 1 (h_38 61 1)) ≤ x2_38 → inR (band x1_24 x2_38) ∧ (((band x1_24 x2_38) = 0 → wp_X9_sumOf x1_24 h_38 (fun r16 => wp_X9_sumOf x2_38 h_38 (fun r17 => wp_X9_range_J71 X38 x2_38 h_38 (r16 - r17)))) ∧ (¬ (band x1_24 x2_38) = 0 → wp_X9_range_J71 X38 x2_38 h_38 0))))
def wp_X9_range_B24 (Q : Int → aH → Prop) (X24 : Int × aH → Prop) (x1_24 : Int) (h_24 : aH) : Prop :=
  inR x1_24 ∧ inR (bshl 1 (h_24 61 1)) ∧ (((bshl 1 (h_24 61 1)) ≤ x1_24 → lp (fun X y => wp_X9_range_B101 Q h_24 X y) 0) ∧ (¬ (bshl 1 (h_24 61 1)) ≤ x1_24 → lp (fun X y => wp_X9_range_B38 X24 x1_24 X y.1 y.2) (0, h_24)))
def wp_X9_range_B2 (Q : Int → aH → Prop) (X2 : Int × aH → Prop) (x1_2 : Int) (h_2 : aH) : Prop :=
  inR x1_2 ∧ ((301 ≤ x1_2 → lp (fun X y => wp_X9_range_B24 Q X y.1 y.2) (0, h_2)) ∧ (¬ 301 ≤ x1_2 → (0 ≤ x1_2 ∧ x1_2 < 301) ∧ ∀ h22, h22 = up h_2 79 x1_2 0 → X2 ((x1_2 + 1), h22)))
def wp_X9_range  (h : aH) (Q : Int → aH → Prop) : Prop :=
  lp (fun X y => wp_X9_range_B2 Q X y.1 y.2) (0, h)
set_option maxRecDepth 100000 in
set_option maxHeartbeats 4000000 in
theorem M_X9_range {Γ : Gm} {l : Launch} {n : Nat} {g : aG} (hn : 80 ≤ n) (tg : TM g)   {h : aH} {Q : Int → aH → Prop} (hw : wp_X9_range  h Q) : Cl Γ l mX9_range [vR 59] n g h (RI g Q) := by
  refine Cl.of (by decide) [some (vR 59), none, none, none] rfl (Nat.le_of_ble_eq_true rfl) ?_
  intro p e s m args below meth c a
  unfold wp_X9_range at hw
  refine ok_iconst (pc := 0) a dX9_range_0 ?_
  refine ok_sI_n (pc := 1) a [some (vR 59), some (vI 0), none, none] dX9_range_1 rfl (by decide) rfl rfl ?_
  refine lp.use (P := fun y => OK Γ p l e (rmd 1 n n) s m args below meth c n (MQ below (QQ Γ n (RI g Q)) args s (n - n) (sl n - sl n) (AA Γ)) 2 [some (vR 59), some (vI y.1), none, none] [] n g y.2) ?_ (0, h) hw
  clear hw
  intro X2 hX2 y hw
  obtain ⟨x1_2, h_2⟩ := y
  have hw : wp_X9_range_B2 Q X2 x1_2 h_2 := hw
  unfold wp_X9_range_B2 at hw
  try dsimp only
  refine ok_iload_n (pc := 2) a dX9_range_2 rfl rfl ?_
  refine ok_sipush (pc := 3) a dX9_range_3 (by decide) ?_
  obtain ⟨hc1, hw⟩ := hw
  refine ok_icmp_ge (pc := 6) a 22 dX9_range_6 (by decide) hc1 ⟨by decide, by decide⟩ (fun hd23 => ?_) (fun hd23 => ?_)
  · have hw := hw.1 hd23
    refine ok_iconst (pc := 22) a dX9_range_22 ?_
    refine ok_sI_n (pc := 23) a [some (vR 59), some (vI 0), none, none] dX9_range_23 rfl (by decide) rfl rfl ?_
    refine lp.use (P := fun y => OK Γ p l e (rmd 1 n n) s m args below meth c n (MQ below (QQ Γ n (RI g Q)) args s (n - n) (sl n - sl n) (AA Γ)) 24 [some (vR 59), some (vI y.1), none, none] [] n g y.2) ?_ (0, h_2) hw
    clear hw
    intro X24 hX24 y hw
    obtain ⟨x1_24, h_24⟩ := y
    have hw : wp_X9_range_B24 Q X24 x1_24 h_24 := hw
    unfold wp_X9_range_B24 at hw
    try dsimp only
    refine ok_iload_n (pc := 24) a dX9_range_24 rfl rfl ?_
    refine ok_iconst (pc := 25) a dX9_range_25 ?_
    refine ok_aload_n (pc := 26) a dX9_range_26 rfl rfl ?_
    refine ok_getR (pc := 27) a dX9_range_27 lfRX9_13 (Nat.lt_of_lt_of_le (by decide) hn) kq59 rfl (tg.at 59 9 61 (by decide) (by decide)) ?_
    refine ok_iconst (pc := 30) a dX9_range_30 ?_
    refine ok_iald (pc := 31) a dX9_range_31 (Nat.lt_of_lt_of_le (by decide) hn) kq61 (by decide) ⟨by decide, by decide⟩ ?_
    refine ok_ishl (pc := 32) a dX9_range_32 ?_
    obtain ⟨hc2, hw⟩ := hw
    obtain ⟨hc3, hw⟩ := hw
    refine ok_icmp_ge (pc := 33) a 99 dX9_range_33 (by decide) hc2 hc3 (fun hd20 => ?_) (fun hd20 => ?_)
    · have hw := hw.1 hd20
      refine ok_iconst (pc := 99) a dX9_range_99 ?_
      refine ok_sI_n (pc := 100) a [some (vR 59), some (vI 0), none, none] dX9_range_100 rfl (by decide) rfl rfl ?_
      refine lp.use (P := fun y => OK Γ p l e (rmd 1 n n) s m args below meth c n (MQ below (QQ Γ n (RI g Q)) args s (n - n) (sl n - sl n) (AA Γ)) 101 [some (vR 59), some (vI y), none, none] [] n g h_24) ?_ 0 hw
      clear hw
      intro X101 hX101 y hw
      generalize y = x1_101 at hw ⊢
      have hw : wp_X9_range_B101 Q h_24 X101 x1_101 := hw
      unfold wp_X9_range_B101 at hw
      try dsimp only
      refine ok_iload_n (pc := 101) a dX9_range_101 rfl rfl ?_
      refine ok_sipush (pc := 102) a dX9_range_102 (by decide) ?_
      obtain ⟨hc4, hw⟩ := hw
      refine ok_icmp_ge (pc := 105) a 125 dX9_range_105 (by decide) hc4 ⟨by decide, by decide⟩ (fun hd8 => ?_) (fun hd8 => ?_)
      · have hw := hw.1 hd8
        refine ok_iload_n (pc := 125) a dX9_range_125 rfl rfl ?_
        exact ok_iret (pc := 126) a dX9_range_126 ⟨_, rfl, rfl, hw⟩
      · have hw := hw.2 hd8
        refine ok_aload_n (pc := 108) a dX9_range_108 rfl rfl ?_
        refine ok_getR (pc := 109) a dX9_range_109 lfRX9_68 (Nat.lt_of_lt_of_le (by decide) hn) kq59 rfl (tg.at 59 31 79 (by decide) (by decide)) ?_
        refine ok_iload_n (pc := 112) a dX9_range_112 rfl rfl ?_
        refine ok_iconst (pc := 113) a dX9_range_113 ?_
        refine ok_iadd (pc := 114) a dX9_range_114 ?_
        obtain ⟨hc5, hw⟩ := hw
        refine ok_bald (pc := 115) a dX9_range_115 (Nat.lt_of_lt_of_le (by decide) hn) kq79 (by decide) hc5 ?_
        obtain ⟨hc6, hw⟩ := hw
        refine ok_if_eq (pc := 116) a 125 dX9_range_116 (by decide) hc6 (fun hd7 => ?_) (fun hd7 => ?_)
        · have hw := hw.1 hd7
          refine ok_iload_n (pc := 125) a dX9_range_125 rfl rfl ?_
          exact ok_iret (pc := 126) a dX9_range_126 ⟨_, rfl, rfl, hw⟩
        · have hw := hw.2 hd7
          refine ok_inc (pc := 119) a [some (vR 59), some (vI (x1_101 + 1)), none, none] dX9_range_119 rfl (by decide) rfl rfl ?_
          refine ok_goto (pc := 122) a 101 dX9_range_122 (by decide) ?_
          exact hX101 (x1_101 + 1) hw
    · have hw := hw.2 hd20
      refine ok_iconst (pc := 36) a dX9_range_36 ?_
      refine ok_sI_n (pc := 37) a [some (vR 59), some (vI x1_24), some (vI 0), none] dX9_range_37 rfl (by decide) rfl rfl ?_
      refine lp.use (P := fun y => OK Γ p l e (rmd 1 n n) s m args below meth c n (MQ below (QQ Γ n (RI g Q)) args s (n - n) (sl n - sl n) (AA Γ)) 38 [some (vR 59), some (vI x1_24), some (vI y.1), none] [] n g y.2) ?_ (0, h_24) hw
      clear hw
      intro X38 hX38 y hw
      obtain ⟨x2_38, h_38⟩ := y
      have hw : wp_X9_range_B38 X24 x1_24 X38 x2_38 h_38 := hw
      unfold wp_X9_range_B38 at hw
      try dsimp only
      refine ok_iload_n (pc := 38) a dX9_range_38 rfl rfl ?_
      refine ok_iconst (pc := 39) a dX9_range_39 ?_
      refine ok_aload_n (pc := 40) a dX9_range_40 rfl rfl ?_
      refine ok_getR (pc := 41) a dX9_range_41 lfRX9_13 (Nat.lt_of_lt_of_le (by decide) hn) kq59 rfl (tg.at 59 9 61 (by decide) (by decide)) ?_
      refine ok_iconst (pc := 44) a dX9_range_44 ?_
      refine ok_iald (pc := 45) a dX9_range_45 (Nat.lt_of_lt_of_le (by decide) hn) kq61 (by decide) ⟨by decide, by decide⟩ ?_
      refine ok_ishl (pc := 46) a dX9_range_46 ?_
      obtain ⟨hc9, hw⟩ := hw
      obtain ⟨hc10, hw⟩ := hw
      refine ok_icmp_ge (pc := 47) a 93 dX9_range_47 (by decide) hc9 hc10 (fun hd19 => ?_) (fun hd19 => ?_)
      · have hw := hw.1 hd19
        refine ok_inc (pc := 93) a [some (vR 59), some (vI (x1_24 + 1)), some (vI x2_38), none] dX9_range_93 rfl (by decide) rfl rfl ?_
        refine ok_goto (pc := 96) a 24 dX9_range_96 (by decide) ?_
        refine ok_forget 2 ?_
        exact hX24 ((x1_24 + 1), h_38) hw
      · have hw := hw.2 hd19
        refine ok_iload_n (pc := 50) a dX9_range_50 rfl rfl ?_
        refine ok_iload_n (pc := 51) a dX9_range_51 rfl rfl ?_
        refine ok_iand (pc := 52) a dX9_range_52 ?_
        obtain ⟨hc11, hw⟩ := hw
        have hJ71 : ∀ (s0_71 : Int), wp_X9_range_J71 X38 x2_38 h_38 s0_71 → OK Γ p l e (rmd 1 n n) s m args below meth c n (MQ below (QQ Γ n (RI g Q)) args s (n - n) (sl n - sl n) (AA Γ)) 71 [some (vR 59), some (vI x1_24), some (vI x2_38), none] [(vI s0_71)] n g h_38 := by
          intro s0_71 hw
          unfold wp_X9_range_J71 at hw
          refine ok_sI_n (pc := 71) a [some (vR 59), some (vI x1_24), some (vI x2_38), some (vI s0_71)] dX9_range_71 rfl (by decide) rfl rfl ?_
          refine ok_aload_n (pc := 72) a dX9_range_72 rfl rfl ?_
          refine ok_getR (pc := 73) a dX9_range_73 lfRX9_68 (Nat.lt_of_lt_of_le (by decide) hn) kq59 rfl (tg.at 59 31 79 (by decide) (by decide)) ?_
          refine ok_iload_n (pc := 76) a dX9_range_76 rfl rfl ?_
          obtain ⟨hR, hw⟩ := hw
          have hK : OK Γ p l e (rmd 1 n n) s m args below meth c n (MQ below (QQ Γ n (RI g Q)) args s (n - n) (sl n - sl n) (AA Γ)) 85 [some (vR 59), some (vI x1_24), some (vI x2_38), some (vI s0_71)] [(vI (if s0_71 ≤ 0 then 0 else s0_71 : Int)), (vR 79)] n g h_38 := by
            refine ok_iconst (pc := 85) a dX9_range_85 ?_
            obtain ⟨hc14, hw⟩ := hw
            refine ok_bast (pc := 86) a dX9_range_86 (Nat.lt_of_lt_of_le (by decide) hn) kq79 (by decide) hc14 (Or.inr rfl) (ok_nmH (fun h15 eh15 => ?_))
            have hw := hw h15 eh15
            refine ok_inc (pc := 87) a [some (vR 59), some (vI x1_24), some (vI (x2_38 + 1)), some (vI s0_71)] dX9_range_87 rfl (by decide) rfl rfl ?_
            refine ok_goto (pc := 90) a 38 dX9_range_90 (by decide) ?_
            refine ok_forget 3 ?_
            exact hX38 ((x2_38 + 1), h15) hw
          have hw := hR
          obtain ⟨hc12, hw⟩ := hw
          refine ok_if_le (pc := 77) a 84 dX9_range_77 (by decide) hc12 (fun hd13 => ?_) (fun hd13 => ?_)
          · refine ok_iconst (pc := 84) a dX9_range_84 ?_
            simp only [if_pos hd13] at hK
            exact hK
          · refine ok_iload_n (pc := 80) a dX9_range_80 rfl rfl ?_
            refine ok_goto (pc := 81) a 85 dX9_range_81 (by decide) ?_
            simp only [if_neg hd13] at hK
            exact hK
        refine ok_if_ne (pc := 53) a 70 dX9_range_53 (by decide) hc11 (fun hd18 => ?_) (fun hd18 => ?_)
        · have hw := hw.2 hd18
          refine ok_iconst (pc := 70) a dX9_range_70 ?_
          exact hJ71 0 hw
        · have hw := hw.1 hd18
          refine ok_aload_n (pc := 56) a dX9_range_56 rfl rfl ?_
          refine ok_iload_n (pc := 57) a dX9_range_57 rfl rfl ?_
          refine ok_VPI (pc := 58) a [(vI x1_24)] [] (M_X9_sumOf hn tg x1_24  hw) dX9_range_58 lkRX9_183 rfl (Nat.lt_of_lt_of_le (by decide) hn) kq59 (by decide) rfl ⟨Nat.le_of_ble_eq_true rfl, Nat.le_of_ble_eq_true rfl⟩ rfl (Nat.le_of_ble_eq_true rfl) rfl (fun r16 hw => ?_)
          refine ok_aload_n (pc := 61) a dX9_range_61 rfl rfl ?_
          refine ok_iload_n (pc := 62) a dX9_range_62 rfl rfl ?_
          refine ok_VPI (pc := 63) a [(vI x2_38)] [(vI r16)] (M_X9_sumOf hn tg x2_38  hw) dX9_range_63 lkRX9_183 rfl (Nat.lt_of_lt_of_le (by decide) hn) kq59 (by decide) rfl ⟨Nat.le_of_ble_eq_true rfl, Nat.le_of_ble_eq_true rfl⟩ rfl (Nat.le_of_ble_eq_true rfl) rfl (fun r17 hw => ?_)
          refine ok_isub (pc := 66) a dX9_range_66 ?_
          refine ok_goto (pc := 67) a 71 dX9_range_67 (by decide) ?_
          exact hJ71 (r16 - r17) hw
  · have hw := hw.2 hd23
    refine ok_aload_n (pc := 9) a dX9_range_9 rfl rfl ?_
    refine ok_getR (pc := 10) a dX9_range_10 lfRX9_68 (Nat.lt_of_lt_of_le (by decide) hn) kq59 rfl (tg.at 59 31 79 (by decide) (by decide)) ?_
    refine ok_iload_n (pc := 13) a dX9_range_13 rfl rfl ?_
    refine ok_iconst (pc := 14) a dX9_range_14 ?_
    obtain ⟨hc21, hw⟩ := hw
    refine ok_bast (pc := 15) a dX9_range_15 (Nat.lt_of_lt_of_le (by decide) hn) kq79 (by decide) hc21 (Or.inl rfl) (ok_nmH (fun h22 eh22 => ?_))
    have hw := hw h22 eh22
    refine ok_inc (pc := 16) a [some (vR 59), some (vI (x1_2 + 1)), none, none] dX9_range_16 rfl (by decide) rfl rfl ?_
    refine ok_goto (pc := 19) a 2 dX9_range_19 (by decide) ?_
    exact hX2 ((x1_2 + 1), h22) hw

def wp_X9_now (x1 : Int) (h : aH) (Q : Int → aH → Prop) : Prop :=
  ∀ h1, h1 = up h 59 0 0 → wp_X9_in x1 0 6 h1 (fun r2 => ((r2 = 0 → Q (-1) h1) ∧ (¬ r2 = 0 → inR x1 ∧ ((3 ≤ x1 → ((x1 = 3 → wp_X9_codeNow h1 (fun r5 => (0 ≤ r5 ∧ r5 < 4096) ∧ Q (h1 77 r5) h1)) ∧ (¬ x1 = 3 → ((x1 = 4 → wp_X9_nextPair h1 (fun r7 => Q r7 h1)) ∧ (¬ x1 = 4 → ((x1 = 5 → wp_X9_range h1 (fun r8 h9 => Q r8 h9)) ∧ (¬ x1 = 5 → Q (h1 59 18) h1))))))) ∧ (¬ 3 ≤ x1 → ((x1 = 0 → Q (h1 66 0) h1) ∧ (¬ x1 = 0 → ((x1 = 1 → wp_X9_knownMany h1 (fun r13 => Q r13 h1)) ∧ (¬ x1 = 1 → wp_X9_codeNow h1 (fun r14 => (0 ≤ r14 ∧ r14 < 4096) ∧ Q (h1 76 r14) h1))))))))))
set_option maxRecDepth 100000 in
set_option maxHeartbeats 4000000 in
theorem M_X9_now {Γ : Gm} {l : Launch} {n : Nat} {g : aG} (hn : 80 ≤ n) (tg : TM g) (x1 : Int)  {h : aH} {Q : Int → aH → Prop} (hw : wp_X9_now x1 h Q) : Cl Γ l mX9_now [vR 59, vI x1] n g h (RI g Q) := by
  refine Cl.of (by decide) [some (vR 59), some (vI x1)] rfl (Nat.le_of_ble_eq_true rfl) ?_
  intro p e s m args below meth c a
  unfold wp_X9_now at hw
  refine ok_aload_n (pc := 0) a dX9_now_0 rfl rfl ?_
  refine ok_iconst (pc := 1) a dX9_now_1 ?_
  refine ok_pI (pc := 2) 0 a dX9_now_2 lfRX9_77 fi_9_0 (Nat.lt_of_lt_of_le (by decide) hn) kq59 ty_9_0 rfl (fun h1 eh1 => ?_)
  have hw := hw h1 eh1
  refine ok_iload_n (pc := 5) a dX9_now_5 rfl rfl ?_
  refine ok_iconst (pc := 6) a dX9_now_6 ?_
  refine ok_bipush (pc := 7) a dX9_now_7 (by decide) ?_
  refine ok_SPZ (pc := 9) a [(vI x1), (vI 0), (vI 6)] [] (M_X9_in hn tg x1 0 6  hw) dX9_now_9 lkRX9_81 rfl ⟨Nat.le_of_ble_eq_true rfl, Nat.le_of_ble_eq_true rfl⟩ rfl (Nat.le_of_ble_eq_true rfl) rfl (fun r2 hz3 hw => ?_)
  refine ok_if_ne (pc := 12) a 17 dX9_now_12 (by decide) (inR_b hz3) (fun hd19 => ?_) (fun hd19 => ?_)
  · have hw := hw.2 hd19
    refine ok_iload_n (pc := 17) a dX9_now_17 rfl rfl ?_
    refine ok_iconst (pc := 18) a dX9_now_18 ?_
    obtain ⟨hc4, hw⟩ := hw
    refine ok_icmp_ge (pc := 19) a 57 dX9_now_19 (by decide) hc4 ⟨by decide, by decide⟩ (fun hd18 => ?_) (fun hd18 => ?_)
    · have hw := hw.1 hd18
      refine ok_iload_n (pc := 57) a dX9_now_57 rfl rfl ?_
      refine ok_iconst (pc := 58) a dX9_now_58 ?_
      refine ok_icmp_ne (pc := 59) a 74 dX9_now_59 (by decide) hc4 ⟨by decide, by decide⟩ (fun hd12 => ?_) (fun hd12 => ?_)
      · have hw := hw.2 hd12
        refine ok_iload_n (pc := 74) a dX9_now_74 rfl rfl ?_
        refine ok_iconst (pc := 75) a dX9_now_75 ?_
        refine ok_icmp_ne (pc := 76) a 86 dX9_now_76 (by decide) hc4 ⟨by decide, by decide⟩ (fun hd11 => ?_) (fun hd11 => ?_)
        · have hw := hw.2 hd11
          refine ok_iload_n (pc := 86) a dX9_now_86 rfl rfl ?_
          refine ok_iconst (pc := 87) a dX9_now_87 ?_
          refine ok_icmp_ne (pc := 88) a 98 dX9_now_88 (by decide) hc4 ⟨by decide, by decide⟩ (fun hd10 => ?_) (fun hd10 => ?_)
          · have hw := hw.2 hd10
            refine ok_aload_n (pc := 98) a dX9_now_98 rfl rfl ?_
            refine ok_fI (pc := 99) 18 a dX9_now_99 lfRX9_135 (Nat.lt_of_lt_of_le (by decide) hn) kq59 ty_9_18 rfl ?_
            exact ok_iret (pc := 102) a dX9_now_102 ⟨_, rfl, rfl, hw⟩
          · have hw := hw.1 hd10
            refine ok_aload_n (pc := 91) a dX9_now_91 rfl rfl ?_
            refine ok_VRI (pc := 92) a [] [] (M_X9_range hn tg   hw) dX9_now_92 lkRX9_192 rfl (Nat.lt_of_lt_of_le (by decide) hn) kq59 (by decide) rfl ⟨Nat.le_of_ble_eq_true rfl, Nat.le_of_ble_eq_true rfl⟩ rfl (Nat.le_of_ble_eq_true rfl) rfl (fun r8 h9 hw => ?_)
            refine ok_goto (pc := 95) a 102 dX9_now_95 (by decide) ?_
            exact ok_iret (pc := 102) a dX9_now_102 ⟨_, rfl, rfl, hw⟩
        · have hw := hw.1 hd11
          refine ok_aload_n (pc := 79) a dX9_now_79 rfl rfl ?_
          refine ok_VPI (pc := 80) a [] [] (M_X9_nextPair hn tg   hw) dX9_now_80 lkRX9_189 rfl (Nat.lt_of_lt_of_le (by decide) hn) kq59 (by decide) rfl ⟨Nat.le_of_ble_eq_true rfl, Nat.le_of_ble_eq_true rfl⟩ rfl (Nat.le_of_ble_eq_true rfl) rfl (fun r7 hw => ?_)
          refine ok_goto (pc := 83) a 102 dX9_now_83 (by decide) ?_
          exact ok_iret (pc := 102) a dX9_now_102 ⟨_, rfl, rfl, hw⟩
      · have hw := hw.1 hd12
        refine ok_aload_n (pc := 62) a dX9_now_62 rfl rfl ?_
        refine ok_getR (pc := 63) a dX9_now_63 lfRX9_62 (Nat.lt_of_lt_of_le (by decide) hn) kq59 rfl (tg.at 59 29 77 (by decide) (by decide)) ?_
        refine ok_aload_n (pc := 66) a dX9_now_66 rfl rfl ?_
        refine ok_VPI (pc := 67) a [] [(vR 77)] (M_X9_codeNow hn tg   hw) dX9_now_67 lkRX9_179 rfl (Nat.lt_of_lt_of_le (by decide) hn) kq59 (by decide) rfl ⟨Nat.le_of_ble_eq_true rfl, Nat.le_of_ble_eq_true rfl⟩ rfl (Nat.le_of_ble_eq_true rfl) rfl (fun r5 hw => ?_)
        obtain ⟨hc6, hw⟩ := hw
        refine ok_iald (pc := 70) a dX9_now_70 (Nat.lt_of_lt_of_le (by decide) hn) kq77 (by decide) hc6 ?_
        refine ok_goto (pc := 71) a 102 dX9_now_71 (by decide) ?_
        exact ok_iret (pc := 102) a dX9_now_102 ⟨_, rfl, rfl, hw⟩
    · have hw := hw.2 hd18
      refine ok_iload_n (pc := 22) a dX9_now_22 rfl rfl ?_
      refine ok_if_ne (pc := 23) a 35 dX9_now_23 (by decide) hc4 (fun hd17 => ?_) (fun hd17 => ?_)
      · have hw := hw.2 hd17
        refine ok_iload_n (pc := 35) a dX9_now_35 rfl rfl ?_
        refine ok_iconst (pc := 36) a dX9_now_36 ?_
        refine ok_icmp_ne (pc := 37) a 47 dX9_now_37 (by decide) hc4 ⟨by decide, by decide⟩ (fun hd16 => ?_) (fun hd16 => ?_)
        · have hw := hw.2 hd16
          refine ok_aload_n (pc := 47) a dX9_now_47 rfl rfl ?_
          refine ok_getR (pc := 48) a dX9_now_48 lfRX9_59 (Nat.lt_of_lt_of_le (by decide) hn) kq59 rfl (tg.at 59 28 76 (by decide) (by decide)) ?_
          refine ok_aload_n (pc := 51) a dX9_now_51 rfl rfl ?_
          refine ok_VPI (pc := 52) a [] [(vR 76)] (M_X9_codeNow hn tg   hw) dX9_now_52 lkRX9_179 rfl (Nat.lt_of_lt_of_le (by decide) hn) kq59 (by decide) rfl ⟨Nat.le_of_ble_eq_true rfl, Nat.le_of_ble_eq_true rfl⟩ rfl (Nat.le_of_ble_eq_true rfl) rfl (fun r14 hw => ?_)
          obtain ⟨hc15, hw⟩ := hw
          refine ok_iald (pc := 55) a dX9_now_55 (Nat.lt_of_lt_of_le (by decide) hn) kq76 (by decide) hc15 ?_
          exact ok_iret (pc := 56) a dX9_now_56 ⟨_, rfl, rfl, hw⟩
        · have hw := hw.1 hd16
          refine ok_aload_n (pc := 40) a dX9_now_40 rfl rfl ?_
          refine ok_VPI (pc := 41) a [] [] (M_X9_knownMany hn tg   hw) dX9_now_41 lkRX9_186 rfl (Nat.lt_of_lt_of_le (by decide) hn) kq59 (by decide) rfl ⟨Nat.le_of_ble_eq_true rfl, Nat.le_of_ble_eq_true rfl⟩ rfl (Nat.le_of_ble_eq_true rfl) rfl (fun r13 hw => ?_)
          refine ok_goto (pc := 44) a 56 dX9_now_44 (by decide) ?_
          exact ok_iret (pc := 56) a dX9_now_56 ⟨_, rfl, rfl, hw⟩
      · have hw := hw.1 hd17
        refine ok_aload_n (pc := 26) a dX9_now_26 rfl rfl ?_
        refine ok_getR (pc := 27) a dX9_now_27 lfRX9_28 (Nat.lt_of_lt_of_le (by decide) hn) kq59 rfl (tg.at 59 14 66 (by decide) (by decide)) ?_
        refine ok_iconst (pc := 30) a dX9_now_30 ?_
        refine ok_iald (pc := 31) a dX9_now_31 (Nat.lt_of_lt_of_le (by decide) hn) kq66 (by decide) ⟨by decide, by decide⟩ ?_
        refine ok_goto (pc := 32) a 56 dX9_now_32 (by decide) ?_
        exact ok_iret (pc := 56) a dX9_now_56 ⟨_, rfl, rfl, hw⟩
  · have hw := hw.1 hd19
    refine ok_iconst (pc := 15) a dX9_now_15 ?_
    exact ok_iret (pc := 16) a dX9_now_16 ⟨_, rfl, rfl, hw⟩
