def wp_X5_isOrder_B20 (x1 : Int) (Q : Int → aH → Prop) (h1 : aH) (X9 : Int × Int → Prop) (x3_9 : Int) (X20 : Int × Int → Prop) (x2_20 : Int) (x4_20 : Int) : Prop :=
  inR x4_20 ∧ ((x3_9 ≤ x4_20 → X9 (x2_20, (x3_9 + 1))) ∧ (¬ x3_9 ≤ x4_20 → (0 ≤ x4_20 ∧ x4_20 < 4) ∧ (0 ≤ x3_9 ∧ x3_9 < 4) ∧ wp_X5_dueFinding (h1 45 x4_20) (h1 45 x3_9) h1 (fun r7 => wp_X8_foundOf x1 x2_20 h1 (fun r8 => inR r8 ∧ inR r7 ∧ ((r8 = r7 → X20 ((x2_20 + 1), (x4_20 + 1))) ∧ (¬ r8 = r7 → Q 0 h1))))))
def wp_X5_isOrder_B9 (x1 : Int) (Q : Int → aH → Prop) (h1 : aH) (X9 : Int × Int → Prop) (x2_9 : Int) (x3_9 : Int) : Prop :=
  inR x3_9 ∧ inR (h1 43 2) ∧ (((h1 43 2) ≤ x3_9 → Q 1 h1) ∧ (¬ (h1 43 2) ≤ x3_9 → lp (fun X y => wp_X5_isOrder_B20 x1 Q h1 X9 x3_9 X y.1 y.2) (x2_9, 0)))
def wp_X5_isOrder (x1 : Int) (h : aH) (Q : Int → aH → Prop) : Prop :=
  wp_X5_countHeavierOnes x1 h (fun h1 => lp (fun X y => wp_X5_isOrder_B9 x1 Q h1 X y.1 y.2) (0, 1))
set_option maxRecDepth 100000 in
set_option maxHeartbeats 4000000 in
theorem M_X5_isOrder {Γ : Gm} {l : Launch} {n : Nat} {g : aG} (hn : 59 ≤ n) (tg : TC g) (x1 : Int)  {h : aH} {Q : Int → aH → Prop} (hw : wp_X5_isOrder x1 h Q) : Cl Γ l mX5_isOrder [vR 43, vI x1] n g h (RZ g Q) := by
  refine Cl.of (by decide) [some (vR 43), some (vI x1), none, none, none, none] rfl (Nat.le_of_ble_eq_true rfl) ?_
  intro p e s m args below meth c a
  unfold wp_X5_isOrder at hw
  refine ok_aload_n (pc := 0) a dX5_isOrder_0 rfl rfl ?_
  refine ok_iload_n (pc := 1) a dX5_isOrder_1 rfl rfl ?_
  refine ok_VRV (pc := 2) a [(vI x1)] [] (M_X5_countHeavierOnes hn tg x1  hw) dX5_isOrder_2 lkRX5_65 rfl (Nat.lt_of_lt_of_le (by decide) hn) kq43 (by decide) rfl ⟨Nat.le_of_ble_eq_true rfl, Nat.le_of_ble_eq_true rfl⟩ rfl (Nat.le_of_ble_eq_true rfl) rfl (fun h1 hw => ?_)
  refine ok_iconst (pc := 5) a dX5_isOrder_5 ?_
  refine ok_sI_n (pc := 6) a [some (vR 43), some (vI x1), some (vI 0), none, none, none] dX5_isOrder_6 rfl (by decide) rfl rfl ?_
  refine ok_iconst (pc := 7) a dX5_isOrder_7 ?_
  refine ok_sI_n (pc := 8) a [some (vR 43), some (vI x1), some (vI 0), some (vI 1), none, none] dX5_isOrder_8 rfl (by decide) rfl rfl ?_
  refine lp.use (P := fun y => OK Γ p l e (rmd 2 n n) s m args below meth c n (MQ below (QQ Γ n (RZ g Q)) args s (n - n) (sl n - sl n) (AA Γ)) 9 [some (vR 43), some (vI x1), some (vI y.1), some (vI y.2), none, none] [] n g h1) ?_ (0, 1) hw
  clear hw
  intro X9 hX9 y hw
  obtain ⟨x2_9, x3_9⟩ := y
  have hw : wp_X5_isOrder_B9 x1 Q h1 X9 x2_9 x3_9 := hw
  unfold wp_X5_isOrder_B9 at hw
  try dsimp only
  refine ok_iload_n (pc := 9) a dX5_isOrder_9 rfl rfl ?_
  refine ok_aload_n (pc := 10) a dX5_isOrder_10 rfl rfl ?_
  refine ok_fI (pc := 11) 2 a dX5_isOrder_11 lfRX5_19 (Nat.lt_of_lt_of_le (by decide) hn) kq43 ty_5_2 rfl ?_
  obtain ⟨hc2, hw⟩ := hw
  obtain ⟨hc3, hw⟩ := hw
  refine ok_icmp_ge (pc := 14) a 71 dX5_isOrder_14 (by decide) hc2 hc3 (fun hd13 => ?_) (fun hd13 => ?_)
  · have hw := hw.1 hd13
    refine ok_iconst (pc := 71) a dX5_isOrder_71 ?_
    exact ok_zret (pc := 72) a dX5_isOrder_72 (Or.inr rfl) ⟨_, rfl, rfl, (Or.inr rfl), hw⟩
  · have hw := hw.2 hd13
    refine ok_iconst (pc := 17) a dX5_isOrder_17 ?_
    refine ok_sI (pc := 18) a [some (vR 43), some (vI x1), some (vI x2_9), some (vI x3_9), some (vI 0), none] dX5_isOrder_18 (by decide) rfl rfl ?_
    refine lp.use (P := fun y => OK Γ p l e (rmd 2 n n) s m args below meth c n (MQ below (QQ Γ n (RZ g Q)) args s (n - n) (sl n - sl n) (AA Γ)) 20 [some (vR 43), some (vI x1), some (vI y.1), some (vI x3_9), some (vI y.2), none] [] n g h1) ?_ (x2_9, 0) hw
    clear hw
    intro X20 hX20 y hw
    obtain ⟨x2_20, x4_20⟩ := y
    have hw : wp_X5_isOrder_B20 x1 Q h1 X9 x3_9 X20 x2_20 x4_20 := hw
    unfold wp_X5_isOrder_B20 at hw
    try dsimp only
    refine ok_iload (pc := 20) a dX5_isOrder_20 rfl ?_
    refine ok_iload_n (pc := 22) a dX5_isOrder_22 rfl rfl ?_
    obtain ⟨hc4, hw⟩ := hw
    refine ok_icmp_ge (pc := 23) a 65 dX5_isOrder_23 (by decide) hc4 hc2 (fun hd12 => ?_) (fun hd12 => ?_)
    · have hw := hw.1 hd12
      refine ok_inc (pc := 65) a [some (vR 43), some (vI x1), some (vI x2_20), some (vI (x3_9 + 1)), some (vI x4_20), none] dX5_isOrder_65 rfl (by decide) rfl rfl ?_
      refine ok_goto (pc := 68) a 9 dX5_isOrder_68 (by decide) ?_
      refine ok_forget 4 ?_
      exact hX9 (x2_20, (x3_9 + 1)) hw
    · have hw := hw.2 hd12
      refine ok_aload_n (pc := 26) a dX5_isOrder_26 rfl rfl ?_
      refine ok_getR (pc := 27) a dX5_isOrder_27 lfRX5_15 (Nat.lt_of_lt_of_le (by decide) hn) kq43 rfl (tg.at 43 1 45 (by decide) (by decide)) ?_
      refine ok_iload (pc := 30) a dX5_isOrder_30 rfl ?_
      obtain ⟨hc5, hw⟩ := hw
      refine ok_iald (pc := 32) a dX5_isOrder_32 (Nat.lt_of_lt_of_le (by decide) hn) kq45 (by decide) hc5 ?_
      refine ok_aload_n (pc := 33) a dX5_isOrder_33 rfl rfl ?_
      refine ok_getR (pc := 34) a dX5_isOrder_34 lfRX5_15 (Nat.lt_of_lt_of_le (by decide) hn) kq43 rfl (tg.at 43 1 45 (by decide) (by decide)) ?_
      refine ok_iload_n (pc := 37) a dX5_isOrder_37 rfl rfl ?_
      obtain ⟨hc6, hw⟩ := hw
      refine ok_iald (pc := 38) a dX5_isOrder_38 (Nat.lt_of_lt_of_le (by decide) hn) kq45 (by decide) hc6 ?_
      refine ok_SPI (pc := 39) a [(vI (h1 45 x4_20)), (vI (h1 45 x3_9))] [] (M_X5_dueFinding hn tg (h1 45 x4_20) (h1 45 x3_9)  hw) dX5_isOrder_39 lkRX5_69 rfl ⟨Nat.le_of_ble_eq_true rfl, Nat.le_of_ble_eq_true rfl⟩ rfl (Nat.le_of_ble_eq_true rfl) rfl (fun r7 hw => ?_)
      refine ok_sI (pc := 42) a [some (vR 43), some (vI x1), some (vI x2_20), some (vI x3_9), some (vI x4_20), some (vI r7)] dX5_isOrder_42 (by decide) rfl rfl ?_
      refine ok_iload_n (pc := 44) a dX5_isOrder_44 rfl rfl ?_
      refine ok_iload_n (pc := 45) a dX5_isOrder_45 rfl rfl ?_
      refine ok_SPI (pc := 46) a [(vI x1), (vI x2_20)] [] (M_X8_foundOf hn tg x1 x2_20  hw) dX5_isOrder_46 lkRX5_40 rfl ⟨Nat.le_of_ble_eq_true rfl, Nat.le_of_ble_eq_true rfl⟩ rfl (Nat.le_of_ble_eq_true rfl) rfl (fun r8 hw => ?_)
      refine ok_iload (pc := 49) a dX5_isOrder_49 rfl ?_
      obtain ⟨hc9, hw⟩ := hw
      obtain ⟨hc10, hw⟩ := hw
      refine ok_icmp_eq (pc := 51) a 56 dX5_isOrder_51 (by decide) hc9 hc10 (fun hd11 => ?_) (fun hd11 => ?_)
      · have hw := hw.1 hd11
        refine ok_inc (pc := 56) a [some (vR 43), some (vI x1), some (vI (x2_20 + 1)), some (vI x3_9), some (vI x4_20), some (vI r7)] dX5_isOrder_56 rfl (by decide) rfl rfl ?_
        refine ok_inc (pc := 59) a [some (vR 43), some (vI x1), some (vI (x2_20 + 1)), some (vI x3_9), some (vI (x4_20 + 1)), some (vI r7)] dX5_isOrder_59 rfl (by decide) rfl rfl ?_
        refine ok_goto (pc := 62) a 20 dX5_isOrder_62 (by decide) ?_
        refine ok_forget 5 ?_
        exact hX20 ((x2_20 + 1), (x4_20 + 1)) hw
      · have hw := hw.2 hd11
        refine ok_iconst (pc := 54) a dX5_isOrder_54 ?_
        exact ok_zret (pc := 55) a dX5_isOrder_55 (Or.inl rfl) ⟨_, rfl, rfl, (Or.inl rfl), hw⟩

def wp_X5_countOrders_B2 (x1 : Int) (h : aH) (Q : Int → aH → Prop) (X2 : Int → Prop) (x2_2 : Int) : Prop :=
  inR x2_2 ∧ inR (h 43 3) ∧ (((h 43 3) ≤ x2_2 → wp_X5_isOrder x1 h (fun r3 h4 => Q (if r3 = 0 then 0 else 1 : Int) h4)) ∧ (¬ (h 43 3) ≤ x2_2 → wp_X8_foundOf x1 x2_2 h (fun r7 => inR r7 ∧ ((r7 = 0 → wp_X8_withFound x1 x2_2 1 h (fun r9 => wp_X5_ordersLeft r9 h (fun r10 => wp_X8_withFound x1 x2_2 2 h (fun r11 => wp_X5_ordersLeft r11 h (fun r12 => wp_X8_withFound x1 x2_2 3 h (fun r13 => wp_X5_ordersLeft r13 h (fun r14 => Q ((r10 + r12) + r14) h))))))) ∧ (¬ r7 = 0 → X2 (x2_2 + 1))))))
def wp_X5_countOrders (x1 : Int) (h : aH) (Q : Int → aH → Prop) : Prop :=
  lp (fun X y => wp_X5_countOrders_B2 x1 h Q X y) 0
set_option maxRecDepth 100000 in
set_option maxHeartbeats 4000000 in
theorem M_X5_countOrders {Γ : Gm} {l : Launch} {n : Nat} {g : aG} (hn : 59 ≤ n) (tg : TC g) (x1 : Int)  {h : aH} {Q : Int → aH → Prop} (hw : wp_X5_countOrders x1 h Q) : Cl Γ l mX5_countOrders [vR 43, vI x1] n g h (RI g Q) := by
  refine Cl.of (by decide) [some (vR 43), some (vI x1), none] rfl (Nat.le_of_ble_eq_true rfl) ?_
  intro p e s m args below meth c a
  unfold wp_X5_countOrders at hw
  refine ok_iconst (pc := 0) a dX5_countOrders_0 ?_
  refine ok_sI_n (pc := 1) a [some (vR 43), some (vI x1), some (vI 0)] dX5_countOrders_1 rfl (by decide) rfl rfl ?_
  refine lp.use (P := fun y => OK Γ p l e (rmd 3 n n) s m args below meth c n (MQ below (QQ Γ n (RI g Q)) args s (n - n) (sl n - sl n) (AA Γ)) 2 [some (vR 43), some (vI x1), some (vI y)] [] n g h) ?_ 0 hw
  clear hw
  intro X2 hX2 y hw
  generalize y = x2_2 at hw ⊢
  have hw : wp_X5_countOrders_B2 x1 h Q X2 x2_2 := hw
  unfold wp_X5_countOrders_B2 at hw
  try dsimp only
  refine ok_iload_n (pc := 2) a dX5_countOrders_2 rfl rfl ?_
  refine ok_aload_n (pc := 3) a dX5_countOrders_3 rfl rfl ?_
  refine ok_fI (pc := 4) 3 a dX5_countOrders_4 lfRX5_23 (Nat.lt_of_lt_of_le (by decide) hn) kq43 ty_5_3 rfl ?_
  obtain ⟨hc1, hw⟩ := hw
  obtain ⟨hc2, hw⟩ := hw
  refine ok_icmp_ge (pc := 7) a 57 dX5_countOrders_7 (by decide) hc1 hc2 (fun hd16 => ?_) (fun hd16 => ?_)
  · have hw := hw.1 hd16
    refine ok_aload_n (pc := 57) a dX5_countOrders_57 rfl rfl ?_
    refine ok_iload_n (pc := 58) a dX5_countOrders_58 rfl rfl ?_
    refine ok_VRZ (pc := 59) a [(vI x1)] [] (M_X5_isOrder hn tg x1  hw) dX5_countOrders_59 lkRX5_53 rfl (Nat.lt_of_lt_of_le (by decide) hn) kq43 (by decide) rfl ⟨Nat.le_of_ble_eq_true rfl, Nat.le_of_ble_eq_true rfl⟩ rfl (Nat.le_of_ble_eq_true rfl) rfl (fun r3 h4 hz5 hw => ?_)
    have hK : OK Γ p l e (rmd 3 n n) s m args below meth c n (MQ below (QQ Γ n (RI g Q)) args s (n - n) (sl n - sl n) (AA Γ)) 70 [some (vR 43), some (vI x1), some (vI x2_2)] [(vI (if r3 = 0 then 0 else 1 : Int))] n g h4 := by
      exact ok_iret (pc := 70) a dX5_countOrders_70 ⟨_, rfl, rfl, hw⟩
    refine ok_if_eq (pc := 62) a 69 dX5_countOrders_62 (by decide) (inR_b hz5) (fun hd6 => ?_) (fun hd6 => ?_)
    · refine ok_iconst (pc := 69) a dX5_countOrders_69 ?_
      simp only [if_pos hd6] at hK
      exact hK
    · refine ok_iconst (pc := 65) a dX5_countOrders_65 ?_
      refine ok_goto (pc := 66) a 70 dX5_countOrders_66 (by decide) ?_
      simp only [if_neg hd6] at hK
      exact hK
  · have hw := hw.2 hd16
    refine ok_iload_n (pc := 10) a dX5_countOrders_10 rfl rfl ?_
    refine ok_iload_n (pc := 11) a dX5_countOrders_11 rfl rfl ?_
    refine ok_SPI (pc := 12) a [(vI x1), (vI x2_2)] [] (M_X8_foundOf hn tg x1 x2_2  hw) dX5_countOrders_12 lkRX5_40 rfl ⟨Nat.le_of_ble_eq_true rfl, Nat.le_of_ble_eq_true rfl⟩ rfl (Nat.le_of_ble_eq_true rfl) rfl (fun r7 hw => ?_)
    obtain ⟨hc8, hw⟩ := hw
    refine ok_if_ne (pc := 15) a 51 dX5_countOrders_15 (by decide) hc8 (fun hd15 => ?_) (fun hd15 => ?_)
    · have hw := hw.2 hd15
      refine ok_inc (pc := 51) a [some (vR 43), some (vI x1), some (vI (x2_2 + 1))] dX5_countOrders_51 rfl (by decide) rfl rfl ?_
      refine ok_goto (pc := 54) a 2 dX5_countOrders_54 (by decide) ?_
      exact hX2 (x2_2 + 1) hw
    · have hw := hw.1 hd15
      refine ok_aload_n (pc := 18) a dX5_countOrders_18 rfl rfl ?_
      refine ok_iload_n (pc := 19) a dX5_countOrders_19 rfl rfl ?_
      refine ok_iload_n (pc := 20) a dX5_countOrders_20 rfl rfl ?_
      refine ok_iconst (pc := 21) a dX5_countOrders_21 ?_
      refine ok_SPI (pc := 22) a [(vI x1), (vI x2_2), (vI 1)] [(vR 43)] (M_X8_withFound hn tg x1 x2_2 1  hw) dX5_countOrders_22 lkRX5_46 rfl ⟨Nat.le_of_ble_eq_true rfl, Nat.le_of_ble_eq_true rfl⟩ rfl (Nat.le_of_ble_eq_true rfl) rfl (fun r9 hw => ?_)
      refine ok_VPI (pc := 25) a [(vI r9)] [] (M_X5_ordersLeft hn tg r9  hw) dX5_countOrders_25 lkRX5_50 rfl (Nat.lt_of_lt_of_le (by decide) hn) kq43 (by decide) rfl ⟨Nat.le_of_ble_eq_true rfl, Nat.le_of_ble_eq_true rfl⟩ rfl (Nat.le_of_ble_eq_true rfl) rfl (fun r10 hw => ?_)
      refine ok_aload_n (pc := 28) a dX5_countOrders_28 rfl rfl ?_
      refine ok_iload_n (pc := 29) a dX5_countOrders_29 rfl rfl ?_
      refine ok_iload_n (pc := 30) a dX5_countOrders_30 rfl rfl ?_
      refine ok_iconst (pc := 31) a dX5_countOrders_31 ?_
      refine ok_SPI (pc := 32) a [(vI x1), (vI x2_2), (vI 2)] [(vR 43), (vI r10)] (M_X8_withFound hn tg x1 x2_2 2  hw) dX5_countOrders_32 lkRX5_46 rfl ⟨Nat.le_of_ble_eq_true rfl, Nat.le_of_ble_eq_true rfl⟩ rfl (Nat.le_of_ble_eq_true rfl) rfl (fun r11 hw => ?_)
      refine ok_VPI (pc := 35) a [(vI r11)] [(vI r10)] (M_X5_ordersLeft hn tg r11  hw) dX5_countOrders_35 lkRX5_50 rfl (Nat.lt_of_lt_of_le (by decide) hn) kq43 (by decide) rfl ⟨Nat.le_of_ble_eq_true rfl, Nat.le_of_ble_eq_true rfl⟩ rfl (Nat.le_of_ble_eq_true rfl) rfl (fun r12 hw => ?_)
      refine ok_iadd (pc := 38) a dX5_countOrders_38 ?_
      refine ok_aload_n (pc := 39) a dX5_countOrders_39 rfl rfl ?_
      refine ok_iload_n (pc := 40) a dX5_countOrders_40 rfl rfl ?_
      refine ok_iload_n (pc := 41) a dX5_countOrders_41 rfl rfl ?_
      refine ok_iconst (pc := 42) a dX5_countOrders_42 ?_
      refine ok_SPI (pc := 43) a [(vI x1), (vI x2_2), (vI 3)] [(vR 43), (vI (r10 + r12))] (M_X8_withFound hn tg x1 x2_2 3  hw) dX5_countOrders_43 lkRX5_46 rfl ⟨Nat.le_of_ble_eq_true rfl, Nat.le_of_ble_eq_true rfl⟩ rfl (Nat.le_of_ble_eq_true rfl) rfl (fun r13 hw => ?_)
      refine ok_VPI (pc := 46) a [(vI r13)] [(vI (r10 + r12))] (M_X5_ordersLeft hn tg r13  hw) dX5_countOrders_46 lkRX5_50 rfl (Nat.lt_of_lt_of_le (by decide) hn) kq43 (by decide) rfl ⟨Nat.le_of_ble_eq_true rfl, Nat.le_of_ble_eq_true rfl⟩ rfl (Nat.le_of_ble_eq_true rfl) rfl (fun r14 hw => ?_)
      refine ok_iadd (pc := 49) a dX5_countOrders_49 ?_
      exact ok_iret (pc := 50) a dX5_countOrders_50 ⟨_, rfl, rfl, hw⟩

def wp_X5_worstOf (x1 : Int) (h : aH) (Q : Int → Prop) : Prop :=
  (0 ≤ x1 ∧ x1 < 4096) ∧ Q (band (h 44 x1) 7)
set_option maxRecDepth 100000 in
set_option maxHeartbeats 4000000 in
theorem M_X5_worstOf {Γ : Gm} {l : Launch} {n : Nat} {g : aG} (hn : 59 ≤ n) (tg : TC g) (x1 : Int)  {h : aH} {Q : Int → Prop} (hw : wp_X5_worstOf x1 h Q) : Cl Γ l mX5_worstOf [vR 43, vI x1] n g h (PI g h Q) := by
  refine Cl.of (by decide) [some (vR 43), some (vI x1)] rfl (Nat.le_of_ble_eq_true rfl) ?_
  intro p e s m args below meth c a
  unfold wp_X5_worstOf at hw
  refine ok_aload_n (pc := 0) a dX5_worstOf_0 rfl rfl ?_
  refine ok_getR (pc := 1) a dX5_worstOf_1 lfRX5_9 (Nat.lt_of_lt_of_le (by decide) hn) kq43 rfl (tg.at 43 0 44 (by decide) (by decide)) ?_
  refine ok_iload_n (pc := 4) a dX5_worstOf_4 rfl rfl ?_
  obtain ⟨hc1, hw⟩ := hw
  refine ok_sald (pc := 5) a dX5_worstOf_5 (Nat.lt_of_lt_of_le (by decide) hn) kq44 (by decide) hc1 ?_
  refine ok_bipush (pc := 6) a dX5_worstOf_6 (by decide) ?_
  refine ok_iand (pc := 8) a dX5_worstOf_8 ?_
  exact ok_iret (pc := 9) a dX5_worstOf_9 ⟨_, rfl, rfl, rfl, hw⟩

def wp_X5_worstBehind (x1 : Int) (x2 : Int) (h : aH) (Q : Int → Prop) : Prop :=
  wp_X8_withFound x1 x2 1 h (fun r1 => wp_X5_worstOf r1 h (fun r2 => wp_X8_withFound x1 x2 2 h (fun r3 => wp_X5_worstOf r3 h (fun r4 => wp_X8_withFound x1 x2 3 h (fun r5 => wp_X5_worstOf r5 h (fun r6 => inR r4 ∧ inR r6 ∧ inR r2 ∧ inR (max r4 r6) ∧ Q (max r2 (max r4 r6))))))))
set_option maxRecDepth 100000 in
set_option maxHeartbeats 4000000 in
theorem M_X5_worstBehind {Γ : Gm} {l : Launch} {n : Nat} {g : aG} (hn : 59 ≤ n) (tg : TC g) (x1 : Int) (x2 : Int)  {h : aH} {Q : Int → Prop} (hw : wp_X5_worstBehind x1 x2 h Q) : Cl Γ l mX5_worstBehind [vR 43, vI x1, vI x2] n g h (PI g h Q) := by
  refine Cl.of (by decide) [some (vR 43), some (vI x1), some (vI x2), none, none, none] rfl (Nat.le_of_ble_eq_true rfl) ?_
  intro p e s m args below meth c a
  unfold wp_X5_worstBehind at hw
  refine ok_aload_n (pc := 0) a dX5_worstBehind_0 rfl rfl ?_
  refine ok_iload_n (pc := 1) a dX5_worstBehind_1 rfl rfl ?_
  refine ok_iload_n (pc := 2) a dX5_worstBehind_2 rfl rfl ?_
  refine ok_iconst (pc := 3) a dX5_worstBehind_3 ?_
  refine ok_SPI (pc := 4) a [(vI x1), (vI x2), (vI 1)] [(vR 43)] (M_X8_withFound hn tg x1 x2 1  hw) dX5_worstBehind_4 lkRX5_46 rfl ⟨Nat.le_of_ble_eq_true rfl, Nat.le_of_ble_eq_true rfl⟩ rfl (Nat.le_of_ble_eq_true rfl) rfl (fun r1 hw => ?_)
  refine ok_VPI (pc := 7) a [(vI r1)] [] (M_X5_worstOf hn tg r1  hw) dX5_worstBehind_7 lkRX5_33 rfl (Nat.lt_of_lt_of_le (by decide) hn) kq43 (by decide) rfl ⟨Nat.le_of_ble_eq_true rfl, Nat.le_of_ble_eq_true rfl⟩ rfl (Nat.le_of_ble_eq_true rfl) rfl (fun r2 hw => ?_)
  refine ok_sI_n (pc := 10) a [some (vR 43), some (vI x1), some (vI x2), some (vI r2), none, none] dX5_worstBehind_10 rfl (by decide) rfl rfl ?_
  refine ok_aload_n (pc := 11) a dX5_worstBehind_11 rfl rfl ?_
  refine ok_iload_n (pc := 12) a dX5_worstBehind_12 rfl rfl ?_
  refine ok_iload_n (pc := 13) a dX5_worstBehind_13 rfl rfl ?_
  refine ok_iconst (pc := 14) a dX5_worstBehind_14 ?_
  refine ok_SPI (pc := 15) a [(vI x1), (vI x2), (vI 2)] [(vR 43)] (M_X8_withFound hn tg x1 x2 2  hw) dX5_worstBehind_15 lkRX5_46 rfl ⟨Nat.le_of_ble_eq_true rfl, Nat.le_of_ble_eq_true rfl⟩ rfl (Nat.le_of_ble_eq_true rfl) rfl (fun r3 hw => ?_)
  refine ok_VPI (pc := 18) a [(vI r3)] [] (M_X5_worstOf hn tg r3  hw) dX5_worstBehind_18 lkRX5_33 rfl (Nat.lt_of_lt_of_le (by decide) hn) kq43 (by decide) rfl ⟨Nat.le_of_ble_eq_true rfl, Nat.le_of_ble_eq_true rfl⟩ rfl (Nat.le_of_ble_eq_true rfl) rfl (fun r4 hw => ?_)
  refine ok_sI (pc := 21) a [some (vR 43), some (vI x1), some (vI x2), some (vI r2), some (vI r4), none] dX5_worstBehind_21 (by decide) rfl rfl ?_
  refine ok_aload_n (pc := 23) a dX5_worstBehind_23 rfl rfl ?_
  refine ok_iload_n (pc := 24) a dX5_worstBehind_24 rfl rfl ?_
  refine ok_iload_n (pc := 25) a dX5_worstBehind_25 rfl rfl ?_
  refine ok_iconst (pc := 26) a dX5_worstBehind_26 ?_
  refine ok_SPI (pc := 27) a [(vI x1), (vI x2), (vI 3)] [(vR 43)] (M_X8_withFound hn tg x1 x2 3  hw) dX5_worstBehind_27 lkRX5_46 rfl ⟨Nat.le_of_ble_eq_true rfl, Nat.le_of_ble_eq_true rfl⟩ rfl (Nat.le_of_ble_eq_true rfl) rfl (fun r5 hw => ?_)
  refine ok_VPI (pc := 30) a [(vI r5)] [] (M_X5_worstOf hn tg r5  hw) dX5_worstBehind_30 lkRX5_33 rfl (Nat.lt_of_lt_of_le (by decide) hn) kq43 (by decide) rfl ⟨Nat.le_of_ble_eq_true rfl, Nat.le_of_ble_eq_true rfl⟩ rfl (Nat.le_of_ble_eq_true rfl) rfl (fun r6 hw => ?_)
  refine ok_sI (pc := 33) a [some (vR 43), some (vI x1), some (vI x2), some (vI r2), some (vI r4), some (vI r6)] dX5_worstBehind_33 (by decide) rfl rfl ?_
  refine ok_iload_n (pc := 35) a dX5_worstBehind_35 rfl rfl ?_
  refine ok_iload (pc := 36) a dX5_worstBehind_36 rfl ?_
  refine ok_iload (pc := 38) a dX5_worstBehind_38 rfl ?_
  obtain ⟨hc7, hw⟩ := hw
  obtain ⟨hc8, hw⟩ := hw
  refine ok_mmax (pc := 40) (st := [(vI r2)]) a dX5_worstBehind_40 mmRX5_62 hc7 hc8 (Nat.le_of_ble_eq_true rfl) (Nat.le_of_ble_eq_true rfl) ?_
  obtain ⟨hc9, hw⟩ := hw
  obtain ⟨hc10, hw⟩ := hw
  refine ok_mmax (pc := 43) (st := []) a dX5_worstBehind_43 mmRX5_62 hc9 hc10 (Nat.le_of_ble_eq_true rfl) (Nat.le_of_ble_eq_true rfl) ?_
  exact ok_iret (pc := 46) a dX5_worstBehind_46 ⟨_, rfl, rfl, rfl, hw⟩

def wp_X5_leastBehind_J32 (X5 : Int × Int → Prop) (x3_5 : Int) (x2_32 : Int) : Prop :=
  X5 (x2_32, (x3_5 + 1))
def wp_X5_leastBehind_B5 (x1 : Int) (h : aH) (Q : Int → Prop) (X5 : Int × Int → Prop) (x2_5 : Int) (x3_5 : Int) : Prop :=
  inR x3_5 ∧ inR (h 43 3) ∧ (((h 43 3) ≤ x3_5 → Q x2_5) ∧ (¬ (h 43 3) ≤ x3_5 → wp_X8_foundOf x1 x3_5 h (fun r3 => inR r3 ∧ ((r3 = 0 → wp_X5_worstBehind x1 x3_5 h (fun r5 => inR x2_5 ∧ inR r5 ∧ ∀ x2_31, x2_31 = (min x2_5 r5) → wp_X5_leastBehind_J32 X5 x3_5 x2_31)) ∧ (¬ r3 = 0 → wp_X5_leastBehind_J32 X5 x3_5 x2_5)))))
def wp_X5_leastBehind (x1 : Int) (h : aH) (Q : Int → Prop) : Prop :=
  lp (fun X y => wp_X5_leastBehind_B5 x1 h Q X y.1 y.2) (7, 0)
set_option maxRecDepth 100000 in
set_option maxHeartbeats 4000000 in
theorem M_X5_leastBehind {Γ : Gm} {l : Launch} {n : Nat} {g : aG} (hn : 59 ≤ n) (tg : TC g) (x1 : Int)  {h : aH} {Q : Int → Prop} (hw : wp_X5_leastBehind x1 h Q) : Cl Γ l mX5_leastBehind [vR 43, vI x1] n g h (PI g h Q) := by
  refine Cl.of (by decide) [some (vR 43), some (vI x1), none, none] rfl (Nat.le_of_ble_eq_true rfl) ?_
  intro p e s m args below meth c a
  unfold wp_X5_leastBehind at hw
  refine ok_bipush (pc := 0) a dX5_leastBehind_0 (by decide) ?_
  refine ok_sI_n (pc := 2) a [some (vR 43), some (vI x1), some (vI 7), none] dX5_leastBehind_2 rfl (by decide) rfl rfl ?_
  refine ok_iconst (pc := 3) a dX5_leastBehind_3 ?_
  refine ok_sI_n (pc := 4) a [some (vR 43), some (vI x1), some (vI 7), some (vI 0)] dX5_leastBehind_4 rfl (by decide) rfl rfl ?_
  refine lp.use (P := fun y => OK Γ p l e (rmd 2 n n) s m args below meth c n (MQ below (QQ Γ n (PI g h Q)) args s (n - n) (sl n - sl n) (AA Γ)) 5 [some (vR 43), some (vI x1), some (vI y.1), some (vI y.2)] [] n g h) ?_ (7, 0) hw
  clear hw
  intro X5 hX5 y hw
  obtain ⟨x2_5, x3_5⟩ := y
  have hw : wp_X5_leastBehind_B5 x1 h Q X5 x2_5 x3_5 := hw
  unfold wp_X5_leastBehind_B5 at hw
  try dsimp only
  refine ok_iload_n (pc := 5) a dX5_leastBehind_5 rfl rfl ?_
  refine ok_aload_n (pc := 6) a dX5_leastBehind_6 rfl rfl ?_
  refine ok_fI (pc := 7) 3 a dX5_leastBehind_7 lfRX5_23 (Nat.lt_of_lt_of_le (by decide) hn) kq43 ty_5_3 rfl ?_
  obtain ⟨hc1, hw⟩ := hw
  obtain ⟨hc2, hw⟩ := hw
  refine ok_icmp_ge (pc := 10) a 38 dX5_leastBehind_10 (by decide) hc1 hc2 (fun hd9 => ?_) (fun hd9 => ?_)
  · have hw := hw.1 hd9
    refine ok_iload_n (pc := 38) a dX5_leastBehind_38 rfl rfl ?_
    exact ok_iret (pc := 39) a dX5_leastBehind_39 ⟨_, rfl, rfl, rfl, hw⟩
  · have hw := hw.2 hd9
    refine ok_iload_n (pc := 13) a dX5_leastBehind_13 rfl rfl ?_
    refine ok_iload_n (pc := 14) a dX5_leastBehind_14 rfl rfl ?_
    refine ok_SPI (pc := 15) a [(vI x1), (vI x3_5)] [] (M_X8_foundOf hn tg x1 x3_5  hw) dX5_leastBehind_15 lkRX5_40 rfl ⟨Nat.le_of_ble_eq_true rfl, Nat.le_of_ble_eq_true rfl⟩ rfl (Nat.le_of_ble_eq_true rfl) rfl (fun r3 hw => ?_)
    obtain ⟨hc4, hw⟩ := hw
    have hJ32 : ∀ (x2_32 : Int), wp_X5_leastBehind_J32 X5 x3_5 x2_32 → OK Γ p l e (rmd 2 n n) s m args below meth c n (MQ below (QQ Γ n (PI g h Q)) args s (n - n) (sl n - sl n) (AA Γ)) 32 [some (vR 43), some (vI x1), some (vI x2_32), some (vI x3_5)] [] n g h := by
      intro x2_32 hw
      unfold wp_X5_leastBehind_J32 at hw
      refine ok_inc (pc := 32) a [some (vR 43), some (vI x1), some (vI x2_32), some (vI (x3_5 + 1))] dX5_leastBehind_32 rfl (by decide) rfl rfl ?_
      refine ok_goto (pc := 35) a 5 dX5_leastBehind_35 (by decide) ?_
      exact hX5 (x2_32, (x3_5 + 1)) hw
    refine ok_if_ne (pc := 18) a 32 dX5_leastBehind_18 (by decide) hc4 (fun hd8 => ?_) (fun hd8 => ?_)
    · have hw := hw.2 hd8
      exact hJ32 x2_5 hw
    · have hw := hw.1 hd8
      refine ok_iload_n (pc := 21) a dX5_leastBehind_21 rfl rfl ?_
      refine ok_aload_n (pc := 22) a dX5_leastBehind_22 rfl rfl ?_
      refine ok_iload_n (pc := 23) a dX5_leastBehind_23 rfl rfl ?_
      refine ok_iload_n (pc := 24) a dX5_leastBehind_24 rfl rfl ?_
      refine ok_VPI (pc := 25) a [(vI x1), (vI x3_5)] [(vI x2_5)] (M_X5_worstBehind hn tg x1 x3_5  hw) dX5_leastBehind_25 lkRX5_43 rfl (Nat.lt_of_lt_of_le (by decide) hn) kq43 (by decide) rfl ⟨Nat.le_of_ble_eq_true rfl, Nat.le_of_ble_eq_true rfl⟩ rfl (Nat.le_of_ble_eq_true rfl) rfl (fun r5 hw => ?_)
      obtain ⟨hc6, hw⟩ := hw
      obtain ⟨hc7, hw⟩ := hw
      refine ok_mmin (pc := 28) (st := []) a dX5_leastBehind_28 mmRX5_57 hc6 hc7 (Nat.le_of_ble_eq_true rfl) (Nat.le_of_ble_eq_true rfl) ?_
      refine ok_nmI (fun x2_31 ex2_31 => ?_)
      have hw := hw x2_31 ex2_31
      refine ok_sI_n (pc := 31) a [some (vR 43), some (vI x1), some (vI x2_31), some (vI x3_5)] dX5_leastBehind_31 rfl (by decide) rfl rfl ?_
      exact hJ32 x2_31 hw

def wp_X5_prepare_J62 (X36 : Int × aH → Prop) (x2_36 : Int) (r7 : Int) (h8 : aH) (s0_62 : Int) : Prop :=
  (0 ≤ (bor (bshl r7 3) s0_62) ∧ (bor (bshl r7 3) s0_62) < 32768) ∧ (0 ≤ x2_36 ∧ x2_36 < 4096) ∧ ∀ h12, h12 = up h8 44 x2_36 (bor (bshl r7 3) s0_62) → X36 ((x2_36 + (-1)), h12)
def wp_X5_prepare_B36 (Q : aH → Prop) (X36 : Int × aH → Prop) (x2_36 : Int) (h_36 : aH) : Prop :=
  inR x2_36 ∧ ((x2_36 < 0 → Q h_36) ∧ (¬ x2_36 < 0 → wp_X5_countOrders x2_36 h_36 (fun r7 h8 => inR r7 ∧ ((1 < r7 → wp_X5_leastBehind x2_36 h8 (fun r13 => wp_X5_prepare_J62 X36 x2_36 r7 h8 (1 + r13))) ∧ (¬ 1 < r7 → wp_X5_prepare_J62 X36 x2_36 r7 h8 0)))))
def wp_X5_prepare (x1 : Int) (h : aH) (Q : aH → Prop) : Prop :=
  inR (h 43 2) ∧ inR x1 ∧ (((h 43 2) = x1 → Q h) ∧ (¬ (h 43 2) = x1 → ∀ h3, h3 = up h 43 2 x1 → (0 ≤ (x1 * (x1 - 1)) ∧ (x1 * (x1 - 1)) < 2147483648) ∧ ∀ h5, h5 = up h3 43 3 ((x1 * (x1 - 1)) / 2) → ∀ x2_35, x2_35 = ((bshl 1 (2 * (h5 43 3))) - 1) → lp (fun X y => wp_X5_prepare_B36 Q X y.1 y.2) (x2_35, h5)))
set_option maxRecDepth 100000 in
set_option maxHeartbeats 4000000 in
theorem M_X5_prepare {Γ : Gm} {l : Launch} {n : Nat} {g : aG} (hn : 59 ≤ n) (tg : TC g) (x1 : Int)  {h : aH} {Q : aH → Prop} (hw : wp_X5_prepare x1 h Q) : Cl Γ l mX5_prepare [vR 43, vI x1] n g h (RV g Q) := by
  refine Cl.of (by decide) [some (vR 43), some (vI x1), none, none, none] rfl (Nat.le_of_ble_eq_true rfl) ?_
  intro p e s m args below meth c a
  unfold wp_X5_prepare at hw
  refine ok_aload_n (pc := 0) a dX5_prepare_0 rfl rfl ?_
  refine ok_fI (pc := 1) 2 a dX5_prepare_1 lfRX5_19 (Nat.lt_of_lt_of_le (by decide) hn) kq43 ty_5_2 rfl ?_
  refine ok_iload_n (pc := 4) a dX5_prepare_4 rfl rfl ?_
  obtain ⟨hc1, hw⟩ := hw
  obtain ⟨hc2, hw⟩ := hw
  refine ok_icmp_ne (pc := 5) a 9 dX5_prepare_5 (by decide) hc1 hc2 (fun hd16 => ?_) (fun hd16 => ?_)
  · have hw := hw.2 hd16
    refine ok_aload_n (pc := 9) a dX5_prepare_9 rfl rfl ?_
    refine ok_iload_n (pc := 10) a dX5_prepare_10 rfl rfl ?_
    refine ok_pI (pc := 11) 2 a dX5_prepare_11 lfRX5_19 fi_5_2 (Nat.lt_of_lt_of_le (by decide) hn) kq43 ty_5_2 rfl (fun h3 eh3 => ?_)
    have hw := hw h3 eh3
    refine ok_aload_n (pc := 14) a dX5_prepare_14 rfl rfl ?_
    refine ok_iload_n (pc := 15) a dX5_prepare_15 rfl rfl ?_
    refine ok_iload_n (pc := 16) a dX5_prepare_16 rfl rfl ?_
    refine ok_iconst (pc := 17) a dX5_prepare_17 ?_
    refine ok_isub (pc := 18) a dX5_prepare_18 ?_
    refine ok_imul (pc := 19) a dX5_prepare_19 ?_
    refine ok_iconst (pc := 20) a dX5_prepare_20 ?_
    obtain ⟨hc4, hw⟩ := hw
    refine ok_idiv (pc := 21) a dX5_prepare_21 ⟨hc4, by decide, by decide⟩ ?_
    refine ok_pI (pc := 22) 3 a dX5_prepare_22 lfRX5_23 fi_5_3 (Nat.lt_of_lt_of_le (by decide) hn) kq43 ty_5_3 rfl (fun h5 eh5 => ?_)
    have hw := hw h5 eh5
    refine ok_iconst (pc := 25) a dX5_prepare_25 ?_
    refine ok_iconst (pc := 26) a dX5_prepare_26 ?_
    refine ok_aload_n (pc := 27) a dX5_prepare_27 rfl rfl ?_
    refine ok_fI (pc := 28) 3 a dX5_prepare_28 lfRX5_23 (Nat.lt_of_lt_of_le (by decide) hn) kq43 ty_5_3 rfl ?_
    refine ok_imul (pc := 31) a dX5_prepare_31 ?_
    refine ok_ishl (pc := 32) a dX5_prepare_32 ?_
    refine ok_iconst (pc := 33) a dX5_prepare_33 ?_
    refine ok_isub (pc := 34) a dX5_prepare_34 ?_
    refine ok_nmI (fun x2_35 ex2_35 => ?_)
    have hw := hw x2_35 ex2_35
    refine ok_sI_n (pc := 35) a [some (vR 43), some (vI x1), some (vI x2_35), none, none] dX5_prepare_35 rfl (by decide) rfl rfl ?_
    refine lp.use (P := fun y => OK Γ p l e (rmd 4 n n) s m args below meth c n (MQ below (QQ Γ n (RV g Q)) args s (n - n) (sl n - sl n) (AA Γ)) 36 [some (vR 43), some (vI x1), some (vI y.1), none, none] [] n g y.2) ?_ (x2_35, h5) hw
    clear hw
    intro X36 hX36 y hw
    obtain ⟨x2_36, h_36⟩ := y
    have hw : wp_X5_prepare_B36 Q X36 x2_36 h_36 := hw
    unfold wp_X5_prepare_B36 at hw
    try dsimp only
    refine ok_iload_n (pc := 36) a dX5_prepare_36 rfl rfl ?_
    obtain ⟨hc6, hw⟩ := hw
    refine ok_if_lt (pc := 37) a 83 dX5_prepare_37 (by decide) hc6 (fun hd15 => ?_) (fun hd15 => ?_)
    · have hw := hw.1 hd15
      exact ok_vret (pc := 83) a dX5_prepare_83 ⟨rfl, rfl, hw⟩
    · have hw := hw.2 hd15
      refine ok_aload_n (pc := 40) a dX5_prepare_40 rfl rfl ?_
      refine ok_iload_n (pc := 41) a dX5_prepare_41 rfl rfl ?_
      refine ok_VRI (pc := 42) a [(vI x2_36)] [] (M_X5_countOrders hn tg x2_36  hw) dX5_prepare_42 lkRX5_26 rfl (Nat.lt_of_lt_of_le (by decide) hn) kq43 (by decide) rfl ⟨Nat.le_of_ble_eq_true rfl, Nat.le_of_ble_eq_true rfl⟩ rfl (Nat.le_of_ble_eq_true rfl) rfl (fun r7 h8 hw => ?_)
      refine ok_sI_n (pc := 45) a [some (vR 43), some (vI x1), some (vI x2_36), some (vI r7), none] dX5_prepare_45 rfl (by decide) rfl rfl ?_
      refine ok_iload_n (pc := 46) a dX5_prepare_46 rfl rfl ?_
      refine ok_iconst (pc := 47) a dX5_prepare_47 ?_
      obtain ⟨hc9, hw⟩ := hw
      have hJ62 : ∀ (s0_62 : Int), wp_X5_prepare_J62 X36 x2_36 r7 h8 s0_62 → OK Γ p l e (rmd 4 n n) s m args below meth c n (MQ below (QQ Γ n (RV g Q)) args s (n - n) (sl n - sl n) (AA Γ)) 62 [some (vR 43), some (vI x1), some (vI x2_36), some (vI r7), none] [(vI s0_62)] n g h8 := by
        intro s0_62 hw
        unfold wp_X5_prepare_J62 at hw
        refine ok_sI (pc := 62) a [some (vR 43), some (vI x1), some (vI x2_36), some (vI r7), some (vI s0_62)] dX5_prepare_62 (by decide) rfl rfl ?_
        refine ok_aload_n (pc := 64) a dX5_prepare_64 rfl rfl ?_
        refine ok_getR (pc := 65) a dX5_prepare_65 lfRX5_9 (Nat.lt_of_lt_of_le (by decide) hn) kq43 rfl (tg.at 43 0 44 (by decide) (by decide)) ?_
        refine ok_iload_n (pc := 68) a dX5_prepare_68 rfl rfl ?_
        refine ok_iload_n (pc := 69) a dX5_prepare_69 rfl rfl ?_
        refine ok_iconst (pc := 70) a dX5_prepare_70 ?_
        refine ok_ishl (pc := 71) a dX5_prepare_71 ?_
        refine ok_iload (pc := 72) a dX5_prepare_72 rfl ?_
        refine ok_ior (pc := 74) a dX5_prepare_74 ?_
        obtain ⟨hc10, hw⟩ := hw
        refine ok_i2s (pc := 75) a dX5_prepare_75 hc10 ?_
        obtain ⟨hc11, hw⟩ := hw
        refine ok_sast (pc := 76) a dX5_prepare_76 (Nat.lt_of_lt_of_le (by decide) hn) kq44 (by decide) hc11 hc10 (ok_nmH (fun h12 eh12 => ?_))
        have hw := hw h12 eh12
        refine ok_inc (pc := 77) a [some (vR 43), some (vI x1), some (vI (x2_36 + (-1))), some (vI r7), some (vI s0_62)] dX5_prepare_77 rfl (by decide) rfl rfl ?_
        refine ok_goto (pc := 80) a 36 dX5_prepare_80 (by decide) ?_
        refine ok_forget 3 ?_
        refine ok_forget 4 ?_
        exact hX36 ((x2_36 + (-1)), h12) hw
      refine ok_icmp_gt (pc := 48) a 55 dX5_prepare_48 (by decide) hc9 ⟨by decide, by decide⟩ (fun hd14 => ?_) (fun hd14 => ?_)
      · have hw := hw.1 hd14
        refine ok_iconst (pc := 55) a dX5_prepare_55 ?_
        refine ok_aload_n (pc := 56) a dX5_prepare_56 rfl rfl ?_
        refine ok_iload_n (pc := 57) a dX5_prepare_57 rfl rfl ?_
        refine ok_VPI (pc := 58) a [(vI x2_36)] [(vI 1)] (M_X5_leastBehind hn tg x2_36  hw) dX5_prepare_58 lkRX5_30 rfl (Nat.lt_of_lt_of_le (by decide) hn) kq43 (by decide) rfl ⟨Nat.le_of_ble_eq_true rfl, Nat.le_of_ble_eq_true rfl⟩ rfl (Nat.le_of_ble_eq_true rfl) rfl (fun r13 hw => ?_)
        refine ok_iadd (pc := 61) a dX5_prepare_61 ?_
        exact hJ62 (1 + r13) hw
      · have hw := hw.2 hd14
        refine ok_iconst (pc := 51) a dX5_prepare_51 ?_
        refine ok_goto (pc := 52) a 62 dX5_prepare_52 (by decide) ?_
        exact hJ62 0 hw
  · have hw := hw.1 hd16
    exact ok_vret (pc := 8) a dX5_prepare_8 ⟨rfl, rfl, hw⟩

def wp_X8_pairOf (x0 : Int) (x1 : Int) (h : aH) (Q : Int → Prop) : Prop :=
  inR x0 ∧ inR x1 ∧ ∀ x2_5, x2_5 = (min x0 x1) → ∀ x3_11, x3_11 = (max x0 x1) → (0 ≤ (x3_11 * (x3_11 - 1)) ∧ (x3_11 * (x3_11 - 1)) < 2147483648) ∧ Q (((x3_11 * (x3_11 - 1)) / 2) + x2_5)
set_option maxRecDepth 100000 in
set_option maxHeartbeats 4000000 in
theorem M_X8_pairOf {Γ : Gm} {l : Launch} {n : Nat} {g : aG} (hn : 59 ≤ n) (tg : TC g) (x0 : Int) (x1 : Int)  {h : aH} {Q : Int → Prop} (hw : wp_X8_pairOf x0 x1 h Q) : Cl Γ l mX8_pairOf [vI x0, vI x1] n g h (PI g h Q) := by
  refine Cl.of (by decide) [some (vI x0), some (vI x1), none, none] rfl (Nat.le_of_ble_eq_true rfl) ?_
  intro p e s m args below meth c a
  unfold wp_X8_pairOf at hw
  refine ok_iload_n (pc := 0) a dX8_pairOf_0 rfl rfl ?_
  refine ok_iload_n (pc := 1) a dX8_pairOf_1 rfl rfl ?_
  obtain ⟨hc1, hw⟩ := hw
  obtain ⟨hc2, hw⟩ := hw
  refine ok_mmin (pc := 2) (st := []) a dX8_pairOf_2 mmRX8_307 hc1 hc2 (Nat.le_of_ble_eq_true rfl) (Nat.le_of_ble_eq_true rfl) ?_
  refine ok_nmI (fun x2_5 ex2_5 => ?_)
  have hw := hw x2_5 ex2_5
  refine ok_sI_n (pc := 5) a [some (vI x0), some (vI x1), some (vI x2_5), none] dX8_pairOf_5 rfl (by decide) rfl rfl ?_
  refine ok_iload_n (pc := 6) a dX8_pairOf_6 rfl rfl ?_
  refine ok_iload_n (pc := 7) a dX8_pairOf_7 rfl rfl ?_
  refine ok_mmax (pc := 8) (st := []) a dX8_pairOf_8 mmRX8_312 hc1 hc2 (Nat.le_of_ble_eq_true rfl) (Nat.le_of_ble_eq_true rfl) ?_
  refine ok_nmI (fun x3_11 ex3_11 => ?_)
  have hw := hw x3_11 ex3_11
  refine ok_sI_n (pc := 11) a [some (vI x0), some (vI x1), some (vI x2_5), some (vI x3_11)] dX8_pairOf_11 rfl (by decide) rfl rfl ?_
  refine ok_iload_n (pc := 12) a dX8_pairOf_12 rfl rfl ?_
  refine ok_iload_n (pc := 13) a dX8_pairOf_13 rfl rfl ?_
  refine ok_iconst (pc := 14) a dX8_pairOf_14 ?_
  refine ok_isub (pc := 15) a dX8_pairOf_15 ?_
  refine ok_imul (pc := 16) a dX8_pairOf_16 ?_
  refine ok_iconst (pc := 17) a dX8_pairOf_17 ?_
  obtain ⟨hc3, hw⟩ := hw
  refine ok_idiv (pc := 18) a dX8_pairOf_18 ⟨hc3, by decide, by decide⟩ ?_
  refine ok_iload_n (pc := 19) a dX8_pairOf_19 rfl rfl ?_
  refine ok_iadd (pc := 20) a dX8_pairOf_20 ?_
  exact ok_iret (pc := 21) a dX8_pairOf_21 ⟨_, rfl, rfl, rfl, hw⟩

def wp_X5_nextPair_J75 (X28 : Int → Prop) (x4_28 : Int)  : Prop :=
  X28 (x4_28 + 1)
def wp_X5_nextPair_B28 (x1 : Int) (h : aH) (Q : Int → Prop) (r1 : Int) (X15 : Int → Prop) (x3_15 : Int) (X28 : Int → Prop) (x4_28 : Int) : Prop :=
  inR x4_28 ∧ (((h 43 2) ≤ x4_28 → X15 (x3_15 + 1)) ∧ (¬ (h 43 2) ≤ x4_28 → wp_X8_pairOf x3_15 x4_28 h (fun r6 => wp_X8_foundOf x1 r6 h (fun r7 => inR r7 ∧ ((r7 = 0 → wp_X5_worstBehind x1 r6 h (fun r9 => inR r9 ∧ inR (r1 - 1) ∧ ((r9 = (r1 - 1) → Q ((10 * x3_15) + x4_28)) ∧ (¬ r9 = (r1 - 1) → wp_X5_nextPair_J75 X28 x4_28 )))) ∧ (¬ r7 = 0 → wp_X5_nextPair_J75 X28 x4_28 ))))))
def wp_X5_nextPair_B15 (x1 : Int) (h : aH) (Q : Int → Prop) (r1 : Int) (X15 : Int → Prop) (x3_15 : Int) : Prop :=
  inR x3_15 ∧ inR (h 43 2) ∧ (((h 43 2) ≤ x3_15 → Q (-9)) ∧ (¬ (h 43 2) ≤ x3_15 → ∀ x4_26, x4_26 = (x3_15 + 1) → lp (fun X y => wp_X5_nextPair_B28 x1 h Q r1 X15 x3_15 X y) x4_26))
def wp_X5_nextPair (x1 : Int) (h : aH) (Q : Int → Prop) : Prop :=
  wp_X5_worstOf x1 h (fun r1 => inR r1 ∧ ((r1 = 0 → Q (-9)) ∧ (¬ r1 = 0 → lp (fun X y => wp_X5_nextPair_B15 x1 h Q r1 X y) 0)))
set_option maxRecDepth 100000 in
set_option maxHeartbeats 4000000 in
theorem M_X5_nextPair {Γ : Gm} {l : Launch} {n : Nat} {g : aG} (hn : 59 ≤ n) (tg : TC g) (x1 : Int)  {h : aH} {Q : Int → Prop} (hw : wp_X5_nextPair x1 h Q) : Cl Γ l mX5_nextPair [vR 43, vI x1] n g h (PI g h Q) := by
  refine Cl.of (by decide) [some (vR 43), some (vI x1), none, none, none, none] rfl (Nat.le_of_ble_eq_true rfl) ?_
  intro p e s m args below meth c a
  unfold wp_X5_nextPair at hw
  refine ok_aload_n (pc := 0) a dX5_nextPair_0 rfl rfl ?_
  refine ok_iload_n (pc := 1) a dX5_nextPair_1 rfl rfl ?_
  refine ok_VPI (pc := 2) a [(vI x1)] [] (M_X5_worstOf hn tg x1  hw) dX5_nextPair_2 lkRX5_33 rfl (Nat.lt_of_lt_of_le (by decide) hn) kq43 (by decide) rfl ⟨Nat.le_of_ble_eq_true rfl, Nat.le_of_ble_eq_true rfl⟩ rfl (Nat.le_of_ble_eq_true rfl) rfl (fun r1 hw => ?_)
  refine ok_sI_n (pc := 5) a [some (vR 43), some (vI x1), some (vI r1), none, none, none] dX5_nextPair_5 rfl (by decide) rfl rfl ?_
  refine ok_iload_n (pc := 6) a dX5_nextPair_6 rfl rfl ?_
  obtain ⟨hc2, hw⟩ := hw
  refine ok_if_ne (pc := 7) a 13 dX5_nextPair_7 (by decide) hc2 (fun hd16 => ?_) (fun hd16 => ?_)
  · have hw := hw.2 hd16
    refine ok_iconst (pc := 13) a dX5_nextPair_13 ?_
    refine ok_sI_n (pc := 14) a [some (vR 43), some (vI x1), some (vI r1), some (vI 0), none, none] dX5_nextPair_14 rfl (by decide) rfl rfl ?_
    refine lp.use (P := fun y => OK Γ p l e (rmd 2 n n) s m args below meth c n (MQ below (QQ Γ n (PI g h Q)) args s (n - n) (sl n - sl n) (AA Γ)) 15 [some (vR 43), some (vI x1), some (vI r1), some (vI y), none, none] [] n g h) ?_ 0 hw
    clear hw
    intro X15 hX15 y hw
    generalize y = x3_15 at hw ⊢
    have hw : wp_X5_nextPair_B15 x1 h Q r1 X15 x3_15 := hw
    unfold wp_X5_nextPair_B15 at hw
    try dsimp only
    refine ok_iload_n (pc := 15) a dX5_nextPair_15 rfl rfl ?_
    refine ok_aload_n (pc := 16) a dX5_nextPair_16 rfl rfl ?_
    refine ok_fI (pc := 17) 2 a dX5_nextPair_17 lfRX5_19 (Nat.lt_of_lt_of_le (by decide) hn) kq43 ty_5_2 rfl ?_
    obtain ⟨hc3, hw⟩ := hw
    obtain ⟨hc4, hw⟩ := hw
    refine ok_icmp_ge (pc := 20) a 87 dX5_nextPair_20 (by decide) hc3 hc4 (fun hd15 => ?_) (fun hd15 => ?_)
    · have hw := hw.1 hd15
      refine ok_bipush (pc := 87) a dX5_nextPair_87 (by decide) ?_
      exact ok_iret (pc := 89) a dX5_nextPair_89 ⟨_, rfl, rfl, rfl, hw⟩
    · have hw := hw.2 hd15
      refine ok_iload_n (pc := 23) a dX5_nextPair_23 rfl rfl ?_
      refine ok_iconst (pc := 24) a dX5_nextPair_24 ?_
      refine ok_iadd (pc := 25) a dX5_nextPair_25 ?_
      refine ok_nmI (fun x4_26 ex4_26 => ?_)
      have hw := hw x4_26 ex4_26
      refine ok_sI (pc := 26) a [some (vR 43), some (vI x1), some (vI r1), some (vI x3_15), some (vI x4_26), none] dX5_nextPair_26 (by decide) rfl rfl ?_
      refine lp.use (P := fun y => OK Γ p l e (rmd 2 n n) s m args below meth c n (MQ below (QQ Γ n (PI g h Q)) args s (n - n) (sl n - sl n) (AA Γ)) 28 [some (vR 43), some (vI x1), some (vI r1), some (vI x3_15), some (vI y), none] [] n g h) ?_ x4_26 hw
      clear hw
      intro X28 hX28 y hw
      generalize y = x4_28 at hw ⊢
      have hw : wp_X5_nextPair_B28 x1 h Q r1 X15 x3_15 X28 x4_28 := hw
      unfold wp_X5_nextPair_B28 at hw
      try dsimp only
      refine ok_iload (pc := 28) a dX5_nextPair_28 rfl ?_
      refine ok_aload_n (pc := 30) a dX5_nextPair_30 rfl rfl ?_
      refine ok_fI (pc := 31) 2 a dX5_nextPair_31 lfRX5_19 (Nat.lt_of_lt_of_le (by decide) hn) kq43 ty_5_2 rfl ?_
      obtain ⟨hc5, hw⟩ := hw
      refine ok_icmp_ge (pc := 34) a 81 dX5_nextPair_34 (by decide) hc5 hc4 (fun hd14 => ?_) (fun hd14 => ?_)
      · have hw := hw.1 hd14
        refine ok_inc (pc := 81) a [some (vR 43), some (vI x1), some (vI r1), some (vI (x3_15 + 1)), some (vI x4_28), none] dX5_nextPair_81 rfl (by decide) rfl rfl ?_
        refine ok_goto (pc := 84) a 15 dX5_nextPair_84 (by decide) ?_
        refine ok_forget 4 ?_
        exact hX15 (x3_15 + 1) hw
      · have hw := hw.2 hd14
        refine ok_iload_n (pc := 37) a dX5_nextPair_37 rfl rfl ?_
        refine ok_iload (pc := 38) a dX5_nextPair_38 rfl ?_
        refine ok_SPI (pc := 40) a [(vI x3_15), (vI x4_28)] [] (M_X8_pairOf hn tg x3_15 x4_28  hw) dX5_nextPair_40 lkRX5_36 rfl ⟨Nat.le_of_ble_eq_true rfl, Nat.le_of_ble_eq_true rfl⟩ rfl (Nat.le_of_ble_eq_true rfl) rfl (fun r6 hw => ?_)
        refine ok_sI (pc := 43) a [some (vR 43), some (vI x1), some (vI r1), some (vI x3_15), some (vI x4_28), some (vI r6)] dX5_nextPair_43 (by decide) rfl rfl ?_
        refine ok_iload_n (pc := 45) a dX5_nextPair_45 rfl rfl ?_
        refine ok_iload (pc := 46) a dX5_nextPair_46 rfl ?_
        refine ok_SPI (pc := 48) a [(vI x1), (vI r6)] [] (M_X8_foundOf hn tg x1 r6  hw) dX5_nextPair_48 lkRX5_40 rfl ⟨Nat.le_of_ble_eq_true rfl, Nat.le_of_ble_eq_true rfl⟩ rfl (Nat.le_of_ble_eq_true rfl) rfl (fun r7 hw => ?_)
        obtain ⟨hc8, hw⟩ := hw
        have hJ75 : wp_X5_nextPair_J75 X28 x4_28  → OK Γ p l e (rmd 2 n n) s m args below meth c n (MQ below (QQ Γ n (PI g h Q)) args s (n - n) (sl n - sl n) (AA Γ)) 75 [some (vR 43), some (vI x1), some (vI r1), some (vI x3_15), some (vI x4_28), some (vI r6)] [] n g h := by
          intro  hw
          unfold wp_X5_nextPair_J75 at hw
          refine ok_inc (pc := 75) a [some (vR 43), some (vI x1), some (vI r1), some (vI x3_15), some (vI (x4_28 + 1)), some (vI r6)] dX5_nextPair_75 rfl (by decide) rfl rfl ?_
          refine ok_goto (pc := 78) a 28 dX5_nextPair_78 (by decide) ?_
          refine ok_forget 5 ?_
          exact hX28 (x4_28 + 1) hw
        refine ok_if_ne (pc := 51) a 75 dX5_nextPair_51 (by decide) hc8 (fun hd13 => ?_) (fun hd13 => ?_)
        · have hw := hw.2 hd13
          exact hJ75  hw
        · have hw := hw.1 hd13
          refine ok_aload_n (pc := 54) a dX5_nextPair_54 rfl rfl ?_
          refine ok_iload_n (pc := 55) a dX5_nextPair_55 rfl rfl ?_
          refine ok_iload (pc := 56) a dX5_nextPair_56 rfl ?_
          refine ok_VPI (pc := 58) a [(vI x1), (vI r6)] [] (M_X5_worstBehind hn tg x1 r6  hw) dX5_nextPair_58 lkRX5_43 rfl (Nat.lt_of_lt_of_le (by decide) hn) kq43 (by decide) rfl ⟨Nat.le_of_ble_eq_true rfl, Nat.le_of_ble_eq_true rfl⟩ rfl (Nat.le_of_ble_eq_true rfl) rfl (fun r9 hw => ?_)
          refine ok_iload_n (pc := 61) a dX5_nextPair_61 rfl rfl ?_
          refine ok_iconst (pc := 62) a dX5_nextPair_62 ?_
          refine ok_isub (pc := 63) a dX5_nextPair_63 ?_
          obtain ⟨hc10, hw⟩ := hw
          obtain ⟨hc11, hw⟩ := hw
          refine ok_icmp_ne (pc := 64) a 75 dX5_nextPair_64 (by decide) hc10 hc11 (fun hd12 => ?_) (fun hd12 => ?_)
          · have hw := hw.2 hd12
            exact hJ75  hw
          · have hw := hw.1 hd12
            refine ok_bipush (pc := 67) a dX5_nextPair_67 (by decide) ?_
            refine ok_iload_n (pc := 69) a dX5_nextPair_69 rfl rfl ?_
            refine ok_imul (pc := 70) a dX5_nextPair_70 ?_
            refine ok_iload (pc := 71) a dX5_nextPair_71 rfl ?_
            refine ok_iadd (pc := 73) a dX5_nextPair_73 ?_
            exact ok_iret (pc := 74) a dX5_nextPair_74 ⟨_, rfl, rfl, rfl, hw⟩
  · have hw := hw.1 hd16
    refine ok_bipush (pc := 10) a dX5_nextPair_10 (by decide) ?_
    exact ok_iret (pc := 12) a dX5_nextPair_12 ⟨_, rfl, rfl, rfl, hw⟩

def wp_X6_append (x1 : Int) (h : aH) (Q : Int → aH → Prop) : Prop :=
  inR (h 1 1) ∧ (((h 1 1) < 150 → (0 ≤ (h 1 1) ∧ (h 1 1) < 150) ∧ (0 ≤ x1 ∧ x1 < 65536) ∧ ∀ h4, h4 = up h 2 (h 1 1) x1 → ∀ h5, h5 = up h4 1 1 ((h4 1 1) + 1) → Q 1 h5) ∧ (¬ (h 1 1) < 150 → Q 0 h))
set_option maxRecDepth 100000 in
set_option maxHeartbeats 4000000 in
theorem M_X6_append {Γ : Gm} {l : Launch} {n : Nat} {g : aG} (hn : 59 ≤ n) (tg : TC g) (x1 : Int)  {h : aH} {Q : Int → aH → Prop} (hw : wp_X6_append x1 h Q) : Cl Γ l mX6_append [vR 1, vI x1] n g h (RZ g Q) := by
  refine Cl.of (by decide) [some (vR 1), some (vI x1)] rfl (Nat.le_of_ble_eq_true rfl) ?_
  intro p e s m args below meth c a
  unfold wp_X6_append at hw
  refine ok_aload_n (pc := 0) a dX6_append_0 rfl rfl ?_
  refine ok_fI (pc := 1) 1 a dX6_append_1 lfRX6_19 (Nat.lt_of_lt_of_le (by decide) hn) kq1 ty_6_1 rfl ?_
  refine ok_sipush (pc := 4) a dX6_append_4 (by decide) ?_
  obtain ⟨hc1, hw⟩ := hw
  refine ok_icmp_lt (pc := 7) a 12 dX6_append_7 (by decide) hc1 ⟨by decide, by decide⟩ (fun hd6 => ?_) (fun hd6 => ?_)
  · have hw := hw.1 hd6
    refine ok_aload_n (pc := 12) a dX6_append_12 rfl rfl ?_
    refine ok_getR (pc := 13) a dX6_append_13 lfRX6_9 (Nat.lt_of_lt_of_le (by decide) hn) kq1 rfl (tg.at 1 0 2 (by decide) (by decide)) ?_
    refine ok_aload_n (pc := 16) a dX6_append_16 rfl rfl ?_
    refine ok_fI (pc := 17) 1 a dX6_append_17 lfRX6_19 (Nat.lt_of_lt_of_le (by decide) hn) kq1 ty_6_1 rfl ?_
    refine ok_iload_n (pc := 20) a dX6_append_20 rfl rfl ?_
    obtain ⟨hc2, hw⟩ := hw
    obtain ⟨hc3, hw⟩ := hw
    refine ok_cast (pc := 21) a dX6_append_21 (Nat.lt_of_lt_of_le (by decide) hn) kq2 (by decide) hc2 hc3 (ok_nmH (fun h4 eh4 => ?_))
    have hw := hw h4 eh4
    refine ok_aload_n (pc := 22) a dX6_append_22 rfl rfl ?_
    refine ok_dup (pc := 23) a dX6_append_23 (by rfl) ?_
    refine ok_fI (pc := 24) 1 a dX6_append_24 lfRX6_19 (Nat.lt_of_lt_of_le (by decide) hn) kq1 ty_6_1 rfl ?_
    refine ok_iconst (pc := 27) a dX6_append_27 ?_
    refine ok_iadd (pc := 28) a dX6_append_28 ?_
    refine ok_pI (pc := 29) 1 a dX6_append_29 lfRX6_19 fi_6_1 (Nat.lt_of_lt_of_le (by decide) hn) kq1 ty_6_1 rfl (fun h5 eh5 => ?_)
    have hw := hw h5 eh5
    refine ok_iconst (pc := 32) a dX6_append_32 ?_
    exact ok_zret (pc := 33) a dX6_append_33 (Or.inr rfl) ⟨_, rfl, rfl, (Or.inr rfl), hw⟩
  · have hw := hw.2 hd6
    refine ok_iconst (pc := 10) a dX6_append_10 ?_
    exact ok_zret (pc := 11) a dX6_append_11 (Or.inl rfl) ⟨_, rfl, rfl, (Or.inl rfl), hw⟩

def wp_X6_hasFault  (h : aH) (Q : Int → Prop) : Prop :=
  (inR (h 1 3) ∧ True) ∧ Q (if (h 1 3) = (-1) then 0 else 1 : Int)
set_option maxRecDepth 100000 in
set_option maxHeartbeats 4000000 in
theorem M_X6_hasFault {Γ : Gm} {l : Launch} {n : Nat} {g : aG} (hn : 59 ≤ n) (tg : TC g)   {h : aH} {Q : Int → Prop} (hw : wp_X6_hasFault  h Q) : Cl Γ l mX6_hasFault [vR 1] n g h (PZ g h Q) := by
  refine Cl.of (by decide) [some (vR 1)] rfl (Nat.le_of_ble_eq_true rfl) ?_
  intro p e s m args below meth c a
  unfold wp_X6_hasFault at hw
  refine ok_aload_n (pc := 0) a dX6_hasFault_0 rfl rfl ?_
  refine ok_fI (pc := 1) 3 a dX6_hasFault_1 lfRX6_15 (Nat.lt_of_lt_of_le (by decide) hn) kq1 ty_6_3 rfl ?_
  refine ok_iconst (pc := 4) a dX6_hasFault_4 ?_
  obtain ⟨hR, hw⟩ := hw
  have hK : OK Γ p l e (rmd 0 n n) s m args below meth c n (MQ below (QQ Γ n (PZ g h Q)) args s (n - n) (sl n - sl n) (AA Γ)) 13 [some (vR 1)] [(vI (if (h 1 3) = (-1) then 0 else 1 : Int))] n g h := by
    exact ok_zret (pc := 13) a dX6_hasFault_13 (ite01 (Or.inl rfl) (Or.inr rfl)) ⟨_, rfl, rfl, rfl, (ite01 (Or.inl rfl) (Or.inr rfl)), hw⟩
  have hw := hR
  obtain ⟨hc1, hw⟩ := hw
  refine ok_icmp_eq (pc := 5) a 12 dX6_hasFault_5 (by decide) hc1 ⟨by decide, by decide⟩ (fun hd2 => ?_) (fun hd2 => ?_)
  · refine ok_iconst (pc := 12) a dX6_hasFault_12 ?_
    simp only [if_pos hd2] at hK
    exact hK
  · refine ok_iconst (pc := 8) a dX6_hasFault_8 ?_
    refine ok_goto (pc := 9) a 13 dX6_hasFault_9 (by decide) ?_
    simp only [if_neg hd2] at hK
    exact hK

def wp_X7_makeEmpty (k : Nat) (h : aH) (Q : aH → Prop) : Prop :=
  ∀ h1, h1 = cpF h (k + 1) → wp_J7_fill_53178 (k + 2) 16 0 h1 (fun h2 => wp_J7_fill_53178 (k + 3) 16 0 h2 (fun h3 => wp_J7_fill_53178 (k + 4) 5 0 h3 (fun h4 => ∀ h5, h5 = up h4 k 4 0 → ∀ h6, h6 = up h5 k 5 0 → Q h6)))
set_option maxRecDepth 100000 in
set_option maxHeartbeats 4000000 in
theorem M_X7_makeEmpty {Γ : Gm} {l : Launch} {n : Nat} {g : aG} (hn : 59 ≤ n) (tg : TC g) (k : Nat) (hkk : (kd k).1 = 7) (hlk : k < 59) {h : aH} {Q : aH → Prop} (hw : wp_X7_makeEmpty k h Q) : Cl Γ l mX7_makeEmpty [vR k] n g h (RV g Q) := by
  refine Cl.of (by decide) [some (vR k)] rfl (Nat.le_of_ble_eq_true rfl) ?_
  intro p e s m args below meth c a
  unfold wp_X7_makeEmpty at hw
  refine ok_gets (pc := 0) a dX7_makeEmpty_0 gsRX7_24 ?_
  refine ok_iconst (pc := 3) a dX7_makeEmpty_3 ?_
  refine ok_aload_n (pc := 4) a dX7_makeEmpty_4 rfl rfl ?_
  refine ok_getR (pc := 5) a dX7_makeEmpty_5 lfRX7_9 (Nat.lt_of_lt_of_le hlk hn) hkk rfl (tg.at _ 0 _ (shop_spec _ hlk hkk).1.1 hlk) ?_
  refine ok_iconst (pc := 8) a dX7_makeEmpty_8 ?_
  refine ok_iconst (pc := 9) a dX7_makeEmpty_9 ?_
  refine ok_copyF (pc := 10) (st := []) a dX7_makeEmpty_10 lcRX7_27 (Nat.lt_of_lt_of_le (by have := (shop_spec _ hlk hkk).2.2.2.2.2; omega) hn) (shop_spec _ hlk hkk).2.1 (Nat.le_of_ble_eq_true rfl) (Nat.le_of_ble_eq_true rfl) (ok_nmH (fun h1 eh1 => ?_))
  have hw := hw h1 eh1
  refine ok_aload_n (pc := 13) a dX7_makeEmpty_13 rfl rfl ?_
  refine ok_getR (pc := 14) a dX7_makeEmpty_14 lfRX7_15 (Nat.lt_of_lt_of_le hlk hn) hkk rfl (tg.at _ 1 _ (shop_spec _ hlk hkk).1.2.1 hlk) ?_
  refine ok_iconst (pc := 17) a dX7_makeEmpty_17 ?_
  refine ok_SRV (pc := 18) a [(vR (k + 2)), (vI 0)] [] (M_J7_fill_53178 hn tg (k + 2) 16 0 (by decide) (shop_spec _ hlk hkk).2.2.1 (by have := (shop_spec _ hlk hkk).2.2.2.2.2; omega) hw) dX7_makeEmpty_18 lkRX7_33 rfl ⟨Nat.le_of_ble_eq_true rfl, Nat.le_of_ble_eq_true rfl⟩ rfl (Nat.le_of_ble_eq_true rfl) rfl (fun h2 hw => ?_)
  refine ok_aload_n (pc := 21) a dX7_makeEmpty_21 rfl rfl ?_
  refine ok_getR (pc := 22) a dX7_makeEmpty_22 lfRX7_18 (Nat.lt_of_lt_of_le hlk hn) hkk rfl (tg.at _ 2 _ (shop_spec _ hlk hkk).1.2.2.1 hlk) ?_
  refine ok_iconst (pc := 25) a dX7_makeEmpty_25 ?_
  refine ok_SRV (pc := 26) a [(vR (k + 3)), (vI 0)] [] (M_J7_fill_53178 hn tg (k + 3) 16 0 (by decide) (shop_spec _ hlk hkk).2.2.2.1 (by have := (shop_spec _ hlk hkk).2.2.2.2.2; omega) hw) dX7_makeEmpty_26 lkRX7_33 rfl ⟨Nat.le_of_ble_eq_true rfl, Nat.le_of_ble_eq_true rfl⟩ rfl (Nat.le_of_ble_eq_true rfl) rfl (fun h3 hw => ?_)
  refine ok_aload_n (pc := 29) a dX7_makeEmpty_29 rfl rfl ?_
  refine ok_getR (pc := 30) a dX7_makeEmpty_30 lfRX7_21 (Nat.lt_of_lt_of_le hlk hn) hkk rfl (tg.at _ 3 _ (shop_spec _ hlk hkk).1.2.2.2 hlk) ?_
  refine ok_iconst (pc := 33) a dX7_makeEmpty_33 ?_
  refine ok_SRV (pc := 34) a [(vR (k + 4)), (vI 0)] [] (M_J7_fill_53178 hn tg (k + 4) 5 0 (by decide) (shop_spec _ hlk hkk).2.2.2.2.1 (by have := (shop_spec _ hlk hkk).2.2.2.2.2; omega) hw) dX7_makeEmpty_34 lkRX7_33 rfl ⟨Nat.le_of_ble_eq_true rfl, Nat.le_of_ble_eq_true rfl⟩ rfl (Nat.le_of_ble_eq_true rfl) rfl (fun h4 hw => ?_)
  refine ok_aload_n (pc := 37) a dX7_makeEmpty_37 rfl rfl ?_
  refine ok_iconst (pc := 38) a dX7_makeEmpty_38 ?_
  refine ok_pI (pc := 39) 4 a dX7_makeEmpty_39 lfRX7_39 fi_7_4 (Nat.lt_of_lt_of_le hlk hn) hkk ty_7_4 rfl (fun h5 eh5 => ?_)
  have hw := hw h5 eh5
  refine ok_aload_n (pc := 42) a dX7_makeEmpty_42 rfl rfl ?_
  refine ok_iconst (pc := 43) a dX7_makeEmpty_43 ?_
  refine ok_pI (pc := 44) 5 a dX7_makeEmpty_44 lfRX7_43 fi_7_5 (Nat.lt_of_lt_of_le hlk hn) hkk ty_7_5 rfl (fun h6 eh6 => ?_)
  have hw := hw h6 eh6
  exact ok_vret (pc := 47) a dX7_makeEmpty_47 ⟨rfl, rfl, hw⟩

def wp_X6_skipBlanks_B0 (Q : aH → Prop) (X0 : aH → Prop) (h_0 : aH) : Prop :=
  inR (h_0 1 2) ∧ inR (h_0 1 1) ∧ (((h_0 1 1) ≤ (h_0 1 2) → Q h_0) ∧ (¬ (h_0 1 1) ≤ (h_0 1 2) → (0 ≤ (h_0 1 2) ∧ (h_0 1 2) < 150) ∧ inR (h_0 2 (h_0 1 2)) ∧ (((h_0 2 (h_0 1 2)) = 32 → ∀ h5, h5 = up h_0 1 2 ((h_0 1 2) + 1) → X0 h5) ∧ (¬ (h_0 2 (h_0 1 2)) = 32 → Q h_0))))
def wp_X6_skipBlanks  (h : aH) (Q : aH → Prop) : Prop :=
  lp (fun X y => wp_X6_skipBlanks_B0 Q X y) h
set_option maxRecDepth 100000 in
set_option maxHeartbeats 4000000 in
theorem M_X6_skipBlanks {Γ : Gm} {l : Launch} {n : Nat} {g : aG} (hn : 59 ≤ n) (tg : TC g)   {h : aH} {Q : aH → Prop} (hw : wp_X6_skipBlanks  h Q) : Cl Γ l mX6_skipBlanks [vR 1] n g h (RV g Q) := by
  refine Cl.of (by decide) [some (vR 1)] rfl (Nat.le_of_ble_eq_true rfl) ?_
  intro p e s m args below meth c a
  unfold wp_X6_skipBlanks at hw
  refine lp.use (P := fun y => OK Γ p l e (rmd 0 n n) s m args below meth c n (MQ below (QQ Γ n (RV g Q)) args s (n - n) (sl n - sl n) (AA Γ)) 0 [some (vR 1)] [] n g y) ?_ h hw
  clear hw
  intro X0 hX0 y hw
  generalize y = h_0 at hw ⊢
  have hw : wp_X6_skipBlanks_B0 Q X0 h_0 := hw
  unfold wp_X6_skipBlanks_B0 at hw
  try dsimp only
  refine ok_aload_n (pc := 0) a dX6_skipBlanks_0 rfl rfl ?_
  refine ok_fI (pc := 1) 2 a dX6_skipBlanks_1 lfRX6_27 (Nat.lt_of_lt_of_le (by decide) hn) kq1 ty_6_2 rfl ?_
  refine ok_aload_n (pc := 4) a dX6_skipBlanks_4 rfl rfl ?_
  refine ok_fI (pc := 5) 1 a dX6_skipBlanks_5 lfRX6_19 (Nat.lt_of_lt_of_le (by decide) hn) kq1 ty_6_1 rfl ?_
  obtain ⟨hc1, hw⟩ := hw
  obtain ⟨hc2, hw⟩ := hw
  refine ok_icmp_ge (pc := 8) a 38 dX6_skipBlanks_8 (by decide) hc1 hc2 (fun hd7 => ?_) (fun hd7 => ?_)
  · have hw := hw.1 hd7
    exact ok_vret (pc := 38) a dX6_skipBlanks_38 ⟨rfl, rfl, hw⟩
  · have hw := hw.2 hd7
    refine ok_aload_n (pc := 11) a dX6_skipBlanks_11 rfl rfl ?_
    refine ok_getR (pc := 12) a dX6_skipBlanks_12 lfRX6_9 (Nat.lt_of_lt_of_le (by decide) hn) kq1 rfl (tg.at 1 0 2 (by decide) (by decide)) ?_
    refine ok_aload_n (pc := 15) a dX6_skipBlanks_15 rfl rfl ?_
    refine ok_fI (pc := 16) 2 a dX6_skipBlanks_16 lfRX6_27 (Nat.lt_of_lt_of_le (by decide) hn) kq1 ty_6_2 rfl ?_
    obtain ⟨hc3, hw⟩ := hw
    refine ok_cald (pc := 19) a dX6_skipBlanks_19 (Nat.lt_of_lt_of_le (by decide) hn) kq2 (by decide) hc3 ?_
    refine ok_bipush (pc := 20) a dX6_skipBlanks_20 (by decide) ?_
    obtain ⟨hc4, hw⟩ := hw
    refine ok_icmp_ne (pc := 22) a 38 dX6_skipBlanks_22 (by decide) hc4 ⟨by decide, by decide⟩ (fun hd6 => ?_) (fun hd6 => ?_)
    · have hw := hw.2 hd6
      exact ok_vret (pc := 38) a dX6_skipBlanks_38 ⟨rfl, rfl, hw⟩
    · have hw := hw.1 hd6
      refine ok_aload_n (pc := 25) a dX6_skipBlanks_25 rfl rfl ?_
      refine ok_dup (pc := 26) a dX6_skipBlanks_26 (by rfl) ?_
      refine ok_fI (pc := 27) 2 a dX6_skipBlanks_27 lfRX6_27 (Nat.lt_of_lt_of_le (by decide) hn) kq1 ty_6_2 rfl ?_
      refine ok_iconst (pc := 30) a dX6_skipBlanks_30 ?_
      refine ok_iadd (pc := 31) a dX6_skipBlanks_31 ?_
      refine ok_pI (pc := 32) 2 a dX6_skipBlanks_32 lfRX6_27 fi_6_2 (Nat.lt_of_lt_of_le (by decide) hn) kq1 ty_6_2 rfl (fun h5 eh5 => ?_)
      have hw := hw h5 eh5
      refine ok_goto (pc := 35) a 0 dX6_skipBlanks_35 (by decide) ?_
      exact hX0 h5 hw

def wp_X6_isFigure (x0 : Int) (h : aH) (Q : Int → Prop) : Prop :=
  (inR x0 ∧ True) ∧ Q (if x0 < 48 then 0 else (if 57 < x0 then 0 else 1 : Int) : Int)
set_option maxRecDepth 100000 in
set_option maxHeartbeats 4000000 in
theorem M_X6_isFigure {Γ : Gm} {l : Launch} {n : Nat} {g : aG} (hn : 59 ≤ n) (tg : TC g) (x0 : Int)  {h : aH} {Q : Int → Prop} (hw : wp_X6_isFigure x0 h Q) : Cl Γ l mX6_isFigure [vI x0] n g h (PZ g h Q) := by
  refine Cl.of (by decide) [some (vI x0)] rfl (Nat.le_of_ble_eq_true rfl) ?_
  intro p e s m args below meth c a
  unfold wp_X6_isFigure at hw
  refine ok_iload_n (pc := 0) a dX6_isFigure_0 rfl rfl ?_
  refine ok_bipush (pc := 1) a dX6_isFigure_1 (by decide) ?_
  obtain ⟨hR, hw⟩ := hw
  have hK : OK Γ p l e (rmd 0 n n) s m args below meth c n (MQ below (QQ Γ n (PZ g h Q)) args s (n - n) (sl n - sl n) (AA Γ)) 17 [some (vI x0)] [(vI (if x0 < 48 then 0 else (if 57 < x0 then 0 else 1 : Int) : Int))] n g h := by
    exact ok_zret (pc := 17) a dX6_isFigure_17 (ite01 (Or.inl rfl) (ite01 (Or.inl rfl) (Or.inr rfl))) ⟨_, rfl, rfl, rfl, (ite01 (Or.inl rfl) (ite01 (Or.inl rfl) (Or.inr rfl))), hw⟩
  have hw := hR
  obtain ⟨hc1, hw⟩ := hw
  refine ok_icmp_lt (pc := 3) a 16 dX6_isFigure_3 (by decide) hc1 ⟨by decide, by decide⟩ (fun hd2 => ?_) (fun hd2 => ?_)
  · refine ok_iconst (pc := 16) a dX6_isFigure_16 ?_
    simp only [if_pos hd2] at hK
    exact hK
  · refine ok_iload_n (pc := 6) a dX6_isFigure_6 rfl rfl ?_
    refine ok_bipush (pc := 7) a dX6_isFigure_7 (by decide) ?_
    refine ok_icmp_gt (pc := 9) a 16 dX6_isFigure_9 (by decide) hc1 ⟨by decide, by decide⟩ (fun hd3 => ?_) (fun hd3 => ?_)
    · refine ok_iconst (pc := 16) a dX6_isFigure_16 ?_
      simp only [if_neg hd2, if_pos hd3] at hK
      exact hK
    · refine ok_iconst (pc := 12) a dX6_isFigure_12 ?_
      refine ok_goto (pc := 13) a 17 dX6_isFigure_13 (by decide) ?_
      simp only [if_neg hd2, if_neg hd3] at hK
      exact hK

def wp_X6_readNumber_J143 (Q : Int → aH → Prop) (x3_17 : Int) (x4_21 : Int) (h_21 : aH)  : Prop :=
  ∀ h13, h13 = up h_21 1 3 x3_17 → Q x4_21 h13
def wp_X6_readNumber_J90 (x1 : Int) (x2 : Int) (Q : Int → aH → Prop) (x3_17 : Int) (x4_21 : Int) (h_21 : aH)  : Prop :=
  ∀ x5_96, x5_96 = ((h_21 1 2) - x3_17) → (inR x5_96 ∧ ((x5_96 = 1 → True) ∧ (¬ x5_96 = 1 → ((x5_96 = 2 → (0 ≤ x3_17 ∧ x3_17 < 150) ∧ inR (h_21 2 x3_17) ∧ True) ∧ (¬ x5_96 = 2 → True))))) ∧ ∀ x6_126, x6_126 = (if x5_96 = 1 then 1 else (if x5_96 = 2 then (if (h_21 2 x3_17) = 48 then 0 else 1 : Int) else 0 : Int) : Int) → inR x6_126 ∧ ((x6_126 = 0 → wp_X6_readNumber_J143 Q x3_17 x4_21 h_21 ) ∧ (¬ x6_126 = 0 → wp_X8_within x4_21 x1 x2 h_21 (fun r14 => ((r14 = 0 → wp_X6_readNumber_J143 Q x3_17 x4_21 h_21 ) ∧ (¬ r14 = 0 → Q x4_21 h_21)))))
def wp_X6_readNumber_B21 (x1 : Int) (x2 : Int) (Q : Int → aH → Prop) (x3_17 : Int) (X21 : Int × aH → Prop) (x4_21 : Int) (h_21 : aH) : Prop :=
  inR (h_21 1 2) ∧ inR (h_21 1 1) ∧ (((h_21 1 1) ≤ (h_21 1 2) → wp_X6_readNumber_J90 x1 x2 Q x3_17 x4_21 h_21 ) ∧ (¬ (h_21 1 1) ≤ (h_21 1 2) → (0 ≤ (h_21 1 2) ∧ (h_21 1 2) < 150) ∧ wp_X6_isFigure (h_21 2 (h_21 1 2)) h_21 (fun r19 => ((r19 = 0 → wp_X6_readNumber_J90 x1 x2 Q x3_17 x4_21 h_21 ) ∧ (¬ r19 = 0 → (inR ((h_21 1 2) - x3_17) ∧ True) ∧ ∀ h23, h23 = up h_21 1 2 ((h_21 1 2) + 1) → X21 ((if 2 ≤ ((h_21 1 2) - x3_17) then x4_21 else ((x4_21 * 10) + ((h_21 2 (h_21 1 2)) - 48)) : Int), h23))))))
def wp_X6_readNumber (x1 : Int) (x2 : Int) (h : aH) (Q : Int → aH → Prop) : Prop :=
  wp_X6_hasFault h (fun r1 => ((r1 = 0 → wp_X6_skipBlanks h (fun h3 => ∀ x3_17, x3_17 = (h3 1 2) → lp (fun X y => wp_X6_readNumber_B21 x1 x2 Q x3_17 X y.1 y.2) (0, h3))) ∧ (¬ r1 = 0 → Q x1 h)))
set_option maxRecDepth 100000 in
set_option maxHeartbeats 4000000 in
theorem M_X6_readNumber {Γ : Gm} {l : Launch} {n : Nat} {g : aG} (hn : 59 ≤ n) (tg : TC g) (x1 : Int) (x2 : Int)  {h : aH} {Q : Int → aH → Prop} (hw : wp_X6_readNumber x1 x2 h Q) : Cl Γ l mX6_readNumber [vR 1, vI x1, vI x2] n g h (RI g Q) := by
  refine Cl.of (by decide) [some (vR 1), some (vI x1), some (vI x2), none, none, none, none] rfl (Nat.le_of_ble_eq_true rfl) ?_
  intro p e s m args below meth c a
  unfold wp_X6_readNumber at hw
  refine ok_aload_n (pc := 0) a dX6_readNumber_0 rfl rfl ?_
  refine ok_VPZ (pc := 1) a [] [] (M_X6_hasFault hn tg   hw) dX6_readNumber_1 lkRX6_33 rfl (Nat.lt_of_lt_of_le (by decide) hn) kq1 (by decide) rfl ⟨Nat.le_of_ble_eq_true rfl, Nat.le_of_ble_eq_true rfl⟩ rfl (Nat.le_of_ble_eq_true rfl) rfl (fun r1 hz2 hw => ?_)
  refine ok_if_eq (pc := 4) a 9 dX6_readNumber_4 (by decide) (inR_b hz2) (fun hd26 => ?_) (fun hd26 => ?_)
  · have hw := hw.1 hd26
    refine ok_aload_n (pc := 9) a dX6_readNumber_9 rfl rfl ?_
    refine ok_VRV (pc := 10) a [] [] (M_X6_skipBlanks hn tg   hw) dX6_readNumber_10 lkRX6_30 rfl (Nat.lt_of_lt_of_le (by decide) hn) kq1 (by decide) rfl ⟨Nat.le_of_ble_eq_true rfl, Nat.le_of_ble_eq_true rfl⟩ rfl (Nat.le_of_ble_eq_true rfl) rfl (fun h3 hw => ?_)
    refine ok_aload_n (pc := 13) a dX6_readNumber_13 rfl rfl ?_
    refine ok_fI (pc := 14) 2 a dX6_readNumber_14 lfRX6_27 (Nat.lt_of_lt_of_le (by decide) hn) kq1 ty_6_2 rfl ?_
    refine ok_nmI (fun x3_17 ex3_17 => ?_)
    have hw := hw x3_17 ex3_17
    refine ok_sI_n (pc := 17) a [some (vR 1), some (vI x1), some (vI x2), some (vI x3_17), none, none, none] dX6_readNumber_17 rfl (by decide) rfl rfl ?_
    refine ok_iconst (pc := 18) a dX6_readNumber_18 ?_
    refine ok_sI (pc := 19) a [some (vR 1), some (vI x1), some (vI x2), some (vI x3_17), some (vI 0), none, none] dX6_readNumber_19 (by decide) rfl rfl ?_
    refine lp.use (P := fun y => OK Γ p l e (rmd 1 n n) s m args below meth c n (MQ below (QQ Γ n (RI g Q)) args s (n - n) (sl n - sl n) (AA Γ)) 21 [some (vR 1), some (vI x1), some (vI x2), some (vI x3_17), some (vI y.1), none, none] [] n g y.2) ?_ (0, h3) hw
    clear hw
    intro X21 hX21 y hw
    obtain ⟨x4_21, h_21⟩ := y
    have hw : wp_X6_readNumber_B21 x1 x2 Q x3_17 X21 x4_21 h_21 := hw
    unfold wp_X6_readNumber_B21 at hw
    try dsimp only
    refine ok_aload_n (pc := 21) a dX6_readNumber_21 rfl rfl ?_
    refine ok_fI (pc := 22) 2 a dX6_readNumber_22 lfRX6_27 (Nat.lt_of_lt_of_le (by decide) hn) kq1 ty_6_2 rfl ?_
    refine ok_aload_n (pc := 25) a dX6_readNumber_25 rfl rfl ?_
    refine ok_fI (pc := 26) 1 a dX6_readNumber_26 lfRX6_19 (Nat.lt_of_lt_of_le (by decide) hn) kq1 ty_6_1 rfl ?_
    obtain ⟨hc4, hw⟩ := hw
    obtain ⟨hc5, hw⟩ := hw
    have hJ90 : wp_X6_readNumber_J90 x1 x2 Q x3_17 x4_21 h_21  → OK Γ p l e (rmd 1 n n) s m args below meth c n (MQ below (QQ Γ n (RI g Q)) args s (n - n) (sl n - sl n) (AA Γ)) 90 [some (vR 1), some (vI x1), some (vI x2), some (vI x3_17), some (vI x4_21), none, none] [] n g h_21 := by
      intro  hw
      unfold wp_X6_readNumber_J90 at hw
      refine ok_aload_n (pc := 90) a dX6_readNumber_90 rfl rfl ?_
      refine ok_fI (pc := 91) 2 a dX6_readNumber_91 lfRX6_27 (Nat.lt_of_lt_of_le (by decide) hn) kq1 ty_6_2 rfl ?_
      refine ok_iload_n (pc := 94) a dX6_readNumber_94 rfl rfl ?_
      refine ok_isub (pc := 95) a dX6_readNumber_95 ?_
      refine ok_nmI (fun x5_96 ex5_96 => ?_)
      have hw := hw x5_96 ex5_96
      refine ok_sI (pc := 96) a [some (vR 1), some (vI x1), some (vI x2), some (vI x3_17), some (vI x4_21), some (vI x5_96), none] dX6_readNumber_96 (by decide) rfl rfl ?_
      refine ok_iload (pc := 98) a dX6_readNumber_98 rfl ?_
      refine ok_iconst (pc := 100) a dX6_readNumber_100 ?_
      obtain ⟨hR, hw⟩ := hw
      have hK : OK Γ p l e (rmd 1 n n) s m args below meth c n (MQ below (QQ Γ n (RI g Q)) args s (n - n) (sl n - sl n) (AA Γ)) 126 [some (vR 1), some (vI x1), some (vI x2), some (vI x3_17), some (vI x4_21), some (vI x5_96), none] [(vI (if x5_96 = 1 then 1 else (if x5_96 = 2 then (if (h_21 2 x3_17) = 48 then 0 else 1 : Int) else 0 : Int) : Int))] n g h_21 := by
        refine ok_nmI (fun x6_126 ex6_126 => ?_)
        have hw := hw x6_126 ex6_126
        refine ok_sI (pc := 126) a [some (vR 1), some (vI x1), some (vI x2), some (vI x3_17), some (vI x4_21), some (vI x5_96), some (vI x6_126)] dX6_readNumber_126 (by decide) rfl rfl ?_
        refine ok_iload (pc := 128) a dX6_readNumber_128 rfl ?_
        obtain ⟨hc12, hw⟩ := hw
        have hJ143 : wp_X6_readNumber_J143 Q x3_17 x4_21 h_21  → OK Γ p l e (rmd 1 n n) s m args below meth c n (MQ below (QQ Γ n (RI g Q)) args s (n - n) (sl n - sl n) (AA Γ)) 143 [some (vR 1), some (vI x1), some (vI x2), some (vI x3_17), some (vI x4_21), some (vI x5_96), some (vI x6_126)] [] n g h_21 := by
          intro  hw
          unfold wp_X6_readNumber_J143 at hw
          refine ok_aload_n (pc := 143) a dX6_readNumber_143 rfl rfl ?_
          refine ok_iload_n (pc := 144) a dX6_readNumber_144 rfl rfl ?_
          refine ok_pI (pc := 145) 3 a dX6_readNumber_145 lfRX6_15 fi_6_3 (Nat.lt_of_lt_of_le (by decide) hn) kq1 ty_6_3 rfl (fun h13 eh13 => ?_)
          have hw := hw h13 eh13
          refine ok_iload (pc := 148) a dX6_readNumber_148 rfl ?_
          exact ok_iret (pc := 150) a dX6_readNumber_150 ⟨_, rfl, rfl, hw⟩
        refine ok_if_eq (pc := 130) a 143 dX6_readNumber_130 (by decide) hc12 (fun hd17 => ?_) (fun hd17 => ?_)
        · have hw := hw.1 hd17
          exact hJ143  hw
        · have hw := hw.2 hd17
          refine ok_iload (pc := 133) a dX6_readNumber_133 rfl ?_
          refine ok_iload_n (pc := 135) a dX6_readNumber_135 rfl rfl ?_
          refine ok_iload_n (pc := 136) a dX6_readNumber_136 rfl rfl ?_
          refine ok_SPZ (pc := 137) a [(vI x4_21), (vI x1), (vI x2)] [] (M_X8_within hn tg x4_21 x1 x2  hw) dX6_readNumber_137 lkRX6_83 rfl ⟨Nat.le_of_ble_eq_true rfl, Nat.le_of_ble_eq_true rfl⟩ rfl (Nat.le_of_ble_eq_true rfl) rfl (fun r14 hz15 hw => ?_)
          refine ok_if_ne (pc := 140) a 148 dX6_readNumber_140 (by decide) (inR_b hz15) (fun hd16 => ?_) (fun hd16 => ?_)
          · have hw := hw.2 hd16
            refine ok_iload (pc := 148) a dX6_readNumber_148 rfl ?_
            exact ok_iret (pc := 150) a dX6_readNumber_150 ⟨_, rfl, rfl, hw⟩
          · have hw := hw.1 hd16
            exact hJ143  hw
      have hw := hR
      obtain ⟨hc6, hw⟩ := hw
      refine ok_icmp_eq (pc := 101) a 121 dX6_readNumber_101 (by decide) hc6 ⟨by decide, by decide⟩ (fun hd7 => ?_) (fun hd7 => ?_)
      · refine ok_iconst (pc := 121) a dX6_readNumber_121 ?_
        refine ok_goto (pc := 122) a 126 dX6_readNumber_122 (by decide) ?_
        simp only [if_pos hd7] at hK
        exact hK
      · have hw := hw.2 hd7
        refine ok_iload (pc := 104) a dX6_readNumber_104 rfl ?_
        refine ok_iconst (pc := 106) a dX6_readNumber_106 ?_
        refine ok_icmp_ne (pc := 107) a 125 dX6_readNumber_107 (by decide) hc6 ⟨by decide, by decide⟩ (fun hd8 => ?_) (fun hd8 => ?_)
        · refine ok_iconst (pc := 125) a dX6_readNumber_125 ?_
          simp only [if_neg hd7, if_neg hd8] at hK
          exact hK
        · have hw := hw.1 hd8
          refine ok_aload_n (pc := 110) a dX6_readNumber_110 rfl rfl ?_
          refine ok_getR (pc := 111) a dX6_readNumber_111 lfRX6_9 (Nat.lt_of_lt_of_le (by decide) hn) kq1 rfl (tg.at 1 0 2 (by decide) (by decide)) ?_
          refine ok_iload_n (pc := 114) a dX6_readNumber_114 rfl rfl ?_
          obtain ⟨hc9, hw⟩ := hw
          refine ok_cald (pc := 115) a dX6_readNumber_115 (Nat.lt_of_lt_of_le (by decide) hn) kq2 (by decide) hc9 ?_
          refine ok_bipush (pc := 116) a dX6_readNumber_116 (by decide) ?_
          obtain ⟨hc10, hw⟩ := hw
          refine ok_icmp_eq (pc := 118) a 125 dX6_readNumber_118 (by decide) hc10 ⟨by decide, by decide⟩ (fun hd11 => ?_) (fun hd11 => ?_)
          · refine ok_iconst (pc := 125) a dX6_readNumber_125 ?_
            simp only [if_neg hd7, if_pos hd8, if_pos hd11] at hK
            exact hK
          · refine ok_iconst (pc := 121) a dX6_readNumber_121 ?_
            refine ok_goto (pc := 122) a 126 dX6_readNumber_122 (by decide) ?_
            simp only [if_neg hd7, if_pos hd8, if_neg hd11] at hK
            exact hK
    refine ok_icmp_ge (pc := 29) a 90 dX6_readNumber_29 (by decide) hc4 hc5 (fun hd25 => ?_) (fun hd25 => ?_)
    · have hw := hw.1 hd25
      exact hJ90  hw
    · have hw := hw.2 hd25
      refine ok_aload_n (pc := 32) a dX6_readNumber_32 rfl rfl ?_
      refine ok_getR (pc := 33) a dX6_readNumber_33 lfRX6_9 (Nat.lt_of_lt_of_le (by decide) hn) kq1 rfl (tg.at 1 0 2 (by decide) (by decide)) ?_
      refine ok_aload_n (pc := 36) a dX6_readNumber_36 rfl rfl ?_
      refine ok_fI (pc := 37) 2 a dX6_readNumber_37 lfRX6_27 (Nat.lt_of_lt_of_le (by decide) hn) kq1 ty_6_2 rfl ?_
      obtain ⟨hc18, hw⟩ := hw
      refine ok_cald (pc := 40) a dX6_readNumber_40 (Nat.lt_of_lt_of_le (by decide) hn) kq2 (by decide) hc18 ?_
      refine ok_SPZ (pc := 41) a [(vI (h_21 2 (h_21 1 2)))] [] (M_X6_isFigure hn tg (h_21 2 (h_21 1 2))  hw) dX6_readNumber_41 lkRX6_79 rfl ⟨Nat.le_of_ble_eq_true rfl, Nat.le_of_ble_eq_true rfl⟩ rfl (Nat.le_of_ble_eq_true rfl) rfl (fun r19 hz20 hw => ?_)
      refine ok_if_eq (pc := 44) a 90 dX6_readNumber_44 (by decide) (inR_b hz20) (fun hd24 => ?_) (fun hd24 => ?_)
      · have hw := hw.1 hd24
        exact hJ90  hw
      · have hw := hw.2 hd24
        refine ok_aload_n (pc := 47) a dX6_readNumber_47 rfl rfl ?_
        refine ok_fI (pc := 48) 2 a dX6_readNumber_48 lfRX6_27 (Nat.lt_of_lt_of_le (by decide) hn) kq1 ty_6_2 rfl ?_
        refine ok_iload_n (pc := 51) a dX6_readNumber_51 rfl rfl ?_
        refine ok_isub (pc := 52) a dX6_readNumber_52 ?_
        refine ok_iconst (pc := 53) a dX6_readNumber_53 ?_
        obtain ⟨hR, hw⟩ := hw
        have hK : OK Γ p l e (rmd 1 n n) s m args below meth c n (MQ below (QQ Γ n (RI g Q)) args s (n - n) (sl n - sl n) (AA Γ)) 77 [some (vR 1), some (vI x1), some (vI x2), some (vI x3_17), some (vI (if 2 ≤ ((h_21 1 2) - x3_17) then x4_21 else ((x4_21 * 10) + ((h_21 2 (h_21 1 2)) - 48)) : Int)), none, none] [] n g h_21 := by
          refine ok_aload_n (pc := 77) a dX6_readNumber_77 rfl rfl ?_
          refine ok_dup (pc := 78) a dX6_readNumber_78 (by rfl) ?_
          refine ok_fI (pc := 79) 2 a dX6_readNumber_79 lfRX6_27 (Nat.lt_of_lt_of_le (by decide) hn) kq1 ty_6_2 rfl ?_
          refine ok_iconst (pc := 82) a dX6_readNumber_82 ?_
          refine ok_iadd (pc := 83) a dX6_readNumber_83 ?_
          refine ok_pI (pc := 84) 2 a dX6_readNumber_84 lfRX6_27 fi_6_2 (Nat.lt_of_lt_of_le (by decide) hn) kq1 ty_6_2 rfl (fun h23 eh23 => ?_)
          have hw := hw h23 eh23
          refine ok_goto (pc := 87) a 21 dX6_readNumber_87 (by decide) ?_
          exact hX21 ((if 2 ≤ ((h_21 1 2) - x3_17) then x4_21 else ((x4_21 * 10) + ((h_21 2 (h_21 1 2)) - 48)) : Int), h23) hw
        have hw := hR
        obtain ⟨hc21, hw⟩ := hw
        refine ok_icmp_ge (pc := 54) a 77 dX6_readNumber_54 (by decide) hc21 ⟨by decide, by decide⟩ (fun hd22 => ?_) (fun hd22 => ?_)
        · simp only [if_pos hd22] at hK
          exact hK
        · refine ok_iload (pc := 57) a dX6_readNumber_57 rfl ?_
          refine ok_bipush (pc := 59) a dX6_readNumber_59 (by decide) ?_
          refine ok_imul (pc := 61) a dX6_readNumber_61 ?_
          refine ok_aload_n (pc := 62) a dX6_readNumber_62 rfl rfl ?_
          refine ok_getR (pc := 63) a dX6_readNumber_63 lfRX6_9 (Nat.lt_of_lt_of_le (by decide) hn) kq1 rfl (tg.at 1 0 2 (by decide) (by decide)) ?_
          refine ok_aload_n (pc := 66) a dX6_readNumber_66 rfl rfl ?_
          refine ok_fI (pc := 67) 2 a dX6_readNumber_67 lfRX6_27 (Nat.lt_of_lt_of_le (by decide) hn) kq1 ty_6_2 rfl ?_
          refine ok_cald (pc := 70) a dX6_readNumber_70 (Nat.lt_of_lt_of_le (by decide) hn) kq2 (by decide) hc18 ?_
          refine ok_bipush (pc := 71) a dX6_readNumber_71 (by decide) ?_
          refine ok_isub (pc := 73) a dX6_readNumber_73 ?_
          refine ok_iadd (pc := 74) a dX6_readNumber_74 ?_
          refine ok_sI (pc := 75) a [some (vR 1), some (vI x1), some (vI x2), some (vI x3_17), some (vI ((x4_21 * 10) + ((h_21 2 (h_21 1 2)) - 48))), none, none] dX6_readNumber_75 (by decide) rfl rfl ?_
          simp only [if_neg hd22] at hK
          exact hK
  · have hw := hw.2 hd26
    refine ok_iload_n (pc := 7) a dX6_readNumber_7 rfl rfl ?_
    exact ok_iret (pc := 8) a dX6_readNumber_8 ⟨_, rfl, rfl, hw⟩

def wp_X6_readEnd_J50 (Q : aH → Prop) (h3 : aH)  : Prop :=
  ∀ h6, h6 = up h3 1 3 (h3 1 2) → Q h6
def wp_X6_readEnd  (h : aH) (Q : aH → Prop) : Prop :=
  wp_X6_hasFault h (fun r1 => ((r1 = 0 → wp_X6_skipBlanks h (fun h3 => inR (h3 1 2) ∧ inR (h3 1 1) ∧ (((h3 1 1) ≤ (h3 1 2) → wp_X6_readEnd_J50 Q h3 ) ∧ (¬ (h3 1 1) ≤ (h3 1 2) → (0 ≤ (h3 1 2) ∧ (h3 1 2) < 150) ∧ inR (h3 2 (h3 1 2)) ∧ (((h3 2 (h3 1 2)) = 59 → ∀ h9, h9 = up h3 1 2 ((h3 1 2) + 1) → Q h9) ∧ (¬ (h3 2 (h3 1 2)) = 59 → wp_X6_readEnd_J50 Q h3 )))))) ∧ (¬ r1 = 0 → Q h)))
set_option maxRecDepth 100000 in
set_option maxHeartbeats 4000000 in
theorem M_X6_readEnd {Γ : Gm} {l : Launch} {n : Nat} {g : aG} (hn : 59 ≤ n) (tg : TC g)   {h : aH} {Q : aH → Prop} (hw : wp_X6_readEnd  h Q) : Cl Γ l mX6_readEnd [vR 1] n g h (RV g Q) := by
  refine Cl.of (by decide) [some (vR 1)] rfl (Nat.le_of_ble_eq_true rfl) ?_
  intro p e s m args below meth c a
  unfold wp_X6_readEnd at hw
  refine ok_aload_n (pc := 0) a dX6_readEnd_0 rfl rfl ?_
  refine ok_VPZ (pc := 1) a [] [] (M_X6_hasFault hn tg   hw) dX6_readEnd_1 lkRX6_33 rfl (Nat.lt_of_lt_of_le (by decide) hn) kq1 (by decide) rfl ⟨Nat.le_of_ble_eq_true rfl, Nat.le_of_ble_eq_true rfl⟩ rfl (Nat.le_of_ble_eq_true rfl) rfl (fun r1 hz2 hw => ?_)
  refine ok_if_eq (pc := 4) a 8 dX6_readEnd_4 (by decide) (inR_b hz2) (fun hd12 => ?_) (fun hd12 => ?_)
  · have hw := hw.1 hd12
    refine ok_aload_n (pc := 8) a dX6_readEnd_8 rfl rfl ?_
    refine ok_VRV (pc := 9) a [] [] (M_X6_skipBlanks hn tg   hw) dX6_readEnd_9 lkRX6_30 rfl (Nat.lt_of_lt_of_le (by decide) hn) kq1 (by decide) rfl ⟨Nat.le_of_ble_eq_true rfl, Nat.le_of_ble_eq_true rfl⟩ rfl (Nat.le_of_ble_eq_true rfl) rfl (fun h3 hw => ?_)
    refine ok_aload_n (pc := 12) a dX6_readEnd_12 rfl rfl ?_
    refine ok_fI (pc := 13) 2 a dX6_readEnd_13 lfRX6_27 (Nat.lt_of_lt_of_le (by decide) hn) kq1 ty_6_2 rfl ?_
    refine ok_aload_n (pc := 16) a dX6_readEnd_16 rfl rfl ?_
    refine ok_fI (pc := 17) 1 a dX6_readEnd_17 lfRX6_19 (Nat.lt_of_lt_of_le (by decide) hn) kq1 ty_6_1 rfl ?_
    obtain ⟨hc4, hw⟩ := hw
    obtain ⟨hc5, hw⟩ := hw
    have hJ50 : wp_X6_readEnd_J50 Q h3  → OK Γ p l e (rmd 1 n n) s m args below meth c n (MQ below (QQ Γ n (RV g Q)) args s (n - n) (sl n - sl n) (AA Γ)) 50 [some (vR 1)] [] n g h3 := by
      intro  hw
      unfold wp_X6_readEnd_J50 at hw
      refine ok_aload_n (pc := 50) a dX6_readEnd_50 rfl rfl ?_
      refine ok_aload_n (pc := 51) a dX6_readEnd_51 rfl rfl ?_
      refine ok_fI (pc := 52) 2 a dX6_readEnd_52 lfRX6_27 (Nat.lt_of_lt_of_le (by decide) hn) kq1 ty_6_2 rfl ?_
      refine ok_pI (pc := 55) 3 a dX6_readEnd_55 lfRX6_15 fi_6_3 (Nat.lt_of_lt_of_le (by decide) hn) kq1 ty_6_3 rfl (fun h6 eh6 => ?_)
      have hw := hw h6 eh6
      exact ok_vret (pc := 58) a dX6_readEnd_58 ⟨rfl, rfl, hw⟩
    refine ok_icmp_ge (pc := 20) a 50 dX6_readEnd_20 (by decide) hc4 hc5 (fun hd11 => ?_) (fun hd11 => ?_)
    · have hw := hw.1 hd11
      exact hJ50  hw
    · have hw := hw.2 hd11
      refine ok_aload_n (pc := 23) a dX6_readEnd_23 rfl rfl ?_
      refine ok_getR (pc := 24) a dX6_readEnd_24 lfRX6_9 (Nat.lt_of_lt_of_le (by decide) hn) kq1 rfl (tg.at 1 0 2 (by decide) (by decide)) ?_
      refine ok_aload_n (pc := 27) a dX6_readEnd_27 rfl rfl ?_
      refine ok_fI (pc := 28) 2 a dX6_readEnd_28 lfRX6_27 (Nat.lt_of_lt_of_le (by decide) hn) kq1 ty_6_2 rfl ?_
      obtain ⟨hc7, hw⟩ := hw
      refine ok_cald (pc := 31) a dX6_readEnd_31 (Nat.lt_of_lt_of_le (by decide) hn) kq2 (by decide) hc7 ?_
      refine ok_bipush (pc := 32) a dX6_readEnd_32 (by decide) ?_
      obtain ⟨hc8, hw⟩ := hw
      refine ok_icmp_ne (pc := 34) a 50 dX6_readEnd_34 (by decide) hc8 ⟨by decide, by decide⟩ (fun hd10 => ?_) (fun hd10 => ?_)
      · have hw := hw.2 hd10
        exact hJ50  hw
      · have hw := hw.1 hd10
        refine ok_aload_n (pc := 37) a dX6_readEnd_37 rfl rfl ?_
        refine ok_dup (pc := 38) a dX6_readEnd_38 (by rfl) ?_
        refine ok_fI (pc := 39) 2 a dX6_readEnd_39 lfRX6_27 (Nat.lt_of_lt_of_le (by decide) hn) kq1 ty_6_2 rfl ?_
        refine ok_iconst (pc := 42) a dX6_readEnd_42 ?_
        refine ok_iadd (pc := 43) a dX6_readEnd_43 ?_
        refine ok_pI (pc := 44) 2 a dX6_readEnd_44 lfRX6_27 fi_6_2 (Nat.lt_of_lt_of_le (by decide) hn) kq1 ty_6_2 rfl (fun h9 eh9 => ?_)
        have hw := hw h9 eh9
        refine ok_goto (pc := 47) a 58 dX6_readEnd_47 (by decide) ?_
        exact ok_vret (pc := 58) a dX6_readEnd_58 ⟨rfl, rfl, hw⟩
  · have hw := hw.2 hd12
    exact ok_vret (pc := 7) a dX6_readEnd_7 ⟨rfl, rfl, hw⟩

def wp_X6_readWeight  (h : aH) (Q : aH → Prop) : Prop :=
  wp_X6_readNumber 0 3 h (fun r1 h2 => wp_X6_readNumber 1 20 h2 (fun r3 h4 => wp_X6_readEnd h4 (fun h5 => wp_X6_hasFault h5 (fun r6 => ((r6 = 0 → (0 ≤ r1 ∧ r1 < 4) ∧ ∀ h9, h9 = up h5 9 r1 r3 → Q h9) ∧ (¬ r6 = 0 → Q h5))))))
set_option maxRecDepth 100000 in
set_option maxHeartbeats 4000000 in
theorem M_X6_readWeight {Γ : Gm} {l : Launch} {n : Nat} {g : aG} (hn : 59 ≤ n) (tg : TC g)   {h : aH} {Q : aH → Prop} (hw : wp_X6_readWeight  h Q) : Cl Γ l mX6_readWeight [vR 1, vR 8] n g h (RV g Q) := by
  refine Cl.of (by decide) [some (vR 1), some (vR 8), none, none] rfl (Nat.le_of_ble_eq_true rfl) ?_
  intro p e s m args below meth c a
  unfold wp_X6_readWeight at hw
  refine ok_aload_n (pc := 0) a dX6_readWeight_0 rfl rfl ?_
  refine ok_iconst (pc := 1) a dX6_readWeight_1 ?_
  refine ok_iconst (pc := 2) a dX6_readWeight_2 ?_
  refine ok_VRI (pc := 3) a [(vI 0), (vI 3)] [] (M_X6_readNumber hn tg 0 3  hw) dX6_readWeight_3 lkRX6_59 rfl (Nat.lt_of_lt_of_le (by decide) hn) kq1 (by decide) rfl ⟨Nat.le_of_ble_eq_true rfl, Nat.le_of_ble_eq_true rfl⟩ rfl (Nat.le_of_ble_eq_true rfl) rfl (fun r1 h2 hw => ?_)
  refine ok_sI_n (pc := 6) a [some (vR 1), some (vR 8), some (vI r1), none] dX6_readWeight_6 rfl (by decide) rfl rfl ?_
  refine ok_aload_n (pc := 7) a dX6_readWeight_7 rfl rfl ?_
  refine ok_iconst (pc := 8) a dX6_readWeight_8 ?_
  refine ok_bipush (pc := 9) a dX6_readWeight_9 (by decide) ?_
  refine ok_VRI (pc := 11) a [(vI 1), (vI 20)] [] (M_X6_readNumber hn tg 1 20  hw) dX6_readWeight_11 lkRX6_59 rfl (Nat.lt_of_lt_of_le (by decide) hn) kq1 (by decide) rfl ⟨Nat.le_of_ble_eq_true rfl, Nat.le_of_ble_eq_true rfl⟩ rfl (Nat.le_of_ble_eq_true rfl) rfl (fun r3 h4 hw => ?_)
  refine ok_sI_n (pc := 14) a [some (vR 1), some (vR 8), some (vI r1), some (vI r3)] dX6_readWeight_14 rfl (by decide) rfl rfl ?_
  refine ok_aload_n (pc := 15) a dX6_readWeight_15 rfl rfl ?_
  refine ok_VRV (pc := 16) a [] [] (M_X6_readEnd hn tg   hw) dX6_readWeight_16 lkRX6_63 rfl (Nat.lt_of_lt_of_le (by decide) hn) kq1 (by decide) rfl ⟨Nat.le_of_ble_eq_true rfl, Nat.le_of_ble_eq_true rfl⟩ rfl (Nat.le_of_ble_eq_true rfl) rfl (fun h5 hw => ?_)
  refine ok_aload_n (pc := 19) a dX6_readWeight_19 rfl rfl ?_
  refine ok_VPZ (pc := 20) a [] [] (M_X6_hasFault hn tg   hw) dX6_readWeight_20 lkRX6_33 rfl (Nat.lt_of_lt_of_le (by decide) hn) kq1 (by decide) rfl ⟨Nat.le_of_ble_eq_true rfl, Nat.le_of_ble_eq_true rfl⟩ rfl (Nat.le_of_ble_eq_true rfl) rfl (fun r6 hz7 hw => ?_)
  refine ok_if_ne (pc := 23) a 33 dX6_readWeight_23 (by decide) (inR_b hz7) (fun hd10 => ?_) (fun hd10 => ?_)
  · have hw := hw.2 hd10
    exact ok_vret (pc := 33) a dX6_readWeight_33 ⟨rfl, rfl, hw⟩
  · have hw := hw.1 hd10
    refine ok_aload_n (pc := 26) a dX6_readWeight_26 rfl rfl ?_
    refine ok_getR (pc := 27) a dX6_readWeight_27 lfRX6_66 (Nat.lt_of_lt_of_le (by decide) hn) kq8 rfl (tg.at 8 0 9 (by decide) (by decide)) ?_
    refine ok_iload_n (pc := 30) a dX6_readWeight_30 rfl rfl ?_
    refine ok_iload_n (pc := 31) a dX6_readWeight_31 rfl rfl ?_
    obtain ⟨hc8, hw⟩ := hw
    refine ok_iast (pc := 32) a dX6_readWeight_32 (Nat.lt_of_lt_of_le (by decide) hn) kq9 (by decide) hc8 (ok_nmH (fun h9 eh9 => ?_))
    have hw := hw h9 eh9
    exact ok_vret (pc := 33) a dX6_readWeight_33 ⟨rfl, rfl, hw⟩

def wp_X6_readPerson_J36 (X2 : Int × aH → Prop) (x2_2 : Int) (h_36 : aH) : Prop :=
  X2 ((x2_2 + 1), h_36)
def wp_X6_readPerson_B2 (Q : aH → Prop) (X2 : Int × aH → Prop) (x2_2 : Int) (h_2 : aH) : Prop :=
  inR x2_2 ∧ ((4 ≤ x2_2 → wp_X6_readEnd h_2 (fun h2 => wp_X6_hasFault h2 (fun r3 => ((r3 = 0 → ∀ h5, h5 = up h2 8 4 ((h2 8 4) + 1) → Q h5) ∧ (¬ r3 = 0 → Q h2))))) ∧ (¬ 4 ≤ x2_2 → wp_X6_readNumber 0 9 h_2 (fun r7 h8 => wp_X6_hasFault h8 (fun r9 => ((r9 = 0 → (0 ≤ (((h8 8 4) * 4) + x2_2) ∧ (((h8 8 4) * 4) + x2_2) < 16) ∧ ∀ h12, h12 = up h8 10 (((h8 8 4) * 4) + x2_2) r7 → wp_X6_readPerson_J36 X2 x2_2 h12) ∧ (¬ r9 = 0 → wp_X6_readPerson_J36 X2 x2_2 h8))))))
def wp_X6_readPerson  (h : aH) (Q : aH → Prop) : Prop :=
  lp (fun X y => wp_X6_readPerson_B2 Q X y.1 y.2) (0, h)
set_option maxRecDepth 100000 in
set_option maxHeartbeats 4000000 in
theorem M_X6_readPerson {Γ : Gm} {l : Launch} {n : Nat} {g : aG} (hn : 59 ≤ n) (tg : TC g)   {h : aH} {Q : aH → Prop} (hw : wp_X6_readPerson  h Q) : Cl Γ l mX6_readPerson [vR 1, vR 8] n g h (RV g Q) := by
  refine Cl.of (by decide) [some (vR 1), some (vR 8), none, none] rfl (Nat.le_of_ble_eq_true rfl) ?_
  intro p e s m args below meth c a
  unfold wp_X6_readPerson at hw
  refine ok_iconst (pc := 0) a dX6_readPerson_0 ?_
  refine ok_sI_n (pc := 1) a [some (vR 1), some (vR 8), some (vI 0), none] dX6_readPerson_1 rfl (by decide) rfl rfl ?_
  refine lp.use (P := fun y => OK Γ p l e (rmd 2 n n) s m args below meth c n (MQ below (QQ Γ n (RV g Q)) args s (n - n) (sl n - sl n) (AA Γ)) 2 [some (vR 1), some (vR 8), some (vI y.1), none] [] n g y.2) ?_ (0, h) hw
  clear hw
  intro X2 hX2 y hw
  obtain ⟨x2_2, h_2⟩ := y
  have hw : wp_X6_readPerson_B2 Q X2 x2_2 h_2 := hw
  unfold wp_X6_readPerson_B2 at hw
  try dsimp only
  refine ok_iload_n (pc := 2) a dX6_readPerson_2 rfl rfl ?_
  refine ok_iconst (pc := 3) a dX6_readPerson_3 ?_
  obtain ⟨hc1, hw⟩ := hw
  refine ok_icmp_ge (pc := 4) a 42 dX6_readPerson_4 (by decide) hc1 ⟨by decide, by decide⟩ (fun hd14 => ?_) (fun hd14 => ?_)
  · have hw := hw.1 hd14
    refine ok_aload_n (pc := 42) a dX6_readPerson_42 rfl rfl ?_
    refine ok_VRV (pc := 43) a [] [] (M_X6_readEnd hn tg   hw) dX6_readPerson_43 lkRX6_63 rfl (Nat.lt_of_lt_of_le (by decide) hn) kq1 (by decide) rfl ⟨Nat.le_of_ble_eq_true rfl, Nat.le_of_ble_eq_true rfl⟩ rfl (Nat.le_of_ble_eq_true rfl) rfl (fun h2 hw => ?_)
    refine ok_aload_n (pc := 46) a dX6_readPerson_46 rfl rfl ?_
    refine ok_VPZ (pc := 47) a [] [] (M_X6_hasFault hn tg   hw) dX6_readPerson_47 lkRX6_33 rfl (Nat.lt_of_lt_of_le (by decide) hn) kq1 (by decide) rfl ⟨Nat.le_of_ble_eq_true rfl, Nat.le_of_ble_eq_true rfl⟩ rfl (Nat.le_of_ble_eq_true rfl) rfl (fun r3 hz4 hw => ?_)
    refine ok_if_ne (pc := 50) a 63 dX6_readPerson_50 (by decide) (inR_b hz4) (fun hd6 => ?_) (fun hd6 => ?_)
    · have hw := hw.2 hd6
      exact ok_vret (pc := 63) a dX6_readPerson_63 ⟨rfl, rfl, hw⟩
    · have hw := hw.1 hd6
      refine ok_aload_n (pc := 53) a dX6_readPerson_53 rfl rfl ?_
      refine ok_dup (pc := 54) a dX6_readPerson_54 (by rfl) ?_
      refine ok_fI (pc := 55) 4 a dX6_readPerson_55 lfRX6_41 (Nat.lt_of_lt_of_le (by decide) hn) kq8 ty_7_4 rfl ?_
      refine ok_iconst (pc := 58) a dX6_readPerson_58 ?_
      refine ok_iadd (pc := 59) a dX6_readPerson_59 ?_
      refine ok_pI (pc := 60) 4 a dX6_readPerson_60 lfRX6_41 fi_7_4 (Nat.lt_of_lt_of_le (by decide) hn) kq8 ty_7_4 rfl (fun h5 eh5 => ?_)
      have hw := hw h5 eh5
      exact ok_vret (pc := 63) a dX6_readPerson_63 ⟨rfl, rfl, hw⟩
  · have hw := hw.2 hd14
    refine ok_aload_n (pc := 7) a dX6_readPerson_7 rfl rfl ?_
    refine ok_iconst (pc := 8) a dX6_readPerson_8 ?_
    refine ok_bipush (pc := 9) a dX6_readPerson_9 (by decide) ?_
    refine ok_VRI (pc := 11) a [(vI 0), (vI 9)] [] (M_X6_readNumber hn tg 0 9  hw) dX6_readPerson_11 lkRX6_59 rfl (Nat.lt_of_lt_of_le (by decide) hn) kq1 (by decide) rfl ⟨Nat.le_of_ble_eq_true rfl, Nat.le_of_ble_eq_true rfl⟩ rfl (Nat.le_of_ble_eq_true rfl) rfl (fun r7 h8 hw => ?_)
    refine ok_sI_n (pc := 14) a [some (vR 1), some (vR 8), some (vI x2_2), some (vI r7)] dX6_readPerson_14 rfl (by decide) rfl rfl ?_
    refine ok_aload_n (pc := 15) a dX6_readPerson_15 rfl rfl ?_
    refine ok_VPZ (pc := 16) a [] [] (M_X6_hasFault hn tg   hw) dX6_readPerson_16 lkRX6_33 rfl (Nat.lt_of_lt_of_le (by decide) hn) kq1 (by decide) rfl ⟨Nat.le_of_ble_eq_true rfl, Nat.le_of_ble_eq_true rfl⟩ rfl (Nat.le_of_ble_eq_true rfl) rfl (fun r9 hz10 hw => ?_)
    have hJ36 : ∀ (h_36 : aH), wp_X6_readPerson_J36 X2 x2_2 h_36 → OK Γ p l e (rmd 2 n n) s m args below meth c n (MQ below (QQ Γ n (RV g Q)) args s (n - n) (sl n - sl n) (AA Γ)) 36 [some (vR 1), some (vR 8), some (vI x2_2), some (vI r7)] [] n g h_36 := by
      intro h_36 hw
      unfold wp_X6_readPerson_J36 at hw
      refine ok_inc (pc := 36) a [some (vR 1), some (vR 8), some (vI (x2_2 + 1)), some (vI r7)] dX6_readPerson_36 rfl (by decide) rfl rfl ?_
      refine ok_goto (pc := 39) a 2 dX6_readPerson_39 (by decide) ?_
      refine ok_forget 3 ?_
      exact hX2 ((x2_2 + 1), h_36) hw
    refine ok_if_ne (pc := 19) a 36 dX6_readPerson_19 (by decide) (inR_b hz10) (fun hd13 => ?_) (fun hd13 => ?_)
    · have hw := hw.2 hd13
      exact hJ36 h8 hw
    · have hw := hw.1 hd13
      refine ok_aload_n (pc := 22) a dX6_readPerson_22 rfl rfl ?_
      refine ok_getR (pc := 23) a dX6_readPerson_23 lfRX6_70 (Nat.lt_of_lt_of_le (by decide) hn) kq8 rfl (tg.at 8 1 10 (by decide) (by decide)) ?_
      refine ok_aload_n (pc := 26) a dX6_readPerson_26 rfl rfl ?_
      refine ok_fI (pc := 27) 4 a dX6_readPerson_27 lfRX6_41 (Nat.lt_of_lt_of_le (by decide) hn) kq8 ty_7_4 rfl ?_
      refine ok_iconst (pc := 30) a dX6_readPerson_30 ?_
      refine ok_imul (pc := 31) a dX6_readPerson_31 ?_
      refine ok_iload_n (pc := 32) a dX6_readPerson_32 rfl rfl ?_
      refine ok_iadd (pc := 33) a dX6_readPerson_33 ?_
      refine ok_iload_n (pc := 34) a dX6_readPerson_34 rfl rfl ?_
      obtain ⟨hc11, hw⟩ := hw
      refine ok_iast (pc := 35) a dX6_readPerson_35 (Nat.lt_of_lt_of_le (by decide) hn) kq10 (by decide) hc11 (ok_nmH (fun h12 eh12 => ?_))
      have hw := hw h12 eh12
      exact hJ36 h12 hw

def wp_X6_readGrowth  (h : aH) (Q : aH → Prop) : Prop :=
  wp_X6_readNumber 0 ((h 8 4) - 1) h (fun r1 h2 => wp_X6_readNumber 0 3 h2 (fun r3 h4 => wp_X6_readNumber 0 3 h4 (fun r5 h6 => wp_X6_readEnd h6 (fun h7 => wp_X6_hasFault h7 (fun r8 => ((r8 = 0 → (0 ≤ ((r1 * 4) + r3) ∧ ((r1 * 4) + r3) < 16) ∧ ∀ h11, h11 = up h7 11 ((r1 * 4) + r3) r5 → Q h11) ∧ (¬ r8 = 0 → Q h7)))))))
set_option maxRecDepth 100000 in
set_option maxHeartbeats 4000000 in
theorem M_X6_readGrowth {Γ : Gm} {l : Launch} {n : Nat} {g : aG} (hn : 59 ≤ n) (tg : TC g)   {h : aH} {Q : aH → Prop} (hw : wp_X6_readGrowth  h Q) : Cl Γ l mX6_readGrowth [vR 1, vR 8] n g h (RV g Q) := by
  refine Cl.of (by decide) [some (vR 1), some (vR 8), none, none, none] rfl (Nat.le_of_ble_eq_true rfl) ?_
  intro p e s m args below meth c a
  unfold wp_X6_readGrowth at hw
  refine ok_aload_n (pc := 0) a dX6_readGrowth_0 rfl rfl ?_
  refine ok_iconst (pc := 1) a dX6_readGrowth_1 ?_
  refine ok_aload_n (pc := 2) a dX6_readGrowth_2 rfl rfl ?_
  refine ok_fI (pc := 3) 4 a dX6_readGrowth_3 lfRX6_41 (Nat.lt_of_lt_of_le (by decide) hn) kq8 ty_7_4 rfl ?_
  refine ok_iconst (pc := 6) a dX6_readGrowth_6 ?_
  refine ok_isub (pc := 7) a dX6_readGrowth_7 ?_
  refine ok_VRI (pc := 8) a [(vI 0), (vI ((h 8 4) - 1))] [] (M_X6_readNumber hn tg 0 ((h 8 4) - 1)  hw) dX6_readGrowth_8 lkRX6_59 rfl (Nat.lt_of_lt_of_le (by decide) hn) kq1 (by decide) rfl ⟨Nat.le_of_ble_eq_true rfl, Nat.le_of_ble_eq_true rfl⟩ rfl (Nat.le_of_ble_eq_true rfl) rfl (fun r1 h2 hw => ?_)
  refine ok_sI_n (pc := 11) a [some (vR 1), some (vR 8), some (vI r1), none, none] dX6_readGrowth_11 rfl (by decide) rfl rfl ?_
  refine ok_aload_n (pc := 12) a dX6_readGrowth_12 rfl rfl ?_
  refine ok_iconst (pc := 13) a dX6_readGrowth_13 ?_
  refine ok_iconst (pc := 14) a dX6_readGrowth_14 ?_
  refine ok_VRI (pc := 15) a [(vI 0), (vI 3)] [] (M_X6_readNumber hn tg 0 3  hw) dX6_readGrowth_15 lkRX6_59 rfl (Nat.lt_of_lt_of_le (by decide) hn) kq1 (by decide) rfl ⟨Nat.le_of_ble_eq_true rfl, Nat.le_of_ble_eq_true rfl⟩ rfl (Nat.le_of_ble_eq_true rfl) rfl (fun r3 h4 hw => ?_)
  refine ok_sI_n (pc := 18) a [some (vR 1), some (vR 8), some (vI r1), some (vI r3), none] dX6_readGrowth_18 rfl (by decide) rfl rfl ?_
  refine ok_aload_n (pc := 19) a dX6_readGrowth_19 rfl rfl ?_
  refine ok_iconst (pc := 20) a dX6_readGrowth_20 ?_
  refine ok_iconst (pc := 21) a dX6_readGrowth_21 ?_
  refine ok_VRI (pc := 22) a [(vI 0), (vI 3)] [] (M_X6_readNumber hn tg 0 3  hw) dX6_readGrowth_22 lkRX6_59 rfl (Nat.lt_of_lt_of_le (by decide) hn) kq1 (by decide) rfl ⟨Nat.le_of_ble_eq_true rfl, Nat.le_of_ble_eq_true rfl⟩ rfl (Nat.le_of_ble_eq_true rfl) rfl (fun r5 h6 hw => ?_)
  refine ok_sI (pc := 25) a [some (vR 1), some (vR 8), some (vI r1), some (vI r3), some (vI r5)] dX6_readGrowth_25 (by decide) rfl rfl ?_
  refine ok_aload_n (pc := 27) a dX6_readGrowth_27 rfl rfl ?_
  refine ok_VRV (pc := 28) a [] [] (M_X6_readEnd hn tg   hw) dX6_readGrowth_28 lkRX6_63 rfl (Nat.lt_of_lt_of_le (by decide) hn) kq1 (by decide) rfl ⟨Nat.le_of_ble_eq_true rfl, Nat.le_of_ble_eq_true rfl⟩ rfl (Nat.le_of_ble_eq_true rfl) rfl (fun h7 hw => ?_)
  refine ok_aload_n (pc := 31) a dX6_readGrowth_31 rfl rfl ?_
  refine ok_VPZ (pc := 32) a [] [] (M_X6_hasFault hn tg   hw) dX6_readGrowth_32 lkRX6_33 rfl (Nat.lt_of_lt_of_le (by decide) hn) kq1 (by decide) rfl ⟨Nat.le_of_ble_eq_true rfl, Nat.le_of_ble_eq_true rfl⟩ rfl (Nat.le_of_ble_eq_true rfl) rfl (fun r8 hz9 hw => ?_)
  refine ok_if_ne (pc := 35) a 50 dX6_readGrowth_35 (by decide) (inR_b hz9) (fun hd12 => ?_) (fun hd12 => ?_)
  · have hw := hw.2 hd12
    exact ok_vret (pc := 50) a dX6_readGrowth_50 ⟨rfl, rfl, hw⟩
  · have hw := hw.1 hd12
    refine ok_aload_n (pc := 38) a dX6_readGrowth_38 rfl rfl ?_
    refine ok_getR (pc := 39) a dX6_readGrowth_39 lfRX6_73 (Nat.lt_of_lt_of_le (by decide) hn) kq8 rfl (tg.at 8 2 11 (by decide) (by decide)) ?_
    refine ok_iload_n (pc := 42) a dX6_readGrowth_42 rfl rfl ?_
    refine ok_iconst (pc := 43) a dX6_readGrowth_43 ?_
    refine ok_imul (pc := 44) a dX6_readGrowth_44 ?_
    refine ok_iload_n (pc := 45) a dX6_readGrowth_45 rfl rfl ?_
    refine ok_iadd (pc := 46) a dX6_readGrowth_46 ?_
    refine ok_iload (pc := 47) a dX6_readGrowth_47 rfl ?_
    obtain ⟨hc10, hw⟩ := hw
    refine ok_iast (pc := 49) a dX6_readGrowth_49 (Nat.lt_of_lt_of_le (by decide) hn) kq11 (by decide) hc10 (ok_nmH (fun h11 eh11 => ?_))
    have hw := hw h11 eh11
    exact ok_vret (pc := 50) a dX6_readGrowth_50 ⟨rfl, rfl, hw⟩
