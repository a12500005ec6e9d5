def wp_X0_weigh_B4 (x0 : Int) (h : aH) (Q : Int → Prop) (X4 : Int × Int → Prop) (x2_4 : Int) (x3_4 : Int) : Prop :=
  inR x3_4 ∧ inR (h 3 5) ∧ (((h 3 5) ≤ x3_4 → Q x2_4) ∧ (¬ (h 3 5) ≤ x3_4 → (inR (band (bshr x0 x3_4) 1) ∧ (((band (bshr x0 x3_4) 1) = 1 → (0 ≤ x3_4 ∧ x3_4 < 5) ∧ True) ∧ (¬ (band (bshr x0 x3_4) 1) = 1 → True))) ∧ X4 ((if (band (bshr x0 x3_4) 1) = 1 then (x2_4 + (h 7 x3_4)) else x2_4 : Int), (x3_4 + 1))))
def wp_X0_weigh (x0 : Int) (h : aH) (Q : Int → Prop) : Prop :=
  lp (fun X y => wp_X0_weigh_B4 x0 h Q X y.1 y.2) (0, 0)
set_option maxRecDepth 100000 in
set_option maxHeartbeats 4000000 in
theorem M_X0_weigh {Γ : Gm} {l : Launch} {n : Nat} {g : aG} (hn : 59 ≤ n) (tg : TC g) (x0 : Int)  {h : aH} {Q : Int → Prop} (hw : wp_X0_weigh x0 h Q) : Cl Γ l mX0_weigh [vI x0, vR 3] n g h (PI g h Q) := by
  refine Cl.of (by decide) [some (vI x0), some (vR 3), none, none] rfl (Nat.le_of_ble_eq_true rfl) ?_
  intro p e s m args below meth c a
  unfold wp_X0_weigh at hw
  refine ok_iconst (pc := 0) a dX0_weigh_0 ?_
  refine ok_sI_n (pc := 1) a [some (vI x0), some (vR 3), some (vI 0), none] dX0_weigh_1 rfl (by decide) rfl rfl ?_
  refine ok_iconst (pc := 2) a dX0_weigh_2 ?_
  refine ok_sI_n (pc := 3) a [some (vI x0), some (vR 3), some (vI 0), some (vI 0)] dX0_weigh_3 rfl (by decide) rfl rfl ?_
  refine lp.use (P := fun y => OK Γ p l e (rmd 0 n n) s m args below meth c n (MQ below (QQ Γ n (PI g h Q)) args s (n - n) (sl n - sl n) (AA Γ)) 4 [some (vI x0), some (vR 3), some (vI y.1), some (vI y.2)] [] n g h) ?_ (0, 0) hw
  clear hw
  intro X4 hX4 y hw
  obtain ⟨x2_4, x3_4⟩ := y
  have hw : wp_X0_weigh_B4 x0 h Q X4 x2_4 x3_4 := hw
  unfold wp_X0_weigh_B4 at hw
  try dsimp only
  refine ok_iload_n (pc := 4) a dX0_weigh_4 rfl rfl ?_
  refine ok_aload_n (pc := 5) a dX0_weigh_5 rfl rfl ?_
  refine ok_fI (pc := 6) 5 a dX0_weigh_6 lfRX0_18 (Nat.lt_of_lt_of_le (by decide) hn) kq3 ty_7_5 rfl ?_
  obtain ⟨hc1, hw⟩ := hw
  obtain ⟨hc2, hw⟩ := hw
  refine ok_icmp_ge (pc := 9) a 36 dX0_weigh_9 (by decide) hc1 hc2 (fun hd6 => ?_) (fun hd6 => ?_)
  · have hw := hw.1 hd6
    refine ok_iload_n (pc := 36) a dX0_weigh_36 rfl rfl ?_
    exact ok_iret (pc := 37) a dX0_weigh_37 ⟨_, rfl, rfl, rfl, hw⟩
  · have hw := hw.2 hd6
    refine ok_iload_n (pc := 12) a dX0_weigh_12 rfl rfl ?_
    refine ok_iload_n (pc := 13) a dX0_weigh_13 rfl rfl ?_
    refine ok_ishr (pc := 14) a dX0_weigh_14 ?_
    refine ok_iconst (pc := 15) a dX0_weigh_15 ?_
    refine ok_iand (pc := 16) a dX0_weigh_16 ?_
    refine ok_iconst (pc := 17) a dX0_weigh_17 ?_
    obtain ⟨hR, hw⟩ := hw
    have hK : OK Γ p l e (rmd 0 n n) s m args below meth c n (MQ below (QQ Γ n (PI g h Q)) args s (n - n) (sl n - sl n) (AA Γ)) 30 [some (vI x0), some (vR 3), some (vI (if (band (bshr x0 x3_4) 1) = 1 then (x2_4 + (h 7 x3_4)) else x2_4 : Int)), some (vI x3_4)] [] n g h := by
      refine ok_inc (pc := 30) a [some (vI x0), some (vR 3), some (vI (if (band (bshr x0 x3_4) 1) = 1 then (x2_4 + (h 7 x3_4)) else x2_4 : Int)), some (vI (x3_4 + 1))] dX0_weigh_30 rfl (by decide) rfl rfl ?_
      refine ok_goto (pc := 33) a 4 dX0_weigh_33 (by decide) ?_
      exact hX4 ((if (band (bshr x0 x3_4) 1) = 1 then (x2_4 + (h 7 x3_4)) else x2_4 : Int), (x3_4 + 1)) hw
    have hw := hR
    obtain ⟨hc3, hw⟩ := hw
    refine ok_icmp_ne (pc := 18) a 30 dX0_weigh_18 (by decide) hc3 ⟨by decide, by decide⟩ (fun hd4 => ?_) (fun hd4 => ?_)
    · simp only [if_neg hd4] at hK
      exact hK
    · have hw := hw.1 hd4
      refine ok_iload_n (pc := 21) a dX0_weigh_21 rfl rfl ?_
      refine ok_aload_n (pc := 22) a dX0_weigh_22 rfl rfl ?_
      refine ok_getR (pc := 23) a dX0_weigh_23 lfRX0_55 (Nat.lt_of_lt_of_le (by decide) hn) kq3 rfl (tg.at 3 3 7 (by decide) (by decide)) ?_
      refine ok_iload_n (pc := 26) a dX0_weigh_26 rfl rfl ?_
      obtain ⟨hc5, hw⟩ := hw
      refine ok_iald (pc := 27) a dX0_weigh_27 (Nat.lt_of_lt_of_le (by decide) hn) kq7 (by decide) hc5 ?_
      refine ok_iadd (pc := 28) a dX0_weigh_28 ?_
      refine ok_sI_n (pc := 29) a [some (vI x0), some (vR 3), some (vI (x2_4 + (h 7 x3_4))), some (vI x3_4)] dX0_weigh_29 rfl (by decide) rfl rfl ?_
      simp only [if_pos hd4] at hK
      exact hK

def wp_J7_fill_53178_B5 (k : Nat) (len : Nat) (x1 : Int) (Q : aH → Prop) (x3_4 : Int) (X5 : Int × aH → Prop) (x2_5 : Int) (h_5 : aH) : Prop :=
  inR x2_5 ∧ inR x3_4 ∧ ((x3_4 ≤ x2_5 → Q h_5) ∧ (¬ x3_4 ≤ x2_5 → (0 ≤ x2_5 ∧ x2_5 < len) ∧ ∀ h4, h4 = up h_5 k x2_5 x1 → X5 ((x2_5 + 1), h4)))
def wp_J7_fill_53178 (k : Nat) (len : Nat) (x1 : Int) (h : aH) (Q : aH → Prop) : Prop :=
  ∀ x3_4, x3_4 = (len : Int) → lp (fun X y => wp_J7_fill_53178_B5 k len x1 Q x3_4 X y.1 y.2) (0, h)
set_option maxRecDepth 100000 in
set_option maxHeartbeats 4000000 in
theorem M_J7_fill_53178 {Γ : Gm} {l : Launch} {n : Nat} {g : aG} (hn : 59 ≤ n) (tg : TC g) (k : Nat) (len : Nat) (x1 : Int) (hlen : len < 2147483648) (hkk : kd k = (10, len)) (hlk : k < 59) {h : aH} {Q : aH → Prop} (hw : wp_J7_fill_53178 k len x1 h Q) : Cl Γ l mJ7_fill_53178 [vR k, vI x1] n g h (RV g Q) := by
  refine Cl.of (by decide) [some (vR k), some (vI x1), none, none] rfl (Nat.le_of_ble_eq_true rfl) ?_
  intro p e s m args below meth c a
  unfold wp_J7_fill_53178 at hw
  refine ok_iconst (pc := 0) a dJ7_fill_53178_0 ?_
  refine ok_sI_n (pc := 1) a [some (vR k), some (vI x1), some (vI 0), none] dJ7_fill_53178_1 rfl (by decide) rfl rfl ?_
  refine ok_aload_n (pc := 2) a dJ7_fill_53178_2 rfl rfl ?_
  refine ok_al (pc := 3) (len : Int) a dJ7_fill_53178_3 (Nat.lt_of_lt_of_le hlk hn) hkk (by decide) rfl ?_
  refine ok_nmI (fun x3_4 ex3_4 => ?_)
  have hw := hw x3_4 ex3_4
  refine ok_sI_n (pc := 4) a [some (vR k), some (vI x1), some (vI 0), some (vI x3_4)] dJ7_fill_53178_4 rfl (by decide) rfl rfl ?_
  refine lp.use (P := fun y => OK Γ p l e (rmd 0 n n) s m args below meth c n (MQ below (QQ Γ n (RV g Q)) args s (n - n) (sl n - sl n) (AA Γ)) 5 [some (vR k), some (vI x1), some (vI y.1), some (vI x3_4)] [] n g y.2) ?_ (0, h) hw
  clear hw
  intro X5 hX5 y hw
  obtain ⟨x2_5, h_5⟩ := y
  have hw : wp_J7_fill_53178_B5 k len x1 Q x3_4 X5 x2_5 h_5 := hw
  unfold wp_J7_fill_53178_B5 at hw
  try dsimp only
  refine ok_iload_n (pc := 5) a dJ7_fill_53178_5 rfl rfl ?_
  refine ok_iload_n (pc := 6) a dJ7_fill_53178_6 rfl rfl ?_
  obtain ⟨hc1, hw⟩ := hw
  obtain ⟨hc2, hw⟩ := hw
  refine ok_icmp_ge (pc := 7) a 20 dJ7_fill_53178_7 (by decide) hc1 hc2 (fun hd5 => ?_) (fun hd5 => ?_)
  · have hw := hw.1 hd5
    exact ok_vret (pc := 20) a dJ7_fill_53178_20 ⟨rfl, rfl, hw⟩
  · have hw := hw.2 hd5
    refine ok_aload_n (pc := 10) a dJ7_fill_53178_10 rfl rfl ?_
    refine ok_iload_n (pc := 11) a dJ7_fill_53178_11 rfl rfl ?_
    refine ok_iload_n (pc := 12) a dJ7_fill_53178_12 rfl rfl ?_
    obtain ⟨hc3, hw⟩ := hw
    refine ok_iast (pc := 13) a dJ7_fill_53178_13 (Nat.lt_of_lt_of_le hlk hn) hkk hlen hc3 (ok_nmH (fun h4 eh4 => ?_))
    have hw := hw h4 eh4
    refine ok_inc (pc := 14) a [some (vR k), some (vI x1), some (vI (x2_5 + 1)), some (vI x3_4)] dJ7_fill_53178_14 rfl (by decide) rfl rfl ?_
    refine ok_goto (pc := 17) a 5 dJ7_fill_53178_17 (by decide) ?_
    exact hX5 ((x2_5 + 1), h4) hw

def wp_X8_within (x0 : Int) (x1 : Int) (x2 : Int) (h : aH) (Q : Int → Prop) : Prop :=
  (inR x0 ∧ inR x1 ∧ ((x0 < x1 → True) ∧ (¬ x0 < x1 → inR x2 ∧ True))) ∧ Q (if x0 < x1 then 0 else (if x2 < x0 then 0 else 1 : Int) : Int)
set_option maxRecDepth 100000 in
set_option maxHeartbeats 4000000 in
theorem M_X8_within {Γ : Gm} {l : Launch} {n : Nat} {g : aG} (hn : 59 ≤ n) (tg : TC g) (x0 : Int) (x1 : Int) (x2 : Int)  {h : aH} {Q : Int → Prop} (hw : wp_X8_within x0 x1 x2 h Q) : Cl Γ l mX8_within [vI x0, vI x1, vI x2] n g h (PZ g h Q) := by
  refine Cl.of (by decide) [some (vI x0), some (vI x1), some (vI x2)] rfl (Nat.le_of_ble_eq_true rfl) ?_
  intro p e s m args below meth c a
  unfold wp_X8_within at hw
  refine ok_iload_n (pc := 0) a dX8_within_0 rfl rfl ?_
  refine ok_iload_n (pc := 1) a dX8_within_1 rfl rfl ?_
  obtain ⟨hR, hw⟩ := hw
  have hK : OK Γ p l e (rmd 0 n n) s m args below meth c n (MQ below (QQ Γ n (PZ g h Q)) args s (n - n) (sl n - sl n) (AA Γ)) 15 [some (vI x0), some (vI x1), some (vI x2)] [(vI (if x0 < x1 then 0 else (if x2 < x0 then 0 else 1 : Int) : Int))] n g h := by
    exact ok_zret (pc := 15) a dX8_within_15 (ite01 (Or.inl rfl) (ite01 (Or.inl rfl) (Or.inr rfl))) ⟨_, rfl, rfl, rfl, (ite01 (Or.inl rfl) (ite01 (Or.inl rfl) (Or.inr rfl))), hw⟩
  have hw := hR
  obtain ⟨hc1, hw⟩ := hw
  obtain ⟨hc2, hw⟩ := hw
  refine ok_icmp_lt (pc := 2) a 14 dX8_within_2 (by decide) hc1 hc2 (fun hd3 => ?_) (fun hd3 => ?_)
  · refine ok_iconst (pc := 14) a dX8_within_14 ?_
    simp only [if_pos hd3] at hK
    exact hK
  · have hw := hw.2 hd3
    refine ok_iload_n (pc := 5) a dX8_within_5 rfl rfl ?_
    refine ok_iload_n (pc := 6) a dX8_within_6 rfl rfl ?_
    obtain ⟨hc4, hw⟩ := hw
    refine ok_icmp_gt (pc := 7) a 14 dX8_within_7 (by decide) hc1 hc4 (fun hd5 => ?_) (fun hd5 => ?_)
    · refine ok_iconst (pc := 14) a dX8_within_14 ?_
      simp only [if_neg hd3, if_pos hd5] at hK
      exact hK
    · refine ok_iconst (pc := 10) a dX8_within_10 ?_
      refine ok_goto (pc := 11) a 15 dX8_within_11 (by decide) ?_
      simp only [if_neg hd3, if_neg hd5] at hK
      exact hK

def wp_X0_canWeigh (x1 : Int) (h : aH) (Q : Int → Prop) : Prop :=
  (0 ≤ x1 ∧ x1 < 301) ∧ (inR (h 48 x1) ∧ True) ∧ Q (if (h 48 x1) = (-9) then 0 else 1 : Int)
set_option maxRecDepth 100000 in
set_option maxHeartbeats 4000000 in
theorem M_X0_canWeigh {Γ : Gm} {l : Launch} {n : Nat} {g : aG} (hn : 59 ≤ n) (tg : TC g) (x1 : Int)  {h : aH} {Q : Int → Prop} (hw : wp_X0_canWeigh x1 h Q) : Cl Γ l mX0_canWeigh [vR 46, vI x1] n g h (PZ g h Q) := by
  refine Cl.of (by decide) [some (vR 46), some (vI x1)] rfl (Nat.le_of_ble_eq_true rfl) ?_
  intro p e s m args below meth c a
  unfold wp_X0_canWeigh at hw
  refine ok_aload_n (pc := 0) a dX0_canWeigh_0 rfl rfl ?_
  refine ok_getR (pc := 1) a dX0_canWeigh_1 lfRX0_15 (Nat.lt_of_lt_of_le (by decide) hn) kq46 rfl (tg.at 46 1 48 (by decide) (by decide)) ?_
  refine ok_iload_n (pc := 4) a dX0_canWeigh_4 rfl rfl ?_
  obtain ⟨hc1, hw⟩ := hw
  refine ok_iald (pc := 5) a dX0_canWeigh_5 (Nat.lt_of_lt_of_le (by decide) hn) kq48 (by decide) hc1 ?_
  refine ok_bipush (pc := 6) a dX0_canWeigh_6 (by decide) ?_
  obtain ⟨hR, hw⟩ := hw
  have hK : OK Γ p l e (rmd 0 n n) s m args below meth c n (MQ below (QQ Γ n (PZ g h Q)) args s (n - n) (sl n - sl n) (AA Γ)) 16 [some (vR 46), some (vI x1)] [(vI (if (h 48 x1) = (-9) then 0 else 1 : Int))] n g h := by
    exact ok_zret (pc := 16) a dX0_canWeigh_16 (ite01 (Or.inl rfl) (Or.inr rfl)) ⟨_, rfl, rfl, rfl, (ite01 (Or.inl rfl) (Or.inr rfl)), hw⟩
  have hw := hR
  obtain ⟨hc2, hw⟩ := hw
  refine ok_icmp_eq (pc := 8) a 15 dX0_canWeigh_8 (by decide) hc2 ⟨by decide, by decide⟩ (fun hd3 => ?_) (fun hd3 => ?_)
  · refine ok_iconst (pc := 15) a dX0_canWeigh_15 ?_
    simp only [if_pos hd3] at hK
    exact hK
  · refine ok_iconst (pc := 11) a dX0_canWeigh_11 ?_
    refine ok_goto (pc := 12) a 16 dX0_canWeigh_12 (by decide) ?_
    simp only [if_neg hd3] at hK
    exact hK

def wp_J6_bitCount_0f7a4 (x0 : Int) (h : aH) (Q : Int → Prop) : Prop :=
  ∀ x0_9, x0_9 = (x0 - (band (bushr x0 1) 1431655765)) → ∀ x0_23, x0_23 = ((band x0_9 858993459) + (band (bushr x0_9 2) 858993459)) → ∀ x0_33, x0_33 = (band (x0_23 + (bushr x0_23 4)) 252645135) → ∀ x0_40, x0_40 = (x0_33 + (bushr x0_33 8)) → ∀ x0_47, x0_47 = (x0_40 + (bushr x0_40 16)) → Q (band x0_47 63)
set_option maxRecDepth 100000 in
set_option maxHeartbeats 4000000 in
theorem M_J6_bitCount_0f7a4 {Γ : Gm} {l : Launch} {n : Nat} {g : aG} (hn : 59 ≤ n) (tg : TC g) (x0 : Int)  {h : aH} {Q : Int → Prop} (hw : wp_J6_bitCount_0f7a4 x0 h Q) : Cl Γ l mJ6_bitCount_0f7a4 [vI x0] n g h (PI g h Q) := by
  refine Cl.of (by decide) [some (vI x0)] rfl (Nat.le_of_ble_eq_true rfl) ?_
  intro p e s m args below meth c a
  unfold wp_J6_bitCount_0f7a4 at hw
  refine ok_iload_n (pc := 0) a dJ6_bitCount_0f7a4_0 rfl rfl ?_
  refine ok_iload_n (pc := 1) a dJ6_bitCount_0f7a4_1 rfl rfl ?_
  refine ok_iconst (pc := 2) a dJ6_bitCount_0f7a4_2 ?_
  refine ok_iushr (pc := 3) a dJ6_bitCount_0f7a4_3 ?_
  refine ok_ldcw (pc := 4) (x := 1431655765) a dJ6_bitCount_0f7a4_4 ctRJ6_265 (by decide) ?_
  refine ok_iand (pc := 7) a dJ6_bitCount_0f7a4_7 ?_
  refine ok_isub (pc := 8) a dJ6_bitCount_0f7a4_8 ?_
  refine ok_nmI (fun x0_9 ex0_9 => ?_)
  have hw := hw x0_9 ex0_9
  refine ok_sI_n (pc := 9) a [some (vI x0_9)] dJ6_bitCount_0f7a4_9 rfl (by decide) rfl rfl ?_
  refine ok_iload_n (pc := 10) a dJ6_bitCount_0f7a4_10 rfl rfl ?_
  refine ok_ldcw (pc := 11) (x := 858993459) a dJ6_bitCount_0f7a4_11 ctRJ6_266 (by decide) ?_
  refine ok_iand (pc := 14) a dJ6_bitCount_0f7a4_14 ?_
  refine ok_iload_n (pc := 15) a dJ6_bitCount_0f7a4_15 rfl rfl ?_
  refine ok_iconst (pc := 16) a dJ6_bitCount_0f7a4_16 ?_
  refine ok_iushr (pc := 17) a dJ6_bitCount_0f7a4_17 ?_
  refine ok_ldcw (pc := 18) (x := 858993459) a dJ6_bitCount_0f7a4_18 ctRJ6_266 (by decide) ?_
  refine ok_iand (pc := 21) a dJ6_bitCount_0f7a4_21 ?_
  refine ok_iadd (pc := 22) a dJ6_bitCount_0f7a4_22 ?_
  refine ok_nmI (fun x0_23 ex0_23 => ?_)
  have hw := hw x0_23 ex0_23
  refine ok_sI_n (pc := 23) a [some (vI x0_23)] dJ6_bitCount_0f7a4_23 rfl (by decide) rfl rfl ?_
  refine ok_iload_n (pc := 24) a dJ6_bitCount_0f7a4_24 rfl rfl ?_
  refine ok_iload_n (pc := 25) a dJ6_bitCount_0f7a4_25 rfl rfl ?_
  refine ok_iconst (pc := 26) a dJ6_bitCount_0f7a4_26 ?_
  refine ok_iushr (pc := 27) a dJ6_bitCount_0f7a4_27 ?_
  refine ok_iadd (pc := 28) a dJ6_bitCount_0f7a4_28 ?_
  refine ok_ldcw (pc := 29) (x := 252645135) a dJ6_bitCount_0f7a4_29 ctRJ6_267 (by decide) ?_
  refine ok_iand (pc := 32) a dJ6_bitCount_0f7a4_32 ?_
  refine ok_nmI (fun x0_33 ex0_33 => ?_)
  have hw := hw x0_33 ex0_33
  refine ok_sI_n (pc := 33) a [some (vI x0_33)] dJ6_bitCount_0f7a4_33 rfl (by decide) rfl rfl ?_
  refine ok_iload_n (pc := 34) a dJ6_bitCount_0f7a4_34 rfl rfl ?_
  refine ok_iload_n (pc := 35) a dJ6_bitCount_0f7a4_35 rfl rfl ?_
  refine ok_bipush (pc := 36) a dJ6_bitCount_0f7a4_36 (by decide) ?_
  refine ok_iushr (pc := 38) a dJ6_bitCount_0f7a4_38 ?_
  refine ok_iadd (pc := 39) a dJ6_bitCount_0f7a4_39 ?_
  refine ok_nmI (fun x0_40 ex0_40 => ?_)
  have hw := hw x0_40 ex0_40
  refine ok_sI_n (pc := 40) a [some (vI x0_40)] dJ6_bitCount_0f7a4_40 rfl (by decide) rfl rfl ?_
  refine ok_iload_n (pc := 41) a dJ6_bitCount_0f7a4_41 rfl rfl ?_
  refine ok_iload_n (pc := 42) a dJ6_bitCount_0f7a4_42 rfl rfl ?_
  refine ok_bipush (pc := 43) a dJ6_bitCount_0f7a4_43 (by decide) ?_
  refine ok_iushr (pc := 45) a dJ6_bitCount_0f7a4_45 ?_
  refine ok_iadd (pc := 46) a dJ6_bitCount_0f7a4_46 ?_
  refine ok_nmI (fun x0_47 ex0_47 => ?_)
  have hw := hw x0_47 ex0_47
  refine ok_sI_n (pc := 47) a [some (vI x0_47)] dJ6_bitCount_0f7a4_47 rfl (by decide) rfl rfl ?_
  refine ok_iload_n (pc := 48) a dJ6_bitCount_0f7a4_48 rfl rfl ?_
  refine ok_bipush (pc := 49) a dJ6_bitCount_0f7a4_49 (by decide) ?_
  refine ok_iand (pc := 51) a dJ6_bitCount_0f7a4_51 ?_
  exact ok_iret (pc := 52) a dJ6_bitCount_0f7a4_52 ⟨_, rfl, rfl, rfl, hw⟩

def wp_X0_fewestPieces (x1 : Int) (h : aH) (Q : Int → Prop) : Prop :=
  (0 ≤ x1 ∧ x1 < 301) ∧ wp_J6_bitCount_0f7a4 (h 48 x1) h (fun r2 => Q r2)
set_option maxRecDepth 100000 in
set_option maxHeartbeats 4000000 in
theorem M_X0_fewestPieces {Γ : Gm} {l : Launch} {n : Nat} {g : aG} (hn : 59 ≤ n) (tg : TC g) (x1 : Int)  {h : aH} {Q : Int → Prop} (hw : wp_X0_fewestPieces x1 h Q) : Cl Γ l mX0_fewestPieces [vR 46, vI x1] n g h (PI g h Q) := by
  refine Cl.of (by decide) [some (vR 46), some (vI x1)] rfl (Nat.le_of_ble_eq_true rfl) ?_
  intro p e s m args below meth c a
  unfold wp_X0_fewestPieces at hw
  refine ok_aload_n (pc := 0) a dX0_fewestPieces_0 rfl rfl ?_
  refine ok_getR (pc := 1) a dX0_fewestPieces_1 lfRX0_15 (Nat.lt_of_lt_of_le (by decide) hn) kq46 rfl (tg.at 46 1 48 (by decide) (by decide)) ?_
  refine ok_iload_n (pc := 4) a dX0_fewestPieces_4 rfl rfl ?_
  obtain ⟨hc1, hw⟩ := hw
  refine ok_iald (pc := 5) a dX0_fewestPieces_5 (Nat.lt_of_lt_of_le (by decide) hn) kq48 (by decide) hc1 ?_
  refine ok_SPI (pc := 6) a [(vI (h 48 x1))] [] (M_J6_bitCount_0f7a4 hn tg (h 48 x1)  hw) dX0_fewestPieces_6 lkRX0_38 rfl ⟨Nat.le_of_ble_eq_true rfl, Nat.le_of_ble_eq_true rfl⟩ rfl (Nat.le_of_ble_eq_true rfl) rfl (fun r2 hw => ?_)
  exact ok_iret (pc := 9) a dX0_fewestPieces_9 ⟨_, rfl, rfl, rfl, hw⟩

def wp_X0_offer (x1 : Int) (x2 : Int) (h : aH) (Q : aH → Prop) : Prop :=
  (0 ≤ x1 ∧ x1 < 32) ∧ (0 ≤ x2 ∧ x2 < 32) ∧ ∀ x3_13, x3_13 = ((h 47 x1) - (h 47 x2)) → wp_X8_within x3_13 0 300 h (fun r3 => ((r3 = 0 → Q h) ∧ (¬ r3 = 0 → ∀ x4_31, x4_31 = (bor (bshl x1 5) x2) → wp_X0_canWeigh x3_13 h (fun r5 => ((r5 = 0 → (0 ≤ x3_13 ∧ x3_13 < 301) ∧ ∀ h8, h8 = up h 48 x3_13 x4_31 → Q h8) ∧ (¬ r5 = 0 → wp_J6_bitCount_0f7a4 x4_31 h (fun r9 => wp_X0_fewestPieces x3_13 h (fun r10 => inR r9 ∧ inR r10 ∧ ((r10 ≤ r9 → Q h) ∧ (¬ r10 ≤ r9 → (0 ≤ x3_13 ∧ x3_13 < 301) ∧ ∀ h14, h14 = up h 48 x3_13 x4_31 → Q h14))))))))))
set_option maxRecDepth 100000 in
set_option maxHeartbeats 4000000 in
theorem M_X0_offer {Γ : Gm} {l : Launch} {n : Nat} {g : aG} (hn : 59 ≤ n) (tg : TC g) (x1 : Int) (x2 : Int)  {h : aH} {Q : aH → Prop} (hw : wp_X0_offer x1 x2 h Q) : Cl Γ l mX0_offer [vR 46, vI x1, vI x2] n g h (RV g Q) := by
  refine Cl.of (by decide) [some (vR 46), some (vI x1), some (vI x2), none, none] rfl (Nat.le_of_ble_eq_true rfl) ?_
  intro p e s m args below meth c a
  unfold wp_X0_offer at hw
  refine ok_aload_n (pc := 0) a dX0_offer_0 rfl rfl ?_
  refine ok_getR (pc := 1) a dX0_offer_1 lfRX0_11 (Nat.lt_of_lt_of_le (by decide) hn) kq46 rfl (tg.at 46 0 47 (by decide) (by decide)) ?_
  refine ok_iload_n (pc := 4) a dX0_offer_4 rfl rfl ?_
  obtain ⟨hc1, hw⟩ := hw
  refine ok_iald (pc := 5) a dX0_offer_5 (Nat.lt_of_lt_of_le (by decide) hn) kq47 (by decide) hc1 ?_
  refine ok_aload_n (pc := 6) a dX0_offer_6 rfl rfl ?_
  refine ok_getR (pc := 7) a dX0_offer_7 lfRX0_11 (Nat.lt_of_lt_of_le (by decide) hn) kq46 rfl (tg.at 46 0 47 (by decide) (by decide)) ?_
  refine ok_iload_n (pc := 10) a dX0_offer_10 rfl rfl ?_
  obtain ⟨hc2, hw⟩ := hw
  refine ok_iald (pc := 11) a dX0_offer_11 (Nat.lt_of_lt_of_le (by decide) hn) kq47 (by decide) hc2 ?_
  refine ok_isub (pc := 12) a dX0_offer_12 ?_
  refine ok_nmI (fun x3_13 ex3_13 => ?_)
  have hw := hw x3_13 ex3_13
  refine ok_sI_n (pc := 13) a [some (vR 46), some (vI x1), some (vI x2), some (vI x3_13), none] dX0_offer_13 rfl (by decide) rfl rfl ?_
  refine ok_iload_n (pc := 14) a dX0_offer_14 rfl rfl ?_
  refine ok_iconst (pc := 15) a dX0_offer_15 ?_
  refine ok_sipush (pc := 16) a dX0_offer_16 (by decide) ?_
  refine ok_SPZ (pc := 19) a [(vI x3_13), (vI 0), (vI 300)] [] (M_X8_within hn tg x3_13 0 300  hw) dX0_offer_19 lkRX0_48 rfl ⟨Nat.le_of_ble_eq_true rfl, Nat.le_of_ble_eq_true rfl⟩ rfl (Nat.le_of_ble_eq_true rfl) rfl (fun r3 hz4 hw => ?_)
  refine ok_if_ne (pc := 22) a 26 dX0_offer_22 (by decide) (inR_b hz4) (fun hd17 => ?_) (fun hd17 => ?_)
  · have hw := hw.2 hd17
    refine ok_iload_n (pc := 26) a dX0_offer_26 rfl rfl ?_
    refine ok_iconst (pc := 27) a dX0_offer_27 ?_
    refine ok_ishl (pc := 28) a dX0_offer_28 ?_
    refine ok_iload_n (pc := 29) a dX0_offer_29 rfl rfl ?_
    refine ok_ior (pc := 30) a dX0_offer_30 ?_
    refine ok_nmI (fun x4_31 ex4_31 => ?_)
    have hw := hw x4_31 ex4_31
    refine ok_sI (pc := 31) a [some (vR 46), some (vI x1), some (vI x2), some (vI x3_13), some (vI x4_31)] dX0_offer_31 (by decide) rfl rfl ?_
    refine ok_aload_n (pc := 33) a dX0_offer_33 rfl rfl ?_
    refine ok_iload_n (pc := 34) a dX0_offer_34 rfl rfl ?_
    refine ok_VPZ (pc := 35) a [(vI x3_13)] [] (M_X0_canWeigh hn tg x3_13  hw) dX0_offer_35 lkRX0_44 rfl (Nat.lt_of_lt_of_le (by decide) hn) kq46 (by decide) rfl ⟨Nat.le_of_ble_eq_true rfl, Nat.le_of_ble_eq_true rfl⟩ rfl (Nat.le_of_ble_eq_true rfl) rfl (fun r5 hz6 hw => ?_)
    refine ok_if_eq (pc := 38) a 54 dX0_offer_38 (by decide) (inR_b hz6) (fun hd16 => ?_) (fun hd16 => ?_)
    · have hw := hw.1 hd16
      refine ok_aload_n (pc := 54) a dX0_offer_54 rfl rfl ?_
      refine ok_getR (pc := 55) a dX0_offer_55 lfRX0_15 (Nat.lt_of_lt_of_le (by decide) hn) kq46 rfl (tg.at 46 1 48 (by decide) (by decide)) ?_
      refine ok_iload_n (pc := 58) a dX0_offer_58 rfl rfl ?_
      refine ok_iload (pc := 59) a dX0_offer_59 rfl ?_
      obtain ⟨hc7, hw⟩ := hw
      refine ok_iast (pc := 61) a dX0_offer_61 (Nat.lt_of_lt_of_le (by decide) hn) kq48 (by decide) hc7 (ok_nmH (fun h8 eh8 => ?_))
      have hw := hw h8 eh8
      exact ok_vret (pc := 62) a dX0_offer_62 ⟨rfl, rfl, hw⟩
    · have hw := hw.2 hd16
      refine ok_iload (pc := 41) a dX0_offer_41 rfl ?_
      refine ok_SPI (pc := 43) a [(vI x4_31)] [] (M_J6_bitCount_0f7a4 hn tg x4_31  hw) dX0_offer_43 lkRX0_38 rfl ⟨Nat.le_of_ble_eq_true rfl, Nat.le_of_ble_eq_true rfl⟩ rfl (Nat.le_of_ble_eq_true rfl) rfl (fun r9 hw => ?_)
      refine ok_aload_n (pc := 46) a dX0_offer_46 rfl rfl ?_
      refine ok_iload_n (pc := 47) a dX0_offer_47 rfl rfl ?_
      refine ok_VPI (pc := 48) a [(vI x3_13)] [(vI r9)] (M_X0_fewestPieces hn tg x3_13  hw) dX0_offer_48 lkRX0_52 rfl (Nat.lt_of_lt_of_le (by decide) hn) kq46 (by decide) rfl ⟨Nat.le_of_ble_eq_true rfl, Nat.le_of_ble_eq_true rfl⟩ rfl (Nat.le_of_ble_eq_true rfl) rfl (fun r10 hw => ?_)
      obtain ⟨hc11, hw⟩ := hw
      obtain ⟨hc12, hw⟩ := hw
      refine ok_icmp_ge (pc := 51) a 62 dX0_offer_51 (by decide) hc11 hc12 (fun hd15 => ?_) (fun hd15 => ?_)
      · have hw := hw.1 hd15
        exact ok_vret (pc := 62) a dX0_offer_62 ⟨rfl, rfl, hw⟩
      · have hw := hw.2 hd15
        refine ok_aload_n (pc := 54) a dX0_offer_54 rfl rfl ?_
        refine ok_getR (pc := 55) a dX0_offer_55 lfRX0_15 (Nat.lt_of_lt_of_le (by decide) hn) kq46 rfl (tg.at 46 1 48 (by decide) (by decide)) ?_
        refine ok_iload_n (pc := 58) a dX0_offer_58 rfl rfl ?_
        refine ok_iload (pc := 59) a dX0_offer_59 rfl ?_
        obtain ⟨hc13, hw⟩ := hw
        refine ok_iast (pc := 61) a dX0_offer_61 (Nat.lt_of_lt_of_le (by decide) hn) kq48 (by decide) hc13 (ok_nmH (fun h14 eh14 => ?_))
        have hw := hw h14 eh14
        exact ok_vret (pc := 62) a dX0_offer_62 ⟨rfl, rfl, hw⟩
  · have hw := hw.1 hd17
    exact ok_vret (pc := 25) a dX0_offer_25 ⟨rfl, rfl, hw⟩

def wp_X0_layOut_J70 (X50 : Int × aH → Prop) (x4_50 : Int) (h_70 : aH) : Prop :=
  X50 ((x4_50 + 1), h_70)
def wp_X0_layOut_B50 (x2_6 : Int) (X42 : Int × aH → Prop) (x3_42 : Int) (X50 : Int × aH → Prop) (x4_50 : Int) (h_50 : aH) : Prop :=
  inR x4_50 ∧ ((x2_6 ≤ x4_50 → X42 ((x3_42 + 1), h_50)) ∧ (¬ x2_6 ≤ x4_50 → inR (band x3_42 x4_50) ∧ (((band x3_42 x4_50) = 0 → wp_X0_offer x3_42 x4_50 h_50 (fun h7 => wp_X0_layOut_J70 X50 x4_50 h7)) ∧ (¬ (band x3_42 x4_50) = 0 → wp_X0_layOut_J70 X50 x4_50 h_50))))
def wp_X0_layOut_B42 (Q : aH → Prop) (x2_6 : Int) (X42 : Int × aH → Prop) (x3_42 : Int) (h_42 : aH) : Prop :=
  inR x3_42 ∧ ((x2_6 ≤ x3_42 → Q h_42) ∧ (¬ x2_6 ≤ x3_42 → lp (fun X y => wp_X0_layOut_B50 x2_6 X42 x3_42 X y.1 y.2) (0, h_42)))
def wp_X0_layOut_B9 (Q : aH → Prop) (x2_6 : Int) (X9 : Int × aH → Prop) (x3_9 : Int) (h_9 : aH) : Prop :=
  inR x3_9 ∧ inR x2_6 ∧ ((x2_6 ≤ x3_9 → wp_J7_fill_53178 48 301 (-9) h_9 (fun h3 => lp (fun X y => wp_X0_layOut_B42 Q x2_6 X y.1 y.2) (0, h3))) ∧ (¬ x2_6 ≤ x3_9 → wp_X0_weigh x3_9 h_9 (fun r11 => (0 ≤ x3_9 ∧ x3_9 < 32) ∧ ∀ h13, h13 = up h_9 47 x3_9 r11 → X9 ((x3_9 + 1), h13))))
def wp_X0_layOut  (h : aH) (Q : aH → Prop) : Prop :=
  ∀ x2_6, x2_6 = (bshl 1 (h 3 5)) → lp (fun X y => wp_X0_layOut_B9 Q x2_6 X y.1 y.2) (0, h)
set_option maxRecDepth 100000 in
set_option maxHeartbeats 4000000 in
theorem M_X0_layOut {Γ : Gm} {l : Launch} {n : Nat} {g : aG} (hn : 59 ≤ n) (tg : TC g)   {h : aH} {Q : aH → Prop} (hw : wp_X0_layOut  h Q) : Cl Γ l mX0_layOut [vR 46, vR 3] n g h (RV g Q) := by
  refine Cl.of (by decide) [some (vR 46), some (vR 3), none, none, none] rfl (Nat.le_of_ble_eq_true rfl) ?_
  intro p e s m args below meth c a
  unfold wp_X0_layOut at hw
  refine ok_iconst (pc := 0) a dX0_layOut_0 ?_
  refine ok_aload_n (pc := 1) a dX0_layOut_1 rfl rfl ?_
  refine ok_fI (pc := 2) 5 a dX0_layOut_2 lfRX0_18 (Nat.lt_of_lt_of_le (by decide) hn) kq3 ty_7_5 rfl ?_
  refine ok_ishl (pc := 5) a dX0_layOut_5 ?_
  refine ok_nmI (fun x2_6 ex2_6 => ?_)
  have hw := hw x2_6 ex2_6
  refine ok_sI_n (pc := 6) a [some (vR 46), some (vR 3), some (vI x2_6), none, none] dX0_layOut_6 rfl (by decide) rfl rfl ?_
  refine ok_iconst (pc := 7) a dX0_layOut_7 ?_
  refine ok_sI_n (pc := 8) a [some (vR 46), some (vR 3), some (vI x2_6), some (vI 0), none] dX0_layOut_8 rfl (by decide) rfl rfl ?_
  refine lp.use (P := fun y => OK Γ p l e (rmd 3 n n) s m args below meth c n (MQ below (QQ Γ n (RV g Q)) args s (n - n) (sl n - sl n) (AA Γ)) 9 [some (vR 46), some (vR 3), some (vI x2_6), some (vI y.1), none] [] n g y.2) ?_ (0, h) hw
  clear hw
  intro X9 hX9 y hw
  obtain ⟨x3_9, h_9⟩ := y
  have hw : wp_X0_layOut_B9 Q x2_6 X9 x3_9 h_9 := hw
  unfold wp_X0_layOut_B9 at hw
  try dsimp only
  refine ok_iload_n (pc := 9) a dX0_layOut_9 rfl rfl ?_
  refine ok_iload_n (pc := 10) a dX0_layOut_10 rfl rfl ?_
  obtain ⟨hc1, hw⟩ := hw
  obtain ⟨hc2, hw⟩ := hw
  refine ok_icmp_ge (pc := 11) a 31 dX0_layOut_11 (by decide) hc1 hc2 (fun hd14 => ?_) (fun hd14 => ?_)
  · have hw := hw.1 hd14
    refine ok_aload_n (pc := 31) a dX0_layOut_31 rfl rfl ?_
    refine ok_getR (pc := 32) a dX0_layOut_32 lfRX0_15 (Nat.lt_of_lt_of_le (by decide) hn) kq46 rfl (tg.at 46 1 48 (by decide) (by decide)) ?_
    refine ok_bipush (pc := 35) a dX0_layOut_35 (by decide) ?_
    refine ok_SRV (pc := 37) a [(vR 48), (vI (-9))] [] (M_J7_fill_53178 hn tg 48 301 (-9) (by decide) kq48 (by decide) hw) dX0_layOut_37 lkRX0_28 rfl ⟨Nat.le_of_ble_eq_true rfl, Nat.le_of_ble_eq_true rfl⟩ rfl (Nat.le_of_ble_eq_true rfl) rfl (fun h3 hw => ?_)
    refine ok_iconst (pc := 40) a dX0_layOut_40 ?_
    refine ok_sI_n (pc := 41) a [some (vR 46), some (vR 3), some (vI x2_6), some (vI 0), none] dX0_layOut_41 rfl (by decide) rfl rfl ?_
    refine lp.use (P := fun y => OK Γ p l e (rmd 3 n n) s m args below meth c n (MQ below (QQ Γ n (RV g Q)) args s (n - n) (sl n - sl n) (AA Γ)) 42 [some (vR 46), some (vR 3), some (vI x2_6), some (vI y.1), none] [] n g y.2) ?_ (0, h3) hw
    clear hw
    intro X42 hX42 y hw
    obtain ⟨x3_42, h_42⟩ := y
    have hw : wp_X0_layOut_B42 Q x2_6 X42 x3_42 h_42 := hw
    unfold wp_X0_layOut_B42 at hw
    try dsimp only
    refine ok_iload_n (pc := 42) a dX0_layOut_42 rfl rfl ?_
    refine ok_iload_n (pc := 43) a dX0_layOut_43 rfl rfl ?_
    obtain ⟨hc4, hw⟩ := hw
    refine ok_icmp_ge (pc := 44) a 82 dX0_layOut_44 (by decide) hc4 hc2 (fun hd10 => ?_) (fun hd10 => ?_)
    · have hw := hw.1 hd10
      exact ok_vret (pc := 82) a dX0_layOut_82 ⟨rfl, rfl, hw⟩
    · have hw := hw.2 hd10
      refine ok_iconst (pc := 47) a dX0_layOut_47 ?_
      refine ok_sI (pc := 48) a [some (vR 46), some (vR 3), some (vI x2_6), some (vI x3_42), some (vI 0)] dX0_layOut_48 (by decide) rfl rfl ?_
      refine lp.use (P := fun y => OK Γ p l e (rmd 3 n n) s m args below meth c n (MQ below (QQ Γ n (RV g Q)) args s (n - n) (sl n - sl n) (AA Γ)) 50 [some (vR 46), some (vR 3), some (vI x2_6), some (vI x3_42), some (vI y.1)] [] n g y.2) ?_ (0, h_42) hw
      clear hw
      intro X50 hX50 y hw
      obtain ⟨x4_50, h_50⟩ := y
      have hw : wp_X0_layOut_B50 x2_6 X42 x3_42 X50 x4_50 h_50 := hw
      unfold wp_X0_layOut_B50 at hw
      try dsimp only
      refine ok_iload (pc := 50) a dX0_layOut_50 rfl ?_
      refine ok_iload_n (pc := 52) a dX0_layOut_52 rfl rfl ?_
      obtain ⟨hc5, hw⟩ := hw
      refine ok_icmp_ge (pc := 53) a 76 dX0_layOut_53 (by decide) hc5 hc2 (fun hd9 => ?_) (fun hd9 => ?_)
      · have hw := hw.1 hd9
        refine ok_inc (pc := 76) a [some (vR 46), some (vR 3), some (vI x2_6), some (vI (x3_42 + 1)), some (vI x4_50)] dX0_layOut_76 rfl (by decide) rfl rfl ?_
        refine ok_goto (pc := 79) a 42 dX0_layOut_79 (by decide) ?_
        refine ok_forget 4 ?_
        exact hX42 ((x3_42 + 1), h_50) hw
      · have hw := hw.2 hd9
        refine ok_iload_n (pc := 56) a dX0_layOut_56 rfl rfl ?_
        refine ok_iload (pc := 57) a dX0_layOut_57 rfl ?_
        refine ok_iand (pc := 59) a dX0_layOut_59 ?_
        obtain ⟨hc6, hw⟩ := hw
        have hJ70 : ∀ (h_70 : aH), wp_X0_layOut_J70 X50 x4_50 h_70 → OK Γ p l e (rmd 3 n n) s m args below meth c n (MQ below (QQ Γ n (RV g Q)) args s (n - n) (sl n - sl n) (AA Γ)) 70 [some (vR 46), some (vR 3), some (vI x2_6), some (vI x3_42), some (vI x4_50)] [] n g h_70 := by
          intro h_70 hw
          unfold wp_X0_layOut_J70 at hw
          refine ok_inc (pc := 70) a [some (vR 46), some (vR 3), some (vI x2_6), some (vI x3_42), some (vI (x4_50 + 1))] dX0_layOut_70 rfl (by decide) rfl rfl ?_
          refine ok_goto (pc := 73) a 50 dX0_layOut_73 (by decide) ?_
          exact hX50 ((x4_50 + 1), h_70) hw
        refine ok_if_ne (pc := 60) a 70 dX0_layOut_60 (by decide) hc6 (fun hd8 => ?_) (fun hd8 => ?_)
        · have hw := hw.2 hd8
          exact hJ70 h_50 hw
        · have hw := hw.1 hd8
          refine ok_aload_n (pc := 63) a dX0_layOut_63 rfl rfl ?_
          refine ok_iload_n (pc := 64) a dX0_layOut_64 rfl rfl ?_
          refine ok_iload (pc := 65) a dX0_layOut_65 rfl ?_
          refine ok_VRV (pc := 67) a [(vI x3_42), (vI x4_50)] [] (M_X0_offer hn tg x3_42 x4_50  hw) dX0_layOut_67 lkRX0_34 rfl (Nat.lt_of_lt_of_le (by decide) hn) kq46 (by decide) rfl ⟨Nat.le_of_ble_eq_true rfl, Nat.le_of_ble_eq_true rfl⟩ rfl (Nat.le_of_ble_eq_true rfl) rfl (fun h7 hw => ?_)
          exact hJ70 h7 hw
  · have hw := hw.2 hd14
    refine ok_aload_n (pc := 14) a dX0_layOut_14 rfl rfl ?_
    refine ok_getR (pc := 15) a dX0_layOut_15 lfRX0_11 (Nat.lt_of_lt_of_le (by decide) hn) kq46 rfl (tg.at 46 0 47 (by decide) (by decide)) ?_
    refine ok_iload_n (pc := 18) a dX0_layOut_18 rfl rfl ?_
    refine ok_iload_n (pc := 19) a dX0_layOut_19 rfl rfl ?_
    refine ok_aload_n (pc := 20) a dX0_layOut_20 rfl rfl ?_
    refine ok_SPI (pc := 21) a [(vI x3_9), (vR 3)] [(vI x3_9), (vR 47)] (M_X0_weigh hn tg x3_9  hw) dX0_layOut_21 lkRX0_24 rfl ⟨Nat.le_of_ble_eq_true rfl, Nat.le_of_ble_eq_true rfl⟩ rfl (Nat.le_of_ble_eq_true rfl) rfl (fun r11 hw => ?_)
    obtain ⟨hc12, hw⟩ := hw
    refine ok_iast (pc := 24) a dX0_layOut_24 (Nat.lt_of_lt_of_le (by decide) hn) kq47 (by decide) hc12 (ok_nmH (fun h13 eh13 => ?_))
    have hw := hw h13 eh13
    refine ok_inc (pc := 25) a [some (vR 46), some (vR 3), some (vI x2_6), some (vI (x3_9 + 1)), none] dX0_layOut_25 rfl (by decide) rfl rfl ?_
    refine ok_goto (pc := 28) a 9 dX0_layOut_28 (by decide) ?_
    exact hX9 ((x3_9 + 1), h13) hw

def wp_X0_heavierPan (x1 : Int) (h : aH) (Q : Int → Prop) : Prop :=
  (0 ≤ x1 ∧ x1 < 301) ∧ Q (bshr (h 48 x1) 5)
set_option maxRecDepth 100000 in
set_option maxHeartbeats 4000000 in
theorem M_X0_heavierPan {Γ : Gm} {l : Launch} {n : Nat} {g : aG} (hn : 59 ≤ n) (tg : TC g) (x1 : Int)  {h : aH} {Q : Int → Prop} (hw : wp_X0_heavierPan x1 h Q) : Cl Γ l mX0_heavierPan [vR 46, vI x1] n g h (PI g h Q) := by
  refine Cl.of (by decide) [some (vR 46), some (vI x1)] rfl (Nat.le_of_ble_eq_true rfl) ?_
  intro p e s m args below meth c a
  unfold wp_X0_heavierPan at hw
  refine ok_aload_n (pc := 0) a dX0_heavierPan_0 rfl rfl ?_
  refine ok_getR (pc := 1) a dX0_heavierPan_1 lfRX0_15 (Nat.lt_of_lt_of_le (by decide) hn) kq46 rfl (tg.at 46 1 48 (by decide) (by decide)) ?_
  refine ok_iload_n (pc := 4) a dX0_heavierPan_4 rfl rfl ?_
  obtain ⟨hc1, hw⟩ := hw
  refine ok_iald (pc := 5) a dX0_heavierPan_5 (Nat.lt_of_lt_of_le (by decide) hn) kq48 (by decide) hc1 ?_
  refine ok_iconst (pc := 6) a dX0_heavierPan_6 ?_
  refine ok_ishr (pc := 7) a dX0_heavierPan_7 ?_
  exact ok_iret (pc := 8) a dX0_heavierPan_8 ⟨_, rfl, rfl, rfl, hw⟩

def wp_X0_otherPan (x1 : Int) (h : aH) (Q : Int → Prop) : Prop :=
  (0 ≤ x1 ∧ x1 < 301) ∧ Q (band (h 48 x1) 31)
set_option maxRecDepth 100000 in
set_option maxHeartbeats 4000000 in
theorem M_X0_otherPan {Γ : Gm} {l : Launch} {n : Nat} {g : aG} (hn : 59 ≤ n) (tg : TC g) (x1 : Int)  {h : aH} {Q : Int → Prop} (hw : wp_X0_otherPan x1 h Q) : Cl Γ l mX0_otherPan [vR 46, vI x1] n g h (PI g h Q) := by
  refine Cl.of (by decide) [some (vR 46), some (vI x1)] rfl (Nat.le_of_ble_eq_true rfl) ?_
  intro p e s m args below meth c a
  unfold wp_X0_otherPan at hw
  refine ok_aload_n (pc := 0) a dX0_otherPan_0 rfl rfl ?_
  refine ok_getR (pc := 1) a dX0_otherPan_1 lfRX0_15 (Nat.lt_of_lt_of_le (by decide) hn) kq46 rfl (tg.at 46 1 48 (by decide) (by decide)) ?_
  refine ok_iload_n (pc := 4) a dX0_otherPan_4 rfl rfl ?_
  obtain ⟨hc1, hw⟩ := hw
  refine ok_iald (pc := 5) a dX0_otherPan_5 (Nat.lt_of_lt_of_le (by decide) hn) kq48 (by decide) hc1 ?_
  refine ok_bipush (pc := 6) a dX0_otherPan_6 (by decide) ?_
  refine ok_iand (pc := 8) a dX0_otherPan_8 ?_
  exact ok_iret (pc := 9) a dX0_otherPan_9 ⟨_, rfl, rfl, rfl, hw⟩

def wp_X0_range_B2 (h : aH) (Q : Int → Prop) (X2 : Int → Prop) (x1_2 : Int) : Prop :=
  inR x1_2 ∧ ((300 ≤ x1_2 → Q x1_2) ∧ (¬ 300 ≤ x1_2 → wp_X0_canWeigh (x1_2 + 1) h (fun r2 => ((r2 = 0 → Q x1_2) ∧ (¬ r2 = 0 → X2 (x1_2 + 1))))))
def wp_X0_range  (h : aH) (Q : Int → Prop) : Prop :=
  lp (fun X y => wp_X0_range_B2 h Q X y) 0
set_option maxRecDepth 100000 in
set_option maxHeartbeats 4000000 in
theorem M_X0_range {Γ : Gm} {l : Launch} {n : Nat} {g : aG} (hn : 59 ≤ n) (tg : TC g)   {h : aH} {Q : Int → Prop} (hw : wp_X0_range  h Q) : Cl Γ l mX0_range [vR 46] n g h (PI g h Q) := by
  refine Cl.of (by decide) [some (vR 46), none] rfl (Nat.le_of_ble_eq_true rfl) ?_
  intro p e s m args below meth c a
  unfold wp_X0_range at hw
  refine ok_iconst (pc := 0) a dX0_range_0 ?_
  refine ok_sI_n (pc := 1) a [some (vR 46), some (vI 0)] dX0_range_1 rfl (by decide) rfl rfl ?_
  refine lp.use (P := fun y => OK Γ p l e (rmd 1 n n) s m args below meth c n (MQ below (QQ Γ n (PI g h Q)) args s (n - n) (sl n - sl n) (AA Γ)) 2 [some (vR 46), some (vI y)] [] n g h) ?_ 0 hw
  clear hw
  intro X2 hX2 y hw
  generalize y = x1_2 at hw ⊢
  have hw : wp_X0_range_B2 h Q X2 x1_2 := hw
  unfold wp_X0_range_B2 at hw
  try dsimp only
  refine ok_iload_n (pc := 2) a dX0_range_2 rfl rfl ?_
  refine ok_sipush (pc := 3) a dX0_range_3 (by decide) ?_
  obtain ⟨hc1, hw⟩ := hw
  refine ok_icmp_ge (pc := 6) a 25 dX0_range_6 (by decide) hc1 ⟨by decide, by decide⟩ (fun hd5 => ?_) (fun hd5 => ?_)
  · have hw := hw.1 hd5
    refine ok_iload_n (pc := 25) a dX0_range_25 rfl rfl ?_
    exact ok_iret (pc := 26) a dX0_range_26 ⟨_, rfl, rfl, rfl, hw⟩
  · have hw := hw.2 hd5
    refine ok_aload_n (pc := 9) a dX0_range_9 rfl rfl ?_
    refine ok_iload_n (pc := 10) a dX0_range_10 rfl rfl ?_
    refine ok_iconst (pc := 11) a dX0_range_11 ?_
    refine ok_iadd (pc := 12) a dX0_range_12 ?_
    refine ok_VPZ (pc := 13) a [(vI (x1_2 + 1))] [] (M_X0_canWeigh hn tg (x1_2 + 1)  hw) dX0_range_13 lkRX0_44 rfl (Nat.lt_of_lt_of_le (by decide) hn) kq46 (by decide) rfl ⟨Nat.le_of_ble_eq_true rfl, Nat.le_of_ble_eq_true rfl⟩ rfl (Nat.le_of_ble_eq_true rfl) rfl (fun r2 hz3 hw => ?_)
    refine ok_if_eq (pc := 16) a 25 dX0_range_16 (by decide) (inR_b hz3) (fun hd4 => ?_) (fun hd4 => ?_)
    · have hw := hw.1 hd4
      refine ok_iload_n (pc := 25) a dX0_range_25 rfl rfl ?_
      exact ok_iret (pc := 26) a dX0_range_26 ⟨_, rfl, rfl, rfl, hw⟩
    · have hw := hw.2 hd4
      refine ok_inc (pc := 19) a [some (vR 46), some (vI (x1_2 + 1))] dX0_range_19 rfl (by decide) rfl rfl ?_
      refine ok_goto (pc := 22) a 2 dX0_range_22 (by decide) ?_
      exact hX2 (x1_2 + 1) hw

def wp_X1_dropRecords  (h : aH) (Q : aH → Prop) : Prop :=
  ∀ h1, h1 = up h 52 7 0 → ∀ h2, h2 = up h1 52 8 0 → Q h2
set_option maxRecDepth 100000 in
set_option maxHeartbeats 4000000 in
theorem M_X1_dropRecords {Γ : Gm} {l : Launch} {n : Nat} {g : aG} (hn : 59 ≤ n) (tg : TC g)   {h : aH} {Q : aH → Prop} (hw : wp_X1_dropRecords  h Q) : Cl Γ l mX1_dropRecords [vR 52] n g h (RV g Q) := by
  refine Cl.of (by decide) [some (vR 52)] rfl (Nat.le_of_ble_eq_true rfl) ?_
  intro p e s m args below meth c a
  unfold wp_X1_dropRecords at hw
  refine ok_aload_n (pc := 0) a dX1_dropRecords_0 rfl rfl ?_
  refine ok_iconst (pc := 1) a dX1_dropRecords_1 ?_
  refine ok_pI (pc := 2) 7 a dX1_dropRecords_2 lfRX1_37 fi_1_7 (Nat.lt_of_lt_of_le (by decide) hn) kq52 ty_1_7 rfl (fun h1 eh1 => ?_)
  have hw := hw h1 eh1
  refine ok_aload_n (pc := 5) a dX1_dropRecords_5 rfl rfl ?_
  refine ok_iconst (pc := 6) a dX1_dropRecords_6 ?_
  refine ok_pI (pc := 7) 8 a dX1_dropRecords_7 lfRX1_41 fi_1_8 (Nat.lt_of_lt_of_le (by decide) hn) kq52 ty_1_8 rfl (fun h2 eh2 => ?_)
  have hw := hw h2 eh2
  exact ok_vret (pc := 10) a dX1_dropRecords_10 ⟨rfl, rfl, hw⟩

def wp_X1_begin  (h : aH) (Q : aH → Prop) : Prop :=
  wp_X1_dropRecords h (fun h1 => ∀ h2, h2 = up h1 52 6 0 → Q h2)
set_option maxRecDepth 100000 in
set_option maxHeartbeats 4000000 in
theorem M_X1_begin {Γ : Gm} {l : Launch} {n : Nat} {g : aG} (hn : 59 ≤ n) (tg : TC g)   {h : aH} {Q : aH → Prop} (hw : wp_X1_begin  h Q) : Cl Γ l mX1_begin [vR 52] n g h (RV g Q) := by
  refine Cl.of (by decide) [some (vR 52)] rfl (Nat.le_of_ble_eq_true rfl) ?_
  intro p e s m args below meth c a
  unfold wp_X1_begin at hw
  refine ok_aload_n (pc := 0) a dX1_begin_0 rfl rfl ?_
  refine ok_VRV (pc := 1) a [] [] (M_X1_dropRecords hn tg   hw) dX1_begin_1 lkRX1_30 rfl (Nat.lt_of_lt_of_le (by decide) hn) kq52 (by decide) rfl ⟨Nat.le_of_ble_eq_true rfl, Nat.le_of_ble_eq_true rfl⟩ rfl (Nat.le_of_ble_eq_true rfl) rfl (fun h1 hw => ?_)
  refine ok_aload_n (pc := 4) a dX1_begin_4 rfl rfl ?_
  refine ok_iconst (pc := 5) a dX1_begin_5 ?_
  refine ok_pZ (pc := 6) 6 a dX1_begin_6 lfRX1_33 fi_1_6 (Nat.lt_of_lt_of_le (by decide) hn) kq52 ty_1_6 rfl (Or.inl rfl) (fun h2 eh2 => ?_)
  have hw := hw h2 eh2
  exact ok_vret (pc := 9) a dX1_begin_9 ⟨rfl, rfl, hw⟩

def wp_X1_addShown (x1 : Int) (x2 : Int) (x3 : Int) (h : aH) (Q : Int → aH → Prop) : Prop :=
  inR (h 52 7) ∧ (((h 52 7) < 6 → (0 ≤ (h 52 7) ∧ (h 52 7) < 6) ∧ ∀ h3, h3 = up h 53 (h 52 7) x1 → (0 ≤ (h3 52 7) ∧ (h3 52 7) < 6) ∧ ∀ h5, h5 = up h3 54 (h3 52 7) x2 → (0 ≤ (h5 52 7) ∧ (h5 52 7) < 6) ∧ ∀ h7, h7 = up h5 55 (h5 52 7) x3 → ∀ h8, h8 = up h7 52 7 ((h7 52 7) + 1) → Q 1 h8) ∧ (¬ (h 52 7) < 6 → Q 0 h))
set_option maxRecDepth 100000 in
set_option maxHeartbeats 4000000 in
theorem M_X1_addShown {Γ : Gm} {l : Launch} {n : Nat} {g : aG} (hn : 59 ≤ n) (tg : TC g) (x1 : Int) (x2 : Int) (x3 : Int)  {h : aH} {Q : Int → aH → Prop} (hw : wp_X1_addShown x1 x2 x3 h Q) : Cl Γ l mX1_addShown [vR 52, vI x1, vI x2, vI x3] n g h (RZ g Q) := by
  refine Cl.of (by decide) [some (vR 52), some (vI x1), some (vI x2), some (vI x3)] rfl (Nat.le_of_ble_eq_true rfl) ?_
  intro p e s m args below meth c a
  unfold wp_X1_addShown at hw
  refine ok_aload_n (pc := 0) a dX1_addShown_0 rfl rfl ?_
  refine ok_fI (pc := 1) 7 a dX1_addShown_1 lfRX1_37 (Nat.lt_of_lt_of_le (by decide) hn) kq52 ty_1_7 rfl ?_
  refine ok_bipush (pc := 4) a dX1_addShown_4 (by decide) ?_
  obtain ⟨hc1, hw⟩ := hw
  refine ok_icmp_lt (pc := 6) a 11 dX1_addShown_6 (by decide) hc1 ⟨by decide, by decide⟩ (fun hd9 => ?_) (fun hd9 => ?_)
  · have hw := hw.1 hd9
    refine ok_aload_n (pc := 11) a dX1_addShown_11 rfl rfl ?_
    refine ok_getR (pc := 12) a dX1_addShown_12 lfRX1_11 (Nat.lt_of_lt_of_le (by decide) hn) kq52 rfl (tg.at 52 0 53 (by decide) (by decide)) ?_
    refine ok_aload_n (pc := 15) a dX1_addShown_15 rfl rfl ?_
    refine ok_fI (pc := 16) 7 a dX1_addShown_16 lfRX1_37 (Nat.lt_of_lt_of_le (by decide) hn) kq52 ty_1_7 rfl ?_
    refine ok_iload_n (pc := 19) a dX1_addShown_19 rfl rfl ?_
    obtain ⟨hc2, hw⟩ := hw
    refine ok_iast (pc := 20) a dX1_addShown_20 (Nat.lt_of_lt_of_le (by decide) hn) kq53 (by decide) hc2 (ok_nmH (fun h3 eh3 => ?_))
    have hw := hw h3 eh3
    refine ok_aload_n (pc := 21) a dX1_addShown_21 rfl rfl ?_
    refine ok_getR (pc := 22) a dX1_addShown_22 lfRX1_15 (Nat.lt_of_lt_of_le (by decide) hn) kq52 rfl (tg.at 52 1 54 (by decide) (by decide)) ?_
    refine ok_aload_n (pc := 25) a dX1_addShown_25 rfl rfl ?_
    refine ok_fI (pc := 26) 7 a dX1_addShown_26 lfRX1_37 (Nat.lt_of_lt_of_le (by decide) hn) kq52 ty_1_7 rfl ?_
    refine ok_iload_n (pc := 29) a dX1_addShown_29 rfl rfl ?_
    obtain ⟨hc4, hw⟩ := hw
    refine ok_iast (pc := 30) a dX1_addShown_30 (Nat.lt_of_lt_of_le (by decide) hn) kq54 (by decide) hc4 (ok_nmH (fun h5 eh5 => ?_))
    have hw := hw h5 eh5
    refine ok_aload_n (pc := 31) a dX1_addShown_31 rfl rfl ?_
    refine ok_getR (pc := 32) a dX1_addShown_32 lfRX1_18 (Nat.lt_of_lt_of_le (by decide) hn) kq52 rfl (tg.at 52 2 55 (by decide) (by decide)) ?_
    refine ok_aload_n (pc := 35) a dX1_addShown_35 rfl rfl ?_
    refine ok_fI (pc := 36) 7 a dX1_addShown_36 lfRX1_37 (Nat.lt_of_lt_of_le (by decide) hn) kq52 ty_1_7 rfl ?_
    refine ok_iload_n (pc := 39) a dX1_addShown_39 rfl rfl ?_
    obtain ⟨hc6, hw⟩ := hw
    refine ok_iast (pc := 40) a dX1_addShown_40 (Nat.lt_of_lt_of_le (by decide) hn) kq55 (by decide) hc6 (ok_nmH (fun h7 eh7 => ?_))
    have hw := hw h7 eh7
    refine ok_aload_n (pc := 41) a dX1_addShown_41 rfl rfl ?_
    refine ok_dup (pc := 42) a dX1_addShown_42 (by rfl) ?_
    refine ok_fI (pc := 43) 7 a dX1_addShown_43 lfRX1_37 (Nat.lt_of_lt_of_le (by decide) hn) kq52 ty_1_7 rfl ?_
    refine ok_iconst (pc := 46) a dX1_addShown_46 ?_
    refine ok_iadd (pc := 47) a dX1_addShown_47 ?_
    refine ok_pI (pc := 48) 7 a dX1_addShown_48 lfRX1_37 fi_1_7 (Nat.lt_of_lt_of_le (by decide) hn) kq52 ty_1_7 rfl (fun h8 eh8 => ?_)
    have hw := hw h8 eh8
    refine ok_iconst (pc := 51) a dX1_addShown_51 ?_
    exact ok_zret (pc := 52) a dX1_addShown_52 (Or.inr rfl) ⟨_, rfl, rfl, (Or.inr rfl), hw⟩
  · have hw := hw.2 hd9
    refine ok_iconst (pc := 9) a dX1_addShown_9 ?_
    exact ok_zret (pc := 10) a dX1_addShown_10 (Or.inl rfl) ⟨_, rfl, rfl, (Or.inl rfl), hw⟩

def wp_X1_addSeen (x1 : Int) (x2 : Int) (h : aH) (Q : Int → aH → Prop) : Prop :=
  inR (h 52 8) ∧ (((h 52 8) < 6 → (0 ≤ (h 52 8) ∧ (h 52 8) < 6) ∧ ∀ h3, h3 = up h 56 (h 52 8) x1 → (0 ≤ (h3 52 8) ∧ (h3 52 8) < 6) ∧ ∀ h5, h5 = up h3 57 (h3 52 8) x2 → ∀ h6, h6 = up h5 52 8 ((h5 52 8) + 1) → Q 1 h6) ∧ (¬ (h 52 8) < 6 → Q 0 h))
set_option maxRecDepth 100000 in
set_option maxHeartbeats 4000000 in
theorem M_X1_addSeen {Γ : Gm} {l : Launch} {n : Nat} {g : aG} (hn : 59 ≤ n) (tg : TC g) (x1 : Int) (x2 : Int)  {h : aH} {Q : Int → aH → Prop} (hw : wp_X1_addSeen x1 x2 h Q) : Cl Γ l mX1_addSeen [vR 52, vI x1, vI x2] n g h (RZ g Q) := by
  refine Cl.of (by decide) [some (vR 52), some (vI x1), some (vI x2)] rfl (Nat.le_of_ble_eq_true rfl) ?_
  intro p e s m args below meth c a
  unfold wp_X1_addSeen at hw
  refine ok_aload_n (pc := 0) a dX1_addSeen_0 rfl rfl ?_
  refine ok_fI (pc := 1) 8 a dX1_addSeen_1 lfRX1_41 (Nat.lt_of_lt_of_le (by decide) hn) kq52 ty_1_8 rfl ?_
  refine ok_bipush (pc := 4) a dX1_addSeen_4 (by decide) ?_
  obtain ⟨hc1, hw⟩ := hw
  refine ok_icmp_lt (pc := 6) a 11 dX1_addSeen_6 (by decide) hc1 ⟨by decide, by decide⟩ (fun hd7 => ?_) (fun hd7 => ?_)
  · have hw := hw.1 hd7
    refine ok_aload_n (pc := 11) a dX1_addSeen_11 rfl rfl ?_
    refine ok_getR (pc := 12) a dX1_addSeen_12 lfRX1_21 (Nat.lt_of_lt_of_le (by decide) hn) kq52 rfl (tg.at 52 3 56 (by decide) (by decide)) ?_
    refine ok_aload_n (pc := 15) a dX1_addSeen_15 rfl rfl ?_
    refine ok_fI (pc := 16) 8 a dX1_addSeen_16 lfRX1_41 (Nat.lt_of_lt_of_le (by decide) hn) kq52 ty_1_8 rfl ?_
    refine ok_iload_n (pc := 19) a dX1_addSeen_19 rfl rfl ?_
    obtain ⟨hc2, hw⟩ := hw
    refine ok_iast (pc := 20) a dX1_addSeen_20 (Nat.lt_of_lt_of_le (by decide) hn) kq56 (by decide) hc2 (ok_nmH (fun h3 eh3 => ?_))
    have hw := hw h3 eh3
    refine ok_aload_n (pc := 21) a dX1_addSeen_21 rfl rfl ?_
    refine ok_getR (pc := 22) a dX1_addSeen_22 lfRX1_24 (Nat.lt_of_lt_of_le (by decide) hn) kq52 rfl (tg.at 52 4 57 (by decide) (by decide)) ?_
    refine ok_aload_n (pc := 25) a dX1_addSeen_25 rfl rfl ?_
    refine ok_fI (pc := 26) 8 a dX1_addSeen_26 lfRX1_41 (Nat.lt_of_lt_of_le (by decide) hn) kq52 ty_1_8 rfl ?_
    refine ok_iload_n (pc := 29) a dX1_addSeen_29 rfl rfl ?_
    obtain ⟨hc4, hw⟩ := hw
    refine ok_iast (pc := 30) a dX1_addSeen_30 (Nat.lt_of_lt_of_le (by decide) hn) kq57 (by decide) hc4 (ok_nmH (fun h5 eh5 => ?_))
    have hw := hw h5 eh5
    refine ok_aload_n (pc := 31) a dX1_addSeen_31 rfl rfl ?_
    refine ok_dup (pc := 32) a dX1_addSeen_32 (by rfl) ?_
    refine ok_fI (pc := 33) 8 a dX1_addSeen_33 lfRX1_41 (Nat.lt_of_lt_of_le (by decide) hn) kq52 ty_1_8 rfl ?_
    refine ok_iconst (pc := 36) a dX1_addSeen_36 ?_
    refine ok_iadd (pc := 37) a dX1_addSeen_37 ?_
    refine ok_pI (pc := 38) 8 a dX1_addSeen_38 lfRX1_41 fi_1_8 (Nat.lt_of_lt_of_le (by decide) hn) kq52 ty_1_8 rfl (fun h6 eh6 => ?_)
    have hw := hw h6 eh6
    refine ok_iconst (pc := 41) a dX1_addSeen_41 ?_
    exact ok_zret (pc := 42) a dX1_addSeen_42 (Or.inr rfl) ⟨_, rfl, rfl, (Or.inr rfl), hw⟩
  · have hw := hw.2 hd7
    refine ok_iconst (pc := 9) a dX1_addSeen_9 ?_
    exact ok_zret (pc := 10) a dX1_addSeen_10 (Or.inl rfl) ⟨_, rfl, rfl, (Or.inl rfl), hw⟩

def wp_X1_prepareWays_B70 (X40 : Int × aH → Prop) (x4_40 : Int) (x5_65 : Int) (X70 : Int × aH → Prop) (x6_70 : Int) (h_70 : aH) : Prop :=
  inR x6_70 ∧ ((9 < x6_70 → X40 ((x4_40 + 1), h_70)) ∧ (¬ 9 < x6_70 → (0 ≤ (x5_65 + (x6_70 * (h_70 4 3))) ∧ (x5_65 + (x6_70 * (h_70 4 3))) < 721) ∧ ∀ h9, h9 = up h_70 58 (x5_65 + (x6_70 * (h_70 4 3))) ((h_70 58 (x5_65 + (x6_70 * (h_70 4 3)))) + 1) → X70 ((x6_70 + 1), h9)))
def wp_X1_prepareWays_B40 (x2_23 : Int) (X31 : Int × aH → Prop) (x3_31 : Int) (X40 : Int × aH → Prop) (x4_40 : Int) (h_40 : aH) : Prop :=
  inR x4_40 ∧ ((9 < x4_40 → X31 ((x3_31 + 1), h_40)) ∧ (¬ 9 < x4_40 → ∀ x5_65, x5_65 = (((x2_23 * (h_40 4 0)) + (x3_31 * (h_40 4 1))) + (x4_40 * (h_40 4 2))) → lp (fun X y => wp_X1_prepareWays_B70 X40 x4_40 x5_65 X y.1 y.2) (0, h_40)))
def wp_X1_prepareWays_B31 (X23 : Int × aH → Prop) (x2_23 : Int) (X31 : Int × aH → Prop) (x3_31 : Int) (h_31 : aH) : Prop :=
  inR x3_31 ∧ ((9 < x3_31 → X23 ((x2_23 + 1), h_31)) ∧ (¬ 9 < x3_31 → lp (fun X y => wp_X1_prepareWays_B40 x2_23 X31 x3_31 X y.1 y.2) (0, h_31)))
def wp_X1_prepareWays_B23 (Q : aH → Prop) (X23 : Int × aH → Prop) (x2_23 : Int) (h_23 : aH) : Prop :=
  inR x2_23 ∧ ((9 < x2_23 → Q h_23) ∧ (¬ 9 < x2_23 → lp (fun X y => wp_X1_prepareWays_B31 X23 x2_23 X y.1 y.2) (0, h_23)))
def wp_X1_prepareWays  (h : aH) (Q : aH → Prop) : Prop :=
  inR (h 52 6) ∧ (((h 52 6) = 0 → ∀ h2, h2 = up h 52 6 1 → wp_J7_fill_53178 58 721 0 h2 (fun h3 => lp (fun X y => wp_X1_prepareWays_B23 Q X y.1 y.2) (0, h3))) ∧ (¬ (h 52 6) = 0 → Q h))
set_option maxRecDepth 100000 in
set_option maxHeartbeats 4000000 in
theorem M_X1_prepareWays {Γ : Gm} {l : Launch} {n : Nat} {g : aG} (hn : 59 ≤ n) (tg : TC g)   {h : aH} {Q : aH → Prop} (hw : wp_X1_prepareWays  h Q) : Cl Γ l mX1_prepareWays [vR 52, vR 4] n g h (RV g Q) := by
  refine Cl.of (by decide) [some (vR 52), some (vR 4), none, none, none, none, none] rfl (Nat.le_of_ble_eq_true rfl) ?_
  intro p e s m args below meth c a
  unfold wp_X1_prepareWays at hw
  refine ok_aload_n (pc := 0) a dX1_prepareWays_0 rfl rfl ?_
  refine ok_fZ (pc := 1) 6 a dX1_prepareWays_1 lfRX1_33 (Nat.lt_of_lt_of_le (by decide) hn) kq52 ty_1_6 rfl ?_
  obtain ⟨hc1, hw⟩ := hw
  refine ok_if_eq (pc := 4) a 8 dX1_prepareWays_4 (by decide) hc1 (fun hd14 => ?_) (fun hd14 => ?_)
  · have hw := hw.1 hd14
    refine ok_aload_n (pc := 8) a dX1_prepareWays_8 rfl rfl ?_
    refine ok_iconst (pc := 9) a dX1_prepareWays_9 ?_
    refine ok_pZ (pc := 10) 6 a dX1_prepareWays_10 lfRX1_33 fi_1_6 (Nat.lt_of_lt_of_le (by decide) hn) kq52 ty_1_6 rfl (Or.inr rfl) (fun h2 eh2 => ?_)
    have hw := hw h2 eh2
    refine ok_aload_n (pc := 13) a dX1_prepareWays_13 rfl rfl ?_
    refine ok_getR (pc := 14) a dX1_prepareWays_14 lfRX1_27 (Nat.lt_of_lt_of_le (by decide) hn) kq52 rfl (tg.at 52 5 58 (by decide) (by decide)) ?_
    refine ok_iconst (pc := 17) a dX1_prepareWays_17 ?_
    refine ok_SRV (pc := 18) a [(vR 58), (vI 0)] [] (M_J7_fill_53178 hn tg 58 721 0 (by decide) kq58 (by decide) hw) dX1_prepareWays_18 lkRX1_44 rfl ⟨Nat.le_of_ble_eq_true rfl, Nat.le_of_ble_eq_true rfl⟩ rfl (Nat.le_of_ble_eq_true rfl) rfl (fun h3 hw => ?_)
    refine ok_iconst (pc := 21) a dX1_prepareWays_21 ?_
    refine ok_sI_n (pc := 22) a [some (vR 52), some (vR 4), some (vI 0), none, none, none, none] dX1_prepareWays_22 rfl (by decide) rfl rfl ?_
    refine lp.use (P := fun y => OK Γ p l e (rmd 1 n n) s m args below meth c n (MQ below (QQ Γ n (RV g Q)) args s (n - n) (sl n - sl n) (AA Γ)) 23 [some (vR 52), some (vR 4), some (vI y.1), none, none, none, none] [] n g y.2) ?_ (0, h3) hw
    clear hw
    intro X23 hX23 y hw
    obtain ⟨x2_23, h_23⟩ := y
    have hw : wp_X1_prepareWays_B23 Q X23 x2_23 h_23 := hw
    unfold wp_X1_prepareWays_B23 at hw
    try dsimp only
    refine ok_iload_n (pc := 23) a dX1_prepareWays_23 rfl rfl ?_
    refine ok_bipush (pc := 24) a dX1_prepareWays_24 (by decide) ?_
    obtain ⟨hc4, hw⟩ := hw
    refine ok_icmp_gt (pc := 26) a 119 dX1_prepareWays_26 (by decide) hc4 ⟨by decide, by decide⟩ (fun hd13 => ?_) (fun hd13 => ?_)
    · have hw := hw.1 hd13
      exact ok_vret (pc := 119) a dX1_prepareWays_119 ⟨rfl, rfl, hw⟩
    · have hw := hw.2 hd13
      refine ok_iconst (pc := 29) a dX1_prepareWays_29 ?_
      refine ok_sI_n (pc := 30) a [some (vR 52), some (vR 4), some (vI x2_23), some (vI 0), none, none, none] dX1_prepareWays_30 rfl (by decide) rfl rfl ?_
      refine lp.use (P := fun y => OK Γ p l e (rmd 1 n n) s m args below meth c n (MQ below (QQ Γ n (RV g Q)) args s (n - n) (sl n - sl n) (AA Γ)) 31 [some (vR 52), some (vR 4), some (vI x2_23), some (vI y.1), none, none, none] [] n g y.2) ?_ (0, h_23) hw
      clear hw
      intro X31 hX31 y hw
      obtain ⟨x3_31, h_31⟩ := y
      have hw : wp_X1_prepareWays_B31 X23 x2_23 X31 x3_31 h_31 := hw
      unfold wp_X1_prepareWays_B31 at hw
      try dsimp only
      refine ok_iload_n (pc := 31) a dX1_prepareWays_31 rfl rfl ?_
      refine ok_bipush (pc := 32) a dX1_prepareWays_32 (by decide) ?_
      obtain ⟨hc5, hw⟩ := hw
      refine ok_icmp_gt (pc := 34) a 113 dX1_prepareWays_34 (by decide) hc5 ⟨by decide, by decide⟩ (fun hd12 => ?_) (fun hd12 => ?_)
      · have hw := hw.1 hd12
        refine ok_inc (pc := 113) a [some (vR 52), some (vR 4), some (vI (x2_23 + 1)), some (vI x3_31), none, none, none] dX1_prepareWays_113 rfl (by decide) rfl rfl ?_
        refine ok_goto (pc := 116) a 23 dX1_prepareWays_116 (by decide) ?_
        refine ok_forget 3 ?_
        exact hX23 ((x2_23 + 1), h_31) hw
      · have hw := hw.2 hd12
        refine ok_iconst (pc := 37) a dX1_prepareWays_37 ?_
        refine ok_sI (pc := 38) a [some (vR 52), some (vR 4), some (vI x2_23), some (vI x3_31), some (vI 0), none, none] dX1_prepareWays_38 (by decide) rfl rfl ?_
        refine lp.use (P := fun y => OK Γ p l e (rmd 1 n n) s m args below meth c n (MQ below (QQ Γ n (RV g Q)) args s (n - n) (sl n - sl n) (AA Γ)) 40 [some (vR 52), some (vR 4), some (vI x2_23), some (vI x3_31), some (vI y.1), none, none] [] n g y.2) ?_ (0, h_31) hw
        clear hw
        intro X40 hX40 y hw
        obtain ⟨x4_40, h_40⟩ := y
        have hw : wp_X1_prepareWays_B40 x2_23 X31 x3_31 X40 x4_40 h_40 := hw
        unfold wp_X1_prepareWays_B40 at hw
        try dsimp only
        refine ok_iload (pc := 40) a dX1_prepareWays_40 rfl ?_
        refine ok_bipush (pc := 42) a dX1_prepareWays_42 (by decide) ?_
        obtain ⟨hc6, hw⟩ := hw
        refine ok_icmp_gt (pc := 44) a 107 dX1_prepareWays_44 (by decide) hc6 ⟨by decide, by decide⟩ (fun hd11 => ?_) (fun hd11 => ?_)
        · have hw := hw.1 hd11
          refine ok_inc (pc := 107) a [some (vR 52), some (vR 4), some (vI x2_23), some (vI (x3_31 + 1)), some (vI x4_40), none, none] dX1_prepareWays_107 rfl (by decide) rfl rfl ?_
          refine ok_goto (pc := 110) a 31 dX1_prepareWays_110 (by decide) ?_
          refine ok_forget 4 ?_
          exact hX31 ((x3_31 + 1), h_40) hw
        · have hw := hw.2 hd11
          refine ok_iload_n (pc := 47) a dX1_prepareWays_47 rfl rfl ?_
          refine ok_aload_n (pc := 48) a dX1_prepareWays_48 rfl rfl ?_
          refine ok_iconst (pc := 49) a dX1_prepareWays_49 ?_
          refine ok_iald (pc := 50) a dX1_prepareWays_50 (Nat.lt_of_lt_of_le (by decide) hn) kq4 (by decide) ⟨by decide, by decide⟩ ?_
          refine ok_imul (pc := 51) a dX1_prepareWays_51 ?_
          refine ok_iload_n (pc := 52) a dX1_prepareWays_52 rfl rfl ?_
          refine ok_aload_n (pc := 53) a dX1_prepareWays_53 rfl rfl ?_
          refine ok_iconst (pc := 54) a dX1_prepareWays_54 ?_
          refine ok_iald (pc := 55) a dX1_prepareWays_55 (Nat.lt_of_lt_of_le (by decide) hn) kq4 (by decide) ⟨by decide, by decide⟩ ?_
          refine ok_imul (pc := 56) a dX1_prepareWays_56 ?_
          refine ok_iadd (pc := 57) a dX1_prepareWays_57 ?_
          refine ok_iload (pc := 58) a dX1_prepareWays_58 rfl ?_
          refine ok_aload_n (pc := 60) a dX1_prepareWays_60 rfl rfl ?_
          refine ok_iconst (pc := 61) a dX1_prepareWays_61 ?_
          refine ok_iald (pc := 62) a dX1_prepareWays_62 (Nat.lt_of_lt_of_le (by decide) hn) kq4 (by decide) ⟨by decide, by decide⟩ ?_
          refine ok_imul (pc := 63) a dX1_prepareWays_63 ?_
          refine ok_iadd (pc := 64) a dX1_prepareWays_64 ?_
          refine ok_nmI (fun x5_65 ex5_65 => ?_)
          have hw := hw x5_65 ex5_65
          refine ok_sI (pc := 65) a [some (vR 52), some (vR 4), some (vI x2_23), some (vI x3_31), some (vI x4_40), some (vI x5_65), none] dX1_prepareWays_65 (by decide) rfl rfl ?_
          refine ok_iconst (pc := 67) a dX1_prepareWays_67 ?_
          refine ok_sI (pc := 68) a [some (vR 52), some (vR 4), some (vI x2_23), some (vI x3_31), some (vI x4_40), some (vI x5_65), some (vI 0)] dX1_prepareWays_68 (by decide) rfl rfl ?_
          refine lp.use (P := fun y => OK Γ p l e (rmd 1 n n) s m args below meth c n (MQ below (QQ Γ n (RV g Q)) args s (n - n) (sl n - sl n) (AA Γ)) 70 [some (vR 52), some (vR 4), some (vI x2_23), some (vI x3_31), some (vI x4_40), some (vI x5_65), some (vI y.1)] [] n g y.2) ?_ (0, h_40) hw
          clear hw
          intro X70 hX70 y hw
          obtain ⟨x6_70, h_70⟩ := y
          have hw : wp_X1_prepareWays_B70 X40 x4_40 x5_65 X70 x6_70 h_70 := hw
          unfold wp_X1_prepareWays_B70 at hw
          try dsimp only
          refine ok_iload (pc := 70) a dX1_prepareWays_70 rfl ?_
          refine ok_bipush (pc := 72) a dX1_prepareWays_72 (by decide) ?_
          obtain ⟨hc7, hw⟩ := hw
          refine ok_icmp_gt (pc := 74) a 101 dX1_prepareWays_74 (by decide) hc7 ⟨by decide, by decide⟩ (fun hd10 => ?_) (fun hd10 => ?_)
          · have hw := hw.1 hd10
            refine ok_inc (pc := 101) a [some (vR 52), some (vR 4), some (vI x2_23), some (vI x3_31), some (vI (x4_40 + 1)), some (vI x5_65), some (vI x6_70)] dX1_prepareWays_101 rfl (by decide) rfl rfl ?_
            refine ok_goto (pc := 104) a 40 dX1_prepareWays_104 (by decide) ?_
            refine ok_forget 5 ?_
            refine ok_forget 6 ?_
            exact hX40 ((x4_40 + 1), h_70) hw
          · have hw := hw.2 hd10
            refine ok_aload_n (pc := 77) a dX1_prepareWays_77 rfl rfl ?_
            refine ok_getR (pc := 78) a dX1_prepareWays_78 lfRX1_27 (Nat.lt_of_lt_of_le (by decide) hn) kq52 rfl (tg.at 52 5 58 (by decide) (by decide)) ?_
            refine ok_iload (pc := 81) a dX1_prepareWays_81 rfl ?_
            refine ok_iload (pc := 83) a dX1_prepareWays_83 rfl ?_
            refine ok_aload_n (pc := 85) a dX1_prepareWays_85 rfl rfl ?_
            refine ok_iconst (pc := 86) a dX1_prepareWays_86 ?_
            refine ok_iald (pc := 87) a dX1_prepareWays_87 (Nat.lt_of_lt_of_le (by decide) hn) kq4 (by decide) ⟨by decide, by decide⟩ ?_
            refine ok_imul (pc := 88) a dX1_prepareWays_88 ?_
            refine ok_iadd (pc := 89) a dX1_prepareWays_89 ?_
            refine ok_dup2 (pc := 90) a dX1_prepareWays_90 (by rfl) (by rfl) ?_
            obtain ⟨hc8, hw⟩ := hw
            refine ok_iald (pc := 91) a dX1_prepareWays_91 (Nat.lt_of_lt_of_le (by decide) hn) kq58 (by decide) hc8 ?_
            refine ok_iconst (pc := 92) a dX1_prepareWays_92 ?_
            refine ok_iadd (pc := 93) a dX1_prepareWays_93 ?_
            refine ok_iast (pc := 94) a dX1_prepareWays_94 (Nat.lt_of_lt_of_le (by decide) hn) kq58 (by decide) hc8 (ok_nmH (fun h9 eh9 => ?_))
            have hw := hw h9 eh9
            refine ok_inc (pc := 95) a [some (vR 52), some (vR 4), some (vI x2_23), some (vI x3_31), some (vI x4_40), some (vI x5_65), some (vI (x6_70 + 1))] dX1_prepareWays_95 rfl (by decide) rfl rfl ?_
            refine ok_goto (pc := 98) a 70 dX1_prepareWays_98 (by decide) ?_
            exact hX70 ((x6_70 + 1), h9) hw
  · have hw := hw.2 hd14
    exact ok_vret (pc := 7) a dX1_prepareWays_7 ⟨rfl, rfl, hw⟩

def wp_X1_lowestOf_J68 (X4 : Int × Int → Prop) (x3_4 : Int) (x2_68 : Int) : Prop :=
  X4 (x2_68, (x3_4 + 1))
def wp_X1_lowestOf_B4 (x1 : Int) (h : aH) (Q : Int → Prop) (X4 : Int × Int → Prop) (x2_4 : Int) (x3_4 : Int) : Prop :=
  inR x3_4 ∧ inR (h 52 7) ∧ (((h 52 7) ≤ x3_4 → Q x2_4) ∧ (¬ (h 52 7) ≤ x3_4 → (0 ≤ x3_4 ∧ x3_4 < 6) ∧ inR (h 53 x3_4) ∧ inR x1 ∧ (((h 53 x3_4) = x1 → inR (h 55 x3_4) ∧ (((h 55 x3_4) = 2 → wp_X1_lowestOf_J68 X4 x3_4 x2_4) ∧ (¬ (h 55 x3_4) = 2 → ∀ x4_59, x4_59 = (if (h 55 x3_4) = 1 then ((h 54 x3_4) + 1) else (h 54 x3_4) : Int) → inR x2_4 ∧ inR x4_59 ∧ ∀ x2_67, x2_67 = (max x2_4 x4_59) → wp_X1_lowestOf_J68 X4 x3_4 x2_67))) ∧ (¬ (h 53 x3_4) = x1 → wp_X1_lowestOf_J68 X4 x3_4 x2_4))))
def wp_X1_lowestOf (x1 : Int) (h : aH) (Q : Int → Prop) : Prop :=
  lp (fun X y => wp_X1_lowestOf_B4 x1 h Q X y.1 y.2) (0, 0)
set_option maxRecDepth 100000 in
set_option maxHeartbeats 4000000 in
theorem M_X1_lowestOf {Γ : Gm} {l : Launch} {n : Nat} {g : aG} (hn : 59 ≤ n) (tg : TC g) (x1 : Int)  {h : aH} {Q : Int → Prop} (hw : wp_X1_lowestOf x1 h Q) : Cl Γ l mX1_lowestOf [vR 52, vI x1] n g h (PI g h Q) := by
  refine Cl.of (by decide) [some (vR 52), some (vI x1), none, none, none] rfl (Nat.le_of_ble_eq_true rfl) ?_
  intro p e s m args below meth c a
  unfold wp_X1_lowestOf at hw
  refine ok_iconst (pc := 0) a dX1_lowestOf_0 ?_
  refine ok_sI_n (pc := 1) a [some (vR 52), some (vI x1), some (vI 0), none, none] dX1_lowestOf_1 rfl (by decide) rfl rfl ?_
  refine ok_iconst (pc := 2) a dX1_lowestOf_2 ?_
  refine ok_sI_n (pc := 3) a [some (vR 52), some (vI x1), some (vI 0), some (vI 0), none] dX1_lowestOf_3 rfl (by decide) rfl rfl ?_
  refine lp.use (P := fun y => OK Γ p l e (rmd 1 n n) s m args below meth c n (MQ below (QQ Γ n (PI g h Q)) args s (n - n) (sl n - sl n) (AA Γ)) 4 [some (vR 52), some (vI x1), some (vI y.1), some (vI y.2), none] [] n g h) ?_ (0, 0) hw
  clear hw
  intro X4 hX4 y hw
  obtain ⟨x2_4, x3_4⟩ := y
  have hw : wp_X1_lowestOf_B4 x1 h Q X4 x2_4 x3_4 := hw
  unfold wp_X1_lowestOf_B4 at hw
  try dsimp only
  refine ok_iload_n (pc := 4) a dX1_lowestOf_4 rfl rfl ?_
  refine ok_aload_n (pc := 5) a dX1_lowestOf_5 rfl rfl ?_
  refine ok_fI (pc := 6) 7 a dX1_lowestOf_6 lfRX1_37 (Nat.lt_of_lt_of_le (by decide) hn) kq52 ty_1_7 rfl ?_
  obtain ⟨hc1, hw⟩ := hw
  obtain ⟨hc2, hw⟩ := hw
  refine ok_icmp_ge (pc := 9) a 74 dX1_lowestOf_9 (by decide) hc1 hc2 (fun hd12 => ?_) (fun hd12 => ?_)
  · have hw := hw.1 hd12
    refine ok_iload_n (pc := 74) a dX1_lowestOf_74 rfl rfl ?_
    exact ok_iret (pc := 75) a dX1_lowestOf_75 ⟨_, rfl, rfl, rfl, hw⟩
  · have hw := hw.2 hd12
    refine ok_aload_n (pc := 12) a dX1_lowestOf_12 rfl rfl ?_
    refine ok_getR (pc := 13) a dX1_lowestOf_13 lfRX1_11 (Nat.lt_of_lt_of_le (by decide) hn) kq52 rfl (tg.at 52 0 53 (by decide) (by decide)) ?_
    refine ok_iload_n (pc := 16) a dX1_lowestOf_16 rfl rfl ?_
    obtain ⟨hc3, hw⟩ := hw
    refine ok_iald (pc := 17) a dX1_lowestOf_17 (Nat.lt_of_lt_of_le (by decide) hn) kq53 (by decide) hc3 ?_
    refine ok_iload_n (pc := 18) a dX1_lowestOf_18 rfl rfl ?_
    obtain ⟨hc4, hw⟩ := hw
    obtain ⟨hc5, hw⟩ := hw
    have hJ68 : ∀ (x2_68 : Int), wp_X1_lowestOf_J68 X4 x3_4 x2_68 → OK Γ p l e (rmd 1 n n) s m args below meth c n (MQ below (QQ Γ n (PI g h Q)) args s (n - n) (sl n - sl n) (AA Γ)) 68 [some (vR 52), some (vI x1), some (vI x2_68), some (vI x3_4), none] [] n g h := by
      intro x2_68 hw
      unfold wp_X1_lowestOf_J68 at hw
      refine ok_inc (pc := 68) a [some (vR 52), some (vI x1), some (vI x2_68), some (vI (x3_4 + 1)), none] dX1_lowestOf_68 rfl (by decide) rfl rfl ?_
      refine ok_goto (pc := 71) a 4 dX1_lowestOf_71 (by decide) ?_
      exact hX4 (x2_68, (x3_4 + 1)) hw
    refine ok_icmp_ne (pc := 19) a 68 dX1_lowestOf_19 (by decide) hc4 hc5 (fun hd11 => ?_) (fun hd11 => ?_)
    · have hw := hw.2 hd11
      exact hJ68 x2_4 hw
    · have hw := hw.1 hd11
      refine ok_aload_n (pc := 22) a dX1_lowestOf_22 rfl rfl ?_
      refine ok_getR (pc := 23) a dX1_lowestOf_23 lfRX1_18 (Nat.lt_of_lt_of_le (by decide) hn) kq52 rfl (tg.at 52 2 55 (by decide) (by decide)) ?_
      refine ok_iload_n (pc := 26) a dX1_lowestOf_26 rfl rfl ?_
      refine ok_iald (pc := 27) a dX1_lowestOf_27 (Nat.lt_of_lt_of_le (by decide) hn) kq55 (by decide) hc3 ?_
      refine ok_iconst (pc := 28) a dX1_lowestOf_28 ?_
      obtain ⟨hc6, hw⟩ := hw
      refine ok_icmp_eq (pc := 29) a 68 dX1_lowestOf_29 (by decide) hc6 ⟨by decide, by decide⟩ (fun hd10 => ?_) (fun hd10 => ?_)
      · have hw := hw.1 hd10
        exact hJ68 x2_4 hw
      · have hw := hw.2 hd10
        refine ok_aload_n (pc := 32) a dX1_lowestOf_32 rfl rfl ?_
        refine ok_getR (pc := 33) a dX1_lowestOf_33 lfRX1_18 (Nat.lt_of_lt_of_le (by decide) hn) kq52 rfl (tg.at 52 2 55 (by decide) (by decide)) ?_
        refine ok_iload_n (pc := 36) a dX1_lowestOf_36 rfl rfl ?_
        refine ok_iald (pc := 37) a dX1_lowestOf_37 (Nat.lt_of_lt_of_le (by decide) hn) kq55 (by decide) hc3 ?_
        refine ok_iconst (pc := 38) a dX1_lowestOf_38 ?_
        have hK : OK Γ p l e (rmd 1 n n) s m args below meth c n (MQ below (QQ Γ n (PI g h Q)) args s (n - n) (sl n - sl n) (AA Γ)) 59 [some (vR 52), some (vI x1), some (vI x2_4), some (vI x3_4), none] [(vI (if (h 55 x3_4) = 1 then ((h 54 x3_4) + 1) else (h 54 x3_4) : Int))] n g h := by
          refine ok_nmI (fun x4_59 ex4_59 => ?_)
          have hw := hw x4_59 ex4_59
          refine ok_sI (pc := 59) a [some (vR 52), some (vI x1), some (vI x2_4), some (vI x3_4), some (vI x4_59)] dX1_lowestOf_59 (by decide) rfl rfl ?_
          refine ok_iload_n (pc := 61) a dX1_lowestOf_61 rfl rfl ?_
          refine ok_iload (pc := 62) a dX1_lowestOf_62 rfl ?_
          obtain ⟨hc8, hw⟩ := hw
          obtain ⟨hc9, hw⟩ := hw
          refine ok_mmax (pc := 64) (st := []) a dX1_lowestOf_64 mmRX1_50 hc8 hc9 (Nat.le_of_ble_eq_true rfl) (Nat.le_of_ble_eq_true rfl) ?_
          refine ok_nmI (fun x2_67 ex2_67 => ?_)
          have hw := hw x2_67 ex2_67
          refine ok_sI_n (pc := 67) a [some (vR 52), some (vI x1), some (vI x2_67), some (vI x3_4), some (vI x4_59)] dX1_lowestOf_67 rfl (by decide) rfl rfl ?_
          refine ok_forget 4 ?_
          exact hJ68 x2_67 hw
        refine ok_icmp_ne (pc := 39) a 53 dX1_lowestOf_39 (by decide) hc6 ⟨by decide, by decide⟩ (fun hd7 => ?_) (fun hd7 => ?_)
        · refine ok_aload_n (pc := 53) a dX1_lowestOf_53 rfl rfl ?_
          refine ok_getR (pc := 54) a dX1_lowestOf_54 lfRX1_15 (Nat.lt_of_lt_of_le (by decide) hn) kq52 rfl (tg.at 52 1 54 (by decide) (by decide)) ?_
          refine ok_iload_n (pc := 57) a dX1_lowestOf_57 rfl rfl ?_
          refine ok_iald (pc := 58) a dX1_lowestOf_58 (Nat.lt_of_lt_of_le (by decide) hn) kq54 (by decide) hc3 ?_
          simp only [if_neg hd7] at hK
          exact hK
        · refine ok_aload_n (pc := 42) a dX1_lowestOf_42 rfl rfl ?_
          refine ok_getR (pc := 43) a dX1_lowestOf_43 lfRX1_15 (Nat.lt_of_lt_of_le (by decide) hn) kq52 rfl (tg.at 52 1 54 (by decide) (by decide)) ?_
          refine ok_iload_n (pc := 46) a dX1_lowestOf_46 rfl rfl ?_
          refine ok_iald (pc := 47) a dX1_lowestOf_47 (Nat.lt_of_lt_of_le (by decide) hn) kq54 (by decide) hc3 ?_
          refine ok_iconst (pc := 48) a dX1_lowestOf_48 ?_
          refine ok_iadd (pc := 49) a dX1_lowestOf_49 ?_
          refine ok_goto (pc := 50) a 59 dX1_lowestOf_50 (by decide) ?_
          simp only [if_pos hd7] at hK
          exact hK

def wp_X1_highestOf_J70 (X6 : Int × Int → Prop) (x3_6 : Int) (x2_70 : Int) : Prop :=
  X6 (x2_70, (x3_6 + 1))
def wp_X1_highestOf_B6 (x1 : Int) (h : aH) (Q : Int → Prop) (X6 : Int × Int → Prop) (x2_6 : Int) (x3_6 : Int) : Prop :=
  inR x3_6 ∧ inR (h 52 7) ∧ (((h 52 7) ≤ x3_6 → Q x2_6) ∧ (¬ (h 52 7) ≤ x3_6 → (0 ≤ x3_6 ∧ x3_6 < 6) ∧ inR (h 53 x3_6) ∧ inR x1 ∧ (((h 53 x3_6) = x1 → inR (h 55 x3_6) ∧ (((h 55 x3_6) = 1 → wp_X1_highestOf_J70 X6 x3_6 x2_6) ∧ (¬ (h 55 x3_6) = 1 → ∀ x4_61, x4_61 = (if (h 55 x3_6) = 2 then ((h 54 x3_6) - 1) else (h 54 x3_6) : Int) → inR x2_6 ∧ inR x4_61 ∧ ∀ x2_69, x2_69 = (min x2_6 x4_61) → wp_X1_highestOf_J70 X6 x3_6 x2_69))) ∧ (¬ (h 53 x3_6) = x1 → wp_X1_highestOf_J70 X6 x3_6 x2_6))))
def wp_X1_highestOf (x1 : Int) (h : aH) (Q : Int → Prop) : Prop :=
  lp (fun X y => wp_X1_highestOf_B6 x1 h Q X y.1 y.2) (720, 0)
set_option maxRecDepth 100000 in
set_option maxHeartbeats 4000000 in
theorem M_X1_highestOf {Γ : Gm} {l : Launch} {n : Nat} {g : aG} (hn : 59 ≤ n) (tg : TC g) (x1 : Int)  {h : aH} {Q : Int → Prop} (hw : wp_X1_highestOf x1 h Q) : Cl Γ l mX1_highestOf [vR 52, vI x1] n g h (PI g h Q) := by
  refine Cl.of (by decide) [some (vR 52), some (vI x1), none, none, none] rfl (Nat.le_of_ble_eq_true rfl) ?_
  intro p e s m args below meth c a
  unfold wp_X1_highestOf at hw
  refine ok_sipush (pc := 0) a dX1_highestOf_0 (by decide) ?_
  refine ok_sI_n (pc := 3) a [some (vR 52), some (vI x1), some (vI 720), none, none] dX1_highestOf_3 rfl (by decide) rfl rfl ?_
  refine ok_iconst (pc := 4) a dX1_highestOf_4 ?_
  refine ok_sI_n (pc := 5) a [some (vR 52), some (vI x1), some (vI 720), some (vI 0), none] dX1_highestOf_5 rfl (by decide) rfl rfl ?_
  refine lp.use (P := fun y => OK Γ p l e (rmd 1 n n) s m args below meth c n (MQ below (QQ Γ n (PI g h Q)) args s (n - n) (sl n - sl n) (AA Γ)) 6 [some (vR 52), some (vI x1), some (vI y.1), some (vI y.2), none] [] n g h) ?_ (720, 0) hw
  clear hw
  intro X6 hX6 y hw
  obtain ⟨x2_6, x3_6⟩ := y
  have hw : wp_X1_highestOf_B6 x1 h Q X6 x2_6 x3_6 := hw
  unfold wp_X1_highestOf_B6 at hw
  try dsimp only
  refine ok_iload_n (pc := 6) a dX1_highestOf_6 rfl rfl ?_
  refine ok_aload_n (pc := 7) a dX1_highestOf_7 rfl rfl ?_
  refine ok_fI (pc := 8) 7 a dX1_highestOf_8 lfRX1_37 (Nat.lt_of_lt_of_le (by decide) hn) kq52 ty_1_7 rfl ?_
  obtain ⟨hc1, hw⟩ := hw
  obtain ⟨hc2, hw⟩ := hw
  refine ok_icmp_ge (pc := 11) a 76 dX1_highestOf_11 (by decide) hc1 hc2 (fun hd12 => ?_) (fun hd12 => ?_)
  · have hw := hw.1 hd12
    refine ok_iload_n (pc := 76) a dX1_highestOf_76 rfl rfl ?_
    exact ok_iret (pc := 77) a dX1_highestOf_77 ⟨_, rfl, rfl, rfl, hw⟩
  · have hw := hw.2 hd12
    refine ok_aload_n (pc := 14) a dX1_highestOf_14 rfl rfl ?_
    refine ok_getR (pc := 15) a dX1_highestOf_15 lfRX1_11 (Nat.lt_of_lt_of_le (by decide) hn) kq52 rfl (tg.at 52 0 53 (by decide) (by decide)) ?_
    refine ok_iload_n (pc := 18) a dX1_highestOf_18 rfl rfl ?_
    obtain ⟨hc3, hw⟩ := hw
    refine ok_iald (pc := 19) a dX1_highestOf_19 (Nat.lt_of_lt_of_le (by decide) hn) kq53 (by decide) hc3 ?_
    refine ok_iload_n (pc := 20) a dX1_highestOf_20 rfl rfl ?_
    obtain ⟨hc4, hw⟩ := hw
    obtain ⟨hc5, hw⟩ := hw
    have hJ70 : ∀ (x2_70 : Int), wp_X1_highestOf_J70 X6 x3_6 x2_70 → OK Γ p l e (rmd 1 n n) s m args below meth c n (MQ below (QQ Γ n (PI g h Q)) args s (n - n) (sl n - sl n) (AA Γ)) 70 [some (vR 52), some (vI x1), some (vI x2_70), some (vI x3_6), none] [] n g h := by
      intro x2_70 hw
      unfold wp_X1_highestOf_J70 at hw
      refine ok_inc (pc := 70) a [some (vR 52), some (vI x1), some (vI x2_70), some (vI (x3_6 + 1)), none] dX1_highestOf_70 rfl (by decide) rfl rfl ?_
      refine ok_goto (pc := 73) a 6 dX1_highestOf_73 (by decide) ?_
      exact hX6 (x2_70, (x3_6 + 1)) hw
    refine ok_icmp_ne (pc := 21) a 70 dX1_highestOf_21 (by decide) hc4 hc5 (fun hd11 => ?_) (fun hd11 => ?_)
    · have hw := hw.2 hd11
      exact hJ70 x2_6 hw
    · have hw := hw.1 hd11
      refine ok_aload_n (pc := 24) a dX1_highestOf_24 rfl rfl ?_
      refine ok_getR (pc := 25) a dX1_highestOf_25 lfRX1_18 (Nat.lt_of_lt_of_le (by decide) hn) kq52 rfl (tg.at 52 2 55 (by decide) (by decide)) ?_
      refine ok_iload_n (pc := 28) a dX1_highestOf_28 rfl rfl ?_
      refine ok_iald (pc := 29) a dX1_highestOf_29 (Nat.lt_of_lt_of_le (by decide) hn) kq55 (by decide) hc3 ?_
      refine ok_iconst (pc := 30) a dX1_highestOf_30 ?_
      obtain ⟨hc6, hw⟩ := hw
      refine ok_icmp_eq (pc := 31) a 70 dX1_highestOf_31 (by decide) hc6 ⟨by decide, by decide⟩ (fun hd10 => ?_) (fun hd10 => ?_)
      · have hw := hw.1 hd10
        exact hJ70 x2_6 hw
      · have hw := hw.2 hd10
        refine ok_aload_n (pc := 34) a dX1_highestOf_34 rfl rfl ?_
        refine ok_getR (pc := 35) a dX1_highestOf_35 lfRX1_18 (Nat.lt_of_lt_of_le (by decide) hn) kq52 rfl (tg.at 52 2 55 (by decide) (by decide)) ?_
        refine ok_iload_n (pc := 38) a dX1_highestOf_38 rfl rfl ?_
        refine ok_iald (pc := 39) a dX1_highestOf_39 (Nat.lt_of_lt_of_le (by decide) hn) kq55 (by decide) hc3 ?_
        refine ok_iconst (pc := 40) a dX1_highestOf_40 ?_
        have hK : OK Γ p l e (rmd 1 n n) s m args below meth c n (MQ below (QQ Γ n (PI g h Q)) args s (n - n) (sl n - sl n) (AA Γ)) 61 [some (vR 52), some (vI x1), some (vI x2_6), some (vI x3_6), none] [(vI (if (h 55 x3_6) = 2 then ((h 54 x3_6) - 1) else (h 54 x3_6) : Int))] n g h := by
          refine ok_nmI (fun x4_61 ex4_61 => ?_)
          have hw := hw x4_61 ex4_61
          refine ok_sI (pc := 61) a [some (vR 52), some (vI x1), some (vI x2_6), some (vI x3_6), some (vI x4_61)] dX1_highestOf_61 (by decide) rfl rfl ?_
          refine ok_iload_n (pc := 63) a dX1_highestOf_63 rfl rfl ?_
          refine ok_iload (pc := 64) a dX1_highestOf_64 rfl ?_
          obtain ⟨hc8, hw⟩ := hw
          obtain ⟨hc9, hw⟩ := hw
          refine ok_mmin (pc := 66) (st := []) a dX1_highestOf_66 mmRX1_56 hc8 hc9 (Nat.le_of_ble_eq_true rfl) (Nat.le_of_ble_eq_true rfl) ?_
          refine ok_nmI (fun x2_69 ex2_69 => ?_)
          have hw := hw x2_69 ex2_69
          refine ok_sI_n (pc := 69) a [some (vR 52), some (vI x1), some (vI x2_69), some (vI x3_6), some (vI x4_61)] dX1_highestOf_69 rfl (by decide) rfl rfl ?_
          refine ok_forget 4 ?_
          exact hJ70 x2_69 hw
        refine ok_icmp_ne (pc := 41) a 55 dX1_highestOf_41 (by decide) hc6 ⟨by decide, by decide⟩ (fun hd7 => ?_) (fun hd7 => ?_)
        · refine ok_aload_n (pc := 55) a dX1_highestOf_55 rfl rfl ?_
          refine ok_getR (pc := 56) a dX1_highestOf_56 lfRX1_15 (Nat.lt_of_lt_of_le (by decide) hn) kq52 rfl (tg.at 52 1 54 (by decide) (by decide)) ?_
          refine ok_iload_n (pc := 59) a dX1_highestOf_59 rfl rfl ?_
          refine ok_iald (pc := 60) a dX1_highestOf_60 (Nat.lt_of_lt_of_le (by decide) hn) kq54 (by decide) hc3 ?_
          simp only [if_neg hd7] at hK
          exact hK
        · refine ok_aload_n (pc := 44) a dX1_highestOf_44 rfl rfl ?_
          refine ok_getR (pc := 45) a dX1_highestOf_45 lfRX1_15 (Nat.lt_of_lt_of_le (by decide) hn) kq52 rfl (tg.at 52 1 54 (by decide) (by decide)) ?_
          refine ok_iload_n (pc := 48) a dX1_highestOf_48 rfl rfl ?_
          refine ok_iald (pc := 49) a dX1_highestOf_49 (Nat.lt_of_lt_of_le (by decide) hn) kq54 (by decide) hc3 ?_
          refine ok_iconst (pc := 50) a dX1_highestOf_50 ?_
          refine ok_isub (pc := 51) a dX1_highestOf_51 ?_
          refine ok_goto (pc := 52) a 61 dX1_highestOf_52 (by decide) ?_
          simp only [if_pos hd7] at hK
          exact hK

def wp_X1_waysBetween_B5 (x2 : Int) (h : aH) (Q : Int → Prop) (X5 : Int × Int → Prop) (x3_5 : Int) (x4_5 : Int) : Prop :=
  inR x4_5 ∧ inR x2 ∧ ((x2 < x4_5 → Q x3_5) ∧ (¬ x2 < x4_5 → (0 ≤ x4_5 ∧ x4_5 < 721) ∧ ∀ x3_20, x3_20 = (x3_5 + (h 58 x4_5)) → X5 (x3_20, (x4_5 + 1))))
def wp_X1_waysBetween (x1 : Int) (x2 : Int) (h : aH) (Q : Int → Prop) : Prop :=
  lp (fun X y => wp_X1_waysBetween_B5 x2 h Q X y.1 y.2) (0, x1)
set_option maxRecDepth 100000 in
set_option maxHeartbeats 4000000 in
theorem M_X1_waysBetween {Γ : Gm} {l : Launch} {n : Nat} {g : aG} (hn : 59 ≤ n) (tg : TC g) (x1 : Int) (x2 : Int)  {h : aH} {Q : Int → Prop} (hw : wp_X1_waysBetween x1 x2 h Q) : Cl Γ l mX1_waysBetween [vR 52, vI x1, vI x2] n g h (PI g h Q) := by
  refine Cl.of (by decide) [some (vR 52), some (vI x1), some (vI x2), none, none] rfl (Nat.le_of_ble_eq_true rfl) ?_
  intro p e s m args below meth c a
  unfold wp_X1_waysBetween at hw
  refine ok_iconst (pc := 0) a dX1_waysBetween_0 ?_
  refine ok_sI_n (pc := 1) a [some (vR 52), some (vI x1), some (vI x2), some (vI 0), none] dX1_waysBetween_1 rfl (by decide) rfl rfl ?_
  refine ok_iload_n (pc := 2) a dX1_waysBetween_2 rfl rfl ?_
  refine ok_sI (pc := 3) a [some (vR 52), some (vI x1), some (vI x2), some (vI 0), some (vI x1)] dX1_waysBetween_3 (by decide) rfl rfl ?_
  refine lp.use (P := fun y => OK Γ p l e (rmd 0 n n) s m args below meth c n (MQ below (QQ Γ n (PI g h Q)) args s (n - n) (sl n - sl n) (AA Γ)) 5 [some (vR 52), some (vI x1), some (vI x2), some (vI y.1), some (vI y.2)] [] n g h) ?_ (0, x1) hw
  clear hw
  intro X5 hX5 y hw
  obtain ⟨x3_5, x4_5⟩ := y
  have hw : wp_X1_waysBetween_B5 x2 h Q X5 x3_5 x4_5 := hw
  unfold wp_X1_waysBetween_B5 at hw
  try dsimp only
  refine ok_iload (pc := 5) a dX1_waysBetween_5 rfl ?_
  refine ok_iload_n (pc := 7) a dX1_waysBetween_7 rfl rfl ?_
  obtain ⟨hc1, hw⟩ := hw
  obtain ⟨hc2, hw⟩ := hw
  refine ok_icmp_gt (pc := 8) a 27 dX1_waysBetween_8 (by decide) hc1 hc2 (fun hd4 => ?_) (fun hd4 => ?_)
  · have hw := hw.1 hd4
    refine ok_iload_n (pc := 27) a dX1_waysBetween_27 rfl rfl ?_
    exact ok_iret (pc := 28) a dX1_waysBetween_28 ⟨_, rfl, rfl, rfl, hw⟩
  · have hw := hw.2 hd4
    refine ok_iload_n (pc := 11) a dX1_waysBetween_11 rfl rfl ?_
    refine ok_aload_n (pc := 12) a dX1_waysBetween_12 rfl rfl ?_
    refine ok_getR (pc := 13) a dX1_waysBetween_13 lfRX1_27 (Nat.lt_of_lt_of_le (by decide) hn) kq52 rfl (tg.at 52 5 58 (by decide) (by decide)) ?_
    refine ok_iload (pc := 16) a dX1_waysBetween_16 rfl ?_
    obtain ⟨hc3, hw⟩ := hw
    refine ok_iald (pc := 18) a dX1_waysBetween_18 (Nat.lt_of_lt_of_le (by decide) hn) kq58 (by decide) hc3 ?_
    refine ok_iadd (pc := 19) a dX1_waysBetween_19 ?_
    refine ok_nmI (fun x3_20 ex3_20 => ?_)
    have hw := hw x3_20 ex3_20
    refine ok_sI_n (pc := 20) a [some (vR 52), some (vI x1), some (vI x2), some (vI x3_20), some (vI x4_5)] dX1_waysBetween_20 rfl (by decide) rfl rfl ?_
    refine ok_inc (pc := 21) a [some (vR 52), some (vI x1), some (vI x2), some (vI x3_20), some (vI (x4_5 + 1))] dX1_waysBetween_21 rfl (by decide) rfl rfl ?_
    refine ok_goto (pc := 24) a 5 dX1_waysBetween_24 (by decide) ?_
    exact hX5 (x3_20, (x4_5 + 1)) hw

def wp_X1_leastBetween_B2 (x2 : Int) (h : aH) (Q : Int → Prop) (X2 : Int → Prop) (x3_2 : Int) : Prop :=
  inR x3_2 ∧ inR x2 ∧ ((x2 < x3_2 → Q (-9)) ∧ (¬ x2 < x3_2 → (0 ≤ x3_2 ∧ x3_2 < 721) ∧ inR (h 58 x3_2) ∧ (((h 58 x3_2) ≤ 0 → X2 (x3_2 + 1)) ∧ (¬ (h 58 x3_2) ≤ 0 → Q x3_2))))
def wp_X1_leastBetween (x1 : Int) (x2 : Int) (h : aH) (Q : Int → Prop) : Prop :=
  lp (fun X y => wp_X1_leastBetween_B2 x2 h Q X y) x1
set_option maxRecDepth 100000 in
set_option maxHeartbeats 4000000 in
theorem M_X1_leastBetween {Γ : Gm} {l : Launch} {n : Nat} {g : aG} (hn : 59 ≤ n) (tg : TC g) (x1 : Int) (x2 : Int)  {h : aH} {Q : Int → Prop} (hw : wp_X1_leastBetween x1 x2 h Q) : Cl Γ l mX1_leastBetween [vR 52, vI x1, vI x2] n g h (PI g h Q) := by
  refine Cl.of (by decide) [some (vR 52), some (vI x1), some (vI x2), none] rfl (Nat.le_of_ble_eq_true rfl) ?_
  intro p e s m args below meth c a
  unfold wp_X1_leastBetween at hw
  refine ok_iload_n (pc := 0) a dX1_leastBetween_0 rfl rfl ?_
  refine ok_sI_n (pc := 1) a [some (vR 52), some (vI x1), some (vI x2), some (vI x1)] dX1_leastBetween_1 rfl (by decide) rfl rfl ?_
  refine lp.use (P := fun y => OK Γ p l e (rmd 0 n n) s m args below meth c n (MQ below (QQ Γ n (PI g h Q)) args s (n - n) (sl n - sl n) (AA Γ)) 2 [some (vR 52), some (vI x1), some (vI x2), some (vI y)] [] n g h) ?_ x1 hw
  clear hw
  intro X2 hX2 y hw
  generalize y = x3_2 at hw ⊢
  have hw : wp_X1_leastBetween_B2 x2 h Q X2 x3_2 := hw
  unfold wp_X1_leastBetween_B2 at hw
  try dsimp only
  refine ok_iload_n (pc := 2) a dX1_leastBetween_2 rfl rfl ?_
  refine ok_iload_n (pc := 3) a dX1_leastBetween_3 rfl rfl ?_
  obtain ⟨hc1, hw⟩ := hw
  obtain ⟨hc2, hw⟩ := hw
  refine ok_icmp_gt (pc := 4) a 24 dX1_leastBetween_4 (by decide) hc1 hc2 (fun hd6 => ?_) (fun hd6 => ?_)
  · have hw := hw.1 hd6
    refine ok_bipush (pc := 24) a dX1_leastBetween_24 (by decide) ?_
    exact ok_iret (pc := 26) a dX1_leastBetween_26 ⟨_, rfl, rfl, rfl, hw⟩
  · have hw := hw.2 hd6
    refine ok_aload_n (pc := 7) a dX1_leastBetween_7 rfl rfl ?_
    refine ok_getR (pc := 8) a dX1_leastBetween_8 lfRX1_27 (Nat.lt_of_lt_of_le (by decide) hn) kq52 rfl (tg.at 52 5 58 (by decide) (by decide)) ?_
    refine ok_iload_n (pc := 11) a dX1_leastBetween_11 rfl rfl ?_
    obtain ⟨hc3, hw⟩ := hw
    refine ok_iald (pc := 12) a dX1_leastBetween_12 (Nat.lt_of_lt_of_le (by decide) hn) kq58 (by decide) hc3 ?_
    obtain ⟨hc4, hw⟩ := hw
    refine ok_if_le (pc := 13) a 18 dX1_leastBetween_13 (by decide) hc4 (fun hd5 => ?_) (fun hd5 => ?_)
    · have hw := hw.1 hd5
      refine ok_inc (pc := 18) a [some (vR 52), some (vI x1), some (vI x2), some (vI (x3_2 + 1))] dX1_leastBetween_18 rfl (by decide) rfl rfl ?_
      refine ok_goto (pc := 21) a 2 dX1_leastBetween_21 (by decide) ?_
      exact hX2 (x3_2 + 1) hw
    · have hw := hw.2 hd5
      refine ok_iload_n (pc := 16) a dX1_leastBetween_16 rfl rfl ?_
      exact ok_iret (pc := 17) a dX1_leastBetween_17 ⟨_, rfl, rfl, rfl, hw⟩

def wp_X1_greatestBetween_B2 (x1 : Int) (h : aH) (Q : Int → Prop) (X2 : Int → Prop) (x3_2 : Int) : Prop :=
  inR x3_2 ∧ inR x1 ∧ ((x3_2 < x1 → Q (-9)) ∧ (¬ x3_2 < x1 → (0 ≤ x3_2 ∧ x3_2 < 721) ∧ inR (h 58 x3_2) ∧ (((h 58 x3_2) ≤ 0 → X2 (x3_2 + (-1))) ∧ (¬ (h 58 x3_2) ≤ 0 → Q x3_2))))
def wp_X1_greatestBetween (x1 : Int) (x2 : Int) (h : aH) (Q : Int → Prop) : Prop :=
  lp (fun X y => wp_X1_greatestBetween_B2 x1 h Q X y) x2
set_option maxRecDepth 100000 in
set_option maxHeartbeats 4000000 in
theorem M_X1_greatestBetween {Γ : Gm} {l : Launch} {n : Nat} {g : aG} (hn : 59 ≤ n) (tg : TC g) (x1 : Int) (x2 : Int)  {h : aH} {Q : Int → Prop} (hw : wp_X1_greatestBetween x1 x2 h Q) : Cl Γ l mX1_greatestBetween [vR 52, vI x1, vI x2] n g h (PI g h Q) := by
  refine Cl.of (by decide) [some (vR 52), some (vI x1), some (vI x2), none] rfl (Nat.le_of_ble_eq_true rfl) ?_
  intro p e s m args below meth c a
  unfold wp_X1_greatestBetween at hw
  refine ok_iload_n (pc := 0) a dX1_greatestBetween_0 rfl rfl ?_
  refine ok_sI_n (pc := 1) a [some (vR 52), some (vI x1), some (vI x2), some (vI x2)] dX1_greatestBetween_1 rfl (by decide) rfl rfl ?_
  refine lp.use (P := fun y => OK Γ p l e (rmd 0 n n) s m args below meth c n (MQ below (QQ Γ n (PI g h Q)) args s (n - n) (sl n - sl n) (AA Γ)) 2 [some (vR 52), some (vI x1), some (vI x2), some (vI y)] [] n g h) ?_ x2 hw
  clear hw
  intro X2 hX2 y hw
  generalize y = x3_2 at hw ⊢
  have hw : wp_X1_greatestBetween_B2 x1 h Q X2 x3_2 := hw
  unfold wp_X1_greatestBetween_B2 at hw
  try dsimp only
  refine ok_iload_n (pc := 2) a dX1_greatestBetween_2 rfl rfl ?_
  refine ok_iload_n (pc := 3) a dX1_greatestBetween_3 rfl rfl ?_
  obtain ⟨hc1, hw⟩ := hw
  obtain ⟨hc2, hw⟩ := hw
  refine ok_icmp_lt (pc := 4) a 24 dX1_greatestBetween_4 (by decide) hc1 hc2 (fun hd6 => ?_) (fun hd6 => ?_)
  · have hw := hw.1 hd6
    refine ok_bipush (pc := 24) a dX1_greatestBetween_24 (by decide) ?_
    exact ok_iret (pc := 26) a dX1_greatestBetween_26 ⟨_, rfl, rfl, rfl, hw⟩
  · have hw := hw.2 hd6
    refine ok_aload_n (pc := 7) a dX1_greatestBetween_7 rfl rfl ?_
    refine ok_getR (pc := 8) a dX1_greatestBetween_8 lfRX1_27 (Nat.lt_of_lt_of_le (by decide) hn) kq52 rfl (tg.at 52 5 58 (by decide) (by decide)) ?_
    refine ok_iload_n (pc := 11) a dX1_greatestBetween_11 rfl rfl ?_
    obtain ⟨hc3, hw⟩ := hw
    refine ok_iald (pc := 12) a dX1_greatestBetween_12 (Nat.lt_of_lt_of_le (by decide) hn) kq58 (by decide) hc3 ?_
    obtain ⟨hc4, hw⟩ := hw
    refine ok_if_le (pc := 13) a 18 dX1_greatestBetween_13 (by decide) hc4 (fun hd5 => ?_) (fun hd5 => ?_)
    · have hw := hw.1 hd5
      refine ok_inc (pc := 18) a [some (vR 52), some (vI x1), some (vI x2), some (vI (x3_2 + (-1)))] dX1_greatestBetween_18 rfl (by decide) rfl rfl ?_
      refine ok_goto (pc := 21) a 2 dX1_greatestBetween_21 (by decide) ?_
      exact hX2 (x3_2 + (-1)) hw
    · have hw := hw.2 hd5
      refine ok_iload_n (pc := 16) a dX1_greatestBetween_16 rfl rfl ?_
      exact ok_iret (pc := 17) a dX1_greatestBetween_17 ⟨_, rfl, rfl, rfl, hw⟩

def wp_X1_gainOf_B7 (h : aH) (Q : Int → Prop) (X7 : Int × Int × Int → Prop) (x2_7 : Int) (x3_7 : Int) (x4_7 : Int) : Prop :=
  inR x4_7 ∧ ((x4_7 < 0 → Q x3_7) ∧ (¬ x4_7 < 0 → (0 ≤ x2_7 ∧ x2_7 < 2147483648) ∧ (0 ≤ x4_7 ∧ x4_7 < 4) ∧ ∀ x3_22, x3_22 = (x3_7 + ((x2_7 % 4) * (h 4 x4_7))) → ∀ x2_26, x2_26 = (x2_7 / 4) → X7 (x2_26, x3_22, (x4_7 + (-1)))))
def wp_X1_gainOf (x0 : Int) (h : aH) (Q : Int → Prop) : Prop :=
  lp (fun X y => wp_X1_gainOf_B7 h Q X y.1 y.2.1 y.2.2) (x0, 0, 3)
set_option maxRecDepth 100000 in
set_option maxHeartbeats 4000000 in
theorem M_X1_gainOf {Γ : Gm} {l : Launch} {n : Nat} {g : aG} (hn : 59 ≤ n) (tg : TC g) (x0 : Int)  {h : aH} {Q : Int → Prop} (hw : wp_X1_gainOf x0 h Q) : Cl Γ l mX1_gainOf [vI x0, vR 4] n g h (PI g h Q) := by
  refine Cl.of (by decide) [some (vI x0), some (vR 4), none, none, none] rfl (Nat.le_of_ble_eq_true rfl) ?_
  intro p e s m args below meth c a
  unfold wp_X1_gainOf at hw
  refine ok_iload_n (pc := 0) a dX1_gainOf_0 rfl rfl ?_
  refine ok_sI_n (pc := 1) a [some (vI x0), some (vR 4), some (vI x0), none, none] dX1_gainOf_1 rfl (by decide) rfl rfl ?_
  refine ok_iconst (pc := 2) a dX1_gainOf_2 ?_
  refine ok_sI_n (pc := 3) a [some (vI x0), some (vR 4), some (vI x0), some (vI 0), none] dX1_gainOf_3 rfl (by decide) rfl rfl ?_
  refine ok_iconst (pc := 4) a dX1_gainOf_4 ?_
  refine ok_sI (pc := 5) a [some (vI x0), some (vR 4), some (vI x0), some (vI 0), some (vI 3)] dX1_gainOf_5 (by decide) rfl rfl ?_
  refine lp.use (P := fun y => OK Γ p l e (rmd 0 n n) s m args below meth c n (MQ below (QQ Γ n (PI g h Q)) args s (n - n) (sl n - sl n) (AA Γ)) 7 [some (vI x0), some (vR 4), some (vI y.1), some (vI y.2.1), some (vI y.2.2)] [] n g h) ?_ (x0, 0, 3) hw
  clear hw
  intro X7 hX7 y hw
  obtain ⟨x2_7, x3_7, x4_7⟩ := y
  have hw : wp_X1_gainOf_B7 h Q X7 x2_7 x3_7 x4_7 := hw
  unfold wp_X1_gainOf_B7 at hw
  try dsimp only
  refine ok_iload (pc := 7) a dX1_gainOf_7 rfl ?_
  obtain ⟨hc1, hw⟩ := hw
  refine ok_if_lt (pc := 9) a 33 dX1_gainOf_9 (by decide) hc1 (fun hd4 => ?_) (fun hd4 => ?_)
  · have hw := hw.1 hd4
    refine ok_iload_n (pc := 33) a dX1_gainOf_33 rfl rfl ?_
    exact ok_iret (pc := 34) a dX1_gainOf_34 ⟨_, rfl, rfl, rfl, hw⟩
  · have hw := hw.2 hd4
    refine ok_iload_n (pc := 12) a dX1_gainOf_12 rfl rfl ?_
    refine ok_iload_n (pc := 13) a dX1_gainOf_13 rfl rfl ?_
    refine ok_iconst (pc := 14) a dX1_gainOf_14 ?_
    obtain ⟨hc2, hw⟩ := hw
    refine ok_irem (pc := 15) a dX1_gainOf_15 ⟨hc2, by decide, by decide⟩ ?_
    refine ok_aload_n (pc := 16) a dX1_gainOf_16 rfl rfl ?_
    refine ok_iload (pc := 17) a dX1_gainOf_17 rfl ?_
    obtain ⟨hc3, hw⟩ := hw
    refine ok_iald (pc := 19) a dX1_gainOf_19 (Nat.lt_of_lt_of_le (by decide) hn) kq4 (by decide) hc3 ?_
    refine ok_imul (pc := 20) a dX1_gainOf_20 ?_
    refine ok_iadd (pc := 21) a dX1_gainOf_21 ?_
    refine ok_nmI (fun x3_22 ex3_22 => ?_)
    have hw := hw x3_22 ex3_22
    refine ok_sI_n (pc := 22) a [some (vI x0), some (vR 4), some (vI x2_7), some (vI x3_22), some (vI x4_7)] dX1_gainOf_22 rfl (by decide) rfl rfl ?_
    refine ok_iload_n (pc := 23) a dX1_gainOf_23 rfl rfl ?_
    refine ok_iconst (pc := 24) a dX1_gainOf_24 ?_
    refine ok_idiv (pc := 25) a dX1_gainOf_25 ⟨hc2, by decide, by decide⟩ ?_
    refine ok_nmI (fun x2_26 ex2_26 => ?_)
    have hw := hw x2_26 ex2_26
    refine ok_sI_n (pc := 26) a [some (vI x0), some (vR 4), some (vI x2_26), some (vI x3_22), some (vI x4_7)] dX1_gainOf_26 rfl (by decide) rfl rfl ?_
    refine ok_inc (pc := 27) a [some (vI x0), some (vR 4), some (vI x2_26), some (vI x3_22), some (vI (x4_7 + (-1)))] dX1_gainOf_27 rfl (by decide) rfl rfl ?_
    refine ok_goto (pc := 30) a 7 dX1_gainOf_30 (by decide) ?_
    exact hX7 (x2_26, x3_22, (x4_7 + (-1))) hw

def wp_X1_fits_J32 (X2 : Int → Prop) (x3_2 : Int)  : Prop :=
  X2 (x3_2 + 1)
def wp_X1_fits_B2 (x1 : Int) (x2 : Int) (h : aH) (Q : Int → Prop) (X2 : Int → Prop) (x3_2 : Int) : Prop :=
  inR x3_2 ∧ inR (h 52 8) ∧ (((h 52 8) ≤ x3_2 → Q 1) ∧ (¬ (h 52 8) ≤ x3_2 → (0 ≤ x3_2 ∧ x3_2 < 6) ∧ inR (h 56 x3_2) ∧ inR x1 ∧ (((h 56 x3_2) = x1 → inR (h 57 x3_2) ∧ inR x2 ∧ (((h 57 x3_2) = x2 → wp_X1_fits_J32 X2 x3_2 ) ∧ (¬ (h 57 x3_2) = x2 → Q 0))) ∧ (¬ (h 56 x3_2) = x1 → wp_X1_fits_J32 X2 x3_2 ))))
def wp_X1_fits (x1 : Int) (x2 : Int) (h : aH) (Q : Int → Prop) : Prop :=
  lp (fun X y => wp_X1_fits_B2 x1 x2 h Q X y) 0
set_option maxRecDepth 100000 in
set_option maxHeartbeats 4000000 in
theorem M_X1_fits {Γ : Gm} {l : Launch} {n : Nat} {g : aG} (hn : 59 ≤ n) (tg : TC g) (x1 : Int) (x2 : Int)  {h : aH} {Q : Int → Prop} (hw : wp_X1_fits x1 x2 h Q) : Cl Γ l mX1_fits [vR 52, vI x1, vI x2] n g h (PZ g h Q) := by
  refine Cl.of (by decide) [some (vR 52), some (vI x1), some (vI x2), none] rfl (Nat.le_of_ble_eq_true rfl) ?_
  intro p e s m args below meth c a
  unfold wp_X1_fits at hw
  refine ok_iconst (pc := 0) a dX1_fits_0 ?_
  refine ok_sI_n (pc := 1) a [some (vR 52), some (vI x1), some (vI x2), some (vI 0)] dX1_fits_1 rfl (by decide) rfl rfl ?_
  refine lp.use (P := fun y => OK Γ p l e (rmd 0 n n) s m args below meth c n (MQ below (QQ Γ n (PZ g h Q)) args s (n - n) (sl n - sl n) (AA Γ)) 2 [some (vR 52), some (vI x1), some (vI x2), some (vI y)] [] n g h) ?_ 0 hw
  clear hw
  intro X2 hX2 y hw
  generalize y = x3_2 at hw ⊢
  have hw : wp_X1_fits_B2 x1 x2 h Q X2 x3_2 := hw
  unfold wp_X1_fits_B2 at hw
  try dsimp only
  refine ok_iload_n (pc := 2) a dX1_fits_2 rfl rfl ?_
  refine ok_aload_n (pc := 3) a dX1_fits_3 rfl rfl ?_
  refine ok_fI (pc := 4) 8 a dX1_fits_4 lfRX1_41 (Nat.lt_of_lt_of_le (by decide) hn) kq52 ty_1_8 rfl ?_
  obtain ⟨hc1, hw⟩ := hw
  obtain ⟨hc2, hw⟩ := hw
  refine ok_icmp_ge (pc := 7) a 38 dX1_fits_7 (by decide) hc1 hc2 (fun hd10 => ?_) (fun hd10 => ?_)
  · have hw := hw.1 hd10
    refine ok_iconst (pc := 38) a dX1_fits_38 ?_
    exact ok_zret (pc := 39) a dX1_fits_39 (Or.inr rfl) ⟨_, rfl, rfl, rfl, (Or.inr rfl), hw⟩
  · have hw := hw.2 hd10
    refine ok_aload_n (pc := 10) a dX1_fits_10 rfl rfl ?_
    refine ok_getR (pc := 11) a dX1_fits_11 lfRX1_21 (Nat.lt_of_lt_of_le (by decide) hn) kq52 rfl (tg.at 52 3 56 (by decide) (by decide)) ?_
    refine ok_iload_n (pc := 14) a dX1_fits_14 rfl rfl ?_
    obtain ⟨hc3, hw⟩ := hw
    refine ok_iald (pc := 15) a dX1_fits_15 (Nat.lt_of_lt_of_le (by decide) hn) kq56 (by decide) hc3 ?_
    refine ok_iload_n (pc := 16) a dX1_fits_16 rfl rfl ?_
    obtain ⟨hc4, hw⟩ := hw
    obtain ⟨hc5, hw⟩ := hw
    have hJ32 : wp_X1_fits_J32 X2 x3_2  → OK Γ p l e (rmd 0 n n) s m args below meth c n (MQ below (QQ Γ n (PZ g h Q)) args s (n - n) (sl n - sl n) (AA Γ)) 32 [some (vR 52), some (vI x1), some (vI x2), some (vI x3_2)] [] n g h := by
      intro  hw
      unfold wp_X1_fits_J32 at hw
      refine ok_inc (pc := 32) a [some (vR 52), some (vI x1), some (vI x2), some (vI (x3_2 + 1))] dX1_fits_32 rfl (by decide) rfl rfl ?_
      refine ok_goto (pc := 35) a 2 dX1_fits_35 (by decide) ?_
      exact hX2 (x3_2 + 1) hw
    refine ok_icmp_ne (pc := 17) a 32 dX1_fits_17 (by decide) hc4 hc5 (fun hd9 => ?_) (fun hd9 => ?_)
    · have hw := hw.2 hd9
      exact hJ32  hw
    · have hw := hw.1 hd9
      refine ok_aload_n (pc := 20) a dX1_fits_20 rfl rfl ?_
      refine ok_getR (pc := 21) a dX1_fits_21 lfRX1_24 (Nat.lt_of_lt_of_le (by decide) hn) kq52 rfl (tg.at 52 4 57 (by decide) (by decide)) ?_
      refine ok_iload_n (pc := 24) a dX1_fits_24 rfl rfl ?_
      refine ok_iald (pc := 25) a dX1_fits_25 (Nat.lt_of_lt_of_le (by decide) hn) kq57 (by decide) hc3 ?_
      refine ok_iload_n (pc := 26) a dX1_fits_26 rfl rfl ?_
      obtain ⟨hc6, hw⟩ := hw
      obtain ⟨hc7, hw⟩ := hw
      refine ok_icmp_eq (pc := 27) a 32 dX1_fits_27 (by decide) hc6 hc7 (fun hd8 => ?_) (fun hd8 => ?_)
      · have hw := hw.1 hd8
        exact hJ32  hw
      · have hw := hw.2 hd8
        refine ok_iconst (pc := 30) a dX1_fits_30 ?_
        exact ok_zret (pc := 31) a dX1_fits_31 (Or.inl rfl) ⟨_, rfl, rfl, rfl, (Or.inl rfl), hw⟩
