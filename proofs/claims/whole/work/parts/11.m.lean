def wp_X1_lawsOf_B5 (x1 : Int) (h : aH) (Q : Int → Prop) (X5 : Int × Int → Prop) (x3_5 : Int) (x4_5 : Int) : Prop :=
  inR x4_5 ∧ ((256 ≤ x4_5 → Q x3_5) ∧ (¬ 256 ≤ x4_5 → wp_X1_gainOf x4_5 h (fun r2 => wp_X1_fits x1 r2 h (fun r3 => X5 ((if r3 = 0 then x3_5 else (x3_5 + 1) : Int), (x4_5 + 1))))))
def wp_X1_lawsOf (x1 : Int) (h : aH) (Q : Int → Prop) : Prop :=
  lp (fun X y => wp_X1_lawsOf_B5 x1 h Q X y.1 y.2) (0, 0)
set_option maxRecDepth 100000 in
set_option maxHeartbeats 4000000 in
theorem M_X1_lawsOf {Γ : Gm} {l : Launch} {n : Nat} {g : aG} (hn : 59 ≤ n) (tg : TC g) (x1 : Int)  {h : aH} {Q : Int → Prop} (hw : wp_X1_lawsOf x1 h Q) : Cl Γ l mX1_lawsOf [vR 52, vI x1, vR 4] n g h (PI g h Q) := by
  refine Cl.of (by decide) [some (vR 52), some (vI x1), some (vR 4), none, none] rfl (Nat.le_of_ble_eq_true rfl) ?_
  intro p e s m args below meth c a
  unfold wp_X1_lawsOf at hw
  refine ok_iconst (pc := 0) a dX1_lawsOf_0 ?_
  refine ok_sI_n (pc := 1) a [some (vR 52), some (vI x1), some (vR 4), some (vI 0), none] dX1_lawsOf_1 rfl (by decide) rfl rfl ?_
  refine ok_iconst (pc := 2) a dX1_lawsOf_2 ?_
  refine ok_sI (pc := 3) a [some (vR 52), some (vI x1), some (vR 4), some (vI 0), some (vI 0)] dX1_lawsOf_3 (by decide) rfl rfl ?_
  refine lp.use (P := fun y => OK Γ p l e (rmd 1 n n) s m args below meth c n (MQ below (QQ Γ n (PI g h Q)) args s (n - n) (sl n - sl n) (AA Γ)) 5 [some (vR 52), some (vI x1), some (vR 4), some (vI y.1), some (vI y.2)] [] n g h) ?_ (0, 0) hw
  clear hw
  intro X5 hX5 y hw
  obtain ⟨x3_5, x4_5⟩ := y
  have hw : wp_X1_lawsOf_B5 x1 h Q X5 x3_5 x4_5 := hw
  unfold wp_X1_lawsOf_B5 at hw
  try dsimp only
  refine ok_iload (pc := 5) a dX1_lawsOf_5 rfl ?_
  refine ok_sipush (pc := 7) a dX1_lawsOf_7 (by decide) ?_
  obtain ⟨hc1, hw⟩ := hw
  refine ok_icmp_ge (pc := 10) a 36 dX1_lawsOf_10 (by decide) hc1 ⟨by decide, by decide⟩ (fun hd6 => ?_) (fun hd6 => ?_)
  · have hw := hw.1 hd6
    refine ok_iload_n (pc := 36) a dX1_lawsOf_36 rfl rfl ?_
    exact ok_iret (pc := 37) a dX1_lawsOf_37 ⟨_, rfl, rfl, rfl, hw⟩
  · have hw := hw.2 hd6
    refine ok_aload_n (pc := 13) a dX1_lawsOf_13 rfl rfl ?_
    refine ok_iload_n (pc := 14) a dX1_lawsOf_14 rfl rfl ?_
    refine ok_iload (pc := 15) a dX1_lawsOf_15 rfl ?_
    refine ok_aload_n (pc := 17) a dX1_lawsOf_17 rfl rfl ?_
    refine ok_SPI (pc := 18) a [(vI x4_5), (vR 4)] [(vI x1), (vR 52)] (M_X1_gainOf hn tg x4_5  hw) dX1_lawsOf_18 lkRX1_59 rfl ⟨Nat.le_of_ble_eq_true rfl, Nat.le_of_ble_eq_true rfl⟩ rfl (Nat.le_of_ble_eq_true rfl) rfl (fun r2 hw => ?_)
    refine ok_VPZ (pc := 21) a [(vI x1), (vI r2)] [] (M_X1_fits hn tg x1 r2  hw) dX1_lawsOf_21 lkRX1_63 rfl (Nat.lt_of_lt_of_le (by decide) hn) kq52 (by decide) rfl ⟨Nat.le_of_ble_eq_true rfl, Nat.le_of_ble_eq_true rfl⟩ rfl (Nat.le_of_ble_eq_true rfl) rfl (fun r3 hz4 hw => ?_)
    have hK : OK Γ p l e (rmd 1 n n) s m args below meth c n (MQ below (QQ Γ n (PI g h Q)) args s (n - n) (sl n - sl n) (AA Γ)) 30 [some (vR 52), some (vI x1), some (vR 4), some (vI (if r3 = 0 then x3_5 else (x3_5 + 1) : Int)), some (vI x4_5)] [] n g h := by
      refine ok_inc (pc := 30) a [some (vR 52), some (vI x1), some (vR 4), some (vI (if r3 = 0 then x3_5 else (x3_5 + 1) : Int)), some (vI (x4_5 + 1))] dX1_lawsOf_30 rfl (by decide) rfl rfl ?_
      refine ok_goto (pc := 33) a 5 dX1_lawsOf_33 (by decide) ?_
      exact hX5 ((if r3 = 0 then x3_5 else (x3_5 + 1) : Int), (x4_5 + 1)) hw
    refine ok_if_eq (pc := 24) a 30 dX1_lawsOf_24 (by decide) (inR_b hz4) (fun hd5 => ?_) (fun hd5 => ?_)
    · simp only [if_pos hd5] at hK
      exact hK
    · refine ok_inc (pc := 27) a [some (vR 52), some (vI x1), some (vR 4), some (vI (x3_5 + 1)), some (vI x4_5)] dX1_lawsOf_27 rfl (by decide) rfl rfl ?_
      simp only [if_neg hd5] at hK
      exact hK

def wp_X1_figuresOf_B9 (Q : Int → Prop) (X9 : Int × Int × Int × Int → Prop) (x1_9 : Int) (x2_9 : Int) (x3_9 : Int) (x4_9 : Int) : Prop :=
  inR x4_9 ∧ ((4 ≤ x4_9 → Q x3_9) ∧ (¬ 4 ≤ x4_9 → (0 ≤ x1_9 ∧ x1_9 < 2147483648) ∧ ∀ x3_22, x3_22 = (x3_9 + ((x1_9 % 4) * x2_9)) → ∀ x1_26, x1_26 = (x1_9 / 4) → ∀ x2_31, x2_31 = (x2_9 * 10) → X9 (x1_26, x2_31, x3_22, (x4_9 + 1))))
def wp_X1_figuresOf (x0 : Int) (h : aH) (Q : Int → Prop) : Prop :=
  lp (fun X y => wp_X1_figuresOf_B9 Q X y.1 y.2.1 y.2.2.1 y.2.2.2) (x0, 1, 0, 0)
set_option maxRecDepth 100000 in
set_option maxHeartbeats 4000000 in
theorem M_X1_figuresOf {Γ : Gm} {l : Launch} {n : Nat} {g : aG} (hn : 59 ≤ n) (tg : TC g) (x0 : Int)  {h : aH} {Q : Int → Prop} (hw : wp_X1_figuresOf x0 h Q) : Cl Γ l mX1_figuresOf [vI x0] n g h (PI g h Q) := by
  refine Cl.of (by decide) [some (vI x0), none, none, none, none] rfl (Nat.le_of_ble_eq_true rfl) ?_
  intro p e s m args below meth c a
  unfold wp_X1_figuresOf at hw
  refine ok_iload_n (pc := 0) a dX1_figuresOf_0 rfl rfl ?_
  refine ok_sI_n (pc := 1) a [some (vI x0), some (vI x0), none, none, none] dX1_figuresOf_1 rfl (by decide) rfl rfl ?_
  refine ok_iconst (pc := 2) a dX1_figuresOf_2 ?_
  refine ok_sI_n (pc := 3) a [some (vI x0), some (vI x0), some (vI 1), none, none] dX1_figuresOf_3 rfl (by decide) rfl rfl ?_
  refine ok_iconst (pc := 4) a dX1_figuresOf_4 ?_
  refine ok_sI_n (pc := 5) a [some (vI x0), some (vI x0), some (vI 1), some (vI 0), none] dX1_figuresOf_5 rfl (by decide) rfl rfl ?_
  refine ok_iconst (pc := 6) a dX1_figuresOf_6 ?_
  refine ok_sI (pc := 7) a [some (vI x0), some (vI x0), some (vI 1), some (vI 0), some (vI 0)] dX1_figuresOf_7 (by decide) rfl rfl ?_
  refine lp.use (P := fun y => OK Γ p l e (rmd 0 n n) s m args below meth c n (MQ below (QQ Γ n (PI g h Q)) args s (n - n) (sl n - sl n) (AA Γ)) 9 [some (vI x0), some (vI y.1), some (vI y.2.1), some (vI y.2.2.1), some (vI y.2.2.2)] [] n g h) ?_ (x0, 1, 0, 0) hw
  clear hw
  intro X9 hX9 y hw
  obtain ⟨x1_9, x2_9, x3_9, x4_9⟩ := y
  have hw : wp_X1_figuresOf_B9 Q X9 x1_9 x2_9 x3_9 x4_9 := hw
  unfold wp_X1_figuresOf_B9 at hw
  try dsimp only
  refine ok_iload (pc := 9) a dX1_figuresOf_9 rfl ?_
  refine ok_iconst (pc := 11) a dX1_figuresOf_11 ?_
  obtain ⟨hc1, hw⟩ := hw
  refine ok_icmp_ge (pc := 12) a 38 dX1_figuresOf_12 (by decide) hc1 ⟨by decide, by decide⟩ (fun hd3 => ?_) (fun hd3 => ?_)
  · have hw := hw.1 hd3
    refine ok_iload_n (pc := 38) a dX1_figuresOf_38 rfl rfl ?_
    exact ok_iret (pc := 39) a dX1_figuresOf_39 ⟨_, rfl, rfl, rfl, hw⟩
  · have hw := hw.2 hd3
    refine ok_iload_n (pc := 15) a dX1_figuresOf_15 rfl rfl ?_
    refine ok_iload_n (pc := 16) a dX1_figuresOf_16 rfl rfl ?_
    refine ok_iconst (pc := 17) a dX1_figuresOf_17 ?_
    obtain ⟨hc2, hw⟩ := hw
    refine ok_irem (pc := 18) a dX1_figuresOf_18 ⟨hc2, by decide, by decide⟩ ?_
    refine ok_iload_n (pc := 19) a dX1_figuresOf_19 rfl rfl ?_
    refine ok_imul (pc := 20) a dX1_figuresOf_20 ?_
    refine ok_iadd (pc := 21) a dX1_figuresOf_21 ?_
    refine ok_nmI (fun x3_22 ex3_22 => ?_)
    have hw := hw x3_22 ex3_22
    refine ok_sI_n (pc := 22) a [some (vI x0), some (vI x1_9), some (vI x2_9), some (vI x3_22), some (vI x4_9)] dX1_figuresOf_22 rfl (by decide) rfl rfl ?_
    refine ok_iload_n (pc := 23) a dX1_figuresOf_23 rfl rfl ?_
    refine ok_iconst (pc := 24) a dX1_figuresOf_24 ?_
    refine ok_idiv (pc := 25) a dX1_figuresOf_25 ⟨hc2, by decide, by decide⟩ ?_
    refine ok_nmI (fun x1_26 ex1_26 => ?_)
    have hw := hw x1_26 ex1_26
    refine ok_sI_n (pc := 26) a [some (vI x0), some (vI x1_26), some (vI x2_9), some (vI x3_22), some (vI x4_9)] dX1_figuresOf_26 rfl (by decide) rfl rfl ?_
    refine ok_iload_n (pc := 27) a dX1_figuresOf_27 rfl rfl ?_
    refine ok_bipush (pc := 28) a dX1_figuresOf_28 (by decide) ?_
    refine ok_imul (pc := 30) a dX1_figuresOf_30 ?_
    refine ok_nmI (fun x2_31 ex2_31 => ?_)
    have hw := hw x2_31 ex2_31
    refine ok_sI_n (pc := 31) a [some (vI x0), some (vI x1_26), some (vI x2_31), some (vI x3_22), some (vI x4_9)] dX1_figuresOf_31 rfl (by decide) rfl rfl ?_
    refine ok_inc (pc := 32) a [some (vI x0), some (vI x1_26), some (vI x2_31), some (vI x3_22), some (vI (x4_9 + 1))] dX1_figuresOf_32 rfl (by decide) rfl rfl ?_
    refine ok_goto (pc := 35) a 9 dX1_figuresOf_35 (by decide) ?_
    exact hX9 (x1_26, x2_31, x3_22, (x4_9 + 1)) hw

def wp_X1_firstLawOf_B2 (x1 : Int) (h : aH) (Q : Int → Prop) (X2 : Int → Prop) (x3_2 : Int) : Prop :=
  inR x3_2 ∧ ((256 ≤ x3_2 → Q (-9)) ∧ (¬ 256 ≤ x3_2 → wp_X1_gainOf x3_2 h (fun r2 => wp_X1_fits x1 r2 h (fun r3 => ((r3 = 0 → X2 (x3_2 + 1)) ∧ (¬ r3 = 0 → wp_X1_figuresOf x3_2 h (fun r5 => Q r5)))))))
def wp_X1_firstLawOf (x1 : Int) (h : aH) (Q : Int → Prop) : Prop :=
  lp (fun X y => wp_X1_firstLawOf_B2 x1 h Q X y) 0
set_option maxRecDepth 100000 in
set_option maxHeartbeats 4000000 in
theorem M_X1_firstLawOf {Γ : Gm} {l : Launch} {n : Nat} {g : aG} (hn : 59 ≤ n) (tg : TC g) (x1 : Int)  {h : aH} {Q : Int → Prop} (hw : wp_X1_firstLawOf x1 h Q) : Cl Γ l mX1_firstLawOf [vR 52, vI x1, vR 4] n g h (PI g h Q) := by
  refine Cl.of (by decide) [some (vR 52), some (vI x1), some (vR 4), none] rfl (Nat.le_of_ble_eq_true rfl) ?_
  intro p e s m args below meth c a
  unfold wp_X1_firstLawOf at hw
  refine ok_iconst (pc := 0) a dX1_firstLawOf_0 ?_
  refine ok_sI_n (pc := 1) a [some (vR 52), some (vI x1), some (vR 4), some (vI 0)] dX1_firstLawOf_1 rfl (by decide) rfl rfl ?_
  refine lp.use (P := fun y => OK Γ p l e (rmd 1 n n) s m args below meth c n (MQ below (QQ Γ n (PI g h Q)) args s (n - n) (sl n - sl n) (AA Γ)) 2 [some (vR 52), some (vI x1), some (vR 4), some (vI y)] [] n g h) ?_ 0 hw
  clear hw
  intro X2 hX2 y hw
  generalize y = x3_2 at hw ⊢
  have hw : wp_X1_firstLawOf_B2 x1 h Q X2 x3_2 := hw
  unfold wp_X1_firstLawOf_B2 at hw
  try dsimp only
  refine ok_iload_n (pc := 2) a dX1_firstLawOf_2 rfl rfl ?_
  refine ok_sipush (pc := 3) a dX1_firstLawOf_3 (by decide) ?_
  obtain ⟨hc1, hw⟩ := hw
  refine ok_icmp_ge (pc := 6) a 33 dX1_firstLawOf_6 (by decide) hc1 ⟨by decide, by decide⟩ (fun hd7 => ?_) (fun hd7 => ?_)
  · have hw := hw.1 hd7
    refine ok_bipush (pc := 33) a dX1_firstLawOf_33 (by decide) ?_
    exact ok_iret (pc := 35) a dX1_firstLawOf_35 ⟨_, rfl, rfl, rfl, hw⟩
  · have hw := hw.2 hd7
    refine ok_aload_n (pc := 9) a dX1_firstLawOf_9 rfl rfl ?_
    refine ok_iload_n (pc := 10) a dX1_firstLawOf_10 rfl rfl ?_
    refine ok_iload_n (pc := 11) a dX1_firstLawOf_11 rfl rfl ?_
    refine ok_aload_n (pc := 12) a dX1_firstLawOf_12 rfl rfl ?_
    refine ok_SPI (pc := 13) a [(vI x3_2), (vR 4)] [(vI x1), (vR 52)] (M_X1_gainOf hn tg x3_2  hw) dX1_firstLawOf_13 lkRX1_59 rfl ⟨Nat.le_of_ble_eq_true rfl, Nat.le_of_ble_eq_true rfl⟩ rfl (Nat.le_of_ble_eq_true rfl) rfl (fun r2 hw => ?_)
    refine ok_VPZ (pc := 16) a [(vI x1), (vI r2)] [] (M_X1_fits hn tg x1 r2  hw) dX1_firstLawOf_16 lkRX1_63 rfl (Nat.lt_of_lt_of_le (by decide) hn) kq52 (by decide) rfl ⟨Nat.le_of_ble_eq_true rfl, Nat.le_of_ble_eq_true rfl⟩ rfl (Nat.le_of_ble_eq_true rfl) rfl (fun r3 hz4 hw => ?_)
    refine ok_if_eq (pc := 19) a 27 dX1_firstLawOf_19 (by decide) (inR_b hz4) (fun hd6 => ?_) (fun hd6 => ?_)
    · have hw := hw.1 hd6
      refine ok_inc (pc := 27) a [some (vR 52), some (vI x1), some (vR 4), some (vI (x3_2 + 1))] dX1_firstLawOf_27 rfl (by decide) rfl rfl ?_
      refine ok_goto (pc := 30) a 2 dX1_firstLawOf_30 (by decide) ?_
      exact hX2 (x3_2 + 1) hw
    · have hw := hw.2 hd6
      refine ok_iload_n (pc := 22) a dX1_firstLawOf_22 rfl rfl ?_
      refine ok_SPI (pc := 23) a [(vI x3_2)] [] (M_X1_figuresOf hn tg x3_2  hw) dX1_firstLawOf_23 lkRX1_67 rfl ⟨Nat.le_of_ble_eq_true rfl, Nat.le_of_ble_eq_true rfl⟩ rfl (Nat.le_of_ble_eq_true rfl) rfl (fun r5 hw => ?_)
      exact ok_iret (pc := 26) a dX1_firstLawOf_26 ⟨_, rfl, rfl, rfl, hw⟩

def wp_X4_copyFrom (k : Nat) (a : Nat) (h : aH) (Q : aH → Prop) : Prop :=
  ∀ h1, h1 = cpy h (a + 1) 0 (k + 1) 0 16 → ∀ h2, h2 = up h1 k 1 (h1 a 1) → ∀ h3, h3 = up h2 k 2 (h2 a 2) → Q h3
set_option maxRecDepth 100000 in
set_option maxHeartbeats 4000000 in
theorem M_X4_copyFrom {Γ : Gm} {l : Launch} {n : Nat} {g : aG} (hn : 59 ≤ n) (tg : TC g) (k : Nat) (a : Nat) (hkk : (kd k).1 = 4) (hlk : k < 59) (hka : (kd a).1 = 4) (hla : a < 59) {h : aH} {Q : aH → Prop} (hw : wp_X4_copyFrom k a h Q) : Cl Γ l mX4_copyFrom [vR k, vR a] n g h (RV g Q) := by
  refine Cl.of (by decide) [some (vR k), some (vR a)] rfl (Nat.le_of_ble_eq_true rfl) ?_
  intro p e s m args below meth c a
  unfold wp_X4_copyFrom at hw
  refine ok_aload_n (pc := 0) a dX4_copyFrom_0 rfl rfl ?_
  refine ok_getR (pc := 1) a dX4_copyFrom_1 lfRX4_9 (Nat.lt_of_lt_of_le hla hn) hka rfl (tg.at _ 0 _ (mom_spec _ hla hka).1 hla) ?_
  refine ok_iconst (pc := 4) a dX4_copyFrom_4 ?_
  refine ok_aload_n (pc := 5) a dX4_copyFrom_5 rfl rfl ?_
  refine ok_getR (pc := 6) a dX4_copyFrom_6 lfRX4_9 (Nat.lt_of_lt_of_le hlk hn) hkk rfl (tg.at _ 0 _ (mom_spec _ hlk hkk).1 hlk) ?_
  refine ok_iconst (pc := 9) a dX4_copyFrom_9 ?_
  refine ok_aload_n (pc := 10) a dX4_copyFrom_10 rfl rfl ?_
  refine ok_getR (pc := 11) a dX4_copyFrom_11 lfRX4_9 (Nat.lt_of_lt_of_le hlk hn) hkk rfl (tg.at _ 0 _ (mom_spec _ hlk hkk).1 hlk) ?_
  refine ok_al (pc := 14) 16 a dX4_copyFrom_14 (Nat.lt_of_lt_of_le (mom_spec _ hlk hkk).2.2 hn) (mom_spec _ hlk hkk).2.1 (by decide) rfl ?_
  refine ok_copy (pc := 15) (st := []) a dX4_copyFrom_15 lcRX4_20 (Nat.lt_of_lt_of_le (mom_spec _ hla hka).2.2 hn) (Nat.lt_of_lt_of_le (mom_spec _ hlk hkk).2.2 hn) (mom_spec _ hla hka).2.1 (mom_spec _ hlk hkk).2.1 (by decide) (by decide) ⟨by decide, by decide, by decide, by decide, by decide⟩ (Nat.le_of_ble_eq_true rfl) (Nat.le_of_ble_eq_true rfl) (ok_nmH (fun h1 eh1 => ?_))
  have hw := hw h1 eh1
  refine ok_aload_n (pc := 18) a dX4_copyFrom_18 rfl rfl ?_
  refine ok_aload_n (pc := 19) a dX4_copyFrom_19 rfl rfl ?_
  refine ok_fI (pc := 20) 1 a dX4_copyFrom_20 lfRX4_26 (Nat.lt_of_lt_of_le hla hn) hka ty_4_1 rfl ?_
  refine ok_pI (pc := 23) 1 a dX4_copyFrom_23 lfRX4_26 fi_4_1 (Nat.lt_of_lt_of_le hlk hn) hkk ty_4_1 rfl (fun h2 eh2 => ?_)
  have hw := hw h2 eh2
  refine ok_aload_n (pc := 26) a dX4_copyFrom_26 rfl rfl ?_
  refine ok_aload_n (pc := 27) a dX4_copyFrom_27 rfl rfl ?_
  refine ok_fI (pc := 28) 2 a dX4_copyFrom_28 lfRX4_30 (Nat.lt_of_lt_of_le hla hn) hka ty_4_2 rfl ?_
  refine ok_pI (pc := 31) 2 a dX4_copyFrom_31 lfRX4_30 fi_4_2 (Nat.lt_of_lt_of_le hlk hn) hkk ty_4_2 rfl (fun h3 eh3 => ?_)
  have hw := hw h3 eh3
  exact ok_vret (pc := 34) a dX4_copyFrom_34 ⟨rfl, rfl, hw⟩

def wp_X2_push  (h : aH) (Q : aH → Prop) : Prop :=
  (0 ≤ (h 15 1) ∧ (h 15 1) < 10) ∧ wp_X4_copyFrom (17 + 2 * (h 15 1).toNat) 13 h (fun h2 => (0 ≤ ((h2 15 1) + 1) ∧ ((h2 15 1) + 1) < 2147483648) ∧ ∀ h4, h4 = up h2 15 1 (((h2 15 1) + 1) % 10) → inR ((h4 15 2) + 1) ∧ ∀ h6, h6 = up h4 15 2 (min 10 ((h4 15 2) + 1)) → Q h6)
set_option maxRecDepth 100000 in
set_option maxHeartbeats 4000000 in
theorem M_X2_push {Γ : Gm} {l : Launch} {n : Nat} {g : aG} (hn : 59 ≤ n) (tg : TC g)   {h : aH} {Q : aH → Prop} (hw : wp_X2_push  h Q) : Cl Γ l mX2_push [vR 15, vR 13] n g h (RV g Q) := by
  refine Cl.of (by decide) [some (vR 15), some (vR 13)] rfl (Nat.le_of_ble_eq_true rfl) ?_
  intro p e s m args below meth c a
  unfold wp_X2_push at hw
  refine ok_aload_n (pc := 0) a dX2_push_0 rfl rfl ?_
  refine ok_getR (pc := 1) a dX2_push_1 lfRX2_11 (Nat.lt_of_lt_of_le (by decide) hn) kq15 rfl (tg.at 15 0 16 (by decide) (by decide)) ?_
  refine ok_aload_n (pc := 4) a dX2_push_4 rfl rfl ?_
  refine ok_fI (pc := 5) 1 a dX2_push_5 lfRX2_18 (Nat.lt_of_lt_of_le (by decide) hn) kq15 ty_2_1 rfl ?_
  obtain ⟨hc1, hw⟩ := hw
  refine ok_aald (pc := 8) a dX2_push_8 (Nat.lt_of_lt_of_le (by decide) hn) kq16 (by decide) hc1 (tg.ring hc1) ?_
  refine ok_aload_n (pc := 9) a dX2_push_9 rfl rfl ?_
  refine ok_VRV (pc := 10) a [(vR 13)] [] (M_X4_copyFrom hn tg (17 + 2 * (h 15 1).toNat) 13 (ring_fix (h 15 1).toNat (by omega)).2.1 (ring_fix (h 15 1).toNat (by omega)).2.2 kq13 (by decide) hw) dX2_push_10 lkRX2_22 rfl (Nat.lt_of_lt_of_le (ring_fix (h 15 1).toNat (by omega)).2.2 hn) (ring_fix (h 15 1).toNat (by omega)).2.1 (by decide) rfl ⟨Nat.le_of_ble_eq_true rfl, Nat.le_of_ble_eq_true rfl⟩ rfl (Nat.le_of_ble_eq_true rfl) rfl (fun h2 hw => ?_)
  refine ok_aload_n (pc := 13) a dX2_push_13 rfl rfl ?_
  refine ok_aload_n (pc := 14) a dX2_push_14 rfl rfl ?_
  refine ok_fI (pc := 15) 1 a dX2_push_15 lfRX2_18 (Nat.lt_of_lt_of_le (by decide) hn) kq15 ty_2_1 rfl ?_
  refine ok_iconst (pc := 18) a dX2_push_18 ?_
  refine ok_iadd (pc := 19) a dX2_push_19 ?_
  refine ok_bipush (pc := 20) a dX2_push_20 (by decide) ?_
  obtain ⟨hc3, hw⟩ := hw
  refine ok_irem (pc := 22) a dX2_push_22 ⟨hc3, by decide, by decide⟩ ?_
  refine ok_pI (pc := 23) 1 a dX2_push_23 lfRX2_18 fi_2_1 (Nat.lt_of_lt_of_le (by decide) hn) kq15 ty_2_1 rfl (fun h4 eh4 => ?_)
  have hw := hw h4 eh4
  refine ok_aload_n (pc := 26) a dX2_push_26 rfl rfl ?_
  refine ok_bipush (pc := 27) a dX2_push_27 (by decide) ?_
  refine ok_aload_n (pc := 29) a dX2_push_29 rfl rfl ?_
  refine ok_fI (pc := 30) 2 a dX2_push_30 lfRX2_26 (Nat.lt_of_lt_of_le (by decide) hn) kq15 ty_2_2 rfl ?_
  refine ok_iconst (pc := 33) a dX2_push_33 ?_
  refine ok_iadd (pc := 34) a dX2_push_34 ?_
  obtain ⟨hc5, hw⟩ := hw
  refine ok_mmin (pc := 35) (st := [(vR 15)]) a dX2_push_35 mmRX2_29 ⟨by decide, by decide⟩ hc5 (Nat.le_of_ble_eq_true rfl) (Nat.le_of_ble_eq_true rfl) ?_
  refine ok_pI (pc := 38) 2 a dX2_push_38 lfRX2_26 fi_2_2 (Nat.lt_of_lt_of_le (by decide) hn) kq15 ty_2_2 rfl (fun h6 eh6 => ?_)
  have hw := hw h6 eh6
  exact ok_vret (pc := 41) a dX2_push_41 ⟨rfl, rfl, hw⟩

def wp_X2_popInto  (h : aH) (Q : aH → Prop) : Prop :=
  inR (h 15 2) ∧ (((h 15 2) ≤ 0 → Q h) ∧ (¬ (h 15 2) ≤ 0 → (0 ≤ (((h 15 1) + 10) - 1) ∧ (((h 15 1) + 10) - 1) < 2147483648) ∧ ∀ h3, h3 = up h 15 1 ((((h 15 1) + 10) - 1) % 10) → ∀ h4, h4 = up h3 15 2 ((h3 15 2) - 1) → (0 ≤ (h4 15 1) ∧ (h4 15 1) < 10) ∧ wp_X4_copyFrom 13 (17 + 2 * (h4 15 1).toNat) h4 (fun h6 => Q h6)))
set_option maxRecDepth 100000 in
set_option maxHeartbeats 4000000 in
theorem M_X2_popInto {Γ : Gm} {l : Launch} {n : Nat} {g : aG} (hn : 59 ≤ n) (tg : TC g)   {h : aH} {Q : aH → Prop} (hw : wp_X2_popInto  h Q) : Cl Γ l mX2_popInto [vR 15, vR 13] n g h (RV g Q) := by
  refine Cl.of (by decide) [some (vR 15), some (vR 13)] rfl (Nat.le_of_ble_eq_true rfl) ?_
  intro p e s m args below meth c a
  unfold wp_X2_popInto at hw
  refine ok_aload_n (pc := 0) a dX2_popInto_0 rfl rfl ?_
  refine ok_fI (pc := 1) 2 a dX2_popInto_1 lfRX2_26 (Nat.lt_of_lt_of_le (by decide) hn) kq15 ty_2_2 rfl ?_
  obtain ⟨hc1, hw⟩ := hw
  refine ok_if_le (pc := 4) a 46 dX2_popInto_4 (by decide) hc1 (fun hd7 => ?_) (fun hd7 => ?_)
  · have hw := hw.1 hd7
    exact ok_vret (pc := 46) a dX2_popInto_46 ⟨rfl, rfl, hw⟩
  · have hw := hw.2 hd7
    refine ok_aload_n (pc := 7) a dX2_popInto_7 rfl rfl ?_
    refine ok_aload_n (pc := 8) a dX2_popInto_8 rfl rfl ?_
    refine ok_fI (pc := 9) 1 a dX2_popInto_9 lfRX2_18 (Nat.lt_of_lt_of_le (by decide) hn) kq15 ty_2_1 rfl ?_
    refine ok_bipush (pc := 12) a dX2_popInto_12 (by decide) ?_
    refine ok_iadd (pc := 14) a dX2_popInto_14 ?_
    refine ok_iconst (pc := 15) a dX2_popInto_15 ?_
    refine ok_isub (pc := 16) a dX2_popInto_16 ?_
    refine ok_bipush (pc := 17) a dX2_popInto_17 (by decide) ?_
    obtain ⟨hc2, hw⟩ := hw
    refine ok_irem (pc := 19) a dX2_popInto_19 ⟨hc2, by decide, by decide⟩ ?_
    refine ok_pI (pc := 20) 1 a dX2_popInto_20 lfRX2_18 fi_2_1 (Nat.lt_of_lt_of_le (by decide) hn) kq15 ty_2_1 rfl (fun h3 eh3 => ?_)
    have hw := hw h3 eh3
    refine ok_aload_n (pc := 23) a dX2_popInto_23 rfl rfl ?_
    refine ok_dup (pc := 24) a dX2_popInto_24 (by rfl) ?_
    refine ok_fI (pc := 25) 2 a dX2_popInto_25 lfRX2_26 (Nat.lt_of_lt_of_le (by decide) hn) kq15 ty_2_2 rfl ?_
    refine ok_iconst (pc := 28) a dX2_popInto_28 ?_
    refine ok_isub (pc := 29) a dX2_popInto_29 ?_
    refine ok_pI (pc := 30) 2 a dX2_popInto_30 lfRX2_26 fi_2_2 (Nat.lt_of_lt_of_le (by decide) hn) kq15 ty_2_2 rfl (fun h4 eh4 => ?_)
    have hw := hw h4 eh4
    refine ok_aload_n (pc := 33) a dX2_popInto_33 rfl rfl ?_
    refine ok_aload_n (pc := 34) a dX2_popInto_34 rfl rfl ?_
    refine ok_getR (pc := 35) a dX2_popInto_35 lfRX2_11 (Nat.lt_of_lt_of_le (by decide) hn) kq15 rfl (tg.at 15 0 16 (by decide) (by decide)) ?_
    refine ok_aload_n (pc := 38) a dX2_popInto_38 rfl rfl ?_
    refine ok_fI (pc := 39) 1 a dX2_popInto_39 lfRX2_18 (Nat.lt_of_lt_of_le (by decide) hn) kq15 ty_2_1 rfl ?_
    obtain ⟨hc5, hw⟩ := hw
    refine ok_aald (pc := 42) a dX2_popInto_42 (Nat.lt_of_lt_of_le (by decide) hn) kq16 (by decide) hc5 (tg.ring hc5) ?_
    refine ok_VRV (pc := 43) a [(vR (17 + 2 * (h4 15 1).toNat))] [] (M_X4_copyFrom hn tg 13 (17 + 2 * (h4 15 1).toNat) kq13 (by decide) (ring_fix (h4 15 1).toNat (by omega)).2.1 (ring_fix (h4 15 1).toNat (by omega)).2.2 hw) dX2_popInto_43 lkRX2_22 rfl (Nat.lt_of_lt_of_le (by decide) hn) kq13 (by decide) rfl ⟨Nat.le_of_ble_eq_true rfl, Nat.le_of_ble_eq_true rfl⟩ rfl (Nat.le_of_ble_eq_true rfl) rfl (fun h6 hw => ?_)
    exact ok_vret (pc := 46) a dX2_popInto_46 ⟨rfl, rfl, hw⟩

def wp_X3_offerBundle_J34 (X3 : Int × aH → Prop) (x4_3 : Int) (h_34 : aH) : Prop :=
  X3 ((x4_3 + (-1)), h_34)
def wp_X3_offerBundle_B3 (k : Nat) (x2 : Int) (x3 : Int) (Q : aH → Prop) (X3 : Int × aH → Prop) (x4_3 : Int) (h_3 : aH) : Prop :=
  inR x4_3 ∧ inR x2 ∧ ((x4_3 < x2 → Q h_3) ∧ (¬ x4_3 < x2 → (0 ≤ (x4_3 - x2) ∧ (x4_3 - x2) < 721) ∧ ∀ x5_17, x5_17 = ((h_3 k (x4_3 - x2)) + x3) → (0 ≤ x4_3 ∧ x4_3 < 721) ∧ inR x5_17 ∧ inR (h_3 k x4_3) ∧ (((h_3 k x4_3) ≤ x5_17 → wp_X3_offerBundle_J34 X3 x4_3 h_3) ∧ (¬ (h_3 k x4_3) ≤ x5_17 → ∀ h7, h7 = up h_3 k x4_3 x5_17 → wp_X3_offerBundle_J34 X3 x4_3 h7))))
def wp_X3_offerBundle (k : Nat) (x1 : Int) (x2 : Int) (x3 : Int) (h : aH) (Q : aH → Prop) : Prop :=
  lp (fun X y => wp_X3_offerBundle_B3 k x2 x3 Q X y.1 y.2) (x1, h)
set_option maxRecDepth 100000 in
set_option maxHeartbeats 4000000 in
theorem M_X3_offerBundle {Γ : Gm} {l : Launch} {n : Nat} {g : aG} (hn : 59 ≤ n) (tg : TC g) (k : Nat) (x1 : Int) (x2 : Int) (x3 : Int) (hkk : kd k = (10, 721)) (hlk : k < 59) {h : aH} {Q : aH → Prop} (hw : wp_X3_offerBundle k x1 x2 x3 h Q) : Cl Γ l mX3_offerBundle [vR k, vI x1, vI x2, vI x3] n g h (RV g Q) := by
  refine Cl.of (by decide) [some (vR k), some (vI x1), some (vI x2), some (vI x3), none, none] rfl (Nat.le_of_ble_eq_true rfl) ?_
  intro p e s m args below meth c a
  unfold wp_X3_offerBundle at hw
  refine ok_iload_n (pc := 0) a dX3_offerBundle_0 rfl rfl ?_
  refine ok_sI (pc := 1) a [some (vR k), some (vI x1), some (vI x2), some (vI x3), some (vI x1), none] dX3_offerBundle_1 (by decide) rfl rfl ?_
  refine lp.use (P := fun y => OK Γ p l e (rmd 0 n n) s m args below meth c n (MQ below (QQ Γ n (RV g Q)) args s (n - n) (sl n - sl n) (AA Γ)) 3 [some (vR k), some (vI x1), some (vI x2), some (vI x3), some (vI y.1), none] [] n g y.2) ?_ (x1, h) hw
  clear hw
  intro X3 hX3 y hw
  obtain ⟨x4_3, h_3⟩ := y
  have hw : wp_X3_offerBundle_B3 k x2 x3 Q X3 x4_3 h_3 := hw
  unfold wp_X3_offerBundle_B3 at hw
  try dsimp only
  refine ok_iload (pc := 3) a dX3_offerBundle_3 rfl ?_
  refine ok_iload_n (pc := 5) a dX3_offerBundle_5 rfl rfl ?_
  obtain ⟨hc1, hw⟩ := hw
  obtain ⟨hc2, hw⟩ := hw
  refine ok_icmp_lt (pc := 6) a 40 dX3_offerBundle_6 (by decide) hc1 hc2 (fun hd9 => ?_) (fun hd9 => ?_)
  · have hw := hw.1 hd9
    exact ok_vret (pc := 40) a dX3_offerBundle_40 ⟨rfl, rfl, hw⟩
  · have hw := hw.2 hd9
    refine ok_aload_n (pc := 9) a dX3_offerBundle_9 rfl rfl ?_
    refine ok_iload (pc := 10) a dX3_offerBundle_10 rfl ?_
    refine ok_iload_n (pc := 12) a dX3_offerBundle_12 rfl rfl ?_
    refine ok_isub (pc := 13) a dX3_offerBundle_13 ?_
    obtain ⟨hc3, hw⟩ := hw
    refine ok_iald (pc := 14) a dX3_offerBundle_14 (Nat.lt_of_lt_of_le hlk hn) hkk (by decide) hc3 ?_
    refine ok_iload_n (pc := 15) a dX3_offerBundle_15 rfl rfl ?_
    refine ok_iadd (pc := 16) a dX3_offerBundle_16 ?_
    refine ok_nmI (fun x5_17 ex5_17 => ?_)
    have hw := hw x5_17 ex5_17
    refine ok_sI (pc := 17) a [some (vR k), some (vI x1), some (vI x2), some (vI x3), some (vI x4_3), some (vI x5_17)] dX3_offerBundle_17 (by decide) rfl rfl ?_
    refine ok_iload (pc := 19) a dX3_offerBundle_19 rfl ?_
    refine ok_aload_n (pc := 21) a dX3_offerBundle_21 rfl rfl ?_
    refine ok_iload (pc := 22) a dX3_offerBundle_22 rfl ?_
    obtain ⟨hc4, hw⟩ := hw
    refine ok_iald (pc := 24) a dX3_offerBundle_24 (Nat.lt_of_lt_of_le hlk hn) hkk (by decide) hc4 ?_
    obtain ⟨hc5, hw⟩ := hw
    obtain ⟨hc6, hw⟩ := hw
    have hJ34 : ∀ (h_34 : aH), wp_X3_offerBundle_J34 X3 x4_3 h_34 → OK Γ p l e (rmd 0 n n) s m args below meth c n (MQ below (QQ Γ n (RV g Q)) args s (n - n) (sl n - sl n) (AA Γ)) 34 [some (vR k), some (vI x1), some (vI x2), some (vI x3), some (vI x4_3), some (vI x5_17)] [] n g h_34 := by
      intro h_34 hw
      unfold wp_X3_offerBundle_J34 at hw
      refine ok_inc (pc := 34) a [some (vR k), some (vI x1), some (vI x2), some (vI x3), some (vI (x4_3 + (-1))), some (vI x5_17)] dX3_offerBundle_34 rfl (by decide) rfl rfl ?_
      refine ok_goto (pc := 37) a 3 dX3_offerBundle_37 (by decide) ?_
      refine ok_forget 5 ?_
      exact hX3 ((x4_3 + (-1)), h_34) hw
    refine ok_icmp_ge (pc := 25) a 34 dX3_offerBundle_25 (by decide) hc5 hc6 (fun hd8 => ?_) (fun hd8 => ?_)
    · have hw := hw.1 hd8
      exact hJ34 h_3 hw
    · have hw := hw.2 hd8
      refine ok_aload_n (pc := 28) a dX3_offerBundle_28 rfl rfl ?_
      refine ok_iload (pc := 29) a dX3_offerBundle_29 rfl ?_
      refine ok_iload (pc := 31) a dX3_offerBundle_31 rfl ?_
      refine ok_iast (pc := 33) a dX3_offerBundle_33 (Nat.lt_of_lt_of_le hlk hn) hkk (by decide) hc4 (ok_nmH (fun h7 eh7 => ?_))
      have hw := hw h7 eh7
      exact hJ34 h7 hw

def wp_X3_countFewest_J100 (X17 : Int × Int × aH → Prop) (x5_17 : Int) (x4_36 : Int) (h_36 : aH)  : Prop :=
  X17 (x4_36, (x5_17 + 1), h_36)
def wp_X3_countFewest_B36 (k : Nat) (X17 : Int × Int × aH → Prop) (x5_17 : Int) (X36 : Int × Int × Int × aH → Prop) (x4_36 : Int) (x6_36 : Int) (x7_36 : Int) (h_36 : aH) : Prop :=
  inR x6_36 ∧ ((x6_36 ≤ 0 → wp_X3_countFewest_J100 X17 x5_17 x4_36 h_36 ) ∧ (¬ x6_36 ≤ 0 → inR x7_36 ∧ ((9 < x7_36 → wp_X3_countFewest_J100 X17 x5_17 x4_36 h_36 ) ∧ (¬ 9 < x7_36 → ∀ x8_55, x8_55 = (min x7_36 x6_36) → (0 ≤ x5_17 ∧ x5_17 < 4) ∧ ∀ x4_67, x4_67 = (x4_36 + (x8_55 * (h_36 4 x5_17))) → wp_X3_offerBundle k x4_67 (x8_55 * (h_36 4 x5_17)) x8_55 h_36 (fun h8 => ∀ x6_89, x6_89 = (x6_36 - x8_55) → ∀ x7_95, x7_95 = (x7_36 * 2) → X36 (x4_67, x6_89, x7_95, h8))))))
def wp_X3_countFewest_B17 (k : Nat) (x3 : Int) (Q : Int → aH → Prop) (X17 : Int × Int × aH → Prop) (x4_17 : Int) (x5_17 : Int) (h_17 : aH) : Prop :=
  inR x5_17 ∧ ((4 ≤ x5_17 → Q x4_17 h_17) ∧ (¬ 4 ≤ x5_17 → (0 ≤ ((x3 * 4) + x5_17) ∧ ((x3 * 4) + x5_17) < 16) ∧ ∀ x6_31, x6_31 = (h_17 14 ((x3 * 4) + x5_17)) → lp (fun X y => wp_X3_countFewest_B36 k X17 x5_17 X y.1 y.2.1 y.2.2.1 y.2.2.2) (x4_17, x6_31, 1, h_17)))
def wp_X3_countFewest (k : Nat) (x3 : Int) (h : aH) (Q : Int → aH → Prop) : Prop :=
  wp_J7_fill_53178 k 721 1000 h (fun h1 => ∀ h2, h2 = up h1 k 0 0 → lp (fun X y => wp_X3_countFewest_B17 k x3 Q X y.1 y.2.1 y.2.2) (0, 0, h2))
set_option maxRecDepth 100000 in
set_option maxHeartbeats 4000000 in
theorem M_X3_countFewest {Γ : Gm} {l : Launch} {n : Nat} {g : aG} (hn : 59 ≤ n) (tg : TC g) (k : Nat) (x3 : Int) (hkk : kd k = (10, 721)) (hlk : k < 59) {h : aH} {Q : Int → aH → Prop} (hw : wp_X3_countFewest k x3 h Q) : Cl Γ l mX3_countFewest [vR k, vR 4, vR 14, vI x3] n g h (RI g Q) := by
  refine Cl.of (by decide) [some (vR k), some (vR 4), some (vR 14), some (vI x3), none, none, none, none, none] rfl (Nat.le_of_ble_eq_true rfl) ?_
  intro p e s m args below meth c a
  unfold wp_X3_countFewest at hw
  refine ok_aload_n (pc := 0) a dX3_countFewest_0 rfl rfl ?_
  refine ok_sipush (pc := 1) a dX3_countFewest_1 (by decide) ?_
  refine ok_SRV (pc := 4) a [(vR k), (vI 1000)] [] (M_J7_fill_53178 hn tg k 721 1000 (by decide) hkk hlk hw) dX3_countFewest_4 lkRX3_48 rfl ⟨Nat.le_of_ble_eq_true rfl, Nat.le_of_ble_eq_true rfl⟩ rfl (Nat.le_of_ble_eq_true rfl) rfl (fun h1 hw => ?_)
  refine ok_aload_n (pc := 7) a dX3_countFewest_7 rfl rfl ?_
  refine ok_iconst (pc := 8) a dX3_countFewest_8 ?_
  refine ok_iconst (pc := 9) a dX3_countFewest_9 ?_
  refine ok_iast (pc := 10) a dX3_countFewest_10 (Nat.lt_of_lt_of_le hlk hn) hkk (by decide) ⟨by decide, by decide⟩ (ok_nmH (fun h2 eh2 => ?_))
  have hw := hw h2 eh2
  refine ok_iconst (pc := 11) a dX3_countFewest_11 ?_
  refine ok_sI (pc := 12) a [some (vR k), some (vR 4), some (vR 14), some (vI x3), some (vI 0), none, none, none, none] dX3_countFewest_12 (by decide) rfl rfl ?_
  refine ok_iconst (pc := 14) a dX3_countFewest_14 ?_
  refine ok_sI (pc := 15) a [some (vR k), some (vR 4), some (vR 14), some (vI x3), some (vI 0), some (vI 0), none, none, none] dX3_countFewest_15 (by decide) rfl rfl ?_
  refine lp.use (P := fun y => OK Γ p l e (rmd 1 n n) s m args below meth c n (MQ below (QQ Γ n (RI g Q)) args s (n - n) (sl n - sl n) (AA Γ)) 17 [some (vR k), some (vR 4), some (vR 14), some (vI x3), some (vI y.1), some (vI y.2.1), none, none, none] [] n g y.2.2) ?_ (0, 0, h2) hw
  clear hw
  intro X17 hX17 y hw
  obtain ⟨x4_17, x5_17, h_17⟩ := y
  have hw : wp_X3_countFewest_B17 k x3 Q X17 x4_17 x5_17 h_17 := hw
  unfold wp_X3_countFewest_B17 at hw
  try dsimp only
  refine ok_iload (pc := 17) a dX3_countFewest_17 rfl ?_
  refine ok_iconst (pc := 19) a dX3_countFewest_19 ?_
  obtain ⟨hc3, hw⟩ := hw
  refine ok_icmp_ge (pc := 20) a 106 dX3_countFewest_20 (by decide) hc3 ⟨by decide, by decide⟩ (fun hd11 => ?_) (fun hd11 => ?_)
  · have hw := hw.1 hd11
    refine ok_iload (pc := 106) a dX3_countFewest_106 rfl ?_
    exact ok_iret (pc := 108) a dX3_countFewest_108 ⟨_, rfl, rfl, hw⟩
  · have hw := hw.2 hd11
    refine ok_aload_n (pc := 23) a dX3_countFewest_23 rfl rfl ?_
    refine ok_iload_n (pc := 24) a dX3_countFewest_24 rfl rfl ?_
    refine ok_iconst (pc := 25) a dX3_countFewest_25 ?_
    refine ok_imul (pc := 26) a dX3_countFewest_26 ?_
    refine ok_iload (pc := 27) a dX3_countFewest_27 rfl ?_
    refine ok_iadd (pc := 29) a dX3_countFewest_29 ?_
    obtain ⟨hc4, hw⟩ := hw
    refine ok_iald (pc := 30) a dX3_countFewest_30 (Nat.lt_of_lt_of_le (by decide) hn) kq14 (by decide) hc4 ?_
    refine ok_nmI (fun x6_31 ex6_31 => ?_)
    have hw := hw x6_31 ex6_31
    refine ok_sI (pc := 31) a [some (vR k), some (vR 4), some (vR 14), some (vI x3), some (vI x4_17), some (vI x5_17), some (vI x6_31), none, none] dX3_countFewest_31 (by decide) rfl rfl ?_
    refine ok_iconst (pc := 33) a dX3_countFewest_33 ?_
    refine ok_sI (pc := 34) a [some (vR k), some (vR 4), some (vR 14), some (vI x3), some (vI x4_17), some (vI x5_17), some (vI x6_31), some (vI 1), none] dX3_countFewest_34 (by decide) rfl rfl ?_
    refine lp.use (P := fun y => OK Γ p l e (rmd 1 n n) s m args below meth c n (MQ below (QQ Γ n (RI g Q)) args s (n - n) (sl n - sl n) (AA Γ)) 36 [some (vR k), some (vR 4), some (vR 14), some (vI x3), some (vI y.1), some (vI x5_17), some (vI y.2.1), some (vI y.2.2.1), none] [] n g y.2.2.2) ?_ (x4_17, x6_31, 1, h_17) hw
    clear hw
    intro X36 hX36 y hw
    obtain ⟨x4_36, x6_36, x7_36, h_36⟩ := y
    have hw : wp_X3_countFewest_B36 k X17 x5_17 X36 x4_36 x6_36 x7_36 h_36 := hw
    unfold wp_X3_countFewest_B36 at hw
    try dsimp only
    refine ok_iload (pc := 36) a dX3_countFewest_36 rfl ?_
    obtain ⟨hc5, hw⟩ := hw
    have hJ100 : wp_X3_countFewest_J100 X17 x5_17 x4_36 h_36  → OK Γ p l e (rmd 1 n n) s m args below meth c n (MQ below (QQ Γ n (RI g Q)) args s (n - n) (sl n - sl n) (AA Γ)) 100 [some (vR k), some (vR 4), some (vR 14), some (vI x3), some (vI x4_36), some (vI x5_17), some (vI x6_36), some (vI x7_36), none] [] n g h_36 := by
      intro  hw
      unfold wp_X3_countFewest_J100 at hw
      refine ok_inc (pc := 100) a [some (vR k), some (vR 4), some (vR 14), some (vI x3), some (vI x4_36), some (vI (x5_17 + 1)), some (vI x6_36), some (vI x7_36), none] dX3_countFewest_100 rfl (by decide) rfl rfl ?_
      refine ok_goto (pc := 103) a 17 dX3_countFewest_103 (by decide) ?_
      refine ok_forget 6 ?_
      refine ok_forget 7 ?_
      exact hX17 (x4_36, (x5_17 + 1), h_36) hw
    refine ok_if_le (pc := 38) a 100 dX3_countFewest_38 (by decide) hc5 (fun hd10 => ?_) (fun hd10 => ?_)
    · have hw := hw.1 hd10
      exact hJ100  hw
    · have hw := hw.2 hd10
      refine ok_iload (pc := 41) a dX3_countFewest_41 rfl ?_
      refine ok_bipush (pc := 43) a dX3_countFewest_43 (by decide) ?_
      obtain ⟨hc6, hw⟩ := hw
      refine ok_icmp_gt (pc := 45) a 100 dX3_countFewest_45 (by decide) hc6 ⟨by decide, by decide⟩ (fun hd9 => ?_) (fun hd9 => ?_)
      · have hw := hw.1 hd9
        exact hJ100  hw
      · have hw := hw.2 hd9
        refine ok_iload (pc := 48) a dX3_countFewest_48 rfl ?_
        refine ok_iload (pc := 50) a dX3_countFewest_50 rfl ?_
        refine ok_mmin (pc := 52) (st := []) a dX3_countFewest_52 mmRX3_29 hc6 hc5 (Nat.le_of_ble_eq_true rfl) (Nat.le_of_ble_eq_true rfl) ?_
        refine ok_nmI (fun x8_55 ex8_55 => ?_)
        have hw := hw x8_55 ex8_55
        refine ok_sI (pc := 55) a [some (vR k), some (vR 4), some (vR 14), some (vI x3), some (vI x4_36), some (vI x5_17), some (vI x6_36), some (vI x7_36), some (vI x8_55)] dX3_countFewest_55 (by decide) rfl rfl ?_
        refine ok_iload (pc := 57) a dX3_countFewest_57 rfl ?_
        refine ok_iload (pc := 59) a dX3_countFewest_59 rfl ?_
        refine ok_aload_n (pc := 61) a dX3_countFewest_61 rfl rfl ?_
        refine ok_iload (pc := 62) a dX3_countFewest_62 rfl ?_
        obtain ⟨hc7, hw⟩ := hw
        refine ok_iald (pc := 64) a dX3_countFewest_64 (Nat.lt_of_lt_of_le (by decide) hn) kq4 (by decide) hc7 ?_
        refine ok_imul (pc := 65) a dX3_countFewest_65 ?_
        refine ok_iadd (pc := 66) a dX3_countFewest_66 ?_
        refine ok_nmI (fun x4_67 ex4_67 => ?_)
        have hw := hw x4_67 ex4_67
        refine ok_sI (pc := 67) a [some (vR k), some (vR 4), some (vR 14), some (vI x3), some (vI x4_67), some (vI x5_17), some (vI x6_36), some (vI x7_36), some (vI x8_55)] dX3_countFewest_67 (by decide) rfl rfl ?_
        refine ok_aload_n (pc := 69) a dX3_countFewest_69 rfl rfl ?_
        refine ok_iload (pc := 70) a dX3_countFewest_70 rfl ?_
        refine ok_iload (pc := 72) a dX3_countFewest_72 rfl ?_
        refine ok_aload_n (pc := 74) a dX3_countFewest_74 rfl rfl ?_
        refine ok_iload (pc := 75) a dX3_countFewest_75 rfl ?_
        refine ok_iald (pc := 77) a dX3_countFewest_77 (Nat.lt_of_lt_of_le (by decide) hn) kq4 (by decide) hc7 ?_
        refine ok_imul (pc := 78) a dX3_countFewest_78 ?_
        refine ok_iload (pc := 79) a dX3_countFewest_79 rfl ?_
        refine ok_SRV (pc := 81) a [(vR k), (vI x4_67), (vI (x8_55 * (h_36 4 x5_17))), (vI x8_55)] [] (M_X3_offerBundle hn tg k x4_67 (x8_55 * (h_36 4 x5_17)) x8_55 hkk hlk hw) dX3_countFewest_81 lkRX3_54 rfl ⟨Nat.le_of_ble_eq_true rfl, Nat.le_of_ble_eq_true rfl⟩ rfl (Nat.le_of_ble_eq_true rfl) rfl (fun h8 hw => ?_)
        refine ok_iload (pc := 84) a dX3_countFewest_84 rfl ?_
        refine ok_iload (pc := 86) a dX3_countFewest_86 rfl ?_
        refine ok_isub (pc := 88) a dX3_countFewest_88 ?_
        refine ok_nmI (fun x6_89 ex6_89 => ?_)
        have hw := hw x6_89 ex6_89
        refine ok_sI (pc := 89) a [some (vR k), some (vR 4), some (vR 14), some (vI x3), some (vI x4_67), some (vI x5_17), some (vI x6_89), some (vI x7_36), some (vI x8_55)] dX3_countFewest_89 (by decide) rfl rfl ?_
        refine ok_iload (pc := 91) a dX3_countFewest_91 rfl ?_
        refine ok_iconst (pc := 93) a dX3_countFewest_93 ?_
        refine ok_imul (pc := 94) a dX3_countFewest_94 ?_
        refine ok_nmI (fun x7_95 ex7_95 => ?_)
        have hw := hw x7_95 ex7_95
        refine ok_sI (pc := 95) a [some (vR k), some (vR 4), some (vR 14), some (vI x3), some (vI x4_67), some (vI x5_17), some (vI x6_89), some (vI x7_95), some (vI x8_55)] dX3_countFewest_95 (by decide) rfl rfl ?_
        refine ok_goto (pc := 97) a 36 dX3_countFewest_97 (by decide) ?_
        refine ok_forget 8 ?_
        exact hX36 (x4_67, x6_89, x7_95, h8) hw

def wp_X3_find_J95 (X46 : Int × aH → Prop) (x7_46 : Int) (h_95 : aH) : Prop :=
  X46 ((x7_46 + (-1)), h_95)
def wp_X3_find_B46 (Q : aH → Prop) (r1 : Int) (r3 : Int) (X46 : Int × aH → Prop) (x7_46 : Int) (h_46 : aH) : Prop :=
  inR x7_46 ∧ ((x7_46 < 0 → ∀ h10, h10 = up h_46 49 4 (r1 - (h_46 49 3)) → ∀ h11, h11 = up h10 49 5 (r3 - (h10 49 3)) → Q h11) ∧ (¬ x7_46 < 0 → (0 ≤ (r1 - x7_46) ∧ (r1 - x7_46) < 721) ∧ (0 ≤ (r3 - x7_46) ∧ (r3 - x7_46) < 721) ∧ ∀ x8_72, x8_72 = ((h_46 50 (r1 - x7_46)) + (h_46 51 (r3 - x7_46))) → inR x8_72 ∧ inR (h_46 49 2) ∧ (((h_46 49 2) ≤ x8_72 → wp_X3_find_J95 X46 x7_46 h_46) ∧ (¬ (h_46 49 2) ≤ x8_72 → ∀ h16, h16 = up h_46 49 2 x8_72 → ∀ h17, h17 = up h16 49 3 x7_46 → wp_X3_find_J95 X46 x7_46 h17))))
def wp_X3_find (x3 : Int) (x4 : Int) (h : aH) (Q : aH → Prop) : Prop :=
  wp_X3_countFewest 50 x3 h (fun r1 h2 => wp_X3_countFewest 51 x4 h2 (fun r3 h4 => ∀ h5, h5 = up h4 49 2 1000 → ∀ h6, h6 = up h5 49 3 0 → inR r1 ∧ inR r3 ∧ ∀ x7_44, x7_44 = (min r1 r3) → lp (fun X y => wp_X3_find_B46 Q r1 r3 X y.1 y.2) (x7_44, h6)))
set_option maxRecDepth 100000 in
set_option maxHeartbeats 4000000 in
theorem M_X3_find {Γ : Gm} {l : Launch} {n : Nat} {g : aG} (hn : 59 ≤ n) (tg : TC g) (x3 : Int) (x4 : Int)  {h : aH} {Q : aH → Prop} (hw : wp_X3_find x3 x4 h Q) : Cl Γ l mX3_find [vR 49, vR 4, vR 14, vI x3, vI x4] n g h (RV g Q) := by
  refine Cl.of (by decide) [some (vR 49), some (vR 4), some (vR 14), some (vI x3), some (vI x4), none, none, none, none] rfl (Nat.le_of_ble_eq_true rfl) ?_
  intro p e s m args below meth c a
  unfold wp_X3_find at hw
  refine ok_aload_n (pc := 0) a dX3_find_0 rfl rfl ?_
  refine ok_getR (pc := 1) a dX3_find_1 lfRX3_9 (Nat.lt_of_lt_of_le (by decide) hn) kq49 rfl (tg.at 49 0 50 (by decide) (by decide)) ?_
  refine ok_aload_n (pc := 4) a dX3_find_4 rfl rfl ?_
  refine ok_aload_n (pc := 5) a dX3_find_5 rfl rfl ?_
  refine ok_iload_n (pc := 6) a dX3_find_6 rfl rfl ?_
  refine ok_SRI (pc := 7) a [(vR 50), (vR 4), (vR 14), (vI x3)] [] (M_X3_countFewest hn tg 50 x3 kq50 (by decide) hw) dX3_find_7 lkRX3_18 rfl ⟨Nat.le_of_ble_eq_true rfl, Nat.le_of_ble_eq_true rfl⟩ rfl (Nat.le_of_ble_eq_true rfl) rfl (fun r1 h2 hw => ?_)
  refine ok_sI (pc := 10) a [some (vR 49), some (vR 4), some (vR 14), some (vI x3), some (vI x4), some (vI r1), none, none, none] dX3_find_10 (by decide) rfl rfl ?_
  refine ok_aload_n (pc := 12) a dX3_find_12 rfl rfl ?_
  refine ok_getR (pc := 13) a dX3_find_13 lfRX3_15 (Nat.lt_of_lt_of_le (by decide) hn) kq49 rfl (tg.at 49 1 51 (by decide) (by decide)) ?_
  refine ok_aload_n (pc := 16) a dX3_find_16 rfl rfl ?_
  refine ok_aload_n (pc := 17) a dX3_find_17 rfl rfl ?_
  refine ok_iload (pc := 18) a dX3_find_18 rfl ?_
  refine ok_SRI (pc := 20) a [(vR 51), (vR 4), (vR 14), (vI x4)] [] (M_X3_countFewest hn tg 51 x4 kq51 (by decide) hw) dX3_find_20 lkRX3_18 rfl ⟨Nat.le_of_ble_eq_true rfl, Nat.le_of_ble_eq_true rfl⟩ rfl (Nat.le_of_ble_eq_true rfl) rfl (fun r3 h4 hw => ?_)
  refine ok_sI (pc := 23) a [some (vR 49), some (vR 4), some (vR 14), some (vI x3), some (vI x4), some (vI r1), some (vI r3), none, none] dX3_find_23 (by decide) rfl rfl ?_
  refine ok_aload_n (pc := 25) a dX3_find_25 rfl rfl ?_
  refine ok_sipush (pc := 26) a dX3_find_26 (by decide) ?_
  refine ok_pI (pc := 29) 2 a dX3_find_29 lfRX3_22 fi_3_2 (Nat.lt_of_lt_of_le (by decide) hn) kq49 ty_3_2 rfl (fun h5 eh5 => ?_)
  have hw := hw h5 eh5
  refine ok_aload_n (pc := 32) a dX3_find_32 rfl rfl ?_
  refine ok_iconst (pc := 33) a dX3_find_33 ?_
  refine ok_pI (pc := 34) 3 a dX3_find_34 lfRX3_26 fi_3_3 (Nat.lt_of_lt_of_le (by decide) hn) kq49 ty_3_3 rfl (fun h6 eh6 => ?_)
  have hw := hw h6 eh6
  refine ok_iload (pc := 37) a dX3_find_37 rfl ?_
  refine ok_iload (pc := 39) a dX3_find_39 rfl ?_
  obtain ⟨hc7, hw⟩ := hw
  obtain ⟨hc8, hw⟩ := hw
  refine ok_mmin (pc := 41) (st := []) a dX3_find_41 mmRX3_29 hc7 hc8 (Nat.le_of_ble_eq_true rfl) (Nat.le_of_ble_eq_true rfl) ?_
  refine ok_nmI (fun x7_44 ex7_44 => ?_)
  have hw := hw x7_44 ex7_44
  refine ok_sI (pc := 44) a [some (vR 49), some (vR 4), some (vR 14), some (vI x3), some (vI x4), some (vI r1), some (vI r3), some (vI x7_44), none] dX3_find_44 (by decide) rfl rfl ?_
  refine lp.use (P := fun y => OK Γ p l e (rmd 2 n n) s m args below meth c n (MQ below (QQ Γ n (RV g Q)) args s (n - n) (sl n - sl n) (AA Γ)) 46 [some (vR 49), some (vR 4), some (vR 14), some (vI x3), some (vI x4), some (vI r1), some (vI r3), some (vI y.1), none] [] n g y.2) ?_ (x7_44, h6) hw
  clear hw
  intro X46 hX46 y hw
  obtain ⟨x7_46, h_46⟩ := y
  have hw : wp_X3_find_B46 Q r1 r3 X46 x7_46 h_46 := hw
  unfold wp_X3_find_B46 at hw
  try dsimp only
  refine ok_iload (pc := 46) a dX3_find_46 rfl ?_
  obtain ⟨hc9, hw⟩ := hw
  refine ok_if_lt (pc := 48) a 101 dX3_find_48 (by decide) hc9 (fun hd19 => ?_) (fun hd19 => ?_)
  · have hw := hw.1 hd19
    refine ok_aload_n (pc := 101) a dX3_find_101 rfl rfl ?_
    refine ok_iload (pc := 102) a dX3_find_102 rfl ?_
    refine ok_aload_n (pc := 104) a dX3_find_104 rfl rfl ?_
    refine ok_fI (pc := 105) 3 a dX3_find_105 lfRX3_26 (Nat.lt_of_lt_of_le (by decide) hn) kq49 ty_3_3 rfl ?_
    refine ok_isub (pc := 108) a dX3_find_108 ?_
    refine ok_pI (pc := 109) 4 a dX3_find_109 lfRX3_35 fi_3_4 (Nat.lt_of_lt_of_le (by decide) hn) kq49 ty_3_4 rfl (fun h10 eh10 => ?_)
    have hw := hw h10 eh10
    refine ok_aload_n (pc := 112) a dX3_find_112 rfl rfl ?_
    refine ok_iload (pc := 113) a dX3_find_113 rfl ?_
    refine ok_aload_n (pc := 115) a dX3_find_115 rfl rfl ?_
    refine ok_fI (pc := 116) 3 a dX3_find_116 lfRX3_26 (Nat.lt_of_lt_of_le (by decide) hn) kq49 ty_3_3 rfl ?_
    refine ok_isub (pc := 119) a dX3_find_119 ?_
    refine ok_pI (pc := 120) 5 a dX3_find_120 lfRX3_38 fi_3_5 (Nat.lt_of_lt_of_le (by decide) hn) kq49 ty_3_5 rfl (fun h11 eh11 => ?_)
    have hw := hw h11 eh11
    exact ok_vret (pc := 123) a dX3_find_123 ⟨rfl, rfl, hw⟩
  · have hw := hw.2 hd19
    refine ok_aload_n (pc := 51) a dX3_find_51 rfl rfl ?_
    refine ok_getR (pc := 52) a dX3_find_52 lfRX3_9 (Nat.lt_of_lt_of_le (by decide) hn) kq49 rfl (tg.at 49 0 50 (by decide) (by decide)) ?_
    refine ok_iload (pc := 55) a dX3_find_55 rfl ?_
    refine ok_iload (pc := 57) a dX3_find_57 rfl ?_
    refine ok_isub (pc := 59) a dX3_find_59 ?_
    obtain ⟨hc12, hw⟩ := hw
    refine ok_iald (pc := 60) a dX3_find_60 (Nat.lt_of_lt_of_le (by decide) hn) kq50 (by decide) hc12 ?_
    refine ok_aload_n (pc := 61) a dX3_find_61 rfl rfl ?_
    refine ok_getR (pc := 62) a dX3_find_62 lfRX3_15 (Nat.lt_of_lt_of_le (by decide) hn) kq49 rfl (tg.at 49 1 51 (by decide) (by decide)) ?_
    refine ok_iload (pc := 65) a dX3_find_65 rfl ?_
    refine ok_iload (pc := 67) a dX3_find_67 rfl ?_
    refine ok_isub (pc := 69) a dX3_find_69 ?_
    obtain ⟨hc13, hw⟩ := hw
    refine ok_iald (pc := 70) a dX3_find_70 (Nat.lt_of_lt_of_le (by decide) hn) kq51 (by decide) hc13 ?_
    refine ok_iadd (pc := 71) a dX3_find_71 ?_
    refine ok_nmI (fun x8_72 ex8_72 => ?_)
    have hw := hw x8_72 ex8_72
    refine ok_sI (pc := 72) a [some (vR 49), some (vR 4), some (vR 14), some (vI x3), some (vI x4), some (vI r1), some (vI r3), some (vI x7_46), some (vI x8_72)] dX3_find_72 (by decide) rfl rfl ?_
    refine ok_iload (pc := 74) a dX3_find_74 rfl ?_
    refine ok_aload_n (pc := 76) a dX3_find_76 rfl rfl ?_
    refine ok_fI (pc := 77) 2 a dX3_find_77 lfRX3_22 (Nat.lt_of_lt_of_le (by decide) hn) kq49 ty_3_2 rfl ?_
    obtain ⟨hc14, hw⟩ := hw
    obtain ⟨hc15, hw⟩ := hw
    have hJ95 : ∀ (h_95 : aH), wp_X3_find_J95 X46 x7_46 h_95 → OK Γ p l e (rmd 2 n n) s m args below meth c n (MQ below (QQ Γ n (RV g Q)) args s (n - n) (sl n - sl n) (AA Γ)) 95 [some (vR 49), some (vR 4), some (vR 14), some (vI x3), some (vI x4), some (vI r1), some (vI r3), some (vI x7_46), some (vI x8_72)] [] n g h_95 := by
      intro h_95 hw
      unfold wp_X3_find_J95 at hw
      refine ok_inc (pc := 95) a [some (vR 49), some (vR 4), some (vR 14), some (vI x3), some (vI x4), some (vI r1), some (vI r3), some (vI (x7_46 + (-1))), some (vI x8_72)] dX3_find_95 rfl (by decide) rfl rfl ?_
      refine ok_goto (pc := 98) a 46 dX3_find_98 (by decide) ?_
      refine ok_forget 8 ?_
      exact hX46 ((x7_46 + (-1)), h_95) hw
    refine ok_icmp_ge (pc := 80) a 95 dX3_find_80 (by decide) hc14 hc15 (fun hd18 => ?_) (fun hd18 => ?_)
    · have hw := hw.1 hd18
      exact hJ95 h_46 hw
    · have hw := hw.2 hd18
      refine ok_aload_n (pc := 83) a dX3_find_83 rfl rfl ?_
      refine ok_iload (pc := 84) a dX3_find_84 rfl ?_
      refine ok_pI (pc := 86) 2 a dX3_find_86 lfRX3_22 fi_3_2 (Nat.lt_of_lt_of_le (by decide) hn) kq49 ty_3_2 rfl (fun h16 eh16 => ?_)
      have hw := hw h16 eh16
      refine ok_aload_n (pc := 89) a dX3_find_89 rfl rfl ?_
      refine ok_iload (pc := 90) a dX3_find_90 rfl ?_
      refine ok_pI (pc := 92) 3 a dX3_find_92 lfRX3_26 fi_3_3 (Nat.lt_of_lt_of_le (by decide) hn) kq49 ty_3_3 rfl (fun h17 eh17 => ?_)
      have hw := hw h17 eh17
      exact hJ95 h17 hw

def wp_X3_firstWay_J130 (X34 : Int → Prop) (x8_34 : Int)  : Prop :=
  X34 (x8_34 + 1)
def wp_X3_firstWay_B34 (x3 : Int) (x4 : Int) (h : aH) (Q : Int → Prop) (x5_3 : Int) (x6_8 : Int) (X20 : Int → Prop) (x7_20 : Int) (X34 : Int → Prop) (x8_34 : Int) : Prop :=
  (0 ≤ (x5_3 + 2) ∧ (x5_3 + 2) < 16) ∧ inR x8_34 ∧ inR (h 14 (x5_3 + 2)) ∧ (((h 14 (x5_3 + 2)) < x8_34 → X20 (x7_20 + 1)) ∧ (¬ (h 14 (x5_3 + 2)) < x8_34 → ∀ x9_56, x9_56 = (((x4 - x6_8) - x7_20) - x8_34) → ∀ x10_85, x10_85 = ((((x6_8 * (h 4 0)) + (x7_20 * (h 4 1))) + (x8_34 * (h 4 2))) + (x9_56 * (h 4 3))) → inR x10_85 ∧ inR x3 ∧ ((x10_85 = x3 → (0 ≤ (x5_3 + 3) ∧ (x5_3 + 3) < 16) ∧ wp_X8_within x9_56 0 (h 14 (x5_3 + 3)) h (fun r13 => ((r13 = 0 → wp_X3_firstWay_J130 X34 x8_34 ) ∧ (¬ r13 = 0 → Q ((((x6_8 * 1000) + (x7_20 * 100)) + (x8_34 * 10)) + x9_56))))) ∧ (¬ x10_85 = x3 → wp_X3_firstWay_J130 X34 x8_34 ))))
def wp_X3_firstWay_B20 (x3 : Int) (x4 : Int) (h : aH) (Q : Int → Prop) (x5_3 : Int) (X8 : Int → Prop) (x6_8 : Int) (X20 : Int → Prop) (x7_20 : Int) : Prop :=
  (0 ≤ (x5_3 + 1) ∧ (x5_3 + 1) < 16) ∧ inR x7_20 ∧ inR (h 14 (x5_3 + 1)) ∧ (((h 14 (x5_3 + 1)) < x7_20 → X8 (x6_8 + 1)) ∧ (¬ (h 14 (x5_3 + 1)) < x7_20 → lp (fun X y => wp_X3_firstWay_B34 x3 x4 h Q x5_3 x6_8 X20 x7_20 X y) 0))
def wp_X3_firstWay_B8 (x3 : Int) (x4 : Int) (h : aH) (Q : Int → Prop) (x5_3 : Int) (X8 : Int → Prop) (x6_8 : Int) : Prop :=
  (0 ≤ x5_3 ∧ x5_3 < 16) ∧ inR x6_8 ∧ inR (h 14 x5_3) ∧ (((h 14 x5_3) < x6_8 → Q 0) ∧ (¬ (h 14 x5_3) < x6_8 → lp (fun X y => wp_X3_firstWay_B20 x3 x4 h Q x5_3 X8 x6_8 X y) 0))
def wp_X3_firstWay (x2 : Int) (x3 : Int) (x4 : Int) (h : aH) (Q : Int → Prop) : Prop :=
  ∀ x5_3, x5_3 = (x2 * 4) → lp (fun X y => wp_X3_firstWay_B8 x3 x4 h Q x5_3 X y) 0
set_option maxRecDepth 100000 in
set_option maxHeartbeats 4000000 in
theorem M_X3_firstWay {Γ : Gm} {l : Launch} {n : Nat} {g : aG} (hn : 59 ≤ n) (tg : TC g) (x2 : Int) (x3 : Int) (x4 : Int)  {h : aH} {Q : Int → Prop} (hw : wp_X3_firstWay x2 x3 x4 h Q) : Cl Γ l mX3_firstWay [vR 4, vR 14, vI x2, vI x3, vI x4] n g h (PI g h Q) := by
  refine Cl.of (by decide) [some (vR 4), some (vR 14), some (vI x2), some (vI x3), some (vI x4), none, none, none, none, none, none] rfl (Nat.le_of_ble_eq_true rfl) ?_
  intro p e s m args below meth c a
  unfold wp_X3_firstWay at hw
  refine ok_iload_n (pc := 0) a dX3_firstWay_0 rfl rfl ?_
  refine ok_iconst (pc := 1) a dX3_firstWay_1 ?_
  refine ok_imul (pc := 2) a dX3_firstWay_2 ?_
  refine ok_nmI (fun x5_3 ex5_3 => ?_)
  have hw := hw x5_3 ex5_3
  refine ok_sI (pc := 3) a [some (vR 4), some (vR 14), some (vI x2), some (vI x3), some (vI x4), some (vI x5_3), none, none, none, none, none] dX3_firstWay_3 (by decide) rfl rfl ?_
  refine ok_iconst (pc := 5) a dX3_firstWay_5 ?_
  refine ok_sI (pc := 6) a [some (vR 4), some (vR 14), some (vI x2), some (vI x3), some (vI x4), some (vI x5_3), some (vI 0), none, none, none, none] dX3_firstWay_6 (by decide) rfl rfl ?_
  refine lp.use (P := fun y => OK Γ p l e (rmd 1 n n) s m args below meth c n (MQ below (QQ Γ n (PI g h Q)) args s (n - n) (sl n - sl n) (AA Γ)) 8 [some (vR 4), some (vR 14), some (vI x2), some (vI x3), some (vI x4), some (vI x5_3), some (vI y), none, none, none, none] [] n g h) ?_ 0 hw
  clear hw
  intro X8 hX8 y hw
  generalize y = x6_8 at hw ⊢
  have hw : wp_X3_firstWay_B8 x3 x4 h Q x5_3 X8 x6_8 := hw
  unfold wp_X3_firstWay_B8 at hw
  try dsimp only
  refine ok_iload (pc := 8) a dX3_firstWay_8 rfl ?_
  refine ok_aload_n (pc := 10) a dX3_firstWay_10 rfl rfl ?_
  refine ok_iload (pc := 11) a dX3_firstWay_11 rfl ?_
  obtain ⟨hc1, hw⟩ := hw
  refine ok_iald (pc := 13) a dX3_firstWay_13 (Nat.lt_of_lt_of_le (by decide) hn) kq14 (by decide) hc1 ?_
  obtain ⟨hc2, hw⟩ := hw
  obtain ⟨hc3, hw⟩ := hw
  refine ok_icmp_gt (pc := 14) a 148 dX3_firstWay_14 (by decide) hc2 hc3 (fun hd19 => ?_) (fun hd19 => ?_)
  · have hw := hw.1 hd19
    refine ok_iconst (pc := 148) a dX3_firstWay_148 ?_
    exact ok_iret (pc := 149) a dX3_firstWay_149 ⟨_, rfl, rfl, rfl, hw⟩
  · have hw := hw.2 hd19
    refine ok_iconst (pc := 17) a dX3_firstWay_17 ?_
    refine ok_sI (pc := 18) a [some (vR 4), some (vR 14), some (vI x2), some (vI x3), some (vI x4), some (vI x5_3), some (vI x6_8), some (vI 0), none, none, none] dX3_firstWay_18 (by decide) rfl rfl ?_
    refine lp.use (P := fun y => OK Γ p l e (rmd 1 n n) s m args below meth c n (MQ below (QQ Γ n (PI g h Q)) args s (n - n) (sl n - sl n) (AA Γ)) 20 [some (vR 4), some (vR 14), some (vI x2), some (vI x3), some (vI x4), some (vI x5_3), some (vI x6_8), some (vI y), none, none, none] [] n g h) ?_ 0 hw
    clear hw
    intro X20 hX20 y hw
    generalize y = x7_20 at hw ⊢
    have hw : wp_X3_firstWay_B20 x3 x4 h Q x5_3 X8 x6_8 X20 x7_20 := hw
    unfold wp_X3_firstWay_B20 at hw
    try dsimp only
    refine ok_iload (pc := 20) a dX3_firstWay_20 rfl ?_
    refine ok_aload_n (pc := 22) a dX3_firstWay_22 rfl rfl ?_
    refine ok_iload (pc := 23) a dX3_firstWay_23 rfl ?_
    refine ok_iconst (pc := 25) a dX3_firstWay_25 ?_
    refine ok_iadd (pc := 26) a dX3_firstWay_26 ?_
    obtain ⟨hc4, hw⟩ := hw
    refine ok_iald (pc := 27) a dX3_firstWay_27 (Nat.lt_of_lt_of_le (by decide) hn) kq14 (by decide) hc4 ?_
    obtain ⟨hc5, hw⟩ := hw
    obtain ⟨hc6, hw⟩ := hw
    refine ok_icmp_gt (pc := 28) a 142 dX3_firstWay_28 (by decide) hc5 hc6 (fun hd18 => ?_) (fun hd18 => ?_)
    · have hw := hw.1 hd18
      refine ok_inc (pc := 142) a [some (vR 4), some (vR 14), some (vI x2), some (vI x3), some (vI x4), some (vI x5_3), some (vI (x6_8 + 1)), some (vI x7_20), none, none, none] dX3_firstWay_142 rfl (by decide) rfl rfl ?_
      refine ok_goto (pc := 145) a 8 dX3_firstWay_145 (by decide) ?_
      refine ok_forget 7 ?_
      exact hX8 (x6_8 + 1) hw
    · have hw := hw.2 hd18
      refine ok_iconst (pc := 31) a dX3_firstWay_31 ?_
      refine ok_sI (pc := 32) a [some (vR 4), some (vR 14), some (vI x2), some (vI x3), some (vI x4), some (vI x5_3), some (vI x6_8), some (vI x7_20), some (vI 0), none, none] dX3_firstWay_32 (by decide) rfl rfl ?_
      refine lp.use (P := fun y => OK Γ p l e (rmd 1 n n) s m args below meth c n (MQ below (QQ Γ n (PI g h Q)) args s (n - n) (sl n - sl n) (AA Γ)) 34 [some (vR 4), some (vR 14), some (vI x2), some (vI x3), some (vI x4), some (vI x5_3), some (vI x6_8), some (vI x7_20), some (vI y), none, none] [] n g h) ?_ 0 hw
      clear hw
      intro X34 hX34 y hw
      generalize y = x8_34 at hw ⊢
      have hw : wp_X3_firstWay_B34 x3 x4 h Q x5_3 x6_8 X20 x7_20 X34 x8_34 := hw
      unfold wp_X3_firstWay_B34 at hw
      try dsimp only
      refine ok_iload (pc := 34) a dX3_firstWay_34 rfl ?_
      refine ok_aload_n (pc := 36) a dX3_firstWay_36 rfl rfl ?_
      refine ok_iload (pc := 37) a dX3_firstWay_37 rfl ?_
      refine ok_iconst (pc := 39) a dX3_firstWay_39 ?_
      refine ok_iadd (pc := 40) a dX3_firstWay_40 ?_
      obtain ⟨hc7, hw⟩ := hw
      refine ok_iald (pc := 41) a dX3_firstWay_41 (Nat.lt_of_lt_of_le (by decide) hn) kq14 (by decide) hc7 ?_
      obtain ⟨hc8, hw⟩ := hw
      obtain ⟨hc9, hw⟩ := hw
      refine ok_icmp_gt (pc := 42) a 136 dX3_firstWay_42 (by decide) hc8 hc9 (fun hd17 => ?_) (fun hd17 => ?_)
      · have hw := hw.1 hd17
        refine ok_inc (pc := 136) a [some (vR 4), some (vR 14), some (vI x2), some (vI x3), some (vI x4), some (vI x5_3), some (vI x6_8), some (vI (x7_20 + 1)), some (vI x8_34), none, none] dX3_firstWay_136 rfl (by decide) rfl rfl ?_
        refine ok_goto (pc := 139) a 20 dX3_firstWay_139 (by decide) ?_
        refine ok_forget 8 ?_
        exact hX20 (x7_20 + 1) hw
      · have hw := hw.2 hd17
        refine ok_iload (pc := 45) a dX3_firstWay_45 rfl ?_
        refine ok_iload (pc := 47) a dX3_firstWay_47 rfl ?_
        refine ok_isub (pc := 49) a dX3_firstWay_49 ?_
        refine ok_iload (pc := 50) a dX3_firstWay_50 rfl ?_
        refine ok_isub (pc := 52) a dX3_firstWay_52 ?_
        refine ok_iload (pc := 53) a dX3_firstWay_53 rfl ?_
        refine ok_isub (pc := 55) a dX3_firstWay_55 ?_
        refine ok_nmI (fun x9_56 ex9_56 => ?_)
        have hw := hw x9_56 ex9_56
        refine ok_sI (pc := 56) a [some (vR 4), some (vR 14), some (vI x2), some (vI x3), some (vI x4), some (vI x5_3), some (vI x6_8), some (vI x7_20), some (vI x8_34), some (vI x9_56), none] dX3_firstWay_56 (by decide) rfl rfl ?_
        refine ok_iload (pc := 58) a dX3_firstWay_58 rfl ?_
        refine ok_aload_n (pc := 60) a dX3_firstWay_60 rfl rfl ?_
        refine ok_iconst (pc := 61) a dX3_firstWay_61 ?_
        refine ok_iald (pc := 62) a dX3_firstWay_62 (Nat.lt_of_lt_of_le (by decide) hn) kq4 (by decide) ⟨by decide, by decide⟩ ?_
        refine ok_imul (pc := 63) a dX3_firstWay_63 ?_
        refine ok_iload (pc := 64) a dX3_firstWay_64 rfl ?_
        refine ok_aload_n (pc := 66) a dX3_firstWay_66 rfl rfl ?_
        refine ok_iconst (pc := 67) a dX3_firstWay_67 ?_
        refine ok_iald (pc := 68) a dX3_firstWay_68 (Nat.lt_of_lt_of_le (by decide) hn) kq4 (by decide) ⟨by decide, by decide⟩ ?_
        refine ok_imul (pc := 69) a dX3_firstWay_69 ?_
        refine ok_iadd (pc := 70) a dX3_firstWay_70 ?_
        refine ok_iload (pc := 71) a dX3_firstWay_71 rfl ?_
        refine ok_aload_n (pc := 73) a dX3_firstWay_73 rfl rfl ?_
        refine ok_iconst (pc := 74) a dX3_firstWay_74 ?_
        refine ok_iald (pc := 75) a dX3_firstWay_75 (Nat.lt_of_lt_of_le (by decide) hn) kq4 (by decide) ⟨by decide, by decide⟩ ?_
        refine ok_imul (pc := 76) a dX3_firstWay_76 ?_
        refine ok_iadd (pc := 77) a dX3_firstWay_77 ?_
        refine ok_iload (pc := 78) a dX3_firstWay_78 rfl ?_
        refine ok_aload_n (pc := 80) a dX3_firstWay_80 rfl rfl ?_
        refine ok_iconst (pc := 81) a dX3_firstWay_81 ?_
        refine ok_iald (pc := 82) a dX3_firstWay_82 (Nat.lt_of_lt_of_le (by decide) hn) kq4 (by decide) ⟨by decide, by decide⟩ ?_
        refine ok_imul (pc := 83) a dX3_firstWay_83 ?_
        refine ok_iadd (pc := 84) a dX3_firstWay_84 ?_
        refine ok_nmI (fun x10_85 ex10_85 => ?_)
        have hw := hw x10_85 ex10_85
        refine ok_sI (pc := 85) a [some (vR 4), some (vR 14), some (vI x2), some (vI x3), some (vI x4), some (vI x5_3), some (vI x6_8), some (vI x7_20), some (vI x8_34), some (vI x9_56), some (vI x10_85)] dX3_firstWay_85 (by decide) rfl rfl ?_
        refine ok_iload (pc := 87) a dX3_firstWay_87 rfl ?_
        refine ok_iload_n (pc := 89) a dX3_firstWay_89 rfl rfl ?_
        obtain ⟨hc10, hw⟩ := hw
        obtain ⟨hc11, hw⟩ := hw
        have hJ130 : wp_X3_firstWay_J130 X34 x8_34  → OK Γ p l e (rmd 1 n n) s m args below meth c n (MQ below (QQ Γ n (PI g h Q)) args s (n - n) (sl n - sl n) (AA Γ)) 130 [some (vR 4), some (vR 14), some (vI x2), some (vI x3), some (vI x4), some (vI x5_3), some (vI x6_8), some (vI x7_20), some (vI x8_34), some (vI x9_56), some (vI x10_85)] [] n g h := by
          intro  hw
          unfold wp_X3_firstWay_J130 at hw
          refine ok_inc (pc := 130) a [some (vR 4), some (vR 14), some (vI x2), some (vI x3), some (vI x4), some (vI x5_3), some (vI x6_8), some (vI x7_20), some (vI (x8_34 + 1)), some (vI x9_56), some (vI x10_85)] dX3_firstWay_130 rfl (by decide) rfl rfl ?_
          refine ok_goto (pc := 133) a 34 dX3_firstWay_133 (by decide) ?_
          refine ok_forget 9 ?_
          refine ok_forget 10 ?_
          exact hX34 (x8_34 + 1) hw
        refine ok_icmp_ne (pc := 90) a 130 dX3_firstWay_90 (by decide) hc10 hc11 (fun hd16 => ?_) (fun hd16 => ?_)
        · have hw := hw.2 hd16
          exact hJ130  hw
        · have hw := hw.1 hd16
          refine ok_iload (pc := 93) a dX3_firstWay_93 rfl ?_
          refine ok_iconst (pc := 95) a dX3_firstWay_95 ?_
          refine ok_aload_n (pc := 96) a dX3_firstWay_96 rfl rfl ?_
          refine ok_iload (pc := 97) a dX3_firstWay_97 rfl ?_
          refine ok_iconst (pc := 99) a dX3_firstWay_99 ?_
          refine ok_iadd (pc := 100) a dX3_firstWay_100 ?_
          obtain ⟨hc12, hw⟩ := hw
          refine ok_iald (pc := 101) a dX3_firstWay_101 (Nat.lt_of_lt_of_le (by decide) hn) kq14 (by decide) hc12 ?_
          refine ok_SPZ (pc := 102) a [(vI x9_56), (vI 0), (vI (h 14 (x5_3 + 3)))] [] (M_X8_within hn tg x9_56 0 (h 14 (x5_3 + 3))  hw) dX3_firstWay_102 lkRX3_58 rfl ⟨Nat.le_of_ble_eq_true rfl, Nat.le_of_ble_eq_true rfl⟩ rfl (Nat.le_of_ble_eq_true rfl) rfl (fun r13 hz14 hw => ?_)
          refine ok_if_eq (pc := 105) a 130 dX3_firstWay_105 (by decide) (inR_b hz14) (fun hd15 => ?_) (fun hd15 => ?_)
          · have hw := hw.1 hd15
            exact hJ130  hw
          · have hw := hw.2 hd15
            refine ok_iload (pc := 108) a dX3_firstWay_108 rfl ?_
            refine ok_sipush (pc := 110) a dX3_firstWay_110 (by decide) ?_
            refine ok_imul (pc := 113) a dX3_firstWay_113 ?_
            refine ok_iload (pc := 114) a dX3_firstWay_114 rfl ?_
            refine ok_bipush (pc := 116) a dX3_firstWay_116 (by decide) ?_
            refine ok_imul (pc := 118) a dX3_firstWay_118 ?_
            refine ok_iadd (pc := 119) a dX3_firstWay_119 ?_
            refine ok_iload (pc := 120) a dX3_firstWay_120 rfl ?_
            refine ok_bipush (pc := 122) a dX3_firstWay_122 (by decide) ?_
            refine ok_imul (pc := 124) a dX3_firstWay_124 ?_
            refine ok_iadd (pc := 125) a dX3_firstWay_125 ?_
            refine ok_iload (pc := 126) a dX3_firstWay_126 rfl ?_
            refine ok_iadd (pc := 128) a dX3_firstWay_128 ?_
            exact ok_iret (pc := 129) a dX3_firstWay_129 ⟨_, rfl, rfl, rfl, hw⟩

def wp_X3_figureOf_B4 (x1 : Int) (Q : Int → Prop) (X4 : Int × Int → Prop) (x2_4 : Int) (x3_4 : Int) : Prop :=
  inR x3_4 ∧ inR x1 ∧ ((x3_4 ≤ x1 → (0 ≤ x2_4 ∧ x2_4 < 2147483648) ∧ Q (x2_4 % 10)) ∧ (¬ x3_4 ≤ x1 → (0 ≤ x2_4 ∧ x2_4 < 2147483648) ∧ ∀ x2_13, x2_13 = (x2_4 / 10) → X4 (x2_13, (x3_4 + (-1)))))
def wp_X3_figureOf (x0 : Int) (x1 : Int) (h : aH) (Q : Int → Prop) : Prop :=
  lp (fun X y => wp_X3_figureOf_B4 x1 Q X y.1 y.2) (x0, 3)
set_option maxRecDepth 100000 in
set_option maxHeartbeats 4000000 in
theorem M_X3_figureOf {Γ : Gm} {l : Launch} {n : Nat} {g : aG} (hn : 59 ≤ n) (tg : TC g) (x0 : Int) (x1 : Int)  {h : aH} {Q : Int → Prop} (hw : wp_X3_figureOf x0 x1 h Q) : Cl Γ l mX3_figureOf [vI x0, vI x1] n g h (PI g h Q) := by
  refine Cl.of (by decide) [some (vI x0), some (vI x1), none, none] rfl (Nat.le_of_ble_eq_true rfl) ?_
  intro p e s m args below meth c a
  unfold wp_X3_figureOf at hw
  refine ok_iload_n (pc := 0) a dX3_figureOf_0 rfl rfl ?_
  refine ok_sI_n (pc := 1) a [some (vI x0), some (vI x1), some (vI x0), none] dX3_figureOf_1 rfl (by decide) rfl rfl ?_
  refine ok_iconst (pc := 2) a dX3_figureOf_2 ?_
  refine ok_sI_n (pc := 3) a [some (vI x0), some (vI x1), some (vI x0), some (vI 3)] dX3_figureOf_3 rfl (by decide) rfl rfl ?_
  refine lp.use (P := fun y => OK Γ p l e (rmd 0 n n) s m args below meth c n (MQ below (QQ Γ n (PI g h Q)) args s (n - n) (sl n - sl n) (AA Γ)) 4 [some (vI x0), some (vI x1), some (vI y.1), some (vI y.2)] [] n g h) ?_ (x0, 3) hw
  clear hw
  intro X4 hX4 y hw
  obtain ⟨x2_4, x3_4⟩ := y
  have hw : wp_X3_figureOf_B4 x1 Q X4 x2_4 x3_4 := hw
  unfold wp_X3_figureOf_B4 at hw
  try dsimp only
  refine ok_iload_n (pc := 4) a dX3_figureOf_4 rfl rfl ?_
  refine ok_iload_n (pc := 5) a dX3_figureOf_5 rfl rfl ?_
  obtain ⟨hc1, hw⟩ := hw
  obtain ⟨hc2, hw⟩ := hw
  refine ok_icmp_le (pc := 6) a 20 dX3_figureOf_6 (by decide) hc1 hc2 (fun hd5 => ?_) (fun hd5 => ?_)
  · have hw := hw.1 hd5
    refine ok_iload_n (pc := 20) a dX3_figureOf_20 rfl rfl ?_
    refine ok_bipush (pc := 21) a dX3_figureOf_21 (by decide) ?_
    obtain ⟨hc3, hw⟩ := hw
    refine ok_irem (pc := 23) a dX3_figureOf_23 ⟨hc3, by decide, by decide⟩ ?_
    exact ok_iret (pc := 24) a dX3_figureOf_24 ⟨_, rfl, rfl, rfl, hw⟩
  · have hw := hw.2 hd5
    refine ok_iload_n (pc := 9) a dX3_figureOf_9 rfl rfl ?_
    refine ok_bipush (pc := 10) a dX3_figureOf_10 (by decide) ?_
    obtain ⟨hc4, hw⟩ := hw
    refine ok_idiv (pc := 12) a dX3_figureOf_12 ⟨hc4, by decide, by decide⟩ ?_
    refine ok_nmI (fun x2_13 ex2_13 => ?_)
    have hw := hw x2_13 ex2_13
    refine ok_sI_n (pc := 13) a [some (vI x0), some (vI x1), some (vI x2_13), some (vI x3_4)] dX3_figureOf_13 rfl (by decide) rfl rfl ?_
    refine ok_inc (pc := 14) a [some (vI x0), some (vI x1), some (vI x2_13), some (vI (x3_4 + (-1)))] dX3_figureOf_14 rfl (by decide) rfl rfl ?_
    refine ok_goto (pc := 17) a 4 dX3_figureOf_17 (by decide) ?_
    exact hX4 (x2_13, (x3_4 + (-1))) hw

def wp_X3_firstSays (x3 : Int) (x4 : Int) (h : aH) (Q : Int → Prop) : Prop :=
  (0 ≤ (h 49 4) ∧ (h 49 4) < 721) ∧ wp_X3_firstWay x3 (h 49 4) (h 50 (h 49 4)) h (fun r2 => wp_X3_figureOf r2 x4 h (fun r3 => Q r3))
set_option maxRecDepth 100000 in
set_option maxHeartbeats 4000000 in
theorem M_X3_firstSays {Γ : Gm} {l : Launch} {n : Nat} {g : aG} (hn : 59 ≤ n) (tg : TC g) (x3 : Int) (x4 : Int)  {h : aH} {Q : Int → Prop} (hw : wp_X3_firstSays x3 x4 h Q) : Cl Γ l mX3_firstSays [vR 49, vR 4, vR 14, vI x3, vI x4] n g h (PI g h Q) := by
  refine Cl.of (by decide) [some (vR 49), some (vR 4), some (vR 14), some (vI x3), some (vI x4), none] rfl (Nat.le_of_ble_eq_true rfl) ?_
  intro p e s m args below meth c a
  unfold wp_X3_firstSays at hw
  refine ok_aload_n (pc := 0) a dX3_firstSays_0 rfl rfl ?_
  refine ok_aload_n (pc := 1) a dX3_firstSays_1 rfl rfl ?_
  refine ok_iload_n (pc := 2) a dX3_firstSays_2 rfl rfl ?_
  refine ok_aload_n (pc := 3) a dX3_firstSays_3 rfl rfl ?_
  refine ok_fI (pc := 4) 4 a dX3_firstSays_4 lfRX3_35 (Nat.lt_of_lt_of_le (by decide) hn) kq49 ty_3_4 rfl ?_
  refine ok_aload_n (pc := 7) a dX3_firstSays_7 rfl rfl ?_
  refine ok_getR (pc := 8) a dX3_firstSays_8 lfRX3_9 (Nat.lt_of_lt_of_le (by decide) hn) kq49 rfl (tg.at 49 0 50 (by decide) (by decide)) ?_
  refine ok_aload_n (pc := 11) a dX3_firstSays_11 rfl rfl ?_
  refine ok_fI (pc := 12) 4 a dX3_firstSays_12 lfRX3_35 (Nat.lt_of_lt_of_le (by decide) hn) kq49 ty_3_4 rfl ?_
  obtain ⟨hc1, hw⟩ := hw
  refine ok_iald (pc := 15) a dX3_firstSays_15 (Nat.lt_of_lt_of_le (by decide) hn) kq50 (by decide) hc1 ?_
  refine ok_SPI (pc := 16) a [(vR 4), (vR 14), (vI x3), (vI (h 49 4)), (vI (h 50 (h 49 4)))] [] (M_X3_firstWay hn tg x3 (h 49 4) (h 50 (h 49 4))  hw) dX3_firstSays_16 lkRX3_41 rfl ⟨Nat.le_of_ble_eq_true rfl, Nat.le_of_ble_eq_true rfl⟩ rfl (Nat.le_of_ble_eq_true rfl) rfl (fun r2 hw => ?_)
  refine ok_sI (pc := 19) a [some (vR 49), some (vR 4), some (vR 14), some (vI x3), some (vI x4), some (vI r2)] dX3_firstSays_19 (by decide) rfl rfl ?_
  refine ok_iload (pc := 21) a dX3_firstSays_21 rfl ?_
  refine ok_iload (pc := 23) a dX3_firstSays_23 rfl ?_
  refine ok_SPI (pc := 25) a [(vI r2), (vI x4)] [] (M_X3_figureOf hn tg r2 x4  hw) dX3_firstSays_25 lkRX3_45 rfl ⟨Nat.le_of_ble_eq_true rfl, Nat.le_of_ble_eq_true rfl⟩ rfl (Nat.le_of_ble_eq_true rfl) rfl (fun r3 hw => ?_)
  exact ok_iret (pc := 28) a dX3_firstSays_28 ⟨_, rfl, rfl, rfl, hw⟩

def wp_X3_secondSays (x3 : Int) (x4 : Int) (h : aH) (Q : Int → Prop) : Prop :=
  (0 ≤ (h 49 5) ∧ (h 49 5) < 721) ∧ wp_X3_firstWay x3 (h 49 5) (h 51 (h 49 5)) h (fun r2 => wp_X3_figureOf r2 x4 h (fun r3 => Q r3))
set_option maxRecDepth 100000 in
set_option maxHeartbeats 4000000 in
theorem M_X3_secondSays {Γ : Gm} {l : Launch} {n : Nat} {g : aG} (hn : 59 ≤ n) (tg : TC g) (x3 : Int) (x4 : Int)  {h : aH} {Q : Int → Prop} (hw : wp_X3_secondSays x3 x4 h Q) : Cl Γ l mX3_secondSays [vR 49, vR 4, vR 14, vI x3, vI x4] n g h (PI g h Q) := by
  refine Cl.of (by decide) [some (vR 49), some (vR 4), some (vR 14), some (vI x3), some (vI x4), none] rfl (Nat.le_of_ble_eq_true rfl) ?_
  intro p e s m args below meth c a
  unfold wp_X3_secondSays at hw
  refine ok_aload_n (pc := 0) a dX3_secondSays_0 rfl rfl ?_
  refine ok_aload_n (pc := 1) a dX3_secondSays_1 rfl rfl ?_
  refine ok_iload_n (pc := 2) a dX3_secondSays_2 rfl rfl ?_
  refine ok_aload_n (pc := 3) a dX3_secondSays_3 rfl rfl ?_
  refine ok_fI (pc := 4) 5 a dX3_secondSays_4 lfRX3_38 (Nat.lt_of_lt_of_le (by decide) hn) kq49 ty_3_5 rfl ?_
  refine ok_aload_n (pc := 7) a dX3_secondSays_7 rfl rfl ?_
  refine ok_getR (pc := 8) a dX3_secondSays_8 lfRX3_15 (Nat.lt_of_lt_of_le (by decide) hn) kq49 rfl (tg.at 49 1 51 (by decide) (by decide)) ?_
  refine ok_aload_n (pc := 11) a dX3_secondSays_11 rfl rfl ?_
  refine ok_fI (pc := 12) 5 a dX3_secondSays_12 lfRX3_38 (Nat.lt_of_lt_of_le (by decide) hn) kq49 ty_3_5 rfl ?_
  obtain ⟨hc1, hw⟩ := hw
  refine ok_iald (pc := 15) a dX3_secondSays_15 (Nat.lt_of_lt_of_le (by decide) hn) kq51 (by decide) hc1 ?_
  refine ok_SPI (pc := 16) a [(vR 4), (vR 14), (vI x3), (vI (h 49 5)), (vI (h 51 (h 49 5)))] [] (M_X3_firstWay hn tg x3 (h 49 5) (h 51 (h 49 5))  hw) dX3_secondSays_16 lkRX3_41 rfl ⟨Nat.le_of_ble_eq_true rfl, Nat.le_of_ble_eq_true rfl⟩ rfl (Nat.le_of_ble_eq_true rfl) rfl (fun r2 hw => ?_)
  refine ok_sI (pc := 19) a [some (vR 49), some (vR 4), some (vR 14), some (vI x3), some (vI x4), some (vI r2)] dX3_secondSays_19 (by decide) rfl rfl ?_
  refine ok_iload (pc := 21) a dX3_secondSays_21 rfl ?_
  refine ok_iload (pc := 23) a dX3_secondSays_23 rfl ?_
  refine ok_SPI (pc := 25) a [(vI r2), (vI x4)] [] (M_X3_figureOf hn tg r2 x4  hw) dX3_secondSays_25 lkRX3_45 rfl ⟨Nat.le_of_ble_eq_true rfl, Nat.le_of_ble_eq_true rfl⟩ rfl (Nat.le_of_ble_eq_true rfl) rfl (fun r3 hw => ?_)
  exact ok_iret (pc := 28) a dX3_secondSays_28 ⟨_, rfl, rfl, rfl, hw⟩

def wp_X4_begin  (h : aH) (Q : aH → Prop) : Prop :=
  ∀ h1, h1 = cpy h 5 0 14 0 16 → ∀ h2, h2 = up h1 13 1 0 → ∀ h3, h3 = up h2 13 2 0 → Q h3
set_option maxRecDepth 100000 in
set_option maxHeartbeats 4000000 in
theorem M_X4_begin {Γ : Gm} {l : Launch} {n : Nat} {g : aG} (hn : 59 ≤ n) (tg : TC g)   {h : aH} {Q : aH → Prop} (hw : wp_X4_begin  h Q) : Cl Γ l mX4_begin [vR 13, vR 3] n g h (RV g Q) := by
  refine Cl.of (by decide) [some (vR 13), some (vR 3)] rfl (Nat.le_of_ble_eq_true rfl) ?_
  intro p e s m args below meth c a
  unfold wp_X4_begin at hw
  refine ok_aload_n (pc := 0) a dX4_begin_0 rfl rfl ?_
  refine ok_getR (pc := 1) a dX4_begin_1 lfRX4_15 (Nat.lt_of_lt_of_le (by decide) hn) kq3 rfl (tg.at 3 1 5 (by decide) (by decide)) ?_
  refine ok_iconst (pc := 4) a dX4_begin_4 ?_
  refine ok_aload_n (pc := 5) a dX4_begin_5 rfl rfl ?_
  refine ok_getR (pc := 6) a dX4_begin_6 lfRX4_9 (Nat.lt_of_lt_of_le (by decide) hn) kq13 rfl (tg.at 13 0 14 (by decide) (by decide)) ?_
  refine ok_iconst (pc := 9) a dX4_begin_9 ?_
  refine ok_aload_n (pc := 10) a dX4_begin_10 rfl rfl ?_
  refine ok_getR (pc := 11) a dX4_begin_11 lfRX4_9 (Nat.lt_of_lt_of_le (by decide) hn) kq13 rfl (tg.at 13 0 14 (by decide) (by decide)) ?_
  refine ok_al (pc := 14) 16 a dX4_begin_14 (Nat.lt_of_lt_of_le (by decide) hn) kq14 (by decide) rfl ?_
  refine ok_copy (pc := 15) (st := []) a dX4_begin_15 lcRX4_20 (Nat.lt_of_lt_of_le (by decide) hn) (Nat.lt_of_lt_of_le (by decide) hn) kq5 kq14 (by decide) (by decide) ⟨by decide, by decide, by decide, by decide, by decide⟩ (Nat.le_of_ble_eq_true rfl) (Nat.le_of_ble_eq_true rfl) (ok_nmH (fun h1 eh1 => ?_))
  have hw := hw h1 eh1
  refine ok_aload_n (pc := 18) a dX4_begin_18 rfl rfl ?_
  refine ok_iconst (pc := 19) a dX4_begin_19 ?_
  refine ok_pI (pc := 20) 1 a dX4_begin_20 lfRX4_26 fi_4_1 (Nat.lt_of_lt_of_le (by decide) hn) kq13 ty_4_1 rfl (fun h2 eh2 => ?_)
  have hw := hw h2 eh2
  refine ok_aload_n (pc := 23) a dX4_begin_23 rfl rfl ?_
  refine ok_iconst (pc := 24) a dX4_begin_24 ?_
  refine ok_pI (pc := 25) 2 a dX4_begin_25 lfRX4_30 fi_4_2 (Nat.lt_of_lt_of_le (by decide) hn) kq13 ty_4_2 rfl (fun h3 eh3 => ?_)
  have hw := hw h3 eh3
  exact ok_vret (pc := 28) a dX4_begin_28 ⟨rfl, rfl, hw⟩

def wp_X4_add (x1 : Int) (x2 : Int) (h : aH) (Q : aH → Prop) : Prop :=
  (0 ≤ x1 ∧ x1 < 16) ∧ inR ((h 14 x1) + x2) ∧ ∀ h3, h3 = up h 14 x1 (min 9 ((h 14 x1) + x2)) → Q h3
set_option maxRecDepth 100000 in
set_option maxHeartbeats 4000000 in
theorem M_X4_add {Γ : Gm} {l : Launch} {n : Nat} {g : aG} (hn : 59 ≤ n) (tg : TC g) (x1 : Int) (x2 : Int)  {h : aH} {Q : aH → Prop} (hw : wp_X4_add x1 x2 h Q) : Cl Γ l mX4_add [vR 13, vI x1, vI x2] n g h (RV g Q) := by
  refine Cl.of (by decide) [some (vR 13), some (vI x1), some (vI x2)] rfl (Nat.le_of_ble_eq_true rfl) ?_
  intro p e s m args below meth c a
  unfold wp_X4_add at hw
  refine ok_aload_n (pc := 0) a dX4_add_0 rfl rfl ?_
  refine ok_getR (pc := 1) a dX4_add_1 lfRX4_9 (Nat.lt_of_lt_of_le (by decide) hn) kq13 rfl (tg.at 13 0 14 (by decide) (by decide)) ?_
  refine ok_iload_n (pc := 4) a dX4_add_4 rfl rfl ?_
  refine ok_bipush (pc := 5) a dX4_add_5 (by decide) ?_
  refine ok_aload_n (pc := 7) a dX4_add_7 rfl rfl ?_
  refine ok_getR (pc := 8) a dX4_add_8 lfRX4_9 (Nat.lt_of_lt_of_le (by decide) hn) kq13 rfl (tg.at 13 0 14 (by decide) (by decide)) ?_
  refine ok_iload_n (pc := 11) a dX4_add_11 rfl rfl ?_
  obtain ⟨hc1, hw⟩ := hw
  refine ok_iald (pc := 12) a dX4_add_12 (Nat.lt_of_lt_of_le (by decide) hn) kq14 (by decide) hc1 ?_
  refine ok_iload_n (pc := 13) a dX4_add_13 rfl rfl ?_
  refine ok_iadd (pc := 14) a dX4_add_14 ?_
  obtain ⟨hc2, hw⟩ := hw
  refine ok_mmin (pc := 15) (st := [(vI x1), (vR 14)]) a dX4_add_15 mmRX4_33 ⟨by decide, by decide⟩ hc2 (Nat.le_of_ble_eq_true rfl) (Nat.le_of_ble_eq_true rfl) ?_
  refine ok_iast (pc := 18) a dX4_add_18 (Nat.lt_of_lt_of_le (by decide) hn) kq14 (by decide) hc1 (ok_nmH (fun h3 eh3 => ?_))
  have hw := hw h3 eh3
  exact ok_vret (pc := 19) a dX4_add_19 ⟨rfl, rfl, hw⟩

def wp_X8_foundOf (x0 : Int) (x1 : Int) (h : aH) (Q : Int → Prop) : Prop :=
  Q (band (bshr x0 (2 * x1)) 3)
set_option maxRecDepth 100000 in
set_option maxHeartbeats 4000000 in
theorem M_X8_foundOf {Γ : Gm} {l : Launch} {n : Nat} {g : aG} (hn : 59 ≤ n) (tg : TC g) (x0 : Int) (x1 : Int)  {h : aH} {Q : Int → Prop} (hw : wp_X8_foundOf x0 x1 h Q) : Cl Γ l mX8_foundOf [vI x0, vI x1] n g h (PI g h Q) := by
  refine Cl.of (by decide) [some (vI x0), some (vI x1)] rfl (Nat.le_of_ble_eq_true rfl) ?_
  intro p e s m args below meth c a
  unfold wp_X8_foundOf at hw
  refine ok_iload_n (pc := 0) a dX8_foundOf_0 rfl rfl ?_
  refine ok_iconst (pc := 1) a dX8_foundOf_1 ?_
  refine ok_iload_n (pc := 2) a dX8_foundOf_2 rfl rfl ?_
  refine ok_imul (pc := 3) a dX8_foundOf_3 ?_
  refine ok_ishr (pc := 4) a dX8_foundOf_4 ?_
  refine ok_iconst (pc := 5) a dX8_foundOf_5 ?_
  refine ok_iand (pc := 6) a dX8_foundOf_6 ?_
  exact ok_iret (pc := 7) a dX8_foundOf_7 ⟨_, rfl, rfl, rfl, hw⟩

def wp_X8_withFound (x0 : Int) (x1 : Int) (x2 : Int) (h : aH) (Q : Int → Prop) : Prop :=
  ∀ x3_3, x3_3 = (2 * x1) → Q (bor (band x0 (bxor (bshl 3 x3_3) (-1))) (bshl x2 x3_3))
set_option maxRecDepth 100000 in
set_option maxHeartbeats 4000000 in
theorem M_X8_withFound {Γ : Gm} {l : Launch} {n : Nat} {g : aG} (hn : 59 ≤ n) (tg : TC g) (x0 : Int) (x1 : Int) (x2 : Int)  {h : aH} {Q : Int → Prop} (hw : wp_X8_withFound x0 x1 x2 h Q) : Cl Γ l mX8_withFound [vI x0, vI x1, vI x2] n g h (PI g h Q) := by
  refine Cl.of (by decide) [some (vI x0), some (vI x1), some (vI x2), none] rfl (Nat.le_of_ble_eq_true rfl) ?_
  intro p e s m args below meth c a
  unfold wp_X8_withFound at hw
  refine ok_iconst (pc := 0) a dX8_withFound_0 ?_
  refine ok_iload_n (pc := 1) a dX8_withFound_1 rfl rfl ?_
  refine ok_imul (pc := 2) a dX8_withFound_2 ?_
  refine ok_nmI (fun x3_3 ex3_3 => ?_)
  have hw := hw x3_3 ex3_3
  refine ok_sI_n (pc := 3) a [some (vI x0), some (vI x1), some (vI x2), some (vI x3_3)] dX8_withFound_3 rfl (by decide) rfl rfl ?_
  refine ok_iload_n (pc := 4) a dX8_withFound_4 rfl rfl ?_
  refine ok_iconst (pc := 5) a dX8_withFound_5 ?_
  refine ok_iload_n (pc := 6) a dX8_withFound_6 rfl rfl ?_
  refine ok_ishl (pc := 7) a dX8_withFound_7 ?_
  refine ok_iconst (pc := 8) a dX8_withFound_8 ?_
  refine ok_ixor (pc := 9) a dX8_withFound_9 ?_
  refine ok_iand (pc := 10) a dX8_withFound_10 ?_
  refine ok_iload_n (pc := 11) a dX8_withFound_11 rfl rfl ?_
  refine ok_iload_n (pc := 12) a dX8_withFound_12 rfl rfl ?_
  refine ok_ishl (pc := 13) a dX8_withFound_13 ?_
  refine ok_ior (pc := 14) a dX8_withFound_14 ?_
  exact ok_iret (pc := 15) a dX8_withFound_15 ⟨_, rfl, rfl, rfl, hw⟩

def wp_X5_ordersLeft (x1 : Int) (h : aH) (Q : Int → Prop) : Prop :=
  (0 ≤ x1 ∧ x1 < 4096) ∧ Q (bshr (h 44 x1) 3)
set_option maxRecDepth 100000 in
set_option maxHeartbeats 4000000 in
theorem M_X5_ordersLeft {Γ : Gm} {l : Launch} {n : Nat} {g : aG} (hn : 59 ≤ n) (tg : TC g) (x1 : Int)  {h : aH} {Q : Int → Prop} (hw : wp_X5_ordersLeft x1 h Q) : Cl Γ l mX5_ordersLeft [vR 43, vI x1] n g h (PI g h Q) := by
  refine Cl.of (by decide) [some (vR 43), some (vI x1)] rfl (Nat.le_of_ble_eq_true rfl) ?_
  intro p e s m args below meth c a
  unfold wp_X5_ordersLeft at hw
  refine ok_aload_n (pc := 0) a dX5_ordersLeft_0 rfl rfl ?_
  refine ok_getR (pc := 1) a dX5_ordersLeft_1 lfRX5_9 (Nat.lt_of_lt_of_le (by decide) hn) kq43 rfl (tg.at 43 0 44 (by decide) (by decide)) ?_
  refine ok_iload_n (pc := 4) a dX5_ordersLeft_4 rfl rfl ?_
  obtain ⟨hc1, hw⟩ := hw
  refine ok_sald (pc := 5) a dX5_ordersLeft_5 (Nat.lt_of_lt_of_le (by decide) hn) kq44 (by decide) hc1 ?_
  refine ok_iconst (pc := 6) a dX5_ordersLeft_6 ?_
  refine ok_ishr (pc := 7) a dX5_ordersLeft_7 ?_
  exact ok_iret (pc := 8) a dX5_ordersLeft_8 ⟨_, rfl, rfl, rfl, hw⟩

def wp_X5_countHeavierOnes_J72 (X23 : Int × Int × aH → Prop) (x2_23 : Int) (x4_23 : Int) (h_72 : aH) : Prop :=
  X23 ((x2_23 + 1), (x4_23 + 1), h_72)
def wp_X5_countHeavierOnes_B23 (x1 : Int) (X12 : Int × Int × aH → Prop) (x3_12 : Int) (X23 : Int × Int × aH → Prop) (x2_23 : Int) (x4_23 : Int) (h_23 : aH) : Prop :=
  inR x4_23 ∧ ((x3_12 ≤ x4_23 → X12 (x2_23, (x3_12 + 1), h_23)) ∧ (¬ x3_12 ≤ x4_23 → wp_X8_foundOf x1 x2_23 h_23 (fun r5 => inR r5 ∧ ((r5 = 1 → (0 ≤ x3_12 ∧ x3_12 < 4) ∧ ∀ h8, h8 = up h_23 45 x3_12 ((h_23 45 x3_12) + 1) → wp_X5_countHeavierOnes_J72 X23 x2_23 x4_23 h8) ∧ (¬ r5 = 1 → ((r5 = 2 → (0 ≤ x4_23 ∧ x4_23 < 4) ∧ ∀ h10, h10 = up h_23 45 x4_23 ((h_23 45 x4_23) + 1) → wp_X5_countHeavierOnes_J72 X23 x2_23 x4_23 h10) ∧ (¬ r5 = 2 → wp_X5_countHeavierOnes_J72 X23 x2_23 x4_23 h_23)))))))
def wp_X5_countHeavierOnes_B12 (x1 : Int) (Q : aH → Prop) (X12 : Int × Int × aH → Prop) (x2_12 : Int) (x3_12 : Int) (h_12 : aH) : Prop :=
  inR x3_12 ∧ inR (h_12 43 2) ∧ (((h_12 43 2) ≤ x3_12 → Q h_12) ∧ (¬ (h_12 43 2) ≤ x3_12 → lp (fun X y => wp_X5_countHeavierOnes_B23 x1 X12 x3_12 X y.1 y.2.1 y.2.2) (x2_12, 0, h_12)))
def wp_X5_countHeavierOnes (x1 : Int) (h : aH) (Q : aH → Prop) : Prop :=
  wp_J7_fill_53178 45 4 0 h (fun h1 => lp (fun X y => wp_X5_countHeavierOnes_B12 x1 Q X y.1 y.2.1 y.2.2) (0, 1, h1))
set_option maxRecDepth 100000 in
set_option maxHeartbeats 4000000 in
theorem M_X5_countHeavierOnes {Γ : Gm} {l : Launch} {n : Nat} {g : aG} (hn : 59 ≤ n) (tg : TC g) (x1 : Int)  {h : aH} {Q : aH → Prop} (hw : wp_X5_countHeavierOnes x1 h Q) : Cl Γ l mX5_countHeavierOnes [vR 43, vI x1] n g h (RV g Q) := by
  refine Cl.of (by decide) [some (vR 43), some (vI x1), none, none, none, none] rfl (Nat.le_of_ble_eq_true rfl) ?_
  intro p e s m args below meth c a
  unfold wp_X5_countHeavierOnes at hw
  refine ok_aload_n (pc := 0) a dX5_countHeavierOnes_0 rfl rfl ?_
  refine ok_getR (pc := 1) a dX5_countHeavierOnes_1 lfRX5_15 (Nat.lt_of_lt_of_le (by decide) hn) kq43 rfl (tg.at 43 1 45 (by decide) (by decide)) ?_
  refine ok_iconst (pc := 4) a dX5_countHeavierOnes_4 ?_
  refine ok_SRV (pc := 5) a [(vR 45), (vI 0)] [] (M_J7_fill_53178 hn tg 45 4 0 (by decide) kq45 (by decide) hw) dX5_countHeavierOnes_5 lkRX5_72 rfl ⟨Nat.le_of_ble_eq_true rfl, Nat.le_of_ble_eq_true rfl⟩ rfl (Nat.le_of_ble_eq_true rfl) rfl (fun h1 hw => ?_)
  refine ok_iconst (pc := 8) a dX5_countHeavierOnes_8 ?_
  refine ok_sI_n (pc := 9) a [some (vR 43), some (vI x1), some (vI 0), none, none, none] dX5_countHeavierOnes_9 rfl (by decide) rfl rfl ?_
  refine ok_iconst (pc := 10) a dX5_countHeavierOnes_10 ?_
  refine ok_sI_n (pc := 11) a [some (vR 43), some (vI x1), some (vI 0), some (vI 1), none, none] dX5_countHeavierOnes_11 rfl (by decide) rfl rfl ?_
  refine lp.use (P := fun y => OK Γ p l e (rmd 1 n n) s m args below meth c n (MQ below (QQ Γ n (RV g Q)) args s (n - n) (sl n - sl n) (AA Γ)) 12 [some (vR 43), some (vI x1), some (vI y.1), some (vI y.2.1), none, none] [] n g y.2.2) ?_ (0, 1, h1) hw
  clear hw
  intro X12 hX12 y hw
  obtain ⟨x2_12, x3_12, h_12⟩ := y
  have hw : wp_X5_countHeavierOnes_B12 x1 Q X12 x2_12 x3_12 h_12 := hw
  unfold wp_X5_countHeavierOnes_B12 at hw
  try dsimp only
  refine ok_iload_n (pc := 12) a dX5_countHeavierOnes_12 rfl rfl ?_
  refine ok_aload_n (pc := 13) a dX5_countHeavierOnes_13 rfl rfl ?_
  refine ok_fI (pc := 14) 2 a dX5_countHeavierOnes_14 lfRX5_19 (Nat.lt_of_lt_of_le (by decide) hn) kq43 ty_5_2 rfl ?_
  obtain ⟨hc2, hw⟩ := hw
  obtain ⟨hc3, hw⟩ := hw
  refine ok_icmp_ge (pc := 17) a 87 dX5_countHeavierOnes_17 (by decide) hc2 hc3 (fun hd14 => ?_) (fun hd14 => ?_)
  · have hw := hw.1 hd14
    exact ok_vret (pc := 87) a dX5_countHeavierOnes_87 ⟨rfl, rfl, hw⟩
  · have hw := hw.2 hd14
    refine ok_iconst (pc := 20) a dX5_countHeavierOnes_20 ?_
    refine ok_sI (pc := 21) a [some (vR 43), some (vI x1), some (vI x2_12), some (vI x3_12), some (vI 0), none] dX5_countHeavierOnes_21 (by decide) rfl rfl ?_
    refine lp.use (P := fun y => OK Γ p l e (rmd 1 n n) s m args below meth c n (MQ below (QQ Γ n (RV g Q)) args s (n - n) (sl n - sl n) (AA Γ)) 23 [some (vR 43), some (vI x1), some (vI y.1), some (vI x3_12), some (vI y.2.1), none] [] n g y.2.2) ?_ (x2_12, 0, h_12) hw
    clear hw
    intro X23 hX23 y hw
    obtain ⟨x2_23, x4_23, h_23⟩ := y
    have hw : wp_X5_countHeavierOnes_B23 x1 X12 x3_12 X23 x2_23 x4_23 h_23 := hw
    unfold wp_X5_countHeavierOnes_B23 at hw
    try dsimp only
    refine ok_iload (pc := 23) a dX5_countHeavierOnes_23 rfl ?_
    refine ok_iload_n (pc := 25) a dX5_countHeavierOnes_25 rfl rfl ?_
    obtain ⟨hc4, hw⟩ := hw
    refine ok_icmp_ge (pc := 26) a 81 dX5_countHeavierOnes_26 (by decide) hc4 hc2 (fun hd13 => ?_) (fun hd13 => ?_)
    · have hw := hw.1 hd13
      refine ok_inc (pc := 81) a [some (vR 43), some (vI x1), some (vI x2_23), some (vI (x3_12 + 1)), some (vI x4_23), none] dX5_countHeavierOnes_81 rfl (by decide) rfl rfl ?_
      refine ok_goto (pc := 84) a 12 dX5_countHeavierOnes_84 (by decide) ?_
      refine ok_forget 4 ?_
      exact hX12 (x2_23, (x3_12 + 1), h_23) hw
    · have hw := hw.2 hd13
      refine ok_iload_n (pc := 29) a dX5_countHeavierOnes_29 rfl rfl ?_
      refine ok_iload_n (pc := 30) a dX5_countHeavierOnes_30 rfl rfl ?_
      refine ok_SPI (pc := 31) a [(vI x1), (vI x2_23)] [] (M_X8_foundOf hn tg x1 x2_23  hw) dX5_countHeavierOnes_31 lkRX5_40 rfl ⟨Nat.le_of_ble_eq_true rfl, Nat.le_of_ble_eq_true rfl⟩ rfl (Nat.le_of_ble_eq_true rfl) rfl (fun r5 hw => ?_)
      refine ok_sI (pc := 34) a [some (vR 43), some (vI x1), some (vI x2_23), some (vI x3_12), some (vI x4_23), some (vI r5)] dX5_countHeavierOnes_34 (by decide) rfl rfl ?_
      refine ok_iload (pc := 36) a dX5_countHeavierOnes_36 rfl ?_
      refine ok_iconst (pc := 38) a dX5_countHeavierOnes_38 ?_
      obtain ⟨hc6, hw⟩ := hw
      have hJ72 : ∀ (h_72 : aH), wp_X5_countHeavierOnes_J72 X23 x2_23 x4_23 h_72 → OK Γ p l e (rmd 1 n n) s m args below meth c n (MQ below (QQ Γ n (RV g Q)) args s (n - n) (sl n - sl n) (AA Γ)) 72 [some (vR 43), some (vI x1), some (vI x2_23), some (vI x3_12), some (vI x4_23), some (vI r5)] [] n g h_72 := by
        intro h_72 hw
        unfold wp_X5_countHeavierOnes_J72 at hw
        refine ok_inc (pc := 72) a [some (vR 43), some (vI x1), some (vI (x2_23 + 1)), some (vI x3_12), some (vI x4_23), some (vI r5)] dX5_countHeavierOnes_72 rfl (by decide) rfl rfl ?_
        refine ok_inc (pc := 75) a [some (vR 43), some (vI x1), some (vI (x2_23 + 1)), some (vI x3_12), some (vI (x4_23 + 1)), some (vI r5)] dX5_countHeavierOnes_75 rfl (by decide) rfl rfl ?_
        refine ok_goto (pc := 78) a 23 dX5_countHeavierOnes_78 (by decide) ?_
        refine ok_forget 5 ?_
        exact hX23 ((x2_23 + 1), (x4_23 + 1), h_72) hw
      refine ok_icmp_ne (pc := 39) a 55 dX5_countHeavierOnes_39 (by decide) hc6 ⟨by decide, by decide⟩ (fun hd12 => ?_) (fun hd12 => ?_)
      · have hw := hw.2 hd12
        refine ok_iload (pc := 55) a dX5_countHeavierOnes_55 rfl ?_
        refine ok_iconst (pc := 57) a dX5_countHeavierOnes_57 ?_
        refine ok_icmp_ne (pc := 58) a 72 dX5_countHeavierOnes_58 (by decide) hc6 ⟨by decide, by decide⟩ (fun hd11 => ?_) (fun hd11 => ?_)
        · have hw := hw.2 hd11
          exact hJ72 h_23 hw
        · have hw := hw.1 hd11
          refine ok_aload_n (pc := 61) a dX5_countHeavierOnes_61 rfl rfl ?_
          refine ok_getR (pc := 62) a dX5_countHeavierOnes_62 lfRX5_15 (Nat.lt_of_lt_of_le (by decide) hn) kq43 rfl (tg.at 43 1 45 (by decide) (by decide)) ?_
          refine ok_iload (pc := 65) a dX5_countHeavierOnes_65 rfl ?_
          refine ok_dup2 (pc := 67) a dX5_countHeavierOnes_67 (by rfl) (by rfl) ?_
          obtain ⟨hc9, hw⟩ := hw
          refine ok_iald (pc := 68) a dX5_countHeavierOnes_68 (Nat.lt_of_lt_of_le (by decide) hn) kq45 (by decide) hc9 ?_
          refine ok_iconst (pc := 69) a dX5_countHeavierOnes_69 ?_
          refine ok_iadd (pc := 70) a dX5_countHeavierOnes_70 ?_
          refine ok_iast (pc := 71) a dX5_countHeavierOnes_71 (Nat.lt_of_lt_of_le (by decide) hn) kq45 (by decide) hc9 (ok_nmH (fun h10 eh10 => ?_))
          have hw := hw h10 eh10
          exact hJ72 h10 hw
      · have hw := hw.1 hd12
        refine ok_aload_n (pc := 42) a dX5_countHeavierOnes_42 rfl rfl ?_
        refine ok_getR (pc := 43) a dX5_countHeavierOnes_43 lfRX5_15 (Nat.lt_of_lt_of_le (by decide) hn) kq43 rfl (tg.at 43 1 45 (by decide) (by decide)) ?_
        refine ok_iload_n (pc := 46) a dX5_countHeavierOnes_46 rfl rfl ?_
        refine ok_dup2 (pc := 47) a dX5_countHeavierOnes_47 (by rfl) (by rfl) ?_
        obtain ⟨hc7, hw⟩ := hw
        refine ok_iald (pc := 48) a dX5_countHeavierOnes_48 (Nat.lt_of_lt_of_le (by decide) hn) kq45 (by decide) hc7 ?_
        refine ok_iconst (pc := 49) a dX5_countHeavierOnes_49 ?_
        refine ok_iadd (pc := 50) a dX5_countHeavierOnes_50 ?_
        refine ok_iast (pc := 51) a dX5_countHeavierOnes_51 (Nat.lt_of_lt_of_le (by decide) hn) kq45 (by decide) hc7 (ok_nmH (fun h8 eh8 => ?_))
        have hw := hw h8 eh8
        refine ok_goto (pc := 52) a 72 dX5_countHeavierOnes_52 (by decide) ?_
        exact hJ72 h8 hw

def wp_X5_dueFinding (x0 : Int) (x1 : Int) (h : aH) (Q : Int → Prop) : Prop :=
  inR x0 ∧ inR x1 ∧ ((x0 = x1 → Q 3) ∧ (¬ x0 = x1 → Q (if x1 ≤ x0 then 2 else 1 : Int)))
set_option maxRecDepth 100000 in
set_option maxHeartbeats 4000000 in
theorem M_X5_dueFinding {Γ : Gm} {l : Launch} {n : Nat} {g : aG} (hn : 59 ≤ n) (tg : TC g) (x0 : Int) (x1 : Int)  {h : aH} {Q : Int → Prop} (hw : wp_X5_dueFinding x0 x1 h Q) : Cl Γ l mX5_dueFinding [vI x0, vI x1] n g h (PI g h Q) := by
  refine Cl.of (by decide) [some (vI x0), some (vI x1)] rfl (Nat.le_of_ble_eq_true rfl) ?_
  intro p e s m args below meth c a
  unfold wp_X5_dueFinding at hw
  refine ok_iload_n (pc := 0) a dX5_dueFinding_0 rfl rfl ?_
  refine ok_iload_n (pc := 1) a dX5_dueFinding_1 rfl rfl ?_
  obtain ⟨hc1, hw⟩ := hw
  obtain ⟨hc2, hw⟩ := hw
  refine ok_icmp_ne (pc := 2) a 7 dX5_dueFinding_2 (by decide) hc1 hc2 (fun hd4 => ?_) (fun hd4 => ?_)
  · have hw := hw.2 hd4
    refine ok_iload_n (pc := 7) a dX5_dueFinding_7 rfl rfl ?_
    refine ok_iload_n (pc := 8) a dX5_dueFinding_8 rfl rfl ?_
    have hK : OK Γ p l e (rmd 0 n n) s m args below meth c n (MQ below (QQ Γ n (PI g h Q)) args s (n - n) (sl n - sl n) (AA Γ)) 17 [some (vI x0), some (vI x1)] [(vI (if x1 ≤ x0 then 2 else 1 : Int))] n g h := by
      exact ok_iret (pc := 17) a dX5_dueFinding_17 ⟨_, rfl, rfl, rfl, hw⟩
    refine ok_icmp_ge (pc := 9) a 16 dX5_dueFinding_9 (by decide) hc1 hc2 (fun hd3 => ?_) (fun hd3 => ?_)
    · refine ok_iconst (pc := 16) a dX5_dueFinding_16 ?_
      simp only [if_pos hd3] at hK
      exact hK
    · refine ok_iconst (pc := 12) a dX5_dueFinding_12 ?_
      refine ok_goto (pc := 13) a 17 dX5_dueFinding_13 (by decide) ?_
      simp only [if_neg hd3] at hK
      exact hK
  · have hw := hw.1 hd4
    refine ok_iconst (pc := 5) a dX5_dueFinding_5 ?_
    exact ok_iret (pc := 6) a dX5_dueFinding_6 ⟨_, rfl, rfl, rfl, hw⟩
