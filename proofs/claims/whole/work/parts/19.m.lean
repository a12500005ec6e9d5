def wp_X9_level_J185 (x3 : Int) (Q : Int → aH → Prop) (h7 : aH) (s0_185 : Int) : Prop :=
  (0 ≤ (x3 - 2) ∧ (x3 - 2) < 2147483648) ∧ ∀ x6_192, x6_192 = ((x3 - 2) % 4) → inR x6_192 ∧ ((x6_192 = 0 → (0 ≤ s0_185 ∧ s0_185 < 2147483648) ∧ Q (s0_185 / 1000) h7) ∧ (¬ x6_192 = 0 → ((x6_192 = 1 → (0 ≤ s0_185 ∧ s0_185 < 2147483648) ∧ (0 ≤ (s0_185 / 100) ∧ (s0_185 / 100) < 2147483648) ∧ Q ((s0_185 / 100) % 10) h7) ∧ (¬ x6_192 = 1 → ((x6_192 = 2 → (0 ≤ s0_185 ∧ s0_185 < 2147483648) ∧ (0 ≤ (s0_185 / 10) ∧ (s0_185 / 10) < 2147483648) ∧ Q ((s0_185 / 10) % 10) h7) ∧ (¬ x6_192 = 2 → (0 ≤ s0_185 ∧ s0_185 < 2147483648) ∧ Q (s0_185 % 10) h7))))))
def wp_X9_level_B46 (x1 : Int) (x2 : Int) (x3 : Int) (Q : Int → aH → Prop) (h7 : aH) (X46 : Int × Int → Prop) (x4_46 : Int) (x5_46 : Int) : Prop :=
  inR x5_46 ∧ ((721 ≤ x5_46 → inR x3 ∧ ((2 ≤ x3 → ((6 ≤ x3 → (0 ≤ (721 + x4_46) ∧ (721 + x4_46) < 1442) ∧ wp_X9_wayOf x2 x4_46 (h7 78 (721 + x4_46)) h7 (fun r22 => wp_X9_level_J185 x3 Q h7 r22)) ∧ (¬ 6 ≤ x3 → (0 ≤ x4_46 ∧ x4_46 < 1442) ∧ wp_X9_wayOf x1 x4_46 (h7 78 x4_46) h7 (fun r24 => wp_X9_level_J185 x3 Q h7 r24)))) ∧ (¬ 2 ≤ x3 → (((x3 = 0 → (0 ≤ x4_46 ∧ x4_46 < 1442) ∧ (0 ≤ (721 + x4_46) ∧ (721 + x4_46) < 1442) ∧ True) ∧ (¬ x3 = 0 → True))) ∧ Q (if x3 = 0 then ((h7 78 x4_46) + (h7 78 (721 + x4_46))) else x4_46 : Int) h7))) ∧ (¬ 721 ≤ x5_46 → (0 ≤ x5_46 ∧ x5_46 < 1442) ∧ (0 ≤ (721 + x5_46) ∧ (721 + x5_46) < 1442) ∧ (0 ≤ x4_46 ∧ x4_46 < 1442) ∧ (0 ≤ (721 + x4_46) ∧ (721 + x4_46) < 1442) ∧ (inR ((h7 78 x5_46) + (h7 78 (721 + x5_46))) ∧ inR ((h7 78 x4_46) + (h7 78 (721 + x4_46))) ∧ True) ∧ ∀ x4_102, x4_102 = (if ((h7 78 x4_46) + (h7 78 (721 + x4_46))) < ((h7 78 x5_46) + (h7 78 (721 + x5_46))) then x4_46 else x5_46 : Int) → X46 (x4_102, (x5_46 + 1))))
def wp_X9_level (x1 : Int) (x2 : Int) (x3 : Int) (h : aH) (Q : Int → aH → Prop) : Prop :=
  ∀ h1, h1 = up h 59 0 0 → wp_X9_isPair x1 x2 h1 (fun r2 => ((r2 = 0 → Q (-1) h1) ∧ (¬ r2 = 0 → wp_X9_in x3 0 9 h1 (fun r4 => ((r4 = 0 → Q (-1) h1) ∧ (¬ r4 = 0 → wp_X9_sheds 0 x1 h1 (fun h6 => wp_X9_sheds 721 x2 h6 (fun h7 => lp (fun X y => wp_X9_level_B46 x1 x2 x3 Q h7 X y.1 y.2) (0, 0)))))))))
set_option maxRecDepth 100000 in
set_option maxHeartbeats 4000000 in
theorem M_X9_level {Γ : Gm} {l : Launch} {n : Nat} {g : aG} (hn : 80 ≤ n) (tg : TM g) (x1 : Int) (x2 : Int) (x3 : Int)  {h : aH} {Q : Int → aH → Prop} (hw : wp_X9_level x1 x2 x3 h Q) : Cl Γ l mX9_level [vR 59, vI x1, vI x2, vI x3] n g h (RI g Q) := by
  refine Cl.of (by decide) [some (vR 59), some (vI x1), some (vI x2), some (vI x3), none, none, none] rfl (Nat.le_of_ble_eq_true rfl) ?_
  intro p e s m args below meth c a
  unfold wp_X9_level at hw
  refine ok_aload_n (pc := 0) a dX9_level_0 rfl rfl ?_
  refine ok_iconst (pc := 1) a dX9_level_1 ?_
  refine ok_pI (pc := 2) 0 a dX9_level_2 lfRX9_77 fi_9_0 (Nat.lt_of_lt_of_le (by decide) hn) kq59 ty_9_0 rfl (fun h1 eh1 => ?_)
  have hw := hw h1 eh1
  refine ok_aload_n (pc := 5) a dX9_level_5 rfl rfl ?_
  refine ok_iload_n (pc := 6) a dX9_level_6 rfl rfl ?_
  refine ok_iload_n (pc := 7) a dX9_level_7 rfl rfl ?_
  refine ok_VPZ (pc := 8) a [(vI x1), (vI x2)] [] (M_X9_isPair hn tg x1 x2  hw) dX9_level_8 lkRX9_156 rfl (Nat.lt_of_lt_of_le (by decide) hn) kq59 (by decide) rfl ⟨Nat.le_of_ble_eq_true rfl, Nat.le_of_ble_eq_true rfl⟩ rfl (Nat.le_of_ble_eq_true rfl) rfl (fun r2 hz3 hw => ?_)
  refine ok_if_eq (pc := 11) a 24 dX9_level_11 (by decide) (inR_b hz3) (fun hd39 => ?_) (fun hd39 => ?_)
  · have hw := hw.1 hd39
    refine ok_iconst (pc := 24) a dX9_level_24 ?_
    exact ok_iret (pc := 25) a dX9_level_25 ⟨_, rfl, rfl, hw⟩
  · have hw := hw.2 hd39
    refine ok_iload_n (pc := 14) a dX9_level_14 rfl rfl ?_
    refine ok_iconst (pc := 15) a dX9_level_15 ?_
    refine ok_bipush (pc := 16) a dX9_level_16 (by decide) ?_
    refine ok_SPZ (pc := 18) a [(vI x3), (vI 0), (vI 9)] [] (M_X9_in hn tg x3 0 9  hw) dX9_level_18 lkRX9_81 rfl ⟨Nat.le_of_ble_eq_true rfl, Nat.le_of_ble_eq_true rfl⟩ rfl (Nat.le_of_ble_eq_true rfl) rfl (fun r4 hz5 hw => ?_)
    refine ok_if_ne (pc := 21) a 26 dX9_level_21 (by decide) (inR_b hz5) (fun hd38 => ?_) (fun hd38 => ?_)
    · have hw := hw.2 hd38
      refine ok_aload_n (pc := 26) a dX9_level_26 rfl rfl ?_
      refine ok_iconst (pc := 27) a dX9_level_27 ?_
      refine ok_iload_n (pc := 28) a dX9_level_28 rfl rfl ?_
      refine ok_VRV (pc := 29) a [(vI 0), (vI x1)] [] (M_X9_sheds hn tg 0 x1  hw) dX9_level_29 lkRX9_209 rfl (Nat.lt_of_lt_of_le (by decide) hn) kq59 (by decide) rfl ⟨Nat.le_of_ble_eq_true rfl, Nat.le_of_ble_eq_true rfl⟩ rfl (Nat.le_of_ble_eq_true rfl) rfl (fun h6 hw => ?_)
      refine ok_aload_n (pc := 32) a dX9_level_32 rfl rfl ?_
      refine ok_sipush (pc := 33) a dX9_level_33 (by decide) ?_
      refine ok_iload_n (pc := 36) a dX9_level_36 rfl rfl ?_
      refine ok_VRV (pc := 37) a [(vI 721), (vI x2)] [] (M_X9_sheds hn tg 721 x2  hw) dX9_level_37 lkRX9_209 rfl (Nat.lt_of_lt_of_le (by decide) hn) kq59 (by decide) rfl ⟨Nat.le_of_ble_eq_true rfl, Nat.le_of_ble_eq_true rfl⟩ rfl (Nat.le_of_ble_eq_true rfl) rfl (fun h7 hw => ?_)
      refine ok_iconst (pc := 40) a dX9_level_40 ?_
      refine ok_sI (pc := 41) a [some (vR 59), some (vI x1), some (vI x2), some (vI x3), some (vI 0), none, none] dX9_level_41 (by decide) rfl rfl ?_
      refine ok_iconst (pc := 43) a dX9_level_43 ?_
      refine ok_sI (pc := 44) a [some (vR 59), some (vI x1), some (vI x2), some (vI x3), some (vI 0), some (vI 0), none] dX9_level_44 (by decide) rfl rfl ?_
      refine lp.use (P := fun y => OK Γ p l e (rmd 3 n n) s m args below meth c n (MQ below (QQ Γ n (RI g Q)) args s (n - n) (sl n - sl n) (AA Γ)) 46 [some (vR 59), some (vI x1), some (vI x2), some (vI x3), some (vI y.1), some (vI y.2), none] [] n g h7) ?_ (0, 0) hw
      clear hw
      intro X46 hX46 y hw
      obtain ⟨x4_46, x5_46⟩ := y
      have hw : wp_X9_level_B46 x1 x2 x3 Q h7 X46 x4_46 x5_46 := hw
      unfold wp_X9_level_B46 at hw
      try dsimp only
      refine ok_iload (pc := 46) a dX9_level_46 rfl ?_
      refine ok_sipush (pc := 48) a dX9_level_48 (by decide) ?_
      obtain ⟨hc8, hw⟩ := hw
      refine ok_icmp_ge (pc := 51) a 110 dX9_level_51 (by decide) hc8 ⟨by decide, by decide⟩ (fun hd37 => ?_) (fun hd37 => ?_)
      · have hw := hw.1 hd37
        refine ok_iload_n (pc := 110) a dX9_level_110 rfl rfl ?_
        refine ok_iconst (pc := 111) a dX9_level_111 ?_
        obtain ⟨hc9, hw⟩ := hw
        refine ok_icmp_ge (pc := 112) a 144 dX9_level_112 (by decide) hc9 ⟨by decide, by decide⟩ (fun hd29 => ?_) (fun hd29 => ?_)
        · have hw := hw.1 hd29
          refine ok_iload_n (pc := 144) a dX9_level_144 rfl rfl ?_
          refine ok_bipush (pc := 145) a dX9_level_145 (by decide) ?_
          have hJ185 : ∀ (s0_185 : Int), wp_X9_level_J185 x3 Q h7 s0_185 → OK Γ p l e (rmd 3 n n) s m args below meth c n (MQ below (QQ Γ n (RI g Q)) args s (n - n) (sl n - sl n) (AA Γ)) 185 [some (vR 59), some (vI x1), some (vI x2), some (vI x3), some (vI x4_46), some (vI x5_46), none] [(vI s0_185)] n g h7 := by
            intro s0_185 hw
            unfold wp_X9_level_J185 at hw
            refine ok_sI (pc := 185) a [some (vR 59), some (vI x1), some (vI x2), some (vI x3), some (vI x4_46), some (vI s0_185), none] dX9_level_185 (by decide) rfl rfl ?_
            refine ok_iload_n (pc := 187) a dX9_level_187 rfl rfl ?_
            refine ok_iconst (pc := 188) a dX9_level_188 ?_
            refine ok_isub (pc := 189) a dX9_level_189 ?_
            refine ok_iconst (pc := 190) a dX9_level_190 ?_
            obtain ⟨hc10, hw⟩ := hw
            refine ok_irem (pc := 191) a dX9_level_191 ⟨hc10, by decide, by decide⟩ ?_
            refine ok_nmI (fun x6_192 ex6_192 => ?_)
            have hw := hw x6_192 ex6_192
            refine ok_sI (pc := 192) a [some (vR 59), some (vI x1), some (vI x2), some (vI x3), some (vI x4_46), some (vI s0_185), some (vI x6_192)] dX9_level_192 (by decide) rfl rfl ?_
            refine ok_iload (pc := 194) a dX9_level_194 rfl ?_
            obtain ⟨hc11, hw⟩ := hw
            refine ok_if_ne (pc := 196) a 208 dX9_level_196 (by decide) hc11 (fun hd20 => ?_) (fun hd20 => ?_)
            · have hw := hw.2 hd20
              refine ok_iload (pc := 208) a dX9_level_208 rfl ?_
              refine ok_iconst (pc := 210) a dX9_level_210 ?_
              refine ok_icmp_ne (pc := 211) a 225 dX9_level_211 (by decide) hc11 ⟨by decide, by decide⟩ (fun hd19 => ?_) (fun hd19 => ?_)
              · have hw := hw.2 hd19
                refine ok_iload (pc := 225) a dX9_level_225 rfl ?_
                refine ok_iconst (pc := 227) a dX9_level_227 ?_
                refine ok_icmp_ne (pc := 228) a 242 dX9_level_228 (by decide) hc11 ⟨by decide, by decide⟩ (fun hd18 => ?_) (fun hd18 => ?_)
                · have hw := hw.2 hd18
                  refine ok_iload (pc := 242) a dX9_level_242 rfl ?_
                  refine ok_bipush (pc := 244) a dX9_level_244 (by decide) ?_
                  obtain ⟨hc17, hw⟩ := hw
                  refine ok_irem (pc := 246) a dX9_level_246 ⟨hc17, by decide, by decide⟩ ?_
                  exact ok_iret (pc := 247) a dX9_level_247 ⟨_, rfl, rfl, hw⟩
                · have hw := hw.1 hd18
                  refine ok_iload (pc := 231) a dX9_level_231 rfl ?_
                  refine ok_bipush (pc := 233) a dX9_level_233 (by decide) ?_
                  obtain ⟨hc15, hw⟩ := hw
                  refine ok_idiv (pc := 235) a dX9_level_235 ⟨hc15, by decide, by decide⟩ ?_
                  refine ok_bipush (pc := 236) a dX9_level_236 (by decide) ?_
                  obtain ⟨hc16, hw⟩ := hw
                  refine ok_irem (pc := 238) a dX9_level_238 ⟨hc16, by decide, by decide⟩ ?_
                  refine ok_goto (pc := 239) a 247 dX9_level_239 (by decide) ?_
                  exact ok_iret (pc := 247) a dX9_level_247 ⟨_, rfl, rfl, hw⟩
              · have hw := hw.1 hd19
                refine ok_iload (pc := 214) a dX9_level_214 rfl ?_
                refine ok_bipush (pc := 216) a dX9_level_216 (by decide) ?_
                obtain ⟨hc13, hw⟩ := hw
                refine ok_idiv (pc := 218) a dX9_level_218 ⟨hc13, by decide, by decide⟩ ?_
                refine ok_bipush (pc := 219) a dX9_level_219 (by decide) ?_
                obtain ⟨hc14, hw⟩ := hw
                refine ok_irem (pc := 221) a dX9_level_221 ⟨hc14, by decide, by decide⟩ ?_
                refine ok_goto (pc := 222) a 247 dX9_level_222 (by decide) ?_
                exact ok_iret (pc := 247) a dX9_level_247 ⟨_, rfl, rfl, hw⟩
            · have hw := hw.1 hd20
              refine ok_iload (pc := 199) a dX9_level_199 rfl ?_
              refine ok_sipush (pc := 201) a dX9_level_201 (by decide) ?_
              obtain ⟨hc12, hw⟩ := hw
              refine ok_idiv (pc := 204) a dX9_level_204 ⟨hc12, by decide, by decide⟩ ?_
              refine ok_goto (pc := 205) a 247 dX9_level_205 (by decide) ?_
              exact ok_iret (pc := 247) a dX9_level_247 ⟨_, rfl, rfl, hw⟩
          refine ok_icmp_ge (pc := 147) a 167 dX9_level_147 (by decide) hc9 ⟨by decide, by decide⟩ (fun hd25 => ?_) (fun hd25 => ?_)
          · have hw := hw.1 hd25
            refine ok_aload_n (pc := 167) a dX9_level_167 rfl rfl ?_
            refine ok_iload_n (pc := 168) a dX9_level_168 rfl rfl ?_
            refine ok_iload (pc := 169) a dX9_level_169 rfl ?_
            refine ok_aload_n (pc := 171) a dX9_level_171 rfl rfl ?_
            refine ok_getR (pc := 172) a dX9_level_172 lfRX9_65 (Nat.lt_of_lt_of_le (by decide) hn) kq59 rfl (tg.at 59 30 78 (by decide) (by decide)) ?_
            refine ok_sipush (pc := 175) a dX9_level_175 (by decide) ?_
            refine ok_iload (pc := 178) a dX9_level_178 rfl ?_
            refine ok_iadd (pc := 180) a dX9_level_180 ?_
            obtain ⟨hc21, hw⟩ := hw
            refine ok_iald (pc := 181) a dX9_level_181 (Nat.lt_of_lt_of_le (by decide) hn) kq78 (by decide) hc21 ?_
            refine ok_VPI (pc := 182) a [(vI x2), (vI x4_46), (vI (h7 78 (721 + x4_46)))] [] (M_X9_wayOf hn tg x2 x4_46 (h7 78 (721 + x4_46))  hw) dX9_level_182 lkRX9_213 rfl (Nat.lt_of_lt_of_le (by decide) hn) kq59 (by decide) rfl ⟨Nat.le_of_ble_eq_true rfl, Nat.le_of_ble_eq_true rfl⟩ rfl (Nat.le_of_ble_eq_true rfl) rfl (fun r22 hw => ?_)
            exact hJ185 r22 hw
          · have hw := hw.2 hd25
            refine ok_aload_n (pc := 150) a dX9_level_150 rfl rfl ?_
            refine ok_iload_n (pc := 151) a dX9_level_151 rfl rfl ?_
            refine ok_iload (pc := 152) a dX9_level_152 rfl ?_
            refine ok_aload_n (pc := 154) a dX9_level_154 rfl rfl ?_
            refine ok_getR (pc := 155) a dX9_level_155 lfRX9_65 (Nat.lt_of_lt_of_le (by decide) hn) kq59 rfl (tg.at 59 30 78 (by decide) (by decide)) ?_
            refine ok_iload (pc := 158) a dX9_level_158 rfl ?_
            obtain ⟨hc23, hw⟩ := hw
            refine ok_iald (pc := 160) a dX9_level_160 (Nat.lt_of_lt_of_le (by decide) hn) kq78 (by decide) hc23 ?_
            refine ok_VPI (pc := 161) a [(vI x1), (vI x4_46), (vI (h7 78 x4_46))] [] (M_X9_wayOf hn tg x1 x4_46 (h7 78 x4_46)  hw) dX9_level_161 lkRX9_213 rfl (Nat.lt_of_lt_of_le (by decide) hn) kq59 (by decide) rfl ⟨Nat.le_of_ble_eq_true rfl, Nat.le_of_ble_eq_true rfl⟩ rfl (Nat.le_of_ble_eq_true rfl) rfl (fun r24 hw => ?_)
            refine ok_goto (pc := 164) a 185 dX9_level_164 (by decide) ?_
            exact hJ185 r24 hw
        · have hw := hw.2 hd29
          refine ok_iload_n (pc := 115) a dX9_level_115 rfl rfl ?_
          obtain ⟨hR, hw⟩ := hw
          have hK : OK Γ p l e (rmd 3 n n) s m args below meth c n (MQ below (QQ Γ n (RI g Q)) args s (n - n) (sl n - sl n) (AA Γ)) 143 [some (vR 59), some (vI x1), some (vI x2), some (vI x3), some (vI x4_46), some (vI x5_46), none] [(vI (if x3 = 0 then ((h7 78 x4_46) + (h7 78 (721 + x4_46))) else x4_46 : Int))] n g h7 := by
            exact ok_iret (pc := 143) a dX9_level_143 ⟨_, rfl, rfl, hw⟩
          have hw := hR
          refine ok_if_ne (pc := 116) a 141 dX9_level_116 (by decide) hc9 (fun hd26 => ?_) (fun hd26 => ?_)
          · refine ok_iload (pc := 141) a dX9_level_141 rfl ?_
            simp only [if_neg hd26] at hK
            exact hK
          · have hw := hw.1 hd26
            refine ok_aload_n (pc := 119) a dX9_level_119 rfl rfl ?_
            refine ok_getR (pc := 120) a dX9_level_120 lfRX9_65 (Nat.lt_of_lt_of_le (by decide) hn) kq59 rfl (tg.at 59 30 78 (by decide) (by decide)) ?_
            refine ok_iload (pc := 123) a dX9_level_123 rfl ?_
            obtain ⟨hc27, hw⟩ := hw
            refine ok_iald (pc := 125) a dX9_level_125 (Nat.lt_of_lt_of_le (by decide) hn) kq78 (by decide) hc27 ?_
            refine ok_aload_n (pc := 126) a dX9_level_126 rfl rfl ?_
            refine ok_getR (pc := 127) a dX9_level_127 lfRX9_65 (Nat.lt_of_lt_of_le (by decide) hn) kq59 rfl (tg.at 59 30 78 (by decide) (by decide)) ?_
            refine ok_sipush (pc := 130) a dX9_level_130 (by decide) ?_
            refine ok_iload (pc := 133) a dX9_level_133 rfl ?_
            refine ok_iadd (pc := 135) a dX9_level_135 ?_
            obtain ⟨hc28, hw⟩ := hw
            refine ok_iald (pc := 136) a dX9_level_136 (Nat.lt_of_lt_of_le (by decide) hn) kq78 (by decide) hc28 ?_
            refine ok_iadd (pc := 137) a dX9_level_137 ?_
            refine ok_goto (pc := 138) a 143 dX9_level_138 (by decide) ?_
            simp only [if_pos hd26] at hK
            exact hK
      · have hw := hw.2 hd37
        refine ok_aload_n (pc := 54) a dX9_level_54 rfl rfl ?_
        refine ok_getR (pc := 55) a dX9_level_55 lfRX9_65 (Nat.lt_of_lt_of_le (by decide) hn) kq59 rfl (tg.at 59 30 78 (by decide) (by decide)) ?_
        refine ok_iload (pc := 58) a dX9_level_58 rfl ?_
        obtain ⟨hc30, hw⟩ := hw
        refine ok_iald (pc := 60) a dX9_level_60 (Nat.lt_of_lt_of_le (by decide) hn) kq78 (by decide) hc30 ?_
        refine ok_aload_n (pc := 61) a dX9_level_61 rfl rfl ?_
        refine ok_getR (pc := 62) a dX9_level_62 lfRX9_65 (Nat.lt_of_lt_of_le (by decide) hn) kq59 rfl (tg.at 59 30 78 (by decide) (by decide)) ?_
        refine ok_sipush (pc := 65) a dX9_level_65 (by decide) ?_
        refine ok_iload (pc := 68) a dX9_level_68 rfl ?_
        refine ok_iadd (pc := 70) a dX9_level_70 ?_
        obtain ⟨hc31, hw⟩ := hw
        refine ok_iald (pc := 71) a dX9_level_71 (Nat.lt_of_lt_of_le (by decide) hn) kq78 (by decide) hc31 ?_
        refine ok_iadd (pc := 72) a dX9_level_72 ?_
        refine ok_aload_n (pc := 73) a dX9_level_73 rfl rfl ?_
        refine ok_getR (pc := 74) a dX9_level_74 lfRX9_65 (Nat.lt_of_lt_of_le (by decide) hn) kq59 rfl (tg.at 59 30 78 (by decide) (by decide)) ?_
        refine ok_iload (pc := 77) a dX9_level_77 rfl ?_
        obtain ⟨hc32, hw⟩ := hw
        refine ok_iald (pc := 79) a dX9_level_79 (Nat.lt_of_lt_of_le (by decide) hn) kq78 (by decide) hc32 ?_
        refine ok_aload_n (pc := 80) a dX9_level_80 rfl rfl ?_
        refine ok_getR (pc := 81) a dX9_level_81 lfRX9_65 (Nat.lt_of_lt_of_le (by decide) hn) kq59 rfl (tg.at 59 30 78 (by decide) (by decide)) ?_
        refine ok_sipush (pc := 84) a dX9_level_84 (by decide) ?_
        refine ok_iload (pc := 87) a dX9_level_87 rfl ?_
        refine ok_iadd (pc := 89) a dX9_level_89 ?_
        obtain ⟨hc33, hw⟩ := hw
        refine ok_iald (pc := 90) a dX9_level_90 (Nat.lt_of_lt_of_le (by decide) hn) kq78 (by decide) hc33 ?_
        refine ok_iadd (pc := 91) a dX9_level_91 ?_
        obtain ⟨hR, hw⟩ := hw
        have hK : OK Γ p l e (rmd 3 n n) s m args below meth c n (MQ below (QQ Γ n (RI g Q)) args s (n - n) (sl n - sl n) (AA Γ)) 102 [some (vR 59), some (vI x1), some (vI x2), some (vI x3), some (vI x4_46), some (vI x5_46), none] [(vI (if ((h7 78 x4_46) + (h7 78 (721 + x4_46))) < ((h7 78 x5_46) + (h7 78 (721 + x5_46))) then x4_46 else x5_46 : Int))] n g h7 := by
          refine ok_nmI (fun x4_102 ex4_102 => ?_)
          have hw := hw x4_102 ex4_102
          refine ok_sI (pc := 102) a [some (vR 59), some (vI x1), some (vI x2), some (vI x3), some (vI x4_102), some (vI x5_46), none] dX9_level_102 (by decide) rfl rfl ?_
          refine ok_inc (pc := 104) a [some (vR 59), some (vI x1), some (vI x2), some (vI x3), some (vI x4_102), some (vI (x5_46 + 1)), none] dX9_level_104 rfl (by decide) rfl rfl ?_
          refine ok_goto (pc := 107) a 46 dX9_level_107 (by decide) ?_
          exact hX46 (x4_102, (x5_46 + 1)) hw
        have hw := hR
        obtain ⟨hc34, hw⟩ := hw
        obtain ⟨hc35, hw⟩ := hw
        refine ok_icmp_gt (pc := 92) a 100 dX9_level_92 (by decide) hc34 hc35 (fun hd36 => ?_) (fun hd36 => ?_)
        · refine ok_iload (pc := 100) a dX9_level_100 rfl ?_
          simp only [if_pos hd36] at hK
          exact hK
        · refine ok_iload (pc := 95) a dX9_level_95 rfl ?_
          refine ok_goto (pc := 97) a 102 dX9_level_97 (by decide) ?_
          simp only [if_neg hd36] at hK
          exact hK
    · have hw := hw.1 hd38
      refine ok_iconst (pc := 24) a dX9_level_24 ?_
      exact ok_iret (pc := 25) a dX9_level_25 ⟨_, rfl, rfl, hw⟩

def wp_X9_heavinessThen_B5 (x1 : Int) (x2 : Int) (h : aH) (Q : Int → Prop) (X5 : Int × Int → Prop) (x3_5 : Int) (x4_5 : Int) : Prop :=
  inR x4_5 ∧ ((4 ≤ x4_5 → Q x3_5) ∧ (¬ 4 ≤ x4_5 → (0 ≤ ((1 + (4 * x1)) + x4_5) ∧ ((1 + (4 * x1)) + x4_5) < 23) ∧ (0 ≤ ((4 * x1) + x4_5) ∧ ((4 * x1) + x4_5) < 32) ∧ ∀ x5_38, x5_38 = ((h 66 ((1 + (4 * x1)) + x4_5)) + (x2 * (h 64 ((4 * x1) + x4_5)))) → (0 ≤ x4_5 ∧ x4_5 < 8) ∧ (inR x5_38 ∧ True) ∧ ∀ x3_64, x3_64 = (x3_5 + ((h 62 x4_5) * (if x5_38 ≤ 9 then x5_38 else 9 : Int))) → X5 (x3_64, (x4_5 + 1))))
def wp_X9_heavinessThen (x1 : Int) (x2 : Int) (h : aH) (Q : Int → Prop) : Prop :=
  lp (fun X y => wp_X9_heavinessThen_B5 x1 x2 h Q X y.1 y.2) (0, 0)
set_option maxRecDepth 100000 in
set_option maxHeartbeats 4000000 in
theorem M_X9_heavinessThen {Γ : Gm} {l : Launch} {n : Nat} {g : aG} (hn : 80 ≤ n) (tg : TM g) (x1 : Int) (x2 : Int)  {h : aH} {Q : Int → Prop} (hw : wp_X9_heavinessThen x1 x2 h Q) : Cl Γ l mX9_heavinessThen [vR 59, vI x1, vI x2] n g h (PI g h Q) := by
  refine Cl.of (by decide) [some (vR 59), some (vI x1), some (vI x2), none, none, none] rfl (Nat.le_of_ble_eq_true rfl) ?_
  intro p e s m args below meth c a
  unfold wp_X9_heavinessThen at hw
  refine ok_iconst (pc := 0) a dX9_heavinessThen_0 ?_
  refine ok_sI_n (pc := 1) a [some (vR 59), some (vI x1), some (vI x2), some (vI 0), none, none] dX9_heavinessThen_1 rfl (by decide) rfl rfl ?_
  refine ok_iconst (pc := 2) a dX9_heavinessThen_2 ?_
  refine ok_sI (pc := 3) a [some (vR 59), some (vI x1), some (vI x2), some (vI 0), some (vI 0), none] dX9_heavinessThen_3 (by decide) rfl rfl ?_
  refine lp.use (P := fun y => OK Γ p l e (rmd 0 n n) s m args below meth c n (MQ below (QQ Γ n (PI g h Q)) args s (n - n) (sl n - sl n) (AA Γ)) 5 [some (vR 59), some (vI x1), some (vI x2), some (vI y.1), some (vI y.2), none] [] n g h) ?_ (0, 0) hw
  clear hw
  intro X5 hX5 y hw
  obtain ⟨x3_5, x4_5⟩ := y
  have hw : wp_X9_heavinessThen_B5 x1 x2 h Q X5 x3_5 x4_5 := hw
  unfold wp_X9_heavinessThen_B5 at hw
  try dsimp only
  refine ok_iload (pc := 5) a dX9_heavinessThen_5 rfl ?_
  refine ok_iconst (pc := 7) a dX9_heavinessThen_7 ?_
  obtain ⟨hc1, hw⟩ := hw
  refine ok_icmp_ge (pc := 8) a 71 dX9_heavinessThen_8 (by decide) hc1 ⟨by decide, by decide⟩ (fun hd7 => ?_) (fun hd7 => ?_)
  · have hw := hw.1 hd7
    refine ok_iload_n (pc := 71) a dX9_heavinessThen_71 rfl rfl ?_
    exact ok_iret (pc := 72) a dX9_heavinessThen_72 ⟨_, rfl, rfl, rfl, hw⟩
  · have hw := hw.2 hd7
    refine ok_aload_n (pc := 11) a dX9_heavinessThen_11 rfl rfl ?_
    refine ok_getR (pc := 12) a dX9_heavinessThen_12 lfRX9_28 (Nat.lt_of_lt_of_le (by decide) hn) kq59 rfl (tg.at 59 14 66 (by decide) (by decide)) ?_
    refine ok_iconst (pc := 15) a dX9_heavinessThen_15 ?_
    refine ok_iconst (pc := 16) a dX9_heavinessThen_16 ?_
    refine ok_iload_n (pc := 17) a dX9_heavinessThen_17 rfl rfl ?_
    refine ok_imul (pc := 18) a dX9_heavinessThen_18 ?_
    refine ok_iadd (pc := 19) a dX9_heavinessThen_19 ?_
    refine ok_iload (pc := 20) a dX9_heavinessThen_20 rfl ?_
    refine ok_iadd (pc := 22) a dX9_heavinessThen_22 ?_
    obtain ⟨hc2, hw⟩ := hw
    refine ok_iald (pc := 23) a dX9_heavinessThen_23 (Nat.lt_of_lt_of_le (by decide) hn) kq66 (by decide) hc2 ?_
    refine ok_iload_n (pc := 24) a dX9_heavinessThen_24 rfl rfl ?_
    refine ok_aload_n (pc := 25) a dX9_heavinessThen_25 rfl rfl ?_
    refine ok_getR (pc := 26) a dX9_heavinessThen_26 lfRX9_22 (Nat.lt_of_lt_of_le (by decide) hn) kq59 rfl (tg.at 59 12 64 (by decide) (by decide)) ?_
    refine ok_iconst (pc := 29) a dX9_heavinessThen_29 ?_
    refine ok_iload_n (pc := 30) a dX9_heavinessThen_30 rfl rfl ?_
    refine ok_imul (pc := 31) a dX9_heavinessThen_31 ?_
    refine ok_iload (pc := 32) a dX9_heavinessThen_32 rfl ?_
    refine ok_iadd (pc := 34) a dX9_heavinessThen_34 ?_
    obtain ⟨hc3, hw⟩ := hw
    refine ok_iald (pc := 35) a dX9_heavinessThen_35 (Nat.lt_of_lt_of_le (by decide) hn) kq64 (by decide) hc3 ?_
    refine ok_imul (pc := 36) a dX9_heavinessThen_36 ?_
    refine ok_iadd (pc := 37) a dX9_heavinessThen_37 ?_
    refine ok_nmI (fun x5_38 ex5_38 => ?_)
    have hw := hw x5_38 ex5_38
    refine ok_sI (pc := 38) a [some (vR 59), some (vI x1), some (vI x2), some (vI x3_5), some (vI x4_5), some (vI x5_38)] dX9_heavinessThen_38 (by decide) rfl rfl ?_
    refine ok_iload_n (pc := 40) a dX9_heavinessThen_40 rfl rfl ?_
    refine ok_aload_n (pc := 41) a dX9_heavinessThen_41 rfl rfl ?_
    refine ok_getR (pc := 42) a dX9_heavinessThen_42 lfRX9_16 (Nat.lt_of_lt_of_le (by decide) hn) kq59 rfl (tg.at 59 10 62 (by decide) (by decide)) ?_
    refine ok_iload (pc := 45) a dX9_heavinessThen_45 rfl ?_
    obtain ⟨hc4, hw⟩ := hw
    refine ok_iald (pc := 47) a dX9_heavinessThen_47 (Nat.lt_of_lt_of_le (by decide) hn) kq62 (by decide) hc4 ?_
    refine ok_iload (pc := 48) a dX9_heavinessThen_48 rfl ?_
    refine ok_bipush (pc := 50) a dX9_heavinessThen_50 (by decide) ?_
    obtain ⟨hR, hw⟩ := hw
    have hK : OK Γ p l e (rmd 0 n n) s m args below meth c n (MQ below (QQ Γ n (PI g h Q)) args s (n - n) (sl n - sl n) (AA Γ)) 62 [some (vR 59), some (vI x1), some (vI x2), some (vI x3_5), some (vI x4_5), some (vI x5_38)] [(vI (if x5_38 ≤ 9 then x5_38 else 9 : Int)), (vI (h 62 x4_5)), (vI x3_5)] n g h := by
      refine ok_imul (pc := 62) a dX9_heavinessThen_62 ?_
      refine ok_iadd (pc := 63) a dX9_heavinessThen_63 ?_
      refine ok_nmI (fun x3_64 ex3_64 => ?_)
      have hw := hw x3_64 ex3_64
      refine ok_sI_n (pc := 64) a [some (vR 59), some (vI x1), some (vI x2), some (vI x3_64), some (vI x4_5), some (vI x5_38)] dX9_heavinessThen_64 rfl (by decide) rfl rfl ?_
      refine ok_inc (pc := 65) a [some (vR 59), some (vI x1), some (vI x2), some (vI x3_64), some (vI (x4_5 + 1)), some (vI x5_38)] dX9_heavinessThen_65 rfl (by decide) rfl rfl ?_
      refine ok_goto (pc := 68) a 5 dX9_heavinessThen_68 (by decide) ?_
      refine ok_forget 5 ?_
      exact hX5 (x3_64, (x4_5 + 1)) hw
    have hw := hR
    obtain ⟨hc5, hw⟩ := hw
    refine ok_icmp_le (pc := 52) a 60 dX9_heavinessThen_52 (by decide) hc5 ⟨by decide, by decide⟩ (fun hd6 => ?_) (fun hd6 => ?_)
    · refine ok_iload (pc := 60) a dX9_heavinessThen_60 rfl ?_
      simp only [if_pos hd6] at hK
      exact hK
    · refine ok_bipush (pc := 55) a dX9_heavinessThen_55 (by decide) ?_
      refine ok_goto (pc := 57) a 62 dX9_heavinessThen_57 (by decide) ?_
      simp only [if_neg hd6] at hK
      exact hK

def wp_X9_when_B18 (x1 : Int) (x2 : Int) (Q : Int → aH → Prop) (h1 : aH) (X18 : Int → Prop) (x3_18 : Int) : Prop :=
  inR x3_18 ∧ ((100 ≤ x3_18 → Q (-9) h1) ∧ (¬ 100 ≤ x3_18 → wp_X9_heavinessThen x1 x3_18 h1 (fun r5 => wp_X9_heavinessThen x2 x3_18 h1 (fun r6 => inR r5 ∧ inR r6 ∧ ((r5 ≤ r6 → X18 (x3_18 + 1)) ∧ (¬ r5 ≤ r6 → Q ((h1 66 0) + x3_18) h1))))))
def wp_X9_when (x1 : Int) (x2 : Int) (h : aH) (Q : Int → aH → Prop) : Prop :=
  ∀ h1, h1 = up h 59 0 0 → wp_X9_isPair x1 x2 h1 (fun r2 => ((r2 = 0 → Q (-1) h1) ∧ (¬ r2 = 0 → lp (fun X y => wp_X9_when_B18 x1 x2 Q h1 X y) 0)))
set_option maxRecDepth 100000 in
set_option maxHeartbeats 4000000 in
theorem M_X9_when {Γ : Gm} {l : Launch} {n : Nat} {g : aG} (hn : 80 ≤ n) (tg : TM g) (x1 : Int) (x2 : Int)  {h : aH} {Q : Int → aH → Prop} (hw : wp_X9_when x1 x2 h Q) : Cl Γ l mX9_when [vR 59, vI x1, vI x2] n g h (RI g Q) := by
  refine Cl.of (by decide) [some (vR 59), some (vI x1), some (vI x2), none] rfl (Nat.le_of_ble_eq_true rfl) ?_
  intro p e s m args below meth c a
  unfold wp_X9_when at hw
  refine ok_aload_n (pc := 0) a dX9_when_0 rfl rfl ?_
  refine ok_iconst (pc := 1) a dX9_when_1 ?_
  refine ok_pI (pc := 2) 0 a dX9_when_2 lfRX9_77 fi_9_0 (Nat.lt_of_lt_of_le (by decide) hn) kq59 ty_9_0 rfl (fun h1 eh1 => ?_)
  have hw := hw h1 eh1
  refine ok_aload_n (pc := 5) a dX9_when_5 rfl rfl ?_
  refine ok_iload_n (pc := 6) a dX9_when_6 rfl rfl ?_
  refine ok_iload_n (pc := 7) a dX9_when_7 rfl rfl ?_
  refine ok_VPZ (pc := 8) a [(vI x1), (vI x2)] [] (M_X9_isPair hn tg x1 x2  hw) dX9_when_8 lkRX9_156 rfl (Nat.lt_of_lt_of_le (by decide) hn) kq59 (by decide) rfl ⟨Nat.le_of_ble_eq_true rfl, Nat.le_of_ble_eq_true rfl⟩ rfl (Nat.le_of_ble_eq_true rfl) rfl (fun r2 hz3 hw => ?_)
  refine ok_if_ne (pc := 11) a 16 dX9_when_11 (by decide) (inR_b hz3) (fun hd11 => ?_) (fun hd11 => ?_)
  · have hw := hw.2 hd11
    refine ok_iconst (pc := 16) a dX9_when_16 ?_
    refine ok_sI_n (pc := 17) a [some (vR 59), some (vI x1), some (vI x2), some (vI 0)] dX9_when_17 rfl (by decide) rfl rfl ?_
    refine lp.use (P := fun y => OK Γ p l e (rmd 3 n n) s m args below meth c n (MQ below (QQ Γ n (RI g Q)) args s (n - n) (sl n - sl n) (AA Γ)) 18 [some (vR 59), some (vI x1), some (vI x2), some (vI y)] [] n g h1) ?_ 0 hw
    clear hw
    intro X18 hX18 y hw
    generalize y = x3_18 at hw ⊢
    have hw : wp_X9_when_B18 x1 x2 Q h1 X18 x3_18 := hw
    unfold wp_X9_when_B18 at hw
    try dsimp only
    refine ok_iload_n (pc := 18) a dX9_when_18 rfl rfl ?_
    refine ok_bipush (pc := 19) a dX9_when_19 (by decide) ?_
    obtain ⟨hc4, hw⟩ := hw
    refine ok_icmp_ge (pc := 21) a 54 dX9_when_21 (by decide) hc4 ⟨by decide, by decide⟩ (fun hd10 => ?_) (fun hd10 => ?_)
    · have hw := hw.1 hd10
      refine ok_bipush (pc := 54) a dX9_when_54 (by decide) ?_
      exact ok_iret (pc := 56) a dX9_when_56 ⟨_, rfl, rfl, hw⟩
    · have hw := hw.2 hd10
      refine ok_aload_n (pc := 24) a dX9_when_24 rfl rfl ?_
      refine ok_iload_n (pc := 25) a dX9_when_25 rfl rfl ?_
      refine ok_iload_n (pc := 26) a dX9_when_26 rfl rfl ?_
      refine ok_VPI (pc := 27) a [(vI x1), (vI x3_18)] [] (M_X9_heavinessThen hn tg x1 x3_18  hw) dX9_when_27 lkRX9_217 rfl (Nat.lt_of_lt_of_le (by decide) hn) kq59 (by decide) rfl ⟨Nat.le_of_ble_eq_true rfl, Nat.le_of_ble_eq_true rfl⟩ rfl (Nat.le_of_ble_eq_true rfl) rfl (fun r5 hw => ?_)
      refine ok_aload_n (pc := 30) a dX9_when_30 rfl rfl ?_
      refine ok_iload_n (pc := 31) a dX9_when_31 rfl rfl ?_
      refine ok_iload_n (pc := 32) a dX9_when_32 rfl rfl ?_
      refine ok_VPI (pc := 33) a [(vI x2), (vI x3_18)] [(vI r5)] (M_X9_heavinessThen hn tg x2 x3_18  hw) dX9_when_33 lkRX9_217 rfl (Nat.lt_of_lt_of_le (by decide) hn) kq59 (by decide) rfl ⟨Nat.le_of_ble_eq_true rfl, Nat.le_of_ble_eq_true rfl⟩ rfl (Nat.le_of_ble_eq_true rfl) rfl (fun r6 hw => ?_)
      obtain ⟨hc7, hw⟩ := hw
      obtain ⟨hc8, hw⟩ := hw
      refine ok_icmp_le (pc := 36) a 48 dX9_when_36 (by decide) hc7 hc8 (fun hd9 => ?_) (fun hd9 => ?_)
      · have hw := hw.1 hd9
        refine ok_inc (pc := 48) a [some (vR 59), some (vI x1), some (vI x2), some (vI (x3_18 + 1))] dX9_when_48 rfl (by decide) rfl rfl ?_
        refine ok_goto (pc := 51) a 18 dX9_when_51 (by decide) ?_
        exact hX18 (x3_18 + 1) hw
      · have hw := hw.2 hd9
        refine ok_aload_n (pc := 39) a dX9_when_39 rfl rfl ?_
        refine ok_getR (pc := 40) a dX9_when_40 lfRX9_28 (Nat.lt_of_lt_of_le (by decide) hn) kq59 rfl (tg.at 59 14 66 (by decide) (by decide)) ?_
        refine ok_iconst (pc := 43) a dX9_when_43 ?_
        refine ok_iald (pc := 44) a dX9_when_44 (Nat.lt_of_lt_of_le (by decide) hn) kq66 (by decide) ⟨by decide, by decide⟩ ?_
        refine ok_iload_n (pc := 45) a dX9_when_45 rfl rfl ?_
        refine ok_iadd (pc := 46) a dX9_when_46 ?_
        exact ok_iret (pc := 47) a dX9_when_47 ⟨_, rfl, rfl, hw⟩
  · have hw := hw.1 hd11
    refine ok_iconst (pc := 14) a dX9_when_14 ?_
    exact ok_iret (pc := 15) a dX9_when_15 ⟨_, rfl, rfl, hw⟩

def wp_X9_gcd_B6 (Q : Int → Prop) (X6 : Int × Int → Prop) (x4_6 : Int) (x6_6 : Int) : Prop :=
  inL x6_6 ∧ (((cmpL x6_6 0) = 0 → Q x4_6) ∧ (¬ (cmpL x6_6 0) = 0 → ((0 ≤ x4_6 ∧ x4_6 < 9223372036854775808) ∧ 0 < x6_6 ∧ x6_6 < 9223372036854775808) ∧ ∀ x8_18, x8_18 = (x4_6 % x6_6) → X6 (x6_6, x8_18)))
def wp_X9_gcd (x0 : Int) (x2 : Int) (h : aH) (Q : Int → Prop) : Prop :=
  lp (fun X y => wp_X9_gcd_B6 Q X y.1 y.2) (x0, x2)
set_option maxRecDepth 100000 in
set_option maxHeartbeats 4000000 in
theorem M_X9_gcd {Γ : Gm} {l : Launch} {n : Nat} {g : aG} (hn : 80 ≤ n) (tg : TM g) (x0 : Int) (x2 : Int)  {h : aH} {Q : Int → Prop} (hw : wp_X9_gcd x0 x2 h Q) : Cl Γ l mX9_gcd [vL x0, vL x2] n g h (PL g h Q) := by
  refine Cl.of (by decide) [some (vL x0), none, some (vL x2), none, none, none, none, none, none, none] rfl (Nat.le_of_ble_eq_true rfl) ?_
  intro p e s m args below meth c a
  unfold wp_X9_gcd at hw
  refine ok_lload_n (pc := 0) a dX9_gcd_0 rfl rfl ?_
  refine ok_sL (pc := 1) a [some (vL x0), none, some (vL x2), none, some (vL x0), none, none, none, none, none] dX9_gcd_1 (by decide) rfl rfl ?_
  refine ok_lload_n (pc := 3) a dX9_gcd_3 rfl rfl ?_
  refine ok_sL (pc := 4) a [some (vL x0), none, some (vL x2), none, some (vL x0), none, some (vL x2), none, none, none] dX9_gcd_4 (by decide) rfl rfl ?_
  refine lp.use (P := fun y => OK Γ p l e (rmd 0 n n) s m args below meth c n (MQ below (QQ Γ n (PL g h Q)) args s (n - n) (sl n - sl n) (AA Γ)) 6 [some (vL x0), none, some (vL x2), none, some (vL y.1), none, some (vL y.2), none, none, none] [] n g h) ?_ (x0, x2) hw
  clear hw
  intro X6 hX6 y hw
  obtain ⟨x4_6, x6_6⟩ := y
  have hw : wp_X9_gcd_B6 Q X6 x4_6 x6_6 := hw
  unfold wp_X9_gcd_B6 at hw
  try dsimp only
  refine ok_lload (pc := 6) a dX9_gcd_6 rfl ?_
  refine ok_lconst (pc := 8) (x := 0) a dX9_gcd_8 (by decide) ?_
  obtain ⟨hc1, hw⟩ := hw
  refine ok_lcmp (pc := 9) a dX9_gcd_9 hc1 ⟨by decide, by decide⟩ ?_
  refine ok_if_eq (pc := 10) a 31 dX9_gcd_10 (by decide) (inR_cmpL x6_6 0) (fun hd3 => ?_) (fun hd3 => ?_)
  · have hw := hw.1 hd3
    refine ok_lload (pc := 31) a dX9_gcd_31 rfl ?_
    exact ok_lret (pc := 33) a dX9_gcd_33 ⟨_, rfl, rfl, rfl, hw⟩
  · have hw := hw.2 hd3
    refine ok_lload (pc := 13) a dX9_gcd_13 rfl ?_
    refine ok_lload (pc := 15) a dX9_gcd_15 rfl ?_
    obtain ⟨hc2, hw⟩ := hw
    refine ok_lrem (pc := 17) a dX9_gcd_17 hc2 ?_
    refine ok_nmL (fun x8_18 ex8_18 => ?_)
    have hw := hw x8_18 ex8_18
    refine ok_sL (pc := 18) a [some (vL x0), none, some (vL x2), none, some (vL x4_6), none, some (vL x6_6), none, some (vL x8_18), none] dX9_gcd_18 (by decide) rfl rfl ?_
    refine ok_lload (pc := 20) a dX9_gcd_20 rfl ?_
    refine ok_sL (pc := 22) a [some (vL x0), none, some (vL x2), none, some (vL x6_6), none, some (vL x6_6), none, some (vL x8_18), none] dX9_gcd_22 (by decide) rfl rfl ?_
    refine ok_lload (pc := 24) a dX9_gcd_24 rfl ?_
    refine ok_sL (pc := 26) a [some (vL x0), none, some (vL x2), none, some (vL x6_6), none, some (vL x8_18), none, some (vL x8_18), none] dX9_gcd_26 (by decide) rfl rfl ?_
    refine ok_goto (pc := 28) a 6 dX9_gcd_28 (by decide) ?_
    refine ok_forget 8 ?_
    exact hX6 (x6_6, x8_18) hw

def wp_X9_odds_B124 (x3 : Int) (x4 : Int) (h1 : aH) (x6_58 : Int) (x7_71 : Int) (X106 : Int × Int → Prop) (x8_106 : Int) (x12_106 : Int) (X124 : Int × Int × Int → Prop) (x13_124 : Int) (x15_124 : Int) (x16_124 : Int) : Prop :=
  inR x16_124 ∧ ((x6_58 ≤ x16_124 → (0 ≤ x3 ∧ x3 < 8) ∧ (inR (x7_71 - (x15_124 * (h1 62 x3))) ∧ True) ∧ ∀ x8_201, x8_201 = (x8_106 + (if 0 ≤ (x7_71 - (x15_124 * (h1 62 x3))) then 0 else x13_124 : Int)) → X106 (x8_201, (x12_106 + 1))) ∧ (¬ x6_58 ≤ x16_124 → (inR (band (bshr x12_106 x16_124) 1) ∧ (((band (bshr x12_106 x16_124) 1) = 1 → inR x4 ∧ True) ∧ (¬ (band (bshr x12_106 x16_124) 1) = 1 → inR (10 - x4) ∧ True))) ∧ ∀ x13_157, x13_157 = (x13_124 * (if (band (bshr x12_106 x16_124) 1) = 1 then x4 else (10 - x4) : Int)) → ∀ x15_169, x15_169 = (x15_124 + (band (bshr x12_106 x16_124) 1)) → X124 (x13_157, x15_169, (x16_124 + 1))))
def wp_X9_odds_B106 (x3 : Int) (x4 : Int) (x5 : Int) (Q : Int → aH → Prop) (h1 : aH) (x6_58 : Int) (x7_71 : Int) (x10_82 : Int) (X106 : Int × Int → Prop) (x8_106 : Int) (x12_106 : Int) : Prop :=
  inR x12_106 ∧ inR (bshl 1 x6_58) ∧ (((bshl 1 x6_58) ≤ x12_106 → wp_X9_gcd x8_106 x10_82 h1 (fun r17 => inR x5 ∧ ((x5 = 0 → ((0 ≤ x8_106 ∧ x8_106 < 9223372036854775808) ∧ 0 < r17 ∧ r17 < 9223372036854775808) ∧ Q (x8_106 / r17) h1) ∧ (¬ x5 = 0 → ((0 ≤ x10_82 ∧ x10_82 < 9223372036854775808) ∧ 0 < r17 ∧ r17 < 9223372036854775808) ∧ Q (x10_82 / r17) h1)))) ∧ (¬ (bshl 1 x6_58) ≤ x12_106 → lp (fun X y => wp_X9_odds_B124 x3 x4 h1 x6_58 x7_71 X106 x8_106 x12_106 X y.1 y.2.1 y.2.2) (1, 0, 0)))
def wp_X9_odds_B82 (x3 : Int) (x4 : Int) (x5 : Int) (Q : Int → aH → Prop) (h1 : aH) (x6_58 : Int) (x7_71 : Int) (X82 : Int × Int → Prop) (x10_82 : Int) (x12_82 : Int) : Prop :=
  inR x12_82 ∧ inR x6_58 ∧ ((x6_58 ≤ x12_82 → lp (fun X y => wp_X9_odds_B106 x3 x4 x5 Q h1 x6_58 x7_71 x10_82 X y.1 y.2) (0, 0)) ∧ (¬ x6_58 ≤ x12_82 → ∀ x10_95, x10_95 = (x10_82 * 10) → X82 (x10_95, (x12_82 + 1))))
def wp_X9_odds (x1 : Int) (x2 : Int) (x3 : Int) (x4 : Int) (x5 : Int) (h : aH) (Q : Int → aH → Prop) : Prop :=
  ∀ h1, h1 = up h 59 0 0 → wp_X9_isPair x1 x2 h1 (fun r2 => ((r2 = 0 → Q (-1) h1) ∧ (¬ r2 = 0 → wp_X9_isSort x3 h1 (fun r4 => ((r4 = 0 → Q (-1) h1) ∧ (¬ r4 = 0 → wp_X9_in x4 0 10 h1 (fun r6 => ((r6 = 0 → Q (-1) h1) ∧ (¬ r6 = 0 → wp_X9_in x5 0 1 h1 (fun r8 => ((r8 = 0 → Q (-1) h1) ∧ (¬ r8 = 0 → (0 ≤ ((1 + (4 * x1)) + x3) ∧ ((1 + (4 * x1)) + x3) < 23) ∧ ∀ x6_58, x6_58 = (h1 66 ((1 + (4 * x1)) + x3)) → wp_X9_heaviness x1 h1 (fun r11 => wp_X9_heaviness x2 h1 (fun r12 => ∀ x7_71, x7_71 = (r11 - r12) → lp (fun X y => wp_X9_odds_B82 x3 x4 x5 Q h1 x6_58 x7_71 X y.1 y.2) (1, 0)))))))))))))))
set_option maxRecDepth 100000 in
set_option maxHeartbeats 4000000 in
theorem M_X9_odds {Γ : Gm} {l : Launch} {n : Nat} {g : aG} (hn : 80 ≤ n) (tg : TM g) (x1 : Int) (x2 : Int) (x3 : Int) (x4 : Int) (x5 : Int)  {h : aH} {Q : Int → aH → Prop} (hw : wp_X9_odds x1 x2 x3 x4 x5 h Q) : Cl Γ l mX9_odds [vR 59, vI x1, vI x2, vI x3, vI x4, vI x5] n g h (RL' g Q) := by
  refine Cl.of (by decide) [some (vR 59), some (vI x1), some (vI x2), some (vI x3), some (vI x4), some (vI x5), none, none, none, none, none, none, none, none, none, none, none] rfl (Nat.le_of_ble_eq_true rfl) ?_
  intro p e s m args below meth c a
  unfold wp_X9_odds at hw
  refine ok_aload_n (pc := 0) a dX9_odds_0 rfl rfl ?_
  refine ok_iconst (pc := 1) a dX9_odds_1 ?_
  refine ok_pI (pc := 2) 0 a dX9_odds_2 lfRX9_77 fi_9_0 (Nat.lt_of_lt_of_le (by decide) hn) kq59 ty_9_0 rfl (fun h1 eh1 => ?_)
  have hw := hw h1 eh1
  refine ok_aload_n (pc := 5) a dX9_odds_5 rfl rfl ?_
  refine ok_iload_n (pc := 6) a dX9_odds_6 rfl rfl ?_
  refine ok_iload_n (pc := 7) a dX9_odds_7 rfl rfl ?_
  refine ok_VPZ (pc := 8) a [(vI x1), (vI x2)] [] (M_X9_isPair hn tg x1 x2  hw) dX9_odds_8 lkRX9_156 rfl (Nat.lt_of_lt_of_le (by decide) hn) kq59 (by decide) rfl ⟨Nat.le_of_ble_eq_true rfl, Nat.le_of_ble_eq_true rfl⟩ rfl (Nat.le_of_ble_eq_true rfl) rfl (fun r2 hz3 hw => ?_)
  refine ok_if_eq (pc := 11) a 42 dX9_odds_11 (by decide) (inR_b hz3) (fun hd36 => ?_) (fun hd36 => ?_)
  · have hw := hw.1 hd36
    refine ok_ldc2 (pc := 42) (x := (-1)) a dX9_odds_42 ctRX9_220 (by decide) ?_
    exact ok_lret (pc := 45) a dX9_odds_45 ⟨_, rfl, rfl, hw⟩
  · have hw := hw.2 hd36
    refine ok_iload_n (pc := 14) a dX9_odds_14 rfl rfl ?_
    refine ok_SPZ (pc := 15) a [(vI x3)] [] (M_X9_isSort hn tg x3  hw) dX9_odds_15 lkRX9_147 rfl ⟨Nat.le_of_ble_eq_true rfl, Nat.le_of_ble_eq_true rfl⟩ rfl (Nat.le_of_ble_eq_true rfl) rfl (fun r4 hz5 hw => ?_)
    refine ok_if_eq (pc := 18) a 42 dX9_odds_18 (by decide) (inR_b hz5) (fun hd35 => ?_) (fun hd35 => ?_)
    · have hw := hw.1 hd35
      refine ok_ldc2 (pc := 42) (x := (-1)) a dX9_odds_42 ctRX9_220 (by decide) ?_
      exact ok_lret (pc := 45) a dX9_odds_45 ⟨_, rfl, rfl, hw⟩
    · have hw := hw.2 hd35
      refine ok_iload (pc := 21) a dX9_odds_21 rfl ?_
      refine ok_iconst (pc := 23) a dX9_odds_23 ?_
      refine ok_bipush (pc := 24) a dX9_odds_24 (by decide) ?_
      refine ok_SPZ (pc := 26) a [(vI x4), (vI 0), (vI 10)] [] (M_X9_in hn tg x4 0 10  hw) dX9_odds_26 lkRX9_81 rfl ⟨Nat.le_of_ble_eq_true rfl, Nat.le_of_ble_eq_true rfl⟩ rfl (Nat.le_of_ble_eq_true rfl) rfl (fun r6 hz7 hw => ?_)
      refine ok_if_eq (pc := 29) a 42 dX9_odds_29 (by decide) (inR_b hz7) (fun hd34 => ?_) (fun hd34 => ?_)
      · have hw := hw.1 hd34
        refine ok_ldc2 (pc := 42) (x := (-1)) a dX9_odds_42 ctRX9_220 (by decide) ?_
        exact ok_lret (pc := 45) a dX9_odds_45 ⟨_, rfl, rfl, hw⟩
      · have hw := hw.2 hd34
        refine ok_iload (pc := 32) a dX9_odds_32 rfl ?_
        refine ok_iconst (pc := 34) a dX9_odds_34 ?_
        refine ok_iconst (pc := 35) a dX9_odds_35 ?_
        refine ok_SPZ (pc := 36) a [(vI x5), (vI 0), (vI 1)] [] (M_X9_in hn tg x5 0 1  hw) dX9_odds_36 lkRX9_81 rfl ⟨Nat.le_of_ble_eq_true rfl, Nat.le_of_ble_eq_true rfl⟩ rfl (Nat.le_of_ble_eq_true rfl) rfl (fun r8 hz9 hw => ?_)
        refine ok_if_ne (pc := 39) a 46 dX9_odds_39 (by decide) (inR_b hz9) (fun hd33 => ?_) (fun hd33 => ?_)
        · have hw := hw.2 hd33
          refine ok_aload_n (pc := 46) a dX9_odds_46 rfl rfl ?_
          refine ok_getR (pc := 47) a dX9_odds_47 lfRX9_28 (Nat.lt_of_lt_of_le (by decide) hn) kq59 rfl (tg.at 59 14 66 (by decide) (by decide)) ?_
          refine ok_iconst (pc := 50) a dX9_odds_50 ?_
          refine ok_iconst (pc := 51) a dX9_odds_51 ?_
          refine ok_iload_n (pc := 52) a dX9_odds_52 rfl rfl ?_
          refine ok_imul (pc := 53) a dX9_odds_53 ?_
          refine ok_iadd (pc := 54) a dX9_odds_54 ?_
          refine ok_iload_n (pc := 55) a dX9_odds_55 rfl rfl ?_
          refine ok_iadd (pc := 56) a dX9_odds_56 ?_
          obtain ⟨hc10, hw⟩ := hw
          refine ok_iald (pc := 57) a dX9_odds_57 (Nat.lt_of_lt_of_le (by decide) hn) kq66 (by decide) hc10 ?_
          refine ok_nmI (fun x6_58 ex6_58 => ?_)
          have hw := hw x6_58 ex6_58
          refine ok_sI (pc := 58) a [some (vR 59), some (vI x1), some (vI x2), some (vI x3), some (vI x4), some (vI x5), some (vI x6_58), none, none, none, none, none, none, none, none, none, none] dX9_odds_58 (by decide) rfl rfl ?_
          refine ok_aload_n (pc := 60) a dX9_odds_60 rfl rfl ?_
          refine ok_iload_n (pc := 61) a dX9_odds_61 rfl rfl ?_
          refine ok_VPI (pc := 62) a [(vI x1)] [] (M_X9_heaviness hn tg x1  hw) dX9_odds_62 lkRX9_150 rfl (Nat.lt_of_lt_of_le (by decide) hn) kq59 (by decide) rfl ⟨Nat.le_of_ble_eq_true rfl, Nat.le_of_ble_eq_true rfl⟩ rfl (Nat.le_of_ble_eq_true rfl) rfl (fun r11 hw => ?_)
          refine ok_aload_n (pc := 65) a dX9_odds_65 rfl rfl ?_
          refine ok_iload_n (pc := 66) a dX9_odds_66 rfl rfl ?_
          refine ok_VPI (pc := 67) a [(vI x2)] [(vI r11)] (M_X9_heaviness hn tg x2  hw) dX9_odds_67 lkRX9_150 rfl (Nat.lt_of_lt_of_le (by decide) hn) kq59 (by decide) rfl ⟨Nat.le_of_ble_eq_true rfl, Nat.le_of_ble_eq_true rfl⟩ rfl (Nat.le_of_ble_eq_true rfl) rfl (fun r12 hw => ?_)
          refine ok_isub (pc := 70) a dX9_odds_70 ?_
          refine ok_nmI (fun x7_71 ex7_71 => ?_)
          have hw := hw x7_71 ex7_71
          refine ok_sI (pc := 71) a [some (vR 59), some (vI x1), some (vI x2), some (vI x3), some (vI x4), some (vI x5), some (vI x6_58), some (vI x7_71), none, none, none, none, none, none, none, none, none] dX9_odds_71 (by decide) rfl rfl ?_
          refine ok_lconst (pc := 73) (x := 0) a dX9_odds_73 (by decide) ?_
          refine ok_sL (pc := 74) a [some (vR 59), some (vI x1), some (vI x2), some (vI x3), some (vI x4), some (vI x5), some (vI x6_58), some (vI x7_71), some (vL 0), none, none, none, none, none, none, none, none] dX9_odds_74 (by decide) rfl rfl ?_
          refine ok_lconst (pc := 76) (x := 1) a dX9_odds_76 (by decide) ?_
          refine ok_sL (pc := 77) a [some (vR 59), some (vI x1), some (vI x2), some (vI x3), some (vI x4), some (vI x5), some (vI x6_58), some (vI x7_71), some (vL 0), none, some (vL 1), none, none, none, none, none, none] dX9_odds_77 (by decide) rfl rfl ?_
          refine ok_iconst (pc := 79) a dX9_odds_79 ?_
          refine ok_sI (pc := 80) a [some (vR 59), some (vI x1), some (vI x2), some (vI x3), some (vI x4), some (vI x5), some (vI x6_58), some (vI x7_71), some (vL 0), none, some (vL 1), none, some (vI 0), none, none, none, none] dX9_odds_80 (by decide) rfl rfl ?_
          refine lp.use (P := fun y => OK Γ p l e (rmd 3 n n) s m args below meth c n (MQ below (QQ Γ n (RL' g Q)) args s (n - n) (sl n - sl n) (AA Γ)) 82 [some (vR 59), some (vI x1), some (vI x2), some (vI x3), some (vI x4), some (vI x5), some (vI x6_58), some (vI x7_71), some (vL 0), none, some (vL y.1), none, some (vI y.2), none, none, none, none] [] n g h1) ?_ (1, 0) hw
          clear hw
          intro X82 hX82 y hw
          obtain ⟨x10_82, x12_82⟩ := y
          have hw : wp_X9_odds_B82 x3 x4 x5 Q h1 x6_58 x7_71 X82 x10_82 x12_82 := hw
          unfold wp_X9_odds_B82 at hw
          try dsimp only
          refine ok_iload (pc := 82) a dX9_odds_82 rfl ?_
          refine ok_iload (pc := 84) a dX9_odds_84 rfl ?_
          obtain ⟨hc13, hw⟩ := hw
          obtain ⟨hc14, hw⟩ := hw
          refine ok_icmp_ge (pc := 86) a 103 dX9_odds_86 (by decide) hc13 hc14 (fun hd32 => ?_) (fun hd32 => ?_)
          · have hw := hw.1 hd32
            refine ok_iconst (pc := 103) a dX9_odds_103 ?_
            refine ok_sI (pc := 104) a [some (vR 59), some (vI x1), some (vI x2), some (vI x3), some (vI x4), some (vI x5), some (vI x6_58), some (vI x7_71), some (vL 0), none, some (vL x10_82), none, some (vI 0), none, none, none, none] dX9_odds_104 (by decide) rfl rfl ?_
            refine lp.use (P := fun y => OK Γ p l e (rmd 3 n n) s m args below meth c n (MQ below (QQ Γ n (RL' g Q)) args s (n - n) (sl n - sl n) (AA Γ)) 106 [some (vR 59), some (vI x1), some (vI x2), some (vI x3), some (vI x4), some (vI x5), some (vI x6_58), some (vI x7_71), some (vL y.1), none, some (vL x10_82), none, some (vI y.2), none, none, none, none] [] n g h1) ?_ (0, 0) hw
            clear hw
            intro X106 hX106 y hw
            obtain ⟨x8_106, x12_106⟩ := y
            have hw : wp_X9_odds_B106 x3 x4 x5 Q h1 x6_58 x7_71 x10_82 X106 x8_106 x12_106 := hw
            unfold wp_X9_odds_B106 at hw
            try dsimp only
            refine ok_iload (pc := 106) a dX9_odds_106 rfl ?_
            refine ok_iconst (pc := 108) a dX9_odds_108 ?_
            refine ok_iload (pc := 109) a dX9_odds_109 rfl ?_
            refine ok_ishl (pc := 111) a dX9_odds_111 ?_
            obtain ⟨hc15, hw⟩ := hw
            obtain ⟨hc16, hw⟩ := hw
            refine ok_icmp_ge (pc := 112) a 209 dX9_odds_112 (by decide) hc15 hc16 (fun hd31 => ?_) (fun hd31 => ?_)
            · have hw := hw.1 hd31
              refine ok_lload (pc := 209) a dX9_odds_209 rfl ?_
              refine ok_lload (pc := 211) a dX9_odds_211 rfl ?_
              refine ok_SPL (pc := 213) a [(vL x8_106), (vL x10_82)] [] (M_X9_gcd hn tg x8_106 x10_82  hw) dX9_odds_213 lkRX9_224 rfl ⟨Nat.le_of_ble_eq_true rfl, Nat.le_of_ble_eq_true rfl⟩ rfl (Nat.le_of_ble_eq_true rfl) rfl (fun r17 hw => ?_)
              refine ok_sL (pc := 216) a [some (vR 59), some (vI x1), some (vI x2), some (vI x3), some (vI x4), some (vI x5), some (vI x6_58), some (vI x7_71), some (vL x8_106), none, some (vL x10_82), none, some (vL r17), none, none, none, none] dX9_odds_216 (by decide) rfl rfl ?_
              refine ok_iload (pc := 218) a dX9_odds_218 rfl ?_
              obtain ⟨hc18, hw⟩ := hw
              refine ok_if_ne (pc := 220) a 231 dX9_odds_220 (by decide) hc18 (fun hd21 => ?_) (fun hd21 => ?_)
              · have hw := hw.2 hd21
                refine ok_lload (pc := 231) a dX9_odds_231 rfl ?_
                refine ok_lload (pc := 233) a dX9_odds_233 rfl ?_
                obtain ⟨hc20, hw⟩ := hw
                refine ok_ldiv (pc := 235) a dX9_odds_235 hc20 ?_
                exact ok_lret (pc := 236) a dX9_odds_236 ⟨_, rfl, rfl, hw⟩
              · have hw := hw.1 hd21
                refine ok_lload (pc := 223) a dX9_odds_223 rfl ?_
                refine ok_lload (pc := 225) a dX9_odds_225 rfl ?_
                obtain ⟨hc19, hw⟩ := hw
                refine ok_ldiv (pc := 227) a dX9_odds_227 hc19 ?_
                refine ok_goto (pc := 228) a 236 dX9_odds_228 (by decide) ?_
                exact ok_lret (pc := 236) a dX9_odds_236 ⟨_, rfl, rfl, hw⟩
            · have hw := hw.2 hd31
              refine ok_lconst (pc := 115) (x := 1) a dX9_odds_115 (by decide) ?_
              refine ok_sL (pc := 116) a [some (vR 59), some (vI x1), some (vI x2), some (vI x3), some (vI x4), some (vI x5), some (vI x6_58), some (vI x7_71), some (vL x8_106), none, some (vL x10_82), none, some (vI x12_106), some (vL 1), none, none, none] dX9_odds_116 (by decide) rfl rfl ?_
              refine ok_iconst (pc := 118) a dX9_odds_118 ?_
              refine ok_sI (pc := 119) a [some (vR 59), some (vI x1), some (vI x2), some (vI x3), some (vI x4), some (vI x5), some (vI x6_58), some (vI x7_71), some (vL x8_106), none, some (vL x10_82), none, some (vI x12_106), some (vL 1), none, some (vI 0), none] dX9_odds_119 (by decide) rfl rfl ?_
              refine ok_iconst (pc := 121) a dX9_odds_121 ?_
              refine ok_sI (pc := 122) a [some (vR 59), some (vI x1), some (vI x2), some (vI x3), some (vI x4), some (vI x5), some (vI x6_58), some (vI x7_71), some (vL x8_106), none, some (vL x10_82), none, some (vI x12_106), some (vL 1), none, some (vI 0), some (vI 0)] dX9_odds_122 (by decide) rfl rfl ?_
              refine lp.use (P := fun y => OK Γ p l e (rmd 3 n n) s m args below meth c n (MQ below (QQ Γ n (RL' g Q)) args s (n - n) (sl n - sl n) (AA Γ)) 124 [some (vR 59), some (vI x1), some (vI x2), some (vI x3), some (vI x4), some (vI x5), some (vI x6_58), some (vI x7_71), some (vL x8_106), none, some (vL x10_82), none, some (vI x12_106), some (vL y.1), none, some (vI y.2.1), some (vI y.2.2)] [] n g h1) ?_ (1, 0, 0) hw
              clear hw
              intro X124 hX124 y hw
              obtain ⟨x13_124, x15_124, x16_124⟩ := y
              have hw : wp_X9_odds_B124 x3 x4 h1 x6_58 x7_71 X106 x8_106 x12_106 X124 x13_124 x15_124 x16_124 := hw
              unfold wp_X9_odds_B124 at hw
              try dsimp only
              refine ok_iload (pc := 124) a dX9_odds_124 rfl ?_
              refine ok_iload (pc := 126) a dX9_odds_126 rfl ?_
              obtain ⟨hc22, hw⟩ := hw
              refine ok_icmp_ge (pc := 128) a 177 dX9_odds_128 (by decide) hc22 hc14 (fun hd30 => ?_) (fun hd30 => ?_)
              · have hw := hw.1 hd30
                refine ok_lload (pc := 177) a dX9_odds_177 rfl ?_
                refine ok_iload (pc := 179) a dX9_odds_179 rfl ?_
                refine ok_iload (pc := 181) a dX9_odds_181 rfl ?_
                refine ok_aload_n (pc := 183) a dX9_odds_183 rfl rfl ?_
                refine ok_getR (pc := 184) a dX9_odds_184 lfRX9_16 (Nat.lt_of_lt_of_le (by decide) hn) kq59 rfl (tg.at 59 10 62 (by decide) (by decide)) ?_
                refine ok_iload_n (pc := 187) a dX9_odds_187 rfl rfl ?_
                obtain ⟨hc23, hw⟩ := hw
                refine ok_iald (pc := 188) a dX9_odds_188 (Nat.lt_of_lt_of_le (by decide) hn) kq62 (by decide) hc23 ?_
                refine ok_imul (pc := 189) a dX9_odds_189 ?_
                refine ok_isub (pc := 190) a dX9_odds_190 ?_
                obtain ⟨hR, hw⟩ := hw
                have hK : OK Γ p l e (rmd 3 n n) s m args below meth c n (MQ below (QQ Γ n (RL' g Q)) args s (n - n) (sl n - sl n) (AA Γ)) 200 [some (vR 59), some (vI x1), some (vI x2), some (vI x3), some (vI x4), some (vI x5), some (vI x6_58), some (vI x7_71), some (vL x8_106), none, some (vL x10_82), none, some (vI x12_106), some (vL x13_124), none, some (vI x15_124), some (vI x16_124)] [(vL (if 0 ≤ (x7_71 - (x15_124 * (h1 62 x3))) then 0 else x13_124 : Int)), (vL x8_106)] n g h1 := by
                  refine ok_ladd (pc := 200) a dX9_odds_200 ?_
                  refine ok_nmL (fun x8_201 ex8_201 => ?_)
                  have hw := hw x8_201 ex8_201
                  refine ok_sL (pc := 201) a [some (vR 59), some (vI x1), some (vI x2), some (vI x3), some (vI x4), some (vI x5), some (vI x6_58), some (vI x7_71), some (vL x8_201), none, some (vL x10_82), none, some (vI x12_106), some (vL x13_124), none, some (vI x15_124), some (vI x16_124)] dX9_odds_201 (by decide) rfl rfl ?_
                  refine ok_inc (pc := 203) a [some (vR 59), some (vI x1), some (vI x2), some (vI x3), some (vI x4), some (vI x5), some (vI x6_58), some (vI x7_71), some (vL x8_201), none, some (vL x10_82), none, some (vI (x12_106 + 1)), some (vL x13_124), none, some (vI x15_124), some (vI x16_124)] dX9_odds_203 rfl (by decide) rfl rfl ?_
                  refine ok_goto (pc := 206) a 106 dX9_odds_206 (by decide) ?_
                  refine ok_forget 13 ?_
                  refine ok_forget 15 ?_
                  refine ok_forget 16 ?_
                  exact hX106 (x8_201, (x12_106 + 1)) hw
                have hw := hR
                obtain ⟨hc24, hw⟩ := hw
                refine ok_if_ge (pc := 191) a 199 dX9_odds_191 (by decide) hc24 (fun hd25 => ?_) (fun hd25 => ?_)
                · refine ok_lconst (pc := 199) (x := 0) a dX9_odds_199 (by decide) ?_
                  simp only [if_pos hd25] at hK
                  exact hK
                · refine ok_lload (pc := 194) a dX9_odds_194 rfl ?_
                  refine ok_goto (pc := 196) a 200 dX9_odds_196 (by decide) ?_
                  simp only [if_neg hd25] at hK
                  exact hK
              · have hw := hw.2 hd30
                refine ok_lload (pc := 131) a dX9_odds_131 rfl ?_
                refine ok_iload (pc := 133) a dX9_odds_133 rfl ?_
                refine ok_iload (pc := 135) a dX9_odds_135 rfl ?_
                refine ok_ishr (pc := 137) a dX9_odds_137 ?_
                refine ok_iconst (pc := 138) a dX9_odds_138 ?_
                refine ok_iand (pc := 139) a dX9_odds_139 ?_
                refine ok_iconst (pc := 140) a dX9_odds_140 ?_
                obtain ⟨hR, hw⟩ := hw
                have hK : OK Γ p l e (rmd 3 n n) s m args below meth c n (MQ below (QQ Γ n (RL' g Q)) args s (n - n) (sl n - sl n) (AA Γ)) 156 [some (vR 59), some (vI x1), some (vI x2), some (vI x3), some (vI x4), some (vI x5), some (vI x6_58), some (vI x7_71), some (vL x8_106), none, some (vL x10_82), none, some (vI x12_106), some (vL x13_124), none, some (vI x15_124), some (vI x16_124)] [(vL (if (band (bshr x12_106 x16_124) 1) = 1 then x4 else (10 - x4) : Int)), (vL x13_124)] n g h1 := by
                  refine ok_lmul (pc := 156) a dX9_odds_156 ?_
                  refine ok_nmL (fun x13_157 ex13_157 => ?_)
                  have hw := hw x13_157 ex13_157
                  refine ok_sL (pc := 157) a [some (vR 59), some (vI x1), some (vI x2), some (vI x3), some (vI x4), some (vI x5), some (vI x6_58), some (vI x7_71), some (vL x8_106), none, some (vL x10_82), none, some (vI x12_106), some (vL x13_157), none, some (vI x15_124), some (vI x16_124)] dX9_odds_157 (by decide) rfl rfl ?_
                  refine ok_iload (pc := 159) a dX9_odds_159 rfl ?_
                  refine ok_iload (pc := 161) a dX9_odds_161 rfl ?_
                  refine ok_iload (pc := 163) a dX9_odds_163 rfl ?_
                  refine ok_ishr (pc := 165) a dX9_odds_165 ?_
                  refine ok_iconst (pc := 166) a dX9_odds_166 ?_
                  refine ok_iand (pc := 167) a dX9_odds_167 ?_
                  refine ok_iadd (pc := 168) a dX9_odds_168 ?_
                  refine ok_nmI (fun x15_169 ex15_169 => ?_)
                  have hw := hw x15_169 ex15_169
                  refine ok_sI (pc := 169) a [some (vR 59), some (vI x1), some (vI x2), some (vI x3), some (vI x4), some (vI x5), some (vI x6_58), some (vI x7_71), some (vL x8_106), none, some (vL x10_82), none, some (vI x12_106), some (vL x13_157), none, some (vI x15_169), some (vI x16_124)] dX9_odds_169 (by decide) rfl rfl ?_
                  refine ok_inc (pc := 171) a [some (vR 59), some (vI x1), some (vI x2), some (vI x3), some (vI x4), some (vI x5), some (vI x6_58), some (vI x7_71), some (vL x8_106), none, some (vL x10_82), none, some (vI x12_106), some (vL x13_157), none, some (vI x15_169), some (vI (x16_124 + 1))] dX9_odds_171 rfl (by decide) rfl rfl ?_
                  refine ok_goto (pc := 174) a 124 dX9_odds_174 (by decide) ?_
                  exact hX124 (x13_157, x15_169, (x16_124 + 1)) hw
                have hw := hR
                obtain ⟨hc26, hw⟩ := hw
                refine ok_icmp_ne (pc := 141) a 150 dX9_odds_141 (by decide) hc26 ⟨by decide, by decide⟩ (fun hd27 => ?_) (fun hd27 => ?_)
                · have hw := hw.2 hd27
                  refine ok_bipush (pc := 150) a dX9_odds_150 (by decide) ?_
                  refine ok_iload (pc := 152) a dX9_odds_152 rfl ?_
                  refine ok_isub (pc := 154) a dX9_odds_154 ?_
                  obtain ⟨hc29, hw⟩ := hw
                  refine ok_i2l (pc := 155) a dX9_odds_155 hc29 ?_
                  simp only [if_neg hd27] at hK
                  exact hK
                · have hw := hw.1 hd27
                  refine ok_iload (pc := 144) a dX9_odds_144 rfl ?_
                  obtain ⟨hc28, hw⟩ := hw
                  refine ok_i2l (pc := 146) a dX9_odds_146 hc28 ?_
                  refine ok_goto (pc := 147) a 156 dX9_odds_147 (by decide) ?_
                  simp only [if_pos hd27] at hK
                  exact hK
          · have hw := hw.2 hd32
            refine ok_lload (pc := 89) a dX9_odds_89 rfl ?_
            refine ok_ldc2 (pc := 91) (x := 10) a dX9_odds_91 ctRX9_222 (by decide) ?_
            refine ok_lmul (pc := 94) a dX9_odds_94 ?_
            refine ok_nmL (fun x10_95 ex10_95 => ?_)
            have hw := hw x10_95 ex10_95
            refine ok_sL (pc := 95) a [some (vR 59), some (vI x1), some (vI x2), some (vI x3), some (vI x4), some (vI x5), some (vI x6_58), some (vI x7_71), some (vL 0), none, some (vL x10_95), none, some (vI x12_82), none, none, none, none] dX9_odds_95 (by decide) rfl rfl ?_
            refine ok_inc (pc := 97) a [some (vR 59), some (vI x1), some (vI x2), some (vI x3), some (vI x4), some (vI x5), some (vI x6_58), some (vI x7_71), some (vL 0), none, some (vL x10_95), none, some (vI (x12_82 + 1)), none, none, none, none] dX9_odds_97 rfl (by decide) rfl rfl ?_
            refine ok_goto (pc := 100) a 82 dX9_odds_100 (by decide) ?_
            exact hX82 (x10_95, (x12_82 + 1)) hw
        · have hw := hw.1 hd33
          refine ok_ldc2 (pc := 42) (x := (-1)) a dX9_odds_42 ctRX9_220 (by decide) ?_
          exact ok_lret (pc := 45) a dX9_odds_45 ⟨_, rfl, rfl, hw⟩

def wp_X9_pieces_J138 (X20 : Int × Int × aH → Prop) (x4_20 : Int) (x2_138 : Int) (h_138 : aH) : Prop :=
  X20 (x2_138, (x4_20 + 1), h_138)
def wp_X9_pieces_B62 (x3_5 : Int) (X20 : Int × Int × aH → Prop) (x2_20 : Int) (x4_20 : Int) (h_20 : aH) (X62 : Int × Int → Prop) (x5_62 : Int) (x6_62 : Int) : Prop :=
  inR x6_62 ∧ ((5 ≤ x6_62 → (inR x5_62 ∧ inR x2_20 ∧ True) ∧ ∀ h14, h14 = up h_20 59 32 (if x2_20 ≤ x5_62 then (h_20 59 32) else x3_5 : Int) → (inR x5_62 ∧ inR x2_20 ∧ True) ∧ ∀ h18, h18 = up h14 59 33 (if x2_20 ≤ x5_62 then (h14 59 33) else x4_20 : Int) → (inR x5_62 ∧ inR x2_20 ∧ True) ∧ ∀ x2_137, x2_137 = (if x2_20 ≤ x5_62 then x2_20 else x5_62 : Int) → wp_X9_pieces_J138 X20 x4_20 x2_137 h18) ∧ (¬ 5 ≤ x6_62 → ∀ x5_80, x5_80 = (x5_62 + (band (bshr (bor x3_5 x4_20) x6_62) 1)) → X62 (x5_80, (x6_62 + 1))))
def wp_X9_pieces_B20 (x1 : Int) (X5 : Int × Int × aH → Prop) (x3_5 : Int) (X20 : Int × Int × aH → Prop) (x2_20 : Int) (x4_20 : Int) (h_20 : aH) : Prop :=
  inR x4_20 ∧ inR (bshl 1 (h_20 61 1)) ∧ (((bshl 1 (h_20 61 1)) ≤ x4_20 → X5 (x2_20, (x3_5 + 1), h_20)) ∧ (¬ (bshl 1 (h_20 61 1)) ≤ x4_20 → inR (band x3_5 x4_20) ∧ (((band x3_5 x4_20) = 0 → wp_X9_sumOf x3_5 h_20 (fun r6 => wp_X9_sumOf x4_20 h_20 (fun r7 => inR (r6 - r7) ∧ inR x1 ∧ (((r6 - r7) = x1 → lp (fun X y => wp_X9_pieces_B62 x3_5 X20 x2_20 x4_20 h_20 X y.1 y.2) (0, 0)) ∧ (¬ (r6 - r7) = x1 → wp_X9_pieces_J138 X20 x4_20 x2_20 h_20))))) ∧ (¬ (band x3_5 x4_20) = 0 → wp_X9_pieces_J138 X20 x4_20 x2_20 h_20))))
def wp_X9_pieces_B5 (x1 : Int) (Q : Int → aH → Prop) (X5 : Int × Int × aH → Prop) (x2_5 : Int) (x3_5 : Int) (h_5 : aH) : Prop :=
  inR x3_5 ∧ inR (bshl 1 (h_5 61 1)) ∧ (((bshl 1 (h_5 61 1)) ≤ x3_5 → Q x2_5 h_5) ∧ (¬ (bshl 1 (h_5 61 1)) ≤ x3_5 → lp (fun X y => wp_X9_pieces_B20 x1 X5 x3_5 X y.1 y.2.1 y.2.2) (x2_5, 0, h_5)))
def wp_X9_pieces (x1 : Int) (h : aH) (Q : Int → aH → Prop) : Prop :=
  lp (fun X y => wp_X9_pieces_B5 x1 Q X y.1 y.2.1 y.2.2) (1000000, 0, h)
set_option maxRecDepth 100000 in
set_option maxHeartbeats 4000000 in
theorem M_X9_pieces {Γ : Gm} {l : Launch} {n : Nat} {g : aG} (hn : 80 ≤ n) (tg : TM g) (x1 : Int)  {h : aH} {Q : Int → aH → Prop} (hw : wp_X9_pieces x1 h Q) : Cl Γ l mX9_pieces [vR 59, vI x1] n g h (RI g Q) := by
  refine Cl.of (by decide) [some (vR 59), some (vI x1), none, none, none, none, none] rfl (Nat.le_of_ble_eq_true rfl) ?_
  intro p e s m args below meth c a
  unfold wp_X9_pieces at hw
  refine ok_ldc (pc := 0) (x := 1000000) a dX9_pieces_0 ctRX9_175 (by decide) ?_
  refine ok_sI_n (pc := 2) a [some (vR 59), some (vI x1), some (vI 1000000), none, none, none, none] dX9_pieces_2 rfl (by decide) rfl rfl ?_
  refine ok_iconst (pc := 3) a dX9_pieces_3 ?_
  refine ok_sI_n (pc := 4) a [some (vR 59), some (vI x1), some (vI 1000000), some (vI 0), none, none, none] dX9_pieces_4 rfl (by decide) rfl rfl ?_
  refine lp.use (P := fun y => OK Γ p l e (rmd 1 n n) s m args below meth c n (MQ below (QQ Γ n (RI g Q)) args s (n - n) (sl n - sl n) (AA Γ)) 5 [some (vR 59), some (vI x1), some (vI y.1), some (vI y.2.1), none, none, none] [] n g y.2.2) ?_ (1000000, 0, h) hw
  clear hw
  intro X5 hX5 y hw
  obtain ⟨x2_5, x3_5, h_5⟩ := y
  have hw : wp_X9_pieces_B5 x1 Q X5 x2_5 x3_5 h_5 := hw
  unfold wp_X9_pieces_B5 at hw
  try dsimp only
  refine ok_iload_n (pc := 5) a dX9_pieces_5 rfl rfl ?_
  refine ok_iconst (pc := 6) a dX9_pieces_6 ?_
  refine ok_aload_n (pc := 7) a dX9_pieces_7 rfl rfl ?_
  refine ok_getR (pc := 8) a dX9_pieces_8 lfRX9_13 (Nat.lt_of_lt_of_le (by decide) hn) kq59 rfl (tg.at 59 9 61 (by decide) (by decide)) ?_
  refine ok_iconst (pc := 11) a dX9_pieces_11 ?_
  refine ok_iald (pc := 12) a dX9_pieces_12 (Nat.lt_of_lt_of_le (by decide) hn) kq61 (by decide) ⟨by decide, by decide⟩ ?_
  refine ok_ishl (pc := 13) a dX9_pieces_13 ?_
  obtain ⟨hc1, hw⟩ := hw
  obtain ⟨hc2, hw⟩ := hw
  refine ok_icmp_ge (pc := 14) a 150 dX9_pieces_14 (by decide) hc1 hc2 (fun hd26 => ?_) (fun hd26 => ?_)
  · have hw := hw.1 hd26
    refine ok_iload_n (pc := 150) a dX9_pieces_150 rfl rfl ?_
    exact ok_iret (pc := 151) a dX9_pieces_151 ⟨_, rfl, rfl, hw⟩
  · have hw := hw.2 hd26
    refine ok_iconst (pc := 17) a dX9_pieces_17 ?_
    refine ok_sI (pc := 18) a [some (vR 59), some (vI x1), some (vI x2_5), some (vI x3_5), some (vI 0), none, none] dX9_pieces_18 (by decide) rfl rfl ?_
    refine lp.use (P := fun y => OK Γ p l e (rmd 1 n n) s m args below meth c n (MQ below (QQ Γ n (RI g Q)) args s (n - n) (sl n - sl n) (AA Γ)) 20 [some (vR 59), some (vI x1), some (vI y.1), some (vI x3_5), some (vI y.2.1), none, none] [] n g y.2.2) ?_ (x2_5, 0, h_5) hw
    clear hw
    intro X20 hX20 y hw
    obtain ⟨x2_20, x4_20, h_20⟩ := y
    have hw : wp_X9_pieces_B20 x1 X5 x3_5 X20 x2_20 x4_20 h_20 := hw
    unfold wp_X9_pieces_B20 at hw
    try dsimp only
    refine ok_iload (pc := 20) a dX9_pieces_20 rfl ?_
    refine ok_iconst (pc := 22) a dX9_pieces_22 ?_
    refine ok_aload_n (pc := 23) a dX9_pieces_23 rfl rfl ?_
    refine ok_getR (pc := 24) a dX9_pieces_24 lfRX9_13 (Nat.lt_of_lt_of_le (by decide) hn) kq59 rfl (tg.at 59 9 61 (by decide) (by decide)) ?_
    refine ok_iconst (pc := 27) a dX9_pieces_27 ?_
    refine ok_iald (pc := 28) a dX9_pieces_28 (Nat.lt_of_lt_of_le (by decide) hn) kq61 (by decide) ⟨by decide, by decide⟩ ?_
    refine ok_ishl (pc := 29) a dX9_pieces_29 ?_
    obtain ⟨hc3, hw⟩ := hw
    obtain ⟨hc4, hw⟩ := hw
    refine ok_icmp_ge (pc := 30) a 144 dX9_pieces_30 (by decide) hc3 hc4 (fun hd25 => ?_) (fun hd25 => ?_)
    · have hw := hw.1 hd25
      refine ok_inc (pc := 144) a [some (vR 59), some (vI x1), some (vI x2_20), some (vI (x3_5 + 1)), some (vI x4_20), none, none] dX9_pieces_144 rfl (by decide) rfl rfl ?_
      refine ok_goto (pc := 147) a 5 dX9_pieces_147 (by decide) ?_
      refine ok_forget 4 ?_
      exact hX5 (x2_20, (x3_5 + 1), h_20) hw
    · have hw := hw.2 hd25
      refine ok_iload_n (pc := 33) a dX9_pieces_33 rfl rfl ?_
      refine ok_iload (pc := 34) a dX9_pieces_34 rfl ?_
      refine ok_iand (pc := 36) a dX9_pieces_36 ?_
      obtain ⟨hc5, hw⟩ := hw
      have hJ138 : ∀ (x2_138 : Int), ∀ (h_138 : aH), wp_X9_pieces_J138 X20 x4_20 x2_138 h_138 → OK Γ p l e (rmd 1 n n) s m args below meth c n (MQ below (QQ Γ n (RI g Q)) args s (n - n) (sl n - sl n) (AA Γ)) 138 [some (vR 59), some (vI x1), some (vI x2_138), some (vI x3_5), some (vI x4_20), none, none] [] n g h_138 := by
        intro x2_138 h_138 hw
        unfold wp_X9_pieces_J138 at hw
        refine ok_inc (pc := 138) a [some (vR 59), some (vI x1), some (vI x2_138), some (vI x3_5), some (vI (x4_20 + 1)), none, none] dX9_pieces_138 rfl (by decide) rfl rfl ?_
        refine ok_goto (pc := 141) a 20 dX9_pieces_141 (by decide) ?_
        exact hX20 (x2_138, (x4_20 + 1), h_138) hw
      refine ok_if_ne (pc := 37) a 138 dX9_pieces_37 (by decide) hc5 (fun hd24 => ?_) (fun hd24 => ?_)
      · have hw := hw.2 hd24
        exact hJ138 x2_20 h_20 hw
      · have hw := hw.1 hd24
        refine ok_aload_n (pc := 40) a dX9_pieces_40 rfl rfl ?_
        refine ok_iload_n (pc := 41) a dX9_pieces_41 rfl rfl ?_
        refine ok_VPI (pc := 42) a [(vI x3_5)] [] (M_X9_sumOf hn tg x3_5  hw) dX9_pieces_42 lkRX9_183 rfl (Nat.lt_of_lt_of_le (by decide) hn) kq59 (by decide) rfl ⟨Nat.le_of_ble_eq_true rfl, Nat.le_of_ble_eq_true rfl⟩ rfl (Nat.le_of_ble_eq_true rfl) rfl (fun r6 hw => ?_)
        refine ok_aload_n (pc := 45) a dX9_pieces_45 rfl rfl ?_
        refine ok_iload (pc := 46) a dX9_pieces_46 rfl ?_
        refine ok_VPI (pc := 48) a [(vI x4_20)] [(vI r6)] (M_X9_sumOf hn tg x4_20  hw) dX9_pieces_48 lkRX9_183 rfl (Nat.lt_of_lt_of_le (by decide) hn) kq59 (by decide) rfl ⟨Nat.le_of_ble_eq_true rfl, Nat.le_of_ble_eq_true rfl⟩ rfl (Nat.le_of_ble_eq_true rfl) rfl (fun r7 hw => ?_)
        refine ok_isub (pc := 51) a dX9_pieces_51 ?_
        refine ok_iload_n (pc := 52) a dX9_pieces_52 rfl rfl ?_
        obtain ⟨hc8, hw⟩ := hw
        obtain ⟨hc9, hw⟩ := hw
        refine ok_icmp_ne (pc := 53) a 138 dX9_pieces_53 (by decide) hc8 hc9 (fun hd23 => ?_) (fun hd23 => ?_)
        · have hw := hw.2 hd23
          exact hJ138 x2_20 h_20 hw
        · have hw := hw.1 hd23
          refine ok_iconst (pc := 56) a dX9_pieces_56 ?_
          refine ok_sI (pc := 57) a [some (vR 59), some (vI x1), some (vI x2_20), some (vI x3_5), some (vI x4_20), some (vI 0), none] dX9_pieces_57 (by decide) rfl rfl ?_
          refine ok_iconst (pc := 59) a dX9_pieces_59 ?_
          refine ok_sI (pc := 60) a [some (vR 59), some (vI x1), some (vI x2_20), some (vI x3_5), some (vI x4_20), some (vI 0), some (vI 0)] dX9_pieces_60 (by decide) rfl rfl ?_
          refine lp.use (P := fun y => OK Γ p l e (rmd 1 n n) s m args below meth c n (MQ below (QQ Γ n (RI g Q)) args s (n - n) (sl n - sl n) (AA Γ)) 62 [some (vR 59), some (vI x1), some (vI x2_20), some (vI x3_5), some (vI x4_20), some (vI y.1), some (vI y.2)] [] n g h_20) ?_ (0, 0) hw
          clear hw
          intro X62 hX62 y hw
          obtain ⟨x5_62, x6_62⟩ := y
          have hw : wp_X9_pieces_B62 x3_5 X20 x2_20 x4_20 h_20 X62 x5_62 x6_62 := hw
          unfold wp_X9_pieces_B62 at hw
          try dsimp only
          refine ok_iload (pc := 62) a dX9_pieces_62 rfl ?_
          refine ok_iconst (pc := 64) a dX9_pieces_64 ?_
          obtain ⟨hc10, hw⟩ := hw
          refine ok_icmp_ge (pc := 65) a 88 dX9_pieces_65 (by decide) hc10 ⟨by decide, by decide⟩ (fun hd22 => ?_) (fun hd22 => ?_)
          · have hw := hw.1 hd22
            refine ok_aload_n (pc := 88) a dX9_pieces_88 rfl rfl ?_
            refine ok_iload (pc := 89) a dX9_pieces_89 rfl ?_
            refine ok_iload_n (pc := 91) a dX9_pieces_91 rfl rfl ?_
            obtain ⟨hR, hw⟩ := hw
            have hK : OK Γ p l e (rmd 1 n n) s m args below meth c n (MQ below (QQ Γ n (RI g Q)) args s (n - n) (sl n - sl n) (AA Γ)) 103 [some (vR 59), some (vI x1), some (vI x2_20), some (vI x3_5), some (vI x4_20), some (vI x5_62), some (vI x6_62)] [(vI (if x2_20 ≤ x5_62 then (h_20 59 32) else x3_5 : Int)), (vR 59)] n g h_20 := by
              refine ok_pI (pc := 103) 32 a dX9_pieces_103 lfRX9_228 fi_9_32 (Nat.lt_of_lt_of_le (by decide) hn) kq59 ty_9_32 rfl (fun h14 eh14 => ?_)
              have hw := hw h14 eh14
              refine ok_aload_n (pc := 106) a dX9_pieces_106 rfl rfl ?_
              refine ok_iload (pc := 107) a dX9_pieces_107 rfl ?_
              refine ok_iload_n (pc := 109) a dX9_pieces_109 rfl rfl ?_
              obtain ⟨hR, hw⟩ := hw
              have hK : OK Γ p l e (rmd 1 n n) s m args below meth c n (MQ below (QQ Γ n (RI g Q)) args s (n - n) (sl n - sl n) (AA Γ)) 122 [some (vR 59), some (vI x1), some (vI x2_20), some (vI x3_5), some (vI x4_20), some (vI x5_62), some (vI x6_62)] [(vI (if x2_20 ≤ x5_62 then (h14 59 33) else x4_20 : Int)), (vR 59)] n g h14 := by
                refine ok_pI (pc := 122) 33 a dX9_pieces_122 lfRX9_231 fi_9_33 (Nat.lt_of_lt_of_le (by decide) hn) kq59 ty_9_33 rfl (fun h18 eh18 => ?_)
                have hw := hw h18 eh18
                refine ok_iload (pc := 125) a dX9_pieces_125 rfl ?_
                refine ok_iload_n (pc := 127) a dX9_pieces_127 rfl rfl ?_
                obtain ⟨hR, hw⟩ := hw
                have hK : OK Γ p l e (rmd 1 n n) s m args below meth c n (MQ below (QQ Γ n (RI g Q)) args s (n - n) (sl n - sl n) (AA Γ)) 137 [some (vR 59), some (vI x1), some (vI x2_20), some (vI x3_5), some (vI x4_20), some (vI x5_62), some (vI x6_62)] [(vI (if x2_20 ≤ x5_62 then x2_20 else x5_62 : Int))] n g h18 := by
                  refine ok_nmI (fun x2_137 ex2_137 => ?_)
                  have hw := hw x2_137 ex2_137
                  refine ok_sI_n (pc := 137) a [some (vR 59), some (vI x1), some (vI x2_137), some (vI x3_5), some (vI x4_20), some (vI x5_62), some (vI x6_62)] dX9_pieces_137 rfl (by decide) rfl rfl ?_
                  refine ok_forget 5 ?_
                  refine ok_forget 6 ?_
                  exact hJ138 x2_137 h18 hw
                have hw := hR
                obtain ⟨hc19, hw⟩ := hw
                obtain ⟨hc20, hw⟩ := hw
                refine ok_icmp_ge (pc := 128) a 136 dX9_pieces_128 (by decide) hc19 hc20 (fun hd21 => ?_) (fun hd21 => ?_)
                · refine ok_iload_n (pc := 136) a dX9_pieces_136 rfl rfl ?_
                  simp only [if_pos hd21] at hK
                  exact hK
                · refine ok_iload (pc := 131) a dX9_pieces_131 rfl ?_
                  refine ok_goto (pc := 133) a 137 dX9_pieces_133 (by decide) ?_
                  simp only [if_neg hd21] at hK
                  exact hK
              have hw := hR
              obtain ⟨hc15, hw⟩ := hw
              obtain ⟨hc16, hw⟩ := hw
              refine ok_icmp_ge (pc := 110) a 118 dX9_pieces_110 (by decide) hc15 hc16 (fun hd17 => ?_) (fun hd17 => ?_)
              · refine ok_aload_n (pc := 118) a dX9_pieces_118 rfl rfl ?_
                refine ok_fI (pc := 119) 33 a dX9_pieces_119 lfRX9_231 (Nat.lt_of_lt_of_le (by decide) hn) kq59 ty_9_33 rfl ?_
                simp only [if_pos hd17] at hK
                exact hK
              · refine ok_iload (pc := 113) a dX9_pieces_113 rfl ?_
                refine ok_goto (pc := 115) a 122 dX9_pieces_115 (by decide) ?_
                simp only [if_neg hd17] at hK
                exact hK
            have hw := hR
            obtain ⟨hc11, hw⟩ := hw
            obtain ⟨hc12, hw⟩ := hw
            refine ok_icmp_ge (pc := 92) a 99 dX9_pieces_92 (by decide) hc11 hc12 (fun hd13 => ?_) (fun hd13 => ?_)
            · refine ok_aload_n (pc := 99) a dX9_pieces_99 rfl rfl ?_
              refine ok_fI (pc := 100) 32 a dX9_pieces_100 lfRX9_228 (Nat.lt_of_lt_of_le (by decide) hn) kq59 ty_9_32 rfl ?_
              simp only [if_pos hd13] at hK
              exact hK
            · refine ok_iload_n (pc := 95) a dX9_pieces_95 rfl rfl ?_
              refine ok_goto (pc := 96) a 103 dX9_pieces_96 (by decide) ?_
              simp only [if_neg hd13] at hK
              exact hK
          · have hw := hw.2 hd22
            refine ok_iload (pc := 68) a dX9_pieces_68 rfl ?_
            refine ok_iload_n (pc := 70) a dX9_pieces_70 rfl rfl ?_
            refine ok_iload (pc := 71) a dX9_pieces_71 rfl ?_
            refine ok_ior (pc := 73) a dX9_pieces_73 ?_
            refine ok_iload (pc := 74) a dX9_pieces_74 rfl ?_
            refine ok_ishr (pc := 76) a dX9_pieces_76 ?_
            refine ok_iconst (pc := 77) a dX9_pieces_77 ?_
            refine ok_iand (pc := 78) a dX9_pieces_78 ?_
            refine ok_iadd (pc := 79) a dX9_pieces_79 ?_
            refine ok_nmI (fun x5_80 ex5_80 => ?_)
            have hw := hw x5_80 ex5_80
            refine ok_sI (pc := 80) a [some (vR 59), some (vI x1), some (vI x2_20), some (vI x3_5), some (vI x4_20), some (vI x5_80), some (vI x6_62)] dX9_pieces_80 (by decide) rfl rfl ?_
            refine ok_inc (pc := 82) a [some (vR 59), some (vI x1), some (vI x2_20), some (vI x3_5), some (vI x4_20), some (vI x5_80), some (vI (x6_62 + 1))] dX9_pieces_82 rfl (by decide) rfl rfl ?_
            refine ok_goto (pc := 85) a 62 dX9_pieces_85 (by decide) ?_
            exact hX62 (x5_80, (x6_62 + 1)) hw

def wp_X9_brass (x1 : Int) (x2 : Int) (h : aH) (Q : Int → aH → Prop) : Prop :=
  ∀ h1, h1 = up h 59 0 0 → wp_X9_in x1 0 300 h1 (fun r2 => ((r2 = 0 → Q (-1) h1) ∧ (¬ r2 = 0 → wp_X9_in x2 0 2 h1 (fun r4 => ((r4 = 0 → Q (-1) h1) ∧ (¬ r4 = 0 → wp_X9_pieces x1 h1 (fun r6 h7 => (inR r6 ∧ ((r6 = 1000000 → True) ∧ (¬ r6 = 1000000 → inR x2 ∧ True))) ∧ Q (if r6 = 1000000 then (-9) else (if x2 = 0 then r6 else (if x2 = 1 then (h7 59 32) else (h7 59 33) : Int) : Int) : Int) h7)))))))
set_option maxRecDepth 100000 in
set_option maxHeartbeats 4000000 in
theorem M_X9_brass {Γ : Gm} {l : Launch} {n : Nat} {g : aG} (hn : 80 ≤ n) (tg : TM g) (x1 : Int) (x2 : Int)  {h : aH} {Q : Int → aH → Prop} (hw : wp_X9_brass x1 x2 h Q) : Cl Γ l mX9_brass [vR 59, vI x1, vI x2] n g h (RI g Q) := by
  refine Cl.of (by decide) [some (vR 59), some (vI x1), some (vI x2), none] rfl (Nat.le_of_ble_eq_true rfl) ?_
  intro p e s m args below meth c a
  unfold wp_X9_brass at hw
  refine ok_aload_n (pc := 0) a dX9_brass_0 rfl rfl ?_
  refine ok_iconst (pc := 1) a dX9_brass_1 ?_
  refine ok_pI (pc := 2) 0 a dX9_brass_2 lfRX9_77 fi_9_0 (Nat.lt_of_lt_of_le (by decide) hn) kq59 ty_9_0 rfl (fun h1 eh1 => ?_)
  have hw := hw h1 eh1
  refine ok_iload_n (pc := 5) a dX9_brass_5 rfl rfl ?_
  refine ok_iconst (pc := 6) a dX9_brass_6 ?_
  refine ok_sipush (pc := 7) a dX9_brass_7 (by decide) ?_
  refine ok_SPZ (pc := 10) a [(vI x1), (vI 0), (vI 300)] [] (M_X9_in hn tg x1 0 300  hw) dX9_brass_10 lkRX9_81 rfl ⟨Nat.le_of_ble_eq_true rfl, Nat.le_of_ble_eq_true rfl⟩ rfl (Nat.le_of_ble_eq_true rfl) rfl (fun r2 hz3 hw => ?_)
  refine ok_if_eq (pc := 13) a 25 dX9_brass_13 (by decide) (inR_b hz3) (fun hd14 => ?_) (fun hd14 => ?_)
  · have hw := hw.1 hd14
    refine ok_iconst (pc := 25) a dX9_brass_25 ?_
    exact ok_iret (pc := 26) a dX9_brass_26 ⟨_, rfl, rfl, hw⟩
  · have hw := hw.2 hd14
    refine ok_iload_n (pc := 16) a dX9_brass_16 rfl rfl ?_
    refine ok_iconst (pc := 17) a dX9_brass_17 ?_
    refine ok_iconst (pc := 18) a dX9_brass_18 ?_
    refine ok_SPZ (pc := 19) a [(vI x2), (vI 0), (vI 2)] [] (M_X9_in hn tg x2 0 2  hw) dX9_brass_19 lkRX9_81 rfl ⟨Nat.le_of_ble_eq_true rfl, Nat.le_of_ble_eq_true rfl⟩ rfl (Nat.le_of_ble_eq_true rfl) rfl (fun r4 hz5 hw => ?_)
    refine ok_if_ne (pc := 22) a 27 dX9_brass_22 (by decide) (inR_b hz5) (fun hd13 => ?_) (fun hd13 => ?_)
    · have hw := hw.2 hd13
      refine ok_aload_n (pc := 27) a dX9_brass_27 rfl rfl ?_
      refine ok_iload_n (pc := 28) a dX9_brass_28 rfl rfl ?_
      refine ok_VRI (pc := 29) a [(vI x1)] [] (M_X9_pieces hn tg x1  hw) dX9_brass_29 lkRX9_234 rfl (Nat.lt_of_lt_of_le (by decide) hn) kq59 (by decide) rfl ⟨Nat.le_of_ble_eq_true rfl, Nat.le_of_ble_eq_true rfl⟩ rfl (Nat.le_of_ble_eq_true rfl) rfl (fun r6 h7 hw => ?_)
      refine ok_sI_n (pc := 32) a [some (vR 59), some (vI x1), some (vI x2), some (vI r6)] dX9_brass_32 rfl (by decide) rfl rfl ?_
      refine ok_iload_n (pc := 33) a dX9_brass_33 rfl rfl ?_
      refine ok_ldc (pc := 34) (x := 1000000) a dX9_brass_34 ctRX9_175 (by decide) ?_
      obtain ⟨hR, hw⟩ := hw
      have hK : OK Γ p l e (rmd 2 n n) s m args below meth c n (MQ below (QQ Γ n (RI g Q)) args s (n - n) (sl n - sl n) (AA Γ)) 68 [some (vR 59), some (vI x1), some (vI x2), some (vI r6)] [(vI (if r6 = 1000000 then (-9) else (if x2 = 0 then r6 else (if x2 = 1 then (h7 59 32) else (h7 59 33) : Int) : Int) : Int))] n g h7 := by
        exact ok_iret (pc := 68) a dX9_brass_68 ⟨_, rfl, rfl, hw⟩
      have hw := hR
      obtain ⟨hc8, hw⟩ := hw
      refine ok_icmp_ne (pc := 36) a 44 dX9_brass_36 (by decide) hc8 ⟨by decide, by decide⟩ (fun hd9 => ?_) (fun hd9 => ?_)
      · have hw := hw.2 hd9
        refine ok_iload_n (pc := 44) a dX9_brass_44 rfl rfl ?_
        obtain ⟨hc10, hw⟩ := hw
        refine ok_if_ne (pc := 45) a 52 dX9_brass_45 (by decide) hc10 (fun hd11 => ?_) (fun hd11 => ?_)
        · refine ok_iload_n (pc := 52) a dX9_brass_52 rfl rfl ?_
          refine ok_iconst (pc := 53) a dX9_brass_53 ?_
          refine ok_icmp_ne (pc := 54) a 64 dX9_brass_54 (by decide) hc10 ⟨by decide, by decide⟩ (fun hd12 => ?_) (fun hd12 => ?_)
          · refine ok_aload_n (pc := 64) a dX9_brass_64 rfl rfl ?_
            refine ok_fI (pc := 65) 33 a dX9_brass_65 lfRX9_231 (Nat.lt_of_lt_of_le (by decide) hn) kq59 ty_9_33 rfl ?_
            simp only [if_neg hd9, if_neg hd11, if_neg hd12] at hK
            exact hK
          · refine ok_aload_n (pc := 57) a dX9_brass_57 rfl rfl ?_
            refine ok_fI (pc := 58) 32 a dX9_brass_58 lfRX9_228 (Nat.lt_of_lt_of_le (by decide) hn) kq59 ty_9_32 rfl ?_
            refine ok_goto (pc := 61) a 68 dX9_brass_61 (by decide) ?_
            simp only [if_neg hd9, if_neg hd11, if_pos hd12] at hK
            exact hK
        · refine ok_iload_n (pc := 48) a dX9_brass_48 rfl rfl ?_
          refine ok_goto (pc := 49) a 68 dX9_brass_49 (by decide) ?_
          simp only [if_neg hd9, if_pos hd11] at hK
          exact hK
      · refine ok_bipush (pc := 39) a dX9_brass_39 (by decide) ?_
        refine ok_goto (pc := 41) a 68 dX9_brass_41 (by decide) ?_
        simp only [if_pos hd9] at hK
        exact hK
    · have hw := hw.1 hd13
      refine ok_iconst (pc := 25) a dX9_brass_25 ?_
      exact ok_iret (pc := 26) a dX9_brass_26 ⟨_, rfl, rfl, hw⟩

def wp_X9_shows (x1 : Int) (x2 : Int) (x3 : Int) (h : aH) (Q : Int → aH → Prop) : Prop :=
  ∀ h1, h1 = up h 59 0 0 → wp_X9_isPerson x1 h1 (fun r2 => ((r2 = 0 → Q (-1) h1) ∧ (¬ r2 = 0 → wp_X9_in x2 0 720 h1 (fun r4 => ((r4 = 0 → Q (-1) h1) ∧ (¬ r4 = 0 → wp_X9_in x3 0 2 h1 (fun r6 => ((r6 = 0 → Q (-1) h1) ∧ (¬ r6 = 0 → inR (h1 59 22) ∧ (((h1 59 22) = 6 → Q (-3) h1) ∧ (¬ (h1 59 22) = 6 → (0 ≤ (h1 59 22) ∧ (h1 59 22) < 6) ∧ ∀ h10, h10 = up h1 70 (h1 59 22) x1 → (0 ≤ (h10 59 22) ∧ (h10 59 22) < 6) ∧ ∀ h12, h12 = up h10 71 (h10 59 22) x2 → (0 ≤ (h12 59 22) ∧ (h12 59 22) < 6) ∧ ∀ h14, h14 = up h12 72 (h12 59 22) x3 → ∀ h15, h15 = up h14 59 22 ((h14 59 22) + 1) → Q (h15 59 22) h15)))))))))))
set_option maxRecDepth 100000 in
set_option maxHeartbeats 4000000 in
theorem M_X9_shows {Γ : Gm} {l : Launch} {n : Nat} {g : aG} (hn : 80 ≤ n) (tg : TM g) (x1 : Int) (x2 : Int) (x3 : Int)  {h : aH} {Q : Int → aH → Prop} (hw : wp_X9_shows x1 x2 x3 h Q) : Cl Γ l mX9_shows [vR 59, vI x1, vI x2, vI x3] n g h (RI g Q) := by
  refine Cl.of (by decide) [some (vR 59), some (vI x1), some (vI x2), some (vI x3)] rfl (Nat.le_of_ble_eq_true rfl) ?_
  intro p e s m args below meth c a
  unfold wp_X9_shows at hw
  refine ok_aload_n (pc := 0) a dX9_shows_0 rfl rfl ?_
  refine ok_iconst (pc := 1) a dX9_shows_1 ?_
  refine ok_pI (pc := 2) 0 a dX9_shows_2 lfRX9_77 fi_9_0 (Nat.lt_of_lt_of_le (by decide) hn) kq59 ty_9_0 rfl (fun h1 eh1 => ?_)
  have hw := hw h1 eh1
  refine ok_aload_n (pc := 5) a dX9_shows_5 rfl rfl ?_
  refine ok_iload_n (pc := 6) a dX9_shows_6 rfl rfl ?_
  refine ok_VPZ (pc := 7) a [(vI x1)] [] (M_X9_isPerson hn tg x1  hw) dX9_shows_7 lkRX9_143 rfl (Nat.lt_of_lt_of_le (by decide) hn) kq59 (by decide) rfl ⟨Nat.le_of_ble_eq_true rfl, Nat.le_of_ble_eq_true rfl⟩ rfl (Nat.le_of_ble_eq_true rfl) rfl (fun r2 hz3 hw => ?_)
  refine ok_if_eq (pc := 10) a 33 dX9_shows_10 (by decide) (inR_b hz3) (fun hd19 => ?_) (fun hd19 => ?_)
  · have hw := hw.1 hd19
    refine ok_iconst (pc := 33) a dX9_shows_33 ?_
    exact ok_iret (pc := 34) a dX9_shows_34 ⟨_, rfl, rfl, hw⟩
  · have hw := hw.2 hd19
    refine ok_iload_n (pc := 13) a dX9_shows_13 rfl rfl ?_
    refine ok_iconst (pc := 14) a dX9_shows_14 ?_
    refine ok_sipush (pc := 15) a dX9_shows_15 (by decide) ?_
    refine ok_SPZ (pc := 18) a [(vI x2), (vI 0), (vI 720)] [] (M_X9_in hn tg x2 0 720  hw) dX9_shows_18 lkRX9_81 rfl ⟨Nat.le_of_ble_eq_true rfl, Nat.le_of_ble_eq_true rfl⟩ rfl (Nat.le_of_ble_eq_true rfl) rfl (fun r4 hz5 hw => ?_)
    refine ok_if_eq (pc := 21) a 33 dX9_shows_21 (by decide) (inR_b hz5) (fun hd18 => ?_) (fun hd18 => ?_)
    · have hw := hw.1 hd18
      refine ok_iconst (pc := 33) a dX9_shows_33 ?_
      exact ok_iret (pc := 34) a dX9_shows_34 ⟨_, rfl, rfl, hw⟩
    · have hw := hw.2 hd18
      refine ok_iload_n (pc := 24) a dX9_shows_24 rfl rfl ?_
      refine ok_iconst (pc := 25) a dX9_shows_25 ?_
      refine ok_iconst (pc := 26) a dX9_shows_26 ?_
      refine ok_SPZ (pc := 27) a [(vI x3), (vI 0), (vI 2)] [] (M_X9_in hn tg x3 0 2  hw) dX9_shows_27 lkRX9_81 rfl ⟨Nat.le_of_ble_eq_true rfl, Nat.le_of_ble_eq_true rfl⟩ rfl (Nat.le_of_ble_eq_true rfl) rfl (fun r6 hz7 hw => ?_)
      refine ok_if_ne (pc := 30) a 35 dX9_shows_30 (by decide) (inR_b hz7) (fun hd17 => ?_) (fun hd17 => ?_)
      · have hw := hw.2 hd17
        refine ok_aload_n (pc := 35) a dX9_shows_35 rfl rfl ?_
        refine ok_fI (pc := 36) 22 a dX9_shows_36 lfRX9_129 (Nat.lt_of_lt_of_le (by decide) hn) kq59 ty_9_22 rfl ?_
        refine ok_bipush (pc := 39) a dX9_shows_39 (by decide) ?_
        obtain ⟨hc8, hw⟩ := hw
        refine ok_icmp_ne (pc := 41) a 47 dX9_shows_41 (by decide) hc8 ⟨by decide, by decide⟩ (fun hd16 => ?_) (fun hd16 => ?_)
        · have hw := hw.2 hd16
          refine ok_aload_n (pc := 47) a dX9_shows_47 rfl rfl ?_
          refine ok_getR (pc := 48) a dX9_shows_48 lfRX9_41 (Nat.lt_of_lt_of_le (by decide) hn) kq59 rfl (tg.at 59 19 70 (by decide) (by decide)) ?_
          refine ok_aload_n (pc := 51) a dX9_shows_51 rfl rfl ?_
          refine ok_fI (pc := 52) 22 a dX9_shows_52 lfRX9_129 (Nat.lt_of_lt_of_le (by decide) hn) kq59 ty_9_22 rfl ?_
          refine ok_iload_n (pc := 55) a dX9_shows_55 rfl rfl ?_
          obtain ⟨hc9, hw⟩ := hw
          refine ok_iast (pc := 56) a dX9_shows_56 (Nat.lt_of_lt_of_le (by decide) hn) kq70 (by decide) hc9 (ok_nmH (fun h10 eh10 => ?_))
          have hw := hw h10 eh10
          refine ok_aload_n (pc := 57) a dX9_shows_57 rfl rfl ?_
          refine ok_getR (pc := 58) a dX9_shows_58 lfRX9_44 (Nat.lt_of_lt_of_le (by decide) hn) kq59 rfl (tg.at 59 20 71 (by decide) (by decide)) ?_
          refine ok_aload_n (pc := 61) a dX9_shows_61 rfl rfl ?_
          refine ok_fI (pc := 62) 22 a dX9_shows_62 lfRX9_129 (Nat.lt_of_lt_of_le (by decide) hn) kq59 ty_9_22 rfl ?_
          refine ok_iload_n (pc := 65) a dX9_shows_65 rfl rfl ?_
          obtain ⟨hc11, hw⟩ := hw
          refine ok_iast (pc := 66) a dX9_shows_66 (Nat.lt_of_lt_of_le (by decide) hn) kq71 (by decide) hc11 (ok_nmH (fun h12 eh12 => ?_))
          have hw := hw h12 eh12
          refine ok_aload_n (pc := 67) a dX9_shows_67 rfl rfl ?_
          refine ok_getR (pc := 68) a dX9_shows_68 lfRX9_47 (Nat.lt_of_lt_of_le (by decide) hn) kq59 rfl (tg.at 59 21 72 (by decide) (by decide)) ?_
          refine ok_aload_n (pc := 71) a dX9_shows_71 rfl rfl ?_
          refine ok_fI (pc := 72) 22 a dX9_shows_72 lfRX9_129 (Nat.lt_of_lt_of_le (by decide) hn) kq59 ty_9_22 rfl ?_
          refine ok_iload_n (pc := 75) a dX9_shows_75 rfl rfl ?_
          obtain ⟨hc13, hw⟩ := hw
          refine ok_iast (pc := 76) a dX9_shows_76 (Nat.lt_of_lt_of_le (by decide) hn) kq72 (by decide) hc13 (ok_nmH (fun h14 eh14 => ?_))
          have hw := hw h14 eh14
          refine ok_aload_n (pc := 77) a dX9_shows_77 rfl rfl ?_
          refine ok_dup (pc := 78) a dX9_shows_78 (by rfl) ?_
          refine ok_fI (pc := 79) 22 a dX9_shows_79 lfRX9_129 (Nat.lt_of_lt_of_le (by decide) hn) kq59 ty_9_22 rfl ?_
          refine ok_iconst (pc := 82) a dX9_shows_82 ?_
          refine ok_iadd (pc := 83) a dX9_shows_83 ?_
          refine ok_pI (pc := 84) 22 a dX9_shows_84 lfRX9_129 fi_9_22 (Nat.lt_of_lt_of_le (by decide) hn) kq59 ty_9_22 rfl (fun h15 eh15 => ?_)
          have hw := hw h15 eh15
          refine ok_aload_n (pc := 87) a dX9_shows_87 rfl rfl ?_
          refine ok_fI (pc := 88) 22 a dX9_shows_88 lfRX9_129 (Nat.lt_of_lt_of_le (by decide) hn) kq59 ty_9_22 rfl ?_
          exact ok_iret (pc := 91) a dX9_shows_91 ⟨_, rfl, rfl, hw⟩
        · have hw := hw.1 hd16
          refine ok_bipush (pc := 44) a dX9_shows_44 (by decide) ?_
          exact ok_iret (pc := 46) a dX9_shows_46 ⟨_, rfl, rfl, hw⟩
      · have hw := hw.1 hd17
        refine ok_iconst (pc := 33) a dX9_shows_33 ?_
        exact ok_iret (pc := 34) a dX9_shows_34 ⟨_, rfl, rfl, hw⟩
