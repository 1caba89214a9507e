set_option maxRecDepth 20000 in
theorem eX9_act {d : Nat} {σ : gw_S} {Q : Option Value → gw_S → Prop} {x1 : Int32} {x2 : Int32} {x3 : Int32} {x4 : Int32}   (h : ((¬ x2 = 0) → (((¬ x2 = 1) → (gG (d + 1) mX9_act 19 [some (.ref 1), some (.int x1), some (.int x2), some (.int x3), some (.int x4), none] [.int 0] σ Q)) ∧ ((x2 = 1) → (gG (d + 1) mX9_act 19 [some (.ref 1), some (.int x1), some (.int x2), some (.int x3), some (.int x4), none] [.int 7] σ Q)))) ∧ ((x2 = 0) → (gG (d + 1) mX9_act 19 [some (.ref 1), some (.int x1), some (.int x2), some (.int x3), some (.int x4), none] [.int 5] σ Q))) : gB (d + 1) mX9_act [.ref 1, .int x1, .int x2, .int x3, .int x4] σ Q := by
  refine gB_of rfl (Nat.le_of_ble_eq_true rfl) (g_lw (lv2 := [some (.ref 1), some (.int x1), some (.int x2), some (.int x3), some (.int x4), none]) ⟨rfl, ⟨rfl, ⟨rfl, ⟨rfl, ⟨rfl, trivial⟩⟩⟩⟩⟩ ?_)
  refine g_iload_n (pc2 := 1) dX9_act_0 rfl rfl ?_
  refine g_if_ne (tgt := 8) (pc2 := 4) dX9_act_1 (by decide) rfl (fun c => ?_) (fun c => ?_)
  · have h := h.1 c
    refine g_iload_n (pc2 := 9) dX9_act_8 rfl rfl ?_
    refine g_iconst (v := 1) (pc2 := 10) dX9_act_9 (by decide) rfl ?_
    refine g_icmp_ne (tgt := 18) (pc2 := 13) dX9_act_10 (by decide) rfl (fun c => ?_) (fun c => ?_)
    · have h := h.1 c
      refine g_iconst (v := 0) (pc2 := 19) dX9_act_18 (by decide) rfl ?_
      exact g_lw (lv2 := [some (.ref 1), some (.int x1), some (.int x2), some (.int x3), some (.int x4), none]) ⟨rfl, ⟨rfl, ⟨rfl, ⟨rfl, ⟨rfl, trivial⟩⟩⟩⟩⟩ h
    · have h := h.2 c
      refine g_bipush (v := 7) (pc2 := 15) dX9_act_13 (by decide) rfl ?_
      refine g_goto (tgt := 19) dX9_act_15 (by decide) ?_
      exact g_lw (lv2 := [some (.ref 1), some (.int x1), some (.int x2), some (.int x3), some (.int x4), none]) ⟨rfl, ⟨rfl, ⟨rfl, ⟨rfl, ⟨rfl, trivial⟩⟩⟩⟩⟩ h
  · have h := h.2 c
    refine g_iconst (v := 5) (pc2 := 5) dX9_act_4 (by decide) rfl ?_
    refine g_goto (tgt := 19) dX9_act_5 (by decide) ?_
    exact g_lw (lv2 := [some (.ref 1), some (.int x1), some (.int x2), some (.int x3), some (.int x4), none]) ⟨rfl, ⟨rfl, ⟨rfl, ⟨rfl, ⟨rfl, trivial⟩⟩⟩⟩⟩ h
set_option maxRecDepth 20000 in
theorem bX9_act_19 {d : Nat} {σ : gw_S} {Q : Option Value → gw_S → Prop} {x1 : Int32} {x2 : Int32} {x3 : Int32} {x4 : Int32} {s0 : Int32}   (h : gB d mX9_isDay [.int x1] σ (fun v σ1 => ∃ r2 : Int32, v = some (.int r2) ∧ (((r2 = 0) → (Q (some (.int (-2))) σ1)) ∧ ((¬ r2 = 0) → (gB d mX9_in [.int x2, .int 0, .int 3] σ1 (fun v σ3 => ∃ r4 : Int32, v = some (.int r4) ∧ (((r4 = 0) → (Q (some (.int (-2))) σ3)) ∧ ((¬ r4 = 0) → (gB d mX9_isEight [.int x3] σ3 (fun v σ5 => ∃ r6 : Int32, v = some (.int r6) ∧ (((r6 = 0) → (Q (some (.int (-2))) σ5)) ∧ ((¬ r6 = 0) → (gB d mX9_in [.int x4, .int 0, .int s0] σ5 (fun v σ7 => ∃ r8 : Int32, v = some (.int r8) ∧ (((¬ r8 = 0) → (((¬ (σ7 1 12) = 16) → (vp_in (σ7 1 12) 16 ∧ (∀ s9 : gw_S, s9 = gw_u σ7 148 (σ7 1 12).toNatClampNeg x1 → (vp_in (s9 1 12) 16 ∧ (∀ s10 : gw_S, s10 = gw_u s9 149 (s9 1 12).toNatClampNeg x2 → (vp_in (s10 1 12) 16 ∧ (∀ s11 : gw_S, s11 = gw_u s10 150 (s10 1 12).toNatClampNeg x3 → (vp_in (s11 1 12) 16 ∧ (∀ s12 : gw_S, s12 = gw_u s11 151 (s11 1 12).toNatClampNeg x4 → (∀ s13 : gw_S, s13 = gw_u s12 1 12 ((s12 1 12) + 1) → (Q (some (.int (s13 1 12))) s13))))))))))) ∧ (((σ7 1 12) = 16) → (Q (some (.int (-4))) σ7)))) ∧ ((r8 = 0) → (Q (some (.int (-2))) σ7))))))))))))))))) : gG (d + 1) mX9_act 19 [some (.ref 1), some (.int x1), some (.int x2), some (.int x3), some (.int x4), none] [.int s0] σ Q := by
  refine g_istore (pc2 := 21) dX9_act_19 (by decide) rfl rfl ?_
  refine g_iload_n (pc2 := 22) dX9_act_21 rfl rfl ?_
  refine g_callS (M2 := mX9_isDay) (as := [.int x1]) (st := []) (pc2 := 25) dX9_act_22 ml_X9_163 msX9_isDay rfl rfl (Nat.le_of_ble_eq_true rfl) (Nat.le_refl _) rfl (h.mono ?_)
  rintro _ σ1 ⟨r2, rfl, h⟩
  show gG (d + 1) mX9_act 25 _ [.int r2] σ1 Q
  refine g_if_eq (tgt := 55) (pc2 := 28) dX9_act_25 (by decide) rfl (fun c => ?_) (fun c => ?_)
  · have h := h.1 c
    refine g_bipush (v := (-2)) (pc2 := 57) dX9_act_55 (by decide) rfl ?_
    exact g_iret dX9_act_57 rfl h
  · have h := h.2 c
    refine g_iload_n (pc2 := 29) dX9_act_28 rfl rfl ?_
    refine g_iconst (v := 0) (pc2 := 30) dX9_act_29 (by decide) rfl ?_
    refine g_iconst (v := 3) (pc2 := 31) dX9_act_30 (by decide) rfl ?_
    refine g_callS (M2 := mX9_in) (as := [.int x2, .int 0, .int 3]) (st := []) (pc2 := 34) dX9_act_31 ml_X9_116 msX9_in rfl rfl (Nat.le_of_ble_eq_true rfl) (Nat.le_refl _) rfl (h.mono ?_)
    rintro _ σ3 ⟨r4, rfl, h⟩
    show gG (d + 1) mX9_act 34 _ [.int r4] σ3 Q
    refine g_if_eq (tgt := 55) (pc2 := 37) dX9_act_34 (by decide) rfl (fun c => ?_) (fun c => ?_)
    · have h := h.1 c
      refine g_bipush (v := (-2)) (pc2 := 57) dX9_act_55 (by decide) rfl ?_
      exact g_iret dX9_act_57 rfl h
    · have h := h.2 c
      refine g_iload_n (pc2 := 38) dX9_act_37 rfl rfl ?_
      refine g_callS (M2 := mX9_isEight) (as := [.int x3]) (st := []) (pc2 := 41) dX9_act_38 ml_X9_157 msX9_isEight rfl rfl (Nat.le_of_ble_eq_true rfl) (Nat.le_refl _) rfl (h.mono ?_)
      rintro _ σ5 ⟨r6, rfl, h⟩
      show gG (d + 1) mX9_act 41 _ [.int r6] σ5 Q
      refine g_if_eq (tgt := 55) (pc2 := 44) dX9_act_41 (by decide) rfl (fun c => ?_) (fun c => ?_)
      · have h := h.1 c
        refine g_bipush (v := (-2)) (pc2 := 57) dX9_act_55 (by decide) rfl ?_
        exact g_iret dX9_act_57 rfl h
      · have h := h.2 c
        refine g_iload (pc2 := 46) dX9_act_44 rfl rfl ?_
        refine g_iconst (v := 0) (pc2 := 47) dX9_act_46 (by decide) rfl ?_
        refine g_iload (pc2 := 49) dX9_act_47 rfl rfl ?_
        refine g_callS (M2 := mX9_in) (as := [.int x4, .int 0, .int s0]) (st := []) (pc2 := 52) dX9_act_49 ml_X9_116 msX9_in rfl rfl (Nat.le_of_ble_eq_true rfl) (Nat.le_refl _) rfl (h.mono ?_)
        rintro _ σ7 ⟨r8, rfl, h⟩
        show gG (d + 1) mX9_act 52 _ [.int r8] σ7 Q
        refine g_if_ne (tgt := 58) (pc2 := 55) dX9_act_52 (by decide) rfl (fun c => ?_) (fun c => ?_)
        · have h := h.1 c
          refine g_aload_n (pc2 := 59) dX9_act_58 rfl rfl ?_
          refine g_geti (pc2 := 62) dX9_act_59 fl_X9_169 gk_1 rfl rfl ?_
          refine g_bipush (v := 16) (pc2 := 64) dX9_act_62 (by decide) rfl ?_
          refine g_icmp_ne (tgt := 70) (pc2 := 67) dX9_act_64 (by decide) rfl (fun c => ?_) (fun c => ?_)
          · have h := h.1 c
            refine g_aload_n (pc2 := 71) dX9_act_70 rfl rfl ?_
            refine g_geta (pc2 := 74) dX9_act_71 fl_X9_34 gk_1 rfl rfl ?_
            refine g_aload_n (pc2 := 75) dX9_act_74 rfl rfl ?_
            refine g_geti (pc2 := 78) dX9_act_75 fl_X9_169 gk_1 rfl rfl ?_
            refine g_iload_n (pc2 := 79) dX9_act_78 rfl rfl ?_
            obtain ⟨hx, h⟩ := h
            refine g_iast2 (pc2 := 80) dX9_act_79 gk_148 hx rfl (fun s9 es9 => ?_)
            replace h := h s9 es9
            refine g_aload_n (pc2 := 81) dX9_act_80 rfl rfl ?_
            refine g_geta (pc2 := 84) dX9_act_81 fl_X9_37 gk_1 rfl rfl ?_
            refine g_aload_n (pc2 := 85) dX9_act_84 rfl rfl ?_
            refine g_geti (pc2 := 88) dX9_act_85 fl_X9_169 gk_1 rfl rfl ?_
            refine g_iload_n (pc2 := 89) dX9_act_88 rfl rfl ?_
            obtain ⟨hx, h⟩ := h
            refine g_iast2 (pc2 := 90) dX9_act_89 gk_149 hx rfl (fun s10 es10 => ?_)
            replace h := h s10 es10
            refine g_aload_n (pc2 := 91) dX9_act_90 rfl rfl ?_
            refine g_geta (pc2 := 94) dX9_act_91 fl_X9_40 gk_1 rfl rfl ?_
            refine g_aload_n (pc2 := 95) dX9_act_94 rfl rfl ?_
            refine g_geti (pc2 := 98) dX9_act_95 fl_X9_169 gk_1 rfl rfl ?_
            refine g_iload_n (pc2 := 99) dX9_act_98 rfl rfl ?_
            obtain ⟨hx, h⟩ := h
            refine g_iast2 (pc2 := 100) dX9_act_99 gk_150 hx rfl (fun s11 es11 => ?_)
            replace h := h s11 es11
            refine g_aload_n (pc2 := 101) dX9_act_100 rfl rfl ?_
            refine g_geta (pc2 := 104) dX9_act_101 fl_X9_43 gk_1 rfl rfl ?_
            refine g_aload_n (pc2 := 105) dX9_act_104 rfl rfl ?_
            refine g_geti (pc2 := 108) dX9_act_105 fl_X9_169 gk_1 rfl rfl ?_
            refine g_iload (pc2 := 110) dX9_act_108 rfl rfl ?_
            obtain ⟨hx, h⟩ := h
            refine g_iast2 (pc2 := 111) dX9_act_110 gk_151 hx rfl (fun s12 es12 => ?_)
            replace h := h s12 es12
            refine g_aload_n (pc2 := 112) dX9_act_111 rfl rfl ?_
            refine g_dup (pc2 := 113) dX9_act_112 rfl rfl ?_
            refine g_geti (pc2 := 116) dX9_act_113 fl_X9_169 gk_1 rfl rfl ?_
            refine g_iconst (v := 1) (pc2 := 117) dX9_act_116 (by decide) rfl ?_
            refine g_iadd (pc2 := 118) dX9_act_117 rfl ?_
            refine g_put2 (pc2 := 121) dX9_act_118 fp_X9_169 gk_1 rfl rfl rfl rfl (fun s13 es13 => ?_)
            replace h := h s13 es13
            refine g_aload_n (pc2 := 122) dX9_act_121 rfl rfl ?_
            refine g_geti (pc2 := 125) dX9_act_122 fl_X9_169 gk_1 rfl rfl ?_
            exact g_iret dX9_act_125 rfl h
          · have h := h.2 c
            refine g_bipush (v := (-4)) (pc2 := 69) dX9_act_67 (by decide) rfl ?_
            exact g_iret dX9_act_69 rfl h
        · have h := h.2 c
          refine g_bipush (v := (-2)) (pc2 := 57) dX9_act_55 (by decide) rfl ?_
          exact g_iret dX9_act_57 rfl h
set_option maxRecDepth 20000 in
theorem eX9_allIn {d : Nat} {σ : gw_S} {Q : Option Value → gw_S → Prop} {x1 : Int32}   (h : gG d mX9_allIn 4 [some (.ref 1), some (.int x1), some (.int 0), some (.int 0)] [] σ Q) : gB d mX9_allIn [.ref 1, .int x1] σ Q := by
  refine gB_of rfl (Nat.le_of_ble_eq_true rfl) (g_lw (lv2 := [some (.ref 1), some (.int x1), none, none]) ⟨rfl, ⟨rfl, trivial⟩⟩ ?_)
  refine g_iconst (v := 0) (pc2 := 1) dX9_allIn_0 (by decide) rfl ?_
  refine g_istore_n (pc2 := 2) dX9_allIn_1 (by decide) rfl rfl ?_
  refine g_iconst (v := 0) (pc2 := 3) dX9_allIn_2 (by decide) rfl ?_
  refine g_istore_n (pc2 := 4) dX9_allIn_3 (by decide) rfl rfl ?_
  exact g_lw (lv2 := [some (.ref 1), some (.int x1), some (.int 0), some (.int 0)]) ⟨rfl, ⟨rfl, ⟨rfl, ⟨rfl, trivial⟩⟩⟩⟩ h
set_option maxRecDepth 20000 in
theorem bX9_allIn_4 {d : Nat} {σ : gw_S} {Q : Option Value → gw_S → Prop} {x1 : Int32} {x2 : Int32} {x3 : Int32}   (h : ((8 ≤ x3) → (Q (some (.int x2)) σ)) ∧ ((¬ 8 ≤ x3) → (vp_in ((8 * x1) + x3) 64 ∧ (gG d mX9_allIn 4 [some (.ref 1), some (.int x1), some (.int (x2 + (σ 155 ((8 * x1) + x3).toNatClampNeg))), some (.int (x3 + 1))] [] σ Q)))) : gG d mX9_allIn 4 [some (.ref 1), some (.int x1), some (.int x2), some (.int x3)] [] σ Q := by
  refine g_iload_n (pc2 := 5) dX9_allIn_4 rfl rfl ?_
  refine g_bipush (v := 8) (pc2 := 7) dX9_allIn_5 (by decide) rfl ?_
  refine g_icmp_ge (tgt := 30) (pc2 := 10) dX9_allIn_7 (by decide) rfl (fun c => ?_) (fun c => ?_)
  · have h := h.1 c
    refine g_iload_n (pc2 := 31) dX9_allIn_30 rfl rfl ?_
    exact g_iret dX9_allIn_31 rfl h
  · have h := h.2 c
    refine g_iload_n (pc2 := 11) dX9_allIn_10 rfl rfl ?_
    refine g_aload_n (pc2 := 12) dX9_allIn_11 rfl rfl ?_
    refine g_geta (pc2 := 15) dX9_allIn_12 fl_X9_55 gk_1 rfl rfl ?_
    refine g_bipush (v := 8) (pc2 := 17) dX9_allIn_15 (by decide) rfl ?_
    refine g_iload_n (pc2 := 18) dX9_allIn_17 rfl rfl ?_
    refine g_imul (pc2 := 19) dX9_allIn_18 rfl ?_
    refine g_iload_n (pc2 := 20) dX9_allIn_19 rfl rfl ?_
    refine g_iadd (pc2 := 21) dX9_allIn_20 rfl ?_
    obtain ⟨hx, h⟩ := h
    refine g_iald (pc2 := 22) dX9_allIn_21 gk_155 hx rfl ?_
    refine g_iadd (pc2 := 23) dX9_allIn_22 rfl ?_
    refine g_istore_n (pc2 := 24) dX9_allIn_23 (by decide) rfl rfl ?_
    refine g_iinc2 (c := 1) (pc2 := 27) dX9_allIn_24 rfl (by decide) (by decide) rfl rfl ?_
    refine g_goto (tgt := 4) dX9_allIn_27 (by decide) ?_
    exact g_lw (lv2 := [some (.ref 1), some (.int x1), some (.int (x2 + (σ 155 ((8 * x1) + x3).toNatClampNeg))), some (.int (x3 + 1))]) ⟨rfl, ⟨rfl, ⟨rfl, ⟨rfl, trivial⟩⟩⟩⟩ h
set_option maxRecDepth 20000 in
theorem eX9_as {d : Nat} {σ : gw_S} {Q : Option Value → gw_S → Prop} {x1 : Int32}   (h : ((¬ x1 = (σ 1 33)) → (((¬ x1 = (σ 1 34)) → (Q (some (.int x1)) σ)) ∧ ((x1 = (σ 1 34)) → (Q (some (.int (σ 1 33))) σ)))) ∧ ((x1 = (σ 1 33)) → (Q (some (.int (σ 1 34))) σ))) : gB d mX9_as [.ref 1, .int x1] σ Q := by
  refine gB_of rfl (Nat.le_of_ble_eq_true rfl) (g_lw (lv2 := [some (.ref 1), some (.int x1)]) ⟨rfl, ⟨rfl, trivial⟩⟩ ?_)
  refine g_iload_n (pc2 := 1) dX9_as_0 rfl rfl ?_
  refine g_aload_n (pc2 := 2) dX9_as_1 rfl rfl ?_
  refine g_geti (pc2 := 5) dX9_as_2 fl_X9_185 gk_1 rfl rfl ?_
  refine g_icmp_ne (tgt := 15) (pc2 := 8) dX9_as_5 (by decide) rfl (fun c => ?_) (fun c => ?_)
  · have h := h.1 c
    refine g_iload_n (pc2 := 16) dX9_as_15 rfl rfl ?_
    refine g_aload_n (pc2 := 17) dX9_as_16 rfl rfl ?_
    refine g_geti (pc2 := 20) dX9_as_17 fl_X9_188 gk_1 rfl rfl ?_
    refine g_icmp_ne (tgt := 30) (pc2 := 23) dX9_as_20 (by decide) rfl (fun c => ?_) (fun c => ?_)
    · have h := h.1 c
      refine g_iload_n (pc2 := 31) dX9_as_30 rfl rfl ?_
      exact g_iret dX9_as_31 rfl h
    · have h := h.2 c
      refine g_aload_n (pc2 := 24) dX9_as_23 rfl rfl ?_
      refine g_geti (pc2 := 27) dX9_as_24 fl_X9_185 gk_1 rfl rfl ?_
      refine g_goto (tgt := 31) dX9_as_27 (by decide) ?_
      exact g_iret dX9_as_31 rfl h
  · have h := h.2 c
    refine g_aload_n (pc2 := 9) dX9_as_8 rfl rfl ?_
    refine g_geti (pc2 := 12) dX9_as_9 fl_X9_188 gk_1 rfl rfl ?_
    refine g_goto (tgt := 31) dX9_as_12 (by decide) ?_
    exact g_iret dX9_as_31 rfl h
set_option maxRecDepth 20000 in
theorem eX9_asTold {d : Nat} {σ : gw_S} {Q : Option Value → gw_S → Prop}    (h : gB d mX9_reads [.ref 1] σ (fun v σ1 => v = none ∧ (∀ s2 : gw_S, s2 = gw_u σ1 1 32 (-1) → (∀ s3 : gw_S, s3 = gw_u s2 1 33 (-1) → (∀ s4 : gw_S, s4 = gw_u s3 1 34 (-1) → (∀ s5 : gw_S, s5 = gw_u s4 1 17 0 → (∀ s6 : gw_S, s6 = gw_u s5 1 19 0 → (gG (d + 1) mX9_asTold 31 [some (.ref 1), some (.int 0)] [] s6 Q)))))))) : gB (d + 1) mX9_asTold [.ref 1] σ Q := by
  refine gB_of rfl (Nat.le_of_ble_eq_true rfl) (g_lw (lv2 := [some (.ref 1), none]) ⟨rfl, trivial⟩ ?_)
  refine g_aload_n (pc2 := 1) dX9_asTold_0 rfl rfl ?_
  refine g_callV (M2 := mX9_reads) (as := []) (st := []) (pc2 := 4) dX9_asTold_1 ml_X9_148 mvX9_reads gk_1 rfl rfl rfl (Nat.le_of_ble_eq_true rfl) (Nat.le_refl _) rfl (h.mono ?_)
  rintro _ σ1 ⟨rfl, h⟩
  show gG (d + 1) mX9_asTold 4 _ [] σ1 Q
  refine g_aload_n (pc2 := 5) dX9_asTold_4 rfl rfl ?_
  refine g_iconst (v := (-1)) (pc2 := 6) dX9_asTold_5 (by decide) rfl ?_
  refine g_put2 (pc2 := 9) dX9_asTold_6 fp_X9_182 gk_1 rfl rfl rfl rfl (fun s2 es2 => ?_)
  replace h := h s2 es2
  refine g_aload_n (pc2 := 10) dX9_asTold_9 rfl rfl ?_
  refine g_iconst (v := (-1)) (pc2 := 11) dX9_asTold_10 (by decide) rfl ?_
  refine g_put2 (pc2 := 14) dX9_asTold_11 fp_X9_185 gk_1 rfl rfl rfl rfl (fun s3 es3 => ?_)
  replace h := h s3 es3
  refine g_aload_n (pc2 := 15) dX9_asTold_14 rfl rfl ?_
  refine g_iconst (v := (-1)) (pc2 := 16) dX9_asTold_15 (by decide) rfl ?_
  refine g_put2 (pc2 := 19) dX9_asTold_16 fp_X9_188 gk_1 rfl rfl rfl rfl (fun s4 es4 => ?_)
  replace h := h s4 es4
  refine g_aload_n (pc2 := 20) dX9_asTold_19 rfl rfl ?_
  refine g_iconst (v := 0) (pc2 := 21) dX9_asTold_20 (by decide) rfl ?_
  refine g_put2 (pc2 := 24) dX9_asTold_21 fp_X9_191 gk_1 rfl rfl rfl rfl (fun s5 es5 => ?_)
  replace h := h s5 es5
  refine g_aload_n (pc2 := 25) dX9_asTold_24 rfl rfl ?_
  refine g_iconst (v := 0) (pc2 := 26) dX9_asTold_25 (by decide) rfl ?_
  refine g_put2 (pc2 := 29) dX9_asTold_26 fp_X9_194 gk_1 rfl rfl rfl rfl (fun s6 es6 => ?_)
  replace h := h s6 es6
  refine g_iconst (v := 0) (pc2 := 30) dX9_asTold_29 (by decide) rfl ?_
  refine g_istore_n (pc2 := 31) dX9_asTold_30 (by decide) rfl rfl ?_
  exact g_lw (lv2 := [some (.ref 1), some (.int 0)]) ⟨rfl, ⟨rfl, trivial⟩⟩ h
set_option maxRecDepth 20000 in
theorem bX9_asTold_31 {d : Nat} {σ : gw_S} {Q : Option Value → gw_S → Prop} {x1 : Int32}   (h : ((40 ≤ x1) → (gG (d + 1) mX9_asTold 52 [some (.ref 1), some (.int 0)] [] σ Q)) ∧ ((¬ 40 ≤ x1) → (vp_in x1 40 ∧ (∀ s7 : gw_S, s7 = gw_u σ 159 x1.toNatClampNeg (vp_nar .boolean 0) → (gG (d + 1) mX9_asTold 31 [some (.ref 1), some (.int (x1 + 1))] [] s7 Q))))) : gG (d + 1) mX9_asTold 31 [some (.ref 1), some (.int x1)] [] σ Q := by
  refine g_iload_n (pc2 := 32) dX9_asTold_31 rfl rfl ?_
  refine g_bipush (v := 40) (pc2 := 34) dX9_asTold_32 (by decide) rfl ?_
  refine g_icmp_ge (tgt := 50) (pc2 := 37) dX9_asTold_34 (by decide) rfl (fun c => ?_) (fun c => ?_)
  · have h := h.1 c
    refine g_iconst (v := 0) (pc2 := 51) dX9_asTold_50 (by decide) rfl ?_
    refine g_istore_n (pc2 := 52) dX9_asTold_51 (by decide) rfl rfl ?_
    exact g_lw (lv2 := [some (.ref 1), some (.int 0)]) ⟨rfl, ⟨rfl, trivial⟩⟩ h
  · have h := h.2 c
    refine g_aload_n (pc2 := 38) dX9_asTold_37 rfl rfl ?_
    refine g_geta (pc2 := 41) dX9_asTold_38 fl_X9_68 gk_1 rfl rfl ?_
    refine g_iload_n (pc2 := 42) dX9_asTold_41 rfl rfl ?_
    refine g_iconst (v := 0) (pc2 := 43) dX9_asTold_42 (by decide) rfl ?_
    obtain ⟨hx, h⟩ := h
    refine g_zast2 (pc2 := 44) dX9_asTold_43 gk_159 hx rfl (fun s7 es7 => ?_)
    replace h := h s7 es7
    refine g_iinc2 (c := 1) (pc2 := 47) dX9_asTold_44 rfl (by decide) (by decide) rfl rfl ?_
    refine g_goto (tgt := 31) dX9_asTold_47 (by decide) ?_
    exact g_lw (lv2 := [some (.ref 1), some (.int (x1 + 1))]) ⟨rfl, ⟨rfl, trivial⟩⟩ h
set_option maxRecDepth 20000 in
theorem bX9_asTold_52 {d : Nat} {σ : gw_S} {Q : Option Value → gw_S → Prop} {x1 : Int32}   (h : (((σ 1 10) ≤ x1) → (Q none σ)) ∧ ((¬ (σ 1 10) ≤ x1) → (vp_in x1 8 ∧ (vp_in (σ 147 x1.toNatClampNeg) 40 ∧ (∀ s8 : gw_S, s8 = gw_u σ 159 (σ 147 x1.toNatClampNeg).toNatClampNeg (vp_nar .boolean 1) → (gG (d + 1) mX9_asTold 52 [some (.ref 1), some (.int (x1 + 1))] [] s8 Q)))))) : gG (d + 1) mX9_asTold 52 [some (.ref 1), some (.int x1)] [] σ Q := by
  refine g_iload_n (pc2 := 53) dX9_asTold_52 rfl rfl ?_
  refine g_aload_n (pc2 := 54) dX9_asTold_53 rfl rfl ?_
  refine g_geti (pc2 := 57) dX9_asTold_54 fl_X9_166 gk_1 rfl rfl ?_
  refine g_icmp_ge (tgt := 78) (pc2 := 60) dX9_asTold_57 (by decide) rfl (fun c => ?_) (fun c => ?_)
  · have h := h.1 c
    exact g_vret dX9_asTold_78 rfl h
  · have h := h.2 c
    refine g_aload_n (pc2 := 61) dX9_asTold_60 rfl rfl ?_
    refine g_geta (pc2 := 64) dX9_asTold_61 fl_X9_68 gk_1 rfl rfl ?_
    refine g_aload_n (pc2 := 65) dX9_asTold_64 rfl rfl ?_
    refine g_geta (pc2 := 68) dX9_asTold_65 fl_X9_31 gk_1 rfl rfl ?_
    refine g_iload_n (pc2 := 69) dX9_asTold_68 rfl rfl ?_
    obtain ⟨hx, h⟩ := h
    refine g_iald (pc2 := 70) dX9_asTold_69 gk_147 hx rfl ?_
    refine g_iconst (v := 1) (pc2 := 71) dX9_asTold_70 (by decide) rfl ?_
    obtain ⟨hx, h⟩ := h
    refine g_zast2 (pc2 := 72) dX9_asTold_71 gk_159 hx rfl (fun s8 es8 => ?_)
    replace h := h s8 es8
    refine g_iinc2 (c := 1) (pc2 := 75) dX9_asTold_72 rfl (by decide) (by decide) rfl rfl ?_
    refine g_goto (tgt := 52) dX9_asTold_75 (by decide) ?_
    exact g_lw (lv2 := [some (.ref 1), some (.int (x1 + 1))]) ⟨rfl, ⟨rfl, trivial⟩⟩ h
set_option maxRecDepth 20000 in
theorem eX9_back {d : Nat} {σ : gw_S} {Q : Option Value → gw_S → Prop} {x1 : Int32}   (h : gB d mX9_in [.int x1, .int 0, .int 1] σ (fun v σ1 => ∃ r2 : Int32, v = some (.int r2) ∧ (((¬ r2 = 0) → (((¬ x1 = 0) → (gG (d + 1) mX9_back 27 [some (.ref 1), some (.int x1), none] [.int (σ1 1 10)] σ1 Q)) ∧ ((x1 = 0) → (gG (d + 1) mX9_back 27 [some (.ref 1), some (.int x1), none] [.int (σ1 1 12)] σ1 Q)))) ∧ ((r2 = 0) → (Q (some (.int (-2))) σ1))))) : gB (d + 1) mX9_back [.ref 1, .int x1] σ Q := by
  refine gB_of rfl (Nat.le_of_ble_eq_true rfl) (g_lw (lv2 := [some (.ref 1), some (.int x1), none]) ⟨rfl, ⟨rfl, trivial⟩⟩ ?_)
  refine g_iload_n (pc2 := 1) dX9_back_0 rfl rfl ?_
  refine g_iconst (v := 0) (pc2 := 2) dX9_back_1 (by decide) rfl ?_
  refine g_iconst (v := 1) (pc2 := 3) dX9_back_2 (by decide) rfl ?_
  refine g_callS (M2 := mX9_in) (as := [.int x1, .int 0, .int 1]) (st := []) (pc2 := 6) dX9_back_3 ml_X9_116 msX9_in rfl rfl (Nat.le_of_ble_eq_true rfl) (Nat.le_refl _) rfl (h.mono ?_)
  rintro _ σ1 ⟨r2, rfl, h⟩
  show gG (d + 1) mX9_back 6 _ [.int r2] σ1 Q
  refine g_if_ne (tgt := 12) (pc2 := 9) dX9_back_6 (by decide) rfl (fun c => ?_) (fun c => ?_)
  · have h := h.1 c
    refine g_iload_n (pc2 := 13) dX9_back_12 rfl rfl ?_
    refine g_if_ne (tgt := 23) (pc2 := 16) dX9_back_13 (by decide) rfl (fun c => ?_) (fun c => ?_)
    · have h := h.1 c
      refine g_aload_n (pc2 := 24) dX9_back_23 rfl rfl ?_
      refine g_geti (pc2 := 27) dX9_back_24 fl_X9_166 gk_1 rfl rfl ?_
      exact g_lw (lv2 := [some (.ref 1), some (.int x1), none]) ⟨rfl, ⟨rfl, trivial⟩⟩ h
    · have h := h.2 c
      refine g_aload_n (pc2 := 17) dX9_back_16 rfl rfl ?_
      refine g_geti (pc2 := 20) dX9_back_17 fl_X9_169 gk_1 rfl rfl ?_
      refine g_goto (tgt := 27) dX9_back_20 (by decide) ?_
      exact g_lw (lv2 := [some (.ref 1), some (.int x1), none]) ⟨rfl, ⟨rfl, trivial⟩⟩ h
  · have h := h.2 c
    refine g_bipush (v := (-2)) (pc2 := 11) dX9_back_9 (by decide) rfl ?_
    exact g_iret dX9_back_11 rfl h
set_option maxRecDepth 20000 in
theorem bX9_back_27 {d : Nat} {σ : gw_S} {Q : Option Value → gw_S → Prop} {x1 : Int32} {s0 : Int32}   (h : ((¬ s0 = 0) → (((¬ x1 = 0) → (∀ s3 : gw_S, s3 = gw_u σ 1 12 ((σ 1 12) - 0) → (((¬ x1 = 1) → (∀ s4 : gw_S, s4 = gw_u s3 1 10 ((s3 1 10) - 0) → (Q (some (.int (s0 - 1))) s4))) ∧ ((x1 = 1) → (∀ s5 : gw_S, s5 = gw_u s3 1 10 ((s3 1 10) - 1) → (Q (some (.int (s0 - 1))) s5)))))) ∧ ((x1 = 0) → (∀ s6 : gw_S, s6 = gw_u σ 1 12 ((σ 1 12) - 1) → (((¬ x1 = 1) → (∀ s7 : gw_S, s7 = gw_u s6 1 10 ((s6 1 10) - 0) → (Q (some (.int (s0 - 1))) s7))) ∧ ((x1 = 1) → (∀ s8 : gw_S, s8 = gw_u s6 1 10 ((s6 1 10) - 1) → (Q (some (.int (s0 - 1))) s8)))))))) ∧ ((s0 = 0) → (Q (some (.int (-3))) σ))) : gG (d + 1) mX9_back 27 [some (.ref 1), some (.int x1), none] [.int s0] σ Q := by
  refine g_istore_n (pc2 := 28) dX9_back_27 (by decide) rfl rfl ?_
  refine g_iload_n (pc2 := 29) dX9_back_28 rfl rfl ?_
  refine g_if_ne (tgt := 35) (pc2 := 32) dX9_back_29 (by decide) rfl (fun c => ?_) (fun c => ?_)
  · have h := h.1 c
    refine g_aload_n (pc2 := 36) dX9_back_35 rfl rfl ?_
    refine g_dup (pc2 := 37) dX9_back_36 rfl rfl ?_
    refine g_geti (pc2 := 40) dX9_back_37 fl_X9_169 gk_1 rfl rfl ?_
    refine g_iload_n (pc2 := 41) dX9_back_40 rfl rfl ?_
    refine g_if_ne (tgt := 48) (pc2 := 44) dX9_back_41 (by decide) rfl (fun c => ?_) (fun c => ?_)
    · have h := h.1 c
      refine g_iconst (v := 0) (pc2 := 49) dX9_back_48 (by decide) rfl ?_
      refine g_isub (pc2 := 50) dX9_back_49 rfl ?_
      refine g_put2 (pc2 := 53) dX9_back_50 fp_X9_169 gk_1 rfl rfl rfl rfl (fun s3 es3 => ?_)
      replace h := h s3 es3
      refine g_aload_n (pc2 := 54) dX9_back_53 rfl rfl ?_
      refine g_dup (pc2 := 55) dX9_back_54 rfl rfl ?_
      refine g_geti (pc2 := 58) dX9_back_55 fl_X9_166 gk_1 rfl rfl ?_
      refine g_iload_n (pc2 := 59) dX9_back_58 rfl rfl ?_
      refine g_iconst (v := 1) (pc2 := 60) dX9_back_59 (by decide) rfl ?_
      refine g_icmp_ne (tgt := 67) (pc2 := 63) dX9_back_60 (by decide) rfl (fun c => ?_) (fun c => ?_)
      · have h := h.1 c
        refine g_iconst (v := 0) (pc2 := 68) dX9_back_67 (by decide) rfl ?_
        refine g_isub (pc2 := 69) dX9_back_68 rfl ?_
        refine g_put2 (pc2 := 72) dX9_back_69 fp_X9_166 gk_1 rfl rfl rfl rfl (fun s4 es4 => ?_)
        replace h := h s4 es4
        refine g_iload_n (pc2 := 73) dX9_back_72 rfl rfl ?_
        refine g_iconst (v := 1) (pc2 := 74) dX9_back_73 (by decide) rfl ?_
        refine g_isub (pc2 := 75) dX9_back_74 rfl ?_
        exact g_iret dX9_back_75 rfl h
      · have h := h.2 c
        refine g_iconst (v := 1) (pc2 := 64) dX9_back_63 (by decide) rfl ?_
        refine g_goto (tgt := 68) dX9_back_64 (by decide) ?_
        refine g_isub (pc2 := 69) dX9_back_68 rfl ?_
        refine g_put2 (pc2 := 72) dX9_back_69 fp_X9_166 gk_1 rfl rfl rfl rfl (fun s5 es5 => ?_)
        replace h := h s5 es5
        refine g_iload_n (pc2 := 73) dX9_back_72 rfl rfl ?_
        refine g_iconst (v := 1) (pc2 := 74) dX9_back_73 (by decide) rfl ?_
        refine g_isub (pc2 := 75) dX9_back_74 rfl ?_
        exact g_iret dX9_back_75 rfl h
    · have h := h.2 c
      refine g_iconst (v := 1) (pc2 := 45) dX9_back_44 (by decide) rfl ?_
      refine g_goto (tgt := 49) dX9_back_45 (by decide) ?_
      refine g_isub (pc2 := 50) dX9_back_49 rfl ?_
      refine g_put2 (pc2 := 53) dX9_back_50 fp_X9_169 gk_1 rfl rfl rfl rfl (fun s6 es6 => ?_)
      replace h := h s6 es6
      refine g_aload_n (pc2 := 54) dX9_back_53 rfl rfl ?_
      refine g_dup (pc2 := 55) dX9_back_54 rfl rfl ?_
      refine g_geti (pc2 := 58) dX9_back_55 fl_X9_166 gk_1 rfl rfl ?_
      refine g_iload_n (pc2 := 59) dX9_back_58 rfl rfl ?_
      refine g_iconst (v := 1) (pc2 := 60) dX9_back_59 (by decide) rfl ?_
      refine g_icmp_ne (tgt := 67) (pc2 := 63) dX9_back_60 (by decide) rfl (fun c => ?_) (fun c => ?_)
      · have h := h.1 c
        refine g_iconst (v := 0) (pc2 := 68) dX9_back_67 (by decide) rfl ?_
        refine g_isub (pc2 := 69) dX9_back_68 rfl ?_
        refine g_put2 (pc2 := 72) dX9_back_69 fp_X9_166 gk_1 rfl rfl rfl rfl (fun s7 es7 => ?_)
        replace h := h s7 es7
        refine g_iload_n (pc2 := 73) dX9_back_72 rfl rfl ?_
        refine g_iconst (v := 1) (pc2 := 74) dX9_back_73 (by decide) rfl ?_
        refine g_isub (pc2 := 75) dX9_back_74 rfl ?_
        exact g_iret dX9_back_75 rfl h
      · have h := h.2 c
        refine g_iconst (v := 1) (pc2 := 64) dX9_back_63 (by decide) rfl ?_
        refine g_goto (tgt := 68) dX9_back_64 (by decide) ?_
        refine g_isub (pc2 := 69) dX9_back_68 rfl ?_
        refine g_put2 (pc2 := 72) dX9_back_69 fp_X9_166 gk_1 rfl rfl rfl rfl (fun s8 es8 => ?_)
        replace h := h s8 es8
        refine g_iload_n (pc2 := 73) dX9_back_72 rfl rfl ?_
        refine g_iconst (v := 1) (pc2 := 74) dX9_back_73 (by decide) rfl ?_
        refine g_isub (pc2 := 75) dX9_back_74 rfl ?_
        exact g_iret dX9_back_75 rfl h
  · have h := h.2 c
    refine g_bipush (v := (-3)) (pc2 := 34) dX9_back_32 (by decide) rfl ?_
    exact g_iret dX9_back_34 rfl h
set_option maxRecDepth 20000 in
theorem eX9_begins {d : Nat} {σ : gw_S} {Q : Option Value → gw_S → Prop}    (h : ∀ s1 : gw_S, s1 = gw_u σ 1 30 0 → (∀ s2 : gw_S, s2 = gw_u s1 1 31 0 → (gG (d + 1) mX9_begins 12 [some (.ref 1), some (.int 0)] [] s2 Q))) : gB (d + 1) mX9_begins [.ref 1] σ Q := by
  refine gB_of rfl (Nat.le_of_ble_eq_true rfl) (g_lw (lv2 := [some (.ref 1), none]) ⟨rfl, trivial⟩ ?_)
  refine g_aload_n (pc2 := 1) dX9_begins_0 rfl rfl ?_
  refine g_iconst (v := 0) (pc2 := 2) dX9_begins_1 (by decide) rfl ?_
  refine g_put2 (pc2 := 5) dX9_begins_2 fp_X9_197 gk_1 rfl rfl rfl rfl (fun s1 es1 => ?_)
  replace h := h s1 es1
  refine g_aload_n (pc2 := 6) dX9_begins_5 rfl rfl ?_
  refine g_iconst (v := 0) (pc2 := 7) dX9_begins_6 (by decide) rfl ?_
  refine g_put2 (pc2 := 10) dX9_begins_7 fp_X9_200 gk_1 rfl rfl rfl rfl (fun s2 es2 => ?_)
  replace h := h s2 es2
  refine g_iconst (v := 0) (pc2 := 11) dX9_begins_10 (by decide) rfl ?_
  refine g_istore_n (pc2 := 12) dX9_begins_11 (by decide) rfl rfl ?_
  exact g_lw (lv2 := [some (.ref 1), some (.int 0)]) ⟨rfl, ⟨rfl, trivial⟩⟩ h
set_option maxRecDepth 20000 in
theorem bX9_begins_12 {d : Nat} {σ : gw_S} {Q : Option Value → gw_S → Prop} {x1 : Int32}   (h : ((64 ≤ x1) → (gG (d + 1) mX9_begins 33 [some (.ref 1), some (.int 0)] [] σ Q)) ∧ ((¬ 64 ≤ x1) → (vp_in x1 64 ∧ (∀ s3 : gw_S, s3 = gw_u σ 155 x1.toNatClampNeg 0 → (gG (d + 1) mX9_begins 12 [some (.ref 1), some (.int (x1 + 1))] [] s3 Q))))) : gG (d + 1) mX9_begins 12 [some (.ref 1), some (.int x1)] [] σ Q := by
  refine g_iload_n (pc2 := 13) dX9_begins_12 rfl rfl ?_
  refine g_bipush (v := 64) (pc2 := 15) dX9_begins_13 (by decide) rfl ?_
  refine g_icmp_ge (tgt := 31) (pc2 := 18) dX9_begins_15 (by decide) rfl (fun c => ?_) (fun c => ?_)
  · have h := h.1 c
    refine g_iconst (v := 0) (pc2 := 32) dX9_begins_31 (by decide) rfl ?_
    refine g_istore_n (pc2 := 33) dX9_begins_32 (by decide) rfl rfl ?_
    exact g_lw (lv2 := [some (.ref 1), some (.int 0)]) ⟨rfl, ⟨rfl, trivial⟩⟩ h
  · have h := h.2 c
    refine g_aload_n (pc2 := 19) dX9_begins_18 rfl rfl ?_
    refine g_geta (pc2 := 22) dX9_begins_19 fl_X9_55 gk_1 rfl rfl ?_
    refine g_iload_n (pc2 := 23) dX9_begins_22 rfl rfl ?_
    refine g_iconst (v := 0) (pc2 := 24) dX9_begins_23 (by decide) rfl ?_
    obtain ⟨hx, h⟩ := h
    refine g_iast2 (pc2 := 25) dX9_begins_24 gk_155 hx rfl (fun s3 es3 => ?_)
    replace h := h s3 es3
    refine g_iinc2 (c := 1) (pc2 := 28) dX9_begins_25 rfl (by decide) (by decide) rfl rfl ?_
    refine g_goto (tgt := 12) dX9_begins_28 (by decide) ?_
    exact g_lw (lv2 := [some (.ref 1), some (.int (x1 + 1))]) ⟨rfl, ⟨rfl, trivial⟩⟩ h
set_option maxRecDepth 20000 in
theorem bX9_begins_33 {d : Nat} {σ : gw_S} {Q : Option Value → gw_S → Prop} {x1 : Int32}   (h : ((8 ≤ x1) → (gG (d + 1) mX9_begins 115 [some (.ref 1), some (.int 0)] [] σ Q)) ∧ ((¬ 8 ≤ x1) → (vp_in x1 8 ∧ (∀ s4 : gw_S, s4 = gw_u σ 156 x1.toNatClampNeg 0 → ((((s4 1 2) ≤ x1) → (gG (d + 1) mX9_begins 64 [some (.ref 1), some (.int x1)] [.int 0, .int x1, .ref 158] s4 Q)) ∧ ((¬ (s4 1 2) ≤ x1) → (gG (d + 1) mX9_begins 64 [some (.ref 1), some (.int x1)] [.int 1, .int x1, .ref 158] s4 Q))))))) : gG (d + 1) mX9_begins 33 [some (.ref 1), some (.int x1)] [] σ Q := by
  refine g_iload_n (pc2 := 34) dX9_begins_33 rfl rfl ?_
  refine g_bipush (v := 8) (pc2 := 36) dX9_begins_34 (by decide) rfl ?_
  refine g_icmp_ge (tgt := 113) (pc2 := 39) dX9_begins_36 (by decide) rfl (fun c => ?_) (fun c => ?_)
  · have h := h.1 c
    refine g_iconst (v := 0) (pc2 := 114) dX9_begins_113 (by decide) rfl ?_
    refine g_istore_n (pc2 := 115) dX9_begins_114 (by decide) rfl rfl ?_
    exact g_lw (lv2 := [some (.ref 1), some (.int 0)]) ⟨rfl, ⟨rfl, trivial⟩⟩ h
  · have h := h.2 c
    refine g_aload_n (pc2 := 40) dX9_begins_39 rfl rfl ?_
    refine g_geta (pc2 := 43) dX9_begins_40 fl_X9_58 gk_1 rfl rfl ?_
    refine g_iload_n (pc2 := 44) dX9_begins_43 rfl rfl ?_
    refine g_iconst (v := 0) (pc2 := 45) dX9_begins_44 (by decide) rfl ?_
    obtain ⟨hx, h⟩ := h
    refine g_iast2 (pc2 := 46) dX9_begins_45 gk_156 hx rfl (fun s4 es4 => ?_)
    replace h := h s4 es4
    refine g_aload_n (pc2 := 47) dX9_begins_46 rfl rfl ?_
    refine g_geta (pc2 := 50) dX9_begins_47 fl_X9_64 gk_1 rfl rfl ?_
    refine g_iload_n (pc2 := 51) dX9_begins_50 rfl rfl ?_
    refine g_iload_n (pc2 := 52) dX9_begins_51 rfl rfl ?_
    refine g_aload_n (pc2 := 53) dX9_begins_52 rfl rfl ?_
    refine g_geti (pc2 := 56) dX9_begins_53 fl_X9_128 gk_1 rfl rfl ?_
    refine g_icmp_ge (tgt := 63) (pc2 := 59) dX9_begins_56 (by decide) rfl (fun c => ?_) (fun c => ?_)
    · have h := h.1 c
      refine g_iconst (v := 0) (pc2 := 64) dX9_begins_63 (by decide) rfl ?_
      exact g_lw (lv2 := [some (.ref 1), some (.int x1)]) ⟨rfl, ⟨rfl, trivial⟩⟩ h
    · have h := h.2 c
      refine g_iconst (v := 1) (pc2 := 60) dX9_begins_59 (by decide) rfl ?_
      refine g_goto (tgt := 64) dX9_begins_60 (by decide) ?_
      exact g_lw (lv2 := [some (.ref 1), some (.int x1)]) ⟨rfl, ⟨rfl, trivial⟩⟩ h
set_option maxRecDepth 20000 in
theorem bX9_begins_115 {d : Nat} {σ : gw_S} {Q : Option Value → gw_S → Prop} {x1 : Int32}   (h : (((σ 1 2) ≤ x1) → (gG (d + 1) mX9_begins 161 [some (.ref 1), some (.int 0)] [] σ Q)) ∧ ((¬ (σ 1 2) ≤ x1) → (gB d mX9_as [.ref 1, .int x1] σ (fun v σ5 => ∃ r6 : Int32, v = some (.int r6) ∧ (vp_in r6 9 ∧ (gB d mX9_as [.ref 1, .int x1] σ5 (fun v σ7 => ∃ r8 : Int32, v = some (.int r8) ∧ (vp_in r8 9 ∧ (vp_in ((8 * x1) + (σ5 142 r6.toNatClampNeg)) 64 ∧ (∀ s9 : gw_S, s9 = gw_u σ7 155 ((8 * x1) + (σ5 142 r6.toNatClampNeg)).toNatClampNeg (σ7 143 r8.toNatClampNeg) → (gG (d + 1) mX9_begins 115 [some (.ref 1), some (.int (x1 + 1))] [] s9 Q))))))))))) : gG (d + 1) mX9_begins 115 [some (.ref 1), some (.int x1)] [] σ Q := by
  refine g_iload_n (pc2 := 116) dX9_begins_115 rfl rfl ?_
  refine g_aload_n (pc2 := 117) dX9_begins_116 rfl rfl ?_
  refine g_geti (pc2 := 120) dX9_begins_117 fl_X9_128 gk_1 rfl rfl ?_
  refine g_icmp_ge (tgt := 159) (pc2 := 123) dX9_begins_120 (by decide) rfl (fun c => ?_) (fun c => ?_)
  · have h := h.1 c
    refine g_iconst (v := 0) (pc2 := 160) dX9_begins_159 (by decide) rfl ?_
    refine g_istore_n (pc2 := 161) dX9_begins_160 (by decide) rfl rfl ?_
    exact g_lw (lv2 := [some (.ref 1), some (.int 0)]) ⟨rfl, ⟨rfl, trivial⟩⟩ h
  · have h := h.2 c
    refine g_aload_n (pc2 := 124) dX9_begins_123 rfl rfl ?_
    refine g_geta (pc2 := 127) dX9_begins_124 fl_X9_55 gk_1 rfl rfl ?_
    refine g_bipush (v := 8) (pc2 := 129) dX9_begins_127 (by decide) rfl ?_
    refine g_iload_n (pc2 := 130) dX9_begins_129 rfl rfl ?_
    refine g_imul (pc2 := 131) dX9_begins_130 rfl ?_
    refine g_aload_n (pc2 := 132) dX9_begins_131 rfl rfl ?_
    refine g_geta (pc2 := 135) dX9_begins_132 fl_X9_16 gk_1 rfl rfl ?_
    refine g_aload_n (pc2 := 136) dX9_begins_135 rfl rfl ?_
    refine g_iload_n (pc2 := 137) dX9_begins_136 rfl rfl ?_
    refine g_callV (M2 := mX9_as) (as := [.int x1]) (st := [.ref 142, .int (8 * x1), .ref 155]) (pc2 := 140) dX9_begins_137 ml_X9_203 mvX9_as gk_1 rfl rfl rfl (Nat.le_of_ble_eq_true rfl) (Nat.le_refl _) rfl (h.mono ?_)
    rintro _ σ5 ⟨r6, rfl, h⟩
    show gG (d + 1) mX9_begins 140 _ [.int r6, .ref 142, .int (8 * x1), .ref 155] σ5 Q
    obtain ⟨hx, h⟩ := h
    refine g_iald (pc2 := 141) dX9_begins_140 gk_142 hx rfl ?_
    refine g_iadd (pc2 := 142) dX9_begins_141 rfl ?_
    refine g_aload_n (pc2 := 143) dX9_begins_142 rfl rfl ?_
    refine g_geta (pc2 := 146) dX9_begins_143 fl_X9_19 gk_1 rfl rfl ?_
    refine g_aload_n (pc2 := 147) dX9_begins_146 rfl rfl ?_
    refine g_iload_n (pc2 := 148) dX9_begins_147 rfl rfl ?_
    refine g_callV (M2 := mX9_as) (as := [.int x1]) (st := [.ref 143, .int ((8 * x1) + (σ5 142 r6.toNatClampNeg)), .ref 155]) (pc2 := 151) dX9_begins_148 ml_X9_203 mvX9_as gk_1 rfl rfl rfl (Nat.le_of_ble_eq_true rfl) (Nat.le_refl _) rfl (h.mono ?_)
    rintro _ σ7 ⟨r8, rfl, h⟩
    show gG (d + 1) mX9_begins 151 _ [.int r8, .ref 143, .int ((8 * x1) + (σ5 142 r6.toNatClampNeg)), .ref 155] σ7 Q
    obtain ⟨hx, h⟩ := h
    refine g_iald (pc2 := 152) dX9_begins_151 gk_143 hx rfl ?_
    obtain ⟨hx, h⟩ := h
    refine g_iast2 (pc2 := 153) dX9_begins_152 gk_155 hx rfl (fun s9 es9 => ?_)
    replace h := h s9 es9
    refine g_iinc2 (c := 1) (pc2 := 156) dX9_begins_153 rfl (by decide) (by decide) rfl rfl ?_
    refine g_goto (tgt := 115) dX9_begins_156 (by decide) ?_
    exact g_lw (lv2 := [some (.ref 1), some (.int (x1 + 1))]) ⟨rfl, ⟨rfl, trivial⟩⟩ h
set_option maxRecDepth 20000 in
theorem bX9_begins_64 {d : Nat} {σ : gw_S} {Q : Option Value → gw_S → Prop} {x1 : Int32} {s0 : Int32} {s1 : Int32}   (h : vp_in s1 8 ∧ (∀ s10 : gw_S, s10 = gw_u σ 158 s1.toNatClampNeg (vp_nar .boolean s0) → ((((s10 1 2) ≤ x1) → (vp_in x1 8 ∧ (∀ s11 : gw_S, s11 = gw_u s10 157 x1.toNatClampNeg 0 → (vp_in x1 8 ∧ (∀ s12 : gw_S, s12 = gw_u s11 161 x1.toNatClampNeg 0 → (vp_in x1 8 ∧ (∀ s13 : gw_S, s13 = gw_u s12 162 x1.toNatClampNeg 0 → (gG (d + 1) mX9_begins 33 [some (.ref 1), some (.int (x1 + 1))] [] s13 Q)))))))) ∧ ((¬ (s10 1 2) ≤ x1) → (gB d mX9_as [.ref 1, .int x1] s10 (fun v σ14 => ∃ r15 : Int32, v = some (.int r15) ∧ (vp_in r15 9 ∧ (vp_in x1 8 ∧ (∀ s16 : gw_S, s16 = gw_u σ14 157 x1.toNatClampNeg (σ14 144 r15.toNatClampNeg) → (vp_in x1 8 ∧ (∀ s17 : gw_S, s17 = gw_u s16 161 x1.toNatClampNeg 0 → (vp_in x1 8 ∧ (∀ s18 : gw_S, s18 = gw_u s17 162 x1.toNatClampNeg 0 → (gG (d + 1) mX9_begins 33 [some (.ref 1), some (.int (x1 + 1))] [] s18 Q)))))))))))))) : gG (d + 1) mX9_begins 64 [some (.ref 1), some (.int x1)] [.int s0, .int s1, .ref 158] σ Q := by
  obtain ⟨hx, h⟩ := h
  refine g_zast2 (pc2 := 65) dX9_begins_64 gk_158 hx rfl (fun s10 es10 => ?_)
  replace h := h s10 es10
  refine g_aload_n (pc2 := 66) dX9_begins_65 rfl rfl ?_
  refine g_geta (pc2 := 69) dX9_begins_66 fl_X9_61 gk_1 rfl rfl ?_
  refine g_iload_n (pc2 := 70) dX9_begins_69 rfl rfl ?_
  refine g_iload_n (pc2 := 71) dX9_begins_70 rfl rfl ?_
  refine g_aload_n (pc2 := 72) dX9_begins_71 rfl rfl ?_
  refine g_geti (pc2 := 75) dX9_begins_72 fl_X9_128 gk_1 rfl rfl ?_
  refine g_icmp_ge (tgt := 91) (pc2 := 78) dX9_begins_75 (by decide) rfl (fun c => ?_) (fun c => ?_)
  · have h := h.1 c
    refine g_iconst (v := 0) (pc2 := 92) dX9_begins_91 (by decide) rfl ?_
    obtain ⟨hx, h⟩ := h
    refine g_iast2 (pc2 := 93) dX9_begins_92 gk_157 hx rfl (fun s11 es11 => ?_)
    replace h := h s11 es11
    refine g_aload_n (pc2 := 94) dX9_begins_93 rfl rfl ?_
    refine g_geta (pc2 := 97) dX9_begins_94 fl_X9_74 gk_1 rfl rfl ?_
    refine g_iload_n (pc2 := 98) dX9_begins_97 rfl rfl ?_
    refine g_iconst (v := 0) (pc2 := 99) dX9_begins_98 (by decide) rfl ?_
    obtain ⟨hx, h⟩ := h
    refine g_iast2 (pc2 := 100) dX9_begins_99 gk_161 hx rfl (fun s12 es12 => ?_)
    replace h := h s12 es12
    refine g_aload_n (pc2 := 101) dX9_begins_100 rfl rfl ?_
    refine g_geta (pc2 := 104) dX9_begins_101 fl_X9_77 gk_1 rfl rfl ?_
    refine g_iload_n (pc2 := 105) dX9_begins_104 rfl rfl ?_
    refine g_iconst (v := 0) (pc2 := 106) dX9_begins_105 (by decide) rfl ?_
    obtain ⟨hx, h⟩ := h
    refine g_iast2 (pc2 := 107) dX9_begins_106 gk_162 hx rfl (fun s13 es13 => ?_)
    replace h := h s13 es13
    refine g_iinc2 (c := 1) (pc2 := 110) dX9_begins_107 rfl (by decide) (by decide) rfl rfl ?_
    refine g_goto (tgt := 33) dX9_begins_110 (by decide) ?_
    exact g_lw (lv2 := [some (.ref 1), some (.int (x1 + 1))]) ⟨rfl, ⟨rfl, trivial⟩⟩ h
  · have h := h.2 c
    refine g_aload_n (pc2 := 79) dX9_begins_78 rfl rfl ?_
    refine g_geta (pc2 := 82) dX9_begins_79 fl_X9_22 gk_1 rfl rfl ?_
    refine g_aload_n (pc2 := 83) dX9_begins_82 rfl rfl ?_
    refine g_iload_n (pc2 := 84) dX9_begins_83 rfl rfl ?_
    refine g_callV (M2 := mX9_as) (as := [.int x1]) (st := [.ref 144, .int x1, .ref 157]) (pc2 := 87) dX9_begins_84 ml_X9_203 mvX9_as gk_1 rfl rfl rfl (Nat.le_of_ble_eq_true rfl) (Nat.le_refl _) rfl (h.mono ?_)
    rintro _ σ14 ⟨r15, rfl, h⟩
    show gG (d + 1) mX9_begins 87 _ [.int r15, .ref 144, .int x1, .ref 157] σ14 Q
    obtain ⟨hx, h⟩ := h
    refine g_iald (pc2 := 88) dX9_begins_87 gk_144 hx rfl ?_
    refine g_goto (tgt := 92) dX9_begins_88 (by decide) ?_
    obtain ⟨hx, h⟩ := h
    refine g_iast2 (pc2 := 93) dX9_begins_92 gk_157 hx rfl (fun s16 es16 => ?_)
    replace h := h s16 es16
    refine g_aload_n (pc2 := 94) dX9_begins_93 rfl rfl ?_
    refine g_geta (pc2 := 97) dX9_begins_94 fl_X9_74 gk_1 rfl rfl ?_
    refine g_iload_n (pc2 := 98) dX9_begins_97 rfl rfl ?_
    refine g_iconst (v := 0) (pc2 := 99) dX9_begins_98 (by decide) rfl ?_
    obtain ⟨hx, h⟩ := h
    refine g_iast2 (pc2 := 100) dX9_begins_99 gk_161 hx rfl (fun s17 es17 => ?_)
    replace h := h s17 es17
    refine g_aload_n (pc2 := 101) dX9_begins_100 rfl rfl ?_
    refine g_geta (pc2 := 104) dX9_begins_101 fl_X9_77 gk_1 rfl rfl ?_
    refine g_iload_n (pc2 := 105) dX9_begins_104 rfl rfl ?_
    refine g_iconst (v := 0) (pc2 := 106) dX9_begins_105 (by decide) rfl ?_
    obtain ⟨hx, h⟩ := h
    refine g_iast2 (pc2 := 107) dX9_begins_106 gk_162 hx rfl (fun s18 es18 => ?_)
    replace h := h s18 es18
    refine g_iinc2 (c := 1) (pc2 := 110) dX9_begins_107 rfl (by decide) (by decide) rfl rfl ?_
    refine g_goto (tgt := 33) dX9_begins_110 (by decide) ?_
    exact g_lw (lv2 := [some (.ref 1), some (.int (x1 + 1))]) ⟨rfl, ⟨rfl, trivial⟩⟩ h
set_option maxRecDepth 20000 in
theorem bX9_begins_161 {d : Nat} {σ : gw_S} {Q : Option Value → gw_S → Prop} {x1 : Int32}   (h : ((16 ≤ x1) → (Q none σ)) ∧ ((¬ 16 ≤ x1) → (vp_in x1 16 ∧ (∀ s19 : gw_S, s19 = gw_u σ 160 x1.toNatClampNeg (vp_nar .boolean 0) → (gG (d + 1) mX9_begins 161 [some (.ref 1), some (.int (x1 + 1))] [] s19 Q))))) : gG (d + 1) mX9_begins 161 [some (.ref 1), some (.int x1)] [] σ Q := by
  refine g_iload_n (pc2 := 162) dX9_begins_161 rfl rfl ?_
  refine g_bipush (v := 16) (pc2 := 164) dX9_begins_162 (by decide) rfl ?_
  refine g_icmp_ge (tgt := 180) (pc2 := 167) dX9_begins_164 (by decide) rfl (fun c => ?_) (fun c => ?_)
  · have h := h.1 c
    exact g_vret dX9_begins_180 rfl h
  · have h := h.2 c
    refine g_aload_n (pc2 := 168) dX9_begins_167 rfl rfl ?_
    refine g_geta (pc2 := 171) dX9_begins_168 fl_X9_71 gk_1 rfl rfl ?_
    refine g_iload_n (pc2 := 172) dX9_begins_171 rfl rfl ?_
    refine g_iconst (v := 0) (pc2 := 173) dX9_begins_172 (by decide) rfl ?_
    obtain ⟨hx, h⟩ := h
    refine g_zast2 (pc2 := 174) dX9_begins_173 gk_160 hx rfl (fun s19 es19 => ?_)
    replace h := h s19 es19
    refine g_iinc2 (c := 1) (pc2 := 177) dX9_begins_174 rfl (by decide) (by decide) rfl rfl ?_
    refine g_goto (tgt := 161) dX9_begins_177 (by decide) ?_
    exact g_lw (lv2 := [some (.ref 1), some (.int (x1 + 1))]) ⟨rfl, ⟨rfl, trivial⟩⟩ h
set_option maxRecDepth 20000 in
theorem eX9_bottle {d : Nat} {σ : gw_S} {Q : Option Value → gw_S → Prop} {x1 : Int32} {x2 : Int32}   (h : gB d mX9_isBottle [.ref 1, .int x1] σ (fun v σ1 => ∃ r2 : Int32, v = some (.int r2) ∧ (((r2 = 0) → (Q (some (.int (-2))) σ1)) ∧ ((¬ r2 = 0) → (gB d mX9_in [.int x2, .int 0, .int 3] σ1 (fun v σ3 => ∃ r4 : Int32, v = some (.int r4) ∧ (((r4 = 0) → (Q (some (.int (-2))) σ3)) ∧ ((¬ r4 = 0) → (gB d mX9_bottleOf [.ref 1, .int x1, .int x2] σ3 (fun v σ5 => ∃ r6 : Int32, v = some (.int r6) ∧ (Q (some (.int r6)) σ5))))))))))) : gB (d + 1) mX9_bottle [.ref 1, .int x1, .int x2] σ Q := by
  refine gB_of rfl (Nat.le_of_ble_eq_true rfl) (g_lw (lv2 := [some (.ref 1), some (.int x1), some (.int x2)]) ⟨rfl, ⟨rfl, ⟨rfl, trivial⟩⟩⟩ ?_)
  refine g_aload_n (pc2 := 1) dX9_bottle_0 rfl rfl ?_
  refine g_iload_n (pc2 := 2) dX9_bottle_1 rfl rfl ?_
  refine g_callV (M2 := mX9_isBottle) (as := [.int x1]) (st := []) (pc2 := 5) dX9_bottle_2 ml_X9_151 mvX9_isBottle gk_1 rfl rfl rfl (Nat.le_of_ble_eq_true rfl) (Nat.le_refl _) rfl (h.mono ?_)
  rintro _ σ1 ⟨r2, rfl, h⟩
  show gG (d + 1) mX9_bottle 5 _ [.int r2] σ1 Q
  refine g_if_eq (tgt := 26) (pc2 := 8) dX9_bottle_5 (by decide) rfl (fun c => ?_) (fun c => ?_)
  · have h := h.1 c
    refine g_bipush (v := (-2)) (pc2 := 28) dX9_bottle_26 (by decide) rfl ?_
    exact g_iret dX9_bottle_28 rfl h
  · have h := h.2 c
    refine g_iload_n (pc2 := 9) dX9_bottle_8 rfl rfl ?_
    refine g_iconst (v := 0) (pc2 := 10) dX9_bottle_9 (by decide) rfl ?_
    refine g_iconst (v := 3) (pc2 := 11) dX9_bottle_10 (by decide) rfl ?_
    refine g_callS (M2 := mX9_in) (as := [.int x2, .int 0, .int 3]) (st := []) (pc2 := 14) dX9_bottle_11 ml_X9_116 msX9_in rfl rfl (Nat.le_of_ble_eq_true rfl) (Nat.le_refl _) rfl (h.mono ?_)
    rintro _ σ3 ⟨r4, rfl, h⟩
    show gG (d + 1) mX9_bottle 14 _ [.int r4] σ3 Q
    refine g_if_eq (tgt := 26) (pc2 := 17) dX9_bottle_14 (by decide) rfl (fun c => ?_) (fun c => ?_)
    · have h := h.1 c
      refine g_bipush (v := (-2)) (pc2 := 28) dX9_bottle_26 (by decide) rfl ?_
      exact g_iret dX9_bottle_28 rfl h
    · have h := h.2 c
      refine g_aload_n (pc2 := 18) dX9_bottle_17 rfl rfl ?_
      refine g_iload_n (pc2 := 19) dX9_bottle_18 rfl rfl ?_
      refine g_iload_n (pc2 := 20) dX9_bottle_19 rfl rfl ?_
      refine g_callV (M2 := mX9_bottleOf) (as := [.int x1, .int x2]) (st := []) (pc2 := 23) dX9_bottle_20 ml_X9_154 mvX9_bottleOf gk_1 rfl rfl rfl (Nat.le_of_ble_eq_true rfl) (Nat.le_refl _) rfl (h.mono ?_)
      rintro _ σ5 ⟨r6, rfl, h⟩
      show gG (d + 1) mX9_bottle 23 _ [.int r6] σ5 Q
      refine g_goto (tgt := 28) dX9_bottle_23 (by decide) ?_
      exact g_iret dX9_bottle_28 rfl h
set_option maxRecDepth 20000 in
theorem eX9_bottleDigest {d : Nat} {σ : gw_S} {Q : Option Value → gw_S → Prop} {x1 : Int64} {x3 : Int32}   (h : gG (d + 1) mX9_bottleDigest 6 [some (.ref 1), none, none, some (.int x3), some (.long x1), none, some (.int 0)] [] σ Q) : gB (d + 1) mX9_bottleDigest [.ref 1, .long x1, .int x3] σ Q := by
  refine gB_of rfl (Nat.le_of_ble_eq_true rfl) (g_lw (lv2 := [some (.ref 1), some (.long x1), none, some (.int x3), none, none, none]) ⟨rfl, ⟨rfl, ⟨rfl, trivial⟩⟩⟩ ?_)
  refine g_lload_n (pc2 := 1) dX9_bottleDigest_0 rfl rfl ?_
  refine g_lstore (pc2 := 3) dX9_bottleDigest_1 (by decide) rfl rfl ?_
  refine g_iconst (v := 0) (pc2 := 4) dX9_bottleDigest_3 (by decide) rfl ?_
  refine g_istore (pc2 := 6) dX9_bottleDigest_4 (by decide) rfl rfl ?_
  exact g_lw (lv2 := [some (.ref 1), none, none, some (.int x3), some (.long x1), none, some (.int 0)]) ⟨rfl, ⟨rfl, ⟨rfl, ⟨rfl, trivial⟩⟩⟩⟩ h
set_option maxRecDepth 20000 in
theorem bX9_bottleDigest_6 {d : Nat} {σ : gw_S} {Q : Option Value → gw_S → Prop} {x3 : Int32} {x4 : Int64} {x6 : Int32}   (h : ((4 ≤ x6) → (gB d mX9_holdsOf [.ref 1, .int 5, .int x3, .int (-1)] σ (fun v σ1 => ∃ r2 : Int32, v = some (.int r2) ∧ (gB d mX9_holdsOf [.ref 1, .int 39, .int x3, .int (-1)] σ1 (fun v σ3 => ∃ r4 : Int32, v = some (.int r4) ∧ (gB d mX9_whoOf [.ref 1, .int 9, .int x3] σ3 (fun v σ5 => ∃ r6 : Int32, v = some (.int r6) ∧ (gB d mX9_wholeOf [.ref 1, .int 39, .int x3] σ5 (fun v σ7 => ∃ r8 : Int32, v = some (.int r8) ∧ (gB d mX9_heatOf [.ref 1, .int 5, .int x3, .int 6, .int 0] σ7 (fun v σ9 => ∃ r10 : Int64, v = some (.long r10) ∧ (gB d mX9_heatOf [.ref 1, .int 5, .int x3, .int 6, .int 1] σ9 (fun v σ11 => ∃ r12 : Int64, v = some (.long r12) ∧ (gB d mX9_marketOf [.ref 1, .int 7, .int 20, .int x3] σ11 (fun v σ13 => ∃ r14 : Int32, v = some (.int r14) ∧ (Q (some (.long ((31 * ((31 * ((31 * ((31 * ((31 * ((31 * ((31 * x4) + r2.toInt64)) + r4.toInt64)) + r6.toInt64)) + r8.toInt64)) + r10)) + r12)) + r14.toInt64))) σ13)))))))))))))))) ∧ ((¬ 4 ≤ x6) → (gB d mX9_bottleOf [.ref 1, .int x3, .int x6] σ (fun v σ15 => ∃ r16 : Int32, v = some (.int r16) ∧ (gG (d + 1) mX9_bottleDigest 6 [some (.ref 1), none, none, some (.int x3), some (.long ((31 * x4) + r16.toInt64)), none, some (.int (x6 + 1))] [] σ15 Q))))) : gG (d + 1) mX9_bottleDigest 6 [some (.ref 1), none, none, some (.int x3), some (.long x4), none, some (.int x6)] [] σ Q := by
  refine g_iload (pc2 := 8) dX9_bottleDigest_6 rfl rfl ?_
  refine g_iconst (v := 4) (pc2 := 9) dX9_bottleDigest_8 (by decide) rfl ?_
  refine g_icmp_ge (tgt := 35) (pc2 := 12) dX9_bottleDigest_9 (by decide) rfl (fun c => ?_) (fun c => ?_)
  · have h := h.1 c
    refine g_ldc2 (pc2 := 38) dX9_bottleDigest_35 cl_X9_345 rfl ?_
    refine g_lload (pc2 := 40) dX9_bottleDigest_38 rfl rfl ?_
    refine g_lmul (pc2 := 41) dX9_bottleDigest_40 rfl ?_
    refine g_aload_n (pc2 := 42) dX9_bottleDigest_41 rfl rfl ?_
    refine g_iconst (v := 5) (pc2 := 43) dX9_bottleDigest_42 (by decide) rfl ?_
    refine g_iload_n (pc2 := 44) dX9_bottleDigest_43 rfl rfl ?_
    refine g_iconst (v := (-1)) (pc2 := 45) dX9_bottleDigest_44 (by decide) rfl ?_
    refine g_callV (M2 := mX9_holdsOf) (as := [.int 5, .int x3, .int (-1)]) (st := [.long (31 * x4)]) (pc2 := 48) dX9_bottleDigest_45 ml_X9_245 mvX9_holdsOf gk_1 rfl rfl rfl (Nat.le_of_ble_eq_true rfl) (Nat.le_refl _) rfl (h.mono ?_)
    rintro _ σ1 ⟨r2, rfl, h⟩
    show gG (d + 1) mX9_bottleDigest 48 _ [.int r2, .long (31 * x4)] σ1 Q
    refine g_i2l (pc2 := 49) dX9_bottleDigest_48 rfl ?_
    refine g_ladd (pc2 := 50) dX9_bottleDigest_49 rfl ?_
    refine g_lstore (pc2 := 52) dX9_bottleDigest_50 (by decide) rfl rfl ?_
    refine g_ldc2 (pc2 := 55) dX9_bottleDigest_52 cl_X9_345 rfl ?_
    refine g_lload (pc2 := 57) dX9_bottleDigest_55 rfl rfl ?_
    refine g_lmul (pc2 := 58) dX9_bottleDigest_57 rfl ?_
    refine g_aload_n (pc2 := 59) dX9_bottleDigest_58 rfl rfl ?_
    refine g_bipush (v := 39) (pc2 := 61) dX9_bottleDigest_59 (by decide) rfl ?_
    refine g_iload_n (pc2 := 62) dX9_bottleDigest_61 rfl rfl ?_
    refine g_iconst (v := (-1)) (pc2 := 63) dX9_bottleDigest_62 (by decide) rfl ?_
    refine g_callV (M2 := mX9_holdsOf) (as := [.int 39, .int x3, .int (-1)]) (st := [.long (31 * ((31 * x4) + r2.toInt64))]) (pc2 := 66) dX9_bottleDigest_63 ml_X9_245 mvX9_holdsOf gk_1 rfl rfl rfl (Nat.le_of_ble_eq_true rfl) (Nat.le_refl _) rfl (h.mono ?_)
    rintro _ σ3 ⟨r4, rfl, h⟩
    show gG (d + 1) mX9_bottleDigest 66 _ [.int r4, .long (31 * ((31 * x4) + r2.toInt64))] σ3 Q
    refine g_i2l (pc2 := 67) dX9_bottleDigest_66 rfl ?_
    refine g_ladd (pc2 := 68) dX9_bottleDigest_67 rfl ?_
    refine g_lstore (pc2 := 70) dX9_bottleDigest_68 (by decide) rfl rfl ?_
    refine g_ldc2 (pc2 := 73) dX9_bottleDigest_70 cl_X9_345 rfl ?_
    refine g_lload (pc2 := 75) dX9_bottleDigest_73 rfl rfl ?_
    refine g_lmul (pc2 := 76) dX9_bottleDigest_75 rfl ?_
    refine g_aload_n (pc2 := 77) dX9_bottleDigest_76 rfl rfl ?_
    refine g_bipush (v := 9) (pc2 := 79) dX9_bottleDigest_77 (by decide) rfl ?_
    refine g_iload_n (pc2 := 80) dX9_bottleDigest_79 rfl rfl ?_
    refine g_callV (M2 := mX9_whoOf) (as := [.int 9, .int x3]) (st := [.long (31 * ((31 * ((31 * x4) + r2.toInt64)) + r4.toInt64))]) (pc2 := 83) dX9_bottleDigest_80 ml_X9_249 mvX9_whoOf gk_1 rfl rfl rfl (Nat.le_of_ble_eq_true rfl) (Nat.le_refl _) rfl (h.mono ?_)
    rintro _ σ5 ⟨r6, rfl, h⟩
    show gG (d + 1) mX9_bottleDigest 83 _ [.int r6, .long (31 * ((31 * ((31 * x4) + r2.toInt64)) + r4.toInt64))] σ5 Q
    refine g_i2l (pc2 := 84) dX9_bottleDigest_83 rfl ?_
    refine g_ladd (pc2 := 85) dX9_bottleDigest_84 rfl ?_
    refine g_lstore (pc2 := 87) dX9_bottleDigest_85 (by decide) rfl rfl ?_
    refine g_ldc2 (pc2 := 90) dX9_bottleDigest_87 cl_X9_345 rfl ?_
    refine g_lload (pc2 := 92) dX9_bottleDigest_90 rfl rfl ?_
    refine g_lmul (pc2 := 93) dX9_bottleDigest_92 rfl ?_
    refine g_aload_n (pc2 := 94) dX9_bottleDigest_93 rfl rfl ?_
    refine g_bipush (v := 39) (pc2 := 96) dX9_bottleDigest_94 (by decide) rfl ?_
    refine g_iload_n (pc2 := 97) dX9_bottleDigest_96 rfl rfl ?_
    refine g_callV (M2 := mX9_wholeOf) (as := [.int 39, .int x3]) (st := [.long (31 * ((31 * ((31 * ((31 * x4) + r2.toInt64)) + r4.toInt64)) + r6.toInt64))]) (pc2 := 100) dX9_bottleDigest_97 ml_X9_252 mvX9_wholeOf gk_1 rfl rfl rfl (Nat.le_of_ble_eq_true rfl) (Nat.le_refl _) rfl (h.mono ?_)
    rintro _ σ7 ⟨r8, rfl, h⟩
    show gG (d + 1) mX9_bottleDigest 100 _ [.int r8, .long (31 * ((31 * ((31 * ((31 * x4) + r2.toInt64)) + r4.toInt64)) + r6.toInt64))] σ7 Q
    refine g_i2l (pc2 := 101) dX9_bottleDigest_100 rfl ?_
    refine g_ladd (pc2 := 102) dX9_bottleDigest_101 rfl ?_
    refine g_lstore (pc2 := 104) dX9_bottleDigest_102 (by decide) rfl rfl ?_
    refine g_ldc2 (pc2 := 107) dX9_bottleDigest_104 cl_X9_345 rfl ?_
    refine g_lload (pc2 := 109) dX9_bottleDigest_107 rfl rfl ?_
    refine g_lmul (pc2 := 110) dX9_bottleDigest_109 rfl ?_
    refine g_aload_n (pc2 := 111) dX9_bottleDigest_110 rfl rfl ?_
    refine g_iconst (v := 5) (pc2 := 112) dX9_bottleDigest_111 (by decide) rfl ?_
    refine g_iload_n (pc2 := 113) dX9_bottleDigest_112 rfl rfl ?_
    refine g_bipush (v := 6) (pc2 := 115) dX9_bottleDigest_113 (by decide) rfl ?_
    refine g_iconst (v := 0) (pc2 := 116) dX9_bottleDigest_115 (by decide) rfl ?_
    refine g_callV (M2 := mX9_heatOf) (as := [.int 5, .int x3, .int 6, .int 0]) (st := [.long (31 * ((31 * ((31 * ((31 * ((31 * x4) + r2.toInt64)) + r4.toInt64)) + r6.toInt64)) + r8.toInt64))]) (pc2 := 119) dX9_bottleDigest_116 ml_X9_319 mvX9_heatOf gk_1 rfl rfl rfl (Nat.le_of_ble_eq_true rfl) (Nat.le_refl _) rfl (h.mono ?_)
    rintro _ σ9 ⟨r10, rfl, h⟩
    show gG (d + 1) mX9_bottleDigest 119 _ [.long r10, .long (31 * ((31 * ((31 * ((31 * ((31 * x4) + r2.toInt64)) + r4.toInt64)) + r6.toInt64)) + r8.toInt64))] σ9 Q
    refine g_ladd (pc2 := 120) dX9_bottleDigest_119 rfl ?_
    refine g_lstore (pc2 := 122) dX9_bottleDigest_120 (by decide) rfl rfl ?_
    refine g_ldc2 (pc2 := 125) dX9_bottleDigest_122 cl_X9_345 rfl ?_
    refine g_lload (pc2 := 127) dX9_bottleDigest_125 rfl rfl ?_
    refine g_lmul (pc2 := 128) dX9_bottleDigest_127 rfl ?_
    refine g_aload_n (pc2 := 129) dX9_bottleDigest_128 rfl rfl ?_
    refine g_iconst (v := 5) (pc2 := 130) dX9_bottleDigest_129 (by decide) rfl ?_
    refine g_iload_n (pc2 := 131) dX9_bottleDigest_130 rfl rfl ?_
    refine g_bipush (v := 6) (pc2 := 133) dX9_bottleDigest_131 (by decide) rfl ?_
    refine g_iconst (v := 1) (pc2 := 134) dX9_bottleDigest_133 (by decide) rfl ?_
    refine g_callV (M2 := mX9_heatOf) (as := [.int 5, .int x3, .int 6, .int 1]) (st := [.long (31 * ((31 * ((31 * ((31 * ((31 * ((31 * x4) + r2.toInt64)) + r4.toInt64)) + r6.toInt64)) + r8.toInt64)) + r10))]) (pc2 := 137) dX9_bottleDigest_134 ml_X9_319 mvX9_heatOf gk_1 rfl rfl rfl (Nat.le_of_ble_eq_true rfl) (Nat.le_refl _) rfl (h.mono ?_)
    rintro _ σ11 ⟨r12, rfl, h⟩
    show gG (d + 1) mX9_bottleDigest 137 _ [.long r12, .long (31 * ((31 * ((31 * ((31 * ((31 * ((31 * x4) + r2.toInt64)) + r4.toInt64)) + r6.toInt64)) + r8.toInt64)) + r10))] σ11 Q
    refine g_ladd (pc2 := 138) dX9_bottleDigest_137 rfl ?_
    refine g_lstore (pc2 := 140) dX9_bottleDigest_138 (by decide) rfl rfl ?_
    refine g_ldc2 (pc2 := 143) dX9_bottleDigest_140 cl_X9_345 rfl ?_
    refine g_lload (pc2 := 145) dX9_bottleDigest_143 rfl rfl ?_
    refine g_lmul (pc2 := 146) dX9_bottleDigest_145 rfl ?_
    refine g_aload_n (pc2 := 147) dX9_bottleDigest_146 rfl rfl ?_
    refine g_bipush (v := 7) (pc2 := 149) dX9_bottleDigest_147 (by decide) rfl ?_
    refine g_bipush (v := 20) (pc2 := 151) dX9_bottleDigest_149 (by decide) rfl ?_
    refine g_iload_n (pc2 := 152) dX9_bottleDigest_151 rfl rfl ?_
    refine g_callV (M2 := mX9_marketOf) (as := [.int 7, .int 20, .int x3]) (st := [.long (31 * ((31 * ((31 * ((31 * ((31 * ((31 * ((31 * x4) + r2.toInt64)) + r4.toInt64)) + r6.toInt64)) + r8.toInt64)) + r10)) + r12))]) (pc2 := 155) dX9_bottleDigest_152 ml_X9_328 mvX9_marketOf gk_1 rfl rfl rfl (Nat.le_of_ble_eq_true rfl) (Nat.le_refl _) rfl (h.mono ?_)
    rintro _ σ13 ⟨r14, rfl, h⟩
    show gG (d + 1) mX9_bottleDigest 155 _ [.int r14, .long (31 * ((31 * ((31 * ((31 * ((31 * ((31 * ((31 * x4) + r2.toInt64)) + r4.toInt64)) + r6.toInt64)) + r8.toInt64)) + r10)) + r12))] σ13 Q
    refine g_i2l (pc2 := 156) dX9_bottleDigest_155 rfl ?_
    refine g_ladd (pc2 := 157) dX9_bottleDigest_156 rfl ?_
    exact g_lret dX9_bottleDigest_157 rfl h
  · have h := h.2 c
    refine g_ldc2 (pc2 := 15) dX9_bottleDigest_12 cl_X9_345 rfl ?_
    refine g_lload (pc2 := 17) dX9_bottleDigest_15 rfl rfl ?_
    refine g_lmul (pc2 := 18) dX9_bottleDigest_17 rfl ?_
    refine g_aload_n (pc2 := 19) dX9_bottleDigest_18 rfl rfl ?_
    refine g_iload_n (pc2 := 20) dX9_bottleDigest_19 rfl rfl ?_
    refine g_iload (pc2 := 22) dX9_bottleDigest_20 rfl rfl ?_
    refine g_callV (M2 := mX9_bottleOf) (as := [.int x3, .int x6]) (st := [.long (31 * x4)]) (pc2 := 25) dX9_bottleDigest_22 ml_X9_154 mvX9_bottleOf gk_1 rfl rfl rfl (Nat.le_of_ble_eq_true rfl) (Nat.le_refl _) rfl (h.mono ?_)
    rintro _ σ15 ⟨r16, rfl, h⟩
    show gG (d + 1) mX9_bottleDigest 25 _ [.int r16, .long (31 * x4)] σ15 Q
    refine g_i2l (pc2 := 26) dX9_bottleDigest_25 rfl ?_
    refine g_ladd (pc2 := 27) dX9_bottleDigest_26 rfl ?_
    refine g_lstore (pc2 := 29) dX9_bottleDigest_27 (by decide) rfl rfl ?_
    refine g_iinc2 (c := 1) (pc2 := 32) dX9_bottleDigest_29 rfl (by decide) (by decide) rfl rfl ?_
    refine g_goto (tgt := 6) dX9_bottleDigest_32 (by decide) ?_
    exact g_lw (lv2 := [some (.ref 1), none, none, some (.int x3), some (.long ((31 * x4) + r16.toInt64)), none, some (.int (x6 + 1))]) ⟨rfl, ⟨rfl, ⟨rfl, ⟨rfl, trivial⟩⟩⟩⟩ h
set_option maxRecDepth 20000 in
theorem eX9_bottleOf {d : Nat} {σ : gw_S} {Q : Option Value → gw_S → Prop} {x1 : Int32} {x2 : Int32}   (h : ((¬ x2 = 0) → (((¬ x2 = 1) → (((¬ x2 = 2) → (vp_in x1 9 ∧ (Q (some (.int (σ 145 x1.toNatClampNeg))) σ))) ∧ ((x2 = 2) → (vp_in x1 9 ∧ (Q (some (.int (σ 144 x1.toNatClampNeg))) σ))))) ∧ ((x2 = 1) → (vp_in x1 9 ∧ (Q (some (.int (σ 143 x1.toNatClampNeg))) σ))))) ∧ ((x2 = 0) → (vp_in x1 9 ∧ (Q (some (.int (σ 142 x1.toNatClampNeg))) σ)))) : gB d mX9_bottleOf [.ref 1, .int x1, .int x2] σ Q := by
  refine gB_of rfl (Nat.le_of_ble_eq_true rfl) (g_lw (lv2 := [some (.ref 1), some (.int x1), some (.int x2)]) ⟨rfl, ⟨rfl, ⟨rfl, trivial⟩⟩⟩ ?_)
  refine g_iload_n (pc2 := 1) dX9_bottleOf_0 rfl rfl ?_
  refine g_if_ne (tgt := 13) (pc2 := 4) dX9_bottleOf_1 (by decide) rfl (fun c => ?_) (fun c => ?_)
  · have h := h.1 c
    refine g_iload_n (pc2 := 14) dX9_bottleOf_13 rfl rfl ?_
    refine g_iconst (v := 1) (pc2 := 15) dX9_bottleOf_14 (by decide) rfl ?_
    refine g_icmp_ne (tgt := 27) (pc2 := 18) dX9_bottleOf_15 (by decide) rfl (fun c => ?_) (fun c => ?_)
    · have h := h.1 c
      refine g_iload_n (pc2 := 28) dX9_bottleOf_27 rfl rfl ?_
      refine g_iconst (v := 2) (pc2 := 29) dX9_bottleOf_28 (by decide) rfl ?_
      refine g_icmp_ne (tgt := 41) (pc2 := 32) dX9_bottleOf_29 (by decide) rfl (fun c => ?_) (fun c => ?_)
      · have h := h.1 c
        refine g_aload_n (pc2 := 42) dX9_bottleOf_41 rfl rfl ?_
        refine g_geta (pc2 := 45) dX9_bottleOf_42 fl_X9_25 gk_1 rfl rfl ?_
        refine g_iload_n (pc2 := 46) dX9_bottleOf_45 rfl rfl ?_
        obtain ⟨hx, h⟩ := h
        refine g_iald (pc2 := 47) dX9_bottleOf_46 gk_145 hx rfl ?_
        exact g_iret dX9_bottleOf_47 rfl h
      · have h := h.2 c
        refine g_aload_n (pc2 := 33) dX9_bottleOf_32 rfl rfl ?_
        refine g_geta (pc2 := 36) dX9_bottleOf_33 fl_X9_22 gk_1 rfl rfl ?_
        refine g_iload_n (pc2 := 37) dX9_bottleOf_36 rfl rfl ?_
        obtain ⟨hx, h⟩ := h
        refine g_iald (pc2 := 38) dX9_bottleOf_37 gk_144 hx rfl ?_
        refine g_goto (tgt := 47) dX9_bottleOf_38 (by decide) ?_
        exact g_iret dX9_bottleOf_47 rfl h
    · have h := h.2 c
      refine g_aload_n (pc2 := 19) dX9_bottleOf_18 rfl rfl ?_
      refine g_geta (pc2 := 22) dX9_bottleOf_19 fl_X9_19 gk_1 rfl rfl ?_
      refine g_iload_n (pc2 := 23) dX9_bottleOf_22 rfl rfl ?_
      obtain ⟨hx, h⟩ := h
      refine g_iald (pc2 := 24) dX9_bottleOf_23 gk_143 hx rfl ?_
      refine g_goto (tgt := 47) dX9_bottleOf_24 (by decide) ?_
      exact g_iret dX9_bottleOf_47 rfl h
  · have h := h.2 c
    refine g_aload_n (pc2 := 5) dX9_bottleOf_4 rfl rfl ?_
    refine g_geta (pc2 := 8) dX9_bottleOf_5 fl_X9_16 gk_1 rfl rfl ?_
    refine g_iload_n (pc2 := 9) dX9_bottleOf_8 rfl rfl ?_
    obtain ⟨hx, h⟩ := h
    refine g_iald (pc2 := 10) dX9_bottleOf_9 gk_142 hx rfl ?_
    refine g_goto (tgt := 47) dX9_bottleOf_10 (by decide) ?_
    exact g_iret dX9_bottleOf_47 rfl h
set_option maxRecDepth 20000 in
theorem eX9_breaks {d : Nat} {σ : gw_S} {Q : Option Value → gw_S → Prop} {x1 : Int32}   (h : (((σ 1 2) ≤ x1) → (Q (some (.int 0)) σ)) ∧ ((¬ (σ 1 2) ≤ x1) → (vp_in x1 8 ∧ (((¬ (σ 158 x1.toNatClampNeg) = 0) → (vp_in x1 8 ∧ (∀ s1 : gw_S, s1 = gw_u σ 158 x1.toNatClampNeg (vp_nar .boolean 0) → (gG d mX9_breaks 28 [some (.ref 1), some (.int x1), some (.int 0)] [] s1 Q)))) ∧ (((σ 158 x1.toNatClampNeg) = 0) → (Q (some (.int 0)) σ)))))) : gB d mX9_breaks [.ref 1, .int x1] σ Q := by
  refine gB_of rfl (Nat.le_of_ble_eq_true rfl) (g_lw (lv2 := [some (.ref 1), some (.int x1), none]) ⟨rfl, ⟨rfl, trivial⟩⟩ ?_)
  refine g_iload_n (pc2 := 1) dX9_breaks_0 rfl rfl ?_
  refine g_aload_n (pc2 := 2) dX9_breaks_1 rfl rfl ?_
  refine g_geti (pc2 := 5) dX9_breaks_2 fl_X9_128 gk_1 rfl rfl ?_
  refine g_icmp_ge (tgt := 17) (pc2 := 8) dX9_breaks_5 (by decide) rfl (fun c => ?_) (fun c => ?_)
  · have h := h.1 c
    refine g_iconst (v := 0) (pc2 := 18) dX9_breaks_17 (by decide) rfl ?_
    exact g_zret dX9_breaks_18 rfl rfl h
  · have h := h.2 c
    refine g_aload_n (pc2 := 9) dX9_breaks_8 rfl rfl ?_
    refine g_geta (pc2 := 12) dX9_breaks_9 fl_X9_64 gk_1 rfl rfl ?_
    refine g_iload_n (pc2 := 13) dX9_breaks_12 rfl rfl ?_
    obtain ⟨hx, h⟩ := h
    refine g_zald (pc2 := 14) dX9_breaks_13 gk_158 hx rfl ?_
    refine g_if_ne (tgt := 19) (pc2 := 17) dX9_breaks_14 (by decide) rfl (fun c => ?_) (fun c => ?_)
    · have h := h.1 c
      refine g_aload_n (pc2 := 20) dX9_breaks_19 rfl rfl ?_
      refine g_geta (pc2 := 23) dX9_breaks_20 fl_X9_64 gk_1 rfl rfl ?_
      refine g_iload_n (pc2 := 24) dX9_breaks_23 rfl rfl ?_
      refine g_iconst (v := 0) (pc2 := 25) dX9_breaks_24 (by decide) rfl ?_
      obtain ⟨hx, h⟩ := h
      refine g_zast2 (pc2 := 26) dX9_breaks_25 gk_158 hx rfl (fun s1 es1 => ?_)
      replace h := h s1 es1
      refine g_iconst (v := 0) (pc2 := 27) dX9_breaks_26 (by decide) rfl ?_
      refine g_istore_n (pc2 := 28) dX9_breaks_27 (by decide) rfl rfl ?_
      exact g_lw (lv2 := [some (.ref 1), some (.int x1), some (.int 0)]) ⟨rfl, ⟨rfl, ⟨rfl, trivial⟩⟩⟩ h
    · have h := h.2 c
      refine g_iconst (v := 0) (pc2 := 18) dX9_breaks_17 (by decide) rfl ?_
      exact g_zret dX9_breaks_18 rfl rfl h
set_option maxRecDepth 20000 in
theorem bX9_breaks_28 {d : Nat} {σ : gw_S} {Q : Option Value → gw_S → Prop} {x1 : Int32} {x2 : Int32}   (h : ((8 ≤ x2) → (Q (some (.int 1)) σ)) ∧ ((¬ 8 ≤ x2) → (vp_in x2 8 ∧ (vp_in ((8 * x1) + x2) 64 ∧ (vp_in x2 8 ∧ (∀ s2 : gw_S, s2 = gw_u σ 161 x2.toNatClampNeg ((σ 161 x2.toNatClampNeg) + (σ 155 ((8 * x1) + x2).toNatClampNeg)) → (vp_in ((8 * x1) + x2) 64 ∧ (∀ s3 : gw_S, s3 = gw_u s2 155 ((8 * x1) + x2).toNatClampNeg 0 → (gG d mX9_breaks 28 [some (.ref 1), some (.int x1), some (.int (x2 + 1))] [] s3 Q))))))))) : gG d mX9_breaks 28 [some (.ref 1), some (.int x1), some (.int x2)] [] σ Q := by
  refine g_iload_n (pc2 := 29) dX9_breaks_28 rfl rfl ?_
  refine g_bipush (v := 8) (pc2 := 31) dX9_breaks_29 (by decide) rfl ?_
  refine g_icmp_ge (tgt := 72) (pc2 := 34) dX9_breaks_31 (by decide) rfl (fun c => ?_) (fun c => ?_)
  · have h := h.1 c
    refine g_iconst (v := 1) (pc2 := 73) dX9_breaks_72 (by decide) rfl ?_
    exact g_zret dX9_breaks_73 rfl rfl h
  · have h := h.2 c
    refine g_aload_n (pc2 := 35) dX9_breaks_34 rfl rfl ?_
    refine g_geta (pc2 := 38) dX9_breaks_35 fl_X9_74 gk_1 rfl rfl ?_
    refine g_iload_n (pc2 := 39) dX9_breaks_38 rfl rfl ?_
    refine g_dup2 (pc2 := 40) dX9_breaks_39 rfl rfl rfl ?_
    obtain ⟨hx, h⟩ := h
    refine g_iald (pc2 := 41) dX9_breaks_40 gk_161 hx rfl ?_
    refine g_aload_n (pc2 := 42) dX9_breaks_41 rfl rfl ?_
    refine g_geta (pc2 := 45) dX9_breaks_42 fl_X9_55 gk_1 rfl rfl ?_
    refine g_bipush (v := 8) (pc2 := 47) dX9_breaks_45 (by decide) rfl ?_
    refine g_iload_n (pc2 := 48) dX9_breaks_47 rfl rfl ?_
    refine g_imul (pc2 := 49) dX9_breaks_48 rfl ?_
    refine g_iload_n (pc2 := 50) dX9_breaks_49 rfl rfl ?_
    refine g_iadd (pc2 := 51) dX9_breaks_50 rfl ?_
    obtain ⟨hx, h⟩ := h
    refine g_iald (pc2 := 52) dX9_breaks_51 gk_155 hx rfl ?_
    refine g_iadd (pc2 := 53) dX9_breaks_52 rfl ?_
    obtain ⟨hx, h⟩ := h
    refine g_iast2 (pc2 := 54) dX9_breaks_53 gk_161 hx rfl (fun s2 es2 => ?_)
    replace h := h s2 es2
    refine g_aload_n (pc2 := 55) dX9_breaks_54 rfl rfl ?_
    refine g_geta (pc2 := 58) dX9_breaks_55 fl_X9_55 gk_1 rfl rfl ?_
    refine g_bipush (v := 8) (pc2 := 60) dX9_breaks_58 (by decide) rfl ?_
    refine g_iload_n (pc2 := 61) dX9_breaks_60 rfl rfl ?_
    refine g_imul (pc2 := 62) dX9_breaks_61 rfl ?_
    refine g_iload_n (pc2 := 63) dX9_breaks_62 rfl rfl ?_
    refine g_iadd (pc2 := 64) dX9_breaks_63 rfl ?_
    refine g_iconst (v := 0) (pc2 := 65) dX9_breaks_64 (by decide) rfl ?_
    obtain ⟨hx, h⟩ := h
    refine g_iast2 (pc2 := 66) dX9_breaks_65 gk_155 hx rfl (fun s3 es3 => ?_)
    replace h := h s3 es3
    refine g_iinc2 (c := 1) (pc2 := 69) dX9_breaks_66 rfl (by decide) (by decide) rfl rfl ?_
    refine g_goto (tgt := 28) dX9_breaks_69 (by decide) ?_
    exact g_lw (lv2 := [some (.ref 1), some (.int x1), some (.int (x2 + 1))]) ⟨rfl, ⟨rfl, ⟨rfl, trivial⟩⟩⟩ h
set_option maxRecDepth 20000 in
theorem eX9_burst {d : Nat} {σ : gw_S} {Q : Option Value → gw_S → Prop} {x1 : Int32}   (h : gB d mX9_in [.int x1, .int 1, .int 200] σ (fun v σ1 => ∃ r2 : Int32, v = some (.int r2) ∧ (((¬ r2 = 0) → (∀ s3 : gw_S, s3 = gw_u σ1 1 9 x1 → (Q (some (.int (σ1 1 9))) s3))) ∧ ((r2 = 0) → (Q (some (.int (-2))) σ1))))) : gB (d + 1) mX9_burst [.ref 1, .int x1] σ Q := by
  refine gB_of rfl (Nat.le_of_ble_eq_true rfl) (g_lw (lv2 := [some (.ref 1), some (.int x1), none]) ⟨rfl, ⟨rfl, trivial⟩⟩ ?_)
  refine g_iload_n (pc2 := 1) dX9_burst_0 rfl rfl ?_
  refine g_iconst (v := 1) (pc2 := 2) dX9_burst_1 (by decide) rfl ?_
  refine g_sipush (v := 200) (pc2 := 5) dX9_burst_2 (by decide) rfl ?_
  refine g_callS (M2 := mX9_in) (as := [.int x1, .int 1, .int 200]) (st := []) (pc2 := 8) dX9_burst_5 ml_X9_116 msX9_in rfl rfl (Nat.le_of_ble_eq_true rfl) (Nat.le_refl _) rfl (h.mono ?_)
  rintro _ σ1 ⟨r2, rfl, h⟩
  show gG (d + 1) mX9_burst 8 _ [.int r2] σ1 Q
  refine g_if_ne (tgt := 14) (pc2 := 11) dX9_burst_8 (by decide) rfl (fun c => ?_) (fun c => ?_)
  · have h := h.1 c
    refine g_aload_n (pc2 := 15) dX9_burst_14 rfl rfl ?_
    refine g_geti (pc2 := 18) dX9_burst_15 fl_X9_110 gk_1 rfl rfl ?_
    refine g_istore_n (pc2 := 19) dX9_burst_18 (by decide) rfl rfl ?_
    refine g_aload_n (pc2 := 20) dX9_burst_19 rfl rfl ?_
    refine g_iload_n (pc2 := 21) dX9_burst_20 rfl rfl ?_
    refine g_put2 (pc2 := 24) dX9_burst_21 fp_X9_110 gk_1 rfl rfl rfl rfl (fun s3 es3 => ?_)
    replace h := h s3 es3
    refine g_iload_n (pc2 := 25) dX9_burst_24 rfl rfl ?_
    exact g_iret dX9_burst_25 rfl h
  · have h := h.2 c
    refine g_bipush (v := (-2)) (pc2 := 13) dX9_burst_11 (by decide) rfl ?_
    exact g_iret dX9_burst_13 rfl h
set_option maxRecDepth 20000 in
theorem eX9_byteAt {d : Nat} {σ : gw_S} {Q : Option Value → gw_S → Prop} {x1 : Int32} {x2 : Int32}   (h : vp_in x1 2 ∧ ((((σ 140 x1.toNatClampNeg) ≤ x2) → (Q (some (.int (-1))) σ)) ∧ ((¬ (σ 140 x1.toNatClampNeg) ≤ x2) → (vp_in ((47 * x1) + x2) 94 ∧ (Q (some (.int (σ 141 ((47 * x1) + x2).toNatClampNeg))) σ))))) : gB d mX9_byteAt [.ref 1, .int x1, .int x2] σ Q := by
  refine gB_of rfl (Nat.le_of_ble_eq_true rfl) (g_lw (lv2 := [some (.ref 1), some (.int x1), some (.int x2)]) ⟨rfl, ⟨rfl, ⟨rfl, trivial⟩⟩⟩ ?_)
  refine g_iload_n (pc2 := 1) dX9_byteAt_0 rfl rfl ?_
  refine g_aload_n (pc2 := 2) dX9_byteAt_1 rfl rfl ?_
  refine g_geta (pc2 := 5) dX9_byteAt_2 fl_X9_7 gk_1 rfl rfl ?_
  refine g_iload_n (pc2 := 6) dX9_byteAt_5 rfl rfl ?_
  obtain ⟨hx, h⟩ := h
  refine g_iald (pc2 := 7) dX9_byteAt_6 gk_140 hx rfl ?_
  refine g_icmp_ge (tgt := 24) (pc2 := 10) dX9_byteAt_7 (by decide) rfl (fun c => ?_) (fun c => ?_)
  · have h := h.1 c
    refine g_iconst (v := (-1)) (pc2 := 25) dX9_byteAt_24 (by decide) rfl ?_
    exact g_iret dX9_byteAt_25 rfl h
  · have h := h.2 c
    refine g_aload_n (pc2 := 11) dX9_byteAt_10 rfl rfl ?_
    refine g_geta (pc2 := 14) dX9_byteAt_11 fl_X9_13 gk_1 rfl rfl ?_
    refine g_bipush (v := 47) (pc2 := 16) dX9_byteAt_14 (by decide) rfl ?_
    refine g_iload_n (pc2 := 17) dX9_byteAt_16 rfl rfl ?_
    refine g_imul (pc2 := 18) dX9_byteAt_17 rfl ?_
    refine g_iload_n (pc2 := 19) dX9_byteAt_18 rfl rfl ?_
    refine g_iadd (pc2 := 20) dX9_byteAt_19 rfl ?_
    obtain ⟨hx, h⟩ := h
    refine g_iald (pc2 := 21) dX9_byteAt_20 gk_141 hx rfl ?_
    refine g_goto (tgt := 25) dX9_byteAt_21 (by decide) ?_
    exact g_iret dX9_byteAt_25 rfl h
set_option maxRecDepth 20000 in
theorem eX9_copy {d : Nat} {σ : gw_S} {Q : Option Value → gw_S → Prop} {x1 : Int32} {x2 : Int32} {x3 : Int32} {x4 : Int32} {x5 : Int32}   (h : gB d mX9_isSheet [.int x1] σ (fun v σ1 => ∃ r2 : Int32, v = some (.int r2) ∧ (((r2 = 0) → (Q (some (.int (-2))) σ1)) ∧ ((¬ r2 = 0) → (gB d mX9_isSheet [.int x3] σ1 (fun v σ3 => ∃ r4 : Int32, v = some (.int r4) ∧ (((¬ r4 = 0) → (vp_in x1 4 ∧ ((((σ3 168 x1.toNatClampNeg) = 0) → (gB d mX9_meets [.ref 1, .int 1] σ3 (fun v σ5 => ∃ r6 : Int32, v = some (.int r6) ∧ (Q (some (.int r6)) σ5)))) ∧ ((¬ (σ3 168 x1.toNatClampNeg) = 0) → (vp_in x3 4 ∧ (((¬ (σ3 168 x3.toNatClampNeg) = 0) → (vp_in x1 4 ∧ (vp_in x3 4 ∧ ((((σ3 169 x1.toNatClampNeg) = (σ3 169 x3.toNatClampNeg)) → (((x2 < 0) → (gB d mX9_meets [.ref 1, .int 2] σ3 (fun v σ7 => ∃ r8 : Int32, v = some (.int r8) ∧ (Q (some (.int r8)) σ7)))) ∧ ((¬ x2 < 0) → (((x4 < 0) → (gB d mX9_meets [.ref 1, .int 2] σ3 (fun v σ9 => ∃ r10 : Int32, v = some (.int r10) ∧ (Q (some (.int r10)) σ9)))) ∧ ((¬ x4 < 0) → (((x5 < 0) → (gB d mX9_meets [.ref 1, .int 2] σ3 (fun v σ11 => ∃ r12 : Int32, v = some (.int r12) ∧ (Q (some (.int r12)) σ11)))) ∧ ((¬ x5 < 0) → (vp_in x1 4 ∧ (((0 < (lg_cmp (x2.toInt64 + x5.toInt64) ((σ3 170 x1.toNatClampNeg).toInt64))) → (gB d mX9_meets [.ref 1, .int 2] σ3 (fun v σ13 => ∃ r14 : Int32, v = some (.int r14) ∧ (Q (some (.int r14)) σ13)))) ∧ ((¬ 0 < (lg_cmp (x2.toInt64 + x5.toInt64) ((σ3 170 x1.toNatClampNeg).toInt64))) → (vp_in x3 4 ∧ ((((lg_cmp (x4.toInt64 + x5.toInt64) ((σ3 170 x3.toNatClampNeg).toInt64)) ≤ 0) → (gG (d + 1) mX9_copy 120 [some (.ref 1), some (.int x1), some (.int x2), some (.int x3), some (.int x4), some (.int x5), some (.int 0)] [] σ3 Q)) ∧ ((¬ (lg_cmp (x4.toInt64 + x5.toInt64) ((σ3 170 x3.toNatClampNeg).toInt64)) ≤ 0) → (gB d mX9_meets [.ref 1, .int 2] σ3 (fun v σ15 => ∃ r16 : Int32, v = some (.int r16) ∧ (Q (some (.int r16)) σ15)))))))))))))))) ∧ ((¬ (σ3 169 x1.toNatClampNeg) = (σ3 169 x3.toNatClampNeg)) → (gB d mX9_meets [.ref 1, .int 4] σ3 (fun v σ17 => ∃ r18 : Int32, v = some (.int r18) ∧ (Q (some (.int r18)) σ17)))))))) ∧ (((σ3 168 x3.toNatClampNeg) = 0) → (gB d mX9_meets [.ref 1, .int 1] σ3 (fun v σ19 => ∃ r20 : Int32, v = some (.int r20) ∧ (Q (some (.int r20)) σ19)))))))))) ∧ ((r4 = 0) → (Q (some (.int (-2))) σ3))))))))) : gB (d + 1) mX9_copy [.ref 1, .int x1, .int x2, .int x3, .int x4, .int x5] σ Q := by
  refine gB_of rfl (Nat.le_of_ble_eq_true rfl) (g_lw (lv2 := [some (.ref 1), some (.int x1), some (.int x2), some (.int x3), some (.int x4), some (.int x5), none]) ⟨rfl, ⟨rfl, ⟨rfl, ⟨rfl, ⟨rfl, ⟨rfl, trivial⟩⟩⟩⟩⟩⟩ ?_)
  refine g_iload_n (pc2 := 1) dX9_copy_0 rfl rfl ?_
  refine g_callS (M2 := mX9_isSheet) (as := [.int x1]) (st := []) (pc2 := 4) dX9_copy_1 ml_X9_172 msX9_isSheet rfl rfl (Nat.le_of_ble_eq_true rfl) (Nat.le_refl _) rfl (h.mono ?_)
  rintro _ σ1 ⟨r2, rfl, h⟩
  show gG (d + 1) mX9_copy 4 _ [.int r2] σ1 Q
  refine g_if_eq (tgt := 14) (pc2 := 7) dX9_copy_4 (by decide) rfl (fun c => ?_) (fun c => ?_)
  · have h := h.1 c
    refine g_bipush (v := (-2)) (pc2 := 16) dX9_copy_14 (by decide) rfl ?_
    exact g_iret dX9_copy_16 rfl h
  · have h := h.2 c
    refine g_iload_n (pc2 := 8) dX9_copy_7 rfl rfl ?_
    refine g_callS (M2 := mX9_isSheet) (as := [.int x3]) (st := []) (pc2 := 11) dX9_copy_8 ml_X9_172 msX9_isSheet rfl rfl (Nat.le_of_ble_eq_true rfl) (Nat.le_refl _) rfl (h.mono ?_)
    rintro _ σ3 ⟨r4, rfl, h⟩
    show gG (d + 1) mX9_copy 11 _ [.int r4] σ3 Q
    refine g_if_ne (tgt := 17) (pc2 := 14) dX9_copy_11 (by decide) rfl (fun c => ?_) (fun c => ?_)
    · have h := h.1 c
      refine g_aload_n (pc2 := 18) dX9_copy_17 rfl rfl ?_
      refine g_geta (pc2 := 21) dX9_copy_18 fl_X9_95 gk_1 rfl rfl ?_
      refine g_iload_n (pc2 := 22) dX9_copy_21 rfl rfl ?_
      obtain ⟨hx, h⟩ := h
      refine g_zald (pc2 := 23) dX9_copy_22 gk_168 hx rfl ?_
      refine g_if_eq (tgt := 35) (pc2 := 26) dX9_copy_23 (by decide) rfl (fun c => ?_) (fun c => ?_)
      · have h := h.1 c
        refine g_aload_n (pc2 := 36) dX9_copy_35 rfl rfl ?_
        refine g_iconst (v := 1) (pc2 := 37) dX9_copy_36 (by decide) rfl ?_
        refine g_callV (M2 := mX9_meets) (as := [.int 1]) (st := []) (pc2 := 40) dX9_copy_37 ml_X9_175 mvX9_meets gk_1 rfl rfl rfl (Nat.le_of_ble_eq_true rfl) (Nat.le_refl _) rfl (h.mono ?_)
        rintro _ σ5 ⟨r6, rfl, h⟩
        show gG (d + 1) mX9_copy 40 _ [.int r6] σ5 Q
        exact g_iret dX9_copy_40 rfl h
      · have h := h.2 c
        refine g_aload_n (pc2 := 27) dX9_copy_26 rfl rfl ?_
        refine g_geta (pc2 := 30) dX9_copy_27 fl_X9_95 gk_1 rfl rfl ?_
        refine g_iload_n (pc2 := 31) dX9_copy_30 rfl rfl ?_
        obtain ⟨hx, h⟩ := h
        refine g_zald (pc2 := 32) dX9_copy_31 gk_168 hx rfl ?_
        refine g_if_ne (tgt := 41) (pc2 := 35) dX9_copy_32 (by decide) rfl (fun c => ?_) (fun c => ?_)
        · have h := h.1 c
          refine g_aload_n (pc2 := 42) dX9_copy_41 rfl rfl ?_
          refine g_geta (pc2 := 45) dX9_copy_42 fl_X9_98 gk_1 rfl rfl ?_
          refine g_iload_n (pc2 := 46) dX9_copy_45 rfl rfl ?_
          obtain ⟨hx, h⟩ := h
          refine g_iald (pc2 := 47) dX9_copy_46 gk_169 hx rfl ?_
          refine g_aload_n (pc2 := 48) dX9_copy_47 rfl rfl ?_
          refine g_geta (pc2 := 51) dX9_copy_48 fl_X9_98 gk_1 rfl rfl ?_
          refine g_iload_n (pc2 := 52) dX9_copy_51 rfl rfl ?_
          obtain ⟨hx, h⟩ := h
          refine g_iald (pc2 := 53) dX9_copy_52 gk_169 hx rfl ?_
          refine g_icmp_eq (tgt := 62) (pc2 := 56) dX9_copy_53 (by decide) rfl (fun c => ?_) (fun c => ?_)
          · have h := h.1 c
            refine g_iload_n (pc2 := 63) dX9_copy_62 rfl rfl ?_
            refine g_if_lt (tgt := 111) (pc2 := 66) dX9_copy_63 (by decide) rfl (fun c => ?_) (fun c => ?_)
            · have h := h.1 c
              refine g_aload_n (pc2 := 112) dX9_copy_111 rfl rfl ?_
              refine g_iconst (v := 2) (pc2 := 113) dX9_copy_112 (by decide) rfl ?_
              refine g_callV (M2 := mX9_meets) (as := [.int 2]) (st := []) (pc2 := 116) dX9_copy_113 ml_X9_175 mvX9_meets gk_1 rfl rfl rfl (Nat.le_of_ble_eq_true rfl) (Nat.le_refl _) rfl (h.mono ?_)
              rintro _ σ7 ⟨r8, rfl, h⟩
              show gG (d + 1) mX9_copy 116 _ [.int r8] σ7 Q
              exact g_iret dX9_copy_116 rfl h
            · have h := h.2 c
              refine g_iload (pc2 := 68) dX9_copy_66 rfl rfl ?_
              refine g_if_lt (tgt := 111) (pc2 := 71) dX9_copy_68 (by decide) rfl (fun c => ?_) (fun c => ?_)
              · have h := h.1 c
                refine g_aload_n (pc2 := 112) dX9_copy_111 rfl rfl ?_
                refine g_iconst (v := 2) (pc2 := 113) dX9_copy_112 (by decide) rfl ?_
                refine g_callV (M2 := mX9_meets) (as := [.int 2]) (st := []) (pc2 := 116) dX9_copy_113 ml_X9_175 mvX9_meets gk_1 rfl rfl rfl (Nat.le_of_ble_eq_true rfl) (Nat.le_refl _) rfl (h.mono ?_)
                rintro _ σ9 ⟨r10, rfl, h⟩
                show gG (d + 1) mX9_copy 116 _ [.int r10] σ9 Q
                exact g_iret dX9_copy_116 rfl h
              · have h := h.2 c
                refine g_iload (pc2 := 73) dX9_copy_71 rfl rfl ?_
                refine g_if_lt (tgt := 111) (pc2 := 76) dX9_copy_73 (by decide) rfl (fun c => ?_) (fun c => ?_)
                · have h := h.1 c
                  refine g_aload_n (pc2 := 112) dX9_copy_111 rfl rfl ?_
                  refine g_iconst (v := 2) (pc2 := 113) dX9_copy_112 (by decide) rfl ?_
                  refine g_callV (M2 := mX9_meets) (as := [.int 2]) (st := []) (pc2 := 116) dX9_copy_113 ml_X9_175 mvX9_meets gk_1 rfl rfl rfl (Nat.le_of_ble_eq_true rfl) (Nat.le_refl _) rfl (h.mono ?_)
                  rintro _ σ11 ⟨r12, rfl, h⟩
                  show gG (d + 1) mX9_copy 116 _ [.int r12] σ11 Q
                  exact g_iret dX9_copy_116 rfl h
                · have h := h.2 c
                  refine g_iload_n (pc2 := 77) dX9_copy_76 rfl rfl ?_
                  refine g_i2l (pc2 := 78) dX9_copy_77 rfl ?_
                  refine g_iload (pc2 := 80) dX9_copy_78 rfl rfl ?_
                  refine g_i2l (pc2 := 81) dX9_copy_80 rfl ?_
                  refine g_ladd (pc2 := 82) dX9_copy_81 rfl ?_
                  refine g_aload_n (pc2 := 83) dX9_copy_82 rfl rfl ?_
                  refine g_geta (pc2 := 86) dX9_copy_83 fl_X9_101 gk_1 rfl rfl ?_
                  refine g_iload_n (pc2 := 87) dX9_copy_86 rfl rfl ?_
                  obtain ⟨hx, h⟩ := h
                  refine g_iald (pc2 := 88) dX9_copy_87 gk_170 hx rfl ?_
                  refine g_i2l (pc2 := 89) dX9_copy_88 rfl ?_
                  refine g_lcmp (pc2 := 90) dX9_copy_89 rfl ?_
                  refine g_if_gt (tgt := 111) (pc2 := 93) dX9_copy_90 (by decide) rfl (fun c => ?_) (fun c => ?_)
                  · have h := h.1 c
                    refine g_aload_n (pc2 := 112) dX9_copy_111 rfl rfl ?_
                    refine g_iconst (v := 2) (pc2 := 113) dX9_copy_112 (by decide) rfl ?_
                    refine g_callV (M2 := mX9_meets) (as := [.int 2]) (st := []) (pc2 := 116) dX9_copy_113 ml_X9_175 mvX9_meets gk_1 rfl rfl rfl (Nat.le_of_ble_eq_true rfl) (Nat.le_refl _) rfl (h.mono ?_)
                    rintro _ σ13 ⟨r14, rfl, h⟩
                    show gG (d + 1) mX9_copy 116 _ [.int r14] σ13 Q
                    exact g_iret dX9_copy_116 rfl h
                  · have h := h.2 c
                    refine g_iload (pc2 := 95) dX9_copy_93 rfl rfl ?_
                    refine g_i2l (pc2 := 96) dX9_copy_95 rfl ?_
                    refine g_iload (pc2 := 98) dX9_copy_96 rfl rfl ?_
                    refine g_i2l (pc2 := 99) dX9_copy_98 rfl ?_
                    refine g_ladd (pc2 := 100) dX9_copy_99 rfl ?_
                    refine g_aload_n (pc2 := 101) dX9_copy_100 rfl rfl ?_
                    refine g_geta (pc2 := 104) dX9_copy_101 fl_X9_101 gk_1 rfl rfl ?_
                    refine g_iload_n (pc2 := 105) dX9_copy_104 rfl rfl ?_
                    obtain ⟨hx, h⟩ := h
                    refine g_iald (pc2 := 106) dX9_copy_105 gk_170 hx rfl ?_
                    refine g_i2l (pc2 := 107) dX9_copy_106 rfl ?_
                    refine g_lcmp (pc2 := 108) dX9_copy_107 rfl ?_
                    refine g_if_le (tgt := 117) (pc2 := 111) dX9_copy_108 (by decide) rfl (fun c => ?_) (fun c => ?_)
                    · have h := h.1 c
                      refine g_iconst (v := 0) (pc2 := 118) dX9_copy_117 (by decide) rfl ?_
                      refine g_istore (pc2 := 120) dX9_copy_118 (by decide) rfl rfl ?_
                      exact g_lw (lv2 := [some (.ref 1), some (.int x1), some (.int x2), some (.int x3), some (.int x4), some (.int x5), some (.int 0)]) ⟨rfl, ⟨rfl, ⟨rfl, ⟨rfl, ⟨rfl, ⟨rfl, ⟨rfl, trivial⟩⟩⟩⟩⟩⟩⟩ h
                    · have h := h.2 c
                      refine g_aload_n (pc2 := 112) dX9_copy_111 rfl rfl ?_
                      refine g_iconst (v := 2) (pc2 := 113) dX9_copy_112 (by decide) rfl ?_
                      refine g_callV (M2 := mX9_meets) (as := [.int 2]) (st := []) (pc2 := 116) dX9_copy_113 ml_X9_175 mvX9_meets gk_1 rfl rfl rfl (Nat.le_of_ble_eq_true rfl) (Nat.le_refl _) rfl (h.mono ?_)
                      rintro _ σ15 ⟨r16, rfl, h⟩
                      show gG (d + 1) mX9_copy 116 _ [.int r16] σ15 Q
                      exact g_iret dX9_copy_116 rfl h
          · have h := h.2 c
            refine g_aload_n (pc2 := 57) dX9_copy_56 rfl rfl ?_
            refine g_iconst (v := 4) (pc2 := 58) dX9_copy_57 (by decide) rfl ?_
            refine g_callV (M2 := mX9_meets) (as := [.int 4]) (st := []) (pc2 := 61) dX9_copy_58 ml_X9_175 mvX9_meets gk_1 rfl rfl rfl (Nat.le_of_ble_eq_true rfl) (Nat.le_refl _) rfl (h.mono ?_)
            rintro _ σ17 ⟨r18, rfl, h⟩
            show gG (d + 1) mX9_copy 61 _ [.int r18] σ17 Q
            exact g_iret dX9_copy_61 rfl h
        · have h := h.2 c
          refine g_aload_n (pc2 := 36) dX9_copy_35 rfl rfl ?_
          refine g_iconst (v := 1) (pc2 := 37) dX9_copy_36 (by decide) rfl ?_
          refine g_callV (M2 := mX9_meets) (as := [.int 1]) (st := []) (pc2 := 40) dX9_copy_37 ml_X9_175 mvX9_meets gk_1 rfl rfl rfl (Nat.le_of_ble_eq_true rfl) (Nat.le_refl _) rfl (h.mono ?_)
          rintro _ σ19 ⟨r20, rfl, h⟩
          show gG (d + 1) mX9_copy 40 _ [.int r20] σ19 Q
          exact g_iret dX9_copy_40 rfl h
    · have h := h.2 c
      refine g_bipush (v := (-2)) (pc2 := 16) dX9_copy_14 (by decide) rfl ?_
      exact g_iret dX9_copy_16 rfl h
set_option maxRecDepth 20000 in
theorem bX9_copy_120 {d : Nat} {σ : gw_S} {Q : Option Value → gw_S → Prop} {x1 : Int32} {x2 : Int32} {x3 : Int32} {x4 : Int32} {x5 : Int32} {x6 : Int32}   (h : ((x5 ≤ x6) → (gG (d + 1) mX9_copy 157 [some (.ref 1), none, none, some (.int x3), some (.int x4), some (.int x5), some (.int 0)] [] σ Q)) ∧ ((¬ x5 ≤ x6) → (vp_in (((60 * x1) + x2) + x6) 240 ∧ (vp_in x6 60 ∧ (∀ s21 : gw_S, s21 = gw_u σ 172 x6.toNatClampNeg (σ 171 (((60 * x1) + x2) + x6).toNatClampNeg) → (gG (d + 1) mX9_copy 120 [some (.ref 1), some (.int x1), some (.int x2), some (.int x3), some (.int x4), some (.int x5), some (.int (x6 + 1))] [] s21 Q)))))) : gG (d + 1) mX9_copy 120 [some (.ref 1), some (.int x1), some (.int x2), some (.int x3), some (.int x4), some (.int x5), some (.int x6)] [] σ Q := by
  refine g_iload (pc2 := 122) dX9_copy_120 rfl rfl ?_
  refine g_iload (pc2 := 124) dX9_copy_122 rfl rfl ?_
  refine g_icmp_ge (tgt := 154) (pc2 := 127) dX9_copy_124 (by decide) rfl (fun c => ?_) (fun c => ?_)
  · have h := h.1 c
    refine g_iconst (v := 0) (pc2 := 155) dX9_copy_154 (by decide) rfl ?_
    refine g_istore (pc2 := 157) dX9_copy_155 (by decide) rfl rfl ?_
    exact g_lw (lv2 := [some (.ref 1), none, none, some (.int x3), some (.int x4), some (.int x5), some (.int 0)]) ⟨rfl, ⟨rfl, ⟨rfl, ⟨rfl, ⟨rfl, trivial⟩⟩⟩⟩⟩ h
  · have h := h.2 c
    refine g_aload_n (pc2 := 128) dX9_copy_127 rfl rfl ?_
    refine g_geta (pc2 := 131) dX9_copy_128 fl_X9_107 gk_1 rfl rfl ?_
    refine g_iload (pc2 := 133) dX9_copy_131 rfl rfl ?_
    refine g_aload_n (pc2 := 134) dX9_copy_133 rfl rfl ?_
    refine g_geta (pc2 := 137) dX9_copy_134 fl_X9_104 gk_1 rfl rfl ?_
    refine g_bipush (v := 60) (pc2 := 139) dX9_copy_137 (by decide) rfl ?_
    refine g_iload_n (pc2 := 140) dX9_copy_139 rfl rfl ?_
    refine g_imul (pc2 := 141) dX9_copy_140 rfl ?_
    refine g_iload_n (pc2 := 142) dX9_copy_141 rfl rfl ?_
    refine g_iadd (pc2 := 143) dX9_copy_142 rfl ?_
    refine g_iload (pc2 := 145) dX9_copy_143 rfl rfl ?_
    refine g_iadd (pc2 := 146) dX9_copy_145 rfl ?_
    obtain ⟨hx, h⟩ := h
    refine g_iald (pc2 := 147) dX9_copy_146 gk_171 hx rfl ?_
    obtain ⟨hx, h⟩ := h
    refine g_iast2 (pc2 := 148) dX9_copy_147 gk_172 hx rfl (fun s21 es21 => ?_)
    replace h := h s21 es21
    refine g_iinc2 (c := 1) (pc2 := 151) dX9_copy_148 rfl (by decide) (by decide) rfl rfl ?_
    refine g_goto (tgt := 120) dX9_copy_151 (by decide) ?_
    exact g_lw (lv2 := [some (.ref 1), some (.int x1), some (.int x2), some (.int x3), some (.int x4), some (.int x5), some (.int (x6 + 1))]) ⟨rfl, ⟨rfl, ⟨rfl, ⟨rfl, ⟨rfl, ⟨rfl, ⟨rfl, trivial⟩⟩⟩⟩⟩⟩⟩ h
set_option maxRecDepth 20000 in
theorem bX9_copy_157 {d : Nat} {σ : gw_S} {Q : Option Value → gw_S → Prop} {x3 : Int32} {x4 : Int32} {x5 : Int32} {x6 : Int32}   (h : ((x5 ≤ x6) → (Q (some (.int 1)) σ)) ∧ ((¬ x5 ≤ x6) → (vp_in x6 60 ∧ (vp_in (((60 * x3) + x4) + x6) 240 ∧ (∀ s22 : gw_S, s22 = gw_u σ 171 (((60 * x3) + x4) + x6).toNatClampNeg (σ 172 x6.toNatClampNeg) → (gG (d + 1) mX9_copy 157 [some (.ref 1), none, none, some (.int x3), some (.int x4), some (.int x5), some (.int (x6 + 1))] [] s22 Q)))))) : gG (d + 1) mX9_copy 157 [some (.ref 1), none, none, some (.int x3), some (.int x4), some (.int x5), some (.int x6)] [] σ Q := by
  refine g_iload (pc2 := 159) dX9_copy_157 rfl rfl ?_
  refine g_iload (pc2 := 161) dX9_copy_159 rfl rfl ?_
  refine g_icmp_ge (tgt := 192) (pc2 := 164) dX9_copy_161 (by decide) rfl (fun c => ?_) (fun c => ?_)
  · have h := h.1 c
    refine g_iconst (v := 1) (pc2 := 193) dX9_copy_192 (by decide) rfl ?_
    exact g_iret dX9_copy_193 rfl h
  · have h := h.2 c
    refine g_aload_n (pc2 := 165) dX9_copy_164 rfl rfl ?_
    refine g_geta (pc2 := 168) dX9_copy_165 fl_X9_104 gk_1 rfl rfl ?_
    refine g_bipush (v := 60) (pc2 := 170) dX9_copy_168 (by decide) rfl ?_
    refine g_iload_n (pc2 := 171) dX9_copy_170 rfl rfl ?_
    refine g_imul (pc2 := 172) dX9_copy_171 rfl ?_
    refine g_iload (pc2 := 174) dX9_copy_172 rfl rfl ?_
    refine g_iadd (pc2 := 175) dX9_copy_174 rfl ?_
    refine g_iload (pc2 := 177) dX9_copy_175 rfl rfl ?_
    refine g_iadd (pc2 := 178) dX9_copy_177 rfl ?_
    refine g_aload_n (pc2 := 179) dX9_copy_178 rfl rfl ?_
    refine g_geta (pc2 := 182) dX9_copy_179 fl_X9_107 gk_1 rfl rfl ?_
    refine g_iload (pc2 := 184) dX9_copy_182 rfl rfl ?_
    obtain ⟨hx, h⟩ := h
    refine g_iald (pc2 := 185) dX9_copy_184 gk_172 hx rfl ?_
    obtain ⟨hx, h⟩ := h
    refine g_iast2 (pc2 := 186) dX9_copy_185 gk_171 hx rfl (fun s22 es22 => ?_)
    replace h := h s22 es22
    refine g_iinc2 (c := 1) (pc2 := 189) dX9_copy_186 rfl (by decide) (by decide) rfl rfl ?_
    refine g_goto (tgt := 157) dX9_copy_189 (by decide) ?_
    exact g_lw (lv2 := [some (.ref 1), none, none, some (.int x3), some (.int x4), some (.int x5), some (.int (x6 + 1))]) ⟨rfl, ⟨rfl, ⟨rfl, ⟨rfl, ⟨rfl, trivial⟩⟩⟩⟩⟩ h
set_option maxRecDepth 20000 in
theorem eX9_corks {d : Nat} {σ : gw_S} {Q : Option Value → gw_S → Prop} {x1 : Int32} {x2 : Int32}   (h : gB d mX9_isDay [.int x1] σ (fun v σ1 => ∃ r2 : Int32, v = some (.int r2) ∧ (((r2 = 0) → (Q (some (.int (-2))) σ1)) ∧ ((¬ r2 = 0) → (gB d mX9_in [.int x2, .int (-1), .int 2] σ1 (fun v σ3 => ∃ r4 : Int32, v = some (.int r4) ∧ (((r4 = 0) → (Q (some (.int (-2))) σ3)) ∧ ((¬ r4 = 0) → (gB d mX9_corksBy [.ref 1, .int x1] σ3 (fun v σ5 => ∃ r6 : Int32, v = some (.int r6) ∧ (gB d mX9_ofCorks [.ref 1, .int r6, .int x2] σ5 (fun v σ7 => ∃ r8 : Int32, v = some (.int r8) ∧ (Q (some (.int r8)) σ7))))))))))))) : gB (d + 1) mX9_corks [.ref 1, .int x1, .int x2] σ Q := by
  refine gB_of rfl (Nat.le_of_ble_eq_true rfl) (g_lw (lv2 := [some (.ref 1), some (.int x1), some (.int x2)]) ⟨rfl, ⟨rfl, ⟨rfl, trivial⟩⟩⟩ ?_)
  refine g_iload_n (pc2 := 1) dX9_corks_0 rfl rfl ?_
  refine g_callS (M2 := mX9_isDay) (as := [.int x1]) (st := []) (pc2 := 4) dX9_corks_1 ml_X9_163 msX9_isDay rfl rfl (Nat.le_of_ble_eq_true rfl) (Nat.le_refl _) rfl (h.mono ?_)
  rintro _ σ1 ⟨r2, rfl, h⟩
  show gG (d + 1) mX9_corks 4 _ [.int r2] σ1 Q
  refine g_if_eq (tgt := 29) (pc2 := 7) dX9_corks_4 (by decide) rfl (fun c => ?_) (fun c => ?_)
  · have h := h.1 c
    refine g_bipush (v := (-2)) (pc2 := 31) dX9_corks_29 (by decide) rfl ?_
    exact g_iret dX9_corks_31 rfl h
  · have h := h.2 c
    refine g_iload_n (pc2 := 8) dX9_corks_7 rfl rfl ?_
    refine g_iconst (v := (-1)) (pc2 := 9) dX9_corks_8 (by decide) rfl ?_
    refine g_iconst (v := 2) (pc2 := 10) dX9_corks_9 (by decide) rfl ?_
    refine g_callS (M2 := mX9_in) (as := [.int x2, .int (-1), .int 2]) (st := []) (pc2 := 13) dX9_corks_10 ml_X9_116 msX9_in rfl rfl (Nat.le_of_ble_eq_true rfl) (Nat.le_refl _) rfl (h.mono ?_)
    rintro _ σ3 ⟨r4, rfl, h⟩
    show gG (d + 1) mX9_corks 13 _ [.int r4] σ3 Q
    refine g_if_eq (tgt := 29) (pc2 := 16) dX9_corks_13 (by decide) rfl (fun c => ?_) (fun c => ?_)
    · have h := h.1 c
      refine g_bipush (v := (-2)) (pc2 := 31) dX9_corks_29 (by decide) rfl ?_
      exact g_iret dX9_corks_31 rfl h
    · have h := h.2 c
      refine g_aload_n (pc2 := 17) dX9_corks_16 rfl rfl ?_
      refine g_aload_n (pc2 := 18) dX9_corks_17 rfl rfl ?_
      refine g_iload_n (pc2 := 19) dX9_corks_18 rfl rfl ?_
      refine g_callV (M2 := mX9_corksBy) (as := [.int x1]) (st := [.ref 1]) (pc2 := 22) dX9_corks_19 ml_X9_290 mvX9_corksBy gk_1 rfl rfl rfl (Nat.le_of_ble_eq_true rfl) (Nat.le_refl _) rfl (h.mono ?_)
      rintro _ σ5 ⟨r6, rfl, h⟩
      show gG (d + 1) mX9_corks 22 _ [.int r6, .ref 1] σ5 Q
      refine g_iload_n (pc2 := 23) dX9_corks_22 rfl rfl ?_
      refine g_callV (M2 := mX9_ofCorks) (as := [.int r6, .int x2]) (st := []) (pc2 := 26) dX9_corks_23 ml_X9_293 mvX9_ofCorks gk_1 rfl rfl rfl (Nat.le_of_ble_eq_true rfl) (Nat.le_refl _) rfl (h.mono ?_)
      rintro _ σ7 ⟨r8, rfl, h⟩
      show gG (d + 1) mX9_corks 26 _ [.int r8] σ7 Q
      refine g_goto (tgt := 31) dX9_corks_26 (by decide) ?_
      exact g_iret dX9_corks_31 rfl h
set_option maxRecDepth 20000 in
theorem eX9_corksBy {d : Nat} {σ : gw_S} {Q : Option Value → gw_S → Prop} {x1 : Int32}   (h : gB d mX9_asTold [.ref 1] σ (fun v σ1 => v = none ∧ (gB d mX9_sings [.ref 1, .int x1, .int 0, .int (-1), .int (-1), .int (-1)] σ1 (fun v σ2 => ∃ r3 : Int32, v = some (.int r3) ∧ (((r3 = 0) → (gG (d + 1) mX9_corksBy 20 [some (.ref 1), some (.int x1), some (.int 0), none, none] [] σ2 Q)) ∧ ((¬ r3 = 0) → (Q (some (.int 0)) σ2))))))) : gB (d + 1) mX9_corksBy [.ref 1, .int x1] σ Q := by
  refine gB_of rfl (Nat.le_of_ble_eq_true rfl) (g_lw (lv2 := [some (.ref 1), some (.int x1), none, none, none]) ⟨rfl, ⟨rfl, trivial⟩⟩ ?_)
  refine g_aload_n (pc2 := 1) dX9_corksBy_0 rfl rfl ?_
  refine g_callV (M2 := mX9_asTold) (as := []) (st := []) (pc2 := 4) dX9_corksBy_1 ml_X9_236 mvX9_asTold gk_1 rfl rfl rfl (Nat.le_of_ble_eq_true rfl) (Nat.le_refl _) rfl (h.mono ?_)
  rintro _ σ1 ⟨rfl, h⟩
  show gG (d + 1) mX9_corksBy 4 _ [] σ1 Q
  refine g_aload_n (pc2 := 5) dX9_corksBy_4 rfl rfl ?_
  refine g_iload_n (pc2 := 6) dX9_corksBy_5 rfl rfl ?_
  refine g_iconst (v := 0) (pc2 := 7) dX9_corksBy_6 (by decide) rfl ?_
  refine g_iconst (v := (-1)) (pc2 := 8) dX9_corksBy_7 (by decide) rfl ?_
  refine g_iconst (v := (-1)) (pc2 := 9) dX9_corksBy_8 (by decide) rfl ?_
  refine g_iconst (v := (-1)) (pc2 := 10) dX9_corksBy_9 (by decide) rfl ?_
  refine g_callV (M2 := mX9_sings) (as := [.int x1, .int 0, .int (-1), .int (-1), .int (-1)]) (st := []) (pc2 := 13) dX9_corksBy_10 ml_X9_286 mvX9_sings gk_1 rfl rfl rfl (Nat.le_of_ble_eq_true rfl) (Nat.le_refl _) rfl (h.mono ?_)
  rintro _ σ2 ⟨r3, rfl, h⟩
  show gG (d + 1) mX9_corksBy 13 _ [.int r3] σ2 Q
  refine g_if_eq (tgt := 18) (pc2 := 16) dX9_corksBy_13 (by decide) rfl (fun c => ?_) (fun c => ?_)
  · have h := h.1 c
    refine g_iconst (v := 0) (pc2 := 19) dX9_corksBy_18 (by decide) rfl ?_
    refine g_istore_n (pc2 := 20) dX9_corksBy_19 (by decide) rfl rfl ?_
    exact g_lw (lv2 := [some (.ref 1), some (.int x1), some (.int 0), none, none]) ⟨rfl, ⟨rfl, ⟨rfl, trivial⟩⟩⟩ h
  · have h := h.2 c
    refine g_iconst (v := 0) (pc2 := 17) dX9_corksBy_16 (by decide) rfl ?_
    exact g_iret dX9_corksBy_17 rfl h
set_option maxRecDepth 20000 in
theorem bX9_corksBy_20 {d : Nat} {σ : gw_S} {Q : Option Value → gw_S → Prop} {x1 : Int32} {x2 : Int32}   (h : (((σ 1 2) ≤ x2) → (gG (d + 1) mX9_corksBy 50 [some (.ref 1), some (.int x1), some (.int 0), none, none] [] σ Q)) ∧ ((¬ (σ 1 2) ≤ x2) → (gB d mX9_sings [.ref 1, .int x1, .int 1, .int x2, .int (-1), .int (-1)] σ (fun v σ4 => ∃ r5 : Int32, v = some (.int r5) ∧ (((r5 = 0) → (gG (d + 1) mX9_corksBy 20 [some (.ref 1), some (.int x1), some (.int (x2 + 1)), none, none] [] σ4 Q)) ∧ ((¬ r5 = 0) → (Q (some (.int 1)) σ4))))))) : gG (d + 1) mX9_corksBy 20 [some (.ref 1), some (.int x1), some (.int x2), none, none] [] σ Q := by
  refine g_iload_n (pc2 := 21) dX9_corksBy_20 rfl rfl ?_
  refine g_aload_n (pc2 := 22) dX9_corksBy_21 rfl rfl ?_
  refine g_geti (pc2 := 25) dX9_corksBy_22 fl_X9_128 gk_1 rfl rfl ?_
  refine g_icmp_ge (tgt := 48) (pc2 := 28) dX9_corksBy_25 (by decide) rfl (fun c => ?_) (fun c => ?_)
  · have h := h.1 c
    refine g_iconst (v := 0) (pc2 := 49) dX9_corksBy_48 (by decide) rfl ?_
    refine g_istore_n (pc2 := 50) dX9_corksBy_49 (by decide) rfl rfl ?_
    exact g_lw (lv2 := [some (.ref 1), some (.int x1), some (.int 0), none, none]) ⟨rfl, ⟨rfl, ⟨rfl, trivial⟩⟩⟩ h
  · have h := h.2 c
    refine g_aload_n (pc2 := 29) dX9_corksBy_28 rfl rfl ?_
    refine g_iload_n (pc2 := 30) dX9_corksBy_29 rfl rfl ?_
    refine g_iconst (v := 1) (pc2 := 31) dX9_corksBy_30 (by decide) rfl ?_
    refine g_iload_n (pc2 := 32) dX9_corksBy_31 rfl rfl ?_
    refine g_iconst (v := (-1)) (pc2 := 33) dX9_corksBy_32 (by decide) rfl ?_
    refine g_iconst (v := (-1)) (pc2 := 34) dX9_corksBy_33 (by decide) rfl ?_
    refine g_callV (M2 := mX9_sings) (as := [.int x1, .int 1, .int x2, .int (-1), .int (-1)]) (st := []) (pc2 := 37) dX9_corksBy_34 ml_X9_286 mvX9_sings gk_1 rfl rfl rfl (Nat.le_of_ble_eq_true rfl) (Nat.le_refl _) rfl (h.mono ?_)
    rintro _ σ4 ⟨r5, rfl, h⟩
    show gG (d + 1) mX9_corksBy 37 _ [.int r5] σ4 Q
    refine g_if_eq (tgt := 42) (pc2 := 40) dX9_corksBy_37 (by decide) rfl (fun c => ?_) (fun c => ?_)
    · have h := h.1 c
      refine g_iinc2 (c := 1) (pc2 := 45) dX9_corksBy_42 rfl (by decide) (by decide) rfl rfl ?_
      refine g_goto (tgt := 20) dX9_corksBy_45 (by decide) ?_
      exact g_lw (lv2 := [some (.ref 1), some (.int x1), some (.int (x2 + 1)), none, none]) ⟨rfl, ⟨rfl, ⟨rfl, trivial⟩⟩⟩ h
    · have h := h.2 c
      refine g_iconst (v := 1) (pc2 := 41) dX9_corksBy_40 (by decide) rfl ?_
      exact g_iret dX9_corksBy_41 rfl h
set_option maxRecDepth 20000 in
theorem bX9_corksBy_50 {d : Nat} {σ : gw_S} {Q : Option Value → gw_S → Prop} {x1 : Int32} {x2 : Int32}   (h : (((σ 1 2) ≤ x2) → (gG (d + 1) mX9_corksBy 98 [some (.ref 1), some (.int x1), some (.int 0), none, none] [] σ Q)) ∧ ((¬ (σ 1 2) ≤ x2) → (gG (d + 1) mX9_corksBy 62 [some (.ref 1), some (.int x1), some (.int x2), some (.int (x2 + 1)), none] [] σ Q))) : gG (d + 1) mX9_corksBy 50 [some (.ref 1), some (.int x1), some (.int x2), none, none] [] σ Q := by
  refine g_iload_n (pc2 := 51) dX9_corksBy_50 rfl rfl ?_
  refine g_aload_n (pc2 := 52) dX9_corksBy_51 rfl rfl ?_
  refine g_geti (pc2 := 55) dX9_corksBy_52 fl_X9_128 gk_1 rfl rfl ?_
  refine g_icmp_ge (tgt := 96) (pc2 := 58) dX9_corksBy_55 (by decide) rfl (fun c => ?_) (fun c => ?_)
  · have h := h.1 c
    refine g_iconst (v := 0) (pc2 := 97) dX9_corksBy_96 (by decide) rfl ?_
    refine g_istore_n (pc2 := 98) dX9_corksBy_97 (by decide) rfl rfl ?_
    exact g_lw (lv2 := [some (.ref 1), some (.int x1), some (.int 0), none, none]) ⟨rfl, ⟨rfl, ⟨rfl, trivial⟩⟩⟩ h
  · have h := h.2 c
    refine g_iload_n (pc2 := 59) dX9_corksBy_58 rfl rfl ?_
    refine g_iconst (v := 1) (pc2 := 60) dX9_corksBy_59 (by decide) rfl ?_
    refine g_iadd (pc2 := 61) dX9_corksBy_60 rfl ?_
    refine g_istore_n (pc2 := 62) dX9_corksBy_61 (by decide) rfl rfl ?_
    exact g_lw (lv2 := [some (.ref 1), some (.int x1), some (.int x2), some (.int (x2 + 1)), none]) ⟨rfl, ⟨rfl, ⟨rfl, ⟨rfl, trivial⟩⟩⟩⟩ h
set_option maxRecDepth 20000 in
theorem bX9_corksBy_98 {d : Nat} {σ : gw_S} {Q : Option Value → gw_S → Prop} {x1 : Int32} {x2 : Int32}   (h : (((σ 1 2) ≤ x2) → (Q (some (.int (-1))) σ)) ∧ ((¬ (σ 1 2) ≤ x2) → (gG (d + 1) mX9_corksBy 110 [some (.ref 1), some (.int x1), some (.int x2), some (.int (x2 + 1)), none] [] σ Q))) : gG (d + 1) mX9_corksBy 98 [some (.ref 1), some (.int x1), some (.int x2), none, none] [] σ Q := by
  refine g_iload_n (pc2 := 99) dX9_corksBy_98 rfl rfl ?_
  refine g_aload_n (pc2 := 100) dX9_corksBy_99 rfl rfl ?_
  refine g_geti (pc2 := 103) dX9_corksBy_100 fl_X9_128 gk_1 rfl rfl ?_
  refine g_icmp_ge (tgt := 165) (pc2 := 106) dX9_corksBy_103 (by decide) rfl (fun c => ?_) (fun c => ?_)
  · have h := h.1 c
    refine g_iconst (v := (-1)) (pc2 := 166) dX9_corksBy_165 (by decide) rfl ?_
    exact g_iret dX9_corksBy_166 rfl h
  · have h := h.2 c
    refine g_iload_n (pc2 := 107) dX9_corksBy_106 rfl rfl ?_
    refine g_iconst (v := 1) (pc2 := 108) dX9_corksBy_107 (by decide) rfl ?_
    refine g_iadd (pc2 := 109) dX9_corksBy_108 rfl ?_
    refine g_istore_n (pc2 := 110) dX9_corksBy_109 (by decide) rfl rfl ?_
    exact g_lw (lv2 := [some (.ref 1), some (.int x1), some (.int x2), some (.int (x2 + 1)), none]) ⟨rfl, ⟨rfl, ⟨rfl, ⟨rfl, trivial⟩⟩⟩⟩ h
set_option maxRecDepth 20000 in
theorem bX9_corksBy_62 {d : Nat} {σ : gw_S} {Q : Option Value → gw_S → Prop} {x1 : Int32} {x2 : Int32} {x3 : Int32}   (h : (((σ 1 2) ≤ x3) → (gG (d + 1) mX9_corksBy 50 [some (.ref 1), some (.int x1), some (.int (x2 + 1)), none, none] [] σ Q)) ∧ ((¬ (σ 1 2) ≤ x3) → (gB d mX9_sings [.ref 1, .int x1, .int 2, .int x2, .int x3, .int (-1)] σ (fun v σ6 => ∃ r7 : Int32, v = some (.int r7) ∧ (((r7 = 0) → (gG (d + 1) mX9_corksBy 62 [some (.ref 1), some (.int x1), some (.int x2), some (.int (x3 + 1)), none] [] σ6 Q)) ∧ ((¬ r7 = 0) → (Q (some (.int 2)) σ6))))))) : gG (d + 1) mX9_corksBy 62 [some (.ref 1), some (.int x1), some (.int x2), some (.int x3), none] [] σ Q := by
  refine g_iload_n (pc2 := 63) dX9_corksBy_62 rfl rfl ?_
  refine g_aload_n (pc2 := 64) dX9_corksBy_63 rfl rfl ?_
  refine g_geti (pc2 := 67) dX9_corksBy_64 fl_X9_128 gk_1 rfl rfl ?_
  refine g_icmp_ge (tgt := 90) (pc2 := 70) dX9_corksBy_67 (by decide) rfl (fun c => ?_) (fun c => ?_)
  · have h := h.1 c
    refine g_iinc2 (c := 1) (pc2 := 93) dX9_corksBy_90 rfl (by decide) (by decide) rfl rfl ?_
    refine g_goto (tgt := 50) dX9_corksBy_93 (by decide) ?_
    exact g_lw (lv2 := [some (.ref 1), some (.int x1), some (.int (x2 + 1)), none, none]) ⟨rfl, ⟨rfl, ⟨rfl, trivial⟩⟩⟩ h
  · have h := h.2 c
    refine g_aload_n (pc2 := 71) dX9_corksBy_70 rfl rfl ?_
    refine g_iload_n (pc2 := 72) dX9_corksBy_71 rfl rfl ?_
    refine g_iconst (v := 2) (pc2 := 73) dX9_corksBy_72 (by decide) rfl ?_
    refine g_iload_n (pc2 := 74) dX9_corksBy_73 rfl rfl ?_
    refine g_iload_n (pc2 := 75) dX9_corksBy_74 rfl rfl ?_
    refine g_iconst (v := (-1)) (pc2 := 76) dX9_corksBy_75 (by decide) rfl ?_
    refine g_callV (M2 := mX9_sings) (as := [.int x1, .int 2, .int x2, .int x3, .int (-1)]) (st := []) (pc2 := 79) dX9_corksBy_76 ml_X9_286 mvX9_sings gk_1 rfl rfl rfl (Nat.le_of_ble_eq_true rfl) (Nat.le_refl _) rfl (h.mono ?_)
    rintro _ σ6 ⟨r7, rfl, h⟩
    show gG (d + 1) mX9_corksBy 79 _ [.int r7] σ6 Q
    refine g_if_eq (tgt := 84) (pc2 := 82) dX9_corksBy_79 (by decide) rfl (fun c => ?_) (fun c => ?_)
    · have h := h.1 c
      refine g_iinc2 (c := 1) (pc2 := 87) dX9_corksBy_84 rfl (by decide) (by decide) rfl rfl ?_
      refine g_goto (tgt := 62) dX9_corksBy_87 (by decide) ?_
      exact g_lw (lv2 := [some (.ref 1), some (.int x1), some (.int x2), some (.int (x3 + 1)), none]) ⟨rfl, ⟨rfl, ⟨rfl, ⟨rfl, trivial⟩⟩⟩⟩ h
    · have h := h.2 c
      refine g_iconst (v := 2) (pc2 := 83) dX9_corksBy_82 (by decide) rfl ?_
      exact g_iret dX9_corksBy_83 rfl h
set_option maxRecDepth 20000 in
theorem bX9_corksBy_110 {d : Nat} {σ : gw_S} {Q : Option Value → gw_S → Prop} {x1 : Int32} {x2 : Int32} {x3 : Int32}   (h : (((σ 1 2) ≤ x3) → (gG (d + 1) mX9_corksBy 98 [some (.ref 1), some (.int x1), some (.int (x2 + 1)), none, none] [] σ Q)) ∧ ((¬ (σ 1 2) ≤ x3) → (gG (d + 1) mX9_corksBy 123 [some (.ref 1), some (.int x1), some (.int x2), some (.int x3), some (.int (x3 + 1))] [] σ Q))) : gG (d + 1) mX9_corksBy 110 [some (.ref 1), some (.int x1), some (.int x2), some (.int x3), none] [] σ Q := by
  refine g_iload_n (pc2 := 111) dX9_corksBy_110 rfl rfl ?_
  refine g_aload_n (pc2 := 112) dX9_corksBy_111 rfl rfl ?_
  refine g_geti (pc2 := 115) dX9_corksBy_112 fl_X9_128 gk_1 rfl rfl ?_
  refine g_icmp_ge (tgt := 159) (pc2 := 118) dX9_corksBy_115 (by decide) rfl (fun c => ?_) (fun c => ?_)
  · have h := h.1 c
    refine g_iinc2 (c := 1) (pc2 := 162) dX9_corksBy_159 rfl (by decide) (by decide) rfl rfl ?_
    refine g_goto (tgt := 98) dX9_corksBy_162 (by decide) ?_
    exact g_lw (lv2 := [some (.ref 1), some (.int x1), some (.int (x2 + 1)), none, none]) ⟨rfl, ⟨rfl, ⟨rfl, trivial⟩⟩⟩ h
  · have h := h.2 c
    refine g_iload_n (pc2 := 119) dX9_corksBy_118 rfl rfl ?_
    refine g_iconst (v := 1) (pc2 := 120) dX9_corksBy_119 (by decide) rfl ?_
    refine g_iadd (pc2 := 121) dX9_corksBy_120 rfl ?_
    refine g_istore (pc2 := 123) dX9_corksBy_121 (by decide) rfl rfl ?_
    exact g_lw (lv2 := [some (.ref 1), some (.int x1), some (.int x2), some (.int x3), some (.int (x3 + 1))]) ⟨rfl, ⟨rfl, ⟨rfl, ⟨rfl, ⟨rfl, trivial⟩⟩⟩⟩⟩ h
set_option maxRecDepth 20000 in
theorem bX9_corksBy_123 {d : Nat} {σ : gw_S} {Q : Option Value → gw_S → Prop} {x1 : Int32} {x2 : Int32} {x3 : Int32} {x4 : Int32}   (h : (((σ 1 2) ≤ x4) → (gG (d + 1) mX9_corksBy 110 [some (.ref 1), some (.int x1), some (.int x2), some (.int (x3 + 1)), none] [] σ Q)) ∧ ((¬ (σ 1 2) ≤ x4) → (gB d mX9_sings [.ref 1, .int x1, .int 3, .int x2, .int x3, .int x4] σ (fun v σ8 => ∃ r9 : Int32, v = some (.int r9) ∧ (((r9 = 0) → (gG (d + 1) mX9_corksBy 123 [some (.ref 1), some (.int x1), some (.int x2), some (.int x3), some (.int (x4 + 1))] [] σ8 Q)) ∧ ((¬ r9 = 0) → (Q (some (.int 3)) σ8))))))) : gG (d + 1) mX9_corksBy 123 [some (.ref 1), some (.int x1), some (.int x2), some (.int x3), some (.int x4)] [] σ Q := by
  refine g_iload (pc2 := 125) dX9_corksBy_123 rfl rfl ?_
  refine g_aload_n (pc2 := 126) dX9_corksBy_125 rfl rfl ?_
  refine g_geti (pc2 := 129) dX9_corksBy_126 fl_X9_128 gk_1 rfl rfl ?_
  refine g_icmp_ge (tgt := 153) (pc2 := 132) dX9_corksBy_129 (by decide) rfl (fun c => ?_) (fun c => ?_)
  · have h := h.1 c
    refine g_iinc2 (c := 1) (pc2 := 156) dX9_corksBy_153 rfl (by decide) (by decide) rfl rfl ?_
    refine g_goto (tgt := 110) dX9_corksBy_156 (by decide) ?_
    exact g_lw (lv2 := [some (.ref 1), some (.int x1), some (.int x2), some (.int (x3 + 1)), none]) ⟨rfl, ⟨rfl, ⟨rfl, ⟨rfl, trivial⟩⟩⟩⟩ h
  · have h := h.2 c
    refine g_aload_n (pc2 := 133) dX9_corksBy_132 rfl rfl ?_
    refine g_iload_n (pc2 := 134) dX9_corksBy_133 rfl rfl ?_
    refine g_iconst (v := 3) (pc2 := 135) dX9_corksBy_134 (by decide) rfl ?_
    refine g_iload_n (pc2 := 136) dX9_corksBy_135 rfl rfl ?_
    refine g_iload_n (pc2 := 137) dX9_corksBy_136 rfl rfl ?_
    refine g_iload (pc2 := 139) dX9_corksBy_137 rfl rfl ?_
    refine g_callV (M2 := mX9_sings) (as := [.int x1, .int 3, .int x2, .int x3, .int x4]) (st := []) (pc2 := 142) dX9_corksBy_139 ml_X9_286 mvX9_sings gk_1 rfl rfl rfl (Nat.le_of_ble_eq_true rfl) (Nat.le_refl _) rfl (h.mono ?_)
    rintro _ σ8 ⟨r9, rfl, h⟩
    show gG (d + 1) mX9_corksBy 142 _ [.int r9] σ8 Q
    refine g_if_eq (tgt := 147) (pc2 := 145) dX9_corksBy_142 (by decide) rfl (fun c => ?_) (fun c => ?_)
    · have h := h.1 c
      refine g_iinc2 (c := 1) (pc2 := 150) dX9_corksBy_147 rfl (by decide) (by decide) rfl rfl ?_
      refine g_goto (tgt := 123) dX9_corksBy_150 (by decide) ?_
      exact g_lw (lv2 := [some (.ref 1), some (.int x1), some (.int x2), some (.int x3), some (.int (x4 + 1))]) ⟨rfl, ⟨rfl, ⟨rfl, ⟨rfl, ⟨rfl, trivial⟩⟩⟩⟩⟩ h
    · have h := h.2 c
      refine g_iconst (v := 3) (pc2 := 146) dX9_corksBy_145 (by decide) rfl ?_
      exact g_iret dX9_corksBy_146 rfl h
set_option maxRecDepth 20000 in
theorem eX9_corksOne {d : Nat} {σ : gw_S} {Q : Option Value → gw_S → Prop} {x1 : Int32}   (h : (((σ 1 2) ≤ x1) → ((((0 : Int32) = 0) → (Q (some (.int 0)) σ)) ∧ ((¬ (0 : Int32) = 0) → (vp_in x1 8 ∧ (∀ s1 : gw_S, s1 = gw_u σ 157 x1.toNatClampNeg 9 → (Q (some (.int 0)) s1)))))) ∧ ((¬ (σ 1 2) ≤ x1) → (vp_in x1 8 ∧ ((((σ 157 x1.toNatClampNeg) = 9) → ((((0 : Int32) = 0) → (Q (some (.int 0)) σ)) ∧ ((¬ (0 : Int32) = 0) → (vp_in x1 8 ∧ (∀ s2 : gw_S, s2 = gw_u σ 157 x1.toNatClampNeg 9 → (Q (some (.int 0)) s2)))))) ∧ ((¬ (σ 157 x1.toNatClampNeg) = 9) → ((((1 : Int32) = 0) → (Q (some (.int 1)) σ)) ∧ ((¬ (1 : Int32) = 0) → (vp_in x1 8 ∧ (∀ s3 : gw_S, s3 = gw_u σ 157 x1.toNatClampNeg 9 → (Q (some (.int 1)) s3)))))))))) : gB d mX9_corksOne [.ref 1, .int x1] σ Q := by
  refine gB_of rfl (Nat.le_of_ble_eq_true rfl) (g_lw (lv2 := [some (.ref 1), some (.int x1), none]) ⟨rfl, ⟨rfl, trivial⟩⟩ ?_)
  refine g_iload_n (pc2 := 1) dX9_corksOne_0 rfl rfl ?_
  refine g_aload_n (pc2 := 2) dX9_corksOne_1 rfl rfl ?_
  refine g_geti (pc2 := 5) dX9_corksOne_2 fl_X9_128 gk_1 rfl rfl ?_
  refine g_icmp_ge (tgt := 23) (pc2 := 8) dX9_corksOne_5 (by decide) rfl (fun c => ?_) (fun c => ?_)
  · have h := h.1 c
    refine g_iconst (v := 0) (pc2 := 24) dX9_corksOne_23 (by decide) rfl ?_
    refine g_istore_n (pc2 := 25) dX9_corksOne_24 (by decide) rfl rfl ?_
    refine g_iload_n (pc2 := 26) dX9_corksOne_25 rfl rfl ?_
    refine g_if_eq (tgt := 37) (pc2 := 29) dX9_corksOne_26 (by decide) rfl (fun c => ?_) (fun c => ?_)
    · have h := h.1 c
      refine g_iload_n (pc2 := 38) dX9_corksOne_37 rfl rfl ?_
      exact g_zret dX9_corksOne_38 rfl rfl h
    · have h := h.2 c
      refine g_aload_n (pc2 := 30) dX9_corksOne_29 rfl rfl ?_
      refine g_geta (pc2 := 33) dX9_corksOne_30 fl_X9_61 gk_1 rfl rfl ?_
      refine g_iload_n (pc2 := 34) dX9_corksOne_33 rfl rfl ?_
      refine g_bipush (v := 9) (pc2 := 36) dX9_corksOne_34 (by decide) rfl ?_
      obtain ⟨hx, h⟩ := h
      refine g_iast2 (pc2 := 37) dX9_corksOne_36 gk_157 hx rfl (fun s1 es1 => ?_)
      replace h := h s1 es1
      refine g_iload_n (pc2 := 38) dX9_corksOne_37 rfl rfl ?_
      exact g_zret dX9_corksOne_38 rfl rfl h
  · have h := h.2 c
    refine g_aload_n (pc2 := 9) dX9_corksOne_8 rfl rfl ?_
    refine g_geta (pc2 := 12) dX9_corksOne_9 fl_X9_61 gk_1 rfl rfl ?_
    refine g_iload_n (pc2 := 13) dX9_corksOne_12 rfl rfl ?_
    obtain ⟨hx, h⟩ := h
    refine g_iald (pc2 := 14) dX9_corksOne_13 gk_157 hx rfl ?_
    refine g_bipush (v := 9) (pc2 := 16) dX9_corksOne_14 (by decide) rfl ?_
    refine g_icmp_eq (tgt := 23) (pc2 := 19) dX9_corksOne_16 (by decide) rfl (fun c => ?_) (fun c => ?_)
    · have h := h.1 c
      refine g_iconst (v := 0) (pc2 := 24) dX9_corksOne_23 (by decide) rfl ?_
      refine g_istore_n (pc2 := 25) dX9_corksOne_24 (by decide) rfl rfl ?_
      refine g_iload_n (pc2 := 26) dX9_corksOne_25 rfl rfl ?_
      refine g_if_eq (tgt := 37) (pc2 := 29) dX9_corksOne_26 (by decide) rfl (fun c => ?_) (fun c => ?_)
      · have h := h.1 c
        refine g_iload_n (pc2 := 38) dX9_corksOne_37 rfl rfl ?_
        exact g_zret dX9_corksOne_38 rfl rfl h
      · have h := h.2 c
        refine g_aload_n (pc2 := 30) dX9_corksOne_29 rfl rfl ?_
        refine g_geta (pc2 := 33) dX9_corksOne_30 fl_X9_61 gk_1 rfl rfl ?_
        refine g_iload_n (pc2 := 34) dX9_corksOne_33 rfl rfl ?_
        refine g_bipush (v := 9) (pc2 := 36) dX9_corksOne_34 (by decide) rfl ?_
        obtain ⟨hx, h⟩ := h
        refine g_iast2 (pc2 := 37) dX9_corksOne_36 gk_157 hx rfl (fun s2 es2 => ?_)
        replace h := h s2 es2
        refine g_iload_n (pc2 := 38) dX9_corksOne_37 rfl rfl ?_
        exact g_zret dX9_corksOne_38 rfl rfl h
    · have h := h.2 c
      refine g_iconst (v := 1) (pc2 := 20) dX9_corksOne_19 (by decide) rfl ?_
      refine g_goto (tgt := 24) dX9_corksOne_20 (by decide) ?_
      refine g_istore_n (pc2 := 25) dX9_corksOne_24 (by decide) rfl rfl ?_
      refine g_iload_n (pc2 := 26) dX9_corksOne_25 rfl rfl ?_
      refine g_if_eq (tgt := 37) (pc2 := 29) dX9_corksOne_26 (by decide) rfl (fun c => ?_) (fun c => ?_)
      · have h := h.1 c
        refine g_iload_n (pc2 := 38) dX9_corksOne_37 rfl rfl ?_
        exact g_zret dX9_corksOne_38 rfl rfl h
      · have h := h.2 c
        refine g_aload_n (pc2 := 30) dX9_corksOne_29 rfl rfl ?_
        refine g_geta (pc2 := 33) dX9_corksOne_30 fl_X9_61 gk_1 rfl rfl ?_
        refine g_iload_n (pc2 := 34) dX9_corksOne_33 rfl rfl ?_
        refine g_bipush (v := 9) (pc2 := 36) dX9_corksOne_34 (by decide) rfl ?_
        obtain ⟨hx, h⟩ := h
        refine g_iast2 (pc2 := 37) dX9_corksOne_36 gk_157 hx rfl (fun s3 es3 => ?_)
        replace h := h s3 es3
        refine g_iload_n (pc2 := 38) dX9_corksOne_37 rfl rfl ?_
        exact g_zret dX9_corksOne_38 rfl rfl h
set_option maxRecDepth 20000 in
theorem eX9_count {d : Nat} {σ : gw_S} {Q : Option Value → gw_S → Prop} {x1 : Int32}   (h : (x1 = 0 → (gB d mX9_sumOf [.ref 1, .int x1] σ (fun v σ1 => ∃ r2 : Int32, v = some (.int r2) ∧ (Q (some (.int r2)) σ1)))) ∧ (x1 = 1 → (gB d mX9_sumOf [.ref 1, .int x1] σ (fun v σ3 => ∃ r4 : Int32, v = some (.int r4) ∧ (Q (some (.int r4)) σ3)))) ∧ (x1 = 2 → (vp_in (x1 - 2) 2 ∧ (Q (some (.int (σ 140 (x1 - 2).toNatClampNeg))) σ))) ∧ (x1 = 3 → (vp_in (x1 - 2) 2 ∧ (Q (some (.int (σ 140 (x1 - 2).toNatClampNeg))) σ))) ∧ (x1 = 4 → (Q (some (.int (σ 1 12))) σ)) ∧ (x1 = 5 → (gB d mX9_sumOf [.ref 1, .int x1] σ (fun v σ5 => ∃ r6 : Int32, v = some (.int r6) ∧ (Q (some (.int r6)) σ5)))) ∧ (x1 = 6 → (Q (some (.int (σ 1 10))) σ)) ∧ (x1 = 7 → (Q (some (.int (σ 1 36))) σ)) ∧ (x1 = 8 → (Q (some (.int (σ 1 46))) σ)) ∧ (¬ x1 = 0 → ¬ x1 = 1 → ¬ x1 = 2 → ¬ x1 = 3 → ¬ x1 = 4 → ¬ x1 = 5 → ¬ x1 = 6 → ¬ x1 = 7 → ¬ x1 = 8 → (Q (some (.int (-2))) σ))) : gB (d + 1) mX9_count [.ref 1, .int x1] σ Q := by
  refine gB_of rfl (Nat.le_of_ble_eq_true rfl) (g_lw (lv2 := [some (.ref 1), some (.int x1)]) ⟨rfl, ⟨rfl, trivial⟩⟩ ?_)
  refine g_iload_n (pc2 := 1) dX9_count_0 rfl rfl ?_
  by_cases c0 : x1 = 0
  · have h := h.1 c0
    refine g_tabIn (x := x1) (tgt := 52) dX9_count_1 (by rw [c0]; decide) (by rw [c0]; decide) (by rw [c0]; rfl) (by decide) ?_
    refine g_aload_n (pc2 := 53) dX9_count_52 rfl rfl ?_
    refine g_iload_n (pc2 := 54) dX9_count_53 rfl rfl ?_
    refine g_callV (M2 := mX9_sumOf) (as := [.int x1]) (st := []) (pc2 := 57) dX9_count_54 ml_X9_342 mvX9_sumOf gk_1 rfl rfl rfl (Nat.le_of_ble_eq_true rfl) (Nat.le_refl _) rfl (h.mono ?_)
    rintro _ σ1 ⟨r2, rfl, h⟩
    show gG (d + 1) mX9_count 57 _ [.int r2] σ1 Q
    exact g_iret dX9_count_57 rfl h
  replace h := h.2
  by_cases c1 : x1 = 1
  · have h := h.1 c1
    refine g_tabIn (x := x1) (tgt := 52) dX9_count_1 (by rw [c1]; decide) (by rw [c1]; decide) (by rw [c1]; rfl) (by decide) ?_
    refine g_aload_n (pc2 := 53) dX9_count_52 rfl rfl ?_
    refine g_iload_n (pc2 := 54) dX9_count_53 rfl rfl ?_
    refine g_callV (M2 := mX9_sumOf) (as := [.int x1]) (st := []) (pc2 := 57) dX9_count_54 ml_X9_342 mvX9_sumOf gk_1 rfl rfl rfl (Nat.le_of_ble_eq_true rfl) (Nat.le_refl _) rfl (h.mono ?_)
    rintro _ σ3 ⟨r4, rfl, h⟩
    show gG (d + 1) mX9_count 57 _ [.int r4] σ3 Q
    exact g_iret dX9_count_57 rfl h
  replace h := h.2
  by_cases c2 : x1 = 2
  · have h := h.1 c2
    refine g_tabIn (x := x1) (tgt := 58) dX9_count_1 (by rw [c2]; decide) (by rw [c2]; decide) (by rw [c2]; rfl) (by decide) ?_
    refine g_aload_n (pc2 := 59) dX9_count_58 rfl rfl ?_
    refine g_geta (pc2 := 62) dX9_count_59 fl_X9_7 gk_1 rfl rfl ?_
    refine g_iload_n (pc2 := 63) dX9_count_62 rfl rfl ?_
    refine g_iconst (v := 2) (pc2 := 64) dX9_count_63 (by decide) rfl ?_
    refine g_isub (pc2 := 65) dX9_count_64 rfl ?_
    obtain ⟨hx, h⟩ := h
    refine g_iald (pc2 := 66) dX9_count_65 gk_140 hx rfl ?_
    exact g_iret dX9_count_66 rfl h
  replace h := h.2
  by_cases c3 : x1 = 3
  · have h := h.1 c3
    refine g_tabIn (x := x1) (tgt := 58) dX9_count_1 (by rw [c3]; decide) (by rw [c3]; decide) (by rw [c3]; rfl) (by decide) ?_
    refine g_aload_n (pc2 := 59) dX9_count_58 rfl rfl ?_
    refine g_geta (pc2 := 62) dX9_count_59 fl_X9_7 gk_1 rfl rfl ?_
    refine g_iload_n (pc2 := 63) dX9_count_62 rfl rfl ?_
    refine g_iconst (v := 2) (pc2 := 64) dX9_count_63 (by decide) rfl ?_
    refine g_isub (pc2 := 65) dX9_count_64 rfl ?_
    obtain ⟨hx, h⟩ := h
    refine g_iald (pc2 := 66) dX9_count_65 gk_140 hx rfl ?_
    exact g_iret dX9_count_66 rfl h
  replace h := h.2
  by_cases c4 : x1 = 4
  · have h := h.1 c4
    refine g_tabIn (x := x1) (tgt := 67) dX9_count_1 (by rw [c4]; decide) (by rw [c4]; decide) (by rw [c4]; rfl) (by decide) ?_
    refine g_aload_n (pc2 := 68) dX9_count_67 rfl rfl ?_
    refine g_geti (pc2 := 71) dX9_count_68 fl_X9_169 gk_1 rfl rfl ?_
    exact g_iret dX9_count_71 rfl h
  replace h := h.2
  by_cases c5 : x1 = 5
  · have h := h.1 c5
    refine g_tabIn (x := x1) (tgt := 52) dX9_count_1 (by rw [c5]; decide) (by rw [c5]; decide) (by rw [c5]; rfl) (by decide) ?_
    refine g_aload_n (pc2 := 53) dX9_count_52 rfl rfl ?_
    refine g_iload_n (pc2 := 54) dX9_count_53 rfl rfl ?_
    refine g_callV (M2 := mX9_sumOf) (as := [.int x1]) (st := []) (pc2 := 57) dX9_count_54 ml_X9_342 mvX9_sumOf gk_1 rfl rfl rfl (Nat.le_of_ble_eq_true rfl) (Nat.le_refl _) rfl (h.mono ?_)
    rintro _ σ5 ⟨r6, rfl, h⟩
    show gG (d + 1) mX9_count 57 _ [.int r6] σ5 Q
    exact g_iret dX9_count_57 rfl h
  replace h := h.2
  by_cases c6 : x1 = 6
  · have h := h.1 c6
    refine g_tabIn (x := x1) (tgt := 72) dX9_count_1 (by rw [c6]; decide) (by rw [c6]; decide) (by rw [c6]; rfl) (by decide) ?_
    refine g_aload_n (pc2 := 73) dX9_count_72 rfl rfl ?_
    refine g_geti (pc2 := 76) dX9_count_73 fl_X9_166 gk_1 rfl rfl ?_
    exact g_iret dX9_count_76 rfl h
  replace h := h.2
  by_cases c7 : x1 = 7
  · have h := h.1 c7
    refine g_tabIn (x := x1) (tgt := 77) dX9_count_1 (by rw [c7]; decide) (by rw [c7]; decide) (by rw [c7]; rfl) (by decide) ?_
    refine g_aload_n (pc2 := 78) dX9_count_77 rfl rfl ?_
    refine g_geti (pc2 := 81) dX9_count_78 fl_X9_299 gk_1 rfl rfl ?_
    exact g_iret dX9_count_81 rfl h
  replace h := h.2
  by_cases c8 : x1 = 8
  · have h := h.1 c8
    refine g_tabIn (x := x1) (tgt := 82) dX9_count_1 (by rw [c8]; decide) (by rw [c8]; decide) (by rw [c8]; rfl) (by decide) ?_
    refine g_aload_n (pc2 := 83) dX9_count_82 rfl rfl ?_
    refine g_geti (pc2 := 86) dX9_count_83 fl_X9_331 gk_1 rfl rfl ?_
    exact g_iret dX9_count_86 rfl h
  replace h := h.2
  refine g_tabOut (x := x1) (tgt := 87) dX9_count_1 (gw_out (fun e => gw_sw9 e c0 c1 c2 c3 c4 c5 c6 c7 c8)) (by decide) ?_
  replace h := h c0 c1 c2 c3 c4 c5 c6 c7 c8
  refine g_bipush (v := (-2)) (pc2 := 89) dX9_count_87 (by decide) rfl ?_
  exact g_iret dX9_count_89 rfl h
set_option maxRecDepth 20000 in
theorem eX9_dayDigest {d : Nat} {σ : gw_S} {Q : Option Value → gw_S → Prop} {x1 : Int64} {x3 : Int32}   (h : gB d mX9_leakedOf [.ref 1, .int x3] σ (fun v σ1 => ∃ r2 : Int32, v = some (.int r2) ∧ (gB d mX9_lostOf [.ref 1, .int x3] σ1 (fun v σ3 => ∃ r4 : Int32, v = some (.int r4) ∧ (gB d mX9_singOf [.ref 1, .int x3, .int (-1)] σ3 (fun v σ5 => ∃ r6 : Int32, v = some (.int r6) ∧ (gB d mX9_singOf [.ref 1, .int x3, .int 0] σ5 (fun v σ7 => ∃ r8 : Int32, v = some (.int r8) ∧ (gB d mX9_corksBy [.ref 1, .int x3] σ7 (fun v σ9 => ∃ r10 : Int32, v = some (.int r10) ∧ (gB d mX9_ofCorks [.ref 1, .int r10, .int 0] σ9 (fun v σ11 => ∃ r12 : Int32, v = some (.int r12) ∧ (gB d mX9_weighOf [.ref 1, .int x3] σ11 (fun v σ13 => ∃ r14 : Int32, v = some (.int r14) ∧ (Q (some (.long ((31 * ((31 * ((31 * ((31 * ((31 * ((31 * ((31 * x1) + r2.toInt64)) + r4.toInt64)) + r6.toInt64)) + r8.toInt64)) + r10.toInt64)) + r12.toInt64)) + r14.toInt64))) σ13))))))))))))))) : gB (d + 1) mX9_dayDigest [.ref 1, .long x1, .int x3] σ Q := by
  refine gB_of rfl (Nat.le_of_ble_eq_true rfl) (g_lw (lv2 := [some (.ref 1), some (.long x1), none, some (.int x3), none, none, none]) ⟨rfl, ⟨rfl, ⟨rfl, trivial⟩⟩⟩ ?_)
  refine g_ldc2 (pc2 := 3) dX9_dayDigest_0 cl_X9_345 rfl ?_
  refine g_lload_n (pc2 := 4) dX9_dayDigest_3 rfl rfl ?_
  refine g_lmul (pc2 := 5) dX9_dayDigest_4 rfl ?_
  refine g_aload_n (pc2 := 6) dX9_dayDigest_5 rfl rfl ?_
  refine g_iload_n (pc2 := 7) dX9_dayDigest_6 rfl rfl ?_
  refine g_callV (M2 := mX9_leakedOf) (as := [.int x3]) (st := [.long (31 * x1)]) (pc2 := 10) dX9_dayDigest_7 ml_X9_264 mvX9_leakedOf gk_1 rfl rfl rfl (Nat.le_of_ble_eq_true rfl) (Nat.le_refl _) rfl (h.mono ?_)
  rintro _ σ1 ⟨r2, rfl, h⟩
  show gG (d + 1) mX9_dayDigest 10 _ [.int r2, .long (31 * x1)] σ1 Q
  refine g_i2l (pc2 := 11) dX9_dayDigest_10 rfl ?_
  refine g_ladd (pc2 := 12) dX9_dayDigest_11 rfl ?_
  refine g_lstore (pc2 := 14) dX9_dayDigest_12 (by decide) rfl rfl ?_
  refine g_ldc2 (pc2 := 17) dX9_dayDigest_14 cl_X9_345 rfl ?_
  refine g_lload (pc2 := 19) dX9_dayDigest_17 rfl rfl ?_
  refine g_lmul (pc2 := 20) dX9_dayDigest_19 rfl ?_
  refine g_aload_n (pc2 := 21) dX9_dayDigest_20 rfl rfl ?_
  refine g_iload_n (pc2 := 22) dX9_dayDigest_21 rfl rfl ?_
  refine g_callV (M2 := mX9_lostOf) (as := [.int x3]) (st := [.long (31 * ((31 * x1) + r2.toInt64))]) (pc2 := 25) dX9_dayDigest_22 ml_X9_267 mvX9_lostOf gk_1 rfl rfl rfl (Nat.le_of_ble_eq_true rfl) (Nat.le_refl _) rfl (h.mono ?_)
  rintro _ σ3 ⟨r4, rfl, h⟩
  show gG (d + 1) mX9_dayDigest 25 _ [.int r4, .long (31 * ((31 * x1) + r2.toInt64))] σ3 Q
  refine g_i2l (pc2 := 26) dX9_dayDigest_25 rfl ?_
  refine g_ladd (pc2 := 27) dX9_dayDigest_26 rfl ?_
  refine g_lstore (pc2 := 29) dX9_dayDigest_27 (by decide) rfl rfl ?_
  refine g_ldc2 (pc2 := 32) dX9_dayDigest_29 cl_X9_345 rfl ?_
  refine g_lload (pc2 := 34) dX9_dayDigest_32 rfl rfl ?_
  refine g_lmul (pc2 := 35) dX9_dayDigest_34 rfl ?_
  refine g_aload_n (pc2 := 36) dX9_dayDigest_35 rfl rfl ?_
  refine g_iload_n (pc2 := 37) dX9_dayDigest_36 rfl rfl ?_
  refine g_iconst (v := (-1)) (pc2 := 38) dX9_dayDigest_37 (by decide) rfl ?_
  refine g_callV (M2 := mX9_singOf) (as := [.int x3, .int (-1)]) (st := [.long (31 * ((31 * ((31 * x1) + r2.toInt64)) + r4.toInt64))]) (pc2 := 41) dX9_dayDigest_38 ml_X9_283 mvX9_singOf gk_1 rfl rfl rfl (Nat.le_of_ble_eq_true rfl) (Nat.le_refl _) rfl (h.mono ?_)
  rintro _ σ5 ⟨r6, rfl, h⟩
  show gG (d + 1) mX9_dayDigest 41 _ [.int r6, .long (31 * ((31 * ((31 * x1) + r2.toInt64)) + r4.toInt64))] σ5 Q
  refine g_i2l (pc2 := 42) dX9_dayDigest_41 rfl ?_
  refine g_ladd (pc2 := 43) dX9_dayDigest_42 rfl ?_
  refine g_lstore (pc2 := 45) dX9_dayDigest_43 (by decide) rfl rfl ?_
  refine g_ldc2 (pc2 := 48) dX9_dayDigest_45 cl_X9_345 rfl ?_
  refine g_lload (pc2 := 50) dX9_dayDigest_48 rfl rfl ?_
  refine g_lmul (pc2 := 51) dX9_dayDigest_50 rfl ?_
  refine g_aload_n (pc2 := 52) dX9_dayDigest_51 rfl rfl ?_
  refine g_iload_n (pc2 := 53) dX9_dayDigest_52 rfl rfl ?_
  refine g_iconst (v := 0) (pc2 := 54) dX9_dayDigest_53 (by decide) rfl ?_
  refine g_callV (M2 := mX9_singOf) (as := [.int x3, .int 0]) (st := [.long (31 * ((31 * ((31 * ((31 * x1) + r2.toInt64)) + r4.toInt64)) + r6.toInt64))]) (pc2 := 57) dX9_dayDigest_54 ml_X9_283 mvX9_singOf gk_1 rfl rfl rfl (Nat.le_of_ble_eq_true rfl) (Nat.le_refl _) rfl (h.mono ?_)
  rintro _ σ7 ⟨r8, rfl, h⟩
  show gG (d + 1) mX9_dayDigest 57 _ [.int r8, .long (31 * ((31 * ((31 * ((31 * x1) + r2.toInt64)) + r4.toInt64)) + r6.toInt64))] σ7 Q
  refine g_i2l (pc2 := 58) dX9_dayDigest_57 rfl ?_
  refine g_ladd (pc2 := 59) dX9_dayDigest_58 rfl ?_
  refine g_lstore (pc2 := 61) dX9_dayDigest_59 (by decide) rfl rfl ?_
  refine g_aload_n (pc2 := 62) dX9_dayDigest_61 rfl rfl ?_
  refine g_iload_n (pc2 := 63) dX9_dayDigest_62 rfl rfl ?_
  refine g_callV (M2 := mX9_corksBy) (as := [.int x3]) (st := []) (pc2 := 66) dX9_dayDigest_63 ml_X9_290 mvX9_corksBy gk_1 rfl rfl rfl (Nat.le_of_ble_eq_true rfl) (Nat.le_refl _) rfl (h.mono ?_)
  rintro _ σ9 ⟨r10, rfl, h⟩
  show gG (d + 1) mX9_dayDigest 66 _ [.int r10] σ9 Q
  refine g_istore (pc2 := 68) dX9_dayDigest_66 (by decide) rfl rfl ?_
  refine g_ldc2 (pc2 := 71) dX9_dayDigest_68 cl_X9_345 rfl ?_
  refine g_lload (pc2 := 73) dX9_dayDigest_71 rfl rfl ?_
  refine g_lmul (pc2 := 74) dX9_dayDigest_73 rfl ?_
  refine g_iload (pc2 := 76) dX9_dayDigest_74 rfl rfl ?_
  refine g_i2l (pc2 := 77) dX9_dayDigest_76 rfl ?_
  refine g_ladd (pc2 := 78) dX9_dayDigest_77 rfl ?_
  refine g_lstore (pc2 := 80) dX9_dayDigest_78 (by decide) rfl rfl ?_
  refine g_ldc2 (pc2 := 83) dX9_dayDigest_80 cl_X9_345 rfl ?_
  refine g_lload (pc2 := 85) dX9_dayDigest_83 rfl rfl ?_
  refine g_lmul (pc2 := 86) dX9_dayDigest_85 rfl ?_
  refine g_aload_n (pc2 := 87) dX9_dayDigest_86 rfl rfl ?_
  refine g_iload (pc2 := 89) dX9_dayDigest_87 rfl rfl ?_
  refine g_iconst (v := 0) (pc2 := 90) dX9_dayDigest_89 (by decide) rfl ?_
  refine g_callV (M2 := mX9_ofCorks) (as := [.int r10, .int 0]) (st := [.long (31 * ((31 * ((31 * ((31 * ((31 * ((31 * x1) + r2.toInt64)) + r4.toInt64)) + r6.toInt64)) + r8.toInt64)) + r10.toInt64))]) (pc2 := 93) dX9_dayDigest_90 ml_X9_293 mvX9_ofCorks gk_1 rfl rfl rfl (Nat.le_of_ble_eq_true rfl) (Nat.le_refl _) rfl (h.mono ?_)
  rintro _ σ11 ⟨r12, rfl, h⟩
  show gG (d + 1) mX9_dayDigest 93 _ [.int r12, .long (31 * ((31 * ((31 * ((31 * ((31 * ((31 * x1) + r2.toInt64)) + r4.toInt64)) + r6.toInt64)) + r8.toInt64)) + r10.toInt64))] σ11 Q
  refine g_i2l (pc2 := 94) dX9_dayDigest_93 rfl ?_
  refine g_ladd (pc2 := 95) dX9_dayDigest_94 rfl ?_
  refine g_lstore (pc2 := 97) dX9_dayDigest_95 (by decide) rfl rfl ?_
  refine g_ldc2 (pc2 := 100) dX9_dayDigest_97 cl_X9_345 rfl ?_
  refine g_lload (pc2 := 102) dX9_dayDigest_100 rfl rfl ?_
  refine g_lmul (pc2 := 103) dX9_dayDigest_102 rfl ?_
  refine g_aload_n (pc2 := 104) dX9_dayDigest_103 rfl rfl ?_
  refine g_iload_n (pc2 := 105) dX9_dayDigest_104 rfl rfl ?_
  refine g_callV (M2 := mX9_weighOf) (as := [.int x3]) (st := [.long (31 * ((31 * ((31 * ((31 * ((31 * ((31 * ((31 * x1) + r2.toInt64)) + r4.toInt64)) + r6.toInt64)) + r8.toInt64)) + r10.toInt64)) + r12.toInt64))]) (pc2 := 108) dX9_dayDigest_105 ml_X9_312 mvX9_weighOf gk_1 rfl rfl rfl (Nat.le_of_ble_eq_true rfl) (Nat.le_refl _) rfl (h.mono ?_)
  rintro _ σ13 ⟨r14, rfl, h⟩
  show gG (d + 1) mX9_dayDigest 108 _ [.int r14, .long (31 * ((31 * ((31 * ((31 * ((31 * ((31 * ((31 * x1) + r2.toInt64)) + r4.toInt64)) + r6.toInt64)) + r8.toInt64)) + r10.toInt64)) + r12.toInt64))] σ13 Q
  refine g_i2l (pc2 := 109) dX9_dayDigest_108 rfl ?_
  refine g_ladd (pc2 := 110) dX9_dayDigest_109 rfl ?_
  exact g_lret dX9_dayDigest_110 rfl h
set_option maxRecDepth 20000 in
theorem eX9_digest {d : Nat} {σ : gw_S} {Q : Option Value → gw_S → Prop}    (h : gG (d + 1) mX9_digest 6 [some (.ref 1), some (.long 17), none, some (.int 0)] [] σ Q) : gB (d + 1) mX9_digest [.ref 1] σ Q := by
  refine gB_of rfl (Nat.le_of_ble_eq_true rfl) (g_lw (lv2 := [some (.ref 1), none, none, none]) ⟨rfl, trivial⟩ ?_)
  refine g_ldc2 (pc2 := 3) dX9_digest_0 cl_X9_347 rfl ?_
  refine g_lstore_n (pc2 := 4) dX9_digest_3 (by decide) rfl rfl ?_
  refine g_iconst (v := 0) (pc2 := 5) dX9_digest_4 (by decide) rfl ?_
  refine g_istore_n (pc2 := 6) dX9_digest_5 (by decide) rfl rfl ?_
  exact g_lw (lv2 := [some (.ref 1), some (.long 17), none, some (.int 0)]) ⟨rfl, ⟨rfl, ⟨rfl, trivial⟩⟩⟩ h
set_option maxRecDepth 20000 in
theorem bX9_digest_6 {d : Nat} {σ : gw_S} {Q : Option Value → gw_S → Prop} {x1 : Int64} {x3 : Int32}   (h : ((8 ≤ x3) → (gB d mX9_faultOf [.ref 1, .int 0] σ (fun v σ1 => ∃ r2 : Int32, v = some (.int r2) ∧ (gB d mX9_faultOf [.ref 1, .int 1] σ1 (fun v σ3 => ∃ r4 : Int32, v = some (.int r4) ∧ (gG (d + 1) mX9_digest 59 [some (.ref 1), some (.long ((31 * ((31 * x1) + r2.toInt64)) + r4.toInt64)), none, some (.int 0)] [] σ3 Q)))))) ∧ ((¬ 8 ≤ x3) → (gB d mX9_count [.ref 1, .int x3] σ (fun v σ5 => ∃ r6 : Int32, v = some (.int r6) ∧ (gG (d + 1) mX9_digest 6 [some (.ref 1), some (.long ((31 * x1) + r6.toInt64)), none, some (.int (x3 + 1))] [] σ5 Q))))) : gG (d + 1) mX9_digest 6 [some (.ref 1), some (.long x1), none, some (.int x3)] [] σ Q := by
  refine g_iload_n (pc2 := 7) dX9_digest_6 rfl rfl ?_
  refine g_bipush (v := 8) (pc2 := 9) dX9_digest_7 (by decide) rfl ?_
  refine g_icmp_ge (tgt := 31) (pc2 := 12) dX9_digest_9 (by decide) rfl (fun c => ?_) (fun c => ?_)
  · have h := h.1 c
    refine g_ldc2 (pc2 := 34) dX9_digest_31 cl_X9_345 rfl ?_
    refine g_lload_n (pc2 := 35) dX9_digest_34 rfl rfl ?_
    refine g_lmul (pc2 := 36) dX9_digest_35 rfl ?_
    refine g_aload_n (pc2 := 37) dX9_digest_36 rfl rfl ?_
    refine g_iconst (v := 0) (pc2 := 38) dX9_digest_37 (by decide) rfl ?_
    refine g_callV (M2 := mX9_faultOf) (as := [.int 0]) (st := [.long (31 * x1)]) (pc2 := 41) dX9_digest_38 ml_X9_144 mvX9_faultOf gk_1 rfl rfl rfl (Nat.le_of_ble_eq_true rfl) (Nat.le_refl _) rfl (h.mono ?_)
    rintro _ σ1 ⟨r2, rfl, h⟩
    show gG (d + 1) mX9_digest 41 _ [.int r2, .long (31 * x1)] σ1 Q
    refine g_i2l (pc2 := 42) dX9_digest_41 rfl ?_
    refine g_ladd (pc2 := 43) dX9_digest_42 rfl ?_
    refine g_lstore_n (pc2 := 44) dX9_digest_43 (by decide) rfl rfl ?_
    refine g_ldc2 (pc2 := 47) dX9_digest_44 cl_X9_345 rfl ?_
    refine g_lload_n (pc2 := 48) dX9_digest_47 rfl rfl ?_
    refine g_lmul (pc2 := 49) dX9_digest_48 rfl ?_
    refine g_aload_n (pc2 := 50) dX9_digest_49 rfl rfl ?_
    refine g_iconst (v := 1) (pc2 := 51) dX9_digest_50 (by decide) rfl ?_
    refine g_callV (M2 := mX9_faultOf) (as := [.int 1]) (st := [.long (31 * ((31 * x1) + r2.toInt64))]) (pc2 := 54) dX9_digest_51 ml_X9_144 mvX9_faultOf gk_1 rfl rfl rfl (Nat.le_of_ble_eq_true rfl) (Nat.le_refl _) rfl (h.mono ?_)
    rintro _ σ3 ⟨r4, rfl, h⟩
    show gG (d + 1) mX9_digest 54 _ [.int r4, .long (31 * ((31 * x1) + r2.toInt64))] σ3 Q
    refine g_i2l (pc2 := 55) dX9_digest_54 rfl ?_
    refine g_ladd (pc2 := 56) dX9_digest_55 rfl ?_
    refine g_lstore_n (pc2 := 57) dX9_digest_56 (by decide) rfl rfl ?_
    refine g_iconst (v := 0) (pc2 := 58) dX9_digest_57 (by decide) rfl ?_
    refine g_istore_n (pc2 := 59) dX9_digest_58 (by decide) rfl rfl ?_
    exact g_lw (lv2 := [some (.ref 1), some (.long ((31 * ((31 * x1) + r2.toInt64)) + r4.toInt64)), none, some (.int 0)]) ⟨rfl, ⟨rfl, ⟨rfl, trivial⟩⟩⟩ h
  · have h := h.2 c
    refine g_ldc2 (pc2 := 15) dX9_digest_12 cl_X9_345 rfl ?_
    refine g_lload_n (pc2 := 16) dX9_digest_15 rfl rfl ?_
    refine g_lmul (pc2 := 17) dX9_digest_16 rfl ?_
    refine g_aload_n (pc2 := 18) dX9_digest_17 rfl rfl ?_
    refine g_iload_n (pc2 := 19) dX9_digest_18 rfl rfl ?_
    refine g_callV (M2 := mX9_count) (as := [.int x3]) (st := [.long (31 * x1)]) (pc2 := 22) dX9_digest_19 ml_X9_349 mvX9_count gk_1 rfl rfl rfl (Nat.le_of_ble_eq_true rfl) (Nat.le_refl _) rfl (h.mono ?_)
    rintro _ σ5 ⟨r6, rfl, h⟩
    show gG (d + 1) mX9_digest 22 _ [.int r6, .long (31 * x1)] σ5 Q
    refine g_i2l (pc2 := 23) dX9_digest_22 rfl ?_
    refine g_ladd (pc2 := 24) dX9_digest_23 rfl ?_
    refine g_lstore_n (pc2 := 25) dX9_digest_24 (by decide) rfl rfl ?_
    refine g_iinc2 (c := 1) (pc2 := 28) dX9_digest_25 rfl (by decide) (by decide) rfl rfl ?_
    refine g_goto (tgt := 6) dX9_digest_28 (by decide) ?_
    exact g_lw (lv2 := [some (.ref 1), some (.long ((31 * x1) + r6.toInt64)), none, some (.int (x3 + 1))]) ⟨rfl, ⟨rfl, ⟨rfl, trivial⟩⟩⟩ h
set_option maxRecDepth 20000 in
theorem bX9_digest_59 {d : Nat} {σ : gw_S} {Q : Option Value → gw_S → Prop} {x1 : Int64} {x3 : Int32}   (h : (((σ 1 2) ≤ x3) → (gG (d + 1) mX9_digest 82 [some (.ref 1), some (.long x1), none, some (.int 0)] [] σ Q)) ∧ ((¬ (σ 1 2) ≤ x3) → (gB d mX9_bottleDigest [.ref 1, .long x1, .int x3] σ (fun v σ7 => ∃ r8 : Int64, v = some (.long r8) ∧ (gG (d + 1) mX9_digest 59 [some (.ref 1), some (.long r8), none, some (.int (x3 + 1))] [] σ7 Q))))) : gG (d + 1) mX9_digest 59 [some (.ref 1), some (.long x1), none, some (.int x3)] [] σ Q := by
  refine g_iload_n (pc2 := 60) dX9_digest_59 rfl rfl ?_
  refine g_aload_n (pc2 := 61) dX9_digest_60 rfl rfl ?_
  refine g_geti (pc2 := 64) dX9_digest_61 fl_X9_128 gk_1 rfl rfl ?_
  refine g_icmp_ge (tgt := 80) (pc2 := 67) dX9_digest_64 (by decide) rfl (fun c => ?_) (fun c => ?_)
  · have h := h.1 c
    refine g_iconst (v := 0) (pc2 := 81) dX9_digest_80 (by decide) rfl ?_
    refine g_istore_n (pc2 := 82) dX9_digest_81 (by decide) rfl rfl ?_
    exact g_lw (lv2 := [some (.ref 1), some (.long x1), none, some (.int 0)]) ⟨rfl, ⟨rfl, ⟨rfl, trivial⟩⟩⟩ h
  · have h := h.2 c
    refine g_aload_n (pc2 := 68) dX9_digest_67 rfl rfl ?_
    refine g_lload_n (pc2 := 69) dX9_digest_68 rfl rfl ?_
    refine g_iload_n (pc2 := 70) dX9_digest_69 rfl rfl ?_
    refine g_callV (M2 := mX9_bottleDigest) (as := [.long x1, .int x3]) (st := []) (pc2 := 73) dX9_digest_70 ml_X9_352 mvX9_bottleDigest gk_1 rfl rfl rfl (Nat.le_of_ble_eq_true rfl) (Nat.le_refl _) rfl (h.mono ?_)
    rintro _ σ7 ⟨r8, rfl, h⟩
    show gG (d + 1) mX9_digest 73 _ [.long r8] σ7 Q
    refine g_lstore_n (pc2 := 74) dX9_digest_73 (by decide) rfl rfl ?_
    refine g_iinc2 (c := 1) (pc2 := 77) dX9_digest_74 rfl (by decide) (by decide) rfl rfl ?_
    refine g_goto (tgt := 59) dX9_digest_77 (by decide) ?_
    exact g_lw (lv2 := [some (.ref 1), some (.long r8), none, some (.int (x3 + 1))]) ⟨rfl, ⟨rfl, ⟨rfl, trivial⟩⟩⟩ h
set_option maxRecDepth 20000 in
theorem bX9_digest_82 {d : Nat} {σ : gw_S} {Q : Option Value → gw_S → Prop} {x1 : Int64} {x3 : Int32}   (h : (((σ 1 7) ≤ x3) → (gG (d + 1) mX9_digest 112 [some (.ref 1), some (.long x1), none, some (.int 0)] [] σ Q)) ∧ ((¬ (σ 1 7) ≤ x3) → (vp_in x3 8 ∧ (gG (d + 1) mX9_digest 82 [some (.ref 1), some (.long ((31 * x1) + ((σ 146 x3.toNatClampNeg).toInt64))), none, some (.int (x3 + 1))] [] σ Q)))) : gG (d + 1) mX9_digest 82 [some (.ref 1), some (.long x1), none, some (.int x3)] [] σ Q := by
  refine g_iload_n (pc2 := 83) dX9_digest_82 rfl rfl ?_
  refine g_aload_n (pc2 := 84) dX9_digest_83 rfl rfl ?_
  refine g_geti (pc2 := 87) dX9_digest_84 fl_X9_134 gk_1 rfl rfl ?_
  refine g_icmp_ge (tgt := 110) (pc2 := 90) dX9_digest_87 (by decide) rfl (fun c => ?_) (fun c => ?_)
  · have h := h.1 c
    refine g_iconst (v := 0) (pc2 := 111) dX9_digest_110 (by decide) rfl ?_
    refine g_istore_n (pc2 := 112) dX9_digest_111 (by decide) rfl rfl ?_
    exact g_lw (lv2 := [some (.ref 1), some (.long x1), none, some (.int 0)]) ⟨rfl, ⟨rfl, ⟨rfl, trivial⟩⟩⟩ h
  · have h := h.2 c
    refine g_ldc2 (pc2 := 93) dX9_digest_90 cl_X9_345 rfl ?_
    refine g_lload_n (pc2 := 94) dX9_digest_93 rfl rfl ?_
    refine g_lmul (pc2 := 95) dX9_digest_94 rfl ?_
    refine g_aload_n (pc2 := 96) dX9_digest_95 rfl rfl ?_
    refine g_geta (pc2 := 99) dX9_digest_96 fl_X9_28 gk_1 rfl rfl ?_
    refine g_iload_n (pc2 := 100) dX9_digest_99 rfl rfl ?_
    obtain ⟨hx, h⟩ := h
    refine g_iald (pc2 := 101) dX9_digest_100 gk_146 hx rfl ?_
    refine g_i2l (pc2 := 102) dX9_digest_101 rfl ?_
    refine g_ladd (pc2 := 103) dX9_digest_102 rfl ?_
    refine g_lstore_n (pc2 := 104) dX9_digest_103 (by decide) rfl rfl ?_
    refine g_iinc2 (c := 1) (pc2 := 107) dX9_digest_104 rfl (by decide) (by decide) rfl rfl ?_
    refine g_goto (tgt := 82) dX9_digest_107 (by decide) ?_
    exact g_lw (lv2 := [some (.ref 1), some (.long ((31 * x1) + ((σ 146 x3.toNatClampNeg).toInt64))), none, some (.int (x3 + 1))]) ⟨rfl, ⟨rfl, ⟨rfl, trivial⟩⟩⟩ h
set_option maxRecDepth 20000 in
theorem bX9_digest_112 {d : Nat} {σ : gw_S} {Q : Option Value → gw_S → Prop} {x1 : Int64} {x3 : Int32}   (h : ((8 ≤ x3) → (gG (d + 1) mX9_digest 170 [some (.ref 1), some (.long x1), none, some (.int 0)] [] σ Q)) ∧ ((¬ 8 ≤ x3) → (gB d mX9_heardOf [.ref 1, .int 39, .int x3] σ (fun v σ9 => ∃ r10 : Int32, v = some (.int r10) ∧ (gB d mX9_spilledOf [.ref 1, .int 39, .int x3] σ9 (fun v σ11 => ∃ r12 : Int32, v = some (.int r12) ∧ (gB d mX9_mostOf [.ref 1, .int 5, .int x3] σ11 (fun v σ13 => ∃ r14 : Int32, v = some (.int r14) ∧ (gG (d + 1) mX9_digest 112 [some (.ref 1), some (.long ((31 * ((31 * ((31 * x1) + r10.toInt64)) + r12.toInt64)) + r14.toInt64)), none, some (.int (x3 + 1))] [] σ13 Q))))))))) : gG (d + 1) mX9_digest 112 [some (.ref 1), some (.long x1), none, some (.int x3)] [] σ Q := by
  refine g_iload_n (pc2 := 113) dX9_digest_112 rfl rfl ?_
  refine g_bipush (v := 8) (pc2 := 115) dX9_digest_113 (by decide) rfl ?_
  refine g_icmp_ge (tgt := 168) (pc2 := 118) dX9_digest_115 (by decide) rfl (fun c => ?_) (fun c => ?_)
  · have h := h.1 c
    refine g_iconst (v := 0) (pc2 := 169) dX9_digest_168 (by decide) rfl ?_
    refine g_istore_n (pc2 := 170) dX9_digest_169 (by decide) rfl rfl ?_
    exact g_lw (lv2 := [some (.ref 1), some (.long x1), none, some (.int 0)]) ⟨rfl, ⟨rfl, ⟨rfl, trivial⟩⟩⟩ h
  · have h := h.2 c
    refine g_ldc2 (pc2 := 121) dX9_digest_118 cl_X9_345 rfl ?_
    refine g_lload_n (pc2 := 122) dX9_digest_121 rfl rfl ?_
    refine g_lmul (pc2 := 123) dX9_digest_122 rfl ?_
    refine g_aload_n (pc2 := 124) dX9_digest_123 rfl rfl ?_
    refine g_bipush (v := 39) (pc2 := 126) dX9_digest_124 (by decide) rfl ?_
    refine g_iload_n (pc2 := 127) dX9_digest_126 rfl rfl ?_
    refine g_callV (M2 := mX9_heardOf) (as := [.int 39, .int x3]) (st := [.long (31 * x1)]) (pc2 := 130) dX9_digest_127 ml_X9_258 mvX9_heardOf gk_1 rfl rfl rfl (Nat.le_of_ble_eq_true rfl) (Nat.le_refl _) rfl (h.mono ?_)
    rintro _ σ9 ⟨r10, rfl, h⟩
    show gG (d + 1) mX9_digest 130 _ [.int r10, .long (31 * x1)] σ9 Q
    refine g_i2l (pc2 := 131) dX9_digest_130 rfl ?_
    refine g_ladd (pc2 := 132) dX9_digest_131 rfl ?_
    refine g_lstore_n (pc2 := 133) dX9_digest_132 (by decide) rfl rfl ?_
    refine g_ldc2 (pc2 := 136) dX9_digest_133 cl_X9_345 rfl ?_
    refine g_lload_n (pc2 := 137) dX9_digest_136 rfl rfl ?_
    refine g_lmul (pc2 := 138) dX9_digest_137 rfl ?_
    refine g_aload_n (pc2 := 139) dX9_digest_138 rfl rfl ?_
    refine g_bipush (v := 39) (pc2 := 141) dX9_digest_139 (by decide) rfl ?_
    refine g_iload_n (pc2 := 142) dX9_digest_141 rfl rfl ?_
    refine g_callV (M2 := mX9_spilledOf) (as := [.int 39, .int x3]) (st := [.long (31 * ((31 * x1) + r10.toInt64))]) (pc2 := 145) dX9_digest_142 ml_X9_261 mvX9_spilledOf gk_1 rfl rfl rfl (Nat.le_of_ble_eq_true rfl) (Nat.le_refl _) rfl (h.mono ?_)
    rintro _ σ11 ⟨r12, rfl, h⟩
    show gG (d + 1) mX9_digest 145 _ [.int r12, .long (31 * ((31 * x1) + r10.toInt64))] σ11 Q
    refine g_i2l (pc2 := 146) dX9_digest_145 rfl ?_
    refine g_ladd (pc2 := 147) dX9_digest_146 rfl ?_
    refine g_lstore_n (pc2 := 148) dX9_digest_147 (by decide) rfl rfl ?_
    refine g_ldc2 (pc2 := 151) dX9_digest_148 cl_X9_345 rfl ?_
    refine g_lload_n (pc2 := 152) dX9_digest_151 rfl rfl ?_
    refine g_lmul (pc2 := 153) dX9_digest_152 rfl ?_
    refine g_aload_n (pc2 := 154) dX9_digest_153 rfl rfl ?_
    refine g_iconst (v := 5) (pc2 := 155) dX9_digest_154 (by decide) rfl ?_
    refine g_iload_n (pc2 := 156) dX9_digest_155 rfl rfl ?_
    refine g_callV (M2 := mX9_mostOf) (as := [.int 5, .int x3]) (st := [.long (31 * ((31 * ((31 * x1) + r10.toInt64)) + r12.toInt64))]) (pc2 := 159) dX9_digest_156 ml_X9_296 mvX9_mostOf gk_1 rfl rfl rfl (Nat.le_of_ble_eq_true rfl) (Nat.le_refl _) rfl (h.mono ?_)
    rintro _ σ13 ⟨r14, rfl, h⟩
    show gG (d + 1) mX9_digest 159 _ [.int r14, .long (31 * ((31 * ((31 * x1) + r10.toInt64)) + r12.toInt64))] σ13 Q
    refine g_i2l (pc2 := 160) dX9_digest_159 rfl ?_
    refine g_ladd (pc2 := 161) dX9_digest_160 rfl ?_
    refine g_lstore_n (pc2 := 162) dX9_digest_161 (by decide) rfl rfl ?_
    refine g_iinc2 (c := 1) (pc2 := 165) dX9_digest_162 rfl (by decide) (by decide) rfl rfl ?_
    refine g_goto (tgt := 112) dX9_digest_165 (by decide) ?_
    exact g_lw (lv2 := [some (.ref 1), some (.long ((31 * ((31 * ((31 * x1) + r10.toInt64)) + r12.toInt64)) + r14.toInt64)), none, some (.int (x3 + 1))]) ⟨rfl, ⟨rfl, ⟨rfl, trivial⟩⟩⟩ h
set_option maxRecDepth 20000 in
theorem bX9_digest_170 {d : Nat} {σ : gw_S} {Q : Option Value → gw_S → Prop} {x1 : Int64} {x3 : Int32}   (h : ((6 ≤ x3) → (gB d mX9_dayDigest [.ref 1, .long x1, .int 0] σ (fun v σ15 => ∃ r16 : Int64, v = some (.long r16) ∧ (gB d mX9_dayDigest [.ref 1, .long r16, .int 5] σ15 (fun v σ17 => ∃ r18 : Int64, v = some (.long r18) ∧ (gB d mX9_dayDigest [.ref 1, .long r18, .int 39] σ17 (fun v σ19 => ∃ r20 : Int64, v = some (.long r20) ∧ (gG (d + 1) mX9_digest 221 [some (.ref 1), some (.long r20), none, some (.int 0)] [] σ19 Q)))))))) ∧ ((¬ 6 ≤ x3) → (gB d mX9_hasOf [.ref 1, .int 9, .int x3] σ (fun v σ21 => ∃ r22 : Int32, v = some (.int r22) ∧ (gG (d + 1) mX9_digest 170 [some (.ref 1), some (.long ((31 * x1) + r22.toInt64)), none, some (.int (x3 + 1))] [] σ21 Q))))) : gG (d + 1) mX9_digest 170 [some (.ref 1), some (.long x1), none, some (.int x3)] [] σ Q := by
  refine g_iload_n (pc2 := 171) dX9_digest_170 rfl rfl ?_
  refine g_bipush (v := 6) (pc2 := 173) dX9_digest_171 (by decide) rfl ?_
  refine g_icmp_ge (tgt := 197) (pc2 := 176) dX9_digest_173 (by decide) rfl (fun c => ?_) (fun c => ?_)
  · have h := h.1 c
    refine g_aload_n (pc2 := 198) dX9_digest_197 rfl rfl ?_
    refine g_lload_n (pc2 := 199) dX9_digest_198 rfl rfl ?_
    refine g_iconst (v := 0) (pc2 := 200) dX9_digest_199 (by decide) rfl ?_
    refine g_callV (M2 := mX9_dayDigest) (as := [.long x1, .int 0]) (st := []) (pc2 := 203) dX9_digest_200 ml_X9_356 mvX9_dayDigest gk_1 rfl rfl rfl (Nat.le_of_ble_eq_true rfl) (Nat.le_refl _) rfl (h.mono ?_)
    rintro _ σ15 ⟨r16, rfl, h⟩
    show gG (d + 1) mX9_digest 203 _ [.long r16] σ15 Q
    refine g_lstore_n (pc2 := 204) dX9_digest_203 (by decide) rfl rfl ?_
    refine g_aload_n (pc2 := 205) dX9_digest_204 rfl rfl ?_
    refine g_lload_n (pc2 := 206) dX9_digest_205 rfl rfl ?_
    refine g_iconst (v := 5) (pc2 := 207) dX9_digest_206 (by decide) rfl ?_
    refine g_callV (M2 := mX9_dayDigest) (as := [.long r16, .int 5]) (st := []) (pc2 := 210) dX9_digest_207 ml_X9_356 mvX9_dayDigest gk_1 rfl rfl rfl (Nat.le_of_ble_eq_true rfl) (Nat.le_refl _) rfl (h.mono ?_)
    rintro _ σ17 ⟨r18, rfl, h⟩
    show gG (d + 1) mX9_digest 210 _ [.long r18] σ17 Q
    refine g_lstore_n (pc2 := 211) dX9_digest_210 (by decide) rfl rfl ?_
    refine g_aload_n (pc2 := 212) dX9_digest_211 rfl rfl ?_
    refine g_lload_n (pc2 := 213) dX9_digest_212 rfl rfl ?_
    refine g_bipush (v := 39) (pc2 := 215) dX9_digest_213 (by decide) rfl ?_
    refine g_callV (M2 := mX9_dayDigest) (as := [.long r18, .int 39]) (st := []) (pc2 := 218) dX9_digest_215 ml_X9_356 mvX9_dayDigest gk_1 rfl rfl rfl (Nat.le_of_ble_eq_true rfl) (Nat.le_refl _) rfl (h.mono ?_)
    rintro _ σ19 ⟨r20, rfl, h⟩
    show gG (d + 1) mX9_digest 218 _ [.long r20] σ19 Q
    refine g_lstore_n (pc2 := 219) dX9_digest_218 (by decide) rfl rfl ?_
    refine g_iconst (v := 0) (pc2 := 220) dX9_digest_219 (by decide) rfl ?_
    refine g_istore_n (pc2 := 221) dX9_digest_220 (by decide) rfl rfl ?_
    exact g_lw (lv2 := [some (.ref 1), some (.long r20), none, some (.int 0)]) ⟨rfl, ⟨rfl, ⟨rfl, trivial⟩⟩⟩ h
  · have h := h.2 c
    refine g_ldc2 (pc2 := 179) dX9_digest_176 cl_X9_345 rfl ?_
    refine g_lload_n (pc2 := 180) dX9_digest_179 rfl rfl ?_
    refine g_lmul (pc2 := 181) dX9_digest_180 rfl ?_
    refine g_aload_n (pc2 := 182) dX9_digest_181 rfl rfl ?_
    refine g_bipush (v := 9) (pc2 := 184) dX9_digest_182 (by decide) rfl ?_
    refine g_iload_n (pc2 := 185) dX9_digest_184 rfl rfl ?_
    refine g_callV (M2 := mX9_hasOf) (as := [.int 9, .int x3]) (st := [.long (31 * x1)]) (pc2 := 188) dX9_digest_185 ml_X9_255 mvX9_hasOf gk_1 rfl rfl rfl (Nat.le_of_ble_eq_true rfl) (Nat.le_refl _) rfl (h.mono ?_)
    rintro _ σ21 ⟨r22, rfl, h⟩
    show gG (d + 1) mX9_digest 188 _ [.int r22, .long (31 * x1)] σ21 Q
    refine g_i2l (pc2 := 189) dX9_digest_188 rfl ?_
    refine g_ladd (pc2 := 190) dX9_digest_189 rfl ?_
    refine g_lstore_n (pc2 := 191) dX9_digest_190 (by decide) rfl rfl ?_
    refine g_iinc2 (c := 1) (pc2 := 194) dX9_digest_191 rfl (by decide) (by decide) rfl rfl ?_
    refine g_goto (tgt := 170) dX9_digest_194 (by decide) ?_
    exact g_lw (lv2 := [some (.ref 1), some (.long ((31 * x1) + r22.toInt64)), none, some (.int (x3 + 1))]) ⟨rfl, ⟨rfl, ⟨rfl, trivial⟩⟩⟩ h
set_option maxRecDepth 20000 in
theorem bX9_digest_221 {d : Nat} {σ : gw_S} {Q : Option Value → gw_S → Prop} {x1 : Int64} {x3 : Int32}   (h : (((σ 1 12) ≤ x3) → (gB d mX9_hidNow [.ref 1] σ (fun v σ23 => ∃ r24 : Int32, v = some (.int r24) ∧ (gB d mX9_swappedOf [.ref 1, .int 0] σ23 (fun v σ25 => ∃ r26 : Int32, v = some (.int r26) ∧ (gB d mX9_swappedOf [.ref 1, .int 1] σ25 (fun v σ27 => ∃ r28 : Int32, v = some (.int r28) ∧ (gB d mX9_marketOf [.ref 1, .int 7, .int 20, .int (-1)] σ27 (fun v σ29 => ∃ r30 : Int32, v = some (.int r30) ∧ (Q (some (.long ((31 * ((31 * ((31 * ((31 * x1) + r24.toInt64)) + r26.toInt64)) + r28.toInt64)) + r30.toInt64))) σ29)))))))))) ∧ ((¬ (σ 1 12) ≤ x3) → (gB d mX9_worksOf [.ref 1, .int x3] σ (fun v σ31 => ∃ r32 : Int32, v = some (.int r32) ∧ (gG (d + 1) mX9_digest 221 [some (.ref 1), some (.long ((31 * x1) + r32.toInt64)), none, some (.int (x3 + 1))] [] σ31 Q))))) : gG (d + 1) mX9_digest 221 [some (.ref 1), some (.long x1), none, some (.int x3)] [] σ Q := by
  refine g_iload_n (pc2 := 222) dX9_digest_221 rfl rfl ?_
  refine g_aload_n (pc2 := 223) dX9_digest_222 rfl rfl ?_
  refine g_geti (pc2 := 226) dX9_digest_223 fl_X9_169 gk_1 rfl rfl ?_
  refine g_icmp_ge (tgt := 248) (pc2 := 229) dX9_digest_226 (by decide) rfl (fun c => ?_) (fun c => ?_)
  · have h := h.1 c
    refine g_ldc2 (pc2 := 251) dX9_digest_248 cl_X9_345 rfl ?_
    refine g_lload_n (pc2 := 252) dX9_digest_251 rfl rfl ?_
    refine g_lmul (pc2 := 253) dX9_digest_252 rfl ?_
    refine g_aload_n (pc2 := 254) dX9_digest_253 rfl rfl ?_
    refine g_callV (M2 := mX9_hidNow) (as := []) (st := [.long (31 * x1)]) (pc2 := 257) dX9_digest_254 ml_X9_306 mvX9_hidNow gk_1 rfl rfl rfl (Nat.le_of_ble_eq_true rfl) (Nat.le_refl _) rfl (h.mono ?_)
    rintro _ σ23 ⟨r24, rfl, h⟩
    show gG (d + 1) mX9_digest 257 _ [.int r24, .long (31 * x1)] σ23 Q
    refine g_i2l (pc2 := 258) dX9_digest_257 rfl ?_
    refine g_ladd (pc2 := 259) dX9_digest_258 rfl ?_
    refine g_lstore_n (pc2 := 260) dX9_digest_259 (by decide) rfl rfl ?_
    refine g_ldc2 (pc2 := 263) dX9_digest_260 cl_X9_345 rfl ?_
    refine g_lload_n (pc2 := 264) dX9_digest_263 rfl rfl ?_
    refine g_lmul (pc2 := 265) dX9_digest_264 rfl ?_
    refine g_aload_n (pc2 := 266) dX9_digest_265 rfl rfl ?_
    refine g_iconst (v := 0) (pc2 := 267) dX9_digest_266 (by decide) rfl ?_
    refine g_callV (M2 := mX9_swappedOf) (as := [.int 0]) (st := [.long (31 * ((31 * x1) + r24.toInt64))]) (pc2 := 270) dX9_digest_267 ml_X9_309 mvX9_swappedOf gk_1 rfl rfl rfl (Nat.le_of_ble_eq_true rfl) (Nat.le_refl _) rfl (h.mono ?_)
    rintro _ σ25 ⟨r26, rfl, h⟩
    show gG (d + 1) mX9_digest 270 _ [.int r26, .long (31 * ((31 * x1) + r24.toInt64))] σ25 Q
    refine g_i2l (pc2 := 271) dX9_digest_270 rfl ?_
    refine g_ladd (pc2 := 272) dX9_digest_271 rfl ?_
    refine g_lstore_n (pc2 := 273) dX9_digest_272 (by decide) rfl rfl ?_
    refine g_ldc2 (pc2 := 276) dX9_digest_273 cl_X9_345 rfl ?_
    refine g_lload_n (pc2 := 277) dX9_digest_276 rfl rfl ?_
    refine g_lmul (pc2 := 278) dX9_digest_277 rfl ?_
    refine g_aload_n (pc2 := 279) dX9_digest_278 rfl rfl ?_
    refine g_iconst (v := 1) (pc2 := 280) dX9_digest_279 (by decide) rfl ?_
    refine g_callV (M2 := mX9_swappedOf) (as := [.int 1]) (st := [.long (31 * ((31 * ((31 * x1) + r24.toInt64)) + r26.toInt64))]) (pc2 := 283) dX9_digest_280 ml_X9_309 mvX9_swappedOf gk_1 rfl rfl rfl (Nat.le_of_ble_eq_true rfl) (Nat.le_refl _) rfl (h.mono ?_)
    rintro _ σ27 ⟨r28, rfl, h⟩
    show gG (d + 1) mX9_digest 283 _ [.int r28, .long (31 * ((31 * ((31 * x1) + r24.toInt64)) + r26.toInt64))] σ27 Q
    refine g_i2l (pc2 := 284) dX9_digest_283 rfl ?_
    refine g_ladd (pc2 := 285) dX9_digest_284 rfl ?_
    refine g_lstore_n (pc2 := 286) dX9_digest_285 (by decide) rfl rfl ?_
    refine g_ldc2 (pc2 := 289) dX9_digest_286 cl_X9_345 rfl ?_
    refine g_lload_n (pc2 := 290) dX9_digest_289 rfl rfl ?_
    refine g_lmul (pc2 := 291) dX9_digest_290 rfl ?_
    refine g_aload_n (pc2 := 292) dX9_digest_291 rfl rfl ?_
    refine g_bipush (v := 7) (pc2 := 294) dX9_digest_292 (by decide) rfl ?_
    refine g_bipush (v := 20) (pc2 := 296) dX9_digest_294 (by decide) rfl ?_
    refine g_iconst (v := (-1)) (pc2 := 297) dX9_digest_296 (by decide) rfl ?_
    refine g_callV (M2 := mX9_marketOf) (as := [.int 7, .int 20, .int (-1)]) (st := [.long (31 * ((31 * ((31 * ((31 * x1) + r24.toInt64)) + r26.toInt64)) + r28.toInt64))]) (pc2 := 300) dX9_digest_297 ml_X9_328 mvX9_marketOf gk_1 rfl rfl rfl (Nat.le_of_ble_eq_true rfl) (Nat.le_refl _) rfl (h.mono ?_)
    rintro _ σ29 ⟨r30, rfl, h⟩
    show gG (d + 1) mX9_digest 300 _ [.int r30, .long (31 * ((31 * ((31 * ((31 * x1) + r24.toInt64)) + r26.toInt64)) + r28.toInt64))] σ29 Q
    refine g_i2l (pc2 := 301) dX9_digest_300 rfl ?_
    refine g_ladd (pc2 := 302) dX9_digest_301 rfl ?_
    exact g_lret dX9_digest_302 rfl h
  · have h := h.2 c
    refine g_ldc2 (pc2 := 232) dX9_digest_229 cl_X9_345 rfl ?_
    refine g_lload_n (pc2 := 233) dX9_digest_232 rfl rfl ?_
    refine g_lmul (pc2 := 234) dX9_digest_233 rfl ?_
    refine g_aload_n (pc2 := 235) dX9_digest_234 rfl rfl ?_
    refine g_iload_n (pc2 := 236) dX9_digest_235 rfl rfl ?_
    refine g_callV (M2 := mX9_worksOf) (as := [.int x3]) (st := [.long (31 * x1)]) (pc2 := 239) dX9_digest_236 ml_X9_270 mvX9_worksOf gk_1 rfl rfl rfl (Nat.le_of_ble_eq_true rfl) (Nat.le_refl _) rfl (h.mono ?_)
    rintro _ σ31 ⟨r32, rfl, h⟩
    show gG (d + 1) mX9_digest 239 _ [.int r32, .long (31 * x1)] σ31 Q
    refine g_i2l (pc2 := 240) dX9_digest_239 rfl ?_
    refine g_ladd (pc2 := 241) dX9_digest_240 rfl ?_
    refine g_lstore_n (pc2 := 242) dX9_digest_241 (by decide) rfl rfl ?_
    refine g_iinc2 (c := 1) (pc2 := 245) dX9_digest_242 rfl (by decide) (by decide) rfl rfl ?_
    refine g_goto (tgt := 221) dX9_digest_245 (by decide) ?_
    exact g_lw (lv2 := [some (.ref 1), some (.long ((31 * x1) + r32.toInt64)), none, some (.int (x3 + 1))]) ⟨rfl, ⟨rfl, ⟨rfl, trivial⟩⟩⟩ h
set_option maxRecDepth 20000 in
theorem eX9_does {d : Nat} {σ : gw_S} {Q : Option Value → gw_S → Prop} {x1 : Int32}   (h : vp_in x1 16 ∧ (vp_in x1 16 ∧ (((¬ (σ 149 x1.toNatClampNeg) = 0) → (vp_in x1 16 ∧ (((¬ (σ 149 x1.toNatClampNeg) = 1) → (vp_in x1 16 ∧ (((¬ (σ 149 x1.toNatClampNeg) = 2) → (gB d mX9_corksOne [.ref 1, .int (σ 150 x1.toNatClampNeg)] σ (fun v σ1 => ∃ r2 : Int32, v = some (.int r2) ∧ (narrow .boolean (.int r2) = .int r2 ∧ Q (some (.int r2)) σ1)))) ∧ (((σ 149 x1.toNatClampNeg) = 2) → (gB d mX9_breaks [.ref 1, .int (σ 150 x1.toNatClampNeg)] σ (fun v σ3 => ∃ r4 : Int32, v = some (.int r4) ∧ (narrow .boolean (.int r4) = .int r4 ∧ Q (some (.int r4)) σ3))))))) ∧ (((σ 149 x1.toNatClampNeg) = 1) → (vp_in x1 16 ∧ (gB d mX9_joins [.ref 1, .int (σ 150 x1.toNatClampNeg), .int (σ 151 x1.toNatClampNeg)] σ (fun v σ5 => ∃ r6 : Int32, v = some (.int r6) ∧ (narrow .boolean (.int r6) = .int r6 ∧ Q (some (.int r6)) σ5)))))))) ∧ (((σ 149 x1.toNatClampNeg) = 0) → (vp_in x1 16 ∧ (gB d mX9_sells [.ref 1, .int (σ 150 x1.toNatClampNeg), .int (σ 151 x1.toNatClampNeg)] σ (fun v σ7 => ∃ r8 : Int32, v = some (.int r8) ∧ (narrow .boolean (.int r8) = .int r8 ∧ Q (some (.int r8)) σ7)))))))) : gB (d + 1) mX9_does [.ref 1, .int x1] σ Q := by
  refine gB_of rfl (Nat.le_of_ble_eq_true rfl) (g_lw (lv2 := [some (.ref 1), some (.int x1), none]) ⟨rfl, ⟨rfl, trivial⟩⟩ ?_)
  refine g_aload_n (pc2 := 1) dX9_does_0 rfl rfl ?_
  refine g_geta (pc2 := 4) dX9_does_1 fl_X9_40 gk_1 rfl rfl ?_
  refine g_iload_n (pc2 := 5) dX9_does_4 rfl rfl ?_
  obtain ⟨hx, h⟩ := h
  refine g_iald (pc2 := 6) dX9_does_5 gk_150 hx rfl ?_
  refine g_istore_n (pc2 := 7) dX9_does_6 (by decide) rfl rfl ?_
  refine g_aload_n (pc2 := 8) dX9_does_7 rfl rfl ?_
  refine g_geta (pc2 := 11) dX9_does_8 fl_X9_37 gk_1 rfl rfl ?_
  refine g_iload_n (pc2 := 12) dX9_does_11 rfl rfl ?_
  obtain ⟨hx, h⟩ := h
  refine g_iald (pc2 := 13) dX9_does_12 gk_149 hx rfl ?_
  refine g_if_ne (tgt := 30) (pc2 := 16) dX9_does_13 (by decide) rfl (fun c => ?_) (fun c => ?_)
  · have h := h.1 c
    refine g_aload_n (pc2 := 31) dX9_does_30 rfl rfl ?_
    refine g_geta (pc2 := 34) dX9_does_31 fl_X9_37 gk_1 rfl rfl ?_
    refine g_iload_n (pc2 := 35) dX9_does_34 rfl rfl ?_
    obtain ⟨hx, h⟩ := h
    refine g_iald (pc2 := 36) dX9_does_35 gk_149 hx rfl ?_
    refine g_iconst (v := 1) (pc2 := 37) dX9_does_36 (by decide) rfl ?_
    refine g_icmp_ne (tgt := 54) (pc2 := 40) dX9_does_37 (by decide) rfl (fun c => ?_) (fun c => ?_)
    · have h := h.1 c
      refine g_aload_n (pc2 := 55) dX9_does_54 rfl rfl ?_
      refine g_geta (pc2 := 58) dX9_does_55 fl_X9_37 gk_1 rfl rfl ?_
      refine g_iload_n (pc2 := 59) dX9_does_58 rfl rfl ?_
      obtain ⟨hx, h⟩ := h
      refine g_iald (pc2 := 60) dX9_does_59 gk_149 hx rfl ?_
      refine g_iconst (v := 2) (pc2 := 61) dX9_does_60 (by decide) rfl ?_
      refine g_icmp_ne (tgt := 72) (pc2 := 64) dX9_does_61 (by decide) rfl (fun c => ?_) (fun c => ?_)
      · have h := h.1 c
        refine g_aload_n (pc2 := 73) dX9_does_72 rfl rfl ?_
        refine g_iload_n (pc2 := 74) dX9_does_73 rfl rfl ?_
        refine g_callV (M2 := mX9_corksOne) (as := [.int (σ 150 x1.toNatClampNeg)]) (st := []) (pc2 := 77) dX9_does_74 ml_X9_216 mvX9_corksOne gk_1 rfl rfl rfl (Nat.le_of_ble_eq_true rfl) (Nat.le_refl _) rfl (h.mono ?_)
        rintro _ σ1 ⟨r2, rfl, h⟩
        show gG (d + 1) mX9_does 77 _ [.int r2] σ1 Q
        exact g_zret dX9_does_77 rfl h.1 h.2
      · have h := h.2 c
        refine g_aload_n (pc2 := 65) dX9_does_64 rfl rfl ?_
        refine g_iload_n (pc2 := 66) dX9_does_65 rfl rfl ?_
        refine g_callV (M2 := mX9_breaks) (as := [.int (σ 150 x1.toNatClampNeg)]) (st := []) (pc2 := 69) dX9_does_66 ml_X9_213 mvX9_breaks gk_1 rfl rfl rfl (Nat.le_of_ble_eq_true rfl) (Nat.le_refl _) rfl (h.mono ?_)
        rintro _ σ3 ⟨r4, rfl, h⟩
        show gG (d + 1) mX9_does 69 _ [.int r4] σ3 Q
        refine g_goto (tgt := 77) dX9_does_69 (by decide) ?_
        exact g_zret dX9_does_77 rfl h.1 h.2
    · have h := h.2 c
      refine g_aload_n (pc2 := 41) dX9_does_40 rfl rfl ?_
      refine g_iload_n (pc2 := 42) dX9_does_41 rfl rfl ?_
      refine g_aload_n (pc2 := 43) dX9_does_42 rfl rfl ?_
      refine g_geta (pc2 := 46) dX9_does_43 fl_X9_43 gk_1 rfl rfl ?_
      refine g_iload_n (pc2 := 47) dX9_does_46 rfl rfl ?_
      obtain ⟨hx, h⟩ := h
      refine g_iald (pc2 := 48) dX9_does_47 gk_151 hx rfl ?_
      refine g_callV (M2 := mX9_joins) (as := [.int (σ 150 x1.toNatClampNeg), .int (σ 151 x1.toNatClampNeg)]) (st := []) (pc2 := 51) dX9_does_48 ml_X9_210 mvX9_joins gk_1 rfl rfl rfl (Nat.le_of_ble_eq_true rfl) (Nat.le_refl _) rfl (h.mono ?_)
      rintro _ σ5 ⟨r6, rfl, h⟩
      show gG (d + 1) mX9_does 51 _ [.int r6] σ5 Q
      refine g_goto (tgt := 77) dX9_does_51 (by decide) ?_
      exact g_zret dX9_does_77 rfl h.1 h.2
  · have h := h.2 c
    refine g_aload_n (pc2 := 17) dX9_does_16 rfl rfl ?_
    refine g_iload_n (pc2 := 18) dX9_does_17 rfl rfl ?_
    refine g_aload_n (pc2 := 19) dX9_does_18 rfl rfl ?_
    refine g_geta (pc2 := 22) dX9_does_19 fl_X9_43 gk_1 rfl rfl ?_
    refine g_iload_n (pc2 := 23) dX9_does_22 rfl rfl ?_
    obtain ⟨hx, h⟩ := h
    refine g_iald (pc2 := 24) dX9_does_23 gk_151 hx rfl ?_
    refine g_callV (M2 := mX9_sells) (as := [.int (σ 150 x1.toNatClampNeg), .int (σ 151 x1.toNatClampNeg)]) (st := []) (pc2 := 27) dX9_does_24 ml_X9_206 mvX9_sells gk_1 rfl rfl rfl (Nat.le_of_ble_eq_true rfl) (Nat.le_refl _) rfl (h.mono ?_)
    rintro _ σ7 ⟨r8, rfl, h⟩
    show gG (d + 1) mX9_does 27 _ [.int r8] σ7 Q
    refine g_goto (tgt := 77) dX9_does_27 (by decide) ?_
    exact g_zret dX9_does_77 rfl h.1 h.2
set_option maxRecDepth 20000 in
theorem eX9_ends {d : Nat} {σ : gw_S} {Q : Option Value → gw_S → Prop} {x1 : Int32} {x2 : Int32}   (h : gG (d + 1) mX9_ends 2 [some (.ref 1), some (.int x1), some (.int x2), some (.int 0), none, none] [] σ Q) : gB (d + 1) mX9_ends [.ref 1, .int x1, .int x2] σ Q := by
  refine gB_of rfl (Nat.le_of_ble_eq_true rfl) (g_lw (lv2 := [some (.ref 1), some (.int x1), some (.int x2), none, none, none]) ⟨rfl, ⟨rfl, ⟨rfl, trivial⟩⟩⟩ ?_)
  refine g_iconst (v := 0) (pc2 := 1) dX9_ends_0 (by decide) rfl ?_
  refine g_istore_n (pc2 := 2) dX9_ends_1 (by decide) rfl rfl ?_
  exact g_lw (lv2 := [some (.ref 1), some (.int x1), some (.int x2), some (.int 0), none, none]) ⟨rfl, ⟨rfl, ⟨rfl, ⟨rfl, trivial⟩⟩⟩⟩ h
set_option maxRecDepth 20000 in
theorem bX9_ends_2 {d : Nat} {σ : gw_S} {Q : Option Value → gw_S → Prop} {x1 : Int32} {x2 : Int32} {x3 : Int32}   (h : ((8 ≤ x3) → (((x2 = 0) → (Q none σ)) ∧ ((¬ x2 = 0) → (gB d mX9_as [.ref 1, .int x1] σ (fun v σ1 => ∃ r2 : Int32, v = some (.int r2) ∧ (vp_in r2 9 ∧ (((¬ (σ1 145 r2.toNatClampNeg) = 1) → (Q none σ1)) ∧ (((σ1 145 r2.toNatClampNeg) = 1) → (gB d mX9_allIn [.ref 1, .int x1] σ1 (fun v σ3 => ∃ r4 : Int32, v = some (.int r4) ∧ (((r4 < (σ3 1 9)) → (Q none σ3)) ∧ ((¬ r4 < (σ3 1 9)) → (vp_in x1 8 ∧ (∀ s5 : gw_S, s5 = gw_u σ3 158 x1.toNatClampNeg (vp_nar .boolean 0) → (gG (d + 1) mX9_ends 134 [some (.ref 1), some (.int x1), none, some (.int 0), none, none] [] s5 Q))))))))))))))) ∧ ((¬ 8 ≤ x3) → (vp_in ((8 * x1) + x3) 64 ∧ (((¬ (σ 155 ((8 * x1) + x3).toNatClampNeg) = 0) → (vp_in x1 8 ∧ (vp_in x1 8 ∧ (((¬ (σ 157 x1.toNatClampNeg) = 0) → (vp_in ((8 * x1) + x3) 64 ∧ (∀ s6 : gw_S, s6 = gw_u σ 155 ((8 * x1) + x3).toNatClampNeg ((σ 155 ((8 * x1) + x3).toNatClampNeg) - ((((σ 155 ((8 * x1) + x3).toNatClampNeg) * (10 - (σ 157 x1.toNatClampNeg))) / 100) + 0)) → (∀ s7 : gw_S, s7 = gw_u s6 1 30 ((s6 1 30) + ((((σ 155 ((8 * x1) + x3).toNatClampNeg) * (10 - (σ 157 x1.toNatClampNeg))) / 100) + 0)) → (gG (d + 1) mX9_ends 2 [some (.ref 1), some (.int x1), some (.int x2), some (.int (x3 + 1)), none, none] [] s7 Q))))) ∧ (((σ 157 x1.toNatClampNeg) = 0) → (vp_in ((8 * x1) + x3) 64 ∧ (∀ s8 : gw_S, s8 = gw_u σ 155 ((8 * x1) + x3).toNatClampNeg ((σ 155 ((8 * x1) + x3).toNatClampNeg) - ((((σ 155 ((8 * x1) + x3).toNatClampNeg) * (10 - (σ 157 x1.toNatClampNeg))) / 100) + 1)) → (∀ s9 : gw_S, s9 = gw_u s8 1 30 ((s8 1 30) + ((((σ 155 ((8 * x1) + x3).toNatClampNeg) * (10 - (σ 157 x1.toNatClampNeg))) / 100) + 1)) → (gG (d + 1) mX9_ends 2 [some (.ref 1), some (.int x1), some (.int x2), some (.int (x3 + 1)), none, none] [] s9 Q))))))))) ∧ (((σ 155 ((8 * x1) + x3).toNatClampNeg) = 0) → (vp_in ((8 * x1) + x3) 64 ∧ (∀ s10 : gw_S, s10 = gw_u σ 155 ((8 * x1) + x3).toNatClampNeg ((σ 155 ((8 * x1) + x3).toNatClampNeg) - 0) → (∀ s11 : gw_S, s11 = gw_u s10 1 30 ((s10 1 30) + 0) → (gG (d + 1) mX9_ends 2 [some (.ref 1), some (.int x1), some (.int x2), some (.int (x3 + 1)), none, none] [] s11 Q))))))))) : gG (d + 1) mX9_ends 2 [some (.ref 1), some (.int x1), some (.int x2), some (.int x3), none, none] [] σ Q := by
  refine g_iload_n (pc2 := 3) dX9_ends_2 rfl rfl ?_
  refine g_bipush (v := 8) (pc2 := 5) dX9_ends_3 (by decide) rfl ?_
  refine g_icmp_ge (tgt := 95) (pc2 := 8) dX9_ends_5 (by decide) rfl (fun c => ?_) (fun c => ?_)
  · have h := h.1 c
    refine g_iload_n (pc2 := 96) dX9_ends_95 rfl rfl ?_
    refine g_if_eq (tgt := 178) (pc2 := 99) dX9_ends_96 (by decide) rfl (fun c => ?_) (fun c => ?_)
    · have h := h.1 c
      exact g_vret dX9_ends_178 rfl h
    · have h := h.2 c
      refine g_aload_n (pc2 := 100) dX9_ends_99 rfl rfl ?_
      refine g_geta (pc2 := 103) dX9_ends_100 fl_X9_25 gk_1 rfl rfl ?_
      refine g_aload_n (pc2 := 104) dX9_ends_103 rfl rfl ?_
      refine g_iload_n (pc2 := 105) dX9_ends_104 rfl rfl ?_
      refine g_callV (M2 := mX9_as) (as := [.int x1]) (st := [.ref 145]) (pc2 := 108) dX9_ends_105 ml_X9_203 mvX9_as gk_1 rfl rfl rfl (Nat.le_of_ble_eq_true rfl) (Nat.le_refl _) rfl (h.mono ?_)
      rintro _ σ1 ⟨r2, rfl, h⟩
      show gG (d + 1) mX9_ends 108 _ [.int r2, .ref 145] σ1 Q
      obtain ⟨hx, h⟩ := h
      refine g_iald (pc2 := 109) dX9_ends_108 gk_145 hx rfl ?_
      refine g_iconst (v := 1) (pc2 := 110) dX9_ends_109 (by decide) rfl ?_
      refine g_icmp_ne (tgt := 178) (pc2 := 113) dX9_ends_110 (by decide) rfl (fun c => ?_) (fun c => ?_)
      · have h := h.1 c
        exact g_vret dX9_ends_178 rfl h
      · have h := h.2 c
        refine g_aload_n (pc2 := 114) dX9_ends_113 rfl rfl ?_
        refine g_iload_n (pc2 := 115) dX9_ends_114 rfl rfl ?_
        refine g_callV (M2 := mX9_allIn) (as := [.int x1]) (st := []) (pc2 := 118) dX9_ends_115 ml_X9_219 mvX9_allIn gk_1 rfl rfl rfl (Nat.le_of_ble_eq_true rfl) (Nat.le_refl _) rfl (h.mono ?_)
        rintro _ σ3 ⟨r4, rfl, h⟩
        show gG (d + 1) mX9_ends 118 _ [.int r4] σ3 Q
        refine g_aload_n (pc2 := 119) dX9_ends_118 rfl rfl ?_
        refine g_geti (pc2 := 122) dX9_ends_119 fl_X9_110 gk_1 rfl rfl ?_
        refine g_icmp_lt (tgt := 178) (pc2 := 125) dX9_ends_122 (by decide) rfl (fun c => ?_) (fun c => ?_)
        · have h := h.1 c
          exact g_vret dX9_ends_178 rfl h
        · have h := h.2 c
          refine g_aload_n (pc2 := 126) dX9_ends_125 rfl rfl ?_
          refine g_geta (pc2 := 129) dX9_ends_126 fl_X9_64 gk_1 rfl rfl ?_
          refine g_iload_n (pc2 := 130) dX9_ends_129 rfl rfl ?_
          refine g_iconst (v := 0) (pc2 := 131) dX9_ends_130 (by decide) rfl ?_
          obtain ⟨hx, h⟩ := h
          refine g_zast2 (pc2 := 132) dX9_ends_131 gk_158 hx rfl (fun s5 es5 => ?_)
          replace h := h s5 es5
          refine g_iconst (v := 0) (pc2 := 133) dX9_ends_132 (by decide) rfl ?_
          refine g_istore_n (pc2 := 134) dX9_ends_133 (by decide) rfl rfl ?_
          exact g_lw (lv2 := [some (.ref 1), some (.int x1), none, some (.int 0), none, none]) ⟨rfl, ⟨rfl, ⟨rfl, trivial⟩⟩⟩ h
  · have h := h.2 c
    refine g_aload_n (pc2 := 9) dX9_ends_8 rfl rfl ?_
    refine g_geta (pc2 := 12) dX9_ends_9 fl_X9_55 gk_1 rfl rfl ?_
    refine g_bipush (v := 8) (pc2 := 14) dX9_ends_12 (by decide) rfl ?_
    refine g_iload_n (pc2 := 15) dX9_ends_14 rfl rfl ?_
    refine g_imul (pc2 := 16) dX9_ends_15 rfl ?_
    refine g_iload_n (pc2 := 17) dX9_ends_16 rfl rfl ?_
    refine g_iadd (pc2 := 18) dX9_ends_17 rfl ?_
    obtain ⟨hx, h⟩ := h
    refine g_iald (pc2 := 19) dX9_ends_18 gk_155 hx rfl ?_
    refine g_istore (pc2 := 21) dX9_ends_19 (by decide) rfl rfl ?_
    refine g_iload (pc2 := 23) dX9_ends_21 rfl rfl ?_
    refine g_if_ne (tgt := 30) (pc2 := 26) dX9_ends_23 (by decide) rfl (fun c => ?_) (fun c => ?_)
    · have h := h.1 c
      refine g_iload (pc2 := 32) dX9_ends_30 rfl rfl ?_
      refine g_bipush (v := 10) (pc2 := 34) dX9_ends_32 (by decide) rfl ?_
      refine g_aload_n (pc2 := 35) dX9_ends_34 rfl rfl ?_
      refine g_geta (pc2 := 38) dX9_ends_35 fl_X9_61 gk_1 rfl rfl ?_
      refine g_iload_n (pc2 := 39) dX9_ends_38 rfl rfl ?_
      obtain ⟨hx, h⟩ := h
      refine g_iald (pc2 := 40) dX9_ends_39 gk_157 hx rfl ?_
      refine g_isub (pc2 := 41) dX9_ends_40 rfl ?_
      refine g_imul (pc2 := 42) dX9_ends_41 rfl ?_
      refine g_bipush (v := 100) (pc2 := 44) dX9_ends_42 (by decide) rfl ?_
      refine g_idiv (pc2 := 45) dX9_ends_44 (by decide) rfl ?_
      refine g_aload_n (pc2 := 46) dX9_ends_45 rfl rfl ?_
      refine g_geta (pc2 := 49) dX9_ends_46 fl_X9_61 gk_1 rfl rfl ?_
      refine g_iload_n (pc2 := 50) dX9_ends_49 rfl rfl ?_
      obtain ⟨hx, h⟩ := h
      refine g_iald (pc2 := 51) dX9_ends_50 gk_157 hx rfl ?_
      refine g_if_ne (tgt := 58) (pc2 := 54) dX9_ends_51 (by decide) rfl (fun c => ?_) (fun c => ?_)
      · have h := h.1 c
        refine g_iconst (v := 0) (pc2 := 59) dX9_ends_58 (by decide) rfl ?_
        refine g_iadd (pc2 := 60) dX9_ends_59 rfl ?_
        refine g_istore (pc2 := 62) dX9_ends_60 (by decide) rfl rfl ?_
        refine g_aload_n (pc2 := 63) dX9_ends_62 rfl rfl ?_
        refine g_geta (pc2 := 66) dX9_ends_63 fl_X9_55 gk_1 rfl rfl ?_
        refine g_bipush (v := 8) (pc2 := 68) dX9_ends_66 (by decide) rfl ?_
        refine g_iload_n (pc2 := 69) dX9_ends_68 rfl rfl ?_
        refine g_imul (pc2 := 70) dX9_ends_69 rfl ?_
        refine g_iload_n (pc2 := 71) dX9_ends_70 rfl rfl ?_
        refine g_iadd (pc2 := 72) dX9_ends_71 rfl ?_
        refine g_iload (pc2 := 74) dX9_ends_72 rfl rfl ?_
        refine g_iload (pc2 := 76) dX9_ends_74 rfl rfl ?_
        refine g_isub (pc2 := 77) dX9_ends_76 rfl ?_
        obtain ⟨hx, h⟩ := h
        refine g_iast2 (pc2 := 78) dX9_ends_77 gk_155 hx rfl (fun s6 es6 => ?_)
        replace h := h s6 es6
        refine g_aload_n (pc2 := 79) dX9_ends_78 rfl rfl ?_
        refine g_dup (pc2 := 80) dX9_ends_79 rfl rfl ?_
        refine g_geti (pc2 := 83) dX9_ends_80 fl_X9_197 gk_1 rfl rfl ?_
        refine g_iload (pc2 := 85) dX9_ends_83 rfl rfl ?_
        refine g_iadd (pc2 := 86) dX9_ends_85 rfl ?_
        refine g_put2 (pc2 := 89) dX9_ends_86 fp_X9_197 gk_1 rfl rfl rfl rfl (fun s7 es7 => ?_)
        replace h := h s7 es7
        refine g_iinc2 (c := 1) (pc2 := 92) dX9_ends_89 rfl (by decide) (by decide) rfl rfl ?_
        refine g_goto (tgt := 2) dX9_ends_92 (by decide) ?_
        exact g_lw (lv2 := [some (.ref 1), some (.int x1), some (.int x2), some (.int (x3 + 1)), none, none]) ⟨rfl, ⟨rfl, ⟨rfl, ⟨rfl, trivial⟩⟩⟩⟩ h
      · have h := h.2 c
        refine g_iconst (v := 1) (pc2 := 55) dX9_ends_54 (by decide) rfl ?_
        refine g_goto (tgt := 59) dX9_ends_55 (by decide) ?_
        refine g_iadd (pc2 := 60) dX9_ends_59 rfl ?_
        refine g_istore (pc2 := 62) dX9_ends_60 (by decide) rfl rfl ?_
        refine g_aload_n (pc2 := 63) dX9_ends_62 rfl rfl ?_
        refine g_geta (pc2 := 66) dX9_ends_63 fl_X9_55 gk_1 rfl rfl ?_
        refine g_bipush (v := 8) (pc2 := 68) dX9_ends_66 (by decide) rfl ?_
        refine g_iload_n (pc2 := 69) dX9_ends_68 rfl rfl ?_
        refine g_imul (pc2 := 70) dX9_ends_69 rfl ?_
        refine g_iload_n (pc2 := 71) dX9_ends_70 rfl rfl ?_
        refine g_iadd (pc2 := 72) dX9_ends_71 rfl ?_
        refine g_iload (pc2 := 74) dX9_ends_72 rfl rfl ?_
        refine g_iload (pc2 := 76) dX9_ends_74 rfl rfl ?_
        refine g_isub (pc2 := 77) dX9_ends_76 rfl ?_
        obtain ⟨hx, h⟩ := h
        refine g_iast2 (pc2 := 78) dX9_ends_77 gk_155 hx rfl (fun s8 es8 => ?_)
        replace h := h s8 es8
        refine g_aload_n (pc2 := 79) dX9_ends_78 rfl rfl ?_
        refine g_dup (pc2 := 80) dX9_ends_79 rfl rfl ?_
        refine g_geti (pc2 := 83) dX9_ends_80 fl_X9_197 gk_1 rfl rfl ?_
        refine g_iload (pc2 := 85) dX9_ends_83 rfl rfl ?_
        refine g_iadd (pc2 := 86) dX9_ends_85 rfl ?_
        refine g_put2 (pc2 := 89) dX9_ends_86 fp_X9_197 gk_1 rfl rfl rfl rfl (fun s9 es9 => ?_)
        replace h := h s9 es9
        refine g_iinc2 (c := 1) (pc2 := 92) dX9_ends_89 rfl (by decide) (by decide) rfl rfl ?_
        refine g_goto (tgt := 2) dX9_ends_92 (by decide) ?_
        exact g_lw (lv2 := [some (.ref 1), some (.int x1), some (.int x2), some (.int (x3 + 1)), none, none]) ⟨rfl, ⟨rfl, ⟨rfl, ⟨rfl, trivial⟩⟩⟩⟩ h
    · have h := h.2 c
      refine g_iconst (v := 0) (pc2 := 27) dX9_ends_26 (by decide) rfl ?_
      refine g_goto (tgt := 60) dX9_ends_27 (by decide) ?_
      refine g_istore (pc2 := 62) dX9_ends_60 (by decide) rfl rfl ?_
      refine g_aload_n (pc2 := 63) dX9_ends_62 rfl rfl ?_
      refine g_geta (pc2 := 66) dX9_ends_63 fl_X9_55 gk_1 rfl rfl ?_
      refine g_bipush (v := 8) (pc2 := 68) dX9_ends_66 (by decide) rfl ?_
      refine g_iload_n (pc2 := 69) dX9_ends_68 rfl rfl ?_
      refine g_imul (pc2 := 70) dX9_ends_69 rfl ?_
      refine g_iload_n (pc2 := 71) dX9_ends_70 rfl rfl ?_
      refine g_iadd (pc2 := 72) dX9_ends_71 rfl ?_
      refine g_iload (pc2 := 74) dX9_ends_72 rfl rfl ?_
      refine g_iload (pc2 := 76) dX9_ends_74 rfl rfl ?_
      refine g_isub (pc2 := 77) dX9_ends_76 rfl ?_
      obtain ⟨hx, h⟩ := h
      refine g_iast2 (pc2 := 78) dX9_ends_77 gk_155 hx rfl (fun s10 es10 => ?_)
      replace h := h s10 es10
      refine g_aload_n (pc2 := 79) dX9_ends_78 rfl rfl ?_
      refine g_dup (pc2 := 80) dX9_ends_79 rfl rfl ?_
      refine g_geti (pc2 := 83) dX9_ends_80 fl_X9_197 gk_1 rfl rfl ?_
      refine g_iload (pc2 := 85) dX9_ends_83 rfl rfl ?_
      refine g_iadd (pc2 := 86) dX9_ends_85 rfl ?_
      refine g_put2 (pc2 := 89) dX9_ends_86 fp_X9_197 gk_1 rfl rfl rfl rfl (fun s11 es11 => ?_)
      replace h := h s11 es11
      refine g_iinc2 (c := 1) (pc2 := 92) dX9_ends_89 rfl (by decide) (by decide) rfl rfl ?_
      refine g_goto (tgt := 2) dX9_ends_92 (by decide) ?_
      exact g_lw (lv2 := [some (.ref 1), some (.int x1), some (.int x2), some (.int (x3 + 1)), none, none]) ⟨rfl, ⟨rfl, ⟨rfl, ⟨rfl, trivial⟩⟩⟩⟩ h
set_option maxRecDepth 20000 in
theorem bX9_ends_134 {d : Nat} {σ : gw_S} {Q : Option Value → gw_S → Prop} {x1 : Int32} {x3 : Int32}   (h : ((8 ≤ x3) → (Q none σ)) ∧ ((¬ 8 ≤ x3) → (vp_in x3 8 ∧ (vp_in ((8 * x1) + x3) 64 ∧ (vp_in x3 8 ∧ (∀ s12 : gw_S, s12 = gw_u σ 162 x3.toNatClampNeg ((σ 162 x3.toNatClampNeg) + (σ 155 ((8 * x1) + x3).toNatClampNeg)) → (vp_in ((8 * x1) + x3) 64 ∧ (∀ s13 : gw_S, s13 = gw_u s12 155 ((8 * x1) + x3).toNatClampNeg 0 → (gG (d + 1) mX9_ends 134 [some (.ref 1), some (.int x1), none, some (.int (x3 + 1)), none, none] [] s13 Q))))))))) : gG (d + 1) mX9_ends 134 [some (.ref 1), some (.int x1), none, some (.int x3), none, none] [] σ Q := by
  refine g_iload_n (pc2 := 135) dX9_ends_134 rfl rfl ?_
  refine g_bipush (v := 8) (pc2 := 137) dX9_ends_135 (by decide) rfl ?_
  refine g_icmp_ge (tgt := 178) (pc2 := 140) dX9_ends_137 (by decide) rfl (fun c => ?_) (fun c => ?_)
  · have h := h.1 c
    exact g_vret dX9_ends_178 rfl h
  · have h := h.2 c
    refine g_aload_n (pc2 := 141) dX9_ends_140 rfl rfl ?_
    refine g_geta (pc2 := 144) dX9_ends_141 fl_X9_77 gk_1 rfl rfl ?_
    refine g_iload_n (pc2 := 145) dX9_ends_144 rfl rfl ?_
    refine g_dup2 (pc2 := 146) dX9_ends_145 rfl rfl rfl ?_
    obtain ⟨hx, h⟩ := h
    refine g_iald (pc2 := 147) dX9_ends_146 gk_162 hx rfl ?_
    refine g_aload_n (pc2 := 148) dX9_ends_147 rfl rfl ?_
    refine g_geta (pc2 := 151) dX9_ends_148 fl_X9_55 gk_1 rfl rfl ?_
    refine g_bipush (v := 8) (pc2 := 153) dX9_ends_151 (by decide) rfl ?_
    refine g_iload_n (pc2 := 154) dX9_ends_153 rfl rfl ?_
    refine g_imul (pc2 := 155) dX9_ends_154 rfl ?_
    refine g_iload_n (pc2 := 156) dX9_ends_155 rfl rfl ?_
    refine g_iadd (pc2 := 157) dX9_ends_156 rfl ?_
    obtain ⟨hx, h⟩ := h
    refine g_iald (pc2 := 158) dX9_ends_157 gk_155 hx rfl ?_
    refine g_iadd (pc2 := 159) dX9_ends_158 rfl ?_
    obtain ⟨hx, h⟩ := h
    refine g_iast2 (pc2 := 160) dX9_ends_159 gk_162 hx rfl (fun s12 es12 => ?_)
    replace h := h s12 es12
    refine g_aload_n (pc2 := 161) dX9_ends_160 rfl rfl ?_
    refine g_geta (pc2 := 164) dX9_ends_161 fl_X9_55 gk_1 rfl rfl ?_
    refine g_bipush (v := 8) (pc2 := 166) dX9_ends_164 (by decide) rfl ?_
    refine g_iload_n (pc2 := 167) dX9_ends_166 rfl rfl ?_
    refine g_imul (pc2 := 168) dX9_ends_167 rfl ?_
    refine g_iload_n (pc2 := 169) dX9_ends_168 rfl rfl ?_
    refine g_iadd (pc2 := 170) dX9_ends_169 rfl ?_
    refine g_iconst (v := 0) (pc2 := 171) dX9_ends_170 (by decide) rfl ?_
    obtain ⟨hx, h⟩ := h
    refine g_iast2 (pc2 := 172) dX9_ends_171 gk_155 hx rfl (fun s13 es13 => ?_)
    replace h := h s13 es13
    refine g_iinc2 (c := 1) (pc2 := 175) dX9_ends_172 rfl (by decide) (by decide) rfl rfl ?_
    refine g_goto (tgt := 134) dX9_ends_175 (by decide) ?_
    exact g_lw (lv2 := [some (.ref 1), some (.int x1), none, some (.int (x3 + 1)), none, none]) ⟨rfl, ⟨rfl, ⟨rfl, trivial⟩⟩⟩ h
set_option maxRecDepth 20000 in
theorem eX9_fault {d : Nat} {σ : gw_S} {Q : Option Value → gw_S → Prop} {x1 : Int32}   (h : gB d mX9_isText [.int x1] σ (fun v σ1 => ∃ r2 : Int32, v = some (.int r2) ∧ (((r2 = 0) → (Q (some (.int (-2))) σ1)) ∧ ((¬ r2 = 0) → (gB d mX9_faultOf [.ref 1, .int x1] σ1 (fun v σ3 => ∃ r4 : Int32, v = some (.int r4) ∧ (Q (some (.int r4)) σ3))))))) : gB (d + 1) mX9_fault [.ref 1, .int x1] σ Q := by
  refine gB_of rfl (Nat.le_of_ble_eq_true rfl) (g_lw (lv2 := [some (.ref 1), some (.int x1)]) ⟨rfl, ⟨rfl, trivial⟩⟩ ?_)
  refine g_iload_n (pc2 := 1) dX9_fault_0 rfl rfl ?_
  refine g_callS (M2 := mX9_isText) (as := [.int x1]) (st := []) (pc2 := 4) dX9_fault_1 ml_X9_120 msX9_isText rfl rfl (Nat.le_of_ble_eq_true rfl) (Nat.le_refl _) rfl (h.mono ?_)
  rintro _ σ1 ⟨r2, rfl, h⟩
  show gG (d + 1) mX9_fault 4 _ [.int r2] σ1 Q
  refine g_if_eq (tgt := 15) (pc2 := 7) dX9_fault_4 (by decide) rfl (fun c => ?_) (fun c => ?_)
  · have h := h.1 c
    refine g_bipush (v := (-2)) (pc2 := 17) dX9_fault_15 (by decide) rfl ?_
    exact g_iret dX9_fault_17 rfl h
  · have h := h.2 c
    refine g_aload_n (pc2 := 8) dX9_fault_7 rfl rfl ?_
    refine g_iload_n (pc2 := 9) dX9_fault_8 rfl rfl ?_
    refine g_callV (M2 := mX9_faultOf) (as := [.int x1]) (st := []) (pc2 := 12) dX9_fault_9 ml_X9_144 mvX9_faultOf gk_1 rfl rfl rfl (Nat.le_of_ble_eq_true rfl) (Nat.le_refl _) rfl (h.mono ?_)
    rintro _ σ3 ⟨r4, rfl, h⟩
    show gG (d + 1) mX9_fault 12 _ [.int r4] σ3 Q
    refine g_goto (tgt := 17) dX9_fault_12 (by decide) ?_
    exact g_iret dX9_fault_17 rfl h
set_option maxRecDepth 20000 in
theorem eX9_faultOf {d : Nat} {σ : gw_S} {Q : Option Value → gw_S → Prop} {x1 : Int32}   (h : gB d mX9_readsBottles [.ref 1] σ (fun v σ1 => ∃ r2 : Int32, v = some (.int r2) ∧ (gB d mX9_readsSong [.ref 1] σ1 (fun v σ3 => ∃ r4 : Int32, v = some (.int r4) ∧ (((¬ x1 = 0) → (Q (some (.int r4)) σ3)) ∧ ((x1 = 0) → (Q (some (.int r2)) σ3))))))) : gB (d + 1) mX9_faultOf [.ref 1, .int x1] σ Q := by
  refine gB_of rfl (Nat.le_of_ble_eq_true rfl) (g_lw (lv2 := [some (.ref 1), some (.int x1), none, none]) ⟨rfl, ⟨rfl, trivial⟩⟩ ?_)
  refine g_aload_n (pc2 := 1) dX9_faultOf_0 rfl rfl ?_
  refine g_callV (M2 := mX9_readsBottles) (as := []) (st := []) (pc2 := 4) dX9_faultOf_1 ml_X9_137 mvX9_readsBottles gk_1 rfl rfl rfl (Nat.le_of_ble_eq_true rfl) (Nat.le_refl _) rfl (h.mono ?_)
  rintro _ σ1 ⟨r2, rfl, h⟩
  show gG (d + 1) mX9_faultOf 4 _ [.int r2] σ1 Q
  refine g_istore_n (pc2 := 5) dX9_faultOf_4 (by decide) rfl rfl ?_
  refine g_aload_n (pc2 := 6) dX9_faultOf_5 rfl rfl ?_
  refine g_callV (M2 := mX9_readsSong) (as := []) (st := []) (pc2 := 9) dX9_faultOf_6 ml_X9_141 mvX9_readsSong gk_1 rfl rfl rfl (Nat.le_of_ble_eq_true rfl) (Nat.le_refl _) rfl (h.mono ?_)
  rintro _ σ3 ⟨r4, rfl, h⟩
  show gG (d + 1) mX9_faultOf 9 _ [.int r4] σ3 Q
  refine g_istore_n (pc2 := 10) dX9_faultOf_9 (by decide) rfl rfl ?_
  refine g_iload_n (pc2 := 11) dX9_faultOf_10 rfl rfl ?_
  refine g_if_ne (tgt := 18) (pc2 := 14) dX9_faultOf_11 (by decide) rfl (fun c => ?_) (fun c => ?_)
  · have h := h.1 c
    refine g_iload_n (pc2 := 19) dX9_faultOf_18 rfl rfl ?_
    exact g_iret dX9_faultOf_19 rfl h
  · have h := h.2 c
    refine g_iload_n (pc2 := 15) dX9_faultOf_14 rfl rfl ?_
    refine g_goto (tgt := 19) dX9_faultOf_15 (by decide) ?_
    exact g_iret dX9_faultOf_19 rfl h
set_option maxRecDepth 20000 in
theorem eX9_forget {d : Nat} {σ : gw_S} {Q : Option Value → gw_S → Prop}    (h : ∀ s1 : gw_S, s1 = gw_u σ 1 36 0 → (Q (some (.int (σ 1 36))) s1)) : gB d mX9_forget [.ref 1] σ Q := by
  refine gB_of rfl (Nat.le_of_ble_eq_true rfl) (g_lw (lv2 := [some (.ref 1), none]) ⟨rfl, trivial⟩ ?_)
  refine g_aload_n (pc2 := 1) dX9_forget_0 rfl rfl ?_
  refine g_geti (pc2 := 4) dX9_forget_1 fl_X9_299 gk_1 rfl rfl ?_
  refine g_istore_n (pc2 := 5) dX9_forget_4 (by decide) rfl rfl ?_
  refine g_aload_n (pc2 := 6) dX9_forget_5 rfl rfl ?_
  refine g_iconst (v := 0) (pc2 := 7) dX9_forget_6 (by decide) rfl ?_
  refine g_put2 (pc2 := 10) dX9_forget_7 fp_X9_299 gk_1 rfl rfl rfl rfl (fun s1 es1 => ?_)
  replace h := h s1 es1
  refine g_iload_n (pc2 := 11) dX9_forget_10 rfl rfl ?_
  exact g_iret dX9_forget_11 rfl h
set_option maxRecDepth 20000 in
theorem eX9_get {d : Nat} {σ : gw_S} {Q : Option Value → gw_S → Prop} {x1 : Int32} {x2 : Int32} {x3 : Int32}   (h : gB d mX9_isSheet [.int x1] σ (fun v σ1 => ∃ r2 : Int32, v = some (.int r2) ∧ (((r2 = 0) → (Q (some (.int (-2147483648))) σ1)) ∧ ((¬ r2 = 0) → (gB d mX9_in [.int x2, .int 0, .int 2] σ1 (fun v σ3 => ∃ r4 : Int32, v = some (.int r4) ∧ (((¬ r4 = 0) → (gB d mX9_lacks [.ref 1, .int x1, .int x2, .int x3] σ3 (fun v σ5 => ∃ r6 : Int32, v = some (.int r6) ∧ (((r6 ≤ 0) → (vp_in ((60 * x1) + x3) 240 ∧ (Q (some (.int (σ5 171 ((60 * x1) + x3).toNatClampNeg))) σ5))) ∧ ((¬ r6 ≤ 0) → (∀ s7 : gw_S, s7 = gw_u σ5 1 46 r6 → (Q (some (.int (-2147483648))) s7))))))) ∧ ((r4 = 0) → (Q (some (.int (-2147483648))) σ3))))))))) : gB (d + 1) mX9_get [.ref 1, .int x1, .int x2, .int x3] σ Q := by
  refine gB_of rfl (Nat.le_of_ble_eq_true rfl) (g_lw (lv2 := [some (.ref 1), some (.int x1), some (.int x2), some (.int x3), none]) ⟨rfl, ⟨rfl, ⟨rfl, ⟨rfl, trivial⟩⟩⟩⟩ ?_)
  refine g_iload_n (pc2 := 1) dX9_get_0 rfl rfl ?_
  refine g_callS (M2 := mX9_isSheet) (as := [.int x1]) (st := []) (pc2 := 4) dX9_get_1 ml_X9_172 msX9_isSheet rfl rfl (Nat.le_of_ble_eq_true rfl) (Nat.le_refl _) rfl (h.mono ?_)
  rintro _ σ1 ⟨r2, rfl, h⟩
  show gG (d + 1) mX9_get 4 _ [.int r2] σ1 Q
  refine g_if_eq (tgt := 16) (pc2 := 7) dX9_get_4 (by decide) rfl (fun c => ?_) (fun c => ?_)
  · have h := h.1 c
    refine g_ldcw (pc2 := 19) dX9_get_16 co_X9_341 rfl ?_
    exact g_iret dX9_get_19 rfl h
  · have h := h.2 c
    refine g_iload_n (pc2 := 8) dX9_get_7 rfl rfl ?_
    refine g_iconst (v := 0) (pc2 := 9) dX9_get_8 (by decide) rfl ?_
    refine g_iconst (v := 2) (pc2 := 10) dX9_get_9 (by decide) rfl ?_
    refine g_callS (M2 := mX9_in) (as := [.int x2, .int 0, .int 2]) (st := []) (pc2 := 13) dX9_get_10 ml_X9_116 msX9_in rfl rfl (Nat.le_of_ble_eq_true rfl) (Nat.le_refl _) rfl (h.mono ?_)
    rintro _ σ3 ⟨r4, rfl, h⟩
    show gG (d + 1) mX9_get 13 _ [.int r4] σ3 Q
    refine g_if_ne (tgt := 20) (pc2 := 16) dX9_get_13 (by decide) rfl (fun c => ?_) (fun c => ?_)
    · have h := h.1 c
      refine g_aload_n (pc2 := 21) dX9_get_20 rfl rfl ?_
      refine g_iload_n (pc2 := 22) dX9_get_21 rfl rfl ?_
      refine g_iload_n (pc2 := 23) dX9_get_22 rfl rfl ?_
      refine g_iload_n (pc2 := 24) dX9_get_23 rfl rfl ?_
      refine g_callV (M2 := mX9_lacks) (as := [.int x1, .int x2, .int x3]) (st := []) (pc2 := 27) dX9_get_24 ml_X9_334 mvX9_lacks gk_1 rfl rfl rfl (Nat.le_of_ble_eq_true rfl) (Nat.le_refl _) rfl (h.mono ?_)
      rintro _ σ5 ⟨r6, rfl, h⟩
      show gG (d + 1) mX9_get 27 _ [.int r6] σ5 Q
      refine g_istore (pc2 := 29) dX9_get_27 (by decide) rfl rfl ?_
      refine g_iload (pc2 := 31) dX9_get_29 rfl rfl ?_
      refine g_if_le (tgt := 44) (pc2 := 34) dX9_get_31 (by decide) rfl (fun c => ?_) (fun c => ?_)
      · have h := h.1 c
        refine g_aload_n (pc2 := 45) dX9_get_44 rfl rfl ?_
        refine g_geta (pc2 := 48) dX9_get_45 fl_X9_104 gk_1 rfl rfl ?_
        refine g_bipush (v := 60) (pc2 := 50) dX9_get_48 (by decide) rfl ?_
        refine g_iload_n (pc2 := 51) dX9_get_50 rfl rfl ?_
        refine g_imul (pc2 := 52) dX9_get_51 rfl ?_
        refine g_iload_n (pc2 := 53) dX9_get_52 rfl rfl ?_
        refine g_iadd (pc2 := 54) dX9_get_53 rfl ?_
        obtain ⟨hx, h⟩ := h
        refine g_iald (pc2 := 55) dX9_get_54 gk_171 hx rfl ?_
        exact g_iret dX9_get_55 rfl h
      · have h := h.2 c
        refine g_aload_n (pc2 := 35) dX9_get_34 rfl rfl ?_
        refine g_iload (pc2 := 37) dX9_get_35 rfl rfl ?_
        refine g_put2 (pc2 := 40) dX9_get_37 fp_X9_331 gk_1 rfl rfl rfl rfl (fun s7 es7 => ?_)
        replace h := h s7 es7
        refine g_ldcw (pc2 := 43) dX9_get_40 co_X9_341 rfl ?_
        exact g_iret dX9_get_43 rfl h
    · have h := h.2 c
      refine g_ldcw (pc2 := 19) dX9_get_16 co_X9_341 rfl ?_
      exact g_iret dX9_get_19 rfl h
set_option maxRecDepth 20000 in
theorem eX9_goesBy {d : Nat} {σ : gw_S} {Q : Option Value → gw_S → Prop} {x1 : Int32}   (h : gG (d + 1) mX9_goesBy 2 [some (.ref 1), some (.int x1), some (.int 0), none] [] σ Q) : gB (d + 1) mX9_goesBy [.ref 1, .int x1] σ Q := by
  refine gB_of rfl (Nat.le_of_ble_eq_true rfl) (g_lw (lv2 := [some (.ref 1), some (.int x1), none, none]) ⟨rfl, ⟨rfl, trivial⟩⟩ ?_)
  refine g_iconst (v := 0) (pc2 := 1) dX9_goesBy_0 (by decide) rfl ?_
  refine g_istore_n (pc2 := 2) dX9_goesBy_1 (by decide) rfl rfl ?_
  exact g_lw (lv2 := [some (.ref 1), some (.int x1), some (.int 0), none]) ⟨rfl, ⟨rfl, ⟨rfl, trivial⟩⟩⟩ h
set_option maxRecDepth 20000 in
theorem bX9_goesBy_2 {d : Nat} {σ : gw_S} {Q : Option Value → gw_S → Prop} {x1 : Int32} {x2 : Int32}   (h : (((σ 1 17) ≤ x2) → (gG (d + 1) mX9_goesBy 33 [some (.ref 1), some (.int x1), some (.int 0), none] [] σ Q)) ∧ ((¬ (σ 1 17) ≤ x2) → (((¬ x1 = 0) → (gG (d + 1) mX9_goesBy 33 [some (.ref 1), some (.int x1), some (.int 0), none] [] σ Q)) ∧ ((x1 = 0) → (vp_in x2 3 ∧ (gB d mX9_corksOne [.ref 1, .int (σ 152 x2.toNatClampNeg)] σ (fun v σ1 => ∃ r2 : Int32, v = some (.int r2) ∧ (gG (d + 1) mX9_goesBy 2 [some (.ref 1), some (.int x1), some (.int (x2 + 1)), none] [] σ1 Q)))))))) : gG (d + 1) mX9_goesBy 2 [some (.ref 1), some (.int x1), some (.int x2), none] [] σ Q := by
  refine g_iload_n (pc2 := 3) dX9_goesBy_2 rfl rfl ?_
  refine g_aload_n (pc2 := 4) dX9_goesBy_3 rfl rfl ?_
  refine g_geti (pc2 := 7) dX9_goesBy_4 fl_X9_191 gk_1 rfl rfl ?_
  refine g_icmp_ge (tgt := 31) (pc2 := 10) dX9_goesBy_7 (by decide) rfl (fun c => ?_) (fun c => ?_)
  · have h := h.1 c
    refine g_iconst (v := 0) (pc2 := 32) dX9_goesBy_31 (by decide) rfl ?_
    refine g_istore_n (pc2 := 33) dX9_goesBy_32 (by decide) rfl rfl ?_
    exact g_lw (lv2 := [some (.ref 1), some (.int x1), some (.int 0), none]) ⟨rfl, ⟨rfl, ⟨rfl, trivial⟩⟩⟩ h
  · have h := h.2 c
    refine g_iload_n (pc2 := 11) dX9_goesBy_10 rfl rfl ?_
    refine g_if_ne (tgt := 31) (pc2 := 14) dX9_goesBy_11 (by decide) rfl (fun c => ?_) (fun c => ?_)
    · have h := h.1 c
      refine g_iconst (v := 0) (pc2 := 32) dX9_goesBy_31 (by decide) rfl ?_
      refine g_istore_n (pc2 := 33) dX9_goesBy_32 (by decide) rfl rfl ?_
      exact g_lw (lv2 := [some (.ref 1), some (.int x1), some (.int 0), none]) ⟨rfl, ⟨rfl, ⟨rfl, trivial⟩⟩⟩ h
    · have h := h.2 c
      refine g_aload_n (pc2 := 15) dX9_goesBy_14 rfl rfl ?_
      refine g_aload_n (pc2 := 16) dX9_goesBy_15 rfl rfl ?_
      refine g_geta (pc2 := 19) dX9_goesBy_16 fl_X9_46 gk_1 rfl rfl ?_
      refine g_iload_n (pc2 := 20) dX9_goesBy_19 rfl rfl ?_
      obtain ⟨hx, h⟩ := h
      refine g_iald (pc2 := 21) dX9_goesBy_20 gk_152 hx rfl ?_
      refine g_callV (M2 := mX9_corksOne) (as := [.int (σ 152 x2.toNatClampNeg)]) (st := []) (pc2 := 24) dX9_goesBy_21 ml_X9_216 mvX9_corksOne gk_1 rfl rfl rfl (Nat.le_of_ble_eq_true rfl) (Nat.le_refl _) rfl (h.mono ?_)
      rintro _ σ1 ⟨r2, rfl, h⟩
      show gG (d + 1) mX9_goesBy 24 _ [.int r2] σ1 Q
      refine g_istore_n (pc2 := 25) dX9_goesBy_24 (by decide) rfl rfl ?_
      refine g_iinc2 (c := 1) (pc2 := 28) dX9_goesBy_25 rfl (by decide) (by decide) rfl rfl ?_
      refine g_goto (tgt := 2) dX9_goesBy_28 (by decide) ?_
      exact g_lw (lv2 := [some (.ref 1), some (.int x1), some (.int (x2 + 1)), none]) ⟨rfl, ⟨rfl, ⟨rfl, trivial⟩⟩⟩ h
set_option maxRecDepth 20000 in
theorem bX9_goesBy_33 {d : Nat} {σ : gw_S} {Q : Option Value → gw_S → Prop} {x1 : Int32} {x2 : Int32}   (h : (((σ 1 12) ≤ x2) → ((((σ 1 19) ≤ x1) → (gG (d + 1) mX9_goesBy 119 [some (.ref 1), some (.int x1), some (.int 0), none] [] σ Q)) ∧ ((¬ (σ 1 19) ≤ x1) → (vp_in x1 40 ∧ (vp_in x1 40 ∧ (gB d mX9_sells [.ref 1, .int (σ 153 x1.toNatClampNeg), .int (σ 154 x1.toNatClampNeg)] σ (fun v σ3 => ∃ r4 : Int32, v = some (.int r4) ∧ (((r4 = 0) → (∀ s5 : gw_S, s5 = gw_u σ3 1 31 ((σ 1 31) + 0) → (gG (d + 1) mX9_goesBy 119 [some (.ref 1), some (.int x1), some (.int 0), none] [] s5 Q))) ∧ ((¬ r4 = 0) → (∀ s6 : gw_S, s6 = gw_u σ3 1 31 ((σ 1 31) + 1) → (gG (d + 1) mX9_goesBy 119 [some (.ref 1), some (.int x1), some (.int 0), none] [] s6 Q))))))))))) ∧ ((¬ (σ 1 12) ≤ x2) → (vp_in x2 16 ∧ (((¬ (σ 148 x2.toNatClampNeg) = x1) → (gG (d + 1) mX9_goesBy 33 [some (.ref 1), some (.int x1), some (.int (x2 + 1)), none] [] σ Q)) ∧ (((σ 148 x2.toNatClampNeg) = x1) → (((x2 = (σ 1 32)) → (gG (d + 1) mX9_goesBy 33 [some (.ref 1), some (.int x1), some (.int (x2 + 1)), none] [] σ Q)) ∧ ((¬ x2 = (σ 1 32)) → (gB d mX9_does [.ref 1, .int x2] σ (fun v σ7 => ∃ r8 : Int32, v = some (.int r8) ∧ (vp_in x2 16 ∧ (∀ s9 : gw_S, s9 = gw_u σ7 160 x2.toNatClampNeg (vp_nar .boolean r8) → (gG (d + 1) mX9_goesBy 33 [some (.ref 1), some (.int x1), some (.int (x2 + 1)), none] [] s9 Q)))))))))))) : gG (d + 1) mX9_goesBy 33 [some (.ref 1), some (.int x1), some (.int x2), none] [] σ Q := by
  refine g_iload_n (pc2 := 34) dX9_goesBy_33 rfl rfl ?_
  refine g_aload_n (pc2 := 35) dX9_goesBy_34 rfl rfl ?_
  refine g_geti (pc2 := 38) dX9_goesBy_35 fl_X9_169 gk_1 rfl rfl ?_
  refine g_icmp_ge (tgt := 76) (pc2 := 41) dX9_goesBy_38 (by decide) rfl (fun c => ?_) (fun c => ?_)
  · have h := h.1 c
    refine g_iload_n (pc2 := 77) dX9_goesBy_76 rfl rfl ?_
    refine g_aload_n (pc2 := 78) dX9_goesBy_77 rfl rfl ?_
    refine g_geti (pc2 := 81) dX9_goesBy_78 fl_X9_194 gk_1 rfl rfl ?_
    refine g_icmp_ge (tgt := 117) (pc2 := 84) dX9_goesBy_81 (by decide) rfl (fun c => ?_) (fun c => ?_)
    · have h := h.1 c
      refine g_iconst (v := 0) (pc2 := 118) dX9_goesBy_117 (by decide) rfl ?_
      refine g_istore_n (pc2 := 119) dX9_goesBy_118 (by decide) rfl rfl ?_
      exact g_lw (lv2 := [some (.ref 1), some (.int x1), some (.int 0), none]) ⟨rfl, ⟨rfl, ⟨rfl, trivial⟩⟩⟩ h
    · have h := h.2 c
      refine g_aload_n (pc2 := 85) dX9_goesBy_84 rfl rfl ?_
      refine g_dup (pc2 := 86) dX9_goesBy_85 rfl rfl ?_
      refine g_geti (pc2 := 89) dX9_goesBy_86 fl_X9_200 gk_1 rfl rfl ?_
      refine g_aload_n (pc2 := 90) dX9_goesBy_89 rfl rfl ?_
      refine g_aload_n (pc2 := 91) dX9_goesBy_90 rfl rfl ?_
      refine g_geta (pc2 := 94) dX9_goesBy_91 fl_X9_49 gk_1 rfl rfl ?_
      refine g_iload_n (pc2 := 95) dX9_goesBy_94 rfl rfl ?_
      obtain ⟨hx, h⟩ := h
      refine g_iald (pc2 := 96) dX9_goesBy_95 gk_153 hx rfl ?_
      refine g_aload_n (pc2 := 97) dX9_goesBy_96 rfl rfl ?_
      refine g_geta (pc2 := 100) dX9_goesBy_97 fl_X9_52 gk_1 rfl rfl ?_
      refine g_iload_n (pc2 := 101) dX9_goesBy_100 rfl rfl ?_
      obtain ⟨hx, h⟩ := h
      refine g_iald (pc2 := 102) dX9_goesBy_101 gk_154 hx rfl ?_
      refine g_callV (M2 := mX9_sells) (as := [.int (σ 153 x1.toNatClampNeg), .int (σ 154 x1.toNatClampNeg)]) (st := [.int (σ 1 31), .ref 1]) (pc2 := 105) dX9_goesBy_102 ml_X9_206 mvX9_sells gk_1 rfl rfl rfl (Nat.le_of_ble_eq_true rfl) (Nat.le_refl _) rfl (h.mono ?_)
      rintro _ σ3 ⟨r4, rfl, h⟩
      show gG (d + 1) mX9_goesBy 105 _ [.int r4, .int (σ 1 31), .ref 1] σ3 Q
      refine g_if_eq (tgt := 112) (pc2 := 108) dX9_goesBy_105 (by decide) rfl (fun c => ?_) (fun c => ?_)
      · have h := h.1 c
        refine g_iconst (v := 0) (pc2 := 113) dX9_goesBy_112 (by decide) rfl ?_
        refine g_iadd (pc2 := 114) dX9_goesBy_113 rfl ?_
        refine g_put2 (pc2 := 117) dX9_goesBy_114 fp_X9_200 gk_1 rfl rfl rfl rfl (fun s5 es5 => ?_)
        replace h := h s5 es5
        refine g_iconst (v := 0) (pc2 := 118) dX9_goesBy_117 (by decide) rfl ?_
        refine g_istore_n (pc2 := 119) dX9_goesBy_118 (by decide) rfl rfl ?_
        exact g_lw (lv2 := [some (.ref 1), some (.int x1), some (.int 0), none]) ⟨rfl, ⟨rfl, ⟨rfl, trivial⟩⟩⟩ h
      · have h := h.2 c
        refine g_iconst (v := 1) (pc2 := 109) dX9_goesBy_108 (by decide) rfl ?_
        refine g_goto (tgt := 113) dX9_goesBy_109 (by decide) ?_
        refine g_iadd (pc2 := 114) dX9_goesBy_113 rfl ?_
        refine g_put2 (pc2 := 117) dX9_goesBy_114 fp_X9_200 gk_1 rfl rfl rfl rfl (fun s6 es6 => ?_)
        replace h := h s6 es6
        refine g_iconst (v := 0) (pc2 := 118) dX9_goesBy_117 (by decide) rfl ?_
        refine g_istore_n (pc2 := 119) dX9_goesBy_118 (by decide) rfl rfl ?_
        exact g_lw (lv2 := [some (.ref 1), some (.int x1), some (.int 0), none]) ⟨rfl, ⟨rfl, ⟨rfl, trivial⟩⟩⟩ h
  · have h := h.2 c
    refine g_aload_n (pc2 := 42) dX9_goesBy_41 rfl rfl ?_
    refine g_geta (pc2 := 45) dX9_goesBy_42 fl_X9_34 gk_1 rfl rfl ?_
    refine g_iload_n (pc2 := 46) dX9_goesBy_45 rfl rfl ?_
    obtain ⟨hx, h⟩ := h
    refine g_iald (pc2 := 47) dX9_goesBy_46 gk_148 hx rfl ?_
    refine g_iload_n (pc2 := 48) dX9_goesBy_47 rfl rfl ?_
    refine g_icmp_ne (tgt := 70) (pc2 := 51) dX9_goesBy_48 (by decide) rfl (fun c => ?_) (fun c => ?_)
    · have h := h.1 c
      refine g_iinc2 (c := 1) (pc2 := 73) dX9_goesBy_70 rfl (by decide) (by decide) rfl rfl ?_
      refine g_goto (tgt := 33) dX9_goesBy_73 (by decide) ?_
      exact g_lw (lv2 := [some (.ref 1), some (.int x1), some (.int (x2 + 1)), none]) ⟨rfl, ⟨rfl, ⟨rfl, trivial⟩⟩⟩ h
    · have h := h.2 c
      refine g_iload_n (pc2 := 52) dX9_goesBy_51 rfl rfl ?_
      refine g_aload_n (pc2 := 53) dX9_goesBy_52 rfl rfl ?_
      refine g_geti (pc2 := 56) dX9_goesBy_53 fl_X9_182 gk_1 rfl rfl ?_
      refine g_icmp_eq (tgt := 70) (pc2 := 59) dX9_goesBy_56 (by decide) rfl (fun c => ?_) (fun c => ?_)
      · have h := h.1 c
        refine g_iinc2 (c := 1) (pc2 := 73) dX9_goesBy_70 rfl (by decide) (by decide) rfl rfl ?_
        refine g_goto (tgt := 33) dX9_goesBy_73 (by decide) ?_
        exact g_lw (lv2 := [some (.ref 1), some (.int x1), some (.int (x2 + 1)), none]) ⟨rfl, ⟨rfl, ⟨rfl, trivial⟩⟩⟩ h
      · have h := h.2 c
        refine g_aload_n (pc2 := 60) dX9_goesBy_59 rfl rfl ?_
        refine g_geta (pc2 := 63) dX9_goesBy_60 fl_X9_71 gk_1 rfl rfl ?_
        refine g_iload_n (pc2 := 64) dX9_goesBy_63 rfl rfl ?_
        refine g_aload_n (pc2 := 65) dX9_goesBy_64 rfl rfl ?_
        refine g_iload_n (pc2 := 66) dX9_goesBy_65 rfl rfl ?_
        refine g_callV (M2 := mX9_does) (as := [.int x2]) (st := [.int x2, .ref 160]) (pc2 := 69) dX9_goesBy_66 ml_X9_222 mvX9_does gk_1 rfl rfl rfl (Nat.le_of_ble_eq_true rfl) (Nat.le_refl _) rfl (h.mono ?_)
        rintro _ σ7 ⟨r8, rfl, h⟩
        show gG (d + 1) mX9_goesBy 69 _ [.int r8, .int x2, .ref 160] σ7 Q
        obtain ⟨hx, h⟩ := h
        refine g_zast2 (pc2 := 70) dX9_goesBy_69 gk_160 hx rfl (fun s9 es9 => ?_)
        replace h := h s9 es9
        refine g_iinc2 (c := 1) (pc2 := 73) dX9_goesBy_70 rfl (by decide) (by decide) rfl rfl ?_
        refine g_goto (tgt := 33) dX9_goesBy_73 (by decide) ?_
        exact g_lw (lv2 := [some (.ref 1), some (.int x1), some (.int (x2 + 1)), none]) ⟨rfl, ⟨rfl, ⟨rfl, trivial⟩⟩⟩ h
set_option maxRecDepth 20000 in
theorem bX9_goesBy_119 {d : Nat} {σ : gw_S} {Q : Option Value → gw_S → Prop} {x1 : Int32} {x2 : Int32}   (h : (((σ 1 2) ≤ x2) → (Q none σ)) ∧ ((¬ (σ 1 2) ≤ x2) → (vp_in x2 8 ∧ ((((σ 158 x2.toNatClampNeg) = 0) → (gG (d + 1) mX9_goesBy 119 [some (.ref 1), some (.int x1), some (.int (x2 + 1)), none] [] σ Q)) ∧ ((¬ (σ 158 x2.toNatClampNeg) = 0) → (vp_in x1 40 ∧ (gB d mX9_ends [.ref 1, .int x2, .int (σ 159 x1.toNatClampNeg)] σ (fun v σ10 => v = none ∧ (gG (d + 1) mX9_goesBy 119 [some (.ref 1), some (.int x1), some (.int (x2 + 1)), none] [] σ10 Q))))))))) : gG (d + 1) mX9_goesBy 119 [some (.ref 1), some (.int x1), some (.int x2), none] [] σ Q := by
  refine g_iload_n (pc2 := 120) dX9_goesBy_119 rfl rfl ?_
  refine g_aload_n (pc2 := 121) dX9_goesBy_120 rfl rfl ?_
  refine g_geti (pc2 := 124) dX9_goesBy_121 fl_X9_128 gk_1 rfl rfl ?_
  refine g_icmp_ge (tgt := 153) (pc2 := 127) dX9_goesBy_124 (by decide) rfl (fun c => ?_) (fun c => ?_)
  · have h := h.1 c
    exact g_vret dX9_goesBy_153 rfl h
  · have h := h.2 c
    refine g_aload_n (pc2 := 128) dX9_goesBy_127 rfl rfl ?_
    refine g_geta (pc2 := 131) dX9_goesBy_128 fl_X9_64 gk_1 rfl rfl ?_
    refine g_iload_n (pc2 := 132) dX9_goesBy_131 rfl rfl ?_
    obtain ⟨hx, h⟩ := h
    refine g_zald (pc2 := 133) dX9_goesBy_132 gk_158 hx rfl ?_
    refine g_if_eq (tgt := 147) (pc2 := 136) dX9_goesBy_133 (by decide) rfl (fun c => ?_) (fun c => ?_)
    · have h := h.1 c
      refine g_iinc2 (c := 1) (pc2 := 150) dX9_goesBy_147 rfl (by decide) (by decide) rfl rfl ?_
      refine g_goto (tgt := 119) dX9_goesBy_150 (by decide) ?_
      exact g_lw (lv2 := [some (.ref 1), some (.int x1), some (.int (x2 + 1)), none]) ⟨rfl, ⟨rfl, ⟨rfl, trivial⟩⟩⟩ h
    · have h := h.2 c
      refine g_aload_n (pc2 := 137) dX9_goesBy_136 rfl rfl ?_
      refine g_iload_n (pc2 := 138) dX9_goesBy_137 rfl rfl ?_
      refine g_aload_n (pc2 := 139) dX9_goesBy_138 rfl rfl ?_
      refine g_geta (pc2 := 142) dX9_goesBy_139 fl_X9_68 gk_1 rfl rfl ?_
      refine g_iload_n (pc2 := 143) dX9_goesBy_142 rfl rfl ?_
      obtain ⟨hx, h⟩ := h
      refine g_zald (pc2 := 144) dX9_goesBy_143 gk_159 hx rfl ?_
      refine g_callV (M2 := mX9_ends) (as := [.int x2, .int (σ 159 x1.toNatClampNeg)]) (st := []) (pc2 := 147) dX9_goesBy_144 ml_X9_225 mvX9_ends gk_1 rfl rfl rfl (Nat.le_of_ble_eq_true rfl) (Nat.le_refl _) rfl (h.mono ?_)
      rintro _ σ10 ⟨rfl, h⟩
      show gG (d + 1) mX9_goesBy 147 _ [] σ10 Q
      refine g_iinc2 (c := 1) (pc2 := 150) dX9_goesBy_147 rfl (by decide) (by decide) rfl rfl ?_
      refine g_goto (tgt := 119) dX9_goesBy_150 (by decide) ?_
      exact g_lw (lv2 := [some (.ref 1), some (.int x1), some (.int (x2 + 1)), none]) ⟨rfl, ⟨rfl, ⟨rfl, trivial⟩⟩⟩ h
set_option maxRecDepth 20000 in
theorem eX9_has {d : Nat} {σ : gw_S} {Q : Option Value → gw_S → Prop} {x1 : Int32} {x2 : Int32}   (h : gB d mX9_isDay [.int x1] σ (fun v σ1 => ∃ r2 : Int32, v = some (.int r2) ∧ (((r2 = 0) → (Q (some (.int (-2))) σ1)) ∧ ((¬ r2 = 0) → (gB d mX9_in [.int x2, .int 0, .int 5] σ1 (fun v σ3 => ∃ r4 : Int32, v = some (.int r4) ∧ (((r4 = 0) → (Q (some (.int (-2))) σ3)) ∧ ((¬ r4 = 0) → (gB d mX9_hasOf [.ref 1, .int x1, .int x2] σ3 (fun v σ5 => ∃ r6 : Int32, v = some (.int r6) ∧ (Q (some (.int r6)) σ5))))))))))) : gB (d + 1) mX9_has [.ref 1, .int x1, .int x2] σ Q := by
  refine gB_of rfl (Nat.le_of_ble_eq_true rfl) (g_lw (lv2 := [some (.ref 1), some (.int x1), some (.int x2)]) ⟨rfl, ⟨rfl, ⟨rfl, trivial⟩⟩⟩ ?_)
  refine g_iload_n (pc2 := 1) dX9_has_0 rfl rfl ?_
  refine g_callS (M2 := mX9_isDay) (as := [.int x1]) (st := []) (pc2 := 4) dX9_has_1 ml_X9_163 msX9_isDay rfl rfl (Nat.le_of_ble_eq_true rfl) (Nat.le_refl _) rfl (h.mono ?_)
  rintro _ σ1 ⟨r2, rfl, h⟩
  show gG (d + 1) mX9_has 4 _ [.int r2] σ1 Q
  refine g_if_eq (tgt := 25) (pc2 := 7) dX9_has_4 (by decide) rfl (fun c => ?_) (fun c => ?_)
  · have h := h.1 c
    refine g_bipush (v := (-2)) (pc2 := 27) dX9_has_25 (by decide) rfl ?_
    exact g_iret dX9_has_27 rfl h
  · have h := h.2 c
    refine g_iload_n (pc2 := 8) dX9_has_7 rfl rfl ?_
    refine g_iconst (v := 0) (pc2 := 9) dX9_has_8 (by decide) rfl ?_
    refine g_iconst (v := 5) (pc2 := 10) dX9_has_9 (by decide) rfl ?_
    refine g_callS (M2 := mX9_in) (as := [.int x2, .int 0, .int 5]) (st := []) (pc2 := 13) dX9_has_10 ml_X9_116 msX9_in rfl rfl (Nat.le_of_ble_eq_true rfl) (Nat.le_refl _) rfl (h.mono ?_)
    rintro _ σ3 ⟨r4, rfl, h⟩
    show gG (d + 1) mX9_has 13 _ [.int r4] σ3 Q
    refine g_if_eq (tgt := 25) (pc2 := 16) dX9_has_13 (by decide) rfl (fun c => ?_) (fun c => ?_)
    · have h := h.1 c
      refine g_bipush (v := (-2)) (pc2 := 27) dX9_has_25 (by decide) rfl ?_
      exact g_iret dX9_has_27 rfl h
    · have h := h.2 c
      refine g_aload_n (pc2 := 17) dX9_has_16 rfl rfl ?_
      refine g_iload_n (pc2 := 18) dX9_has_17 rfl rfl ?_
      refine g_iload_n (pc2 := 19) dX9_has_18 rfl rfl ?_
      refine g_callV (M2 := mX9_hasOf) (as := [.int x1, .int x2]) (st := []) (pc2 := 22) dX9_has_19 ml_X9_255 mvX9_hasOf gk_1 rfl rfl rfl (Nat.le_of_ble_eq_true rfl) (Nat.le_refl _) rfl (h.mono ?_)
      rintro _ σ5 ⟨r6, rfl, h⟩
      show gG (d + 1) mX9_has 22 _ [.int r6] σ5 Q
      refine g_goto (tgt := 27) dX9_has_22 (by decide) ?_
      exact g_iret dX9_has_27 rfl h
set_option maxRecDepth 20000 in
theorem eX9_hasOf {d : Nat} {σ : gw_S} {Q : Option Value → gw_S → Prop} {x1 : Int32} {x2 : Int32}   (h : gB d mX9_runsTold [.ref 1, .int x1] σ (fun v σ1 => v = none ∧ (gG (d + 1) mX9_hasOf 10 [some (.ref 1), none, some (.int x2), some (.int 0), some (.int 0), none] [] σ1 Q))) : gB (d + 1) mX9_hasOf [.ref 1, .int x1, .int x2] σ Q := by
  refine gB_of rfl (Nat.le_of_ble_eq_true rfl) (g_lw (lv2 := [some (.ref 1), some (.int x1), some (.int x2), none, none, none]) ⟨rfl, ⟨rfl, ⟨rfl, trivial⟩⟩⟩ ?_)
  refine g_aload_n (pc2 := 1) dX9_hasOf_0 rfl rfl ?_
  refine g_iload_n (pc2 := 2) dX9_hasOf_1 rfl rfl ?_
  refine g_callV (M2 := mX9_runsTold) (as := [.int x1]) (st := []) (pc2 := 5) dX9_hasOf_2 ml_X9_242 mvX9_runsTold gk_1 rfl rfl rfl (Nat.le_of_ble_eq_true rfl) (Nat.le_refl _) rfl (h.mono ?_)
  rintro _ σ1 ⟨rfl, h⟩
  show gG (d + 1) mX9_hasOf 5 _ [] σ1 Q
  refine g_iconst (v := 0) (pc2 := 6) dX9_hasOf_5 (by decide) rfl ?_
  refine g_istore_n (pc2 := 7) dX9_hasOf_6 (by decide) rfl rfl ?_
  refine g_iconst (v := 0) (pc2 := 8) dX9_hasOf_7 (by decide) rfl ?_
  refine g_istore (pc2 := 10) dX9_hasOf_8 (by decide) rfl rfl ?_
  exact g_lw (lv2 := [some (.ref 1), none, some (.int x2), some (.int 0), some (.int 0), none]) ⟨rfl, ⟨rfl, ⟨rfl, ⟨rfl, trivial⟩⟩⟩⟩ h
set_option maxRecDepth 20000 in
theorem bX9_hasOf_10 {d : Nat} {σ : gw_S} {Q : Option Value → gw_S → Prop} {x2 : Int32} {x3 : Int32} {x4 : Int32}   (h : (((σ 1 2) ≤ x4) → (Q (some (.int x3)) σ)) ∧ ((¬ (σ 1 2) ≤ x4) → (gG (d + 1) mX9_hasOf 22 [some (.ref 1), none, some (.int x2), some (.int x3), some (.int x4), some (.int 0)] [] σ Q))) : gG (d + 1) mX9_hasOf 10 [some (.ref 1), none, some (.int x2), some (.int x3), some (.int x4), none] [] σ Q := by
  refine g_iload (pc2 := 12) dX9_hasOf_10 rfl rfl ?_
  refine g_aload_n (pc2 := 13) dX9_hasOf_12 rfl rfl ?_
  refine g_geti (pc2 := 16) dX9_hasOf_13 fl_X9_128 gk_1 rfl rfl ?_
  refine g_icmp_ge (tgt := 79) (pc2 := 19) dX9_hasOf_16 (by decide) rfl (fun c => ?_) (fun c => ?_)
  · have h := h.1 c
    refine g_iload_n (pc2 := 80) dX9_hasOf_79 rfl rfl ?_
    exact g_iret dX9_hasOf_80 rfl h
  · have h := h.2 c
    refine g_iconst (v := 0) (pc2 := 20) dX9_hasOf_19 (by decide) rfl ?_
    refine g_istore (pc2 := 22) dX9_hasOf_20 (by decide) rfl rfl ?_
    exact g_lw (lv2 := [some (.ref 1), none, some (.int x2), some (.int x3), some (.int x4), some (.int 0)]) ⟨rfl, ⟨rfl, ⟨rfl, ⟨rfl, ⟨rfl, trivial⟩⟩⟩⟩⟩ h
set_option maxRecDepth 20000 in
theorem bX9_hasOf_22 {d : Nat} {σ : gw_S} {Q : Option Value → gw_S → Prop} {x2 : Int32} {x3 : Int32} {x4 : Int32} {x5 : Int32}   (h : ((8 ≤ x5) → (gG (d + 1) mX9_hasOf 10 [some (.ref 1), none, some (.int x2), some (.int x3), some (.int (x4 + 1)), none] [] σ Q)) ∧ ((¬ 8 ≤ x5) → (vp_in x4 8 ∧ (((¬ (σ 156 x4.toNatClampNeg) = x2) → (gG (d + 1) mX9_hasOf 22 [some (.ref 1), none, some (.int x2), some (.int (x3 ||| 0)), some (.int x4), some (.int (x5 + 1))] [] σ Q)) ∧ (((σ 156 x4.toNatClampNeg) = x2) → (vp_in ((8 * x4) + x5) 64 ∧ ((((σ 155 ((8 * x4) + x5).toNatClampNeg) ≤ 0) → (gG (d + 1) mX9_hasOf 22 [some (.ref 1), none, some (.int x2), some (.int (x3 ||| 0)), some (.int x4), some (.int (x5 + 1))] [] σ Q)) ∧ ((¬ (σ 155 ((8 * x4) + x5).toNatClampNeg) ≤ 0) → (gG (d + 1) mX9_hasOf 22 [some (.ref 1), none, some (.int x2), some (.int (x3 ||| ((1 : Int32) <<< (x5 &&& 31)))), some (.int x4), some (.int (x5 + 1))] [] σ Q))))))))) : gG (d + 1) mX9_hasOf 22 [some (.ref 1), none, some (.int x2), some (.int x3), some (.int x4), some (.int x5)] [] σ Q := by
  refine g_iload (pc2 := 24) dX9_hasOf_22 rfl rfl ?_
  refine g_bipush (v := 8) (pc2 := 26) dX9_hasOf_24 (by decide) rfl ?_
  refine g_icmp_ge (tgt := 73) (pc2 := 29) dX9_hasOf_26 (by decide) rfl (fun c => ?_) (fun c => ?_)
  · have h := h.1 c
    refine g_iinc2 (c := 1) (pc2 := 76) dX9_hasOf_73 rfl (by decide) (by decide) rfl rfl ?_
    refine g_goto (tgt := 10) dX9_hasOf_76 (by decide) ?_
    exact g_lw (lv2 := [some (.ref 1), none, some (.int x2), some (.int x3), some (.int (x4 + 1)), none]) ⟨rfl, ⟨rfl, ⟨rfl, ⟨rfl, trivial⟩⟩⟩⟩ h
  · have h := h.2 c
    refine g_iload_n (pc2 := 30) dX9_hasOf_29 rfl rfl ?_
    refine g_aload_n (pc2 := 31) dX9_hasOf_30 rfl rfl ?_
    refine g_geta (pc2 := 34) dX9_hasOf_31 fl_X9_58 gk_1 rfl rfl ?_
    refine g_iload (pc2 := 36) dX9_hasOf_34 rfl rfl ?_
    obtain ⟨hx, h⟩ := h
    refine g_iald (pc2 := 37) dX9_hasOf_36 gk_156 hx rfl ?_
    refine g_iload_n (pc2 := 38) dX9_hasOf_37 rfl rfl ?_
    refine g_icmp_ne (tgt := 64) (pc2 := 41) dX9_hasOf_38 (by decide) rfl (fun c => ?_) (fun c => ?_)
    · have h := h.1 c
      refine g_iconst (v := 0) (pc2 := 65) dX9_hasOf_64 (by decide) rfl ?_
      refine g_ior (pc2 := 66) dX9_hasOf_65 rfl ?_
      refine g_istore_n (pc2 := 67) dX9_hasOf_66 (by decide) rfl rfl ?_
      refine g_iinc2 (c := 1) (pc2 := 70) dX9_hasOf_67 rfl (by decide) (by decide) rfl rfl ?_
      refine g_goto (tgt := 22) dX9_hasOf_70 (by decide) ?_
      exact g_lw (lv2 := [some (.ref 1), none, some (.int x2), some (.int (x3 ||| 0)), some (.int x4), some (.int (x5 + 1))]) ⟨rfl, ⟨rfl, ⟨rfl, ⟨rfl, ⟨rfl, trivial⟩⟩⟩⟩⟩ h
    · have h := h.2 c
      refine g_aload_n (pc2 := 42) dX9_hasOf_41 rfl rfl ?_
      refine g_geta (pc2 := 45) dX9_hasOf_42 fl_X9_55 gk_1 rfl rfl ?_
      refine g_bipush (v := 8) (pc2 := 47) dX9_hasOf_45 (by decide) rfl ?_
      refine g_iload (pc2 := 49) dX9_hasOf_47 rfl rfl ?_
      refine g_imul (pc2 := 50) dX9_hasOf_49 rfl ?_
      refine g_iload (pc2 := 52) dX9_hasOf_50 rfl rfl ?_
      refine g_iadd (pc2 := 53) dX9_hasOf_52 rfl ?_
      obtain ⟨hx, h⟩ := h
      refine g_iald (pc2 := 54) dX9_hasOf_53 gk_155 hx rfl ?_
      refine g_if_le (tgt := 64) (pc2 := 57) dX9_hasOf_54 (by decide) rfl (fun c => ?_) (fun c => ?_)
      · have h := h.1 c
        refine g_iconst (v := 0) (pc2 := 65) dX9_hasOf_64 (by decide) rfl ?_
        refine g_ior (pc2 := 66) dX9_hasOf_65 rfl ?_
        refine g_istore_n (pc2 := 67) dX9_hasOf_66 (by decide) rfl rfl ?_
        refine g_iinc2 (c := 1) (pc2 := 70) dX9_hasOf_67 rfl (by decide) (by decide) rfl rfl ?_
        refine g_goto (tgt := 22) dX9_hasOf_70 (by decide) ?_
        exact g_lw (lv2 := [some (.ref 1), none, some (.int x2), some (.int (x3 ||| 0)), some (.int x4), some (.int (x5 + 1))]) ⟨rfl, ⟨rfl, ⟨rfl, ⟨rfl, ⟨rfl, trivial⟩⟩⟩⟩⟩ h
      · have h := h.2 c
        refine g_iconst (v := 1) (pc2 := 58) dX9_hasOf_57 (by decide) rfl ?_
        refine g_iload (pc2 := 60) dX9_hasOf_58 rfl rfl ?_
        refine g_ishl (pc2 := 61) dX9_hasOf_60 rfl ?_
        refine g_goto (tgt := 65) dX9_hasOf_61 (by decide) ?_
        refine g_ior (pc2 := 66) dX9_hasOf_65 rfl ?_
        refine g_istore_n (pc2 := 67) dX9_hasOf_66 (by decide) rfl rfl ?_
        refine g_iinc2 (c := 1) (pc2 := 70) dX9_hasOf_67 rfl (by decide) (by decide) rfl rfl ?_
        refine g_goto (tgt := 22) dX9_hasOf_70 (by decide) ?_
        exact g_lw (lv2 := [some (.ref 1), none, some (.int x2), some (.int (x3 ||| ((1 : Int32) <<< (x5 &&& 31)))), some (.int x4), some (.int (x5 + 1))]) ⟨rfl, ⟨rfl, ⟨rfl, ⟨rfl, ⟨rfl, trivial⟩⟩⟩⟩⟩ h
set_option maxRecDepth 20000 in
theorem eX9_heard {d : Nat} {σ : gw_S} {Q : Option Value → gw_S → Prop} {x1 : Int32} {x2 : Int32}   (h : gB d mX9_isDay [.int x1] σ (fun v σ1 => ∃ r2 : Int32, v = some (.int r2) ∧ (((r2 = 0) → (Q (some (.int (-2))) σ1)) ∧ ((¬ r2 = 0) → (gB d mX9_isEight [.int x2] σ1 (fun v σ3 => ∃ r4 : Int32, v = some (.int r4) ∧ (((r4 = 0) → (Q (some (.int (-2))) σ3)) ∧ ((¬ r4 = 0) → (gB d mX9_heardOf [.ref 1, .int x1, .int x2] σ3 (fun v σ5 => ∃ r6 : Int32, v = some (.int r6) ∧ (Q (some (.int r6)) σ5))))))))))) : gB (d + 1) mX9_heard [.ref 1, .int x1, .int x2] σ Q := by
  refine gB_of rfl (Nat.le_of_ble_eq_true rfl) (g_lw (lv2 := [some (.ref 1), some (.int x1), some (.int x2)]) ⟨rfl, ⟨rfl, ⟨rfl, trivial⟩⟩⟩ ?_)
  refine g_iload_n (pc2 := 1) dX9_heard_0 rfl rfl ?_
  refine g_callS (M2 := mX9_isDay) (as := [.int x1]) (st := []) (pc2 := 4) dX9_heard_1 ml_X9_163 msX9_isDay rfl rfl (Nat.le_of_ble_eq_true rfl) (Nat.le_refl _) rfl (h.mono ?_)
  rintro _ σ1 ⟨r2, rfl, h⟩
  show gG (d + 1) mX9_heard 4 _ [.int r2] σ1 Q
  refine g_if_eq (tgt := 23) (pc2 := 7) dX9_heard_4 (by decide) rfl (fun c => ?_) (fun c => ?_)
  · have h := h.1 c
    refine g_bipush (v := (-2)) (pc2 := 25) dX9_heard_23 (by decide) rfl ?_
    exact g_iret dX9_heard_25 rfl h
  · have h := h.2 c
    refine g_iload_n (pc2 := 8) dX9_heard_7 rfl rfl ?_
    refine g_callS (M2 := mX9_isEight) (as := [.int x2]) (st := []) (pc2 := 11) dX9_heard_8 ml_X9_157 msX9_isEight rfl rfl (Nat.le_of_ble_eq_true rfl) (Nat.le_refl _) rfl (h.mono ?_)
    rintro _ σ3 ⟨r4, rfl, h⟩
    show gG (d + 1) mX9_heard 11 _ [.int r4] σ3 Q
    refine g_if_eq (tgt := 23) (pc2 := 14) dX9_heard_11 (by decide) rfl (fun c => ?_) (fun c => ?_)
    · have h := h.1 c
      refine g_bipush (v := (-2)) (pc2 := 25) dX9_heard_23 (by decide) rfl ?_
      exact g_iret dX9_heard_25 rfl h
    · have h := h.2 c
      refine g_aload_n (pc2 := 15) dX9_heard_14 rfl rfl ?_
      refine g_iload_n (pc2 := 16) dX9_heard_15 rfl rfl ?_
      refine g_iload_n (pc2 := 17) dX9_heard_16 rfl rfl ?_
      refine g_callV (M2 := mX9_heardOf) (as := [.int x1, .int x2]) (st := []) (pc2 := 20) dX9_heard_17 ml_X9_258 mvX9_heardOf gk_1 rfl rfl rfl (Nat.le_of_ble_eq_true rfl) (Nat.le_refl _) rfl (h.mono ?_)
      rintro _ σ5 ⟨r6, rfl, h⟩
      show gG (d + 1) mX9_heard 20 _ [.int r6] σ5 Q
      refine g_goto (tgt := 25) dX9_heard_20 (by decide) ?_
      exact g_iret dX9_heard_25 rfl h
set_option maxRecDepth 20000 in
theorem eX9_heardOf {d : Nat} {σ : gw_S} {Q : Option Value → gw_S → Prop} {x1 : Int32} {x2 : Int32}   (h : gB d mX9_runsTold [.ref 1, .int x1] σ (fun v σ1 => v = none ∧ (vp_in x2 8 ∧ (Q (some (.int (σ1 161 x2.toNatClampNeg))) σ1)))) : gB (d + 1) mX9_heardOf [.ref 1, .int x1, .int x2] σ Q := by
  refine gB_of rfl (Nat.le_of_ble_eq_true rfl) (g_lw (lv2 := [some (.ref 1), some (.int x1), some (.int x2)]) ⟨rfl, ⟨rfl, ⟨rfl, trivial⟩⟩⟩ ?_)
  refine g_aload_n (pc2 := 1) dX9_heardOf_0 rfl rfl ?_
  refine g_iload_n (pc2 := 2) dX9_heardOf_1 rfl rfl ?_
  refine g_callV (M2 := mX9_runsTold) (as := [.int x1]) (st := []) (pc2 := 5) dX9_heardOf_2 ml_X9_242 mvX9_runsTold gk_1 rfl rfl rfl (Nat.le_of_ble_eq_true rfl) (Nat.le_refl _) rfl (h.mono ?_)
  rintro _ σ1 ⟨rfl, h⟩
  show gG (d + 1) mX9_heardOf 5 _ [] σ1 Q
  refine g_aload_n (pc2 := 6) dX9_heardOf_5 rfl rfl ?_
  refine g_geta (pc2 := 9) dX9_heardOf_6 fl_X9_74 gk_1 rfl rfl ?_
  refine g_iload_n (pc2 := 10) dX9_heardOf_9 rfl rfl ?_
  obtain ⟨hx, h⟩ := h
  refine g_iald (pc2 := 11) dX9_heardOf_10 gk_161 hx rfl ?_
  exact g_iret dX9_heardOf_11 rfl h
set_option maxRecDepth 20000 in
theorem eX9_heat {d : Nat} {σ : gw_S} {Q : Option Value → gw_S → Prop} {x1 : Int32} {x2 : Int32} {x3 : Int32} {x4 : Int32}   (h : gB d mX9_in [.int x1, .int 0, .int 16] σ (fun v σ1 => ∃ r2 : Int32, v = some (.int r2) ∧ (((r2 = 0) → (gB d mX9_no [.int (-2)] σ1 (fun v σ3 => ∃ r4 : Int64, v = some (.long r4) ∧ (Q (some (.long r4)) σ3)))) ∧ ((¬ r2 = 0) → (gB d mX9_isBottle [.ref 1, .int x2] σ1 (fun v σ5 => ∃ r6 : Int32, v = some (.int r6) ∧ (((r6 = 0) → (gB d mX9_no [.int (-2)] σ5 (fun v σ7 => ∃ r8 : Int64, v = some (.long r8) ∧ (Q (some (.long r8)) σ7)))) ∧ ((¬ r6 = 0) → (gB d mX9_in [.int x3, .int 0, .int 9] σ5 (fun v σ9 => ∃ r10 : Int32, v = some (.int r10) ∧ (((r10 = 0) → (gB d mX9_no [.int (-2)] σ9 (fun v σ11 => ∃ r12 : Int64, v = some (.long r12) ∧ (Q (some (.long r12)) σ11)))) ∧ ((¬ r10 = 0) → (gB d mX9_in [.int x4, .int 0, .int 1] σ9 (fun v σ13 => ∃ r14 : Int32, v = some (.int r14) ∧ (((r14 = 0) → (gB d mX9_no [.int (-2)] σ13 (fun v σ15 => ∃ r16 : Int64, v = some (.long r16) ∧ (Q (some (.long r16)) σ15)))) ∧ ((¬ r14 = 0) → (gB d mX9_heatOf [.ref 1, .int x1, .int x2, .int x3, .int x4] σ13 (fun v σ17 => ∃ r18 : Int64, v = some (.long r18) ∧ (Q (some (.long r18)) σ17))))))))))))))))))) : gB (d + 1) mX9_heat [.ref 1, .int x1, .int x2, .int x3, .int x4] σ Q := by
  refine gB_of rfl (Nat.le_of_ble_eq_true rfl) (g_lw (lv2 := [some (.ref 1), some (.int x1), some (.int x2), some (.int x3), some (.int x4)]) ⟨rfl, ⟨rfl, ⟨rfl, ⟨rfl, ⟨rfl, trivial⟩⟩⟩⟩⟩ ?_)
  refine g_iload_n (pc2 := 1) dX9_heat_0 rfl rfl ?_
  refine g_iconst (v := 0) (pc2 := 2) dX9_heat_1 (by decide) rfl ?_
  refine g_bipush (v := 16) (pc2 := 4) dX9_heat_2 (by decide) rfl ?_
  refine g_callS (M2 := mX9_in) (as := [.int x1, .int 0, .int 16]) (st := []) (pc2 := 7) dX9_heat_4 ml_X9_116 msX9_in rfl rfl (Nat.le_of_ble_eq_true rfl) (Nat.le_refl _) rfl (h.mono ?_)
  rintro _ σ1 ⟨r2, rfl, h⟩
  show gG (d + 1) mX9_heat 7 _ [.int r2] σ1 Q
  refine g_if_eq (tgt := 50) (pc2 := 10) dX9_heat_7 (by decide) rfl (fun c => ?_) (fun c => ?_)
  · have h := h.1 c
    refine g_bipush (v := (-2)) (pc2 := 52) dX9_heat_50 (by decide) rfl ?_
    refine g_callS (M2 := mX9_no) (as := [.int (-2)]) (st := []) (pc2 := 55) dX9_heat_52 ml_X9_323 msX9_no rfl rfl (Nat.le_of_ble_eq_true rfl) (Nat.le_refl _) rfl (h.mono ?_)
    rintro _ σ3 ⟨r4, rfl, h⟩
    show gG (d + 1) mX9_heat 55 _ [.long r4] σ3 Q
    exact g_lret dX9_heat_55 rfl h
  · have h := h.2 c
    refine g_aload_n (pc2 := 11) dX9_heat_10 rfl rfl ?_
    refine g_iload_n (pc2 := 12) dX9_heat_11 rfl rfl ?_
    refine g_callV (M2 := mX9_isBottle) (as := [.int x2]) (st := []) (pc2 := 15) dX9_heat_12 ml_X9_151 mvX9_isBottle gk_1 rfl rfl rfl (Nat.le_of_ble_eq_true rfl) (Nat.le_refl _) rfl (h.mono ?_)
    rintro _ σ5 ⟨r6, rfl, h⟩
    show gG (d + 1) mX9_heat 15 _ [.int r6] σ5 Q
    refine g_if_eq (tgt := 50) (pc2 := 18) dX9_heat_15 (by decide) rfl (fun c => ?_) (fun c => ?_)
    · have h := h.1 c
      refine g_bipush (v := (-2)) (pc2 := 52) dX9_heat_50 (by decide) rfl ?_
      refine g_callS (M2 := mX9_no) (as := [.int (-2)]) (st := []) (pc2 := 55) dX9_heat_52 ml_X9_323 msX9_no rfl rfl (Nat.le_of_ble_eq_true rfl) (Nat.le_refl _) rfl (h.mono ?_)
      rintro _ σ7 ⟨r8, rfl, h⟩
      show gG (d + 1) mX9_heat 55 _ [.long r8] σ7 Q
      exact g_lret dX9_heat_55 rfl h
    · have h := h.2 c
      refine g_iload_n (pc2 := 19) dX9_heat_18 rfl rfl ?_
      refine g_iconst (v := 0) (pc2 := 20) dX9_heat_19 (by decide) rfl ?_
      refine g_bipush (v := 9) (pc2 := 22) dX9_heat_20 (by decide) rfl ?_
      refine g_callS (M2 := mX9_in) (as := [.int x3, .int 0, .int 9]) (st := []) (pc2 := 25) dX9_heat_22 ml_X9_116 msX9_in rfl rfl (Nat.le_of_ble_eq_true rfl) (Nat.le_refl _) rfl (h.mono ?_)
      rintro _ σ9 ⟨r10, rfl, h⟩
      show gG (d + 1) mX9_heat 25 _ [.int r10] σ9 Q
      refine g_if_eq (tgt := 50) (pc2 := 28) dX9_heat_25 (by decide) rfl (fun c => ?_) (fun c => ?_)
      · have h := h.1 c
        refine g_bipush (v := (-2)) (pc2 := 52) dX9_heat_50 (by decide) rfl ?_
        refine g_callS (M2 := mX9_no) (as := [.int (-2)]) (st := []) (pc2 := 55) dX9_heat_52 ml_X9_323 msX9_no rfl rfl (Nat.le_of_ble_eq_true rfl) (Nat.le_refl _) rfl (h.mono ?_)
        rintro _ σ11 ⟨r12, rfl, h⟩
        show gG (d + 1) mX9_heat 55 _ [.long r12] σ11 Q
        exact g_lret dX9_heat_55 rfl h
      · have h := h.2 c
        refine g_iload (pc2 := 30) dX9_heat_28 rfl rfl ?_
        refine g_iconst (v := 0) (pc2 := 31) dX9_heat_30 (by decide) rfl ?_
        refine g_iconst (v := 1) (pc2 := 32) dX9_heat_31 (by decide) rfl ?_
        refine g_callS (M2 := mX9_in) (as := [.int x4, .int 0, .int 1]) (st := []) (pc2 := 35) dX9_heat_32 ml_X9_116 msX9_in rfl rfl (Nat.le_of_ble_eq_true rfl) (Nat.le_refl _) rfl (h.mono ?_)
        rintro _ σ13 ⟨r14, rfl, h⟩
        show gG (d + 1) mX9_heat 35 _ [.int r14] σ13 Q
        refine g_if_eq (tgt := 50) (pc2 := 38) dX9_heat_35 (by decide) rfl (fun c => ?_) (fun c => ?_)
        · have h := h.1 c
          refine g_bipush (v := (-2)) (pc2 := 52) dX9_heat_50 (by decide) rfl ?_
          refine g_callS (M2 := mX9_no) (as := [.int (-2)]) (st := []) (pc2 := 55) dX9_heat_52 ml_X9_323 msX9_no rfl rfl (Nat.le_of_ble_eq_true rfl) (Nat.le_refl _) rfl (h.mono ?_)
          rintro _ σ15 ⟨r16, rfl, h⟩
          show gG (d + 1) mX9_heat 55 _ [.long r16] σ15 Q
          exact g_lret dX9_heat_55 rfl h
        · have h := h.2 c
          refine g_aload_n (pc2 := 39) dX9_heat_38 rfl rfl ?_
          refine g_iload_n (pc2 := 40) dX9_heat_39 rfl rfl ?_
          refine g_iload_n (pc2 := 41) dX9_heat_40 rfl rfl ?_
          refine g_iload_n (pc2 := 42) dX9_heat_41 rfl rfl ?_
          refine g_iload (pc2 := 44) dX9_heat_42 rfl rfl ?_
          refine g_callV (M2 := mX9_heatOf) (as := [.int x1, .int x2, .int x3, .int x4]) (st := []) (pc2 := 47) dX9_heat_44 ml_X9_319 mvX9_heatOf gk_1 rfl rfl rfl (Nat.le_of_ble_eq_true rfl) (Nat.le_refl _) rfl (h.mono ?_)
          rintro _ σ17 ⟨r18, rfl, h⟩
          show gG (d + 1) mX9_heat 47 _ [.long r18] σ17 Q
          refine g_goto (tgt := 55) dX9_heat_47 (by decide) ?_
          exact g_lret dX9_heat_55 rfl h
set_option maxRecDepth 20000 in
theorem eX9_heatOf {d : Nat} {σ : gw_S} {Q : Option Value → gw_S → Prop} {x1 : Int32} {x2 : Int32} {x3 : Int32} {x4 : Int32}   (h : gB d mX9_asTold [.ref 1] σ (fun v σ1 => v = none ∧ (gG (d + 1) mX9_heatOf 10 [some (.ref 1), some (.int x1), some (.int x2), some (.int x3), some (.int x4), some (.long 0), none, some (.int 0), none, none, none] [] σ1 Q))) : gB (d + 1) mX9_heatOf [.ref 1, .int x1, .int x2, .int x3, .int x4] σ Q := by
  refine gB_of rfl (Nat.le_of_ble_eq_true rfl) (g_lw (lv2 := [some (.ref 1), some (.int x1), some (.int x2), some (.int x3), some (.int x4), none, none, none, none, none, none]) ⟨rfl, ⟨rfl, ⟨rfl, ⟨rfl, ⟨rfl, trivial⟩⟩⟩⟩⟩ ?_)
  refine g_aload_n (pc2 := 1) dX9_heatOf_0 rfl rfl ?_
  refine g_callV (M2 := mX9_asTold) (as := []) (st := []) (pc2 := 4) dX9_heatOf_1 ml_X9_236 mvX9_asTold gk_1 rfl rfl rfl (Nat.le_of_ble_eq_true rfl) (Nat.le_refl _) rfl (h.mono ?_)
  rintro _ σ1 ⟨rfl, h⟩
  show gG (d + 1) mX9_heatOf 4 _ [] σ1 Q
  refine g_lconst (v := 0) (pc2 := 5) dX9_heatOf_4 (by decide) rfl ?_
  refine g_lstore (pc2 := 7) dX9_heatOf_5 (by decide) rfl rfl ?_
  refine g_iconst (v := 0) (pc2 := 8) dX9_heatOf_7 (by decide) rfl ?_
  refine g_istore (pc2 := 10) dX9_heatOf_8 (by decide) rfl rfl ?_
  exact g_lw (lv2 := [some (.ref 1), some (.int x1), some (.int x2), some (.int x3), some (.int x4), some (.long 0), none, some (.int 0), none, none, none]) ⟨rfl, ⟨rfl, ⟨rfl, ⟨rfl, ⟨rfl, ⟨rfl, ⟨rfl, trivial⟩⟩⟩⟩⟩⟩⟩ h
set_option maxRecDepth 20000 in
theorem bX9_heatOf_10 {d : Nat} {σ : gw_S} {Q : Option Value → gw_S → Prop} {x1 : Int32} {x2 : Int32} {x3 : Int32} {x4 : Int32} {x5 : Int64} {x7 : Int32}   (h : ((((1 : Int32) <<< ((x3 + 1) &&& 31)) ≤ x7) → (gB d mX9_lowest [.long x5, .long (gw_lshl 1 (4 * (x3 + 1))), .int x4] σ (fun v σ2 => ∃ r3 : Int64, v = some (.long r3) ∧ (Q (some (.long r3)) σ2)))) ∧ ((¬ ((1 : Int32) <<< ((x3 + 1) &&& 31)) ≤ x7) → (gG (d + 1) mX9_heatOf 26 [some (.ref 1), some (.int x1), some (.int x2), some (.int x3), some (.int x4), some (.long x5), none, some (.int x7), some (.long 1), none, some (.int 0)] [] σ Q))) : gG (d + 1) mX9_heatOf 10 [some (.ref 1), some (.int x1), some (.int x2), some (.int x3), some (.int x4), some (.long x5), none, some (.int x7), none, none, none] [] σ Q := by
  refine g_iload (pc2 := 12) dX9_heatOf_10 rfl rfl ?_
  refine g_iconst (v := 1) (pc2 := 13) dX9_heatOf_12 (by decide) rfl ?_
  refine g_iload_n (pc2 := 14) dX9_heatOf_13 rfl rfl ?_
  refine g_iconst (v := 1) (pc2 := 15) dX9_heatOf_14 (by decide) rfl ?_
  refine g_iadd (pc2 := 16) dX9_heatOf_15 rfl ?_
  refine g_ishl (pc2 := 17) dX9_heatOf_16 rfl ?_
  refine g_icmp_ge (tgt := 108) (pc2 := 20) dX9_heatOf_17 (by decide) rfl (fun c => ?_) (fun c => ?_)
  · have h := h.1 c
    refine g_lload (pc2 := 110) dX9_heatOf_108 rfl rfl ?_
    refine g_lconst (v := 1) (pc2 := 111) dX9_heatOf_110 (by decide) rfl ?_
    refine g_iconst (v := 4) (pc2 := 112) dX9_heatOf_111 (by decide) rfl ?_
    refine g_iload_n (pc2 := 113) dX9_heatOf_112 rfl rfl ?_
    refine g_iconst (v := 1) (pc2 := 114) dX9_heatOf_113 (by decide) rfl ?_
    refine g_iadd (pc2 := 115) dX9_heatOf_114 rfl ?_
    refine g_imul (pc2 := 116) dX9_heatOf_115 rfl ?_
    refine g_lshl (pc2 := 117) dX9_heatOf_116 rfl ?_
    refine g_iload (pc2 := 119) dX9_heatOf_117 rfl rfl ?_
    refine g_callS (M2 := mX9_lowest) (as := [.long x5, .long (gw_lshl 1 (4 * (x3 + 1))), .int x4]) (st := []) (pc2 := 122) dX9_heatOf_119 ml_X9_315 msX9_lowest rfl rfl (Nat.le_of_ble_eq_true rfl) (Nat.le_refl _) rfl (h.mono ?_)
    rintro _ σ2 ⟨r3, rfl, h⟩
    show gG (d + 1) mX9_heatOf 122 _ [.long r3] σ2 Q
    exact g_lret dX9_heatOf_122 rfl h
  · have h := h.2 c
    refine g_lconst (v := 1) (pc2 := 21) dX9_heatOf_20 (by decide) rfl ?_
    refine g_lstore (pc2 := 23) dX9_heatOf_21 (by decide) rfl rfl ?_
    refine g_iconst (v := 0) (pc2 := 24) dX9_heatOf_23 (by decide) rfl ?_
    refine g_istore (pc2 := 26) dX9_heatOf_24 (by decide) rfl rfl ?_
    exact g_lw (lv2 := [some (.ref 1), some (.int x1), some (.int x2), some (.int x3), some (.int x4), some (.long x5), none, some (.int x7), some (.long 1), none, some (.int 0)]) ⟨rfl, ⟨rfl, ⟨rfl, ⟨rfl, ⟨rfl, ⟨rfl, ⟨rfl, ⟨rfl, ⟨rfl, trivial⟩⟩⟩⟩⟩⟩⟩⟩⟩ h
set_option maxRecDepth 20000 in
theorem bX9_heatOf_26 {d : Nat} {σ : gw_S} {Q : Option Value → gw_S → Prop} {x1 : Int32} {x2 : Int32} {x3 : Int32} {x4 : Int32} {x5 : Int64} {x7 : Int32} {x8 : Int64} {x10 : Int32}   (h : ((x3 < x10) → (gB d mX9_runs [.ref 1, .int x3] σ (fun v σ4 => v = none ∧ (vp_in x2 8 ∧ ((((σ4 158 x2.toNatClampNeg) = 0) → (gG (d + 1) mX9_heatOf 10 [some (.ref 1), some (.int x1), some (.int x2), some (.int x3), some (.int x4), some (.long (x5 + 0)), none, some (.int (x7 + 1)), none, none, none] [] σ4 Q)) ∧ ((¬ (σ4 158 x2.toNatClampNeg) = 0) → (gG (d + 1) mX9_heatOf 10 [some (.ref 1), some (.int x1), some (.int x2), some (.int x3), some (.int x4), some (.long (x5 + x8)), none, some (.int (x7 + 1)), none, none, none] [] σ4 Q))))))) ∧ ((¬ x3 < x10) → (gB d mX9_isIn [.int x7, .int x10] σ (fun v σ5 => ∃ r6 : Int32, v = some (.int r6) ∧ (vp_in x10 40 ∧ (∀ s7 : gw_S, s7 = gw_u σ5 159 x10.toNatClampNeg (vp_nar .boolean r6) → (vp_in x10 40 ∧ ((((s7 159 x10.toNatClampNeg) = 0) → (gG (d + 1) mX9_heatOf 26 [some (.ref 1), some (.int x1), some (.int x2), some (.int x3), some (.int x4), some (.long x5), none, some (.int x7), some (.long (x8 * ((16 - x1).toInt64))), none, some (.int (x10 + 1))] [] s7 Q)) ∧ ((¬ (s7 159 x10.toNatClampNeg) = 0) → (gG (d + 1) mX9_heatOf 26 [some (.ref 1), some (.int x1), some (.int x2), some (.int x3), some (.int x4), some (.long x5), none, some (.int x7), some (.long (x8 * x1.toInt64)), none, some (.int (x10 + 1))] [] s7 Q)))))))))) : gG (d + 1) mX9_heatOf 26 [some (.ref 1), some (.int x1), some (.int x2), some (.int x3), some (.int x4), some (.long x5), none, some (.int x7), some (.long x8), none, some (.int x10)] [] σ Q := by
  refine g_iload (pc2 := 28) dX9_heatOf_26 rfl rfl ?_
  refine g_iload_n (pc2 := 29) dX9_heatOf_28 rfl rfl ?_
  refine g_icmp_gt (tgt := 77) (pc2 := 32) dX9_heatOf_29 (by decide) rfl (fun c => ?_) (fun c => ?_)
  · have h := h.1 c
    refine g_aload_n (pc2 := 78) dX9_heatOf_77 rfl rfl ?_
    refine g_iload_n (pc2 := 79) dX9_heatOf_78 rfl rfl ?_
    refine g_callV (M2 := mX9_runs) (as := [.int x3]) (st := []) (pc2 := 82) dX9_heatOf_79 ml_X9_239 mvX9_runs gk_1 rfl rfl rfl (Nat.le_of_ble_eq_true rfl) (Nat.le_refl _) rfl (h.mono ?_)
    rintro _ σ4 ⟨rfl, h⟩
    show gG (d + 1) mX9_heatOf 82 _ [] σ4 Q
    refine g_lload (pc2 := 84) dX9_heatOf_82 rfl rfl ?_
    refine g_aload_n (pc2 := 85) dX9_heatOf_84 rfl rfl ?_
    refine g_geta (pc2 := 88) dX9_heatOf_85 fl_X9_64 gk_1 rfl rfl ?_
    refine g_iload_n (pc2 := 89) dX9_heatOf_88 rfl rfl ?_
    obtain ⟨hx, h⟩ := h
    refine g_zald (pc2 := 90) dX9_heatOf_89 gk_158 hx rfl ?_
    refine g_if_eq (tgt := 98) (pc2 := 93) dX9_heatOf_90 (by decide) rfl (fun c => ?_) (fun c => ?_)
    · have h := h.1 c
      refine g_lconst (v := 0) (pc2 := 99) dX9_heatOf_98 (by decide) rfl ?_
      refine g_ladd (pc2 := 100) dX9_heatOf_99 rfl ?_
      refine g_lstore (pc2 := 102) dX9_heatOf_100 (by decide) rfl rfl ?_
      refine g_iinc2 (c := 1) (pc2 := 105) dX9_heatOf_102 rfl (by decide) (by decide) rfl rfl ?_
      refine g_goto (tgt := 10) dX9_heatOf_105 (by decide) ?_
      exact g_lw (lv2 := [some (.ref 1), some (.int x1), some (.int x2), some (.int x3), some (.int x4), some (.long (x5 + 0)), none, some (.int (x7 + 1)), none, none, none]) ⟨rfl, ⟨rfl, ⟨rfl, ⟨rfl, ⟨rfl, ⟨rfl, ⟨rfl, trivial⟩⟩⟩⟩⟩⟩⟩ h
    · have h := h.2 c
      refine g_lload (pc2 := 95) dX9_heatOf_93 rfl rfl ?_
      refine g_goto (tgt := 99) dX9_heatOf_95 (by decide) ?_
      refine g_ladd (pc2 := 100) dX9_heatOf_99 rfl ?_
      refine g_lstore (pc2 := 102) dX9_heatOf_100 (by decide) rfl rfl ?_
      refine g_iinc2 (c := 1) (pc2 := 105) dX9_heatOf_102 rfl (by decide) (by decide) rfl rfl ?_
      refine g_goto (tgt := 10) dX9_heatOf_105 (by decide) ?_
      exact g_lw (lv2 := [some (.ref 1), some (.int x1), some (.int x2), some (.int x3), some (.int x4), some (.long (x5 + x8)), none, some (.int (x7 + 1)), none, none, none]) ⟨rfl, ⟨rfl, ⟨rfl, ⟨rfl, ⟨rfl, ⟨rfl, ⟨rfl, trivial⟩⟩⟩⟩⟩⟩⟩ h
  · have h := h.2 c
    refine g_aload_n (pc2 := 33) dX9_heatOf_32 rfl rfl ?_
    refine g_geta (pc2 := 36) dX9_heatOf_33 fl_X9_68 gk_1 rfl rfl ?_
    refine g_iload (pc2 := 38) dX9_heatOf_36 rfl rfl ?_
    refine g_iload (pc2 := 40) dX9_heatOf_38 rfl rfl ?_
    refine g_iload (pc2 := 42) dX9_heatOf_40 rfl rfl ?_
    refine g_callS (M2 := mX9_isIn) (as := [.int x7, .int x10]) (st := [.int x10, .ref 159]) (pc2 := 45) dX9_heatOf_42 ml_X9_274 msX9_isIn rfl rfl (Nat.le_of_ble_eq_true rfl) (Nat.le_refl _) rfl (h.mono ?_)
    rintro _ σ5 ⟨r6, rfl, h⟩
    show gG (d + 1) mX9_heatOf 45 _ [.int r6, .int x10, .ref 159] σ5 Q
    obtain ⟨hx, h⟩ := h
    refine g_zast2 (pc2 := 46) dX9_heatOf_45 gk_159 hx rfl (fun s7 es7 => ?_)
    replace h := h s7 es7
    refine g_lload (pc2 := 48) dX9_heatOf_46 rfl rfl ?_
    refine g_aload_n (pc2 := 49) dX9_heatOf_48 rfl rfl ?_
    refine g_geta (pc2 := 52) dX9_heatOf_49 fl_X9_68 gk_1 rfl rfl ?_
    refine g_iload (pc2 := 54) dX9_heatOf_52 rfl rfl ?_
    obtain ⟨hx, h⟩ := h
    refine g_zald (pc2 := 55) dX9_heatOf_54 gk_159 hx rfl ?_
    refine g_if_eq (tgt := 63) (pc2 := 58) dX9_heatOf_55 (by decide) rfl (fun c => ?_) (fun c => ?_)
    · have h := h.1 c
      refine g_bipush (v := 16) (pc2 := 65) dX9_heatOf_63 (by decide) rfl ?_
      refine g_iload_n (pc2 := 66) dX9_heatOf_65 rfl rfl ?_
      refine g_isub (pc2 := 67) dX9_heatOf_66 rfl ?_
      refine g_i2l (pc2 := 68) dX9_heatOf_67 rfl ?_
      refine g_lmul (pc2 := 69) dX9_heatOf_68 rfl ?_
      refine g_lstore (pc2 := 71) dX9_heatOf_69 (by decide) rfl rfl ?_
      refine g_iinc2 (c := 1) (pc2 := 74) dX9_heatOf_71 rfl (by decide) (by decide) rfl rfl ?_
      refine g_goto (tgt := 26) dX9_heatOf_74 (by decide) ?_
      exact g_lw (lv2 := [some (.ref 1), some (.int x1), some (.int x2), some (.int x3), some (.int x4), some (.long x5), none, some (.int x7), some (.long (x8 * ((16 - x1).toInt64))), none, some (.int (x10 + 1))]) ⟨rfl, ⟨rfl, ⟨rfl, ⟨rfl, ⟨rfl, ⟨rfl, ⟨rfl, ⟨rfl, ⟨rfl, trivial⟩⟩⟩⟩⟩⟩⟩⟩⟩ h
    · have h := h.2 c
      refine g_iload_n (pc2 := 59) dX9_heatOf_58 rfl rfl ?_
      refine g_i2l (pc2 := 60) dX9_heatOf_59 rfl ?_
      refine g_goto (tgt := 68) dX9_heatOf_60 (by decide) ?_
      refine g_lmul (pc2 := 69) dX9_heatOf_68 rfl ?_
      refine g_lstore (pc2 := 71) dX9_heatOf_69 (by decide) rfl rfl ?_
      refine g_iinc2 (c := 1) (pc2 := 74) dX9_heatOf_71 rfl (by decide) (by decide) rfl rfl ?_
      refine g_goto (tgt := 26) dX9_heatOf_74 (by decide) ?_
      exact g_lw (lv2 := [some (.ref 1), some (.int x1), some (.int x2), some (.int x3), some (.int x4), some (.long x5), none, some (.int x7), some (.long (x8 * x1.toInt64)), none, some (.int (x10 + 1))]) ⟨rfl, ⟨rfl, ⟨rfl, ⟨rfl, ⟨rfl, ⟨rfl, ⟨rfl, ⟨rfl, ⟨rfl, trivial⟩⟩⟩⟩⟩⟩⟩⟩⟩ h
set_option maxRecDepth 20000 in
theorem eX9_hid {d : Nat} {σ : gw_S} {Q : Option Value → gw_S → Prop}    (h : gB d mX9_hidNow [.ref 1] σ (fun v σ1 => ∃ r2 : Int32, v = some (.int r2) ∧ (Q (some (.int r2)) σ1))) : gB (d + 1) mX9_hid [.ref 1] σ Q := by
  refine gB_of rfl (Nat.le_of_ble_eq_true rfl) (g_lw (lv2 := [some (.ref 1)]) ⟨rfl, trivial⟩ ?_)
  refine g_aload_n (pc2 := 1) dX9_hid_0 rfl rfl ?_
  refine g_callV (M2 := mX9_hidNow) (as := []) (st := []) (pc2 := 4) dX9_hid_1 ml_X9_306 mvX9_hidNow gk_1 rfl rfl rfl (Nat.le_of_ble_eq_true rfl) (Nat.le_refl _) rfl (h.mono ?_)
  rintro _ σ1 ⟨r2, rfl, h⟩
  show gG (d + 1) mX9_hid 4 _ [.int r2] σ1 Q
  exact g_iret dX9_hid_4 rfl h
set_option maxRecDepth 20000 in
theorem eX9_hidNow {d : Nat} {σ : gw_S} {Q : Option Value → gw_S → Prop}    (h : gB d mX9_asTold [.ref 1] σ (fun v σ1 => v = none ∧ (gG (d + 1) mX9_hidNow 8 [some (.ref 1), some (.int 0), some (.int 0)] [] σ1 Q))) : gB (d + 1) mX9_hidNow [.ref 1] σ Q := by
  refine gB_of rfl (Nat.le_of_ble_eq_true rfl) (g_lw (lv2 := [some (.ref 1), none, none]) ⟨rfl, trivial⟩ ?_)
  refine g_aload_n (pc2 := 1) dX9_hidNow_0 rfl rfl ?_
  refine g_callV (M2 := mX9_asTold) (as := []) (st := []) (pc2 := 4) dX9_hidNow_1 ml_X9_236 mvX9_asTold gk_1 rfl rfl rfl (Nat.le_of_ble_eq_true rfl) (Nat.le_refl _) rfl (h.mono ?_)
  rintro _ σ1 ⟨rfl, h⟩
  show gG (d + 1) mX9_hidNow 4 _ [] σ1 Q
  refine g_iconst (v := 0) (pc2 := 5) dX9_hidNow_4 (by decide) rfl ?_
  refine g_istore_n (pc2 := 6) dX9_hidNow_5 (by decide) rfl rfl ?_
  refine g_iconst (v := 0) (pc2 := 7) dX9_hidNow_6 (by decide) rfl ?_
  refine g_istore_n (pc2 := 8) dX9_hidNow_7 (by decide) rfl rfl ?_
  exact g_lw (lv2 := [some (.ref 1), some (.int 0), some (.int 0)]) ⟨rfl, ⟨rfl, ⟨rfl, trivial⟩⟩⟩ h
set_option maxRecDepth 20000 in
theorem bX9_hidNow_8 {d : Nat} {σ : gw_S} {Q : Option Value → gw_S → Prop} {x1 : Int32} {x2 : Int32}   (h : (((σ 1 12) ≤ x2) → (Q (some (.int x1)) σ)) ∧ ((¬ (σ 1 12) ≤ x2) → (∀ s2 : gw_S, s2 = gw_u σ 1 32 x2 → (gB d mX9_isWeighed [.ref 1] s2 (fun v σ3 => ∃ r4 : Int32, v = some (.int r4) ∧ (((r4 = 0) → (gG (d + 1) mX9_hidNow 8 [some (.ref 1), some (.int (x1 ||| 0)), some (.int (x2 + 1))] [] σ3 Q)) ∧ ((¬ r4 = 0) → (gG (d + 1) mX9_hidNow 8 [some (.ref 1), some (.int (x1 ||| ((1 : Int32) <<< (x2 &&& 31)))), some (.int (x2 + 1))] [] σ3 Q)))))))) : gG (d + 1) mX9_hidNow 8 [some (.ref 1), some (.int x1), some (.int x2)] [] σ Q := by
  refine g_iload_n (pc2 := 9) dX9_hidNow_8 rfl rfl ?_
  refine g_aload_n (pc2 := 10) dX9_hidNow_9 rfl rfl ?_
  refine g_geti (pc2 := 13) dX9_hidNow_10 fl_X9_169 gk_1 rfl rfl ?_
  refine g_icmp_ge (tgt := 44) (pc2 := 16) dX9_hidNow_13 (by decide) rfl (fun c => ?_) (fun c => ?_)
  · have h := h.1 c
    refine g_iload_n (pc2 := 45) dX9_hidNow_44 rfl rfl ?_
    exact g_iret dX9_hidNow_45 rfl h
  · have h := h.2 c
    refine g_aload_n (pc2 := 17) dX9_hidNow_16 rfl rfl ?_
    refine g_iload_n (pc2 := 18) dX9_hidNow_17 rfl rfl ?_
    refine g_put2 (pc2 := 21) dX9_hidNow_18 fp_X9_182 gk_1 rfl rfl rfl rfl (fun s2 es2 => ?_)
    replace h := h s2 es2
    refine g_iload_n (pc2 := 22) dX9_hidNow_21 rfl rfl ?_
    refine g_aload_n (pc2 := 23) dX9_hidNow_22 rfl rfl ?_
    refine g_callV (M2 := mX9_isWeighed) (as := []) (st := [.int x1]) (pc2 := 26) dX9_hidNow_23 ml_X9_302 mvX9_isWeighed gk_1 rfl rfl rfl (Nat.le_of_ble_eq_true rfl) (Nat.le_refl _) rfl (h.mono ?_)
    rintro _ σ3 ⟨r4, rfl, h⟩
    show gG (d + 1) mX9_hidNow 26 _ [.int r4, .int x1] σ3 Q
    refine g_if_eq (tgt := 35) (pc2 := 29) dX9_hidNow_26 (by decide) rfl (fun c => ?_) (fun c => ?_)
    · have h := h.1 c
      refine g_iconst (v := 0) (pc2 := 36) dX9_hidNow_35 (by decide) rfl ?_
      refine g_ior (pc2 := 37) dX9_hidNow_36 rfl ?_
      refine g_istore_n (pc2 := 38) dX9_hidNow_37 (by decide) rfl rfl ?_
      refine g_iinc2 (c := 1) (pc2 := 41) dX9_hidNow_38 rfl (by decide) (by decide) rfl rfl ?_
      refine g_goto (tgt := 8) dX9_hidNow_41 (by decide) ?_
      exact g_lw (lv2 := [some (.ref 1), some (.int (x1 ||| 0)), some (.int (x2 + 1))]) ⟨rfl, ⟨rfl, ⟨rfl, trivial⟩⟩⟩ h
    · have h := h.2 c
      refine g_iconst (v := 1) (pc2 := 30) dX9_hidNow_29 (by decide) rfl ?_
      refine g_iload_n (pc2 := 31) dX9_hidNow_30 rfl rfl ?_
      refine g_ishl (pc2 := 32) dX9_hidNow_31 rfl ?_
      refine g_goto (tgt := 36) dX9_hidNow_32 (by decide) ?_
      refine g_ior (pc2 := 37) dX9_hidNow_36 rfl ?_
      refine g_istore_n (pc2 := 38) dX9_hidNow_37 (by decide) rfl rfl ?_
      refine g_iinc2 (c := 1) (pc2 := 41) dX9_hidNow_38 rfl (by decide) (by decide) rfl rfl ?_
      refine g_goto (tgt := 8) dX9_hidNow_41 (by decide) ?_
      exact g_lw (lv2 := [some (.ref 1), some (.int (x1 ||| ((1 : Int32) <<< (x2 &&& 31)))), some (.int (x2 + 1))]) ⟨rfl, ⟨rfl, ⟨rfl, trivial⟩⟩⟩ h
set_option maxRecDepth 20000 in
theorem eX9_holds {d : Nat} {σ : gw_S} {Q : Option Value → gw_S → Prop} {x1 : Int32} {x2 : Int32} {x3 : Int32}   (h : gB d mX9_isDay [.int x1] σ (fun v σ1 => ∃ r2 : Int32, v = some (.int r2) ∧ (((r2 = 0) → (Q (some (.int (-2))) σ1)) ∧ ((¬ r2 = 0) → (gB d mX9_isBottle [.ref 1, .int x2] σ1 (fun v σ3 => ∃ r4 : Int32, v = some (.int r4) ∧ (((r4 = 0) → (Q (some (.int (-2))) σ3)) ∧ ((¬ r4 = 0) → (gB d mX9_in [.int x3, .int (-1), .int 7] σ3 (fun v σ5 => ∃ r6 : Int32, v = some (.int r6) ∧ (((r6 = 0) → (Q (some (.int (-2))) σ5)) ∧ ((¬ r6 = 0) → (gB d mX9_holdsOf [.ref 1, .int x1, .int x2, .int x3] σ5 (fun v σ7 => ∃ r8 : Int32, v = some (.int r8) ∧ (Q (some (.int r8)) σ7))))))))))))))) : gB (d + 1) mX9_holds [.ref 1, .int x1, .int x2, .int x3] σ Q := by
  refine gB_of rfl (Nat.le_of_ble_eq_true rfl) (g_lw (lv2 := [some (.ref 1), some (.int x1), some (.int x2), some (.int x3)]) ⟨rfl, ⟨rfl, ⟨rfl, ⟨rfl, trivial⟩⟩⟩⟩ ?_)
  refine g_iload_n (pc2 := 1) dX9_holds_0 rfl rfl ?_
  refine g_callS (M2 := mX9_isDay) (as := [.int x1]) (st := []) (pc2 := 4) dX9_holds_1 ml_X9_163 msX9_isDay rfl rfl (Nat.le_of_ble_eq_true rfl) (Nat.le_refl _) rfl (h.mono ?_)
  rintro _ σ1 ⟨r2, rfl, h⟩
  show gG (d + 1) mX9_holds 4 _ [.int r2] σ1 Q
  refine g_if_eq (tgt := 35) (pc2 := 7) dX9_holds_4 (by decide) rfl (fun c => ?_) (fun c => ?_)
  · have h := h.1 c
    refine g_bipush (v := (-2)) (pc2 := 37) dX9_holds_35 (by decide) rfl ?_
    exact g_iret dX9_holds_37 rfl h
  · have h := h.2 c
    refine g_aload_n (pc2 := 8) dX9_holds_7 rfl rfl ?_
    refine g_iload_n (pc2 := 9) dX9_holds_8 rfl rfl ?_
    refine g_callV (M2 := mX9_isBottle) (as := [.int x2]) (st := []) (pc2 := 12) dX9_holds_9 ml_X9_151 mvX9_isBottle gk_1 rfl rfl rfl (Nat.le_of_ble_eq_true rfl) (Nat.le_refl _) rfl (h.mono ?_)
    rintro _ σ3 ⟨r4, rfl, h⟩
    show gG (d + 1) mX9_holds 12 _ [.int r4] σ3 Q
    refine g_if_eq (tgt := 35) (pc2 := 15) dX9_holds_12 (by decide) rfl (fun c => ?_) (fun c => ?_)
    · have h := h.1 c
      refine g_bipush (v := (-2)) (pc2 := 37) dX9_holds_35 (by decide) rfl ?_
      exact g_iret dX9_holds_37 rfl h
    · have h := h.2 c
      refine g_iload_n (pc2 := 16) dX9_holds_15 rfl rfl ?_
      refine g_iconst (v := (-1)) (pc2 := 17) dX9_holds_16 (by decide) rfl ?_
      refine g_bipush (v := 7) (pc2 := 19) dX9_holds_17 (by decide) rfl ?_
      refine g_callS (M2 := mX9_in) (as := [.int x3, .int (-1), .int 7]) (st := []) (pc2 := 22) dX9_holds_19 ml_X9_116 msX9_in rfl rfl (Nat.le_of_ble_eq_true rfl) (Nat.le_refl _) rfl (h.mono ?_)
      rintro _ σ5 ⟨r6, rfl, h⟩
      show gG (d + 1) mX9_holds 22 _ [.int r6] σ5 Q
      refine g_if_eq (tgt := 35) (pc2 := 25) dX9_holds_22 (by decide) rfl (fun c => ?_) (fun c => ?_)
      · have h := h.1 c
        refine g_bipush (v := (-2)) (pc2 := 37) dX9_holds_35 (by decide) rfl ?_
        exact g_iret dX9_holds_37 rfl h
      · have h := h.2 c
        refine g_aload_n (pc2 := 26) dX9_holds_25 rfl rfl ?_
        refine g_iload_n (pc2 := 27) dX9_holds_26 rfl rfl ?_
        refine g_iload_n (pc2 := 28) dX9_holds_27 rfl rfl ?_
        refine g_iload_n (pc2 := 29) dX9_holds_28 rfl rfl ?_
        refine g_callV (M2 := mX9_holdsOf) (as := [.int x1, .int x2, .int x3]) (st := []) (pc2 := 32) dX9_holds_29 ml_X9_245 mvX9_holdsOf gk_1 rfl rfl rfl (Nat.le_of_ble_eq_true rfl) (Nat.le_refl _) rfl (h.mono ?_)
        rintro _ σ7 ⟨r8, rfl, h⟩
        show gG (d + 1) mX9_holds 32 _ [.int r8] σ7 Q
        refine g_goto (tgt := 37) dX9_holds_32 (by decide) ?_
        exact g_iret dX9_holds_37 rfl h
set_option maxRecDepth 20000 in
theorem eX9_holdsOf {d : Nat} {σ : gw_S} {Q : Option Value → gw_S → Prop} {x1 : Int32} {x2 : Int32} {x3 : Int32}   (h : gB d mX9_runsTold [.ref 1, .int x1] σ (fun v σ1 => v = none ∧ (((¬ x3 = (-1)) → (vp_in ((8 * x2) + x3) 64 ∧ (Q (some (.int (σ1 155 ((8 * x2) + x3).toNatClampNeg))) σ1))) ∧ ((x3 = (-1)) → (gB d mX9_allIn [.ref 1, .int x2] σ1 (fun v σ2 => ∃ r3 : Int32, v = some (.int r3) ∧ (Q (some (.int r3)) σ2))))))) : gB (d + 1) mX9_holdsOf [.ref 1, .int x1, .int x2, .int x3] σ Q := by
  refine gB_of rfl (Nat.le_of_ble_eq_true rfl) (g_lw (lv2 := [some (.ref 1), some (.int x1), some (.int x2), some (.int x3)]) ⟨rfl, ⟨rfl, ⟨rfl, ⟨rfl, trivial⟩⟩⟩⟩ ?_)
  refine g_aload_n (pc2 := 1) dX9_holdsOf_0 rfl rfl ?_
  refine g_iload_n (pc2 := 2) dX9_holdsOf_1 rfl rfl ?_
  refine g_callV (M2 := mX9_runsTold) (as := [.int x1]) (st := []) (pc2 := 5) dX9_holdsOf_2 ml_X9_242 mvX9_runsTold gk_1 rfl rfl rfl (Nat.le_of_ble_eq_true rfl) (Nat.le_refl _) rfl (h.mono ?_)
  rintro _ σ1 ⟨rfl, h⟩
  show gG (d + 1) mX9_holdsOf 5 _ [] σ1 Q
  refine g_iload_n (pc2 := 6) dX9_holdsOf_5 rfl rfl ?_
  refine g_iconst (v := (-1)) (pc2 := 7) dX9_holdsOf_6 (by decide) rfl ?_
  refine g_icmp_ne (tgt := 18) (pc2 := 10) dX9_holdsOf_7 (by decide) rfl (fun c => ?_) (fun c => ?_)
  · have h := h.1 c
    refine g_aload_n (pc2 := 19) dX9_holdsOf_18 rfl rfl ?_
    refine g_geta (pc2 := 22) dX9_holdsOf_19 fl_X9_55 gk_1 rfl rfl ?_
    refine g_bipush (v := 8) (pc2 := 24) dX9_holdsOf_22 (by decide) rfl ?_
    refine g_iload_n (pc2 := 25) dX9_holdsOf_24 rfl rfl ?_
    refine g_imul (pc2 := 26) dX9_holdsOf_25 rfl ?_
    refine g_iload_n (pc2 := 27) dX9_holdsOf_26 rfl rfl ?_
    refine g_iadd (pc2 := 28) dX9_holdsOf_27 rfl ?_
    obtain ⟨hx, h⟩ := h
    refine g_iald (pc2 := 29) dX9_holdsOf_28 gk_155 hx rfl ?_
    exact g_iret dX9_holdsOf_29 rfl h
  · have h := h.2 c
    refine g_aload_n (pc2 := 11) dX9_holdsOf_10 rfl rfl ?_
    refine g_iload_n (pc2 := 12) dX9_holdsOf_11 rfl rfl ?_
    refine g_callV (M2 := mX9_allIn) (as := [.int x2]) (st := []) (pc2 := 15) dX9_holdsOf_12 ml_X9_219 mvX9_allIn gk_1 rfl rfl rfl (Nat.le_of_ble_eq_true rfl) (Nat.le_refl _) rfl (h.mono ?_)
    rintro _ σ2 ⟨r3, rfl, h⟩
    show gG (d + 1) mX9_holdsOf 15 _ [.int r3] σ2 Q
    refine g_goto (tgt := 29) dX9_holdsOf_15 (by decide) ?_
    exact g_iret dX9_holdsOf_29 rfl h
set_option maxRecDepth 20000 in
theorem eX9_hot {d : Nat} {σ : gw_S} {Q : Option Value → gw_S → Prop} {x1 : Int32}   (h : gB d mX9_isDay [.int x1] σ (fun v σ1 => ∃ r2 : Int32, v = some (.int r2) ∧ (((¬ r2 = 0) → (((¬ (σ1 1 10) = 8) → (vp_in (σ1 1 10) 8 ∧ (∀ s3 : gw_S, s3 = gw_u σ1 147 (σ1 1 10).toNatClampNeg x1 → (∀ s4 : gw_S, s4 = gw_u s3 1 10 ((s3 1 10) + 1) → (Q (some (.int (s4 1 10))) s4))))) ∧ (((σ1 1 10) = 8) → (Q (some (.int (-4))) σ1)))) ∧ ((r2 = 0) → (Q (some (.int (-2))) σ1))))) : gB (d + 1) mX9_hot [.ref 1, .int x1] σ Q := by
  refine gB_of rfl (Nat.le_of_ble_eq_true rfl) (g_lw (lv2 := [some (.ref 1), some (.int x1)]) ⟨rfl, ⟨rfl, trivial⟩⟩ ?_)
  refine g_iload_n (pc2 := 1) dX9_hot_0 rfl rfl ?_
  refine g_callS (M2 := mX9_isDay) (as := [.int x1]) (st := []) (pc2 := 4) dX9_hot_1 ml_X9_163 msX9_isDay rfl rfl (Nat.le_of_ble_eq_true rfl) (Nat.le_refl _) rfl (h.mono ?_)
  rintro _ σ1 ⟨r2, rfl, h⟩
  show gG (d + 1) mX9_hot 4 _ [.int r2] σ1 Q
  refine g_if_ne (tgt := 10) (pc2 := 7) dX9_hot_4 (by decide) rfl (fun c => ?_) (fun c => ?_)
  · have h := h.1 c
    refine g_aload_n (pc2 := 11) dX9_hot_10 rfl rfl ?_
    refine g_geti (pc2 := 14) dX9_hot_11 fl_X9_166 gk_1 rfl rfl ?_
    refine g_bipush (v := 8) (pc2 := 16) dX9_hot_14 (by decide) rfl ?_
    refine g_icmp_ne (tgt := 22) (pc2 := 19) dX9_hot_16 (by decide) rfl (fun c => ?_) (fun c => ?_)
    · have h := h.1 c
      refine g_aload_n (pc2 := 23) dX9_hot_22 rfl rfl ?_
      refine g_geta (pc2 := 26) dX9_hot_23 fl_X9_31 gk_1 rfl rfl ?_
      refine g_aload_n (pc2 := 27) dX9_hot_26 rfl rfl ?_
      refine g_geti (pc2 := 30) dX9_hot_27 fl_X9_166 gk_1 rfl rfl ?_
      refine g_iload_n (pc2 := 31) dX9_hot_30 rfl rfl ?_
      obtain ⟨hx, h⟩ := h
      refine g_iast2 (pc2 := 32) dX9_hot_31 gk_147 hx rfl (fun s3 es3 => ?_)
      replace h := h s3 es3
      refine g_aload_n (pc2 := 33) dX9_hot_32 rfl rfl ?_
      refine g_dup (pc2 := 34) dX9_hot_33 rfl rfl ?_
      refine g_geti (pc2 := 37) dX9_hot_34 fl_X9_166 gk_1 rfl rfl ?_
      refine g_iconst (v := 1) (pc2 := 38) dX9_hot_37 (by decide) rfl ?_
      refine g_iadd (pc2 := 39) dX9_hot_38 rfl ?_
      refine g_put2 (pc2 := 42) dX9_hot_39 fp_X9_166 gk_1 rfl rfl rfl rfl (fun s4 es4 => ?_)
      replace h := h s4 es4
      refine g_aload_n (pc2 := 43) dX9_hot_42 rfl rfl ?_
      refine g_geti (pc2 := 46) dX9_hot_43 fl_X9_166 gk_1 rfl rfl ?_
      exact g_iret dX9_hot_46 rfl h
    · have h := h.2 c
      refine g_bipush (v := (-4)) (pc2 := 21) dX9_hot_19 (by decide) rfl ?_
      exact g_iret dX9_hot_21 rfl h
  · have h := h.2 c
    refine g_bipush (v := (-2)) (pc2 := 9) dX9_hot_7 (by decide) rfl ?_
    exact g_iret dX9_hot_9 rfl h
set_option maxRecDepth 20000 in
theorem eX9_in {d : Nat} {σ : gw_S} {Q : Option Value → gw_S → Prop} {x0 : Int32} {x1 : Int32} {x2 : Int32}   (h : ((x0 < x1) → (Q (some (.int 0)) σ)) ∧ ((¬ x0 < x1) → (((x2 < x0) → (Q (some (.int 0)) σ)) ∧ ((¬ x2 < x0) → (Q (some (.int 1)) σ))))) : gB d mX9_in [.int x0, .int x1, .int x2] σ Q := by
  refine gB_of rfl (Nat.le_of_ble_eq_true rfl) (g_lw (lv2 := [some (.int x0), some (.int x1), some (.int x2)]) ⟨rfl, ⟨rfl, ⟨rfl, trivial⟩⟩⟩ ?_)
  refine g_iload_n (pc2 := 1) dX9_in_0 rfl rfl ?_
  refine g_iload_n (pc2 := 2) dX9_in_1 rfl rfl ?_
  refine g_icmp_lt (tgt := 14) (pc2 := 5) dX9_in_2 (by decide) rfl (fun c => ?_) (fun c => ?_)
  · have h := h.1 c
    refine g_iconst (v := 0) (pc2 := 15) dX9_in_14 (by decide) rfl ?_
    exact g_zret dX9_in_15 rfl rfl h
  · have h := h.2 c
    refine g_iload_n (pc2 := 6) dX9_in_5 rfl rfl ?_
    refine g_iload_n (pc2 := 7) dX9_in_6 rfl rfl ?_
    refine g_icmp_gt (tgt := 14) (pc2 := 10) dX9_in_7 (by decide) rfl (fun c => ?_) (fun c => ?_)
    · have h := h.1 c
      refine g_iconst (v := 0) (pc2 := 15) dX9_in_14 (by decide) rfl ?_
      exact g_zret dX9_in_15 rfl rfl h
    · have h := h.2 c
      refine g_iconst (v := 1) (pc2 := 11) dX9_in_10 (by decide) rfl ?_
      refine g_goto (tgt := 15) dX9_in_11 (by decide) ?_
      exact g_zret dX9_in_15 rfl rfl h
set_option maxRecDepth 20000 in
theorem eX9_isBottle {d : Nat} {σ : gw_S} {Q : Option Value → gw_S → Prop} {x1 : Int32}   (h : gB d mX9_reads [.ref 1] σ (fun v σ1 => v = none ∧ (gB d mX9_in [.int x1, .int 0, .int ((σ1 1 2) - 1)] σ1 (fun v σ2 => ∃ r3 : Int32, v = some (.int r3) ∧ (narrow .boolean (.int r3) = .int r3 ∧ Q (some (.int r3)) σ2))))) : gB (d + 1) mX9_isBottle [.ref 1, .int x1] σ Q := by
  refine gB_of rfl (Nat.le_of_ble_eq_true rfl) (g_lw (lv2 := [some (.ref 1), some (.int x1)]) ⟨rfl, ⟨rfl, trivial⟩⟩ ?_)
  refine g_aload_n (pc2 := 1) dX9_isBottle_0 rfl rfl ?_
  refine g_callV (M2 := mX9_reads) (as := []) (st := []) (pc2 := 4) dX9_isBottle_1 ml_X9_148 mvX9_reads gk_1 rfl rfl rfl (Nat.le_of_ble_eq_true rfl) (Nat.le_refl _) rfl (h.mono ?_)
  rintro _ σ1 ⟨rfl, h⟩
  show gG (d + 1) mX9_isBottle 4 _ [] σ1 Q
  refine g_iload_n (pc2 := 5) dX9_isBottle_4 rfl rfl ?_
  refine g_iconst (v := 0) (pc2 := 6) dX9_isBottle_5 (by decide) rfl ?_
  refine g_aload_n (pc2 := 7) dX9_isBottle_6 rfl rfl ?_
  refine g_geti (pc2 := 10) dX9_isBottle_7 fl_X9_128 gk_1 rfl rfl ?_
  refine g_iconst (v := 1) (pc2 := 11) dX9_isBottle_10 (by decide) rfl ?_
  refine g_isub (pc2 := 12) dX9_isBottle_11 rfl ?_
  refine g_callS (M2 := mX9_in) (as := [.int x1, .int 0, .int ((σ1 1 2) - 1)]) (st := []) (pc2 := 15) dX9_isBottle_12 ml_X9_116 msX9_in rfl rfl (Nat.le_of_ble_eq_true rfl) (Nat.le_refl _) rfl (h.mono ?_)
  rintro _ σ2 ⟨r3, rfl, h⟩
  show gG (d + 1) mX9_isBottle 15 _ [.int r3] σ2 Q
  exact g_zret dX9_isBottle_15 rfl h.1 h.2
set_option maxRecDepth 20000 in
theorem eX9_isDay {d : Nat} {σ : gw_S} {Q : Option Value → gw_S → Prop} {x0 : Int32}   (h : gB d mX9_in [.int x0, .int 0, .int 39] σ (fun v σ1 => ∃ r2 : Int32, v = some (.int r2) ∧ (narrow .boolean (.int r2) = .int r2 ∧ Q (some (.int r2)) σ1))) : gB (d + 1) mX9_isDay [.int x0] σ Q := by
  refine gB_of rfl (Nat.le_of_ble_eq_true rfl) (g_lw (lv2 := [some (.int x0)]) ⟨rfl, trivial⟩ ?_)
  refine g_iload_n (pc2 := 1) dX9_isDay_0 rfl rfl ?_
  refine g_iconst (v := 0) (pc2 := 2) dX9_isDay_1 (by decide) rfl ?_
  refine g_bipush (v := 39) (pc2 := 4) dX9_isDay_2 (by decide) rfl ?_
  refine g_callS (M2 := mX9_in) (as := [.int x0, .int 0, .int 39]) (st := []) (pc2 := 7) dX9_isDay_4 ml_X9_116 msX9_in rfl rfl (Nat.le_of_ble_eq_true rfl) (Nat.le_refl _) rfl (h.mono ?_)
  rintro _ σ1 ⟨r2, rfl, h⟩
  show gG (d + 1) mX9_isDay 7 _ [.int r2] σ1 Q
  exact g_zret dX9_isDay_7 rfl h.1 h.2
set_option maxRecDepth 20000 in
theorem eX9_isEight {d : Nat} {σ : gw_S} {Q : Option Value → gw_S → Prop} {x0 : Int32}   (h : gB d mX9_in [.int x0, .int 0, .int 7] σ (fun v σ1 => ∃ r2 : Int32, v = some (.int r2) ∧ (narrow .boolean (.int r2) = .int r2 ∧ Q (some (.int r2)) σ1))) : gB (d + 1) mX9_isEight [.int x0] σ Q := by
  refine gB_of rfl (Nat.le_of_ble_eq_true rfl) (g_lw (lv2 := [some (.int x0)]) ⟨rfl, trivial⟩ ?_)
  refine g_iload_n (pc2 := 1) dX9_isEight_0 rfl rfl ?_
  refine g_iconst (v := 0) (pc2 := 2) dX9_isEight_1 (by decide) rfl ?_
  refine g_bipush (v := 7) (pc2 := 4) dX9_isEight_2 (by decide) rfl ?_
  refine g_callS (M2 := mX9_in) (as := [.int x0, .int 0, .int 7]) (st := []) (pc2 := 7) dX9_isEight_4 ml_X9_116 msX9_in rfl rfl (Nat.le_of_ble_eq_true rfl) (Nat.le_refl _) rfl (h.mono ?_)
  rintro _ σ1 ⟨r2, rfl, h⟩
  show gG (d + 1) mX9_isEight 7 _ [.int r2] σ1 Q
  exact g_zret dX9_isEight_7 rfl h.1 h.2
set_option maxRecDepth 20000 in
theorem eX9_isIn {d : Nat} {σ : gw_S} {Q : Option Value → gw_S → Prop} {x0 : Int32} {x1 : Int32}   (h : ((¬ ((x0 >>> (x1 &&& 31)) &&& 1) = 1) → (Q (some (.int 0)) σ)) ∧ ((((x0 >>> (x1 &&& 31)) &&& 1) = 1) → (Q (some (.int 1)) σ))) : gB d mX9_isIn [.int x0, .int x1] σ Q := by
  refine gB_of rfl (Nat.le_of_ble_eq_true rfl) (g_lw (lv2 := [some (.int x0), some (.int x1)]) ⟨rfl, ⟨rfl, trivial⟩⟩ ?_)
  refine g_iload_n (pc2 := 1) dX9_isIn_0 rfl rfl ?_
  refine g_iload_n (pc2 := 2) dX9_isIn_1 rfl rfl ?_
  refine g_ishr (pc2 := 3) dX9_isIn_2 rfl ?_
  refine g_iconst (v := 1) (pc2 := 4) dX9_isIn_3 (by decide) rfl ?_
  refine g_iand (pc2 := 5) dX9_isIn_4 rfl ?_
  refine g_iconst (v := 1) (pc2 := 6) dX9_isIn_5 (by decide) rfl ?_
  refine g_icmp_ne (tgt := 13) (pc2 := 9) dX9_isIn_6 (by decide) rfl (fun c => ?_) (fun c => ?_)
  · have h := h.1 c
    refine g_iconst (v := 0) (pc2 := 14) dX9_isIn_13 (by decide) rfl ?_
    exact g_zret dX9_isIn_14 rfl rfl h
  · have h := h.2 c
    refine g_iconst (v := 1) (pc2 := 10) dX9_isIn_9 (by decide) rfl ?_
    refine g_goto (tgt := 14) dX9_isIn_10 (by decide) ?_
    exact g_zret dX9_isIn_14 rfl rfl h
set_option maxRecDepth 20000 in
theorem eX9_isSheet {d : Nat} {σ : gw_S} {Q : Option Value → gw_S → Prop} {x0 : Int32}   (h : gB d mX9_in [.int x0, .int 0, .int 3] σ (fun v σ1 => ∃ r2 : Int32, v = some (.int r2) ∧ (narrow .boolean (.int r2) = .int r2 ∧ Q (some (.int r2)) σ1))) : gB (d + 1) mX9_isSheet [.int x0] σ Q := by
  refine gB_of rfl (Nat.le_of_ble_eq_true rfl) (g_lw (lv2 := [some (.int x0)]) ⟨rfl, trivial⟩ ?_)
  refine g_iload_n (pc2 := 1) dX9_isSheet_0 rfl rfl ?_
  refine g_iconst (v := 0) (pc2 := 2) dX9_isSheet_1 (by decide) rfl ?_
  refine g_iconst (v := 3) (pc2 := 3) dX9_isSheet_2 (by decide) rfl ?_
  refine g_callS (M2 := mX9_in) (as := [.int x0, .int 0, .int 3]) (st := []) (pc2 := 6) dX9_isSheet_3 ml_X9_116 msX9_in rfl rfl (Nat.le_of_ble_eq_true rfl) (Nat.le_refl _) rfl (h.mono ?_)
  rintro _ σ1 ⟨r2, rfl, h⟩
  show gG (d + 1) mX9_isSheet 6 _ [.int r2] σ1 Q
  exact g_zret dX9_isSheet_6 rfl h.1 h.2
set_option maxRecDepth 20000 in
theorem eX9_isText {d : Nat} {σ : gw_S} {Q : Option Value → gw_S → Prop} {x0 : Int32}   (h : gB d mX9_in [.int x0, .int 0, .int 1] σ (fun v σ1 => ∃ r2 : Int32, v = some (.int r2) ∧ (narrow .boolean (.int r2) = .int r2 ∧ Q (some (.int r2)) σ1))) : gB (d + 1) mX9_isText [.int x0] σ Q := by
  refine gB_of rfl (Nat.le_of_ble_eq_true rfl) (g_lw (lv2 := [some (.int x0)]) ⟨rfl, trivial⟩ ?_)
  refine g_iload_n (pc2 := 1) dX9_isText_0 rfl rfl ?_
  refine g_iconst (v := 0) (pc2 := 2) dX9_isText_1 (by decide) rfl ?_
  refine g_iconst (v := 1) (pc2 := 3) dX9_isText_2 (by decide) rfl ?_
  refine g_callS (M2 := mX9_in) (as := [.int x0, .int 0, .int 1]) (st := []) (pc2 := 6) dX9_isText_3 ml_X9_116 msX9_in rfl rfl (Nat.le_of_ble_eq_true rfl) (Nat.le_refl _) rfl (h.mono ?_)
  rintro _ σ1 ⟨r2, rfl, h⟩
  show gG (d + 1) mX9_isText 6 _ [.int r2] σ1 Q
  exact g_zret dX9_isText_6 rfl h.1 h.2
set_option maxRecDepth 20000 in
theorem eX9_isWeighed {d : Nat} {σ : gw_S} {Q : Option Value → gw_S → Prop}    (h : gB d mX9_begins [.ref 1] σ (fun v σ1 => v = none ∧ (gG (d + 1) mX9_isWeighed 8 [some (.ref 1), some (.int 1), some (.int 0), none] [] σ1 Q))) : gB (d + 1) mX9_isWeighed [.ref 1] σ Q := by
  refine gB_of rfl (Nat.le_of_ble_eq_true rfl) (g_lw (lv2 := [some (.ref 1), none, none, none]) ⟨rfl, trivial⟩ ?_)
  refine g_iconst (v := 1) (pc2 := 1) dX9_isWeighed_0 (by decide) rfl ?_
  refine g_istore_n (pc2 := 2) dX9_isWeighed_1 (by decide) rfl rfl ?_
  refine g_aload_n (pc2 := 3) dX9_isWeighed_2 rfl rfl ?_
  refine g_callV (M2 := mX9_begins) (as := []) (st := []) (pc2 := 6) dX9_isWeighed_3 ml_X9_229 mvX9_begins gk_1 rfl rfl rfl (Nat.le_of_ble_eq_true rfl) (Nat.le_refl _) rfl (h.mono ?_)
  rintro _ σ1 ⟨rfl, h⟩
  show gG (d + 1) mX9_isWeighed 6 _ [] σ1 Q
  refine g_iconst (v := 0) (pc2 := 7) dX9_isWeighed_6 (by decide) rfl ?_
  refine g_istore_n (pc2 := 8) dX9_isWeighed_7 (by decide) rfl rfl ?_
  exact g_lw (lv2 := [some (.ref 1), some (.int 1), some (.int 0), none]) ⟨rfl, ⟨rfl, ⟨rfl, trivial⟩⟩⟩ h
set_option maxRecDepth 20000 in
theorem bX9_isWeighed_8 {d : Nat} {σ : gw_S} {Q : Option Value → gw_S → Prop} {x1 : Int32} {x2 : Int32}   (h : ((40 ≤ x2) → (narrow .boolean (.int x1) = .int x1 ∧ Q (some (.int x1)) σ)) ∧ ((¬ 40 ≤ x2) → (((x1 = 0) → (narrow .boolean (.int x1) = .int x1 ∧ Q (some (.int x1)) σ)) ∧ ((¬ x1 = 0) → (gB d mX9_goesBy [.ref 1, .int x2] σ (fun v σ2 => v = none ∧ (gG (d + 1) mX9_isWeighed 25 [some (.ref 1), some (.int x1), some (.int x2), some (.int 0)] [] σ2 Q))))))) : gG (d + 1) mX9_isWeighed 8 [some (.ref 1), some (.int x1), some (.int x2), none] [] σ Q := by
  refine g_iload_n (pc2 := 9) dX9_isWeighed_8 rfl rfl ?_
  refine g_bipush (v := 40) (pc2 := 11) dX9_isWeighed_9 (by decide) rfl ?_
  refine g_icmp_ge (tgt := 97) (pc2 := 14) dX9_isWeighed_11 (by decide) rfl (fun c => ?_) (fun c => ?_)
  · have h := h.1 c
    refine g_iload_n (pc2 := 98) dX9_isWeighed_97 rfl rfl ?_
    exact g_zret dX9_isWeighed_98 rfl h.1 h.2
  · have h := h.2 c
    refine g_iload_n (pc2 := 15) dX9_isWeighed_14 rfl rfl ?_
    refine g_if_eq (tgt := 97) (pc2 := 18) dX9_isWeighed_15 (by decide) rfl (fun c => ?_) (fun c => ?_)
    · have h := h.1 c
      refine g_iload_n (pc2 := 98) dX9_isWeighed_97 rfl rfl ?_
      exact g_zret dX9_isWeighed_98 rfl h.1 h.2
    · have h := h.2 c
      refine g_aload_n (pc2 := 19) dX9_isWeighed_18 rfl rfl ?_
      refine g_iload_n (pc2 := 20) dX9_isWeighed_19 rfl rfl ?_
      refine g_callV (M2 := mX9_goesBy) (as := [.int x2]) (st := []) (pc2 := 23) dX9_isWeighed_20 ml_X9_232 mvX9_goesBy gk_1 rfl rfl rfl (Nat.le_of_ble_eq_true rfl) (Nat.le_refl _) rfl (h.mono ?_)
      rintro _ σ2 ⟨rfl, h⟩
      show gG (d + 1) mX9_isWeighed 23 _ [] σ2 Q
      refine g_iconst (v := 0) (pc2 := 24) dX9_isWeighed_23 (by decide) rfl ?_
      refine g_istore_n (pc2 := 25) dX9_isWeighed_24 (by decide) rfl rfl ?_
      exact g_lw (lv2 := [some (.ref 1), some (.int x1), some (.int x2), some (.int 0)]) ⟨rfl, ⟨rfl, ⟨rfl, ⟨rfl, trivial⟩⟩⟩⟩ h
set_option maxRecDepth 20000 in
theorem bX9_isWeighed_25 {d : Nat} {σ : gw_S} {Q : Option Value → gw_S → Prop} {x1 : Int32} {x2 : Int32} {x3 : Int32}   (h : (((σ 1 36) ≤ x3) → (gG (d + 1) mX9_isWeighed 8 [some (.ref 1), some (.int x1), some (.int (x2 + 1)), none] [] σ Q)) ∧ ((¬ (σ 1 36) ≤ x3) → (((x1 = 0) → (gG (d + 1) mX9_isWeighed 25 [some (.ref 1), some (.int 0), some (.int x2), some (.int (x3 + 1))] [] σ Q)) ∧ ((¬ x1 = 0) → (vp_in x3 8 ∧ ((((σ 1 2) ≤ (σ 165 x3.toNatClampNeg)) → (gG (d + 1) mX9_isWeighed 25 [some (.ref 1), some (.int 0), some (.int x2), some (.int (x3 + 1))] [] σ Q)) ∧ ((¬ (σ 1 2) ≤ (σ 165 x3.toNatClampNeg)) → (vp_in x3 8 ∧ (((¬ (σ 164 x3.toNatClampNeg) = x2) → (gG (d + 1) mX9_isWeighed 25 [some (.ref 1), some (.int 1), some (.int x2), some (.int (x3 + 1))] [] σ Q)) ∧ (((σ 164 x3.toNatClampNeg) = x2) → (vp_in x3 8 ∧ (gB d mX9_allIn [.ref 1, .int (σ 165 x3.toNatClampNeg)] σ (fun v σ3 => ∃ r4 : Int32, v = some (.int r4) ∧ (vp_in x3 8 ∧ (((¬ r4 = (σ3 166 x3.toNatClampNeg)) → (gG (d + 1) mX9_isWeighed 25 [some (.ref 1), some (.int 0), some (.int x2), some (.int (x3 + 1))] [] σ3 Q)) ∧ ((r4 = (σ3 166 x3.toNatClampNeg)) → (gG (d + 1) mX9_isWeighed 25 [some (.ref 1), some (.int 1), some (.int x2), some (.int (x3 + 1))] [] σ3 Q))))))))))))))))) : gG (d + 1) mX9_isWeighed 25 [some (.ref 1), some (.int x1), some (.int x2), some (.int x3)] [] σ Q := by
  refine g_iload_n (pc2 := 26) dX9_isWeighed_25 rfl rfl ?_
  refine g_aload_n (pc2 := 27) dX9_isWeighed_26 rfl rfl ?_
  refine g_geti (pc2 := 30) dX9_isWeighed_27 fl_X9_299 gk_1 rfl rfl ?_
  refine g_icmp_ge (tgt := 91) (pc2 := 33) dX9_isWeighed_30 (by decide) rfl (fun c => ?_) (fun c => ?_)
  · have h := h.1 c
    refine g_iinc2 (c := 1) (pc2 := 94) dX9_isWeighed_91 rfl (by decide) (by decide) rfl rfl ?_
    refine g_goto (tgt := 8) dX9_isWeighed_94 (by decide) ?_
    exact g_lw (lv2 := [some (.ref 1), some (.int x1), some (.int (x2 + 1)), none]) ⟨rfl, ⟨rfl, ⟨rfl, trivial⟩⟩⟩ h
  · have h := h.2 c
    refine g_iload_n (pc2 := 34) dX9_isWeighed_33 rfl rfl ?_
    refine g_if_eq (tgt := 83) (pc2 := 37) dX9_isWeighed_34 (by decide) rfl (fun c => ?_) (fun c => ?_)
    · have h := h.1 c
      refine g_iconst (v := 0) (pc2 := 84) dX9_isWeighed_83 (by decide) rfl ?_
      refine g_istore_n (pc2 := 85) dX9_isWeighed_84 (by decide) rfl rfl ?_
      refine g_iinc2 (c := 1) (pc2 := 88) dX9_isWeighed_85 rfl (by decide) (by decide) rfl rfl ?_
      refine g_goto (tgt := 25) dX9_isWeighed_88 (by decide) ?_
      exact g_lw (lv2 := [some (.ref 1), some (.int 0), some (.int x2), some (.int (x3 + 1))]) ⟨rfl, ⟨rfl, ⟨rfl, ⟨rfl, trivial⟩⟩⟩⟩ h
    · have h := h.2 c
      refine g_aload_n (pc2 := 38) dX9_isWeighed_37 rfl rfl ?_
      refine g_geta (pc2 := 41) dX9_isWeighed_38 fl_X9_86 gk_1 rfl rfl ?_
      refine g_iload_n (pc2 := 42) dX9_isWeighed_41 rfl rfl ?_
      obtain ⟨hx, h⟩ := h
      refine g_iald (pc2 := 43) dX9_isWeighed_42 gk_165 hx rfl ?_
      refine g_aload_n (pc2 := 44) dX9_isWeighed_43 rfl rfl ?_
      refine g_geti (pc2 := 47) dX9_isWeighed_44 fl_X9_128 gk_1 rfl rfl ?_
      refine g_icmp_ge (tgt := 83) (pc2 := 50) dX9_isWeighed_47 (by decide) rfl (fun c => ?_) (fun c => ?_)
      · have h := h.1 c
        refine g_iconst (v := 0) (pc2 := 84) dX9_isWeighed_83 (by decide) rfl ?_
        refine g_istore_n (pc2 := 85) dX9_isWeighed_84 (by decide) rfl rfl ?_
        refine g_iinc2 (c := 1) (pc2 := 88) dX9_isWeighed_85 rfl (by decide) (by decide) rfl rfl ?_
        refine g_goto (tgt := 25) dX9_isWeighed_88 (by decide) ?_
        exact g_lw (lv2 := [some (.ref 1), some (.int 0), some (.int x2), some (.int (x3 + 1))]) ⟨rfl, ⟨rfl, ⟨rfl, ⟨rfl, trivial⟩⟩⟩⟩ h
      · have h := h.2 c
        refine g_aload_n (pc2 := 51) dX9_isWeighed_50 rfl rfl ?_
        refine g_geta (pc2 := 54) dX9_isWeighed_51 fl_X9_83 gk_1 rfl rfl ?_
        refine g_iload_n (pc2 := 55) dX9_isWeighed_54 rfl rfl ?_
        obtain ⟨hx, h⟩ := h
        refine g_iald (pc2 := 56) dX9_isWeighed_55 gk_164 hx rfl ?_
        refine g_iload_n (pc2 := 57) dX9_isWeighed_56 rfl rfl ?_
        refine g_icmp_ne (tgt := 79) (pc2 := 60) dX9_isWeighed_57 (by decide) rfl (fun c => ?_) (fun c => ?_)
        · have h := h.1 c
          refine g_iconst (v := 1) (pc2 := 80) dX9_isWeighed_79 (by decide) rfl ?_
          refine g_goto (tgt := 84) dX9_isWeighed_80 (by decide) ?_
          refine g_istore_n (pc2 := 85) dX9_isWeighed_84 (by decide) rfl rfl ?_
          refine g_iinc2 (c := 1) (pc2 := 88) dX9_isWeighed_85 rfl (by decide) (by decide) rfl rfl ?_
          refine g_goto (tgt := 25) dX9_isWeighed_88 (by decide) ?_
          exact g_lw (lv2 := [some (.ref 1), some (.int 1), some (.int x2), some (.int (x3 + 1))]) ⟨rfl, ⟨rfl, ⟨rfl, ⟨rfl, trivial⟩⟩⟩⟩ h
        · have h := h.2 c
          refine g_aload_n (pc2 := 61) dX9_isWeighed_60 rfl rfl ?_
          refine g_aload_n (pc2 := 62) dX9_isWeighed_61 rfl rfl ?_
          refine g_geta (pc2 := 65) dX9_isWeighed_62 fl_X9_86 gk_1 rfl rfl ?_
          refine g_iload_n (pc2 := 66) dX9_isWeighed_65 rfl rfl ?_
          obtain ⟨hx, h⟩ := h
          refine g_iald (pc2 := 67) dX9_isWeighed_66 gk_165 hx rfl ?_
          refine g_callV (M2 := mX9_allIn) (as := [.int (σ 165 x3.toNatClampNeg)]) (st := []) (pc2 := 70) dX9_isWeighed_67 ml_X9_219 mvX9_allIn gk_1 rfl rfl rfl (Nat.le_of_ble_eq_true rfl) (Nat.le_refl _) rfl (h.mono ?_)
          rintro _ σ3 ⟨r4, rfl, h⟩
          show gG (d + 1) mX9_isWeighed 70 _ [.int r4] σ3 Q
          refine g_aload_n (pc2 := 71) dX9_isWeighed_70 rfl rfl ?_
          refine g_geta (pc2 := 74) dX9_isWeighed_71 fl_X9_89 gk_1 rfl rfl ?_
          refine g_iload_n (pc2 := 75) dX9_isWeighed_74 rfl rfl ?_
          obtain ⟨hx, h⟩ := h
          refine g_iald (pc2 := 76) dX9_isWeighed_75 gk_166 hx rfl ?_
          refine g_icmp_ne (tgt := 83) (pc2 := 79) dX9_isWeighed_76 (by decide) rfl (fun c => ?_) (fun c => ?_)
          · have h := h.1 c
            refine g_iconst (v := 0) (pc2 := 84) dX9_isWeighed_83 (by decide) rfl ?_
            refine g_istore_n (pc2 := 85) dX9_isWeighed_84 (by decide) rfl rfl ?_
            refine g_iinc2 (c := 1) (pc2 := 88) dX9_isWeighed_85 rfl (by decide) (by decide) rfl rfl ?_
            refine g_goto (tgt := 25) dX9_isWeighed_88 (by decide) ?_
            exact g_lw (lv2 := [some (.ref 1), some (.int 0), some (.int x2), some (.int (x3 + 1))]) ⟨rfl, ⟨rfl, ⟨rfl, ⟨rfl, trivial⟩⟩⟩⟩ h
          · have h := h.2 c
            refine g_iconst (v := 1) (pc2 := 80) dX9_isWeighed_79 (by decide) rfl ?_
            refine g_goto (tgt := 84) dX9_isWeighed_80 (by decide) ?_
            refine g_istore_n (pc2 := 85) dX9_isWeighed_84 (by decide) rfl rfl ?_
            refine g_iinc2 (c := 1) (pc2 := 88) dX9_isWeighed_85 rfl (by decide) (by decide) rfl rfl ?_
            refine g_goto (tgt := 25) dX9_isWeighed_88 (by decide) ?_
            exact g_lw (lv2 := [some (.ref 1), some (.int 1), some (.int x2), some (.int (x3 + 1))]) ⟨rfl, ⟨rfl, ⟨rfl, ⟨rfl, trivial⟩⟩⟩⟩ h
set_option maxRecDepth 20000 in
theorem eX9_joins {d : Nat} {σ : gw_S} {Q : Option Value → gw_S → Prop} {x1 : Int32} {x2 : Int32}   (h : (((σ 1 2) ≤ x1) → (Q (some (.int 0)) σ)) ∧ ((¬ (σ 1 2) ≤ x1) → ((((σ 1 2) ≤ x2) → (Q (some (.int 0)) σ)) ∧ ((¬ (σ 1 2) ≤ x2) → (((x1 = x2) → (Q (some (.int 0)) σ)) ∧ ((¬ x1 = x2) → (vp_in x1 8 ∧ ((((σ 158 x1.toNatClampNeg) = 0) → (Q (some (.int 0)) σ)) ∧ ((¬ (σ 158 x1.toNatClampNeg) = 0) → (vp_in x2 8 ∧ (((¬ (σ 158 x2.toNatClampNeg) = 0) → (gG d mX9_joins 43 [some (.ref 1), some (.int x1), some (.int x2), some (.int 0)] [] σ Q)) ∧ (((σ 158 x2.toNatClampNeg) = 0) → (Q (some (.int 0)) σ))))))))))))) : gB d mX9_joins [.ref 1, .int x1, .int x2] σ Q := by
  refine gB_of rfl (Nat.le_of_ble_eq_true rfl) (g_lw (lv2 := [some (.ref 1), some (.int x1), some (.int x2), none]) ⟨rfl, ⟨rfl, ⟨rfl, trivial⟩⟩⟩ ?_)
  refine g_iload_n (pc2 := 1) dX9_joins_0 rfl rfl ?_
  refine g_aload_n (pc2 := 2) dX9_joins_1 rfl rfl ?_
  refine g_geti (pc2 := 5) dX9_joins_2 fl_X9_128 gk_1 rfl rfl ?_
  refine g_icmp_ge (tgt := 39) (pc2 := 8) dX9_joins_5 (by decide) rfl (fun c => ?_) (fun c => ?_)
  · have h := h.1 c
    refine g_iconst (v := 0) (pc2 := 40) dX9_joins_39 (by decide) rfl ?_
    exact g_zret dX9_joins_40 rfl rfl h
  · have h := h.2 c
    refine g_iload_n (pc2 := 9) dX9_joins_8 rfl rfl ?_
    refine g_aload_n (pc2 := 10) dX9_joins_9 rfl rfl ?_
    refine g_geti (pc2 := 13) dX9_joins_10 fl_X9_128 gk_1 rfl rfl ?_
    refine g_icmp_ge (tgt := 39) (pc2 := 16) dX9_joins_13 (by decide) rfl (fun c => ?_) (fun c => ?_)
    · have h := h.1 c
      refine g_iconst (v := 0) (pc2 := 40) dX9_joins_39 (by decide) rfl ?_
      exact g_zret dX9_joins_40 rfl rfl h
    · have h := h.2 c
      refine g_iload_n (pc2 := 17) dX9_joins_16 rfl rfl ?_
      refine g_iload_n (pc2 := 18) dX9_joins_17 rfl rfl ?_
      refine g_icmp_eq (tgt := 39) (pc2 := 21) dX9_joins_18 (by decide) rfl (fun c => ?_) (fun c => ?_)
      · have h := h.1 c
        refine g_iconst (v := 0) (pc2 := 40) dX9_joins_39 (by decide) rfl ?_
        exact g_zret dX9_joins_40 rfl rfl h
      · have h := h.2 c
        refine g_aload_n (pc2 := 22) dX9_joins_21 rfl rfl ?_
        refine g_geta (pc2 := 25) dX9_joins_22 fl_X9_64 gk_1 rfl rfl ?_
        refine g_iload_n (pc2 := 26) dX9_joins_25 rfl rfl ?_
        obtain ⟨hx, h⟩ := h
        refine g_zald (pc2 := 27) dX9_joins_26 gk_158 hx rfl ?_
        refine g_if_eq (tgt := 39) (pc2 := 30) dX9_joins_27 (by decide) rfl (fun c => ?_) (fun c => ?_)
        · have h := h.1 c
          refine g_iconst (v := 0) (pc2 := 40) dX9_joins_39 (by decide) rfl ?_
          exact g_zret dX9_joins_40 rfl rfl h
        · have h := h.2 c
          refine g_aload_n (pc2 := 31) dX9_joins_30 rfl rfl ?_
          refine g_geta (pc2 := 34) dX9_joins_31 fl_X9_64 gk_1 rfl rfl ?_
          refine g_iload_n (pc2 := 35) dX9_joins_34 rfl rfl ?_
          obtain ⟨hx, h⟩ := h
          refine g_zald (pc2 := 36) dX9_joins_35 gk_158 hx rfl ?_
          refine g_if_ne (tgt := 41) (pc2 := 39) dX9_joins_36 (by decide) rfl (fun c => ?_) (fun c => ?_)
          · have h := h.1 c
            refine g_iconst (v := 0) (pc2 := 42) dX9_joins_41 (by decide) rfl ?_
            refine g_istore_n (pc2 := 43) dX9_joins_42 (by decide) rfl rfl ?_
            exact g_lw (lv2 := [some (.ref 1), some (.int x1), some (.int x2), some (.int 0)]) ⟨rfl, ⟨rfl, ⟨rfl, ⟨rfl, trivial⟩⟩⟩⟩ h
          · have h := h.2 c
            refine g_iconst (v := 0) (pc2 := 40) dX9_joins_39 (by decide) rfl ?_
            exact g_zret dX9_joins_40 rfl rfl h
set_option maxRecDepth 20000 in
theorem bX9_joins_43 {d : Nat} {σ : gw_S} {Q : Option Value → gw_S → Prop} {x1 : Int32} {x2 : Int32} {x3 : Int32}   (h : ((8 ≤ x3) → (Q (some (.int 1)) σ)) ∧ ((¬ 8 ≤ x3) → (vp_in ((8 * x2) + x3) 64 ∧ (vp_in ((8 * x1) + x3) 64 ∧ (vp_in ((8 * x2) + x3) 64 ∧ (∀ s1 : gw_S, s1 = gw_u σ 155 ((8 * x2) + x3).toNatClampNeg ((σ 155 ((8 * x2) + x3).toNatClampNeg) + (σ 155 ((8 * x1) + x3).toNatClampNeg)) → (vp_in ((8 * x1) + x3) 64 ∧ (∀ s2 : gw_S, s2 = gw_u s1 155 ((8 * x1) + x3).toNatClampNeg 0 → (gG d mX9_joins 43 [some (.ref 1), some (.int x1), some (.int x2), some (.int (x3 + 1))] [] s2 Q))))))))) : gG d mX9_joins 43 [some (.ref 1), some (.int x1), some (.int x2), some (.int x3)] [] σ Q := by
  refine g_iload_n (pc2 := 44) dX9_joins_43 rfl rfl ?_
  refine g_bipush (v := 8) (pc2 := 46) dX9_joins_44 (by decide) rfl ?_
  refine g_icmp_ge (tgt := 92) (pc2 := 49) dX9_joins_46 (by decide) rfl (fun c => ?_) (fun c => ?_)
  · have h := h.1 c
    refine g_iconst (v := 1) (pc2 := 93) dX9_joins_92 (by decide) rfl ?_
    exact g_zret dX9_joins_93 rfl rfl h
  · have h := h.2 c
    refine g_aload_n (pc2 := 50) dX9_joins_49 rfl rfl ?_
    refine g_geta (pc2 := 53) dX9_joins_50 fl_X9_55 gk_1 rfl rfl ?_
    refine g_bipush (v := 8) (pc2 := 55) dX9_joins_53 (by decide) rfl ?_
    refine g_iload_n (pc2 := 56) dX9_joins_55 rfl rfl ?_
    refine g_imul (pc2 := 57) dX9_joins_56 rfl ?_
    refine g_iload_n (pc2 := 58) dX9_joins_57 rfl rfl ?_
    refine g_iadd (pc2 := 59) dX9_joins_58 rfl ?_
    refine g_dup2 (pc2 := 60) dX9_joins_59 rfl rfl rfl ?_
    obtain ⟨hx, h⟩ := h
    refine g_iald (pc2 := 61) dX9_joins_60 gk_155 hx rfl ?_
    refine g_aload_n (pc2 := 62) dX9_joins_61 rfl rfl ?_
    refine g_geta (pc2 := 65) dX9_joins_62 fl_X9_55 gk_1 rfl rfl ?_
    refine g_bipush (v := 8) (pc2 := 67) dX9_joins_65 (by decide) rfl ?_
    refine g_iload_n (pc2 := 68) dX9_joins_67 rfl rfl ?_
    refine g_imul (pc2 := 69) dX9_joins_68 rfl ?_
    refine g_iload_n (pc2 := 70) dX9_joins_69 rfl rfl ?_
    refine g_iadd (pc2 := 71) dX9_joins_70 rfl ?_
    obtain ⟨hx, h⟩ := h
    refine g_iald (pc2 := 72) dX9_joins_71 gk_155 hx rfl ?_
    refine g_iadd (pc2 := 73) dX9_joins_72 rfl ?_
    obtain ⟨hx, h⟩ := h
    refine g_iast2 (pc2 := 74) dX9_joins_73 gk_155 hx rfl (fun s1 es1 => ?_)
    replace h := h s1 es1
    refine g_aload_n (pc2 := 75) dX9_joins_74 rfl rfl ?_
    refine g_geta (pc2 := 78) dX9_joins_75 fl_X9_55 gk_1 rfl rfl ?_
    refine g_bipush (v := 8) (pc2 := 80) dX9_joins_78 (by decide) rfl ?_
    refine g_iload_n (pc2 := 81) dX9_joins_80 rfl rfl ?_
    refine g_imul (pc2 := 82) dX9_joins_81 rfl ?_
    refine g_iload_n (pc2 := 83) dX9_joins_82 rfl rfl ?_
    refine g_iadd (pc2 := 84) dX9_joins_83 rfl ?_
    refine g_iconst (v := 0) (pc2 := 85) dX9_joins_84 (by decide) rfl ?_
    obtain ⟨hx, h⟩ := h
    refine g_iast2 (pc2 := 86) dX9_joins_85 gk_155 hx rfl (fun s2 es2 => ?_)
    replace h := h s2 es2
    refine g_iinc2 (c := 1) (pc2 := 89) dX9_joins_86 rfl (by decide) (by decide) rfl rfl ?_
    refine g_goto (tgt := 43) dX9_joins_89 (by decide) ?_
    exact g_lw (lv2 := [some (.ref 1), some (.int x1), some (.int x2), some (.int (x3 + 1))]) ⟨rfl, ⟨rfl, ⟨rfl, ⟨rfl, trivial⟩⟩⟩⟩ h
set_option maxRecDepth 20000 in
theorem eX9_keep {d : Nat} {σ : gw_S} {Q : Option Value → gw_S → Prop} {x1 : Int32} {x2 : Int32} {x3 : Int32}   (h : vp_in x1 4 ∧ (((¬ (σ 169 x1.toNatClampNeg) = 0) → (vp_in x1 4 ∧ (((¬ (σ 169 x1.toNatClampNeg) = 1) → (vp_in ((60 * x1) + x2) 240 ∧ (∀ s1 : gw_S, s1 = gw_u σ 171 ((60 * x1) + x2).toNatClampNeg x3 → (Q none s1)))) ∧ (((σ 169 x1.toNatClampNeg) = 1) → (vp_in ((60 * x1) + x2) 240 ∧ (∀ s2 : gw_S, s2 = gw_u σ 171 ((60 * x1) + x2).toNatClampNeg x3.toInt16.toInt32 → (Q none s2))))))) ∧ (((σ 169 x1.toNatClampNeg) = 0) → (vp_in ((60 * x1) + x2) 240 ∧ (∀ s3 : gw_S, s3 = gw_u σ 171 ((60 * x1) + x2).toNatClampNeg x3.toInt8.toInt32 → (Q none s3)))))) : gB d mX9_keep [.ref 1, .int x1, .int x2, .int x3] σ Q := by
  refine gB_of rfl (Nat.le_of_ble_eq_true rfl) (g_lw (lv2 := [some (.ref 1), some (.int x1), some (.int x2), some (.int x3)]) ⟨rfl, ⟨rfl, ⟨rfl, ⟨rfl, trivial⟩⟩⟩⟩ ?_)
  refine g_aload_n (pc2 := 1) dX9_keep_0 rfl rfl ?_
  refine g_geta (pc2 := 4) dX9_keep_1 fl_X9_104 gk_1 rfl rfl ?_
  refine g_bipush (v := 60) (pc2 := 6) dX9_keep_4 (by decide) rfl ?_
  refine g_iload_n (pc2 := 7) dX9_keep_6 rfl rfl ?_
  refine g_imul (pc2 := 8) dX9_keep_7 rfl ?_
  refine g_iload_n (pc2 := 9) dX9_keep_8 rfl rfl ?_
  refine g_iadd (pc2 := 10) dX9_keep_9 rfl ?_
  refine g_aload_n (pc2 := 11) dX9_keep_10 rfl rfl ?_
  refine g_geta (pc2 := 14) dX9_keep_11 fl_X9_98 gk_1 rfl rfl ?_
  refine g_iload_n (pc2 := 15) dX9_keep_14 rfl rfl ?_
  obtain ⟨hx, h⟩ := h
  refine g_iald (pc2 := 16) dX9_keep_15 gk_169 hx rfl ?_
  refine g_if_ne (tgt := 24) (pc2 := 19) dX9_keep_16 (by decide) rfl (fun c => ?_) (fun c => ?_)
  · have h := h.1 c
    refine g_aload_n (pc2 := 25) dX9_keep_24 rfl rfl ?_
    refine g_geta (pc2 := 28) dX9_keep_25 fl_X9_98 gk_1 rfl rfl ?_
    refine g_iload_n (pc2 := 29) dX9_keep_28 rfl rfl ?_
    obtain ⟨hx, h⟩ := h
    refine g_iald (pc2 := 30) dX9_keep_29 gk_169 hx rfl ?_
    refine g_iconst (v := 1) (pc2 := 31) dX9_keep_30 (by decide) rfl ?_
    refine g_icmp_ne (tgt := 39) (pc2 := 34) dX9_keep_31 (by decide) rfl (fun c => ?_) (fun c => ?_)
    · have h := h.1 c
      refine g_iload_n (pc2 := 40) dX9_keep_39 rfl rfl ?_
      obtain ⟨hx, h⟩ := h
      refine g_iast2 (pc2 := 41) dX9_keep_40 gk_171 hx rfl (fun s1 es1 => ?_)
      replace h := h s1 es1
      exact g_vret dX9_keep_41 rfl h
    · have h := h.2 c
      refine g_iload_n (pc2 := 35) dX9_keep_34 rfl rfl ?_
      refine g_i2s (pc2 := 36) dX9_keep_35 rfl ?_
      refine g_goto (tgt := 40) dX9_keep_36 (by decide) ?_
      obtain ⟨hx, h⟩ := h
      refine g_iast2 (pc2 := 41) dX9_keep_40 gk_171 hx rfl (fun s2 es2 => ?_)
      replace h := h s2 es2
      exact g_vret dX9_keep_41 rfl h
  · have h := h.2 c
    refine g_iload_n (pc2 := 20) dX9_keep_19 rfl rfl ?_
    refine g_i2b (pc2 := 21) dX9_keep_20 rfl ?_
    refine g_goto (tgt := 40) dX9_keep_21 (by decide) ?_
    obtain ⟨hx, h⟩ := h
    refine g_iast2 (pc2 := 41) dX9_keep_40 gk_171 hx rfl (fun s3 es3 => ?_)
    replace h := h s3 es3
    exact g_vret dX9_keep_41 rfl h
set_option maxRecDepth 20000 in
theorem eX9_lacks {d : Nat} {σ : gw_S} {Q : Option Value → gw_S → Prop} {x1 : Int32} {x2 : Int32} {x3 : Int32}   (h : vp_in x1 4 ∧ (((¬ (σ 168 x1.toNatClampNeg) = 0) → (vp_in x1 4 ∧ ((((σ 169 x1.toNatClampNeg) = x2) → (vp_in x1 4 ∧ (gB d mX9_in [.int x3, .int 0, .int ((σ 170 x1.toNatClampNeg) - 1)] σ (fun v σ1 => ∃ r2 : Int32, v = some (.int r2) ∧ (((r2 = 0) → (Q (some (.int 2)) σ1)) ∧ ((¬ r2 = 0) → (Q (some (.int 0)) σ1))))))) ∧ ((¬ (σ 169 x1.toNatClampNeg) = x2) → (Q (some (.int 3)) σ))))) ∧ (((σ 168 x1.toNatClampNeg) = 0) → (Q (some (.int 1)) σ)))) : gB (d + 1) mX9_lacks [.ref 1, .int x1, .int x2, .int x3] σ Q := by
  refine gB_of rfl (Nat.le_of_ble_eq_true rfl) (g_lw (lv2 := [some (.ref 1), some (.int x1), some (.int x2), some (.int x3)]) ⟨rfl, ⟨rfl, ⟨rfl, ⟨rfl, trivial⟩⟩⟩⟩ ?_)
  refine g_aload_n (pc2 := 1) dX9_lacks_0 rfl rfl ?_
  refine g_geta (pc2 := 4) dX9_lacks_1 fl_X9_95 gk_1 rfl rfl ?_
  refine g_iload_n (pc2 := 5) dX9_lacks_4 rfl rfl ?_
  obtain ⟨hx, h⟩ := h
  refine g_zald (pc2 := 6) dX9_lacks_5 gk_168 hx rfl ?_
  refine g_if_ne (tgt := 13) (pc2 := 9) dX9_lacks_6 (by decide) rfl (fun c => ?_) (fun c => ?_)
  · have h := h.1 c
    refine g_aload_n (pc2 := 14) dX9_lacks_13 rfl rfl ?_
    refine g_geta (pc2 := 17) dX9_lacks_14 fl_X9_98 gk_1 rfl rfl ?_
    refine g_iload_n (pc2 := 18) dX9_lacks_17 rfl rfl ?_
    obtain ⟨hx, h⟩ := h
    refine g_iald (pc2 := 19) dX9_lacks_18 gk_169 hx rfl ?_
    refine g_iload_n (pc2 := 20) dX9_lacks_19 rfl rfl ?_
    refine g_icmp_eq (tgt := 27) (pc2 := 23) dX9_lacks_20 (by decide) rfl (fun c => ?_) (fun c => ?_)
    · have h := h.1 c
      refine g_iload_n (pc2 := 28) dX9_lacks_27 rfl rfl ?_
      refine g_iconst (v := 0) (pc2 := 29) dX9_lacks_28 (by decide) rfl ?_
      refine g_aload_n (pc2 := 30) dX9_lacks_29 rfl rfl ?_
      refine g_geta (pc2 := 33) dX9_lacks_30 fl_X9_101 gk_1 rfl rfl ?_
      refine g_iload_n (pc2 := 34) dX9_lacks_33 rfl rfl ?_
      obtain ⟨hx, h⟩ := h
      refine g_iald (pc2 := 35) dX9_lacks_34 gk_170 hx rfl ?_
      refine g_iconst (v := 1) (pc2 := 36) dX9_lacks_35 (by decide) rfl ?_
      refine g_isub (pc2 := 37) dX9_lacks_36 rfl ?_
      refine g_callS (M2 := mX9_in) (as := [.int x3, .int 0, .int ((σ 170 x1.toNatClampNeg) - 1)]) (st := []) (pc2 := 40) dX9_lacks_37 ml_X9_116 msX9_in rfl rfl (Nat.le_of_ble_eq_true rfl) (Nat.le_refl _) rfl (h.mono ?_)
      rintro _ σ1 ⟨r2, rfl, h⟩
      show gG (d + 1) mX9_lacks 40 _ [.int r2] σ1 Q
      refine g_if_eq (tgt := 47) (pc2 := 43) dX9_lacks_40 (by decide) rfl (fun c => ?_) (fun c => ?_)
      · have h := h.1 c
        refine g_iconst (v := 2) (pc2 := 48) dX9_lacks_47 (by decide) rfl ?_
        exact g_iret dX9_lacks_48 rfl h
      · have h := h.2 c
        refine g_iconst (v := 0) (pc2 := 44) dX9_lacks_43 (by decide) rfl ?_
        refine g_goto (tgt := 48) dX9_lacks_44 (by decide) ?_
        exact g_iret dX9_lacks_48 rfl h
    · have h := h.2 c
      refine g_iconst (v := 3) (pc2 := 24) dX9_lacks_23 (by decide) rfl ?_
      refine g_goto (tgt := 48) dX9_lacks_24 (by decide) ?_
      exact g_iret dX9_lacks_48 rfl h
  · have h := h.2 c
    refine g_iconst (v := 1) (pc2 := 10) dX9_lacks_9 (by decide) rfl ?_
    refine g_goto (tgt := 48) dX9_lacks_10 (by decide) ?_
    exact g_iret dX9_lacks_48 rfl h
set_option maxRecDepth 20000 in
theorem eX9_laysSpills {d : Nat} {σ : gw_S} {Q : Option Value → gw_S → Prop}    (h : gG (d + 1) mX9_laysSpills 2 [some (.ref 1), some (.int 0), none, none, none, none] [] σ Q) : gB (d + 1) mX9_laysSpills [.ref 1] σ Q := by
  refine gB_of rfl (Nat.le_of_ble_eq_true rfl) (g_lw (lv2 := [some (.ref 1), none, none, none, none, none]) ⟨rfl, trivial⟩ ?_)
  refine g_iconst (v := 0) (pc2 := 1) dX9_laysSpills_0 (by decide) rfl ?_
  refine g_istore_n (pc2 := 2) dX9_laysSpills_1 (by decide) rfl rfl ?_
  exact g_lw (lv2 := [some (.ref 1), some (.int 0), none, none, none, none]) ⟨rfl, ⟨rfl, trivial⟩⟩ h
set_option maxRecDepth 20000 in
theorem bX9_laysSpills_2 {d : Nat} {σ : gw_S} {Q : Option Value → gw_S → Prop} {x1 : Int32}   (h : ((((1 : Int32) <<< ((σ 1 2) &&& 31)) ≤ x1) → (gG (d + 1) mX9_laysSpills 41 [some (.ref 1), some (.int ((σ 1 7) - 1)), none, none, none, none] [] σ Q)) ∧ ((¬ ((1 : Int32) <<< ((σ 1 2) &&& 31)) ≤ x1) → (vp_in ((256 * (σ 1 7)) + x1) 2304 ∧ (∀ s1 : gw_S, s1 = gw_u σ 163 ((256 * (σ 1 7)) + x1).toNatClampNeg 0 → (gG (d + 1) mX9_laysSpills 2 [some (.ref 1), some (.int (x1 + 1)), none, none, none, none] [] s1 Q))))) : gG (d + 1) mX9_laysSpills 2 [some (.ref 1), some (.int x1), none, none, none, none] [] σ Q := by
  refine g_iload_n (pc2 := 3) dX9_laysSpills_2 rfl rfl ?_
  refine g_iconst (v := 1) (pc2 := 4) dX9_laysSpills_3 (by decide) rfl ?_
  refine g_aload_n (pc2 := 5) dX9_laysSpills_4 rfl rfl ?_
  refine g_geti (pc2 := 8) dX9_laysSpills_5 fl_X9_128 gk_1 rfl rfl ?_
  refine g_ishl (pc2 := 9) dX9_laysSpills_8 rfl ?_
  refine g_icmp_ge (tgt := 34) (pc2 := 12) dX9_laysSpills_9 (by decide) rfl (fun c => ?_) (fun c => ?_)
  · have h := h.1 c
    refine g_aload_n (pc2 := 35) dX9_laysSpills_34 rfl rfl ?_
    refine g_geti (pc2 := 38) dX9_laysSpills_35 fl_X9_134 gk_1 rfl rfl ?_
    refine g_iconst (v := 1) (pc2 := 39) dX9_laysSpills_38 (by decide) rfl ?_
    refine g_isub (pc2 := 40) dX9_laysSpills_39 rfl ?_
    refine g_istore_n (pc2 := 41) dX9_laysSpills_40 (by decide) rfl rfl ?_
    exact g_lw (lv2 := [some (.ref 1), some (.int ((σ 1 7) - 1)), none, none, none, none]) ⟨rfl, ⟨rfl, trivial⟩⟩ h
  · have h := h.2 c
    refine g_aload_n (pc2 := 13) dX9_laysSpills_12 rfl rfl ?_
    refine g_geta (pc2 := 16) dX9_laysSpills_13 fl_X9_80 gk_1 rfl rfl ?_
    refine g_sipush (v := 256) (pc2 := 19) dX9_laysSpills_16 (by decide) rfl ?_
    refine g_aload_n (pc2 := 20) dX9_laysSpills_19 rfl rfl ?_
    refine g_geti (pc2 := 23) dX9_laysSpills_20 fl_X9_134 gk_1 rfl rfl ?_
    refine g_imul (pc2 := 24) dX9_laysSpills_23 rfl ?_
    refine g_iload_n (pc2 := 25) dX9_laysSpills_24 rfl rfl ?_
    refine g_iadd (pc2 := 26) dX9_laysSpills_25 rfl ?_
    refine g_iconst (v := 0) (pc2 := 27) dX9_laysSpills_26 (by decide) rfl ?_
    obtain ⟨hx, h⟩ := h
    refine g_iast2 (pc2 := 28) dX9_laysSpills_27 gk_163 hx rfl (fun s1 es1 => ?_)
    replace h := h s1 es1
    refine g_iinc2 (c := 1) (pc2 := 31) dX9_laysSpills_28 rfl (by decide) (by decide) rfl rfl ?_
    refine g_goto (tgt := 2) dX9_laysSpills_31 (by decide) ?_
    exact g_lw (lv2 := [some (.ref 1), some (.int (x1 + 1)), none, none, none, none]) ⟨rfl, ⟨rfl, trivial⟩⟩ h
set_option maxRecDepth 20000 in
theorem bX9_laysSpills_41 {d : Nat} {σ : gw_S} {Q : Option Value → gw_S → Prop} {x1 : Int32}   (h : ((x1 < 0) → (((1000000 ≤ (σ 163 (0 : Int32).toNatClampNeg)) → (Q (some (.int (-1))) σ)) ∧ ((¬ 1000000 ≤ (σ 163 (0 : Int32).toNatClampNeg)) → (Q (some (.int (σ 163 (0 : Int32).toNatClampNeg))) σ)))) ∧ ((¬ x1 < 0) → (gG (d + 1) mX9_laysSpills 47 [some (.ref 1), some (.int x1), some (.int 0), none, none, none] [] σ Q))) : gG (d + 1) mX9_laysSpills 41 [some (.ref 1), some (.int x1), none, none, none, none] [] σ Q := by
  refine g_iload_n (pc2 := 42) dX9_laysSpills_41 rfl rfl ?_
  refine g_if_lt (tgt := 161) (pc2 := 45) dX9_laysSpills_42 (by decide) rfl (fun c => ?_) (fun c => ?_)
  · have h := h.1 c
    refine g_aload_n (pc2 := 162) dX9_laysSpills_161 rfl rfl ?_
    refine g_geta (pc2 := 165) dX9_laysSpills_162 fl_X9_80 gk_1 rfl rfl ?_
    refine g_iconst (v := 0) (pc2 := 166) dX9_laysSpills_165 (by decide) rfl ?_
    refine g_iald (pc2 := 167) dX9_laysSpills_166 gk_163 (vp_in_iff.mpr (by decide)) rfl ?_
    refine g_ldcw (pc2 := 170) dX9_laysSpills_167 co_X9_273 rfl ?_
    refine g_icmp_ge (tgt := 182) (pc2 := 173) dX9_laysSpills_170 (by decide) rfl (fun c => ?_) (fun c => ?_)
    · have h := h.1 c
      refine g_iconst (v := (-1)) (pc2 := 183) dX9_laysSpills_182 (by decide) rfl ?_
      exact g_iret dX9_laysSpills_183 rfl h
    · have h := h.2 c
      refine g_aload_n (pc2 := 174) dX9_laysSpills_173 rfl rfl ?_
      refine g_geta (pc2 := 177) dX9_laysSpills_174 fl_X9_80 gk_1 rfl rfl ?_
      refine g_iconst (v := 0) (pc2 := 178) dX9_laysSpills_177 (by decide) rfl ?_
      refine g_iald (pc2 := 179) dX9_laysSpills_178 gk_163 (vp_in_iff.mpr (by decide)) rfl ?_
      refine g_goto (tgt := 183) dX9_laysSpills_179 (by decide) ?_
      exact g_iret dX9_laysSpills_183 rfl h
  · have h := h.2 c
    refine g_iconst (v := 0) (pc2 := 46) dX9_laysSpills_45 (by decide) rfl ?_
    refine g_istore_n (pc2 := 47) dX9_laysSpills_46 (by decide) rfl rfl ?_
    exact g_lw (lv2 := [some (.ref 1), some (.int x1), some (.int 0), none, none, none]) ⟨rfl, ⟨rfl, ⟨rfl, trivial⟩⟩⟩ h
set_option maxRecDepth 20000 in
theorem bX9_laysSpills_47 {d : Nat} {σ : gw_S} {Q : Option Value → gw_S → Prop} {x1 : Int32} {x2 : Int32}   (h : ((((1 : Int32) <<< ((σ 1 2) &&& 31)) ≤ x2) → (gG (d + 1) mX9_laysSpills 41 [some (.ref 1), some (.int (x1 + (-1))), none, none, none, none] [] σ Q)) ∧ ((¬ ((1 : Int32) <<< ((σ 1 2) &&& 31)) ≤ x2) → (gG (d + 1) mX9_laysSpills 64 [some (.ref 1), some (.int x1), some (.int x2), some (.int 1000000), some (.int 0), none] [] σ Q))) : gG (d + 1) mX9_laysSpills 47 [some (.ref 1), some (.int x1), some (.int x2), none, none, none] [] σ Q := by
  refine g_iload_n (pc2 := 48) dX9_laysSpills_47 rfl rfl ?_
  refine g_iconst (v := 1) (pc2 := 49) dX9_laysSpills_48 (by decide) rfl ?_
  refine g_aload_n (pc2 := 50) dX9_laysSpills_49 rfl rfl ?_
  refine g_geti (pc2 := 53) dX9_laysSpills_50 fl_X9_128 gk_1 rfl rfl ?_
  refine g_ishl (pc2 := 54) dX9_laysSpills_53 rfl ?_
  refine g_icmp_ge (tgt := 155) (pc2 := 57) dX9_laysSpills_54 (by decide) rfl (fun c => ?_) (fun c => ?_)
  · have h := h.1 c
    refine g_iinc2 (c := (-1)) (pc2 := 158) dX9_laysSpills_155 rfl (by decide) (by decide) rfl rfl ?_
    refine g_goto (tgt := 41) dX9_laysSpills_158 (by decide) ?_
    exact g_lw (lv2 := [some (.ref 1), some (.int (x1 + (-1))), none, none, none, none]) ⟨rfl, ⟨rfl, trivial⟩⟩ h
  · have h := h.2 c
    refine g_ldcw (pc2 := 60) dX9_laysSpills_57 co_X9_273 rfl ?_
    refine g_istore_n (pc2 := 61) dX9_laysSpills_60 (by decide) rfl rfl ?_
    refine g_iconst (v := 0) (pc2 := 62) dX9_laysSpills_61 (by decide) rfl ?_
    refine g_istore (pc2 := 64) dX9_laysSpills_62 (by decide) rfl rfl ?_
    exact g_lw (lv2 := [some (.ref 1), some (.int x1), some (.int x2), some (.int 1000000), some (.int 0), none]) ⟨rfl, ⟨rfl, ⟨rfl, ⟨rfl, ⟨rfl, trivial⟩⟩⟩⟩⟩ h
set_option maxRecDepth 20000 in
theorem bX9_laysSpills_64 {d : Nat} {σ : gw_S} {Q : Option Value → gw_S → Prop} {x1 : Int32} {x2 : Int32} {x3 : Int32} {x4 : Int32}   (h : (((σ 1 2) ≤ x4) → (vp_in ((256 * x1) + x2) 2304 ∧ (∀ s2 : gw_S, s2 = gw_u σ 163 ((256 * x1) + x2).toNatClampNeg x3 → (gG (d + 1) mX9_laysSpills 47 [some (.ref 1), some (.int x1), some (.int (x2 + 1)), none, none, none] [] s2 Q)))) ∧ ((¬ (σ 1 2) ≤ x4) → (gB d mX9_isIn [.int x2, .int x4] σ (fun v σ3 => ∃ r4 : Int32, v = some (.int r4) ∧ (((r4 = 0) → (gB d mX9_spill [.ref 1, .int x1, .int x4] σ3 (fun v σ5 => ∃ r6 : Int32, v = some (.int r6) ∧ (vp_in ((256 * (x1 + 1)) + (x2 ||| ((1 : Int32) <<< (x4 &&& 31)))) 2304 ∧ (((x3 ≤ (r6 + (σ5 163 ((256 * (x1 + 1)) + (x2 ||| ((1 : Int32) <<< (x4 &&& 31)))).toNatClampNeg))) → (gG (d + 1) mX9_laysSpills 64 [some (.ref 1), some (.int x1), some (.int x2), some (.int x3), some (.int (x4 + 1)), none] [] σ5 Q)) ∧ ((¬ x3 ≤ (r6 + (σ5 163 ((256 * (x1 + 1)) + (x2 ||| ((1 : Int32) <<< (x4 &&& 31)))).toNatClampNeg))) → (gG (d + 1) mX9_laysSpills 64 [some (.ref 1), some (.int x1), some (.int x2), some (.int (r6 + (σ5 163 ((256 * (x1 + 1)) + (x2 ||| ((1 : Int32) <<< (x4 &&& 31)))).toNatClampNeg))), some (.int (x4 + 1)), none] [] σ5 Q))))))) ∧ ((¬ r4 = 0) → (((x3 ≤ 1000000) → (gG (d + 1) mX9_laysSpills 64 [some (.ref 1), some (.int x1), some (.int x2), some (.int x3), some (.int (x4 + 1)), none] [] σ3 Q)) ∧ ((¬ x3 ≤ 1000000) → (gG (d + 1) mX9_laysSpills 64 [some (.ref 1), some (.int x1), some (.int x2), some (.int 1000000), some (.int (x4 + 1)), none] [] σ3 Q))))))))) : gG (d + 1) mX9_laysSpills 64 [some (.ref 1), some (.int x1), some (.int x2), some (.int x3), some (.int x4), none] [] σ Q := by
  refine g_iload (pc2 := 66) dX9_laysSpills_64 rfl rfl ?_
  refine g_aload_n (pc2 := 67) dX9_laysSpills_66 rfl rfl ?_
  refine g_geti (pc2 := 70) dX9_laysSpills_67 fl_X9_128 gk_1 rfl rfl ?_
  refine g_icmp_ge (tgt := 136) (pc2 := 73) dX9_laysSpills_70 (by decide) rfl (fun c => ?_) (fun c => ?_)
  · have h := h.1 c
    refine g_aload_n (pc2 := 137) dX9_laysSpills_136 rfl rfl ?_
    refine g_geta (pc2 := 140) dX9_laysSpills_137 fl_X9_80 gk_1 rfl rfl ?_
    refine g_sipush (v := 256) (pc2 := 143) dX9_laysSpills_140 (by decide) rfl ?_
    refine g_iload_n (pc2 := 144) dX9_laysSpills_143 rfl rfl ?_
    refine g_imul (pc2 := 145) dX9_laysSpills_144 rfl ?_
    refine g_iload_n (pc2 := 146) dX9_laysSpills_145 rfl rfl ?_
    refine g_iadd (pc2 := 147) dX9_laysSpills_146 rfl ?_
    refine g_iload_n (pc2 := 148) dX9_laysSpills_147 rfl rfl ?_
    obtain ⟨hx, h⟩ := h
    refine g_iast2 (pc2 := 149) dX9_laysSpills_148 gk_163 hx rfl (fun s2 es2 => ?_)
    replace h := h s2 es2
    refine g_iinc2 (c := 1) (pc2 := 152) dX9_laysSpills_149 rfl (by decide) (by decide) rfl rfl ?_
    refine g_goto (tgt := 47) dX9_laysSpills_152 (by decide) ?_
    exact g_lw (lv2 := [some (.ref 1), some (.int x1), some (.int (x2 + 1)), none, none, none]) ⟨rfl, ⟨rfl, ⟨rfl, trivial⟩⟩⟩ h
  · have h := h.2 c
    refine g_iload_n (pc2 := 74) dX9_laysSpills_73 rfl rfl ?_
    refine g_iload (pc2 := 76) dX9_laysSpills_74 rfl rfl ?_
    refine g_callS (M2 := mX9_isIn) (as := [.int x2, .int x4]) (st := []) (pc2 := 79) dX9_laysSpills_76 ml_X9_274 msX9_isIn rfl rfl (Nat.le_of_ble_eq_true rfl) (Nat.le_refl _) rfl (h.mono ?_)
    rintro _ σ3 ⟨r4, rfl, h⟩
    show gG (d + 1) mX9_laysSpills 79 _ [.int r4] σ3 Q
    refine g_if_eq (tgt := 88) (pc2 := 82) dX9_laysSpills_79 (by decide) rfl (fun c => ?_) (fun c => ?_)
    · have h := h.1 c
      refine g_aload_n (pc2 := 89) dX9_laysSpills_88 rfl rfl ?_
      refine g_iload_n (pc2 := 90) dX9_laysSpills_89 rfl rfl ?_
      refine g_iload (pc2 := 92) dX9_laysSpills_90 rfl rfl ?_
      refine g_callV (M2 := mX9_spill) (as := [.int x1, .int x4]) (st := []) (pc2 := 95) dX9_laysSpills_92 ml_X9_277 mvX9_spill gk_1 rfl rfl rfl (Nat.le_of_ble_eq_true rfl) (Nat.le_refl _) rfl (h.mono ?_)
      rintro _ σ5 ⟨r6, rfl, h⟩
      show gG (d + 1) mX9_laysSpills 95 _ [.int r6] σ5 Q
      refine g_aload_n (pc2 := 96) dX9_laysSpills_95 rfl rfl ?_
      refine g_geta (pc2 := 99) dX9_laysSpills_96 fl_X9_80 gk_1 rfl rfl ?_
      refine g_sipush (v := 256) (pc2 := 102) dX9_laysSpills_99 (by decide) rfl ?_
      refine g_iload_n (pc2 := 103) dX9_laysSpills_102 rfl rfl ?_
      refine g_iconst (v := 1) (pc2 := 104) dX9_laysSpills_103 (by decide) rfl ?_
      refine g_iadd (pc2 := 105) dX9_laysSpills_104 rfl ?_
      refine g_imul (pc2 := 106) dX9_laysSpills_105 rfl ?_
      refine g_iload_n (pc2 := 107) dX9_laysSpills_106 rfl rfl ?_
      refine g_iconst (v := 1) (pc2 := 108) dX9_laysSpills_107 (by decide) rfl ?_
      refine g_iload (pc2 := 110) dX9_laysSpills_108 rfl rfl ?_
      refine g_ishl (pc2 := 111) dX9_laysSpills_110 rfl ?_
      refine g_ior (pc2 := 112) dX9_laysSpills_111 rfl ?_
      refine g_iadd (pc2 := 113) dX9_laysSpills_112 rfl ?_
      obtain ⟨hx, h⟩ := h
      refine g_iald (pc2 := 114) dX9_laysSpills_113 gk_163 hx rfl ?_
      refine g_iadd (pc2 := 115) dX9_laysSpills_114 rfl ?_
      refine g_istore (pc2 := 117) dX9_laysSpills_115 (by decide) rfl rfl ?_
      refine g_iload (pc2 := 119) dX9_laysSpills_117 rfl rfl ?_
      refine g_iload_n (pc2 := 120) dX9_laysSpills_119 rfl rfl ?_
      refine g_icmp_ge (tgt := 128) (pc2 := 123) dX9_laysSpills_120 (by decide) rfl (fun c => ?_) (fun c => ?_)
      · have h := h.1 c
        refine g_iload_n (pc2 := 129) dX9_laysSpills_128 rfl rfl ?_
        refine g_istore_n (pc2 := 130) dX9_laysSpills_129 (by decide) rfl rfl ?_
        refine g_iinc2 (c := 1) (pc2 := 133) dX9_laysSpills_130 rfl (by decide) (by decide) rfl rfl ?_
        refine g_goto (tgt := 64) dX9_laysSpills_133 (by decide) ?_
        exact g_lw (lv2 := [some (.ref 1), some (.int x1), some (.int x2), some (.int x3), some (.int (x4 + 1)), none]) ⟨rfl, ⟨rfl, ⟨rfl, ⟨rfl, ⟨rfl, trivial⟩⟩⟩⟩⟩ h
      · have h := h.2 c
        refine g_iload (pc2 := 125) dX9_laysSpills_123 rfl rfl ?_
        refine g_goto (tgt := 129) dX9_laysSpills_125 (by decide) ?_
        refine g_istore_n (pc2 := 130) dX9_laysSpills_129 (by decide) rfl rfl ?_
        refine g_iinc2 (c := 1) (pc2 := 133) dX9_laysSpills_130 rfl (by decide) (by decide) rfl rfl ?_
        refine g_goto (tgt := 64) dX9_laysSpills_133 (by decide) ?_
        exact g_lw (lv2 := [some (.ref 1), some (.int x1), some (.int x2), some (.int (r6 + (σ5 163 ((256 * (x1 + 1)) + (x2 ||| ((1 : Int32) <<< (x4 &&& 31)))).toNatClampNeg))), some (.int (x4 + 1)), none]) ⟨rfl, ⟨rfl, ⟨rfl, ⟨rfl, ⟨rfl, trivial⟩⟩⟩⟩⟩ h
    · have h := h.2 c
      refine g_ldcw (pc2 := 85) dX9_laysSpills_82 co_X9_273 rfl ?_
      refine g_goto (tgt := 115) dX9_laysSpills_85 (by decide) ?_
      refine g_istore (pc2 := 117) dX9_laysSpills_115 (by decide) rfl rfl ?_
      refine g_iload (pc2 := 119) dX9_laysSpills_117 rfl rfl ?_
      refine g_iload_n (pc2 := 120) dX9_laysSpills_119 rfl rfl ?_
      refine g_icmp_ge (tgt := 128) (pc2 := 123) dX9_laysSpills_120 (by decide) rfl (fun c => ?_) (fun c => ?_)
      · have h := h.1 c
        refine g_iload_n (pc2 := 129) dX9_laysSpills_128 rfl rfl ?_
        refine g_istore_n (pc2 := 130) dX9_laysSpills_129 (by decide) rfl rfl ?_
        refine g_iinc2 (c := 1) (pc2 := 133) dX9_laysSpills_130 rfl (by decide) (by decide) rfl rfl ?_
        refine g_goto (tgt := 64) dX9_laysSpills_133 (by decide) ?_
        exact g_lw (lv2 := [some (.ref 1), some (.int x1), some (.int x2), some (.int x3), some (.int (x4 + 1)), none]) ⟨rfl, ⟨rfl, ⟨rfl, ⟨rfl, ⟨rfl, trivial⟩⟩⟩⟩⟩ h
      · have h := h.2 c
        refine g_iload (pc2 := 125) dX9_laysSpills_123 rfl rfl ?_
        refine g_goto (tgt := 129) dX9_laysSpills_125 (by decide) ?_
        refine g_istore_n (pc2 := 130) dX9_laysSpills_129 (by decide) rfl rfl ?_
        refine g_iinc2 (c := 1) (pc2 := 133) dX9_laysSpills_130 rfl (by decide) (by decide) rfl rfl ?_
        refine g_goto (tgt := 64) dX9_laysSpills_133 (by decide) ?_
        exact g_lw (lv2 := [some (.ref 1), some (.int x1), some (.int x2), some (.int 1000000), some (.int (x4 + 1)), none]) ⟨rfl, ⟨rfl, ⟨rfl, ⟨rfl, ⟨rfl, trivial⟩⟩⟩⟩⟩ h
set_option maxRecDepth 20000 in
theorem eX9_leaked {d : Nat} {σ : gw_S} {Q : Option Value → gw_S → Prop} {x1 : Int32}   (h : gB d mX9_isDay [.int x1] σ (fun v σ1 => ∃ r2 : Int32, v = some (.int r2) ∧ (((r2 = 0) → (Q (some (.int (-2))) σ1)) ∧ ((¬ r2 = 0) → (gB d mX9_leakedOf [.ref 1, .int x1] σ1 (fun v σ3 => ∃ r4 : Int32, v = some (.int r4) ∧ (Q (some (.int r4)) σ3))))))) : gB (d + 1) mX9_leaked [.ref 1, .int x1] σ Q := by
  refine gB_of rfl (Nat.le_of_ble_eq_true rfl) (g_lw (lv2 := [some (.ref 1), some (.int x1)]) ⟨rfl, ⟨rfl, trivial⟩⟩ ?_)
  refine g_iload_n (pc2 := 1) dX9_leaked_0 rfl rfl ?_
  refine g_callS (M2 := mX9_isDay) (as := [.int x1]) (st := []) (pc2 := 4) dX9_leaked_1 ml_X9_163 msX9_isDay rfl rfl (Nat.le_of_ble_eq_true rfl) (Nat.le_refl _) rfl (h.mono ?_)
  rintro _ σ1 ⟨r2, rfl, h⟩
  show gG (d + 1) mX9_leaked 4 _ [.int r2] σ1 Q
  refine g_if_eq (tgt := 15) (pc2 := 7) dX9_leaked_4 (by decide) rfl (fun c => ?_) (fun c => ?_)
  · have h := h.1 c
    refine g_bipush (v := (-2)) (pc2 := 17) dX9_leaked_15 (by decide) rfl ?_
    exact g_iret dX9_leaked_17 rfl h
  · have h := h.2 c
    refine g_aload_n (pc2 := 8) dX9_leaked_7 rfl rfl ?_
    refine g_iload_n (pc2 := 9) dX9_leaked_8 rfl rfl ?_
    refine g_callV (M2 := mX9_leakedOf) (as := [.int x1]) (st := []) (pc2 := 12) dX9_leaked_9 ml_X9_264 mvX9_leakedOf gk_1 rfl rfl rfl (Nat.le_of_ble_eq_true rfl) (Nat.le_refl _) rfl (h.mono ?_)
    rintro _ σ3 ⟨r4, rfl, h⟩
    show gG (d + 1) mX9_leaked 12 _ [.int r4] σ3 Q
    refine g_goto (tgt := 17) dX9_leaked_12 (by decide) ?_
    exact g_iret dX9_leaked_17 rfl h
set_option maxRecDepth 20000 in
theorem eX9_leakedOf {d : Nat} {σ : gw_S} {Q : Option Value → gw_S → Prop} {x1 : Int32}   (h : gB d mX9_runsTold [.ref 1, .int x1] σ (fun v σ1 => v = none ∧ (Q (some (.int (σ1 1 30))) σ1))) : gB (d + 1) mX9_leakedOf [.ref 1, .int x1] σ Q := by
  refine gB_of rfl (Nat.le_of_ble_eq_true rfl) (g_lw (lv2 := [some (.ref 1), some (.int x1)]) ⟨rfl, ⟨rfl, trivial⟩⟩ ?_)
  refine g_aload_n (pc2 := 1) dX9_leakedOf_0 rfl rfl ?_
  refine g_iload_n (pc2 := 2) dX9_leakedOf_1 rfl rfl ?_
  refine g_callV (M2 := mX9_runsTold) (as := [.int x1]) (st := []) (pc2 := 5) dX9_leakedOf_2 ml_X9_242 mvX9_runsTold gk_1 rfl rfl rfl (Nat.le_of_ble_eq_true rfl) (Nat.le_refl _) rfl (h.mono ?_)
  rintro _ σ1 ⟨rfl, h⟩
  show gG (d + 1) mX9_leakedOf 5 _ [] σ1 Q
  refine g_aload_n (pc2 := 6) dX9_leakedOf_5 rfl rfl ?_
  refine g_geti (pc2 := 9) dX9_leakedOf_6 fl_X9_197 gk_1 rfl rfl ?_
  exact g_iret dX9_leakedOf_9 rfl h
set_option maxRecDepth 20000 in
theorem eX9_lose {d : Nat} {σ : gw_S} {Q : Option Value → gw_S → Prop} {x1 : Int32}   (h : gB d mX9_isSheet [.int x1] σ (fun v σ1 => ∃ r2 : Int32, v = some (.int r2) ∧ (((¬ r2 = 0) → (vp_in x1 4 ∧ (((¬ (σ1 168 x1.toNatClampNeg) = 0) → (vp_in x1 4 ∧ (∀ s3 : gw_S, s3 = gw_u σ1 168 x1.toNatClampNeg (vp_nar .boolean 0) → (vp_in x1 4 ∧ (Q (some (.int (s3 170 x1.toNatClampNeg))) s3))))) ∧ (((σ1 168 x1.toNatClampNeg) = 0) → (gB d mX9_meets [.ref 1, .int 1] σ1 (fun v σ4 => ∃ r5 : Int32, v = some (.int r5) ∧ (Q (some (.int r5)) σ4))))))) ∧ ((r2 = 0) → (Q (some (.int (-2))) σ1))))) : gB (d + 1) mX9_lose [.ref 1, .int x1] σ Q := by
  refine gB_of rfl (Nat.le_of_ble_eq_true rfl) (g_lw (lv2 := [some (.ref 1), some (.int x1)]) ⟨rfl, ⟨rfl, trivial⟩⟩ ?_)
  refine g_iload_n (pc2 := 1) dX9_lose_0 rfl rfl ?_
  refine g_callS (M2 := mX9_isSheet) (as := [.int x1]) (st := []) (pc2 := 4) dX9_lose_1 ml_X9_172 msX9_isSheet rfl rfl (Nat.le_of_ble_eq_true rfl) (Nat.le_refl _) rfl (h.mono ?_)
  rintro _ σ1 ⟨r2, rfl, h⟩
  show gG (d + 1) mX9_lose 4 _ [.int r2] σ1 Q
  refine g_if_ne (tgt := 10) (pc2 := 7) dX9_lose_4 (by decide) rfl (fun c => ?_) (fun c => ?_)
  · have h := h.1 c
    refine g_aload_n (pc2 := 11) dX9_lose_10 rfl rfl ?_
    refine g_geta (pc2 := 14) dX9_lose_11 fl_X9_95 gk_1 rfl rfl ?_
    refine g_iload_n (pc2 := 15) dX9_lose_14 rfl rfl ?_
    obtain ⟨hx, h⟩ := h
    refine g_zald (pc2 := 16) dX9_lose_15 gk_168 hx rfl ?_
    refine g_if_ne (tgt := 25) (pc2 := 19) dX9_lose_16 (by decide) rfl (fun c => ?_) (fun c => ?_)
    · have h := h.1 c
      refine g_aload_n (pc2 := 26) dX9_lose_25 rfl rfl ?_
      refine g_geta (pc2 := 29) dX9_lose_26 fl_X9_95 gk_1 rfl rfl ?_
      refine g_iload_n (pc2 := 30) dX9_lose_29 rfl rfl ?_
      refine g_iconst (v := 0) (pc2 := 31) dX9_lose_30 (by decide) rfl ?_
      obtain ⟨hx, h⟩ := h
      refine g_zast2 (pc2 := 32) dX9_lose_31 gk_168 hx rfl (fun s3 es3 => ?_)
      replace h := h s3 es3
      refine g_aload_n (pc2 := 33) dX9_lose_32 rfl rfl ?_
      refine g_geta (pc2 := 36) dX9_lose_33 fl_X9_101 gk_1 rfl rfl ?_
      refine g_iload_n (pc2 := 37) dX9_lose_36 rfl rfl ?_
      obtain ⟨hx, h⟩ := h
      refine g_iald (pc2 := 38) dX9_lose_37 gk_170 hx rfl ?_
      exact g_iret dX9_lose_38 rfl h
    · have h := h.2 c
      refine g_aload_n (pc2 := 20) dX9_lose_19 rfl rfl ?_
      refine g_iconst (v := 1) (pc2 := 21) dX9_lose_20 (by decide) rfl ?_
      refine g_callV (M2 := mX9_meets) (as := [.int 1]) (st := []) (pc2 := 24) dX9_lose_21 ml_X9_175 mvX9_meets gk_1 rfl rfl rfl (Nat.le_of_ble_eq_true rfl) (Nat.le_refl _) rfl (h.mono ?_)
      rintro _ σ4 ⟨r5, rfl, h⟩
      show gG (d + 1) mX9_lose 24 _ [.int r5] σ4 Q
      exact g_iret dX9_lose_24 rfl h
  · have h := h.2 c
    refine g_bipush (v := (-2)) (pc2 := 9) dX9_lose_7 (by decide) rfl ?_
    exact g_iret dX9_lose_9 rfl h
set_option maxRecDepth 20000 in
theorem eX9_lost {d : Nat} {σ : gw_S} {Q : Option Value → gw_S → Prop} {x1 : Int32}   (h : gB d mX9_isDay [.int x1] σ (fun v σ1 => ∃ r2 : Int32, v = some (.int r2) ∧ (((r2 = 0) → (Q (some (.int (-2))) σ1)) ∧ ((¬ r2 = 0) → (gB d mX9_lostOf [.ref 1, .int x1] σ1 (fun v σ3 => ∃ r4 : Int32, v = some (.int r4) ∧ (Q (some (.int r4)) σ3))))))) : gB (d + 1) mX9_lost [.ref 1, .int x1] σ Q := by
  refine gB_of rfl (Nat.le_of_ble_eq_true rfl) (g_lw (lv2 := [some (.ref 1), some (.int x1)]) ⟨rfl, ⟨rfl, trivial⟩⟩ ?_)
  refine g_iload_n (pc2 := 1) dX9_lost_0 rfl rfl ?_
  refine g_callS (M2 := mX9_isDay) (as := [.int x1]) (st := []) (pc2 := 4) dX9_lost_1 ml_X9_163 msX9_isDay rfl rfl (Nat.le_of_ble_eq_true rfl) (Nat.le_refl _) rfl (h.mono ?_)
  rintro _ σ1 ⟨r2, rfl, h⟩
  show gG (d + 1) mX9_lost 4 _ [.int r2] σ1 Q
  refine g_if_eq (tgt := 15) (pc2 := 7) dX9_lost_4 (by decide) rfl (fun c => ?_) (fun c => ?_)
  · have h := h.1 c
    refine g_bipush (v := (-2)) (pc2 := 17) dX9_lost_15 (by decide) rfl ?_
    exact g_iret dX9_lost_17 rfl h
  · have h := h.2 c
    refine g_aload_n (pc2 := 8) dX9_lost_7 rfl rfl ?_
    refine g_iload_n (pc2 := 9) dX9_lost_8 rfl rfl ?_
    refine g_callV (M2 := mX9_lostOf) (as := [.int x1]) (st := []) (pc2 := 12) dX9_lost_9 ml_X9_267 mvX9_lostOf gk_1 rfl rfl rfl (Nat.le_of_ble_eq_true rfl) (Nat.le_refl _) rfl (h.mono ?_)
    rintro _ σ3 ⟨r4, rfl, h⟩
    show gG (d + 1) mX9_lost 12 _ [.int r4] σ3 Q
    refine g_goto (tgt := 17) dX9_lost_12 (by decide) ?_
    exact g_iret dX9_lost_17 rfl h
set_option maxRecDepth 20000 in
theorem eX9_lostOf {d : Nat} {σ : gw_S} {Q : Option Value → gw_S → Prop} {x1 : Int32}   (h : gB d mX9_runsTold [.ref 1, .int x1] σ (fun v σ1 => v = none ∧ (gG (d + 1) mX9_lostOf 12 [some (.ref 1), none, some (.int 0), some (.int 0), some (.int 0), none] [] σ1 Q))) : gB (d + 1) mX9_lostOf [.ref 1, .int x1] σ Q := by
  refine gB_of rfl (Nat.le_of_ble_eq_true rfl) (g_lw (lv2 := [some (.ref 1), some (.int x1), none, none, none, none]) ⟨rfl, ⟨rfl, trivial⟩⟩ ?_)
  refine g_aload_n (pc2 := 1) dX9_lostOf_0 rfl rfl ?_
  refine g_iload_n (pc2 := 2) dX9_lostOf_1 rfl rfl ?_
  refine g_callV (M2 := mX9_runsTold) (as := [.int x1]) (st := []) (pc2 := 5) dX9_lostOf_2 ml_X9_242 mvX9_runsTold gk_1 rfl rfl rfl (Nat.le_of_ble_eq_true rfl) (Nat.le_refl _) rfl (h.mono ?_)
  rintro _ σ1 ⟨rfl, h⟩
  show gG (d + 1) mX9_lostOf 5 _ [] σ1 Q
  refine g_iconst (v := 0) (pc2 := 6) dX9_lostOf_5 (by decide) rfl ?_
  refine g_istore_n (pc2 := 7) dX9_lostOf_6 (by decide) rfl rfl ?_
  refine g_iconst (v := 0) (pc2 := 8) dX9_lostOf_7 (by decide) rfl ?_
  refine g_istore_n (pc2 := 9) dX9_lostOf_8 (by decide) rfl rfl ?_
  refine g_iconst (v := 0) (pc2 := 10) dX9_lostOf_9 (by decide) rfl ?_
  refine g_istore (pc2 := 12) dX9_lostOf_10 (by decide) rfl rfl ?_
  exact g_lw (lv2 := [some (.ref 1), none, some (.int 0), some (.int 0), some (.int 0), none]) ⟨rfl, ⟨rfl, ⟨rfl, ⟨rfl, trivial⟩⟩⟩⟩ h
set_option maxRecDepth 20000 in
theorem bX9_lostOf_12 {d : Nat} {σ : gw_S} {Q : Option Value → gw_S → Prop} {x2 : Int32} {x3 : Int32} {x4 : Int32}   (h : (((σ 1 2) ≤ x4) → (Q (some (.int (x2 &&& (x3 ^^^ (-1))))) σ)) ∧ ((¬ (σ 1 2) ≤ x4) → (vp_in x4 9 ∧ (gG (d + 1) mX9_lostOf 36 [some (.ref 1), none, some (.int (x2 ||| ((1 : Int32) <<< ((σ 142 x4.toNatClampNeg) &&& 31)))), some (.int x3), some (.int x4), some (.int 0)] [] σ Q)))) : gG (d + 1) mX9_lostOf 12 [some (.ref 1), none, some (.int x2), some (.int x3), some (.int x4), none] [] σ Q := by
  refine g_iload (pc2 := 14) dX9_lostOf_12 rfl rfl ?_
  refine g_aload_n (pc2 := 15) dX9_lostOf_14 rfl rfl ?_
  refine g_geti (pc2 := 18) dX9_lostOf_15 fl_X9_128 gk_1 rfl rfl ?_
  refine g_icmp_ge (tgt := 82) (pc2 := 21) dX9_lostOf_18 (by decide) rfl (fun c => ?_) (fun c => ?_)
  · have h := h.1 c
    refine g_iload_n (pc2 := 83) dX9_lostOf_82 rfl rfl ?_
    refine g_iload_n (pc2 := 84) dX9_lostOf_83 rfl rfl ?_
    refine g_iconst (v := (-1)) (pc2 := 85) dX9_lostOf_84 (by decide) rfl ?_
    refine g_ixor (pc2 := 86) dX9_lostOf_85 rfl ?_
    refine g_iand (pc2 := 87) dX9_lostOf_86 rfl ?_
    exact g_iret dX9_lostOf_87 rfl h
  · have h := h.2 c
    refine g_iload_n (pc2 := 22) dX9_lostOf_21 rfl rfl ?_
    refine g_iconst (v := 1) (pc2 := 23) dX9_lostOf_22 (by decide) rfl ?_
    refine g_aload_n (pc2 := 24) dX9_lostOf_23 rfl rfl ?_
    refine g_geta (pc2 := 27) dX9_lostOf_24 fl_X9_16 gk_1 rfl rfl ?_
    refine g_iload (pc2 := 29) dX9_lostOf_27 rfl rfl ?_
    obtain ⟨hx, h⟩ := h
    refine g_iald (pc2 := 30) dX9_lostOf_29 gk_142 hx rfl ?_
    refine g_ishl (pc2 := 31) dX9_lostOf_30 rfl ?_
    refine g_ior (pc2 := 32) dX9_lostOf_31 rfl ?_
    refine g_istore_n (pc2 := 33) dX9_lostOf_32 (by decide) rfl rfl ?_
    refine g_iconst (v := 0) (pc2 := 34) dX9_lostOf_33 (by decide) rfl ?_
    refine g_istore (pc2 := 36) dX9_lostOf_34 (by decide) rfl rfl ?_
    exact g_lw (lv2 := [some (.ref 1), none, some (.int (x2 ||| ((1 : Int32) <<< ((σ 142 x4.toNatClampNeg) &&& 31)))), some (.int x3), some (.int x4), some (.int 0)]) ⟨rfl, ⟨rfl, ⟨rfl, ⟨rfl, ⟨rfl, trivial⟩⟩⟩⟩⟩ h
set_option maxRecDepth 20000 in
theorem bX9_lostOf_36 {d : Nat} {σ : gw_S} {Q : Option Value → gw_S → Prop} {x2 : Int32} {x3 : Int32} {x4 : Int32} {x5 : Int32}   (h : ((8 ≤ x5) → (gG (d + 1) mX9_lostOf 12 [some (.ref 1), none, some (.int x2), some (.int x3), some (.int (x4 + 1)), none] [] σ Q)) ∧ ((¬ 8 ≤ x5) → (vp_in ((8 * x4) + x5) 64 ∧ ((((σ 155 ((8 * x4) + x5).toNatClampNeg) ≤ 0) → (gG (d + 1) mX9_lostOf 36 [some (.ref 1), none, some (.int x2), some (.int (x3 ||| 0)), some (.int x4), some (.int (x5 + 1))] [] σ Q)) ∧ ((¬ (σ 155 ((8 * x4) + x5).toNatClampNeg) ≤ 0) → (gG (d + 1) mX9_lostOf 36 [some (.ref 1), none, some (.int x2), some (.int (x3 ||| ((1 : Int32) <<< (x5 &&& 31)))), some (.int x4), some (.int (x5 + 1))] [] σ Q)))))) : gG (d + 1) mX9_lostOf 36 [some (.ref 1), none, some (.int x2), some (.int x3), some (.int x4), some (.int x5)] [] σ Q := by
  refine g_iload (pc2 := 38) dX9_lostOf_36 rfl rfl ?_
  refine g_bipush (v := 8) (pc2 := 40) dX9_lostOf_38 (by decide) rfl ?_
  refine g_icmp_ge (tgt := 76) (pc2 := 43) dX9_lostOf_40 (by decide) rfl (fun c => ?_) (fun c => ?_)
  · have h := h.1 c
    refine g_iinc2 (c := 1) (pc2 := 79) dX9_lostOf_76 rfl (by decide) (by decide) rfl rfl ?_
    refine g_goto (tgt := 12) dX9_lostOf_79 (by decide) ?_
    exact g_lw (lv2 := [some (.ref 1), none, some (.int x2), some (.int x3), some (.int (x4 + 1)), none]) ⟨rfl, ⟨rfl, ⟨rfl, ⟨rfl, trivial⟩⟩⟩⟩ h
  · have h := h.2 c
    refine g_iload_n (pc2 := 44) dX9_lostOf_43 rfl rfl ?_
    refine g_aload_n (pc2 := 45) dX9_lostOf_44 rfl rfl ?_
    refine g_geta (pc2 := 48) dX9_lostOf_45 fl_X9_55 gk_1 rfl rfl ?_
    refine g_bipush (v := 8) (pc2 := 50) dX9_lostOf_48 (by decide) rfl ?_
    refine g_iload (pc2 := 52) dX9_lostOf_50 rfl rfl ?_
    refine g_imul (pc2 := 53) dX9_lostOf_52 rfl ?_
    refine g_iload (pc2 := 55) dX9_lostOf_53 rfl rfl ?_
    refine g_iadd (pc2 := 56) dX9_lostOf_55 rfl ?_
    obtain ⟨hx, h⟩ := h
    refine g_iald (pc2 := 57) dX9_lostOf_56 gk_155 hx rfl ?_
    refine g_if_le (tgt := 67) (pc2 := 60) dX9_lostOf_57 (by decide) rfl (fun c => ?_) (fun c => ?_)
    · have h := h.1 c
      refine g_iconst (v := 0) (pc2 := 68) dX9_lostOf_67 (by decide) rfl ?_
      refine g_ior (pc2 := 69) dX9_lostOf_68 rfl ?_
      refine g_istore_n (pc2 := 70) dX9_lostOf_69 (by decide) rfl rfl ?_
      refine g_iinc2 (c := 1) (pc2 := 73) dX9_lostOf_70 rfl (by decide) (by decide) rfl rfl ?_
      refine g_goto (tgt := 36) dX9_lostOf_73 (by decide) ?_
      exact g_lw (lv2 := [some (.ref 1), none, some (.int x2), some (.int (x3 ||| 0)), some (.int x4), some (.int (x5 + 1))]) ⟨rfl, ⟨rfl, ⟨rfl, ⟨rfl, ⟨rfl, trivial⟩⟩⟩⟩⟩ h
    · have h := h.2 c
      refine g_iconst (v := 1) (pc2 := 61) dX9_lostOf_60 (by decide) rfl ?_
      refine g_iload (pc2 := 63) dX9_lostOf_61 rfl rfl ?_
      refine g_ishl (pc2 := 64) dX9_lostOf_63 rfl ?_
      refine g_goto (tgt := 68) dX9_lostOf_64 (by decide) ?_
      refine g_ior (pc2 := 69) dX9_lostOf_68 rfl ?_
      refine g_istore_n (pc2 := 70) dX9_lostOf_69 (by decide) rfl rfl ?_
      refine g_iinc2 (c := 1) (pc2 := 73) dX9_lostOf_70 rfl (by decide) (by decide) rfl rfl ?_
      refine g_goto (tgt := 36) dX9_lostOf_73 (by decide) ?_
      exact g_lw (lv2 := [some (.ref 1), none, some (.int x2), some (.int (x3 ||| ((1 : Int32) <<< (x5 &&& 31)))), some (.int x4), some (.int (x5 + 1))]) ⟨rfl, ⟨rfl, ⟨rfl, ⟨rfl, ⟨rfl, trivial⟩⟩⟩⟩⟩ h
set_option maxRecDepth 20000 in
theorem eX9_lowest {d : Nat} {σ : gw_S} {Q : Option Value → gw_S → Prop} {x0 : Int64} {x2 : Int64} {x4 : Int32}   (h : gG d mX9_lowest 6 [some (.long x0), none, some (.long x2), none, some (.int x4), some (.long x0), none, some (.long x2), none, none, none] [] σ Q) : gB d mX9_lowest [.long x0, .long x2, .int x4] σ Q := by
  refine gB_of rfl (Nat.le_of_ble_eq_true rfl) (g_lw (lv2 := [some (.long x0), none, some (.long x2), none, some (.int x4), none, none, none, none, none, none]) ⟨rfl, ⟨rfl, ⟨rfl, trivial⟩⟩⟩ ?_)
  refine g_lload_n (pc2 := 1) dX9_lowest_0 rfl rfl ?_
  refine g_lstore (pc2 := 3) dX9_lowest_1 (by decide) rfl rfl ?_
  refine g_lload_n (pc2 := 4) dX9_lowest_3 rfl rfl ?_
  refine g_lstore (pc2 := 6) dX9_lowest_4 (by decide) rfl rfl ?_
  exact g_lw (lv2 := [some (.long x0), none, some (.long x2), none, some (.int x4), some (.long x0), none, some (.long x2), none, none, none]) ⟨rfl, ⟨rfl, ⟨rfl, ⟨rfl, ⟨rfl, trivial⟩⟩⟩⟩⟩ h
set_option maxRecDepth 20000 in
theorem bX9_lowest_6 {d : Nat} {σ : gw_S} {Q : Option Value → gw_S → Prop} {x0 : Int64} {x2 : Int64} {x4 : Int32} {x5 : Int64} {x7 : Int64}   (h : (((lg_cmp x7 0) = 0) → (((¬ x4 = 0) → (¬ x5 = 0 ∧ (Q (some (.long (x2 / x5))) σ))) ∧ ((x4 = 0) → (¬ x5 = 0 ∧ (Q (some (.long (x0 / x5))) σ))))) ∧ ((¬ (lg_cmp x7 0) = 0) → (¬ x7 = 0 ∧ (gG d mX9_lowest 6 [some (.long x0), none, some (.long x2), none, some (.int x4), some (.long x7), none, some (.long (gw_lrem x5 x7)), none, none, none] [] σ Q)))) : gG d mX9_lowest 6 [some (.long x0), none, some (.long x2), none, some (.int x4), some (.long x5), none, some (.long x7), none, none, none] [] σ Q := by
  refine g_lload (pc2 := 8) dX9_lowest_6 rfl rfl ?_
  refine g_lconst (v := 0) (pc2 := 9) dX9_lowest_8 (by decide) rfl ?_
  refine g_lcmp (pc2 := 10) dX9_lowest_9 rfl ?_
  refine g_if_eq (tgt := 31) (pc2 := 13) dX9_lowest_10 (by decide) rfl (fun c => ?_) (fun c => ?_)
  · have h := h.1 c
    refine g_iload (pc2 := 33) dX9_lowest_31 rfl rfl ?_
    refine g_if_ne (tgt := 43) (pc2 := 36) dX9_lowest_33 (by decide) rfl (fun c => ?_) (fun c => ?_)
    · have h := h.1 c
      refine g_lload_n (pc2 := 44) dX9_lowest_43 rfl rfl ?_
      refine g_lload (pc2 := 46) dX9_lowest_44 rfl rfl ?_
      obtain ⟨hx, h⟩ := h
      refine g_ldiv (pc2 := 47) dX9_lowest_46 hx rfl ?_
      exact g_lret dX9_lowest_47 rfl h
    · have h := h.2 c
      refine g_lload_n (pc2 := 37) dX9_lowest_36 rfl rfl ?_
      refine g_lload (pc2 := 39) dX9_lowest_37 rfl rfl ?_
      obtain ⟨hx, h⟩ := h
      refine g_ldiv (pc2 := 40) dX9_lowest_39 hx rfl ?_
      refine g_goto (tgt := 47) dX9_lowest_40 (by decide) ?_
      exact g_lret dX9_lowest_47 rfl h
  · have h := h.2 c
    refine g_lload (pc2 := 15) dX9_lowest_13 rfl rfl ?_
    refine g_lload (pc2 := 17) dX9_lowest_15 rfl rfl ?_
    obtain ⟨hx, h⟩ := h
    refine g_lrem (pc2 := 18) dX9_lowest_17 hx rfl ?_
    refine g_lstore (pc2 := 20) dX9_lowest_18 (by decide) rfl rfl ?_
    refine g_lload (pc2 := 22) dX9_lowest_20 rfl rfl ?_
    refine g_lstore (pc2 := 24) dX9_lowest_22 (by decide) rfl rfl ?_
    refine g_lload (pc2 := 26) dX9_lowest_24 rfl rfl ?_
    refine g_lstore (pc2 := 28) dX9_lowest_26 (by decide) rfl rfl ?_
    refine g_goto (tgt := 6) dX9_lowest_28 (by decide) ?_
    exact g_lw (lv2 := [some (.long x0), none, some (.long x2), none, some (.int x4), some (.long x7), none, some (.long (gw_lrem x5 x7)), none, none, none]) ⟨rfl, ⟨rfl, ⟨rfl, ⟨rfl, ⟨rfl, trivial⟩⟩⟩⟩⟩ h
set_option maxRecDepth 20000 in
theorem eX9_market {d : Nat} {σ : gw_S} {Q : Option Value → gw_S → Prop} {x1 : Int32} {x2 : Int32} {x3 : Int32}   (h : gB d mX9_isDay [.int x2] σ (fun v σ1 => ∃ r2 : Int32, v = some (.int r2) ∧ (((r2 = 0) → (Q (some (.int (-2))) σ1)) ∧ ((¬ r2 = 0) → (((x3 = (-1)) → (gB d mX9_marketOf [.ref 1, .int x1, .int x2, .int x3] σ1 (fun v σ3 => ∃ r4 : Int32, v = some (.int r4) ∧ (Q (some (.int r4)) σ3)))) ∧ ((¬ x3 = (-1)) → (gB d mX9_isBottle [.ref 1, .int x3] σ1 (fun v σ5 => ∃ r6 : Int32, v = some (.int r6) ∧ (((r6 = 0) → (Q (some (.int (-2))) σ5)) ∧ ((¬ r6 = 0) → (gB d mX9_marketOf [.ref 1, .int x1, .int x2, .int x3] σ5 (fun v σ7 => ∃ r8 : Int32, v = some (.int r8) ∧ (Q (some (.int r8)) σ7))))))))))))) : gB (d + 1) mX9_market [.ref 1, .int x1, .int x2, .int x3] σ Q := by
  refine gB_of rfl (Nat.le_of_ble_eq_true rfl) (g_lw (lv2 := [some (.ref 1), some (.int x1), some (.int x2), some (.int x3)]) ⟨rfl, ⟨rfl, ⟨rfl, ⟨rfl, trivial⟩⟩⟩⟩ ?_)
  refine g_iload_n (pc2 := 1) dX9_market_0 rfl rfl ?_
  refine g_callS (M2 := mX9_isDay) (as := [.int x2]) (st := []) (pc2 := 4) dX9_market_1 ml_X9_163 msX9_isDay rfl rfl (Nat.le_of_ble_eq_true rfl) (Nat.le_refl _) rfl (h.mono ?_)
  rintro _ σ1 ⟨r2, rfl, h⟩
  show gG (d + 1) mX9_market 4 _ [.int r2] σ1 Q
  refine g_if_eq (tgt := 30) (pc2 := 7) dX9_market_4 (by decide) rfl (fun c => ?_) (fun c => ?_)
  · have h := h.1 c
    refine g_bipush (v := (-2)) (pc2 := 32) dX9_market_30 (by decide) rfl ?_
    exact g_iret dX9_market_32 rfl h
  · have h := h.2 c
    refine g_iload_n (pc2 := 8) dX9_market_7 rfl rfl ?_
    refine g_iconst (v := (-1)) (pc2 := 9) dX9_market_8 (by decide) rfl ?_
    refine g_icmp_eq (tgt := 20) (pc2 := 12) dX9_market_9 (by decide) rfl (fun c => ?_) (fun c => ?_)
    · have h := h.1 c
      refine g_aload_n (pc2 := 21) dX9_market_20 rfl rfl ?_
      refine g_iload_n (pc2 := 22) dX9_market_21 rfl rfl ?_
      refine g_iload_n (pc2 := 23) dX9_market_22 rfl rfl ?_
      refine g_iload_n (pc2 := 24) dX9_market_23 rfl rfl ?_
      refine g_callV (M2 := mX9_marketOf) (as := [.int x1, .int x2, .int x3]) (st := []) (pc2 := 27) dX9_market_24 ml_X9_328 mvX9_marketOf gk_1 rfl rfl rfl (Nat.le_of_ble_eq_true rfl) (Nat.le_refl _) rfl (h.mono ?_)
      rintro _ σ3 ⟨r4, rfl, h⟩
      show gG (d + 1) mX9_market 27 _ [.int r4] σ3 Q
      refine g_goto (tgt := 32) dX9_market_27 (by decide) ?_
      exact g_iret dX9_market_32 rfl h
    · have h := h.2 c
      refine g_aload_n (pc2 := 13) dX9_market_12 rfl rfl ?_
      refine g_iload_n (pc2 := 14) dX9_market_13 rfl rfl ?_
      refine g_callV (M2 := mX9_isBottle) (as := [.int x3]) (st := []) (pc2 := 17) dX9_market_14 ml_X9_151 mvX9_isBottle gk_1 rfl rfl rfl (Nat.le_of_ble_eq_true rfl) (Nat.le_refl _) rfl (h.mono ?_)
      rintro _ σ5 ⟨r6, rfl, h⟩
      show gG (d + 1) mX9_market 17 _ [.int r6] σ5 Q
      refine g_if_eq (tgt := 30) (pc2 := 20) dX9_market_17 (by decide) rfl (fun c => ?_) (fun c => ?_)
      · have h := h.1 c
        refine g_bipush (v := (-2)) (pc2 := 32) dX9_market_30 (by decide) rfl ?_
        exact g_iret dX9_market_32 rfl h
      · have h := h.2 c
        refine g_aload_n (pc2 := 21) dX9_market_20 rfl rfl ?_
        refine g_iload_n (pc2 := 22) dX9_market_21 rfl rfl ?_
        refine g_iload_n (pc2 := 23) dX9_market_22 rfl rfl ?_
        refine g_iload_n (pc2 := 24) dX9_market_23 rfl rfl ?_
        refine g_callV (M2 := mX9_marketOf) (as := [.int x1, .int x2, .int x3]) (st := []) (pc2 := 27) dX9_market_24 ml_X9_328 mvX9_marketOf gk_1 rfl rfl rfl (Nat.le_of_ble_eq_true rfl) (Nat.le_refl _) rfl (h.mono ?_)
        rintro _ σ7 ⟨r8, rfl, h⟩
        show gG (d + 1) mX9_market 27 _ [.int r8] σ7 Q
        refine g_goto (tgt := 32) dX9_market_27 (by decide) ?_
        exact g_iret dX9_market_32 rfl h
set_option maxRecDepth 20000 in
theorem eX9_marketOf {d : Nat} {σ : gw_S} {Q : Option Value → gw_S → Prop} {x1 : Int32} {x2 : Int32} {x3 : Int32}   (h : gB d mX9_asTold [.ref 1] σ (fun v σ1 => v = none ∧ (gG (d + 1) mX9_marketOf 10 [some (.ref 1), none, some (.int x2), some (.int x3), some (.int x1), some (.int 0)] [] σ1 Q))) : gB (d + 1) mX9_marketOf [.ref 1, .int x1, .int x2, .int x3] σ Q := by
  refine gB_of rfl (Nat.le_of_ble_eq_true rfl) (g_lw (lv2 := [some (.ref 1), some (.int x1), some (.int x2), some (.int x3), none, none]) ⟨rfl, ⟨rfl, ⟨rfl, ⟨rfl, trivial⟩⟩⟩⟩ ?_)
  refine g_aload_n (pc2 := 1) dX9_marketOf_0 rfl rfl ?_
  refine g_callV (M2 := mX9_asTold) (as := []) (st := []) (pc2 := 4) dX9_marketOf_1 ml_X9_236 mvX9_asTold gk_1 rfl rfl rfl (Nat.le_of_ble_eq_true rfl) (Nat.le_refl _) rfl (h.mono ?_)
  rintro _ σ1 ⟨rfl, h⟩
  show gG (d + 1) mX9_marketOf 4 _ [] σ1 Q
  refine g_iload_n (pc2 := 5) dX9_marketOf_4 rfl rfl ?_
  refine g_istore (pc2 := 7) dX9_marketOf_5 (by decide) rfl rfl ?_
  refine g_iconst (v := 0) (pc2 := 8) dX9_marketOf_7 (by decide) rfl ?_
  refine g_istore (pc2 := 10) dX9_marketOf_8 (by decide) rfl rfl ?_
  exact g_lw (lv2 := [some (.ref 1), none, some (.int x2), some (.int x3), some (.int x1), some (.int 0)]) ⟨rfl, ⟨rfl, ⟨rfl, ⟨rfl, ⟨rfl, trivial⟩⟩⟩⟩⟩ h
set_option maxRecDepth 20000 in
theorem bX9_marketOf_10 {d : Nat} {σ : gw_S} {Q : Option Value → gw_S → Prop} {x2 : Int32} {x3 : Int32} {x4 : Int32} {x5 : Int32}   (h : ((x2 < x5) → (gB d mX9_runs [.ref 1, .int x2] σ (fun v σ2 => v = none ∧ (((¬ x3 = (-1)) → (vp_in x3 8 ∧ (Q (some (.int (σ2 156 x3.toNatClampNeg))) σ2))) ∧ ((x3 = (-1)) → (Q (some (.int (σ2 1 31))) σ2)))))) ∧ ((¬ x2 < x5) → ((((σ 1 2) ≤ 0) → (gB d mX9_runs [.ref 1, .int x2] σ (fun v σ3 => v = none ∧ (((¬ x3 = (-1)) → (vp_in x3 8 ∧ (Q (some (.int (σ3 156 x3.toNatClampNeg))) σ3))) ∧ ((x3 = (-1)) → (Q (some (.int (σ3 1 31))) σ3)))))) ∧ ((¬ (σ 1 2) ≤ 0) → (¬ (σ 1 2) = 0 ∧ (vp_in x5 40 ∧ (∀ s4 : gw_S, s4 = gw_u σ 153 x5.toNatClampNeg (gw_rem (gw_ushr ((1103515245 * x4) + 12345) 16) (σ 1 2)) → (vp_in x5 40 ∧ (∀ s5 : gw_S, s5 = gw_u s4 154 x5.toNatClampNeg (gw_rem (gw_ushr ((1103515245 * ((1103515245 * x4) + 12345)) + 12345) 16) 6) → (∀ s6 : gw_S, s6 = gw_u s5 1 19 ((s5 1 19) + 1) → (gG (d + 1) mX9_marketOf 10 [some (.ref 1), none, some (.int x2), some (.int x3), some (.int ((1103515245 * ((1103515245 * x4) + 12345)) + 12345)), some (.int (x5 + 1))] [] s6 Q))))))))))) : gG (d + 1) mX9_marketOf 10 [some (.ref 1), none, some (.int x2), some (.int x3), some (.int x4), some (.int x5)] [] σ Q := by
  refine g_iload (pc2 := 12) dX9_marketOf_10 rfl rfl ?_
  refine g_iload_n (pc2 := 13) dX9_marketOf_12 rfl rfl ?_
  refine g_icmp_gt (tgt := 95) (pc2 := 16) dX9_marketOf_13 (by decide) rfl (fun c => ?_) (fun c => ?_)
  · have h := h.1 c
    refine g_aload_n (pc2 := 96) dX9_marketOf_95 rfl rfl ?_
    refine g_iload_n (pc2 := 97) dX9_marketOf_96 rfl rfl ?_
    refine g_callV (M2 := mX9_runs) (as := [.int x2]) (st := []) (pc2 := 100) dX9_marketOf_97 ml_X9_239 mvX9_runs gk_1 rfl rfl rfl (Nat.le_of_ble_eq_true rfl) (Nat.le_refl _) rfl (h.mono ?_)
    rintro _ σ2 ⟨rfl, h⟩
    show gG (d + 1) mX9_marketOf 100 _ [] σ2 Q
    refine g_iload_n (pc2 := 101) dX9_marketOf_100 rfl rfl ?_
    refine g_iconst (v := (-1)) (pc2 := 102) dX9_marketOf_101 (by decide) rfl ?_
    refine g_icmp_ne (tgt := 112) (pc2 := 105) dX9_marketOf_102 (by decide) rfl (fun c => ?_) (fun c => ?_)
    · have h := h.1 c
      refine g_aload_n (pc2 := 113) dX9_marketOf_112 rfl rfl ?_
      refine g_geta (pc2 := 116) dX9_marketOf_113 fl_X9_58 gk_1 rfl rfl ?_
      refine g_iload_n (pc2 := 117) dX9_marketOf_116 rfl rfl ?_
      obtain ⟨hx, h⟩ := h
      refine g_iald (pc2 := 118) dX9_marketOf_117 gk_156 hx rfl ?_
      exact g_iret dX9_marketOf_118 rfl h
    · have h := h.2 c
      refine g_aload_n (pc2 := 106) dX9_marketOf_105 rfl rfl ?_
      refine g_geti (pc2 := 109) dX9_marketOf_106 fl_X9_200 gk_1 rfl rfl ?_
      refine g_goto (tgt := 118) dX9_marketOf_109 (by decide) ?_
      exact g_iret dX9_marketOf_118 rfl h
  · have h := h.2 c
    refine g_aload_n (pc2 := 17) dX9_marketOf_16 rfl rfl ?_
    refine g_geti (pc2 := 20) dX9_marketOf_17 fl_X9_128 gk_1 rfl rfl ?_
    refine g_if_le (tgt := 95) (pc2 := 23) dX9_marketOf_20 (by decide) rfl (fun c => ?_) (fun c => ?_)
    · have h := h.1 c
      refine g_aload_n (pc2 := 96) dX9_marketOf_95 rfl rfl ?_
      refine g_iload_n (pc2 := 97) dX9_marketOf_96 rfl rfl ?_
      refine g_callV (M2 := mX9_runs) (as := [.int x2]) (st := []) (pc2 := 100) dX9_marketOf_97 ml_X9_239 mvX9_runs gk_1 rfl rfl rfl (Nat.le_of_ble_eq_true rfl) (Nat.le_refl _) rfl (h.mono ?_)
      rintro _ σ3 ⟨rfl, h⟩
      show gG (d + 1) mX9_marketOf 100 _ [] σ3 Q
      refine g_iload_n (pc2 := 101) dX9_marketOf_100 rfl rfl ?_
      refine g_iconst (v := (-1)) (pc2 := 102) dX9_marketOf_101 (by decide) rfl ?_
      refine g_icmp_ne (tgt := 112) (pc2 := 105) dX9_marketOf_102 (by decide) rfl (fun c => ?_) (fun c => ?_)
      · have h := h.1 c
        refine g_aload_n (pc2 := 113) dX9_marketOf_112 rfl rfl ?_
        refine g_geta (pc2 := 116) dX9_marketOf_113 fl_X9_58 gk_1 rfl rfl ?_
        refine g_iload_n (pc2 := 117) dX9_marketOf_116 rfl rfl ?_
        obtain ⟨hx, h⟩ := h
        refine g_iald (pc2 := 118) dX9_marketOf_117 gk_156 hx rfl ?_
        exact g_iret dX9_marketOf_118 rfl h
      · have h := h.2 c
        refine g_aload_n (pc2 := 106) dX9_marketOf_105 rfl rfl ?_
        refine g_geti (pc2 := 109) dX9_marketOf_106 fl_X9_200 gk_1 rfl rfl ?_
        refine g_goto (tgt := 118) dX9_marketOf_109 (by decide) ?_
        exact g_iret dX9_marketOf_118 rfl h
    · have h := h.2 c
      refine g_ldcw (pc2 := 26) dX9_marketOf_23 co_X9_327 rfl ?_
      refine g_iload (pc2 := 28) dX9_marketOf_26 rfl rfl ?_
      refine g_imul (pc2 := 29) dX9_marketOf_28 rfl ?_
      refine g_sipush (v := 12345) (pc2 := 32) dX9_marketOf_29 (by decide) rfl ?_
      refine g_iadd (pc2 := 33) dX9_marketOf_32 rfl ?_
      refine g_istore (pc2 := 35) dX9_marketOf_33 (by decide) rfl rfl ?_
      refine g_aload_n (pc2 := 36) dX9_marketOf_35 rfl rfl ?_
      refine g_geta (pc2 := 39) dX9_marketOf_36 fl_X9_49 gk_1 rfl rfl ?_
      refine g_iload (pc2 := 41) dX9_marketOf_39 rfl rfl ?_
      refine g_iload (pc2 := 43) dX9_marketOf_41 rfl rfl ?_
      refine g_bipush (v := 16) (pc2 := 45) dX9_marketOf_43 (by decide) rfl ?_
      refine g_iushr (pc2 := 46) dX9_marketOf_45 rfl ?_
      refine g_aload_n (pc2 := 47) dX9_marketOf_46 rfl rfl ?_
      refine g_geti (pc2 := 50) dX9_marketOf_47 fl_X9_128 gk_1 rfl rfl ?_
      obtain ⟨hx, h⟩ := h
      refine g_irem (pc2 := 51) dX9_marketOf_50 hx rfl ?_
      obtain ⟨hx, h⟩ := h
      refine g_iast2 (pc2 := 52) dX9_marketOf_51 gk_153 hx rfl (fun s4 es4 => ?_)
      replace h := h s4 es4
      refine g_ldcw (pc2 := 55) dX9_marketOf_52 co_X9_327 rfl ?_
      refine g_iload (pc2 := 57) dX9_marketOf_55 rfl rfl ?_
      refine g_imul (pc2 := 58) dX9_marketOf_57 rfl ?_
      refine g_sipush (v := 12345) (pc2 := 61) dX9_marketOf_58 (by decide) rfl ?_
      refine g_iadd (pc2 := 62) dX9_marketOf_61 rfl ?_
      refine g_istore (pc2 := 64) dX9_marketOf_62 (by decide) rfl rfl ?_
      refine g_aload_n (pc2 := 65) dX9_marketOf_64 rfl rfl ?_
      refine g_geta (pc2 := 68) dX9_marketOf_65 fl_X9_52 gk_1 rfl rfl ?_
      refine g_iload (pc2 := 70) dX9_marketOf_68 rfl rfl ?_
      refine g_iload (pc2 := 72) dX9_marketOf_70 rfl rfl ?_
      refine g_bipush (v := 16) (pc2 := 74) dX9_marketOf_72 (by decide) rfl ?_
      refine g_iushr (pc2 := 75) dX9_marketOf_74 rfl ?_
      refine g_bipush (v := 6) (pc2 := 77) dX9_marketOf_75 (by decide) rfl ?_
      refine g_irem (pc2 := 78) dX9_marketOf_77 (by decide) rfl ?_
      obtain ⟨hx, h⟩ := h
      refine g_iast2 (pc2 := 79) dX9_marketOf_78 gk_154 hx rfl (fun s5 es5 => ?_)
      replace h := h s5 es5
      refine g_aload_n (pc2 := 80) dX9_marketOf_79 rfl rfl ?_
      refine g_dup (pc2 := 81) dX9_marketOf_80 rfl rfl ?_
      refine g_geti (pc2 := 84) dX9_marketOf_81 fl_X9_194 gk_1 rfl rfl ?_
      refine g_iconst (v := 1) (pc2 := 85) dX9_marketOf_84 (by decide) rfl ?_
      refine g_iadd (pc2 := 86) dX9_marketOf_85 rfl ?_
      refine g_put2 (pc2 := 89) dX9_marketOf_86 fp_X9_194 gk_1 rfl rfl rfl rfl (fun s6 es6 => ?_)
      replace h := h s6 es6
      refine g_iinc2 (c := 1) (pc2 := 92) dX9_marketOf_89 rfl (by decide) (by decide) rfl rfl ?_
      refine g_goto (tgt := 10) dX9_marketOf_92 (by decide) ?_
      exact g_lw (lv2 := [some (.ref 1), none, some (.int x2), some (.int x3), some (.int ((1103515245 * ((1103515245 * x4) + 12345)) + 12345)), some (.int (x5 + 1))]) ⟨rfl, ⟨rfl, ⟨rfl, ⟨rfl, ⟨rfl, trivial⟩⟩⟩⟩⟩ h
set_option maxRecDepth 20000 in
theorem eX9_meets {d : Nat} {σ : gw_S} {Q : Option Value → gw_S → Prop} {x1 : Int32}   (h : ∀ s1 : gw_S, s1 = gw_u σ 1 46 x1 → (Q (some (.int ((-10) - x1))) s1)) : gB d mX9_meets [.ref 1, .int x1] σ Q := by
  refine gB_of rfl (Nat.le_of_ble_eq_true rfl) (g_lw (lv2 := [some (.ref 1), some (.int x1)]) ⟨rfl, ⟨rfl, trivial⟩⟩ ?_)
  refine g_aload_n (pc2 := 1) dX9_meets_0 rfl rfl ?_
  refine g_iload_n (pc2 := 2) dX9_meets_1 rfl rfl ?_
  refine g_put2 (pc2 := 5) dX9_meets_2 fp_X9_331 gk_1 rfl rfl rfl rfl (fun s1 es1 => ?_)
  replace h := h s1 es1
  refine g_bipush (v := (-10)) (pc2 := 7) dX9_meets_5 (by decide) rfl ?_
  refine g_iload_n (pc2 := 8) dX9_meets_7 rfl rfl ?_
  refine g_isub (pc2 := 9) dX9_meets_8 rfl ?_
  exact g_iret dX9_meets_9 rfl h
set_option maxRecDepth 20000 in
theorem eX9_most {d : Nat} {σ : gw_S} {Q : Option Value → gw_S → Prop} {x1 : Int32} {x2 : Int32}   (h : gB d mX9_isDay [.int x1] σ (fun v σ1 => ∃ r2 : Int32, v = some (.int r2) ∧ (((r2 = 0) → (Q (some (.int (-2))) σ1)) ∧ ((¬ r2 = 0) → (gB d mX9_isEight [.int x2] σ1 (fun v σ3 => ∃ r4 : Int32, v = some (.int r4) ∧ (((r4 = 0) → (Q (some (.int (-2))) σ3)) ∧ ((¬ r4 = 0) → (gB d mX9_mostOf [.ref 1, .int x1, .int x2] σ3 (fun v σ5 => ∃ r6 : Int32, v = some (.int r6) ∧ (Q (some (.int r6)) σ5))))))))))) : gB (d + 1) mX9_most [.ref 1, .int x1, .int x2] σ Q := by
  refine gB_of rfl (Nat.le_of_ble_eq_true rfl) (g_lw (lv2 := [some (.ref 1), some (.int x1), some (.int x2)]) ⟨rfl, ⟨rfl, ⟨rfl, trivial⟩⟩⟩ ?_)
  refine g_iload_n (pc2 := 1) dX9_most_0 rfl rfl ?_
  refine g_callS (M2 := mX9_isDay) (as := [.int x1]) (st := []) (pc2 := 4) dX9_most_1 ml_X9_163 msX9_isDay rfl rfl (Nat.le_of_ble_eq_true rfl) (Nat.le_refl _) rfl (h.mono ?_)
  rintro _ σ1 ⟨r2, rfl, h⟩
  show gG (d + 1) mX9_most 4 _ [.int r2] σ1 Q
  refine g_if_eq (tgt := 23) (pc2 := 7) dX9_most_4 (by decide) rfl (fun c => ?_) (fun c => ?_)
  · have h := h.1 c
    refine g_bipush (v := (-2)) (pc2 := 25) dX9_most_23 (by decide) rfl ?_
    exact g_iret dX9_most_25 rfl h
  · have h := h.2 c
    refine g_iload_n (pc2 := 8) dX9_most_7 rfl rfl ?_
    refine g_callS (M2 := mX9_isEight) (as := [.int x2]) (st := []) (pc2 := 11) dX9_most_8 ml_X9_157 msX9_isEight rfl rfl (Nat.le_of_ble_eq_true rfl) (Nat.le_refl _) rfl (h.mono ?_)
    rintro _ σ3 ⟨r4, rfl, h⟩
    show gG (d + 1) mX9_most 11 _ [.int r4] σ3 Q
    refine g_if_eq (tgt := 23) (pc2 := 14) dX9_most_11 (by decide) rfl (fun c => ?_) (fun c => ?_)
    · have h := h.1 c
      refine g_bipush (v := (-2)) (pc2 := 25) dX9_most_23 (by decide) rfl ?_
      exact g_iret dX9_most_25 rfl h
    · have h := h.2 c
      refine g_aload_n (pc2 := 15) dX9_most_14 rfl rfl ?_
      refine g_iload_n (pc2 := 16) dX9_most_15 rfl rfl ?_
      refine g_iload_n (pc2 := 17) dX9_most_16 rfl rfl ?_
      refine g_callV (M2 := mX9_mostOf) (as := [.int x1, .int x2]) (st := []) (pc2 := 20) dX9_most_17 ml_X9_296 mvX9_mostOf gk_1 rfl rfl rfl (Nat.le_of_ble_eq_true rfl) (Nat.le_refl _) rfl (h.mono ?_)
      rintro _ σ5 ⟨r6, rfl, h⟩
      show gG (d + 1) mX9_most 20 _ [.int r6] σ5 Q
      refine g_goto (tgt := 25) dX9_most_20 (by decide) ?_
      exact g_iret dX9_most_25 rfl h
set_option maxRecDepth 20000 in
theorem eX9_mostOf {d : Nat} {σ : gw_S} {Q : Option Value → gw_S → Prop} {x1 : Int32} {x2 : Int32}   (h : gB d mX9_runsTold [.ref 1, .int x1] σ (fun v σ1 => v = none ∧ (gG (d + 1) mX9_mostOf 10 [some (.ref 1), none, some (.int x2), some (.int (-1)), some (.int 0), none] [] σ1 Q))) : gB (d + 1) mX9_mostOf [.ref 1, .int x1, .int x2] σ Q := by
  refine gB_of rfl (Nat.le_of_ble_eq_true rfl) (g_lw (lv2 := [some (.ref 1), some (.int x1), some (.int x2), none, none, none]) ⟨rfl, ⟨rfl, ⟨rfl, trivial⟩⟩⟩ ?_)
  refine g_aload_n (pc2 := 1) dX9_mostOf_0 rfl rfl ?_
  refine g_iload_n (pc2 := 2) dX9_mostOf_1 rfl rfl ?_
  refine g_callV (M2 := mX9_runsTold) (as := [.int x1]) (st := []) (pc2 := 5) dX9_mostOf_2 ml_X9_242 mvX9_runsTold gk_1 rfl rfl rfl (Nat.le_of_ble_eq_true rfl) (Nat.le_refl _) rfl (h.mono ?_)
  rintro _ σ1 ⟨rfl, h⟩
  show gG (d + 1) mX9_mostOf 5 _ [] σ1 Q
  refine g_iconst (v := (-1)) (pc2 := 6) dX9_mostOf_5 (by decide) rfl ?_
  refine g_istore_n (pc2 := 7) dX9_mostOf_6 (by decide) rfl rfl ?_
  refine g_iconst (v := 0) (pc2 := 8) dX9_mostOf_7 (by decide) rfl ?_
  refine g_istore (pc2 := 10) dX9_mostOf_8 (by decide) rfl rfl ?_
  exact g_lw (lv2 := [some (.ref 1), none, some (.int x2), some (.int (-1)), some (.int 0), none]) ⟨rfl, ⟨rfl, ⟨rfl, ⟨rfl, trivial⟩⟩⟩⟩ h
set_option maxRecDepth 20000 in
theorem bX9_mostOf_10 {d : Nat} {σ : gw_S} {Q : Option Value → gw_S → Prop} {x2 : Int32} {x3 : Int32} {x4 : Int32}   (h : (((σ 1 2) ≤ x4) → (Q (some (.int x3)) σ)) ∧ ((¬ (σ 1 2) ≤ x4) → (vp_in ((8 * x4) + x2) 64 ∧ ((((σ 155 ((8 * x4) + x2).toNatClampNeg) ≤ 0) → (gG (d + 1) mX9_mostOf 10 [some (.ref 1), none, some (.int x2), some (.int x3), some (.int (x4 + 1)), none] [] σ Q)) ∧ ((¬ (σ 155 ((8 * x4) + x2).toNatClampNeg) ≤ 0) → (((x3 = (-1)) → (gG (d + 1) mX9_mostOf 10 [some (.ref 1), none, some (.int x2), some (.int x4), some (.int (x4 + 1)), none] [] σ Q)) ∧ ((¬ x3 = (-1)) → (vp_in ((8 * x3) + x2) 64 ∧ ((((σ 155 ((8 * x4) + x2).toNatClampNeg) ≤ (σ 155 ((8 * x3) + x2).toNatClampNeg)) → (gG (d + 1) mX9_mostOf 10 [some (.ref 1), none, some (.int x2), some (.int x3), some (.int (x4 + 1)), none] [] σ Q)) ∧ ((¬ (σ 155 ((8 * x4) + x2).toNatClampNeg) ≤ (σ 155 ((8 * x3) + x2).toNatClampNeg)) → (gG (d + 1) mX9_mostOf 10 [some (.ref 1), none, some (.int x2), some (.int x4), some (.int (x4 + 1)), none] [] σ Q))))))))))) : gG (d + 1) mX9_mostOf 10 [some (.ref 1), none, some (.int x2), some (.int x3), some (.int x4), none] [] σ Q := by
  refine g_iload (pc2 := 12) dX9_mostOf_10 rfl rfl ?_
  refine g_aload_n (pc2 := 13) dX9_mostOf_12 rfl rfl ?_
  refine g_geti (pc2 := 16) dX9_mostOf_13 fl_X9_128 gk_1 rfl rfl ?_
  refine g_icmp_ge (tgt := 72) (pc2 := 19) dX9_mostOf_16 (by decide) rfl (fun c => ?_) (fun c => ?_)
  · have h := h.1 c
    refine g_iload_n (pc2 := 73) dX9_mostOf_72 rfl rfl ?_
    exact g_iret dX9_mostOf_73 rfl h
  · have h := h.2 c
    refine g_aload_n (pc2 := 20) dX9_mostOf_19 rfl rfl ?_
    refine g_geta (pc2 := 23) dX9_mostOf_20 fl_X9_55 gk_1 rfl rfl ?_
    refine g_bipush (v := 8) (pc2 := 25) dX9_mostOf_23 (by decide) rfl ?_
    refine g_iload (pc2 := 27) dX9_mostOf_25 rfl rfl ?_
    refine g_imul (pc2 := 28) dX9_mostOf_27 rfl ?_
    refine g_iload_n (pc2 := 29) dX9_mostOf_28 rfl rfl ?_
    refine g_iadd (pc2 := 30) dX9_mostOf_29 rfl ?_
    obtain ⟨hx, h⟩ := h
    refine g_iald (pc2 := 31) dX9_mostOf_30 gk_155 hx rfl ?_
    refine g_istore (pc2 := 33) dX9_mostOf_31 (by decide) rfl rfl ?_
    refine g_iload (pc2 := 35) dX9_mostOf_33 rfl rfl ?_
    refine g_if_le (tgt := 64) (pc2 := 38) dX9_mostOf_35 (by decide) rfl (fun c => ?_) (fun c => ?_)
    · have h := h.1 c
      refine g_iload_n (pc2 := 65) dX9_mostOf_64 rfl rfl ?_
      refine g_istore_n (pc2 := 66) dX9_mostOf_65 (by decide) rfl rfl ?_
      refine g_iinc2 (c := 1) (pc2 := 69) dX9_mostOf_66 rfl (by decide) (by decide) rfl rfl ?_
      refine g_goto (tgt := 10) dX9_mostOf_69 (by decide) ?_
      exact g_lw (lv2 := [some (.ref 1), none, some (.int x2), some (.int x3), some (.int (x4 + 1)), none]) ⟨rfl, ⟨rfl, ⟨rfl, ⟨rfl, trivial⟩⟩⟩⟩ h
    · have h := h.2 c
      refine g_iload_n (pc2 := 39) dX9_mostOf_38 rfl rfl ?_
      refine g_iconst (v := (-1)) (pc2 := 40) dX9_mostOf_39 (by decide) rfl ?_
      refine g_icmp_eq (tgt := 59) (pc2 := 43) dX9_mostOf_40 (by decide) rfl (fun c => ?_) (fun c => ?_)
      · have h := h.1 c
        refine g_iload (pc2 := 61) dX9_mostOf_59 rfl rfl ?_
        refine g_goto (tgt := 65) dX9_mostOf_61 (by decide) ?_
        refine g_istore_n (pc2 := 66) dX9_mostOf_65 (by decide) rfl rfl ?_
        refine g_iinc2 (c := 1) (pc2 := 69) dX9_mostOf_66 rfl (by decide) (by decide) rfl rfl ?_
        refine g_goto (tgt := 10) dX9_mostOf_69 (by decide) ?_
        exact g_lw (lv2 := [some (.ref 1), none, some (.int x2), some (.int x4), some (.int (x4 + 1)), none]) ⟨rfl, ⟨rfl, ⟨rfl, ⟨rfl, trivial⟩⟩⟩⟩ h
      · have h := h.2 c
        refine g_iload (pc2 := 45) dX9_mostOf_43 rfl rfl ?_
        refine g_aload_n (pc2 := 46) dX9_mostOf_45 rfl rfl ?_
        refine g_geta (pc2 := 49) dX9_mostOf_46 fl_X9_55 gk_1 rfl rfl ?_
        refine g_bipush (v := 8) (pc2 := 51) dX9_mostOf_49 (by decide) rfl ?_
        refine g_iload_n (pc2 := 52) dX9_mostOf_51 rfl rfl ?_
        refine g_imul (pc2 := 53) dX9_mostOf_52 rfl ?_
        refine g_iload_n (pc2 := 54) dX9_mostOf_53 rfl rfl ?_
        refine g_iadd (pc2 := 55) dX9_mostOf_54 rfl ?_
        obtain ⟨hx, h⟩ := h
        refine g_iald (pc2 := 56) dX9_mostOf_55 gk_155 hx rfl ?_
        refine g_icmp_le (tgt := 64) (pc2 := 59) dX9_mostOf_56 (by decide) rfl (fun c => ?_) (fun c => ?_)
        · have h := h.1 c
          refine g_iload_n (pc2 := 65) dX9_mostOf_64 rfl rfl ?_
          refine g_istore_n (pc2 := 66) dX9_mostOf_65 (by decide) rfl rfl ?_
          refine g_iinc2 (c := 1) (pc2 := 69) dX9_mostOf_66 rfl (by decide) (by decide) rfl rfl ?_
          refine g_goto (tgt := 10) dX9_mostOf_69 (by decide) ?_
          exact g_lw (lv2 := [some (.ref 1), none, some (.int x2), some (.int x3), some (.int (x4 + 1)), none]) ⟨rfl, ⟨rfl, ⟨rfl, ⟨rfl, trivial⟩⟩⟩⟩ h
        · have h := h.2 c
          refine g_iload (pc2 := 61) dX9_mostOf_59 rfl rfl ?_
          refine g_goto (tgt := 65) dX9_mostOf_61 (by decide) ?_
          refine g_istore_n (pc2 := 66) dX9_mostOf_65 (by decide) rfl rfl ?_
          refine g_iinc2 (c := 1) (pc2 := 69) dX9_mostOf_66 rfl (by decide) (by decide) rfl rfl ?_
          refine g_goto (tgt := 10) dX9_mostOf_69 (by decide) ?_
          exact g_lw (lv2 := [some (.ref 1), none, some (.int x2), some (.int x4), some (.int (x4 + 1)), none]) ⟨rfl, ⟨rfl, ⟨rfl, ⟨rfl, trivial⟩⟩⟩⟩ h
set_option maxRecDepth 20000 in
theorem eX9_no {d : Nat} {σ : gw_S} {Q : Option Value → gw_S → Prop} {x0 : Int32}   (h : Q (some (.long ((-9223372036854775808) - x0.toInt64))) σ) : gB d mX9_no [.int x0] σ Q := by
  refine gB_of rfl (Nat.le_of_ble_eq_true rfl) (g_lw (lv2 := [some (.int x0)]) ⟨rfl, trivial⟩ ?_)
  refine g_ldc2 (pc2 := 3) dX9_no_0 cl_X9_114 rfl ?_
  refine g_iload_n (pc2 := 4) dX9_no_3 rfl rfl ?_
  refine g_i2l (pc2 := 5) dX9_no_4 rfl ?_
  refine g_lsub (pc2 := 6) dX9_no_5 rfl ?_
  exact g_lret dX9_no_6 rfl h
set_option maxRecDepth 20000 in
theorem eX9_note {d : Nat} {σ : gw_S} {Q : Option Value → gw_S → Prop} {x1 : Int32}   (h : gB d mX9_isEight [.int x1] σ (fun v σ1 => ∃ r2 : Int32, v = some (.int r2) ∧ (((r2 = 0) → (Q (some (.int (-2))) σ1)) ∧ ((¬ r2 = 0) → (gB d mX9_noteOf [.ref 1, .int x1] σ1 (fun v σ3 => ∃ r4 : Int32, v = some (.int r4) ∧ (Q (some (.int r4)) σ3))))))) : gB (d + 1) mX9_note [.ref 1, .int x1] σ Q := by
  refine gB_of rfl (Nat.le_of_ble_eq_true rfl) (g_lw (lv2 := [some (.ref 1), some (.int x1)]) ⟨rfl, ⟨rfl, trivial⟩⟩ ?_)
  refine g_iload_n (pc2 := 1) dX9_note_0 rfl rfl ?_
  refine g_callS (M2 := mX9_isEight) (as := [.int x1]) (st := []) (pc2 := 4) dX9_note_1 ml_X9_157 msX9_isEight rfl rfl (Nat.le_of_ble_eq_true rfl) (Nat.le_refl _) rfl (h.mono ?_)
  rintro _ σ1 ⟨r2, rfl, h⟩
  show gG (d + 1) mX9_note 4 _ [.int r2] σ1 Q
  refine g_if_eq (tgt := 15) (pc2 := 7) dX9_note_4 (by decide) rfl (fun c => ?_) (fun c => ?_)
  · have h := h.1 c
    refine g_bipush (v := (-2)) (pc2 := 17) dX9_note_15 (by decide) rfl ?_
    exact g_iret dX9_note_17 rfl h
  · have h := h.2 c
    refine g_aload_n (pc2 := 8) dX9_note_7 rfl rfl ?_
    refine g_iload_n (pc2 := 9) dX9_note_8 rfl rfl ?_
    refine g_callV (M2 := mX9_noteOf) (as := [.int x1]) (st := []) (pc2 := 12) dX9_note_9 ml_X9_160 mvX9_noteOf gk_1 rfl rfl rfl (Nat.le_of_ble_eq_true rfl) (Nat.le_refl _) rfl (h.mono ?_)
    rintro _ σ3 ⟨r4, rfl, h⟩
    show gG (d + 1) mX9_note 12 _ [.int r4] σ3 Q
    refine g_goto (tgt := 17) dX9_note_12 (by decide) ?_
    exact g_iret dX9_note_17 rfl h
set_option maxRecDepth 20000 in
theorem eX9_noteOf {d : Nat} {σ : gw_S} {Q : Option Value → gw_S → Prop} {x1 : Int32}   (h : gB d mX9_reads [.ref 1] σ (fun v σ1 => v = none ∧ ((((σ1 1 7) ≤ x1) → (Q (some (.int (-1))) σ1)) ∧ ((¬ (σ1 1 7) ≤ x1) → (vp_in x1 8 ∧ (Q (some (.int (σ1 146 x1.toNatClampNeg))) σ1)))))) : gB (d + 1) mX9_noteOf [.ref 1, .int x1] σ Q := by
  refine gB_of rfl (Nat.le_of_ble_eq_true rfl) (g_lw (lv2 := [some (.ref 1), some (.int x1)]) ⟨rfl, ⟨rfl, trivial⟩⟩ ?_)
  refine g_aload_n (pc2 := 1) dX9_noteOf_0 rfl rfl ?_
  refine g_callV (M2 := mX9_reads) (as := []) (st := []) (pc2 := 4) dX9_noteOf_1 ml_X9_148 mvX9_reads gk_1 rfl rfl rfl (Nat.le_of_ble_eq_true rfl) (Nat.le_refl _) rfl (h.mono ?_)
  rintro _ σ1 ⟨rfl, h⟩
  show gG (d + 1) mX9_noteOf 4 _ [] σ1 Q
  refine g_iload_n (pc2 := 5) dX9_noteOf_4 rfl rfl ?_
  refine g_aload_n (pc2 := 6) dX9_noteOf_5 rfl rfl ?_
  refine g_geti (pc2 := 9) dX9_noteOf_6 fl_X9_134 gk_1 rfl rfl ?_
  refine g_icmp_ge (tgt := 21) (pc2 := 12) dX9_noteOf_9 (by decide) rfl (fun c => ?_) (fun c => ?_)
  · have h := h.1 c
    refine g_iconst (v := (-1)) (pc2 := 22) dX9_noteOf_21 (by decide) rfl ?_
    exact g_iret dX9_noteOf_22 rfl h
  · have h := h.2 c
    refine g_aload_n (pc2 := 13) dX9_noteOf_12 rfl rfl ?_
    refine g_geta (pc2 := 16) dX9_noteOf_13 fl_X9_28 gk_1 rfl rfl ?_
    refine g_iload_n (pc2 := 17) dX9_noteOf_16 rfl rfl ?_
    obtain ⟨hx, h⟩ := h
    refine g_iald (pc2 := 18) dX9_noteOf_17 gk_146 hx rfl ?_
    refine g_goto (tgt := 22) dX9_noteOf_18 (by decide) ?_
    exact g_iret dX9_noteOf_22 rfl h
set_option maxRecDepth 20000 in
theorem eX9_ofCorks {d : Nat} {σ : gw_S} {Q : Option Value → gw_S → Prop} {x1 : Int32} {x2 : Int32}   (h : ((¬ x2 = (-1)) → (((x1 ≤ x2) → (Q (some (.int (-1))) σ)) ∧ ((¬ x1 ≤ x2) → (vp_in x2 3 ∧ (Q (some (.int (σ 152 x2.toNatClampNeg))) σ))))) ∧ ((x2 = (-1)) → (Q (some (.int x1)) σ))) : gB d mX9_ofCorks [.ref 1, .int x1, .int x2] σ Q := by
  refine gB_of rfl (Nat.le_of_ble_eq_true rfl) (g_lw (lv2 := [some (.ref 1), some (.int x1), some (.int x2)]) ⟨rfl, ⟨rfl, ⟨rfl, trivial⟩⟩⟩ ?_)
  refine g_iload_n (pc2 := 1) dX9_ofCorks_0 rfl rfl ?_
  refine g_iconst (v := (-1)) (pc2 := 2) dX9_ofCorks_1 (by decide) rfl ?_
  refine g_icmp_ne (tgt := 9) (pc2 := 5) dX9_ofCorks_2 (by decide) rfl (fun c => ?_) (fun c => ?_)
  · have h := h.1 c
    refine g_iload_n (pc2 := 10) dX9_ofCorks_9 rfl rfl ?_
    refine g_iload_n (pc2 := 11) dX9_ofCorks_10 rfl rfl ?_
    refine g_icmp_ge (tgt := 23) (pc2 := 14) dX9_ofCorks_11 (by decide) rfl (fun c => ?_) (fun c => ?_)
    · have h := h.1 c
      refine g_iconst (v := (-1)) (pc2 := 24) dX9_ofCorks_23 (by decide) rfl ?_
      exact g_iret dX9_ofCorks_24 rfl h
    · have h := h.2 c
      refine g_aload_n (pc2 := 15) dX9_ofCorks_14 rfl rfl ?_
      refine g_geta (pc2 := 18) dX9_ofCorks_15 fl_X9_46 gk_1 rfl rfl ?_
      refine g_iload_n (pc2 := 19) dX9_ofCorks_18 rfl rfl ?_
      obtain ⟨hx, h⟩ := h
      refine g_iald (pc2 := 20) dX9_ofCorks_19 gk_152 hx rfl ?_
      refine g_goto (tgt := 24) dX9_ofCorks_20 (by decide) ?_
      exact g_iret dX9_ofCorks_24 rfl h
  · have h := h.2 c
    refine g_iload_n (pc2 := 6) dX9_ofCorks_5 rfl rfl ?_
    refine g_goto (tgt := 24) dX9_ofCorks_6 (by decide) ?_
    exact g_iret dX9_ofCorks_24 rfl h
set_option maxRecDepth 20000 in
theorem eX9_put {d : Nat} {σ : gw_S} {Q : Option Value → gw_S → Prop} {x1 : Int32} {x2 : Int32} {x3 : Int32} {x4 : Int32}   (h : gB d mX9_isSheet [.int x1] σ (fun v σ1 => ∃ r2 : Int32, v = some (.int r2) ∧ (((r2 = 0) → (Q (some (.int (-2))) σ1)) ∧ ((¬ r2 = 0) → (gB d mX9_in [.int x2, .int 0, .int 2] σ1 (fun v σ3 => ∃ r4 : Int32, v = some (.int r4) ∧ (((¬ r4 = 0) → (gB d mX9_lacks [.ref 1, .int x1, .int x2, .int x3] σ3 (fun v σ5 => ∃ r6 : Int32, v = some (.int r6) ∧ (((r6 ≤ 0) → (gB d mX9_keep [.ref 1, .int x1, .int x3, .int x4] σ5 (fun v σ7 => v = none ∧ (Q (some (.int 1)) σ7)))) ∧ ((¬ r6 ≤ 0) → (gB d mX9_meets [.ref 1, .int r6] σ5 (fun v σ8 => ∃ r9 : Int32, v = some (.int r9) ∧ (Q (some (.int r9)) σ8)))))))) ∧ ((r4 = 0) → (Q (some (.int (-2))) σ3))))))))) : gB (d + 1) mX9_put [.ref 1, .int x1, .int x2, .int x3, .int x4] σ Q := by
  refine gB_of rfl (Nat.le_of_ble_eq_true rfl) (g_lw (lv2 := [some (.ref 1), some (.int x1), some (.int x2), some (.int x3), some (.int x4), none]) ⟨rfl, ⟨rfl, ⟨rfl, ⟨rfl, ⟨rfl, trivial⟩⟩⟩⟩⟩ ?_)
  refine g_iload_n (pc2 := 1) dX9_put_0 rfl rfl ?_
  refine g_callS (M2 := mX9_isSheet) (as := [.int x1]) (st := []) (pc2 := 4) dX9_put_1 ml_X9_172 msX9_isSheet rfl rfl (Nat.le_of_ble_eq_true rfl) (Nat.le_refl _) rfl (h.mono ?_)
  rintro _ σ1 ⟨r2, rfl, h⟩
  show gG (d + 1) mX9_put 4 _ [.int r2] σ1 Q
  refine g_if_eq (tgt := 16) (pc2 := 7) dX9_put_4 (by decide) rfl (fun c => ?_) (fun c => ?_)
  · have h := h.1 c
    refine g_bipush (v := (-2)) (pc2 := 18) dX9_put_16 (by decide) rfl ?_
    exact g_iret dX9_put_18 rfl h
  · have h := h.2 c
    refine g_iload_n (pc2 := 8) dX9_put_7 rfl rfl ?_
    refine g_iconst (v := 0) (pc2 := 9) dX9_put_8 (by decide) rfl ?_
    refine g_iconst (v := 2) (pc2 := 10) dX9_put_9 (by decide) rfl ?_
    refine g_callS (M2 := mX9_in) (as := [.int x2, .int 0, .int 2]) (st := []) (pc2 := 13) dX9_put_10 ml_X9_116 msX9_in rfl rfl (Nat.le_of_ble_eq_true rfl) (Nat.le_refl _) rfl (h.mono ?_)
    rintro _ σ3 ⟨r4, rfl, h⟩
    show gG (d + 1) mX9_put 13 _ [.int r4] σ3 Q
    refine g_if_ne (tgt := 19) (pc2 := 16) dX9_put_13 (by decide) rfl (fun c => ?_) (fun c => ?_)
    · have h := h.1 c
      refine g_aload_n (pc2 := 20) dX9_put_19 rfl rfl ?_
      refine g_iload_n (pc2 := 21) dX9_put_20 rfl rfl ?_
      refine g_iload_n (pc2 := 22) dX9_put_21 rfl rfl ?_
      refine g_iload_n (pc2 := 23) dX9_put_22 rfl rfl ?_
      refine g_callV (M2 := mX9_lacks) (as := [.int x1, .int x2, .int x3]) (st := []) (pc2 := 26) dX9_put_23 ml_X9_334 mvX9_lacks gk_1 rfl rfl rfl (Nat.le_of_ble_eq_true rfl) (Nat.le_refl _) rfl (h.mono ?_)
      rintro _ σ5 ⟨r6, rfl, h⟩
      show gG (d + 1) mX9_put 26 _ [.int r6] σ5 Q
      refine g_istore (pc2 := 28) dX9_put_26 (by decide) rfl rfl ?_
      refine g_iload (pc2 := 30) dX9_put_28 rfl rfl ?_
      refine g_if_le (tgt := 40) (pc2 := 33) dX9_put_30 (by decide) rfl (fun c => ?_) (fun c => ?_)
      · have h := h.1 c
        refine g_aload_n (pc2 := 41) dX9_put_40 rfl rfl ?_
        refine g_iload_n (pc2 := 42) dX9_put_41 rfl rfl ?_
        refine g_iload_n (pc2 := 43) dX9_put_42 rfl rfl ?_
        refine g_iload (pc2 := 45) dX9_put_43 rfl rfl ?_
        refine g_callV (M2 := mX9_keep) (as := [.int x1, .int x3, .int x4]) (st := []) (pc2 := 48) dX9_put_45 ml_X9_337 mvX9_keep gk_1 rfl rfl rfl (Nat.le_of_ble_eq_true rfl) (Nat.le_refl _) rfl (h.mono ?_)
        rintro _ σ7 ⟨rfl, h⟩
        show gG (d + 1) mX9_put 48 _ [] σ7 Q
        refine g_iconst (v := 1) (pc2 := 49) dX9_put_48 (by decide) rfl ?_
        exact g_iret dX9_put_49 rfl h
      · have h := h.2 c
        refine g_aload_n (pc2 := 34) dX9_put_33 rfl rfl ?_
        refine g_iload (pc2 := 36) dX9_put_34 rfl rfl ?_
        refine g_callV (M2 := mX9_meets) (as := [.int r6]) (st := []) (pc2 := 39) dX9_put_36 ml_X9_175 mvX9_meets gk_1 rfl rfl rfl (Nat.le_of_ble_eq_true rfl) (Nat.le_refl _) rfl (h.mono ?_)
        rintro _ σ8 ⟨r9, rfl, h⟩
        show gG (d + 1) mX9_put 39 _ [.int r9] σ8 Q
        exact g_iret dX9_put_39 rfl h
    · have h := h.2 c
      refine g_bipush (v := (-2)) (pc2 := 18) dX9_put_16 (by decide) rfl ?_
      exact g_iret dX9_put_18 rfl h
set_option maxRecDepth 20000 in
theorem eX9_read {d : Nat} {σ : gw_S} {Q : Option Value → gw_S → Prop} {x1 : Int32}   (h : gB d mX9_isSheet [.int x1] σ (fun v σ1 => ∃ r2 : Int32, v = some (.int r2) ∧ (((¬ r2 = 0) → (vp_in x1 4 ∧ (((¬ (σ1 168 x1.toNatClampNeg) = 0) → (gG (d + 1) mX9_read 27 [some (.ref 1), some (.int x1), some (.int 0)] [] σ1 Q)) ∧ (((σ1 168 x1.toNatClampNeg) = 0) → (gB d mX9_meets [.ref 1, .int 1] σ1 (fun v σ3 => ∃ r4 : Int32, v = some (.int r4) ∧ (Q (some (.int r4)) σ3))))))) ∧ ((r2 = 0) → (Q (some (.int (-2))) σ1))))) : gB (d + 1) mX9_read [.ref 1, .int x1] σ Q := by
  refine gB_of rfl (Nat.le_of_ble_eq_true rfl) (g_lw (lv2 := [some (.ref 1), some (.int x1), none]) ⟨rfl, ⟨rfl, trivial⟩⟩ ?_)
  refine g_iload_n (pc2 := 1) dX9_read_0 rfl rfl ?_
  refine g_callS (M2 := mX9_isSheet) (as := [.int x1]) (st := []) (pc2 := 4) dX9_read_1 ml_X9_172 msX9_isSheet rfl rfl (Nat.le_of_ble_eq_true rfl) (Nat.le_refl _) rfl (h.mono ?_)
  rintro _ σ1 ⟨r2, rfl, h⟩
  show gG (d + 1) mX9_read 4 _ [.int r2] σ1 Q
  refine g_if_ne (tgt := 10) (pc2 := 7) dX9_read_4 (by decide) rfl (fun c => ?_) (fun c => ?_)
  · have h := h.1 c
    refine g_aload_n (pc2 := 11) dX9_read_10 rfl rfl ?_
    refine g_geta (pc2 := 14) dX9_read_11 fl_X9_95 gk_1 rfl rfl ?_
    refine g_iload_n (pc2 := 15) dX9_read_14 rfl rfl ?_
    obtain ⟨hx, h⟩ := h
    refine g_zald (pc2 := 16) dX9_read_15 gk_168 hx rfl ?_
    refine g_if_ne (tgt := 25) (pc2 := 19) dX9_read_16 (by decide) rfl (fun c => ?_) (fun c => ?_)
    · have h := h.1 c
      refine g_iconst (v := 0) (pc2 := 26) dX9_read_25 (by decide) rfl ?_
      refine g_istore_n (pc2 := 27) dX9_read_26 (by decide) rfl rfl ?_
      exact g_lw (lv2 := [some (.ref 1), some (.int x1), some (.int 0)]) ⟨rfl, ⟨rfl, ⟨rfl, trivial⟩⟩⟩ h
    · have h := h.2 c
      refine g_aload_n (pc2 := 20) dX9_read_19 rfl rfl ?_
      refine g_iconst (v := 1) (pc2 := 21) dX9_read_20 (by decide) rfl ?_
      refine g_callV (M2 := mX9_meets) (as := [.int 1]) (st := []) (pc2 := 24) dX9_read_21 ml_X9_175 mvX9_meets gk_1 rfl rfl rfl (Nat.le_of_ble_eq_true rfl) (Nat.le_refl _) rfl (h.mono ?_)
      rintro _ σ3 ⟨r4, rfl, h⟩
      show gG (d + 1) mX9_read 24 _ [.int r4] σ3 Q
      exact g_iret dX9_read_24 rfl h
  · have h := h.2 c
    refine g_bipush (v := (-2)) (pc2 := 9) dX9_read_7 (by decide) rfl ?_
    exact g_iret dX9_read_9 rfl h
set_option maxRecDepth 20000 in
theorem bX9_read_27 {d : Nat} {σ : gw_S} {Q : Option Value → gw_S → Prop} {x1 : Int32} {x2 : Int32}   (h : vp_in x1 4 ∧ ((((σ 170 x1.toNatClampNeg) ≤ ((4 * x2) + 3)) → (Q (some (.int x2)) σ)) ∧ ((¬ (σ 170 x1.toNatClampNeg) ≤ ((4 * x2) + 3)) → (vp_in ((60 * x1) + (4 * x2)) 240 ∧ (vp_in (((60 * x1) + (4 * x2)) + 1) 240 ∧ (vp_in (((60 * x1) + (4 * x2)) + 2) 240 ∧ (vp_in (((60 * x1) + (4 * x2)) + 3) 240 ∧ (gB d mX9_act [.ref 1, .int (σ 171 ((60 * x1) + (4 * x2)).toNatClampNeg), .int (σ 171 (((60 * x1) + (4 * x2)) + 1).toNatClampNeg), .int (σ 171 (((60 * x1) + (4 * x2)) + 2).toNatClampNeg), .int (σ 171 (((60 * x1) + (4 * x2)) + 3).toNatClampNeg)] σ (fun v σ5 => ∃ r6 : Int32, v = some (.int r6) ∧ (((r6 ≤ 0) → (Q (some (.int x2)) σ5)) ∧ ((¬ r6 ≤ 0) → (gG (d + 1) mX9_read 27 [some (.ref 1), some (.int x1), some (.int (x2 + 1))] [] σ5 Q)))))))))))) : gG (d + 1) mX9_read 27 [some (.ref 1), some (.int x1), some (.int x2)] [] σ Q := by
  refine g_iconst (v := 4) (pc2 := 28) dX9_read_27 (by decide) rfl ?_
  refine g_iload_n (pc2 := 29) dX9_read_28 rfl rfl ?_
  refine g_imul (pc2 := 30) dX9_read_29 rfl ?_
  refine g_iconst (v := 3) (pc2 := 31) dX9_read_30 (by decide) rfl ?_
  refine g_iadd (pc2 := 32) dX9_read_31 rfl ?_
  refine g_aload_n (pc2 := 33) dX9_read_32 rfl rfl ?_
  refine g_geta (pc2 := 36) dX9_read_33 fl_X9_101 gk_1 rfl rfl ?_
  refine g_iload_n (pc2 := 37) dX9_read_36 rfl rfl ?_
  obtain ⟨hx, h⟩ := h
  refine g_iald (pc2 := 38) dX9_read_37 gk_170 hx rfl ?_
  refine g_icmp_ge (tgt := 112) (pc2 := 41) dX9_read_38 (by decide) rfl (fun c => ?_) (fun c => ?_)
  · have h := h.1 c
    refine g_iload_n (pc2 := 113) dX9_read_112 rfl rfl ?_
    exact g_iret dX9_read_113 rfl h
  · have h := h.2 c
    refine g_aload_n (pc2 := 42) dX9_read_41 rfl rfl ?_
    refine g_aload_n (pc2 := 43) dX9_read_42 rfl rfl ?_
    refine g_geta (pc2 := 46) dX9_read_43 fl_X9_104 gk_1 rfl rfl ?_
    refine g_bipush (v := 60) (pc2 := 48) dX9_read_46 (by decide) rfl ?_
    refine g_iload_n (pc2 := 49) dX9_read_48 rfl rfl ?_
    refine g_imul (pc2 := 50) dX9_read_49 rfl ?_
    refine g_iconst (v := 4) (pc2 := 51) dX9_read_50 (by decide) rfl ?_
    refine g_iload_n (pc2 := 52) dX9_read_51 rfl rfl ?_
    refine g_imul (pc2 := 53) dX9_read_52 rfl ?_
    refine g_iadd (pc2 := 54) dX9_read_53 rfl ?_
    obtain ⟨hx, h⟩ := h
    refine g_iald (pc2 := 55) dX9_read_54 gk_171 hx rfl ?_
    refine g_aload_n (pc2 := 56) dX9_read_55 rfl rfl ?_
    refine g_geta (pc2 := 59) dX9_read_56 fl_X9_104 gk_1 rfl rfl ?_
    refine g_bipush (v := 60) (pc2 := 61) dX9_read_59 (by decide) rfl ?_
    refine g_iload_n (pc2 := 62) dX9_read_61 rfl rfl ?_
    refine g_imul (pc2 := 63) dX9_read_62 rfl ?_
    refine g_iconst (v := 4) (pc2 := 64) dX9_read_63 (by decide) rfl ?_
    refine g_iload_n (pc2 := 65) dX9_read_64 rfl rfl ?_
    refine g_imul (pc2 := 66) dX9_read_65 rfl ?_
    refine g_iadd (pc2 := 67) dX9_read_66 rfl ?_
    refine g_iconst (v := 1) (pc2 := 68) dX9_read_67 (by decide) rfl ?_
    refine g_iadd (pc2 := 69) dX9_read_68 rfl ?_
    obtain ⟨hx, h⟩ := h
    refine g_iald (pc2 := 70) dX9_read_69 gk_171 hx rfl ?_
    refine g_aload_n (pc2 := 71) dX9_read_70 rfl rfl ?_
    refine g_geta (pc2 := 74) dX9_read_71 fl_X9_104 gk_1 rfl rfl ?_
    refine g_bipush (v := 60) (pc2 := 76) dX9_read_74 (by decide) rfl ?_
    refine g_iload_n (pc2 := 77) dX9_read_76 rfl rfl ?_
    refine g_imul (pc2 := 78) dX9_read_77 rfl ?_
    refine g_iconst (v := 4) (pc2 := 79) dX9_read_78 (by decide) rfl ?_
    refine g_iload_n (pc2 := 80) dX9_read_79 rfl rfl ?_
    refine g_imul (pc2 := 81) dX9_read_80 rfl ?_
    refine g_iadd (pc2 := 82) dX9_read_81 rfl ?_
    refine g_iconst (v := 2) (pc2 := 83) dX9_read_82 (by decide) rfl ?_
    refine g_iadd (pc2 := 84) dX9_read_83 rfl ?_
    obtain ⟨hx, h⟩ := h
    refine g_iald (pc2 := 85) dX9_read_84 gk_171 hx rfl ?_
    refine g_aload_n (pc2 := 86) dX9_read_85 rfl rfl ?_
    refine g_geta (pc2 := 89) dX9_read_86 fl_X9_104 gk_1 rfl rfl ?_
    refine g_bipush (v := 60) (pc2 := 91) dX9_read_89 (by decide) rfl ?_
    refine g_iload_n (pc2 := 92) dX9_read_91 rfl rfl ?_
    refine g_imul (pc2 := 93) dX9_read_92 rfl ?_
    refine g_iconst (v := 4) (pc2 := 94) dX9_read_93 (by decide) rfl ?_
    refine g_iload_n (pc2 := 95) dX9_read_94 rfl rfl ?_
    refine g_imul (pc2 := 96) dX9_read_95 rfl ?_
    refine g_iadd (pc2 := 97) dX9_read_96 rfl ?_
    refine g_iconst (v := 3) (pc2 := 98) dX9_read_97 (by decide) rfl ?_
    refine g_iadd (pc2 := 99) dX9_read_98 rfl ?_
    obtain ⟨hx, h⟩ := h
    refine g_iald (pc2 := 100) dX9_read_99 gk_171 hx rfl ?_
    refine g_callV (M2 := mX9_act) (as := [.int (σ 171 ((60 * x1) + (4 * x2)).toNatClampNeg), .int (σ 171 (((60 * x1) + (4 * x2)) + 1).toNatClampNeg), .int (σ 171 (((60 * x1) + (4 * x2)) + 2).toNatClampNeg), .int (σ 171 (((60 * x1) + (4 * x2)) + 3).toNatClampNeg)]) (st := []) (pc2 := 103) dX9_read_100 ml_X9_178 mvX9_act gk_1 rfl rfl rfl (Nat.le_of_ble_eq_true rfl) (Nat.le_refl _) rfl (h.mono ?_)
    rintro _ σ5 ⟨r6, rfl, h⟩
    show gG (d + 1) mX9_read 103 _ [.int r6] σ5 Q
    refine g_if_le (tgt := 112) (pc2 := 106) dX9_read_103 (by decide) rfl (fun c => ?_) (fun c => ?_)
    · have h := h.1 c
      refine g_iload_n (pc2 := 113) dX9_read_112 rfl rfl ?_
      exact g_iret dX9_read_113 rfl h
    · have h := h.2 c
      refine g_iinc2 (c := 1) (pc2 := 109) dX9_read_106 rfl (by decide) (by decide) rfl rfl ?_
      refine g_goto (tgt := 27) dX9_read_109 (by decide) ?_
      exact g_lw (lv2 := [some (.ref 1), some (.int x1), some (.int (x2 + 1))]) ⟨rfl, ⟨rfl, ⟨rfl, trivial⟩⟩⟩ h
set_option maxRecDepth 20000 in
theorem eX9_reads {d : Nat} {σ : gw_S} {Q : Option Value → gw_S → Prop}    (h : gB d mX9_faultOf [.ref 1, .int 0] σ (fun v σ1 => ∃ r2 : Int32, v = some (.int r2) ∧ (Q none σ1))) : gB (d + 1) mX9_reads [.ref 1] σ Q := by
  refine gB_of rfl (Nat.le_of_ble_eq_true rfl) (g_lw (lv2 := [some (.ref 1), none]) ⟨rfl, trivial⟩ ?_)
  refine g_aload_n (pc2 := 1) dX9_reads_0 rfl rfl ?_
  refine g_iconst (v := 0) (pc2 := 2) dX9_reads_1 (by decide) rfl ?_
  refine g_callV (M2 := mX9_faultOf) (as := [.int 0]) (st := []) (pc2 := 5) dX9_reads_2 ml_X9_144 mvX9_faultOf gk_1 rfl rfl rfl (Nat.le_of_ble_eq_true rfl) (Nat.le_refl _) rfl (h.mono ?_)
  rintro _ σ1 ⟨r2, rfl, h⟩
  show gG (d + 1) mX9_reads 5 _ [.int r2] σ1 Q
  refine g_istore_n (pc2 := 6) dX9_reads_5 (by decide) rfl rfl ?_
  exact g_vret dX9_reads_6 rfl h
set_option maxRecDepth 20000 in
theorem eX9_readsBottle {d : Nat} {σ : gw_S} {Q : Option Value → gw_S → Prop} {x1 : Int32} {x2 : Int32}   (h : gB d mX9_byteAt [.ref 1, .int 0, .int x2] σ (fun v σ1 => ∃ r2 : Int32, v = some (.int r2) ∧ (gB d mX9_byteAt [.ref 1, .int 0, .int (x2 + 1)] σ1 (fun v σ3 => ∃ r4 : Int32, v = some (.int r4) ∧ (gB d mX9_byteAt [.ref 1, .int 0, .int (x2 + 2)] σ3 (fun v σ5 => ∃ r6 : Int32, v = some (.int r6) ∧ (gB d mX9_byteAt [.ref 1, .int 0, .int (x2 + 3)] σ5 (fun v σ7 => ∃ r8 : Int32, v = some (.int r8) ∧ (gB d mX9_byteAt [.ref 1, .int 0, .int (x2 + 4)] σ7 (fun v σ9 => ∃ r10 : Int32, v = some (.int r10) ∧ (gB d mX9_in [.int r2, .int 97, .int 104] σ9 (fun v σ11 => ∃ r12 : Int32, v = some (.int r12) ∧ (((¬ r12 = 0) → (gB d mX9_in [.int r4, .int 48, .int 57] σ11 (fun v σ13 => ∃ r14 : Int32, v = some (.int r14) ∧ (((¬ r14 = 0) → (gB d mX9_in [.int r6, .int 48, .int 57] σ13 (fun v σ15 => ∃ r16 : Int32, v = some (.int r16) ∧ (((r16 = 0) → (Q (some (.int 2)) σ15)) ∧ ((¬ r16 = 0) → (((¬ r4 = 48) → (gB d mX9_in [.int r8, .int 48, .int 57] σ15 (fun v σ17 => ∃ r18 : Int32, v = some (.int r18) ∧ (((¬ r18 = 0) → (((r10 = 110) → (gG (d + 1) mX9_readsBottle 132 [some (.ref 1), some (.int x1), none, some (.int r2), some (.int r4), some (.int r6), some (.int r8), some (.int r10)] [] σ17 Q)) ∧ ((¬ r10 = 110) → (((r10 = 115) → (gG (d + 1) mX9_readsBottle 132 [some (.ref 1), some (.int x1), none, some (.int r2), some (.int r4), some (.int r6), some (.int r8), some (.int r10)] [] σ17 Q)) ∧ ((¬ r10 = 115) → (Q (some (.int 4)) σ17)))))) ∧ ((r18 = 0) → (Q (some (.int 3)) σ17)))))) ∧ ((r4 = 48) → (((¬ r6 = 48) → (gB d mX9_in [.int r8, .int 48, .int 57] σ15 (fun v σ19 => ∃ r20 : Int32, v = some (.int r20) ∧ (((¬ r20 = 0) → (((r10 = 110) → (gG (d + 1) mX9_readsBottle 132 [some (.ref 1), some (.int x1), none, some (.int r2), some (.int r4), some (.int r6), some (.int r8), some (.int r10)] [] σ19 Q)) ∧ ((¬ r10 = 110) → (((r10 = 115) → (gG (d + 1) mX9_readsBottle 132 [some (.ref 1), some (.int x1), none, some (.int r2), some (.int r4), some (.int r6), some (.int r8), some (.int r10)] [] σ19 Q)) ∧ ((¬ r10 = 115) → (Q (some (.int 4)) σ19)))))) ∧ ((r20 = 0) → (Q (some (.int 3)) σ19)))))) ∧ ((r6 = 48) → (Q (some (.int 2)) σ15)))))))))) ∧ ((r14 = 0) → (Q (some (.int 1)) σ13)))))) ∧ ((r12 = 0) → (Q (some (.int 0)) σ11))))))))))))))) : gB (d + 1) mX9_readsBottle [.ref 1, .int x1, .int x2] σ Q := by
  refine gB_of rfl (Nat.le_of_ble_eq_true rfl) (g_lw (lv2 := [some (.ref 1), some (.int x1), some (.int x2), none, none, none, none, none]) ⟨rfl, ⟨rfl, ⟨rfl, trivial⟩⟩⟩ ?_)
  refine g_aload_n (pc2 := 1) dX9_readsBottle_0 rfl rfl ?_
  refine g_iconst (v := 0) (pc2 := 2) dX9_readsBottle_1 (by decide) rfl ?_
  refine g_iload_n (pc2 := 3) dX9_readsBottle_2 rfl rfl ?_
  refine g_callV (M2 := mX9_byteAt) (as := [.int 0, .int x2]) (st := []) (pc2 := 6) dX9_readsBottle_3 ml_X9_124 mvX9_byteAt gk_1 rfl rfl rfl (Nat.le_of_ble_eq_true rfl) (Nat.le_refl _) rfl (h.mono ?_)
  rintro _ σ1 ⟨r2, rfl, h⟩
  show gG (d + 1) mX9_readsBottle 6 _ [.int r2] σ1 Q
  refine g_istore_n (pc2 := 7) dX9_readsBottle_6 (by decide) rfl rfl ?_
  refine g_aload_n (pc2 := 8) dX9_readsBottle_7 rfl rfl ?_
  refine g_iconst (v := 0) (pc2 := 9) dX9_readsBottle_8 (by decide) rfl ?_
  refine g_iload_n (pc2 := 10) dX9_readsBottle_9 rfl rfl ?_
  refine g_iconst (v := 1) (pc2 := 11) dX9_readsBottle_10 (by decide) rfl ?_
  refine g_iadd (pc2 := 12) dX9_readsBottle_11 rfl ?_
  refine g_callV (M2 := mX9_byteAt) (as := [.int 0, .int (x2 + 1)]) (st := []) (pc2 := 15) dX9_readsBottle_12 ml_X9_124 mvX9_byteAt gk_1 rfl rfl rfl (Nat.le_of_ble_eq_true rfl) (Nat.le_refl _) rfl (h.mono ?_)
  rintro _ σ3 ⟨r4, rfl, h⟩
  show gG (d + 1) mX9_readsBottle 15 _ [.int r4] σ3 Q
  refine g_istore (pc2 := 17) dX9_readsBottle_15 (by decide) rfl rfl ?_
  refine g_aload_n (pc2 := 18) dX9_readsBottle_17 rfl rfl ?_
  refine g_iconst (v := 0) (pc2 := 19) dX9_readsBottle_18 (by decide) rfl ?_
  refine g_iload_n (pc2 := 20) dX9_readsBottle_19 rfl rfl ?_
  refine g_iconst (v := 2) (pc2 := 21) dX9_readsBottle_20 (by decide) rfl ?_
  refine g_iadd (pc2 := 22) dX9_readsBottle_21 rfl ?_
  refine g_callV (M2 := mX9_byteAt) (as := [.int 0, .int (x2 + 2)]) (st := []) (pc2 := 25) dX9_readsBottle_22 ml_X9_124 mvX9_byteAt gk_1 rfl rfl rfl (Nat.le_of_ble_eq_true rfl) (Nat.le_refl _) rfl (h.mono ?_)
  rintro _ σ5 ⟨r6, rfl, h⟩
  show gG (d + 1) mX9_readsBottle 25 _ [.int r6] σ5 Q
  refine g_istore (pc2 := 27) dX9_readsBottle_25 (by decide) rfl rfl ?_
  refine g_aload_n (pc2 := 28) dX9_readsBottle_27 rfl rfl ?_
  refine g_iconst (v := 0) (pc2 := 29) dX9_readsBottle_28 (by decide) rfl ?_
  refine g_iload_n (pc2 := 30) dX9_readsBottle_29 rfl rfl ?_
  refine g_iconst (v := 3) (pc2 := 31) dX9_readsBottle_30 (by decide) rfl ?_
  refine g_iadd (pc2 := 32) dX9_readsBottle_31 rfl ?_
  refine g_callV (M2 := mX9_byteAt) (as := [.int 0, .int (x2 + 3)]) (st := []) (pc2 := 35) dX9_readsBottle_32 ml_X9_124 mvX9_byteAt gk_1 rfl rfl rfl (Nat.le_of_ble_eq_true rfl) (Nat.le_refl _) rfl (h.mono ?_)
  rintro _ σ7 ⟨r8, rfl, h⟩
  show gG (d + 1) mX9_readsBottle 35 _ [.int r8] σ7 Q
  refine g_istore (pc2 := 37) dX9_readsBottle_35 (by decide) rfl rfl ?_
  refine g_aload_n (pc2 := 38) dX9_readsBottle_37 rfl rfl ?_
  refine g_iconst (v := 0) (pc2 := 39) dX9_readsBottle_38 (by decide) rfl ?_
  refine g_iload_n (pc2 := 40) dX9_readsBottle_39 rfl rfl ?_
  refine g_iconst (v := 4) (pc2 := 41) dX9_readsBottle_40 (by decide) rfl ?_
  refine g_iadd (pc2 := 42) dX9_readsBottle_41 rfl ?_
  refine g_callV (M2 := mX9_byteAt) (as := [.int 0, .int (x2 + 4)]) (st := []) (pc2 := 45) dX9_readsBottle_42 ml_X9_124 mvX9_byteAt gk_1 rfl rfl rfl (Nat.le_of_ble_eq_true rfl) (Nat.le_refl _) rfl (h.mono ?_)
  rintro _ σ9 ⟨r10, rfl, h⟩
  show gG (d + 1) mX9_readsBottle 45 _ [.int r10] σ9 Q
  refine g_istore (pc2 := 47) dX9_readsBottle_45 (by decide) rfl rfl ?_
  refine g_iload_n (pc2 := 48) dX9_readsBottle_47 rfl rfl ?_
  refine g_bipush (v := 97) (pc2 := 50) dX9_readsBottle_48 (by decide) rfl ?_
  refine g_bipush (v := 104) (pc2 := 52) dX9_readsBottle_50 (by decide) rfl ?_
  refine g_callS (M2 := mX9_in) (as := [.int r2, .int 97, .int 104]) (st := []) (pc2 := 55) dX9_readsBottle_52 ml_X9_116 msX9_in rfl rfl (Nat.le_of_ble_eq_true rfl) (Nat.le_refl _) rfl (h.mono ?_)
  rintro _ σ11 ⟨r12, rfl, h⟩
  show gG (d + 1) mX9_readsBottle 55 _ [.int r12] σ11 Q
  refine g_if_ne (tgt := 60) (pc2 := 58) dX9_readsBottle_55 (by decide) rfl (fun c => ?_) (fun c => ?_)
  · have h := h.1 c
    refine g_iload (pc2 := 62) dX9_readsBottle_60 rfl rfl ?_
    refine g_bipush (v := 48) (pc2 := 64) dX9_readsBottle_62 (by decide) rfl ?_
    refine g_bipush (v := 57) (pc2 := 66) dX9_readsBottle_64 (by decide) rfl ?_
    refine g_callS (M2 := mX9_in) (as := [.int r4, .int 48, .int 57]) (st := []) (pc2 := 69) dX9_readsBottle_66 ml_X9_116 msX9_in rfl rfl (Nat.le_of_ble_eq_true rfl) (Nat.le_refl _) rfl (h.mono ?_)
    rintro _ σ13 ⟨r14, rfl, h⟩
    show gG (d + 1) mX9_readsBottle 69 _ [.int r14] σ13 Q
    refine g_if_ne (tgt := 74) (pc2 := 72) dX9_readsBottle_69 (by decide) rfl (fun c => ?_) (fun c => ?_)
    · have h := h.1 c
      refine g_iload (pc2 := 76) dX9_readsBottle_74 rfl rfl ?_
      refine g_bipush (v := 48) (pc2 := 78) dX9_readsBottle_76 (by decide) rfl ?_
      refine g_bipush (v := 57) (pc2 := 80) dX9_readsBottle_78 (by decide) rfl ?_
      refine g_callS (M2 := mX9_in) (as := [.int r6, .int 48, .int 57]) (st := []) (pc2 := 83) dX9_readsBottle_80 ml_X9_116 msX9_in rfl rfl (Nat.le_of_ble_eq_true rfl) (Nat.le_refl _) rfl (h.mono ?_)
      rintro _ σ15 ⟨r16, rfl, h⟩
      show gG (d + 1) mX9_readsBottle 83 _ [.int r16] σ15 Q
      refine g_if_eq (tgt := 100) (pc2 := 86) dX9_readsBottle_83 (by decide) rfl (fun c => ?_) (fun c => ?_)
      · have h := h.1 c
        refine g_iconst (v := 2) (pc2 := 101) dX9_readsBottle_100 (by decide) rfl ?_
        exact g_iret dX9_readsBottle_101 rfl h
      · have h := h.2 c
        refine g_iload (pc2 := 88) dX9_readsBottle_86 rfl rfl ?_
        refine g_bipush (v := 48) (pc2 := 90) dX9_readsBottle_88 (by decide) rfl ?_
        refine g_icmp_ne (tgt := 102) (pc2 := 93) dX9_readsBottle_90 (by decide) rfl (fun c => ?_) (fun c => ?_)
        · have h := h.1 c
          refine g_iload (pc2 := 104) dX9_readsBottle_102 rfl rfl ?_
          refine g_bipush (v := 48) (pc2 := 106) dX9_readsBottle_104 (by decide) rfl ?_
          refine g_bipush (v := 57) (pc2 := 108) dX9_readsBottle_106 (by decide) rfl ?_
          refine g_callS (M2 := mX9_in) (as := [.int r8, .int 48, .int 57]) (st := []) (pc2 := 111) dX9_readsBottle_108 ml_X9_116 msX9_in rfl rfl (Nat.le_of_ble_eq_true rfl) (Nat.le_refl _) rfl (h.mono ?_)
          rintro _ σ17 ⟨r18, rfl, h⟩
          show gG (d + 1) mX9_readsBottle 111 _ [.int r18] σ17 Q
          refine g_if_ne (tgt := 116) (pc2 := 114) dX9_readsBottle_111 (by decide) rfl (fun c => ?_) (fun c => ?_)
          · have h := h.1 c
            refine g_iload (pc2 := 118) dX9_readsBottle_116 rfl rfl ?_
            refine g_bipush (v := 110) (pc2 := 120) dX9_readsBottle_118 (by decide) rfl ?_
            refine g_icmp_eq (tgt := 132) (pc2 := 123) dX9_readsBottle_120 (by decide) rfl (fun c => ?_) (fun c => ?_)
            · have h := h.1 c
              exact g_lw (lv2 := [some (.ref 1), some (.int x1), none, some (.int r2), some (.int r4), some (.int r6), some (.int r8), some (.int r10)]) ⟨rfl, ⟨rfl, ⟨rfl, ⟨rfl, ⟨rfl, ⟨rfl, ⟨rfl, trivial⟩⟩⟩⟩⟩⟩⟩ h
            · have h := h.2 c
              refine g_iload (pc2 := 125) dX9_readsBottle_123 rfl rfl ?_
              refine g_bipush (v := 115) (pc2 := 127) dX9_readsBottle_125 (by decide) rfl ?_
              refine g_icmp_eq (tgt := 132) (pc2 := 130) dX9_readsBottle_127 (by decide) rfl (fun c => ?_) (fun c => ?_)
              · have h := h.1 c
                exact g_lw (lv2 := [some (.ref 1), some (.int x1), none, some (.int r2), some (.int r4), some (.int r6), some (.int r8), some (.int r10)]) ⟨rfl, ⟨rfl, ⟨rfl, ⟨rfl, ⟨rfl, ⟨rfl, ⟨rfl, trivial⟩⟩⟩⟩⟩⟩⟩ h
              · have h := h.2 c
                refine g_iconst (v := 4) (pc2 := 131) dX9_readsBottle_130 (by decide) rfl ?_
                exact g_iret dX9_readsBottle_131 rfl h
          · have h := h.2 c
            refine g_iconst (v := 3) (pc2 := 115) dX9_readsBottle_114 (by decide) rfl ?_
            exact g_iret dX9_readsBottle_115 rfl h
        · have h := h.2 c
          refine g_iload (pc2 := 95) dX9_readsBottle_93 rfl rfl ?_
          refine g_bipush (v := 48) (pc2 := 97) dX9_readsBottle_95 (by decide) rfl ?_
          refine g_icmp_ne (tgt := 102) (pc2 := 100) dX9_readsBottle_97 (by decide) rfl (fun c => ?_) (fun c => ?_)
          · have h := h.1 c
            refine g_iload (pc2 := 104) dX9_readsBottle_102 rfl rfl ?_
            refine g_bipush (v := 48) (pc2 := 106) dX9_readsBottle_104 (by decide) rfl ?_
            refine g_bipush (v := 57) (pc2 := 108) dX9_readsBottle_106 (by decide) rfl ?_
            refine g_callS (M2 := mX9_in) (as := [.int r8, .int 48, .int 57]) (st := []) (pc2 := 111) dX9_readsBottle_108 ml_X9_116 msX9_in rfl rfl (Nat.le_of_ble_eq_true rfl) (Nat.le_refl _) rfl (h.mono ?_)
            rintro _ σ19 ⟨r20, rfl, h⟩
            show gG (d + 1) mX9_readsBottle 111 _ [.int r20] σ19 Q
            refine g_if_ne (tgt := 116) (pc2 := 114) dX9_readsBottle_111 (by decide) rfl (fun c => ?_) (fun c => ?_)
            · have h := h.1 c
              refine g_iload (pc2 := 118) dX9_readsBottle_116 rfl rfl ?_
              refine g_bipush (v := 110) (pc2 := 120) dX9_readsBottle_118 (by decide) rfl ?_
              refine g_icmp_eq (tgt := 132) (pc2 := 123) dX9_readsBottle_120 (by decide) rfl (fun c => ?_) (fun c => ?_)
              · have h := h.1 c
                exact g_lw (lv2 := [some (.ref 1), some (.int x1), none, some (.int r2), some (.int r4), some (.int r6), some (.int r8), some (.int r10)]) ⟨rfl, ⟨rfl, ⟨rfl, ⟨rfl, ⟨rfl, ⟨rfl, ⟨rfl, trivial⟩⟩⟩⟩⟩⟩⟩ h
              · have h := h.2 c
                refine g_iload (pc2 := 125) dX9_readsBottle_123 rfl rfl ?_
                refine g_bipush (v := 115) (pc2 := 127) dX9_readsBottle_125 (by decide) rfl ?_
                refine g_icmp_eq (tgt := 132) (pc2 := 130) dX9_readsBottle_127 (by decide) rfl (fun c => ?_) (fun c => ?_)
                · have h := h.1 c
                  exact g_lw (lv2 := [some (.ref 1), some (.int x1), none, some (.int r2), some (.int r4), some (.int r6), some (.int r8), some (.int r10)]) ⟨rfl, ⟨rfl, ⟨rfl, ⟨rfl, ⟨rfl, ⟨rfl, ⟨rfl, trivial⟩⟩⟩⟩⟩⟩⟩ h
                · have h := h.2 c
                  refine g_iconst (v := 4) (pc2 := 131) dX9_readsBottle_130 (by decide) rfl ?_
                  exact g_iret dX9_readsBottle_131 rfl h
            · have h := h.2 c
              refine g_iconst (v := 3) (pc2 := 115) dX9_readsBottle_114 (by decide) rfl ?_
              exact g_iret dX9_readsBottle_115 rfl h
          · have h := h.2 c
            refine g_iconst (v := 2) (pc2 := 101) dX9_readsBottle_100 (by decide) rfl ?_
            exact g_iret dX9_readsBottle_101 rfl h
    · have h := h.2 c
      refine g_iconst (v := 1) (pc2 := 73) dX9_readsBottle_72 (by decide) rfl ?_
      exact g_iret dX9_readsBottle_73 rfl h
  · have h := h.2 c
    refine g_iconst (v := 0) (pc2 := 59) dX9_readsBottle_58 (by decide) rfl ?_
    exact g_iret dX9_readsBottle_59 rfl h
set_option maxRecDepth 20000 in
theorem bX9_readsBottle_132 {d : Nat} {σ : gw_S} {Q : Option Value → gw_S → Prop} {x1 : Int32} {x3 : Int32} {x4 : Int32} {x5 : Int32} {x6 : Int32} {x7 : Int32}   (h : vp_in x1 9 ∧ (∀ s21 : gw_S, s21 = gw_u σ 142 x1.toNatClampNeg (x3 - 97) → (vp_in x1 9 ∧ (∀ s22 : gw_S, s22 = gw_u s21 143 x1.toNatClampNeg (((10 * (x4 - 48)) + x5) - 48) → (vp_in x1 9 ∧ (∀ s23 : gw_S, s23 = gw_u s22 144 x1.toNatClampNeg (x6 - 48) → (((¬ x7 = 115) → (vp_in x1 9 ∧ (∀ s24 : gw_S, s24 = gw_u s23 145 x1.toNatClampNeg 0 → (Q (some (.int 5)) s24)))) ∧ ((x7 = 115) → (vp_in x1 9 ∧ (∀ s25 : gw_S, s25 = gw_u s23 145 x1.toNatClampNeg 1 → (Q (some (.int 5)) s25))))))))))) : gG (d + 1) mX9_readsBottle 132 [some (.ref 1), some (.int x1), none, some (.int x3), some (.int x4), some (.int x5), some (.int x6), some (.int x7)] [] σ Q := by
  refine g_aload_n (pc2 := 133) dX9_readsBottle_132 rfl rfl ?_
  refine g_geta (pc2 := 136) dX9_readsBottle_133 fl_X9_16 gk_1 rfl rfl ?_
  refine g_iload_n (pc2 := 137) dX9_readsBottle_136 rfl rfl ?_
  refine g_iload_n (pc2 := 138) dX9_readsBottle_137 rfl rfl ?_
  refine g_bipush (v := 97) (pc2 := 140) dX9_readsBottle_138 (by decide) rfl ?_
  refine g_isub (pc2 := 141) dX9_readsBottle_140 rfl ?_
  obtain ⟨hx, h⟩ := h
  refine g_iast2 (pc2 := 142) dX9_readsBottle_141 gk_142 hx rfl (fun s21 es21 => ?_)
  replace h := h s21 es21
  refine g_aload_n (pc2 := 143) dX9_readsBottle_142 rfl rfl ?_
  refine g_geta (pc2 := 146) dX9_readsBottle_143 fl_X9_19 gk_1 rfl rfl ?_
  refine g_iload_n (pc2 := 147) dX9_readsBottle_146 rfl rfl ?_
  refine g_bipush (v := 10) (pc2 := 149) dX9_readsBottle_147 (by decide) rfl ?_
  refine g_iload (pc2 := 151) dX9_readsBottle_149 rfl rfl ?_
  refine g_bipush (v := 48) (pc2 := 153) dX9_readsBottle_151 (by decide) rfl ?_
  refine g_isub (pc2 := 154) dX9_readsBottle_153 rfl ?_
  refine g_imul (pc2 := 155) dX9_readsBottle_154 rfl ?_
  refine g_iload (pc2 := 157) dX9_readsBottle_155 rfl rfl ?_
  refine g_iadd (pc2 := 158) dX9_readsBottle_157 rfl ?_
  refine g_bipush (v := 48) (pc2 := 160) dX9_readsBottle_158 (by decide) rfl ?_
  refine g_isub (pc2 := 161) dX9_readsBottle_160 rfl ?_
  obtain ⟨hx, h⟩ := h
  refine g_iast2 (pc2 := 162) dX9_readsBottle_161 gk_143 hx rfl (fun s22 es22 => ?_)
  replace h := h s22 es22
  refine g_aload_n (pc2 := 163) dX9_readsBottle_162 rfl rfl ?_
  refine g_geta (pc2 := 166) dX9_readsBottle_163 fl_X9_22 gk_1 rfl rfl ?_
  refine g_iload_n (pc2 := 167) dX9_readsBottle_166 rfl rfl ?_
  refine g_iload (pc2 := 169) dX9_readsBottle_167 rfl rfl ?_
  refine g_bipush (v := 48) (pc2 := 171) dX9_readsBottle_169 (by decide) rfl ?_
  refine g_isub (pc2 := 172) dX9_readsBottle_171 rfl ?_
  obtain ⟨hx, h⟩ := h
  refine g_iast2 (pc2 := 173) dX9_readsBottle_172 gk_144 hx rfl (fun s23 es23 => ?_)
  replace h := h s23 es23
  refine g_aload_n (pc2 := 174) dX9_readsBottle_173 rfl rfl ?_
  refine g_geta (pc2 := 177) dX9_readsBottle_174 fl_X9_25 gk_1 rfl rfl ?_
  refine g_iload_n (pc2 := 178) dX9_readsBottle_177 rfl rfl ?_
  refine g_iload (pc2 := 180) dX9_readsBottle_178 rfl rfl ?_
  refine g_bipush (v := 115) (pc2 := 182) dX9_readsBottle_180 (by decide) rfl ?_
  refine g_icmp_ne (tgt := 189) (pc2 := 185) dX9_readsBottle_182 (by decide) rfl (fun c => ?_) (fun c => ?_)
  · have h := h.1 c
    refine g_iconst (v := 0) (pc2 := 190) dX9_readsBottle_189 (by decide) rfl ?_
    obtain ⟨hx, h⟩ := h
    refine g_iast2 (pc2 := 191) dX9_readsBottle_190 gk_145 hx rfl (fun s24 es24 => ?_)
    replace h := h s24 es24
    refine g_iconst (v := 5) (pc2 := 192) dX9_readsBottle_191 (by decide) rfl ?_
    exact g_iret dX9_readsBottle_192 rfl h
  · have h := h.2 c
    refine g_iconst (v := 1) (pc2 := 186) dX9_readsBottle_185 (by decide) rfl ?_
    refine g_goto (tgt := 190) dX9_readsBottle_186 (by decide) ?_
    obtain ⟨hx, h⟩ := h
    refine g_iast2 (pc2 := 191) dX9_readsBottle_190 gk_145 hx rfl (fun s25 es25 => ?_)
    replace h := h s25 es25
    refine g_iconst (v := 5) (pc2 := 192) dX9_readsBottle_191 (by decide) rfl ?_
    exact g_iret dX9_readsBottle_192 rfl h
set_option maxRecDepth 20000 in
theorem eX9_readsBottles {d : Nat} {σ : gw_S} {Q : Option Value → gw_S → Prop}    (h : ∀ s1 : gw_S, s1 = gw_u σ 1 2 0 → (gG (d + 1) mX9_readsBottles 9 [some (.ref 1), some (.int 0), some (.int 0), none] [] s1 Q)) : gB (d + 1) mX9_readsBottles [.ref 1] σ Q := by
  refine gB_of rfl (Nat.le_of_ble_eq_true rfl) (g_lw (lv2 := [some (.ref 1), none, none, none]) ⟨rfl, trivial⟩ ?_)
  refine g_iconst (v := 0) (pc2 := 1) dX9_readsBottles_0 (by decide) rfl ?_
  refine g_istore_n (pc2 := 2) dX9_readsBottles_1 (by decide) rfl rfl ?_
  refine g_iconst (v := 0) (pc2 := 3) dX9_readsBottles_2 (by decide) rfl ?_
  refine g_istore_n (pc2 := 4) dX9_readsBottles_3 (by decide) rfl rfl ?_
  refine g_aload_n (pc2 := 5) dX9_readsBottles_4 rfl rfl ?_
  refine g_iconst (v := 0) (pc2 := 6) dX9_readsBottles_5 (by decide) rfl ?_
  refine g_put2 (pc2 := 9) dX9_readsBottles_6 fp_X9_128 gk_1 rfl rfl rfl rfl (fun s1 es1 => ?_)
  replace h := h s1 es1
  exact g_lw (lv2 := [some (.ref 1), some (.int 0), some (.int 0), none]) ⟨rfl, ⟨rfl, ⟨rfl, trivial⟩⟩⟩ h
set_option maxRecDepth 20000 in
theorem bX9_readsBottles_9 {d : Nat} {σ : gw_S} {Q : Option Value → gw_S → Prop} {x1 : Int32} {x2 : Int32}   (h : ((x2 < (σ 140 (0 : Int32).toNatClampNeg)) → (((¬ x1 = 8) → (gB d mX9_readsBottle [.ref 1, .int x1, .int x2] σ (fun v σ2 => ∃ r3 : Int32, v = some (.int r3) ∧ (gG (d + 1) mX9_readsBottles 39 [some (.ref 1), some (.int x1), some (.int x2), none] [.int r3] σ2 Q)))) ∧ ((x1 = 8) → (gG (d + 1) mX9_readsBottles 39 [some (.ref 1), some (.int x1), some (.int x2), none] [.int 0] σ Q)))) ∧ ((¬ x2 < (σ 140 (0 : Int32).toNatClampNeg)) → (((x2 ≤ 0) → (Q (some (.int (-1))) σ)) ∧ ((¬ x2 ≤ 0) → (((¬ x1 = 8) → (gB d mX9_readsBottle [.ref 1, .int x1, .int x2] σ (fun v σ4 => ∃ r5 : Int32, v = some (.int r5) ∧ (gG (d + 1) mX9_readsBottles 39 [some (.ref 1), some (.int x1), some (.int x2), none] [.int r5] σ4 Q)))) ∧ ((x1 = 8) → (gG (d + 1) mX9_readsBottles 39 [some (.ref 1), some (.int x1), some (.int x2), none] [.int 0] σ Q))))))) : gG (d + 1) mX9_readsBottles 9 [some (.ref 1), some (.int x1), some (.int x2), none] [] σ Q := by
  refine g_iload_n (pc2 := 10) dX9_readsBottles_9 rfl rfl ?_
  refine g_aload_n (pc2 := 11) dX9_readsBottles_10 rfl rfl ?_
  refine g_geta (pc2 := 14) dX9_readsBottles_11 fl_X9_7 gk_1 rfl rfl ?_
  refine g_iconst (v := 0) (pc2 := 15) dX9_readsBottles_14 (by decide) rfl ?_
  refine g_iald (pc2 := 16) dX9_readsBottles_15 gk_140 (vp_in_iff.mpr (by decide)) rfl ?_
  refine g_icmp_lt (tgt := 23) (pc2 := 19) dX9_readsBottles_16 (by decide) rfl (fun c => ?_) (fun c => ?_)
  · have h := h.1 c
    refine g_iload_n (pc2 := 24) dX9_readsBottles_23 rfl rfl ?_
    refine g_bipush (v := 8) (pc2 := 26) dX9_readsBottles_24 (by decide) rfl ?_
    refine g_icmp_ne (tgt := 33) (pc2 := 29) dX9_readsBottles_26 (by decide) rfl (fun c => ?_) (fun c => ?_)
    · have h := h.1 c
      refine g_aload_n (pc2 := 34) dX9_readsBottles_33 rfl rfl ?_
      refine g_iload_n (pc2 := 35) dX9_readsBottles_34 rfl rfl ?_
      refine g_iload_n (pc2 := 36) dX9_readsBottles_35 rfl rfl ?_
      refine g_callV (M2 := mX9_readsBottle) (as := [.int x1, .int x2]) (st := []) (pc2 := 39) dX9_readsBottles_36 ml_X9_131 mvX9_readsBottle gk_1 rfl rfl rfl (Nat.le_of_ble_eq_true rfl) (Nat.le_refl _) rfl (h.mono ?_)
      rintro _ σ2 ⟨r3, rfl, h⟩
      show gG (d + 1) mX9_readsBottles 39 _ [.int r3] σ2 Q
      exact g_lw (lv2 := [some (.ref 1), some (.int x1), some (.int x2), none]) ⟨rfl, ⟨rfl, ⟨rfl, trivial⟩⟩⟩ h
    · have h := h.2 c
      refine g_iconst (v := 0) (pc2 := 30) dX9_readsBottles_29 (by decide) rfl ?_
      refine g_goto (tgt := 39) dX9_readsBottles_30 (by decide) ?_
      exact g_lw (lv2 := [some (.ref 1), some (.int x1), some (.int x2), none]) ⟨rfl, ⟨rfl, ⟨rfl, trivial⟩⟩⟩ h
  · have h := h.2 c
    refine g_iload_n (pc2 := 20) dX9_readsBottles_19 rfl rfl ?_
    refine g_if_le (tgt := 91) (pc2 := 23) dX9_readsBottles_20 (by decide) rfl (fun c => ?_) (fun c => ?_)
    · have h := h.1 c
      refine g_iconst (v := (-1)) (pc2 := 92) dX9_readsBottles_91 (by decide) rfl ?_
      exact g_iret dX9_readsBottles_92 rfl h
    · have h := h.2 c
      refine g_iload_n (pc2 := 24) dX9_readsBottles_23 rfl rfl ?_
      refine g_bipush (v := 8) (pc2 := 26) dX9_readsBottles_24 (by decide) rfl ?_
      refine g_icmp_ne (tgt := 33) (pc2 := 29) dX9_readsBottles_26 (by decide) rfl (fun c => ?_) (fun c => ?_)
      · have h := h.1 c
        refine g_aload_n (pc2 := 34) dX9_readsBottles_33 rfl rfl ?_
        refine g_iload_n (pc2 := 35) dX9_readsBottles_34 rfl rfl ?_
        refine g_iload_n (pc2 := 36) dX9_readsBottles_35 rfl rfl ?_
        refine g_callV (M2 := mX9_readsBottle) (as := [.int x1, .int x2]) (st := []) (pc2 := 39) dX9_readsBottles_36 ml_X9_131 mvX9_readsBottle gk_1 rfl rfl rfl (Nat.le_of_ble_eq_true rfl) (Nat.le_refl _) rfl (h.mono ?_)
        rintro _ σ4 ⟨r5, rfl, h⟩
        show gG (d + 1) mX9_readsBottles 39 _ [.int r5] σ4 Q
        exact g_lw (lv2 := [some (.ref 1), some (.int x1), some (.int x2), none]) ⟨rfl, ⟨rfl, ⟨rfl, trivial⟩⟩⟩ h
      · have h := h.2 c
        refine g_iconst (v := 0) (pc2 := 30) dX9_readsBottles_29 (by decide) rfl ?_
        refine g_goto (tgt := 39) dX9_readsBottles_30 (by decide) ?_
        exact g_lw (lv2 := [some (.ref 1), some (.int x1), some (.int x2), none]) ⟨rfl, ⟨rfl, ⟨rfl, trivial⟩⟩⟩ h
set_option maxRecDepth 20000 in
theorem bX9_readsBottles_39 {d : Nat} {σ : gw_S} {Q : Option Value → gw_S → Prop} {x1 : Int32} {x2 : Int32} {s0 : Int32}   (h : ((5 ≤ s0) → (((¬ (x2 + 5) = (σ 140 (0 : Int32).toNatClampNeg)) → (vp_in (x2 + 5) 94 ∧ ((((σ 141 (x2 + 5).toNatClampNeg) = 59) → (gG (d + 1) mX9_readsBottles 9 [some (.ref 1), some (.int (x1 + 1)), some (.int ((x2 + 5) + 1)), none] [] σ Q)) ∧ ((¬ (σ 141 (x2 + 5).toNatClampNeg) = 59) → (Q (some (.int (x2 + 5))) σ))))) ∧ (((x2 + 5) = (σ 140 (0 : Int32).toNatClampNeg)) → (∀ s6 : gw_S, s6 = gw_u σ 1 2 (x1 + 1) → (Q (some (.int (-1))) s6))))) ∧ ((¬ 5 ≤ s0) → (Q (some (.int (x2 + s0))) σ))) : gG (d + 1) mX9_readsBottles 39 [some (.ref 1), some (.int x1), some (.int x2), none] [.int s0] σ Q := by
  refine g_istore_n (pc2 := 40) dX9_readsBottles_39 (by decide) rfl rfl ?_
  refine g_iload_n (pc2 := 41) dX9_readsBottles_40 rfl rfl ?_
  refine g_iconst (v := 5) (pc2 := 42) dX9_readsBottles_41 (by decide) rfl ?_
  refine g_icmp_ge (tgt := 49) (pc2 := 45) dX9_readsBottles_42 (by decide) rfl (fun c => ?_) (fun c => ?_)
  · have h := h.1 c
    refine g_iinc2 (c := 1) (pc2 := 52) dX9_readsBottles_49 rfl (by decide) (by decide) rfl rfl ?_
    refine g_iinc2 (c := 5) (pc2 := 55) dX9_readsBottles_52 rfl (by decide) (by decide) rfl rfl ?_
    refine g_iload_n (pc2 := 56) dX9_readsBottles_55 rfl rfl ?_
    refine g_aload_n (pc2 := 57) dX9_readsBottles_56 rfl rfl ?_
    refine g_geta (pc2 := 60) dX9_readsBottles_57 fl_X9_7 gk_1 rfl rfl ?_
    refine g_iconst (v := 0) (pc2 := 61) dX9_readsBottles_60 (by decide) rfl ?_
    refine g_iald (pc2 := 62) dX9_readsBottles_61 gk_140 (vp_in_iff.mpr (by decide)) rfl ?_
    refine g_icmp_ne (tgt := 72) (pc2 := 65) dX9_readsBottles_62 (by decide) rfl (fun c => ?_) (fun c => ?_)
    · have h := h.1 c
      refine g_aload_n (pc2 := 73) dX9_readsBottles_72 rfl rfl ?_
      refine g_geta (pc2 := 76) dX9_readsBottles_73 fl_X9_13 gk_1 rfl rfl ?_
      refine g_iload_n (pc2 := 77) dX9_readsBottles_76 rfl rfl ?_
      obtain ⟨hx, h⟩ := h
      refine g_iald (pc2 := 78) dX9_readsBottles_77 gk_141 hx rfl ?_
      refine g_bipush (v := 59) (pc2 := 80) dX9_readsBottles_78 (by decide) rfl ?_
      refine g_icmp_eq (tgt := 85) (pc2 := 83) dX9_readsBottles_80 (by decide) rfl (fun c => ?_) (fun c => ?_)
      · have h := h.1 c
        refine g_iinc2 (c := 1) (pc2 := 88) dX9_readsBottles_85 rfl (by decide) (by decide) rfl rfl ?_
        refine g_goto (tgt := 9) dX9_readsBottles_88 (by decide) ?_
        exact g_lw (lv2 := [some (.ref 1), some (.int (x1 + 1)), some (.int ((x2 + 5) + 1)), none]) ⟨rfl, ⟨rfl, ⟨rfl, trivial⟩⟩⟩ h
      · have h := h.2 c
        refine g_iload_n (pc2 := 84) dX9_readsBottles_83 rfl rfl ?_
        exact g_iret dX9_readsBottles_84 rfl h
    · have h := h.2 c
      refine g_aload_n (pc2 := 66) dX9_readsBottles_65 rfl rfl ?_
      refine g_iload_n (pc2 := 67) dX9_readsBottles_66 rfl rfl ?_
      refine g_put2 (pc2 := 70) dX9_readsBottles_67 fp_X9_128 gk_1 rfl rfl rfl rfl (fun s6 es6 => ?_)
      replace h := h s6 es6
      refine g_iconst (v := (-1)) (pc2 := 71) dX9_readsBottles_70 (by decide) rfl ?_
      exact g_iret dX9_readsBottles_71 rfl h
  · have h := h.2 c
    refine g_iload_n (pc2 := 46) dX9_readsBottles_45 rfl rfl ?_
    refine g_iload_n (pc2 := 47) dX9_readsBottles_46 rfl rfl ?_
    refine g_iadd (pc2 := 48) dX9_readsBottles_47 rfl ?_
    exact g_iret dX9_readsBottles_48 rfl h
set_option maxRecDepth 20000 in
theorem eX9_readsSong {d : Nat} {σ : gw_S} {Q : Option Value → gw_S → Prop}    (h : ∀ s1 : gw_S, s1 = gw_u σ 1 7 0 → (gG (d + 1) mX9_readsSong 7 [some (.ref 1), some (.int 0), none] [] s1 Q)) : gB (d + 1) mX9_readsSong [.ref 1] σ Q := by
  refine gB_of rfl (Nat.le_of_ble_eq_true rfl) (g_lw (lv2 := [some (.ref 1), none, none]) ⟨rfl, trivial⟩ ?_)
  refine g_aload_n (pc2 := 1) dX9_readsSong_0 rfl rfl ?_
  refine g_iconst (v := 0) (pc2 := 2) dX9_readsSong_1 (by decide) rfl ?_
  refine g_put2 (pc2 := 5) dX9_readsSong_2 fp_X9_134 gk_1 rfl rfl rfl rfl (fun s1 es1 => ?_)
  replace h := h s1 es1
  refine g_iconst (v := 0) (pc2 := 6) dX9_readsSong_5 (by decide) rfl ?_
  refine g_istore_n (pc2 := 7) dX9_readsSong_6 (by decide) rfl rfl ?_
  exact g_lw (lv2 := [some (.ref 1), some (.int 0), none]) ⟨rfl, ⟨rfl, trivial⟩⟩ h
set_option maxRecDepth 20000 in
theorem bX9_readsSong_7 {d : Nat} {σ : gw_S} {Q : Option Value → gw_S → Prop} {x1 : Int32}   (h : (((σ 140 (1 : Int32).toNatClampNeg) ≤ x1) → (∀ s2 : gw_S, s2 = gw_u σ 1 7 (σ 140 (1 : Int32).toNatClampNeg) → (Q (some (.int (-1))) s2))) ∧ ((¬ (σ 140 (1 : Int32).toNatClampNeg) ≤ x1) → (gB d mX9_byteAt [.ref 1, .int 1, .int x1] σ (fun v σ3 => ∃ r4 : Int32, v = some (.int r4) ∧ (gB d mX9_in [.int r4, .int 97, .int 104] σ3 (fun v σ5 => ∃ r6 : Int32, v = some (.int r6) ∧ (((¬ r6 = 0) → (vp_in x1 8 ∧ (∀ s7 : gw_S, s7 = gw_u σ5 146 x1.toNatClampNeg (r4 - 97) → (gG (d + 1) mX9_readsSong 7 [some (.ref 1), some (.int (x1 + 1)), none] [] s7 Q)))) ∧ ((r6 = 0) → (Q (some (.int x1)) σ5))))))))) : gG (d + 1) mX9_readsSong 7 [some (.ref 1), some (.int x1), none] [] σ Q := by
  refine g_iload_n (pc2 := 8) dX9_readsSong_7 rfl rfl ?_
  refine g_aload_n (pc2 := 9) dX9_readsSong_8 rfl rfl ?_
  refine g_geta (pc2 := 12) dX9_readsSong_9 fl_X9_7 gk_1 rfl rfl ?_
  refine g_iconst (v := 1) (pc2 := 13) dX9_readsSong_12 (by decide) rfl ?_
  refine g_iald (pc2 := 14) dX9_readsSong_13 gk_140 (vp_in_iff.mpr (by decide)) rfl ?_
  refine g_icmp_ge (tgt := 53) (pc2 := 17) dX9_readsSong_14 (by decide) rfl (fun c => ?_) (fun c => ?_)
  · have h := h.1 c
    refine g_aload_n (pc2 := 54) dX9_readsSong_53 rfl rfl ?_
    refine g_aload_n (pc2 := 55) dX9_readsSong_54 rfl rfl ?_
    refine g_geta (pc2 := 58) dX9_readsSong_55 fl_X9_7 gk_1 rfl rfl ?_
    refine g_iconst (v := 1) (pc2 := 59) dX9_readsSong_58 (by decide) rfl ?_
    refine g_iald (pc2 := 60) dX9_readsSong_59 gk_140 (vp_in_iff.mpr (by decide)) rfl ?_
    refine g_put2 (pc2 := 63) dX9_readsSong_60 fp_X9_134 gk_1 rfl rfl rfl rfl (fun s2 es2 => ?_)
    replace h := h s2 es2
    refine g_iconst (v := (-1)) (pc2 := 64) dX9_readsSong_63 (by decide) rfl ?_
    exact g_iret dX9_readsSong_64 rfl h
  · have h := h.2 c
    refine g_aload_n (pc2 := 18) dX9_readsSong_17 rfl rfl ?_
    refine g_iconst (v := 1) (pc2 := 19) dX9_readsSong_18 (by decide) rfl ?_
    refine g_iload_n (pc2 := 20) dX9_readsSong_19 rfl rfl ?_
    refine g_callV (M2 := mX9_byteAt) (as := [.int 1, .int x1]) (st := []) (pc2 := 23) dX9_readsSong_20 ml_X9_124 mvX9_byteAt gk_1 rfl rfl rfl (Nat.le_of_ble_eq_true rfl) (Nat.le_refl _) rfl (h.mono ?_)
    rintro _ σ3 ⟨r4, rfl, h⟩
    show gG (d + 1) mX9_readsSong 23 _ [.int r4] σ3 Q
    refine g_istore_n (pc2 := 24) dX9_readsSong_23 (by decide) rfl rfl ?_
    refine g_iload_n (pc2 := 25) dX9_readsSong_24 rfl rfl ?_
    refine g_bipush (v := 97) (pc2 := 27) dX9_readsSong_25 (by decide) rfl ?_
    refine g_bipush (v := 104) (pc2 := 29) dX9_readsSong_27 (by decide) rfl ?_
    refine g_callS (M2 := mX9_in) (as := [.int r4, .int 97, .int 104]) (st := []) (pc2 := 32) dX9_readsSong_29 ml_X9_116 msX9_in rfl rfl (Nat.le_of_ble_eq_true rfl) (Nat.le_refl _) rfl (h.mono ?_)
    rintro _ σ5 ⟨r6, rfl, h⟩
    show gG (d + 1) mX9_readsSong 32 _ [.int r6] σ5 Q
    refine g_if_ne (tgt := 37) (pc2 := 35) dX9_readsSong_32 (by decide) rfl (fun c => ?_) (fun c => ?_)
    · have h := h.1 c
      refine g_aload_n (pc2 := 38) dX9_readsSong_37 rfl rfl ?_
      refine g_geta (pc2 := 41) dX9_readsSong_38 fl_X9_28 gk_1 rfl rfl ?_
      refine g_iload_n (pc2 := 42) dX9_readsSong_41 rfl rfl ?_
      refine g_iload_n (pc2 := 43) dX9_readsSong_42 rfl rfl ?_
      refine g_bipush (v := 97) (pc2 := 45) dX9_readsSong_43 (by decide) rfl ?_
      refine g_isub (pc2 := 46) dX9_readsSong_45 rfl ?_
      obtain ⟨hx, h⟩ := h
      refine g_iast2 (pc2 := 47) dX9_readsSong_46 gk_146 hx rfl (fun s7 es7 => ?_)
      replace h := h s7 es7
      refine g_iinc2 (c := 1) (pc2 := 50) dX9_readsSong_47 rfl (by decide) (by decide) rfl rfl ?_
      refine g_goto (tgt := 7) dX9_readsSong_50 (by decide) ?_
      exact g_lw (lv2 := [some (.ref 1), some (.int (x1 + 1)), none]) ⟨rfl, ⟨rfl, trivial⟩⟩ h
    · have h := h.2 c
      refine g_iload_n (pc2 := 36) dX9_readsSong_35 rfl rfl ?_
      exact g_iret dX9_readsSong_36 rfl h
set_option maxRecDepth 20000 in
theorem eX9_runs {d : Nat} {σ : gw_S} {Q : Option Value → gw_S → Prop} {x1 : Int32}   (h : gB d mX9_begins [.ref 1] σ (fun v σ1 => v = none ∧ (gG (d + 1) mX9_runs 6 [some (.ref 1), some (.int x1), some (.int 0)] [] σ1 Q))) : gB (d + 1) mX9_runs [.ref 1, .int x1] σ Q := by
  refine gB_of rfl (Nat.le_of_ble_eq_true rfl) (g_lw (lv2 := [some (.ref 1), some (.int x1), none]) ⟨rfl, ⟨rfl, trivial⟩⟩ ?_)
  refine g_aload_n (pc2 := 1) dX9_runs_0 rfl rfl ?_
  refine g_callV (M2 := mX9_begins) (as := []) (st := []) (pc2 := 4) dX9_runs_1 ml_X9_229 mvX9_begins gk_1 rfl rfl rfl (Nat.le_of_ble_eq_true rfl) (Nat.le_refl _) rfl (h.mono ?_)
  rintro _ σ1 ⟨rfl, h⟩
  show gG (d + 1) mX9_runs 4 _ [] σ1 Q
  refine g_iconst (v := 0) (pc2 := 5) dX9_runs_4 (by decide) rfl ?_
  refine g_istore_n (pc2 := 6) dX9_runs_5 (by decide) rfl rfl ?_
  exact g_lw (lv2 := [some (.ref 1), some (.int x1), some (.int 0)]) ⟨rfl, ⟨rfl, ⟨rfl, trivial⟩⟩⟩ h
set_option maxRecDepth 20000 in
theorem bX9_runs_6 {d : Nat} {σ : gw_S} {Q : Option Value → gw_S → Prop} {x1 : Int32} {x2 : Int32}   (h : ((x1 < x2) → (Q none σ)) ∧ ((¬ x1 < x2) → (gB d mX9_goesBy [.ref 1, .int x2] σ (fun v σ2 => v = none ∧ (gG (d + 1) mX9_runs 6 [some (.ref 1), some (.int x1), some (.int (x2 + 1))] [] σ2 Q))))) : gG (d + 1) mX9_runs 6 [some (.ref 1), some (.int x1), some (.int x2)] [] σ Q := by
  refine g_iload_n (pc2 := 7) dX9_runs_6 rfl rfl ?_
  refine g_iload_n (pc2 := 8) dX9_runs_7 rfl rfl ?_
  refine g_icmp_gt (tgt := 22) (pc2 := 11) dX9_runs_8 (by decide) rfl (fun c => ?_) (fun c => ?_)
  · have h := h.1 c
    exact g_vret dX9_runs_22 rfl h
  · have h := h.2 c
    refine g_aload_n (pc2 := 12) dX9_runs_11 rfl rfl ?_
    refine g_iload_n (pc2 := 13) dX9_runs_12 rfl rfl ?_
    refine g_callV (M2 := mX9_goesBy) (as := [.int x2]) (st := []) (pc2 := 16) dX9_runs_13 ml_X9_232 mvX9_goesBy gk_1 rfl rfl rfl (Nat.le_of_ble_eq_true rfl) (Nat.le_refl _) rfl (h.mono ?_)
    rintro _ σ2 ⟨rfl, h⟩
    show gG (d + 1) mX9_runs 16 _ [] σ2 Q
    refine g_iinc2 (c := 1) (pc2 := 19) dX9_runs_16 rfl (by decide) (by decide) rfl rfl ?_
    refine g_goto (tgt := 6) dX9_runs_19 (by decide) ?_
    exact g_lw (lv2 := [some (.ref 1), some (.int x1), some (.int (x2 + 1))]) ⟨rfl, ⟨rfl, ⟨rfl, trivial⟩⟩⟩ h
set_option maxRecDepth 20000 in
theorem eX9_runsTold {d : Nat} {σ : gw_S} {Q : Option Value → gw_S → Prop} {x1 : Int32}   (h : gB d mX9_asTold [.ref 1] σ (fun v σ1 => v = none ∧ (gB d mX9_runs [.ref 1, .int x1] σ1 (fun v σ2 => v = none ∧ (Q none σ2))))) : gB (d + 1) mX9_runsTold [.ref 1, .int x1] σ Q := by
  refine gB_of rfl (Nat.le_of_ble_eq_true rfl) (g_lw (lv2 := [some (.ref 1), some (.int x1)]) ⟨rfl, ⟨rfl, trivial⟩⟩ ?_)
  refine g_aload_n (pc2 := 1) dX9_runsTold_0 rfl rfl ?_
  refine g_callV (M2 := mX9_asTold) (as := []) (st := []) (pc2 := 4) dX9_runsTold_1 ml_X9_236 mvX9_asTold gk_1 rfl rfl rfl (Nat.le_of_ble_eq_true rfl) (Nat.le_refl _) rfl (h.mono ?_)
  rintro _ σ1 ⟨rfl, h⟩
  show gG (d + 1) mX9_runsTold 4 _ [] σ1 Q
  refine g_aload_n (pc2 := 5) dX9_runsTold_4 rfl rfl ?_
  refine g_iload_n (pc2 := 6) dX9_runsTold_5 rfl rfl ?_
  refine g_callV (M2 := mX9_runs) (as := [.int x1]) (st := []) (pc2 := 9) dX9_runsTold_6 ml_X9_239 mvX9_runs gk_1 rfl rfl rfl (Nat.le_of_ble_eq_true rfl) (Nat.le_refl _) rfl (h.mono ?_)
  rintro _ σ2 ⟨rfl, h⟩
  show gG (d + 1) mX9_runsTold 9 _ [] σ2 Q
  exact g_vret dX9_runsTold_9 rfl h
set_option maxRecDepth 20000 in
theorem eX9_sells {d : Nat} {σ : gw_S} {Q : Option Value → gw_S → Prop} {x1 : Int32} {x2 : Int32}   (h : (((σ 1 2) ≤ x1) → ((((0 : Int32) = 0) → (Q (some (.int 0)) σ)) ∧ ((¬ (0 : Int32) = 0) → (vp_in x1 8 ∧ (∀ s1 : gw_S, s1 = gw_u σ 156 x1.toNatClampNeg x2 → (Q (some (.int 0)) s1)))))) ∧ ((¬ (σ 1 2) ≤ x1) → (vp_in x1 8 ∧ ((((σ 156 x1.toNatClampNeg) = x2) → ((((0 : Int32) = 0) → (Q (some (.int 0)) σ)) ∧ ((¬ (0 : Int32) = 0) → (vp_in x1 8 ∧ (∀ s2 : gw_S, s2 = gw_u σ 156 x1.toNatClampNeg x2 → (Q (some (.int 0)) s2)))))) ∧ ((¬ (σ 156 x1.toNatClampNeg) = x2) → ((((1 : Int32) = 0) → (Q (some (.int 1)) σ)) ∧ ((¬ (1 : Int32) = 0) → (vp_in x1 8 ∧ (∀ s3 : gw_S, s3 = gw_u σ 156 x1.toNatClampNeg x2 → (Q (some (.int 1)) s3)))))))))) : gB d mX9_sells [.ref 1, .int x1, .int x2] σ Q := by
  refine gB_of rfl (Nat.le_of_ble_eq_true rfl) (g_lw (lv2 := [some (.ref 1), some (.int x1), some (.int x2), none]) ⟨rfl, ⟨rfl, ⟨rfl, trivial⟩⟩⟩ ?_)
  refine g_iload_n (pc2 := 1) dX9_sells_0 rfl rfl ?_
  refine g_aload_n (pc2 := 2) dX9_sells_1 rfl rfl ?_
  refine g_geti (pc2 := 5) dX9_sells_2 fl_X9_128 gk_1 rfl rfl ?_
  refine g_icmp_ge (tgt := 22) (pc2 := 8) dX9_sells_5 (by decide) rfl (fun c => ?_) (fun c => ?_)
  · have h := h.1 c
    refine g_iconst (v := 0) (pc2 := 23) dX9_sells_22 (by decide) rfl ?_
    refine g_istore_n (pc2 := 24) dX9_sells_23 (by decide) rfl rfl ?_
    refine g_iload_n (pc2 := 25) dX9_sells_24 rfl rfl ?_
    refine g_if_eq (tgt := 35) (pc2 := 28) dX9_sells_25 (by decide) rfl (fun c => ?_) (fun c => ?_)
    · have h := h.1 c
      refine g_iload_n (pc2 := 36) dX9_sells_35 rfl rfl ?_
      exact g_zret dX9_sells_36 rfl rfl h
    · have h := h.2 c
      refine g_aload_n (pc2 := 29) dX9_sells_28 rfl rfl ?_
      refine g_geta (pc2 := 32) dX9_sells_29 fl_X9_58 gk_1 rfl rfl ?_
      refine g_iload_n (pc2 := 33) dX9_sells_32 rfl rfl ?_
      refine g_iload_n (pc2 := 34) dX9_sells_33 rfl rfl ?_
      obtain ⟨hx, h⟩ := h
      refine g_iast2 (pc2 := 35) dX9_sells_34 gk_156 hx rfl (fun s1 es1 => ?_)
      replace h := h s1 es1
      refine g_iload_n (pc2 := 36) dX9_sells_35 rfl rfl ?_
      exact g_zret dX9_sells_36 rfl rfl h
  · have h := h.2 c
    refine g_aload_n (pc2 := 9) dX9_sells_8 rfl rfl ?_
    refine g_geta (pc2 := 12) dX9_sells_9 fl_X9_58 gk_1 rfl rfl ?_
    refine g_iload_n (pc2 := 13) dX9_sells_12 rfl rfl ?_
    obtain ⟨hx, h⟩ := h
    refine g_iald (pc2 := 14) dX9_sells_13 gk_156 hx rfl ?_
    refine g_iload_n (pc2 := 15) dX9_sells_14 rfl rfl ?_
    refine g_icmp_eq (tgt := 22) (pc2 := 18) dX9_sells_15 (by decide) rfl (fun c => ?_) (fun c => ?_)
    · have h := h.1 c
      refine g_iconst (v := 0) (pc2 := 23) dX9_sells_22 (by decide) rfl ?_
      refine g_istore_n (pc2 := 24) dX9_sells_23 (by decide) rfl rfl ?_
      refine g_iload_n (pc2 := 25) dX9_sells_24 rfl rfl ?_
      refine g_if_eq (tgt := 35) (pc2 := 28) dX9_sells_25 (by decide) rfl (fun c => ?_) (fun c => ?_)
      · have h := h.1 c
        refine g_iload_n (pc2 := 36) dX9_sells_35 rfl rfl ?_
        exact g_zret dX9_sells_36 rfl rfl h
      · have h := h.2 c
        refine g_aload_n (pc2 := 29) dX9_sells_28 rfl rfl ?_
        refine g_geta (pc2 := 32) dX9_sells_29 fl_X9_58 gk_1 rfl rfl ?_
        refine g_iload_n (pc2 := 33) dX9_sells_32 rfl rfl ?_
        refine g_iload_n (pc2 := 34) dX9_sells_33 rfl rfl ?_
        obtain ⟨hx, h⟩ := h
        refine g_iast2 (pc2 := 35) dX9_sells_34 gk_156 hx rfl (fun s2 es2 => ?_)
        replace h := h s2 es2
        refine g_iload_n (pc2 := 36) dX9_sells_35 rfl rfl ?_
        exact g_zret dX9_sells_36 rfl rfl h
    · have h := h.2 c
      refine g_iconst (v := 1) (pc2 := 19) dX9_sells_18 (by decide) rfl ?_
      refine g_goto (tgt := 23) dX9_sells_19 (by decide) ?_
      refine g_istore_n (pc2 := 24) dX9_sells_23 (by decide) rfl rfl ?_
      refine g_iload_n (pc2 := 25) dX9_sells_24 rfl rfl ?_
      refine g_if_eq (tgt := 35) (pc2 := 28) dX9_sells_25 (by decide) rfl (fun c => ?_) (fun c => ?_)
      · have h := h.1 c
        refine g_iload_n (pc2 := 36) dX9_sells_35 rfl rfl ?_
        exact g_zret dX9_sells_36 rfl rfl h
      · have h := h.2 c
        refine g_aload_n (pc2 := 29) dX9_sells_28 rfl rfl ?_
        refine g_geta (pc2 := 32) dX9_sells_29 fl_X9_58 gk_1 rfl rfl ?_
        refine g_iload_n (pc2 := 33) dX9_sells_32 rfl rfl ?_
        refine g_iload_n (pc2 := 34) dX9_sells_33 rfl rfl ?_
        obtain ⟨hx, h⟩ := h
        refine g_iast2 (pc2 := 35) dX9_sells_34 gk_156 hx rfl (fun s3 es3 => ?_)
        replace h := h s3 es3
        refine g_iload_n (pc2 := 36) dX9_sells_35 rfl rfl ?_
        exact g_zret dX9_sells_36 rfl rfl h
set_option maxRecDepth 20000 in
theorem eX9_sheet {d : Nat} {σ : gw_S} {Q : Option Value → gw_S → Prop} {x1 : Int32} {x2 : Int32} {x3 : Int32}   (h : gB d mX9_isSheet [.int x1] σ (fun v σ1 => ∃ r2 : Int32, v = some (.int r2) ∧ (((r2 = 0) → (Q (some (.int (-2))) σ1)) ∧ ((¬ r2 = 0) → (gB d mX9_in [.int x2, .int 0, .int 2] σ1 (fun v σ3 => ∃ r4 : Int32, v = some (.int r4) ∧ (((r4 = 0) → (Q (some (.int (-2))) σ3)) ∧ ((¬ r4 = 0) → (((x3 ≤ 60) → (((0 ≤ x3) → (vp_in x1 4 ∧ (∀ s5 : gw_S, s5 = gw_u σ3 168 x1.toNatClampNeg (vp_nar .boolean 1) → (vp_in x1 4 ∧ (∀ s6 : gw_S, s6 = gw_u s5 169 x1.toNatClampNeg x2 → (vp_in x1 4 ∧ (∀ s7 : gw_S, s7 = gw_u s6 170 x1.toNatClampNeg x3 → (gG (d + 1) mX9_sheet 59 [some (.ref 1), some (.int x1), none, some (.int x3), some (.int 0)] [] s7 Q)))))))) ∧ ((¬ 0 ≤ x3) → (gB d mX9_meets [.ref 1, .int 5] σ3 (fun v σ8 => ∃ r9 : Int32, v = some (.int r9) ∧ (Q (some (.int r9)) σ8)))))) ∧ ((¬ x3 ≤ 60) → (Q (some (.int (-2))) σ3))))))))))) : gB (d + 1) mX9_sheet [.ref 1, .int x1, .int x2, .int x3] σ Q := by
  refine gB_of rfl (Nat.le_of_ble_eq_true rfl) (g_lw (lv2 := [some (.ref 1), some (.int x1), some (.int x2), some (.int x3), none]) ⟨rfl, ⟨rfl, ⟨rfl, ⟨rfl, trivial⟩⟩⟩⟩ ?_)
  refine g_iload_n (pc2 := 1) dX9_sheet_0 rfl rfl ?_
  refine g_callS (M2 := mX9_isSheet) (as := [.int x1]) (st := []) (pc2 := 4) dX9_sheet_1 ml_X9_172 msX9_isSheet rfl rfl (Nat.le_of_ble_eq_true rfl) (Nat.le_refl _) rfl (h.mono ?_)
  rintro _ σ1 ⟨r2, rfl, h⟩
  show gG (d + 1) mX9_sheet 4 _ [.int r2] σ1 Q
  refine g_if_eq (tgt := 22) (pc2 := 7) dX9_sheet_4 (by decide) rfl (fun c => ?_) (fun c => ?_)
  · have h := h.1 c
    refine g_bipush (v := (-2)) (pc2 := 24) dX9_sheet_22 (by decide) rfl ?_
    exact g_iret dX9_sheet_24 rfl h
  · have h := h.2 c
    refine g_iload_n (pc2 := 8) dX9_sheet_7 rfl rfl ?_
    refine g_iconst (v := 0) (pc2 := 9) dX9_sheet_8 (by decide) rfl ?_
    refine g_iconst (v := 2) (pc2 := 10) dX9_sheet_9 (by decide) rfl ?_
    refine g_callS (M2 := mX9_in) (as := [.int x2, .int 0, .int 2]) (st := []) (pc2 := 13) dX9_sheet_10 ml_X9_116 msX9_in rfl rfl (Nat.le_of_ble_eq_true rfl) (Nat.le_refl _) rfl (h.mono ?_)
    rintro _ σ3 ⟨r4, rfl, h⟩
    show gG (d + 1) mX9_sheet 13 _ [.int r4] σ3 Q
    refine g_if_eq (tgt := 22) (pc2 := 16) dX9_sheet_13 (by decide) rfl (fun c => ?_) (fun c => ?_)
    · have h := h.1 c
      refine g_bipush (v := (-2)) (pc2 := 24) dX9_sheet_22 (by decide) rfl ?_
      exact g_iret dX9_sheet_24 rfl h
    · have h := h.2 c
      refine g_iload_n (pc2 := 17) dX9_sheet_16 rfl rfl ?_
      refine g_bipush (v := 60) (pc2 := 19) dX9_sheet_17 (by decide) rfl ?_
      refine g_icmp_le (tgt := 25) (pc2 := 22) dX9_sheet_19 (by decide) rfl (fun c => ?_) (fun c => ?_)
      · have h := h.1 c
        refine g_iload_n (pc2 := 26) dX9_sheet_25 rfl rfl ?_
        refine g_if_ge (tgt := 35) (pc2 := 29) dX9_sheet_26 (by decide) rfl (fun c => ?_) (fun c => ?_)
        · have h := h.1 c
          refine g_aload_n (pc2 := 36) dX9_sheet_35 rfl rfl ?_
          refine g_geta (pc2 := 39) dX9_sheet_36 fl_X9_95 gk_1 rfl rfl ?_
          refine g_iload_n (pc2 := 40) dX9_sheet_39 rfl rfl ?_
          refine g_iconst (v := 1) (pc2 := 41) dX9_sheet_40 (by decide) rfl ?_
          obtain ⟨hx, h⟩ := h
          refine g_zast2 (pc2 := 42) dX9_sheet_41 gk_168 hx rfl (fun s5 es5 => ?_)
          replace h := h s5 es5
          refine g_aload_n (pc2 := 43) dX9_sheet_42 rfl rfl ?_
          refine g_geta (pc2 := 46) dX9_sheet_43 fl_X9_98 gk_1 rfl rfl ?_
          refine g_iload_n (pc2 := 47) dX9_sheet_46 rfl rfl ?_
          refine g_iload_n (pc2 := 48) dX9_sheet_47 rfl rfl ?_
          obtain ⟨hx, h⟩ := h
          refine g_iast2 (pc2 := 49) dX9_sheet_48 gk_169 hx rfl (fun s6 es6 => ?_)
          replace h := h s6 es6
          refine g_aload_n (pc2 := 50) dX9_sheet_49 rfl rfl ?_
          refine g_geta (pc2 := 53) dX9_sheet_50 fl_X9_101 gk_1 rfl rfl ?_
          refine g_iload_n (pc2 := 54) dX9_sheet_53 rfl rfl ?_
          refine g_iload_n (pc2 := 55) dX9_sheet_54 rfl rfl ?_
          obtain ⟨hx, h⟩ := h
          refine g_iast2 (pc2 := 56) dX9_sheet_55 gk_170 hx rfl (fun s7 es7 => ?_)
          replace h := h s7 es7
          refine g_iconst (v := 0) (pc2 := 57) dX9_sheet_56 (by decide) rfl ?_
          refine g_istore (pc2 := 59) dX9_sheet_57 (by decide) rfl rfl ?_
          exact g_lw (lv2 := [some (.ref 1), some (.int x1), none, some (.int x3), some (.int 0)]) ⟨rfl, ⟨rfl, ⟨rfl, ⟨rfl, trivial⟩⟩⟩⟩ h
        · have h := h.2 c
          refine g_aload_n (pc2 := 30) dX9_sheet_29 rfl rfl ?_
          refine g_iconst (v := 5) (pc2 := 31) dX9_sheet_30 (by decide) rfl ?_
          refine g_callV (M2 := mX9_meets) (as := [.int 5]) (st := []) (pc2 := 34) dX9_sheet_31 ml_X9_175 mvX9_meets gk_1 rfl rfl rfl (Nat.le_of_ble_eq_true rfl) (Nat.le_refl _) rfl (h.mono ?_)
          rintro _ σ8 ⟨r9, rfl, h⟩
          show gG (d + 1) mX9_sheet 34 _ [.int r9] σ8 Q
          exact g_iret dX9_sheet_34 rfl h
      · have h := h.2 c
        refine g_bipush (v := (-2)) (pc2 := 24) dX9_sheet_22 (by decide) rfl ?_
        exact g_iret dX9_sheet_24 rfl h
set_option maxRecDepth 20000 in
theorem bX9_sheet_59 {d : Nat} {σ : gw_S} {Q : Option Value → gw_S → Prop} {x1 : Int32} {x3 : Int32} {x4 : Int32}   (h : ((60 ≤ x4) → (Q (some (.int x3)) σ)) ∧ ((¬ 60 ≤ x4) → (vp_in ((60 * x1) + x4) 240 ∧ (∀ s10 : gw_S, s10 = gw_u σ 171 ((60 * x1) + x4).toNatClampNeg 0 → (gG (d + 1) mX9_sheet 59 [some (.ref 1), some (.int x1), none, some (.int x3), some (.int (x4 + 1))] [] s10 Q))))) : gG (d + 1) mX9_sheet 59 [some (.ref 1), some (.int x1), none, some (.int x3), some (.int x4)] [] σ Q := by
  refine g_iload (pc2 := 61) dX9_sheet_59 rfl rfl ?_
  refine g_bipush (v := 60) (pc2 := 63) dX9_sheet_61 (by decide) rfl ?_
  refine g_icmp_ge (tgt := 85) (pc2 := 66) dX9_sheet_63 (by decide) rfl (fun c => ?_) (fun c => ?_)
  · have h := h.1 c
    refine g_iload_n (pc2 := 86) dX9_sheet_85 rfl rfl ?_
    exact g_iret dX9_sheet_86 rfl h
  · have h := h.2 c
    refine g_aload_n (pc2 := 67) dX9_sheet_66 rfl rfl ?_
    refine g_geta (pc2 := 70) dX9_sheet_67 fl_X9_104 gk_1 rfl rfl ?_
    refine g_bipush (v := 60) (pc2 := 72) dX9_sheet_70 (by decide) rfl ?_
    refine g_iload_n (pc2 := 73) dX9_sheet_72 rfl rfl ?_
    refine g_imul (pc2 := 74) dX9_sheet_73 rfl ?_
    refine g_iload (pc2 := 76) dX9_sheet_74 rfl rfl ?_
    refine g_iadd (pc2 := 77) dX9_sheet_76 rfl ?_
    refine g_iconst (v := 0) (pc2 := 78) dX9_sheet_77 (by decide) rfl ?_
    obtain ⟨hx, h⟩ := h
    refine g_iast2 (pc2 := 79) dX9_sheet_78 gk_171 hx rfl (fun s10 es10 => ?_)
    replace h := h s10 es10
    refine g_iinc2 (c := 1) (pc2 := 82) dX9_sheet_79 rfl (by decide) (by decide) rfl rfl ?_
    refine g_goto (tgt := 59) dX9_sheet_82 (by decide) ?_
    exact g_lw (lv2 := [some (.ref 1), some (.int x1), none, some (.int x3), some (.int (x4 + 1))]) ⟨rfl, ⟨rfl, ⟨rfl, ⟨rfl, trivial⟩⟩⟩⟩ h
set_option maxRecDepth 20000 in
theorem eX9_sing {d : Nat} {σ : gw_S} {Q : Option Value → gw_S → Prop} {x1 : Int32} {x2 : Int32}   (h : gB d mX9_isDay [.int x1] σ (fun v σ1 => ∃ r2 : Int32, v = some (.int r2) ∧ (((r2 = 0) → (Q (some (.int (-2))) σ1)) ∧ ((¬ r2 = 0) → (gB d mX9_in [.int x2, .int (-1), .int 7] σ1 (fun v σ3 => ∃ r4 : Int32, v = some (.int r4) ∧ (((r4 = 0) → (Q (some (.int (-2))) σ3)) ∧ ((¬ r4 = 0) → (gB d mX9_singOf [.ref 1, .int x1, .int x2] σ3 (fun v σ5 => ∃ r6 : Int32, v = some (.int r6) ∧ (Q (some (.int r6)) σ5))))))))))) : gB (d + 1) mX9_sing [.ref 1, .int x1, .int x2] σ Q := by
  refine gB_of rfl (Nat.le_of_ble_eq_true rfl) (g_lw (lv2 := [some (.ref 1), some (.int x1), some (.int x2)]) ⟨rfl, ⟨rfl, ⟨rfl, trivial⟩⟩⟩ ?_)
  refine g_iload_n (pc2 := 1) dX9_sing_0 rfl rfl ?_
  refine g_callS (M2 := mX9_isDay) (as := [.int x1]) (st := []) (pc2 := 4) dX9_sing_1 ml_X9_163 msX9_isDay rfl rfl (Nat.le_of_ble_eq_true rfl) (Nat.le_refl _) rfl (h.mono ?_)
  rintro _ σ1 ⟨r2, rfl, h⟩
  show gG (d + 1) mX9_sing 4 _ [.int r2] σ1 Q
  refine g_if_eq (tgt := 26) (pc2 := 7) dX9_sing_4 (by decide) rfl (fun c => ?_) (fun c => ?_)
  · have h := h.1 c
    refine g_bipush (v := (-2)) (pc2 := 28) dX9_sing_26 (by decide) rfl ?_
    exact g_iret dX9_sing_28 rfl h
  · have h := h.2 c
    refine g_iload_n (pc2 := 8) dX9_sing_7 rfl rfl ?_
    refine g_iconst (v := (-1)) (pc2 := 9) dX9_sing_8 (by decide) rfl ?_
    refine g_bipush (v := 7) (pc2 := 11) dX9_sing_9 (by decide) rfl ?_
    refine g_callS (M2 := mX9_in) (as := [.int x2, .int (-1), .int 7]) (st := []) (pc2 := 14) dX9_sing_11 ml_X9_116 msX9_in rfl rfl (Nat.le_of_ble_eq_true rfl) (Nat.le_refl _) rfl (h.mono ?_)
    rintro _ σ3 ⟨r4, rfl, h⟩
    show gG (d + 1) mX9_sing 14 _ [.int r4] σ3 Q
    refine g_if_eq (tgt := 26) (pc2 := 17) dX9_sing_14 (by decide) rfl (fun c => ?_) (fun c => ?_)
    · have h := h.1 c
      refine g_bipush (v := (-2)) (pc2 := 28) dX9_sing_26 (by decide) rfl ?_
      exact g_iret dX9_sing_28 rfl h
    · have h := h.2 c
      refine g_aload_n (pc2 := 18) dX9_sing_17 rfl rfl ?_
      refine g_iload_n (pc2 := 19) dX9_sing_18 rfl rfl ?_
      refine g_iload_n (pc2 := 20) dX9_sing_19 rfl rfl ?_
      refine g_callV (M2 := mX9_singOf) (as := [.int x1, .int x2]) (st := []) (pc2 := 23) dX9_sing_20 ml_X9_283 mvX9_singOf gk_1 rfl rfl rfl (Nat.le_of_ble_eq_true rfl) (Nat.le_refl _) rfl (h.mono ?_)
      rintro _ σ5 ⟨r6, rfl, h⟩
      show gG (d + 1) mX9_sing 23 _ [.int r6] σ5 Q
      refine g_goto (tgt := 28) dX9_sing_23 (by decide) ?_
      exact g_iret dX9_sing_28 rfl h
set_option maxRecDepth 20000 in
theorem eX9_singOf {d : Nat} {σ : gw_S} {Q : Option Value → gw_S → Prop} {x1 : Int32} {x2 : Int32}   (h : gB d mX9_runsTold [.ref 1, .int x1] σ (fun v σ1 => v = none ∧ (gB d mX9_laysSpills [.ref 1] σ1 (fun v σ2 => ∃ r3 : Int32, v = some (.int r3) ∧ (((x2 = (-1)) → (Q (some (.int r3)) σ2)) ∧ ((¬ x2 = (-1)) → (((¬ r3 = (-1)) → (gG (d + 1) mX9_singOf 31 [some (.ref 1), none, some (.int x2), none, some (.int 0), some (.int (-1)), some (.int 0), none, none] [] σ2 Q)) ∧ ((r3 = (-1)) → (Q (some (.int r3)) σ2))))))))) : gB (d + 1) mX9_singOf [.ref 1, .int x1, .int x2] σ Q := by
  refine gB_of rfl (Nat.le_of_ble_eq_true rfl) (g_lw (lv2 := [some (.ref 1), some (.int x1), some (.int x2), none, none, none, none, none, none]) ⟨rfl, ⟨rfl, ⟨rfl, trivial⟩⟩⟩ ?_)
  refine g_aload_n (pc2 := 1) dX9_singOf_0 rfl rfl ?_
  refine g_iload_n (pc2 := 2) dX9_singOf_1 rfl rfl ?_
  refine g_callV (M2 := mX9_runsTold) (as := [.int x1]) (st := []) (pc2 := 5) dX9_singOf_2 ml_X9_242 mvX9_runsTold gk_1 rfl rfl rfl (Nat.le_of_ble_eq_true rfl) (Nat.le_refl _) rfl (h.mono ?_)
  rintro _ σ1 ⟨rfl, h⟩
  show gG (d + 1) mX9_singOf 5 _ [] σ1 Q
  refine g_aload_n (pc2 := 6) dX9_singOf_5 rfl rfl ?_
  refine g_callV (M2 := mX9_laysSpills) (as := []) (st := []) (pc2 := 9) dX9_singOf_6 ml_X9_280 mvX9_laysSpills gk_1 rfl rfl rfl (Nat.le_of_ble_eq_true rfl) (Nat.le_refl _) rfl (h.mono ?_)
  rintro _ σ2 ⟨r3, rfl, h⟩
  show gG (d + 1) mX9_singOf 9 _ [.int r3] σ2 Q
  refine g_istore_n (pc2 := 10) dX9_singOf_9 (by decide) rfl rfl ?_
  refine g_iload_n (pc2 := 11) dX9_singOf_10 rfl rfl ?_
  refine g_iconst (v := (-1)) (pc2 := 12) dX9_singOf_11 (by decide) rfl ?_
  refine g_icmp_eq (tgt := 20) (pc2 := 15) dX9_singOf_12 (by decide) rfl (fun c => ?_) (fun c => ?_)
  · have h := h.1 c
    refine g_iload_n (pc2 := 21) dX9_singOf_20 rfl rfl ?_
    exact g_iret dX9_singOf_21 rfl h
  · have h := h.2 c
    refine g_iload_n (pc2 := 16) dX9_singOf_15 rfl rfl ?_
    refine g_iconst (v := (-1)) (pc2 := 17) dX9_singOf_16 (by decide) rfl ?_
    refine g_icmp_ne (tgt := 22) (pc2 := 20) dX9_singOf_17 (by decide) rfl (fun c => ?_) (fun c => ?_)
    · have h := h.1 c
      refine g_iconst (v := 0) (pc2 := 23) dX9_singOf_22 (by decide) rfl ?_
      refine g_istore (pc2 := 25) dX9_singOf_23 (by decide) rfl rfl ?_
      refine g_iconst (v := (-1)) (pc2 := 26) dX9_singOf_25 (by decide) rfl ?_
      refine g_istore (pc2 := 28) dX9_singOf_26 (by decide) rfl rfl ?_
      refine g_iconst (v := 0) (pc2 := 29) dX9_singOf_28 (by decide) rfl ?_
      refine g_istore (pc2 := 31) dX9_singOf_29 (by decide) rfl rfl ?_
      exact g_lw (lv2 := [some (.ref 1), none, some (.int x2), none, some (.int 0), some (.int (-1)), some (.int 0), none, none]) ⟨rfl, ⟨rfl, ⟨rfl, ⟨rfl, ⟨rfl, trivial⟩⟩⟩⟩⟩ h
    · have h := h.2 c
      refine g_iload_n (pc2 := 21) dX9_singOf_20 rfl rfl ?_
      exact g_iret dX9_singOf_21 rfl h
set_option maxRecDepth 20000 in
theorem bX9_singOf_31 {d : Nat} {σ : gw_S} {Q : Option Value → gw_S → Prop} {x2 : Int32} {x4 : Int32} {x5 : Int32} {x6 : Int32}   (h : ((x2 < x6) → ((((σ 1 7) ≤ x2) → (Q (some (.int (-1))) σ)) ∧ ((¬ (σ 1 7) ≤ x2) → (Q (some (.int x5)) σ)))) ∧ ((¬ x2 < x6) → ((((σ 1 7) ≤ x6) → ((((σ 1 7) ≤ x2) → (Q (some (.int (-1))) σ)) ∧ ((¬ (σ 1 7) ≤ x2) → (Q (some (.int x5)) σ)))) ∧ ((¬ (σ 1 7) ≤ x6) → (gG (d + 1) mX9_singOf 57 [some (.ref 1), none, some (.int x2), none, some (.int x4), some (.int (-1)), some (.int x6), some (.int ((σ 1 2) - 1)), none] [] σ Q))))) : gG (d + 1) mX9_singOf 31 [some (.ref 1), none, some (.int x2), none, some (.int x4), some (.int x5), some (.int x6), none, none] [] σ Q := by
  refine g_iload (pc2 := 33) dX9_singOf_31 rfl rfl ?_
  refine g_iload_n (pc2 := 34) dX9_singOf_33 rfl rfl ?_
  refine g_icmp_gt (tgt := 175) (pc2 := 37) dX9_singOf_34 (by decide) rfl (fun c => ?_) (fun c => ?_)
  · have h := h.1 c
    refine g_iload_n (pc2 := 176) dX9_singOf_175 rfl rfl ?_
    refine g_aload_n (pc2 := 177) dX9_singOf_176 rfl rfl ?_
    refine g_geti (pc2 := 180) dX9_singOf_177 fl_X9_134 gk_1 rfl rfl ?_
    refine g_icmp_ge (tgt := 188) (pc2 := 183) dX9_singOf_180 (by decide) rfl (fun c => ?_) (fun c => ?_)
    · have h := h.1 c
      refine g_iconst (v := (-1)) (pc2 := 189) dX9_singOf_188 (by decide) rfl ?_
      exact g_iret dX9_singOf_189 rfl h
    · have h := h.2 c
      refine g_iload (pc2 := 185) dX9_singOf_183 rfl rfl ?_
      refine g_goto (tgt := 189) dX9_singOf_185 (by decide) ?_
      exact g_iret dX9_singOf_189 rfl h
  · have h := h.2 c
    refine g_iload (pc2 := 39) dX9_singOf_37 rfl rfl ?_
    refine g_aload_n (pc2 := 40) dX9_singOf_39 rfl rfl ?_
    refine g_geti (pc2 := 43) dX9_singOf_40 fl_X9_134 gk_1 rfl rfl ?_
    refine g_icmp_ge (tgt := 175) (pc2 := 46) dX9_singOf_43 (by decide) rfl (fun c => ?_) (fun c => ?_)
    · have h := h.1 c
      refine g_iload_n (pc2 := 176) dX9_singOf_175 rfl rfl ?_
      refine g_aload_n (pc2 := 177) dX9_singOf_176 rfl rfl ?_
      refine g_geti (pc2 := 180) dX9_singOf_177 fl_X9_134 gk_1 rfl rfl ?_
      refine g_icmp_ge (tgt := 188) (pc2 := 183) dX9_singOf_180 (by decide) rfl (fun c => ?_) (fun c => ?_)
      · have h := h.1 c
        refine g_iconst (v := (-1)) (pc2 := 189) dX9_singOf_188 (by decide) rfl ?_
        exact g_iret dX9_singOf_189 rfl h
      · have h := h.2 c
        refine g_iload (pc2 := 185) dX9_singOf_183 rfl rfl ?_
        refine g_goto (tgt := 189) dX9_singOf_185 (by decide) ?_
        exact g_iret dX9_singOf_189 rfl h
    · have h := h.2 c
      refine g_iconst (v := (-1)) (pc2 := 47) dX9_singOf_46 (by decide) rfl ?_
      refine g_istore (pc2 := 49) dX9_singOf_47 (by decide) rfl rfl ?_
      refine g_aload_n (pc2 := 50) dX9_singOf_49 rfl rfl ?_
      refine g_geti (pc2 := 53) dX9_singOf_50 fl_X9_128 gk_1 rfl rfl ?_
      refine g_iconst (v := 1) (pc2 := 54) dX9_singOf_53 (by decide) rfl ?_
      refine g_isub (pc2 := 55) dX9_singOf_54 rfl ?_
      refine g_istore (pc2 := 57) dX9_singOf_55 (by decide) rfl rfl ?_
      exact g_lw (lv2 := [some (.ref 1), none, some (.int x2), none, some (.int x4), some (.int (-1)), some (.int x6), some (.int ((σ 1 2) - 1)), none]) ⟨rfl, ⟨rfl, ⟨rfl, ⟨rfl, ⟨rfl, ⟨rfl, trivial⟩⟩⟩⟩⟩⟩ h
set_option maxRecDepth 20000 in
theorem bX9_singOf_57 {d : Nat} {σ : gw_S} {Q : Option Value → gw_S → Prop} {x2 : Int32} {x4 : Int32} {x5 : Int32} {x6 : Int32} {x7 : Int32}   (h : ((x7 < 0) → (gG (d + 1) mX9_singOf 31 [some (.ref 1), none, some (.int x2), none, some (.int (x4 ||| ((1 : Int32) <<< (x5 &&& 31)))), some (.int x5), some (.int (x6 + 1)), none, none] [] σ Q)) ∧ ((¬ x7 < 0) → (gB d mX9_isIn [.int x4, .int x7] σ (fun v σ4 => ∃ r5 : Int32, v = some (.int r5) ∧ (((¬ r5 = 0) → ((((0 : Int32) = 0) → (gG (d + 1) mX9_singOf 57 [some (.ref 1), none, some (.int x2), none, some (.int x4), some (.int x5), some (.int x6), some (.int (x7 + (-1))), none] [] σ4 Q)) ∧ ((¬ (0 : Int32) = 0) → (gG (d + 1) mX9_singOf 57 [some (.ref 1), none, some (.int x2), none, some (.int x4), some (.int x7), some (.int x6), some (.int (x7 + (-1))), none] [] σ4 Q)))) ∧ ((r5 = 0) → (gB d mX9_spill [.ref 1, .int x6, .int x7] σ4 (fun v σ6 => ∃ r7 : Int32, v = some (.int r7) ∧ (((1000000 ≤ r7) → ((((0 : Int32) = 0) → (gG (d + 1) mX9_singOf 57 [some (.ref 1), none, some (.int x2), none, some (.int x4), some (.int x5), some (.int x6), some (.int (x7 + (-1))), none] [] σ6 Q)) ∧ ((¬ (0 : Int32) = 0) → (gG (d + 1) mX9_singOf 57 [some (.ref 1), none, some (.int x2), none, some (.int x4), some (.int x7), some (.int x6), some (.int (x7 + (-1))), none] [] σ6 Q)))) ∧ ((¬ 1000000 ≤ r7) → (gB d mX9_spill [.ref 1, .int x6, .int x7] σ6 (fun v σ8 => ∃ r9 : Int32, v = some (.int r9) ∧ (vp_in ((256 * (x6 + 1)) + (x4 ||| ((1 : Int32) <<< (x7 &&& 31)))) 2304 ∧ (vp_in ((256 * x6) + x4) 2304 ∧ (((¬ (r9 + (σ8 163 ((256 * (x6 + 1)) + (x4 ||| ((1 : Int32) <<< (x7 &&& 31)))).toNatClampNeg)) = (σ8 163 ((256 * x6) + x4).toNatClampNeg)) → ((((0 : Int32) = 0) → (gG (d + 1) mX9_singOf 57 [some (.ref 1), none, some (.int x2), none, some (.int x4), some (.int x5), some (.int x6), some (.int (x7 + (-1))), none] [] σ8 Q)) ∧ ((¬ (0 : Int32) = 0) → (gG (d + 1) mX9_singOf 57 [some (.ref 1), none, some (.int x2), none, some (.int x4), some (.int x7), some (.int x6), some (.int (x7 + (-1))), none] [] σ8 Q)))) ∧ (((r9 + (σ8 163 ((256 * (x6 + 1)) + (x4 ||| ((1 : Int32) <<< (x7 &&& 31)))).toNatClampNeg)) = (σ8 163 ((256 * x6) + x4).toNatClampNeg)) → ((((1 : Int32) = 0) → (gG (d + 1) mX9_singOf 57 [some (.ref 1), none, some (.int x2), none, some (.int x4), some (.int x5), some (.int x6), some (.int (x7 + (-1))), none] [] σ8 Q)) ∧ ((¬ (1 : Int32) = 0) → (gG (d + 1) mX9_singOf 57 [some (.ref 1), none, some (.int x2), none, some (.int x4), some (.int x7), some (.int x6), some (.int (x7 + (-1))), none] [] σ8 Q))))))))))))))))))) : gG (d + 1) mX9_singOf 57 [some (.ref 1), none, some (.int x2), none, some (.int x4), some (.int x5), some (.int x6), some (.int x7), none] [] σ Q := by
  refine g_iload (pc2 := 59) dX9_singOf_57 rfl rfl ?_
  refine g_if_lt (tgt := 160) (pc2 := 62) dX9_singOf_59 (by decide) rfl (fun c => ?_) (fun c => ?_)
  · have h := h.1 c
    refine g_iload (pc2 := 162) dX9_singOf_160 rfl rfl ?_
    refine g_iconst (v := 1) (pc2 := 163) dX9_singOf_162 (by decide) rfl ?_
    refine g_iload (pc2 := 165) dX9_singOf_163 rfl rfl ?_
    refine g_ishl (pc2 := 166) dX9_singOf_165 rfl ?_
    refine g_ior (pc2 := 167) dX9_singOf_166 rfl ?_
    refine g_istore (pc2 := 169) dX9_singOf_167 (by decide) rfl rfl ?_
    refine g_iinc2 (c := 1) (pc2 := 172) dX9_singOf_169 rfl (by decide) (by decide) rfl rfl ?_
    refine g_goto (tgt := 31) dX9_singOf_172 (by decide) ?_
    exact g_lw (lv2 := [some (.ref 1), none, some (.int x2), none, some (.int (x4 ||| ((1 : Int32) <<< (x5 &&& 31)))), some (.int x5), some (.int (x6 + 1)), none, none]) ⟨rfl, ⟨rfl, ⟨rfl, ⟨rfl, ⟨rfl, trivial⟩⟩⟩⟩⟩ h
  · have h := h.2 c
    refine g_iload (pc2 := 64) dX9_singOf_62 rfl rfl ?_
    refine g_iload (pc2 := 66) dX9_singOf_64 rfl rfl ?_
    refine g_callS (M2 := mX9_isIn) (as := [.int x4, .int x7]) (st := []) (pc2 := 69) dX9_singOf_66 ml_X9_274 msX9_isIn rfl rfl (Nat.le_of_ble_eq_true rfl) (Nat.le_refl _) rfl (h.mono ?_)
    rintro _ σ4 ⟨r5, rfl, h⟩
    show gG (d + 1) mX9_singOf 69 _ [.int r5] σ4 Q
    refine g_if_ne (tgt := 137) (pc2 := 72) dX9_singOf_69 (by decide) rfl (fun c => ?_) (fun c => ?_)
    · have h := h.1 c
      refine g_iconst (v := 0) (pc2 := 138) dX9_singOf_137 (by decide) rfl ?_
      refine g_istore (pc2 := 140) dX9_singOf_138 (by decide) rfl rfl ?_
      refine g_iload (pc2 := 142) dX9_singOf_140 rfl rfl ?_
      refine g_if_eq (tgt := 150) (pc2 := 145) dX9_singOf_142 (by decide) rfl (fun c => ?_) (fun c => ?_)
      · have h := h.1 c
        refine g_iload (pc2 := 152) dX9_singOf_150 rfl rfl ?_
        refine g_istore (pc2 := 154) dX9_singOf_152 (by decide) rfl rfl ?_
        refine g_iinc2 (c := (-1)) (pc2 := 157) dX9_singOf_154 rfl (by decide) (by decide) rfl rfl ?_
        refine g_goto (tgt := 57) dX9_singOf_157 (by decide) ?_
        exact g_lw (lv2 := [some (.ref 1), none, some (.int x2), none, some (.int x4), some (.int x5), some (.int x6), some (.int (x7 + (-1))), none]) ⟨rfl, ⟨rfl, ⟨rfl, ⟨rfl, ⟨rfl, ⟨rfl, trivial⟩⟩⟩⟩⟩⟩ h
      · have h := h.2 c
        refine g_iload (pc2 := 147) dX9_singOf_145 rfl rfl ?_
        refine g_goto (tgt := 152) dX9_singOf_147 (by decide) ?_
        refine g_istore (pc2 := 154) dX9_singOf_152 (by decide) rfl rfl ?_
        refine g_iinc2 (c := (-1)) (pc2 := 157) dX9_singOf_154 rfl (by decide) (by decide) rfl rfl ?_
        refine g_goto (tgt := 57) dX9_singOf_157 (by decide) ?_
        exact g_lw (lv2 := [some (.ref 1), none, some (.int x2), none, some (.int x4), some (.int x7), some (.int x6), some (.int (x7 + (-1))), none]) ⟨rfl, ⟨rfl, ⟨rfl, ⟨rfl, ⟨rfl, ⟨rfl, trivial⟩⟩⟩⟩⟩⟩ h
    · have h := h.2 c
      refine g_aload_n (pc2 := 73) dX9_singOf_72 rfl rfl ?_
      refine g_iload (pc2 := 75) dX9_singOf_73 rfl rfl ?_
      refine g_iload (pc2 := 77) dX9_singOf_75 rfl rfl ?_
      refine g_callV (M2 := mX9_spill) (as := [.int x6, .int x7]) (st := []) (pc2 := 80) dX9_singOf_77 ml_X9_277 mvX9_spill gk_1 rfl rfl rfl (Nat.le_of_ble_eq_true rfl) (Nat.le_refl _) rfl (h.mono ?_)
      rintro _ σ6 ⟨r7, rfl, h⟩
      show gG (d + 1) mX9_singOf 80 _ [.int r7] σ6 Q
      refine g_ldcw (pc2 := 83) dX9_singOf_80 co_X9_273 rfl ?_
      refine g_icmp_ge (tgt := 137) (pc2 := 86) dX9_singOf_83 (by decide) rfl (fun c => ?_) (fun c => ?_)
      · have h := h.1 c
        refine g_iconst (v := 0) (pc2 := 138) dX9_singOf_137 (by decide) rfl ?_
        refine g_istore (pc2 := 140) dX9_singOf_138 (by decide) rfl rfl ?_
        refine g_iload (pc2 := 142) dX9_singOf_140 rfl rfl ?_
        refine g_if_eq (tgt := 150) (pc2 := 145) dX9_singOf_142 (by decide) rfl (fun c => ?_) (fun c => ?_)
        · have h := h.1 c
          refine g_iload (pc2 := 152) dX9_singOf_150 rfl rfl ?_
          refine g_istore (pc2 := 154) dX9_singOf_152 (by decide) rfl rfl ?_
          refine g_iinc2 (c := (-1)) (pc2 := 157) dX9_singOf_154 rfl (by decide) (by decide) rfl rfl ?_
          refine g_goto (tgt := 57) dX9_singOf_157 (by decide) ?_
          exact g_lw (lv2 := [some (.ref 1), none, some (.int x2), none, some (.int x4), some (.int x5), some (.int x6), some (.int (x7 + (-1))), none]) ⟨rfl, ⟨rfl, ⟨rfl, ⟨rfl, ⟨rfl, ⟨rfl, trivial⟩⟩⟩⟩⟩⟩ h
        · have h := h.2 c
          refine g_iload (pc2 := 147) dX9_singOf_145 rfl rfl ?_
          refine g_goto (tgt := 152) dX9_singOf_147 (by decide) ?_
          refine g_istore (pc2 := 154) dX9_singOf_152 (by decide) rfl rfl ?_
          refine g_iinc2 (c := (-1)) (pc2 := 157) dX9_singOf_154 rfl (by decide) (by decide) rfl rfl ?_
          refine g_goto (tgt := 57) dX9_singOf_157 (by decide) ?_
          exact g_lw (lv2 := [some (.ref 1), none, some (.int x2), none, some (.int x4), some (.int x7), some (.int x6), some (.int (x7 + (-1))), none]) ⟨rfl, ⟨rfl, ⟨rfl, ⟨rfl, ⟨rfl, ⟨rfl, trivial⟩⟩⟩⟩⟩⟩ h
      · have h := h.2 c
        refine g_aload_n (pc2 := 87) dX9_singOf_86 rfl rfl ?_
        refine g_iload (pc2 := 89) dX9_singOf_87 rfl rfl ?_
        refine g_iload (pc2 := 91) dX9_singOf_89 rfl rfl ?_
        refine g_callV (M2 := mX9_spill) (as := [.int x6, .int x7]) (st := []) (pc2 := 94) dX9_singOf_91 ml_X9_277 mvX9_spill gk_1 rfl rfl rfl (Nat.le_of_ble_eq_true rfl) (Nat.le_refl _) rfl (h.mono ?_)
        rintro _ σ8 ⟨r9, rfl, h⟩
        show gG (d + 1) mX9_singOf 94 _ [.int r9] σ8 Q
        refine g_aload_n (pc2 := 95) dX9_singOf_94 rfl rfl ?_
        refine g_geta (pc2 := 98) dX9_singOf_95 fl_X9_80 gk_1 rfl rfl ?_
        refine g_sipush (v := 256) (pc2 := 101) dX9_singOf_98 (by decide) rfl ?_
        refine g_iload (pc2 := 103) dX9_singOf_101 rfl rfl ?_
        refine g_iconst (v := 1) (pc2 := 104) dX9_singOf_103 (by decide) rfl ?_
        refine g_iadd (pc2 := 105) dX9_singOf_104 rfl ?_
        refine g_imul (pc2 := 106) dX9_singOf_105 rfl ?_
        refine g_iload (pc2 := 108) dX9_singOf_106 rfl rfl ?_
        refine g_iconst (v := 1) (pc2 := 109) dX9_singOf_108 (by decide) rfl ?_
        refine g_iload (pc2 := 111) dX9_singOf_109 rfl rfl ?_
        refine g_ishl (pc2 := 112) dX9_singOf_111 rfl ?_
        refine g_ior (pc2 := 113) dX9_singOf_112 rfl ?_
        refine g_iadd (pc2 := 114) dX9_singOf_113 rfl ?_
        obtain ⟨hx, h⟩ := h
        refine g_iald (pc2 := 115) dX9_singOf_114 gk_163 hx rfl ?_
        refine g_iadd (pc2 := 116) dX9_singOf_115 rfl ?_
        refine g_aload_n (pc2 := 117) dX9_singOf_116 rfl rfl ?_
        refine g_geta (pc2 := 120) dX9_singOf_117 fl_X9_80 gk_1 rfl rfl ?_
        refine g_sipush (v := 256) (pc2 := 123) dX9_singOf_120 (by decide) rfl ?_
        refine g_iload (pc2 := 125) dX9_singOf_123 rfl rfl ?_
        refine g_imul (pc2 := 126) dX9_singOf_125 rfl ?_
        refine g_iload (pc2 := 128) dX9_singOf_126 rfl rfl ?_
        refine g_iadd (pc2 := 129) dX9_singOf_128 rfl ?_
        obtain ⟨hx, h⟩ := h
        refine g_iald (pc2 := 130) dX9_singOf_129 gk_163 hx rfl ?_
        refine g_icmp_ne (tgt := 137) (pc2 := 133) dX9_singOf_130 (by decide) rfl (fun c => ?_) (fun c => ?_)
        · have h := h.1 c
          refine g_iconst (v := 0) (pc2 := 138) dX9_singOf_137 (by decide) rfl ?_
          refine g_istore (pc2 := 140) dX9_singOf_138 (by decide) rfl rfl ?_
          refine g_iload (pc2 := 142) dX9_singOf_140 rfl rfl ?_
          refine g_if_eq (tgt := 150) (pc2 := 145) dX9_singOf_142 (by decide) rfl (fun c => ?_) (fun c => ?_)
          · have h := h.1 c
            refine g_iload (pc2 := 152) dX9_singOf_150 rfl rfl ?_
            refine g_istore (pc2 := 154) dX9_singOf_152 (by decide) rfl rfl ?_
            refine g_iinc2 (c := (-1)) (pc2 := 157) dX9_singOf_154 rfl (by decide) (by decide) rfl rfl ?_
            refine g_goto (tgt := 57) dX9_singOf_157 (by decide) ?_
            exact g_lw (lv2 := [some (.ref 1), none, some (.int x2), none, some (.int x4), some (.int x5), some (.int x6), some (.int (x7 + (-1))), none]) ⟨rfl, ⟨rfl, ⟨rfl, ⟨rfl, ⟨rfl, ⟨rfl, trivial⟩⟩⟩⟩⟩⟩ h
          · have h := h.2 c
            refine g_iload (pc2 := 147) dX9_singOf_145 rfl rfl ?_
            refine g_goto (tgt := 152) dX9_singOf_147 (by decide) ?_
            refine g_istore (pc2 := 154) dX9_singOf_152 (by decide) rfl rfl ?_
            refine g_iinc2 (c := (-1)) (pc2 := 157) dX9_singOf_154 rfl (by decide) (by decide) rfl rfl ?_
            refine g_goto (tgt := 57) dX9_singOf_157 (by decide) ?_
            exact g_lw (lv2 := [some (.ref 1), none, some (.int x2), none, some (.int x4), some (.int x7), some (.int x6), some (.int (x7 + (-1))), none]) ⟨rfl, ⟨rfl, ⟨rfl, ⟨rfl, ⟨rfl, ⟨rfl, trivial⟩⟩⟩⟩⟩⟩ h
        · have h := h.2 c
          refine g_iconst (v := 1) (pc2 := 134) dX9_singOf_133 (by decide) rfl ?_
          refine g_goto (tgt := 138) dX9_singOf_134 (by decide) ?_
          refine g_istore (pc2 := 140) dX9_singOf_138 (by decide) rfl rfl ?_
          refine g_iload (pc2 := 142) dX9_singOf_140 rfl rfl ?_
          refine g_if_eq (tgt := 150) (pc2 := 145) dX9_singOf_142 (by decide) rfl (fun c => ?_) (fun c => ?_)
          · have h := h.1 c
            refine g_iload (pc2 := 152) dX9_singOf_150 rfl rfl ?_
            refine g_istore (pc2 := 154) dX9_singOf_152 (by decide) rfl rfl ?_
            refine g_iinc2 (c := (-1)) (pc2 := 157) dX9_singOf_154 rfl (by decide) (by decide) rfl rfl ?_
            refine g_goto (tgt := 57) dX9_singOf_157 (by decide) ?_
            exact g_lw (lv2 := [some (.ref 1), none, some (.int x2), none, some (.int x4), some (.int x5), some (.int x6), some (.int (x7 + (-1))), none]) ⟨rfl, ⟨rfl, ⟨rfl, ⟨rfl, ⟨rfl, ⟨rfl, trivial⟩⟩⟩⟩⟩⟩ h
          · have h := h.2 c
            refine g_iload (pc2 := 147) dX9_singOf_145 rfl rfl ?_
            refine g_goto (tgt := 152) dX9_singOf_147 (by decide) ?_
            refine g_istore (pc2 := 154) dX9_singOf_152 (by decide) rfl rfl ?_
            refine g_iinc2 (c := (-1)) (pc2 := 157) dX9_singOf_154 rfl (by decide) (by decide) rfl rfl ?_
            refine g_goto (tgt := 57) dX9_singOf_157 (by decide) ?_
            exact g_lw (lv2 := [some (.ref 1), none, some (.int x2), none, some (.int x4), some (.int x7), some (.int x6), some (.int (x7 + (-1))), none]) ⟨rfl, ⟨rfl, ⟨rfl, ⟨rfl, ⟨rfl, ⟨rfl, trivial⟩⟩⟩⟩⟩⟩ h
set_option maxRecDepth 20000 in
theorem eX9_sings {d : Nat} {σ : gw_S} {Q : Option Value → gw_S → Prop} {x1 : Int32} {x2 : Int32} {x3 : Int32} {x4 : Int32} {x5 : Int32}   (h : ∀ s1 : gw_S, s1 = gw_u σ 1 17 x2 → (∀ s2 : gw_S, s2 = gw_u s1 152 (0 : Int32).toNatClampNeg x3 → (∀ s3 : gw_S, s3 = gw_u s2 152 (1 : Int32).toNatClampNeg x4 → (∀ s4 : gw_S, s4 = gw_u s3 152 (2 : Int32).toNatClampNeg x5 → (gB d mX9_runs [.ref 1, .int x1] s4 (fun v σ5 => v = none ∧ (gB d mX9_laysSpills [.ref 1] σ5 (fun v σ6 => ∃ r7 : Int32, v = some (.int r7) ∧ (((r7 = (-1)) → (Q (some (.int 0)) σ6)) ∧ ((¬ r7 = (-1)) → (Q (some (.int 1)) σ6))))))))))) : gB (d + 1) mX9_sings [.ref 1, .int x1, .int x2, .int x3, .int x4, .int x5] σ Q := by
  refine gB_of rfl (Nat.le_of_ble_eq_true rfl) (g_lw (lv2 := [some (.ref 1), some (.int x1), some (.int x2), some (.int x3), some (.int x4), some (.int x5)]) ⟨rfl, ⟨rfl, ⟨rfl, ⟨rfl, ⟨rfl, ⟨rfl, trivial⟩⟩⟩⟩⟩⟩ ?_)
  refine g_aload_n (pc2 := 1) dX9_sings_0 rfl rfl ?_
  refine g_iload_n (pc2 := 2) dX9_sings_1 rfl rfl ?_
  refine g_put2 (pc2 := 5) dX9_sings_2 fp_X9_191 gk_1 rfl rfl rfl rfl (fun s1 es1 => ?_)
  replace h := h s1 es1
  refine g_aload_n (pc2 := 6) dX9_sings_5 rfl rfl ?_
  refine g_geta (pc2 := 9) dX9_sings_6 fl_X9_46 gk_1 rfl rfl ?_
  refine g_iconst (v := 0) (pc2 := 10) dX9_sings_9 (by decide) rfl ?_
  refine g_iload_n (pc2 := 11) dX9_sings_10 rfl rfl ?_
  refine g_iast2 (pc2 := 12) dX9_sings_11 gk_152 (vp_in_iff.mpr (by decide)) rfl (fun s2 es2 => ?_)
  replace h := h s2 es2
  refine g_aload_n (pc2 := 13) dX9_sings_12 rfl rfl ?_
  refine g_geta (pc2 := 16) dX9_sings_13 fl_X9_46 gk_1 rfl rfl ?_
  refine g_iconst (v := 1) (pc2 := 17) dX9_sings_16 (by decide) rfl ?_
  refine g_iload (pc2 := 19) dX9_sings_17 rfl rfl ?_
  refine g_iast2 (pc2 := 20) dX9_sings_19 gk_152 (vp_in_iff.mpr (by decide)) rfl (fun s3 es3 => ?_)
  replace h := h s3 es3
  refine g_aload_n (pc2 := 21) dX9_sings_20 rfl rfl ?_
  refine g_geta (pc2 := 24) dX9_sings_21 fl_X9_46 gk_1 rfl rfl ?_
  refine g_iconst (v := 2) (pc2 := 25) dX9_sings_24 (by decide) rfl ?_
  refine g_iload (pc2 := 27) dX9_sings_25 rfl rfl ?_
  refine g_iast2 (pc2 := 28) dX9_sings_27 gk_152 (vp_in_iff.mpr (by decide)) rfl (fun s4 es4 => ?_)
  replace h := h s4 es4
  refine g_aload_n (pc2 := 29) dX9_sings_28 rfl rfl ?_
  refine g_iload_n (pc2 := 30) dX9_sings_29 rfl rfl ?_
  refine g_callV (M2 := mX9_runs) (as := [.int x1]) (st := []) (pc2 := 33) dX9_sings_30 ml_X9_239 mvX9_runs gk_1 rfl rfl rfl (Nat.le_of_ble_eq_true rfl) (Nat.le_refl _) rfl (h.mono ?_)
  rintro _ σ5 ⟨rfl, h⟩
  show gG (d + 1) mX9_sings 33 _ [] σ5 Q
  refine g_aload_n (pc2 := 34) dX9_sings_33 rfl rfl ?_
  refine g_callV (M2 := mX9_laysSpills) (as := []) (st := []) (pc2 := 37) dX9_sings_34 ml_X9_280 mvX9_laysSpills gk_1 rfl rfl rfl (Nat.le_of_ble_eq_true rfl) (Nat.le_refl _) rfl (h.mono ?_)
  rintro _ σ6 ⟨r7, rfl, h⟩
  show gG (d + 1) mX9_sings 37 _ [.int r7] σ6 Q
  refine g_iconst (v := (-1)) (pc2 := 38) dX9_sings_37 (by decide) rfl ?_
  refine g_icmp_eq (tgt := 45) (pc2 := 41) dX9_sings_38 (by decide) rfl (fun c => ?_) (fun c => ?_)
  · have h := h.1 c
    refine g_iconst (v := 0) (pc2 := 46) dX9_sings_45 (by decide) rfl ?_
    exact g_zret dX9_sings_46 rfl rfl h
  · have h := h.2 c
    refine g_iconst (v := 1) (pc2 := 42) dX9_sings_41 (by decide) rfl ?_
    refine g_goto (tgt := 46) dX9_sings_42 (by decide) ?_
    exact g_zret dX9_sings_46 rfl rfl h
set_option maxRecDepth 20000 in
theorem eX9_spill {d : Nat} {σ : gw_S} {Q : Option Value → gw_S → Prop} {x1 : Int32} {x2 : Int32}   (h : vp_in x1 8 ∧ (vp_in ((8 * x2) + (σ 146 x1.toNatClampNeg)) 64 ∧ ((((σ 155 ((8 * x2) + (σ 146 x1.toNatClampNeg)).toNatClampNeg) ≤ 0) → (Q (some (.int 1000000)) σ)) ∧ ((¬ (σ 155 ((8 * x2) + (σ 146 x1.toNatClampNeg)).toNatClampNeg) ≤ 0) → (gB d mX9_allIn [.ref 1, .int x2] σ (fun v σ1 => ∃ r2 : Int32, v = some (.int r2) ∧ (Q (some (.int (r2 - (σ 155 ((8 * x2) + (σ 146 x1.toNatClampNeg)).toNatClampNeg)))) σ1))))))) : gB (d + 1) mX9_spill [.ref 1, .int x1, .int x2] σ Q := by
  refine gB_of rfl (Nat.le_of_ble_eq_true rfl) (g_lw (lv2 := [some (.ref 1), some (.int x1), some (.int x2), none]) ⟨rfl, ⟨rfl, ⟨rfl, trivial⟩⟩⟩ ?_)
  refine g_aload_n (pc2 := 1) dX9_spill_0 rfl rfl ?_
  refine g_geta (pc2 := 4) dX9_spill_1 fl_X9_55 gk_1 rfl rfl ?_
  refine g_bipush (v := 8) (pc2 := 6) dX9_spill_4 (by decide) rfl ?_
  refine g_iload_n (pc2 := 7) dX9_spill_6 rfl rfl ?_
  refine g_imul (pc2 := 8) dX9_spill_7 rfl ?_
  refine g_aload_n (pc2 := 9) dX9_spill_8 rfl rfl ?_
  refine g_geta (pc2 := 12) dX9_spill_9 fl_X9_28 gk_1 rfl rfl ?_
  refine g_iload_n (pc2 := 13) dX9_spill_12 rfl rfl ?_
  obtain ⟨hx, h⟩ := h
  refine g_iald (pc2 := 14) dX9_spill_13 gk_146 hx rfl ?_
  refine g_iadd (pc2 := 15) dX9_spill_14 rfl ?_
  obtain ⟨hx, h⟩ := h
  refine g_iald (pc2 := 16) dX9_spill_15 gk_155 hx rfl ?_
  refine g_istore_n (pc2 := 17) dX9_spill_16 (by decide) rfl rfl ?_
  refine g_iload_n (pc2 := 18) dX9_spill_17 rfl rfl ?_
  refine g_if_le (tgt := 31) (pc2 := 21) dX9_spill_18 (by decide) rfl (fun c => ?_) (fun c => ?_)
  · have h := h.1 c
    refine g_ldcw (pc2 := 34) dX9_spill_31 co_X9_273 rfl ?_
    exact g_iret dX9_spill_34 rfl h
  · have h := h.2 c
    refine g_aload_n (pc2 := 22) dX9_spill_21 rfl rfl ?_
    refine g_iload_n (pc2 := 23) dX9_spill_22 rfl rfl ?_
    refine g_callV (M2 := mX9_allIn) (as := [.int x2]) (st := []) (pc2 := 26) dX9_spill_23 ml_X9_219 mvX9_allIn gk_1 rfl rfl rfl (Nat.le_of_ble_eq_true rfl) (Nat.le_refl _) rfl (h.mono ?_)
    rintro _ σ1 ⟨r2, rfl, h⟩
    show gG (d + 1) mX9_spill 26 _ [.int r2] σ1 Q
    refine g_iload_n (pc2 := 27) dX9_spill_26 rfl rfl ?_
    refine g_isub (pc2 := 28) dX9_spill_27 rfl ?_
    refine g_goto (tgt := 34) dX9_spill_28 (by decide) ?_
    exact g_iret dX9_spill_34 rfl h
set_option maxRecDepth 20000 in
theorem eX9_spilled {d : Nat} {σ : gw_S} {Q : Option Value → gw_S → Prop} {x1 : Int32} {x2 : Int32}   (h : gB d mX9_isDay [.int x1] σ (fun v σ1 => ∃ r2 : Int32, v = some (.int r2) ∧ (((r2 = 0) → (Q (some (.int (-2))) σ1)) ∧ ((¬ r2 = 0) → (gB d mX9_isEight [.int x2] σ1 (fun v σ3 => ∃ r4 : Int32, v = some (.int r4) ∧ (((r4 = 0) → (Q (some (.int (-2))) σ3)) ∧ ((¬ r4 = 0) → (gB d mX9_spilledOf [.ref 1, .int x1, .int x2] σ3 (fun v σ5 => ∃ r6 : Int32, v = some (.int r6) ∧ (Q (some (.int r6)) σ5))))))))))) : gB (d + 1) mX9_spilled [.ref 1, .int x1, .int x2] σ Q := by
  refine gB_of rfl (Nat.le_of_ble_eq_true rfl) (g_lw (lv2 := [some (.ref 1), some (.int x1), some (.int x2)]) ⟨rfl, ⟨rfl, ⟨rfl, trivial⟩⟩⟩ ?_)
  refine g_iload_n (pc2 := 1) dX9_spilled_0 rfl rfl ?_
  refine g_callS (M2 := mX9_isDay) (as := [.int x1]) (st := []) (pc2 := 4) dX9_spilled_1 ml_X9_163 msX9_isDay rfl rfl (Nat.le_of_ble_eq_true rfl) (Nat.le_refl _) rfl (h.mono ?_)
  rintro _ σ1 ⟨r2, rfl, h⟩
  show gG (d + 1) mX9_spilled 4 _ [.int r2] σ1 Q
  refine g_if_eq (tgt := 23) (pc2 := 7) dX9_spilled_4 (by decide) rfl (fun c => ?_) (fun c => ?_)
  · have h := h.1 c
    refine g_bipush (v := (-2)) (pc2 := 25) dX9_spilled_23 (by decide) rfl ?_
    exact g_iret dX9_spilled_25 rfl h
  · have h := h.2 c
    refine g_iload_n (pc2 := 8) dX9_spilled_7 rfl rfl ?_
    refine g_callS (M2 := mX9_isEight) (as := [.int x2]) (st := []) (pc2 := 11) dX9_spilled_8 ml_X9_157 msX9_isEight rfl rfl (Nat.le_of_ble_eq_true rfl) (Nat.le_refl _) rfl (h.mono ?_)
    rintro _ σ3 ⟨r4, rfl, h⟩
    show gG (d + 1) mX9_spilled 11 _ [.int r4] σ3 Q
    refine g_if_eq (tgt := 23) (pc2 := 14) dX9_spilled_11 (by decide) rfl (fun c => ?_) (fun c => ?_)
    · have h := h.1 c
      refine g_bipush (v := (-2)) (pc2 := 25) dX9_spilled_23 (by decide) rfl ?_
      exact g_iret dX9_spilled_25 rfl h
    · have h := h.2 c
      refine g_aload_n (pc2 := 15) dX9_spilled_14 rfl rfl ?_
      refine g_iload_n (pc2 := 16) dX9_spilled_15 rfl rfl ?_
      refine g_iload_n (pc2 := 17) dX9_spilled_16 rfl rfl ?_
      refine g_callV (M2 := mX9_spilledOf) (as := [.int x1, .int x2]) (st := []) (pc2 := 20) dX9_spilled_17 ml_X9_261 mvX9_spilledOf gk_1 rfl rfl rfl (Nat.le_of_ble_eq_true rfl) (Nat.le_refl _) rfl (h.mono ?_)
      rintro _ σ5 ⟨r6, rfl, h⟩
      show gG (d + 1) mX9_spilled 20 _ [.int r6] σ5 Q
      refine g_goto (tgt := 25) dX9_spilled_20 (by decide) ?_
      exact g_iret dX9_spilled_25 rfl h
set_option maxRecDepth 20000 in
theorem eX9_spilledOf {d : Nat} {σ : gw_S} {Q : Option Value → gw_S → Prop} {x1 : Int32} {x2 : Int32}   (h : gB d mX9_runsTold [.ref 1, .int x1] σ (fun v σ1 => v = none ∧ (vp_in x2 8 ∧ (Q (some (.int (σ1 162 x2.toNatClampNeg))) σ1)))) : gB (d + 1) mX9_spilledOf [.ref 1, .int x1, .int x2] σ Q := by
  refine gB_of rfl (Nat.le_of_ble_eq_true rfl) (g_lw (lv2 := [some (.ref 1), some (.int x1), some (.int x2)]) ⟨rfl, ⟨rfl, ⟨rfl, trivial⟩⟩⟩ ?_)
  refine g_aload_n (pc2 := 1) dX9_spilledOf_0 rfl rfl ?_
  refine g_iload_n (pc2 := 2) dX9_spilledOf_1 rfl rfl ?_
  refine g_callV (M2 := mX9_runsTold) (as := [.int x1]) (st := []) (pc2 := 5) dX9_spilledOf_2 ml_X9_242 mvX9_runsTold gk_1 rfl rfl rfl (Nat.le_of_ble_eq_true rfl) (Nat.le_refl _) rfl (h.mono ?_)
  rintro _ σ1 ⟨rfl, h⟩
  show gG (d + 1) mX9_spilledOf 5 _ [] σ1 Q
  refine g_aload_n (pc2 := 6) dX9_spilledOf_5 rfl rfl ?_
  refine g_geta (pc2 := 9) dX9_spilledOf_6 fl_X9_77 gk_1 rfl rfl ?_
  refine g_iload_n (pc2 := 10) dX9_spilledOf_9 rfl rfl ?_
  obtain ⟨hx, h⟩ := h
  refine g_iald (pc2 := 11) dX9_spilledOf_10 gk_162 hx rfl ?_
  exact g_iret dX9_spilledOf_11 rfl h
set_option maxRecDepth 20000 in
theorem eX9_sumOf {d : Nat} {σ : gw_S} {Q : Option Value → gw_S → Prop} {x1 : Int32}   (h : gB d mX9_runsTold [.ref 1, .int 39] σ (fun v σ1 => v = none ∧ (gG (d + 1) mX9_sumOf 10 [some (.ref 1), some (.int x1), some (.int 0), some (.int 0)] [] σ1 Q))) : gB (d + 1) mX9_sumOf [.ref 1, .int x1] σ Q := by
  refine gB_of rfl (Nat.le_of_ble_eq_true rfl) (g_lw (lv2 := [some (.ref 1), some (.int x1), none, none]) ⟨rfl, ⟨rfl, trivial⟩⟩ ?_)
  refine g_aload_n (pc2 := 1) dX9_sumOf_0 rfl rfl ?_
  refine g_bipush (v := 39) (pc2 := 3) dX9_sumOf_1 (by decide) rfl ?_
  refine g_callV (M2 := mX9_runsTold) (as := [.int 39]) (st := []) (pc2 := 6) dX9_sumOf_3 ml_X9_242 mvX9_runsTold gk_1 rfl rfl rfl (Nat.le_of_ble_eq_true rfl) (Nat.le_refl _) rfl (h.mono ?_)
  rintro _ σ1 ⟨rfl, h⟩
  show gG (d + 1) mX9_sumOf 6 _ [] σ1 Q
  refine g_iconst (v := 0) (pc2 := 7) dX9_sumOf_6 (by decide) rfl ?_
  refine g_istore_n (pc2 := 8) dX9_sumOf_7 (by decide) rfl rfl ?_
  refine g_iconst (v := 0) (pc2 := 9) dX9_sumOf_8 (by decide) rfl ?_
  refine g_istore_n (pc2 := 10) dX9_sumOf_9 (by decide) rfl rfl ?_
  exact g_lw (lv2 := [some (.ref 1), some (.int x1), some (.int 0), some (.int 0)]) ⟨rfl, ⟨rfl, ⟨rfl, ⟨rfl, trivial⟩⟩⟩⟩ h
set_option maxRecDepth 20000 in
theorem bX9_sumOf_10 {d : Nat} {σ : gw_S} {Q : Option Value → gw_S → Prop} {x1 : Int32} {x2 : Int32} {x3 : Int32}   (h : (((σ 1 12) ≤ x3) → (((¬ x1 = 0) → (((¬ x1 = 1) → (Q (some (.int x2)) σ)) ∧ ((x1 = 1) → (Q (some (.int (σ 1 7))) σ)))) ∧ ((x1 = 0) → (Q (some (.int (σ 1 2))) σ)))) ∧ ((¬ (σ 1 12) ≤ x3) → (vp_in x3 16 ∧ ((((σ 160 x3.toNatClampNeg) = 0) → (gG (d + 1) mX9_sumOf 10 [some (.ref 1), some (.int x1), some (.int (x2 + 0)), some (.int (x3 + 1))] [] σ Q)) ∧ ((¬ (σ 160 x3.toNatClampNeg) = 0) → (gG (d + 1) mX9_sumOf 10 [some (.ref 1), some (.int x1), some (.int (x2 + 1)), some (.int (x3 + 1))] [] σ Q)))))) : gG (d + 1) mX9_sumOf 10 [some (.ref 1), some (.int x1), some (.int x2), some (.int x3)] [] σ Q := by
  refine g_iload_n (pc2 := 11) dX9_sumOf_10 rfl rfl ?_
  refine g_aload_n (pc2 := 12) dX9_sumOf_11 rfl rfl ?_
  refine g_geti (pc2 := 15) dX9_sumOf_12 fl_X9_169 gk_1 rfl rfl ?_
  refine g_icmp_ge (tgt := 41) (pc2 := 18) dX9_sumOf_15 (by decide) rfl (fun c => ?_) (fun c => ?_)
  · have h := h.1 c
    refine g_iload_n (pc2 := 42) dX9_sumOf_41 rfl rfl ?_
    refine g_if_ne (tgt := 52) (pc2 := 45) dX9_sumOf_42 (by decide) rfl (fun c => ?_) (fun c => ?_)
    · have h := h.1 c
      refine g_iload_n (pc2 := 53) dX9_sumOf_52 rfl rfl ?_
      refine g_iconst (v := 1) (pc2 := 54) dX9_sumOf_53 (by decide) rfl ?_
      refine g_icmp_ne (tgt := 64) (pc2 := 57) dX9_sumOf_54 (by decide) rfl (fun c => ?_) (fun c => ?_)
      · have h := h.1 c
        refine g_iload_n (pc2 := 65) dX9_sumOf_64 rfl rfl ?_
        exact g_iret dX9_sumOf_65 rfl h
      · have h := h.2 c
        refine g_aload_n (pc2 := 58) dX9_sumOf_57 rfl rfl ?_
        refine g_geti (pc2 := 61) dX9_sumOf_58 fl_X9_134 gk_1 rfl rfl ?_
        refine g_goto (tgt := 65) dX9_sumOf_61 (by decide) ?_
        exact g_iret dX9_sumOf_65 rfl h
    · have h := h.2 c
      refine g_aload_n (pc2 := 46) dX9_sumOf_45 rfl rfl ?_
      refine g_geti (pc2 := 49) dX9_sumOf_46 fl_X9_128 gk_1 rfl rfl ?_
      refine g_goto (tgt := 65) dX9_sumOf_49 (by decide) ?_
      exact g_iret dX9_sumOf_65 rfl h
  · have h := h.2 c
    refine g_iload_n (pc2 := 19) dX9_sumOf_18 rfl rfl ?_
    refine g_aload_n (pc2 := 20) dX9_sumOf_19 rfl rfl ?_
    refine g_geta (pc2 := 23) dX9_sumOf_20 fl_X9_71 gk_1 rfl rfl ?_
    refine g_iload_n (pc2 := 24) dX9_sumOf_23 rfl rfl ?_
    obtain ⟨hx, h⟩ := h
    refine g_zald (pc2 := 25) dX9_sumOf_24 gk_160 hx rfl ?_
    refine g_if_eq (tgt := 32) (pc2 := 28) dX9_sumOf_25 (by decide) rfl (fun c => ?_) (fun c => ?_)
    · have h := h.1 c
      refine g_iconst (v := 0) (pc2 := 33) dX9_sumOf_32 (by decide) rfl ?_
      refine g_iadd (pc2 := 34) dX9_sumOf_33 rfl ?_
      refine g_istore_n (pc2 := 35) dX9_sumOf_34 (by decide) rfl rfl ?_
      refine g_iinc2 (c := 1) (pc2 := 38) dX9_sumOf_35 rfl (by decide) (by decide) rfl rfl ?_
      refine g_goto (tgt := 10) dX9_sumOf_38 (by decide) ?_
      exact g_lw (lv2 := [some (.ref 1), some (.int x1), some (.int (x2 + 0)), some (.int (x3 + 1))]) ⟨rfl, ⟨rfl, ⟨rfl, ⟨rfl, trivial⟩⟩⟩⟩ h
    · have h := h.2 c
      refine g_iconst (v := 1) (pc2 := 29) dX9_sumOf_28 (by decide) rfl ?_
      refine g_goto (tgt := 33) dX9_sumOf_29 (by decide) ?_
      refine g_iadd (pc2 := 34) dX9_sumOf_33 rfl ?_
      refine g_istore_n (pc2 := 35) dX9_sumOf_34 (by decide) rfl rfl ?_
      refine g_iinc2 (c := 1) (pc2 := 38) dX9_sumOf_35 rfl (by decide) (by decide) rfl rfl ?_
      refine g_goto (tgt := 10) dX9_sumOf_38 (by decide) ?_
      exact g_lw (lv2 := [some (.ref 1), some (.int x1), some (.int (x2 + 1)), some (.int (x3 + 1))]) ⟨rfl, ⟨rfl, ⟨rfl, ⟨rfl, trivial⟩⟩⟩⟩ h
set_option maxRecDepth 20000 in
theorem eX9_swapped {d : Nat} {σ : gw_S} {Q : Option Value → gw_S → Prop} {x1 : Int32}   (h : gB d mX9_in [.int x1, .int 0, .int 1] σ (fun v σ1 => ∃ r2 : Int32, v = some (.int r2) ∧ (((r2 = 0) → (Q (some (.int (-2))) σ1)) ∧ ((¬ r2 = 0) → (gB d mX9_swappedOf [.ref 1, .int x1] σ1 (fun v σ3 => ∃ r4 : Int32, v = some (.int r4) ∧ (Q (some (.int r4)) σ3))))))) : gB (d + 1) mX9_swapped [.ref 1, .int x1] σ Q := by
  refine gB_of rfl (Nat.le_of_ble_eq_true rfl) (g_lw (lv2 := [some (.ref 1), some (.int x1)]) ⟨rfl, ⟨rfl, trivial⟩⟩ ?_)
  refine g_iload_n (pc2 := 1) dX9_swapped_0 rfl rfl ?_
  refine g_iconst (v := 0) (pc2 := 2) dX9_swapped_1 (by decide) rfl ?_
  refine g_iconst (v := 1) (pc2 := 3) dX9_swapped_2 (by decide) rfl ?_
  refine g_callS (M2 := mX9_in) (as := [.int x1, .int 0, .int 1]) (st := []) (pc2 := 6) dX9_swapped_3 ml_X9_116 msX9_in rfl rfl (Nat.le_of_ble_eq_true rfl) (Nat.le_refl _) rfl (h.mono ?_)
  rintro _ σ1 ⟨r2, rfl, h⟩
  show gG (d + 1) mX9_swapped 6 _ [.int r2] σ1 Q
  refine g_if_eq (tgt := 17) (pc2 := 9) dX9_swapped_6 (by decide) rfl (fun c => ?_) (fun c => ?_)
  · have h := h.1 c
    refine g_bipush (v := (-2)) (pc2 := 19) dX9_swapped_17 (by decide) rfl ?_
    exact g_iret dX9_swapped_19 rfl h
  · have h := h.2 c
    refine g_aload_n (pc2 := 10) dX9_swapped_9 rfl rfl ?_
    refine g_iload_n (pc2 := 11) dX9_swapped_10 rfl rfl ?_
    refine g_callV (M2 := mX9_swappedOf) (as := [.int x1]) (st := []) (pc2 := 14) dX9_swapped_11 ml_X9_309 mvX9_swappedOf gk_1 rfl rfl rfl (Nat.le_of_ble_eq_true rfl) (Nat.le_refl _) rfl (h.mono ?_)
    rintro _ σ3 ⟨r4, rfl, h⟩
    show gG (d + 1) mX9_swapped 14 _ [.int r4] σ3 Q
    refine g_goto (tgt := 19) dX9_swapped_14 (by decide) ?_
    exact g_iret dX9_swapped_19 rfl h
set_option maxRecDepth 20000 in
theorem eX9_swappedOf {d : Nat} {σ : gw_S} {Q : Option Value → gw_S → Prop} {x1 : Int32}   (h : gB d mX9_asTold [.ref 1] σ (fun v σ1 => v = none ∧ (gG (d + 1) mX9_swappedOf 11 [some (.ref 1), some (.int x1), some (.int 0), some (.int (-1)), some (.int 0), none, none] [] σ1 Q))) : gB (d + 1) mX9_swappedOf [.ref 1, .int x1] σ Q := by
  refine gB_of rfl (Nat.le_of_ble_eq_true rfl) (g_lw (lv2 := [some (.ref 1), some (.int x1), none, none, none, none, none]) ⟨rfl, ⟨rfl, trivial⟩⟩ ?_)
  refine g_aload_n (pc2 := 1) dX9_swappedOf_0 rfl rfl ?_
  refine g_callV (M2 := mX9_asTold) (as := []) (st := []) (pc2 := 4) dX9_swappedOf_1 ml_X9_236 mvX9_asTold gk_1 rfl rfl rfl (Nat.le_of_ble_eq_true rfl) (Nat.le_refl _) rfl (h.mono ?_)
  rintro _ σ1 ⟨rfl, h⟩
  show gG (d + 1) mX9_swappedOf 4 _ [] σ1 Q
  refine g_iconst (v := 0) (pc2 := 5) dX9_swappedOf_4 (by decide) rfl ?_
  refine g_istore_n (pc2 := 6) dX9_swappedOf_5 (by decide) rfl rfl ?_
  refine g_iconst (v := (-1)) (pc2 := 7) dX9_swappedOf_6 (by decide) rfl ?_
  refine g_istore_n (pc2 := 8) dX9_swappedOf_7 (by decide) rfl rfl ?_
  refine g_iconst (v := 0) (pc2 := 9) dX9_swappedOf_8 (by decide) rfl ?_
  refine g_istore (pc2 := 11) dX9_swappedOf_9 (by decide) rfl rfl ?_
  exact g_lw (lv2 := [some (.ref 1), some (.int x1), some (.int 0), some (.int (-1)), some (.int 0), none, none]) ⟨rfl, ⟨rfl, ⟨rfl, ⟨rfl, ⟨rfl, trivial⟩⟩⟩⟩⟩ h
set_option maxRecDepth 20000 in
theorem bX9_swappedOf_11 {d : Nat} {σ : gw_S} {Q : Option Value → gw_S → Prop} {x1 : Int32} {x2 : Int32} {x3 : Int32} {x4 : Int32}   (h : (((σ 1 2) ≤ x4) → (((¬ x1 = 0) → (Q (some (.int x3)) σ)) ∧ ((x1 = 0) → (Q (some (.int x2)) σ)))) ∧ ((¬ (σ 1 2) ≤ x4) → (gG (d + 1) mX9_swappedOf 26 [some (.ref 1), some (.int x1), some (.int x2), some (.int x3), some (.int x4), some (.int (x4 + 1)), none] [] σ Q))) : gG (d + 1) mX9_swappedOf 11 [some (.ref 1), some (.int x1), some (.int x2), some (.int x3), some (.int x4), none, none] [] σ Q := by
  refine g_iload (pc2 := 13) dX9_swappedOf_11 rfl rfl ?_
  refine g_aload_n (pc2 := 14) dX9_swappedOf_13 rfl rfl ?_
  refine g_geti (pc2 := 17) dX9_swappedOf_14 fl_X9_128 gk_1 rfl rfl ?_
  refine g_icmp_ge (tgt := 101) (pc2 := 20) dX9_swappedOf_17 (by decide) rfl (fun c => ?_) (fun c => ?_)
  · have h := h.1 c
    refine g_iload_n (pc2 := 102) dX9_swappedOf_101 rfl rfl ?_
    refine g_if_ne (tgt := 109) (pc2 := 105) dX9_swappedOf_102 (by decide) rfl (fun c => ?_) (fun c => ?_)
    · have h := h.1 c
      refine g_iload_n (pc2 := 110) dX9_swappedOf_109 rfl rfl ?_
      exact g_iret dX9_swappedOf_110 rfl h
    · have h := h.2 c
      refine g_iload_n (pc2 := 106) dX9_swappedOf_105 rfl rfl ?_
      refine g_goto (tgt := 110) dX9_swappedOf_106 (by decide) ?_
      exact g_iret dX9_swappedOf_110 rfl h
  · have h := h.2 c
    refine g_iload (pc2 := 22) dX9_swappedOf_20 rfl rfl ?_
    refine g_iconst (v := 1) (pc2 := 23) dX9_swappedOf_22 (by decide) rfl ?_
    refine g_iadd (pc2 := 24) dX9_swappedOf_23 rfl ?_
    refine g_istore (pc2 := 26) dX9_swappedOf_24 (by decide) rfl rfl ?_
    exact g_lw (lv2 := [some (.ref 1), some (.int x1), some (.int x2), some (.int x3), some (.int x4), some (.int (x4 + 1)), none]) ⟨rfl, ⟨rfl, ⟨rfl, ⟨rfl, ⟨rfl, ⟨rfl, trivial⟩⟩⟩⟩⟩⟩ h
set_option maxRecDepth 20000 in
theorem bX9_swappedOf_26 {d : Nat} {σ : gw_S} {Q : Option Value → gw_S → Prop} {x1 : Int32} {x2 : Int32} {x3 : Int32} {x4 : Int32} {x5 : Int32}   (h : (((σ 1 2) ≤ x5) → (gG (d + 1) mX9_swappedOf 11 [some (.ref 1), some (.int x1), some (.int x2), some (.int x3), some (.int (x4 + 1)), none, none] [] σ Q)) ∧ ((¬ (σ 1 2) ≤ x5) → (∀ s2 : gw_S, s2 = gw_u σ 1 33 x4 → (∀ s3 : gw_S, s3 = gw_u s2 1 34 x5 → (gB d mX9_isWeighed [.ref 1] s3 (fun v σ4 => ∃ r5 : Int32, v = some (.int r5) ∧ (((r5 = 0) → (((r5 = 0) → (gG (d + 1) mX9_swappedOf 26 [some (.ref 1), some (.int x1), some (.int (x2 + 0)), some (.int x3), some (.int x4), some (.int (x5 + 1)), none] [] σ4 Q)) ∧ ((¬ r5 = 0) → (((¬ x3 = (-1)) → (gG (d + 1) mX9_swappedOf 26 [some (.ref 1), some (.int x1), some (.int (x2 + 0)), some (.int x3), some (.int x4), some (.int (x5 + 1)), none] [] σ4 Q)) ∧ ((x3 = (-1)) → (gG (d + 1) mX9_swappedOf 26 [some (.ref 1), some (.int x1), some (.int (x2 + 0)), some (.int ((8 * x4) + x5)), some (.int x4), some (.int (x5 + 1)), none] [] σ4 Q)))))) ∧ ((¬ r5 = 0) → (((r5 = 0) → (gG (d + 1) mX9_swappedOf 26 [some (.ref 1), some (.int x1), some (.int (x2 + 1)), some (.int x3), some (.int x4), some (.int (x5 + 1)), none] [] σ4 Q)) ∧ ((¬ r5 = 0) → (((¬ x3 = (-1)) → (gG (d + 1) mX9_swappedOf 26 [some (.ref 1), some (.int x1), some (.int (x2 + 1)), some (.int x3), some (.int x4), some (.int (x5 + 1)), none] [] σ4 Q)) ∧ ((x3 = (-1)) → (gG (d + 1) mX9_swappedOf 26 [some (.ref 1), some (.int x1), some (.int (x2 + 1)), some (.int ((8 * x4) + x5)), some (.int x4), some (.int (x5 + 1)), none] [] σ4 Q))))))))))))) : gG (d + 1) mX9_swappedOf 26 [some (.ref 1), some (.int x1), some (.int x2), some (.int x3), some (.int x4), some (.int x5), none] [] σ Q := by
  refine g_iload (pc2 := 28) dX9_swappedOf_26 rfl rfl ?_
  refine g_aload_n (pc2 := 29) dX9_swappedOf_28 rfl rfl ?_
  refine g_geti (pc2 := 32) dX9_swappedOf_29 fl_X9_128 gk_1 rfl rfl ?_
  refine g_icmp_ge (tgt := 95) (pc2 := 35) dX9_swappedOf_32 (by decide) rfl (fun c => ?_) (fun c => ?_)
  · have h := h.1 c
    refine g_iinc2 (c := 1) (pc2 := 98) dX9_swappedOf_95 rfl (by decide) (by decide) rfl rfl ?_
    refine g_goto (tgt := 11) dX9_swappedOf_98 (by decide) ?_
    exact g_lw (lv2 := [some (.ref 1), some (.int x1), some (.int x2), some (.int x3), some (.int (x4 + 1)), none, none]) ⟨rfl, ⟨rfl, ⟨rfl, ⟨rfl, ⟨rfl, trivial⟩⟩⟩⟩⟩ h
  · have h := h.2 c
    refine g_aload_n (pc2 := 36) dX9_swappedOf_35 rfl rfl ?_
    refine g_iload (pc2 := 38) dX9_swappedOf_36 rfl rfl ?_
    refine g_put2 (pc2 := 41) dX9_swappedOf_38 fp_X9_185 gk_1 rfl rfl rfl rfl (fun s2 es2 => ?_)
    replace h := h s2 es2
    refine g_aload_n (pc2 := 42) dX9_swappedOf_41 rfl rfl ?_
    refine g_iload (pc2 := 44) dX9_swappedOf_42 rfl rfl ?_
    refine g_put2 (pc2 := 47) dX9_swappedOf_44 fp_X9_188 gk_1 rfl rfl rfl rfl (fun s3 es3 => ?_)
    replace h := h s3 es3
    refine g_aload_n (pc2 := 48) dX9_swappedOf_47 rfl rfl ?_
    refine g_callV (M2 := mX9_isWeighed) (as := []) (st := []) (pc2 := 51) dX9_swappedOf_48 ml_X9_302 mvX9_isWeighed gk_1 rfl rfl rfl (Nat.le_of_ble_eq_true rfl) (Nat.le_refl _) rfl (h.mono ?_)
    rintro _ σ4 ⟨r5, rfl, h⟩
    show gG (d + 1) mX9_swappedOf 51 _ [.int r5] σ4 Q
    refine g_istore (pc2 := 53) dX9_swappedOf_51 (by decide) rfl rfl ?_
    refine g_iload_n (pc2 := 54) dX9_swappedOf_53 rfl rfl ?_
    refine g_iload (pc2 := 56) dX9_swappedOf_54 rfl rfl ?_
    refine g_if_eq (tgt := 63) (pc2 := 59) dX9_swappedOf_56 (by decide) rfl (fun c => ?_) (fun c => ?_)
    · have h := h.1 c
      refine g_iconst (v := 0) (pc2 := 64) dX9_swappedOf_63 (by decide) rfl ?_
      refine g_iadd (pc2 := 65) dX9_swappedOf_64 rfl ?_
      refine g_istore_n (pc2 := 66) dX9_swappedOf_65 (by decide) rfl rfl ?_
      refine g_iload (pc2 := 68) dX9_swappedOf_66 rfl rfl ?_
      refine g_if_eq (tgt := 87) (pc2 := 71) dX9_swappedOf_68 (by decide) rfl (fun c => ?_) (fun c => ?_)
      · have h := h.1 c
        refine g_iload_n (pc2 := 88) dX9_swappedOf_87 rfl rfl ?_
        refine g_istore_n (pc2 := 89) dX9_swappedOf_88 (by decide) rfl rfl ?_
        refine g_iinc2 (c := 1) (pc2 := 92) dX9_swappedOf_89 rfl (by decide) (by decide) rfl rfl ?_
        refine g_goto (tgt := 26) dX9_swappedOf_92 (by decide) ?_
        exact g_lw (lv2 := [some (.ref 1), some (.int x1), some (.int (x2 + 0)), some (.int x3), some (.int x4), some (.int (x5 + 1)), none]) ⟨rfl, ⟨rfl, ⟨rfl, ⟨rfl, ⟨rfl, ⟨rfl, trivial⟩⟩⟩⟩⟩⟩ h
      · have h := h.2 c
        refine g_iload_n (pc2 := 72) dX9_swappedOf_71 rfl rfl ?_
        refine g_iconst (v := (-1)) (pc2 := 73) dX9_swappedOf_72 (by decide) rfl ?_
        refine g_icmp_ne (tgt := 87) (pc2 := 76) dX9_swappedOf_73 (by decide) rfl (fun c => ?_) (fun c => ?_)
        · have h := h.1 c
          refine g_iload_n (pc2 := 88) dX9_swappedOf_87 rfl rfl ?_
          refine g_istore_n (pc2 := 89) dX9_swappedOf_88 (by decide) rfl rfl ?_
          refine g_iinc2 (c := 1) (pc2 := 92) dX9_swappedOf_89 rfl (by decide) (by decide) rfl rfl ?_
          refine g_goto (tgt := 26) dX9_swappedOf_92 (by decide) ?_
          exact g_lw (lv2 := [some (.ref 1), some (.int x1), some (.int (x2 + 0)), some (.int x3), some (.int x4), some (.int (x5 + 1)), none]) ⟨rfl, ⟨rfl, ⟨rfl, ⟨rfl, ⟨rfl, ⟨rfl, trivial⟩⟩⟩⟩⟩⟩ h
        · have h := h.2 c
          refine g_bipush (v := 8) (pc2 := 78) dX9_swappedOf_76 (by decide) rfl ?_
          refine g_iload (pc2 := 80) dX9_swappedOf_78 rfl rfl ?_
          refine g_imul (pc2 := 81) dX9_swappedOf_80 rfl ?_
          refine g_iload (pc2 := 83) dX9_swappedOf_81 rfl rfl ?_
          refine g_iadd (pc2 := 84) dX9_swappedOf_83 rfl ?_
          refine g_goto (tgt := 88) dX9_swappedOf_84 (by decide) ?_
          refine g_istore_n (pc2 := 89) dX9_swappedOf_88 (by decide) rfl rfl ?_
          refine g_iinc2 (c := 1) (pc2 := 92) dX9_swappedOf_89 rfl (by decide) (by decide) rfl rfl ?_
          refine g_goto (tgt := 26) dX9_swappedOf_92 (by decide) ?_
          exact g_lw (lv2 := [some (.ref 1), some (.int x1), some (.int (x2 + 0)), some (.int ((8 * x4) + x5)), some (.int x4), some (.int (x5 + 1)), none]) ⟨rfl, ⟨rfl, ⟨rfl, ⟨rfl, ⟨rfl, ⟨rfl, trivial⟩⟩⟩⟩⟩⟩ h
    · have h := h.2 c
      refine g_iconst (v := 1) (pc2 := 60) dX9_swappedOf_59 (by decide) rfl ?_
      refine g_goto (tgt := 64) dX9_swappedOf_60 (by decide) ?_
      refine g_iadd (pc2 := 65) dX9_swappedOf_64 rfl ?_
      refine g_istore_n (pc2 := 66) dX9_swappedOf_65 (by decide) rfl rfl ?_
      refine g_iload (pc2 := 68) dX9_swappedOf_66 rfl rfl ?_
      refine g_if_eq (tgt := 87) (pc2 := 71) dX9_swappedOf_68 (by decide) rfl (fun c => ?_) (fun c => ?_)
      · have h := h.1 c
        refine g_iload_n (pc2 := 88) dX9_swappedOf_87 rfl rfl ?_
        refine g_istore_n (pc2 := 89) dX9_swappedOf_88 (by decide) rfl rfl ?_
        refine g_iinc2 (c := 1) (pc2 := 92) dX9_swappedOf_89 rfl (by decide) (by decide) rfl rfl ?_
        refine g_goto (tgt := 26) dX9_swappedOf_92 (by decide) ?_
        exact g_lw (lv2 := [some (.ref 1), some (.int x1), some (.int (x2 + 1)), some (.int x3), some (.int x4), some (.int (x5 + 1)), none]) ⟨rfl, ⟨rfl, ⟨rfl, ⟨rfl, ⟨rfl, ⟨rfl, trivial⟩⟩⟩⟩⟩⟩ h
      · have h := h.2 c
        refine g_iload_n (pc2 := 72) dX9_swappedOf_71 rfl rfl ?_
        refine g_iconst (v := (-1)) (pc2 := 73) dX9_swappedOf_72 (by decide) rfl ?_
        refine g_icmp_ne (tgt := 87) (pc2 := 76) dX9_swappedOf_73 (by decide) rfl (fun c => ?_) (fun c => ?_)
        · have h := h.1 c
          refine g_iload_n (pc2 := 88) dX9_swappedOf_87 rfl rfl ?_
          refine g_istore_n (pc2 := 89) dX9_swappedOf_88 (by decide) rfl rfl ?_
          refine g_iinc2 (c := 1) (pc2 := 92) dX9_swappedOf_89 rfl (by decide) (by decide) rfl rfl ?_
          refine g_goto (tgt := 26) dX9_swappedOf_92 (by decide) ?_
          exact g_lw (lv2 := [some (.ref 1), some (.int x1), some (.int (x2 + 1)), some (.int x3), some (.int x4), some (.int (x5 + 1)), none]) ⟨rfl, ⟨rfl, ⟨rfl, ⟨rfl, ⟨rfl, ⟨rfl, trivial⟩⟩⟩⟩⟩⟩ h
        · have h := h.2 c
          refine g_bipush (v := 8) (pc2 := 78) dX9_swappedOf_76 (by decide) rfl ?_
          refine g_iload (pc2 := 80) dX9_swappedOf_78 rfl rfl ?_
          refine g_imul (pc2 := 81) dX9_swappedOf_80 rfl ?_
          refine g_iload (pc2 := 83) dX9_swappedOf_81 rfl rfl ?_
          refine g_iadd (pc2 := 84) dX9_swappedOf_83 rfl ?_
          refine g_goto (tgt := 88) dX9_swappedOf_84 (by decide) ?_
          refine g_istore_n (pc2 := 89) dX9_swappedOf_88 (by decide) rfl rfl ?_
          refine g_iinc2 (c := 1) (pc2 := 92) dX9_swappedOf_89 rfl (by decide) (by decide) rfl rfl ?_
          refine g_goto (tgt := 26) dX9_swappedOf_92 (by decide) ?_
          exact g_lw (lv2 := [some (.ref 1), some (.int x1), some (.int (x2 + 1)), some (.int ((8 * x4) + x5)), some (.int x4), some (.int (x5 + 1)), none]) ⟨rfl, ⟨rfl, ⟨rfl, ⟨rfl, ⟨rfl, ⟨rfl, trivial⟩⟩⟩⟩⟩⟩ h
set_option maxRecDepth 20000 in
theorem eX9_type {d : Nat} {σ : gw_S} {Q : Option Value → gw_S → Prop} {x1 : Int32} {x2 : Int32}   (h : gB d mX9_isText [.int x1] σ (fun v σ1 => ∃ r2 : Int32, v = some (.int r2) ∧ (((r2 = 0) → (Q (some (.int (-2))) σ1)) ∧ ((¬ r2 = 0) → (gB d mX9_in [.int x2, .int 0, .int 255] σ1 (fun v σ3 => ∃ r4 : Int32, v = some (.int r4) ∧ (((¬ r4 = 0) → (vp_in x1 2 ∧ (((¬ x1 = 0) → (((¬ (σ3 140 x1.toNatClampNeg) = 8) → (vp_in x1 2 ∧ (vp_in ((47 * x1) + (σ3 140 x1.toNatClampNeg)) 94 ∧ (∀ s5 : gw_S, s5 = gw_u σ3 141 ((47 * x1) + (σ3 140 x1.toNatClampNeg)).toNatClampNeg x2 → (vp_in x1 2 ∧ (vp_in x1 2 ∧ (∀ s6 : gw_S, s6 = gw_u s5 140 x1.toNatClampNeg ((s5 140 x1.toNatClampNeg) + 1) → (vp_in x1 2 ∧ (Q (some (.int (s6 140 x1.toNatClampNeg))) s6))))))))) ∧ (((σ3 140 x1.toNatClampNeg) = 8) → (Q (some (.int (-4))) σ3)))) ∧ ((x1 = 0) → (((¬ (σ3 140 x1.toNatClampNeg) = 47) → (vp_in x1 2 ∧ (vp_in ((47 * x1) + (σ3 140 x1.toNatClampNeg)) 94 ∧ (∀ s7 : gw_S, s7 = gw_u σ3 141 ((47 * x1) + (σ3 140 x1.toNatClampNeg)).toNatClampNeg x2 → (vp_in x1 2 ∧ (vp_in x1 2 ∧ (∀ s8 : gw_S, s8 = gw_u s7 140 x1.toNatClampNeg ((s7 140 x1.toNatClampNeg) + 1) → (vp_in x1 2 ∧ (Q (some (.int (s8 140 x1.toNatClampNeg))) s8))))))))) ∧ (((σ3 140 x1.toNatClampNeg) = 47) → (Q (some (.int (-4))) σ3))))))) ∧ ((r4 = 0) → (Q (some (.int (-2))) σ3))))))))) : gB (d + 1) mX9_type [.ref 1, .int x1, .int x2] σ Q := by
  refine gB_of rfl (Nat.le_of_ble_eq_true rfl) (g_lw (lv2 := [some (.ref 1), some (.int x1), some (.int x2)]) ⟨rfl, ⟨rfl, ⟨rfl, trivial⟩⟩⟩ ?_)
  refine g_iload_n (pc2 := 1) dX9_type_0 rfl rfl ?_
  refine g_callS (M2 := mX9_isText) (as := [.int x1]) (st := []) (pc2 := 4) dX9_type_1 ml_X9_120 msX9_isText rfl rfl (Nat.le_of_ble_eq_true rfl) (Nat.le_refl _) rfl (h.mono ?_)
  rintro _ σ1 ⟨r2, rfl, h⟩
  show gG (d + 1) mX9_type 4 _ [.int r2] σ1 Q
  refine g_if_eq (tgt := 18) (pc2 := 7) dX9_type_4 (by decide) rfl (fun c => ?_) (fun c => ?_)
  · have h := h.1 c
    refine g_bipush (v := (-2)) (pc2 := 20) dX9_type_18 (by decide) rfl ?_
    exact g_iret dX9_type_20 rfl h
  · have h := h.2 c
    refine g_iload_n (pc2 := 8) dX9_type_7 rfl rfl ?_
    refine g_iconst (v := 0) (pc2 := 9) dX9_type_8 (by decide) rfl ?_
    refine g_sipush (v := 255) (pc2 := 12) dX9_type_9 (by decide) rfl ?_
    refine g_callS (M2 := mX9_in) (as := [.int x2, .int 0, .int 255]) (st := []) (pc2 := 15) dX9_type_12 ml_X9_116 msX9_in rfl rfl (Nat.le_of_ble_eq_true rfl) (Nat.le_refl _) rfl (h.mono ?_)
    rintro _ σ3 ⟨r4, rfl, h⟩
    show gG (d + 1) mX9_type 15 _ [.int r4] σ3 Q
    refine g_if_ne (tgt := 21) (pc2 := 18) dX9_type_15 (by decide) rfl (fun c => ?_) (fun c => ?_)
    · have h := h.1 c
      refine g_aload_n (pc2 := 22) dX9_type_21 rfl rfl ?_
      refine g_geta (pc2 := 25) dX9_type_22 fl_X9_7 gk_1 rfl rfl ?_
      refine g_iload_n (pc2 := 26) dX9_type_25 rfl rfl ?_
      obtain ⟨hx, h⟩ := h
      refine g_iald (pc2 := 27) dX9_type_26 gk_140 hx rfl ?_
      refine g_iload_n (pc2 := 28) dX9_type_27 rfl rfl ?_
      refine g_if_ne (tgt := 36) (pc2 := 31) dX9_type_28 (by decide) rfl (fun c => ?_) (fun c => ?_)
      · have h := h.1 c
        refine g_bipush (v := 8) (pc2 := 38) dX9_type_36 (by decide) rfl ?_
        refine g_icmp_ne (tgt := 44) (pc2 := 41) dX9_type_38 (by decide) rfl (fun c => ?_) (fun c => ?_)
        · have h := h.1 c
          refine g_aload_n (pc2 := 45) dX9_type_44 rfl rfl ?_
          refine g_geta (pc2 := 48) dX9_type_45 fl_X9_13 gk_1 rfl rfl ?_
          refine g_bipush (v := 47) (pc2 := 50) dX9_type_48 (by decide) rfl ?_
          refine g_iload_n (pc2 := 51) dX9_type_50 rfl rfl ?_
          refine g_imul (pc2 := 52) dX9_type_51 rfl ?_
          refine g_aload_n (pc2 := 53) dX9_type_52 rfl rfl ?_
          refine g_geta (pc2 := 56) dX9_type_53 fl_X9_7 gk_1 rfl rfl ?_
          refine g_iload_n (pc2 := 57) dX9_type_56 rfl rfl ?_
          obtain ⟨hx, h⟩ := h
          refine g_iald (pc2 := 58) dX9_type_57 gk_140 hx rfl ?_
          refine g_iadd (pc2 := 59) dX9_type_58 rfl ?_
          refine g_iload_n (pc2 := 60) dX9_type_59 rfl rfl ?_
          obtain ⟨hx, h⟩ := h
          refine g_iast2 (pc2 := 61) dX9_type_60 gk_141 hx rfl (fun s5 es5 => ?_)
          replace h := h s5 es5
          refine g_aload_n (pc2 := 62) dX9_type_61 rfl rfl ?_
          refine g_geta (pc2 := 65) dX9_type_62 fl_X9_7 gk_1 rfl rfl ?_
          refine g_iload_n (pc2 := 66) dX9_type_65 rfl rfl ?_
          refine g_dup2 (pc2 := 67) dX9_type_66 rfl rfl rfl ?_
          obtain ⟨hx, h⟩ := h
          refine g_iald (pc2 := 68) dX9_type_67 gk_140 hx rfl ?_
          refine g_iconst (v := 1) (pc2 := 69) dX9_type_68 (by decide) rfl ?_
          refine g_iadd (pc2 := 70) dX9_type_69 rfl ?_
          obtain ⟨hx, h⟩ := h
          refine g_iast2 (pc2 := 71) dX9_type_70 gk_140 hx rfl (fun s6 es6 => ?_)
          replace h := h s6 es6
          refine g_aload_n (pc2 := 72) dX9_type_71 rfl rfl ?_
          refine g_geta (pc2 := 75) dX9_type_72 fl_X9_7 gk_1 rfl rfl ?_
          refine g_iload_n (pc2 := 76) dX9_type_75 rfl rfl ?_
          obtain ⟨hx, h⟩ := h
          refine g_iald (pc2 := 77) dX9_type_76 gk_140 hx rfl ?_
          exact g_iret dX9_type_77 rfl h
        · have h := h.2 c
          refine g_bipush (v := (-4)) (pc2 := 43) dX9_type_41 (by decide) rfl ?_
          exact g_iret dX9_type_43 rfl h
      · have h := h.2 c
        refine g_bipush (v := 47) (pc2 := 33) dX9_type_31 (by decide) rfl ?_
        refine g_goto (tgt := 38) dX9_type_33 (by decide) ?_
        refine g_icmp_ne (tgt := 44) (pc2 := 41) dX9_type_38 (by decide) rfl (fun c => ?_) (fun c => ?_)
        · have h := h.1 c
          refine g_aload_n (pc2 := 45) dX9_type_44 rfl rfl ?_
          refine g_geta (pc2 := 48) dX9_type_45 fl_X9_13 gk_1 rfl rfl ?_
          refine g_bipush (v := 47) (pc2 := 50) dX9_type_48 (by decide) rfl ?_
          refine g_iload_n (pc2 := 51) dX9_type_50 rfl rfl ?_
          refine g_imul (pc2 := 52) dX9_type_51 rfl ?_
          refine g_aload_n (pc2 := 53) dX9_type_52 rfl rfl ?_
          refine g_geta (pc2 := 56) dX9_type_53 fl_X9_7 gk_1 rfl rfl ?_
          refine g_iload_n (pc2 := 57) dX9_type_56 rfl rfl ?_
          obtain ⟨hx, h⟩ := h
          refine g_iald (pc2 := 58) dX9_type_57 gk_140 hx rfl ?_
          refine g_iadd (pc2 := 59) dX9_type_58 rfl ?_
          refine g_iload_n (pc2 := 60) dX9_type_59 rfl rfl ?_
          obtain ⟨hx, h⟩ := h
          refine g_iast2 (pc2 := 61) dX9_type_60 gk_141 hx rfl (fun s7 es7 => ?_)
          replace h := h s7 es7
          refine g_aload_n (pc2 := 62) dX9_type_61 rfl rfl ?_
          refine g_geta (pc2 := 65) dX9_type_62 fl_X9_7 gk_1 rfl rfl ?_
          refine g_iload_n (pc2 := 66) dX9_type_65 rfl rfl ?_
          refine g_dup2 (pc2 := 67) dX9_type_66 rfl rfl rfl ?_
          obtain ⟨hx, h⟩ := h
          refine g_iald (pc2 := 68) dX9_type_67 gk_140 hx rfl ?_
          refine g_iconst (v := 1) (pc2 := 69) dX9_type_68 (by decide) rfl ?_
          refine g_iadd (pc2 := 70) dX9_type_69 rfl ?_
          obtain ⟨hx, h⟩ := h
          refine g_iast2 (pc2 := 71) dX9_type_70 gk_140 hx rfl (fun s8 es8 => ?_)
          replace h := h s8 es8
          refine g_aload_n (pc2 := 72) dX9_type_71 rfl rfl ?_
          refine g_geta (pc2 := 75) dX9_type_72 fl_X9_7 gk_1 rfl rfl ?_
          refine g_iload_n (pc2 := 76) dX9_type_75 rfl rfl ?_
          obtain ⟨hx, h⟩ := h
          refine g_iald (pc2 := 77) dX9_type_76 gk_140 hx rfl ?_
          exact g_iret dX9_type_77 rfl h
        · have h := h.2 c
          refine g_bipush (v := (-4)) (pc2 := 43) dX9_type_41 (by decide) rfl ?_
          exact g_iret dX9_type_43 rfl h
    · have h := h.2 c
      refine g_bipush (v := (-2)) (pc2 := 20) dX9_type_18 (by decide) rfl ?_
      exact g_iret dX9_type_20 rfl h
set_option maxRecDepth 20000 in
theorem eX9_undo {d : Nat} {σ : gw_S} {Q : Option Value → gw_S → Prop} {x1 : Int32}   (h : gB d mX9_isText [.int x1] σ (fun v σ1 => ∃ r2 : Int32, v = some (.int r2) ∧ (((¬ r2 = 0) → (vp_in x1 2 ∧ (((¬ (σ1 140 x1.toNatClampNeg) = 0) → (vp_in x1 2 ∧ (vp_in x1 2 ∧ (∀ s3 : gw_S, s3 = gw_u σ1 140 x1.toNatClampNeg ((σ1 140 x1.toNatClampNeg) - 1) → (vp_in x1 2 ∧ (Q (some (.int (s3 140 x1.toNatClampNeg))) s3)))))) ∧ (((σ1 140 x1.toNatClampNeg) = 0) → (Q (some (.int (-3))) σ1))))) ∧ ((r2 = 0) → (Q (some (.int (-2))) σ1))))) : gB (d + 1) mX9_undo [.ref 1, .int x1] σ Q := by
  refine gB_of rfl (Nat.le_of_ble_eq_true rfl) (g_lw (lv2 := [some (.ref 1), some (.int x1)]) ⟨rfl, ⟨rfl, trivial⟩⟩ ?_)
  refine g_iload_n (pc2 := 1) dX9_undo_0 rfl rfl ?_
  refine g_callS (M2 := mX9_isText) (as := [.int x1]) (st := []) (pc2 := 4) dX9_undo_1 ml_X9_120 msX9_isText rfl rfl (Nat.le_of_ble_eq_true rfl) (Nat.le_refl _) rfl (h.mono ?_)
  rintro _ σ1 ⟨r2, rfl, h⟩
  show gG (d + 1) mX9_undo 4 _ [.int r2] σ1 Q
  refine g_if_ne (tgt := 10) (pc2 := 7) dX9_undo_4 (by decide) rfl (fun c => ?_) (fun c => ?_)
  · have h := h.1 c
    refine g_aload_n (pc2 := 11) dX9_undo_10 rfl rfl ?_
    refine g_geta (pc2 := 14) dX9_undo_11 fl_X9_7 gk_1 rfl rfl ?_
    refine g_iload_n (pc2 := 15) dX9_undo_14 rfl rfl ?_
    obtain ⟨hx, h⟩ := h
    refine g_iald (pc2 := 16) dX9_undo_15 gk_140 hx rfl ?_
    refine g_if_ne (tgt := 22) (pc2 := 19) dX9_undo_16 (by decide) rfl (fun c => ?_) (fun c => ?_)
    · have h := h.1 c
      refine g_aload_n (pc2 := 23) dX9_undo_22 rfl rfl ?_
      refine g_geta (pc2 := 26) dX9_undo_23 fl_X9_7 gk_1 rfl rfl ?_
      refine g_iload_n (pc2 := 27) dX9_undo_26 rfl rfl ?_
      refine g_dup2 (pc2 := 28) dX9_undo_27 rfl rfl rfl ?_
      obtain ⟨hx, h⟩ := h
      refine g_iald (pc2 := 29) dX9_undo_28 gk_140 hx rfl ?_
      refine g_iconst (v := 1) (pc2 := 30) dX9_undo_29 (by decide) rfl ?_
      refine g_isub (pc2 := 31) dX9_undo_30 rfl ?_
      obtain ⟨hx, h⟩ := h
      refine g_iast2 (pc2 := 32) dX9_undo_31 gk_140 hx rfl (fun s3 es3 => ?_)
      replace h := h s3 es3
      refine g_aload_n (pc2 := 33) dX9_undo_32 rfl rfl ?_
      refine g_geta (pc2 := 36) dX9_undo_33 fl_X9_7 gk_1 rfl rfl ?_
      refine g_iload_n (pc2 := 37) dX9_undo_36 rfl rfl ?_
      obtain ⟨hx, h⟩ := h
      refine g_iald (pc2 := 38) dX9_undo_37 gk_140 hx rfl ?_
      exact g_iret dX9_undo_38 rfl h
    · have h := h.2 c
      refine g_bipush (v := (-3)) (pc2 := 21) dX9_undo_19 (by decide) rfl ?_
      exact g_iret dX9_undo_21 rfl h
  · have h := h.2 c
    refine g_bipush (v := (-2)) (pc2 := 9) dX9_undo_7 (by decide) rfl ?_
    exact g_iret dX9_undo_9 rfl h
set_option maxRecDepth 20000 in
theorem eX9_weigh {d : Nat} {σ : gw_S} {Q : Option Value → gw_S → Prop} {x1 : Int32}   (h : gB d mX9_isDay [.int x1] σ (fun v σ1 => ∃ r2 : Int32, v = some (.int r2) ∧ (((r2 = 0) → (Q (some (.int (-2))) σ1)) ∧ ((¬ r2 = 0) → (gB d mX9_weighOf [.ref 1, .int x1] σ1 (fun v σ3 => ∃ r4 : Int32, v = some (.int r4) ∧ (Q (some (.int r4)) σ3))))))) : gB (d + 1) mX9_weigh [.ref 1, .int x1] σ Q := by
  refine gB_of rfl (Nat.le_of_ble_eq_true rfl) (g_lw (lv2 := [some (.ref 1), some (.int x1)]) ⟨rfl, ⟨rfl, trivial⟩⟩ ?_)
  refine g_iload_n (pc2 := 1) dX9_weigh_0 rfl rfl ?_
  refine g_callS (M2 := mX9_isDay) (as := [.int x1]) (st := []) (pc2 := 4) dX9_weigh_1 ml_X9_163 msX9_isDay rfl rfl (Nat.le_of_ble_eq_true rfl) (Nat.le_refl _) rfl (h.mono ?_)
  rintro _ σ1 ⟨r2, rfl, h⟩
  show gG (d + 1) mX9_weigh 4 _ [.int r2] σ1 Q
  refine g_if_eq (tgt := 15) (pc2 := 7) dX9_weigh_4 (by decide) rfl (fun c => ?_) (fun c => ?_)
  · have h := h.1 c
    refine g_bipush (v := (-2)) (pc2 := 17) dX9_weigh_15 (by decide) rfl ?_
    exact g_iret dX9_weigh_17 rfl h
  · have h := h.2 c
    refine g_aload_n (pc2 := 8) dX9_weigh_7 rfl rfl ?_
    refine g_iload_n (pc2 := 9) dX9_weigh_8 rfl rfl ?_
    refine g_callV (M2 := mX9_weighOf) (as := [.int x1]) (st := []) (pc2 := 12) dX9_weigh_9 ml_X9_312 mvX9_weighOf gk_1 rfl rfl rfl (Nat.le_of_ble_eq_true rfl) (Nat.le_refl _) rfl (h.mono ?_)
    rintro _ σ3 ⟨r4, rfl, h⟩
    show gG (d + 1) mX9_weigh 12 _ [.int r4] σ3 Q
    refine g_goto (tgt := 17) dX9_weigh_12 (by decide) ?_
    exact g_iret dX9_weigh_17 rfl h
set_option maxRecDepth 20000 in
theorem eX9_weighOf {d : Nat} {σ : gw_S} {Q : Option Value → gw_S → Prop} {x1 : Int32}   (h : gB d mX9_hidNow [.ref 1] σ (fun v σ1 => ∃ r2 : Int32, v = some (.int r2) ∧ (gB d mX9_asTold [.ref 1] σ1 (fun v σ3 => v = none ∧ (gG (d + 1) mX9_weighOf 11 [some (.ref 1), some (.int x1), some (.int r2), some (.int 0), none, none, none, none, none, none] [] σ3 Q))))) : gB (d + 1) mX9_weighOf [.ref 1, .int x1] σ Q := by
  refine gB_of rfl (Nat.le_of_ble_eq_true rfl) (g_lw (lv2 := [some (.ref 1), some (.int x1), none, none, none, none, none, none, none, none]) ⟨rfl, ⟨rfl, trivial⟩⟩ ?_)
  refine g_aload_n (pc2 := 1) dX9_weighOf_0 rfl rfl ?_
  refine g_callV (M2 := mX9_hidNow) (as := []) (st := []) (pc2 := 4) dX9_weighOf_1 ml_X9_306 mvX9_hidNow gk_1 rfl rfl rfl (Nat.le_of_ble_eq_true rfl) (Nat.le_refl _) rfl (h.mono ?_)
  rintro _ σ1 ⟨r2, rfl, h⟩
  show gG (d + 1) mX9_weighOf 4 _ [.int r2] σ1 Q
  refine g_istore_n (pc2 := 5) dX9_weighOf_4 (by decide) rfl rfl ?_
  refine g_aload_n (pc2 := 6) dX9_weighOf_5 rfl rfl ?_
  refine g_callV (M2 := mX9_asTold) (as := []) (st := []) (pc2 := 9) dX9_weighOf_6 ml_X9_236 mvX9_asTold gk_1 rfl rfl rfl (Nat.le_of_ble_eq_true rfl) (Nat.le_refl _) rfl (h.mono ?_)
  rintro _ σ3 ⟨rfl, h⟩
  show gG (d + 1) mX9_weighOf 9 _ [] σ3 Q
  refine g_iconst (v := 0) (pc2 := 10) dX9_weighOf_9 (by decide) rfl ?_
  refine g_istore_n (pc2 := 11) dX9_weighOf_10 (by decide) rfl rfl ?_
  exact g_lw (lv2 := [some (.ref 1), some (.int x1), some (.int r2), some (.int 0), none, none, none, none, none, none]) ⟨rfl, ⟨rfl, ⟨rfl, ⟨rfl, trivial⟩⟩⟩⟩ h
set_option maxRecDepth 20000 in
theorem bX9_weighOf_11 {d : Nat} {σ : gw_S} {Q : Option Value → gw_S → Prop} {x1 : Int32} {x2 : Int32} {x3 : Int32}   (h : (((σ 1 12) ≤ x3) → (gG (d + 1) mX9_weighOf 79 [some (.ref 1), none, some (.int x2), some (.int (-1)), some (.int 0), some (.int 0), none, none, none, none] [] σ Q)) ∧ ((¬ (σ 1 12) ≤ x3) → (∀ s4 : gw_S, s4 = gw_u σ 1 32 x3 → (gB d mX9_runs [.ref 1, .int x1] s4 (fun v σ5 => v = none ∧ (gG (d + 1) mX9_weighOf 32 [some (.ref 1), some (.int x1), some (.int x2), some (.int x3), some (.int 0), none, none, none, none, none] [] σ5 Q)))))) : gG (d + 1) mX9_weighOf 11 [some (.ref 1), some (.int x1), some (.int x2), some (.int x3), none, none, none, none, none, none] [] σ Q := by
  refine g_iload_n (pc2 := 12) dX9_weighOf_11 rfl rfl ?_
  refine g_aload_n (pc2 := 13) dX9_weighOf_12 rfl rfl ?_
  refine g_geti (pc2 := 16) dX9_weighOf_13 fl_X9_169 gk_1 rfl rfl ?_
  refine g_icmp_ge (tgt := 71) (pc2 := 19) dX9_weighOf_16 (by decide) rfl (fun c => ?_) (fun c => ?_)
  · have h := h.1 c
    refine g_iconst (v := (-1)) (pc2 := 72) dX9_weighOf_71 (by decide) rfl ?_
    refine g_istore_n (pc2 := 73) dX9_weighOf_72 (by decide) rfl rfl ?_
    refine g_iconst (v := 0) (pc2 := 74) dX9_weighOf_73 (by decide) rfl ?_
    refine g_istore (pc2 := 76) dX9_weighOf_74 (by decide) rfl rfl ?_
    refine g_iconst (v := 0) (pc2 := 77) dX9_weighOf_76 (by decide) rfl ?_
    refine g_istore (pc2 := 79) dX9_weighOf_77 (by decide) rfl rfl ?_
    exact g_lw (lv2 := [some (.ref 1), none, some (.int x2), some (.int (-1)), some (.int 0), some (.int 0), none, none, none, none]) ⟨rfl, ⟨rfl, ⟨rfl, ⟨rfl, ⟨rfl, trivial⟩⟩⟩⟩⟩ h
  · have h := h.2 c
    refine g_aload_n (pc2 := 20) dX9_weighOf_19 rfl rfl ?_
    refine g_iload_n (pc2 := 21) dX9_weighOf_20 rfl rfl ?_
    refine g_put2 (pc2 := 24) dX9_weighOf_21 fp_X9_182 gk_1 rfl rfl rfl rfl (fun s4 es4 => ?_)
    replace h := h s4 es4
    refine g_aload_n (pc2 := 25) dX9_weighOf_24 rfl rfl ?_
    refine g_iload_n (pc2 := 26) dX9_weighOf_25 rfl rfl ?_
    refine g_callV (M2 := mX9_runs) (as := [.int x1]) (st := []) (pc2 := 29) dX9_weighOf_26 ml_X9_239 mvX9_runs gk_1 rfl rfl rfl (Nat.le_of_ble_eq_true rfl) (Nat.le_refl _) rfl (h.mono ?_)
    rintro _ σ5 ⟨rfl, h⟩
    show gG (d + 1) mX9_weighOf 29 _ [] σ5 Q
    refine g_iconst (v := 0) (pc2 := 30) dX9_weighOf_29 (by decide) rfl ?_
    refine g_istore (pc2 := 32) dX9_weighOf_30 (by decide) rfl rfl ?_
    exact g_lw (lv2 := [some (.ref 1), some (.int x1), some (.int x2), some (.int x3), some (.int 0), none, none, none, none, none]) ⟨rfl, ⟨rfl, ⟨rfl, ⟨rfl, ⟨rfl, trivial⟩⟩⟩⟩⟩ h
set_option maxRecDepth 20000 in
theorem bX9_weighOf_79 {d : Nat} {σ : gw_S} {Q : Option Value → gw_S → Prop} {x2 : Int32} {x3 : Int32} {x4 : Int32} {x5 : Int32}   (h : (((σ 1 2) ≤ x5) → (Q (some (.int x3)) σ)) ∧ ((¬ (σ 1 2) ≤ x5) → (gG (d + 1) mX9_weighOf 94 [some (.ref 1), none, some (.int x2), some (.int x3), some (.int x4), some (.int x5), some (.int 0), some (.int 0), none, none] [] σ Q))) : gG (d + 1) mX9_weighOf 79 [some (.ref 1), none, some (.int x2), some (.int x3), some (.int x4), some (.int x5), none, none, none, none] [] σ Q := by
  refine g_iload (pc2 := 81) dX9_weighOf_79 rfl rfl ?_
  refine g_aload_n (pc2 := 82) dX9_weighOf_81 rfl rfl ?_
  refine g_geti (pc2 := 85) dX9_weighOf_82 fl_X9_128 gk_1 rfl rfl ?_
  refine g_icmp_ge (tgt := 254) (pc2 := 88) dX9_weighOf_85 (by decide) rfl (fun c => ?_) (fun c => ?_)
  · have h := h.1 c
    refine g_iload_n (pc2 := 255) dX9_weighOf_254 rfl rfl ?_
    exact g_iret dX9_weighOf_255 rfl h
  · have h := h.2 c
    refine g_iconst (v := 0) (pc2 := 89) dX9_weighOf_88 (by decide) rfl ?_
    refine g_istore (pc2 := 91) dX9_weighOf_89 (by decide) rfl rfl ?_
    refine g_iconst (v := 0) (pc2 := 92) dX9_weighOf_91 (by decide) rfl ?_
    refine g_istore (pc2 := 94) dX9_weighOf_92 (by decide) rfl rfl ?_
    exact g_lw (lv2 := [some (.ref 1), none, some (.int x2), some (.int x3), some (.int x4), some (.int x5), some (.int 0), some (.int 0), none, none]) ⟨rfl, ⟨rfl, ⟨rfl, ⟨rfl, ⟨rfl, ⟨rfl, ⟨rfl, trivial⟩⟩⟩⟩⟩⟩⟩ h
set_option maxRecDepth 20000 in
theorem bX9_weighOf_32 {d : Nat} {σ : gw_S} {Q : Option Value → gw_S → Prop} {x1 : Int32} {x2 : Int32} {x3 : Int32} {x4 : Int32}   (h : (((σ 1 2) ≤ x4) → (gG (d + 1) mX9_weighOf 11 [some (.ref 1), some (.int x1), some (.int x2), some (.int (x3 + 1)), none, none, none, none, none, none] [] σ Q)) ∧ ((¬ (σ 1 2) ≤ x4) → (gB d mX9_allIn [.ref 1, .int x4] σ (fun v σ6 => ∃ r7 : Int32, v = some (.int r7) ∧ (vp_in ((8 * x3) + x4) 128 ∧ (∀ s8 : gw_S, s8 = gw_u σ6 167 ((8 * x3) + x4).toNatClampNeg r7 → (gG (d + 1) mX9_weighOf 32 [some (.ref 1), some (.int x1), some (.int x2), some (.int x3), some (.int (x4 + 1)), none, none, none, none, none] [] s8 Q))))))) : gG (d + 1) mX9_weighOf 32 [some (.ref 1), some (.int x1), some (.int x2), some (.int x3), some (.int x4), none, none, none, none, none] [] σ Q := by
  refine g_iload (pc2 := 34) dX9_weighOf_32 rfl rfl ?_
  refine g_aload_n (pc2 := 35) dX9_weighOf_34 rfl rfl ?_
  refine g_geti (pc2 := 38) dX9_weighOf_35 fl_X9_128 gk_1 rfl rfl ?_
  refine g_icmp_ge (tgt := 65) (pc2 := 41) dX9_weighOf_38 (by decide) rfl (fun c => ?_) (fun c => ?_)
  · have h := h.1 c
    refine g_iinc2 (c := 1) (pc2 := 68) dX9_weighOf_65 rfl (by decide) (by decide) rfl rfl ?_
    refine g_goto (tgt := 11) dX9_weighOf_68 (by decide) ?_
    exact g_lw (lv2 := [some (.ref 1), some (.int x1), some (.int x2), some (.int (x3 + 1)), none, none, none, none, none, none]) ⟨rfl, ⟨rfl, ⟨rfl, ⟨rfl, trivial⟩⟩⟩⟩ h
  · have h := h.2 c
    refine g_aload_n (pc2 := 42) dX9_weighOf_41 rfl rfl ?_
    refine g_geta (pc2 := 45) dX9_weighOf_42 fl_X9_92 gk_1 rfl rfl ?_
    refine g_bipush (v := 8) (pc2 := 47) dX9_weighOf_45 (by decide) rfl ?_
    refine g_iload_n (pc2 := 48) dX9_weighOf_47 rfl rfl ?_
    refine g_imul (pc2 := 49) dX9_weighOf_48 rfl ?_
    refine g_iload (pc2 := 51) dX9_weighOf_49 rfl rfl ?_
    refine g_iadd (pc2 := 52) dX9_weighOf_51 rfl ?_
    refine g_aload_n (pc2 := 53) dX9_weighOf_52 rfl rfl ?_
    refine g_iload (pc2 := 55) dX9_weighOf_53 rfl rfl ?_
    refine g_callV (M2 := mX9_allIn) (as := [.int x4]) (st := [.int ((8 * x3) + x4), .ref 167]) (pc2 := 58) dX9_weighOf_55 ml_X9_219 mvX9_allIn gk_1 rfl rfl rfl (Nat.le_of_ble_eq_true rfl) (Nat.le_refl _) rfl (h.mono ?_)
    rintro _ σ6 ⟨r7, rfl, h⟩
    show gG (d + 1) mX9_weighOf 58 _ [.int r7, .int ((8 * x3) + x4), .ref 167] σ6 Q
    obtain ⟨hx, h⟩ := h
    refine g_iast2 (pc2 := 59) dX9_weighOf_58 gk_167 hx rfl (fun s8 es8 => ?_)
    replace h := h s8 es8
    refine g_iinc2 (c := 1) (pc2 := 62) dX9_weighOf_59 rfl (by decide) (by decide) rfl rfl ?_
    refine g_goto (tgt := 32) dX9_weighOf_62 (by decide) ?_
    exact g_lw (lv2 := [some (.ref 1), some (.int x1), some (.int x2), some (.int x3), some (.int (x4 + 1)), none, none, none, none, none]) ⟨rfl, ⟨rfl, ⟨rfl, ⟨rfl, ⟨rfl, trivial⟩⟩⟩⟩⟩ h
set_option maxRecDepth 20000 in
theorem bX9_weighOf_94 {d : Nat} {σ : gw_S} {Q : Option Value → gw_S → Prop} {x2 : Int32} {x3 : Int32} {x4 : Int32} {x5 : Int32} {x6 : Int32} {x7 : Int32}   (h : (((σ 1 12) ≤ x7) → (((x3 = (-1)) → (gG (d + 1) mX9_weighOf 215 [some (.ref 1), none, some (.int x2), some (.int x3), some (.int x4), some (.int x5), some (.int x6), none, none, none] [] σ Q)) ∧ ((¬ x3 = (-1)) → (((x4 ≤ x6) → ((((0 : Int32) = 0) → ((((0 : Int32) = 0) → (gG (d + 1) mX9_weighOf 79 [some (.ref 1), none, some (.int x2), some (.int x3), some (.int x4), some (.int (x5 + 1)), none, none, none, none] [] σ Q)) ∧ ((¬ (0 : Int32) = 0) → (gG (d + 1) mX9_weighOf 79 [some (.ref 1), none, some (.int x2), some (.int x3), some (.int x6), some (.int (x5 + 1)), none, none, none, none] [] σ Q)))) ∧ ((¬ (0 : Int32) = 0) → ((((0 : Int32) = 0) → (gG (d + 1) mX9_weighOf 79 [some (.ref 1), none, some (.int x2), some (.int x5), some (.int x4), some (.int (x5 + 1)), none, none, none, none] [] σ Q)) ∧ ((¬ (0 : Int32) = 0) → (gG (d + 1) mX9_weighOf 79 [some (.ref 1), none, some (.int x2), some (.int x5), some (.int x6), some (.int (x5 + 1)), none, none, none, none] [] σ Q)))))) ∧ ((¬ x4 ≤ x6) → (gG (d + 1) mX9_weighOf 215 [some (.ref 1), none, some (.int x2), some (.int x3), some (.int x4), some (.int x5), some (.int x6), none, none, none] [] σ Q)))))) ∧ ((¬ (σ 1 12) ≤ x7) → (gG (d + 1) mX9_weighOf 109 [some (.ref 1), none, some (.int x2), some (.int x3), some (.int x4), some (.int x5), some (.int x6), some (.int x7), some (.int 0), some (.int 0)] [] σ Q))) : gG (d + 1) mX9_weighOf 94 [some (.ref 1), none, some (.int x2), some (.int x3), some (.int x4), some (.int x5), some (.int x6), some (.int x7), none, none] [] σ Q := by
  refine g_iload (pc2 := 96) dX9_weighOf_94 rfl rfl ?_
  refine g_aload_n (pc2 := 97) dX9_weighOf_96 rfl rfl ?_
  refine g_geti (pc2 := 100) dX9_weighOf_97 fl_X9_169 gk_1 rfl rfl ?_
  refine g_icmp_ge (tgt := 203) (pc2 := 103) dX9_weighOf_100 (by decide) rfl (fun c => ?_) (fun c => ?_)
  · have h := h.1 c
    refine g_iload_n (pc2 := 204) dX9_weighOf_203 rfl rfl ?_
    refine g_iconst (v := (-1)) (pc2 := 205) dX9_weighOf_204 (by decide) rfl ?_
    refine g_icmp_eq (tgt := 215) (pc2 := 208) dX9_weighOf_205 (by decide) rfl (fun c => ?_) (fun c => ?_)
    · have h := h.1 c
      exact g_lw (lv2 := [some (.ref 1), none, some (.int x2), some (.int x3), some (.int x4), some (.int x5), some (.int x6), none, none, none]) ⟨rfl, ⟨rfl, ⟨rfl, ⟨rfl, ⟨rfl, ⟨rfl, trivial⟩⟩⟩⟩⟩⟩ h
    · have h := h.2 c
      refine g_iload (pc2 := 210) dX9_weighOf_208 rfl rfl ?_
      refine g_iload (pc2 := 212) dX9_weighOf_210 rfl rfl ?_
      refine g_icmp_ge (tgt := 219) (pc2 := 215) dX9_weighOf_212 (by decide) rfl (fun c => ?_) (fun c => ?_)
      · have h := h.1 c
        refine g_iconst (v := 0) (pc2 := 220) dX9_weighOf_219 (by decide) rfl ?_
        refine g_istore (pc2 := 222) dX9_weighOf_220 (by decide) rfl rfl ?_
        refine g_iload (pc2 := 224) dX9_weighOf_222 rfl rfl ?_
        refine g_if_eq (tgt := 232) (pc2 := 227) dX9_weighOf_224 (by decide) rfl (fun c => ?_) (fun c => ?_)
        · have h := h.1 c
          refine g_iload_n (pc2 := 233) dX9_weighOf_232 rfl rfl ?_
          refine g_istore_n (pc2 := 234) dX9_weighOf_233 (by decide) rfl rfl ?_
          refine g_iload (pc2 := 236) dX9_weighOf_234 rfl rfl ?_
          refine g_if_eq (tgt := 244) (pc2 := 239) dX9_weighOf_236 (by decide) rfl (fun c => ?_) (fun c => ?_)
          · have h := h.1 c
            refine g_iload (pc2 := 246) dX9_weighOf_244 rfl rfl ?_
            refine g_istore (pc2 := 248) dX9_weighOf_246 (by decide) rfl rfl ?_
            refine g_iinc2 (c := 1) (pc2 := 251) dX9_weighOf_248 rfl (by decide) (by decide) rfl rfl ?_
            refine g_goto (tgt := 79) dX9_weighOf_251 (by decide) ?_
            exact g_lw (lv2 := [some (.ref 1), none, some (.int x2), some (.int x3), some (.int x4), some (.int (x5 + 1)), none, none, none, none]) ⟨rfl, ⟨rfl, ⟨rfl, ⟨rfl, ⟨rfl, trivial⟩⟩⟩⟩⟩ h
          · have h := h.2 c
            refine g_iload (pc2 := 241) dX9_weighOf_239 rfl rfl ?_
            refine g_goto (tgt := 246) dX9_weighOf_241 (by decide) ?_
            refine g_istore (pc2 := 248) dX9_weighOf_246 (by decide) rfl rfl ?_
            refine g_iinc2 (c := 1) (pc2 := 251) dX9_weighOf_248 rfl (by decide) (by decide) rfl rfl ?_
            refine g_goto (tgt := 79) dX9_weighOf_251 (by decide) ?_
            exact g_lw (lv2 := [some (.ref 1), none, some (.int x2), some (.int x3), some (.int x6), some (.int (x5 + 1)), none, none, none, none]) ⟨rfl, ⟨rfl, ⟨rfl, ⟨rfl, ⟨rfl, trivial⟩⟩⟩⟩⟩ h
        · have h := h.2 c
          refine g_iload (pc2 := 229) dX9_weighOf_227 rfl rfl ?_
          refine g_goto (tgt := 233) dX9_weighOf_229 (by decide) ?_
          refine g_istore_n (pc2 := 234) dX9_weighOf_233 (by decide) rfl rfl ?_
          refine g_iload (pc2 := 236) dX9_weighOf_234 rfl rfl ?_
          refine g_if_eq (tgt := 244) (pc2 := 239) dX9_weighOf_236 (by decide) rfl (fun c => ?_) (fun c => ?_)
          · have h := h.1 c
            refine g_iload (pc2 := 246) dX9_weighOf_244 rfl rfl ?_
            refine g_istore (pc2 := 248) dX9_weighOf_246 (by decide) rfl rfl ?_
            refine g_iinc2 (c := 1) (pc2 := 251) dX9_weighOf_248 rfl (by decide) (by decide) rfl rfl ?_
            refine g_goto (tgt := 79) dX9_weighOf_251 (by decide) ?_
            exact g_lw (lv2 := [some (.ref 1), none, some (.int x2), some (.int x5), some (.int x4), some (.int (x5 + 1)), none, none, none, none]) ⟨rfl, ⟨rfl, ⟨rfl, ⟨rfl, ⟨rfl, trivial⟩⟩⟩⟩⟩ h
          · have h := h.2 c
            refine g_iload (pc2 := 241) dX9_weighOf_239 rfl rfl ?_
            refine g_goto (tgt := 246) dX9_weighOf_241 (by decide) ?_
            refine g_istore (pc2 := 248) dX9_weighOf_246 (by decide) rfl rfl ?_
            refine g_iinc2 (c := 1) (pc2 := 251) dX9_weighOf_248 rfl (by decide) (by decide) rfl rfl ?_
            refine g_goto (tgt := 79) dX9_weighOf_251 (by decide) ?_
            exact g_lw (lv2 := [some (.ref 1), none, some (.int x2), some (.int x5), some (.int x6), some (.int (x5 + 1)), none, none, none, none]) ⟨rfl, ⟨rfl, ⟨rfl, ⟨rfl, ⟨rfl, trivial⟩⟩⟩⟩⟩ h
      · have h := h.2 c
        exact g_lw (lv2 := [some (.ref 1), none, some (.int x2), some (.int x3), some (.int x4), some (.int x5), some (.int x6), none, none, none]) ⟨rfl, ⟨rfl, ⟨rfl, ⟨rfl, ⟨rfl, ⟨rfl, trivial⟩⟩⟩⟩⟩⟩ h
  · have h := h.2 c
    refine g_iconst (v := 0) (pc2 := 104) dX9_weighOf_103 (by decide) rfl ?_
    refine g_istore (pc2 := 106) dX9_weighOf_104 (by decide) rfl rfl ?_
    refine g_iconst (v := 0) (pc2 := 107) dX9_weighOf_106 (by decide) rfl ?_
    refine g_istore (pc2 := 109) dX9_weighOf_107 (by decide) rfl rfl ?_
    exact g_lw (lv2 := [some (.ref 1), none, some (.int x2), some (.int x3), some (.int x4), some (.int x5), some (.int x6), some (.int x7), some (.int 0), some (.int 0)]) ⟨rfl, ⟨rfl, ⟨rfl, ⟨rfl, ⟨rfl, ⟨rfl, ⟨rfl, ⟨rfl, ⟨rfl, trivial⟩⟩⟩⟩⟩⟩⟩⟩⟩ h
set_option maxRecDepth 20000 in
theorem bX9_weighOf_215 {d : Nat} {σ : gw_S} {Q : Option Value → gw_S → Prop} {x2 : Int32} {x3 : Int32} {x4 : Int32} {x5 : Int32} {x6 : Int32}   (h : (((1 : Int32) = 0) → ((((1 : Int32) = 0) → (gG (d + 1) mX9_weighOf 79 [some (.ref 1), none, some (.int x2), some (.int x3), some (.int x4), some (.int (x5 + 1)), none, none, none, none] [] σ Q)) ∧ ((¬ (1 : Int32) = 0) → (gG (d + 1) mX9_weighOf 79 [some (.ref 1), none, some (.int x2), some (.int x3), some (.int x6), some (.int (x5 + 1)), none, none, none, none] [] σ Q)))) ∧ ((¬ (1 : Int32) = 0) → ((((1 : Int32) = 0) → (gG (d + 1) mX9_weighOf 79 [some (.ref 1), none, some (.int x2), some (.int x5), some (.int x4), some (.int (x5 + 1)), none, none, none, none] [] σ Q)) ∧ ((¬ (1 : Int32) = 0) → (gG (d + 1) mX9_weighOf 79 [some (.ref 1), none, some (.int x2), some (.int x5), some (.int x6), some (.int (x5 + 1)), none, none, none, none] [] σ Q))))) : gG (d + 1) mX9_weighOf 215 [some (.ref 1), none, some (.int x2), some (.int x3), some (.int x4), some (.int x5), some (.int x6), none, none, none] [] σ Q := by
  refine g_iconst (v := 1) (pc2 := 216) dX9_weighOf_215 (by decide) rfl ?_
  refine g_goto (tgt := 220) dX9_weighOf_216 (by decide) ?_
  refine g_istore (pc2 := 222) dX9_weighOf_220 (by decide) rfl rfl ?_
  refine g_iload (pc2 := 224) dX9_weighOf_222 rfl rfl ?_
  refine g_if_eq (tgt := 232) (pc2 := 227) dX9_weighOf_224 (by decide) rfl (fun c => ?_) (fun c => ?_)
  · have h := h.1 c
    refine g_iload_n (pc2 := 233) dX9_weighOf_232 rfl rfl ?_
    refine g_istore_n (pc2 := 234) dX9_weighOf_233 (by decide) rfl rfl ?_
    refine g_iload (pc2 := 236) dX9_weighOf_234 rfl rfl ?_
    refine g_if_eq (tgt := 244) (pc2 := 239) dX9_weighOf_236 (by decide) rfl (fun c => ?_) (fun c => ?_)
    · have h := h.1 c
      refine g_iload (pc2 := 246) dX9_weighOf_244 rfl rfl ?_
      refine g_istore (pc2 := 248) dX9_weighOf_246 (by decide) rfl rfl ?_
      refine g_iinc2 (c := 1) (pc2 := 251) dX9_weighOf_248 rfl (by decide) (by decide) rfl rfl ?_
      refine g_goto (tgt := 79) dX9_weighOf_251 (by decide) ?_
      exact g_lw (lv2 := [some (.ref 1), none, some (.int x2), some (.int x3), some (.int x4), some (.int (x5 + 1)), none, none, none, none]) ⟨rfl, ⟨rfl, ⟨rfl, ⟨rfl, ⟨rfl, trivial⟩⟩⟩⟩⟩ h
    · have h := h.2 c
      refine g_iload (pc2 := 241) dX9_weighOf_239 rfl rfl ?_
      refine g_goto (tgt := 246) dX9_weighOf_241 (by decide) ?_
      refine g_istore (pc2 := 248) dX9_weighOf_246 (by decide) rfl rfl ?_
      refine g_iinc2 (c := 1) (pc2 := 251) dX9_weighOf_248 rfl (by decide) (by decide) rfl rfl ?_
      refine g_goto (tgt := 79) dX9_weighOf_251 (by decide) ?_
      exact g_lw (lv2 := [some (.ref 1), none, some (.int x2), some (.int x3), some (.int x6), some (.int (x5 + 1)), none, none, none, none]) ⟨rfl, ⟨rfl, ⟨rfl, ⟨rfl, ⟨rfl, trivial⟩⟩⟩⟩⟩ h
  · have h := h.2 c
    refine g_iload (pc2 := 229) dX9_weighOf_227 rfl rfl ?_
    refine g_goto (tgt := 233) dX9_weighOf_229 (by decide) ?_
    refine g_istore_n (pc2 := 234) dX9_weighOf_233 (by decide) rfl rfl ?_
    refine g_iload (pc2 := 236) dX9_weighOf_234 rfl rfl ?_
    refine g_if_eq (tgt := 244) (pc2 := 239) dX9_weighOf_236 (by decide) rfl (fun c => ?_) (fun c => ?_)
    · have h := h.1 c
      refine g_iload (pc2 := 246) dX9_weighOf_244 rfl rfl ?_
      refine g_istore (pc2 := 248) dX9_weighOf_246 (by decide) rfl rfl ?_
      refine g_iinc2 (c := 1) (pc2 := 251) dX9_weighOf_248 rfl (by decide) (by decide) rfl rfl ?_
      refine g_goto (tgt := 79) dX9_weighOf_251 (by decide) ?_
      exact g_lw (lv2 := [some (.ref 1), none, some (.int x2), some (.int x5), some (.int x4), some (.int (x5 + 1)), none, none, none, none]) ⟨rfl, ⟨rfl, ⟨rfl, ⟨rfl, ⟨rfl, trivial⟩⟩⟩⟩⟩ h
    · have h := h.2 c
      refine g_iload (pc2 := 241) dX9_weighOf_239 rfl rfl ?_
      refine g_goto (tgt := 246) dX9_weighOf_241 (by decide) ?_
      refine g_istore (pc2 := 248) dX9_weighOf_246 (by decide) rfl rfl ?_
      refine g_iinc2 (c := 1) (pc2 := 251) dX9_weighOf_248 rfl (by decide) (by decide) rfl rfl ?_
      refine g_goto (tgt := 79) dX9_weighOf_251 (by decide) ?_
      exact g_lw (lv2 := [some (.ref 1), none, some (.int x2), some (.int x5), some (.int x6), some (.int (x5 + 1)), none, none, none, none]) ⟨rfl, ⟨rfl, ⟨rfl, ⟨rfl, ⟨rfl, trivial⟩⟩⟩⟩⟩ h
set_option maxRecDepth 20000 in
theorem bX9_weighOf_109 {d : Nat} {σ : gw_S} {Q : Option Value → gw_S → Prop} {x2 : Int32} {x3 : Int32} {x4 : Int32} {x5 : Int32} {x6 : Int32} {x7 : Int32} {x8 : Int32} {x9 : Int32}   (h : (((σ 1 12) ≤ x9) → (((x8 ≤ x6) → (gG (d + 1) mX9_weighOf 94 [some (.ref 1), none, some (.int x2), some (.int x3), some (.int x4), some (.int x5), some (.int x6), some (.int (x7 + 1)), none, none] [] σ Q)) ∧ ((¬ x8 ≤ x6) → (gG (d + 1) mX9_weighOf 94 [some (.ref 1), none, some (.int x2), some (.int x3), some (.int x4), some (.int x5), some (.int x8), some (.int (x7 + 1)), none, none] [] σ Q)))) ∧ ((¬ (σ 1 12) ≤ x9) → (gB d mX9_isIn [.int x2, .int x7] σ (fun v σ9 => ∃ r10 : Int32, v = some (.int r10) ∧ (((r10 = 0) → (gG (d + 1) mX9_weighOf 109 [some (.ref 1), none, some (.int x2), some (.int x3), some (.int x4), some (.int x5), some (.int x6), some (.int x7), some (.int (x8 + 0)), some (.int (x9 + 1))] [] σ9 Q)) ∧ ((¬ r10 = 0) → (gB d mX9_isIn [.int x2, .int x9] σ9 (fun v σ11 => ∃ r12 : Int32, v = some (.int r12) ∧ (((r12 = 0) → (gG (d + 1) mX9_weighOf 109 [some (.ref 1), none, some (.int x2), some (.int x3), some (.int x4), some (.int x5), some (.int x6), some (.int x7), some (.int (x8 + 0)), some (.int (x9 + 1))] [] σ11 Q)) ∧ ((¬ r12 = 0) → (vp_in ((8 * x7) + x5) 128 ∧ (vp_in ((8 * x9) + x5) 128 ∧ (((¬ (σ11 167 ((8 * x7) + x5).toNatClampNeg) = (σ11 167 ((8 * x9) + x5).toNatClampNeg)) → (gG (d + 1) mX9_weighOf 109 [some (.ref 1), none, some (.int x2), some (.int x3), some (.int x4), some (.int x5), some (.int x6), some (.int x7), some (.int (x8 + 0)), some (.int (x9 + 1))] [] σ11 Q)) ∧ (((σ11 167 ((8 * x7) + x5).toNatClampNeg) = (σ11 167 ((8 * x9) + x5).toNatClampNeg)) → (gG (d + 1) mX9_weighOf 109 [some (.ref 1), none, some (.int x2), some (.int x3), some (.int x4), some (.int x5), some (.int x6), some (.int x7), some (.int (x8 + 1)), some (.int (x9 + 1))] [] σ11 Q))))))))))))))) : gG (d + 1) mX9_weighOf 109 [some (.ref 1), none, some (.int x2), some (.int x3), some (.int x4), some (.int x5), some (.int x6), some (.int x7), some (.int x8), some (.int x9)] [] σ Q := by
  refine g_iload (pc2 := 111) dX9_weighOf_109 rfl rfl ?_
  refine g_aload_n (pc2 := 112) dX9_weighOf_111 rfl rfl ?_
  refine g_geti (pc2 := 115) dX9_weighOf_112 fl_X9_169 gk_1 rfl rfl ?_
  refine g_icmp_ge (tgt := 181) (pc2 := 118) dX9_weighOf_115 (by decide) rfl (fun c => ?_) (fun c => ?_)
  · have h := h.1 c
    refine g_iload (pc2 := 183) dX9_weighOf_181 rfl rfl ?_
    refine g_iload (pc2 := 185) dX9_weighOf_183 rfl rfl ?_
    refine g_icmp_le (tgt := 193) (pc2 := 188) dX9_weighOf_185 (by decide) rfl (fun c => ?_) (fun c => ?_)
    · have h := h.1 c
      refine g_iload (pc2 := 195) dX9_weighOf_193 rfl rfl ?_
      refine g_istore (pc2 := 197) dX9_weighOf_195 (by decide) rfl rfl ?_
      refine g_iinc2 (c := 1) (pc2 := 200) dX9_weighOf_197 rfl (by decide) (by decide) rfl rfl ?_
      refine g_goto (tgt := 94) dX9_weighOf_200 (by decide) ?_
      exact g_lw (lv2 := [some (.ref 1), none, some (.int x2), some (.int x3), some (.int x4), some (.int x5), some (.int x6), some (.int (x7 + 1)), none, none]) ⟨rfl, ⟨rfl, ⟨rfl, ⟨rfl, ⟨rfl, ⟨rfl, ⟨rfl, trivial⟩⟩⟩⟩⟩⟩⟩ h
    · have h := h.2 c
      refine g_iload (pc2 := 190) dX9_weighOf_188 rfl rfl ?_
      refine g_goto (tgt := 195) dX9_weighOf_190 (by decide) ?_
      refine g_istore (pc2 := 197) dX9_weighOf_195 (by decide) rfl rfl ?_
      refine g_iinc2 (c := 1) (pc2 := 200) dX9_weighOf_197 rfl (by decide) (by decide) rfl rfl ?_
      refine g_goto (tgt := 94) dX9_weighOf_200 (by decide) ?_
      exact g_lw (lv2 := [some (.ref 1), none, some (.int x2), some (.int x3), some (.int x4), some (.int x5), some (.int x8), some (.int (x7 + 1)), none, none]) ⟨rfl, ⟨rfl, ⟨rfl, ⟨rfl, ⟨rfl, ⟨rfl, ⟨rfl, trivial⟩⟩⟩⟩⟩⟩⟩ h
  · have h := h.2 c
    refine g_iload (pc2 := 120) dX9_weighOf_118 rfl rfl ?_
    refine g_iload_n (pc2 := 121) dX9_weighOf_120 rfl rfl ?_
    refine g_iload (pc2 := 123) dX9_weighOf_121 rfl rfl ?_
    refine g_callS (M2 := mX9_isIn) (as := [.int x2, .int x7]) (st := [.int x8]) (pc2 := 126) dX9_weighOf_123 ml_X9_274 msX9_isIn rfl rfl (Nat.le_of_ble_eq_true rfl) (Nat.le_refl _) rfl (h.mono ?_)
    rintro _ σ9 ⟨r10, rfl, h⟩
    show gG (d + 1) mX9_weighOf 126 _ [.int r10, .int x8] σ9 Q
    refine g_if_eq (tgt := 171) (pc2 := 129) dX9_weighOf_126 (by decide) rfl (fun c => ?_) (fun c => ?_)
    · have h := h.1 c
      refine g_iconst (v := 0) (pc2 := 172) dX9_weighOf_171 (by decide) rfl ?_
      refine g_iadd (pc2 := 173) dX9_weighOf_172 rfl ?_
      refine g_istore (pc2 := 175) dX9_weighOf_173 (by decide) rfl rfl ?_
      refine g_iinc2 (c := 1) (pc2 := 178) dX9_weighOf_175 rfl (by decide) (by decide) rfl rfl ?_
      refine g_goto (tgt := 109) dX9_weighOf_178 (by decide) ?_
      exact g_lw (lv2 := [some (.ref 1), none, some (.int x2), some (.int x3), some (.int x4), some (.int x5), some (.int x6), some (.int x7), some (.int (x8 + 0)), some (.int (x9 + 1))]) ⟨rfl, ⟨rfl, ⟨rfl, ⟨rfl, ⟨rfl, ⟨rfl, ⟨rfl, ⟨rfl, ⟨rfl, trivial⟩⟩⟩⟩⟩⟩⟩⟩⟩ h
    · have h := h.2 c
      refine g_iload_n (pc2 := 130) dX9_weighOf_129 rfl rfl ?_
      refine g_iload (pc2 := 132) dX9_weighOf_130 rfl rfl ?_
      refine g_callS (M2 := mX9_isIn) (as := [.int x2, .int x9]) (st := [.int x8]) (pc2 := 135) dX9_weighOf_132 ml_X9_274 msX9_isIn rfl rfl (Nat.le_of_ble_eq_true rfl) (Nat.le_refl _) rfl (h.mono ?_)
      rintro _ σ11 ⟨r12, rfl, h⟩
      show gG (d + 1) mX9_weighOf 135 _ [.int r12, .int x8] σ11 Q
      refine g_if_eq (tgt := 171) (pc2 := 138) dX9_weighOf_135 (by decide) rfl (fun c => ?_) (fun c => ?_)
      · have h := h.1 c
        refine g_iconst (v := 0) (pc2 := 172) dX9_weighOf_171 (by decide) rfl ?_
        refine g_iadd (pc2 := 173) dX9_weighOf_172 rfl ?_
        refine g_istore (pc2 := 175) dX9_weighOf_173 (by decide) rfl rfl ?_
        refine g_iinc2 (c := 1) (pc2 := 178) dX9_weighOf_175 rfl (by decide) (by decide) rfl rfl ?_
        refine g_goto (tgt := 109) dX9_weighOf_178 (by decide) ?_
        exact g_lw (lv2 := [some (.ref 1), none, some (.int x2), some (.int x3), some (.int x4), some (.int x5), some (.int x6), some (.int x7), some (.int (x8 + 0)), some (.int (x9 + 1))]) ⟨rfl, ⟨rfl, ⟨rfl, ⟨rfl, ⟨rfl, ⟨rfl, ⟨rfl, ⟨rfl, ⟨rfl, trivial⟩⟩⟩⟩⟩⟩⟩⟩⟩ h
      · have h := h.2 c
        refine g_aload_n (pc2 := 139) dX9_weighOf_138 rfl rfl ?_
        refine g_geta (pc2 := 142) dX9_weighOf_139 fl_X9_92 gk_1 rfl rfl ?_
        refine g_bipush (v := 8) (pc2 := 144) dX9_weighOf_142 (by decide) rfl ?_
        refine g_iload (pc2 := 146) dX9_weighOf_144 rfl rfl ?_
        refine g_imul (pc2 := 147) dX9_weighOf_146 rfl ?_
        refine g_iload (pc2 := 149) dX9_weighOf_147 rfl rfl ?_
        refine g_iadd (pc2 := 150) dX9_weighOf_149 rfl ?_
        obtain ⟨hx, h⟩ := h
        refine g_iald (pc2 := 151) dX9_weighOf_150 gk_167 hx rfl ?_
        refine g_aload_n (pc2 := 152) dX9_weighOf_151 rfl rfl ?_
        refine g_geta (pc2 := 155) dX9_weighOf_152 fl_X9_92 gk_1 rfl rfl ?_
        refine g_bipush (v := 8) (pc2 := 157) dX9_weighOf_155 (by decide) rfl ?_
        refine g_iload (pc2 := 159) dX9_weighOf_157 rfl rfl ?_
        refine g_imul (pc2 := 160) dX9_weighOf_159 rfl ?_
        refine g_iload (pc2 := 162) dX9_weighOf_160 rfl rfl ?_
        refine g_iadd (pc2 := 163) dX9_weighOf_162 rfl ?_
        obtain ⟨hx, h⟩ := h
        refine g_iald (pc2 := 164) dX9_weighOf_163 gk_167 hx rfl ?_
        refine g_icmp_ne (tgt := 171) (pc2 := 167) dX9_weighOf_164 (by decide) rfl (fun c => ?_) (fun c => ?_)
        · have h := h.1 c
          refine g_iconst (v := 0) (pc2 := 172) dX9_weighOf_171 (by decide) rfl ?_
          refine g_iadd (pc2 := 173) dX9_weighOf_172 rfl ?_
          refine g_istore (pc2 := 175) dX9_weighOf_173 (by decide) rfl rfl ?_
          refine g_iinc2 (c := 1) (pc2 := 178) dX9_weighOf_175 rfl (by decide) (by decide) rfl rfl ?_
          refine g_goto (tgt := 109) dX9_weighOf_178 (by decide) ?_
          exact g_lw (lv2 := [some (.ref 1), none, some (.int x2), some (.int x3), some (.int x4), some (.int x5), some (.int x6), some (.int x7), some (.int (x8 + 0)), some (.int (x9 + 1))]) ⟨rfl, ⟨rfl, ⟨rfl, ⟨rfl, ⟨rfl, ⟨rfl, ⟨rfl, ⟨rfl, ⟨rfl, trivial⟩⟩⟩⟩⟩⟩⟩⟩⟩ h
        · have h := h.2 c
          refine g_iconst (v := 1) (pc2 := 168) dX9_weighOf_167 (by decide) rfl ?_
          refine g_goto (tgt := 172) dX9_weighOf_168 (by decide) ?_
          refine g_iadd (pc2 := 173) dX9_weighOf_172 rfl ?_
          refine g_istore (pc2 := 175) dX9_weighOf_173 (by decide) rfl rfl ?_
          refine g_iinc2 (c := 1) (pc2 := 178) dX9_weighOf_175 rfl (by decide) (by decide) rfl rfl ?_
          refine g_goto (tgt := 109) dX9_weighOf_178 (by decide) ?_
          exact g_lw (lv2 := [some (.ref 1), none, some (.int x2), some (.int x3), some (.int x4), some (.int x5), some (.int x6), some (.int x7), some (.int (x8 + 1)), some (.int (x9 + 1))]) ⟨rfl, ⟨rfl, ⟨rfl, ⟨rfl, ⟨rfl, ⟨rfl, ⟨rfl, ⟨rfl, ⟨rfl, trivial⟩⟩⟩⟩⟩⟩⟩⟩⟩ h
set_option maxRecDepth 20000 in
theorem eX9_weighed {d : Nat} {σ : gw_S} {Q : Option Value → gw_S → Prop} {x1 : Int32} {x2 : Int32} {x3 : Int32}   (h : gB d mX9_isDay [.int x1] σ (fun v σ1 => ∃ r2 : Int32, v = some (.int r2) ∧ (((r2 = 0) → (Q (some (.int (-2))) σ1)) ∧ ((¬ r2 = 0) → (gB d mX9_isEight [.int x2] σ1 (fun v σ3 => ∃ r4 : Int32, v = some (.int r4) ∧ (((r4 = 0) → (Q (some (.int (-2))) σ3)) ∧ ((¬ r4 = 0) → (gB d mX9_in [.int x3, .int 0, .int 999] σ3 (fun v σ5 => ∃ r6 : Int32, v = some (.int r6) ∧ (((¬ r6 = 0) → (((¬ (σ5 1 36) = 8) → (vp_in (σ5 1 36) 8 ∧ (∀ s7 : gw_S, s7 = gw_u σ5 164 (σ5 1 36).toNatClampNeg x1 → (vp_in (s7 1 36) 8 ∧ (∀ s8 : gw_S, s8 = gw_u s7 165 (s7 1 36).toNatClampNeg x2 → (vp_in (s8 1 36) 8 ∧ (∀ s9 : gw_S, s9 = gw_u s8 166 (s8 1 36).toNatClampNeg x3 → (∀ s10 : gw_S, s10 = gw_u s9 1 36 ((s9 1 36) + 1) → (Q (some (.int (s10 1 36))) s10))))))))) ∧ (((σ5 1 36) = 8) → (Q (some (.int (-4))) σ5)))) ∧ ((r6 = 0) → (Q (some (.int (-2))) σ5))))))))))))) : gB (d + 1) mX9_weighed [.ref 1, .int x1, .int x2, .int x3] σ Q := by
  refine gB_of rfl (Nat.le_of_ble_eq_true rfl) (g_lw (lv2 := [some (.ref 1), some (.int x1), some (.int x2), some (.int x3)]) ⟨rfl, ⟨rfl, ⟨rfl, ⟨rfl, trivial⟩⟩⟩⟩ ?_)
  refine g_iload_n (pc2 := 1) dX9_weighed_0 rfl rfl ?_
  refine g_callS (M2 := mX9_isDay) (as := [.int x1]) (st := []) (pc2 := 4) dX9_weighed_1 ml_X9_163 msX9_isDay rfl rfl (Nat.le_of_ble_eq_true rfl) (Nat.le_refl _) rfl (h.mono ?_)
  rintro _ σ1 ⟨r2, rfl, h⟩
  show gG (d + 1) mX9_weighed 4 _ [.int r2] σ1 Q
  refine g_if_eq (tgt := 25) (pc2 := 7) dX9_weighed_4 (by decide) rfl (fun c => ?_) (fun c => ?_)
  · have h := h.1 c
    refine g_bipush (v := (-2)) (pc2 := 27) dX9_weighed_25 (by decide) rfl ?_
    exact g_iret dX9_weighed_27 rfl h
  · have h := h.2 c
    refine g_iload_n (pc2 := 8) dX9_weighed_7 rfl rfl ?_
    refine g_callS (M2 := mX9_isEight) (as := [.int x2]) (st := []) (pc2 := 11) dX9_weighed_8 ml_X9_157 msX9_isEight rfl rfl (Nat.le_of_ble_eq_true rfl) (Nat.le_refl _) rfl (h.mono ?_)
    rintro _ σ3 ⟨r4, rfl, h⟩
    show gG (d + 1) mX9_weighed 11 _ [.int r4] σ3 Q
    refine g_if_eq (tgt := 25) (pc2 := 14) dX9_weighed_11 (by decide) rfl (fun c => ?_) (fun c => ?_)
    · have h := h.1 c
      refine g_bipush (v := (-2)) (pc2 := 27) dX9_weighed_25 (by decide) rfl ?_
      exact g_iret dX9_weighed_27 rfl h
    · have h := h.2 c
      refine g_iload_n (pc2 := 15) dX9_weighed_14 rfl rfl ?_
      refine g_iconst (v := 0) (pc2 := 16) dX9_weighed_15 (by decide) rfl ?_
      refine g_sipush (v := 999) (pc2 := 19) dX9_weighed_16 (by decide) rfl ?_
      refine g_callS (M2 := mX9_in) (as := [.int x3, .int 0, .int 999]) (st := []) (pc2 := 22) dX9_weighed_19 ml_X9_116 msX9_in rfl rfl (Nat.le_of_ble_eq_true rfl) (Nat.le_refl _) rfl (h.mono ?_)
      rintro _ σ5 ⟨r6, rfl, h⟩
      show gG (d + 1) mX9_weighed 22 _ [.int r6] σ5 Q
      refine g_if_ne (tgt := 28) (pc2 := 25) dX9_weighed_22 (by decide) rfl (fun c => ?_) (fun c => ?_)
      · have h := h.1 c
        refine g_aload_n (pc2 := 29) dX9_weighed_28 rfl rfl ?_
        refine g_geti (pc2 := 32) dX9_weighed_29 fl_X9_299 gk_1 rfl rfl ?_
        refine g_bipush (v := 8) (pc2 := 34) dX9_weighed_32 (by decide) rfl ?_
        refine g_icmp_ne (tgt := 40) (pc2 := 37) dX9_weighed_34 (by decide) rfl (fun c => ?_) (fun c => ?_)
        · have h := h.1 c
          refine g_aload_n (pc2 := 41) dX9_weighed_40 rfl rfl ?_
          refine g_geta (pc2 := 44) dX9_weighed_41 fl_X9_83 gk_1 rfl rfl ?_
          refine g_aload_n (pc2 := 45) dX9_weighed_44 rfl rfl ?_
          refine g_geti (pc2 := 48) dX9_weighed_45 fl_X9_299 gk_1 rfl rfl ?_
          refine g_iload_n (pc2 := 49) dX9_weighed_48 rfl rfl ?_
          obtain ⟨hx, h⟩ := h
          refine g_iast2 (pc2 := 50) dX9_weighed_49 gk_164 hx rfl (fun s7 es7 => ?_)
          replace h := h s7 es7
          refine g_aload_n (pc2 := 51) dX9_weighed_50 rfl rfl ?_
          refine g_geta (pc2 := 54) dX9_weighed_51 fl_X9_86 gk_1 rfl rfl ?_
          refine g_aload_n (pc2 := 55) dX9_weighed_54 rfl rfl ?_
          refine g_geti (pc2 := 58) dX9_weighed_55 fl_X9_299 gk_1 rfl rfl ?_
          refine g_iload_n (pc2 := 59) dX9_weighed_58 rfl rfl ?_
          obtain ⟨hx, h⟩ := h
          refine g_iast2 (pc2 := 60) dX9_weighed_59 gk_165 hx rfl (fun s8 es8 => ?_)
          replace h := h s8 es8
          refine g_aload_n (pc2 := 61) dX9_weighed_60 rfl rfl ?_
          refine g_geta (pc2 := 64) dX9_weighed_61 fl_X9_89 gk_1 rfl rfl ?_
          refine g_aload_n (pc2 := 65) dX9_weighed_64 rfl rfl ?_
          refine g_geti (pc2 := 68) dX9_weighed_65 fl_X9_299 gk_1 rfl rfl ?_
          refine g_iload_n (pc2 := 69) dX9_weighed_68 rfl rfl ?_
          obtain ⟨hx, h⟩ := h
          refine g_iast2 (pc2 := 70) dX9_weighed_69 gk_166 hx rfl (fun s9 es9 => ?_)
          replace h := h s9 es9
          refine g_aload_n (pc2 := 71) dX9_weighed_70 rfl rfl ?_
          refine g_dup (pc2 := 72) dX9_weighed_71 rfl rfl ?_
          refine g_geti (pc2 := 75) dX9_weighed_72 fl_X9_299 gk_1 rfl rfl ?_
          refine g_iconst (v := 1) (pc2 := 76) dX9_weighed_75 (by decide) rfl ?_
          refine g_iadd (pc2 := 77) dX9_weighed_76 rfl ?_
          refine g_put2 (pc2 := 80) dX9_weighed_77 fp_X9_299 gk_1 rfl rfl rfl rfl (fun s10 es10 => ?_)
          replace h := h s10 es10
          refine g_aload_n (pc2 := 81) dX9_weighed_80 rfl rfl ?_
          refine g_geti (pc2 := 84) dX9_weighed_81 fl_X9_299 gk_1 rfl rfl ?_
          exact g_iret dX9_weighed_84 rfl h
        · have h := h.2 c
          refine g_bipush (v := (-4)) (pc2 := 39) dX9_weighed_37 (by decide) rfl ?_
          exact g_iret dX9_weighed_39 rfl h
      · have h := h.2 c
        refine g_bipush (v := (-2)) (pc2 := 27) dX9_weighed_25 (by decide) rfl ?_
        exact g_iret dX9_weighed_27 rfl h
set_option maxRecDepth 20000 in
theorem eX9_who {d : Nat} {σ : gw_S} {Q : Option Value → gw_S → Prop} {x1 : Int32} {x2 : Int32}   (h : gB d mX9_isDay [.int x1] σ (fun v σ1 => ∃ r2 : Int32, v = some (.int r2) ∧ (((r2 = 0) → (Q (some (.int (-2))) σ1)) ∧ ((¬ r2 = 0) → (gB d mX9_isBottle [.ref 1, .int x2] σ1 (fun v σ3 => ∃ r4 : Int32, v = some (.int r4) ∧ (((r4 = 0) → (Q (some (.int (-2))) σ3)) ∧ ((¬ r4 = 0) → (gB d mX9_whoOf [.ref 1, .int x1, .int x2] σ3 (fun v σ5 => ∃ r6 : Int32, v = some (.int r6) ∧ (Q (some (.int r6)) σ5))))))))))) : gB (d + 1) mX9_who [.ref 1, .int x1, .int x2] σ Q := by
  refine gB_of rfl (Nat.le_of_ble_eq_true rfl) (g_lw (lv2 := [some (.ref 1), some (.int x1), some (.int x2)]) ⟨rfl, ⟨rfl, ⟨rfl, trivial⟩⟩⟩ ?_)
  refine g_iload_n (pc2 := 1) dX9_who_0 rfl rfl ?_
  refine g_callS (M2 := mX9_isDay) (as := [.int x1]) (st := []) (pc2 := 4) dX9_who_1 ml_X9_163 msX9_isDay rfl rfl (Nat.le_of_ble_eq_true rfl) (Nat.le_refl _) rfl (h.mono ?_)
  rintro _ σ1 ⟨r2, rfl, h⟩
  show gG (d + 1) mX9_who 4 _ [.int r2] σ1 Q
  refine g_if_eq (tgt := 24) (pc2 := 7) dX9_who_4 (by decide) rfl (fun c => ?_) (fun c => ?_)
  · have h := h.1 c
    refine g_bipush (v := (-2)) (pc2 := 26) dX9_who_24 (by decide) rfl ?_
    exact g_iret dX9_who_26 rfl h
  · have h := h.2 c
    refine g_aload_n (pc2 := 8) dX9_who_7 rfl rfl ?_
    refine g_iload_n (pc2 := 9) dX9_who_8 rfl rfl ?_
    refine g_callV (M2 := mX9_isBottle) (as := [.int x2]) (st := []) (pc2 := 12) dX9_who_9 ml_X9_151 mvX9_isBottle gk_1 rfl rfl rfl (Nat.le_of_ble_eq_true rfl) (Nat.le_refl _) rfl (h.mono ?_)
    rintro _ σ3 ⟨r4, rfl, h⟩
    show gG (d + 1) mX9_who 12 _ [.int r4] σ3 Q
    refine g_if_eq (tgt := 24) (pc2 := 15) dX9_who_12 (by decide) rfl (fun c => ?_) (fun c => ?_)
    · have h := h.1 c
      refine g_bipush (v := (-2)) (pc2 := 26) dX9_who_24 (by decide) rfl ?_
      exact g_iret dX9_who_26 rfl h
    · have h := h.2 c
      refine g_aload_n (pc2 := 16) dX9_who_15 rfl rfl ?_
      refine g_iload_n (pc2 := 17) dX9_who_16 rfl rfl ?_
      refine g_iload_n (pc2 := 18) dX9_who_17 rfl rfl ?_
      refine g_callV (M2 := mX9_whoOf) (as := [.int x1, .int x2]) (st := []) (pc2 := 21) dX9_who_18 ml_X9_249 mvX9_whoOf gk_1 rfl rfl rfl (Nat.le_of_ble_eq_true rfl) (Nat.le_refl _) rfl (h.mono ?_)
      rintro _ σ5 ⟨r6, rfl, h⟩
      show gG (d + 1) mX9_who 21 _ [.int r6] σ5 Q
      refine g_goto (tgt := 26) dX9_who_21 (by decide) ?_
      exact g_iret dX9_who_26 rfl h
set_option maxRecDepth 20000 in
theorem eX9_whoOf {d : Nat} {σ : gw_S} {Q : Option Value → gw_S → Prop} {x1 : Int32} {x2 : Int32}   (h : gB d mX9_runsTold [.ref 1, .int x1] σ (fun v σ1 => v = none ∧ (vp_in x2 8 ∧ (Q (some (.int (σ1 156 x2.toNatClampNeg))) σ1)))) : gB (d + 1) mX9_whoOf [.ref 1, .int x1, .int x2] σ Q := by
  refine gB_of rfl (Nat.le_of_ble_eq_true rfl) (g_lw (lv2 := [some (.ref 1), some (.int x1), some (.int x2)]) ⟨rfl, ⟨rfl, ⟨rfl, trivial⟩⟩⟩ ?_)
  refine g_aload_n (pc2 := 1) dX9_whoOf_0 rfl rfl ?_
  refine g_iload_n (pc2 := 2) dX9_whoOf_1 rfl rfl ?_
  refine g_callV (M2 := mX9_runsTold) (as := [.int x1]) (st := []) (pc2 := 5) dX9_whoOf_2 ml_X9_242 mvX9_runsTold gk_1 rfl rfl rfl (Nat.le_of_ble_eq_true rfl) (Nat.le_refl _) rfl (h.mono ?_)
  rintro _ σ1 ⟨rfl, h⟩
  show gG (d + 1) mX9_whoOf 5 _ [] σ1 Q
  refine g_aload_n (pc2 := 6) dX9_whoOf_5 rfl rfl ?_
  refine g_geta (pc2 := 9) dX9_whoOf_6 fl_X9_58 gk_1 rfl rfl ?_
  refine g_iload_n (pc2 := 10) dX9_whoOf_9 rfl rfl ?_
  obtain ⟨hx, h⟩ := h
  refine g_iald (pc2 := 11) dX9_whoOf_10 gk_156 hx rfl ?_
  exact g_iret dX9_whoOf_11 rfl h
set_option maxRecDepth 20000 in
theorem eX9_whole {d : Nat} {σ : gw_S} {Q : Option Value → gw_S → Prop} {x1 : Int32} {x2 : Int32}   (h : gB d mX9_isDay [.int x1] σ (fun v σ1 => ∃ r2 : Int32, v = some (.int r2) ∧ (((r2 = 0) → (Q (some (.int (-2))) σ1)) ∧ ((¬ r2 = 0) → (gB d mX9_isBottle [.ref 1, .int x2] σ1 (fun v σ3 => ∃ r4 : Int32, v = some (.int r4) ∧ (((r4 = 0) → (Q (some (.int (-2))) σ3)) ∧ ((¬ r4 = 0) → (gB d mX9_wholeOf [.ref 1, .int x1, .int x2] σ3 (fun v σ5 => ∃ r6 : Int32, v = some (.int r6) ∧ (Q (some (.int r6)) σ5))))))))))) : gB (d + 1) mX9_whole [.ref 1, .int x1, .int x2] σ Q := by
  refine gB_of rfl (Nat.le_of_ble_eq_true rfl) (g_lw (lv2 := [some (.ref 1), some (.int x1), some (.int x2)]) ⟨rfl, ⟨rfl, ⟨rfl, trivial⟩⟩⟩ ?_)
  refine g_iload_n (pc2 := 1) dX9_whole_0 rfl rfl ?_
  refine g_callS (M2 := mX9_isDay) (as := [.int x1]) (st := []) (pc2 := 4) dX9_whole_1 ml_X9_163 msX9_isDay rfl rfl (Nat.le_of_ble_eq_true rfl) (Nat.le_refl _) rfl (h.mono ?_)
  rintro _ σ1 ⟨r2, rfl, h⟩
  show gG (d + 1) mX9_whole 4 _ [.int r2] σ1 Q
  refine g_if_eq (tgt := 24) (pc2 := 7) dX9_whole_4 (by decide) rfl (fun c => ?_) (fun c => ?_)
  · have h := h.1 c
    refine g_bipush (v := (-2)) (pc2 := 26) dX9_whole_24 (by decide) rfl ?_
    exact g_iret dX9_whole_26 rfl h
  · have h := h.2 c
    refine g_aload_n (pc2 := 8) dX9_whole_7 rfl rfl ?_
    refine g_iload_n (pc2 := 9) dX9_whole_8 rfl rfl ?_
    refine g_callV (M2 := mX9_isBottle) (as := [.int x2]) (st := []) (pc2 := 12) dX9_whole_9 ml_X9_151 mvX9_isBottle gk_1 rfl rfl rfl (Nat.le_of_ble_eq_true rfl) (Nat.le_refl _) rfl (h.mono ?_)
    rintro _ σ3 ⟨r4, rfl, h⟩
    show gG (d + 1) mX9_whole 12 _ [.int r4] σ3 Q
    refine g_if_eq (tgt := 24) (pc2 := 15) dX9_whole_12 (by decide) rfl (fun c => ?_) (fun c => ?_)
    · have h := h.1 c
      refine g_bipush (v := (-2)) (pc2 := 26) dX9_whole_24 (by decide) rfl ?_
      exact g_iret dX9_whole_26 rfl h
    · have h := h.2 c
      refine g_aload_n (pc2 := 16) dX9_whole_15 rfl rfl ?_
      refine g_iload_n (pc2 := 17) dX9_whole_16 rfl rfl ?_
      refine g_iload_n (pc2 := 18) dX9_whole_17 rfl rfl ?_
      refine g_callV (M2 := mX9_wholeOf) (as := [.int x1, .int x2]) (st := []) (pc2 := 21) dX9_whole_18 ml_X9_252 mvX9_wholeOf gk_1 rfl rfl rfl (Nat.le_of_ble_eq_true rfl) (Nat.le_refl _) rfl (h.mono ?_)
      rintro _ σ5 ⟨r6, rfl, h⟩
      show gG (d + 1) mX9_whole 21 _ [.int r6] σ5 Q
      refine g_goto (tgt := 26) dX9_whole_21 (by decide) ?_
      exact g_iret dX9_whole_26 rfl h
set_option maxRecDepth 20000 in
theorem eX9_wholeOf {d : Nat} {σ : gw_S} {Q : Option Value → gw_S → Prop} {x1 : Int32} {x2 : Int32}   (h : gB d mX9_runsTold [.ref 1, .int x1] σ (fun v σ1 => v = none ∧ (vp_in x2 8 ∧ ((((σ1 158 x2.toNatClampNeg) = 0) → (Q (some (.int 0)) σ1)) ∧ ((¬ (σ1 158 x2.toNatClampNeg) = 0) → (Q (some (.int 1)) σ1)))))) : gB (d + 1) mX9_wholeOf [.ref 1, .int x1, .int x2] σ Q := by
  refine gB_of rfl (Nat.le_of_ble_eq_true rfl) (g_lw (lv2 := [some (.ref 1), some (.int x1), some (.int x2)]) ⟨rfl, ⟨rfl, ⟨rfl, trivial⟩⟩⟩ ?_)
  refine g_aload_n (pc2 := 1) dX9_wholeOf_0 rfl rfl ?_
  refine g_iload_n (pc2 := 2) dX9_wholeOf_1 rfl rfl ?_
  refine g_callV (M2 := mX9_runsTold) (as := [.int x1]) (st := []) (pc2 := 5) dX9_wholeOf_2 ml_X9_242 mvX9_runsTold gk_1 rfl rfl rfl (Nat.le_of_ble_eq_true rfl) (Nat.le_refl _) rfl (h.mono ?_)
  rintro _ σ1 ⟨rfl, h⟩
  show gG (d + 1) mX9_wholeOf 5 _ [] σ1 Q
  refine g_aload_n (pc2 := 6) dX9_wholeOf_5 rfl rfl ?_
  refine g_geta (pc2 := 9) dX9_wholeOf_6 fl_X9_64 gk_1 rfl rfl ?_
  refine g_iload_n (pc2 := 10) dX9_wholeOf_9 rfl rfl ?_
  obtain ⟨hx, h⟩ := h
  refine g_zald (pc2 := 11) dX9_wholeOf_10 gk_158 hx rfl ?_
  refine g_if_eq (tgt := 18) (pc2 := 14) dX9_wholeOf_11 (by decide) rfl (fun c => ?_) (fun c => ?_)
  · have h := h.1 c
    refine g_iconst (v := 0) (pc2 := 19) dX9_wholeOf_18 (by decide) rfl ?_
    exact g_iret dX9_wholeOf_19 rfl h
  · have h := h.2 c
    refine g_iconst (v := 1) (pc2 := 15) dX9_wholeOf_14 (by decide) rfl ?_
    refine g_goto (tgt := 19) dX9_wholeOf_15 (by decide) ?_
    exact g_iret dX9_wholeOf_19 rfl h
set_option maxRecDepth 20000 in
theorem eX9_wipe {d : Nat} {σ : gw_S} {Q : Option Value → gw_S → Prop} {x1 : Int32}   (h : gB d mX9_isText [.int x1] σ (fun v σ1 => ∃ r2 : Int32, v = some (.int r2) ∧ (((¬ r2 = 0) → (vp_in x1 2 ∧ (vp_in x1 2 ∧ (∀ s3 : gw_S, s3 = gw_u σ1 140 x1.toNatClampNeg 0 → (Q (some (.int (σ1 140 x1.toNatClampNeg))) s3))))) ∧ ((r2 = 0) → (Q (some (.int (-2))) σ1))))) : gB (d + 1) mX9_wipe [.ref 1, .int x1] σ Q := by
  refine gB_of rfl (Nat.le_of_ble_eq_true rfl) (g_lw (lv2 := [some (.ref 1), some (.int x1), none]) ⟨rfl, ⟨rfl, trivial⟩⟩ ?_)
  refine g_iload_n (pc2 := 1) dX9_wipe_0 rfl rfl ?_
  refine g_callS (M2 := mX9_isText) (as := [.int x1]) (st := []) (pc2 := 4) dX9_wipe_1 ml_X9_120 msX9_isText rfl rfl (Nat.le_of_ble_eq_true rfl) (Nat.le_refl _) rfl (h.mono ?_)
  rintro _ σ1 ⟨r2, rfl, h⟩
  show gG (d + 1) mX9_wipe 4 _ [.int r2] σ1 Q
  refine g_if_ne (tgt := 10) (pc2 := 7) dX9_wipe_4 (by decide) rfl (fun c => ?_) (fun c => ?_)
  · have h := h.1 c
    refine g_aload_n (pc2 := 11) dX9_wipe_10 rfl rfl ?_
    refine g_geta (pc2 := 14) dX9_wipe_11 fl_X9_7 gk_1 rfl rfl ?_
    refine g_iload_n (pc2 := 15) dX9_wipe_14 rfl rfl ?_
    obtain ⟨hx, h⟩ := h
    refine g_iald (pc2 := 16) dX9_wipe_15 gk_140 hx rfl ?_
    refine g_istore_n (pc2 := 17) dX9_wipe_16 (by decide) rfl rfl ?_
    refine g_aload_n (pc2 := 18) dX9_wipe_17 rfl rfl ?_
    refine g_geta (pc2 := 21) dX9_wipe_18 fl_X9_7 gk_1 rfl rfl ?_
    refine g_iload_n (pc2 := 22) dX9_wipe_21 rfl rfl ?_
    refine g_iconst (v := 0) (pc2 := 23) dX9_wipe_22 (by decide) rfl ?_
    obtain ⟨hx, h⟩ := h
    refine g_iast2 (pc2 := 24) dX9_wipe_23 gk_140 hx rfl (fun s3 es3 => ?_)
    replace h := h s3 es3
    refine g_iload_n (pc2 := 25) dX9_wipe_24 rfl rfl ?_
    exact g_iret dX9_wipe_25 rfl h
  · have h := h.2 c
    refine g_bipush (v := (-2)) (pc2 := 9) dX9_wipe_7 (by decide) rfl ?_
    exact g_iret dX9_wipe_9 rfl h
set_option maxRecDepth 20000 in
theorem eX9_works {d : Nat} {σ : gw_S} {Q : Option Value → gw_S → Prop} {x1 : Int32}   (h : gB d mX9_in [.int x1, .int 0, .int ((σ 1 12) - 1)] σ (fun v σ1 => ∃ r2 : Int32, v = some (.int r2) ∧ (((r2 = 0) → (Q (some (.int (-2))) σ1)) ∧ ((¬ r2 = 0) → (gB d mX9_worksOf [.ref 1, .int x1] σ1 (fun v σ3 => ∃ r4 : Int32, v = some (.int r4) ∧ (Q (some (.int r4)) σ3))))))) : gB (d + 1) mX9_works [.ref 1, .int x1] σ Q := by
  refine gB_of rfl (Nat.le_of_ble_eq_true rfl) (g_lw (lv2 := [some (.ref 1), some (.int x1)]) ⟨rfl, ⟨rfl, trivial⟩⟩ ?_)
  refine g_iload_n (pc2 := 1) dX9_works_0 rfl rfl ?_
  refine g_iconst (v := 0) (pc2 := 2) dX9_works_1 (by decide) rfl ?_
  refine g_aload_n (pc2 := 3) dX9_works_2 rfl rfl ?_
  refine g_geti (pc2 := 6) dX9_works_3 fl_X9_169 gk_1 rfl rfl ?_
  refine g_iconst (v := 1) (pc2 := 7) dX9_works_6 (by decide) rfl ?_
  refine g_isub (pc2 := 8) dX9_works_7 rfl ?_
  refine g_callS (M2 := mX9_in) (as := [.int x1, .int 0, .int ((σ 1 12) - 1)]) (st := []) (pc2 := 11) dX9_works_8 ml_X9_116 msX9_in rfl rfl (Nat.le_of_ble_eq_true rfl) (Nat.le_refl _) rfl (h.mono ?_)
  rintro _ σ1 ⟨r2, rfl, h⟩
  show gG (d + 1) mX9_works 11 _ [.int r2] σ1 Q
  refine g_if_eq (tgt := 22) (pc2 := 14) dX9_works_11 (by decide) rfl (fun c => ?_) (fun c => ?_)
  · have h := h.1 c
    refine g_bipush (v := (-2)) (pc2 := 24) dX9_works_22 (by decide) rfl ?_
    exact g_iret dX9_works_24 rfl h
  · have h := h.2 c
    refine g_aload_n (pc2 := 15) dX9_works_14 rfl rfl ?_
    refine g_iload_n (pc2 := 16) dX9_works_15 rfl rfl ?_
    refine g_callV (M2 := mX9_worksOf) (as := [.int x1]) (st := []) (pc2 := 19) dX9_works_16 ml_X9_270 mvX9_worksOf gk_1 rfl rfl rfl (Nat.le_of_ble_eq_true rfl) (Nat.le_refl _) rfl (h.mono ?_)
    rintro _ σ3 ⟨r4, rfl, h⟩
    show gG (d + 1) mX9_works 19 _ [.int r4] σ3 Q
    refine g_goto (tgt := 24) dX9_works_19 (by decide) ?_
    exact g_iret dX9_works_24 rfl h
set_option maxRecDepth 20000 in
theorem eX9_worksOf {d : Nat} {σ : gw_S} {Q : Option Value → gw_S → Prop} {x1 : Int32}   (h : gB d mX9_runsTold [.ref 1, .int 39] σ (fun v σ1 => v = none ∧ (vp_in x1 16 ∧ ((((σ1 160 x1.toNatClampNeg) = 0) → (Q (some (.int 0)) σ1)) ∧ ((¬ (σ1 160 x1.toNatClampNeg) = 0) → (Q (some (.int 1)) σ1)))))) : gB (d + 1) mX9_worksOf [.ref 1, .int x1] σ Q := by
  refine gB_of rfl (Nat.le_of_ble_eq_true rfl) (g_lw (lv2 := [some (.ref 1), some (.int x1)]) ⟨rfl, ⟨rfl, trivial⟩⟩ ?_)
  refine g_aload_n (pc2 := 1) dX9_worksOf_0 rfl rfl ?_
  refine g_bipush (v := 39) (pc2 := 3) dX9_worksOf_1 (by decide) rfl ?_
  refine g_callV (M2 := mX9_runsTold) (as := [.int 39]) (st := []) (pc2 := 6) dX9_worksOf_3 ml_X9_242 mvX9_runsTold gk_1 rfl rfl rfl (Nat.le_of_ble_eq_true rfl) (Nat.le_refl _) rfl (h.mono ?_)
  rintro _ σ1 ⟨rfl, h⟩
  show gG (d + 1) mX9_worksOf 6 _ [] σ1 Q
  refine g_aload_n (pc2 := 7) dX9_worksOf_6 rfl rfl ?_
  refine g_geta (pc2 := 10) dX9_worksOf_7 fl_X9_71 gk_1 rfl rfl ?_
  refine g_iload_n (pc2 := 11) dX9_worksOf_10 rfl rfl ?_
  obtain ⟨hx, h⟩ := h
  refine g_zald (pc2 := 12) dX9_worksOf_11 gk_160 hx rfl ?_
  refine g_if_eq (tgt := 19) (pc2 := 15) dX9_worksOf_12 (by decide) rfl (fun c => ?_) (fun c => ?_)
  · have h := h.1 c
    refine g_iconst (v := 0) (pc2 := 20) dX9_worksOf_19 (by decide) rfl ?_
    exact g_iret dX9_worksOf_20 rfl h
  · have h := h.2 c
    refine g_iconst (v := 1) (pc2 := 16) dX9_worksOf_15 (by decide) rfl ?_
    refine g_goto (tgt := 20) dX9_worksOf_16 (by decide) ?_
    exact g_iret dX9_worksOf_20 rfl h
set_option maxRecDepth 20000 in
theorem eX9_write {d : Nat} {σ : gw_S} {Q : Option Value → gw_S → Prop} {x1 : Int32} {x2 : Int32}   (h : gB d mX9_isBottle [.ref 1, .int x1] σ (fun v σ1 => ∃ r2 : Int32, v = some (.int r2) ∧ (((r2 = 0) → (Q (some (.int (-2))) σ1)) ∧ ((¬ r2 = 0) → (gB d mX9_isSheet [.int x2] σ1 (fun v σ3 => ∃ r4 : Int32, v = some (.int r4) ∧ (((¬ r4 = 0) → (vp_in x2 4 ∧ (((¬ (σ3 168 x2.toNatClampNeg) = 0) → (gG (d + 1) mX9_write 35 [some (.ref 1), some (.int x1), some (.int x2), some (.int 0)] [] σ3 Q)) ∧ (((σ3 168 x2.toNatClampNeg) = 0) → (gB d mX9_meets [.ref 1, .int 1] σ3 (fun v σ5 => ∃ r6 : Int32, v = some (.int r6) ∧ (Q (some (.int r6)) σ5))))))) ∧ ((r4 = 0) → (Q (some (.int (-2))) σ3))))))))) : gB (d + 1) mX9_write [.ref 1, .int x1, .int x2] σ Q := by
  refine gB_of rfl (Nat.le_of_ble_eq_true rfl) (g_lw (lv2 := [some (.ref 1), some (.int x1), some (.int x2), none]) ⟨rfl, ⟨rfl, ⟨rfl, trivial⟩⟩⟩ ?_)
  refine g_aload_n (pc2 := 1) dX9_write_0 rfl rfl ?_
  refine g_iload_n (pc2 := 2) dX9_write_1 rfl rfl ?_
  refine g_callV (M2 := mX9_isBottle) (as := [.int x1]) (st := []) (pc2 := 5) dX9_write_2 ml_X9_151 mvX9_isBottle gk_1 rfl rfl rfl (Nat.le_of_ble_eq_true rfl) (Nat.le_refl _) rfl (h.mono ?_)
  rintro _ σ1 ⟨r2, rfl, h⟩
  show gG (d + 1) mX9_write 5 _ [.int r2] σ1 Q
  refine g_if_eq (tgt := 15) (pc2 := 8) dX9_write_5 (by decide) rfl (fun c => ?_) (fun c => ?_)
  · have h := h.1 c
    refine g_bipush (v := (-2)) (pc2 := 17) dX9_write_15 (by decide) rfl ?_
    exact g_iret dX9_write_17 rfl h
  · have h := h.2 c
    refine g_iload_n (pc2 := 9) dX9_write_8 rfl rfl ?_
    refine g_callS (M2 := mX9_isSheet) (as := [.int x2]) (st := []) (pc2 := 12) dX9_write_9 ml_X9_172 msX9_isSheet rfl rfl (Nat.le_of_ble_eq_true rfl) (Nat.le_refl _) rfl (h.mono ?_)
    rintro _ σ3 ⟨r4, rfl, h⟩
    show gG (d + 1) mX9_write 12 _ [.int r4] σ3 Q
    refine g_if_ne (tgt := 18) (pc2 := 15) dX9_write_12 (by decide) rfl (fun c => ?_) (fun c => ?_)
    · have h := h.1 c
      refine g_aload_n (pc2 := 19) dX9_write_18 rfl rfl ?_
      refine g_geta (pc2 := 22) dX9_write_19 fl_X9_95 gk_1 rfl rfl ?_
      refine g_iload_n (pc2 := 23) dX9_write_22 rfl rfl ?_
      obtain ⟨hx, h⟩ := h
      refine g_zald (pc2 := 24) dX9_write_23 gk_168 hx rfl ?_
      refine g_if_ne (tgt := 33) (pc2 := 27) dX9_write_24 (by decide) rfl (fun c => ?_) (fun c => ?_)
      · have h := h.1 c
        refine g_iconst (v := 0) (pc2 := 34) dX9_write_33 (by decide) rfl ?_
        refine g_istore_n (pc2 := 35) dX9_write_34 (by decide) rfl rfl ?_
        exact g_lw (lv2 := [some (.ref 1), some (.int x1), some (.int x2), some (.int 0)]) ⟨rfl, ⟨rfl, ⟨rfl, ⟨rfl, trivial⟩⟩⟩⟩ h
      · have h := h.2 c
        refine g_aload_n (pc2 := 28) dX9_write_27 rfl rfl ?_
        refine g_iconst (v := 1) (pc2 := 29) dX9_write_28 (by decide) rfl ?_
        refine g_callV (M2 := mX9_meets) (as := [.int 1]) (st := []) (pc2 := 32) dX9_write_29 ml_X9_175 mvX9_meets gk_1 rfl rfl rfl (Nat.le_of_ble_eq_true rfl) (Nat.le_refl _) rfl (h.mono ?_)
        rintro _ σ5 ⟨r6, rfl, h⟩
        show gG (d + 1) mX9_write 32 _ [.int r6] σ5 Q
        exact g_iret dX9_write_32 rfl h
    · have h := h.2 c
      refine g_bipush (v := (-2)) (pc2 := 17) dX9_write_15 (by decide) rfl ?_
      exact g_iret dX9_write_17 rfl h
set_option maxRecDepth 20000 in
theorem bX9_write_35 {d : Nat} {σ : gw_S} {Q : Option Value → gw_S → Prop} {x1 : Int32} {x2 : Int32} {x3 : Int32}   (h : vp_in x2 4 ∧ ((((σ 170 x2.toNatClampNeg) ≤ x3) → (Q (some (.int x3)) σ)) ∧ ((¬ (σ 170 x2.toNatClampNeg) ≤ x3) → (((40 ≤ x3) → (Q (some (.int x3)) σ)) ∧ ((¬ 40 ≤ x3) → (gB d mX9_holdsOf [.ref 1, .int x3, .int x1, .int (-1)] σ (fun v σ7 => ∃ r8 : Int32, v = some (.int r8) ∧ (gB d mX9_keep [.ref 1, .int x2, .int x3, .int r8] σ7 (fun v σ9 => v = none ∧ (gG (d + 1) mX9_write 35 [some (.ref 1), some (.int x1), some (.int x2), some (.int (x3 + 1))] [] σ9 Q)))))))))) : gG (d + 1) mX9_write 35 [some (.ref 1), some (.int x1), some (.int x2), some (.int x3)] [] σ Q := by
  refine g_iload_n (pc2 := 36) dX9_write_35 rfl rfl ?_
  refine g_aload_n (pc2 := 37) dX9_write_36 rfl rfl ?_
  refine g_geta (pc2 := 40) dX9_write_37 fl_X9_101 gk_1 rfl rfl ?_
  refine g_iload_n (pc2 := 41) dX9_write_40 rfl rfl ?_
  obtain ⟨hx, h⟩ := h
  refine g_iald (pc2 := 42) dX9_write_41 gk_170 hx rfl ?_
  refine g_icmp_ge (tgt := 70) (pc2 := 45) dX9_write_42 (by decide) rfl (fun c => ?_) (fun c => ?_)
  · have h := h.1 c
    refine g_iload_n (pc2 := 71) dX9_write_70 rfl rfl ?_
    exact g_iret dX9_write_71 rfl h
  · have h := h.2 c
    refine g_iload_n (pc2 := 46) dX9_write_45 rfl rfl ?_
    refine g_bipush (v := 40) (pc2 := 48) dX9_write_46 (by decide) rfl ?_
    refine g_icmp_ge (tgt := 70) (pc2 := 51) dX9_write_48 (by decide) rfl (fun c => ?_) (fun c => ?_)
    · have h := h.1 c
      refine g_iload_n (pc2 := 71) dX9_write_70 rfl rfl ?_
      exact g_iret dX9_write_71 rfl h
    · have h := h.2 c
      refine g_aload_n (pc2 := 52) dX9_write_51 rfl rfl ?_
      refine g_iload_n (pc2 := 53) dX9_write_52 rfl rfl ?_
      refine g_iload_n (pc2 := 54) dX9_write_53 rfl rfl ?_
      refine g_aload_n (pc2 := 55) dX9_write_54 rfl rfl ?_
      refine g_iload_n (pc2 := 56) dX9_write_55 rfl rfl ?_
      refine g_iload_n (pc2 := 57) dX9_write_56 rfl rfl ?_
      refine g_iconst (v := (-1)) (pc2 := 58) dX9_write_57 (by decide) rfl ?_
      refine g_callV (M2 := mX9_holdsOf) (as := [.int x3, .int x1, .int (-1)]) (st := [.int x3, .int x2, .ref 1]) (pc2 := 61) dX9_write_58 ml_X9_245 mvX9_holdsOf gk_1 rfl rfl rfl (Nat.le_of_ble_eq_true rfl) (Nat.le_refl _) rfl (h.mono ?_)
      rintro _ σ7 ⟨r8, rfl, h⟩
      show gG (d + 1) mX9_write 61 _ [.int r8, .int x3, .int x2, .ref 1] σ7 Q
      refine g_callV (M2 := mX9_keep) (as := [.int x2, .int x3, .int r8]) (st := []) (pc2 := 64) dX9_write_61 ml_X9_337 mvX9_keep gk_1 rfl rfl rfl (Nat.le_of_ble_eq_true rfl) (Nat.le_refl _) rfl (h.mono ?_)
      rintro _ σ9 ⟨rfl, h⟩
      show gG (d + 1) mX9_write 64 _ [] σ9 Q
      refine g_iinc2 (c := 1) (pc2 := 67) dX9_write_64 rfl (by decide) (by decide) rfl rfl ?_
      refine g_goto (tgt := 35) dX9_write_67 (by decide) ?_
      exact g_lw (lv2 := [some (.ref 1), some (.int x1), some (.int x2), some (.int (x3 + 1))]) ⟨rfl, ⟨rfl, ⟨rfl, ⟨rfl, trivial⟩⟩⟩⟩ h
