set_option maxRecDepth 20000 in
theorem eX8_act {d : Nat} {σ : gw_S} {Q : Option Value → gw_S → Prop} {x1 : Int32} {x2 : Int32} {x3 : Int32} {x4 : Int32}   (h : gB d mX8_mayBeAct [.int x1, .int x2, .int x3, .int x4] σ (fun v σ1 => ∃ r2 : Int32, v = some (.int r2) ∧ (((¬ r2 = 0) → ((((σ1 11 4) < 16) → (vp_in (σ1 11 4) 16 ∧ (∀ s3 : gw_S, s3 = gw_u σ1 12 (σ1 11 4).toNatClampNeg x1 → (vp_in (σ1 11 4) 16 ∧ (∀ s4 : gw_S, s4 = gw_u s3 13 (σ1 11 4).toNatClampNeg x2 → (vp_in (σ1 11 4) 16 ∧ (∀ s5 : gw_S, s5 = gw_u s4 14 (σ1 11 4).toNatClampNeg x3 → (vp_in (σ1 11 4) 16 ∧ (∀ s6 : gw_S, s6 = gw_u s5 15 (σ1 11 4).toNatClampNeg x4 → (∀ s7 : gw_S, s7 = gw_u s6 11 4 ((s6 11 4) + 1) → (gB d mX8_forgetDays [.ref 0] s7 (fun v σ8 => v = none ∧ (Q (some (.int (σ8 11 4))) σ8))))))))))))) ∧ ((¬ (σ1 11 4) < 16) → (Q (some (.int (-4))) σ1)))) ∧ ((r2 = 0) → (Q (some (.int (-2))) σ1))))) : gB (d + 1) mX8_act [.ref 0, .int x1, .int x2, .int x3, .int x4] σ Q := by
  refine gB_of rfl (Nat.le_of_ble_eq_true rfl) (g_lw (lv2 := [some (.ref 0), some (.int x1), some (.int x2), some (.int x3), some (.int x4), none, none]) ⟨rfl, ⟨rfl, ⟨rfl, ⟨rfl, ⟨rfl, trivial⟩⟩⟩⟩⟩ ?_)
  refine g_iload_n (pc2 := 1) dX8_act_0 rfl rfl ?_
  refine g_iload_n (pc2 := 2) dX8_act_1 rfl rfl ?_
  refine g_iload_n (pc2 := 3) dX8_act_2 rfl rfl ?_
  refine g_iload (pc2 := 5) dX8_act_3 rfl rfl ?_
  refine g_callS (M2 := mX8_mayBeAct) (as := [.int x1, .int x2, .int x3, .int x4]) (st := []) (pc2 := 8) dX8_act_5 ml_X8_146 msX8_mayBeAct rfl rfl (Nat.le_of_ble_eq_true rfl) (Nat.le_refl _) rfl (h.mono ?_)
  rintro _ σ1 ⟨r2, rfl, h⟩
  show gG (d + 1) mX8_act 8 _ [.int r2] σ1 Q
  refine g_if_ne (tgt := 14) (pc2 := 11) dX8_act_8 (by decide) rfl (fun c => ?_) (fun c => ?_)
  · have h := h.1 c
    refine g_aload_n (pc2 := 15) dX8_act_14 rfl rfl ?_
    refine g_geta (pc2 := 18) dX8_act_15 fl_X8_24 gk_0 rfl rfl ?_
    refine g_geta (pc2 := 21) dX8_act_18 fl_X8_150 gk_6 rfl rfl ?_
    refine g_astore (pc2 := 23) dX8_act_21 (by decide) rfl rfl ?_
    refine g_aload (pc2 := 25) dX8_act_23 rfl rfl ?_
    refine g_geti (pc2 := 28) dX8_act_25 fl_X8_154 gk_11 rfl rfl ?_
    refine g_istore (pc2 := 30) dX8_act_28 (by decide) rfl rfl ?_
    refine g_iload (pc2 := 32) dX8_act_30 rfl rfl ?_
    refine g_bipush (v := 16) (pc2 := 34) dX8_act_32 (by decide) rfl ?_
    refine g_icmp_lt (tgt := 40) (pc2 := 37) dX8_act_34 (by decide) rfl (fun c => ?_) (fun c => ?_)
    · have h := h.1 c
      refine g_aload (pc2 := 42) dX8_act_40 rfl rfl ?_
      refine g_geta (pc2 := 45) dX8_act_42 fl_X8_157 gk_11 rfl rfl ?_
      refine g_iload (pc2 := 47) dX8_act_45 rfl rfl ?_
      refine g_iload_n (pc2 := 48) dX8_act_47 rfl rfl ?_
      obtain ⟨hx, h⟩ := h
      refine g_iast2 (pc2 := 49) dX8_act_48 gk_12 hx rfl (fun s3 es3 => ?_)
      replace h := h s3 es3
      refine g_aload (pc2 := 51) dX8_act_49 rfl rfl ?_
      refine g_geta (pc2 := 54) dX8_act_51 fl_X8_160 gk_11 rfl rfl ?_
      refine g_iload (pc2 := 56) dX8_act_54 rfl rfl ?_
      refine g_iload_n (pc2 := 57) dX8_act_56 rfl rfl ?_
      obtain ⟨hx, h⟩ := h
      refine g_iast2 (pc2 := 58) dX8_act_57 gk_13 hx rfl (fun s4 es4 => ?_)
      replace h := h s4 es4
      refine g_aload (pc2 := 60) dX8_act_58 rfl rfl ?_
      refine g_geta (pc2 := 63) dX8_act_60 fl_X8_163 gk_11 rfl rfl ?_
      refine g_iload (pc2 := 65) dX8_act_63 rfl rfl ?_
      refine g_iload_n (pc2 := 66) dX8_act_65 rfl rfl ?_
      obtain ⟨hx, h⟩ := h
      refine g_iast2 (pc2 := 67) dX8_act_66 gk_14 hx rfl (fun s5 es5 => ?_)
      replace h := h s5 es5
      refine g_aload (pc2 := 69) dX8_act_67 rfl rfl ?_
      refine g_geta (pc2 := 72) dX8_act_69 fl_X8_166 gk_11 rfl rfl ?_
      refine g_iload (pc2 := 74) dX8_act_72 rfl rfl ?_
      refine g_iload (pc2 := 76) dX8_act_74 rfl rfl ?_
      obtain ⟨hx, h⟩ := h
      refine g_iast2 (pc2 := 77) dX8_act_76 gk_15 hx rfl (fun s6 es6 => ?_)
      replace h := h s6 es6
      refine g_aload (pc2 := 79) dX8_act_77 rfl rfl ?_
      refine g_dup (pc2 := 80) dX8_act_79 rfl rfl ?_
      refine g_geti (pc2 := 83) dX8_act_80 fl_X8_154 gk_11 rfl rfl ?_
      refine g_iconst (v := 1) (pc2 := 84) dX8_act_83 (by decide) rfl ?_
      refine g_iadd (pc2 := 85) dX8_act_84 rfl ?_
      refine g_put2 (pc2 := 88) dX8_act_85 fp_X8_154 gk_11 rfl rfl rfl rfl (fun s7 es7 => ?_)
      replace h := h s7 es7
      refine g_aload_n (pc2 := 89) dX8_act_88 rfl rfl ?_
      refine g_callV (M2 := mX8_forgetDays) (as := []) (st := []) (pc2 := 92) dX8_act_89 ml_X8_137 mvX8_forgetDays gk_0 rfl rfl rfl (Nat.le_of_ble_eq_true rfl) (Nat.le_refl _) rfl (h.mono ?_)
      rintro _ σ8 ⟨rfl, h⟩
      show gG (d + 1) mX8_act 92 _ [] σ8 Q
      refine g_aload (pc2 := 94) dX8_act_92 rfl rfl ?_
      refine g_geti (pc2 := 97) dX8_act_94 fl_X8_154 gk_11 rfl rfl ?_
      exact g_iret dX8_act_97 rfl h
    · have h := h.2 c
      refine g_bipush (v := (-4)) (pc2 := 39) dX8_act_37 (by decide) rfl ?_
      exact g_iret dX8_act_39 rfl h
  · have h := h.2 c
    refine g_bipush (v := (-2)) (pc2 := 13) dX8_act_11 (by decide) rfl ?_
    exact g_iret dX8_act_13 rfl h
set_option maxRecDepth 20000 in
theorem eX8_areBottles {d : Nat} {σ : gw_S} {Q : Option Value → gw_S → Prop} {x1 : Int32}   (h : ((¬ (x1 &&& ((255 : Int32) >>> ((σ 7 4) &&& 31))) = 0) → (Q (some (.int 0)) σ)) ∧ (((x1 &&& ((255 : Int32) >>> ((σ 7 4) &&& 31))) = 0) → (Q (some (.int 1)) σ))) : gB d mX8_areBottles [.ref 0, .int x1] σ Q := by
  refine gB_of rfl (Nat.le_of_ble_eq_true rfl) (g_lw (lv2 := [some (.ref 0), some (.int x1)]) ⟨rfl, ⟨rfl, trivial⟩⟩ ?_)
  refine g_iload_n (pc2 := 1) dX8_areBottles_0 rfl rfl ?_
  refine g_sipush (v := 255) (pc2 := 4) dX8_areBottles_1 (by decide) rfl ?_
  refine g_aload_n (pc2 := 5) dX8_areBottles_4 rfl rfl ?_
  refine g_geta (pc2 := 8) dX8_areBottles_5 fl_X8_24 gk_0 rfl rfl ?_
  refine g_geta (pc2 := 11) dX8_areBottles_8 fl_X8_112 gk_6 rfl rfl ?_
  refine g_geti (pc2 := 14) dX8_areBottles_11 fl_X8_242 gk_7 rfl rfl ?_
  refine g_ishr (pc2 := 15) dX8_areBottles_14 rfl ?_
  refine g_iand (pc2 := 16) dX8_areBottles_15 rfl ?_
  refine g_if_ne (tgt := 23) (pc2 := 19) dX8_areBottles_16 (by decide) rfl (fun c => ?_) (fun c => ?_)
  · have h := h.1 c
    refine g_iconst (v := 0) (pc2 := 24) dX8_areBottles_23 (by decide) rfl ?_
    exact g_zret dX8_areBottles_24 rfl rfl h
  · have h := h.2 c
    refine g_iconst (v := 1) (pc2 := 20) dX8_areBottles_19 (by decide) rfl ?_
    refine g_goto (tgt := 24) dX8_areBottles_20 (by decide) ?_
    exact g_zret dX8_areBottles_24 rfl rfl h
set_option maxRecDepth 20000 in
theorem eX8_back {d : Nat} {σ : gw_S} {Q : Option Value → gw_S → Prop} {x1 : Int32}   (h : gB d mX8_isWithin [.int x1, .int 2] σ (fun v σ1 => ∃ r2 : Int32, v = some (.int r2) ∧ (((¬ r2 = 0) → (((¬ x1 = 0) → (gG (d + 1) mX8_back 35 [some (.ref 0), some (.int x1), none] [.int (σ1 6 3)] σ1 Q)) ∧ ((x1 = 0) → (gG (d + 1) mX8_back 35 [some (.ref 0), some (.int x1), none] [.int (σ1 11 4)] σ1 Q)))) ∧ ((r2 = 0) → (Q (some (.int (-2))) σ1))))) : gB (d + 1) mX8_back [.ref 0, .int x1] σ Q := by
  refine gB_of rfl (Nat.le_of_ble_eq_true rfl) (g_lw (lv2 := [some (.ref 0), some (.int x1), none]) ⟨rfl, ⟨rfl, trivial⟩⟩ ?_)
  refine g_iload_n (pc2 := 1) dX8_back_0 rfl rfl ?_
  refine g_iconst (v := 2) (pc2 := 2) dX8_back_1 (by decide) rfl ?_
  refine g_callS (M2 := mX8_isWithin) (as := [.int x1, .int 2]) (st := []) (pc2 := 5) dX8_back_2 ml_X8_81 msX8_isWithin rfl rfl (Nat.le_of_ble_eq_true rfl) (Nat.le_refl _) rfl (h.mono ?_)
  rintro _ σ1 ⟨r2, rfl, h⟩
  show gG (d + 1) mX8_back 5 _ [.int r2] σ1 Q
  refine g_if_ne (tgt := 11) (pc2 := 8) dX8_back_5 (by decide) rfl (fun c => ?_) (fun c => ?_)
  · have h := h.1 c
    refine g_iload_n (pc2 := 12) dX8_back_11 rfl rfl ?_
    refine g_if_ne (tgt := 28) (pc2 := 15) dX8_back_12 (by decide) rfl (fun c => ?_) (fun c => ?_)
    · have h := h.1 c
      refine g_aload_n (pc2 := 29) dX8_back_28 rfl rfl ?_
      refine g_geta (pc2 := 32) dX8_back_29 fl_X8_24 gk_0 rfl rfl ?_
      refine g_geti (pc2 := 35) dX8_back_32 fl_X8_140 gk_6 rfl rfl ?_
      exact g_lw (lv2 := [some (.ref 0), some (.int x1), none]) ⟨rfl, ⟨rfl, trivial⟩⟩ h
    · have h := h.2 c
      refine g_aload_n (pc2 := 16) dX8_back_15 rfl rfl ?_
      refine g_geta (pc2 := 19) dX8_back_16 fl_X8_24 gk_0 rfl rfl ?_
      refine g_geta (pc2 := 22) dX8_back_19 fl_X8_150 gk_6 rfl rfl ?_
      refine g_geti (pc2 := 25) dX8_back_22 fl_X8_154 gk_11 rfl rfl ?_
      refine g_goto (tgt := 35) dX8_back_25 (by decide) ?_
      exact g_lw (lv2 := [some (.ref 0), some (.int x1), none]) ⟨rfl, ⟨rfl, trivial⟩⟩ h
  · have h := h.2 c
    refine g_bipush (v := (-2)) (pc2 := 10) dX8_back_8 (by decide) rfl ?_
    exact g_iret dX8_back_10 rfl h
set_option maxRecDepth 20000 in
theorem bX8_back_35 {d : Nat} {σ : gw_S} {Q : Option Value → gw_S → Prop} {x1 : Int32} {s0 : Int32}   (h : ((¬ s0 = 0) → (((¬ x1 = 0) → (∀ s3 : gw_S, s3 = gw_u σ 6 3 ((σ 6 3) - 1) → (gB d mX8_forgetDays [.ref 0] s3 (fun v σ4 => v = none ∧ (Q (some (.int (s0 - 1))) σ4))))) ∧ ((x1 = 0) → (∀ s5 : gw_S, s5 = gw_u σ 11 4 ((σ 11 4) - 1) → (gB d mX8_forgetDays [.ref 0] s5 (fun v σ6 => v = none ∧ (Q (some (.int (s0 - 1))) σ6))))))) ∧ ((s0 = 0) → (Q (some (.int (-3))) σ))) : gG (d + 1) mX8_back 35 [some (.ref 0), some (.int x1), none] [.int s0] σ Q := by
  refine g_istore_n (pc2 := 36) dX8_back_35 (by decide) rfl rfl ?_
  refine g_iload_n (pc2 := 37) dX8_back_36 rfl rfl ?_
  refine g_if_ne (tgt := 43) (pc2 := 40) dX8_back_37 (by decide) rfl (fun c => ?_) (fun c => ?_)
  · have h := h.1 c
    refine g_iload_n (pc2 := 44) dX8_back_43 rfl rfl ?_
    refine g_if_ne (tgt := 66) (pc2 := 47) dX8_back_44 (by decide) rfl (fun c => ?_) (fun c => ?_)
    · have h := h.1 c
      refine g_aload_n (pc2 := 67) dX8_back_66 rfl rfl ?_
      refine g_geta (pc2 := 70) dX8_back_67 fl_X8_24 gk_0 rfl rfl ?_
      refine g_dup (pc2 := 71) dX8_back_70 rfl rfl ?_
      refine g_geti (pc2 := 74) dX8_back_71 fl_X8_140 gk_6 rfl rfl ?_
      refine g_iconst (v := 1) (pc2 := 75) dX8_back_74 (by decide) rfl ?_
      refine g_isub (pc2 := 76) dX8_back_75 rfl ?_
      refine g_put2 (pc2 := 79) dX8_back_76 fp_X8_140 gk_6 rfl rfl rfl rfl (fun s3 es3 => ?_)
      replace h := h s3 es3
      refine g_aload_n (pc2 := 80) dX8_back_79 rfl rfl ?_
      refine g_callV (M2 := mX8_forgetDays) (as := []) (st := []) (pc2 := 83) dX8_back_80 ml_X8_137 mvX8_forgetDays gk_0 rfl rfl rfl (Nat.le_of_ble_eq_true rfl) (Nat.le_refl _) rfl (h.mono ?_)
      rintro _ σ4 ⟨rfl, h⟩
      show gG (d + 1) mX8_back 83 _ [] σ4 Q
      refine g_iload_n (pc2 := 84) dX8_back_83 rfl rfl ?_
      refine g_iconst (v := 1) (pc2 := 85) dX8_back_84 (by decide) rfl ?_
      refine g_isub (pc2 := 86) dX8_back_85 rfl ?_
      exact g_iret dX8_back_86 rfl h
    · have h := h.2 c
      refine g_aload_n (pc2 := 48) dX8_back_47 rfl rfl ?_
      refine g_geta (pc2 := 51) dX8_back_48 fl_X8_24 gk_0 rfl rfl ?_
      refine g_geta (pc2 := 54) dX8_back_51 fl_X8_150 gk_6 rfl rfl ?_
      refine g_dup (pc2 := 55) dX8_back_54 rfl rfl ?_
      refine g_geti (pc2 := 58) dX8_back_55 fl_X8_154 gk_11 rfl rfl ?_
      refine g_iconst (v := 1) (pc2 := 59) dX8_back_58 (by decide) rfl ?_
      refine g_isub (pc2 := 60) dX8_back_59 rfl ?_
      refine g_put2 (pc2 := 63) dX8_back_60 fp_X8_154 gk_11 rfl rfl rfl rfl (fun s5 es5 => ?_)
      replace h := h s5 es5
      refine g_goto (tgt := 79) dX8_back_63 (by decide) ?_
      refine g_aload_n (pc2 := 80) dX8_back_79 rfl rfl ?_
      refine g_callV (M2 := mX8_forgetDays) (as := []) (st := []) (pc2 := 83) dX8_back_80 ml_X8_137 mvX8_forgetDays gk_0 rfl rfl rfl (Nat.le_of_ble_eq_true rfl) (Nat.le_refl _) rfl (h.mono ?_)
      rintro _ σ6 ⟨rfl, h⟩
      show gG (d + 1) mX8_back 83 _ [] σ6 Q
      refine g_iload_n (pc2 := 84) dX8_back_83 rfl rfl ?_
      refine g_iconst (v := 1) (pc2 := 85) dX8_back_84 (by decide) rfl ?_
      refine g_isub (pc2 := 86) dX8_back_85 rfl ?_
      exact g_iret dX8_back_86 rfl h
  · have h := h.2 c
    refine g_bipush (v := (-3)) (pc2 := 42) dX8_back_40 (by decide) rfl ?_
    exact g_iret dX8_back_42 rfl h
set_option maxRecDepth 20000 in
theorem eX8_behind {d : Nat} {σ : gw_S} {Q : Option Value → gw_S → Prop} {x1 : Int32}   (h : ((¬ (σ 0 10) = 0) → (gB d mX3_begin [.ref 36, .ref 7, .int 0, .int 0] σ (fun v σ1 => v = none ∧ (∀ s2 : gw_S, s2 = gw_u σ1 0 10 0 → (gG (d + 1) mX8_behind 49 [some (.ref 0), some (.int x1), some (.int ((s2 36 12) + 1))] [] s2 Q))))) ∧ (((σ 0 10) = 0) → ((((σ 36 12) ≤ x1) → (gG (d + 1) mX8_behind 49 [some (.ref 0), some (.int x1), some (.int ((σ 36 12) + 1))] [] σ Q)) ∧ ((¬ (σ 36 12) ≤ x1) → (gB d mX3_begin [.ref 36, .ref 7, .int 0, .int 0] σ (fun v σ3 => v = none ∧ (∀ s4 : gw_S, s4 = gw_u σ3 0 10 0 → (gG (d + 1) mX8_behind 49 [some (.ref 0), some (.int x1), some (.int ((s4 36 12) + 1))] [] s4 Q)))))))) : gB (d + 1) mX8_behind [.ref 0, .int x1] σ Q := by
  refine gB_of rfl (Nat.le_of_ble_eq_true rfl) (g_lw (lv2 := [some (.ref 0), some (.int x1), none]) ⟨rfl, ⟨rfl, trivial⟩⟩ ?_)
  refine g_aload_n (pc2 := 1) dX8_behind_0 rfl rfl ?_
  refine g_geti (pc2 := 4) dX8_behind_1 fl_X8_67 gk_0 rfl rfl ?_
  refine g_if_ne (tgt := 18) (pc2 := 7) dX8_behind_4 (by decide) rfl (fun c => ?_) (fun c => ?_)
  · have h := h.1 c
    refine g_aload_n (pc2 := 19) dX8_behind_18 rfl rfl ?_
    refine g_geta (pc2 := 22) dX8_behind_19 fl_X8_52 gk_0 rfl rfl ?_
    refine g_aload_n (pc2 := 23) dX8_behind_22 rfl rfl ?_
    refine g_geta (pc2 := 26) dX8_behind_23 fl_X8_24 gk_0 rfl rfl ?_
    refine g_geta (pc2 := 29) dX8_behind_26 fl_X8_112 gk_6 rfl rfl ?_
    refine g_iconst (v := 0) (pc2 := 30) dX8_behind_29 (by decide) rfl ?_
    refine g_iconst (v := 0) (pc2 := 31) dX8_behind_30 (by decide) rfl ?_
    refine g_callV (M2 := mX3_begin) (as := [.ref 7, .int 0, .int 0]) (st := []) (pc2 := 34) dX8_behind_31 ml_X8_265 mvX3_begin gk_36 rfl rfl rfl (Nat.le_of_ble_eq_true rfl) (Nat.le_refl _) rfl (h.mono ?_)
    rintro _ σ1 ⟨rfl, h⟩
    show gG (d + 1) mX8_behind 34 _ [] σ1 Q
    refine g_aload_n (pc2 := 35) dX8_behind_34 rfl rfl ?_
    refine g_iconst (v := 0) (pc2 := 36) dX8_behind_35 (by decide) rfl ?_
    refine g_put2 (pc2 := 39) dX8_behind_36 fp_X8_67 gk_0 rfl rfl rfl rfl (fun s2 es2 => ?_)
    replace h := h s2 es2
    refine g_aload_n (pc2 := 40) dX8_behind_39 rfl rfl ?_
    refine g_geta (pc2 := 43) dX8_behind_40 fl_X8_52 gk_0 rfl rfl ?_
    refine g_geti (pc2 := 46) dX8_behind_43 fl_X8_388 gk_36 rfl rfl ?_
    refine g_iconst (v := 1) (pc2 := 47) dX8_behind_46 (by decide) rfl ?_
    refine g_iadd (pc2 := 48) dX8_behind_47 rfl ?_
    refine g_istore_n (pc2 := 49) dX8_behind_48 (by decide) rfl rfl ?_
    exact g_lw (lv2 := [some (.ref 0), some (.int x1), some (.int ((s2 36 12) + 1))]) ⟨rfl, ⟨rfl, ⟨rfl, trivial⟩⟩⟩ h
  · have h := h.2 c
    refine g_aload_n (pc2 := 8) dX8_behind_7 rfl rfl ?_
    refine g_geta (pc2 := 11) dX8_behind_8 fl_X8_52 gk_0 rfl rfl ?_
    refine g_geti (pc2 := 14) dX8_behind_11 fl_X8_388 gk_36 rfl rfl ?_
    refine g_iload_n (pc2 := 15) dX8_behind_14 rfl rfl ?_
    refine g_icmp_le (tgt := 39) (pc2 := 18) dX8_behind_15 (by decide) rfl (fun c => ?_) (fun c => ?_)
    · have h := h.1 c
      refine g_aload_n (pc2 := 40) dX8_behind_39 rfl rfl ?_
      refine g_geta (pc2 := 43) dX8_behind_40 fl_X8_52 gk_0 rfl rfl ?_
      refine g_geti (pc2 := 46) dX8_behind_43 fl_X8_388 gk_36 rfl rfl ?_
      refine g_iconst (v := 1) (pc2 := 47) dX8_behind_46 (by decide) rfl ?_
      refine g_iadd (pc2 := 48) dX8_behind_47 rfl ?_
      refine g_istore_n (pc2 := 49) dX8_behind_48 (by decide) rfl rfl ?_
      exact g_lw (lv2 := [some (.ref 0), some (.int x1), some (.int ((σ 36 12) + 1))]) ⟨rfl, ⟨rfl, ⟨rfl, trivial⟩⟩⟩ h
    · have h := h.2 c
      refine g_aload_n (pc2 := 19) dX8_behind_18 rfl rfl ?_
      refine g_geta (pc2 := 22) dX8_behind_19 fl_X8_52 gk_0 rfl rfl ?_
      refine g_aload_n (pc2 := 23) dX8_behind_22 rfl rfl ?_
      refine g_geta (pc2 := 26) dX8_behind_23 fl_X8_24 gk_0 rfl rfl ?_
      refine g_geta (pc2 := 29) dX8_behind_26 fl_X8_112 gk_6 rfl rfl ?_
      refine g_iconst (v := 0) (pc2 := 30) dX8_behind_29 (by decide) rfl ?_
      refine g_iconst (v := 0) (pc2 := 31) dX8_behind_30 (by decide) rfl ?_
      refine g_callV (M2 := mX3_begin) (as := [.ref 7, .int 0, .int 0]) (st := []) (pc2 := 34) dX8_behind_31 ml_X8_265 mvX3_begin gk_36 rfl rfl rfl (Nat.le_of_ble_eq_true rfl) (Nat.le_refl _) rfl (h.mono ?_)
      rintro _ σ3 ⟨rfl, h⟩
      show gG (d + 1) mX8_behind 34 _ [] σ3 Q
      refine g_aload_n (pc2 := 35) dX8_behind_34 rfl rfl ?_
      refine g_iconst (v := 0) (pc2 := 36) dX8_behind_35 (by decide) rfl ?_
      refine g_put2 (pc2 := 39) dX8_behind_36 fp_X8_67 gk_0 rfl rfl rfl rfl (fun s4 es4 => ?_)
      replace h := h s4 es4
      refine g_aload_n (pc2 := 40) dX8_behind_39 rfl rfl ?_
      refine g_geta (pc2 := 43) dX8_behind_40 fl_X8_52 gk_0 rfl rfl ?_
      refine g_geti (pc2 := 46) dX8_behind_43 fl_X8_388 gk_36 rfl rfl ?_
      refine g_iconst (v := 1) (pc2 := 47) dX8_behind_46 (by decide) rfl ?_
      refine g_iadd (pc2 := 48) dX8_behind_47 rfl ?_
      refine g_istore_n (pc2 := 49) dX8_behind_48 (by decide) rfl rfl ?_
      exact g_lw (lv2 := [some (.ref 0), some (.int x1), some (.int ((s4 36 12) + 1))]) ⟨rfl, ⟨rfl, ⟨rfl, trivial⟩⟩⟩ h
set_option maxRecDepth 20000 in
theorem bX8_behind_49 {d : Nat} {σ : gw_S} {Q : Option Value → gw_S → Prop} {x1 : Int32} {x2 : Int32}   (h : ((x1 < x2) → (Q (some (.ref 36)) σ)) ∧ ((¬ x1 < x2) → (gB d mX3_passDay [.ref 36, .ref 6, .int (-1)] σ (fun v σ5 => v = none ∧ (gG (d + 1) mX8_behind 49 [some (.ref 0), some (.int x1), some (.int (x2 + 1))] [] σ5 Q))))) : gG (d + 1) mX8_behind 49 [some (.ref 0), some (.int x1), some (.int x2)] [] σ Q := by
  refine g_iload_n (pc2 := 50) dX8_behind_49 rfl rfl ?_
  refine g_iload_n (pc2 := 51) dX8_behind_50 rfl rfl ?_
  refine g_icmp_gt (tgt := 72) (pc2 := 54) dX8_behind_51 (by decide) rfl (fun c => ?_) (fun c => ?_)
  · have h := h.1 c
    refine g_aload_n (pc2 := 73) dX8_behind_72 rfl rfl ?_
    refine g_geta (pc2 := 76) dX8_behind_73 fl_X8_52 gk_0 rfl rfl ?_
    exact g_aret dX8_behind_76 rfl h
  · have h := h.2 c
    refine g_aload_n (pc2 := 55) dX8_behind_54 rfl rfl ?_
    refine g_geta (pc2 := 58) dX8_behind_55 fl_X8_52 gk_0 rfl rfl ?_
    refine g_aload_n (pc2 := 59) dX8_behind_58 rfl rfl ?_
    refine g_geta (pc2 := 62) dX8_behind_59 fl_X8_24 gk_0 rfl rfl ?_
    refine g_iconst (v := (-1)) (pc2 := 63) dX8_behind_62 (by decide) rfl ?_
    refine g_callV (M2 := mX3_passDay) (as := [.ref 6, .int (-1)]) (st := []) (pc2 := 66) dX8_behind_63 ml_X8_282 mvX3_passDay gk_36 rfl rfl rfl (Nat.le_of_ble_eq_true rfl) (Nat.le_refl _) rfl (h.mono ?_)
    rintro _ σ5 ⟨rfl, h⟩
    show gG (d + 1) mX8_behind 66 _ [] σ5 Q
    refine g_iinc2 (c := 1) (pc2 := 69) dX8_behind_66 rfl (by decide) (by decide) rfl rfl ?_
    refine g_goto (tgt := 49) dX8_behind_69 (by decide) ?_
    exact g_lw (lv2 := [some (.ref 0), some (.int x1), some (.int (x2 + 1))]) ⟨rfl, ⟨rfl, ⟨rfl, trivial⟩⟩⟩ h
set_option maxRecDepth 20000 in
theorem eX8_bottle {d : Nat} {σ : gw_S} {Q : Option Value → gw_S → Prop} {x1 : Int32} {x2 : Int32}   (h : gB d mX8_isBottle [.ref 0, .int x1] σ (fun v σ1 => ∃ r2 : Int32, v = some (.int r2) ∧ (((¬ r2 = 0) → ((x2 = 0 → (vp_in x1 8 ∧ (Q (some (.int (σ1 8 x1.toNatClampNeg))) σ1))) ∧ (x2 = 1 → (vp_in x1 8 ∧ (Q (some (.int (σ1 9 x1.toNatClampNeg))) σ1))) ∧ (x2 = 2 → (vp_in x1 8 ∧ (Q (some (.int (σ1 10 x1.toNatClampNeg))) σ1))) ∧ (x2 = 3 → (Q (some (.int (((σ1 7 3) >>> (x1 &&& 31)) &&& 1))) σ1)) ∧ (¬ x2 = 0 → ¬ x2 = 1 → ¬ x2 = 2 → ¬ x2 = 3 → (Q (some (.int (-2))) σ1)))) ∧ ((r2 = 0) → (Q (some (.int (-2))) σ1))))) : gB (d + 1) mX8_bottle [.ref 0, .int x1, .int x2] σ Q := by
  refine gB_of rfl (Nat.le_of_ble_eq_true rfl) (g_lw (lv2 := [some (.ref 0), some (.int x1), some (.int x2)]) ⟨rfl, ⟨rfl, ⟨rfl, trivial⟩⟩⟩ ?_)
  refine g_aload_n (pc2 := 1) dX8_bottle_0 rfl rfl ?_
  refine g_iload_n (pc2 := 2) dX8_bottle_1 rfl rfl ?_
  refine g_callV (M2 := mX8_isBottle) (as := [.int x1]) (st := []) (pc2 := 5) dX8_bottle_2 ml_X8_108 mvX8_isBottle gk_0 rfl rfl rfl (Nat.le_of_ble_eq_true rfl) (Nat.le_refl _) rfl (h.mono ?_)
  rintro _ σ1 ⟨r2, rfl, h⟩
  show gG (d + 1) mX8_bottle 5 _ [.int r2] σ1 Q
  refine g_if_ne (tgt := 11) (pc2 := 8) dX8_bottle_5 (by decide) rfl (fun c => ?_) (fun c => ?_)
  · have h := h.1 c
    refine g_iload_n (pc2 := 12) dX8_bottle_11 rfl rfl ?_
    by_cases c0 : x2 = 0
    · have h := h.1 c0
      refine g_tabIn (x := x2) (tgt := 44) dX8_bottle_12 (by rw [c0]; decide) (by rw [c0]; decide) (by rw [c0]; rfl) (by decide) ?_
      refine g_aload_n (pc2 := 45) dX8_bottle_44 rfl rfl ?_
      refine g_geta (pc2 := 48) dX8_bottle_45 fl_X8_24 gk_0 rfl rfl ?_
      refine g_geta (pc2 := 51) dX8_bottle_48 fl_X8_112 gk_6 rfl rfl ?_
      refine g_geta (pc2 := 54) dX8_bottle_51 fl_X8_116 gk_7 rfl rfl ?_
      refine g_iload_n (pc2 := 55) dX8_bottle_54 rfl rfl ?_
      obtain ⟨hx, h⟩ := h
      refine g_iald (pc2 := 56) dX8_bottle_55 gk_8 hx rfl ?_
      exact g_iret dX8_bottle_56 rfl h
    replace h := h.2
    by_cases c1 : x2 = 1
    · have h := h.1 c1
      refine g_tabIn (x := x2) (tgt := 57) dX8_bottle_12 (by rw [c1]; decide) (by rw [c1]; decide) (by rw [c1]; rfl) (by decide) ?_
      refine g_aload_n (pc2 := 58) dX8_bottle_57 rfl rfl ?_
      refine g_geta (pc2 := 61) dX8_bottle_58 fl_X8_24 gk_0 rfl rfl ?_
      refine g_geta (pc2 := 64) dX8_bottle_61 fl_X8_112 gk_6 rfl rfl ?_
      refine g_geta (pc2 := 67) dX8_bottle_64 fl_X8_121 gk_7 rfl rfl ?_
      refine g_iload_n (pc2 := 68) dX8_bottle_67 rfl rfl ?_
      obtain ⟨hx, h⟩ := h
      refine g_iald (pc2 := 69) dX8_bottle_68 gk_9 hx rfl ?_
      exact g_iret dX8_bottle_69 rfl h
    replace h := h.2
    by_cases c2 : x2 = 2
    · have h := h.1 c2
      refine g_tabIn (x := x2) (tgt := 70) dX8_bottle_12 (by rw [c2]; decide) (by rw [c2]; decide) (by rw [c2]; rfl) (by decide) ?_
      refine g_aload_n (pc2 := 71) dX8_bottle_70 rfl rfl ?_
      refine g_geta (pc2 := 74) dX8_bottle_71 fl_X8_24 gk_0 rfl rfl ?_
      refine g_geta (pc2 := 77) dX8_bottle_74 fl_X8_112 gk_6 rfl rfl ?_
      refine g_geta (pc2 := 80) dX8_bottle_77 fl_X8_124 gk_7 rfl rfl ?_
      refine g_iload_n (pc2 := 81) dX8_bottle_80 rfl rfl ?_
      obtain ⟨hx, h⟩ := h
      refine g_iald (pc2 := 82) dX8_bottle_81 gk_10 hx rfl ?_
      exact g_iret dX8_bottle_82 rfl h
    replace h := h.2
    by_cases c3 : x2 = 3
    · have h := h.1 c3
      refine g_tabIn (x := x2) (tgt := 83) dX8_bottle_12 (by rw [c3]; decide) (by rw [c3]; decide) (by rw [c3]; rfl) (by decide) ?_
      refine g_aload_n (pc2 := 84) dX8_bottle_83 rfl rfl ?_
      refine g_geta (pc2 := 87) dX8_bottle_84 fl_X8_24 gk_0 rfl rfl ?_
      refine g_geta (pc2 := 90) dX8_bottle_87 fl_X8_112 gk_6 rfl rfl ?_
      refine g_geti (pc2 := 93) dX8_bottle_90 fl_X8_127 gk_7 rfl rfl ?_
      refine g_iload_n (pc2 := 94) dX8_bottle_93 rfl rfl ?_
      refine g_ishr (pc2 := 95) dX8_bottle_94 rfl ?_
      refine g_iconst (v := 1) (pc2 := 96) dX8_bottle_95 (by decide) rfl ?_
      refine g_iand (pc2 := 97) dX8_bottle_96 rfl ?_
      exact g_iret dX8_bottle_97 rfl h
    replace h := h.2
    refine g_tabOut (x := x2) (tgt := 98) dX8_bottle_12 (gw_out (fun e => gw_sw4 e c0 c1 c2 c3)) (by decide) ?_
    replace h := h c0 c1 c2 c3
    refine g_bipush (v := (-2)) (pc2 := 100) dX8_bottle_98 (by decide) rfl ?_
    exact g_iret dX8_bottle_100 rfl h
  · have h := h.2 c
    refine g_bipush (v := (-2)) (pc2 := 10) dX8_bottle_8 (by decide) rfl ?_
    exact g_iret dX8_bottle_10 rfl h
set_option maxRecDepth 20000 in
theorem eX8_burst {d : Nat} {σ : gw_S} {Q : Option Value → gw_S → Prop} {x1 : Int32}   (h : ((x1 < 1) → (Q (some (.int (-2))) σ)) ∧ ((¬ x1 < 1) → (((x1 ≤ 200) → (∀ s1 : gw_S, s1 = gw_u σ 6 4 x1 → (gB d mX8_forgetDays [.ref 0] s1 (fun v σ2 => v = none ∧ (Q (some (.int (σ 6 4))) σ2))))) ∧ ((¬ x1 ≤ 200) → (Q (some (.int (-2))) σ))))) : gB (d + 1) mX8_burst [.ref 0, .int x1] σ Q := by
  refine gB_of rfl (Nat.le_of_ble_eq_true rfl) (g_lw (lv2 := [some (.ref 0), some (.int x1), none]) ⟨rfl, ⟨rfl, trivial⟩⟩ ?_)
  refine g_iload_n (pc2 := 1) dX8_burst_0 rfl rfl ?_
  refine g_iconst (v := 1) (pc2 := 2) dX8_burst_1 (by decide) rfl ?_
  refine g_icmp_lt (tgt := 12) (pc2 := 5) dX8_burst_2 (by decide) rfl (fun c => ?_) (fun c => ?_)
  · have h := h.1 c
    refine g_bipush (v := (-2)) (pc2 := 14) dX8_burst_12 (by decide) rfl ?_
    exact g_iret dX8_burst_14 rfl h
  · have h := h.2 c
    refine g_iload_n (pc2 := 6) dX8_burst_5 rfl rfl ?_
    refine g_sipush (v := 200) (pc2 := 9) dX8_burst_6 (by decide) rfl ?_
    refine g_icmp_le (tgt := 15) (pc2 := 12) dX8_burst_9 (by decide) rfl (fun c => ?_) (fun c => ?_)
    · have h := h.1 c
      refine g_aload_n (pc2 := 16) dX8_burst_15 rfl rfl ?_
      refine g_geta (pc2 := 19) dX8_burst_16 fl_X8_24 gk_0 rfl rfl ?_
      refine g_geti (pc2 := 22) dX8_burst_19 fl_X8_134 gk_6 rfl rfl ?_
      refine g_istore_n (pc2 := 23) dX8_burst_22 (by decide) rfl rfl ?_
      refine g_aload_n (pc2 := 24) dX8_burst_23 rfl rfl ?_
      refine g_geta (pc2 := 27) dX8_burst_24 fl_X8_24 gk_0 rfl rfl ?_
      refine g_iload_n (pc2 := 28) dX8_burst_27 rfl rfl ?_
      refine g_put2 (pc2 := 31) dX8_burst_28 fp_X8_134 gk_6 rfl rfl rfl rfl (fun s1 es1 => ?_)
      replace h := h s1 es1
      refine g_aload_n (pc2 := 32) dX8_burst_31 rfl rfl ?_
      refine g_callV (M2 := mX8_forgetDays) (as := []) (st := []) (pc2 := 35) dX8_burst_32 ml_X8_137 mvX8_forgetDays gk_0 rfl rfl rfl (Nat.le_of_ble_eq_true rfl) (Nat.le_refl _) rfl (h.mono ?_)
      rintro _ σ2 ⟨rfl, h⟩
      show gG (d + 1) mX8_burst 35 _ [] σ2 Q
      refine g_iload_n (pc2 := 36) dX8_burst_35 rfl rfl ?_
      exact g_iret dX8_burst_36 rfl h
    · have h := h.2 c
      refine g_bipush (v := (-2)) (pc2 := 14) dX8_burst_12 (by decide) rfl ?_
      exact g_iret dX8_burst_14 rfl h
set_option maxRecDepth 20000 in
theorem eX8_comesOut {d : Nat} {σ : gw_S} {Q : Option Value → gw_S → Prop} {x1 : Int32} {x2 : Int32} {x3 : Int32}   (h : gB d mX7_lastDay [.ref 22] σ (fun v σ1 => ∃ r2 : Int32, v = some (.int r2) ∧ (gB d mX3_begin [.ref 44, .ref 7, .int x2, .int x3] σ1 (fun v σ3 => v = none ∧ (gG (d + 1) mX8_comesOut 28 [some (.ref 0), some (.int x1), none, none, some (.int r2), some (.int 0)] [] σ3 Q))))) : gB (d + 1) mX8_comesOut [.ref 0, .int x1, .int x2, .int x3] σ Q := by
  refine gB_of rfl (Nat.le_of_ble_eq_true rfl) (g_lw (lv2 := [some (.ref 0), some (.int x1), some (.int x2), some (.int x3), none, none]) ⟨rfl, ⟨rfl, ⟨rfl, ⟨rfl, trivial⟩⟩⟩⟩ ?_)
  refine g_aload_n (pc2 := 1) dX8_comesOut_0 rfl rfl ?_
  refine g_geta (pc2 := 4) dX8_comesOut_1 fl_X8_38 gk_0 rfl rfl ?_
  refine g_callV (M2 := mX7_lastDay) (as := []) (st := []) (pc2 := 7) dX8_comesOut_4 ml_X8_403 mvX7_lastDay gk_22 rfl rfl rfl (Nat.le_of_ble_eq_true rfl) (Nat.le_refl _) rfl (h.mono ?_)
  rintro _ σ1 ⟨r2, rfl, h⟩
  show gG (d + 1) mX8_comesOut 7 _ [.int r2] σ1 Q
  refine g_istore (pc2 := 9) dX8_comesOut_7 (by decide) rfl rfl ?_
  refine g_aload_n (pc2 := 10) dX8_comesOut_9 rfl rfl ?_
  refine g_geta (pc2 := 13) dX8_comesOut_10 fl_X8_56 gk_0 rfl rfl ?_
  refine g_aload_n (pc2 := 14) dX8_comesOut_13 rfl rfl ?_
  refine g_geta (pc2 := 17) dX8_comesOut_14 fl_X8_24 gk_0 rfl rfl ?_
  refine g_geta (pc2 := 20) dX8_comesOut_17 fl_X8_112 gk_6 rfl rfl ?_
  refine g_iload_n (pc2 := 21) dX8_comesOut_20 rfl rfl ?_
  refine g_iload_n (pc2 := 22) dX8_comesOut_21 rfl rfl ?_
  refine g_callV (M2 := mX3_begin) (as := [.ref 7, .int x2, .int x3]) (st := []) (pc2 := 25) dX8_comesOut_22 ml_X8_265 mvX3_begin gk_44 rfl rfl rfl (Nat.le_of_ble_eq_true rfl) (Nat.le_refl _) rfl (h.mono ?_)
  rintro _ σ3 ⟨rfl, h⟩
  show gG (d + 1) mX8_comesOut 25 _ [] σ3 Q
  refine g_iconst (v := 0) (pc2 := 26) dX8_comesOut_25 (by decide) rfl ?_
  refine g_istore (pc2 := 28) dX8_comesOut_26 (by decide) rfl rfl ?_
  exact g_lw (lv2 := [some (.ref 0), some (.int x1), none, none, some (.int r2), some (.int 0)]) ⟨rfl, ⟨rfl, ⟨rfl, ⟨rfl, trivial⟩⟩⟩⟩ h
set_option maxRecDepth 20000 in
theorem bX8_comesOut_28 {d : Nat} {σ : gw_S} {Q : Option Value → gw_S → Prop} {x1 : Int32} {x4 : Int32} {x5 : Int32}   (h : ((x4 < x5) → (Q (some (.int 1)) σ)) ∧ ((¬ x4 < x5) → (gB d mX3_passDay [.ref 44, .ref 6, .int x1] σ (fun v σ4 => v = none ∧ (gB d mX7_agreeWith [.ref 22, .ref 44] σ4 (fun v σ5 => ∃ r6 : Int32, v = some (.int r6) ∧ (((¬ r6 = 0) → (gG (d + 1) mX8_comesOut 28 [some (.ref 0), some (.int x1), none, none, some (.int x4), some (.int (x5 + 1))] [] σ5 Q)) ∧ ((r6 = 0) → (Q (some (.int 0)) σ5))))))))) : gG (d + 1) mX8_comesOut 28 [some (.ref 0), some (.int x1), none, none, some (.int x4), some (.int x5)] [] σ Q := by
  refine g_iload (pc2 := 30) dX8_comesOut_28 rfl rfl ?_
  refine g_iload (pc2 := 32) dX8_comesOut_30 rfl rfl ?_
  refine g_icmp_gt (tgt := 69) (pc2 := 35) dX8_comesOut_32 (by decide) rfl (fun c => ?_) (fun c => ?_)
  · have h := h.1 c
    refine g_iconst (v := 1) (pc2 := 70) dX8_comesOut_69 (by decide) rfl ?_
    exact g_zret dX8_comesOut_70 rfl rfl h
  · have h := h.2 c
    refine g_aload_n (pc2 := 36) dX8_comesOut_35 rfl rfl ?_
    refine g_geta (pc2 := 39) dX8_comesOut_36 fl_X8_56 gk_0 rfl rfl ?_
    refine g_aload_n (pc2 := 40) dX8_comesOut_39 rfl rfl ?_
    refine g_geta (pc2 := 43) dX8_comesOut_40 fl_X8_24 gk_0 rfl rfl ?_
    refine g_iload_n (pc2 := 44) dX8_comesOut_43 rfl rfl ?_
    refine g_callV (M2 := mX3_passDay) (as := [.ref 6, .int x1]) (st := []) (pc2 := 47) dX8_comesOut_44 ml_X8_282 mvX3_passDay gk_44 rfl rfl rfl (Nat.le_of_ble_eq_true rfl) (Nat.le_refl _) rfl (h.mono ?_)
    rintro _ σ4 ⟨rfl, h⟩
    show gG (d + 1) mX8_comesOut 47 _ [] σ4 Q
    refine g_aload_n (pc2 := 48) dX8_comesOut_47 rfl rfl ?_
    refine g_geta (pc2 := 51) dX8_comesOut_48 fl_X8_38 gk_0 rfl rfl ?_
    refine g_aload_n (pc2 := 52) dX8_comesOut_51 rfl rfl ?_
    refine g_geta (pc2 := 55) dX8_comesOut_52 fl_X8_56 gk_0 rfl rfl ?_
    refine g_callV (M2 := mX7_agreeWith) (as := [.ref 44]) (st := []) (pc2 := 58) dX8_comesOut_55 ml_X8_406 mvX7_agreeWith gk_22 rfl rfl rfl (Nat.le_of_ble_eq_true rfl) (Nat.le_refl _) rfl (h.mono ?_)
    rintro _ σ5 ⟨r6, rfl, h⟩
    show gG (d + 1) mX8_comesOut 58 _ [.int r6] σ5 Q
    refine g_if_ne (tgt := 63) (pc2 := 61) dX8_comesOut_58 (by decide) rfl (fun c => ?_) (fun c => ?_)
    · have h := h.1 c
      refine g_iinc2 (c := 1) (pc2 := 66) dX8_comesOut_63 rfl (by decide) (by decide) rfl rfl ?_
      refine g_goto (tgt := 28) dX8_comesOut_66 (by decide) ?_
      exact g_lw (lv2 := [some (.ref 0), some (.int x1), none, none, some (.int x4), some (.int (x5 + 1))]) ⟨rfl, ⟨rfl, ⟨rfl, ⟨rfl, trivial⟩⟩⟩⟩ h
    · have h := h.2 c
      refine g_iconst (v := 0) (pc2 := 62) dX8_comesOut_61 (by decide) rfl ?_
      exact g_zret dX8_comesOut_62 rfl rfl h
set_option maxRecDepth 20000 in
theorem eX8_copy {d : Nat} {σ : gw_S} {Q : Option Value → gw_S → Prop} {x1 : Int32} {x2 : Int32} {x3 : Int32} {x4 : Int32} {x5 : Int32}   (h : gB d mX8_isWithin [.int x1, .int 4] σ (fun v σ1 => ∃ r2 : Int32, v = some (.int r2) ∧ (((r2 = 0) → (Q (some (.int (-2))) σ1)) ∧ ((¬ r2 = 0) → (gB d mX8_isWithin [.int x3, .int 4] σ1 (fun v σ3 => ∃ r4 : Int32, v = some (.int r4) ∧ (((¬ r4 = 0) → (vp_in x1 4 ∧ ((((σ3 32 x1.toNatClampNeg) = (-1)) → (gB d mX8_find [.ref 0, .int 1] σ3 (fun v σ5 => ∃ r6 : Int32, v = some (.int r6) ∧ (Q (some (.int r6)) σ5)))) ∧ ((¬ (σ3 32 x1.toNatClampNeg) = (-1)) → (vp_in x3 4 ∧ (((¬ (σ3 32 x3.toNatClampNeg) = (-1)) → (vp_in x1 4 ∧ (vp_in x3 4 ∧ ((((σ3 32 x1.toNatClampNeg) = (σ3 32 x3.toNatClampNeg)) → (gB d mX1_hasItems [.ref 26, .int x1, .int x2, .int x5] σ3 (fun v σ7 => ∃ r8 : Int32, v = some (.int r8) ∧ (((r8 = 0) → (gB d mX8_find [.ref 0, .int 2] σ7 (fun v σ9 => ∃ r10 : Int32, v = some (.int r10) ∧ (Q (some (.int r10)) σ9)))) ∧ ((¬ r8 = 0) → (gB d mX1_hasItems [.ref 26, .int x3, .int x4, .int x5] σ7 (fun v σ11 => ∃ r12 : Int32, v = some (.int r12) ∧ (((¬ r12 = 0) → (vp_in x1 4 ∧ ∃ q13, ([28, 29, 30, 31] : List Nat)[x1.toNatClampNeg]? = some q13 ∧ gw_k q13 = some (.inl (.int, 60)) ∧ (vp_in x3 4 ∧ ∃ q15, ([28, 29, 30, 31] : List Nat)[x3.toNatClampNeg]? = some q15 ∧ gw_k q15 = some (.inl (.int, 60)) ∧ ((¬ x2 < 0 ∧ ¬ x4 < 0 ∧ ¬ x5 < 0 ∧ x2.toNatClampNeg + x5.toNatClampNeg ≤ 60 ∧ x4.toNatClampNeg + x5.toNatClampNeg ≤ 60) ∧ (∀ s17 : gw_S, s17 = gw_cp σ11 q13 q15 x2.toNatClampNeg x4.toNatClampNeg x5.toNatClampNeg → (Q (some (.int 1)) s17)))))) ∧ ((r12 = 0) → (gB d mX8_find [.ref 0, .int 2] σ11 (fun v σ18 => ∃ r19 : Int32, v = some (.int r19) ∧ (Q (some (.int r19)) σ18)))))))))))) ∧ ((¬ (σ3 32 x1.toNatClampNeg) = (σ3 32 x3.toNatClampNeg)) → (gB d mX8_find [.ref 0, .int 4] σ3 (fun v σ20 => ∃ r21 : Int32, v = some (.int r21) ∧ (Q (some (.int r21)) σ20)))))))) ∧ (((σ3 32 x3.toNatClampNeg) = (-1)) → (gB d mX8_find [.ref 0, .int 1] σ3 (fun v σ22 => ∃ r23 : Int32, v = some (.int r23) ∧ (Q (some (.int r23)) σ22)))))))))) ∧ ((r4 = 0) → (Q (some (.int (-2))) σ3))))))))) : gB (d + 1) mX8_copy [.ref 0, .int x1, .int x2, .int x3, .int x4, .int x5] σ Q := by
  refine gB_of rfl (Nat.le_of_ble_eq_true rfl) (g_lw (lv2 := [some (.ref 0), some (.int x1), some (.int x2), some (.int x3), some (.int x4), some (.int x5)]) ⟨rfl, ⟨rfl, ⟨rfl, ⟨rfl, ⟨rfl, ⟨rfl, trivial⟩⟩⟩⟩⟩⟩ ?_)
  refine g_iload_n (pc2 := 1) dX8_copy_0 rfl rfl ?_
  refine g_iconst (v := 4) (pc2 := 2) dX8_copy_1 (by decide) rfl ?_
  refine g_callS (M2 := mX8_isWithin) (as := [.int x1, .int 4]) (st := []) (pc2 := 5) dX8_copy_2 ml_X8_81 msX8_isWithin rfl rfl (Nat.le_of_ble_eq_true rfl) (Nat.le_refl _) rfl (h.mono ?_)
  rintro _ σ1 ⟨r2, rfl, h⟩
  show gG (d + 1) mX8_copy 5 _ [.int r2] σ1 Q
  refine g_if_eq (tgt := 16) (pc2 := 8) dX8_copy_5 (by decide) rfl (fun c => ?_) (fun c => ?_)
  · have h := h.1 c
    refine g_bipush (v := (-2)) (pc2 := 18) dX8_copy_16 (by decide) rfl ?_
    exact g_iret dX8_copy_18 rfl h
  · have h := h.2 c
    refine g_iload_n (pc2 := 9) dX8_copy_8 rfl rfl ?_
    refine g_iconst (v := 4) (pc2 := 10) dX8_copy_9 (by decide) rfl ?_
    refine g_callS (M2 := mX8_isWithin) (as := [.int x3, .int 4]) (st := []) (pc2 := 13) dX8_copy_10 ml_X8_81 msX8_isWithin rfl rfl (Nat.le_of_ble_eq_true rfl) (Nat.le_refl _) rfl (h.mono ?_)
    rintro _ σ3 ⟨r4, rfl, h⟩
    show gG (d + 1) mX8_copy 13 _ [.int r4] σ3 Q
    refine g_if_ne (tgt := 19) (pc2 := 16) dX8_copy_13 (by decide) rfl (fun c => ?_) (fun c => ?_)
    · have h := h.1 c
      refine g_aload_n (pc2 := 20) dX8_copy_19 rfl rfl ?_
      refine g_geta (pc2 := 23) dX8_copy_20 fl_X8_45 gk_0 rfl rfl ?_
      refine g_geta (pc2 := 26) dX8_copy_23 fl_X8_169 gk_26 rfl rfl ?_
      refine g_iload_n (pc2 := 27) dX8_copy_26 rfl rfl ?_
      obtain ⟨hx, h⟩ := h
      refine g_iald (pc2 := 28) dX8_copy_27 gk_32 hx rfl ?_
      refine g_iconst (v := (-1)) (pc2 := 29) dX8_copy_28 (by decide) rfl ?_
      refine g_icmp_eq (tgt := 45) (pc2 := 32) dX8_copy_29 (by decide) rfl (fun c => ?_) (fun c => ?_)
      · have h := h.1 c
        refine g_aload_n (pc2 := 46) dX8_copy_45 rfl rfl ?_
        refine g_iconst (v := 1) (pc2 := 47) dX8_copy_46 (by decide) rfl ?_
        refine g_callV (M2 := mX8_find) (as := [.int 1]) (st := []) (pc2 := 50) dX8_copy_47 ml_X8_172 mvX8_find gk_0 rfl rfl rfl (Nat.le_of_ble_eq_true rfl) (Nat.le_refl _) rfl (h.mono ?_)
        rintro _ σ5 ⟨r6, rfl, h⟩
        show gG (d + 1) mX8_copy 50 _ [.int r6] σ5 Q
        exact g_iret dX8_copy_50 rfl h
      · have h := h.2 c
        refine g_aload_n (pc2 := 33) dX8_copy_32 rfl rfl ?_
        refine g_geta (pc2 := 36) dX8_copy_33 fl_X8_45 gk_0 rfl rfl ?_
        refine g_geta (pc2 := 39) dX8_copy_36 fl_X8_169 gk_26 rfl rfl ?_
        refine g_iload_n (pc2 := 40) dX8_copy_39 rfl rfl ?_
        obtain ⟨hx, h⟩ := h
        refine g_iald (pc2 := 41) dX8_copy_40 gk_32 hx rfl ?_
        refine g_iconst (v := (-1)) (pc2 := 42) dX8_copy_41 (by decide) rfl ?_
        refine g_icmp_ne (tgt := 51) (pc2 := 45) dX8_copy_42 (by decide) rfl (fun c => ?_) (fun c => ?_)
        · have h := h.1 c
          refine g_aload_n (pc2 := 52) dX8_copy_51 rfl rfl ?_
          refine g_geta (pc2 := 55) dX8_copy_52 fl_X8_45 gk_0 rfl rfl ?_
          refine g_geta (pc2 := 58) dX8_copy_55 fl_X8_169 gk_26 rfl rfl ?_
          refine g_iload_n (pc2 := 59) dX8_copy_58 rfl rfl ?_
          obtain ⟨hx, h⟩ := h
          refine g_iald (pc2 := 60) dX8_copy_59 gk_32 hx rfl ?_
          refine g_aload_n (pc2 := 61) dX8_copy_60 rfl rfl ?_
          refine g_geta (pc2 := 64) dX8_copy_61 fl_X8_45 gk_0 rfl rfl ?_
          refine g_geta (pc2 := 67) dX8_copy_64 fl_X8_169 gk_26 rfl rfl ?_
          refine g_iload_n (pc2 := 68) dX8_copy_67 rfl rfl ?_
          obtain ⟨hx, h⟩ := h
          refine g_iald (pc2 := 69) dX8_copy_68 gk_32 hx rfl ?_
          refine g_icmp_eq (tgt := 78) (pc2 := 72) dX8_copy_69 (by decide) rfl (fun c => ?_) (fun c => ?_)
          · have h := h.1 c
            refine g_aload_n (pc2 := 79) dX8_copy_78 rfl rfl ?_
            refine g_geta (pc2 := 82) dX8_copy_79 fl_X8_45 gk_0 rfl rfl ?_
            refine g_iload_n (pc2 := 83) dX8_copy_82 rfl rfl ?_
            refine g_iload_n (pc2 := 84) dX8_copy_83 rfl rfl ?_
            refine g_iload (pc2 := 86) dX8_copy_84 rfl rfl ?_
            refine g_callV (M2 := mX1_hasItems) (as := [.int x1, .int x2, .int x5]) (st := []) (pc2 := 89) dX8_copy_86 ml_X8_307 mvX1_hasItems gk_26 rfl rfl rfl (Nat.le_of_ble_eq_true rfl) (Nat.le_refl _) rfl (h.mono ?_)
            rintro _ σ7 ⟨r8, rfl, h⟩
            show gG (d + 1) mX8_copy 89 _ [.int r8] σ7 Q
            refine g_if_eq (tgt := 107) (pc2 := 92) dX8_copy_89 (by decide) rfl (fun c => ?_) (fun c => ?_)
            · have h := h.1 c
              refine g_aload_n (pc2 := 108) dX8_copy_107 rfl rfl ?_
              refine g_iconst (v := 2) (pc2 := 109) dX8_copy_108 (by decide) rfl ?_
              refine g_callV (M2 := mX8_find) (as := [.int 2]) (st := []) (pc2 := 112) dX8_copy_109 ml_X8_172 mvX8_find gk_0 rfl rfl rfl (Nat.le_of_ble_eq_true rfl) (Nat.le_refl _) rfl (h.mono ?_)
              rintro _ σ9 ⟨r10, rfl, h⟩
              show gG (d + 1) mX8_copy 112 _ [.int r10] σ9 Q
              exact g_iret dX8_copy_112 rfl h
            · have h := h.2 c
              refine g_aload_n (pc2 := 93) dX8_copy_92 rfl rfl ?_
              refine g_geta (pc2 := 96) dX8_copy_93 fl_X8_45 gk_0 rfl rfl ?_
              refine g_iload_n (pc2 := 97) dX8_copy_96 rfl rfl ?_
              refine g_iload (pc2 := 99) dX8_copy_97 rfl rfl ?_
              refine g_iload (pc2 := 101) dX8_copy_99 rfl rfl ?_
              refine g_callV (M2 := mX1_hasItems) (as := [.int x3, .int x4, .int x5]) (st := []) (pc2 := 104) dX8_copy_101 ml_X8_307 mvX1_hasItems gk_26 rfl rfl rfl (Nat.le_of_ble_eq_true rfl) (Nat.le_refl _) rfl (h.mono ?_)
              rintro _ σ11 ⟨r12, rfl, h⟩
              show gG (d + 1) mX8_copy 104 _ [.int r12] σ11 Q
              refine g_if_ne (tgt := 113) (pc2 := 107) dX8_copy_104 (by decide) rfl (fun c => ?_) (fun c => ?_)
              · have h := h.1 c
                refine g_aload_n (pc2 := 114) dX8_copy_113 rfl rfl ?_
                refine g_geta (pc2 := 117) dX8_copy_114 fl_X8_45 gk_0 rfl rfl ?_
                refine g_geta (pc2 := 120) dX8_copy_117 fl_X8_176 gk_26 rfl rfl ?_
                refine g_iload_n (pc2 := 121) dX8_copy_120 rfl rfl ?_
                obtain ⟨hx, q13, hy, hq14, h⟩ := h
                refine g_aald (pc2 := 122) dX8_copy_121 gk_27 rfl hx hy rfl ?_
                refine g_iload_n (pc2 := 123) dX8_copy_122 rfl rfl ?_
                refine g_aload_n (pc2 := 124) dX8_copy_123 rfl rfl ?_
                refine g_geta (pc2 := 127) dX8_copy_124 fl_X8_45 gk_0 rfl rfl ?_
                refine g_geta (pc2 := 130) dX8_copy_127 fl_X8_176 gk_26 rfl rfl ?_
                refine g_iload_n (pc2 := 131) dX8_copy_130 rfl rfl ?_
                obtain ⟨hx, q15, hy, hq16, h⟩ := h
                refine g_aald (pc2 := 132) dX8_copy_131 gk_27 rfl hx hy rfl ?_
                refine g_iload (pc2 := 134) dX8_copy_132 rfl rfl ?_
                refine g_iload (pc2 := 136) dX8_copy_134 rfl rfl ?_
                obtain ⟨⟨x1, x2, x3, x4, x5⟩, h⟩ := h
                refine g_copy2 (pc2 := 139) dX8_copy_136 ml_X8_310 cpw hq14 hq16 x1 x2 x3 x4 x5 (Nat.le_add_left 1 _) (Nat.le_of_ble_eq_true rfl) rfl (fun s17 es17 => ?_)
                replace h := h s17 es17
                refine g_iconst (v := 1) (pc2 := 140) dX8_copy_139 (by decide) rfl ?_
                exact g_iret dX8_copy_140 rfl h
              · have h := h.2 c
                refine g_aload_n (pc2 := 108) dX8_copy_107 rfl rfl ?_
                refine g_iconst (v := 2) (pc2 := 109) dX8_copy_108 (by decide) rfl ?_
                refine g_callV (M2 := mX8_find) (as := [.int 2]) (st := []) (pc2 := 112) dX8_copy_109 ml_X8_172 mvX8_find gk_0 rfl rfl rfl (Nat.le_of_ble_eq_true rfl) (Nat.le_refl _) rfl (h.mono ?_)
                rintro _ σ18 ⟨r19, rfl, h⟩
                show gG (d + 1) mX8_copy 112 _ [.int r19] σ18 Q
                exact g_iret dX8_copy_112 rfl h
          · have h := h.2 c
            refine g_aload_n (pc2 := 73) dX8_copy_72 rfl rfl ?_
            refine g_iconst (v := 4) (pc2 := 74) dX8_copy_73 (by decide) rfl ?_
            refine g_callV (M2 := mX8_find) (as := [.int 4]) (st := []) (pc2 := 77) dX8_copy_74 ml_X8_172 mvX8_find gk_0 rfl rfl rfl (Nat.le_of_ble_eq_true rfl) (Nat.le_refl _) rfl (h.mono ?_)
            rintro _ σ20 ⟨r21, rfl, h⟩
            show gG (d + 1) mX8_copy 77 _ [.int r21] σ20 Q
            exact g_iret dX8_copy_77 rfl h
        · have h := h.2 c
          refine g_aload_n (pc2 := 46) dX8_copy_45 rfl rfl ?_
          refine g_iconst (v := 1) (pc2 := 47) dX8_copy_46 (by decide) rfl ?_
          refine g_callV (M2 := mX8_find) (as := [.int 1]) (st := []) (pc2 := 50) dX8_copy_47 ml_X8_172 mvX8_find gk_0 rfl rfl rfl (Nat.le_of_ble_eq_true rfl) (Nat.le_refl _) rfl (h.mono ?_)
          rintro _ σ22 ⟨r23, rfl, h⟩
          show gG (d + 1) mX8_copy 50 _ [.int r23] σ22 Q
          exact g_iret dX8_copy_50 rfl h
    · have h := h.2 c
      refine g_bipush (v := (-2)) (pc2 := 18) dX8_copy_16 (by decide) rfl ?_
      exact g_iret dX8_copy_18 rfl h
set_option maxRecDepth 20000 in
theorem eX8_corkedAt {d : Nat} {σ : gw_S} {Q : Option Value → gw_S → Prop} {x1 : Int32}   (h : gG (d + 1) mX8_corkedAt 4 [some (.ref 0), some (.int x1), some (.int 0), some (.int 0)] [] σ Q) : gB (d + 1) mX8_corkedAt [.ref 0, .int x1] σ Q := by
  refine gB_of rfl (Nat.le_of_ble_eq_true rfl) (g_lw (lv2 := [some (.ref 0), some (.int x1), none, none]) ⟨rfl, ⟨rfl, trivial⟩⟩ ?_)
  refine g_iconst (v := 0) (pc2 := 1) dX8_corkedAt_0 (by decide) rfl ?_
  refine g_istore_n (pc2 := 2) dX8_corkedAt_1 (by decide) rfl rfl ?_
  refine g_iconst (v := 0) (pc2 := 3) dX8_corkedAt_2 (by decide) rfl ?_
  refine g_istore_n (pc2 := 4) dX8_corkedAt_3 (by decide) rfl rfl ?_
  exact g_lw (lv2 := [some (.ref 0), some (.int x1), some (.int 0), some (.int 0)]) ⟨rfl, ⟨rfl, ⟨rfl, ⟨rfl, trivial⟩⟩⟩⟩ h
set_option maxRecDepth 20000 in
theorem bX8_corkedAt_4 {d : Nat} {σ : gw_S} {Q : Option Value → gw_S → Prop} {x1 : Int32} {x2 : Int32} {x3 : Int32}   (h : ((8 ≤ x3) → (Q (some (.int (-1))) σ)) ∧ ((¬ 8 ≤ x3) → (gB d mX8_isAmong [.int (σ 0 12), .int x3] σ (fun v σ1 => ∃ r2 : Int32, v = some (.int r2) ∧ (((r2 = 0) → (gB d mX8_isAmong [.int (σ1 0 12), .int x3] σ1 (fun v σ3 => ∃ r4 : Int32, v = some (.int r4) ∧ (((r4 = 0) → (gG (d + 1) mX8_corkedAt 4 [some (.ref 0), some (.int x1), some (.int (x2 + 0)), some (.int (x3 + 1))] [] σ3 Q)) ∧ ((¬ r4 = 0) → (gG (d + 1) mX8_corkedAt 4 [some (.ref 0), some (.int x1), some (.int (x2 + 1)), some (.int (x3 + 1))] [] σ3 Q)))))) ∧ ((¬ r2 = 0) → (((¬ x2 = x1) → (gB d mX8_isAmong [.int (σ1 0 12), .int x3] σ1 (fun v σ5 => ∃ r6 : Int32, v = some (.int r6) ∧ (((r6 = 0) → (gG (d + 1) mX8_corkedAt 4 [some (.ref 0), some (.int x1), some (.int (x2 + 0)), some (.int (x3 + 1))] [] σ5 Q)) ∧ ((¬ r6 = 0) → (gG (d + 1) mX8_corkedAt 4 [some (.ref 0), some (.int x1), some (.int (x2 + 1)), some (.int (x3 + 1))] [] σ5 Q)))))) ∧ ((x2 = x1) → (Q (some (.int x3)) σ1))))))))) : gG (d + 1) mX8_corkedAt 4 [some (.ref 0), some (.int x1), some (.int x2), some (.int x3)] [] σ Q := by
  refine g_iload_n (pc2 := 5) dX8_corkedAt_4 rfl rfl ?_
  refine g_bipush (v := 8) (pc2 := 7) dX8_corkedAt_5 (by decide) rfl ?_
  refine g_icmp_ge (tgt := 53) (pc2 := 10) dX8_corkedAt_7 (by decide) rfl (fun c => ?_) (fun c => ?_)
  · have h := h.1 c
    refine g_iconst (v := (-1)) (pc2 := 54) dX8_corkedAt_53 (by decide) rfl ?_
    exact g_iret dX8_corkedAt_54 rfl h
  · have h := h.2 c
    refine g_aload_n (pc2 := 11) dX8_corkedAt_10 rfl rfl ?_
    refine g_geti (pc2 := 14) dX8_corkedAt_11 fl_X8_75 gk_0 rfl rfl ?_
    refine g_iload_n (pc2 := 15) dX8_corkedAt_14 rfl rfl ?_
    refine g_callS (M2 := mX8_isAmong) (as := [.int (σ 0 12), .int x3]) (st := []) (pc2 := 18) dX8_corkedAt_15 ml_X8_396 msX8_isAmong rfl rfl (Nat.le_of_ble_eq_true rfl) (Nat.le_refl _) rfl (h.mono ?_)
    rintro _ σ1 ⟨r2, rfl, h⟩
    show gG (d + 1) mX8_corkedAt 18 _ [.int r2] σ1 Q
    refine g_if_eq (tgt := 28) (pc2 := 21) dX8_corkedAt_18 (by decide) rfl (fun c => ?_) (fun c => ?_)
    · have h := h.1 c
      refine g_iload_n (pc2 := 29) dX8_corkedAt_28 rfl rfl ?_
      refine g_aload_n (pc2 := 30) dX8_corkedAt_29 rfl rfl ?_
      refine g_geti (pc2 := 33) dX8_corkedAt_30 fl_X8_75 gk_0 rfl rfl ?_
      refine g_iload_n (pc2 := 34) dX8_corkedAt_33 rfl rfl ?_
      refine g_callS (M2 := mX8_isAmong) (as := [.int (σ1 0 12), .int x3]) (st := [.int x2]) (pc2 := 37) dX8_corkedAt_34 ml_X8_396 msX8_isAmong rfl rfl (Nat.le_of_ble_eq_true rfl) (Nat.le_refl _) rfl (h.mono ?_)
      rintro _ σ3 ⟨r4, rfl, h⟩
      show gG (d + 1) mX8_corkedAt 37 _ [.int r4, .int x2] σ3 Q
      refine g_if_eq (tgt := 44) (pc2 := 40) dX8_corkedAt_37 (by decide) rfl (fun c => ?_) (fun c => ?_)
      · have h := h.1 c
        refine g_iconst (v := 0) (pc2 := 45) dX8_corkedAt_44 (by decide) rfl ?_
        refine g_iadd (pc2 := 46) dX8_corkedAt_45 rfl ?_
        refine g_istore_n (pc2 := 47) dX8_corkedAt_46 (by decide) rfl rfl ?_
        refine g_iinc2 (c := 1) (pc2 := 50) dX8_corkedAt_47 rfl (by decide) (by decide) rfl rfl ?_
        refine g_goto (tgt := 4) dX8_corkedAt_50 (by decide) ?_
        exact g_lw (lv2 := [some (.ref 0), some (.int x1), some (.int (x2 + 0)), some (.int (x3 + 1))]) ⟨rfl, ⟨rfl, ⟨rfl, ⟨rfl, trivial⟩⟩⟩⟩ h
      · have h := h.2 c
        refine g_iconst (v := 1) (pc2 := 41) dX8_corkedAt_40 (by decide) rfl ?_
        refine g_goto (tgt := 45) dX8_corkedAt_41 (by decide) ?_
        refine g_iadd (pc2 := 46) dX8_corkedAt_45 rfl ?_
        refine g_istore_n (pc2 := 47) dX8_corkedAt_46 (by decide) rfl rfl ?_
        refine g_iinc2 (c := 1) (pc2 := 50) dX8_corkedAt_47 rfl (by decide) (by decide) rfl rfl ?_
        refine g_goto (tgt := 4) dX8_corkedAt_50 (by decide) ?_
        exact g_lw (lv2 := [some (.ref 0), some (.int x1), some (.int (x2 + 1)), some (.int (x3 + 1))]) ⟨rfl, ⟨rfl, ⟨rfl, ⟨rfl, trivial⟩⟩⟩⟩ h
    · have h := h.2 c
      refine g_iload_n (pc2 := 22) dX8_corkedAt_21 rfl rfl ?_
      refine g_iload_n (pc2 := 23) dX8_corkedAt_22 rfl rfl ?_
      refine g_icmp_ne (tgt := 28) (pc2 := 26) dX8_corkedAt_23 (by decide) rfl (fun c => ?_) (fun c => ?_)
      · have h := h.1 c
        refine g_iload_n (pc2 := 29) dX8_corkedAt_28 rfl rfl ?_
        refine g_aload_n (pc2 := 30) dX8_corkedAt_29 rfl rfl ?_
        refine g_geti (pc2 := 33) dX8_corkedAt_30 fl_X8_75 gk_0 rfl rfl ?_
        refine g_iload_n (pc2 := 34) dX8_corkedAt_33 rfl rfl ?_
        refine g_callS (M2 := mX8_isAmong) (as := [.int (σ1 0 12), .int x3]) (st := [.int x2]) (pc2 := 37) dX8_corkedAt_34 ml_X8_396 msX8_isAmong rfl rfl (Nat.le_of_ble_eq_true rfl) (Nat.le_refl _) rfl (h.mono ?_)
        rintro _ σ5 ⟨r6, rfl, h⟩
        show gG (d + 1) mX8_corkedAt 37 _ [.int r6, .int x2] σ5 Q
        refine g_if_eq (tgt := 44) (pc2 := 40) dX8_corkedAt_37 (by decide) rfl (fun c => ?_) (fun c => ?_)
        · have h := h.1 c
          refine g_iconst (v := 0) (pc2 := 45) dX8_corkedAt_44 (by decide) rfl ?_
          refine g_iadd (pc2 := 46) dX8_corkedAt_45 rfl ?_
          refine g_istore_n (pc2 := 47) dX8_corkedAt_46 (by decide) rfl rfl ?_
          refine g_iinc2 (c := 1) (pc2 := 50) dX8_corkedAt_47 rfl (by decide) (by decide) rfl rfl ?_
          refine g_goto (tgt := 4) dX8_corkedAt_50 (by decide) ?_
          exact g_lw (lv2 := [some (.ref 0), some (.int x1), some (.int (x2 + 0)), some (.int (x3 + 1))]) ⟨rfl, ⟨rfl, ⟨rfl, ⟨rfl, trivial⟩⟩⟩⟩ h
        · have h := h.2 c
          refine g_iconst (v := 1) (pc2 := 41) dX8_corkedAt_40 (by decide) rfl ?_
          refine g_goto (tgt := 45) dX8_corkedAt_41 (by decide) ?_
          refine g_iadd (pc2 := 46) dX8_corkedAt_45 rfl ?_
          refine g_istore_n (pc2 := 47) dX8_corkedAt_46 (by decide) rfl rfl ?_
          refine g_iinc2 (c := 1) (pc2 := 50) dX8_corkedAt_47 rfl (by decide) (by decide) rfl rfl ?_
          refine g_goto (tgt := 4) dX8_corkedAt_50 (by decide) ?_
          exact g_lw (lv2 := [some (.ref 0), some (.int x1), some (.int (x2 + 1)), some (.int (x3 + 1))]) ⟨rfl, ⟨rfl, ⟨rfl, ⟨rfl, trivial⟩⟩⟩⟩ h
      · have h := h.2 c
        refine g_iload_n (pc2 := 27) dX8_corkedAt_26 rfl rfl ?_
        exact g_iret dX8_corkedAt_27 rfl h
set_option maxRecDepth 20000 in
theorem eX8_corks {d : Nat} {σ : gw_S} {Q : Option Value → gw_S → Prop} {x1 : Int32} {x2 : Int32}   (h : gB d mX8_isWithin [.int x1, .int 40] σ (fun v σ1 => ∃ r2 : Int32, v = some (.int r2) ∧ (((r2 = 0) → (Q (some (.int (-2))) σ1)) ∧ ((¬ r2 = 0) → (((x2 = (-1)) → (gG (d + 1) mX8_corks 25 [some (.ref 0), some (.int x1), some (.int x2)] [] σ1 Q)) ∧ ((¬ x2 = (-1)) → (gB d mX8_isWithin [.int x2, .int 3] σ1 (fun v σ3 => ∃ r4 : Int32, v = some (.int r4) ∧ (((¬ r4 = 0) → (gG (d + 1) mX8_corks 25 [some (.ref 0), some (.int x1), some (.int x2)] [] σ3 Q)) ∧ ((r4 = 0) → (Q (some (.int (-2))) σ3))))))))))) : gB (d + 1) mX8_corks [.ref 0, .int x1, .int x2] σ Q := by
  refine gB_of rfl (Nat.le_of_ble_eq_true rfl) (g_lw (lv2 := [some (.ref 0), some (.int x1), some (.int x2)]) ⟨rfl, ⟨rfl, ⟨rfl, trivial⟩⟩⟩ ?_)
  refine g_iload_n (pc2 := 1) dX8_corks_0 rfl rfl ?_
  refine g_bipush (v := 40) (pc2 := 3) dX8_corks_1 (by decide) rfl ?_
  refine g_callS (M2 := mX8_isWithin) (as := [.int x1, .int 40]) (st := []) (pc2 := 6) dX8_corks_3 ml_X8_81 msX8_isWithin rfl rfl (Nat.le_of_ble_eq_true rfl) (Nat.le_refl _) rfl (h.mono ?_)
  rintro _ σ1 ⟨r2, rfl, h⟩
  show gG (d + 1) mX8_corks 6 _ [.int r2] σ1 Q
  refine g_if_eq (tgt := 22) (pc2 := 9) dX8_corks_6 (by decide) rfl (fun c => ?_) (fun c => ?_)
  · have h := h.1 c
    refine g_bipush (v := (-2)) (pc2 := 24) dX8_corks_22 (by decide) rfl ?_
    exact g_iret dX8_corks_24 rfl h
  · have h := h.2 c
    refine g_iload_n (pc2 := 10) dX8_corks_9 rfl rfl ?_
    refine g_iconst (v := (-1)) (pc2 := 11) dX8_corks_10 (by decide) rfl ?_
    refine g_icmp_eq (tgt := 25) (pc2 := 14) dX8_corks_11 (by decide) rfl (fun c => ?_) (fun c => ?_)
    · have h := h.1 c
      exact g_lw (lv2 := [some (.ref 0), some (.int x1), some (.int x2)]) ⟨rfl, ⟨rfl, ⟨rfl, trivial⟩⟩⟩ h
    · have h := h.2 c
      refine g_iload_n (pc2 := 15) dX8_corks_14 rfl rfl ?_
      refine g_iconst (v := 3) (pc2 := 16) dX8_corks_15 (by decide) rfl ?_
      refine g_callS (M2 := mX8_isWithin) (as := [.int x2, .int 3]) (st := []) (pc2 := 19) dX8_corks_16 ml_X8_81 msX8_isWithin rfl rfl (Nat.le_of_ble_eq_true rfl) (Nat.le_refl _) rfl (h.mono ?_)
      rintro _ σ3 ⟨r4, rfl, h⟩
      show gG (d + 1) mX8_corks 19 _ [.int r4] σ3 Q
      refine g_if_ne (tgt := 25) (pc2 := 22) dX8_corks_19 (by decide) rfl (fun c => ?_) (fun c => ?_)
      · have h := h.1 c
        exact g_lw (lv2 := [some (.ref 0), some (.int x1), some (.int x2)]) ⟨rfl, ⟨rfl, ⟨rfl, trivial⟩⟩⟩ h
      · have h := h.2 c
        refine g_bipush (v := (-2)) (pc2 := 24) dX8_corks_22 (by decide) rfl ?_
        exact g_iret dX8_corks_24 rfl h
set_option maxRecDepth 20000 in
theorem bX8_corks_25 {d : Nat} {σ : gw_S} {Q : Option Value → gw_S → Prop} {x1 : Int32} {x2 : Int32}   (h : (((σ 0 11) = x1) → (((¬ (σ 0 12) = (-1)) → (((¬ x2 = (-1)) → (gB d mX8_corkedAt [.ref 0, .int x2] σ (fun v σ5 => ∃ r6 : Int32, v = some (.int r6) ∧ (Q (some (.int r6)) σ5)))) ∧ ((x2 = (-1)) → (gB d mJ6_bitCount_0f7a4 [.int (σ 0 12)] σ (fun v σ7 => ∃ r8 : Int32, v = some (.int r8) ∧ (Q (some (.int r8)) σ7)))))) ∧ (((σ 0 12) = (-1)) → (Q (some (.int (-1))) σ)))) ∧ ((¬ (σ 0 11) = x1) → (gB d mX8_seekCorks [.ref 0, .int x1] σ (fun v σ9 => ∃ r10 : Int32, v = some (.int r10) ∧ (∀ s11 : gw_S, s11 = gw_u σ9 0 12 r10 → (∀ s12 : gw_S, s12 = gw_u s11 0 11 x1 → (((¬ (s12 0 12) = (-1)) → (((¬ x2 = (-1)) → (gB d mX8_corkedAt [.ref 0, .int x2] s12 (fun v σ13 => ∃ r14 : Int32, v = some (.int r14) ∧ (Q (some (.int r14)) σ13)))) ∧ ((x2 = (-1)) → (gB d mJ6_bitCount_0f7a4 [.int (s12 0 12)] s12 (fun v σ15 => ∃ r16 : Int32, v = some (.int r16) ∧ (Q (some (.int r16)) σ15)))))) ∧ (((s12 0 12) = (-1)) → (Q (some (.int (-1))) s12))))))))) : gG (d + 1) mX8_corks 25 [some (.ref 0), some (.int x1), some (.int x2)] [] σ Q := by
  refine g_aload_n (pc2 := 26) dX8_corks_25 rfl rfl ?_
  refine g_geti (pc2 := 29) dX8_corks_26 fl_X8_71 gk_0 rfl rfl ?_
  refine g_iload_n (pc2 := 30) dX8_corks_29 rfl rfl ?_
  refine g_icmp_eq (tgt := 47) (pc2 := 33) dX8_corks_30 (by decide) rfl (fun c => ?_) (fun c => ?_)
  · have h := h.1 c
    refine g_aload_n (pc2 := 48) dX8_corks_47 rfl rfl ?_
    refine g_geti (pc2 := 51) dX8_corks_48 fl_X8_75 gk_0 rfl rfl ?_
    refine g_iconst (v := (-1)) (pc2 := 52) dX8_corks_51 (by decide) rfl ?_
    refine g_icmp_ne (tgt := 57) (pc2 := 55) dX8_corks_52 (by decide) rfl (fun c => ?_) (fun c => ?_)
    · have h := h.1 c
      refine g_iload_n (pc2 := 58) dX8_corks_57 rfl rfl ?_
      refine g_iconst (v := (-1)) (pc2 := 59) dX8_corks_58 (by decide) rfl ?_
      refine g_icmp_ne (tgt := 72) (pc2 := 62) dX8_corks_59 (by decide) rfl (fun c => ?_) (fun c => ?_)
      · have h := h.1 c
        refine g_aload_n (pc2 := 73) dX8_corks_72 rfl rfl ?_
        refine g_iload_n (pc2 := 74) dX8_corks_73 rfl rfl ?_
        refine g_callV (M2 := mX8_corkedAt) (as := [.int x2]) (st := []) (pc2 := 77) dX8_corks_74 ml_X8_239 mvX8_corkedAt gk_0 rfl rfl rfl (Nat.le_of_ble_eq_true rfl) (Nat.le_refl _) rfl (h.mono ?_)
        rintro _ σ5 ⟨r6, rfl, h⟩
        show gG (d + 1) mX8_corks 77 _ [.int r6] σ5 Q
        exact g_iret dX8_corks_77 rfl h
      · have h := h.2 c
        refine g_aload_n (pc2 := 63) dX8_corks_62 rfl rfl ?_
        refine g_geti (pc2 := 66) dX8_corks_63 fl_X8_75 gk_0 rfl rfl ?_
        refine g_callS (M2 := mJ6_bitCount_0f7a4) (as := [.int (σ 0 12)]) (st := []) (pc2 := 69) dX8_corks_66 ml_X8_234 msJ6_bitCount_0f7a4 rfl rfl (Nat.le_of_ble_eq_true rfl) (Nat.le_refl _) rfl (h.mono ?_)
        rintro _ σ7 ⟨r8, rfl, h⟩
        show gG (d + 1) mX8_corks 69 _ [.int r8] σ7 Q
        refine g_goto (tgt := 77) dX8_corks_69 (by decide) ?_
        exact g_iret dX8_corks_77 rfl h
    · have h := h.2 c
      refine g_iconst (v := (-1)) (pc2 := 56) dX8_corks_55 (by decide) rfl ?_
      exact g_iret dX8_corks_56 rfl h
  · have h := h.2 c
    refine g_aload_n (pc2 := 34) dX8_corks_33 rfl rfl ?_
    refine g_aload_n (pc2 := 35) dX8_corks_34 rfl rfl ?_
    refine g_iload_n (pc2 := 36) dX8_corks_35 rfl rfl ?_
    refine g_callV (M2 := mX8_seekCorks) (as := [.int x1]) (st := [.ref 0]) (pc2 := 39) dX8_corks_36 ml_X8_231 mvX8_seekCorks gk_0 rfl rfl rfl (Nat.le_of_ble_eq_true rfl) (Nat.le_refl _) rfl (h.mono ?_)
    rintro _ σ9 ⟨r10, rfl, h⟩
    show gG (d + 1) mX8_corks 39 _ [.int r10, .ref 0] σ9 Q
    refine g_put2 (pc2 := 42) dX8_corks_39 fp_X8_75 gk_0 rfl rfl rfl rfl (fun s11 es11 => ?_)
    replace h := h s11 es11
    refine g_aload_n (pc2 := 43) dX8_corks_42 rfl rfl ?_
    refine g_iload_n (pc2 := 44) dX8_corks_43 rfl rfl ?_
    refine g_put2 (pc2 := 47) dX8_corks_44 fp_X8_71 gk_0 rfl rfl rfl rfl (fun s12 es12 => ?_)
    replace h := h s12 es12
    refine g_aload_n (pc2 := 48) dX8_corks_47 rfl rfl ?_
    refine g_geti (pc2 := 51) dX8_corks_48 fl_X8_75 gk_0 rfl rfl ?_
    refine g_iconst (v := (-1)) (pc2 := 52) dX8_corks_51 (by decide) rfl ?_
    refine g_icmp_ne (tgt := 57) (pc2 := 55) dX8_corks_52 (by decide) rfl (fun c => ?_) (fun c => ?_)
    · have h := h.1 c
      refine g_iload_n (pc2 := 58) dX8_corks_57 rfl rfl ?_
      refine g_iconst (v := (-1)) (pc2 := 59) dX8_corks_58 (by decide) rfl ?_
      refine g_icmp_ne (tgt := 72) (pc2 := 62) dX8_corks_59 (by decide) rfl (fun c => ?_) (fun c => ?_)
      · have h := h.1 c
        refine g_aload_n (pc2 := 73) dX8_corks_72 rfl rfl ?_
        refine g_iload_n (pc2 := 74) dX8_corks_73 rfl rfl ?_
        refine g_callV (M2 := mX8_corkedAt) (as := [.int x2]) (st := []) (pc2 := 77) dX8_corks_74 ml_X8_239 mvX8_corkedAt gk_0 rfl rfl rfl (Nat.le_of_ble_eq_true rfl) (Nat.le_refl _) rfl (h.mono ?_)
        rintro _ σ13 ⟨r14, rfl, h⟩
        show gG (d + 1) mX8_corks 77 _ [.int r14] σ13 Q
        exact g_iret dX8_corks_77 rfl h
      · have h := h.2 c
        refine g_aload_n (pc2 := 63) dX8_corks_62 rfl rfl ?_
        refine g_geti (pc2 := 66) dX8_corks_63 fl_X8_75 gk_0 rfl rfl ?_
        refine g_callS (M2 := mJ6_bitCount_0f7a4) (as := [.int (s12 0 12)]) (st := []) (pc2 := 69) dX8_corks_66 ml_X8_234 msJ6_bitCount_0f7a4 rfl rfl (Nat.le_of_ble_eq_true rfl) (Nat.le_refl _) rfl (h.mono ?_)
        rintro _ σ15 ⟨r16, rfl, h⟩
        show gG (d + 1) mX8_corks 69 _ [.int r16] σ15 Q
        refine g_goto (tgt := 77) dX8_corks_69 (by decide) ?_
        exact g_iret dX8_corks_77 rfl h
    · have h := h.2 c
      refine g_iconst (v := (-1)) (pc2 := 56) dX8_corks_55 (by decide) rfl ?_
      exact g_iret dX8_corks_56 rfl h
set_option maxRecDepth 20000 in
theorem eX8_count {d : Nat} {σ : gw_S} {Q : Option Value → gw_S → Prop} {x1 : Int32}   (h : (x1 = 0 → (Q (some (.int (σ 7 4))) σ)) ∧ (x1 = 1 → (Q (some (.int (σ 17 4))) σ)) ∧ (x1 = 2 → (Q (some (.int (σ 2 2))) σ)) ∧ (x1 = 3 → (Q (some (.int (σ 4 2))) σ)) ∧ (x1 = 4 → (Q (some (.int (σ 11 4))) σ)) ∧ (x1 = 5 → (gB d mX8_behind [.ref 0, .int 39] σ (fun v σ1 => v = some (.ref 36) ∧ (gB d mJ6_bitCount_0f7a4 [.int (σ1 36 11)] σ1 (fun v σ2 => ∃ r3 : Int32, v = some (.int r3) ∧ (Q (some (.int r3)) σ2)))))) ∧ (x1 = 6 → (Q (some (.int (σ 6 3))) σ)) ∧ (x1 = 7 → (Q (some (.int (σ 22 3))) σ)) ∧ (x1 = 8 → (Q (some (.int (σ 0 13))) σ)) ∧ (¬ x1 = 0 → ¬ x1 = 1 → ¬ x1 = 2 → ¬ x1 = 3 → ¬ x1 = 4 → ¬ x1 = 5 → ¬ x1 = 6 → ¬ x1 = 7 → ¬ x1 = 8 → (Q (some (.int (-2))) σ))) : gB (d + 1) mX8_count [.ref 0, .int x1] σ Q := by
  refine gB_of rfl (Nat.le_of_ble_eq_true rfl) (g_lw (lv2 := [some (.ref 0), some (.int x1)]) ⟨rfl, ⟨rfl, trivial⟩⟩ ?_)
  refine g_iload_n (pc2 := 1) dX8_count_0 rfl rfl ?_
  by_cases c0 : x1 = 0
  · have h := h.1 c0
    refine g_tabIn (x := x1) (tgt := 52) dX8_count_1 (by rw [c0]; decide) (by rw [c0]; decide) (by rw [c0]; rfl) (by decide) ?_
    refine g_aload_n (pc2 := 53) dX8_count_52 rfl rfl ?_
    refine g_geta (pc2 := 56) dX8_count_53 fl_X8_24 gk_0 rfl rfl ?_
    refine g_geta (pc2 := 59) dX8_count_56 fl_X8_112 gk_6 rfl rfl ?_
    refine g_geti (pc2 := 62) dX8_count_59 fl_X8_242 gk_7 rfl rfl ?_
    exact g_iret dX8_count_62 rfl h
  replace h := h.2
  by_cases c1 : x1 = 1
  · have h := h.1 c1
    refine g_tabIn (x := x1) (tgt := 63) dX8_count_1 (by rw [c1]; decide) (by rw [c1]; decide) (by rw [c1]; rfl) (by decide) ?_
    refine g_aload_n (pc2 := 64) dX8_count_63 rfl rfl ?_
    refine g_geta (pc2 := 67) dX8_count_64 fl_X8_31 gk_0 rfl rfl ?_
    refine g_geti (pc2 := 70) dX8_count_67 fl_X8_130 gk_17 rfl rfl ?_
    exact g_iret dX8_count_70 rfl h
  replace h := h.2
  by_cases c2 : x1 = 2
  · have h := h.1 c2
    refine g_tabIn (x := x1) (tgt := 71) dX8_count_1 (by rw [c2]; decide) (by rw [c2]; decide) (by rw [c2]; rfl) (by decide) ?_
    refine g_aload_n (pc2 := 72) dX8_count_71 rfl rfl ?_
    refine g_geta (pc2 := 75) dX8_count_72 fl_X8_14 gk_0 rfl rfl ?_
    refine g_geti (pc2 := 78) dX8_count_75 fl_X8_89 gk_2 rfl rfl ?_
    exact g_iret dX8_count_78 rfl h
  replace h := h.2
  by_cases c3 : x1 = 3
  · have h := h.1 c3
    refine g_tabIn (x := x1) (tgt := 79) dX8_count_1 (by rw [c3]; decide) (by rw [c3]; decide) (by rw [c3]; rfl) (by decide) ?_
    refine g_aload_n (pc2 := 80) dX8_count_79 rfl rfl ?_
    refine g_geta (pc2 := 83) dX8_count_80 fl_X8_18 gk_0 rfl rfl ?_
    refine g_geti (pc2 := 86) dX8_count_83 fl_X8_89 gk_4 rfl rfl ?_
    exact g_iret dX8_count_86 rfl h
  replace h := h.2
  by_cases c4 : x1 = 4
  · have h := h.1 c4
    refine g_tabIn (x := x1) (tgt := 87) dX8_count_1 (by rw [c4]; decide) (by rw [c4]; decide) (by rw [c4]; rfl) (by decide) ?_
    refine g_aload_n (pc2 := 88) dX8_count_87 rfl rfl ?_
    refine g_geta (pc2 := 91) dX8_count_88 fl_X8_24 gk_0 rfl rfl ?_
    refine g_geta (pc2 := 94) dX8_count_91 fl_X8_150 gk_6 rfl rfl ?_
    refine g_geti (pc2 := 97) dX8_count_94 fl_X8_154 gk_11 rfl rfl ?_
    exact g_iret dX8_count_97 rfl h
  replace h := h.2
  by_cases c5 : x1 = 5
  · have h := h.1 c5
    refine g_tabIn (x := x1) (tgt := 98) dX8_count_1 (by rw [c5]; decide) (by rw [c5]; decide) (by rw [c5]; rfl) (by decide) ?_
    refine g_aload_n (pc2 := 99) dX8_count_98 rfl rfl ?_
    refine g_bipush (v := 39) (pc2 := 101) dX8_count_99 (by decide) rfl ?_
    refine g_callV (M2 := mX8_behind) (as := [.int 39]) (st := []) (pc2 := 104) dX8_count_101 ml_X8_186 mvX8_behind gk_0 rfl rfl rfl (Nat.le_of_ble_eq_true rfl) (Nat.le_refl _) rfl (h.mono ?_)
    rintro _ σ1 ⟨rfl, h⟩
    show gG (d + 1) mX8_count 104 _ [.ref 36] σ1 Q
    refine g_geti (pc2 := 107) dX8_count_104 fl_X8_218 gk_36 rfl rfl ?_
    refine g_callS (M2 := mJ6_bitCount_0f7a4) (as := [.int (σ1 36 11)]) (st := []) (pc2 := 110) dX8_count_107 ml_X8_234 msJ6_bitCount_0f7a4 rfl rfl (Nat.le_of_ble_eq_true rfl) (Nat.le_refl _) rfl (h.mono ?_)
    rintro _ σ2 ⟨r3, rfl, h⟩
    show gG (d + 1) mX8_count 110 _ [.int r3] σ2 Q
    exact g_iret dX8_count_110 rfl h
  replace h := h.2
  by_cases c6 : x1 = 6
  · have h := h.1 c6
    refine g_tabIn (x := x1) (tgt := 111) dX8_count_1 (by rw [c6]; decide) (by rw [c6]; decide) (by rw [c6]; rfl) (by decide) ?_
    refine g_aload_n (pc2 := 112) dX8_count_111 rfl rfl ?_
    refine g_geta (pc2 := 115) dX8_count_112 fl_X8_24 gk_0 rfl rfl ?_
    refine g_geti (pc2 := 118) dX8_count_115 fl_X8_140 gk_6 rfl rfl ?_
    exact g_iret dX8_count_118 rfl h
  replace h := h.2
  by_cases c7 : x1 = 7
  · have h := h.1 c7
    refine g_tabIn (x := x1) (tgt := 119) dX8_count_1 (by rw [c7]; decide) (by rw [c7]; decide) (by rw [c7]; rfl) (by decide) ?_
    refine g_aload_n (pc2 := 120) dX8_count_119 rfl rfl ?_
    refine g_geta (pc2 := 123) dX8_count_120 fl_X8_38 gk_0 rfl rfl ?_
    refine g_geti (pc2 := 126) dX8_count_123 fl_X8_243 gk_22 rfl rfl ?_
    exact g_iret dX8_count_126 rfl h
  replace h := h.2
  by_cases c8 : x1 = 8
  · have h := h.1 c8
    refine g_tabIn (x := x1) (tgt := 127) dX8_count_1 (by rw [c8]; decide) (by rw [c8]; decide) (by rw [c8]; rfl) (by decide) ?_
    refine g_aload_n (pc2 := 128) dX8_count_127 rfl rfl ?_
    refine g_geti (pc2 := 131) dX8_count_128 fl_X8_78 gk_0 rfl rfl ?_
    exact g_iret dX8_count_131 rfl h
  replace h := h.2
  refine g_tabOut (x := x1) (tgt := 132) dX8_count_1 (gw_out (fun e => gw_sw9 e c0 c1 c2 c3 c4 c5 c6 c7 c8)) (by decide) ?_
  replace h := h c0 c1 c2 c3 c4 c5 c6 c7 c8
  refine g_bipush (v := (-2)) (pc2 := 134) dX8_count_132 (by decide) rfl ?_
  exact g_iret dX8_count_134 rfl h
set_option maxRecDepth 20000 in
theorem eX8_digest {d : Nat} {σ : gw_S} {Q : Option Value → gw_S → Prop}    (h : gG (d + 1) mX8_digest 6 [some (.ref 0), some (.long 17), none, some (.int 0), none] [] σ Q) : gB (d + 1) mX8_digest [.ref 0] σ Q := by
  refine gB_of rfl (Nat.le_of_ble_eq_true rfl) (g_lw (lv2 := [some (.ref 0), none, none, none, none]) ⟨rfl, trivial⟩ ?_)
  refine g_ldc2 (pc2 := 3) dX8_digest_0 cl_X8_316 rfl ?_
  refine g_lstore_n (pc2 := 4) dX8_digest_3 (by decide) rfl rfl ?_
  refine g_iconst (v := 0) (pc2 := 5) dX8_digest_4 (by decide) rfl ?_
  refine g_istore_n (pc2 := 6) dX8_digest_5 (by decide) rfl rfl ?_
  exact g_lw (lv2 := [some (.ref 0), some (.long 17), none, some (.int 0), none]) ⟨rfl, ⟨rfl, ⟨rfl, trivial⟩⟩⟩ h
set_option maxRecDepth 20000 in
theorem bX8_digest_6 {d : Nat} {σ : gw_S} {Q : Option Value → gw_S → Prop} {x1 : Int64} {x3 : Int32}   (h : ((7 < x3) → (gG (d + 1) mX8_digest 33 [some (.ref 0), some (.long x1), none, some (.int 0), none] [] σ Q)) ∧ ((¬ 7 < x3) → (gB d mX8_count [.ref 0, .int x3] σ (fun v σ1 => ∃ r2 : Int32, v = some (.int r2) ∧ (gG (d + 1) mX8_digest 6 [some (.ref 0), some (.long ((31 * x1) + r2.toInt64)), none, some (.int (x3 + 1)), none] [] σ1 Q))))) : gG (d + 1) mX8_digest 6 [some (.ref 0), some (.long x1), none, some (.int x3), none] [] σ Q := by
  refine g_iload_n (pc2 := 7) dX8_digest_6 rfl rfl ?_
  refine g_bipush (v := 7) (pc2 := 9) dX8_digest_7 (by decide) rfl ?_
  refine g_icmp_gt (tgt := 31) (pc2 := 12) dX8_digest_9 (by decide) rfl (fun c => ?_) (fun c => ?_)
  · have h := h.1 c
    refine g_iconst (v := 0) (pc2 := 32) dX8_digest_31 (by decide) rfl ?_
    refine g_istore_n (pc2 := 33) dX8_digest_32 (by decide) rfl rfl ?_
    exact g_lw (lv2 := [some (.ref 0), some (.long x1), none, some (.int 0), none]) ⟨rfl, ⟨rfl, ⟨rfl, trivial⟩⟩⟩ h
  · have h := h.2 c
    refine g_ldc2 (pc2 := 15) dX8_digest_12 cl_X8_318 rfl ?_
    refine g_lload_n (pc2 := 16) dX8_digest_15 rfl rfl ?_
    refine g_lmul (pc2 := 17) dX8_digest_16 rfl ?_
    refine g_aload_n (pc2 := 18) dX8_digest_17 rfl rfl ?_
    refine g_iload_n (pc2 := 19) dX8_digest_18 rfl rfl ?_
    refine g_callV (M2 := mX8_count) (as := [.int x3]) (st := [.long (31 * x1)]) (pc2 := 22) dX8_digest_19 ml_X8_320 mvX8_count gk_0 rfl rfl rfl (Nat.le_of_ble_eq_true rfl) (Nat.le_refl _) rfl (h.mono ?_)
    rintro _ σ1 ⟨r2, rfl, h⟩
    show gG (d + 1) mX8_digest 22 _ [.int r2, .long (31 * x1)] σ1 Q
    refine g_i2l (pc2 := 23) dX8_digest_22 rfl ?_
    refine g_ladd (pc2 := 24) dX8_digest_23 rfl ?_
    refine g_lstore_n (pc2 := 25) dX8_digest_24 (by decide) rfl rfl ?_
    refine g_iinc2 (c := 1) (pc2 := 28) dX8_digest_25 rfl (by decide) (by decide) rfl rfl ?_
    refine g_goto (tgt := 6) dX8_digest_28 (by decide) ?_
    exact g_lw (lv2 := [some (.ref 0), some (.long ((31 * x1) + r2.toInt64)), none, some (.int (x3 + 1)), none]) ⟨rfl, ⟨rfl, ⟨rfl, trivial⟩⟩⟩ h
set_option maxRecDepth 20000 in
theorem bX8_digest_33 {d : Nat} {σ : gw_S} {Q : Option Value → gw_S → Prop} {x1 : Int64} {x3 : Int32}   (h : ((2 ≤ x3) → (gG (d + 1) mX8_digest 59 [some (.ref 0), some (.long x1), none, some (.int 0), none] [] σ Q)) ∧ ((¬ 2 ≤ x3) → (gB d mX8_fault [.ref 0, .int x3] σ (fun v σ3 => ∃ r4 : Int32, v = some (.int r4) ∧ (gG (d + 1) mX8_digest 33 [some (.ref 0), some (.long ((31 * x1) + r4.toInt64)), none, some (.int (x3 + 1)), none] [] σ3 Q))))) : gG (d + 1) mX8_digest 33 [some (.ref 0), some (.long x1), none, some (.int x3), none] [] σ Q := by
  refine g_iload_n (pc2 := 34) dX8_digest_33 rfl rfl ?_
  refine g_iconst (v := 2) (pc2 := 35) dX8_digest_34 (by decide) rfl ?_
  refine g_icmp_ge (tgt := 57) (pc2 := 38) dX8_digest_35 (by decide) rfl (fun c => ?_) (fun c => ?_)
  · have h := h.1 c
    refine g_iconst (v := 0) (pc2 := 58) dX8_digest_57 (by decide) rfl ?_
    refine g_istore_n (pc2 := 59) dX8_digest_58 (by decide) rfl rfl ?_
    exact g_lw (lv2 := [some (.ref 0), some (.long x1), none, some (.int 0), none]) ⟨rfl, ⟨rfl, ⟨rfl, trivial⟩⟩⟩ h
  · have h := h.2 c
    refine g_ldc2 (pc2 := 41) dX8_digest_38 cl_X8_318 rfl ?_
    refine g_lload_n (pc2 := 42) dX8_digest_41 rfl rfl ?_
    refine g_lmul (pc2 := 43) dX8_digest_42 rfl ?_
    refine g_aload_n (pc2 := 44) dX8_digest_43 rfl rfl ?_
    refine g_iload_n (pc2 := 45) dX8_digest_44 rfl rfl ?_
    refine g_callV (M2 := mX8_fault) (as := [.int x3]) (st := [.long (31 * x1)]) (pc2 := 48) dX8_digest_45 ml_X8_323 mvX8_fault gk_0 rfl rfl rfl (Nat.le_of_ble_eq_true rfl) (Nat.le_refl _) rfl (h.mono ?_)
    rintro _ σ3 ⟨r4, rfl, h⟩
    show gG (d + 1) mX8_digest 48 _ [.int r4, .long (31 * x1)] σ3 Q
    refine g_i2l (pc2 := 49) dX8_digest_48 rfl ?_
    refine g_ladd (pc2 := 50) dX8_digest_49 rfl ?_
    refine g_lstore_n (pc2 := 51) dX8_digest_50 (by decide) rfl rfl ?_
    refine g_iinc2 (c := 1) (pc2 := 54) dX8_digest_51 rfl (by decide) (by decide) rfl rfl ?_
    refine g_goto (tgt := 33) dX8_digest_54 (by decide) ?_
    exact g_lw (lv2 := [some (.ref 0), some (.long ((31 * x1) + r4.toInt64)), none, some (.int (x3 + 1)), none]) ⟨rfl, ⟨rfl, ⟨rfl, trivial⟩⟩⟩ h
set_option maxRecDepth 20000 in
theorem bX8_digest_59 {d : Nat} {σ : gw_S} {Q : Option Value → gw_S → Prop} {x1 : Int64} {x3 : Int32}   (h : (((σ 7 4) ≤ x3) → (gG (d + 1) mX8_digest 88 [some (.ref 0), some (.long x1), none, some (.int 0), none] [] σ Q)) ∧ ((¬ (σ 7 4) ≤ x3) → (gB d mX8_mixBottle [.ref 0, .long x1, .int x3] σ (fun v σ5 => ∃ r6 : Int64, v = some (.long r6) ∧ (gG (d + 1) mX8_digest 59 [some (.ref 0), some (.long r6), none, some (.int (x3 + 1)), none] [] σ5 Q))))) : gG (d + 1) mX8_digest 59 [some (.ref 0), some (.long x1), none, some (.int x3), none] [] σ Q := by
  refine g_iload_n (pc2 := 60) dX8_digest_59 rfl rfl ?_
  refine g_aload_n (pc2 := 61) dX8_digest_60 rfl rfl ?_
  refine g_geta (pc2 := 64) dX8_digest_61 fl_X8_24 gk_0 rfl rfl ?_
  refine g_geta (pc2 := 67) dX8_digest_64 fl_X8_112 gk_6 rfl rfl ?_
  refine g_geti (pc2 := 70) dX8_digest_67 fl_X8_242 gk_7 rfl rfl ?_
  refine g_icmp_ge (tgt := 86) (pc2 := 73) dX8_digest_70 (by decide) rfl (fun c => ?_) (fun c => ?_)
  · have h := h.1 c
    refine g_iconst (v := 0) (pc2 := 87) dX8_digest_86 (by decide) rfl ?_
    refine g_istore_n (pc2 := 88) dX8_digest_87 (by decide) rfl rfl ?_
    exact g_lw (lv2 := [some (.ref 0), some (.long x1), none, some (.int 0), none]) ⟨rfl, ⟨rfl, ⟨rfl, trivial⟩⟩⟩ h
  · have h := h.2 c
    refine g_aload_n (pc2 := 74) dX8_digest_73 rfl rfl ?_
    refine g_lload_n (pc2 := 75) dX8_digest_74 rfl rfl ?_
    refine g_iload_n (pc2 := 76) dX8_digest_75 rfl rfl ?_
    refine g_callV (M2 := mX8_mixBottle) (as := [.long x1, .int x3]) (st := []) (pc2 := 79) dX8_digest_76 ml_X8_326 mvX8_mixBottle gk_0 rfl rfl rfl (Nat.le_of_ble_eq_true rfl) (Nat.le_refl _) rfl (h.mono ?_)
    rintro _ σ5 ⟨r6, rfl, h⟩
    show gG (d + 1) mX8_digest 79 _ [.long r6] σ5 Q
    refine g_lstore_n (pc2 := 80) dX8_digest_79 (by decide) rfl rfl ?_
    refine g_iinc2 (c := 1) (pc2 := 83) dX8_digest_80 rfl (by decide) (by decide) rfl rfl ?_
    refine g_goto (tgt := 59) dX8_digest_83 (by decide) ?_
    exact g_lw (lv2 := [some (.ref 0), some (.long r6), none, some (.int (x3 + 1)), none]) ⟨rfl, ⟨rfl, ⟨rfl, trivial⟩⟩⟩ h
set_option maxRecDepth 20000 in
theorem bX8_digest_88 {d : Nat} {σ : gw_S} {Q : Option Value → gw_S → Prop} {x1 : Int64} {x3 : Int32}   (h : (((σ 17 4) ≤ x3) → (gG (d + 1) mX8_digest 120 [some (.ref 0), some (.long x1), none, some (.int 0), none] [] σ Q)) ∧ ((¬ (σ 17 4) ≤ x3) → (gB d mX8_note [.ref 0, .int x3] σ (fun v σ7 => ∃ r8 : Int32, v = some (.int r8) ∧ (gG (d + 1) mX8_digest 88 [some (.ref 0), some (.long ((31 * x1) + r8.toInt64)), none, some (.int (x3 + 1)), none] [] σ7 Q))))) : gG (d + 1) mX8_digest 88 [some (.ref 0), some (.long x1), none, some (.int x3), none] [] σ Q := by
  refine g_iload_n (pc2 := 89) dX8_digest_88 rfl rfl ?_
  refine g_aload_n (pc2 := 90) dX8_digest_89 rfl rfl ?_
  refine g_geta (pc2 := 93) dX8_digest_90 fl_X8_31 gk_0 rfl rfl ?_
  refine g_geti (pc2 := 96) dX8_digest_93 fl_X8_130 gk_17 rfl rfl ?_
  refine g_icmp_ge (tgt := 118) (pc2 := 99) dX8_digest_96 (by decide) rfl (fun c => ?_) (fun c => ?_)
  · have h := h.1 c
    refine g_iconst (v := 0) (pc2 := 119) dX8_digest_118 (by decide) rfl ?_
    refine g_istore_n (pc2 := 120) dX8_digest_119 (by decide) rfl rfl ?_
    exact g_lw (lv2 := [some (.ref 0), some (.long x1), none, some (.int 0), none]) ⟨rfl, ⟨rfl, ⟨rfl, trivial⟩⟩⟩ h
  · have h := h.2 c
    refine g_ldc2 (pc2 := 102) dX8_digest_99 cl_X8_318 rfl ?_
    refine g_lload_n (pc2 := 103) dX8_digest_102 rfl rfl ?_
    refine g_lmul (pc2 := 104) dX8_digest_103 rfl ?_
    refine g_aload_n (pc2 := 105) dX8_digest_104 rfl rfl ?_
    refine g_iload_n (pc2 := 106) dX8_digest_105 rfl rfl ?_
    refine g_callV (M2 := mX8_note) (as := [.int x3]) (st := [.long (31 * x1)]) (pc2 := 109) dX8_digest_106 ml_X8_330 mvX8_note gk_0 rfl rfl rfl (Nat.le_of_ble_eq_true rfl) (Nat.le_refl _) rfl (h.mono ?_)
    rintro _ σ7 ⟨r8, rfl, h⟩
    show gG (d + 1) mX8_digest 109 _ [.int r8, .long (31 * x1)] σ7 Q
    refine g_i2l (pc2 := 110) dX8_digest_109 rfl ?_
    refine g_ladd (pc2 := 111) dX8_digest_110 rfl ?_
    refine g_lstore_n (pc2 := 112) dX8_digest_111 (by decide) rfl rfl ?_
    refine g_iinc2 (c := 1) (pc2 := 115) dX8_digest_112 rfl (by decide) (by decide) rfl rfl ?_
    refine g_goto (tgt := 88) dX8_digest_115 (by decide) ?_
    exact g_lw (lv2 := [some (.ref 0), some (.long ((31 * x1) + r8.toInt64)), none, some (.int (x3 + 1)), none]) ⟨rfl, ⟨rfl, ⟨rfl, trivial⟩⟩⟩ h
set_option maxRecDepth 20000 in
theorem bX8_digest_120 {d : Nat} {σ : gw_S} {Q : Option Value → gw_S → Prop} {x1 : Int64} {x3 : Int32}   (h : ((8 ≤ x3) → (gG (d + 1) mX8_digest 178 [some (.ref 0), some (.long x1), none, some (.int 0), none] [] σ Q)) ∧ ((¬ 8 ≤ x3) → (gB d mX8_heard [.ref 0, .int 39, .int x3] σ (fun v σ9 => ∃ r10 : Int32, v = some (.int r10) ∧ (gB d mX8_spilled [.ref 0, .int 39, .int x3] σ9 (fun v σ11 => ∃ r12 : Int32, v = some (.int r12) ∧ (gB d mX8_most [.ref 0, .int 5, .int x3] σ11 (fun v σ13 => ∃ r14 : Int32, v = some (.int r14) ∧ (gG (d + 1) mX8_digest 120 [some (.ref 0), some (.long ((31 * ((31 * ((31 * x1) + r10.toInt64)) + r12.toInt64)) + r14.toInt64)), none, some (.int (x3 + 1)), none] [] σ13 Q))))))))) : gG (d + 1) mX8_digest 120 [some (.ref 0), some (.long x1), none, some (.int x3), none] [] σ Q := by
  refine g_iload_n (pc2 := 121) dX8_digest_120 rfl rfl ?_
  refine g_bipush (v := 8) (pc2 := 123) dX8_digest_121 (by decide) rfl ?_
  refine g_icmp_ge (tgt := 176) (pc2 := 126) dX8_digest_123 (by decide) rfl (fun c => ?_) (fun c => ?_)
  · have h := h.1 c
    refine g_iconst (v := 0) (pc2 := 177) dX8_digest_176 (by decide) rfl ?_
    refine g_istore_n (pc2 := 178) dX8_digest_177 (by decide) rfl rfl ?_
    exact g_lw (lv2 := [some (.ref 0), some (.long x1), none, some (.int 0), none]) ⟨rfl, ⟨rfl, ⟨rfl, trivial⟩⟩⟩ h
  · have h := h.2 c
    refine g_ldc2 (pc2 := 129) dX8_digest_126 cl_X8_318 rfl ?_
    refine g_lload_n (pc2 := 130) dX8_digest_129 rfl rfl ?_
    refine g_lmul (pc2 := 131) dX8_digest_130 rfl ?_
    refine g_aload_n (pc2 := 132) dX8_digest_131 rfl rfl ?_
    refine g_bipush (v := 39) (pc2 := 134) dX8_digest_132 (by decide) rfl ?_
    refine g_iload_n (pc2 := 135) dX8_digest_134 rfl rfl ?_
    refine g_callV (M2 := mX8_heard) (as := [.int 39, .int x3]) (st := [.long (31 * x1)]) (pc2 := 138) dX8_digest_135 ml_X8_333 mvX8_heard gk_0 rfl rfl rfl (Nat.le_of_ble_eq_true rfl) (Nat.le_refl _) rfl (h.mono ?_)
    rintro _ σ9 ⟨r10, rfl, h⟩
    show gG (d + 1) mX8_digest 138 _ [.int r10, .long (31 * x1)] σ9 Q
    refine g_i2l (pc2 := 139) dX8_digest_138 rfl ?_
    refine g_ladd (pc2 := 140) dX8_digest_139 rfl ?_
    refine g_lstore_n (pc2 := 141) dX8_digest_140 (by decide) rfl rfl ?_
    refine g_ldc2 (pc2 := 144) dX8_digest_141 cl_X8_318 rfl ?_
    refine g_lload_n (pc2 := 145) dX8_digest_144 rfl rfl ?_
    refine g_lmul (pc2 := 146) dX8_digest_145 rfl ?_
    refine g_aload_n (pc2 := 147) dX8_digest_146 rfl rfl ?_
    refine g_bipush (v := 39) (pc2 := 149) dX8_digest_147 (by decide) rfl ?_
    refine g_iload_n (pc2 := 150) dX8_digest_149 rfl rfl ?_
    refine g_callV (M2 := mX8_spilled) (as := [.int 39, .int x3]) (st := [.long (31 * ((31 * x1) + r10.toInt64))]) (pc2 := 153) dX8_digest_150 ml_X8_336 mvX8_spilled gk_0 rfl rfl rfl (Nat.le_of_ble_eq_true rfl) (Nat.le_refl _) rfl (h.mono ?_)
    rintro _ σ11 ⟨r12, rfl, h⟩
    show gG (d + 1) mX8_digest 153 _ [.int r12, .long (31 * ((31 * x1) + r10.toInt64))] σ11 Q
    refine g_i2l (pc2 := 154) dX8_digest_153 rfl ?_
    refine g_ladd (pc2 := 155) dX8_digest_154 rfl ?_
    refine g_lstore_n (pc2 := 156) dX8_digest_155 (by decide) rfl rfl ?_
    refine g_ldc2 (pc2 := 159) dX8_digest_156 cl_X8_318 rfl ?_
    refine g_lload_n (pc2 := 160) dX8_digest_159 rfl rfl ?_
    refine g_lmul (pc2 := 161) dX8_digest_160 rfl ?_
    refine g_aload_n (pc2 := 162) dX8_digest_161 rfl rfl ?_
    refine g_iconst (v := 5) (pc2 := 163) dX8_digest_162 (by decide) rfl ?_
    refine g_iload_n (pc2 := 164) dX8_digest_163 rfl rfl ?_
    refine g_callV (M2 := mX8_most) (as := [.int 5, .int x3]) (st := [.long (31 * ((31 * ((31 * x1) + r10.toInt64)) + r12.toInt64))]) (pc2 := 167) dX8_digest_164 ml_X8_339 mvX8_most gk_0 rfl rfl rfl (Nat.le_of_ble_eq_true rfl) (Nat.le_refl _) rfl (h.mono ?_)
    rintro _ σ13 ⟨r14, rfl, h⟩
    show gG (d + 1) mX8_digest 167 _ [.int r14, .long (31 * ((31 * ((31 * x1) + r10.toInt64)) + r12.toInt64))] σ13 Q
    refine g_i2l (pc2 := 168) dX8_digest_167 rfl ?_
    refine g_ladd (pc2 := 169) dX8_digest_168 rfl ?_
    refine g_lstore_n (pc2 := 170) dX8_digest_169 (by decide) rfl rfl ?_
    refine g_iinc2 (c := 1) (pc2 := 173) dX8_digest_170 rfl (by decide) (by decide) rfl rfl ?_
    refine g_goto (tgt := 120) dX8_digest_173 (by decide) ?_
    exact g_lw (lv2 := [some (.ref 0), some (.long ((31 * ((31 * ((31 * x1) + r10.toInt64)) + r12.toInt64)) + r14.toInt64)), none, some (.int (x3 + 1)), none]) ⟨rfl, ⟨rfl, ⟨rfl, trivial⟩⟩⟩ h
set_option maxRecDepth 20000 in
theorem bX8_digest_178 {d : Nat} {σ : gw_S} {Q : Option Value → gw_S → Prop} {x1 : Int64} {x3 : Int32}   (h : ((6 ≤ x3) → (gG (d + 1) mX8_digest 207 [some (.ref 0), some (.long x1), none, some (.int 0), none] [] σ Q)) ∧ ((¬ 6 ≤ x3) → (gB d mX8_has [.ref 0, .int 9, .int x3] σ (fun v σ15 => ∃ r16 : Int32, v = some (.int r16) ∧ (gG (d + 1) mX8_digest 178 [some (.ref 0), some (.long ((31 * x1) + r16.toInt64)), none, some (.int (x3 + 1)), none] [] σ15 Q))))) : gG (d + 1) mX8_digest 178 [some (.ref 0), some (.long x1), none, some (.int x3), none] [] σ Q := by
  refine g_iload_n (pc2 := 179) dX8_digest_178 rfl rfl ?_
  refine g_bipush (v := 6) (pc2 := 181) dX8_digest_179 (by decide) rfl ?_
  refine g_icmp_ge (tgt := 205) (pc2 := 184) dX8_digest_181 (by decide) rfl (fun c => ?_) (fun c => ?_)
  · have h := h.1 c
    refine g_iconst (v := 0) (pc2 := 206) dX8_digest_205 (by decide) rfl ?_
    refine g_istore_n (pc2 := 207) dX8_digest_206 (by decide) rfl rfl ?_
    exact g_lw (lv2 := [some (.ref 0), some (.long x1), none, some (.int 0), none]) ⟨rfl, ⟨rfl, ⟨rfl, trivial⟩⟩⟩ h
  · have h := h.2 c
    refine g_ldc2 (pc2 := 187) dX8_digest_184 cl_X8_318 rfl ?_
    refine g_lload_n (pc2 := 188) dX8_digest_187 rfl rfl ?_
    refine g_lmul (pc2 := 189) dX8_digest_188 rfl ?_
    refine g_aload_n (pc2 := 190) dX8_digest_189 rfl rfl ?_
    refine g_bipush (v := 9) (pc2 := 192) dX8_digest_190 (by decide) rfl ?_
    refine g_iload_n (pc2 := 193) dX8_digest_192 rfl rfl ?_
    refine g_callV (M2 := mX8_has) (as := [.int 9, .int x3]) (st := [.long (31 * x1)]) (pc2 := 196) dX8_digest_193 ml_X8_341 mvX8_has gk_0 rfl rfl rfl (Nat.le_of_ble_eq_true rfl) (Nat.le_refl _) rfl (h.mono ?_)
    rintro _ σ15 ⟨r16, rfl, h⟩
    show gG (d + 1) mX8_digest 196 _ [.int r16, .long (31 * x1)] σ15 Q
    refine g_i2l (pc2 := 197) dX8_digest_196 rfl ?_
    refine g_ladd (pc2 := 198) dX8_digest_197 rfl ?_
    refine g_lstore_n (pc2 := 199) dX8_digest_198 (by decide) rfl rfl ?_
    refine g_iinc2 (c := 1) (pc2 := 202) dX8_digest_199 rfl (by decide) (by decide) rfl rfl ?_
    refine g_goto (tgt := 178) dX8_digest_202 (by decide) ?_
    exact g_lw (lv2 := [some (.ref 0), some (.long ((31 * x1) + r16.toInt64)), none, some (.int (x3 + 1)), none]) ⟨rfl, ⟨rfl, ⟨rfl, trivial⟩⟩⟩ h
set_option maxRecDepth 20000 in
theorem bX8_digest_207 {d : Nat} {σ : gw_S} {Q : Option Value → gw_S → Prop} {x1 : Int64} {x3 : Int32}   (h : ((3 ≤ x3) → (gG (d + 1) mX8_digest 343 [some (.ref 0), some (.long x1), none, some (.int 0), none] [] σ Q)) ∧ ((¬ 3 ≤ x3) → (((¬ x3 = 0) → (((¬ x3 = 1) → (gG (d + 1) mX8_digest 231 [some (.ref 0), some (.long x1), none, some (.int x3), none] [.int 39] σ Q)) ∧ ((x3 = 1) → (gG (d + 1) mX8_digest 231 [some (.ref 0), some (.long x1), none, some (.int x3), none] [.int 5] σ Q)))) ∧ ((x3 = 0) → (gG (d + 1) mX8_digest 231 [some (.ref 0), some (.long x1), none, some (.int x3), none] [.int 0] σ Q))))) : gG (d + 1) mX8_digest 207 [some (.ref 0), some (.long x1), none, some (.int x3), none] [] σ Q := by
  refine g_iload_n (pc2 := 208) dX8_digest_207 rfl rfl ?_
  refine g_iconst (v := 3) (pc2 := 209) dX8_digest_208 (by decide) rfl ?_
  refine g_icmp_ge (tgt := 341) (pc2 := 212) dX8_digest_209 (by decide) rfl (fun c => ?_) (fun c => ?_)
  · have h := h.1 c
    refine g_iconst (v := 0) (pc2 := 342) dX8_digest_341 (by decide) rfl ?_
    refine g_istore_n (pc2 := 343) dX8_digest_342 (by decide) rfl rfl ?_
    exact g_lw (lv2 := [some (.ref 0), some (.long x1), none, some (.int 0), none]) ⟨rfl, ⟨rfl, ⟨rfl, trivial⟩⟩⟩ h
  · have h := h.2 c
    refine g_iload_n (pc2 := 213) dX8_digest_212 rfl rfl ?_
    refine g_if_ne (tgt := 220) (pc2 := 216) dX8_digest_213 (by decide) rfl (fun c => ?_) (fun c => ?_)
    · have h := h.1 c
      refine g_iload_n (pc2 := 221) dX8_digest_220 rfl rfl ?_
      refine g_iconst (v := 1) (pc2 := 222) dX8_digest_221 (by decide) rfl ?_
      refine g_icmp_ne (tgt := 229) (pc2 := 225) dX8_digest_222 (by decide) rfl (fun c => ?_) (fun c => ?_)
      · have h := h.1 c
        refine g_bipush (v := 39) (pc2 := 231) dX8_digest_229 (by decide) rfl ?_
        exact g_lw (lv2 := [some (.ref 0), some (.long x1), none, some (.int x3), none]) ⟨rfl, ⟨rfl, ⟨rfl, trivial⟩⟩⟩ h
      · have h := h.2 c
        refine g_iconst (v := 5) (pc2 := 226) dX8_digest_225 (by decide) rfl ?_
        refine g_goto (tgt := 231) dX8_digest_226 (by decide) ?_
        exact g_lw (lv2 := [some (.ref 0), some (.long x1), none, some (.int x3), none]) ⟨rfl, ⟨rfl, ⟨rfl, trivial⟩⟩⟩ h
    · have h := h.2 c
      refine g_iconst (v := 0) (pc2 := 217) dX8_digest_216 (by decide) rfl ?_
      refine g_goto (tgt := 231) dX8_digest_217 (by decide) ?_
      exact g_lw (lv2 := [some (.ref 0), some (.long x1), none, some (.int x3), none]) ⟨rfl, ⟨rfl, ⟨rfl, trivial⟩⟩⟩ h
set_option maxRecDepth 20000 in
theorem bX8_digest_343 {d : Nat} {σ : gw_S} {Q : Option Value → gw_S → Prop} {x1 : Int64} {x3 : Int32}   (h : (((σ 11 4) ≤ x3) → (gB d mX8_hid [.ref 0] σ (fun v σ17 => ∃ r18 : Int32, v = some (.int r18) ∧ (gB d mX8_swapped [.ref 0, .int 0] σ17 (fun v σ19 => ∃ r20 : Int32, v = some (.int r20) ∧ (gB d mX8_swapped [.ref 0, .int 1] σ19 (fun v σ21 => ∃ r22 : Int32, v = some (.int r22) ∧ (gB d mX8_market [.ref 0, .int 7, .int 20, .int (-1)] σ21 (fun v σ23 => ∃ r24 : Int32, v = some (.int r24) ∧ (Q (some (.long ((31 * ((31 * ((31 * ((31 * x1) + r18.toInt64)) + r20.toInt64)) + r22.toInt64)) + r24.toInt64))) σ23)))))))))) ∧ ((¬ (σ 11 4) ≤ x3) → (gB d mX8_works [.ref 0, .int x3] σ (fun v σ25 => ∃ r26 : Int32, v = some (.int r26) ∧ (gG (d + 1) mX8_digest 343 [some (.ref 0), some (.long ((31 * x1) + r26.toInt64)), none, some (.int (x3 + 1)), none] [] σ25 Q))))) : gG (d + 1) mX8_digest 343 [some (.ref 0), some (.long x1), none, some (.int x3), none] [] σ Q := by
  refine g_iload_n (pc2 := 344) dX8_digest_343 rfl rfl ?_
  refine g_aload_n (pc2 := 345) dX8_digest_344 rfl rfl ?_
  refine g_geta (pc2 := 348) dX8_digest_345 fl_X8_24 gk_0 rfl rfl ?_
  refine g_geta (pc2 := 351) dX8_digest_348 fl_X8_150 gk_6 rfl rfl ?_
  refine g_geti (pc2 := 354) dX8_digest_351 fl_X8_154 gk_11 rfl rfl ?_
  refine g_icmp_ge (tgt := 376) (pc2 := 357) dX8_digest_354 (by decide) rfl (fun c => ?_) (fun c => ?_)
  · have h := h.1 c
    refine g_ldc2 (pc2 := 379) dX8_digest_376 cl_X8_318 rfl ?_
    refine g_lload_n (pc2 := 380) dX8_digest_379 rfl rfl ?_
    refine g_lmul (pc2 := 381) dX8_digest_380 rfl ?_
    refine g_aload_n (pc2 := 382) dX8_digest_381 rfl rfl ?_
    refine g_callV (M2 := mX8_hid) (as := []) (st := [.long (31 * x1)]) (pc2 := 385) dX8_digest_382 ml_X8_251 mvX8_hid gk_0 rfl rfl rfl (Nat.le_of_ble_eq_true rfl) (Nat.le_refl _) rfl (h.mono ?_)
    rintro _ σ17 ⟨r18, rfl, h⟩
    show gG (d + 1) mX8_digest 385 _ [.int r18, .long (31 * x1)] σ17 Q
    refine g_i2l (pc2 := 386) dX8_digest_385 rfl ?_
    refine g_ladd (pc2 := 387) dX8_digest_386 rfl ?_
    refine g_lstore_n (pc2 := 388) dX8_digest_387 (by decide) rfl rfl ?_
    refine g_ldc2 (pc2 := 391) dX8_digest_388 cl_X8_318 rfl ?_
    refine g_lload_n (pc2 := 392) dX8_digest_391 rfl rfl ?_
    refine g_lmul (pc2 := 393) dX8_digest_392 rfl ?_
    refine g_aload_n (pc2 := 394) dX8_digest_393 rfl rfl ?_
    refine g_iconst (v := 0) (pc2 := 395) dX8_digest_394 (by decide) rfl ?_
    refine g_callV (M2 := mX8_swapped) (as := [.int 0]) (st := [.long (31 * ((31 * x1) + r18.toInt64))]) (pc2 := 398) dX8_digest_395 ml_X8_362 mvX8_swapped gk_0 rfl rfl rfl (Nat.le_of_ble_eq_true rfl) (Nat.le_refl _) rfl (h.mono ?_)
    rintro _ σ19 ⟨r20, rfl, h⟩
    show gG (d + 1) mX8_digest 398 _ [.int r20, .long (31 * ((31 * x1) + r18.toInt64))] σ19 Q
    refine g_i2l (pc2 := 399) dX8_digest_398 rfl ?_
    refine g_ladd (pc2 := 400) dX8_digest_399 rfl ?_
    refine g_lstore_n (pc2 := 401) dX8_digest_400 (by decide) rfl rfl ?_
    refine g_ldc2 (pc2 := 404) dX8_digest_401 cl_X8_318 rfl ?_
    refine g_lload_n (pc2 := 405) dX8_digest_404 rfl rfl ?_
    refine g_lmul (pc2 := 406) dX8_digest_405 rfl ?_
    refine g_aload_n (pc2 := 407) dX8_digest_406 rfl rfl ?_
    refine g_iconst (v := 1) (pc2 := 408) dX8_digest_407 (by decide) rfl ?_
    refine g_callV (M2 := mX8_swapped) (as := [.int 1]) (st := [.long (31 * ((31 * ((31 * x1) + r18.toInt64)) + r20.toInt64))]) (pc2 := 411) dX8_digest_408 ml_X8_362 mvX8_swapped gk_0 rfl rfl rfl (Nat.le_of_ble_eq_true rfl) (Nat.le_refl _) rfl (h.mono ?_)
    rintro _ σ21 ⟨r22, rfl, h⟩
    show gG (d + 1) mX8_digest 411 _ [.int r22, .long (31 * ((31 * ((31 * x1) + r18.toInt64)) + r20.toInt64))] σ21 Q
    refine g_i2l (pc2 := 412) dX8_digest_411 rfl ?_
    refine g_ladd (pc2 := 413) dX8_digest_412 rfl ?_
    refine g_lstore_n (pc2 := 414) dX8_digest_413 (by decide) rfl rfl ?_
    refine g_ldc2 (pc2 := 417) dX8_digest_414 cl_X8_318 rfl ?_
    refine g_lload_n (pc2 := 418) dX8_digest_417 rfl rfl ?_
    refine g_lmul (pc2 := 419) dX8_digest_418 rfl ?_
    refine g_aload_n (pc2 := 420) dX8_digest_419 rfl rfl ?_
    refine g_bipush (v := 7) (pc2 := 422) dX8_digest_420 (by decide) rfl ?_
    refine g_bipush (v := 20) (pc2 := 424) dX8_digest_422 (by decide) rfl ?_
    refine g_iconst (v := (-1)) (pc2 := 425) dX8_digest_424 (by decide) rfl ?_
    refine g_callV (M2 := mX8_market) (as := [.int 7, .int 20, .int (-1)]) (st := [.long (31 * ((31 * ((31 * ((31 * x1) + r18.toInt64)) + r20.toInt64)) + r22.toInt64))]) (pc2 := 428) dX8_digest_425 ml_X8_365 mvX8_market gk_0 rfl rfl rfl (Nat.le_of_ble_eq_true rfl) (Nat.le_refl _) rfl (h.mono ?_)
    rintro _ σ23 ⟨r24, rfl, h⟩
    show gG (d + 1) mX8_digest 428 _ [.int r24, .long (31 * ((31 * ((31 * ((31 * x1) + r18.toInt64)) + r20.toInt64)) + r22.toInt64))] σ23 Q
    refine g_i2l (pc2 := 429) dX8_digest_428 rfl ?_
    refine g_ladd (pc2 := 430) dX8_digest_429 rfl ?_
    exact g_lret dX8_digest_430 rfl h
  · have h := h.2 c
    refine g_ldc2 (pc2 := 360) dX8_digest_357 cl_X8_318 rfl ?_
    refine g_lload_n (pc2 := 361) dX8_digest_360 rfl rfl ?_
    refine g_lmul (pc2 := 362) dX8_digest_361 rfl ?_
    refine g_aload_n (pc2 := 363) dX8_digest_362 rfl rfl ?_
    refine g_iload_n (pc2 := 364) dX8_digest_363 rfl rfl ?_
    refine g_callV (M2 := mX8_works) (as := [.int x3]) (st := [.long (31 * x1)]) (pc2 := 367) dX8_digest_364 ml_X8_359 mvX8_works gk_0 rfl rfl rfl (Nat.le_of_ble_eq_true rfl) (Nat.le_refl _) rfl (h.mono ?_)
    rintro _ σ25 ⟨r26, rfl, h⟩
    show gG (d + 1) mX8_digest 367 _ [.int r26, .long (31 * x1)] σ25 Q
    refine g_i2l (pc2 := 368) dX8_digest_367 rfl ?_
    refine g_ladd (pc2 := 369) dX8_digest_368 rfl ?_
    refine g_lstore_n (pc2 := 370) dX8_digest_369 (by decide) rfl rfl ?_
    refine g_iinc2 (c := 1) (pc2 := 373) dX8_digest_370 rfl (by decide) (by decide) rfl rfl ?_
    refine g_goto (tgt := 343) dX8_digest_373 (by decide) ?_
    exact g_lw (lv2 := [some (.ref 0), some (.long ((31 * x1) + r26.toInt64)), none, some (.int (x3 + 1)), none]) ⟨rfl, ⟨rfl, ⟨rfl, trivial⟩⟩⟩ h
set_option maxRecDepth 20000 in
theorem bX8_digest_231 {d : Nat} {σ : gw_S} {Q : Option Value → gw_S → Prop} {x1 : Int64} {x3 : Int32} {s0 : Int32}   (h : gB d mX8_leaked [.ref 0, .int s0] σ (fun v σ27 => ∃ r28 : Int32, v = some (.int r28) ∧ (gB d mX8_lost [.ref 0, .int s0] σ27 (fun v σ29 => ∃ r30 : Int32, v = some (.int r30) ∧ (gB d mX8_sing [.ref 0, .int s0, .int (-1)] σ29 (fun v σ31 => ∃ r32 : Int32, v = some (.int r32) ∧ (gB d mX8_sing [.ref 0, .int s0, .int 0] σ31 (fun v σ33 => ∃ r34 : Int32, v = some (.int r34) ∧ (gB d mX8_corks [.ref 0, .int s0, .int (-1)] σ33 (fun v σ35 => ∃ r36 : Int32, v = some (.int r36) ∧ (gB d mX8_corks [.ref 0, .int s0, .int 0] σ35 (fun v σ37 => ∃ r38 : Int32, v = some (.int r38) ∧ (gB d mX8_weigh [.ref 0, .int s0] σ37 (fun v σ39 => ∃ r40 : Int32, v = some (.int r40) ∧ (gG (d + 1) mX8_digest 207 [some (.ref 0), some (.long ((31 * ((31 * ((31 * ((31 * ((31 * ((31 * ((31 * x1) + r28.toInt64)) + r30.toInt64)) + r32.toInt64)) + r34.toInt64)) + r36.toInt64)) + r38.toInt64)) + r40.toInt64)), none, some (.int (x3 + 1)), none] [] σ39 Q))))))))))))))) : gG (d + 1) mX8_digest 231 [some (.ref 0), some (.long x1), none, some (.int x3), none] [.int s0] σ Q := by
  refine g_istore (pc2 := 233) dX8_digest_231 (by decide) rfl rfl ?_
  refine g_ldc2 (pc2 := 236) dX8_digest_233 cl_X8_318 rfl ?_
  refine g_lload_n (pc2 := 237) dX8_digest_236 rfl rfl ?_
  refine g_lmul (pc2 := 238) dX8_digest_237 rfl ?_
  refine g_aload_n (pc2 := 239) dX8_digest_238 rfl rfl ?_
  refine g_iload (pc2 := 241) dX8_digest_239 rfl rfl ?_
  refine g_callV (M2 := mX8_leaked) (as := [.int s0]) (st := [.long (31 * x1)]) (pc2 := 244) dX8_digest_241 ml_X8_344 mvX8_leaked gk_0 rfl rfl rfl (Nat.le_of_ble_eq_true rfl) (Nat.le_refl _) rfl (h.mono ?_)
  rintro _ σ27 ⟨r28, rfl, h⟩
  show gG (d + 1) mX8_digest 244 _ [.int r28, .long (31 * x1)] σ27 Q
  refine g_i2l (pc2 := 245) dX8_digest_244 rfl ?_
  refine g_ladd (pc2 := 246) dX8_digest_245 rfl ?_
  refine g_lstore_n (pc2 := 247) dX8_digest_246 (by decide) rfl rfl ?_
  refine g_ldc2 (pc2 := 250) dX8_digest_247 cl_X8_318 rfl ?_
  refine g_lload_n (pc2 := 251) dX8_digest_250 rfl rfl ?_
  refine g_lmul (pc2 := 252) dX8_digest_251 rfl ?_
  refine g_aload_n (pc2 := 253) dX8_digest_252 rfl rfl ?_
  refine g_iload (pc2 := 255) dX8_digest_253 rfl rfl ?_
  refine g_callV (M2 := mX8_lost) (as := [.int s0]) (st := [.long (31 * ((31 * x1) + r28.toInt64))]) (pc2 := 258) dX8_digest_255 ml_X8_347 mvX8_lost gk_0 rfl rfl rfl (Nat.le_of_ble_eq_true rfl) (Nat.le_refl _) rfl (h.mono ?_)
  rintro _ σ29 ⟨r30, rfl, h⟩
  show gG (d + 1) mX8_digest 258 _ [.int r30, .long (31 * ((31 * x1) + r28.toInt64))] σ29 Q
  refine g_i2l (pc2 := 259) dX8_digest_258 rfl ?_
  refine g_ladd (pc2 := 260) dX8_digest_259 rfl ?_
  refine g_lstore_n (pc2 := 261) dX8_digest_260 (by decide) rfl rfl ?_
  refine g_ldc2 (pc2 := 264) dX8_digest_261 cl_X8_318 rfl ?_
  refine g_lload_n (pc2 := 265) dX8_digest_264 rfl rfl ?_
  refine g_lmul (pc2 := 266) dX8_digest_265 rfl ?_
  refine g_aload_n (pc2 := 267) dX8_digest_266 rfl rfl ?_
  refine g_iload (pc2 := 269) dX8_digest_267 rfl rfl ?_
  refine g_iconst (v := (-1)) (pc2 := 270) dX8_digest_269 (by decide) rfl ?_
  refine g_callV (M2 := mX8_sing) (as := [.int s0, .int (-1)]) (st := [.long (31 * ((31 * ((31 * x1) + r28.toInt64)) + r30.toInt64))]) (pc2 := 273) dX8_digest_270 ml_X8_350 mvX8_sing gk_0 rfl rfl rfl (Nat.le_of_ble_eq_true rfl) (Nat.le_refl _) rfl (h.mono ?_)
  rintro _ σ31 ⟨r32, rfl, h⟩
  show gG (d + 1) mX8_digest 273 _ [.int r32, .long (31 * ((31 * ((31 * x1) + r28.toInt64)) + r30.toInt64))] σ31 Q
  refine g_i2l (pc2 := 274) dX8_digest_273 rfl ?_
  refine g_ladd (pc2 := 275) dX8_digest_274 rfl ?_
  refine g_lstore_n (pc2 := 276) dX8_digest_275 (by decide) rfl rfl ?_
  refine g_ldc2 (pc2 := 279) dX8_digest_276 cl_X8_318 rfl ?_
  refine g_lload_n (pc2 := 280) dX8_digest_279 rfl rfl ?_
  refine g_lmul (pc2 := 281) dX8_digest_280 rfl ?_
  refine g_aload_n (pc2 := 282) dX8_digest_281 rfl rfl ?_
  refine g_iload (pc2 := 284) dX8_digest_282 rfl rfl ?_
  refine g_iconst (v := 0) (pc2 := 285) dX8_digest_284 (by decide) rfl ?_
  refine g_callV (M2 := mX8_sing) (as := [.int s0, .int 0]) (st := [.long (31 * ((31 * ((31 * ((31 * x1) + r28.toInt64)) + r30.toInt64)) + r32.toInt64))]) (pc2 := 288) dX8_digest_285 ml_X8_350 mvX8_sing gk_0 rfl rfl rfl (Nat.le_of_ble_eq_true rfl) (Nat.le_refl _) rfl (h.mono ?_)
  rintro _ σ33 ⟨r34, rfl, h⟩
  show gG (d + 1) mX8_digest 288 _ [.int r34, .long (31 * ((31 * ((31 * ((31 * x1) + r28.toInt64)) + r30.toInt64)) + r32.toInt64))] σ33 Q
  refine g_i2l (pc2 := 289) dX8_digest_288 rfl ?_
  refine g_ladd (pc2 := 290) dX8_digest_289 rfl ?_
  refine g_lstore_n (pc2 := 291) dX8_digest_290 (by decide) rfl rfl ?_
  refine g_ldc2 (pc2 := 294) dX8_digest_291 cl_X8_318 rfl ?_
  refine g_lload_n (pc2 := 295) dX8_digest_294 rfl rfl ?_
  refine g_lmul (pc2 := 296) dX8_digest_295 rfl ?_
  refine g_aload_n (pc2 := 297) dX8_digest_296 rfl rfl ?_
  refine g_iload (pc2 := 299) dX8_digest_297 rfl rfl ?_
  refine g_iconst (v := (-1)) (pc2 := 300) dX8_digest_299 (by decide) rfl ?_
  refine g_callV (M2 := mX8_corks) (as := [.int s0, .int (-1)]) (st := [.long (31 * ((31 * ((31 * ((31 * ((31 * x1) + r28.toInt64)) + r30.toInt64)) + r32.toInt64)) + r34.toInt64))]) (pc2 := 303) dX8_digest_300 ml_X8_353 mvX8_corks gk_0 rfl rfl rfl (Nat.le_of_ble_eq_true rfl) (Nat.le_refl _) rfl (h.mono ?_)
  rintro _ σ35 ⟨r36, rfl, h⟩
  show gG (d + 1) mX8_digest 303 _ [.int r36, .long (31 * ((31 * ((31 * ((31 * ((31 * x1) + r28.toInt64)) + r30.toInt64)) + r32.toInt64)) + r34.toInt64))] σ35 Q
  refine g_i2l (pc2 := 304) dX8_digest_303 rfl ?_
  refine g_ladd (pc2 := 305) dX8_digest_304 rfl ?_
  refine g_lstore_n (pc2 := 306) dX8_digest_305 (by decide) rfl rfl ?_
  refine g_ldc2 (pc2 := 309) dX8_digest_306 cl_X8_318 rfl ?_
  refine g_lload_n (pc2 := 310) dX8_digest_309 rfl rfl ?_
  refine g_lmul (pc2 := 311) dX8_digest_310 rfl ?_
  refine g_aload_n (pc2 := 312) dX8_digest_311 rfl rfl ?_
  refine g_iload (pc2 := 314) dX8_digest_312 rfl rfl ?_
  refine g_iconst (v := 0) (pc2 := 315) dX8_digest_314 (by decide) rfl ?_
  refine g_callV (M2 := mX8_corks) (as := [.int s0, .int 0]) (st := [.long (31 * ((31 * ((31 * ((31 * ((31 * ((31 * x1) + r28.toInt64)) + r30.toInt64)) + r32.toInt64)) + r34.toInt64)) + r36.toInt64))]) (pc2 := 318) dX8_digest_315 ml_X8_353 mvX8_corks gk_0 rfl rfl rfl (Nat.le_of_ble_eq_true rfl) (Nat.le_refl _) rfl (h.mono ?_)
  rintro _ σ37 ⟨r38, rfl, h⟩
  show gG (d + 1) mX8_digest 318 _ [.int r38, .long (31 * ((31 * ((31 * ((31 * ((31 * ((31 * x1) + r28.toInt64)) + r30.toInt64)) + r32.toInt64)) + r34.toInt64)) + r36.toInt64))] σ37 Q
  refine g_i2l (pc2 := 319) dX8_digest_318 rfl ?_
  refine g_ladd (pc2 := 320) dX8_digest_319 rfl ?_
  refine g_lstore_n (pc2 := 321) dX8_digest_320 (by decide) rfl rfl ?_
  refine g_ldc2 (pc2 := 324) dX8_digest_321 cl_X8_318 rfl ?_
  refine g_lload_n (pc2 := 325) dX8_digest_324 rfl rfl ?_
  refine g_lmul (pc2 := 326) dX8_digest_325 rfl ?_
  refine g_aload_n (pc2 := 327) dX8_digest_326 rfl rfl ?_
  refine g_iload (pc2 := 329) dX8_digest_327 rfl rfl ?_
  refine g_callV (M2 := mX8_weigh) (as := [.int s0]) (st := [.long (31 * ((31 * ((31 * ((31 * ((31 * ((31 * ((31 * x1) + r28.toInt64)) + r30.toInt64)) + r32.toInt64)) + r34.toInt64)) + r36.toInt64)) + r38.toInt64))]) (pc2 := 332) dX8_digest_329 ml_X8_356 mvX8_weigh gk_0 rfl rfl rfl (Nat.le_of_ble_eq_true rfl) (Nat.le_refl _) rfl (h.mono ?_)
  rintro _ σ39 ⟨r40, rfl, h⟩
  show gG (d + 1) mX8_digest 332 _ [.int r40, .long (31 * ((31 * ((31 * ((31 * ((31 * ((31 * ((31 * x1) + r28.toInt64)) + r30.toInt64)) + r32.toInt64)) + r34.toInt64)) + r36.toInt64)) + r38.toInt64))] σ39 Q
  refine g_i2l (pc2 := 333) dX8_digest_332 rfl ?_
  refine g_ladd (pc2 := 334) dX8_digest_333 rfl ?_
  refine g_lstore_n (pc2 := 335) dX8_digest_334 (by decide) rfl rfl ?_
  refine g_iinc2 (c := 1) (pc2 := 338) dX8_digest_335 rfl (by decide) (by decide) rfl rfl ?_
  refine g_goto (tgt := 207) dX8_digest_338 (by decide) ?_
  exact g_lw (lv2 := [some (.ref 0), some (.long ((31 * ((31 * ((31 * ((31 * ((31 * ((31 * ((31 * x1) + r28.toInt64)) + r30.toInt64)) + r32.toInt64)) + r34.toInt64)) + r36.toInt64)) + r38.toInt64)) + r40.toInt64)), none, some (.int (x3 + 1)), none]) ⟨rfl, ⟨rfl, ⟨rfl, trivial⟩⟩⟩ h
set_option maxRecDepth 20000 in
theorem eX8_fault {d : Nat} {σ : gw_S} {Q : Option Value → gw_S → Prop} {x1 : Int32}   (h : gB d mX8_isWithin [.int x1, .int 2] σ (fun v σ1 => ∃ r2 : Int32, v = some (.int r2) ∧ (((¬ r2 = 0) → (((¬ x1 = 0) → (gB d mX5_faultAsSong [.ref 4] σ1 (fun v σ3 => ∃ r4 : Int32, v = some (.int r4) ∧ (Q (some (.int r4)) σ3)))) ∧ ((x1 = 0) → (gB d mX5_faultAsBottles [.ref 2] σ1 (fun v σ5 => ∃ r6 : Int32, v = some (.int r6) ∧ (Q (some (.int r6)) σ5)))))) ∧ ((r2 = 0) → (Q (some (.int (-2))) σ1))))) : gB (d + 1) mX8_fault [.ref 0, .int x1] σ Q := by
  refine gB_of rfl (Nat.le_of_ble_eq_true rfl) (g_lw (lv2 := [some (.ref 0), some (.int x1)]) ⟨rfl, ⟨rfl, trivial⟩⟩ ?_)
  refine g_iload_n (pc2 := 1) dX8_fault_0 rfl rfl ?_
  refine g_iconst (v := 2) (pc2 := 2) dX8_fault_1 (by decide) rfl ?_
  refine g_callS (M2 := mX8_isWithin) (as := [.int x1, .int 2]) (st := []) (pc2 := 5) dX8_fault_2 ml_X8_81 msX8_isWithin rfl rfl (Nat.le_of_ble_eq_true rfl) (Nat.le_refl _) rfl (h.mono ?_)
  rintro _ σ1 ⟨r2, rfl, h⟩
  show gG (d + 1) mX8_fault 5 _ [.int r2] σ1 Q
  refine g_if_ne (tgt := 11) (pc2 := 8) dX8_fault_5 (by decide) rfl (fun c => ?_) (fun c => ?_)
  · have h := h.1 c
    refine g_iload_n (pc2 := 12) dX8_fault_11 rfl rfl ?_
    refine g_if_ne (tgt := 25) (pc2 := 15) dX8_fault_12 (by decide) rfl (fun c => ?_) (fun c => ?_)
    · have h := h.1 c
      refine g_aload_n (pc2 := 26) dX8_fault_25 rfl rfl ?_
      refine g_geta (pc2 := 29) dX8_fault_26 fl_X8_18 gk_0 rfl rfl ?_
      refine g_callV (M2 := mX5_faultAsSong) (as := []) (st := []) (pc2 := 32) dX8_fault_29 ml_X8_105 mvX5_faultAsSong gk_4 rfl rfl rfl (Nat.le_of_ble_eq_true rfl) (Nat.le_refl _) rfl (h.mono ?_)
      rintro _ σ3 ⟨r4, rfl, h⟩
      show gG (d + 1) mX8_fault 32 _ [.int r4] σ3 Q
      exact g_iret dX8_fault_32 rfl h
    · have h := h.2 c
      refine g_aload_n (pc2 := 16) dX8_fault_15 rfl rfl ?_
      refine g_geta (pc2 := 19) dX8_fault_16 fl_X8_14 gk_0 rfl rfl ?_
      refine g_callV (M2 := mX5_faultAsBottles) (as := []) (st := []) (pc2 := 22) dX8_fault_19 ml_X8_101 mvX5_faultAsBottles gk_2 rfl rfl rfl (Nat.le_of_ble_eq_true rfl) (Nat.le_refl _) rfl (h.mono ?_)
      rintro _ σ5 ⟨r6, rfl, h⟩
      show gG (d + 1) mX8_fault 22 _ [.int r6] σ5 Q
      refine g_goto (tgt := 32) dX8_fault_22 (by decide) ?_
      exact g_iret dX8_fault_32 rfl h
  · have h := h.2 c
    refine g_bipush (v := (-2)) (pc2 := 10) dX8_fault_8 (by decide) rfl ?_
    exact g_iret dX8_fault_10 rfl h
set_option maxRecDepth 20000 in
theorem eX8_find {d : Nat} {σ : gw_S} {Q : Option Value → gw_S → Prop} {x1 : Int32}   (h : ∀ s1 : gw_S, s1 = gw_u σ 0 13 x1 → (Q (some (.int ((-10) - x1))) s1)) : gB d mX8_find [.ref 0, .int x1] σ Q := by
  refine gB_of rfl (Nat.le_of_ble_eq_true rfl) (g_lw (lv2 := [some (.ref 0), some (.int x1)]) ⟨rfl, ⟨rfl, trivial⟩⟩ ?_)
  refine g_aload_n (pc2 := 1) dX8_find_0 rfl rfl ?_
  refine g_iload_n (pc2 := 2) dX8_find_1 rfl rfl ?_
  refine g_put2 (pc2 := 5) dX8_find_2 fp_X8_78 gk_0 rfl rfl rfl rfl (fun s1 es1 => ?_)
  replace h := h s1 es1
  refine g_bipush (v := (-10)) (pc2 := 7) dX8_find_5 (by decide) rfl ?_
  refine g_iload_n (pc2 := 8) dX8_find_7 rfl rfl ?_
  refine g_isub (pc2 := 9) dX8_find_8 rfl ?_
  exact g_iret dX8_find_9 rfl h
set_option maxRecDepth 20000 in
theorem eX8_forget {d : Nat} {σ : gw_S} {Q : Option Value → gw_S → Prop}    (h : ∀ s1 : gw_S, s1 = gw_u σ 22 3 0 → (Q (some (.int (σ 22 3))) s1)) : gB d mX8_forget [.ref 0] σ Q := by
  refine gB_of rfl (Nat.le_of_ble_eq_true rfl) (g_lw (lv2 := [some (.ref 0), none]) ⟨rfl, trivial⟩ ?_)
  refine g_aload_n (pc2 := 1) dX8_forget_0 rfl rfl ?_
  refine g_geta (pc2 := 4) dX8_forget_1 fl_X8_38 gk_0 rfl rfl ?_
  refine g_geti (pc2 := 7) dX8_forget_4 fl_X8_243 gk_22 rfl rfl ?_
  refine g_istore_n (pc2 := 8) dX8_forget_7 (by decide) rfl rfl ?_
  refine g_aload_n (pc2 := 9) dX8_forget_8 rfl rfl ?_
  refine g_geta (pc2 := 12) dX8_forget_9 fl_X8_38 gk_0 rfl rfl ?_
  refine g_iconst (v := 0) (pc2 := 13) dX8_forget_12 (by decide) rfl ?_
  refine g_put2 (pc2 := 16) dX8_forget_13 fp_X8_243 gk_22 rfl rfl rfl rfl (fun s1 es1 => ?_)
  replace h := h s1 es1
  refine g_iload_n (pc2 := 17) dX8_forget_16 rfl rfl ?_
  exact g_iret dX8_forget_17 rfl h
set_option maxRecDepth 20000 in
theorem eX8_forgetDays {d : Nat} {σ : gw_S} {Q : Option Value → gw_S → Prop}    (h : ∀ s1 : gw_S, s1 = gw_u σ 0 10 1 → (∀ s2 : gw_S, s2 = gw_u s1 0 11 (-1) → (Q none s2))) : gB d mX8_forgetDays [.ref 0] σ Q := by
  refine gB_of rfl (Nat.le_of_ble_eq_true rfl) (g_lw (lv2 := [some (.ref 0)]) ⟨rfl, trivial⟩ ?_)
  refine g_aload_n (pc2 := 1) dX8_forgetDays_0 rfl rfl ?_
  refine g_iconst (v := 1) (pc2 := 2) dX8_forgetDays_1 (by decide) rfl ?_
  refine g_put2 (pc2 := 5) dX8_forgetDays_2 fp_X8_67 gk_0 rfl rfl rfl rfl (fun s1 es1 => ?_)
  replace h := h s1 es1
  refine g_aload_n (pc2 := 6) dX8_forgetDays_5 rfl rfl ?_
  refine g_iconst (v := (-1)) (pc2 := 7) dX8_forgetDays_6 (by decide) rfl ?_
  refine g_put2 (pc2 := 10) dX8_forgetDays_7 fp_X8_71 gk_0 rfl rfl rfl rfl (fun s2 es2 => ?_)
  replace h := h s2 es2
  exact g_vret dX8_forgetDays_10 rfl h
set_option maxRecDepth 20000 in
theorem eX8_get {d : Nat} {σ : gw_S} {Q : Option Value → gw_S → Prop} {x1 : Int32} {x2 : Int32} {x3 : Int32}   (h : gB d mX8_isWithin [.int x1, .int 4] σ (fun v σ1 => ∃ r2 : Int32, v = some (.int r2) ∧ (((r2 = 0) → (Q (some (.int (-2147483648))) σ1)) ∧ ((¬ r2 = 0) → (gB d mX8_isWithin [.int x2, .int 3] σ1 (fun v σ3 => ∃ r4 : Int32, v = some (.int r4) ∧ (((¬ r4 = 0) → (gB d mX1_findingAt [.ref 26, .int x1, .int x2, .int x3] σ3 (fun v σ5 => ∃ r6 : Int32, v = some (.int r6) ∧ (((r6 = 0) → (vp_in x1 4 ∧ ∃ q7, ([28, 29, 30, 31] : List Nat)[x1.toNatClampNeg]? = some q7 ∧ gw_k q7 = some (.inl (.int, 60)) ∧ (vp_in x3 60 ∧ (Q (some (.int (σ5 q7 x3.toNatClampNeg))) σ5)))) ∧ ((¬ r6 = 0) → (gB d mX8_find [.ref 0, .int r6] σ5 (fun v σ9 => ∃ r10 : Int32, v = some (.int r10) ∧ (Q (some (.int (-2147483648))) σ9)))))))) ∧ ((r4 = 0) → (Q (some (.int (-2147483648))) σ3))))))))) : gB (d + 1) mX8_get [.ref 0, .int x1, .int x2, .int x3] σ Q := by
  refine gB_of rfl (Nat.le_of_ble_eq_true rfl) (g_lw (lv2 := [some (.ref 0), some (.int x1), some (.int x2), some (.int x3), none]) ⟨rfl, ⟨rfl, ⟨rfl, ⟨rfl, trivial⟩⟩⟩⟩ ?_)
  refine g_iload_n (pc2 := 1) dX8_get_0 rfl rfl ?_
  refine g_iconst (v := 4) (pc2 := 2) dX8_get_1 (by decide) rfl ?_
  refine g_callS (M2 := mX8_isWithin) (as := [.int x1, .int 4]) (st := []) (pc2 := 5) dX8_get_2 ml_X8_81 msX8_isWithin rfl rfl (Nat.le_of_ble_eq_true rfl) (Nat.le_refl _) rfl (h.mono ?_)
  rintro _ σ1 ⟨r2, rfl, h⟩
  show gG (d + 1) mX8_get 5 _ [.int r2] σ1 Q
  refine g_if_eq (tgt := 16) (pc2 := 8) dX8_get_5 (by decide) rfl (fun c => ?_) (fun c => ?_)
  · have h := h.1 c
    refine g_ldcw (pc2 := 19) dX8_get_16 co_X8_306 rfl ?_
    exact g_iret dX8_get_19 rfl h
  · have h := h.2 c
    refine g_iload_n (pc2 := 9) dX8_get_8 rfl rfl ?_
    refine g_iconst (v := 3) (pc2 := 10) dX8_get_9 (by decide) rfl ?_
    refine g_callS (M2 := mX8_isWithin) (as := [.int x2, .int 3]) (st := []) (pc2 := 13) dX8_get_10 ml_X8_81 msX8_isWithin rfl rfl (Nat.le_of_ble_eq_true rfl) (Nat.le_refl _) rfl (h.mono ?_)
    rintro _ σ3 ⟨r4, rfl, h⟩
    show gG (d + 1) mX8_get 13 _ [.int r4] σ3 Q
    refine g_if_ne (tgt := 20) (pc2 := 16) dX8_get_13 (by decide) rfl (fun c => ?_) (fun c => ?_)
    · have h := h.1 c
      refine g_aload_n (pc2 := 21) dX8_get_20 rfl rfl ?_
      refine g_geta (pc2 := 24) dX8_get_21 fl_X8_45 gk_0 rfl rfl ?_
      refine g_iload_n (pc2 := 25) dX8_get_24 rfl rfl ?_
      refine g_iload_n (pc2 := 26) dX8_get_25 rfl rfl ?_
      refine g_iload_n (pc2 := 27) dX8_get_26 rfl rfl ?_
      refine g_callV (M2 := mX1_findingAt) (as := [.int x1, .int x2, .int x3]) (st := []) (pc2 := 30) dX8_get_27 ml_X8_298 mvX1_findingAt gk_26 rfl rfl rfl (Nat.le_of_ble_eq_true rfl) (Nat.le_refl _) rfl (h.mono ?_)
      rintro _ σ5 ⟨r6, rfl, h⟩
      show gG (d + 1) mX8_get 30 _ [.int r6] σ5 Q
      refine g_istore (pc2 := 32) dX8_get_30 (by decide) rfl rfl ?_
      refine g_iload (pc2 := 34) dX8_get_32 rfl rfl ?_
      refine g_if_eq (tgt := 48) (pc2 := 37) dX8_get_34 (by decide) rfl (fun c => ?_) (fun c => ?_)
      · have h := h.1 c
        refine g_aload_n (pc2 := 49) dX8_get_48 rfl rfl ?_
        refine g_geta (pc2 := 52) dX8_get_49 fl_X8_45 gk_0 rfl rfl ?_
        refine g_geta (pc2 := 55) dX8_get_52 fl_X8_176 gk_26 rfl rfl ?_
        refine g_iload_n (pc2 := 56) dX8_get_55 rfl rfl ?_
        obtain ⟨hx, q7, hy, hq8, h⟩ := h
        refine g_aald (pc2 := 57) dX8_get_56 gk_27 rfl hx hy rfl ?_
        refine g_iload_n (pc2 := 58) dX8_get_57 rfl rfl ?_
        obtain ⟨hx, h⟩ := h
        refine g_iald (pc2 := 59) dX8_get_58 hq8 hx rfl ?_
        exact g_iret dX8_get_59 rfl h
      · have h := h.2 c
        refine g_aload_n (pc2 := 38) dX8_get_37 rfl rfl ?_
        refine g_iload (pc2 := 40) dX8_get_38 rfl rfl ?_
        refine g_callV (M2 := mX8_find) (as := [.int r6]) (st := []) (pc2 := 43) dX8_get_40 ml_X8_172 mvX8_find gk_0 rfl rfl rfl (Nat.le_of_ble_eq_true rfl) (Nat.le_refl _) rfl (h.mono ?_)
        rintro _ σ9 ⟨r10, rfl, h⟩
        show gG (d + 1) mX8_get 43 _ [.int r10] σ9 Q
        refine g_pop (pc2 := 44) dX8_get_43 rfl rfl ?_
        refine g_ldcw (pc2 := 47) dX8_get_44 co_X8_306 rfl ?_
        exact g_iret dX8_get_47 rfl h
    · have h := h.2 c
      refine g_ldcw (pc2 := 19) dX8_get_16 co_X8_306 rfl ?_
      exact g_iret dX8_get_19 rfl h
set_option maxRecDepth 20000 in
theorem eX8_has {d : Nat} {σ : gw_S} {Q : Option Value → gw_S → Prop} {x1 : Int32} {x2 : Int32}   (h : gB d mX8_isWithin [.int x1, .int 40] σ (fun v σ1 => ∃ r2 : Int32, v = some (.int r2) ∧ (((r2 = 0) → (Q (some (.int (-2))) σ1)) ∧ ((¬ r2 = 0) → (gB d mX8_isWithin [.int x2, .int 6] σ1 (fun v σ3 => ∃ r4 : Int32, v = some (.int r4) ∧ (((¬ r4 = 0) → (gB d mX8_behind [.ref 0, .int x1] σ3 (fun v σ5 => v = some (.ref 36) ∧ (gB d mX3_voicesWith [.ref 36, .int x2] σ5 (fun v σ6 => ∃ r7 : Int32, v = some (.int r7) ∧ (Q (some (.int r7)) σ6)))))) ∧ ((r4 = 0) → (Q (some (.int (-2))) σ3))))))))) : gB (d + 1) mX8_has [.ref 0, .int x1, .int x2] σ Q := by
  refine gB_of rfl (Nat.le_of_ble_eq_true rfl) (g_lw (lv2 := [some (.ref 0), some (.int x1), some (.int x2)]) ⟨rfl, ⟨rfl, ⟨rfl, trivial⟩⟩⟩ ?_)
  refine g_iload_n (pc2 := 1) dX8_has_0 rfl rfl ?_
  refine g_bipush (v := 40) (pc2 := 3) dX8_has_1 (by decide) rfl ?_
  refine g_callS (M2 := mX8_isWithin) (as := [.int x1, .int 40]) (st := []) (pc2 := 6) dX8_has_3 ml_X8_81 msX8_isWithin rfl rfl (Nat.le_of_ble_eq_true rfl) (Nat.le_refl _) rfl (h.mono ?_)
  rintro _ σ1 ⟨r2, rfl, h⟩
  show gG (d + 1) mX8_has 6 _ [.int r2] σ1 Q
  refine g_if_eq (tgt := 18) (pc2 := 9) dX8_has_6 (by decide) rfl (fun c => ?_) (fun c => ?_)
  · have h := h.1 c
    refine g_bipush (v := (-2)) (pc2 := 20) dX8_has_18 (by decide) rfl ?_
    exact g_iret dX8_has_20 rfl h
  · have h := h.2 c
    refine g_iload_n (pc2 := 10) dX8_has_9 rfl rfl ?_
    refine g_bipush (v := 6) (pc2 := 12) dX8_has_10 (by decide) rfl ?_
    refine g_callS (M2 := mX8_isWithin) (as := [.int x2, .int 6]) (st := []) (pc2 := 15) dX8_has_12 ml_X8_81 msX8_isWithin rfl rfl (Nat.le_of_ble_eq_true rfl) (Nat.le_refl _) rfl (h.mono ?_)
    rintro _ σ3 ⟨r4, rfl, h⟩
    show gG (d + 1) mX8_has 15 _ [.int r4] σ3 Q
    refine g_if_ne (tgt := 21) (pc2 := 18) dX8_has_15 (by decide) rfl (fun c => ?_) (fun c => ?_)
    · have h := h.1 c
      refine g_aload_n (pc2 := 22) dX8_has_21 rfl rfl ?_
      refine g_iload_n (pc2 := 23) dX8_has_22 rfl rfl ?_
      refine g_callV (M2 := mX8_behind) (as := [.int x1]) (st := []) (pc2 := 26) dX8_has_23 ml_X8_186 mvX8_behind gk_0 rfl rfl rfl (Nat.le_of_ble_eq_true rfl) (Nat.le_refl _) rfl (h.mono ?_)
      rintro _ σ5 ⟨rfl, h⟩
      show gG (d + 1) mX8_has 26 _ [.ref 36] σ5 Q
      refine g_iload_n (pc2 := 27) dX8_has_26 rfl rfl ?_
      refine g_callV (M2 := mX3_voicesWith) (as := [.int x2]) (st := []) (pc2 := 30) dX8_has_27 ml_X8_203 mvX3_voicesWith gk_36 rfl rfl rfl (Nat.le_of_ble_eq_true rfl) (Nat.le_refl _) rfl (h.mono ?_)
      rintro _ σ6 ⟨r7, rfl, h⟩
      show gG (d + 1) mX8_has 30 _ [.int r7] σ6 Q
      exact g_iret dX8_has_30 rfl h
    · have h := h.2 c
      refine g_bipush (v := (-2)) (pc2 := 20) dX8_has_18 (by decide) rfl ?_
      exact g_iret dX8_has_20 rfl h
set_option maxRecDepth 20000 in
theorem eX8_heard {d : Nat} {σ : gw_S} {Q : Option Value → gw_S → Prop} {x1 : Int32} {x2 : Int32}   (h : gB d mX8_isWithin [.int x1, .int 40] σ (fun v σ1 => ∃ r2 : Int32, v = some (.int r2) ∧ (((r2 = 0) → (Q (some (.int (-2))) σ1)) ∧ ((¬ r2 = 0) → (gB d mX8_isWithin [.int x2, .int 8] σ1 (fun v σ3 => ∃ r4 : Int32, v = some (.int r4) ∧ (((¬ r4 = 0) → (gB d mX8_behind [.ref 0, .int x1] σ3 (fun v σ5 => v = some (.ref 36) ∧ (vp_in x2 8 ∧ (Q (some (.int (σ5 42 x2.toNatClampNeg))) σ5))))) ∧ ((r4 = 0) → (Q (some (.int (-2))) σ3))))))))) : gB (d + 1) mX8_heard [.ref 0, .int x1, .int x2] σ Q := by
  refine gB_of rfl (Nat.le_of_ble_eq_true rfl) (g_lw (lv2 := [some (.ref 0), some (.int x1), some (.int x2)]) ⟨rfl, ⟨rfl, ⟨rfl, trivial⟩⟩⟩ ?_)
  refine g_iload_n (pc2 := 1) dX8_heard_0 rfl rfl ?_
  refine g_bipush (v := 40) (pc2 := 3) dX8_heard_1 (by decide) rfl ?_
  refine g_callS (M2 := mX8_isWithin) (as := [.int x1, .int 40]) (st := []) (pc2 := 6) dX8_heard_3 ml_X8_81 msX8_isWithin rfl rfl (Nat.le_of_ble_eq_true rfl) (Nat.le_refl _) rfl (h.mono ?_)
  rintro _ σ1 ⟨r2, rfl, h⟩
  show gG (d + 1) mX8_heard 6 _ [.int r2] σ1 Q
  refine g_if_eq (tgt := 18) (pc2 := 9) dX8_heard_6 (by decide) rfl (fun c => ?_) (fun c => ?_)
  · have h := h.1 c
    refine g_bipush (v := (-2)) (pc2 := 20) dX8_heard_18 (by decide) rfl ?_
    exact g_iret dX8_heard_20 rfl h
  · have h := h.2 c
    refine g_iload_n (pc2 := 10) dX8_heard_9 rfl rfl ?_
    refine g_bipush (v := 8) (pc2 := 12) dX8_heard_10 (by decide) rfl ?_
    refine g_callS (M2 := mX8_isWithin) (as := [.int x2, .int 8]) (st := []) (pc2 := 15) dX8_heard_12 ml_X8_81 msX8_isWithin rfl rfl (Nat.le_of_ble_eq_true rfl) (Nat.le_refl _) rfl (h.mono ?_)
    rintro _ σ3 ⟨r4, rfl, h⟩
    show gG (d + 1) mX8_heard 15 _ [.int r4] σ3 Q
    refine g_if_ne (tgt := 21) (pc2 := 18) dX8_heard_15 (by decide) rfl (fun c => ?_) (fun c => ?_)
    · have h := h.1 c
      refine g_aload_n (pc2 := 22) dX8_heard_21 rfl rfl ?_
      refine g_iload_n (pc2 := 23) dX8_heard_22 rfl rfl ?_
      refine g_callV (M2 := mX8_behind) (as := [.int x1]) (st := []) (pc2 := 26) dX8_heard_23 ml_X8_186 mvX8_behind gk_0 rfl rfl rfl (Nat.le_of_ble_eq_true rfl) (Nat.le_refl _) rfl (h.mono ?_)
      rintro _ σ5 ⟨rfl, h⟩
      show gG (d + 1) mX8_heard 26 _ [.ref 36] σ5 Q
      refine g_geta (pc2 := 29) dX8_heard_26 fl_X8_206 gk_36 rfl rfl ?_
      refine g_iload_n (pc2 := 30) dX8_heard_29 rfl rfl ?_
      obtain ⟨hx, h⟩ := h
      refine g_iald (pc2 := 31) dX8_heard_30 gk_42 hx rfl ?_
      exact g_iret dX8_heard_31 rfl h
    · have h := h.2 c
      refine g_bipush (v := (-2)) (pc2 := 20) dX8_heard_18 (by decide) rfl ?_
      exact g_iret dX8_heard_20 rfl h
set_option maxRecDepth 20000 in
theorem eX8_heat {d : Nat} {σ : gw_S} {Q : Option Value → gw_S → Prop} {x1 : Int32} {x2 : Int32} {x3 : Int32} {x4 : Int32}   (h : gB d mX8_isWithin [.int x1, .int 17] σ (fun v σ1 => ∃ r2 : Int32, v = some (.int r2) ∧ (((r2 = 0) → (Q (some (.long (-9223372036854775806))) σ1)) ∧ ((¬ r2 = 0) → (gB d mX8_isBottle [.ref 0, .int x2] σ1 (fun v σ3 => ∃ r4 : Int32, v = some (.int r4) ∧ (((r4 = 0) → (Q (some (.long (-9223372036854775806))) σ3)) ∧ ((¬ r4 = 0) → (gB d mX8_isWithin [.int x3, .int 10] σ3 (fun v σ5 => ∃ r6 : Int32, v = some (.int r6) ∧ (((r6 = 0) → (Q (some (.long (-9223372036854775806))) σ5)) ∧ ((¬ r6 = 0) → (gB d mX8_isWithin [.int x4, .int 2] σ5 (fun v σ7 => ∃ r8 : Int32, v = some (.int r8) ∧ (((¬ r8 = 0) → (vp_in 0 11 ∧ ∃ q9, ([52, 60, 68, 76, 84, 92, 100, 108, 116, 124, 132] : List Nat)[(0 : Int32).toNatClampNeg]? = some q9 ∧ gw_st q9 ∧ (gB d mX3_begin [.ref q9, .ref 7, .int 0, .int 0] σ7 (fun v σ11 => v = none ∧ (gB d mX8_wholeWays [.ref 34, .ref 6, .int 0, .int x3, .int x1, .int x2] σ11 (fun v σ12 => ∃ r13 : Int64, v = some (.long r13) ∧ (((¬ (lg_cmp r13 0) = 0) → (gB d mJ13_numberOfTrailingZeros_95d88 [.long r13] σ12 (fun v σ14 => ∃ r15 : Int32, v = some (.int r15) ∧ (gB d mJ13_numberOfTrailingZeros_95d88 [.long (gw_lshl 1 (4 * (x3 + 1)))] σ14 (fun v σ16 => ∃ r17 : Int32, v = some (.int r17) ∧ (((¬ x4 = 0) → (Q (some (.long (gw_lshr (gw_lshl 1 (4 * (x3 + 1))) (gw_min r15 r17)))) σ16)) ∧ ((x4 = 0) → (Q (some (.long (gw_lshr r13 (gw_min r15 r17)))) σ16)))))))) ∧ (((lg_cmp r13 0) = 0) → (gB d mJ13_numberOfTrailingZeros_95d88 [.long r13] σ12 (fun v σ18 => ∃ r19 : Int32, v = some (.int r19) ∧ (gB d mJ13_numberOfTrailingZeros_95d88 [.long 1] σ18 (fun v σ20 => ∃ r21 : Int32, v = some (.int r21) ∧ (((¬ x4 = 0) → (Q (some (.long (gw_lshr 1 (gw_min r19 r21)))) σ20)) ∧ ((x4 = 0) → (Q (some (.long (gw_lshr r13 (gw_min r19 r21)))) σ20))))))))))))))) ∧ ((r8 = 0) → (Q (some (.long (-9223372036854775806))) σ7))))))))))))))))) : gB (d + 1) mX8_heat [.ref 0, .int x1, .int x2, .int x3, .int x4] σ Q := by
  refine gB_of rfl (Nat.le_of_ble_eq_true rfl) (g_lw (lv2 := [some (.ref 0), some (.int x1), some (.int x2), some (.int x3), some (.int x4), none, none, none, none, none]) ⟨rfl, ⟨rfl, ⟨rfl, ⟨rfl, ⟨rfl, trivial⟩⟩⟩⟩⟩ ?_)
  refine g_iload_n (pc2 := 1) dX8_heat_0 rfl rfl ?_
  refine g_bipush (v := 17) (pc2 := 3) dX8_heat_1 (by decide) rfl ?_
  refine g_callS (M2 := mX8_isWithin) (as := [.int x1, .int 17]) (st := []) (pc2 := 6) dX8_heat_3 ml_X8_81 msX8_isWithin rfl rfl (Nat.le_of_ble_eq_true rfl) (Nat.le_refl _) rfl (h.mono ?_)
  rintro _ σ1 ⟨r2, rfl, h⟩
  show gG (d + 1) mX8_heat 6 _ [.int r2] σ1 Q
  refine g_if_eq (tgt := 35) (pc2 := 9) dX8_heat_6 (by decide) rfl (fun c => ?_) (fun c => ?_)
  · have h := h.1 c
    refine g_ldc2 (pc2 := 38) dX8_heat_35 cl_X8_263 rfl ?_
    exact g_lret dX8_heat_38 rfl h
  · have h := h.2 c
    refine g_aload_n (pc2 := 10) dX8_heat_9 rfl rfl ?_
    refine g_iload_n (pc2 := 11) dX8_heat_10 rfl rfl ?_
    refine g_callV (M2 := mX8_isBottle) (as := [.int x2]) (st := []) (pc2 := 14) dX8_heat_11 ml_X8_108 mvX8_isBottle gk_0 rfl rfl rfl (Nat.le_of_ble_eq_true rfl) (Nat.le_refl _) rfl (h.mono ?_)
    rintro _ σ3 ⟨r4, rfl, h⟩
    show gG (d + 1) mX8_heat 14 _ [.int r4] σ3 Q
    refine g_if_eq (tgt := 35) (pc2 := 17) dX8_heat_14 (by decide) rfl (fun c => ?_) (fun c => ?_)
    · have h := h.1 c
      refine g_ldc2 (pc2 := 38) dX8_heat_35 cl_X8_263 rfl ?_
      exact g_lret dX8_heat_38 rfl h
    · have h := h.2 c
      refine g_iload_n (pc2 := 18) dX8_heat_17 rfl rfl ?_
      refine g_bipush (v := 10) (pc2 := 20) dX8_heat_18 (by decide) rfl ?_
      refine g_callS (M2 := mX8_isWithin) (as := [.int x3, .int 10]) (st := []) (pc2 := 23) dX8_heat_20 ml_X8_81 msX8_isWithin rfl rfl (Nat.le_of_ble_eq_true rfl) (Nat.le_refl _) rfl (h.mono ?_)
      rintro _ σ5 ⟨r6, rfl, h⟩
      show gG (d + 1) mX8_heat 23 _ [.int r6] σ5 Q
      refine g_if_eq (tgt := 35) (pc2 := 26) dX8_heat_23 (by decide) rfl (fun c => ?_) (fun c => ?_)
      · have h := h.1 c
        refine g_ldc2 (pc2 := 38) dX8_heat_35 cl_X8_263 rfl ?_
        exact g_lret dX8_heat_38 rfl h
      · have h := h.2 c
        refine g_iload (pc2 := 28) dX8_heat_26 rfl rfl ?_
        refine g_iconst (v := 2) (pc2 := 29) dX8_heat_28 (by decide) rfl ?_
        refine g_callS (M2 := mX8_isWithin) (as := [.int x4, .int 2]) (st := []) (pc2 := 32) dX8_heat_29 ml_X8_81 msX8_isWithin rfl rfl (Nat.le_of_ble_eq_true rfl) (Nat.le_refl _) rfl (h.mono ?_)
        rintro _ σ7 ⟨r8, rfl, h⟩
        show gG (d + 1) mX8_heat 32 _ [.int r8] σ7 Q
        refine g_if_ne (tgt := 39) (pc2 := 35) dX8_heat_32 (by decide) rfl (fun c => ?_) (fun c => ?_)
        · have h := h.1 c
          refine g_aload_n (pc2 := 40) dX8_heat_39 rfl rfl ?_
          refine g_geta (pc2 := 43) dX8_heat_40 fl_X8_59 gk_0 rfl rfl ?_
          refine g_iconst (v := 0) (pc2 := 44) dX8_heat_43 (by decide) rfl ?_
          obtain ⟨hx, q9, hy, hq10, h⟩ := h
          refine g_aald (pc2 := 45) dX8_heat_44 gk_34 rfl hx hy rfl ?_
          refine g_aload_n (pc2 := 46) dX8_heat_45 rfl rfl ?_
          refine g_geta (pc2 := 49) dX8_heat_46 fl_X8_24 gk_0 rfl rfl ?_
          refine g_geta (pc2 := 52) dX8_heat_49 fl_X8_112 gk_6 rfl rfl ?_
          refine g_iconst (v := 0) (pc2 := 53) dX8_heat_52 (by decide) rfl ?_
          refine g_iconst (v := 0) (pc2 := 54) dX8_heat_53 (by decide) rfl ?_
          refine g_callV (M2 := mX3_begin) (as := [.ref 7, .int 0, .int 0]) (st := []) (pc2 := 57) dX8_heat_54 ml_X8_265 mvX3_begin hq10.1 rfl rfl rfl (Nat.le_of_ble_eq_true rfl) (Nat.le_refl _) rfl (h.mono ?_)
          rintro _ σ11 ⟨rfl, h⟩
          show gG (d + 1) mX8_heat 57 _ [] σ11 Q
          refine g_aload_n (pc2 := 58) dX8_heat_57 rfl rfl ?_
          refine g_geta (pc2 := 61) dX8_heat_58 fl_X8_59 gk_0 rfl rfl ?_
          refine g_aload_n (pc2 := 62) dX8_heat_61 rfl rfl ?_
          refine g_geta (pc2 := 65) dX8_heat_62 fl_X8_24 gk_0 rfl rfl ?_
          refine g_iconst (v := 0) (pc2 := 66) dX8_heat_65 (by decide) rfl ?_
          refine g_iload_n (pc2 := 67) dX8_heat_66 rfl rfl ?_
          refine g_iload_n (pc2 := 68) dX8_heat_67 rfl rfl ?_
          refine g_iload_n (pc2 := 69) dX8_heat_68 rfl rfl ?_
          refine g_callS (M2 := mX8_wholeWays) (as := [.ref 34, .ref 6, .int 0, .int x3, .int x1, .int x2]) (st := []) (pc2 := 72) dX8_heat_69 ml_X8_269 msX8_wholeWays rfl rfl (Nat.le_of_ble_eq_true rfl) (Nat.le_refl _) rfl (h.mono ?_)
          rintro _ σ12 ⟨r13, rfl, h⟩
          show gG (d + 1) mX8_heat 72 _ [.long r13] σ12 Q
          refine g_lstore (pc2 := 74) dX8_heat_72 (by decide) rfl rfl ?_
          refine g_lconst (v := 1) (pc2 := 75) dX8_heat_74 (by decide) rfl ?_
          refine g_iconst (v := 4) (pc2 := 76) dX8_heat_75 (by decide) rfl ?_
          refine g_iload_n (pc2 := 77) dX8_heat_76 rfl rfl ?_
          refine g_iconst (v := 1) (pc2 := 78) dX8_heat_77 (by decide) rfl ?_
          refine g_iadd (pc2 := 79) dX8_heat_78 rfl ?_
          refine g_imul (pc2 := 80) dX8_heat_79 rfl ?_
          refine g_lshl (pc2 := 81) dX8_heat_80 rfl ?_
          refine g_lstore (pc2 := 83) dX8_heat_81 (by decide) rfl rfl ?_
          refine g_lload (pc2 := 85) dX8_heat_83 rfl rfl ?_
          refine g_lconst (v := 0) (pc2 := 86) dX8_heat_85 (by decide) rfl ?_
          refine g_lcmp (pc2 := 87) dX8_heat_86 rfl ?_
          refine g_if_ne (tgt := 93) (pc2 := 90) dX8_heat_87 (by decide) rfl (fun c => ?_) (fun c => ?_)
          · have h := h.1 c
            refine g_lload (pc2 := 95) dX8_heat_93 rfl rfl ?_
            refine g_callS (M2 := mJ13_numberOfTrailingZeros_95d88) (as := [.long r13]) (st := []) (pc2 := 98) dX8_heat_95 ml_X8_273 msJ13_numberOfTrailingZeros_95d88 rfl rfl (Nat.le_of_ble_eq_true rfl) (Nat.le_refl _) rfl (h.mono ?_)
            rintro _ σ14 ⟨r15, rfl, h⟩
            show gG (d + 1) mX8_heat 98 _ [.int r15] σ14 Q
            refine g_lload (pc2 := 100) dX8_heat_98 rfl rfl ?_
            refine g_callS (M2 := mJ13_numberOfTrailingZeros_95d88) (as := [.long (gw_lshl 1 (4 * (x3 + 1)))]) (st := [.int r15]) (pc2 := 103) dX8_heat_100 ml_X8_273 msJ13_numberOfTrailingZeros_95d88 rfl rfl (Nat.le_of_ble_eq_true rfl) (Nat.le_refl _) rfl (h.mono ?_)
            rintro _ σ16 ⟨r17, rfl, h⟩
            show gG (d + 1) mX8_heat 103 _ [.int r17, .int r15] σ16 Q
            refine g_mmin (pc2 := 106) dX8_heat_103 ml_X8_277 (Nat.le_add_left 1 _) (Nat.le_of_ble_eq_true rfl) rfl ?_
            refine g_istore (pc2 := 108) dX8_heat_106 (by decide) rfl rfl ?_
            refine g_iload (pc2 := 110) dX8_heat_108 rfl rfl ?_
            refine g_if_ne (tgt := 118) (pc2 := 113) dX8_heat_110 (by decide) rfl (fun c => ?_) (fun c => ?_)
            · have h := h.1 c
              refine g_lload (pc2 := 120) dX8_heat_118 rfl rfl ?_
              refine g_iload (pc2 := 122) dX8_heat_120 rfl rfl ?_
              refine g_lshr (pc2 := 123) dX8_heat_122 rfl ?_
              exact g_lret dX8_heat_123 rfl h
            · have h := h.2 c
              refine g_lload (pc2 := 115) dX8_heat_113 rfl rfl ?_
              refine g_goto (tgt := 120) dX8_heat_115 (by decide) ?_
              refine g_iload (pc2 := 122) dX8_heat_120 rfl rfl ?_
              refine g_lshr (pc2 := 123) dX8_heat_122 rfl ?_
              exact g_lret dX8_heat_123 rfl h
          · have h := h.2 c
            refine g_lconst (v := 1) (pc2 := 91) dX8_heat_90 (by decide) rfl ?_
            refine g_lstore (pc2 := 93) dX8_heat_91 (by decide) rfl rfl ?_
            refine g_lload (pc2 := 95) dX8_heat_93 rfl rfl ?_
            refine g_callS (M2 := mJ13_numberOfTrailingZeros_95d88) (as := [.long r13]) (st := []) (pc2 := 98) dX8_heat_95 ml_X8_273 msJ13_numberOfTrailingZeros_95d88 rfl rfl (Nat.le_of_ble_eq_true rfl) (Nat.le_refl _) rfl (h.mono ?_)
            rintro _ σ18 ⟨r19, rfl, h⟩
            show gG (d + 1) mX8_heat 98 _ [.int r19] σ18 Q
            refine g_lload (pc2 := 100) dX8_heat_98 rfl rfl ?_
            refine g_callS (M2 := mJ13_numberOfTrailingZeros_95d88) (as := [.long 1]) (st := [.int r19]) (pc2 := 103) dX8_heat_100 ml_X8_273 msJ13_numberOfTrailingZeros_95d88 rfl rfl (Nat.le_of_ble_eq_true rfl) (Nat.le_refl _) rfl (h.mono ?_)
            rintro _ σ20 ⟨r21, rfl, h⟩
            show gG (d + 1) mX8_heat 103 _ [.int r21, .int r19] σ20 Q
            refine g_mmin (pc2 := 106) dX8_heat_103 ml_X8_277 (Nat.le_add_left 1 _) (Nat.le_of_ble_eq_true rfl) rfl ?_
            refine g_istore (pc2 := 108) dX8_heat_106 (by decide) rfl rfl ?_
            refine g_iload (pc2 := 110) dX8_heat_108 rfl rfl ?_
            refine g_if_ne (tgt := 118) (pc2 := 113) dX8_heat_110 (by decide) rfl (fun c => ?_) (fun c => ?_)
            · have h := h.1 c
              refine g_lload (pc2 := 120) dX8_heat_118 rfl rfl ?_
              refine g_iload (pc2 := 122) dX8_heat_120 rfl rfl ?_
              refine g_lshr (pc2 := 123) dX8_heat_122 rfl ?_
              exact g_lret dX8_heat_123 rfl h
            · have h := h.2 c
              refine g_lload (pc2 := 115) dX8_heat_113 rfl rfl ?_
              refine g_goto (tgt := 120) dX8_heat_115 (by decide) ?_
              refine g_iload (pc2 := 122) dX8_heat_120 rfl rfl ?_
              refine g_lshr (pc2 := 123) dX8_heat_122 rfl ?_
              exact g_lret dX8_heat_123 rfl h
        · have h := h.2 c
          refine g_ldc2 (pc2 := 38) dX8_heat_35 cl_X8_263 rfl ?_
          exact g_lret dX8_heat_38 rfl h
set_option maxRecDepth 20000 in
theorem eX8_hid {d : Nat} {σ : gw_S} {Q : Option Value → gw_S → Prop}    (h : gG (d + 1) mX8_hid 4 [some (.ref 0), some (.int 0), some (.int 0)] [] σ Q) : gB (d + 1) mX8_hid [.ref 0] σ Q := by
  refine gB_of rfl (Nat.le_of_ble_eq_true rfl) (g_lw (lv2 := [some (.ref 0), none, none]) ⟨rfl, trivial⟩ ?_)
  refine g_iconst (v := 0) (pc2 := 1) dX8_hid_0 (by decide) rfl ?_
  refine g_istore_n (pc2 := 2) dX8_hid_1 (by decide) rfl rfl ?_
  refine g_iconst (v := 0) (pc2 := 3) dX8_hid_2 (by decide) rfl ?_
  refine g_istore_n (pc2 := 4) dX8_hid_3 (by decide) rfl rfl ?_
  exact g_lw (lv2 := [some (.ref 0), some (.int 0), some (.int 0)]) ⟨rfl, ⟨rfl, ⟨rfl, trivial⟩⟩⟩ h
set_option maxRecDepth 20000 in
theorem bX8_hid_4 {d : Nat} {σ : gw_S} {Q : Option Value → gw_S → Prop} {x1 : Int32} {x2 : Int32}   (h : (((σ 11 4) ≤ x2) → (Q (some (.int x1)) σ)) ∧ ((¬ (σ 11 4) ≤ x2) → (gB d mX8_comesOut [.ref 0, .int x2, .int 0, .int 0] σ (fun v σ1 => ∃ r2 : Int32, v = some (.int r2) ∧ (((r2 = 0) → (gG (d + 1) mX8_hid 4 [some (.ref 0), some (.int x1), some (.int (x2 + 1))] [] σ1 Q)) ∧ ((¬ r2 = 0) → (gG (d + 1) mX8_hid 4 [some (.ref 0), some (.int (x1 ||| ((1 : Int32) <<< (x2 &&& 31)))), some (.int (x2 + 1))] [] σ1 Q))))))) : gG (d + 1) mX8_hid 4 [some (.ref 0), some (.int x1), some (.int x2)] [] σ Q := by
  refine g_iload_n (pc2 := 5) dX8_hid_4 rfl rfl ?_
  refine g_aload_n (pc2 := 6) dX8_hid_5 rfl rfl ?_
  refine g_geta (pc2 := 9) dX8_hid_6 fl_X8_24 gk_0 rfl rfl ?_
  refine g_geta (pc2 := 12) dX8_hid_9 fl_X8_150 gk_6 rfl rfl ?_
  refine g_geti (pc2 := 15) dX8_hid_12 fl_X8_154 gk_11 rfl rfl ?_
  refine g_icmp_ge (tgt := 40) (pc2 := 18) dX8_hid_15 (by decide) rfl (fun c => ?_) (fun c => ?_)
  · have h := h.1 c
    refine g_iload_n (pc2 := 41) dX8_hid_40 rfl rfl ?_
    exact g_iret dX8_hid_41 rfl h
  · have h := h.2 c
    refine g_aload_n (pc2 := 19) dX8_hid_18 rfl rfl ?_
    refine g_iload_n (pc2 := 20) dX8_hid_19 rfl rfl ?_
    refine g_iconst (v := 0) (pc2 := 21) dX8_hid_20 (by decide) rfl ?_
    refine g_iconst (v := 0) (pc2 := 22) dX8_hid_21 (by decide) rfl ?_
    refine g_callV (M2 := mX8_comesOut) (as := [.int x2, .int 0, .int 0]) (st := []) (pc2 := 25) dX8_hid_22 ml_X8_247 mvX8_comesOut gk_0 rfl rfl rfl (Nat.le_of_ble_eq_true rfl) (Nat.le_refl _) rfl (h.mono ?_)
    rintro _ σ1 ⟨r2, rfl, h⟩
    show gG (d + 1) mX8_hid 25 _ [.int r2] σ1 Q
    refine g_if_eq (tgt := 34) (pc2 := 28) dX8_hid_25 (by decide) rfl (fun c => ?_) (fun c => ?_)
    · have h := h.1 c
      refine g_iinc2 (c := 1) (pc2 := 37) dX8_hid_34 rfl (by decide) (by decide) rfl rfl ?_
      refine g_goto (tgt := 4) dX8_hid_37 (by decide) ?_
      exact g_lw (lv2 := [some (.ref 0), some (.int x1), some (.int (x2 + 1))]) ⟨rfl, ⟨rfl, ⟨rfl, trivial⟩⟩⟩ h
    · have h := h.2 c
      refine g_iload_n (pc2 := 29) dX8_hid_28 rfl rfl ?_
      refine g_iconst (v := 1) (pc2 := 30) dX8_hid_29 (by decide) rfl ?_
      refine g_iload_n (pc2 := 31) dX8_hid_30 rfl rfl ?_
      refine g_ishl (pc2 := 32) dX8_hid_31 rfl ?_
      refine g_ior (pc2 := 33) dX8_hid_32 rfl ?_
      refine g_istore_n (pc2 := 34) dX8_hid_33 (by decide) rfl rfl ?_
      refine g_iinc2 (c := 1) (pc2 := 37) dX8_hid_34 rfl (by decide) (by decide) rfl rfl ?_
      refine g_goto (tgt := 4) dX8_hid_37 (by decide) ?_
      exact g_lw (lv2 := [some (.ref 0), some (.int (x1 ||| ((1 : Int32) <<< (x2 &&& 31)))), some (.int (x2 + 1))]) ⟨rfl, ⟨rfl, ⟨rfl, trivial⟩⟩⟩ h
set_option maxRecDepth 20000 in
theorem eX8_holdWithoutEach {d : Nat} {σ : gw_S} {Q : Option Value → gw_S → Prop} {x1 : Int32} {x2 : Int32}   (h : gG (d + 1) mX8_holdWithoutEach 2 [some (.ref 0), some (.int x1), some (.int x2), some (.int 0), none] [] σ Q) : gB (d + 1) mX8_holdWithoutEach [.ref 0, .int x1, .int x2] σ Q := by
  refine gB_of rfl (Nat.le_of_ble_eq_true rfl) (g_lw (lv2 := [some (.ref 0), some (.int x1), some (.int x2), none, none]) ⟨rfl, ⟨rfl, ⟨rfl, trivial⟩⟩⟩ ?_)
  refine g_iconst (v := 0) (pc2 := 1) dX8_holdWithoutEach_0 (by decide) rfl ?_
  refine g_istore_n (pc2 := 2) dX8_holdWithoutEach_1 (by decide) rfl rfl ?_
  exact g_lw (lv2 := [some (.ref 0), some (.int x1), some (.int x2), some (.int 0), none]) ⟨rfl, ⟨rfl, ⟨rfl, ⟨rfl, trivial⟩⟩⟩⟩ h
set_option maxRecDepth 20000 in
theorem bX8_holdWithoutEach_2 {d : Nat} {σ : gw_S} {Q : Option Value → gw_S → Prop} {x1 : Int32} {x2 : Int32} {x3 : Int32}   (h : (((σ 11 4) ≤ x3) → (Q none σ)) ∧ ((¬ (σ 11 4) ≤ x3) → (((¬ ((x1 >>> (x3 &&& 31)) &&& 1) = 0) → (gB d mX3_begin [.ref 44, .ref 7, .int 0, .int 0] σ (fun v σ1 => v = none ∧ (gG (d + 1) mX8_holdWithoutEach 46 [some (.ref 0), some (.int x1), some (.int x2), some (.int x3), some (.int 0)] [] σ1 Q)))) ∧ ((((x1 >>> (x3 &&& 31)) &&& 1) = 0) → (gG (d + 1) mX8_holdWithoutEach 2 [some (.ref 0), some (.int x1), some (.int x2), some (.int (x3 + 1)), none] [] σ Q))))) : gG (d + 1) mX8_holdWithoutEach 2 [some (.ref 0), some (.int x1), some (.int x2), some (.int x3), none] [] σ Q := by
  refine g_iload_n (pc2 := 3) dX8_holdWithoutEach_2 rfl rfl ?_
  refine g_aload_n (pc2 := 4) dX8_holdWithoutEach_3 rfl rfl ?_
  refine g_geta (pc2 := 7) dX8_holdWithoutEach_4 fl_X8_24 gk_0 rfl rfl ?_
  refine g_geta (pc2 := 10) dX8_holdWithoutEach_7 fl_X8_150 gk_6 rfl rfl ?_
  refine g_geti (pc2 := 13) dX8_holdWithoutEach_10 fl_X8_154 gk_11 rfl rfl ?_
  refine g_icmp_ge (tgt := 121) (pc2 := 16) dX8_holdWithoutEach_13 (by decide) rfl (fun c => ?_) (fun c => ?_)
  · have h := h.1 c
    exact g_vret dX8_holdWithoutEach_121 rfl h
  · have h := h.2 c
    refine g_iload_n (pc2 := 17) dX8_holdWithoutEach_16 rfl rfl ?_
    refine g_iload_n (pc2 := 18) dX8_holdWithoutEach_17 rfl rfl ?_
    refine g_ishr (pc2 := 19) dX8_holdWithoutEach_18 rfl ?_
    refine g_iconst (v := 1) (pc2 := 20) dX8_holdWithoutEach_19 (by decide) rfl ?_
    refine g_iand (pc2 := 21) dX8_holdWithoutEach_20 rfl ?_
    refine g_if_ne (tgt := 27) (pc2 := 24) dX8_holdWithoutEach_21 (by decide) rfl (fun c => ?_) (fun c => ?_)
    · have h := h.1 c
      refine g_aload_n (pc2 := 28) dX8_holdWithoutEach_27 rfl rfl ?_
      refine g_geta (pc2 := 31) dX8_holdWithoutEach_28 fl_X8_56 gk_0 rfl rfl ?_
      refine g_aload_n (pc2 := 32) dX8_holdWithoutEach_31 rfl rfl ?_
      refine g_geta (pc2 := 35) dX8_holdWithoutEach_32 fl_X8_24 gk_0 rfl rfl ?_
      refine g_geta (pc2 := 38) dX8_holdWithoutEach_35 fl_X8_112 gk_6 rfl rfl ?_
      refine g_iconst (v := 0) (pc2 := 39) dX8_holdWithoutEach_38 (by decide) rfl ?_
      refine g_iconst (v := 0) (pc2 := 40) dX8_holdWithoutEach_39 (by decide) rfl ?_
      refine g_callV (M2 := mX3_begin) (as := [.ref 7, .int 0, .int 0]) (st := []) (pc2 := 43) dX8_holdWithoutEach_40 ml_X8_265 mvX3_begin gk_44 rfl rfl rfl (Nat.le_of_ble_eq_true rfl) (Nat.le_refl _) rfl (h.mono ?_)
      rintro _ σ1 ⟨rfl, h⟩
      show gG (d + 1) mX8_holdWithoutEach 43 _ [] σ1 Q
      refine g_iconst (v := 0) (pc2 := 44) dX8_holdWithoutEach_43 (by decide) rfl ?_
      refine g_istore (pc2 := 46) dX8_holdWithoutEach_44 (by decide) rfl rfl ?_
      exact g_lw (lv2 := [some (.ref 0), some (.int x1), some (.int x2), some (.int x3), some (.int 0)]) ⟨rfl, ⟨rfl, ⟨rfl, ⟨rfl, ⟨rfl, trivial⟩⟩⟩⟩⟩ h
    · have h := h.2 c
      refine g_goto (tgt := 115) dX8_holdWithoutEach_24 (by decide) ?_
      refine g_iinc2 (c := 1) (pc2 := 118) dX8_holdWithoutEach_115 rfl (by decide) (by decide) rfl rfl ?_
      refine g_goto (tgt := 2) dX8_holdWithoutEach_118 (by decide) ?_
      exact g_lw (lv2 := [some (.ref 0), some (.int x1), some (.int x2), some (.int (x3 + 1)), none]) ⟨rfl, ⟨rfl, ⟨rfl, ⟨rfl, trivial⟩⟩⟩⟩ h
set_option maxRecDepth 20000 in
theorem bX8_holdWithoutEach_46 {d : Nat} {σ : gw_S} {Q : Option Value → gw_S → Prop} {x1 : Int32} {x2 : Int32} {x3 : Int32} {x4 : Int32}   (h : ((x2 < x4) → (gG (d + 1) mX8_holdWithoutEach 73 [some (.ref 0), some (.int x1), some (.int x2), some (.int x3), some (.int 0)] [] σ Q)) ∧ ((¬ x2 < x4) → (gB d mX3_passDay [.ref 44, .ref 6, .int x3] σ (fun v σ2 => v = none ∧ (gG (d + 1) mX8_holdWithoutEach 46 [some (.ref 0), some (.int x1), some (.int x2), some (.int x3), some (.int (x4 + 1))] [] σ2 Q))))) : gG (d + 1) mX8_holdWithoutEach 46 [some (.ref 0), some (.int x1), some (.int x2), some (.int x3), some (.int x4)] [] σ Q := by
  refine g_iload (pc2 := 48) dX8_holdWithoutEach_46 rfl rfl ?_
  refine g_iload_n (pc2 := 49) dX8_holdWithoutEach_48 rfl rfl ?_
  refine g_icmp_gt (tgt := 70) (pc2 := 52) dX8_holdWithoutEach_49 (by decide) rfl (fun c => ?_) (fun c => ?_)
  · have h := h.1 c
    refine g_iconst (v := 0) (pc2 := 71) dX8_holdWithoutEach_70 (by decide) rfl ?_
    refine g_istore (pc2 := 73) dX8_holdWithoutEach_71 (by decide) rfl rfl ?_
    exact g_lw (lv2 := [some (.ref 0), some (.int x1), some (.int x2), some (.int x3), some (.int 0)]) ⟨rfl, ⟨rfl, ⟨rfl, ⟨rfl, ⟨rfl, trivial⟩⟩⟩⟩⟩ h
  · have h := h.2 c
    refine g_aload_n (pc2 := 53) dX8_holdWithoutEach_52 rfl rfl ?_
    refine g_geta (pc2 := 56) dX8_holdWithoutEach_53 fl_X8_56 gk_0 rfl rfl ?_
    refine g_aload_n (pc2 := 57) dX8_holdWithoutEach_56 rfl rfl ?_
    refine g_geta (pc2 := 60) dX8_holdWithoutEach_57 fl_X8_24 gk_0 rfl rfl ?_
    refine g_iload_n (pc2 := 61) dX8_holdWithoutEach_60 rfl rfl ?_
    refine g_callV (M2 := mX3_passDay) (as := [.ref 6, .int x3]) (st := []) (pc2 := 64) dX8_holdWithoutEach_61 ml_X8_282 mvX3_passDay gk_44 rfl rfl rfl (Nat.le_of_ble_eq_true rfl) (Nat.le_refl _) rfl (h.mono ?_)
    rintro _ σ2 ⟨rfl, h⟩
    show gG (d + 1) mX8_holdWithoutEach 64 _ [] σ2 Q
    refine g_iinc2 (c := 1) (pc2 := 67) dX8_holdWithoutEach_64 rfl (by decide) (by decide) rfl rfl ?_
    refine g_goto (tgt := 46) dX8_holdWithoutEach_67 (by decide) ?_
    exact g_lw (lv2 := [some (.ref 0), some (.int x1), some (.int x2), some (.int x3), some (.int (x4 + 1))]) ⟨rfl, ⟨rfl, ⟨rfl, ⟨rfl, ⟨rfl, trivial⟩⟩⟩⟩⟩ h
set_option maxRecDepth 20000 in
theorem bX8_holdWithoutEach_73 {d : Nat} {σ : gw_S} {Q : Option Value → gw_S → Prop} {x1 : Int32} {x2 : Int32} {x3 : Int32} {x4 : Int32}   (h : (((σ 7 4) ≤ x4) → (gG (d + 1) mX8_holdWithoutEach 2 [some (.ref 0), some (.int x1), some (.int x2), some (.int (x3 + 1)), none] [] σ Q)) ∧ ((¬ (σ 7 4) ≤ x4) → (gB d mX3_allIn [.ref 44, .int x4] σ (fun v σ3 => ∃ r4 : Int32, v = some (.int r4) ∧ (vp_in ((8 * x3) + x4) 128 ∧ (∀ s5 : gw_S, s5 = gw_u σ3 35 ((8 * x3) + x4).toNatClampNeg r4 → (gG (d + 1) mX8_holdWithoutEach 73 [some (.ref 0), some (.int x1), some (.int x2), some (.int x3), some (.int (x4 + 1))] [] s5 Q))))))) : gG (d + 1) mX8_holdWithoutEach 73 [some (.ref 0), some (.int x1), some (.int x2), some (.int x3), some (.int x4)] [] σ Q := by
  refine g_iload (pc2 := 75) dX8_holdWithoutEach_73 rfl rfl ?_
  refine g_aload_n (pc2 := 76) dX8_holdWithoutEach_75 rfl rfl ?_
  refine g_geta (pc2 := 79) dX8_holdWithoutEach_76 fl_X8_24 gk_0 rfl rfl ?_
  refine g_geta (pc2 := 82) dX8_holdWithoutEach_79 fl_X8_112 gk_6 rfl rfl ?_
  refine g_geti (pc2 := 85) dX8_holdWithoutEach_82 fl_X8_242 gk_7 rfl rfl ?_
  refine g_icmp_ge (tgt := 115) (pc2 := 88) dX8_holdWithoutEach_85 (by decide) rfl (fun c => ?_) (fun c => ?_)
  · have h := h.1 c
    refine g_iinc2 (c := 1) (pc2 := 118) dX8_holdWithoutEach_115 rfl (by decide) (by decide) rfl rfl ?_
    refine g_goto (tgt := 2) dX8_holdWithoutEach_118 (by decide) ?_
    exact g_lw (lv2 := [some (.ref 0), some (.int x1), some (.int x2), some (.int (x3 + 1)), none]) ⟨rfl, ⟨rfl, ⟨rfl, ⟨rfl, trivial⟩⟩⟩⟩ h
  · have h := h.2 c
    refine g_aload_n (pc2 := 89) dX8_holdWithoutEach_88 rfl rfl ?_
    refine g_geta (pc2 := 92) dX8_holdWithoutEach_89 fl_X8_63 gk_0 rfl rfl ?_
    refine g_bipush (v := 8) (pc2 := 94) dX8_holdWithoutEach_92 (by decide) rfl ?_
    refine g_iload_n (pc2 := 95) dX8_holdWithoutEach_94 rfl rfl ?_
    refine g_imul (pc2 := 96) dX8_holdWithoutEach_95 rfl ?_
    refine g_iload (pc2 := 98) dX8_holdWithoutEach_96 rfl rfl ?_
    refine g_iadd (pc2 := 99) dX8_holdWithoutEach_98 rfl ?_
    refine g_aload_n (pc2 := 100) dX8_holdWithoutEach_99 rfl rfl ?_
    refine g_geta (pc2 := 103) dX8_holdWithoutEach_100 fl_X8_56 gk_0 rfl rfl ?_
    refine g_iload (pc2 := 105) dX8_holdWithoutEach_103 rfl rfl ?_
    refine g_callV (M2 := mX3_allIn) (as := [.int x4]) (st := [.int ((8 * x3) + x4), .ref 35]) (pc2 := 108) dX8_holdWithoutEach_105 ml_X8_190 mvX3_allIn gk_44 rfl rfl rfl (Nat.le_of_ble_eq_true rfl) (Nat.le_refl _) rfl (h.mono ?_)
    rintro _ σ3 ⟨r4, rfl, h⟩
    show gG (d + 1) mX8_holdWithoutEach 108 _ [.int r4, .int ((8 * x3) + x4), .ref 35] σ3 Q
    obtain ⟨hx, h⟩ := h
    refine g_iast2 (pc2 := 109) dX8_holdWithoutEach_108 gk_35 hx rfl (fun s5 es5 => ?_)
    replace h := h s5 es5
    refine g_iinc2 (c := 1) (pc2 := 112) dX8_holdWithoutEach_109 rfl (by decide) (by decide) rfl rfl ?_
    refine g_goto (tgt := 73) dX8_holdWithoutEach_112 (by decide) ?_
    exact g_lw (lv2 := [some (.ref 0), some (.int x1), some (.int x2), some (.int x3), some (.int (x4 + 1))]) ⟨rfl, ⟨rfl, ⟨rfl, ⟨rfl, ⟨rfl, trivial⟩⟩⟩⟩⟩ h
set_option maxRecDepth 20000 in
theorem eX8_holds {d : Nat} {σ : gw_S} {Q : Option Value → gw_S → Prop} {x1 : Int32} {x2 : Int32} {x3 : Int32}   (h : gB d mX8_isWithin [.int x1, .int 40] σ (fun v σ1 => ∃ r2 : Int32, v = some (.int r2) ∧ (((r2 = 0) → (Q (some (.int (-2))) σ1)) ∧ ((¬ r2 = 0) → (gB d mX8_isBottle [.ref 0, .int x2] σ1 (fun v σ3 => ∃ r4 : Int32, v = some (.int r4) ∧ (((r4 = 0) → (Q (some (.int (-2))) σ3)) ∧ ((¬ r4 = 0) → (((x3 = (-1)) → (gB d mX8_behind [.ref 0, .int x1] σ3 (fun v σ5 => v = some (.ref 36) ∧ (((¬ x3 = (-1)) → (gB d mX3_muchOf [.ref 36, .int x2, .int x3] σ5 (fun v σ6 => ∃ r7 : Int32, v = some (.int r7) ∧ (Q (some (.int r7)) σ6)))) ∧ ((x3 = (-1)) → (gB d mX3_allIn [.ref 36, .int x2] σ5 (fun v σ8 => ∃ r9 : Int32, v = some (.int r9) ∧ (Q (some (.int r9)) σ8)))))))) ∧ ((¬ x3 = (-1)) → (gB d mX8_isWithin [.int x3, .int 8] σ3 (fun v σ10 => ∃ r11 : Int32, v = some (.int r11) ∧ (((¬ r11 = 0) → (gB d mX8_behind [.ref 0, .int x1] σ10 (fun v σ12 => v = some (.ref 36) ∧ (((¬ x3 = (-1)) → (gB d mX3_muchOf [.ref 36, .int x2, .int x3] σ12 (fun v σ13 => ∃ r14 : Int32, v = some (.int r14) ∧ (Q (some (.int r14)) σ13)))) ∧ ((x3 = (-1)) → (gB d mX3_allIn [.ref 36, .int x2] σ12 (fun v σ15 => ∃ r16 : Int32, v = some (.int r16) ∧ (Q (some (.int r16)) σ15)))))))) ∧ ((r11 = 0) → (Q (some (.int (-2))) σ10))))))))))))))) : gB (d + 1) mX8_holds [.ref 0, .int x1, .int x2, .int x3] σ Q := by
  refine gB_of rfl (Nat.le_of_ble_eq_true rfl) (g_lw (lv2 := [some (.ref 0), some (.int x1), some (.int x2), some (.int x3), none]) ⟨rfl, ⟨rfl, ⟨rfl, ⟨rfl, trivial⟩⟩⟩⟩ ?_)
  refine g_iload_n (pc2 := 1) dX8_holds_0 rfl rfl ?_
  refine g_bipush (v := 40) (pc2 := 3) dX8_holds_1 (by decide) rfl ?_
  refine g_callS (M2 := mX8_isWithin) (as := [.int x1, .int 40]) (st := []) (pc2 := 6) dX8_holds_3 ml_X8_81 msX8_isWithin rfl rfl (Nat.le_of_ble_eq_true rfl) (Nat.le_refl _) rfl (h.mono ?_)
  rintro _ σ1 ⟨r2, rfl, h⟩
  show gG (d + 1) mX8_holds 6 _ [.int r2] σ1 Q
  refine g_if_eq (tgt := 31) (pc2 := 9) dX8_holds_6 (by decide) rfl (fun c => ?_) (fun c => ?_)
  · have h := h.1 c
    refine g_bipush (v := (-2)) (pc2 := 33) dX8_holds_31 (by decide) rfl ?_
    exact g_iret dX8_holds_33 rfl h
  · have h := h.2 c
    refine g_aload_n (pc2 := 10) dX8_holds_9 rfl rfl ?_
    refine g_iload_n (pc2 := 11) dX8_holds_10 rfl rfl ?_
    refine g_callV (M2 := mX8_isBottle) (as := [.int x2]) (st := []) (pc2 := 14) dX8_holds_11 ml_X8_108 mvX8_isBottle gk_0 rfl rfl rfl (Nat.le_of_ble_eq_true rfl) (Nat.le_refl _) rfl (h.mono ?_)
    rintro _ σ3 ⟨r4, rfl, h⟩
    show gG (d + 1) mX8_holds 14 _ [.int r4] σ3 Q
    refine g_if_eq (tgt := 31) (pc2 := 17) dX8_holds_14 (by decide) rfl (fun c => ?_) (fun c => ?_)
    · have h := h.1 c
      refine g_bipush (v := (-2)) (pc2 := 33) dX8_holds_31 (by decide) rfl ?_
      exact g_iret dX8_holds_33 rfl h
    · have h := h.2 c
      refine g_iload_n (pc2 := 18) dX8_holds_17 rfl rfl ?_
      refine g_iconst (v := (-1)) (pc2 := 19) dX8_holds_18 (by decide) rfl ?_
      refine g_icmp_eq (tgt := 34) (pc2 := 22) dX8_holds_19 (by decide) rfl (fun c => ?_) (fun c => ?_)
      · have h := h.1 c
        refine g_aload_n (pc2 := 35) dX8_holds_34 rfl rfl ?_
        refine g_iload_n (pc2 := 36) dX8_holds_35 rfl rfl ?_
        refine g_callV (M2 := mX8_behind) (as := [.int x1]) (st := []) (pc2 := 39) dX8_holds_36 ml_X8_186 mvX8_behind gk_0 rfl rfl rfl (Nat.le_of_ble_eq_true rfl) (Nat.le_refl _) rfl (h.mono ?_)
        rintro _ σ5 ⟨rfl, h⟩
        show gG (d + 1) mX8_holds 39 _ [.ref 36] σ5 Q
        refine g_astore (pc2 := 41) dX8_holds_39 (by decide) rfl rfl ?_
        refine g_iload_n (pc2 := 42) dX8_holds_41 rfl rfl ?_
        refine g_iconst (v := (-1)) (pc2 := 43) dX8_holds_42 (by decide) rfl ?_
        refine g_icmp_ne (tgt := 55) (pc2 := 46) dX8_holds_43 (by decide) rfl (fun c => ?_) (fun c => ?_)
        · have h := h.1 c
          refine g_aload (pc2 := 57) dX8_holds_55 rfl rfl ?_
          refine g_iload_n (pc2 := 58) dX8_holds_57 rfl rfl ?_
          refine g_iload_n (pc2 := 59) dX8_holds_58 rfl rfl ?_
          refine g_callV (M2 := mX3_muchOf) (as := [.int x2, .int x3]) (st := []) (pc2 := 62) dX8_holds_59 ml_X8_193 mvX3_muchOf gk_36 rfl rfl rfl (Nat.le_of_ble_eq_true rfl) (Nat.le_refl _) rfl (h.mono ?_)
          rintro _ σ6 ⟨r7, rfl, h⟩
          show gG (d + 1) mX8_holds 62 _ [.int r7] σ6 Q
          exact g_iret dX8_holds_62 rfl h
        · have h := h.2 c
          refine g_aload (pc2 := 48) dX8_holds_46 rfl rfl ?_
          refine g_iload_n (pc2 := 49) dX8_holds_48 rfl rfl ?_
          refine g_callV (M2 := mX3_allIn) (as := [.int x2]) (st := []) (pc2 := 52) dX8_holds_49 ml_X8_190 mvX3_allIn gk_36 rfl rfl rfl (Nat.le_of_ble_eq_true rfl) (Nat.le_refl _) rfl (h.mono ?_)
          rintro _ σ8 ⟨r9, rfl, h⟩
          show gG (d + 1) mX8_holds 52 _ [.int r9] σ8 Q
          refine g_goto (tgt := 62) dX8_holds_52 (by decide) ?_
          exact g_iret dX8_holds_62 rfl h
      · have h := h.2 c
        refine g_iload_n (pc2 := 23) dX8_holds_22 rfl rfl ?_
        refine g_bipush (v := 8) (pc2 := 25) dX8_holds_23 (by decide) rfl ?_
        refine g_callS (M2 := mX8_isWithin) (as := [.int x3, .int 8]) (st := []) (pc2 := 28) dX8_holds_25 ml_X8_81 msX8_isWithin rfl rfl (Nat.le_of_ble_eq_true rfl) (Nat.le_refl _) rfl (h.mono ?_)
        rintro _ σ10 ⟨r11, rfl, h⟩
        show gG (d + 1) mX8_holds 28 _ [.int r11] σ10 Q
        refine g_if_ne (tgt := 34) (pc2 := 31) dX8_holds_28 (by decide) rfl (fun c => ?_) (fun c => ?_)
        · have h := h.1 c
          refine g_aload_n (pc2 := 35) dX8_holds_34 rfl rfl ?_
          refine g_iload_n (pc2 := 36) dX8_holds_35 rfl rfl ?_
          refine g_callV (M2 := mX8_behind) (as := [.int x1]) (st := []) (pc2 := 39) dX8_holds_36 ml_X8_186 mvX8_behind gk_0 rfl rfl rfl (Nat.le_of_ble_eq_true rfl) (Nat.le_refl _) rfl (h.mono ?_)
          rintro _ σ12 ⟨rfl, h⟩
          show gG (d + 1) mX8_holds 39 _ [.ref 36] σ12 Q
          refine g_astore (pc2 := 41) dX8_holds_39 (by decide) rfl rfl ?_
          refine g_iload_n (pc2 := 42) dX8_holds_41 rfl rfl ?_
          refine g_iconst (v := (-1)) (pc2 := 43) dX8_holds_42 (by decide) rfl ?_
          refine g_icmp_ne (tgt := 55) (pc2 := 46) dX8_holds_43 (by decide) rfl (fun c => ?_) (fun c => ?_)
          · have h := h.1 c
            refine g_aload (pc2 := 57) dX8_holds_55 rfl rfl ?_
            refine g_iload_n (pc2 := 58) dX8_holds_57 rfl rfl ?_
            refine g_iload_n (pc2 := 59) dX8_holds_58 rfl rfl ?_
            refine g_callV (M2 := mX3_muchOf) (as := [.int x2, .int x3]) (st := []) (pc2 := 62) dX8_holds_59 ml_X8_193 mvX3_muchOf gk_36 rfl rfl rfl (Nat.le_of_ble_eq_true rfl) (Nat.le_refl _) rfl (h.mono ?_)
            rintro _ σ13 ⟨r14, rfl, h⟩
            show gG (d + 1) mX8_holds 62 _ [.int r14] σ13 Q
            exact g_iret dX8_holds_62 rfl h
          · have h := h.2 c
            refine g_aload (pc2 := 48) dX8_holds_46 rfl rfl ?_
            refine g_iload_n (pc2 := 49) dX8_holds_48 rfl rfl ?_
            refine g_callV (M2 := mX3_allIn) (as := [.int x2]) (st := []) (pc2 := 52) dX8_holds_49 ml_X8_190 mvX3_allIn gk_36 rfl rfl rfl (Nat.le_of_ble_eq_true rfl) (Nat.le_refl _) rfl (h.mono ?_)
            rintro _ σ15 ⟨r16, rfl, h⟩
            show gG (d + 1) mX8_holds 52 _ [.int r16] σ15 Q
            refine g_goto (tgt := 62) dX8_holds_52 (by decide) ?_
            exact g_iret dX8_holds_62 rfl h
        · have h := h.2 c
          refine g_bipush (v := (-2)) (pc2 := 33) dX8_holds_31 (by decide) rfl ?_
          exact g_iret dX8_holds_33 rfl h
set_option maxRecDepth 20000 in
theorem eX8_hot {d : Nat} {σ : gw_S} {Q : Option Value → gw_S → Prop} {x1 : Int32}   (h : gB d mX8_isWithin [.int x1, .int 40] σ (fun v σ1 => ∃ r2 : Int32, v = some (.int r2) ∧ (((¬ r2 = 0) → ((((σ1 6 3) < 8) → (vp_in (σ1 6 3) 8 ∧ (∀ s3 : gw_S, s3 = gw_u σ1 16 (σ1 6 3).toNatClampNeg x1 → (∀ s4 : gw_S, s4 = gw_u s3 6 3 ((s3 6 3) + 1) → (gB d mX8_forgetDays [.ref 0] s4 (fun v σ5 => v = none ∧ (Q (some (.int (σ5 6 3))) σ5))))))) ∧ ((¬ (σ1 6 3) < 8) → (Q (some (.int (-4))) σ1)))) ∧ ((r2 = 0) → (Q (some (.int (-2))) σ1))))) : gB (d + 1) mX8_hot [.ref 0, .int x1] σ Q := by
  refine gB_of rfl (Nat.le_of_ble_eq_true rfl) (g_lw (lv2 := [some (.ref 0), some (.int x1)]) ⟨rfl, ⟨rfl, trivial⟩⟩ ?_)
  refine g_iload_n (pc2 := 1) dX8_hot_0 rfl rfl ?_
  refine g_bipush (v := 40) (pc2 := 3) dX8_hot_1 (by decide) rfl ?_
  refine g_callS (M2 := mX8_isWithin) (as := [.int x1, .int 40]) (st := []) (pc2 := 6) dX8_hot_3 ml_X8_81 msX8_isWithin rfl rfl (Nat.le_of_ble_eq_true rfl) (Nat.le_refl _) rfl (h.mono ?_)
  rintro _ σ1 ⟨r2, rfl, h⟩
  show gG (d + 1) mX8_hot 6 _ [.int r2] σ1 Q
  refine g_if_ne (tgt := 12) (pc2 := 9) dX8_hot_6 (by decide) rfl (fun c => ?_) (fun c => ?_)
  · have h := h.1 c
    refine g_aload_n (pc2 := 13) dX8_hot_12 rfl rfl ?_
    refine g_geta (pc2 := 16) dX8_hot_13 fl_X8_24 gk_0 rfl rfl ?_
    refine g_geti (pc2 := 19) dX8_hot_16 fl_X8_140 gk_6 rfl rfl ?_
    refine g_bipush (v := 8) (pc2 := 21) dX8_hot_19 (by decide) rfl ?_
    refine g_icmp_lt (tgt := 27) (pc2 := 24) dX8_hot_21 (by decide) rfl (fun c => ?_) (fun c => ?_)
    · have h := h.1 c
      refine g_aload_n (pc2 := 28) dX8_hot_27 rfl rfl ?_
      refine g_geta (pc2 := 31) dX8_hot_28 fl_X8_24 gk_0 rfl rfl ?_
      refine g_geta (pc2 := 34) dX8_hot_31 fl_X8_143 gk_6 rfl rfl ?_
      refine g_aload_n (pc2 := 35) dX8_hot_34 rfl rfl ?_
      refine g_geta (pc2 := 38) dX8_hot_35 fl_X8_24 gk_0 rfl rfl ?_
      refine g_geti (pc2 := 41) dX8_hot_38 fl_X8_140 gk_6 rfl rfl ?_
      refine g_iload_n (pc2 := 42) dX8_hot_41 rfl rfl ?_
      obtain ⟨hx, h⟩ := h
      refine g_iast2 (pc2 := 43) dX8_hot_42 gk_16 hx rfl (fun s3 es3 => ?_)
      replace h := h s3 es3
      refine g_aload_n (pc2 := 44) dX8_hot_43 rfl rfl ?_
      refine g_geta (pc2 := 47) dX8_hot_44 fl_X8_24 gk_0 rfl rfl ?_
      refine g_dup (pc2 := 48) dX8_hot_47 rfl rfl ?_
      refine g_geti (pc2 := 51) dX8_hot_48 fl_X8_140 gk_6 rfl rfl ?_
      refine g_iconst (v := 1) (pc2 := 52) dX8_hot_51 (by decide) rfl ?_
      refine g_iadd (pc2 := 53) dX8_hot_52 rfl ?_
      refine g_put2 (pc2 := 56) dX8_hot_53 fp_X8_140 gk_6 rfl rfl rfl rfl (fun s4 es4 => ?_)
      replace h := h s4 es4
      refine g_aload_n (pc2 := 57) dX8_hot_56 rfl rfl ?_
      refine g_callV (M2 := mX8_forgetDays) (as := []) (st := []) (pc2 := 60) dX8_hot_57 ml_X8_137 mvX8_forgetDays gk_0 rfl rfl rfl (Nat.le_of_ble_eq_true rfl) (Nat.le_refl _) rfl (h.mono ?_)
      rintro _ σ5 ⟨rfl, h⟩
      show gG (d + 1) mX8_hot 60 _ [] σ5 Q
      refine g_aload_n (pc2 := 61) dX8_hot_60 rfl rfl ?_
      refine g_geta (pc2 := 64) dX8_hot_61 fl_X8_24 gk_0 rfl rfl ?_
      refine g_geti (pc2 := 67) dX8_hot_64 fl_X8_140 gk_6 rfl rfl ?_
      exact g_iret dX8_hot_67 rfl h
    · have h := h.2 c
      refine g_bipush (v := (-4)) (pc2 := 26) dX8_hot_24 (by decide) rfl ?_
      exact g_iret dX8_hot_26 rfl h
  · have h := h.2 c
    refine g_bipush (v := (-2)) (pc2 := 11) dX8_hot_9 (by decide) rfl ?_
    exact g_iret dX8_hot_11 rfl h
set_option maxRecDepth 20000 in
theorem eX8_isAmong {d : Nat} {σ : gw_S} {Q : Option Value → gw_S → Prop} {x0 : Int32} {x1 : Int32}   (h : ((¬ ((x0 >>> ((7 - x1) &&& 31)) &&& 1) = 1) → (Q (some (.int 0)) σ)) ∧ ((((x0 >>> ((7 - x1) &&& 31)) &&& 1) = 1) → (Q (some (.int 1)) σ))) : gB d mX8_isAmong [.int x0, .int x1] σ Q := by
  refine gB_of rfl (Nat.le_of_ble_eq_true rfl) (g_lw (lv2 := [some (.int x0), some (.int x1)]) ⟨rfl, ⟨rfl, trivial⟩⟩ ?_)
  refine g_iload_n (pc2 := 1) dX8_isAmong_0 rfl rfl ?_
  refine g_bipush (v := 7) (pc2 := 3) dX8_isAmong_1 (by decide) rfl ?_
  refine g_iload_n (pc2 := 4) dX8_isAmong_3 rfl rfl ?_
  refine g_isub (pc2 := 5) dX8_isAmong_4 rfl ?_
  refine g_ishr (pc2 := 6) dX8_isAmong_5 rfl ?_
  refine g_iconst (v := 1) (pc2 := 7) dX8_isAmong_6 (by decide) rfl ?_
  refine g_iand (pc2 := 8) dX8_isAmong_7 rfl ?_
  refine g_iconst (v := 1) (pc2 := 9) dX8_isAmong_8 (by decide) rfl ?_
  refine g_icmp_ne (tgt := 16) (pc2 := 12) dX8_isAmong_9 (by decide) rfl (fun c => ?_) (fun c => ?_)
  · have h := h.1 c
    refine g_iconst (v := 0) (pc2 := 17) dX8_isAmong_16 (by decide) rfl ?_
    exact g_zret dX8_isAmong_17 rfl rfl h
  · have h := h.2 c
    refine g_iconst (v := 1) (pc2 := 13) dX8_isAmong_12 (by decide) rfl ?_
    refine g_goto (tgt := 17) dX8_isAmong_13 (by decide) ?_
    exact g_zret dX8_isAmong_17 rfl rfl h
set_option maxRecDepth 20000 in
theorem eX8_isBottle {d : Nat} {σ : gw_S} {Q : Option Value → gw_S → Prop} {x1 : Int32}   (h : gB d mX8_isWithin [.int x1, .int (σ 7 4)] σ (fun v σ1 => ∃ r2 : Int32, v = some (.int r2) ∧ (narrow .boolean (.int r2) = .int r2 ∧ Q (some (.int r2)) σ1))) : gB (d + 1) mX8_isBottle [.ref 0, .int x1] σ Q := by
  refine gB_of rfl (Nat.le_of_ble_eq_true rfl) (g_lw (lv2 := [some (.ref 0), some (.int x1)]) ⟨rfl, ⟨rfl, trivial⟩⟩ ?_)
  refine g_iload_n (pc2 := 1) dX8_isBottle_0 rfl rfl ?_
  refine g_aload_n (pc2 := 2) dX8_isBottle_1 rfl rfl ?_
  refine g_geta (pc2 := 5) dX8_isBottle_2 fl_X8_24 gk_0 rfl rfl ?_
  refine g_geta (pc2 := 8) dX8_isBottle_5 fl_X8_112 gk_6 rfl rfl ?_
  refine g_geti (pc2 := 11) dX8_isBottle_8 fl_X8_242 gk_7 rfl rfl ?_
  refine g_callS (M2 := mX8_isWithin) (as := [.int x1, .int (σ 7 4)]) (st := []) (pc2 := 14) dX8_isBottle_11 ml_X8_81 msX8_isWithin rfl rfl (Nat.le_of_ble_eq_true rfl) (Nat.le_refl _) rfl (h.mono ?_)
  rintro _ σ1 ⟨r2, rfl, h⟩
  show gG (d + 1) mX8_isBottle 14 _ [.int r2] σ1 Q
  exact g_zret dX8_isBottle_14 rfl h.1 h.2
set_option maxRecDepth 20000 in
theorem eX8_isWithin {d : Nat} {σ : gw_S} {Q : Option Value → gw_S → Prop} {x0 : Int32} {x1 : Int32}   (h : ((x0 < 0) → (Q (some (.int 0)) σ)) ∧ ((¬ x0 < 0) → (((x1 ≤ x0) → (Q (some (.int 0)) σ)) ∧ ((¬ x1 ≤ x0) → (Q (some (.int 1)) σ))))) : gB d mX8_isWithin [.int x0, .int x1] σ Q := by
  refine gB_of rfl (Nat.le_of_ble_eq_true rfl) (g_lw (lv2 := [some (.int x0), some (.int x1)]) ⟨rfl, ⟨rfl, trivial⟩⟩ ?_)
  refine g_iload_n (pc2 := 1) dX8_isWithin_0 rfl rfl ?_
  refine g_if_lt (tgt := 13) (pc2 := 4) dX8_isWithin_1 (by decide) rfl (fun c => ?_) (fun c => ?_)
  · have h := h.1 c
    refine g_iconst (v := 0) (pc2 := 14) dX8_isWithin_13 (by decide) rfl ?_
    exact g_zret dX8_isWithin_14 rfl rfl h
  · have h := h.2 c
    refine g_iload_n (pc2 := 5) dX8_isWithin_4 rfl rfl ?_
    refine g_iload_n (pc2 := 6) dX8_isWithin_5 rfl rfl ?_
    refine g_icmp_ge (tgt := 13) (pc2 := 9) dX8_isWithin_6 (by decide) rfl (fun c => ?_) (fun c => ?_)
    · have h := h.1 c
      refine g_iconst (v := 0) (pc2 := 14) dX8_isWithin_13 (by decide) rfl ?_
      exact g_zret dX8_isWithin_14 rfl rfl h
    · have h := h.2 c
      refine g_iconst (v := 1) (pc2 := 10) dX8_isWithin_9 (by decide) rfl ?_
      refine g_goto (tgt := 14) dX8_isWithin_10 (by decide) ?_
      exact g_zret dX8_isWithin_14 rfl rfl h
set_option maxRecDepth 20000 in
theorem eX8_leaked {d : Nat} {σ : gw_S} {Q : Option Value → gw_S → Prop} {x1 : Int32}   (h : gB d mX8_isWithin [.int x1, .int 40] σ (fun v σ1 => ∃ r2 : Int32, v = some (.int r2) ∧ (((¬ r2 = 0) → (gB d mX8_behind [.ref 0, .int x1] σ1 (fun v σ3 => v = some (.ref 36) ∧ (Q (some (.int (σ3 36 10))) σ3)))) ∧ ((r2 = 0) → (Q (some (.int (-2))) σ1))))) : gB (d + 1) mX8_leaked [.ref 0, .int x1] σ Q := by
  refine gB_of rfl (Nat.le_of_ble_eq_true rfl) (g_lw (lv2 := [some (.ref 0), some (.int x1)]) ⟨rfl, ⟨rfl, trivial⟩⟩ ?_)
  refine g_iload_n (pc2 := 1) dX8_leaked_0 rfl rfl ?_
  refine g_bipush (v := 40) (pc2 := 3) dX8_leaked_1 (by decide) rfl ?_
  refine g_callS (M2 := mX8_isWithin) (as := [.int x1, .int 40]) (st := []) (pc2 := 6) dX8_leaked_3 ml_X8_81 msX8_isWithin rfl rfl (Nat.le_of_ble_eq_true rfl) (Nat.le_refl _) rfl (h.mono ?_)
  rintro _ σ1 ⟨r2, rfl, h⟩
  show gG (d + 1) mX8_leaked 6 _ [.int r2] σ1 Q
  refine g_if_ne (tgt := 12) (pc2 := 9) dX8_leaked_6 (by decide) rfl (fun c => ?_) (fun c => ?_)
  · have h := h.1 c
    refine g_aload_n (pc2 := 13) dX8_leaked_12 rfl rfl ?_
    refine g_iload_n (pc2 := 14) dX8_leaked_13 rfl rfl ?_
    refine g_callV (M2 := mX8_behind) (as := [.int x1]) (st := []) (pc2 := 17) dX8_leaked_14 ml_X8_186 mvX8_behind gk_0 rfl rfl rfl (Nat.le_of_ble_eq_true rfl) (Nat.le_refl _) rfl (h.mono ?_)
    rintro _ σ3 ⟨rfl, h⟩
    show gG (d + 1) mX8_leaked 17 _ [.ref 36] σ3 Q
    refine g_geti (pc2 := 20) dX8_leaked_17 fl_X8_212 gk_36 rfl rfl ?_
    exact g_iret dX8_leaked_20 rfl h
  · have h := h.2 c
    refine g_bipush (v := (-2)) (pc2 := 11) dX8_leaked_9 (by decide) rfl ?_
    exact g_iret dX8_leaked_11 rfl h
set_option maxRecDepth 20000 in
theorem eX8_lose {d : Nat} {σ : gw_S} {Q : Option Value → gw_S → Prop} {x1 : Int32}   (h : gB d mX8_isWithin [.int x1, .int 4] σ (fun v σ1 => ∃ r2 : Int32, v = some (.int r2) ∧ (((¬ r2 = 0) → (vp_in x1 4 ∧ (((¬ (σ1 32 x1.toNatClampNeg) = (-1)) → (vp_in x1 4 ∧ (vp_in x1 4 ∧ (∀ s3 : gw_S, s3 = gw_u σ1 32 x1.toNatClampNeg (-1) → (vp_in x1 4 ∧ (∀ s4 : gw_S, s4 = gw_u s3 33 x1.toNatClampNeg 0 → (Q (some (.int (σ1 33 x1.toNatClampNeg))) s4))))))) ∧ (((σ1 32 x1.toNatClampNeg) = (-1)) → (gB d mX8_find [.ref 0, .int 1] σ1 (fun v σ5 => ∃ r6 : Int32, v = some (.int r6) ∧ (Q (some (.int r6)) σ5))))))) ∧ ((r2 = 0) → (Q (some (.int (-2))) σ1))))) : gB (d + 1) mX8_lose [.ref 0, .int x1] σ Q := by
  refine gB_of rfl (Nat.le_of_ble_eq_true rfl) (g_lw (lv2 := [some (.ref 0), some (.int x1), none]) ⟨rfl, ⟨rfl, trivial⟩⟩ ?_)
  refine g_iload_n (pc2 := 1) dX8_lose_0 rfl rfl ?_
  refine g_iconst (v := 4) (pc2 := 2) dX8_lose_1 (by decide) rfl ?_
  refine g_callS (M2 := mX8_isWithin) (as := [.int x1, .int 4]) (st := []) (pc2 := 5) dX8_lose_2 ml_X8_81 msX8_isWithin rfl rfl (Nat.le_of_ble_eq_true rfl) (Nat.le_refl _) rfl (h.mono ?_)
  rintro _ σ1 ⟨r2, rfl, h⟩
  show gG (d + 1) mX8_lose 5 _ [.int r2] σ1 Q
  refine g_if_ne (tgt := 11) (pc2 := 8) dX8_lose_5 (by decide) rfl (fun c => ?_) (fun c => ?_)
  · have h := h.1 c
    refine g_aload_n (pc2 := 12) dX8_lose_11 rfl rfl ?_
    refine g_geta (pc2 := 15) dX8_lose_12 fl_X8_45 gk_0 rfl rfl ?_
    refine g_geta (pc2 := 18) dX8_lose_15 fl_X8_169 gk_26 rfl rfl ?_
    refine g_iload_n (pc2 := 19) dX8_lose_18 rfl rfl ?_
    obtain ⟨hx, h⟩ := h
    refine g_iald (pc2 := 20) dX8_lose_19 gk_32 hx rfl ?_
    refine g_iconst (v := (-1)) (pc2 := 21) dX8_lose_20 (by decide) rfl ?_
    refine g_icmp_ne (tgt := 30) (pc2 := 24) dX8_lose_21 (by decide) rfl (fun c => ?_) (fun c => ?_)
    · have h := h.1 c
      refine g_aload_n (pc2 := 31) dX8_lose_30 rfl rfl ?_
      refine g_geta (pc2 := 34) dX8_lose_31 fl_X8_45 gk_0 rfl rfl ?_
      refine g_geta (pc2 := 37) dX8_lose_34 fl_X8_180 gk_26 rfl rfl ?_
      refine g_iload_n (pc2 := 38) dX8_lose_37 rfl rfl ?_
      obtain ⟨hx, h⟩ := h
      refine g_iald (pc2 := 39) dX8_lose_38 gk_33 hx rfl ?_
      refine g_istore_n (pc2 := 40) dX8_lose_39 (by decide) rfl rfl ?_
      refine g_aload_n (pc2 := 41) dX8_lose_40 rfl rfl ?_
      refine g_geta (pc2 := 44) dX8_lose_41 fl_X8_45 gk_0 rfl rfl ?_
      refine g_geta (pc2 := 47) dX8_lose_44 fl_X8_169 gk_26 rfl rfl ?_
      refine g_iload_n (pc2 := 48) dX8_lose_47 rfl rfl ?_
      refine g_iconst (v := (-1)) (pc2 := 49) dX8_lose_48 (by decide) rfl ?_
      obtain ⟨hx, h⟩ := h
      refine g_iast2 (pc2 := 50) dX8_lose_49 gk_32 hx rfl (fun s3 es3 => ?_)
      replace h := h s3 es3
      refine g_aload_n (pc2 := 51) dX8_lose_50 rfl rfl ?_
      refine g_geta (pc2 := 54) dX8_lose_51 fl_X8_45 gk_0 rfl rfl ?_
      refine g_geta (pc2 := 57) dX8_lose_54 fl_X8_180 gk_26 rfl rfl ?_
      refine g_iload_n (pc2 := 58) dX8_lose_57 rfl rfl ?_
      refine g_iconst (v := 0) (pc2 := 59) dX8_lose_58 (by decide) rfl ?_
      obtain ⟨hx, h⟩ := h
      refine g_iast2 (pc2 := 60) dX8_lose_59 gk_33 hx rfl (fun s4 es4 => ?_)
      replace h := h s4 es4
      refine g_iload_n (pc2 := 61) dX8_lose_60 rfl rfl ?_
      exact g_iret dX8_lose_61 rfl h
    · have h := h.2 c
      refine g_aload_n (pc2 := 25) dX8_lose_24 rfl rfl ?_
      refine g_iconst (v := 1) (pc2 := 26) dX8_lose_25 (by decide) rfl ?_
      refine g_callV (M2 := mX8_find) (as := [.int 1]) (st := []) (pc2 := 29) dX8_lose_26 ml_X8_172 mvX8_find gk_0 rfl rfl rfl (Nat.le_of_ble_eq_true rfl) (Nat.le_refl _) rfl (h.mono ?_)
      rintro _ σ5 ⟨r6, rfl, h⟩
      show gG (d + 1) mX8_lose 29 _ [.int r6] σ5 Q
      exact g_iret dX8_lose_29 rfl h
  · have h := h.2 c
    refine g_bipush (v := (-2)) (pc2 := 10) dX8_lose_8 (by decide) rfl ?_
    exact g_iret dX8_lose_10 rfl h
set_option maxRecDepth 20000 in
theorem eX8_lost {d : Nat} {σ : gw_S} {Q : Option Value → gw_S → Prop} {x1 : Int32}   (h : gB d mX8_isWithin [.int x1, .int 40] σ (fun v σ1 => ∃ r2 : Int32, v = some (.int r2) ∧ (((¬ r2 = 0) → (gB d mX4_voices [.ref 7] σ1 (fun v σ3 => ∃ r4 : Int32, v = some (.int r4) ∧ (gB d mX8_behind [.ref 0, .int x1] σ3 (fun v σ5 => v = some (.ref 36) ∧ (gB d mX3_voicesWith [.ref 36, .int (-1)] σ5 (fun v σ6 => ∃ r7 : Int32, v = some (.int r7) ∧ (Q (some (.int (r4 &&& (r7 ^^^ (-1))))) σ6)))))))) ∧ ((r2 = 0) → (Q (some (.int (-2))) σ1))))) : gB (d + 1) mX8_lost [.ref 0, .int x1] σ Q := by
  refine gB_of rfl (Nat.le_of_ble_eq_true rfl) (g_lw (lv2 := [some (.ref 0), some (.int x1)]) ⟨rfl, ⟨rfl, trivial⟩⟩ ?_)
  refine g_iload_n (pc2 := 1) dX8_lost_0 rfl rfl ?_
  refine g_bipush (v := 40) (pc2 := 3) dX8_lost_1 (by decide) rfl ?_
  refine g_callS (M2 := mX8_isWithin) (as := [.int x1, .int 40]) (st := []) (pc2 := 6) dX8_lost_3 ml_X8_81 msX8_isWithin rfl rfl (Nat.le_of_ble_eq_true rfl) (Nat.le_refl _) rfl (h.mono ?_)
  rintro _ σ1 ⟨r2, rfl, h⟩
  show gG (d + 1) mX8_lost 6 _ [.int r2] σ1 Q
  refine g_if_ne (tgt := 12) (pc2 := 9) dX8_lost_6 (by decide) rfl (fun c => ?_) (fun c => ?_)
  · have h := h.1 c
    refine g_aload_n (pc2 := 13) dX8_lost_12 rfl rfl ?_
    refine g_geta (pc2 := 16) dX8_lost_13 fl_X8_24 gk_0 rfl rfl ?_
    refine g_geta (pc2 := 19) dX8_lost_16 fl_X8_112 gk_6 rfl rfl ?_
    refine g_callV (M2 := mX4_voices) (as := []) (st := []) (pc2 := 22) dX8_lost_19 ml_X8_215 mvX4_voices gk_7 rfl rfl rfl (Nat.le_of_ble_eq_true rfl) (Nat.le_refl _) rfl (h.mono ?_)
    rintro _ σ3 ⟨r4, rfl, h⟩
    show gG (d + 1) mX8_lost 22 _ [.int r4] σ3 Q
    refine g_aload_n (pc2 := 23) dX8_lost_22 rfl rfl ?_
    refine g_iload_n (pc2 := 24) dX8_lost_23 rfl rfl ?_
    refine g_callV (M2 := mX8_behind) (as := [.int x1]) (st := [.int r4]) (pc2 := 27) dX8_lost_24 ml_X8_186 mvX8_behind gk_0 rfl rfl rfl (Nat.le_of_ble_eq_true rfl) (Nat.le_refl _) rfl (h.mono ?_)
    rintro _ σ5 ⟨rfl, h⟩
    show gG (d + 1) mX8_lost 27 _ [.ref 36, .int r4] σ5 Q
    refine g_iconst (v := (-1)) (pc2 := 28) dX8_lost_27 (by decide) rfl ?_
    refine g_callV (M2 := mX3_voicesWith) (as := [.int (-1)]) (st := [.int r4]) (pc2 := 31) dX8_lost_28 ml_X8_203 mvX3_voicesWith gk_36 rfl rfl rfl (Nat.le_of_ble_eq_true rfl) (Nat.le_refl _) rfl (h.mono ?_)
    rintro _ σ6 ⟨r7, rfl, h⟩
    show gG (d + 1) mX8_lost 31 _ [.int r7, .int r4] σ6 Q
    refine g_iconst (v := (-1)) (pc2 := 32) dX8_lost_31 (by decide) rfl ?_
    refine g_ixor (pc2 := 33) dX8_lost_32 rfl ?_
    refine g_iand (pc2 := 34) dX8_lost_33 rfl ?_
    exact g_iret dX8_lost_34 rfl h
  · have h := h.2 c
    refine g_bipush (v := (-2)) (pc2 := 11) dX8_lost_9 (by decide) rfl ?_
    exact g_iret dX8_lost_11 rfl h
set_option maxRecDepth 20000 in
theorem eX8_market {d : Nat} {σ : gw_S} {Q : Option Value → gw_S → Prop} {x1 : Int32} {x2 : Int32} {x3 : Int32}   (h : gB d mX8_isWithin [.int x2, .int 40] σ (fun v σ1 => ∃ r2 : Int32, v = some (.int r2) ∧ (((r2 = 0) → (Q (some (.int (-2))) σ1)) ∧ ((¬ r2 = 0) → (((x3 = (-1)) → (gB d mX3_begin [.ref 44, .ref 7, .int 0, .int 0] σ1 (fun v σ3 => v = none ∧ (gG (d + 1) mX8_market 62 [some (.ref 0), none, some (.int x2), some (.int x3), some (.int (σ1 7 4)), some (.int 0), some (.int x1), some (.int 0), none] [] σ3 Q)))) ∧ ((¬ x3 = (-1)) → (gB d mX8_isBottle [.ref 0, .int x3] σ1 (fun v σ4 => ∃ r5 : Int32, v = some (.int r5) ∧ (((¬ r5 = 0) → (gB d mX3_begin [.ref 44, .ref 7, .int 0, .int 0] σ4 (fun v σ6 => v = none ∧ (gG (d + 1) mX8_market 62 [some (.ref 0), none, some (.int x2), some (.int x3), some (.int (σ4 7 4)), some (.int 0), some (.int x1), some (.int 0), none] [] σ6 Q)))) ∧ ((r5 = 0) → (Q (some (.int (-2))) σ4))))))))))) : gB (d + 1) mX8_market [.ref 0, .int x1, .int x2, .int x3] σ Q := by
  refine gB_of rfl (Nat.le_of_ble_eq_true rfl) (g_lw (lv2 := [some (.ref 0), some (.int x1), some (.int x2), some (.int x3), none, none, none, none, none]) ⟨rfl, ⟨rfl, ⟨rfl, ⟨rfl, trivial⟩⟩⟩⟩ ?_)
  refine g_iload_n (pc2 := 1) dX8_market_0 rfl rfl ?_
  refine g_bipush (v := 40) (pc2 := 3) dX8_market_1 (by decide) rfl ?_
  refine g_callS (M2 := mX8_isWithin) (as := [.int x2, .int 40]) (st := []) (pc2 := 6) dX8_market_3 ml_X8_81 msX8_isWithin rfl rfl (Nat.le_of_ble_eq_true rfl) (Nat.le_refl _) rfl (h.mono ?_)
  rintro _ σ1 ⟨r2, rfl, h⟩
  show gG (d + 1) mX8_market 6 _ [.int r2] σ1 Q
  refine g_if_eq (tgt := 22) (pc2 := 9) dX8_market_6 (by decide) rfl (fun c => ?_) (fun c => ?_)
  · have h := h.1 c
    refine g_bipush (v := (-2)) (pc2 := 24) dX8_market_22 (by decide) rfl ?_
    exact g_iret dX8_market_24 rfl h
  · have h := h.2 c
    refine g_iload_n (pc2 := 10) dX8_market_9 rfl rfl ?_
    refine g_iconst (v := (-1)) (pc2 := 11) dX8_market_10 (by decide) rfl ?_
    refine g_icmp_eq (tgt := 25) (pc2 := 14) dX8_market_11 (by decide) rfl (fun c => ?_) (fun c => ?_)
    · have h := h.1 c
      refine g_aload_n (pc2 := 26) dX8_market_25 rfl rfl ?_
      refine g_geta (pc2 := 29) dX8_market_26 fl_X8_24 gk_0 rfl rfl ?_
      refine g_geta (pc2 := 32) dX8_market_29 fl_X8_112 gk_6 rfl rfl ?_
      refine g_geti (pc2 := 35) dX8_market_32 fl_X8_242 gk_7 rfl rfl ?_
      refine g_istore (pc2 := 37) dX8_market_35 (by decide) rfl rfl ?_
      refine g_iconst (v := 0) (pc2 := 38) dX8_market_37 (by decide) rfl ?_
      refine g_istore (pc2 := 40) dX8_market_38 (by decide) rfl rfl ?_
      refine g_iload_n (pc2 := 41) dX8_market_40 rfl rfl ?_
      refine g_istore (pc2 := 43) dX8_market_41 (by decide) rfl rfl ?_
      refine g_aload_n (pc2 := 44) dX8_market_43 rfl rfl ?_
      refine g_geta (pc2 := 47) dX8_market_44 fl_X8_56 gk_0 rfl rfl ?_
      refine g_aload_n (pc2 := 48) dX8_market_47 rfl rfl ?_
      refine g_geta (pc2 := 51) dX8_market_48 fl_X8_24 gk_0 rfl rfl ?_
      refine g_geta (pc2 := 54) dX8_market_51 fl_X8_112 gk_6 rfl rfl ?_
      refine g_iconst (v := 0) (pc2 := 55) dX8_market_54 (by decide) rfl ?_
      refine g_iconst (v := 0) (pc2 := 56) dX8_market_55 (by decide) rfl ?_
      refine g_callV (M2 := mX3_begin) (as := [.ref 7, .int 0, .int 0]) (st := []) (pc2 := 59) dX8_market_56 ml_X8_265 mvX3_begin gk_44 rfl rfl rfl (Nat.le_of_ble_eq_true rfl) (Nat.le_refl _) rfl (h.mono ?_)
      rintro _ σ3 ⟨rfl, h⟩
      show gG (d + 1) mX8_market 59 _ [] σ3 Q
      refine g_iconst (v := 0) (pc2 := 60) dX8_market_59 (by decide) rfl ?_
      refine g_istore (pc2 := 62) dX8_market_60 (by decide) rfl rfl ?_
      exact g_lw (lv2 := [some (.ref 0), none, some (.int x2), some (.int x3), some (.int (σ1 7 4)), some (.int 0), some (.int x1), some (.int 0), none]) ⟨rfl, ⟨rfl, ⟨rfl, ⟨rfl, ⟨rfl, ⟨rfl, ⟨rfl, trivial⟩⟩⟩⟩⟩⟩⟩ h
    · have h := h.2 c
      refine g_aload_n (pc2 := 15) dX8_market_14 rfl rfl ?_
      refine g_iload_n (pc2 := 16) dX8_market_15 rfl rfl ?_
      refine g_callV (M2 := mX8_isBottle) (as := [.int x3]) (st := []) (pc2 := 19) dX8_market_16 ml_X8_108 mvX8_isBottle gk_0 rfl rfl rfl (Nat.le_of_ble_eq_true rfl) (Nat.le_refl _) rfl (h.mono ?_)
      rintro _ σ4 ⟨r5, rfl, h⟩
      show gG (d + 1) mX8_market 19 _ [.int r5] σ4 Q
      refine g_if_ne (tgt := 25) (pc2 := 22) dX8_market_19 (by decide) rfl (fun c => ?_) (fun c => ?_)
      · have h := h.1 c
        refine g_aload_n (pc2 := 26) dX8_market_25 rfl rfl ?_
        refine g_geta (pc2 := 29) dX8_market_26 fl_X8_24 gk_0 rfl rfl ?_
        refine g_geta (pc2 := 32) dX8_market_29 fl_X8_112 gk_6 rfl rfl ?_
        refine g_geti (pc2 := 35) dX8_market_32 fl_X8_242 gk_7 rfl rfl ?_
        refine g_istore (pc2 := 37) dX8_market_35 (by decide) rfl rfl ?_
        refine g_iconst (v := 0) (pc2 := 38) dX8_market_37 (by decide) rfl ?_
        refine g_istore (pc2 := 40) dX8_market_38 (by decide) rfl rfl ?_
        refine g_iload_n (pc2 := 41) dX8_market_40 rfl rfl ?_
        refine g_istore (pc2 := 43) dX8_market_41 (by decide) rfl rfl ?_
        refine g_aload_n (pc2 := 44) dX8_market_43 rfl rfl ?_
        refine g_geta (pc2 := 47) dX8_market_44 fl_X8_56 gk_0 rfl rfl ?_
        refine g_aload_n (pc2 := 48) dX8_market_47 rfl rfl ?_
        refine g_geta (pc2 := 51) dX8_market_48 fl_X8_24 gk_0 rfl rfl ?_
        refine g_geta (pc2 := 54) dX8_market_51 fl_X8_112 gk_6 rfl rfl ?_
        refine g_iconst (v := 0) (pc2 := 55) dX8_market_54 (by decide) rfl ?_
        refine g_iconst (v := 0) (pc2 := 56) dX8_market_55 (by decide) rfl ?_
        refine g_callV (M2 := mX3_begin) (as := [.ref 7, .int 0, .int 0]) (st := []) (pc2 := 59) dX8_market_56 ml_X8_265 mvX3_begin gk_44 rfl rfl rfl (Nat.le_of_ble_eq_true rfl) (Nat.le_refl _) rfl (h.mono ?_)
        rintro _ σ6 ⟨rfl, h⟩
        show gG (d + 1) mX8_market 59 _ [] σ6 Q
        refine g_iconst (v := 0) (pc2 := 60) dX8_market_59 (by decide) rfl ?_
        refine g_istore (pc2 := 62) dX8_market_60 (by decide) rfl rfl ?_
        exact g_lw (lv2 := [some (.ref 0), none, some (.int x2), some (.int x3), some (.int (σ4 7 4)), some (.int 0), some (.int x1), some (.int 0), none]) ⟨rfl, ⟨rfl, ⟨rfl, ⟨rfl, ⟨rfl, ⟨rfl, ⟨rfl, trivial⟩⟩⟩⟩⟩⟩⟩ h
      · have h := h.2 c
        refine g_bipush (v := (-2)) (pc2 := 24) dX8_market_22 (by decide) rfl ?_
        exact g_iret dX8_market_24 rfl h
set_option maxRecDepth 20000 in
theorem bX8_market_62 {d : Nat} {σ : gw_S} {Q : Option Value → gw_S → Prop} {x2 : Int32} {x3 : Int32} {x4 : Int32} {x5 : Int32} {x6 : Int32} {x7 : Int32}   (h : ((x2 < x7) → (((¬ x3 = (-1)) → (vp_in x3 8 ∧ (Q (some (.int (σ 49 x3.toNatClampNeg))) σ))) ∧ ((x3 = (-1)) → (Q (some (.int x5)) σ)))) ∧ ((¬ x2 < x7) → (((x4 ≤ 0) → (((¬ x3 = (-1)) → (vp_in x3 8 ∧ (Q (some (.int (σ 49 x3.toNatClampNeg))) σ))) ∧ ((x3 = (-1)) → (Q (some (.int x5)) σ)))) ∧ ((¬ x4 ≤ 0) → (gB d mX3_passDay [.ref 44, .ref 6, .int (-1)] σ (fun v σ7 => v = none ∧ (gB d mX8_nextSeed [.int x6] σ7 (fun v σ8 => ∃ r9 : Int32, v = some (.int r9) ∧ (¬ x4 = 0 ∧ (gB d mX8_nextSeed [.int r9] σ8 (fun v σ10 => ∃ r11 : Int32, v = some (.int r11) ∧ (gB d mX3_doAct [.ref 44, .int 0, .int (gw_rem (gw_ushr r9 16) x4), .int (gw_rem (gw_ushr r11 16) 6)] σ10 (fun v σ12 => ∃ r13 : Int32, v = some (.int r13) ∧ (((r13 = 0) → (gG (d + 1) mX8_market 62 [some (.ref 0), none, some (.int x2), some (.int x3), some (.int x4), some (.int x5), some (.int r11), some (.int (x7 + 1)), none] [] σ12 Q)) ∧ ((¬ r13 = 0) → (gG (d + 1) mX8_market 62 [some (.ref 0), none, some (.int x2), some (.int x3), some (.int x4), some (.int (x5 + 1)), some (.int r11), some (.int (x7 + 1)), none] [] σ12 Q)))))))))))))))) : gG (d + 1) mX8_market 62 [some (.ref 0), none, some (.int x2), some (.int x3), some (.int x4), some (.int x5), some (.int x6), some (.int x7), none] [] σ Q := by
  refine g_iload (pc2 := 64) dX8_market_62 rfl rfl ?_
  refine g_iload_n (pc2 := 65) dX8_market_64 rfl rfl ?_
  refine g_icmp_gt (tgt := 139) (pc2 := 68) dX8_market_65 (by decide) rfl (fun c => ?_) (fun c => ?_)
  · have h := h.1 c
    refine g_iload_n (pc2 := 140) dX8_market_139 rfl rfl ?_
    refine g_iconst (v := (-1)) (pc2 := 141) dX8_market_140 (by decide) rfl ?_
    refine g_icmp_ne (tgt := 149) (pc2 := 144) dX8_market_141 (by decide) rfl (fun c => ?_) (fun c => ?_)
    · have h := h.1 c
      refine g_aload_n (pc2 := 150) dX8_market_149 rfl rfl ?_
      refine g_geta (pc2 := 153) dX8_market_150 fl_X8_56 gk_0 rfl rfl ?_
      refine g_geta (pc2 := 156) dX8_market_153 fl_X8_197 gk_44 rfl rfl ?_
      refine g_iload_n (pc2 := 157) dX8_market_156 rfl rfl ?_
      obtain ⟨hx, h⟩ := h
      refine g_iald (pc2 := 158) dX8_market_157 gk_49 hx rfl ?_
      exact g_iret dX8_market_158 rfl h
    · have h := h.2 c
      refine g_iload (pc2 := 146) dX8_market_144 rfl rfl ?_
      refine g_goto (tgt := 158) dX8_market_146 (by decide) ?_
      exact g_iret dX8_market_158 rfl h
  · have h := h.2 c
    refine g_iload (pc2 := 70) dX8_market_68 rfl rfl ?_
    refine g_if_le (tgt := 139) (pc2 := 73) dX8_market_70 (by decide) rfl (fun c => ?_) (fun c => ?_)
    · have h := h.1 c
      refine g_iload_n (pc2 := 140) dX8_market_139 rfl rfl ?_
      refine g_iconst (v := (-1)) (pc2 := 141) dX8_market_140 (by decide) rfl ?_
      refine g_icmp_ne (tgt := 149) (pc2 := 144) dX8_market_141 (by decide) rfl (fun c => ?_) (fun c => ?_)
      · have h := h.1 c
        refine g_aload_n (pc2 := 150) dX8_market_149 rfl rfl ?_
        refine g_geta (pc2 := 153) dX8_market_150 fl_X8_56 gk_0 rfl rfl ?_
        refine g_geta (pc2 := 156) dX8_market_153 fl_X8_197 gk_44 rfl rfl ?_
        refine g_iload_n (pc2 := 157) dX8_market_156 rfl rfl ?_
        obtain ⟨hx, h⟩ := h
        refine g_iald (pc2 := 158) dX8_market_157 gk_49 hx rfl ?_
        exact g_iret dX8_market_158 rfl h
      · have h := h.2 c
        refine g_iload (pc2 := 146) dX8_market_144 rfl rfl ?_
        refine g_goto (tgt := 158) dX8_market_146 (by decide) ?_
        exact g_iret dX8_market_158 rfl h
    · have h := h.2 c
      refine g_aload_n (pc2 := 74) dX8_market_73 rfl rfl ?_
      refine g_geta (pc2 := 77) dX8_market_74 fl_X8_56 gk_0 rfl rfl ?_
      refine g_aload_n (pc2 := 78) dX8_market_77 rfl rfl ?_
      refine g_geta (pc2 := 81) dX8_market_78 fl_X8_24 gk_0 rfl rfl ?_
      refine g_iconst (v := (-1)) (pc2 := 82) dX8_market_81 (by decide) rfl ?_
      refine g_callV (M2 := mX3_passDay) (as := [.ref 6, .int (-1)]) (st := []) (pc2 := 85) dX8_market_82 ml_X8_282 mvX3_passDay gk_44 rfl rfl rfl (Nat.le_of_ble_eq_true rfl) (Nat.le_refl _) rfl (h.mono ?_)
      rintro _ σ7 ⟨rfl, h⟩
      show gG (d + 1) mX8_market 85 _ [] σ7 Q
      refine g_iload (pc2 := 87) dX8_market_85 rfl rfl ?_
      refine g_callS (M2 := mX8_nextSeed) (as := [.int x6]) (st := []) (pc2 := 90) dX8_market_87 ml_X8_286 msX8_nextSeed rfl rfl (Nat.le_of_ble_eq_true rfl) (Nat.le_refl _) rfl (h.mono ?_)
      rintro _ σ8 ⟨r9, rfl, h⟩
      show gG (d + 1) mX8_market 90 _ [.int r9] σ8 Q
      refine g_istore (pc2 := 92) dX8_market_90 (by decide) rfl rfl ?_
      refine g_iload (pc2 := 94) dX8_market_92 rfl rfl ?_
      refine g_bipush (v := 16) (pc2 := 96) dX8_market_94 (by decide) rfl ?_
      refine g_iushr (pc2 := 97) dX8_market_96 rfl ?_
      refine g_iload (pc2 := 99) dX8_market_97 rfl rfl ?_
      obtain ⟨hx, h⟩ := h
      refine g_irem (pc2 := 100) dX8_market_99 hx rfl ?_
      refine g_istore (pc2 := 102) dX8_market_100 (by decide) rfl rfl ?_
      refine g_iload (pc2 := 104) dX8_market_102 rfl rfl ?_
      refine g_callS (M2 := mX8_nextSeed) (as := [.int r9]) (st := []) (pc2 := 107) dX8_market_104 ml_X8_286 msX8_nextSeed rfl rfl (Nat.le_of_ble_eq_true rfl) (Nat.le_refl _) rfl (h.mono ?_)
      rintro _ σ10 ⟨r11, rfl, h⟩
      show gG (d + 1) mX8_market 107 _ [.int r11] σ10 Q
      refine g_istore (pc2 := 109) dX8_market_107 (by decide) rfl rfl ?_
      refine g_aload_n (pc2 := 110) dX8_market_109 rfl rfl ?_
      refine g_geta (pc2 := 113) dX8_market_110 fl_X8_56 gk_0 rfl rfl ?_
      refine g_iconst (v := 0) (pc2 := 114) dX8_market_113 (by decide) rfl ?_
      refine g_iload (pc2 := 116) dX8_market_114 rfl rfl ?_
      refine g_iload (pc2 := 118) dX8_market_116 rfl rfl ?_
      refine g_bipush (v := 16) (pc2 := 120) dX8_market_118 (by decide) rfl ?_
      refine g_iushr (pc2 := 121) dX8_market_120 rfl ?_
      refine g_bipush (v := 6) (pc2 := 123) dX8_market_121 (by decide) rfl ?_
      refine g_irem (pc2 := 124) dX8_market_123 (by decide) rfl ?_
      refine g_callV (M2 := mX3_doAct) (as := [.int 0, .int (gw_rem (gw_ushr r9 16) x4), .int (gw_rem (gw_ushr r11 16) 6)]) (st := []) (pc2 := 127) dX8_market_124 ml_X8_289 mvX3_doAct gk_44 rfl rfl rfl (Nat.le_of_ble_eq_true rfl) (Nat.le_refl _) rfl (h.mono ?_)
      rintro _ σ12 ⟨r13, rfl, h⟩
      show gG (d + 1) mX8_market 127 _ [.int r13] σ12 Q
      refine g_if_eq (tgt := 133) (pc2 := 130) dX8_market_127 (by decide) rfl (fun c => ?_) (fun c => ?_)
      · have h := h.1 c
        refine g_iinc2 (c := 1) (pc2 := 136) dX8_market_133 rfl (by decide) (by decide) rfl rfl ?_
        refine g_goto (tgt := 62) dX8_market_136 (by decide) ?_
        exact g_lw (lv2 := [some (.ref 0), none, some (.int x2), some (.int x3), some (.int x4), some (.int x5), some (.int r11), some (.int (x7 + 1)), none]) ⟨rfl, ⟨rfl, ⟨rfl, ⟨rfl, ⟨rfl, ⟨rfl, ⟨rfl, trivial⟩⟩⟩⟩⟩⟩⟩ h
      · have h := h.2 c
        refine g_iinc2 (c := 1) (pc2 := 133) dX8_market_130 rfl (by decide) (by decide) rfl rfl ?_
        refine g_iinc2 (c := 1) (pc2 := 136) dX8_market_133 rfl (by decide) (by decide) rfl rfl ?_
        refine g_goto (tgt := 62) dX8_market_136 (by decide) ?_
        exact g_lw (lv2 := [some (.ref 0), none, some (.int x2), some (.int x3), some (.int x4), some (.int (x5 + 1)), some (.int r11), some (.int (x7 + 1)), none]) ⟨rfl, ⟨rfl, ⟨rfl, ⟨rfl, ⟨rfl, ⟨rfl, ⟨rfl, trivial⟩⟩⟩⟩⟩⟩⟩ h
set_option maxRecDepth 20000 in
theorem eX8_mayBeAct {d : Nat} {σ : gw_S} {Q : Option Value → gw_S → Prop} {x0 : Int32} {x1 : Int32} {x2 : Int32} {x3 : Int32}   (h : gB d mX8_isWithin [.int x0, .int 40] σ (fun v σ1 => ∃ r2 : Int32, v = some (.int r2) ∧ (((r2 = 0) → (Q (some (.int 0)) σ1)) ∧ ((¬ r2 = 0) → (gB d mX8_isWithin [.int x1, .int 4] σ1 (fun v σ3 => ∃ r4 : Int32, v = some (.int r4) ∧ (((r4 = 0) → (Q (some (.int 0)) σ3)) ∧ ((¬ r4 = 0) → (gB d mX8_isWithin [.int x2, .int 8] σ3 (fun v σ5 => ∃ r6 : Int32, v = some (.int r6) ∧ (((¬ r6 = 0) → (((¬ x1 = 0) → (((¬ x1 = 1) → (gB d mX8_isWithin [.int x3, .int 1] σ5 (fun v σ7 => ∃ r8 : Int32, v = some (.int r8) ∧ (narrow .boolean (.int r8) = .int r8 ∧ Q (some (.int r8)) σ7)))) ∧ ((x1 = 1) → (gB d mX8_isWithin [.int x3, .int 8] σ5 (fun v σ9 => ∃ r10 : Int32, v = some (.int r10) ∧ (narrow .boolean (.int r10) = .int r10 ∧ Q (some (.int r10)) σ9)))))) ∧ ((x1 = 0) → (gB d mX8_isWithin [.int x3, .int 6] σ5 (fun v σ11 => ∃ r12 : Int32, v = some (.int r12) ∧ (narrow .boolean (.int r12) = .int r12 ∧ Q (some (.int r12)) σ11)))))) ∧ ((r6 = 0) → (Q (some (.int 0)) σ5))))))))))))) : gB (d + 1) mX8_mayBeAct [.int x0, .int x1, .int x2, .int x3] σ Q := by
  refine gB_of rfl (Nat.le_of_ble_eq_true rfl) (g_lw (lv2 := [some (.int x0), some (.int x1), some (.int x2), some (.int x3)]) ⟨rfl, ⟨rfl, ⟨rfl, ⟨rfl, trivial⟩⟩⟩⟩ ?_)
  refine g_iload_n (pc2 := 1) dX8_mayBeAct_0 rfl rfl ?_
  refine g_bipush (v := 40) (pc2 := 3) dX8_mayBeAct_1 (by decide) rfl ?_
  refine g_callS (M2 := mX8_isWithin) (as := [.int x0, .int 40]) (st := []) (pc2 := 6) dX8_mayBeAct_3 ml_X8_81 msX8_isWithin rfl rfl (Nat.le_of_ble_eq_true rfl) (Nat.le_refl _) rfl (h.mono ?_)
  rintro _ σ1 ⟨r2, rfl, h⟩
  show gG (d + 1) mX8_mayBeAct 6 _ [.int r2] σ1 Q
  refine g_if_eq (tgt := 26) (pc2 := 9) dX8_mayBeAct_6 (by decide) rfl (fun c => ?_) (fun c => ?_)
  · have h := h.1 c
    refine g_iconst (v := 0) (pc2 := 27) dX8_mayBeAct_26 (by decide) rfl ?_
    exact g_zret dX8_mayBeAct_27 rfl rfl h
  · have h := h.2 c
    refine g_iload_n (pc2 := 10) dX8_mayBeAct_9 rfl rfl ?_
    refine g_iconst (v := 4) (pc2 := 11) dX8_mayBeAct_10 (by decide) rfl ?_
    refine g_callS (M2 := mX8_isWithin) (as := [.int x1, .int 4]) (st := []) (pc2 := 14) dX8_mayBeAct_11 ml_X8_81 msX8_isWithin rfl rfl (Nat.le_of_ble_eq_true rfl) (Nat.le_refl _) rfl (h.mono ?_)
    rintro _ σ3 ⟨r4, rfl, h⟩
    show gG (d + 1) mX8_mayBeAct 14 _ [.int r4] σ3 Q
    refine g_if_eq (tgt := 26) (pc2 := 17) dX8_mayBeAct_14 (by decide) rfl (fun c => ?_) (fun c => ?_)
    · have h := h.1 c
      refine g_iconst (v := 0) (pc2 := 27) dX8_mayBeAct_26 (by decide) rfl ?_
      exact g_zret dX8_mayBeAct_27 rfl rfl h
    · have h := h.2 c
      refine g_iload_n (pc2 := 18) dX8_mayBeAct_17 rfl rfl ?_
      refine g_bipush (v := 8) (pc2 := 20) dX8_mayBeAct_18 (by decide) rfl ?_
      refine g_callS (M2 := mX8_isWithin) (as := [.int x2, .int 8]) (st := []) (pc2 := 23) dX8_mayBeAct_20 ml_X8_81 msX8_isWithin rfl rfl (Nat.le_of_ble_eq_true rfl) (Nat.le_refl _) rfl (h.mono ?_)
      rintro _ σ5 ⟨r6, rfl, h⟩
      show gG (d + 1) mX8_mayBeAct 23 _ [.int r6] σ5 Q
      refine g_if_ne (tgt := 28) (pc2 := 26) dX8_mayBeAct_23 (by decide) rfl (fun c => ?_) (fun c => ?_)
      · have h := h.1 c
        refine g_iload_n (pc2 := 29) dX8_mayBeAct_28 rfl rfl ?_
        refine g_iload_n (pc2 := 30) dX8_mayBeAct_29 rfl rfl ?_
        refine g_if_ne (tgt := 38) (pc2 := 33) dX8_mayBeAct_30 (by decide) rfl (fun c => ?_) (fun c => ?_)
        · have h := h.1 c
          refine g_iload_n (pc2 := 39) dX8_mayBeAct_38 rfl rfl ?_
          refine g_iconst (v := 1) (pc2 := 40) dX8_mayBeAct_39 (by decide) rfl ?_
          refine g_icmp_ne (tgt := 48) (pc2 := 43) dX8_mayBeAct_40 (by decide) rfl (fun c => ?_) (fun c => ?_)
          · have h := h.1 c
            refine g_iconst (v := 1) (pc2 := 49) dX8_mayBeAct_48 (by decide) rfl ?_
            refine g_callS (M2 := mX8_isWithin) (as := [.int x3, .int 1]) (st := []) (pc2 := 52) dX8_mayBeAct_49 ml_X8_81 msX8_isWithin rfl rfl (Nat.le_of_ble_eq_true rfl) (Nat.le_refl _) rfl (h.mono ?_)
            rintro _ σ7 ⟨r8, rfl, h⟩
            show gG (d + 1) mX8_mayBeAct 52 _ [.int r8] σ7 Q
            exact g_zret dX8_mayBeAct_52 rfl h.1 h.2
          · have h := h.2 c
            refine g_bipush (v := 8) (pc2 := 45) dX8_mayBeAct_43 (by decide) rfl ?_
            refine g_goto (tgt := 49) dX8_mayBeAct_45 (by decide) ?_
            refine g_callS (M2 := mX8_isWithin) (as := [.int x3, .int 8]) (st := []) (pc2 := 52) dX8_mayBeAct_49 ml_X8_81 msX8_isWithin rfl rfl (Nat.le_of_ble_eq_true rfl) (Nat.le_refl _) rfl (h.mono ?_)
            rintro _ σ9 ⟨r10, rfl, h⟩
            show gG (d + 1) mX8_mayBeAct 52 _ [.int r10] σ9 Q
            exact g_zret dX8_mayBeAct_52 rfl h.1 h.2
        · have h := h.2 c
          refine g_bipush (v := 6) (pc2 := 35) dX8_mayBeAct_33 (by decide) rfl ?_
          refine g_goto (tgt := 49) dX8_mayBeAct_35 (by decide) ?_
          refine g_callS (M2 := mX8_isWithin) (as := [.int x3, .int 6]) (st := []) (pc2 := 52) dX8_mayBeAct_49 ml_X8_81 msX8_isWithin rfl rfl (Nat.le_of_ble_eq_true rfl) (Nat.le_refl _) rfl (h.mono ?_)
          rintro _ σ11 ⟨r12, rfl, h⟩
          show gG (d + 1) mX8_mayBeAct 52 _ [.int r12] σ11 Q
          exact g_zret dX8_mayBeAct_52 rfl h.1 h.2
      · have h := h.2 c
        refine g_iconst (v := 0) (pc2 := 27) dX8_mayBeAct_26 (by decide) rfl ?_
        exact g_zret dX8_mayBeAct_27 rfl rfl h
set_option maxRecDepth 20000 in
theorem eX8_mixBottle {d : Nat} {σ : gw_S} {Q : Option Value → gw_S → Prop} {x1 : Int64} {x3 : Int32}   (h : gG (d + 1) mX8_mixBottle 6 [some (.ref 0), none, none, some (.int x3), some (.long x1), none, some (.int 0)] [] σ Q) : gB (d + 1) mX8_mixBottle [.ref 0, .long x1, .int x3] σ Q := by
  refine gB_of rfl (Nat.le_of_ble_eq_true rfl) (g_lw (lv2 := [some (.ref 0), some (.long x1), none, some (.int x3), none, none, none]) ⟨rfl, ⟨rfl, ⟨rfl, trivial⟩⟩⟩ ?_)
  refine g_lload_n (pc2 := 1) dX8_mixBottle_0 rfl rfl ?_
  refine g_lstore (pc2 := 3) dX8_mixBottle_1 (by decide) rfl rfl ?_
  refine g_iconst (v := 0) (pc2 := 4) dX8_mixBottle_3 (by decide) rfl ?_
  refine g_istore (pc2 := 6) dX8_mixBottle_4 (by decide) rfl rfl ?_
  exact g_lw (lv2 := [some (.ref 0), none, none, some (.int x3), some (.long x1), none, some (.int 0)]) ⟨rfl, ⟨rfl, ⟨rfl, ⟨rfl, trivial⟩⟩⟩⟩ h
set_option maxRecDepth 20000 in
theorem bX8_mixBottle_6 {d : Nat} {σ : gw_S} {Q : Option Value → gw_S → Prop} {x3 : Int32} {x4 : Int64} {x6 : Int32}   (h : ((3 < x6) → (gB d mX8_holds [.ref 0, .int 5, .int x3, .int (-1)] σ (fun v σ1 => ∃ r2 : Int32, v = some (.int r2) ∧ (gB d mX8_holds [.ref 0, .int 39, .int x3, .int (-1)] σ1 (fun v σ3 => ∃ r4 : Int32, v = some (.int r4) ∧ (gB d mX8_who [.ref 0, .int 9, .int x3] σ3 (fun v σ5 => ∃ r6 : Int32, v = some (.int r6) ∧ (gB d mX8_whole [.ref 0, .int 39, .int x3] σ5 (fun v σ7 => ∃ r8 : Int32, v = some (.int r8) ∧ (gB d mX8_heat [.ref 0, .int 5, .int x3, .int 6, .int 0] σ7 (fun v σ9 => ∃ r10 : Int64, v = some (.long r10) ∧ (gB d mX8_heat [.ref 0, .int 5, .int x3, .int 6, .int 1] σ9 (fun v σ11 => ∃ r12 : Int64, v = some (.long r12) ∧ (gB d mX8_market [.ref 0, .int 7, .int 20, .int x3] σ11 (fun v σ13 => ∃ r14 : Int32, v = some (.int r14) ∧ (Q (some (.long ((31 * ((31 * ((31 * ((31 * ((31 * ((31 * ((31 * x4) + r2.toInt64)) + r4.toInt64)) + r6.toInt64)) + r8.toInt64)) + r10)) + r12)) + r14.toInt64))) σ13)))))))))))))))) ∧ ((¬ 3 < x6) → (gB d mX8_bottle [.ref 0, .int x3, .int x6] σ (fun v σ15 => ∃ r16 : Int32, v = some (.int r16) ∧ (gG (d + 1) mX8_mixBottle 6 [some (.ref 0), none, none, some (.int x3), some (.long ((31 * x4) + r16.toInt64)), none, some (.int (x6 + 1))] [] σ15 Q))))) : gG (d + 1) mX8_mixBottle 6 [some (.ref 0), none, none, some (.int x3), some (.long x4), none, some (.int x6)] [] σ Q := by
  refine g_iload (pc2 := 8) dX8_mixBottle_6 rfl rfl ?_
  refine g_iconst (v := 3) (pc2 := 9) dX8_mixBottle_8 (by decide) rfl ?_
  refine g_icmp_gt (tgt := 35) (pc2 := 12) dX8_mixBottle_9 (by decide) rfl (fun c => ?_) (fun c => ?_)
  · have h := h.1 c
    refine g_ldc2 (pc2 := 38) dX8_mixBottle_35 cl_X8_318 rfl ?_
    refine g_lload (pc2 := 40) dX8_mixBottle_38 rfl rfl ?_
    refine g_lmul (pc2 := 41) dX8_mixBottle_40 rfl ?_
    refine g_aload_n (pc2 := 42) dX8_mixBottle_41 rfl rfl ?_
    refine g_iconst (v := 5) (pc2 := 43) dX8_mixBottle_42 (by decide) rfl ?_
    refine g_iload_n (pc2 := 44) dX8_mixBottle_43 rfl rfl ?_
    refine g_iconst (v := (-1)) (pc2 := 45) dX8_mixBottle_44 (by decide) rfl ?_
    refine g_callV (M2 := mX8_holds) (as := [.int 5, .int x3, .int (-1)]) (st := [.long (31 * x4)]) (pc2 := 48) dX8_mixBottle_45 ml_X8_370 mvX8_holds gk_0 rfl rfl rfl (Nat.le_of_ble_eq_true rfl) (Nat.le_refl _) rfl (h.mono ?_)
    rintro _ σ1 ⟨r2, rfl, h⟩
    show gG (d + 1) mX8_mixBottle 48 _ [.int r2, .long (31 * x4)] σ1 Q
    refine g_i2l (pc2 := 49) dX8_mixBottle_48 rfl ?_
    refine g_ladd (pc2 := 50) dX8_mixBottle_49 rfl ?_
    refine g_lstore (pc2 := 52) dX8_mixBottle_50 (by decide) rfl rfl ?_
    refine g_ldc2 (pc2 := 55) dX8_mixBottle_52 cl_X8_318 rfl ?_
    refine g_lload (pc2 := 57) dX8_mixBottle_55 rfl rfl ?_
    refine g_lmul (pc2 := 58) dX8_mixBottle_57 rfl ?_
    refine g_aload_n (pc2 := 59) dX8_mixBottle_58 rfl rfl ?_
    refine g_bipush (v := 39) (pc2 := 61) dX8_mixBottle_59 (by decide) rfl ?_
    refine g_iload_n (pc2 := 62) dX8_mixBottle_61 rfl rfl ?_
    refine g_iconst (v := (-1)) (pc2 := 63) dX8_mixBottle_62 (by decide) rfl ?_
    refine g_callV (M2 := mX8_holds) (as := [.int 39, .int x3, .int (-1)]) (st := [.long (31 * ((31 * x4) + r2.toInt64))]) (pc2 := 66) dX8_mixBottle_63 ml_X8_370 mvX8_holds gk_0 rfl rfl rfl (Nat.le_of_ble_eq_true rfl) (Nat.le_refl _) rfl (h.mono ?_)
    rintro _ σ3 ⟨r4, rfl, h⟩
    show gG (d + 1) mX8_mixBottle 66 _ [.int r4, .long (31 * ((31 * x4) + r2.toInt64))] σ3 Q
    refine g_i2l (pc2 := 67) dX8_mixBottle_66 rfl ?_
    refine g_ladd (pc2 := 68) dX8_mixBottle_67 rfl ?_
    refine g_lstore (pc2 := 70) dX8_mixBottle_68 (by decide) rfl rfl ?_
    refine g_ldc2 (pc2 := 73) dX8_mixBottle_70 cl_X8_318 rfl ?_
    refine g_lload (pc2 := 75) dX8_mixBottle_73 rfl rfl ?_
    refine g_lmul (pc2 := 76) dX8_mixBottle_75 rfl ?_
    refine g_aload_n (pc2 := 77) dX8_mixBottle_76 rfl rfl ?_
    refine g_bipush (v := 9) (pc2 := 79) dX8_mixBottle_77 (by decide) rfl ?_
    refine g_iload_n (pc2 := 80) dX8_mixBottle_79 rfl rfl ?_
    refine g_callV (M2 := mX8_who) (as := [.int 9, .int x3]) (st := [.long (31 * ((31 * ((31 * x4) + r2.toInt64)) + r4.toInt64))]) (pc2 := 83) dX8_mixBottle_80 ml_X8_373 mvX8_who gk_0 rfl rfl rfl (Nat.le_of_ble_eq_true rfl) (Nat.le_refl _) rfl (h.mono ?_)
    rintro _ σ5 ⟨r6, rfl, h⟩
    show gG (d + 1) mX8_mixBottle 83 _ [.int r6, .long (31 * ((31 * ((31 * x4) + r2.toInt64)) + r4.toInt64))] σ5 Q
    refine g_i2l (pc2 := 84) dX8_mixBottle_83 rfl ?_
    refine g_ladd (pc2 := 85) dX8_mixBottle_84 rfl ?_
    refine g_lstore (pc2 := 87) dX8_mixBottle_85 (by decide) rfl rfl ?_
    refine g_ldc2 (pc2 := 90) dX8_mixBottle_87 cl_X8_318 rfl ?_
    refine g_lload (pc2 := 92) dX8_mixBottle_90 rfl rfl ?_
    refine g_lmul (pc2 := 93) dX8_mixBottle_92 rfl ?_
    refine g_aload_n (pc2 := 94) dX8_mixBottle_93 rfl rfl ?_
    refine g_bipush (v := 39) (pc2 := 96) dX8_mixBottle_94 (by decide) rfl ?_
    refine g_iload_n (pc2 := 97) dX8_mixBottle_96 rfl rfl ?_
    refine g_callV (M2 := mX8_whole) (as := [.int 39, .int x3]) (st := [.long (31 * ((31 * ((31 * ((31 * x4) + r2.toInt64)) + r4.toInt64)) + r6.toInt64))]) (pc2 := 100) dX8_mixBottle_97 ml_X8_376 mvX8_whole gk_0 rfl rfl rfl (Nat.le_of_ble_eq_true rfl) (Nat.le_refl _) rfl (h.mono ?_)
    rintro _ σ7 ⟨r8, rfl, h⟩
    show gG (d + 1) mX8_mixBottle 100 _ [.int r8, .long (31 * ((31 * ((31 * ((31 * x4) + r2.toInt64)) + r4.toInt64)) + r6.toInt64))] σ7 Q
    refine g_i2l (pc2 := 101) dX8_mixBottle_100 rfl ?_
    refine g_ladd (pc2 := 102) dX8_mixBottle_101 rfl ?_
    refine g_lstore (pc2 := 104) dX8_mixBottle_102 (by decide) rfl rfl ?_
    refine g_ldc2 (pc2 := 107) dX8_mixBottle_104 cl_X8_318 rfl ?_
    refine g_lload (pc2 := 109) dX8_mixBottle_107 rfl rfl ?_
    refine g_lmul (pc2 := 110) dX8_mixBottle_109 rfl ?_
    refine g_aload_n (pc2 := 111) dX8_mixBottle_110 rfl rfl ?_
    refine g_iconst (v := 5) (pc2 := 112) dX8_mixBottle_111 (by decide) rfl ?_
    refine g_iload_n (pc2 := 113) dX8_mixBottle_112 rfl rfl ?_
    refine g_bipush (v := 6) (pc2 := 115) dX8_mixBottle_113 (by decide) rfl ?_
    refine g_iconst (v := 0) (pc2 := 116) dX8_mixBottle_115 (by decide) rfl ?_
    refine g_callV (M2 := mX8_heat) (as := [.int 5, .int x3, .int 6, .int 0]) (st := [.long (31 * ((31 * ((31 * ((31 * ((31 * x4) + r2.toInt64)) + r4.toInt64)) + r6.toInt64)) + r8.toInt64))]) (pc2 := 119) dX8_mixBottle_116 ml_X8_379 mvX8_heat gk_0 rfl rfl rfl (Nat.le_of_ble_eq_true rfl) (Nat.le_refl _) rfl (h.mono ?_)
    rintro _ σ9 ⟨r10, rfl, h⟩
    show gG (d + 1) mX8_mixBottle 119 _ [.long r10, .long (31 * ((31 * ((31 * ((31 * ((31 * x4) + r2.toInt64)) + r4.toInt64)) + r6.toInt64)) + r8.toInt64))] σ9 Q
    refine g_ladd (pc2 := 120) dX8_mixBottle_119 rfl ?_
    refine g_lstore (pc2 := 122) dX8_mixBottle_120 (by decide) rfl rfl ?_
    refine g_ldc2 (pc2 := 125) dX8_mixBottle_122 cl_X8_318 rfl ?_
    refine g_lload (pc2 := 127) dX8_mixBottle_125 rfl rfl ?_
    refine g_lmul (pc2 := 128) dX8_mixBottle_127 rfl ?_
    refine g_aload_n (pc2 := 129) dX8_mixBottle_128 rfl rfl ?_
    refine g_iconst (v := 5) (pc2 := 130) dX8_mixBottle_129 (by decide) rfl ?_
    refine g_iload_n (pc2 := 131) dX8_mixBottle_130 rfl rfl ?_
    refine g_bipush (v := 6) (pc2 := 133) dX8_mixBottle_131 (by decide) rfl ?_
    refine g_iconst (v := 1) (pc2 := 134) dX8_mixBottle_133 (by decide) rfl ?_
    refine g_callV (M2 := mX8_heat) (as := [.int 5, .int x3, .int 6, .int 1]) (st := [.long (31 * ((31 * ((31 * ((31 * ((31 * ((31 * x4) + r2.toInt64)) + r4.toInt64)) + r6.toInt64)) + r8.toInt64)) + r10))]) (pc2 := 137) dX8_mixBottle_134 ml_X8_379 mvX8_heat gk_0 rfl rfl rfl (Nat.le_of_ble_eq_true rfl) (Nat.le_refl _) rfl (h.mono ?_)
    rintro _ σ11 ⟨r12, rfl, h⟩
    show gG (d + 1) mX8_mixBottle 137 _ [.long r12, .long (31 * ((31 * ((31 * ((31 * ((31 * ((31 * x4) + r2.toInt64)) + r4.toInt64)) + r6.toInt64)) + r8.toInt64)) + r10))] σ11 Q
    refine g_ladd (pc2 := 138) dX8_mixBottle_137 rfl ?_
    refine g_lstore (pc2 := 140) dX8_mixBottle_138 (by decide) rfl rfl ?_
    refine g_ldc2 (pc2 := 143) dX8_mixBottle_140 cl_X8_318 rfl ?_
    refine g_lload (pc2 := 145) dX8_mixBottle_143 rfl rfl ?_
    refine g_lmul (pc2 := 146) dX8_mixBottle_145 rfl ?_
    refine g_aload_n (pc2 := 147) dX8_mixBottle_146 rfl rfl ?_
    refine g_bipush (v := 7) (pc2 := 149) dX8_mixBottle_147 (by decide) rfl ?_
    refine g_bipush (v := 20) (pc2 := 151) dX8_mixBottle_149 (by decide) rfl ?_
    refine g_iload_n (pc2 := 152) dX8_mixBottle_151 rfl rfl ?_
    refine g_callV (M2 := mX8_market) (as := [.int 7, .int 20, .int x3]) (st := [.long (31 * ((31 * ((31 * ((31 * ((31 * ((31 * ((31 * x4) + r2.toInt64)) + r4.toInt64)) + r6.toInt64)) + r8.toInt64)) + r10)) + r12))]) (pc2 := 155) dX8_mixBottle_152 ml_X8_365 mvX8_market gk_0 rfl rfl rfl (Nat.le_of_ble_eq_true rfl) (Nat.le_refl _) rfl (h.mono ?_)
    rintro _ σ13 ⟨r14, rfl, h⟩
    show gG (d + 1) mX8_mixBottle 155 _ [.int r14, .long (31 * ((31 * ((31 * ((31 * ((31 * ((31 * ((31 * x4) + r2.toInt64)) + r4.toInt64)) + r6.toInt64)) + r8.toInt64)) + r10)) + r12))] σ13 Q
    refine g_i2l (pc2 := 156) dX8_mixBottle_155 rfl ?_
    refine g_ladd (pc2 := 157) dX8_mixBottle_156 rfl ?_
    exact g_lret dX8_mixBottle_157 rfl h
  · have h := h.2 c
    refine g_ldc2 (pc2 := 15) dX8_mixBottle_12 cl_X8_318 rfl ?_
    refine g_lload (pc2 := 17) dX8_mixBottle_15 rfl rfl ?_
    refine g_lmul (pc2 := 18) dX8_mixBottle_17 rfl ?_
    refine g_aload_n (pc2 := 19) dX8_mixBottle_18 rfl rfl ?_
    refine g_iload_n (pc2 := 20) dX8_mixBottle_19 rfl rfl ?_
    refine g_iload (pc2 := 22) dX8_mixBottle_20 rfl rfl ?_
    refine g_callV (M2 := mX8_bottle) (as := [.int x3, .int x6]) (st := [.long (31 * x4)]) (pc2 := 25) dX8_mixBottle_22 ml_X8_368 mvX8_bottle gk_0 rfl rfl rfl (Nat.le_of_ble_eq_true rfl) (Nat.le_refl _) rfl (h.mono ?_)
    rintro _ σ15 ⟨r16, rfl, h⟩
    show gG (d + 1) mX8_mixBottle 25 _ [.int r16, .long (31 * x4)] σ15 Q
    refine g_i2l (pc2 := 26) dX8_mixBottle_25 rfl ?_
    refine g_ladd (pc2 := 27) dX8_mixBottle_26 rfl ?_
    refine g_lstore (pc2 := 29) dX8_mixBottle_27 (by decide) rfl rfl ?_
    refine g_iinc2 (c := 1) (pc2 := 32) dX8_mixBottle_29 rfl (by decide) (by decide) rfl rfl ?_
    refine g_goto (tgt := 6) dX8_mixBottle_32 (by decide) ?_
    exact g_lw (lv2 := [some (.ref 0), none, none, some (.int x3), some (.long ((31 * x4) + r16.toInt64)), none, some (.int (x6 + 1))]) ⟨rfl, ⟨rfl, ⟨rfl, ⟨rfl, trivial⟩⟩⟩⟩ h
set_option maxRecDepth 20000 in
theorem eX8_most {d : Nat} {σ : gw_S} {Q : Option Value → gw_S → Prop} {x1 : Int32} {x2 : Int32}   (h : gB d mX8_isWithin [.int x1, .int 40] σ (fun v σ1 => ∃ r2 : Int32, v = some (.int r2) ∧ (((r2 = 0) → (Q (some (.int (-2))) σ1)) ∧ ((¬ r2 = 0) → (gB d mX8_isWithin [.int x2, .int 8] σ1 (fun v σ3 => ∃ r4 : Int32, v = some (.int r4) ∧ (((¬ r4 = 0) → (gB d mX8_behind [.ref 0, .int x1] σ3 (fun v σ5 => v = some (.ref 36) ∧ (gG (d + 1) mX8_most 36 [some (.ref 0), none, some (.int x2), some (.ref 36), some (.int (-1)), some (.int 0), some (.int 0)] [] σ5 Q)))) ∧ ((r4 = 0) → (Q (some (.int (-2))) σ3))))))))) : gB (d + 1) mX8_most [.ref 0, .int x1, .int x2] σ Q := by
  refine gB_of rfl (Nat.le_of_ble_eq_true rfl) (g_lw (lv2 := [some (.ref 0), some (.int x1), some (.int x2), none, none, none, none]) ⟨rfl, ⟨rfl, ⟨rfl, trivial⟩⟩⟩ ?_)
  refine g_iload_n (pc2 := 1) dX8_most_0 rfl rfl ?_
  refine g_bipush (v := 40) (pc2 := 3) dX8_most_1 (by decide) rfl ?_
  refine g_callS (M2 := mX8_isWithin) (as := [.int x1, .int 40]) (st := []) (pc2 := 6) dX8_most_3 ml_X8_81 msX8_isWithin rfl rfl (Nat.le_of_ble_eq_true rfl) (Nat.le_refl _) rfl (h.mono ?_)
  rintro _ σ1 ⟨r2, rfl, h⟩
  show gG (d + 1) mX8_most 6 _ [.int r2] σ1 Q
  refine g_if_eq (tgt := 18) (pc2 := 9) dX8_most_6 (by decide) rfl (fun c => ?_) (fun c => ?_)
  · have h := h.1 c
    refine g_bipush (v := (-2)) (pc2 := 20) dX8_most_18 (by decide) rfl ?_
    exact g_iret dX8_most_20 rfl h
  · have h := h.2 c
    refine g_iload_n (pc2 := 10) dX8_most_9 rfl rfl ?_
    refine g_bipush (v := 8) (pc2 := 12) dX8_most_10 (by decide) rfl ?_
    refine g_callS (M2 := mX8_isWithin) (as := [.int x2, .int 8]) (st := []) (pc2 := 15) dX8_most_12 ml_X8_81 msX8_isWithin rfl rfl (Nat.le_of_ble_eq_true rfl) (Nat.le_refl _) rfl (h.mono ?_)
    rintro _ σ3 ⟨r4, rfl, h⟩
    show gG (d + 1) mX8_most 15 _ [.int r4] σ3 Q
    refine g_if_ne (tgt := 21) (pc2 := 18) dX8_most_15 (by decide) rfl (fun c => ?_) (fun c => ?_)
    · have h := h.1 c
      refine g_aload_n (pc2 := 22) dX8_most_21 rfl rfl ?_
      refine g_iload_n (pc2 := 23) dX8_most_22 rfl rfl ?_
      refine g_callV (M2 := mX8_behind) (as := [.int x1]) (st := []) (pc2 := 26) dX8_most_23 ml_X8_186 mvX8_behind gk_0 rfl rfl rfl (Nat.le_of_ble_eq_true rfl) (Nat.le_refl _) rfl (h.mono ?_)
      rintro _ σ5 ⟨rfl, h⟩
      show gG (d + 1) mX8_most 26 _ [.ref 36] σ5 Q
      refine g_astore_n (pc2 := 27) dX8_most_26 (by decide) rfl rfl ?_
      refine g_iconst (v := (-1)) (pc2 := 28) dX8_most_27 (by decide) rfl ?_
      refine g_istore (pc2 := 30) dX8_most_28 (by decide) rfl rfl ?_
      refine g_iconst (v := 0) (pc2 := 31) dX8_most_30 (by decide) rfl ?_
      refine g_istore (pc2 := 33) dX8_most_31 (by decide) rfl rfl ?_
      refine g_iconst (v := 0) (pc2 := 34) dX8_most_33 (by decide) rfl ?_
      refine g_istore (pc2 := 36) dX8_most_34 (by decide) rfl rfl ?_
      exact g_lw (lv2 := [some (.ref 0), none, some (.int x2), some (.ref 36), some (.int (-1)), some (.int 0), some (.int 0)]) ⟨rfl, ⟨rfl, ⟨rfl, ⟨rfl, ⟨rfl, ⟨rfl, trivial⟩⟩⟩⟩⟩⟩ h
    · have h := h.2 c
      refine g_bipush (v := (-2)) (pc2 := 20) dX8_most_18 (by decide) rfl ?_
      exact g_iret dX8_most_20 rfl h
set_option maxRecDepth 20000 in
theorem bX8_most_36 {d : Nat} {σ : gw_S} {Q : Option Value → gw_S → Prop} {x2 : Int32} {x4 : Int32} {x5 : Int32} {x6 : Int32}   (h : (((σ 7 4) ≤ x6) → (Q (some (.int x4)) σ)) ∧ ((¬ (σ 7 4) ≤ x6) → (gB d mX3_muchOf [.ref 36, .int x6, .int x2] σ (fun v σ6 => ∃ r7 : Int32, v = some (.int r7) ∧ (((r7 ≤ x5) → (gG (d + 1) mX8_most 36 [some (.ref 0), none, some (.int x2), some (.ref 36), some (.int x4), some (.int x5), some (.int (x6 + 1))] [] σ6 Q)) ∧ ((¬ r7 ≤ x5) → (gB d mX3_muchOf [.ref 36, .int x6, .int x2] σ6 (fun v σ8 => ∃ r9 : Int32, v = some (.int r9) ∧ (gG (d + 1) mX8_most 36 [some (.ref 0), none, some (.int x2), some (.ref 36), some (.int x6), some (.int r9), some (.int (x6 + 1))] [] σ8 Q))))))))) : gG (d + 1) mX8_most 36 [some (.ref 0), none, some (.int x2), some (.ref 36), some (.int x4), some (.int x5), some (.int x6)] [] σ Q := by
  refine g_iload (pc2 := 38) dX8_most_36 rfl rfl ?_
  refine g_aload_n (pc2 := 39) dX8_most_38 rfl rfl ?_
  refine g_geta (pc2 := 42) dX8_most_39 fl_X8_24 gk_0 rfl rfl ?_
  refine g_geta (pc2 := 45) dX8_most_42 fl_X8_112 gk_6 rfl rfl ?_
  refine g_geti (pc2 := 48) dX8_most_45 fl_X8_242 gk_7 rfl rfl ?_
  refine g_icmp_ge (tgt := 82) (pc2 := 51) dX8_most_48 (by decide) rfl (fun c => ?_) (fun c => ?_)
  · have h := h.1 c
    refine g_iload (pc2 := 84) dX8_most_82 rfl rfl ?_
    exact g_iret dX8_most_84 rfl h
  · have h := h.2 c
    refine g_aload_n (pc2 := 52) dX8_most_51 rfl rfl ?_
    refine g_iload (pc2 := 54) dX8_most_52 rfl rfl ?_
    refine g_iload_n (pc2 := 55) dX8_most_54 rfl rfl ?_
    refine g_callV (M2 := mX3_muchOf) (as := [.int x6, .int x2]) (st := []) (pc2 := 58) dX8_most_55 ml_X8_193 mvX3_muchOf gk_36 rfl rfl rfl (Nat.le_of_ble_eq_true rfl) (Nat.le_refl _) rfl (h.mono ?_)
    rintro _ σ6 ⟨r7, rfl, h⟩
    show gG (d + 1) mX8_most 58 _ [.int r7] σ6 Q
    refine g_iload (pc2 := 60) dX8_most_58 rfl rfl ?_
    refine g_icmp_le (tgt := 76) (pc2 := 63) dX8_most_60 (by decide) rfl (fun c => ?_) (fun c => ?_)
    · have h := h.1 c
      refine g_iinc2 (c := 1) (pc2 := 79) dX8_most_76 rfl (by decide) (by decide) rfl rfl ?_
      refine g_goto (tgt := 36) dX8_most_79 (by decide) ?_
      exact g_lw (lv2 := [some (.ref 0), none, some (.int x2), some (.ref 36), some (.int x4), some (.int x5), some (.int (x6 + 1))]) ⟨rfl, ⟨rfl, ⟨rfl, ⟨rfl, ⟨rfl, ⟨rfl, trivial⟩⟩⟩⟩⟩⟩ h
    · have h := h.2 c
      refine g_iload (pc2 := 65) dX8_most_63 rfl rfl ?_
      refine g_istore (pc2 := 67) dX8_most_65 (by decide) rfl rfl ?_
      refine g_aload_n (pc2 := 68) dX8_most_67 rfl rfl ?_
      refine g_iload (pc2 := 70) dX8_most_68 rfl rfl ?_
      refine g_iload_n (pc2 := 71) dX8_most_70 rfl rfl ?_
      refine g_callV (M2 := mX3_muchOf) (as := [.int x6, .int x2]) (st := []) (pc2 := 74) dX8_most_71 ml_X8_193 mvX3_muchOf gk_36 rfl rfl rfl (Nat.le_of_ble_eq_true rfl) (Nat.le_refl _) rfl (h.mono ?_)
      rintro _ σ8 ⟨r9, rfl, h⟩
      show gG (d + 1) mX8_most 74 _ [.int r9] σ8 Q
      refine g_istore (pc2 := 76) dX8_most_74 (by decide) rfl rfl ?_
      refine g_iinc2 (c := 1) (pc2 := 79) dX8_most_76 rfl (by decide) (by decide) rfl rfl ?_
      refine g_goto (tgt := 36) dX8_most_79 (by decide) ?_
      exact g_lw (lv2 := [some (.ref 0), none, some (.int x2), some (.ref 36), some (.int x6), some (.int r9), some (.int (x6 + 1))]) ⟨rfl, ⟨rfl, ⟨rfl, ⟨rfl, ⟨rfl, ⟨rfl, trivial⟩⟩⟩⟩⟩⟩ h
set_option maxRecDepth 20000 in
theorem eX8_mostAlike {d : Nat} {σ : gw_S} {Q : Option Value → gw_S → Prop} {x1 : Int32} {x2 : Int32}   (h : gG (d + 1) mX8_mostAlike 5 [some (.ref 0), some (.int x1), some (.int x2), some (.int 0), some (.int 0), none, none, none] [] σ Q) : gB (d + 1) mX8_mostAlike [.ref 0, .int x1, .int x2] σ Q := by
  refine gB_of rfl (Nat.le_of_ble_eq_true rfl) (g_lw (lv2 := [some (.ref 0), some (.int x1), some (.int x2), none, none, none, none, none]) ⟨rfl, ⟨rfl, ⟨rfl, trivial⟩⟩⟩ ?_)
  refine g_iconst (v := 0) (pc2 := 1) dX8_mostAlike_0 (by decide) rfl ?_
  refine g_istore_n (pc2 := 2) dX8_mostAlike_1 (by decide) rfl rfl ?_
  refine g_iconst (v := 0) (pc2 := 3) dX8_mostAlike_2 (by decide) rfl ?_
  refine g_istore (pc2 := 5) dX8_mostAlike_3 (by decide) rfl rfl ?_
  exact g_lw (lv2 := [some (.ref 0), some (.int x1), some (.int x2), some (.int 0), some (.int 0), none, none, none]) ⟨rfl, ⟨rfl, ⟨rfl, ⟨rfl, ⟨rfl, trivial⟩⟩⟩⟩⟩ h
set_option maxRecDepth 20000 in
theorem bX8_mostAlike_5 {d : Nat} {σ : gw_S} {Q : Option Value → gw_S → Prop} {x1 : Int32} {x2 : Int32} {x3 : Int32} {x4 : Int32}   (h : ((16 ≤ x4) → (Q (some (.int x3)) σ)) ∧ ((¬ 16 ≤ x4) → (gG (d + 1) mX8_mostAlike 18 [some (.ref 0), some (.int x1), some (.int x2), some (.int x3), some (.int x4), some (.int 0), some (.int 0), none] [] σ Q))) : gG (d + 1) mX8_mostAlike 5 [some (.ref 0), some (.int x1), some (.int x2), some (.int x3), some (.int x4), none, none, none] [] σ Q := by
  refine g_iload (pc2 := 7) dX8_mostAlike_5 rfl rfl ?_
  refine g_bipush (v := 16) (pc2 := 9) dX8_mostAlike_7 (by decide) rfl ?_
  refine g_icmp_ge (tgt := 101) (pc2 := 12) dX8_mostAlike_9 (by decide) rfl (fun c => ?_) (fun c => ?_)
  · have h := h.1 c
    refine g_iload_n (pc2 := 102) dX8_mostAlike_101 rfl rfl ?_
    exact g_iret dX8_mostAlike_102 rfl h
  · have h := h.2 c
    refine g_iconst (v := 0) (pc2 := 13) dX8_mostAlike_12 (by decide) rfl ?_
    refine g_istore (pc2 := 15) dX8_mostAlike_13 (by decide) rfl rfl ?_
    refine g_iconst (v := 0) (pc2 := 16) dX8_mostAlike_15 (by decide) rfl ?_
    refine g_istore (pc2 := 18) dX8_mostAlike_16 (by decide) rfl rfl ?_
    exact g_lw (lv2 := [some (.ref 0), some (.int x1), some (.int x2), some (.int x3), some (.int x4), some (.int 0), some (.int 0), none]) ⟨rfl, ⟨rfl, ⟨rfl, ⟨rfl, ⟨rfl, ⟨rfl, ⟨rfl, trivial⟩⟩⟩⟩⟩⟩⟩ h
set_option maxRecDepth 20000 in
theorem bX8_mostAlike_18 {d : Nat} {σ : gw_S} {Q : Option Value → gw_S → Prop} {x1 : Int32} {x2 : Int32} {x3 : Int32} {x4 : Int32} {x5 : Int32} {x6 : Int32}   (h : ((16 ≤ x6) → (gG (d + 1) mX8_mostAlike 5 [some (.ref 0), some (.int x1), some (.int x2), some (.int (gw_max x3 x5)), some (.int (x4 + 1)), none, none, none] [] σ Q)) ∧ ((¬ 16 ≤ x6) → (((¬ (((x1 >>> (x4 &&& 31)) &&& (x1 >>> (x6 &&& 31))) &&& 1) = 1) → ((((0 : Int32) = 0) → (gG (d + 1) mX8_mostAlike 18 [some (.ref 0), some (.int x1), some (.int x2), some (.int x3), some (.int x4), some (.int x5), some (.int (x6 + 1)), none] [] σ Q)) ∧ ((¬ (0 : Int32) = 0) → (vp_in ((8 * x4) + x2) 128 ∧ (vp_in ((8 * x6) + x2) 128 ∧ (((¬ (σ 35 ((8 * x4) + x2).toNatClampNeg) = (σ 35 ((8 * x6) + x2).toNatClampNeg)) → (gG (d + 1) mX8_mostAlike 18 [some (.ref 0), some (.int x1), some (.int x2), some (.int x3), some (.int x4), some (.int x5), some (.int (x6 + 1)), none] [] σ Q)) ∧ (((σ 35 ((8 * x4) + x2).toNatClampNeg) = (σ 35 ((8 * x6) + x2).toNatClampNeg)) → (gG (d + 1) mX8_mostAlike 18 [some (.ref 0), some (.int x1), some (.int x2), some (.int x3), some (.int x4), some (.int (x5 + 1)), some (.int (x6 + 1)), none] [] σ Q)))))))) ∧ (((((x1 >>> (x4 &&& 31)) &&& (x1 >>> (x6 &&& 31))) &&& 1) = 1) → ((((1 : Int32) = 0) → (gG (d + 1) mX8_mostAlike 18 [some (.ref 0), some (.int x1), some (.int x2), some (.int x3), some (.int x4), some (.int x5), some (.int (x6 + 1)), none] [] σ Q)) ∧ ((¬ (1 : Int32) = 0) → (vp_in ((8 * x4) + x2) 128 ∧ (vp_in ((8 * x6) + x2) 128 ∧ (((¬ (σ 35 ((8 * x4) + x2).toNatClampNeg) = (σ 35 ((8 * x6) + x2).toNatClampNeg)) → (gG (d + 1) mX8_mostAlike 18 [some (.ref 0), some (.int x1), some (.int x2), some (.int x3), some (.int x4), some (.int x5), some (.int (x6 + 1)), none] [] σ Q)) ∧ (((σ 35 ((8 * x4) + x2).toNatClampNeg) = (σ 35 ((8 * x6) + x2).toNatClampNeg)) → (gG (d + 1) mX8_mostAlike 18 [some (.ref 0), some (.int x1), some (.int x2), some (.int x3), some (.int x4), some (.int (x5 + 1)), some (.int (x6 + 1)), none] [] σ Q))))))))))) : gG (d + 1) mX8_mostAlike 18 [some (.ref 0), some (.int x1), some (.int x2), some (.int x3), some (.int x4), some (.int x5), some (.int x6), none] [] σ Q := by
  refine g_iload (pc2 := 20) dX8_mostAlike_18 rfl rfl ?_
  refine g_bipush (v := 16) (pc2 := 22) dX8_mostAlike_20 (by decide) rfl ?_
  refine g_icmp_ge (tgt := 88) (pc2 := 25) dX8_mostAlike_22 (by decide) rfl (fun c => ?_) (fun c => ?_)
  · have h := h.1 c
    refine g_iload_n (pc2 := 89) dX8_mostAlike_88 rfl rfl ?_
    refine g_iload (pc2 := 91) dX8_mostAlike_89 rfl rfl ?_
    refine g_mmax (pc2 := 94) dX8_mostAlike_91 ml_X8_410 (Nat.le_add_left 1 _) (Nat.le_of_ble_eq_true rfl) rfl ?_
    refine g_istore_n (pc2 := 95) dX8_mostAlike_94 (by decide) rfl rfl ?_
    refine g_iinc2 (c := 1) (pc2 := 98) dX8_mostAlike_95 rfl (by decide) (by decide) rfl rfl ?_
    refine g_goto (tgt := 5) dX8_mostAlike_98 (by decide) ?_
    exact g_lw (lv2 := [some (.ref 0), some (.int x1), some (.int x2), some (.int (gw_max x3 x5)), some (.int (x4 + 1)), none, none, none]) ⟨rfl, ⟨rfl, ⟨rfl, ⟨rfl, ⟨rfl, trivial⟩⟩⟩⟩⟩ h
  · have h := h.2 c
    refine g_iload_n (pc2 := 26) dX8_mostAlike_25 rfl rfl ?_
    refine g_iload (pc2 := 28) dX8_mostAlike_26 rfl rfl ?_
    refine g_ishr (pc2 := 29) dX8_mostAlike_28 rfl ?_
    refine g_iload_n (pc2 := 30) dX8_mostAlike_29 rfl rfl ?_
    refine g_iload (pc2 := 32) dX8_mostAlike_30 rfl rfl ?_
    refine g_ishr (pc2 := 33) dX8_mostAlike_32 rfl ?_
    refine g_iand (pc2 := 34) dX8_mostAlike_33 rfl ?_
    refine g_iconst (v := 1) (pc2 := 35) dX8_mostAlike_34 (by decide) rfl ?_
    refine g_iand (pc2 := 36) dX8_mostAlike_35 rfl ?_
    refine g_iconst (v := 1) (pc2 := 37) dX8_mostAlike_36 (by decide) rfl ?_
    refine g_icmp_ne (tgt := 44) (pc2 := 40) dX8_mostAlike_37 (by decide) rfl (fun c => ?_) (fun c => ?_)
    · have h := h.1 c
      refine g_iconst (v := 0) (pc2 := 45) dX8_mostAlike_44 (by decide) rfl ?_
      refine g_istore (pc2 := 47) dX8_mostAlike_45 (by decide) rfl rfl ?_
      refine g_iload (pc2 := 49) dX8_mostAlike_47 rfl rfl ?_
      refine g_if_eq (tgt := 82) (pc2 := 52) dX8_mostAlike_49 (by decide) rfl (fun c => ?_) (fun c => ?_)
      · have h := h.1 c
        refine g_iinc2 (c := 1) (pc2 := 85) dX8_mostAlike_82 rfl (by decide) (by decide) rfl rfl ?_
        refine g_goto (tgt := 18) dX8_mostAlike_85 (by decide) ?_
        exact g_lw (lv2 := [some (.ref 0), some (.int x1), some (.int x2), some (.int x3), some (.int x4), some (.int x5), some (.int (x6 + 1)), none]) ⟨rfl, ⟨rfl, ⟨rfl, ⟨rfl, ⟨rfl, ⟨rfl, ⟨rfl, trivial⟩⟩⟩⟩⟩⟩⟩ h
      · have h := h.2 c
        refine g_aload_n (pc2 := 53) dX8_mostAlike_52 rfl rfl ?_
        refine g_geta (pc2 := 56) dX8_mostAlike_53 fl_X8_63 gk_0 rfl rfl ?_
        refine g_bipush (v := 8) (pc2 := 58) dX8_mostAlike_56 (by decide) rfl ?_
        refine g_iload (pc2 := 60) dX8_mostAlike_58 rfl rfl ?_
        refine g_imul (pc2 := 61) dX8_mostAlike_60 rfl ?_
        refine g_iload_n (pc2 := 62) dX8_mostAlike_61 rfl rfl ?_
        refine g_iadd (pc2 := 63) dX8_mostAlike_62 rfl ?_
        obtain ⟨hx, h⟩ := h
        refine g_iald (pc2 := 64) dX8_mostAlike_63 gk_35 hx rfl ?_
        refine g_aload_n (pc2 := 65) dX8_mostAlike_64 rfl rfl ?_
        refine g_geta (pc2 := 68) dX8_mostAlike_65 fl_X8_63 gk_0 rfl rfl ?_
        refine g_bipush (v := 8) (pc2 := 70) dX8_mostAlike_68 (by decide) rfl ?_
        refine g_iload (pc2 := 72) dX8_mostAlike_70 rfl rfl ?_
        refine g_imul (pc2 := 73) dX8_mostAlike_72 rfl ?_
        refine g_iload_n (pc2 := 74) dX8_mostAlike_73 rfl rfl ?_
        refine g_iadd (pc2 := 75) dX8_mostAlike_74 rfl ?_
        obtain ⟨hx, h⟩ := h
        refine g_iald (pc2 := 76) dX8_mostAlike_75 gk_35 hx rfl ?_
        refine g_icmp_ne (tgt := 82) (pc2 := 79) dX8_mostAlike_76 (by decide) rfl (fun c => ?_) (fun c => ?_)
        · have h := h.1 c
          refine g_iinc2 (c := 1) (pc2 := 85) dX8_mostAlike_82 rfl (by decide) (by decide) rfl rfl ?_
          refine g_goto (tgt := 18) dX8_mostAlike_85 (by decide) ?_
          exact g_lw (lv2 := [some (.ref 0), some (.int x1), some (.int x2), some (.int x3), some (.int x4), some (.int x5), some (.int (x6 + 1)), none]) ⟨rfl, ⟨rfl, ⟨rfl, ⟨rfl, ⟨rfl, ⟨rfl, ⟨rfl, trivial⟩⟩⟩⟩⟩⟩⟩ h
        · have h := h.2 c
          refine g_iinc2 (c := 1) (pc2 := 82) dX8_mostAlike_79 rfl (by decide) (by decide) rfl rfl ?_
          refine g_iinc2 (c := 1) (pc2 := 85) dX8_mostAlike_82 rfl (by decide) (by decide) rfl rfl ?_
          refine g_goto (tgt := 18) dX8_mostAlike_85 (by decide) ?_
          exact g_lw (lv2 := [some (.ref 0), some (.int x1), some (.int x2), some (.int x3), some (.int x4), some (.int (x5 + 1)), some (.int (x6 + 1)), none]) ⟨rfl, ⟨rfl, ⟨rfl, ⟨rfl, ⟨rfl, ⟨rfl, ⟨rfl, trivial⟩⟩⟩⟩⟩⟩⟩ h
    · have h := h.2 c
      refine g_iconst (v := 1) (pc2 := 41) dX8_mostAlike_40 (by decide) rfl ?_
      refine g_goto (tgt := 45) dX8_mostAlike_41 (by decide) ?_
      refine g_istore (pc2 := 47) dX8_mostAlike_45 (by decide) rfl rfl ?_
      refine g_iload (pc2 := 49) dX8_mostAlike_47 rfl rfl ?_
      refine g_if_eq (tgt := 82) (pc2 := 52) dX8_mostAlike_49 (by decide) rfl (fun c => ?_) (fun c => ?_)
      · have h := h.1 c
        refine g_iinc2 (c := 1) (pc2 := 85) dX8_mostAlike_82 rfl (by decide) (by decide) rfl rfl ?_
        refine g_goto (tgt := 18) dX8_mostAlike_85 (by decide) ?_
        exact g_lw (lv2 := [some (.ref 0), some (.int x1), some (.int x2), some (.int x3), some (.int x4), some (.int x5), some (.int (x6 + 1)), none]) ⟨rfl, ⟨rfl, ⟨rfl, ⟨rfl, ⟨rfl, ⟨rfl, ⟨rfl, trivial⟩⟩⟩⟩⟩⟩⟩ h
      · have h := h.2 c
        refine g_aload_n (pc2 := 53) dX8_mostAlike_52 rfl rfl ?_
        refine g_geta (pc2 := 56) dX8_mostAlike_53 fl_X8_63 gk_0 rfl rfl ?_
        refine g_bipush (v := 8) (pc2 := 58) dX8_mostAlike_56 (by decide) rfl ?_
        refine g_iload (pc2 := 60) dX8_mostAlike_58 rfl rfl ?_
        refine g_imul (pc2 := 61) dX8_mostAlike_60 rfl ?_
        refine g_iload_n (pc2 := 62) dX8_mostAlike_61 rfl rfl ?_
        refine g_iadd (pc2 := 63) dX8_mostAlike_62 rfl ?_
        obtain ⟨hx, h⟩ := h
        refine g_iald (pc2 := 64) dX8_mostAlike_63 gk_35 hx rfl ?_
        refine g_aload_n (pc2 := 65) dX8_mostAlike_64 rfl rfl ?_
        refine g_geta (pc2 := 68) dX8_mostAlike_65 fl_X8_63 gk_0 rfl rfl ?_
        refine g_bipush (v := 8) (pc2 := 70) dX8_mostAlike_68 (by decide) rfl ?_
        refine g_iload (pc2 := 72) dX8_mostAlike_70 rfl rfl ?_
        refine g_imul (pc2 := 73) dX8_mostAlike_72 rfl ?_
        refine g_iload_n (pc2 := 74) dX8_mostAlike_73 rfl rfl ?_
        refine g_iadd (pc2 := 75) dX8_mostAlike_74 rfl ?_
        obtain ⟨hx, h⟩ := h
        refine g_iald (pc2 := 76) dX8_mostAlike_75 gk_35 hx rfl ?_
        refine g_icmp_ne (tgt := 82) (pc2 := 79) dX8_mostAlike_76 (by decide) rfl (fun c => ?_) (fun c => ?_)
        · have h := h.1 c
          refine g_iinc2 (c := 1) (pc2 := 85) dX8_mostAlike_82 rfl (by decide) (by decide) rfl rfl ?_
          refine g_goto (tgt := 18) dX8_mostAlike_85 (by decide) ?_
          exact g_lw (lv2 := [some (.ref 0), some (.int x1), some (.int x2), some (.int x3), some (.int x4), some (.int x5), some (.int (x6 + 1)), none]) ⟨rfl, ⟨rfl, ⟨rfl, ⟨rfl, ⟨rfl, ⟨rfl, ⟨rfl, trivial⟩⟩⟩⟩⟩⟩⟩ h
        · have h := h.2 c
          refine g_iinc2 (c := 1) (pc2 := 82) dX8_mostAlike_79 rfl (by decide) (by decide) rfl rfl ?_
          refine g_iinc2 (c := 1) (pc2 := 85) dX8_mostAlike_82 rfl (by decide) (by decide) rfl rfl ?_
          refine g_goto (tgt := 18) dX8_mostAlike_85 (by decide) ?_
          exact g_lw (lv2 := [some (.ref 0), some (.int x1), some (.int x2), some (.int x3), some (.int x4), some (.int (x5 + 1)), some (.int (x6 + 1)), none]) ⟨rfl, ⟨rfl, ⟨rfl, ⟨rfl, ⟨rfl, ⟨rfl, ⟨rfl, trivial⟩⟩⟩⟩⟩⟩⟩ h
set_option maxRecDepth 20000 in
theorem eX8_nextSeed {d : Nat} {σ : gw_S} {Q : Option Value → gw_S → Prop} {x0 : Int32}   (h : Q (some (.int ((1103515245 * x0) + 12345))) σ) : gB d mX8_nextSeed [.int x0] σ Q := by
  refine gB_of rfl (Nat.le_of_ble_eq_true rfl) (g_lw (lv2 := [some (.int x0)]) ⟨rfl, trivial⟩ ?_)
  refine g_ldcw (pc2 := 3) dX8_nextSeed_0 co_X8_428 rfl ?_
  refine g_iload_n (pc2 := 4) dX8_nextSeed_3 rfl rfl ?_
  refine g_imul (pc2 := 5) dX8_nextSeed_4 rfl ?_
  refine g_sipush (v := 12345) (pc2 := 8) dX8_nextSeed_5 (by decide) rfl ?_
  refine g_iadd (pc2 := 9) dX8_nextSeed_8 rfl ?_
  exact g_iret dX8_nextSeed_9 rfl h
set_option maxRecDepth 20000 in
theorem eX8_note {d : Nat} {σ : gw_S} {Q : Option Value → gw_S → Prop} {x1 : Int32}   (h : gB d mX8_isWithin [.int x1, .int 8] σ (fun v σ1 => ∃ r2 : Int32, v = some (.int r2) ∧ (((¬ r2 = 0) → ((((σ1 17 4) ≤ x1) → (Q (some (.int (-1))) σ1)) ∧ ((¬ (σ1 17 4) ≤ x1) → (vp_in x1 8 ∧ (Q (some (.int (σ1 18 x1.toNatClampNeg))) σ1))))) ∧ ((r2 = 0) → (Q (some (.int (-2))) σ1))))) : gB (d + 1) mX8_note [.ref 0, .int x1] σ Q := by
  refine gB_of rfl (Nat.le_of_ble_eq_true rfl) (g_lw (lv2 := [some (.ref 0), some (.int x1)]) ⟨rfl, ⟨rfl, trivial⟩⟩ ?_)
  refine g_iload_n (pc2 := 1) dX8_note_0 rfl rfl ?_
  refine g_bipush (v := 8) (pc2 := 3) dX8_note_1 (by decide) rfl ?_
  refine g_callS (M2 := mX8_isWithin) (as := [.int x1, .int 8]) (st := []) (pc2 := 6) dX8_note_3 ml_X8_81 msX8_isWithin rfl rfl (Nat.le_of_ble_eq_true rfl) (Nat.le_refl _) rfl (h.mono ?_)
  rintro _ σ1 ⟨r2, rfl, h⟩
  show gG (d + 1) mX8_note 6 _ [.int r2] σ1 Q
  refine g_if_ne (tgt := 12) (pc2 := 9) dX8_note_6 (by decide) rfl (fun c => ?_) (fun c => ?_)
  · have h := h.1 c
    refine g_iload_n (pc2 := 13) dX8_note_12 rfl rfl ?_
    refine g_aload_n (pc2 := 14) dX8_note_13 rfl rfl ?_
    refine g_geta (pc2 := 17) dX8_note_14 fl_X8_31 gk_0 rfl rfl ?_
    refine g_geti (pc2 := 20) dX8_note_17 fl_X8_130 gk_17 rfl rfl ?_
    refine g_icmp_ge (tgt := 35) (pc2 := 23) dX8_note_20 (by decide) rfl (fun c => ?_) (fun c => ?_)
    · have h := h.1 c
      refine g_iconst (v := (-1)) (pc2 := 36) dX8_note_35 (by decide) rfl ?_
      exact g_iret dX8_note_36 rfl h
    · have h := h.2 c
      refine g_aload_n (pc2 := 24) dX8_note_23 rfl rfl ?_
      refine g_geta (pc2 := 27) dX8_note_24 fl_X8_31 gk_0 rfl rfl ?_
      refine g_geta (pc2 := 30) dX8_note_27 fl_X8_131 gk_17 rfl rfl ?_
      refine g_iload_n (pc2 := 31) dX8_note_30 rfl rfl ?_
      obtain ⟨hx, h⟩ := h
      refine g_iald (pc2 := 32) dX8_note_31 gk_18 hx rfl ?_
      refine g_goto (tgt := 36) dX8_note_32 (by decide) ?_
      exact g_iret dX8_note_36 rfl h
  · have h := h.2 c
    refine g_bipush (v := (-2)) (pc2 := 11) dX8_note_9 (by decide) rfl ?_
    exact g_iret dX8_note_11 rfl h
set_option maxRecDepth 20000 in
theorem eX8_put {d : Nat} {σ : gw_S} {Q : Option Value → gw_S → Prop} {x1 : Int32} {x2 : Int32} {x3 : Int32} {x4 : Int32}   (h : gB d mX8_isWithin [.int x1, .int 4] σ (fun v σ1 => ∃ r2 : Int32, v = some (.int r2) ∧ (((r2 = 0) → (Q (some (.int (-2))) σ1)) ∧ ((¬ r2 = 0) → (gB d mX8_isWithin [.int x2, .int 3] σ1 (fun v σ3 => ∃ r4 : Int32, v = some (.int r4) ∧ (((¬ r4 = 0) → (gB d mX1_findingAt [.ref 26, .int x1, .int x2, .int x3] σ3 (fun v σ5 => ∃ r6 : Int32, v = some (.int r6) ∧ (((r6 = 0) → (gB d mX1_setItem [.ref 26, .int x1, .int x3, .int x4] σ5 (fun v σ7 => v = none ∧ (Q (some (.int 1)) σ7)))) ∧ ((¬ r6 = 0) → (gB d mX8_find [.ref 0, .int r6] σ5 (fun v σ8 => ∃ r9 : Int32, v = some (.int r9) ∧ (Q (some (.int r9)) σ8)))))))) ∧ ((r4 = 0) → (Q (some (.int (-2))) σ3))))))))) : gB (d + 1) mX8_put [.ref 0, .int x1, .int x2, .int x3, .int x4] σ Q := by
  refine gB_of rfl (Nat.le_of_ble_eq_true rfl) (g_lw (lv2 := [some (.ref 0), some (.int x1), some (.int x2), some (.int x3), some (.int x4), none]) ⟨rfl, ⟨rfl, ⟨rfl, ⟨rfl, ⟨rfl, trivial⟩⟩⟩⟩⟩ ?_)
  refine g_iload_n (pc2 := 1) dX8_put_0 rfl rfl ?_
  refine g_iconst (v := 4) (pc2 := 2) dX8_put_1 (by decide) rfl ?_
  refine g_callS (M2 := mX8_isWithin) (as := [.int x1, .int 4]) (st := []) (pc2 := 5) dX8_put_2 ml_X8_81 msX8_isWithin rfl rfl (Nat.le_of_ble_eq_true rfl) (Nat.le_refl _) rfl (h.mono ?_)
  rintro _ σ1 ⟨r2, rfl, h⟩
  show gG (d + 1) mX8_put 5 _ [.int r2] σ1 Q
  refine g_if_eq (tgt := 16) (pc2 := 8) dX8_put_5 (by decide) rfl (fun c => ?_) (fun c => ?_)
  · have h := h.1 c
    refine g_bipush (v := (-2)) (pc2 := 18) dX8_put_16 (by decide) rfl ?_
    exact g_iret dX8_put_18 rfl h
  · have h := h.2 c
    refine g_iload_n (pc2 := 9) dX8_put_8 rfl rfl ?_
    refine g_iconst (v := 3) (pc2 := 10) dX8_put_9 (by decide) rfl ?_
    refine g_callS (M2 := mX8_isWithin) (as := [.int x2, .int 3]) (st := []) (pc2 := 13) dX8_put_10 ml_X8_81 msX8_isWithin rfl rfl (Nat.le_of_ble_eq_true rfl) (Nat.le_refl _) rfl (h.mono ?_)
    rintro _ σ3 ⟨r4, rfl, h⟩
    show gG (d + 1) mX8_put 13 _ [.int r4] σ3 Q
    refine g_if_ne (tgt := 19) (pc2 := 16) dX8_put_13 (by decide) rfl (fun c => ?_) (fun c => ?_)
    · have h := h.1 c
      refine g_aload_n (pc2 := 20) dX8_put_19 rfl rfl ?_
      refine g_geta (pc2 := 23) dX8_put_20 fl_X8_45 gk_0 rfl rfl ?_
      refine g_iload_n (pc2 := 24) dX8_put_23 rfl rfl ?_
      refine g_iload_n (pc2 := 25) dX8_put_24 rfl rfl ?_
      refine g_iload_n (pc2 := 26) dX8_put_25 rfl rfl ?_
      refine g_callV (M2 := mX1_findingAt) (as := [.int x1, .int x2, .int x3]) (st := []) (pc2 := 29) dX8_put_26 ml_X8_298 mvX1_findingAt gk_26 rfl rfl rfl (Nat.le_of_ble_eq_true rfl) (Nat.le_refl _) rfl (h.mono ?_)
      rintro _ σ5 ⟨r6, rfl, h⟩
      show gG (d + 1) mX8_put 29 _ [.int r6] σ5 Q
      refine g_istore (pc2 := 31) dX8_put_29 (by decide) rfl rfl ?_
      refine g_iload (pc2 := 33) dX8_put_31 rfl rfl ?_
      refine g_if_eq (tgt := 43) (pc2 := 36) dX8_put_33 (by decide) rfl (fun c => ?_) (fun c => ?_)
      · have h := h.1 c
        refine g_aload_n (pc2 := 44) dX8_put_43 rfl rfl ?_
        refine g_geta (pc2 := 47) dX8_put_44 fl_X8_45 gk_0 rfl rfl ?_
        refine g_iload_n (pc2 := 48) dX8_put_47 rfl rfl ?_
        refine g_iload_n (pc2 := 49) dX8_put_48 rfl rfl ?_
        refine g_iload (pc2 := 51) dX8_put_49 rfl rfl ?_
        refine g_callV (M2 := mX1_setItem) (as := [.int x1, .int x3, .int x4]) (st := []) (pc2 := 54) dX8_put_51 ml_X8_302 mvX1_setItem gk_26 rfl rfl rfl (Nat.le_of_ble_eq_true rfl) (Nat.le_refl _) rfl (h.mono ?_)
        rintro _ σ7 ⟨rfl, h⟩
        show gG (d + 1) mX8_put 54 _ [] σ7 Q
        refine g_iconst (v := 1) (pc2 := 55) dX8_put_54 (by decide) rfl ?_
        exact g_iret dX8_put_55 rfl h
      · have h := h.2 c
        refine g_aload_n (pc2 := 37) dX8_put_36 rfl rfl ?_
        refine g_iload (pc2 := 39) dX8_put_37 rfl rfl ?_
        refine g_callV (M2 := mX8_find) (as := [.int r6]) (st := []) (pc2 := 42) dX8_put_39 ml_X8_172 mvX8_find gk_0 rfl rfl rfl (Nat.le_of_ble_eq_true rfl) (Nat.le_refl _) rfl (h.mono ?_)
        rintro _ σ8 ⟨r9, rfl, h⟩
        show gG (d + 1) mX8_put 42 _ [.int r9] σ8 Q
        exact g_iret dX8_put_42 rfl h
    · have h := h.2 c
      refine g_bipush (v := (-2)) (pc2 := 18) dX8_put_16 (by decide) rfl ?_
      exact g_iret dX8_put_18 rfl h
set_option maxRecDepth 20000 in
theorem eX8_read {d : Nat} {σ : gw_S} {Q : Option Value → gw_S → Prop} {x1 : Int32}   (h : gB d mX8_isWithin [.int x1, .int 4] σ (fun v σ1 => ∃ r2 : Int32, v = some (.int r2) ∧ (((¬ r2 = 0) → (vp_in x1 4 ∧ (((¬ (σ1 32 x1.toNatClampNeg) = (-1)) → (vp_in x1 4 ∧ ∃ q3, ([28, 29, 30, 31] : List Nat)[x1.toNatClampNeg]? = some q3 ∧ gw_k q3 = some (.inl (.int, 60)) ∧ (vp_in x1 4 ∧ (gG (d + 1) mX8_read 55 [some (.ref 0), none, some (.ref q3), some (.int ((σ1 33 x1.toNatClampNeg) / 4)), some (.int 0), none] [] σ1 Q)))) ∧ (((σ1 32 x1.toNatClampNeg) = (-1)) → (gB d mX8_find [.ref 0, .int 1] σ1 (fun v σ5 => ∃ r6 : Int32, v = some (.int r6) ∧ (Q (some (.int r6)) σ5))))))) ∧ ((r2 = 0) → (Q (some (.int (-2))) σ1))))) : gB (d + 1) mX8_read [.ref 0, .int x1] σ Q := by
  refine gB_of rfl (Nat.le_of_ble_eq_true rfl) (g_lw (lv2 := [some (.ref 0), some (.int x1), none, none, none, none]) ⟨rfl, ⟨rfl, trivial⟩⟩ ?_)
  refine g_iload_n (pc2 := 1) dX8_read_0 rfl rfl ?_
  refine g_iconst (v := 4) (pc2 := 2) dX8_read_1 (by decide) rfl ?_
  refine g_callS (M2 := mX8_isWithin) (as := [.int x1, .int 4]) (st := []) (pc2 := 5) dX8_read_2 ml_X8_81 msX8_isWithin rfl rfl (Nat.le_of_ble_eq_true rfl) (Nat.le_refl _) rfl (h.mono ?_)
  rintro _ σ1 ⟨r2, rfl, h⟩
  show gG (d + 1) mX8_read 5 _ [.int r2] σ1 Q
  refine g_if_ne (tgt := 11) (pc2 := 8) dX8_read_5 (by decide) rfl (fun c => ?_) (fun c => ?_)
  · have h := h.1 c
    refine g_aload_n (pc2 := 12) dX8_read_11 rfl rfl ?_
    refine g_geta (pc2 := 15) dX8_read_12 fl_X8_45 gk_0 rfl rfl ?_
    refine g_geta (pc2 := 18) dX8_read_15 fl_X8_169 gk_26 rfl rfl ?_
    refine g_iload_n (pc2 := 19) dX8_read_18 rfl rfl ?_
    obtain ⟨hx, h⟩ := h
    refine g_iald (pc2 := 20) dX8_read_19 gk_32 hx rfl ?_
    refine g_iconst (v := (-1)) (pc2 := 21) dX8_read_20 (by decide) rfl ?_
    refine g_icmp_ne (tgt := 30) (pc2 := 24) dX8_read_21 (by decide) rfl (fun c => ?_) (fun c => ?_)
    · have h := h.1 c
      refine g_aload_n (pc2 := 31) dX8_read_30 rfl rfl ?_
      refine g_geta (pc2 := 34) dX8_read_31 fl_X8_45 gk_0 rfl rfl ?_
      refine g_geta (pc2 := 37) dX8_read_34 fl_X8_176 gk_26 rfl rfl ?_
      refine g_iload_n (pc2 := 38) dX8_read_37 rfl rfl ?_
      obtain ⟨hx, q3, hy, hq4, h⟩ := h
      refine g_aald (pc2 := 39) dX8_read_38 gk_27 rfl hx hy rfl ?_
      refine g_astore_n (pc2 := 40) dX8_read_39 (by decide) rfl rfl ?_
      refine g_aload_n (pc2 := 41) dX8_read_40 rfl rfl ?_
      refine g_geta (pc2 := 44) dX8_read_41 fl_X8_45 gk_0 rfl rfl ?_
      refine g_geta (pc2 := 47) dX8_read_44 fl_X8_180 gk_26 rfl rfl ?_
      refine g_iload_n (pc2 := 48) dX8_read_47 rfl rfl ?_
      obtain ⟨hx, h⟩ := h
      refine g_iald (pc2 := 49) dX8_read_48 gk_33 hx rfl ?_
      refine g_iconst (v := 4) (pc2 := 50) dX8_read_49 (by decide) rfl ?_
      refine g_idiv (pc2 := 51) dX8_read_50 (by decide) rfl ?_
      refine g_istore_n (pc2 := 52) dX8_read_51 (by decide) rfl rfl ?_
      refine g_iconst (v := 0) (pc2 := 53) dX8_read_52 (by decide) rfl ?_
      refine g_istore (pc2 := 55) dX8_read_53 (by decide) rfl rfl ?_
      exact g_lw (lv2 := [some (.ref 0), none, some (.ref q3), some (.int ((σ1 33 x1.toNatClampNeg) / 4)), some (.int 0), none]) ⟨rfl, ⟨rfl, ⟨rfl, ⟨rfl, trivial⟩⟩⟩⟩ h
    · have h := h.2 c
      refine g_aload_n (pc2 := 25) dX8_read_24 rfl rfl ?_
      refine g_iconst (v := 1) (pc2 := 26) dX8_read_25 (by decide) rfl ?_
      refine g_callV (M2 := mX8_find) (as := [.int 1]) (st := []) (pc2 := 29) dX8_read_26 ml_X8_172 mvX8_find gk_0 rfl rfl rfl (Nat.le_of_ble_eq_true rfl) (Nat.le_refl _) rfl (h.mono ?_)
      rintro _ σ5 ⟨r6, rfl, h⟩
      show gG (d + 1) mX8_read 29 _ [.int r6] σ5 Q
      exact g_iret dX8_read_29 rfl h
  · have h := h.2 c
    refine g_bipush (v := (-2)) (pc2 := 10) dX8_read_8 (by decide) rfl ?_
    exact g_iret dX8_read_10 rfl h
set_option maxRecDepth 20000 in
theorem bX8_read_55 {d : Nat} {σ : gw_S} {Q : Option Value → gw_S → Prop} {x3 : Int32} {x4 : Int32} {q3 : Nat} (hq4 : gw_k q3 = some (.inl (.int, 60))) (h : ((x3 ≤ x4) → (Q (some (.int x3)) σ)) ∧ ((¬ x3 ≤ x4) → (vp_in (4 * x4) 60 ∧ (vp_in ((4 * x4) + 1) 60 ∧ (vp_in ((4 * x4) + 2) 60 ∧ (vp_in ((4 * x4) + 3) 60 ∧ (gB d mX8_act [.ref 0, .int (σ q3 (4 * x4).toNatClampNeg), .int (σ q3 ((4 * x4) + 1).toNatClampNeg), .int (σ q3 ((4 * x4) + 2).toNatClampNeg), .int (σ q3 ((4 * x4) + 3).toNatClampNeg)] σ (fun v σ7 => ∃ r8 : Int32, v = some (.int r8) ∧ (((0 ≤ r8) → (gG (d + 1) mX8_read 55 [some (.ref 0), none, some (.ref q3), some (.int x3), some (.int (x4 + 1)), none] [] σ7 Q)) ∧ ((¬ 0 ≤ r8) → (Q (some (.int x4)) σ7))))))))))) : gG (d + 1) mX8_read 55 [some (.ref 0), none, some (.ref q3), some (.int x3), some (.int x4), none] [] σ Q := by
  refine g_iload (pc2 := 57) dX8_read_55 rfl rfl ?_
  refine g_iload_n (pc2 := 58) dX8_read_57 rfl rfl ?_
  refine g_icmp_ge (tgt := 105) (pc2 := 61) dX8_read_58 (by decide) rfl (fun c => ?_) (fun c => ?_)
  · have h := h.1 c
    refine g_iload_n (pc2 := 106) dX8_read_105 rfl rfl ?_
    exact g_iret dX8_read_106 rfl h
  · have h := h.2 c
    refine g_iconst (v := 4) (pc2 := 62) dX8_read_61 (by decide) rfl ?_
    refine g_iload (pc2 := 64) dX8_read_62 rfl rfl ?_
    refine g_imul (pc2 := 65) dX8_read_64 rfl ?_
    refine g_istore (pc2 := 67) dX8_read_65 (by decide) rfl rfl ?_
    refine g_aload_n (pc2 := 68) dX8_read_67 rfl rfl ?_
    refine g_aload_n (pc2 := 69) dX8_read_68 rfl rfl ?_
    refine g_iload (pc2 := 71) dX8_read_69 rfl rfl ?_
    obtain ⟨hx, h⟩ := h
    refine g_iald (pc2 := 72) dX8_read_71 hq4 hx rfl ?_
    refine g_aload_n (pc2 := 73) dX8_read_72 rfl rfl ?_
    refine g_iload (pc2 := 75) dX8_read_73 rfl rfl ?_
    refine g_iconst (v := 1) (pc2 := 76) dX8_read_75 (by decide) rfl ?_
    refine g_iadd (pc2 := 77) dX8_read_76 rfl ?_
    obtain ⟨hx, h⟩ := h
    refine g_iald (pc2 := 78) dX8_read_77 hq4 hx rfl ?_
    refine g_aload_n (pc2 := 79) dX8_read_78 rfl rfl ?_
    refine g_iload (pc2 := 81) dX8_read_79 rfl rfl ?_
    refine g_iconst (v := 2) (pc2 := 82) dX8_read_81 (by decide) rfl ?_
    refine g_iadd (pc2 := 83) dX8_read_82 rfl ?_
    obtain ⟨hx, h⟩ := h
    refine g_iald (pc2 := 84) dX8_read_83 hq4 hx rfl ?_
    refine g_aload_n (pc2 := 85) dX8_read_84 rfl rfl ?_
    refine g_iload (pc2 := 87) dX8_read_85 rfl rfl ?_
    refine g_iconst (v := 3) (pc2 := 88) dX8_read_87 (by decide) rfl ?_
    refine g_iadd (pc2 := 89) dX8_read_88 rfl ?_
    obtain ⟨hx, h⟩ := h
    refine g_iald (pc2 := 90) dX8_read_89 hq4 hx rfl ?_
    refine g_callV (M2 := mX8_act) (as := [.int (σ q3 (4 * x4).toNatClampNeg), .int (σ q3 ((4 * x4) + 1).toNatClampNeg), .int (σ q3 ((4 * x4) + 2).toNatClampNeg), .int (σ q3 ((4 * x4) + 3).toNatClampNeg)]) (st := []) (pc2 := 93) dX8_read_90 ml_X8_182 mvX8_act gk_0 rfl rfl rfl (Nat.le_of_ble_eq_true rfl) (Nat.le_refl _) rfl (h.mono ?_)
    rintro _ σ7 ⟨r8, rfl, h⟩
    show gG (d + 1) mX8_read 93 _ [.int r8] σ7 Q
    refine g_if_ge (tgt := 99) (pc2 := 96) dX8_read_93 (by decide) rfl (fun c => ?_) (fun c => ?_)
    · have h := h.1 c
      refine g_iinc2 (c := 1) (pc2 := 102) dX8_read_99 rfl (by decide) (by decide) rfl rfl ?_
      refine g_goto (tgt := 55) dX8_read_102 (by decide) ?_
      exact g_lw (lv2 := [some (.ref 0), none, some (.ref q3), some (.int x3), some (.int (x4 + 1)), none]) ⟨rfl, ⟨rfl, ⟨rfl, ⟨rfl, trivial⟩⟩⟩⟩ h
    · have h := h.2 c
      refine g_iload (pc2 := 98) dX8_read_96 rfl rfl ?_
      exact g_iret dX8_read_98 rfl h
set_option maxRecDepth 20000 in
theorem eX8_seekCorks {d : Nat} {σ : gw_S} {Q : Option Value → gw_S → Prop} {x1 : Int32}   (h : gG (d + 1) mX8_seekCorks 2 [some (.ref 0), some (.int x1), some (.int 0), none] [] σ Q) : gB (d + 1) mX8_seekCorks [.ref 0, .int x1] σ Q := by
  refine gB_of rfl (Nat.le_of_ble_eq_true rfl) (g_lw (lv2 := [some (.ref 0), some (.int x1), none, none]) ⟨rfl, ⟨rfl, trivial⟩⟩ ?_)
  refine g_iconst (v := 0) (pc2 := 1) dX8_seekCorks_0 (by decide) rfl ?_
  refine g_istore_n (pc2 := 2) dX8_seekCorks_1 (by decide) rfl rfl ?_
  exact g_lw (lv2 := [some (.ref 0), some (.int x1), some (.int 0), none]) ⟨rfl, ⟨rfl, ⟨rfl, trivial⟩⟩⟩ h
set_option maxRecDepth 20000 in
theorem bX8_seekCorks_2 {d : Nat} {σ : gw_S} {Q : Option Value → gw_S → Prop} {x1 : Int32} {x2 : Int32}   (h : ((3 < x2) → (Q (some (.int (-1))) σ)) ∧ ((¬ 3 < x2) → (gG (d + 1) mX8_seekCorks 11 [some (.ref 0), some (.int x1), some (.int x2), some (.int 255)] [] σ Q))) : gG (d + 1) mX8_seekCorks 2 [some (.ref 0), some (.int x1), some (.int x2), none] [] σ Q := by
  refine g_iload_n (pc2 := 3) dX8_seekCorks_2 rfl rfl ?_
  refine g_iconst (v := 3) (pc2 := 4) dX8_seekCorks_3 (by decide) rfl ?_
  refine g_icmp_gt (tgt := 54) (pc2 := 7) dX8_seekCorks_4 (by decide) rfl (fun c => ?_) (fun c => ?_)
  · have h := h.1 c
    refine g_iconst (v := (-1)) (pc2 := 55) dX8_seekCorks_54 (by decide) rfl ?_
    exact g_iret dX8_seekCorks_55 rfl h
  · have h := h.2 c
    refine g_sipush (v := 255) (pc2 := 10) dX8_seekCorks_7 (by decide) rfl ?_
    refine g_istore_n (pc2 := 11) dX8_seekCorks_10 (by decide) rfl rfl ?_
    exact g_lw (lv2 := [some (.ref 0), some (.int x1), some (.int x2), some (.int 255)]) ⟨rfl, ⟨rfl, ⟨rfl, ⟨rfl, trivial⟩⟩⟩⟩ h
set_option maxRecDepth 20000 in
theorem bX8_seekCorks_11 {d : Nat} {σ : gw_S} {Q : Option Value → gw_S → Prop} {x1 : Int32} {x2 : Int32} {x3 : Int32}   (h : ((x3 < 0) → (gG (d + 1) mX8_seekCorks 2 [some (.ref 0), some (.int x1), some (.int (x2 + 1)), none] [] σ Q)) ∧ ((¬ x3 < 0) → (gB d mJ6_bitCount_0f7a4 [.int x3] σ (fun v σ1 => ∃ r2 : Int32, v = some (.int r2) ∧ (((¬ r2 = x2) → (gG (d + 1) mX8_seekCorks 11 [some (.ref 0), some (.int x1), some (.int x2), some (.int (x3 + (-1)))] [] σ1 Q)) ∧ ((r2 = x2) → (gB d mX8_areBottles [.ref 0, .int x3] σ1 (fun v σ3 => ∃ r4 : Int32, v = some (.int r4) ∧ (((r4 = 0) → (gG (d + 1) mX8_seekCorks 11 [some (.ref 0), some (.int x1), some (.int x2), some (.int (x3 + (-1)))] [] σ3 Q)) ∧ ((¬ r4 = 0) → (gB d mX8_singsCorked [.ref 0, .int x3, .int x1] σ3 (fun v σ5 => ∃ r6 : Int32, v = some (.int r6) ∧ (((r6 = 0) → (gG (d + 1) mX8_seekCorks 11 [some (.ref 0), some (.int x1), some (.int x2), some (.int (x3 + (-1)))] [] σ5 Q)) ∧ ((¬ r6 = 0) → (Q (some (.int x3)) σ5))))))))))))))) : gG (d + 1) mX8_seekCorks 11 [some (.ref 0), some (.int x1), some (.int x2), some (.int x3)] [] σ Q := by
  refine g_iload_n (pc2 := 12) dX8_seekCorks_11 rfl rfl ?_
  refine g_if_lt (tgt := 48) (pc2 := 15) dX8_seekCorks_12 (by decide) rfl (fun c => ?_) (fun c => ?_)
  · have h := h.1 c
    refine g_iinc2 (c := 1) (pc2 := 51) dX8_seekCorks_48 rfl (by decide) (by decide) rfl rfl ?_
    refine g_goto (tgt := 2) dX8_seekCorks_51 (by decide) ?_
    exact g_lw (lv2 := [some (.ref 0), some (.int x1), some (.int (x2 + 1)), none]) ⟨rfl, ⟨rfl, ⟨rfl, trivial⟩⟩⟩ h
  · have h := h.2 c
    refine g_iload_n (pc2 := 16) dX8_seekCorks_15 rfl rfl ?_
    refine g_callS (M2 := mJ6_bitCount_0f7a4) (as := [.int x3]) (st := []) (pc2 := 19) dX8_seekCorks_16 ml_X8_234 msJ6_bitCount_0f7a4 rfl rfl (Nat.le_of_ble_eq_true rfl) (Nat.le_refl _) rfl (h.mono ?_)
    rintro _ σ1 ⟨r2, rfl, h⟩
    show gG (d + 1) mX8_seekCorks 19 _ [.int r2] σ1 Q
    refine g_iload_n (pc2 := 20) dX8_seekCorks_19 rfl rfl ?_
    refine g_icmp_ne (tgt := 42) (pc2 := 23) dX8_seekCorks_20 (by decide) rfl (fun c => ?_) (fun c => ?_)
    · have h := h.1 c
      refine g_iinc2 (c := (-1)) (pc2 := 45) dX8_seekCorks_42 rfl (by decide) (by decide) rfl rfl ?_
      refine g_goto (tgt := 11) dX8_seekCorks_45 (by decide) ?_
      exact g_lw (lv2 := [some (.ref 0), some (.int x1), some (.int x2), some (.int (x3 + (-1)))]) ⟨rfl, ⟨rfl, ⟨rfl, ⟨rfl, trivial⟩⟩⟩⟩ h
    · have h := h.2 c
      refine g_aload_n (pc2 := 24) dX8_seekCorks_23 rfl rfl ?_
      refine g_iload_n (pc2 := 25) dX8_seekCorks_24 rfl rfl ?_
      refine g_callV (M2 := mX8_areBottles) (as := [.int x3]) (st := []) (pc2 := 28) dX8_seekCorks_25 ml_X8_390 mvX8_areBottles gk_0 rfl rfl rfl (Nat.le_of_ble_eq_true rfl) (Nat.le_refl _) rfl (h.mono ?_)
      rintro _ σ3 ⟨r4, rfl, h⟩
      show gG (d + 1) mX8_seekCorks 28 _ [.int r4] σ3 Q
      refine g_if_eq (tgt := 42) (pc2 := 31) dX8_seekCorks_28 (by decide) rfl (fun c => ?_) (fun c => ?_)
      · have h := h.1 c
        refine g_iinc2 (c := (-1)) (pc2 := 45) dX8_seekCorks_42 rfl (by decide) (by decide) rfl rfl ?_
        refine g_goto (tgt := 11) dX8_seekCorks_45 (by decide) ?_
        exact g_lw (lv2 := [some (.ref 0), some (.int x1), some (.int x2), some (.int (x3 + (-1)))]) ⟨rfl, ⟨rfl, ⟨rfl, ⟨rfl, trivial⟩⟩⟩⟩ h
      · have h := h.2 c
        refine g_aload_n (pc2 := 32) dX8_seekCorks_31 rfl rfl ?_
        refine g_iload_n (pc2 := 33) dX8_seekCorks_32 rfl rfl ?_
        refine g_iload_n (pc2 := 34) dX8_seekCorks_33 rfl rfl ?_
        refine g_callV (M2 := mX8_singsCorked) (as := [.int x3, .int x1]) (st := []) (pc2 := 37) dX8_seekCorks_34 ml_X8_393 mvX8_singsCorked gk_0 rfl rfl rfl (Nat.le_of_ble_eq_true rfl) (Nat.le_refl _) rfl (h.mono ?_)
        rintro _ σ5 ⟨r6, rfl, h⟩
        show gG (d + 1) mX8_seekCorks 37 _ [.int r6] σ5 Q
        refine g_if_eq (tgt := 42) (pc2 := 40) dX8_seekCorks_37 (by decide) rfl (fun c => ?_) (fun c => ?_)
        · have h := h.1 c
          refine g_iinc2 (c := (-1)) (pc2 := 45) dX8_seekCorks_42 rfl (by decide) (by decide) rfl rfl ?_
          refine g_goto (tgt := 11) dX8_seekCorks_45 (by decide) ?_
          exact g_lw (lv2 := [some (.ref 0), some (.int x1), some (.int x2), some (.int (x3 + (-1)))]) ⟨rfl, ⟨rfl, ⟨rfl, ⟨rfl, trivial⟩⟩⟩⟩ h
        · have h := h.2 c
          refine g_iload_n (pc2 := 41) dX8_seekCorks_40 rfl rfl ?_
          exact g_iret dX8_seekCorks_41 rfl h
set_option maxRecDepth 20000 in
theorem eX8_sheet {d : Nat} {σ : gw_S} {Q : Option Value → gw_S → Prop} {x1 : Int32} {x2 : Int32} {x3 : Int32}   (h : gB d mX8_isWithin [.int x1, .int 4] σ (fun v σ1 => ∃ r2 : Int32, v = some (.int r2) ∧ (((r2 = 0) → (Q (some (.int (-2))) σ1)) ∧ ((¬ r2 = 0) → (gB d mX8_isWithin [.int x2, .int 3] σ1 (fun v σ3 => ∃ r4 : Int32, v = some (.int r4) ∧ (((r4 = 0) → (Q (some (.int (-2))) σ3)) ∧ ((¬ r4 = 0) → (((x3 ≤ 60) → (((0 ≤ x3) → (vp_in x1 4 ∧ (∀ s5 : gw_S, s5 = gw_u σ3 32 x1.toNatClampNeg x2 → (vp_in x1 4 ∧ (∀ s6 : gw_S, s6 = gw_u s5 33 x1.toNatClampNeg x3 → (vp_in x1 4 ∧ ∃ q7, ([28, 29, 30, 31] : List Nat)[x1.toNatClampNeg]? = some q7 ∧ gw_k q7 = some (.inl (.int, 60)) ∧ (gB d mJ7_fill_53178 [.ref q7, .int 0] s6 (fun v σ9 => v = none ∧ (Q (some (.int x3)) σ9))))))))) ∧ ((¬ 0 ≤ x3) → (gB d mX8_find [.ref 0, .int 5] σ3 (fun v σ10 => ∃ r11 : Int32, v = some (.int r11) ∧ (Q (some (.int r11)) σ10)))))) ∧ ((¬ x3 ≤ 60) → (Q (some (.int (-2))) σ3))))))))))) : gB (d + 1) mX8_sheet [.ref 0, .int x1, .int x2, .int x3] σ Q := by
  refine gB_of rfl (Nat.le_of_ble_eq_true rfl) (g_lw (lv2 := [some (.ref 0), some (.int x1), some (.int x2), some (.int x3)]) ⟨rfl, ⟨rfl, ⟨rfl, ⟨rfl, trivial⟩⟩⟩⟩ ?_)
  refine g_iload_n (pc2 := 1) dX8_sheet_0 rfl rfl ?_
  refine g_iconst (v := 4) (pc2 := 2) dX8_sheet_1 (by decide) rfl ?_
  refine g_callS (M2 := mX8_isWithin) (as := [.int x1, .int 4]) (st := []) (pc2 := 5) dX8_sheet_2 ml_X8_81 msX8_isWithin rfl rfl (Nat.le_of_ble_eq_true rfl) (Nat.le_refl _) rfl (h.mono ?_)
  rintro _ σ1 ⟨r2, rfl, h⟩
  show gG (d + 1) mX8_sheet 5 _ [.int r2] σ1 Q
  refine g_if_eq (tgt := 22) (pc2 := 8) dX8_sheet_5 (by decide) rfl (fun c => ?_) (fun c => ?_)
  · have h := h.1 c
    refine g_bipush (v := (-2)) (pc2 := 24) dX8_sheet_22 (by decide) rfl ?_
    exact g_iret dX8_sheet_24 rfl h
  · have h := h.2 c
    refine g_iload_n (pc2 := 9) dX8_sheet_8 rfl rfl ?_
    refine g_iconst (v := 3) (pc2 := 10) dX8_sheet_9 (by decide) rfl ?_
    refine g_callS (M2 := mX8_isWithin) (as := [.int x2, .int 3]) (st := []) (pc2 := 13) dX8_sheet_10 ml_X8_81 msX8_isWithin rfl rfl (Nat.le_of_ble_eq_true rfl) (Nat.le_refl _) rfl (h.mono ?_)
    rintro _ σ3 ⟨r4, rfl, h⟩
    show gG (d + 1) mX8_sheet 13 _ [.int r4] σ3 Q
    refine g_if_eq (tgt := 22) (pc2 := 16) dX8_sheet_13 (by decide) rfl (fun c => ?_) (fun c => ?_)
    · have h := h.1 c
      refine g_bipush (v := (-2)) (pc2 := 24) dX8_sheet_22 (by decide) rfl ?_
      exact g_iret dX8_sheet_24 rfl h
    · have h := h.2 c
      refine g_iload_n (pc2 := 17) dX8_sheet_16 rfl rfl ?_
      refine g_bipush (v := 60) (pc2 := 19) dX8_sheet_17 (by decide) rfl ?_
      refine g_icmp_le (tgt := 25) (pc2 := 22) dX8_sheet_19 (by decide) rfl (fun c => ?_) (fun c => ?_)
      · have h := h.1 c
        refine g_iload_n (pc2 := 26) dX8_sheet_25 rfl rfl ?_
        refine g_if_ge (tgt := 35) (pc2 := 29) dX8_sheet_26 (by decide) rfl (fun c => ?_) (fun c => ?_)
        · have h := h.1 c
          refine g_aload_n (pc2 := 36) dX8_sheet_35 rfl rfl ?_
          refine g_geta (pc2 := 39) dX8_sheet_36 fl_X8_45 gk_0 rfl rfl ?_
          refine g_geta (pc2 := 42) dX8_sheet_39 fl_X8_169 gk_26 rfl rfl ?_
          refine g_iload_n (pc2 := 43) dX8_sheet_42 rfl rfl ?_
          refine g_iload_n (pc2 := 44) dX8_sheet_43 rfl rfl ?_
          obtain ⟨hx, h⟩ := h
          refine g_iast2 (pc2 := 45) dX8_sheet_44 gk_32 hx rfl (fun s5 es5 => ?_)
          replace h := h s5 es5
          refine g_aload_n (pc2 := 46) dX8_sheet_45 rfl rfl ?_
          refine g_geta (pc2 := 49) dX8_sheet_46 fl_X8_45 gk_0 rfl rfl ?_
          refine g_geta (pc2 := 52) dX8_sheet_49 fl_X8_180 gk_26 rfl rfl ?_
          refine g_iload_n (pc2 := 53) dX8_sheet_52 rfl rfl ?_
          refine g_iload_n (pc2 := 54) dX8_sheet_53 rfl rfl ?_
          obtain ⟨hx, h⟩ := h
          refine g_iast2 (pc2 := 55) dX8_sheet_54 gk_33 hx rfl (fun s6 es6 => ?_)
          replace h := h s6 es6
          refine g_aload_n (pc2 := 56) dX8_sheet_55 rfl rfl ?_
          refine g_geta (pc2 := 59) dX8_sheet_56 fl_X8_45 gk_0 rfl rfl ?_
          refine g_geta (pc2 := 62) dX8_sheet_59 fl_X8_176 gk_26 rfl rfl ?_
          refine g_iload_n (pc2 := 63) dX8_sheet_62 rfl rfl ?_
          obtain ⟨hx, q7, hy, hq8, h⟩ := h
          refine g_aald (pc2 := 64) dX8_sheet_63 gk_27 rfl hx hy rfl ?_
          refine g_iconst (v := 0) (pc2 := 65) dX8_sheet_64 (by decide) rfl ?_
          refine g_callS (M2 := mJ7_fill_53178) (as := [.ref q7, .int 0]) (st := []) (pc2 := 68) dX8_sheet_65 ml_X8_292 msJ7_fill_53178 rfl rfl (Nat.le_of_ble_eq_true rfl) (Nat.le_refl _) rfl (h.mono ?_)
          rintro _ σ9 ⟨rfl, h⟩
          show gG (d + 1) mX8_sheet 68 _ [] σ9 Q
          refine g_iload_n (pc2 := 69) dX8_sheet_68 rfl rfl ?_
          exact g_iret dX8_sheet_69 rfl h
        · have h := h.2 c
          refine g_aload_n (pc2 := 30) dX8_sheet_29 rfl rfl ?_
          refine g_iconst (v := 5) (pc2 := 31) dX8_sheet_30 (by decide) rfl ?_
          refine g_callV (M2 := mX8_find) (as := [.int 5]) (st := []) (pc2 := 34) dX8_sheet_31 ml_X8_172 mvX8_find gk_0 rfl rfl rfl (Nat.le_of_ble_eq_true rfl) (Nat.le_refl _) rfl (h.mono ?_)
          rintro _ σ10 ⟨r11, rfl, h⟩
          show gG (d + 1) mX8_sheet 34 _ [.int r11] σ10 Q
          exact g_iret dX8_sheet_34 rfl h
      · have h := h.2 c
        refine g_bipush (v := (-2)) (pc2 := 24) dX8_sheet_22 (by decide) rfl ?_
        exact g_iret dX8_sheet_24 rfl h
set_option maxRecDepth 20000 in
theorem eX8_sing {d : Nat} {σ : gw_S} {Q : Option Value → gw_S → Prop} {x1 : Int32} {x2 : Int32}   (h : gB d mX8_isWithin [.int x1, .int 40] σ (fun v σ1 => ∃ r2 : Int32, v = some (.int r2) ∧ (((r2 = 0) → (Q (some (.int (-2))) σ1)) ∧ ((¬ r2 = 0) → (((x2 = (-1)) → (gG (d + 1) mX8_sing 26 [some (.ref 0), some (.int x1), some (.int x2)] [] σ1 Q)) ∧ ((¬ x2 = (-1)) → (gB d mX8_isWithin [.int x2, .int 8] σ1 (fun v σ3 => ∃ r4 : Int32, v = some (.int r4) ∧ (((¬ r4 = 0) → (gG (d + 1) mX8_sing 26 [some (.ref 0), some (.int x1), some (.int x2)] [] σ3 Q)) ∧ ((r4 = 0) → (Q (some (.int (-2))) σ3))))))))))) : gB (d + 1) mX8_sing [.ref 0, .int x1, .int x2] σ Q := by
  refine gB_of rfl (Nat.le_of_ble_eq_true rfl) (g_lw (lv2 := [some (.ref 0), some (.int x1), some (.int x2)]) ⟨rfl, ⟨rfl, ⟨rfl, trivial⟩⟩⟩ ?_)
  refine g_iload_n (pc2 := 1) dX8_sing_0 rfl rfl ?_
  refine g_bipush (v := 40) (pc2 := 3) dX8_sing_1 (by decide) rfl ?_
  refine g_callS (M2 := mX8_isWithin) (as := [.int x1, .int 40]) (st := []) (pc2 := 6) dX8_sing_3 ml_X8_81 msX8_isWithin rfl rfl (Nat.le_of_ble_eq_true rfl) (Nat.le_refl _) rfl (h.mono ?_)
  rintro _ σ1 ⟨r2, rfl, h⟩
  show gG (d + 1) mX8_sing 6 _ [.int r2] σ1 Q
  refine g_if_eq (tgt := 23) (pc2 := 9) dX8_sing_6 (by decide) rfl (fun c => ?_) (fun c => ?_)
  · have h := h.1 c
    refine g_bipush (v := (-2)) (pc2 := 25) dX8_sing_23 (by decide) rfl ?_
    exact g_iret dX8_sing_25 rfl h
  · have h := h.2 c
    refine g_iload_n (pc2 := 10) dX8_sing_9 rfl rfl ?_
    refine g_iconst (v := (-1)) (pc2 := 11) dX8_sing_10 (by decide) rfl ?_
    refine g_icmp_eq (tgt := 26) (pc2 := 14) dX8_sing_11 (by decide) rfl (fun c => ?_) (fun c => ?_)
    · have h := h.1 c
      exact g_lw (lv2 := [some (.ref 0), some (.int x1), some (.int x2)]) ⟨rfl, ⟨rfl, ⟨rfl, trivial⟩⟩⟩ h
    · have h := h.2 c
      refine g_iload_n (pc2 := 15) dX8_sing_14 rfl rfl ?_
      refine g_bipush (v := 8) (pc2 := 17) dX8_sing_15 (by decide) rfl ?_
      refine g_callS (M2 := mX8_isWithin) (as := [.int x2, .int 8]) (st := []) (pc2 := 20) dX8_sing_17 ml_X8_81 msX8_isWithin rfl rfl (Nat.le_of_ble_eq_true rfl) (Nat.le_refl _) rfl (h.mono ?_)
      rintro _ σ3 ⟨r4, rfl, h⟩
      show gG (d + 1) mX8_sing 20 _ [.int r4] σ3 Q
      refine g_if_ne (tgt := 26) (pc2 := 23) dX8_sing_20 (by decide) rfl (fun c => ?_) (fun c => ?_)
      · have h := h.1 c
        exact g_lw (lv2 := [some (.ref 0), some (.int x1), some (.int x2)]) ⟨rfl, ⟨rfl, ⟨rfl, trivial⟩⟩⟩ h
      · have h := h.2 c
        refine g_bipush (v := (-2)) (pc2 := 25) dX8_sing_23 (by decide) rfl ?_
        exact g_iret dX8_sing_25 rfl h
set_option maxRecDepth 20000 in
theorem bX8_sing_26 {d : Nat} {σ : gw_S} {Q : Option Value → gw_S → Prop} {x1 : Int32} {x2 : Int32}   (h : gB d mX8_behind [.ref 0, .int x1] σ (fun v σ5 => v = some (.ref 36) ∧ (gB d mX2_seekRow [.ref 17, .ref 36] σ5 (fun v σ6 => v = none ∧ (((x2 = (-1)) → (Q (some (.int (σ6 17 5))) σ6)) ∧ ((¬ x2 = (-1)) → (((¬ (σ6 17 5) = (-1)) → ((((σ6 17 4) ≤ x2) → (Q (some (.int (-1))) σ6)) ∧ ((¬ (σ6 17 4) ≤ x2) → (vp_in x2 8 ∧ (Q (some (.int (σ6 19 x2.toNatClampNeg))) σ6))))) ∧ (((σ6 17 5) = (-1)) → (Q (some (.int (σ6 17 5))) σ6))))))))) : gG (d + 1) mX8_sing 26 [some (.ref 0), some (.int x1), some (.int x2)] [] σ Q := by
  refine g_aload_n (pc2 := 27) dX8_sing_26 rfl rfl ?_
  refine g_geta (pc2 := 30) dX8_sing_27 fl_X8_31 gk_0 rfl rfl ?_
  refine g_aload_n (pc2 := 31) dX8_sing_30 rfl rfl ?_
  refine g_iload_n (pc2 := 32) dX8_sing_31 rfl rfl ?_
  refine g_callV (M2 := mX8_behind) (as := [.int x1]) (st := [.ref 17]) (pc2 := 35) dX8_sing_32 ml_X8_186 mvX8_behind gk_0 rfl rfl rfl (Nat.le_of_ble_eq_true rfl) (Nat.le_refl _) rfl (h.mono ?_)
  rintro _ σ5 ⟨rfl, h⟩
  show gG (d + 1) mX8_sing 35 _ [.ref 36, .ref 17] σ5 Q
  refine g_callV (M2 := mX2_seekRow) (as := [.ref 36]) (st := []) (pc2 := 38) dX8_sing_35 ml_X8_221 mvX2_seekRow gk_17 rfl rfl rfl (Nat.le_of_ble_eq_true rfl) (Nat.le_refl _) rfl (h.mono ?_)
  rintro _ σ6 ⟨rfl, h⟩
  show gG (d + 1) mX8_sing 38 _ [] σ6 Q
  refine g_iload_n (pc2 := 39) dX8_sing_38 rfl rfl ?_
  refine g_iconst (v := (-1)) (pc2 := 40) dX8_sing_39 (by decide) rfl ?_
  refine g_icmp_eq (tgt := 54) (pc2 := 43) dX8_sing_40 (by decide) rfl (fun c => ?_) (fun c => ?_)
  · have h := h.1 c
    refine g_aload_n (pc2 := 55) dX8_sing_54 rfl rfl ?_
    refine g_geta (pc2 := 58) dX8_sing_55 fl_X8_31 gk_0 rfl rfl ?_
    refine g_geti (pc2 := 61) dX8_sing_58 fl_X8_225 gk_17 rfl rfl ?_
    exact g_iret dX8_sing_61 rfl h
  · have h := h.2 c
    refine g_aload_n (pc2 := 44) dX8_sing_43 rfl rfl ?_
    refine g_geta (pc2 := 47) dX8_sing_44 fl_X8_31 gk_0 rfl rfl ?_
    refine g_geti (pc2 := 50) dX8_sing_47 fl_X8_225 gk_17 rfl rfl ?_
    refine g_iconst (v := (-1)) (pc2 := 51) dX8_sing_50 (by decide) rfl ?_
    refine g_icmp_ne (tgt := 62) (pc2 := 54) dX8_sing_51 (by decide) rfl (fun c => ?_) (fun c => ?_)
    · have h := h.1 c
      refine g_iload_n (pc2 := 63) dX8_sing_62 rfl rfl ?_
      refine g_aload_n (pc2 := 64) dX8_sing_63 rfl rfl ?_
      refine g_geta (pc2 := 67) dX8_sing_64 fl_X8_31 gk_0 rfl rfl ?_
      refine g_geti (pc2 := 70) dX8_sing_67 fl_X8_130 gk_17 rfl rfl ?_
      refine g_icmp_ge (tgt := 85) (pc2 := 73) dX8_sing_70 (by decide) rfl (fun c => ?_) (fun c => ?_)
      · have h := h.1 c
        refine g_iconst (v := (-1)) (pc2 := 86) dX8_sing_85 (by decide) rfl ?_
        exact g_iret dX8_sing_86 rfl h
      · have h := h.2 c
        refine g_aload_n (pc2 := 74) dX8_sing_73 rfl rfl ?_
        refine g_geta (pc2 := 77) dX8_sing_74 fl_X8_31 gk_0 rfl rfl ?_
        refine g_geta (pc2 := 80) dX8_sing_77 fl_X8_228 gk_17 rfl rfl ?_
        refine g_iload_n (pc2 := 81) dX8_sing_80 rfl rfl ?_
        obtain ⟨hx, h⟩ := h
        refine g_iald (pc2 := 82) dX8_sing_81 gk_19 hx rfl ?_
        refine g_goto (tgt := 86) dX8_sing_82 (by decide) ?_
        exact g_iret dX8_sing_86 rfl h
    · have h := h.2 c
      refine g_aload_n (pc2 := 55) dX8_sing_54 rfl rfl ?_
      refine g_geta (pc2 := 58) dX8_sing_55 fl_X8_31 gk_0 rfl rfl ?_
      refine g_geti (pc2 := 61) dX8_sing_58 fl_X8_225 gk_17 rfl rfl ?_
      exact g_iret dX8_sing_61 rfl h
set_option maxRecDepth 20000 in
theorem eX8_singsCorked {d : Nat} {σ : gw_S} {Q : Option Value → gw_S → Prop} {x1 : Int32} {x2 : Int32}   (h : gB d mX3_begin [.ref 44, .ref 7, .int 0, .int 0] σ (fun v σ1 => v = none ∧ (gG (d + 1) mX8_singsCorked 18 [some (.ref 0), some (.int x1), some (.int x2), some (.int 0)] [] σ1 Q))) : gB (d + 1) mX8_singsCorked [.ref 0, .int x1, .int x2] σ Q := by
  refine gB_of rfl (Nat.le_of_ble_eq_true rfl) (g_lw (lv2 := [some (.ref 0), some (.int x1), some (.int x2), none]) ⟨rfl, ⟨rfl, ⟨rfl, trivial⟩⟩⟩ ?_)
  refine g_aload_n (pc2 := 1) dX8_singsCorked_0 rfl rfl ?_
  refine g_geta (pc2 := 4) dX8_singsCorked_1 fl_X8_56 gk_0 rfl rfl ?_
  refine g_aload_n (pc2 := 5) dX8_singsCorked_4 rfl rfl ?_
  refine g_geta (pc2 := 8) dX8_singsCorked_5 fl_X8_24 gk_0 rfl rfl ?_
  refine g_geta (pc2 := 11) dX8_singsCorked_8 fl_X8_112 gk_6 rfl rfl ?_
  refine g_iconst (v := 0) (pc2 := 12) dX8_singsCorked_11 (by decide) rfl ?_
  refine g_iconst (v := 0) (pc2 := 13) dX8_singsCorked_12 (by decide) rfl ?_
  refine g_callV (M2 := mX3_begin) (as := [.ref 7, .int 0, .int 0]) (st := []) (pc2 := 16) dX8_singsCorked_13 ml_X8_265 mvX3_begin gk_44 rfl rfl rfl (Nat.le_of_ble_eq_true rfl) (Nat.le_refl _) rfl (h.mono ?_)
  rintro _ σ1 ⟨rfl, h⟩
  show gG (d + 1) mX8_singsCorked 16 _ [] σ1 Q
  refine g_iconst (v := 0) (pc2 := 17) dX8_singsCorked_16 (by decide) rfl ?_
  refine g_istore_n (pc2 := 18) dX8_singsCorked_17 (by decide) rfl rfl ?_
  exact g_lw (lv2 := [some (.ref 0), some (.int x1), some (.int x2), some (.int 0)]) ⟨rfl, ⟨rfl, ⟨rfl, ⟨rfl, trivial⟩⟩⟩⟩ h
set_option maxRecDepth 20000 in
theorem bX8_singsCorked_18 {d : Nat} {σ : gw_S} {Q : Option Value → gw_S → Prop} {x1 : Int32} {x2 : Int32} {x3 : Int32}   (h : ((8 ≤ x3) → (gG (d + 1) mX8_singsCorked 51 [some (.ref 0), none, some (.int x2), some (.int 0)] [] σ Q)) ∧ ((¬ 8 ≤ x3) → (gB d mX8_isAmong [.int x1, .int x3] σ (fun v σ2 => ∃ r3 : Int32, v = some (.int r3) ∧ (((r3 = 0) → (gG (d + 1) mX8_singsCorked 18 [some (.ref 0), some (.int x1), some (.int x2), some (.int (x3 + 1))] [] σ2 Q)) ∧ ((¬ r3 = 0) → (vp_in x3 8 ∧ (∀ s4 : gw_S, s4 = gw_u σ2 48 x3.toNatClampNeg 9 → (gG (d + 1) mX8_singsCorked 18 [some (.ref 0), some (.int x1), some (.int x2), some (.int (x3 + 1))] [] s4 Q))))))))) : gG (d + 1) mX8_singsCorked 18 [some (.ref 0), some (.int x1), some (.int x2), some (.int x3)] [] σ Q := by
  refine g_iload_n (pc2 := 19) dX8_singsCorked_18 rfl rfl ?_
  refine g_bipush (v := 8) (pc2 := 21) dX8_singsCorked_19 (by decide) rfl ?_
  refine g_icmp_ge (tgt := 49) (pc2 := 24) dX8_singsCorked_21 (by decide) rfl (fun c => ?_) (fun c => ?_)
  · have h := h.1 c
    refine g_iconst (v := 0) (pc2 := 50) dX8_singsCorked_49 (by decide) rfl ?_
    refine g_istore_n (pc2 := 51) dX8_singsCorked_50 (by decide) rfl rfl ?_
    exact g_lw (lv2 := [some (.ref 0), none, some (.int x2), some (.int 0)]) ⟨rfl, ⟨rfl, ⟨rfl, trivial⟩⟩⟩ h
  · have h := h.2 c
    refine g_iload_n (pc2 := 25) dX8_singsCorked_24 rfl rfl ?_
    refine g_iload_n (pc2 := 26) dX8_singsCorked_25 rfl rfl ?_
    refine g_callS (M2 := mX8_isAmong) (as := [.int x1, .int x3]) (st := []) (pc2 := 29) dX8_singsCorked_26 ml_X8_396 msX8_isAmong rfl rfl (Nat.le_of_ble_eq_true rfl) (Nat.le_refl _) rfl (h.mono ?_)
    rintro _ σ2 ⟨r3, rfl, h⟩
    show gG (d + 1) mX8_singsCorked 29 _ [.int r3] σ2 Q
    refine g_if_eq (tgt := 43) (pc2 := 32) dX8_singsCorked_29 (by decide) rfl (fun c => ?_) (fun c => ?_)
    · have h := h.1 c
      refine g_iinc2 (c := 1) (pc2 := 46) dX8_singsCorked_43 rfl (by decide) (by decide) rfl rfl ?_
      refine g_goto (tgt := 18) dX8_singsCorked_46 (by decide) ?_
      exact g_lw (lv2 := [some (.ref 0), some (.int x1), some (.int x2), some (.int (x3 + 1))]) ⟨rfl, ⟨rfl, ⟨rfl, ⟨rfl, trivial⟩⟩⟩⟩ h
    · have h := h.2 c
      refine g_aload_n (pc2 := 33) dX8_singsCorked_32 rfl rfl ?_
      refine g_geta (pc2 := 36) dX8_singsCorked_33 fl_X8_56 gk_0 rfl rfl ?_
      refine g_geta (pc2 := 39) dX8_singsCorked_36 fl_X8_399 gk_44 rfl rfl ?_
      refine g_iload_n (pc2 := 40) dX8_singsCorked_39 rfl rfl ?_
      refine g_bipush (v := 9) (pc2 := 42) dX8_singsCorked_40 (by decide) rfl ?_
      obtain ⟨hx, h⟩ := h
      refine g_iast2 (pc2 := 43) dX8_singsCorked_42 gk_48 hx rfl (fun s4 es4 => ?_)
      replace h := h s4 es4
      refine g_iinc2 (c := 1) (pc2 := 46) dX8_singsCorked_43 rfl (by decide) (by decide) rfl rfl ?_
      refine g_goto (tgt := 18) dX8_singsCorked_46 (by decide) ?_
      exact g_lw (lv2 := [some (.ref 0), some (.int x1), some (.int x2), some (.int (x3 + 1))]) ⟨rfl, ⟨rfl, ⟨rfl, ⟨rfl, trivial⟩⟩⟩⟩ h
set_option maxRecDepth 20000 in
theorem bX8_singsCorked_51 {d : Nat} {σ : gw_S} {Q : Option Value → gw_S → Prop} {x2 : Int32} {x3 : Int32}   (h : ((x2 < x3) → (gB d mX2_seekLeast [.ref 17, .ref 44] σ (fun v σ5 => v = none ∧ ((((σ5 17 5) = (-1)) → (Q (some (.int 0)) σ5)) ∧ ((¬ (σ5 17 5) = (-1)) → (Q (some (.int 1)) σ5)))))) ∧ ((¬ x2 < x3) → (gB d mX3_passDay [.ref 44, .ref 6, .int (-1)] σ (fun v σ6 => v = none ∧ (gG (d + 1) mX8_singsCorked 51 [some (.ref 0), none, some (.int x2), some (.int (x3 + 1))] [] σ6 Q))))) : gG (d + 1) mX8_singsCorked 51 [some (.ref 0), none, some (.int x2), some (.int x3)] [] σ Q := by
  refine g_iload_n (pc2 := 52) dX8_singsCorked_51 rfl rfl ?_
  refine g_iload_n (pc2 := 53) dX8_singsCorked_52 rfl rfl ?_
  refine g_icmp_gt (tgt := 74) (pc2 := 56) dX8_singsCorked_53 (by decide) rfl (fun c => ?_) (fun c => ?_)
  · have h := h.1 c
    refine g_aload_n (pc2 := 75) dX8_singsCorked_74 rfl rfl ?_
    refine g_geta (pc2 := 78) dX8_singsCorked_75 fl_X8_31 gk_0 rfl rfl ?_
    refine g_aload_n (pc2 := 79) dX8_singsCorked_78 rfl rfl ?_
    refine g_geta (pc2 := 82) dX8_singsCorked_79 fl_X8_56 gk_0 rfl rfl ?_
    refine g_callV (M2 := mX2_seekLeast) (as := [.ref 44]) (st := []) (pc2 := 85) dX8_singsCorked_82 ml_X8_400 mvX2_seekLeast gk_17 rfl rfl rfl (Nat.le_of_ble_eq_true rfl) (Nat.le_refl _) rfl (h.mono ?_)
    rintro _ σ5 ⟨rfl, h⟩
    show gG (d + 1) mX8_singsCorked 85 _ [] σ5 Q
    refine g_aload_n (pc2 := 86) dX8_singsCorked_85 rfl rfl ?_
    refine g_geta (pc2 := 89) dX8_singsCorked_86 fl_X8_31 gk_0 rfl rfl ?_
    refine g_geti (pc2 := 92) dX8_singsCorked_89 fl_X8_225 gk_17 rfl rfl ?_
    refine g_iconst (v := (-1)) (pc2 := 93) dX8_singsCorked_92 (by decide) rfl ?_
    refine g_icmp_eq (tgt := 100) (pc2 := 96) dX8_singsCorked_93 (by decide) rfl (fun c => ?_) (fun c => ?_)
    · have h := h.1 c
      refine g_iconst (v := 0) (pc2 := 101) dX8_singsCorked_100 (by decide) rfl ?_
      exact g_zret dX8_singsCorked_101 rfl rfl h
    · have h := h.2 c
      refine g_iconst (v := 1) (pc2 := 97) dX8_singsCorked_96 (by decide) rfl ?_
      refine g_goto (tgt := 101) dX8_singsCorked_97 (by decide) ?_
      exact g_zret dX8_singsCorked_101 rfl rfl h
  · have h := h.2 c
    refine g_aload_n (pc2 := 57) dX8_singsCorked_56 rfl rfl ?_
    refine g_geta (pc2 := 60) dX8_singsCorked_57 fl_X8_56 gk_0 rfl rfl ?_
    refine g_aload_n (pc2 := 61) dX8_singsCorked_60 rfl rfl ?_
    refine g_geta (pc2 := 64) dX8_singsCorked_61 fl_X8_24 gk_0 rfl rfl ?_
    refine g_iconst (v := (-1)) (pc2 := 65) dX8_singsCorked_64 (by decide) rfl ?_
    refine g_callV (M2 := mX3_passDay) (as := [.ref 6, .int (-1)]) (st := []) (pc2 := 68) dX8_singsCorked_65 ml_X8_282 mvX3_passDay gk_44 rfl rfl rfl (Nat.le_of_ble_eq_true rfl) (Nat.le_refl _) rfl (h.mono ?_)
    rintro _ σ6 ⟨rfl, h⟩
    show gG (d + 1) mX8_singsCorked 68 _ [] σ6 Q
    refine g_iinc2 (c := 1) (pc2 := 71) dX8_singsCorked_68 rfl (by decide) (by decide) rfl rfl ?_
    refine g_goto (tgt := 51) dX8_singsCorked_71 (by decide) ?_
    exact g_lw (lv2 := [some (.ref 0), none, some (.int x2), some (.int (x3 + 1))]) ⟨rfl, ⟨rfl, ⟨rfl, trivial⟩⟩⟩ h
set_option maxRecDepth 20000 in
theorem eX8_spilled {d : Nat} {σ : gw_S} {Q : Option Value → gw_S → Prop} {x1 : Int32} {x2 : Int32}   (h : gB d mX8_isWithin [.int x1, .int 40] σ (fun v σ1 => ∃ r2 : Int32, v = some (.int r2) ∧ (((r2 = 0) → (Q (some (.int (-2))) σ1)) ∧ ((¬ r2 = 0) → (gB d mX8_isWithin [.int x2, .int 8] σ1 (fun v σ3 => ∃ r4 : Int32, v = some (.int r4) ∧ (((¬ r4 = 0) → (gB d mX8_behind [.ref 0, .int x1] σ3 (fun v σ5 => v = some (.ref 36) ∧ (vp_in x2 8 ∧ (Q (some (.int (σ5 43 x2.toNatClampNeg))) σ5))))) ∧ ((r4 = 0) → (Q (some (.int (-2))) σ3))))))))) : gB (d + 1) mX8_spilled [.ref 0, .int x1, .int x2] σ Q := by
  refine gB_of rfl (Nat.le_of_ble_eq_true rfl) (g_lw (lv2 := [some (.ref 0), some (.int x1), some (.int x2)]) ⟨rfl, ⟨rfl, ⟨rfl, trivial⟩⟩⟩ ?_)
  refine g_iload_n (pc2 := 1) dX8_spilled_0 rfl rfl ?_
  refine g_bipush (v := 40) (pc2 := 3) dX8_spilled_1 (by decide) rfl ?_
  refine g_callS (M2 := mX8_isWithin) (as := [.int x1, .int 40]) (st := []) (pc2 := 6) dX8_spilled_3 ml_X8_81 msX8_isWithin rfl rfl (Nat.le_of_ble_eq_true rfl) (Nat.le_refl _) rfl (h.mono ?_)
  rintro _ σ1 ⟨r2, rfl, h⟩
  show gG (d + 1) mX8_spilled 6 _ [.int r2] σ1 Q
  refine g_if_eq (tgt := 18) (pc2 := 9) dX8_spilled_6 (by decide) rfl (fun c => ?_) (fun c => ?_)
  · have h := h.1 c
    refine g_bipush (v := (-2)) (pc2 := 20) dX8_spilled_18 (by decide) rfl ?_
    exact g_iret dX8_spilled_20 rfl h
  · have h := h.2 c
    refine g_iload_n (pc2 := 10) dX8_spilled_9 rfl rfl ?_
    refine g_bipush (v := 8) (pc2 := 12) dX8_spilled_10 (by decide) rfl ?_
    refine g_callS (M2 := mX8_isWithin) (as := [.int x2, .int 8]) (st := []) (pc2 := 15) dX8_spilled_12 ml_X8_81 msX8_isWithin rfl rfl (Nat.le_of_ble_eq_true rfl) (Nat.le_refl _) rfl (h.mono ?_)
    rintro _ σ3 ⟨r4, rfl, h⟩
    show gG (d + 1) mX8_spilled 15 _ [.int r4] σ3 Q
    refine g_if_ne (tgt := 21) (pc2 := 18) dX8_spilled_15 (by decide) rfl (fun c => ?_) (fun c => ?_)
    · have h := h.1 c
      refine g_aload_n (pc2 := 22) dX8_spilled_21 rfl rfl ?_
      refine g_iload_n (pc2 := 23) dX8_spilled_22 rfl rfl ?_
      refine g_callV (M2 := mX8_behind) (as := [.int x1]) (st := []) (pc2 := 26) dX8_spilled_23 ml_X8_186 mvX8_behind gk_0 rfl rfl rfl (Nat.le_of_ble_eq_true rfl) (Nat.le_refl _) rfl (h.mono ?_)
      rintro _ σ5 ⟨rfl, h⟩
      show gG (d + 1) mX8_spilled 26 _ [.ref 36] σ5 Q
      refine g_geta (pc2 := 29) dX8_spilled_26 fl_X8_209 gk_36 rfl rfl ?_
      refine g_iload_n (pc2 := 30) dX8_spilled_29 rfl rfl ?_
      obtain ⟨hx, h⟩ := h
      refine g_iald (pc2 := 31) dX8_spilled_30 gk_43 hx rfl ?_
      exact g_iret dX8_spilled_31 rfl h
    · have h := h.2 c
      refine g_bipush (v := (-2)) (pc2 := 20) dX8_spilled_18 (by decide) rfl ?_
      exact g_iret dX8_spilled_20 rfl h
set_option maxRecDepth 20000 in
theorem eX8_swapped {d : Nat} {σ : gw_S} {Q : Option Value → gw_S → Prop} {x1 : Int32}   (h : gB d mX8_isWithin [.int x1, .int 2] σ (fun v σ1 => ∃ r2 : Int32, v = some (.int r2) ∧ (((¬ r2 = 0) → (gG (d + 1) mX8_swapped 18 [some (.ref 0), some (.int x1), some (.int 0), some (.int (-1)), some (.int 0), none] [] σ1 Q)) ∧ ((r2 = 0) → (Q (some (.int (-2))) σ1))))) : gB (d + 1) mX8_swapped [.ref 0, .int x1] σ Q := by
  refine gB_of rfl (Nat.le_of_ble_eq_true rfl) (g_lw (lv2 := [some (.ref 0), some (.int x1), none, none, none, none]) ⟨rfl, ⟨rfl, trivial⟩⟩ ?_)
  refine g_iload_n (pc2 := 1) dX8_swapped_0 rfl rfl ?_
  refine g_iconst (v := 2) (pc2 := 2) dX8_swapped_1 (by decide) rfl ?_
  refine g_callS (M2 := mX8_isWithin) (as := [.int x1, .int 2]) (st := []) (pc2 := 5) dX8_swapped_2 ml_X8_81 msX8_isWithin rfl rfl (Nat.le_of_ble_eq_true rfl) (Nat.le_refl _) rfl (h.mono ?_)
  rintro _ σ1 ⟨r2, rfl, h⟩
  show gG (d + 1) mX8_swapped 5 _ [.int r2] σ1 Q
  refine g_if_ne (tgt := 11) (pc2 := 8) dX8_swapped_5 (by decide) rfl (fun c => ?_) (fun c => ?_)
  · have h := h.1 c
    refine g_iconst (v := 0) (pc2 := 12) dX8_swapped_11 (by decide) rfl ?_
    refine g_istore_n (pc2 := 13) dX8_swapped_12 (by decide) rfl rfl ?_
    refine g_iconst (v := (-1)) (pc2 := 14) dX8_swapped_13 (by decide) rfl ?_
    refine g_istore_n (pc2 := 15) dX8_swapped_14 (by decide) rfl rfl ?_
    refine g_iconst (v := 0) (pc2 := 16) dX8_swapped_15 (by decide) rfl ?_
    refine g_istore (pc2 := 18) dX8_swapped_16 (by decide) rfl rfl ?_
    exact g_lw (lv2 := [some (.ref 0), some (.int x1), some (.int 0), some (.int (-1)), some (.int 0), none]) ⟨rfl, ⟨rfl, ⟨rfl, ⟨rfl, ⟨rfl, trivial⟩⟩⟩⟩⟩ h
  · have h := h.2 c
    refine g_bipush (v := (-2)) (pc2 := 10) dX8_swapped_8 (by decide) rfl ?_
    exact g_iret dX8_swapped_10 rfl h
set_option maxRecDepth 20000 in
theorem bX8_swapped_18 {d : Nat} {σ : gw_S} {Q : Option Value → gw_S → Prop} {x1 : Int32} {x2 : Int32} {x3 : Int32} {x4 : Int32}   (h : (((σ 7 4) ≤ x4) → (((¬ x1 = 0) → (Q (some (.int x3)) σ)) ∧ ((x1 = 0) → (Q (some (.int x2)) σ)))) ∧ ((¬ (σ 7 4) ≤ x4) → (gG (d + 1) mX8_swapped 39 [some (.ref 0), some (.int x1), some (.int x2), some (.int x3), some (.int x4), some (.int (x4 + 1))] [] σ Q))) : gG (d + 1) mX8_swapped 18 [some (.ref 0), some (.int x1), some (.int x2), some (.int x3), some (.int x4), none] [] σ Q := by
  refine g_iload (pc2 := 20) dX8_swapped_18 rfl rfl ?_
  refine g_aload_n (pc2 := 21) dX8_swapped_20 rfl rfl ?_
  refine g_geta (pc2 := 24) dX8_swapped_21 fl_X8_24 gk_0 rfl rfl ?_
  refine g_geta (pc2 := 27) dX8_swapped_24 fl_X8_112 gk_6 rfl rfl ?_
  refine g_geti (pc2 := 30) dX8_swapped_27 fl_X8_242 gk_7 rfl rfl ?_
  refine g_icmp_ge (tgt := 98) (pc2 := 33) dX8_swapped_30 (by decide) rfl (fun c => ?_) (fun c => ?_)
  · have h := h.1 c
    refine g_iload_n (pc2 := 99) dX8_swapped_98 rfl rfl ?_
    refine g_if_ne (tgt := 106) (pc2 := 102) dX8_swapped_99 (by decide) rfl (fun c => ?_) (fun c => ?_)
    · have h := h.1 c
      refine g_iload_n (pc2 := 107) dX8_swapped_106 rfl rfl ?_
      exact g_iret dX8_swapped_107 rfl h
    · have h := h.2 c
      refine g_iload_n (pc2 := 103) dX8_swapped_102 rfl rfl ?_
      refine g_goto (tgt := 107) dX8_swapped_103 (by decide) ?_
      exact g_iret dX8_swapped_107 rfl h
  · have h := h.2 c
    refine g_iload (pc2 := 35) dX8_swapped_33 rfl rfl ?_
    refine g_iconst (v := 1) (pc2 := 36) dX8_swapped_35 (by decide) rfl ?_
    refine g_iadd (pc2 := 37) dX8_swapped_36 rfl ?_
    refine g_istore (pc2 := 39) dX8_swapped_37 (by decide) rfl rfl ?_
    exact g_lw (lv2 := [some (.ref 0), some (.int x1), some (.int x2), some (.int x3), some (.int x4), some (.int (x4 + 1))]) ⟨rfl, ⟨rfl, ⟨rfl, ⟨rfl, ⟨rfl, ⟨rfl, trivial⟩⟩⟩⟩⟩⟩ h
set_option maxRecDepth 20000 in
theorem bX8_swapped_39 {d : Nat} {σ : gw_S} {Q : Option Value → gw_S → Prop} {x1 : Int32} {x2 : Int32} {x3 : Int32} {x4 : Int32} {x5 : Int32}   (h : (((σ 7 4) ≤ x5) → (gG (d + 1) mX8_swapped 18 [some (.ref 0), some (.int x1), some (.int x2), some (.int x3), some (.int (x4 + 1)), none] [] σ Q)) ∧ ((¬ (σ 7 4) ≤ x5) → (gB d mX8_comesOut [.ref 0, .int (-1), .int x4, .int x5] σ (fun v σ3 => ∃ r4 : Int32, v = some (.int r4) ∧ (((¬ r4 = 0) → (((¬ x3 = (-1)) → (gG (d + 1) mX8_swapped 39 [some (.ref 0), some (.int x1), some (.int (x2 + 1)), some (.int x3), some (.int x4), some (.int (x5 + 1))] [] σ3 Q)) ∧ ((x3 = (-1)) → (gG (d + 1) mX8_swapped 39 [some (.ref 0), some (.int x1), some (.int (x2 + 1)), some (.int ((8 * x4) + x5)), some (.int x4), some (.int (x5 + 1))] [] σ3 Q)))) ∧ ((r4 = 0) → (gG (d + 1) mX8_swapped 39 [some (.ref 0), some (.int x1), some (.int x2), some (.int x3), some (.int x4), some (.int (x5 + 1))] [] σ3 Q))))))) : gG (d + 1) mX8_swapped 39 [some (.ref 0), some (.int x1), some (.int x2), some (.int x3), some (.int x4), some (.int x5)] [] σ Q := by
  refine g_iload (pc2 := 41) dX8_swapped_39 rfl rfl ?_
  refine g_aload_n (pc2 := 42) dX8_swapped_41 rfl rfl ?_
  refine g_geta (pc2 := 45) dX8_swapped_42 fl_X8_24 gk_0 rfl rfl ?_
  refine g_geta (pc2 := 48) dX8_swapped_45 fl_X8_112 gk_6 rfl rfl ?_
  refine g_geti (pc2 := 51) dX8_swapped_48 fl_X8_242 gk_7 rfl rfl ?_
  refine g_icmp_ge (tgt := 92) (pc2 := 54) dX8_swapped_51 (by decide) rfl (fun c => ?_) (fun c => ?_)
  · have h := h.1 c
    refine g_iinc2 (c := 1) (pc2 := 95) dX8_swapped_92 rfl (by decide) (by decide) rfl rfl ?_
    refine g_goto (tgt := 18) dX8_swapped_95 (by decide) ?_
    exact g_lw (lv2 := [some (.ref 0), some (.int x1), some (.int x2), some (.int x3), some (.int (x4 + 1)), none]) ⟨rfl, ⟨rfl, ⟨rfl, ⟨rfl, ⟨rfl, trivial⟩⟩⟩⟩⟩ h
  · have h := h.2 c
    refine g_aload_n (pc2 := 55) dX8_swapped_54 rfl rfl ?_
    refine g_iconst (v := (-1)) (pc2 := 56) dX8_swapped_55 (by decide) rfl ?_
    refine g_iload (pc2 := 58) dX8_swapped_56 rfl rfl ?_
    refine g_iload (pc2 := 60) dX8_swapped_58 rfl rfl ?_
    refine g_callV (M2 := mX8_comesOut) (as := [.int (-1), .int x4, .int x5]) (st := []) (pc2 := 63) dX8_swapped_60 ml_X8_247 mvX8_comesOut gk_0 rfl rfl rfl (Nat.le_of_ble_eq_true rfl) (Nat.le_refl _) rfl (h.mono ?_)
    rintro _ σ3 ⟨r4, rfl, h⟩
    show gG (d + 1) mX8_swapped 63 _ [.int r4] σ3 Q
    refine g_if_ne (tgt := 69) (pc2 := 66) dX8_swapped_63 (by decide) rfl (fun c => ?_) (fun c => ?_)
    · have h := h.1 c
      refine g_iinc2 (c := 1) (pc2 := 72) dX8_swapped_69 rfl (by decide) (by decide) rfl rfl ?_
      refine g_iload_n (pc2 := 73) dX8_swapped_72 rfl rfl ?_
      refine g_iconst (v := (-1)) (pc2 := 74) dX8_swapped_73 (by decide) rfl ?_
      refine g_icmp_ne (tgt := 86) (pc2 := 77) dX8_swapped_74 (by decide) rfl (fun c => ?_) (fun c => ?_)
      · have h := h.1 c
        refine g_iinc2 (c := 1) (pc2 := 89) dX8_swapped_86 rfl (by decide) (by decide) rfl rfl ?_
        refine g_goto (tgt := 39) dX8_swapped_89 (by decide) ?_
        exact g_lw (lv2 := [some (.ref 0), some (.int x1), some (.int (x2 + 1)), some (.int x3), some (.int x4), some (.int (x5 + 1))]) ⟨rfl, ⟨rfl, ⟨rfl, ⟨rfl, ⟨rfl, ⟨rfl, trivial⟩⟩⟩⟩⟩⟩ h
      · have h := h.2 c
        refine g_bipush (v := 8) (pc2 := 79) dX8_swapped_77 (by decide) rfl ?_
        refine g_iload (pc2 := 81) dX8_swapped_79 rfl rfl ?_
        refine g_imul (pc2 := 82) dX8_swapped_81 rfl ?_
        refine g_iload (pc2 := 84) dX8_swapped_82 rfl rfl ?_
        refine g_iadd (pc2 := 85) dX8_swapped_84 rfl ?_
        refine g_istore_n (pc2 := 86) dX8_swapped_85 (by decide) rfl rfl ?_
        refine g_iinc2 (c := 1) (pc2 := 89) dX8_swapped_86 rfl (by decide) (by decide) rfl rfl ?_
        refine g_goto (tgt := 39) dX8_swapped_89 (by decide) ?_
        exact g_lw (lv2 := [some (.ref 0), some (.int x1), some (.int (x2 + 1)), some (.int ((8 * x4) + x5)), some (.int x4), some (.int (x5 + 1))]) ⟨rfl, ⟨rfl, ⟨rfl, ⟨rfl, ⟨rfl, ⟨rfl, trivial⟩⟩⟩⟩⟩⟩ h
    · have h := h.2 c
      refine g_goto (tgt := 86) dX8_swapped_66 (by decide) ?_
      refine g_iinc2 (c := 1) (pc2 := 89) dX8_swapped_86 rfl (by decide) (by decide) rfl rfl ?_
      refine g_goto (tgt := 39) dX8_swapped_89 (by decide) ?_
      exact g_lw (lv2 := [some (.ref 0), some (.int x1), some (.int x2), some (.int x3), some (.int x4), some (.int (x5 + 1))]) ⟨rfl, ⟨rfl, ⟨rfl, ⟨rfl, ⟨rfl, ⟨rfl, trivial⟩⟩⟩⟩⟩⟩ h
set_option maxRecDepth 20000 in
theorem eX8_takeTexts {d : Nat} {σ : gw_S} {Q : Option Value → gw_S → Prop}    (h : gB d mX4_takeFrom [.ref 7, .ref 2] σ (fun v σ1 => v = none ∧ (gB d mX2_takeFrom [.ref 17, .ref 4] σ1 (fun v σ2 => v = none ∧ (gB d mX8_forgetDays [.ref 0] σ2 (fun v σ3 => v = none ∧ (Q none σ3))))))) : gB (d + 1) mX8_takeTexts [.ref 0] σ Q := by
  refine gB_of rfl (Nat.le_of_ble_eq_true rfl) (g_lw (lv2 := [some (.ref 0)]) ⟨rfl, trivial⟩ ?_)
  refine g_aload_n (pc2 := 1) dX8_takeTexts_0 rfl rfl ?_
  refine g_geta (pc2 := 4) dX8_takeTexts_1 fl_X8_24 gk_0 rfl rfl ?_
  refine g_geta (pc2 := 7) dX8_takeTexts_4 fl_X8_112 gk_6 rfl rfl ?_
  refine g_aload_n (pc2 := 8) dX8_takeTexts_7 rfl rfl ?_
  refine g_geta (pc2 := 11) dX8_takeTexts_8 fl_X8_14 gk_0 rfl rfl ?_
  refine g_callV (M2 := mX4_takeFrom) (as := [.ref 2]) (st := []) (pc2 := 14) dX8_takeTexts_11 ml_X8_383 mvX4_takeFrom gk_7 rfl rfl rfl (Nat.le_of_ble_eq_true rfl) (Nat.le_refl _) rfl (h.mono ?_)
  rintro _ σ1 ⟨rfl, h⟩
  show gG (d + 1) mX8_takeTexts 14 _ [] σ1 Q
  refine g_aload_n (pc2 := 15) dX8_takeTexts_14 rfl rfl ?_
  refine g_geta (pc2 := 18) dX8_takeTexts_15 fl_X8_31 gk_0 rfl rfl ?_
  refine g_aload_n (pc2 := 19) dX8_takeTexts_18 rfl rfl ?_
  refine g_geta (pc2 := 22) dX8_takeTexts_19 fl_X8_18 gk_0 rfl rfl ?_
  refine g_callV (M2 := mX2_takeFrom) (as := [.ref 4]) (st := []) (pc2 := 25) dX8_takeTexts_22 ml_X8_387 mvX2_takeFrom gk_17 rfl rfl rfl (Nat.le_of_ble_eq_true rfl) (Nat.le_refl _) rfl (h.mono ?_)
  rintro _ σ2 ⟨rfl, h⟩
  show gG (d + 1) mX8_takeTexts 25 _ [] σ2 Q
  refine g_aload_n (pc2 := 26) dX8_takeTexts_25 rfl rfl ?_
  refine g_callV (M2 := mX8_forgetDays) (as := []) (st := []) (pc2 := 29) dX8_takeTexts_26 ml_X8_137 mvX8_forgetDays gk_0 rfl rfl rfl (Nat.le_of_ble_eq_true rfl) (Nat.le_refl _) rfl (h.mono ?_)
  rintro _ σ3 ⟨rfl, h⟩
  show gG (d + 1) mX8_takeTexts 29 _ [] σ3 Q
  exact g_vret dX8_takeTexts_29 rfl h
set_option maxRecDepth 20000 in
theorem eX8_textOf {d : Nat} {σ : gw_S} {Q : Option Value → gw_S → Prop} {x1 : Int32}   (h : ((¬ x1 = 0) → (Q (some (.ref 4)) σ)) ∧ ((x1 = 0) → (Q (some (.ref 2)) σ))) : gB d mX8_textOf [.ref 0, .int x1] σ Q := by
  refine gB_of rfl (Nat.le_of_ble_eq_true rfl) (g_lw (lv2 := [some (.ref 0), some (.int x1)]) ⟨rfl, ⟨rfl, trivial⟩⟩ ?_)
  refine g_iload_n (pc2 := 1) dX8_textOf_0 rfl rfl ?_
  refine g_if_ne (tgt := 11) (pc2 := 4) dX8_textOf_1 (by decide) rfl (fun c => ?_) (fun c => ?_)
  · have h := h.1 c
    refine g_aload_n (pc2 := 12) dX8_textOf_11 rfl rfl ?_
    refine g_geta (pc2 := 15) dX8_textOf_12 fl_X8_18 gk_0 rfl rfl ?_
    exact g_aret dX8_textOf_15 rfl h
  · have h := h.2 c
    refine g_aload_n (pc2 := 5) dX8_textOf_4 rfl rfl ?_
    refine g_geta (pc2 := 8) dX8_textOf_5 fl_X8_14 gk_0 rfl rfl ?_
    refine g_goto (tgt := 15) dX8_textOf_8 (by decide) ?_
    exact g_aret dX8_textOf_15 rfl h
set_option maxRecDepth 20000 in
theorem eX8_type {d : Nat} {σ : gw_S} {Q : Option Value → gw_S → Prop} {x1 : Int32} {x2 : Int32}   (h : gB d mX8_isWithin [.int x1, .int 2] σ (fun v σ1 => ∃ r2 : Int32, v = some (.int r2) ∧ (((r2 = 0) → (Q (some (.int (-2))) σ1)) ∧ ((¬ r2 = 0) → (gB d mX8_isWithin [.int x2, .int 256] σ1 (fun v σ3 => ∃ r4 : Int32, v = some (.int r4) ∧ (((¬ r4 = 0) → (gB d mX8_textOf [.ref 0, .int x1] σ3 (fun v σ5 => ∃ q6, v = some (.ref q6) ∧ gw_tx q6 ∧ ((((σ5 q6 2) < (σ5 q6 1)) → (vp_in (σ5 q6 2) 47 ∧ (∀ s8 : gw_S, s8 = gw_u σ5 (q6 + 1) (σ5 q6 2).toNatClampNeg x2 → (∀ s9 : gw_S, s9 = gw_u s8 q6 2 ((s8 q6 2) + 1) → (gB d mX8_takeTexts [.ref 0] s9 (fun v σ10 => v = none ∧ (Q (some (.int (σ10 q6 2))) σ10))))))) ∧ ((¬ (σ5 q6 2) < (σ5 q6 1)) → (Q (some (.int (-4))) σ5)))))) ∧ ((r4 = 0) → (Q (some (.int (-2))) σ3))))))))) : gB (d + 1) mX8_type [.ref 0, .int x1, .int x2] σ Q := by
  refine gB_of rfl (Nat.le_of_ble_eq_true rfl) (g_lw (lv2 := [some (.ref 0), some (.int x1), some (.int x2), none]) ⟨rfl, ⟨rfl, ⟨rfl, trivial⟩⟩⟩ ?_)
  refine g_iload_n (pc2 := 1) dX8_type_0 rfl rfl ?_
  refine g_iconst (v := 2) (pc2 := 2) dX8_type_1 (by decide) rfl ?_
  refine g_callS (M2 := mX8_isWithin) (as := [.int x1, .int 2]) (st := []) (pc2 := 5) dX8_type_2 ml_X8_81 msX8_isWithin rfl rfl (Nat.le_of_ble_eq_true rfl) (Nat.le_refl _) rfl (h.mono ?_)
  rintro _ σ1 ⟨r2, rfl, h⟩
  show gG (d + 1) mX8_type 5 _ [.int r2] σ1 Q
  refine g_if_eq (tgt := 18) (pc2 := 8) dX8_type_5 (by decide) rfl (fun c => ?_) (fun c => ?_)
  · have h := h.1 c
    refine g_bipush (v := (-2)) (pc2 := 20) dX8_type_18 (by decide) rfl ?_
    exact g_iret dX8_type_20 rfl h
  · have h := h.2 c
    refine g_iload_n (pc2 := 9) dX8_type_8 rfl rfl ?_
    refine g_sipush (v := 256) (pc2 := 12) dX8_type_9 (by decide) rfl ?_
    refine g_callS (M2 := mX8_isWithin) (as := [.int x2, .int 256]) (st := []) (pc2 := 15) dX8_type_12 ml_X8_81 msX8_isWithin rfl rfl (Nat.le_of_ble_eq_true rfl) (Nat.le_refl _) rfl (h.mono ?_)
    rintro _ σ3 ⟨r4, rfl, h⟩
    show gG (d + 1) mX8_type 15 _ [.int r4] σ3 Q
    refine g_if_ne (tgt := 21) (pc2 := 18) dX8_type_15 (by decide) rfl (fun c => ?_) (fun c => ?_)
    · have h := h.1 c
      refine g_aload_n (pc2 := 22) dX8_type_21 rfl rfl ?_
      refine g_iload_n (pc2 := 23) dX8_type_22 rfl rfl ?_
      refine g_callV (M2 := mX8_textOf) (as := [.int x1]) (st := []) (pc2 := 26) dX8_type_23 ml_X8_85 mvX8_textOf gk_0 rfl rfl rfl (Nat.le_of_ble_eq_true rfl) (Nat.le_refl _) rfl (h.mono ?_)
      rintro _ σ5 ⟨q6, rfl, hq7, h⟩
      show gG (d + 1) mX8_type 26 _ [.ref q6] σ5 Q
      refine g_astore_n (pc2 := 27) dX8_type_26 (by decide) rfl rfl ?_
      refine g_aload_n (pc2 := 28) dX8_type_27 rfl rfl ?_
      refine g_geti (pc2 := 31) dX8_type_28 fl_X8_89 hq7.1 rfl rfl ?_
      refine g_aload_n (pc2 := 32) dX8_type_31 rfl rfl ?_
      refine g_geti (pc2 := 35) dX8_type_32 fl_X8_92 hq7.1 rfl rfl ?_
      refine g_icmp_lt (tgt := 41) (pc2 := 38) dX8_type_35 (by decide) rfl (fun c => ?_) (fun c => ?_)
      · have h := h.1 c
        refine g_aload_n (pc2 := 42) dX8_type_41 rfl rfl ?_
        refine g_geta (pc2 := 45) dX8_type_42 fl_X8_95 hq7.1 rfl rfl ?_
        refine g_aload_n (pc2 := 46) dX8_type_45 rfl rfl ?_
        refine g_geti (pc2 := 49) dX8_type_46 fl_X8_89 hq7.1 rfl rfl ?_
        refine g_iload_n (pc2 := 50) dX8_type_49 rfl rfl ?_
        obtain ⟨hx, h⟩ := h
        refine g_iast2 (pc2 := 51) dX8_type_50 hq7.2 hx rfl (fun s8 es8 => ?_)
        replace h := h s8 es8
        refine g_aload_n (pc2 := 52) dX8_type_51 rfl rfl ?_
        refine g_dup (pc2 := 53) dX8_type_52 rfl rfl ?_
        refine g_geti (pc2 := 56) dX8_type_53 fl_X8_89 hq7.1 rfl rfl ?_
        refine g_iconst (v := 1) (pc2 := 57) dX8_type_56 (by decide) rfl ?_
        refine g_iadd (pc2 := 58) dX8_type_57 rfl ?_
        refine g_put2 (pc2 := 61) dX8_type_58 fp_X8_89 hq7.1 rfl rfl rfl rfl (fun s9 es9 => ?_)
        replace h := h s9 es9
        refine g_aload_n (pc2 := 62) dX8_type_61 rfl rfl ?_
        refine g_callV (M2 := mX8_takeTexts) (as := []) (st := []) (pc2 := 65) dX8_type_62 ml_X8_98 mvX8_takeTexts gk_0 rfl rfl rfl (Nat.le_of_ble_eq_true rfl) (Nat.le_refl _) rfl (h.mono ?_)
        rintro _ σ10 ⟨rfl, h⟩
        show gG (d + 1) mX8_type 65 _ [] σ10 Q
        refine g_aload_n (pc2 := 66) dX8_type_65 rfl rfl ?_
        refine g_geti (pc2 := 69) dX8_type_66 fl_X8_89 hq7.1 rfl rfl ?_
        exact g_iret dX8_type_69 rfl h
      · have h := h.2 c
        refine g_bipush (v := (-4)) (pc2 := 40) dX8_type_38 (by decide) rfl ?_
        exact g_iret dX8_type_40 rfl h
    · have h := h.2 c
      refine g_bipush (v := (-2)) (pc2 := 20) dX8_type_18 (by decide) rfl ?_
      exact g_iret dX8_type_20 rfl h
set_option maxRecDepth 20000 in
theorem eX8_undo {d : Nat} {σ : gw_S} {Q : Option Value → gw_S → Prop} {x1 : Int32}   (h : gB d mX8_isWithin [.int x1, .int 2] σ (fun v σ1 => ∃ r2 : Int32, v = some (.int r2) ∧ (((¬ r2 = 0) → (gB d mX8_textOf [.ref 0, .int x1] σ1 (fun v σ3 => ∃ q4, v = some (.ref q4) ∧ gw_tx q4 ∧ (((¬ (σ3 q4 2) = 0) → (∀ s6 : gw_S, s6 = gw_u σ3 q4 2 ((σ3 q4 2) - 1) → (gB d mX8_takeTexts [.ref 0] s6 (fun v σ7 => v = none ∧ (Q (some (.int (σ7 q4 2))) σ7))))) ∧ (((σ3 q4 2) = 0) → (Q (some (.int (-3))) σ3)))))) ∧ ((r2 = 0) → (Q (some (.int (-2))) σ1))))) : gB (d + 1) mX8_undo [.ref 0, .int x1] σ Q := by
  refine gB_of rfl (Nat.le_of_ble_eq_true rfl) (g_lw (lv2 := [some (.ref 0), some (.int x1), none]) ⟨rfl, ⟨rfl, trivial⟩⟩ ?_)
  refine g_iload_n (pc2 := 1) dX8_undo_0 rfl rfl ?_
  refine g_iconst (v := 2) (pc2 := 2) dX8_undo_1 (by decide) rfl ?_
  refine g_callS (M2 := mX8_isWithin) (as := [.int x1, .int 2]) (st := []) (pc2 := 5) dX8_undo_2 ml_X8_81 msX8_isWithin rfl rfl (Nat.le_of_ble_eq_true rfl) (Nat.le_refl _) rfl (h.mono ?_)
  rintro _ σ1 ⟨r2, rfl, h⟩
  show gG (d + 1) mX8_undo 5 _ [.int r2] σ1 Q
  refine g_if_ne (tgt := 11) (pc2 := 8) dX8_undo_5 (by decide) rfl (fun c => ?_) (fun c => ?_)
  · have h := h.1 c
    refine g_aload_n (pc2 := 12) dX8_undo_11 rfl rfl ?_
    refine g_iload_n (pc2 := 13) dX8_undo_12 rfl rfl ?_
    refine g_callV (M2 := mX8_textOf) (as := [.int x1]) (st := []) (pc2 := 16) dX8_undo_13 ml_X8_85 mvX8_textOf gk_0 rfl rfl rfl (Nat.le_of_ble_eq_true rfl) (Nat.le_refl _) rfl (h.mono ?_)
    rintro _ σ3 ⟨q4, rfl, hq5, h⟩
    show gG (d + 1) mX8_undo 16 _ [.ref q4] σ3 Q
    refine g_astore_n (pc2 := 17) dX8_undo_16 (by decide) rfl rfl ?_
    refine g_aload_n (pc2 := 18) dX8_undo_17 rfl rfl ?_
    refine g_geti (pc2 := 21) dX8_undo_18 fl_X8_89 hq5.1 rfl rfl ?_
    refine g_if_ne (tgt := 27) (pc2 := 24) dX8_undo_21 (by decide) rfl (fun c => ?_) (fun c => ?_)
    · have h := h.1 c
      refine g_aload_n (pc2 := 28) dX8_undo_27 rfl rfl ?_
      refine g_dup (pc2 := 29) dX8_undo_28 rfl rfl ?_
      refine g_geti (pc2 := 32) dX8_undo_29 fl_X8_89 hq5.1 rfl rfl ?_
      refine g_iconst (v := 1) (pc2 := 33) dX8_undo_32 (by decide) rfl ?_
      refine g_isub (pc2 := 34) dX8_undo_33 rfl ?_
      refine g_put2 (pc2 := 37) dX8_undo_34 fp_X8_89 hq5.1 rfl rfl rfl rfl (fun s6 es6 => ?_)
      replace h := h s6 es6
      refine g_aload_n (pc2 := 38) dX8_undo_37 rfl rfl ?_
      refine g_callV (M2 := mX8_takeTexts) (as := []) (st := []) (pc2 := 41) dX8_undo_38 ml_X8_98 mvX8_takeTexts gk_0 rfl rfl rfl (Nat.le_of_ble_eq_true rfl) (Nat.le_refl _) rfl (h.mono ?_)
      rintro _ σ7 ⟨rfl, h⟩
      show gG (d + 1) mX8_undo 41 _ [] σ7 Q
      refine g_aload_n (pc2 := 42) dX8_undo_41 rfl rfl ?_
      refine g_geti (pc2 := 45) dX8_undo_42 fl_X8_89 hq5.1 rfl rfl ?_
      exact g_iret dX8_undo_45 rfl h
    · have h := h.2 c
      refine g_bipush (v := (-3)) (pc2 := 26) dX8_undo_24 (by decide) rfl ?_
      exact g_iret dX8_undo_26 rfl h
  · have h := h.2 c
    refine g_bipush (v := (-2)) (pc2 := 10) dX8_undo_8 (by decide) rfl ?_
    exact g_iret dX8_undo_10 rfl h
set_option maxRecDepth 20000 in
theorem eX8_weigh {d : Nat} {σ : gw_S} {Q : Option Value → gw_S → Prop} {x1 : Int32}   (h : gB d mX8_isWithin [.int x1, .int 40] σ (fun v σ1 => ∃ r2 : Int32, v = some (.int r2) ∧ (((¬ r2 = 0) → (gB d mX8_hid [.ref 0] σ1 (fun v σ3 => ∃ r4 : Int32, v = some (.int r4) ∧ (gB d mX8_holdWithoutEach [.ref 0, .int r4, .int x1] σ3 (fun v σ5 => v = none ∧ (gG (d + 1) mX8_weigh 31 [some (.ref 0), none, some (.int r4), some (.int (-1)), some (.int 0), some (.int 0), none] [] σ5 Q)))))) ∧ ((r2 = 0) → (Q (some (.int (-2))) σ1))))) : gB (d + 1) mX8_weigh [.ref 0, .int x1] σ Q := by
  refine gB_of rfl (Nat.le_of_ble_eq_true rfl) (g_lw (lv2 := [some (.ref 0), some (.int x1), none, none, none, none, none]) ⟨rfl, ⟨rfl, trivial⟩⟩ ?_)
  refine g_iload_n (pc2 := 1) dX8_weigh_0 rfl rfl ?_
  refine g_bipush (v := 40) (pc2 := 3) dX8_weigh_1 (by decide) rfl ?_
  refine g_callS (M2 := mX8_isWithin) (as := [.int x1, .int 40]) (st := []) (pc2 := 6) dX8_weigh_3 ml_X8_81 msX8_isWithin rfl rfl (Nat.le_of_ble_eq_true rfl) (Nat.le_refl _) rfl (h.mono ?_)
  rintro _ σ1 ⟨r2, rfl, h⟩
  show gG (d + 1) mX8_weigh 6 _ [.int r2] σ1 Q
  refine g_if_ne (tgt := 12) (pc2 := 9) dX8_weigh_6 (by decide) rfl (fun c => ?_) (fun c => ?_)
  · have h := h.1 c
    refine g_aload_n (pc2 := 13) dX8_weigh_12 rfl rfl ?_
    refine g_callV (M2 := mX8_hid) (as := []) (st := []) (pc2 := 16) dX8_weigh_13 ml_X8_251 mvX8_hid gk_0 rfl rfl rfl (Nat.le_of_ble_eq_true rfl) (Nat.le_refl _) rfl (h.mono ?_)
    rintro _ σ3 ⟨r4, rfl, h⟩
    show gG (d + 1) mX8_weigh 16 _ [.int r4] σ3 Q
    refine g_istore_n (pc2 := 17) dX8_weigh_16 (by decide) rfl rfl ?_
    refine g_aload_n (pc2 := 18) dX8_weigh_17 rfl rfl ?_
    refine g_iload_n (pc2 := 19) dX8_weigh_18 rfl rfl ?_
    refine g_iload_n (pc2 := 20) dX8_weigh_19 rfl rfl ?_
    refine g_callV (M2 := mX8_holdWithoutEach) (as := [.int r4, .int x1]) (st := []) (pc2 := 23) dX8_weigh_20 ml_X8_254 mvX8_holdWithoutEach gk_0 rfl rfl rfl (Nat.le_of_ble_eq_true rfl) (Nat.le_refl _) rfl (h.mono ?_)
    rintro _ σ5 ⟨rfl, h⟩
    show gG (d + 1) mX8_weigh 23 _ [] σ5 Q
    refine g_iconst (v := (-1)) (pc2 := 24) dX8_weigh_23 (by decide) rfl ?_
    refine g_istore_n (pc2 := 25) dX8_weigh_24 (by decide) rfl rfl ?_
    refine g_iconst (v := 0) (pc2 := 26) dX8_weigh_25 (by decide) rfl ?_
    refine g_istore (pc2 := 28) dX8_weigh_26 (by decide) rfl rfl ?_
    refine g_iconst (v := 0) (pc2 := 29) dX8_weigh_28 (by decide) rfl ?_
    refine g_istore (pc2 := 31) dX8_weigh_29 (by decide) rfl rfl ?_
    exact g_lw (lv2 := [some (.ref 0), none, some (.int r4), some (.int (-1)), some (.int 0), some (.int 0), none]) ⟨rfl, ⟨rfl, ⟨rfl, ⟨rfl, ⟨rfl, trivial⟩⟩⟩⟩⟩ h
  · have h := h.2 c
    refine g_bipush (v := (-2)) (pc2 := 11) dX8_weigh_9 (by decide) rfl ?_
    exact g_iret dX8_weigh_11 rfl h
set_option maxRecDepth 20000 in
theorem bX8_weigh_31 {d : Nat} {σ : gw_S} {Q : Option Value → gw_S → Prop} {x2 : Int32} {x3 : Int32} {x4 : Int32} {x5 : Int32}   (h : (((σ 7 4) ≤ x5) → (Q (some (.int x3)) σ)) ∧ ((¬ (σ 7 4) ≤ x5) → (gB d mX8_mostAlike [.ref 0, .int x2, .int x5] σ (fun v σ6 => ∃ r7 : Int32, v = some (.int r7) ∧ (((x3 = (-1)) → (gG (d + 1) mX8_weigh 31 [some (.ref 0), none, some (.int x2), some (.int x5), some (.int r7), some (.int (x5 + 1)), none] [] σ6 Q)) ∧ ((¬ x3 = (-1)) → (((x4 ≤ r7) → (gG (d + 1) mX8_weigh 31 [some (.ref 0), none, some (.int x2), some (.int x3), some (.int x4), some (.int (x5 + 1)), none] [] σ6 Q)) ∧ ((¬ x4 ≤ r7) → (gG (d + 1) mX8_weigh 31 [some (.ref 0), none, some (.int x2), some (.int x5), some (.int r7), some (.int (x5 + 1)), none] [] σ6 Q))))))))) : gG (d + 1) mX8_weigh 31 [some (.ref 0), none, some (.int x2), some (.int x3), some (.int x4), some (.int x5), none] [] σ Q := by
  refine g_iload (pc2 := 33) dX8_weigh_31 rfl rfl ?_
  refine g_aload_n (pc2 := 34) dX8_weigh_33 rfl rfl ?_
  refine g_geta (pc2 := 37) dX8_weigh_34 fl_X8_24 gk_0 rfl rfl ?_
  refine g_geta (pc2 := 40) dX8_weigh_37 fl_X8_112 gk_6 rfl rfl ?_
  refine g_geti (pc2 := 43) dX8_weigh_40 fl_X8_242 gk_7 rfl rfl ?_
  refine g_icmp_ge (tgt := 80) (pc2 := 46) dX8_weigh_43 (by decide) rfl (fun c => ?_) (fun c => ?_)
  · have h := h.1 c
    refine g_iload_n (pc2 := 81) dX8_weigh_80 rfl rfl ?_
    exact g_iret dX8_weigh_81 rfl h
  · have h := h.2 c
    refine g_aload_n (pc2 := 47) dX8_weigh_46 rfl rfl ?_
    refine g_iload_n (pc2 := 48) dX8_weigh_47 rfl rfl ?_
    refine g_iload (pc2 := 50) dX8_weigh_48 rfl rfl ?_
    refine g_callV (M2 := mX8_mostAlike) (as := [.int x2, .int x5]) (st := []) (pc2 := 53) dX8_weigh_50 ml_X8_258 mvX8_mostAlike gk_0 rfl rfl rfl (Nat.le_of_ble_eq_true rfl) (Nat.le_refl _) rfl (h.mono ?_)
    rintro _ σ6 ⟨r7, rfl, h⟩
    show gG (d + 1) mX8_weigh 53 _ [.int r7] σ6 Q
    refine g_istore (pc2 := 55) dX8_weigh_53 (by decide) rfl rfl ?_
    refine g_iload_n (pc2 := 56) dX8_weigh_55 rfl rfl ?_
    refine g_iconst (v := (-1)) (pc2 := 57) dX8_weigh_56 (by decide) rfl ?_
    refine g_icmp_eq (tgt := 67) (pc2 := 60) dX8_weigh_57 (by decide) rfl (fun c => ?_) (fun c => ?_)
    · have h := h.1 c
      refine g_iload (pc2 := 69) dX8_weigh_67 rfl rfl ?_
      refine g_istore_n (pc2 := 70) dX8_weigh_69 (by decide) rfl rfl ?_
      refine g_iload (pc2 := 72) dX8_weigh_70 rfl rfl ?_
      refine g_istore (pc2 := 74) dX8_weigh_72 (by decide) rfl rfl ?_
      refine g_iinc2 (c := 1) (pc2 := 77) dX8_weigh_74 rfl (by decide) (by decide) rfl rfl ?_
      refine g_goto (tgt := 31) dX8_weigh_77 (by decide) ?_
      exact g_lw (lv2 := [some (.ref 0), none, some (.int x2), some (.int x5), some (.int r7), some (.int (x5 + 1)), none]) ⟨rfl, ⟨rfl, ⟨rfl, ⟨rfl, ⟨rfl, trivial⟩⟩⟩⟩⟩ h
    · have h := h.2 c
      refine g_iload (pc2 := 62) dX8_weigh_60 rfl rfl ?_
      refine g_iload (pc2 := 64) dX8_weigh_62 rfl rfl ?_
      refine g_icmp_ge (tgt := 74) (pc2 := 67) dX8_weigh_64 (by decide) rfl (fun c => ?_) (fun c => ?_)
      · have h := h.1 c
        refine g_iinc2 (c := 1) (pc2 := 77) dX8_weigh_74 rfl (by decide) (by decide) rfl rfl ?_
        refine g_goto (tgt := 31) dX8_weigh_77 (by decide) ?_
        exact g_lw (lv2 := [some (.ref 0), none, some (.int x2), some (.int x3), some (.int x4), some (.int (x5 + 1)), none]) ⟨rfl, ⟨rfl, ⟨rfl, ⟨rfl, ⟨rfl, trivial⟩⟩⟩⟩⟩ h
      · have h := h.2 c
        refine g_iload (pc2 := 69) dX8_weigh_67 rfl rfl ?_
        refine g_istore_n (pc2 := 70) dX8_weigh_69 (by decide) rfl rfl ?_
        refine g_iload (pc2 := 72) dX8_weigh_70 rfl rfl ?_
        refine g_istore (pc2 := 74) dX8_weigh_72 (by decide) rfl rfl ?_
        refine g_iinc2 (c := 1) (pc2 := 77) dX8_weigh_74 rfl (by decide) (by decide) rfl rfl ?_
        refine g_goto (tgt := 31) dX8_weigh_77 (by decide) ?_
        exact g_lw (lv2 := [some (.ref 0), none, some (.int x2), some (.int x5), some (.int r7), some (.int (x5 + 1)), none]) ⟨rfl, ⟨rfl, ⟨rfl, ⟨rfl, ⟨rfl, trivial⟩⟩⟩⟩⟩ h
set_option maxRecDepth 20000 in
theorem eX8_weighed {d : Nat} {σ : gw_S} {Q : Option Value → gw_S → Prop} {x1 : Int32} {x2 : Int32} {x3 : Int32}   (h : gB d mX8_isWithin [.int x1, .int 40] σ (fun v σ1 => ∃ r2 : Int32, v = some (.int r2) ∧ (((r2 = 0) → (Q (some (.int (-2))) σ1)) ∧ ((¬ r2 = 0) → (gB d mX8_isWithin [.int x2, .int 8] σ1 (fun v σ3 => ∃ r4 : Int32, v = some (.int r4) ∧ (((r4 = 0) → (Q (some (.int (-2))) σ3)) ∧ ((¬ r4 = 0) → (gB d mX8_isWithin [.int x3, .int 1000] σ3 (fun v σ5 => ∃ r6 : Int32, v = some (.int r6) ∧ (((¬ r6 = 0) → ((((σ5 22 3) < 8) → (vp_in (σ5 22 3) 8 ∧ (∀ s7 : gw_S, s7 = gw_u σ5 23 (σ5 22 3).toNatClampNeg x1 → (vp_in (σ5 22 3) 8 ∧ (∀ s8 : gw_S, s8 = gw_u s7 24 (σ5 22 3).toNatClampNeg x2 → (vp_in (σ5 22 3) 8 ∧ (∀ s9 : gw_S, s9 = gw_u s8 25 (σ5 22 3).toNatClampNeg x3 → (∀ s10 : gw_S, s10 = gw_u s9 22 3 ((s9 22 3) + 1) → (Q (some (.int (s10 22 3))) s10))))))))) ∧ ((¬ (σ5 22 3) < 8) → (Q (some (.int (-4))) σ5)))) ∧ ((r6 = 0) → (Q (some (.int (-2))) σ5))))))))))))) : gB (d + 1) mX8_weighed [.ref 0, .int x1, .int x2, .int x3] σ Q := by
  refine gB_of rfl (Nat.le_of_ble_eq_true rfl) (g_lw (lv2 := [some (.ref 0), some (.int x1), some (.int x2), some (.int x3), none]) ⟨rfl, ⟨rfl, ⟨rfl, ⟨rfl, trivial⟩⟩⟩⟩ ?_)
  refine g_iload_n (pc2 := 1) dX8_weighed_0 rfl rfl ?_
  refine g_bipush (v := 40) (pc2 := 3) dX8_weighed_1 (by decide) rfl ?_
  refine g_callS (M2 := mX8_isWithin) (as := [.int x1, .int 40]) (st := []) (pc2 := 6) dX8_weighed_3 ml_X8_81 msX8_isWithin rfl rfl (Nat.le_of_ble_eq_true rfl) (Nat.le_refl _) rfl (h.mono ?_)
  rintro _ σ1 ⟨r2, rfl, h⟩
  show gG (d + 1) mX8_weighed 6 _ [.int r2] σ1 Q
  refine g_if_eq (tgt := 28) (pc2 := 9) dX8_weighed_6 (by decide) rfl (fun c => ?_) (fun c => ?_)
  · have h := h.1 c
    refine g_bipush (v := (-2)) (pc2 := 30) dX8_weighed_28 (by decide) rfl ?_
    exact g_iret dX8_weighed_30 rfl h
  · have h := h.2 c
    refine g_iload_n (pc2 := 10) dX8_weighed_9 rfl rfl ?_
    refine g_bipush (v := 8) (pc2 := 12) dX8_weighed_10 (by decide) rfl ?_
    refine g_callS (M2 := mX8_isWithin) (as := [.int x2, .int 8]) (st := []) (pc2 := 15) dX8_weighed_12 ml_X8_81 msX8_isWithin rfl rfl (Nat.le_of_ble_eq_true rfl) (Nat.le_refl _) rfl (h.mono ?_)
    rintro _ σ3 ⟨r4, rfl, h⟩
    show gG (d + 1) mX8_weighed 15 _ [.int r4] σ3 Q
    refine g_if_eq (tgt := 28) (pc2 := 18) dX8_weighed_15 (by decide) rfl (fun c => ?_) (fun c => ?_)
    · have h := h.1 c
      refine g_bipush (v := (-2)) (pc2 := 30) dX8_weighed_28 (by decide) rfl ?_
      exact g_iret dX8_weighed_30 rfl h
    · have h := h.2 c
      refine g_iload_n (pc2 := 19) dX8_weighed_18 rfl rfl ?_
      refine g_sipush (v := 1000) (pc2 := 22) dX8_weighed_19 (by decide) rfl ?_
      refine g_callS (M2 := mX8_isWithin) (as := [.int x3, .int 1000]) (st := []) (pc2 := 25) dX8_weighed_22 ml_X8_81 msX8_isWithin rfl rfl (Nat.le_of_ble_eq_true rfl) (Nat.le_refl _) rfl (h.mono ?_)
      rintro _ σ5 ⟨r6, rfl, h⟩
      show gG (d + 1) mX8_weighed 25 _ [.int r6] σ5 Q
      refine g_if_ne (tgt := 31) (pc2 := 28) dX8_weighed_25 (by decide) rfl (fun c => ?_) (fun c => ?_)
      · have h := h.1 c
        refine g_aload_n (pc2 := 32) dX8_weighed_31 rfl rfl ?_
        refine g_geta (pc2 := 35) dX8_weighed_32 fl_X8_38 gk_0 rfl rfl ?_
        refine g_geti (pc2 := 38) dX8_weighed_35 fl_X8_243 gk_22 rfl rfl ?_
        refine g_istore (pc2 := 40) dX8_weighed_38 (by decide) rfl rfl ?_
        refine g_iload (pc2 := 42) dX8_weighed_40 rfl rfl ?_
        refine g_bipush (v := 8) (pc2 := 44) dX8_weighed_42 (by decide) rfl ?_
        refine g_icmp_lt (tgt := 50) (pc2 := 47) dX8_weighed_44 (by decide) rfl (fun c => ?_) (fun c => ?_)
        · have h := h.1 c
          refine g_aload_n (pc2 := 51) dX8_weighed_50 rfl rfl ?_
          refine g_geta (pc2 := 54) dX8_weighed_51 fl_X8_38 gk_0 rfl rfl ?_
          refine g_geta (pc2 := 57) dX8_weighed_54 fl_X8_244 gk_22 rfl rfl ?_
          refine g_iload (pc2 := 59) dX8_weighed_57 rfl rfl ?_
          refine g_iload_n (pc2 := 60) dX8_weighed_59 rfl rfl ?_
          obtain ⟨hx, h⟩ := h
          refine g_iast2 (pc2 := 61) dX8_weighed_60 gk_23 hx rfl (fun s7 es7 => ?_)
          replace h := h s7 es7
          refine g_aload_n (pc2 := 62) dX8_weighed_61 rfl rfl ?_
          refine g_geta (pc2 := 65) dX8_weighed_62 fl_X8_38 gk_0 rfl rfl ?_
          refine g_geta (pc2 := 68) dX8_weighed_65 fl_X8_245 gk_22 rfl rfl ?_
          refine g_iload (pc2 := 70) dX8_weighed_68 rfl rfl ?_
          refine g_iload_n (pc2 := 71) dX8_weighed_70 rfl rfl ?_
          obtain ⟨hx, h⟩ := h
          refine g_iast2 (pc2 := 72) dX8_weighed_71 gk_24 hx rfl (fun s8 es8 => ?_)
          replace h := h s8 es8
          refine g_aload_n (pc2 := 73) dX8_weighed_72 rfl rfl ?_
          refine g_geta (pc2 := 76) dX8_weighed_73 fl_X8_38 gk_0 rfl rfl ?_
          refine g_geta (pc2 := 79) dX8_weighed_76 fl_X8_246 gk_22 rfl rfl ?_
          refine g_iload (pc2 := 81) dX8_weighed_79 rfl rfl ?_
          refine g_iload_n (pc2 := 82) dX8_weighed_81 rfl rfl ?_
          obtain ⟨hx, h⟩ := h
          refine g_iast2 (pc2 := 83) dX8_weighed_82 gk_25 hx rfl (fun s9 es9 => ?_)
          replace h := h s9 es9
          refine g_aload_n (pc2 := 84) dX8_weighed_83 rfl rfl ?_
          refine g_geta (pc2 := 87) dX8_weighed_84 fl_X8_38 gk_0 rfl rfl ?_
          refine g_dup (pc2 := 88) dX8_weighed_87 rfl rfl ?_
          refine g_geti (pc2 := 91) dX8_weighed_88 fl_X8_243 gk_22 rfl rfl ?_
          refine g_iconst (v := 1) (pc2 := 92) dX8_weighed_91 (by decide) rfl ?_
          refine g_iadd (pc2 := 93) dX8_weighed_92 rfl ?_
          refine g_put2 (pc2 := 96) dX8_weighed_93 fp_X8_243 gk_22 rfl rfl rfl rfl (fun s10 es10 => ?_)
          replace h := h s10 es10
          refine g_aload_n (pc2 := 97) dX8_weighed_96 rfl rfl ?_
          refine g_geta (pc2 := 100) dX8_weighed_97 fl_X8_38 gk_0 rfl rfl ?_
          refine g_geti (pc2 := 103) dX8_weighed_100 fl_X8_243 gk_22 rfl rfl ?_
          exact g_iret dX8_weighed_103 rfl h
        · have h := h.2 c
          refine g_bipush (v := (-4)) (pc2 := 49) dX8_weighed_47 (by decide) rfl ?_
          exact g_iret dX8_weighed_49 rfl h
      · have h := h.2 c
        refine g_bipush (v := (-2)) (pc2 := 30) dX8_weighed_28 (by decide) rfl ?_
        exact g_iret dX8_weighed_30 rfl h
set_option maxRecDepth 20000 in
theorem eX8_who {d : Nat} {σ : gw_S} {Q : Option Value → gw_S → Prop} {x1 : Int32} {x2 : Int32}   (h : gB d mX8_isWithin [.int x1, .int 40] σ (fun v σ1 => ∃ r2 : Int32, v = some (.int r2) ∧ (((r2 = 0) → (Q (some (.int (-2))) σ1)) ∧ ((¬ r2 = 0) → (gB d mX8_isBottle [.ref 0, .int x2] σ1 (fun v σ3 => ∃ r4 : Int32, v = some (.int r4) ∧ (((¬ r4 = 0) → (gB d mX8_behind [.ref 0, .int x1] σ3 (fun v σ5 => v = some (.ref 36) ∧ (vp_in x2 8 ∧ (Q (some (.int (σ5 41 x2.toNatClampNeg))) σ5))))) ∧ ((r4 = 0) → (Q (some (.int (-2))) σ3))))))))) : gB (d + 1) mX8_who [.ref 0, .int x1, .int x2] σ Q := by
  refine gB_of rfl (Nat.le_of_ble_eq_true rfl) (g_lw (lv2 := [some (.ref 0), some (.int x1), some (.int x2)]) ⟨rfl, ⟨rfl, ⟨rfl, trivial⟩⟩⟩ ?_)
  refine g_iload_n (pc2 := 1) dX8_who_0 rfl rfl ?_
  refine g_bipush (v := 40) (pc2 := 3) dX8_who_1 (by decide) rfl ?_
  refine g_callS (M2 := mX8_isWithin) (as := [.int x1, .int 40]) (st := []) (pc2 := 6) dX8_who_3 ml_X8_81 msX8_isWithin rfl rfl (Nat.le_of_ble_eq_true rfl) (Nat.le_refl _) rfl (h.mono ?_)
  rintro _ σ1 ⟨r2, rfl, h⟩
  show gG (d + 1) mX8_who 6 _ [.int r2] σ1 Q
  refine g_if_eq (tgt := 17) (pc2 := 9) dX8_who_6 (by decide) rfl (fun c => ?_) (fun c => ?_)
  · have h := h.1 c
    refine g_bipush (v := (-2)) (pc2 := 19) dX8_who_17 (by decide) rfl ?_
    exact g_iret dX8_who_19 rfl h
  · have h := h.2 c
    refine g_aload_n (pc2 := 10) dX8_who_9 rfl rfl ?_
    refine g_iload_n (pc2 := 11) dX8_who_10 rfl rfl ?_
    refine g_callV (M2 := mX8_isBottle) (as := [.int x2]) (st := []) (pc2 := 14) dX8_who_11 ml_X8_108 mvX8_isBottle gk_0 rfl rfl rfl (Nat.le_of_ble_eq_true rfl) (Nat.le_refl _) rfl (h.mono ?_)
    rintro _ σ3 ⟨r4, rfl, h⟩
    show gG (d + 1) mX8_who 14 _ [.int r4] σ3 Q
    refine g_if_ne (tgt := 20) (pc2 := 17) dX8_who_14 (by decide) rfl (fun c => ?_) (fun c => ?_)
    · have h := h.1 c
      refine g_aload_n (pc2 := 21) dX8_who_20 rfl rfl ?_
      refine g_iload_n (pc2 := 22) dX8_who_21 rfl rfl ?_
      refine g_callV (M2 := mX8_behind) (as := [.int x1]) (st := []) (pc2 := 25) dX8_who_22 ml_X8_186 mvX8_behind gk_0 rfl rfl rfl (Nat.le_of_ble_eq_true rfl) (Nat.le_refl _) rfl (h.mono ?_)
      rintro _ σ5 ⟨rfl, h⟩
      show gG (d + 1) mX8_who 25 _ [.ref 36] σ5 Q
      refine g_geta (pc2 := 28) dX8_who_25 fl_X8_197 gk_36 rfl rfl ?_
      refine g_iload_n (pc2 := 29) dX8_who_28 rfl rfl ?_
      obtain ⟨hx, h⟩ := h
      refine g_iald (pc2 := 30) dX8_who_29 gk_41 hx rfl ?_
      exact g_iret dX8_who_30 rfl h
    · have h := h.2 c
      refine g_bipush (v := (-2)) (pc2 := 19) dX8_who_17 (by decide) rfl ?_
      exact g_iret dX8_who_19 rfl h
set_option maxRecDepth 20000 in
theorem eX8_whole {d : Nat} {σ : gw_S} {Q : Option Value → gw_S → Prop} {x1 : Int32} {x2 : Int32}   (h : gB d mX8_isWithin [.int x1, .int 40] σ (fun v σ1 => ∃ r2 : Int32, v = some (.int r2) ∧ (((r2 = 0) → (Q (some (.int (-2))) σ1)) ∧ ((¬ r2 = 0) → (gB d mX8_isBottle [.ref 0, .int x2] σ1 (fun v σ3 => ∃ r4 : Int32, v = some (.int r4) ∧ (((¬ r4 = 0) → (gB d mX8_behind [.ref 0, .int x1] σ3 (fun v σ5 => v = some (.ref 36) ∧ (gB d mX3_isWhole [.ref 36, .int x2] σ5 (fun v σ6 => ∃ r7 : Int32, v = some (.int r7) ∧ (((r7 = 0) → (Q (some (.int 0)) σ6)) ∧ ((¬ r7 = 0) → (Q (some (.int 1)) σ6)))))))) ∧ ((r4 = 0) → (Q (some (.int (-2))) σ3))))))))) : gB (d + 1) mX8_whole [.ref 0, .int x1, .int x2] σ Q := by
  refine gB_of rfl (Nat.le_of_ble_eq_true rfl) (g_lw (lv2 := [some (.ref 0), some (.int x1), some (.int x2)]) ⟨rfl, ⟨rfl, ⟨rfl, trivial⟩⟩⟩ ?_)
  refine g_iload_n (pc2 := 1) dX8_whole_0 rfl rfl ?_
  refine g_bipush (v := 40) (pc2 := 3) dX8_whole_1 (by decide) rfl ?_
  refine g_callS (M2 := mX8_isWithin) (as := [.int x1, .int 40]) (st := []) (pc2 := 6) dX8_whole_3 ml_X8_81 msX8_isWithin rfl rfl (Nat.le_of_ble_eq_true rfl) (Nat.le_refl _) rfl (h.mono ?_)
  rintro _ σ1 ⟨r2, rfl, h⟩
  show gG (d + 1) mX8_whole 6 _ [.int r2] σ1 Q
  refine g_if_eq (tgt := 17) (pc2 := 9) dX8_whole_6 (by decide) rfl (fun c => ?_) (fun c => ?_)
  · have h := h.1 c
    refine g_bipush (v := (-2)) (pc2 := 19) dX8_whole_17 (by decide) rfl ?_
    exact g_iret dX8_whole_19 rfl h
  · have h := h.2 c
    refine g_aload_n (pc2 := 10) dX8_whole_9 rfl rfl ?_
    refine g_iload_n (pc2 := 11) dX8_whole_10 rfl rfl ?_
    refine g_callV (M2 := mX8_isBottle) (as := [.int x2]) (st := []) (pc2 := 14) dX8_whole_11 ml_X8_108 mvX8_isBottle gk_0 rfl rfl rfl (Nat.le_of_ble_eq_true rfl) (Nat.le_refl _) rfl (h.mono ?_)
    rintro _ σ3 ⟨r4, rfl, h⟩
    show gG (d + 1) mX8_whole 14 _ [.int r4] σ3 Q
    refine g_if_ne (tgt := 20) (pc2 := 17) dX8_whole_14 (by decide) rfl (fun c => ?_) (fun c => ?_)
    · have h := h.1 c
      refine g_aload_n (pc2 := 21) dX8_whole_20 rfl rfl ?_
      refine g_iload_n (pc2 := 22) dX8_whole_21 rfl rfl ?_
      refine g_callV (M2 := mX8_behind) (as := [.int x1]) (st := []) (pc2 := 25) dX8_whole_22 ml_X8_186 mvX8_behind gk_0 rfl rfl rfl (Nat.le_of_ble_eq_true rfl) (Nat.le_refl _) rfl (h.mono ?_)
      rintro _ σ5 ⟨rfl, h⟩
      show gG (d + 1) mX8_whole 25 _ [.ref 36] σ5 Q
      refine g_iload_n (pc2 := 26) dX8_whole_25 rfl rfl ?_
      refine g_callV (M2 := mX3_isWhole) (as := [.int x2]) (st := []) (pc2 := 29) dX8_whole_26 ml_X8_200 mvX3_isWhole gk_36 rfl rfl rfl (Nat.le_of_ble_eq_true rfl) (Nat.le_refl _) rfl (h.mono ?_)
      rintro _ σ6 ⟨r7, rfl, h⟩
      show gG (d + 1) mX8_whole 29 _ [.int r7] σ6 Q
      refine g_if_eq (tgt := 36) (pc2 := 32) dX8_whole_29 (by decide) rfl (fun c => ?_) (fun c => ?_)
      · have h := h.1 c
        refine g_iconst (v := 0) (pc2 := 37) dX8_whole_36 (by decide) rfl ?_
        exact g_iret dX8_whole_37 rfl h
      · have h := h.2 c
        refine g_iconst (v := 1) (pc2 := 33) dX8_whole_32 (by decide) rfl ?_
        refine g_goto (tgt := 37) dX8_whole_33 (by decide) ?_
        exact g_iret dX8_whole_37 rfl h
    · have h := h.2 c
      refine g_bipush (v := (-2)) (pc2 := 19) dX8_whole_17 (by decide) rfl ?_
      exact g_iret dX8_whole_19 rfl h
set_option maxRecDepth 20000 in
theorem eX8_wholeWays {d : Nat} {σ : gw_S} {Q : Option Value → gw_S → Prop} {x2 : Int32} {x3 : Int32} {x4 : Int32} {x5 : Int32}   (h : gB d mX8_isWithin [.int x2, .int 11] σ (fun v σ1 => ∃ r2 : Int32, v = some (.int r2) ∧ (((r2 = 0) → (Q (some (.long 0)) σ1)) ∧ ((¬ r2 = 0) → (vp_in x2 11 ∧ ∃ q3, ([52, 60, 68, 76, 84, 92, 100, 108, 116, 124, 132] : List Nat)[x2.toNatClampNeg]? = some q3 ∧ gw_st q3 ∧ (gB d mX3_isWhole [.ref q3, .int x5] σ1 (fun v σ5 => ∃ r6 : Int32, v = some (.int r6) ∧ (((¬ r6 = 0) → (((x3 < x2) → (Q (some (.long 1)) σ5)) ∧ ((¬ x3 < x2) → ((((x2 + 1) < 11) → (vp_in (x2 + 1) 11 ∧ ∃ q7, ([52, 60, 68, 76, 84, 92, 100, 108, 116, 124, 132] : List Nat)[(x2 + 1).toNatClampNeg]? = some q7 ∧ gw_st q7 ∧ (vp_in x2 11 ∧ ∃ q9, ([52, 60, 68, 76, 84, 92, 100, 108, 116, 124, 132] : List Nat)[x2.toNatClampNeg]? = some q9 ∧ gw_st q9 ∧ (gB d mX3_become [.ref q7, .ref q9] σ5 (fun v σ11 => v = none ∧ (gB d mX3_passUntilHeat [.ref q7, .ref 11, .int (-1)] σ11 (fun v σ12 => v = none ∧ (gB d mX3_ripeBottles [.ref q7, .int (σ12 6 4)] σ12 (fun v σ13 => ∃ r14 : Int32, v = some (.int r14) ∧ (((¬ r14 = 0) → (gB d mX8_wholeWays [.ref 34, .ref 6, .int (x2 + 1), .int x3, .int x4, .int x5] σ13 (fun v σ15 => ∃ r16 : Int64, v = some (.long r16) ∧ (gB d mX3_burstAll [.ref q7, .int r14] σ15 (fun v σ17 => v = none ∧ (gB d mX8_wholeWays [.ref 34, .ref 6, .int (x2 + 1), .int x3, .int x4, .int x5] σ17 (fun v σ18 => ∃ r19 : Int64, v = some (.long r19) ∧ (Q (some (.long ((((16 - x4).toInt64) * r16) + (x4.toInt64 * r19)))) σ18)))))))) ∧ ((r14 = 0) → (gB d mX8_wholeWays [.ref 34, .ref 6, .int (x2 + 1), .int x3, .int x4, .int x5] σ13 (fun v σ20 => ∃ r21 : Int64, v = some (.long r21) ∧ (Q (some (.long (16 * r21))) σ20)))))))))))))) ∧ ((¬ (x2 + 1) < 11) → (Q (some (.long 1)) σ5)))))) ∧ ((r6 = 0) → (Q (some (.long 0)) σ5)))))))))) : gB (d + 1) mX8_wholeWays [.ref 34, .ref 6, .int x2, .int x3, .int x4, .int x5] σ Q := by
  refine gB_of rfl (Nat.le_of_ble_eq_true rfl) (g_lw (lv2 := [some (.ref 34), some (.ref 6), some (.int x2), some (.int x3), some (.int x4), some (.int x5), none, none, none, none]) ⟨rfl, ⟨rfl, ⟨rfl, ⟨rfl, ⟨rfl, ⟨rfl, trivial⟩⟩⟩⟩⟩⟩ ?_)
  refine g_iload_n (pc2 := 1) dX8_wholeWays_0 rfl rfl ?_
  refine g_aload_n (pc2 := 2) dX8_wholeWays_1 rfl rfl ?_
  refine g_alenr (pc2 := 3) dX8_wholeWays_2 gk_34 rfl ?_
  refine g_callS (M2 := mX8_isWithin) (as := [.int x2, .int 11]) (st := []) (pc2 := 6) dX8_wholeWays_3 ml_X8_81 msX8_isWithin rfl rfl (Nat.le_of_ble_eq_true rfl) (Nat.le_refl _) rfl (h.mono ?_)
  rintro _ σ1 ⟨r2, rfl, h⟩
  show gG (d + 1) mX8_wholeWays 6 _ [.int r2] σ1 Q
  refine g_if_eq (tgt := 20) (pc2 := 9) dX8_wholeWays_6 (by decide) rfl (fun c => ?_) (fun c => ?_)
  · have h := h.1 c
    refine g_lconst (v := 0) (pc2 := 21) dX8_wholeWays_20 (by decide) rfl ?_
    exact g_lret dX8_wholeWays_21 rfl h
  · have h := h.2 c
    refine g_aload_n (pc2 := 10) dX8_wholeWays_9 rfl rfl ?_
    refine g_iload_n (pc2 := 11) dX8_wholeWays_10 rfl rfl ?_
    obtain ⟨hx, q3, hy, hq4, h⟩ := h
    refine g_aald (pc2 := 12) dX8_wholeWays_11 gk_34 rfl hx hy rfl ?_
    refine g_iload (pc2 := 14) dX8_wholeWays_12 rfl rfl ?_
    refine g_callV (M2 := mX3_isWhole) (as := [.int x5]) (st := []) (pc2 := 17) dX8_wholeWays_14 ml_X8_200 mvX3_isWhole hq4.1 rfl rfl rfl (Nat.le_of_ble_eq_true rfl) (Nat.le_refl _) rfl (h.mono ?_)
    rintro _ σ5 ⟨r6, rfl, h⟩
    show gG (d + 1) mX8_wholeWays 17 _ [.int r6] σ5 Q
    refine g_if_ne (tgt := 22) (pc2 := 20) dX8_wholeWays_17 (by decide) rfl (fun c => ?_) (fun c => ?_)
    · have h := h.1 c
      refine g_iload_n (pc2 := 23) dX8_wholeWays_22 rfl rfl ?_
      refine g_iload_n (pc2 := 24) dX8_wholeWays_23 rfl rfl ?_
      refine g_icmp_gt (tgt := 35) (pc2 := 27) dX8_wholeWays_24 (by decide) rfl (fun c => ?_) (fun c => ?_)
      · have h := h.1 c
        refine g_lconst (v := 1) (pc2 := 36) dX8_wholeWays_35 (by decide) rfl ?_
        exact g_lret dX8_wholeWays_36 rfl h
      · have h := h.2 c
        refine g_iload_n (pc2 := 28) dX8_wholeWays_27 rfl rfl ?_
        refine g_iconst (v := 1) (pc2 := 29) dX8_wholeWays_28 (by decide) rfl ?_
        refine g_iadd (pc2 := 30) dX8_wholeWays_29 rfl ?_
        refine g_aload_n (pc2 := 31) dX8_wholeWays_30 rfl rfl ?_
        refine g_alenr (pc2 := 32) dX8_wholeWays_31 gk_34 rfl ?_
        refine g_icmp_lt (tgt := 37) (pc2 := 35) dX8_wholeWays_32 (by decide) rfl (fun c => ?_) (fun c => ?_)
        · have h := h.1 c
          refine g_aload_n (pc2 := 38) dX8_wholeWays_37 rfl rfl ?_
          refine g_iload_n (pc2 := 39) dX8_wholeWays_38 rfl rfl ?_
          refine g_iconst (v := 1) (pc2 := 40) dX8_wholeWays_39 (by decide) rfl ?_
          refine g_iadd (pc2 := 41) dX8_wholeWays_40 rfl ?_
          obtain ⟨hx, q7, hy, hq8, h⟩ := h
          refine g_aald (pc2 := 42) dX8_wholeWays_41 gk_34 rfl hx hy rfl ?_
          refine g_astore (pc2 := 44) dX8_wholeWays_42 (by decide) rfl rfl ?_
          refine g_aload (pc2 := 46) dX8_wholeWays_44 rfl rfl ?_
          refine g_aload_n (pc2 := 47) dX8_wholeWays_46 rfl rfl ?_
          refine g_iload_n (pc2 := 48) dX8_wholeWays_47 rfl rfl ?_
          obtain ⟨hx, q9, hy, hq10, h⟩ := h
          refine g_aald (pc2 := 49) dX8_wholeWays_48 gk_34 rfl hx hy rfl ?_
          refine g_callV (M2 := mX3_become) (as := [.ref q9]) (st := []) (pc2 := 52) dX8_wholeWays_49 ml_X8_413 mvX3_become hq8.1 rfl rfl rfl (Nat.le_of_ble_eq_true rfl) (Nat.le_refl _) rfl (h.mono ?_)
          rintro _ σ11 ⟨rfl, h⟩
          show gG (d + 1) mX8_wholeWays 52 _ [] σ11 Q
          refine g_aload (pc2 := 54) dX8_wholeWays_52 rfl rfl ?_
          refine g_aload_n (pc2 := 55) dX8_wholeWays_54 rfl rfl ?_
          refine g_geta (pc2 := 58) dX8_wholeWays_55 fl_X8_150 gk_6 rfl rfl ?_
          refine g_iconst (v := (-1)) (pc2 := 59) dX8_wholeWays_58 (by decide) rfl ?_
          refine g_callV (M2 := mX3_passUntilHeat) (as := [.ref 11, .int (-1)]) (st := []) (pc2 := 62) dX8_wholeWays_59 ml_X8_416 mvX3_passUntilHeat hq8.1 rfl rfl rfl (Nat.le_of_ble_eq_true rfl) (Nat.le_refl _) rfl (h.mono ?_)
          rintro _ σ12 ⟨rfl, h⟩
          show gG (d + 1) mX8_wholeWays 62 _ [] σ12 Q
          refine g_aload (pc2 := 64) dX8_wholeWays_62 rfl rfl ?_
          refine g_aload_n (pc2 := 65) dX8_wholeWays_64 rfl rfl ?_
          refine g_geti (pc2 := 68) dX8_wholeWays_65 fl_X8_134 gk_6 rfl rfl ?_
          refine g_callV (M2 := mX3_ripeBottles) (as := [.int (σ12 6 4)]) (st := []) (pc2 := 71) dX8_wholeWays_68 ml_X8_420 mvX3_ripeBottles hq8.1 rfl rfl rfl (Nat.le_of_ble_eq_true rfl) (Nat.le_refl _) rfl (h.mono ?_)
          rintro _ σ13 ⟨r14, rfl, h⟩
          show gG (d + 1) mX8_wholeWays 71 _ [.int r14] σ13 Q
          refine g_istore (pc2 := 73) dX8_wholeWays_71 (by decide) rfl rfl ?_
          refine g_iload (pc2 := 75) dX8_wholeWays_73 rfl rfl ?_
          refine g_if_ne (tgt := 96) (pc2 := 78) dX8_wholeWays_75 (by decide) rfl (fun c => ?_) (fun c => ?_)
          · have h := h.1 c
            refine g_bipush (v := 16) (pc2 := 98) dX8_wholeWays_96 (by decide) rfl ?_
            refine g_iload (pc2 := 100) dX8_wholeWays_98 rfl rfl ?_
            refine g_isub (pc2 := 101) dX8_wholeWays_100 rfl ?_
            refine g_i2l (pc2 := 102) dX8_wholeWays_101 rfl ?_
            refine g_aload_n (pc2 := 103) dX8_wholeWays_102 rfl rfl ?_
            refine g_aload_n (pc2 := 104) dX8_wholeWays_103 rfl rfl ?_
            refine g_iload_n (pc2 := 105) dX8_wholeWays_104 rfl rfl ?_
            refine g_iconst (v := 1) (pc2 := 106) dX8_wholeWays_105 (by decide) rfl ?_
            refine g_iadd (pc2 := 107) dX8_wholeWays_106 rfl ?_
            refine g_iload_n (pc2 := 108) dX8_wholeWays_107 rfl rfl ?_
            refine g_iload (pc2 := 110) dX8_wholeWays_108 rfl rfl ?_
            refine g_iload (pc2 := 112) dX8_wholeWays_110 rfl rfl ?_
            refine g_callS (M2 := mX8_wholeWays) (as := [.ref 34, .ref 6, .int (x2 + 1), .int x3, .int x4, .int x5]) (st := [.long ((16 - x4).toInt64)]) (pc2 := 115) dX8_wholeWays_112 ml_X8_269 msX8_wholeWays rfl rfl (Nat.le_of_ble_eq_true rfl) (Nat.le_refl _) rfl (h.mono ?_)
            rintro _ σ15 ⟨r16, rfl, h⟩
            show gG (d + 1) mX8_wholeWays 115 _ [.long r16, .long ((16 - x4).toInt64)] σ15 Q
            refine g_lmul (pc2 := 116) dX8_wholeWays_115 rfl ?_
            refine g_lstore (pc2 := 118) dX8_wholeWays_116 (by decide) rfl rfl ?_
            refine g_aload (pc2 := 120) dX8_wholeWays_118 rfl rfl ?_
            refine g_iload (pc2 := 122) dX8_wholeWays_120 rfl rfl ?_
            refine g_callV (M2 := mX3_burstAll) (as := [.int r14]) (st := []) (pc2 := 125) dX8_wholeWays_122 ml_X8_425 mvX3_burstAll hq8.1 rfl rfl rfl (Nat.le_of_ble_eq_true rfl) (Nat.le_refl _) rfl (h.mono ?_)
            rintro _ σ17 ⟨rfl, h⟩
            show gG (d + 1) mX8_wholeWays 125 _ [] σ17 Q
            refine g_lload (pc2 := 127) dX8_wholeWays_125 rfl rfl ?_
            refine g_iload (pc2 := 129) dX8_wholeWays_127 rfl rfl ?_
            refine g_i2l (pc2 := 130) dX8_wholeWays_129 rfl ?_
            refine g_aload_n (pc2 := 131) dX8_wholeWays_130 rfl rfl ?_
            refine g_aload_n (pc2 := 132) dX8_wholeWays_131 rfl rfl ?_
            refine g_iload_n (pc2 := 133) dX8_wholeWays_132 rfl rfl ?_
            refine g_iconst (v := 1) (pc2 := 134) dX8_wholeWays_133 (by decide) rfl ?_
            refine g_iadd (pc2 := 135) dX8_wholeWays_134 rfl ?_
            refine g_iload_n (pc2 := 136) dX8_wholeWays_135 rfl rfl ?_
            refine g_iload (pc2 := 138) dX8_wholeWays_136 rfl rfl ?_
            refine g_iload (pc2 := 140) dX8_wholeWays_138 rfl rfl ?_
            refine g_callS (M2 := mX8_wholeWays) (as := [.ref 34, .ref 6, .int (x2 + 1), .int x3, .int x4, .int x5]) (st := [.long x4.toInt64, .long (((16 - x4).toInt64) * r16)]) (pc2 := 143) dX8_wholeWays_140 ml_X8_269 msX8_wholeWays rfl rfl (Nat.le_of_ble_eq_true rfl) (Nat.le_refl _) rfl (h.mono ?_)
            rintro _ σ18 ⟨r19, rfl, h⟩
            show gG (d + 1) mX8_wholeWays 143 _ [.long r19, .long x4.toInt64, .long (((16 - x4).toInt64) * r16)] σ18 Q
            refine g_lmul (pc2 := 144) dX8_wholeWays_143 rfl ?_
            refine g_ladd (pc2 := 145) dX8_wholeWays_144 rfl ?_
            exact g_lret dX8_wholeWays_145 rfl h
          · have h := h.2 c
            refine g_ldc2 (pc2 := 81) dX8_wholeWays_78 cl_X8_423 rfl ?_
            refine g_aload_n (pc2 := 82) dX8_wholeWays_81 rfl rfl ?_
            refine g_aload_n (pc2 := 83) dX8_wholeWays_82 rfl rfl ?_
            refine g_iload_n (pc2 := 84) dX8_wholeWays_83 rfl rfl ?_
            refine g_iconst (v := 1) (pc2 := 85) dX8_wholeWays_84 (by decide) rfl ?_
            refine g_iadd (pc2 := 86) dX8_wholeWays_85 rfl ?_
            refine g_iload_n (pc2 := 87) dX8_wholeWays_86 rfl rfl ?_
            refine g_iload (pc2 := 89) dX8_wholeWays_87 rfl rfl ?_
            refine g_iload (pc2 := 91) dX8_wholeWays_89 rfl rfl ?_
            refine g_callS (M2 := mX8_wholeWays) (as := [.ref 34, .ref 6, .int (x2 + 1), .int x3, .int x4, .int x5]) (st := [.long 16]) (pc2 := 94) dX8_wholeWays_91 ml_X8_269 msX8_wholeWays rfl rfl (Nat.le_of_ble_eq_true rfl) (Nat.le_refl _) rfl (h.mono ?_)
            rintro _ σ20 ⟨r21, rfl, h⟩
            show gG (d + 1) mX8_wholeWays 94 _ [.long r21, .long 16] σ20 Q
            refine g_lmul (pc2 := 95) dX8_wholeWays_94 rfl ?_
            exact g_lret dX8_wholeWays_95 rfl h
        · have h := h.2 c
          refine g_lconst (v := 1) (pc2 := 36) dX8_wholeWays_35 (by decide) rfl ?_
          exact g_lret dX8_wholeWays_36 rfl h
    · have h := h.2 c
      refine g_lconst (v := 0) (pc2 := 21) dX8_wholeWays_20 (by decide) rfl ?_
      exact g_lret dX8_wholeWays_21 rfl h
set_option maxRecDepth 20000 in
theorem eX8_wipe {d : Nat} {σ : gw_S} {Q : Option Value → gw_S → Prop} {x1 : Int32}   (h : gB d mX8_isWithin [.int x1, .int 2] σ (fun v σ1 => ∃ r2 : Int32, v = some (.int r2) ∧ (((¬ r2 = 0) → (gB d mX8_textOf [.ref 0, .int x1] σ1 (fun v σ3 => ∃ q4, v = some (.ref q4) ∧ gw_tx q4 ∧ (∀ s6 : gw_S, s6 = gw_u σ3 q4 2 0 → (gB d mX8_takeTexts [.ref 0] s6 (fun v σ7 => v = none ∧ (Q (some (.int (σ3 q4 2))) σ7))))))) ∧ ((r2 = 0) → (Q (some (.int (-2))) σ1))))) : gB (d + 1) mX8_wipe [.ref 0, .int x1] σ Q := by
  refine gB_of rfl (Nat.le_of_ble_eq_true rfl) (g_lw (lv2 := [some (.ref 0), some (.int x1), none, none]) ⟨rfl, ⟨rfl, trivial⟩⟩ ?_)
  refine g_iload_n (pc2 := 1) dX8_wipe_0 rfl rfl ?_
  refine g_iconst (v := 2) (pc2 := 2) dX8_wipe_1 (by decide) rfl ?_
  refine g_callS (M2 := mX8_isWithin) (as := [.int x1, .int 2]) (st := []) (pc2 := 5) dX8_wipe_2 ml_X8_81 msX8_isWithin rfl rfl (Nat.le_of_ble_eq_true rfl) (Nat.le_refl _) rfl (h.mono ?_)
  rintro _ σ1 ⟨r2, rfl, h⟩
  show gG (d + 1) mX8_wipe 5 _ [.int r2] σ1 Q
  refine g_if_ne (tgt := 11) (pc2 := 8) dX8_wipe_5 (by decide) rfl (fun c => ?_) (fun c => ?_)
  · have h := h.1 c
    refine g_aload_n (pc2 := 12) dX8_wipe_11 rfl rfl ?_
    refine g_iload_n (pc2 := 13) dX8_wipe_12 rfl rfl ?_
    refine g_callV (M2 := mX8_textOf) (as := [.int x1]) (st := []) (pc2 := 16) dX8_wipe_13 ml_X8_85 mvX8_textOf gk_0 rfl rfl rfl (Nat.le_of_ble_eq_true rfl) (Nat.le_refl _) rfl (h.mono ?_)
    rintro _ σ3 ⟨q4, rfl, hq5, h⟩
    show gG (d + 1) mX8_wipe 16 _ [.ref q4] σ3 Q
    refine g_astore_n (pc2 := 17) dX8_wipe_16 (by decide) rfl rfl ?_
    refine g_aload_n (pc2 := 18) dX8_wipe_17 rfl rfl ?_
    refine g_geti (pc2 := 21) dX8_wipe_18 fl_X8_89 hq5.1 rfl rfl ?_
    refine g_istore_n (pc2 := 22) dX8_wipe_21 (by decide) rfl rfl ?_
    refine g_aload_n (pc2 := 23) dX8_wipe_22 rfl rfl ?_
    refine g_iconst (v := 0) (pc2 := 24) dX8_wipe_23 (by decide) rfl ?_
    refine g_put2 (pc2 := 27) dX8_wipe_24 fp_X8_89 hq5.1 rfl rfl rfl rfl (fun s6 es6 => ?_)
    replace h := h s6 es6
    refine g_aload_n (pc2 := 28) dX8_wipe_27 rfl rfl ?_
    refine g_callV (M2 := mX8_takeTexts) (as := []) (st := []) (pc2 := 31) dX8_wipe_28 ml_X8_98 mvX8_takeTexts gk_0 rfl rfl rfl (Nat.le_of_ble_eq_true rfl) (Nat.le_refl _) rfl (h.mono ?_)
    rintro _ σ7 ⟨rfl, h⟩
    show gG (d + 1) mX8_wipe 31 _ [] σ7 Q
    refine g_iload_n (pc2 := 32) dX8_wipe_31 rfl rfl ?_
    exact g_iret dX8_wipe_32 rfl h
  · have h := h.2 c
    refine g_bipush (v := (-2)) (pc2 := 10) dX8_wipe_8 (by decide) rfl ?_
    exact g_iret dX8_wipe_10 rfl h
set_option maxRecDepth 20000 in
theorem eX8_works {d : Nat} {σ : gw_S} {Q : Option Value → gw_S → Prop} {x1 : Int32}   (h : gB d mX8_isWithin [.int x1, .int (σ 11 4)] σ (fun v σ1 => ∃ r2 : Int32, v = some (.int r2) ∧ (((¬ r2 = 0) → (vp_in x1 16 ∧ (gB d mX8_behind [.ref 0, .int (σ1 12 x1.toNatClampNeg)] σ1 (fun v σ3 => v = some (.ref 36) ∧ (Q (some (.int (((σ3 36 11) >>> (x1 &&& 31)) &&& 1))) σ3))))) ∧ ((r2 = 0) → (Q (some (.int (-2))) σ1))))) : gB (d + 1) mX8_works [.ref 0, .int x1] σ Q := by
  refine gB_of rfl (Nat.le_of_ble_eq_true rfl) (g_lw (lv2 := [some (.ref 0), some (.int x1)]) ⟨rfl, ⟨rfl, trivial⟩⟩ ?_)
  refine g_iload_n (pc2 := 1) dX8_works_0 rfl rfl ?_
  refine g_aload_n (pc2 := 2) dX8_works_1 rfl rfl ?_
  refine g_geta (pc2 := 5) dX8_works_2 fl_X8_24 gk_0 rfl rfl ?_
  refine g_geta (pc2 := 8) dX8_works_5 fl_X8_150 gk_6 rfl rfl ?_
  refine g_geti (pc2 := 11) dX8_works_8 fl_X8_154 gk_11 rfl rfl ?_
  refine g_callS (M2 := mX8_isWithin) (as := [.int x1, .int (σ 11 4)]) (st := []) (pc2 := 14) dX8_works_11 ml_X8_81 msX8_isWithin rfl rfl (Nat.le_of_ble_eq_true rfl) (Nat.le_refl _) rfl (h.mono ?_)
  rintro _ σ1 ⟨r2, rfl, h⟩
  show gG (d + 1) mX8_works 14 _ [.int r2] σ1 Q
  refine g_if_ne (tgt := 20) (pc2 := 17) dX8_works_14 (by decide) rfl (fun c => ?_) (fun c => ?_)
  · have h := h.1 c
    refine g_aload_n (pc2 := 21) dX8_works_20 rfl rfl ?_
    refine g_aload_n (pc2 := 22) dX8_works_21 rfl rfl ?_
    refine g_geta (pc2 := 25) dX8_works_22 fl_X8_24 gk_0 rfl rfl ?_
    refine g_geta (pc2 := 28) dX8_works_25 fl_X8_150 gk_6 rfl rfl ?_
    refine g_geta (pc2 := 31) dX8_works_28 fl_X8_157 gk_11 rfl rfl ?_
    refine g_iload_n (pc2 := 32) dX8_works_31 rfl rfl ?_
    obtain ⟨hx, h⟩ := h
    refine g_iald (pc2 := 33) dX8_works_32 gk_12 hx rfl ?_
    refine g_callV (M2 := mX8_behind) (as := [.int (σ1 12 x1.toNatClampNeg)]) (st := []) (pc2 := 36) dX8_works_33 ml_X8_186 mvX8_behind gk_0 rfl rfl rfl (Nat.le_of_ble_eq_true rfl) (Nat.le_refl _) rfl (h.mono ?_)
    rintro _ σ3 ⟨rfl, h⟩
    show gG (d + 1) mX8_works 36 _ [.ref 36] σ3 Q
    refine g_geti (pc2 := 39) dX8_works_36 fl_X8_218 gk_36 rfl rfl ?_
    refine g_iload_n (pc2 := 40) dX8_works_39 rfl rfl ?_
    refine g_ishr (pc2 := 41) dX8_works_40 rfl ?_
    refine g_iconst (v := 1) (pc2 := 42) dX8_works_41 (by decide) rfl ?_
    refine g_iand (pc2 := 43) dX8_works_42 rfl ?_
    exact g_iret dX8_works_43 rfl h
  · have h := h.2 c
    refine g_bipush (v := (-2)) (pc2 := 19) dX8_works_17 (by decide) rfl ?_
    exact g_iret dX8_works_19 rfl h
set_option maxRecDepth 20000 in
theorem eX8_write {d : Nat} {σ : gw_S} {Q : Option Value → gw_S → Prop} {x1 : Int32} {x2 : Int32}   (h : gB d mX8_isBottle [.ref 0, .int x1] σ (fun v σ1 => ∃ r2 : Int32, v = some (.int r2) ∧ (((r2 = 0) → (Q (some (.int (-2))) σ1)) ∧ ((¬ r2 = 0) → (gB d mX8_isWithin [.int x2, .int 4] σ1 (fun v σ3 => ∃ r4 : Int32, v = some (.int r4) ∧ (((¬ r4 = 0) → (vp_in x2 4 ∧ (((¬ (σ3 32 x2.toNatClampNeg) = (-1)) → (vp_in x2 4 ∧ (gG (d + 1) mX8_write 56 [some (.ref 0), some (.int x1), some (.int x2), some (.int (gw_min (σ3 33 x2.toNatClampNeg) 40)), some (.int 0)] [] σ3 Q))) ∧ (((σ3 32 x2.toNatClampNeg) = (-1)) → (gB d mX8_find [.ref 0, .int 1] σ3 (fun v σ5 => ∃ r6 : Int32, v = some (.int r6) ∧ (Q (some (.int r6)) σ5))))))) ∧ ((r4 = 0) → (Q (some (.int (-2))) σ3))))))))) : gB (d + 1) mX8_write [.ref 0, .int x1, .int x2] σ Q := by
  refine gB_of rfl (Nat.le_of_ble_eq_true rfl) (g_lw (lv2 := [some (.ref 0), some (.int x1), some (.int x2), none, none]) ⟨rfl, ⟨rfl, ⟨rfl, trivial⟩⟩⟩ ?_)
  refine g_aload_n (pc2 := 1) dX8_write_0 rfl rfl ?_
  refine g_iload_n (pc2 := 2) dX8_write_1 rfl rfl ?_
  refine g_callV (M2 := mX8_isBottle) (as := [.int x1]) (st := []) (pc2 := 5) dX8_write_2 ml_X8_108 mvX8_isBottle gk_0 rfl rfl rfl (Nat.le_of_ble_eq_true rfl) (Nat.le_refl _) rfl (h.mono ?_)
  rintro _ σ1 ⟨r2, rfl, h⟩
  show gG (d + 1) mX8_write 5 _ [.int r2] σ1 Q
  refine g_if_eq (tgt := 16) (pc2 := 8) dX8_write_5 (by decide) rfl (fun c => ?_) (fun c => ?_)
  · have h := h.1 c
    refine g_bipush (v := (-2)) (pc2 := 18) dX8_write_16 (by decide) rfl ?_
    exact g_iret dX8_write_18 rfl h
  · have h := h.2 c
    refine g_iload_n (pc2 := 9) dX8_write_8 rfl rfl ?_
    refine g_iconst (v := 4) (pc2 := 10) dX8_write_9 (by decide) rfl ?_
    refine g_callS (M2 := mX8_isWithin) (as := [.int x2, .int 4]) (st := []) (pc2 := 13) dX8_write_10 ml_X8_81 msX8_isWithin rfl rfl (Nat.le_of_ble_eq_true rfl) (Nat.le_refl _) rfl (h.mono ?_)
    rintro _ σ3 ⟨r4, rfl, h⟩
    show gG (d + 1) mX8_write 13 _ [.int r4] σ3 Q
    refine g_if_ne (tgt := 19) (pc2 := 16) dX8_write_13 (by decide) rfl (fun c => ?_) (fun c => ?_)
    · have h := h.1 c
      refine g_aload_n (pc2 := 20) dX8_write_19 rfl rfl ?_
      refine g_geta (pc2 := 23) dX8_write_20 fl_X8_45 gk_0 rfl rfl ?_
      refine g_geta (pc2 := 26) dX8_write_23 fl_X8_169 gk_26 rfl rfl ?_
      refine g_iload_n (pc2 := 27) dX8_write_26 rfl rfl ?_
      obtain ⟨hx, h⟩ := h
      refine g_iald (pc2 := 28) dX8_write_27 gk_32 hx rfl ?_
      refine g_iconst (v := (-1)) (pc2 := 29) dX8_write_28 (by decide) rfl ?_
      refine g_icmp_ne (tgt := 38) (pc2 := 32) dX8_write_29 (by decide) rfl (fun c => ?_) (fun c => ?_)
      · have h := h.1 c
        refine g_aload_n (pc2 := 39) dX8_write_38 rfl rfl ?_
        refine g_geta (pc2 := 42) dX8_write_39 fl_X8_45 gk_0 rfl rfl ?_
        refine g_geta (pc2 := 45) dX8_write_42 fl_X8_180 gk_26 rfl rfl ?_
        refine g_iload_n (pc2 := 46) dX8_write_45 rfl rfl ?_
        obtain ⟨hx, h⟩ := h
        refine g_iald (pc2 := 47) dX8_write_46 gk_33 hx rfl ?_
        refine g_bipush (v := 40) (pc2 := 49) dX8_write_47 (by decide) rfl ?_
        refine g_mmin (pc2 := 52) dX8_write_49 ml_X8_277 (Nat.le_add_left 1 _) (Nat.le_of_ble_eq_true rfl) rfl ?_
        refine g_istore_n (pc2 := 53) dX8_write_52 (by decide) rfl rfl ?_
        refine g_iconst (v := 0) (pc2 := 54) dX8_write_53 (by decide) rfl ?_
        refine g_istore (pc2 := 56) dX8_write_54 (by decide) rfl rfl ?_
        exact g_lw (lv2 := [some (.ref 0), some (.int x1), some (.int x2), some (.int (gw_min (σ3 33 x2.toNatClampNeg) 40)), some (.int 0)]) ⟨rfl, ⟨rfl, ⟨rfl, ⟨rfl, ⟨rfl, trivial⟩⟩⟩⟩⟩ h
      · have h := h.2 c
        refine g_aload_n (pc2 := 33) dX8_write_32 rfl rfl ?_
        refine g_iconst (v := 1) (pc2 := 34) dX8_write_33 (by decide) rfl ?_
        refine g_callV (M2 := mX8_find) (as := [.int 1]) (st := []) (pc2 := 37) dX8_write_34 ml_X8_172 mvX8_find gk_0 rfl rfl rfl (Nat.le_of_ble_eq_true rfl) (Nat.le_refl _) rfl (h.mono ?_)
        rintro _ σ5 ⟨r6, rfl, h⟩
        show gG (d + 1) mX8_write 37 _ [.int r6] σ5 Q
        exact g_iret dX8_write_37 rfl h
    · have h := h.2 c
      refine g_bipush (v := (-2)) (pc2 := 18) dX8_write_16 (by decide) rfl ?_
      exact g_iret dX8_write_18 rfl h
set_option maxRecDepth 20000 in
theorem bX8_write_56 {d : Nat} {σ : gw_S} {Q : Option Value → gw_S → Prop} {x1 : Int32} {x2 : Int32} {x3 : Int32} {x4 : Int32}   (h : ((x3 ≤ x4) → (Q (some (.int x3)) σ)) ∧ ((¬ x3 ≤ x4) → (gB d mX8_behind [.ref 0, .int x4] σ (fun v σ7 => v = some (.ref 36) ∧ (gB d mX3_allIn [.ref 36, .int x1] σ7 (fun v σ8 => ∃ r9 : Int32, v = some (.int r9) ∧ (gB d mX1_setItem [.ref 26, .int x2, .int x4, .int r9] σ8 (fun v σ10 => v = none ∧ (gG (d + 1) mX8_write 56 [some (.ref 0), some (.int x1), some (.int x2), some (.int x3), some (.int (x4 + 1))] [] σ10 Q))))))))) : gG (d + 1) mX8_write 56 [some (.ref 0), some (.int x1), some (.int x2), some (.int x3), some (.int x4)] [] σ Q := by
  refine g_iload (pc2 := 58) dX8_write_56 rfl rfl ?_
  refine g_iload_n (pc2 := 59) dX8_write_58 rfl rfl ?_
  refine g_icmp_ge (tgt := 88) (pc2 := 62) dX8_write_59 (by decide) rfl (fun c => ?_) (fun c => ?_)
  · have h := h.1 c
    refine g_iload_n (pc2 := 89) dX8_write_88 rfl rfl ?_
    exact g_iret dX8_write_89 rfl h
  · have h := h.2 c
    refine g_aload_n (pc2 := 63) dX8_write_62 rfl rfl ?_
    refine g_geta (pc2 := 66) dX8_write_63 fl_X8_45 gk_0 rfl rfl ?_
    refine g_iload_n (pc2 := 67) dX8_write_66 rfl rfl ?_
    refine g_iload (pc2 := 69) dX8_write_67 rfl rfl ?_
    refine g_aload_n (pc2 := 70) dX8_write_69 rfl rfl ?_
    refine g_iload (pc2 := 72) dX8_write_70 rfl rfl ?_
    refine g_callV (M2 := mX8_behind) (as := [.int x4]) (st := [.int x4, .int x2, .ref 26]) (pc2 := 75) dX8_write_72 ml_X8_186 mvX8_behind gk_0 rfl rfl rfl (Nat.le_of_ble_eq_true rfl) (Nat.le_refl _) rfl (h.mono ?_)
    rintro _ σ7 ⟨rfl, h⟩
    show gG (d + 1) mX8_write 75 _ [.ref 36, .int x4, .int x2, .ref 26] σ7 Q
    refine g_iload_n (pc2 := 76) dX8_write_75 rfl rfl ?_
    refine g_callV (M2 := mX3_allIn) (as := [.int x1]) (st := [.int x4, .int x2, .ref 26]) (pc2 := 79) dX8_write_76 ml_X8_190 mvX3_allIn gk_36 rfl rfl rfl (Nat.le_of_ble_eq_true rfl) (Nat.le_refl _) rfl (h.mono ?_)
    rintro _ σ8 ⟨r9, rfl, h⟩
    show gG (d + 1) mX8_write 79 _ [.int r9, .int x4, .int x2, .ref 26] σ8 Q
    refine g_callV (M2 := mX1_setItem) (as := [.int x2, .int x4, .int r9]) (st := []) (pc2 := 82) dX8_write_79 ml_X8_302 mvX1_setItem gk_26 rfl rfl rfl (Nat.le_of_ble_eq_true rfl) (Nat.le_refl _) rfl (h.mono ?_)
    rintro _ σ10 ⟨rfl, h⟩
    show gG (d + 1) mX8_write 82 _ [] σ10 Q
    refine g_iinc2 (c := 1) (pc2 := 85) dX8_write_82 rfl (by decide) (by decide) rfl rfl ?_
    refine g_goto (tgt := 56) dX8_write_85 (by decide) ?_
    exact g_lw (lv2 := [some (.ref 0), some (.int x1), some (.int x2), some (.int x3), some (.int (x4 + 1))]) ⟨rfl, ⟨rfl, ⟨rfl, ⟨rfl, ⟨rfl, trivial⟩⟩⟩⟩⟩ h
