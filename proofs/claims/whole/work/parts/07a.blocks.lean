set_option maxRecDepth 20000 in
theorem eJ13_numberOfTrailingZeros_95d88 {d : Nat} {σ : gw_S} {Q : Option Value → gw_S → Prop} {x0 : Int64}   (h : ((¬ x0.toInt32 = 0) → (gB d mJ6_numberOfTrailingZeros_0f7a4 [.int x0.toInt32] σ (fun v σ1 => ∃ r2 : Int32, v = some (.int r2) ∧ (Q (some (.int r2)) σ1)))) ∧ ((x0.toInt32 = 0) → (gB d mJ6_numberOfTrailingZeros_0f7a4 [.int ((gw_lushr x0 32).toInt32)] σ (fun v σ3 => ∃ r4 : Int32, v = some (.int r4) ∧ (Q (some (.int (32 + r4))) σ3))))) : gB (d + 1) mJ13_numberOfTrailingZeros_95d88 [.long x0] σ Q := by
  refine gB_of rfl (Nat.le_of_ble_eq_true rfl) (g_lw (lv2 := [some (.long x0), none, none]) ⟨rfl, trivial⟩ ?_)
  refine g_lload_n (pc2 := 1) dJ13_numberOfTrailingZeros_95d88_0 rfl rfl ?_
  refine g_l2i (pc2 := 2) dJ13_numberOfTrailingZeros_95d88_1 rfl ?_
  refine g_istore_n (pc2 := 3) dJ13_numberOfTrailingZeros_95d88_2 (by decide) rfl rfl ?_
  refine g_iload_n (pc2 := 4) dJ13_numberOfTrailingZeros_95d88_3 rfl rfl ?_
  refine g_if_ne (tgt := 21) (pc2 := 7) dJ13_numberOfTrailingZeros_95d88_4 (by decide) rfl (fun c => ?_) (fun c => ?_)
  · have h := h.1 c
    refine g_iload_n (pc2 := 22) dJ13_numberOfTrailingZeros_95d88_21 rfl rfl ?_
    refine g_callS (M2 := mJ6_numberOfTrailingZeros_0f7a4) (as := [.int x0.toInt32]) (st := []) (pc2 := 25) dJ13_numberOfTrailingZeros_95d88_22 ml_J13_311 msJ6_numberOfTrailingZeros_0f7a4 rfl rfl (Nat.le_of_ble_eq_true rfl) (Nat.le_refl _) rfl (h.mono ?_)
    rintro _ σ1 ⟨r2, rfl, h⟩
    show gG (d + 1) mJ13_numberOfTrailingZeros_95d88 25 _ [.int r2] σ1 Q
    exact g_iret dJ13_numberOfTrailingZeros_95d88_25 rfl h
  · have h := h.2 c
    refine g_bipush (v := 32) (pc2 := 9) dJ13_numberOfTrailingZeros_95d88_7 (by decide) rfl ?_
    refine g_lload_n (pc2 := 10) dJ13_numberOfTrailingZeros_95d88_9 rfl rfl ?_
    refine g_bipush (v := 32) (pc2 := 12) dJ13_numberOfTrailingZeros_95d88_10 (by decide) rfl ?_
    refine g_lushr (pc2 := 13) dJ13_numberOfTrailingZeros_95d88_12 rfl ?_
    refine g_l2i (pc2 := 14) dJ13_numberOfTrailingZeros_95d88_13 rfl ?_
    refine g_callS (M2 := mJ6_numberOfTrailingZeros_0f7a4) (as := [.int ((gw_lushr x0 32).toInt32)]) (st := [.int 32]) (pc2 := 17) dJ13_numberOfTrailingZeros_95d88_14 ml_J13_311 msJ6_numberOfTrailingZeros_0f7a4 rfl rfl (Nat.le_of_ble_eq_true rfl) (Nat.le_refl _) rfl (h.mono ?_)
    rintro _ σ3 ⟨r4, rfl, h⟩
    show gG (d + 1) mJ13_numberOfTrailingZeros_95d88 17 _ [.int r4, .int 32] σ3 Q
    refine g_iadd (pc2 := 18) dJ13_numberOfTrailingZeros_95d88_17 rfl ?_
    refine g_goto (tgt := 25) dJ13_numberOfTrailingZeros_95d88_18 (by decide) ?_
    exact g_iret dJ13_numberOfTrailingZeros_95d88_25 rfl h
set_option maxRecDepth 20000 in
theorem eJ6_bitCount_0f7a4 {d : Nat} {σ : gw_S} {Q : Option Value → gw_S → Prop} {x0 : Int32}   (h : Q (some (.int ((((((((x0 - ((gw_ushr x0 1) &&& 1431655765)) &&& 858993459) + ((gw_ushr (x0 - ((gw_ushr x0 1) &&& 1431655765)) 2) &&& 858993459)) + (gw_ushr (((x0 - ((gw_ushr x0 1) &&& 1431655765)) &&& 858993459) + ((gw_ushr (x0 - ((gw_ushr x0 1) &&& 1431655765)) 2) &&& 858993459)) 4)) &&& 252645135) + (gw_ushr (((((x0 - ((gw_ushr x0 1) &&& 1431655765)) &&& 858993459) + ((gw_ushr (x0 - ((gw_ushr x0 1) &&& 1431655765)) 2) &&& 858993459)) + (gw_ushr (((x0 - ((gw_ushr x0 1) &&& 1431655765)) &&& 858993459) + ((gw_ushr (x0 - ((gw_ushr x0 1) &&& 1431655765)) 2) &&& 858993459)) 4)) &&& 252645135) 8)) + (gw_ushr ((((((x0 - ((gw_ushr x0 1) &&& 1431655765)) &&& 858993459) + ((gw_ushr (x0 - ((gw_ushr x0 1) &&& 1431655765)) 2) &&& 858993459)) + (gw_ushr (((x0 - ((gw_ushr x0 1) &&& 1431655765)) &&& 858993459) + ((gw_ushr (x0 - ((gw_ushr x0 1) &&& 1431655765)) 2) &&& 858993459)) 4)) &&& 252645135) + (gw_ushr (((((x0 - ((gw_ushr x0 1) &&& 1431655765)) &&& 858993459) + ((gw_ushr (x0 - ((gw_ushr x0 1) &&& 1431655765)) 2) &&& 858993459)) + (gw_ushr (((x0 - ((gw_ushr x0 1) &&& 1431655765)) &&& 858993459) + ((gw_ushr (x0 - ((gw_ushr x0 1) &&& 1431655765)) 2) &&& 858993459)) 4)) &&& 252645135) 8)) 16)) &&& 63))) σ) : gB d mJ6_bitCount_0f7a4 [.int x0] σ Q := by
  refine gB_of rfl (Nat.le_of_ble_eq_true rfl) (g_lw (lv2 := [some (.int x0)]) ⟨rfl, trivial⟩ ?_)
  refine g_iload_n (pc2 := 1) dJ6_bitCount_0f7a4_0 rfl rfl ?_
  refine g_iload_n (pc2 := 2) dJ6_bitCount_0f7a4_1 rfl rfl ?_
  refine g_iconst (v := 1) (pc2 := 3) dJ6_bitCount_0f7a4_2 (by decide) rfl ?_
  refine g_iushr (pc2 := 4) dJ6_bitCount_0f7a4_3 rfl ?_
  refine g_ldcw (pc2 := 7) dJ6_bitCount_0f7a4_4 co_J6_265 rfl ?_
  refine g_iand (pc2 := 8) dJ6_bitCount_0f7a4_7 rfl ?_
  refine g_isub (pc2 := 9) dJ6_bitCount_0f7a4_8 rfl ?_
  refine g_istore_n (pc2 := 10) dJ6_bitCount_0f7a4_9 (by decide) rfl rfl ?_
  refine g_iload_n (pc2 := 11) dJ6_bitCount_0f7a4_10 rfl rfl ?_
  refine g_ldcw (pc2 := 14) dJ6_bitCount_0f7a4_11 co_J6_266 rfl ?_
  refine g_iand (pc2 := 15) dJ6_bitCount_0f7a4_14 rfl ?_
  refine g_iload_n (pc2 := 16) dJ6_bitCount_0f7a4_15 rfl rfl ?_
  refine g_iconst (v := 2) (pc2 := 17) dJ6_bitCount_0f7a4_16 (by decide) rfl ?_
  refine g_iushr (pc2 := 18) dJ6_bitCount_0f7a4_17 rfl ?_
  refine g_ldcw (pc2 := 21) dJ6_bitCount_0f7a4_18 co_J6_266 rfl ?_
  refine g_iand (pc2 := 22) dJ6_bitCount_0f7a4_21 rfl ?_
  refine g_iadd (pc2 := 23) dJ6_bitCount_0f7a4_22 rfl ?_
  refine g_istore_n (pc2 := 24) dJ6_bitCount_0f7a4_23 (by decide) rfl rfl ?_
  refine g_iload_n (pc2 := 25) dJ6_bitCount_0f7a4_24 rfl rfl ?_
  refine g_iload_n (pc2 := 26) dJ6_bitCount_0f7a4_25 rfl rfl ?_
  refine g_iconst (v := 4) (pc2 := 27) dJ6_bitCount_0f7a4_26 (by decide) rfl ?_
  refine g_iushr (pc2 := 28) dJ6_bitCount_0f7a4_27 rfl ?_
  refine g_iadd (pc2 := 29) dJ6_bitCount_0f7a4_28 rfl ?_
  refine g_ldcw (pc2 := 32) dJ6_bitCount_0f7a4_29 co_J6_267 rfl ?_
  refine g_iand (pc2 := 33) dJ6_bitCount_0f7a4_32 rfl ?_
  refine g_istore_n (pc2 := 34) dJ6_bitCount_0f7a4_33 (by decide) rfl rfl ?_
  refine g_iload_n (pc2 := 35) dJ6_bitCount_0f7a4_34 rfl rfl ?_
  refine g_iload_n (pc2 := 36) dJ6_bitCount_0f7a4_35 rfl rfl ?_
  refine g_bipush (v := 8) (pc2 := 38) dJ6_bitCount_0f7a4_36 (by decide) rfl ?_
  refine g_iushr (pc2 := 39) dJ6_bitCount_0f7a4_38 rfl ?_
  refine g_iadd (pc2 := 40) dJ6_bitCount_0f7a4_39 rfl ?_
  refine g_istore_n (pc2 := 41) dJ6_bitCount_0f7a4_40 (by decide) rfl rfl ?_
  refine g_iload_n (pc2 := 42) dJ6_bitCount_0f7a4_41 rfl rfl ?_
  refine g_iload_n (pc2 := 43) dJ6_bitCount_0f7a4_42 rfl rfl ?_
  refine g_bipush (v := 16) (pc2 := 45) dJ6_bitCount_0f7a4_43 (by decide) rfl ?_
  refine g_iushr (pc2 := 46) dJ6_bitCount_0f7a4_45 rfl ?_
  refine g_iadd (pc2 := 47) dJ6_bitCount_0f7a4_46 rfl ?_
  refine g_istore_n (pc2 := 48) dJ6_bitCount_0f7a4_47 (by decide) rfl rfl ?_
  refine g_iload_n (pc2 := 49) dJ6_bitCount_0f7a4_48 rfl rfl ?_
  refine g_bipush (v := 63) (pc2 := 51) dJ6_bitCount_0f7a4_49 (by decide) rfl ?_
  refine g_iand (pc2 := 52) dJ6_bitCount_0f7a4_51 rfl ?_
  exact g_iret dJ6_bitCount_0f7a4_52 rfl h
set_option maxRecDepth 20000 in
theorem eJ6_numberOfTrailingZeros_0f7a4 {d : Nat} {σ : gw_S} {Q : Option Value → gw_S → Prop} {x0 : Int32}   (h : ((0 < ((x0 ^^^ (-1)) &&& (x0 - 1))) → (((((x0 ^^^ (-1)) &&& (x0 - 1)) ≤ 65536) → (((((x0 ^^^ (-1)) &&& (x0 - 1)) ≤ 256) → (gG d mJ6_numberOfTrailingZeros_0f7a4 49 [some (.int ((x0 ^^^ (-1)) &&& (x0 - 1))), some (.int 1)] [] σ Q)) ∧ ((¬ ((x0 ^^^ (-1)) &&& (x0 - 1)) ≤ 256) → (gG d mJ6_numberOfTrailingZeros_0f7a4 49 [some (.int (gw_ushr ((x0 ^^^ (-1)) &&& (x0 - 1)) 8)), some (.int (1 + 8))] [] σ Q)))) ∧ ((¬ ((x0 ^^^ (-1)) &&& (x0 - 1)) ≤ 65536) → ((((gw_ushr ((x0 ^^^ (-1)) &&& (x0 - 1)) 16) ≤ 256) → (gG d mJ6_numberOfTrailingZeros_0f7a4 49 [some (.int (gw_ushr ((x0 ^^^ (-1)) &&& (x0 - 1)) 16)), some (.int (1 + 16))] [] σ Q)) ∧ ((¬ (gw_ushr ((x0 ^^^ (-1)) &&& (x0 - 1)) 16) ≤ 256) → (gG d mJ6_numberOfTrailingZeros_0f7a4 49 [some (.int (gw_ushr (gw_ushr ((x0 ^^^ (-1)) &&& (x0 - 1)) 16) 8)), some (.int ((1 + 16) + 8))] [] σ Q)))))) ∧ ((¬ 0 < ((x0 ^^^ (-1)) &&& (x0 - 1))) → (Q (some (.int (((x0 ^^^ (-1)) &&& (x0 - 1)) &&& 32))) σ))) : gB d mJ6_numberOfTrailingZeros_0f7a4 [.int x0] σ Q := by
  refine gB_of rfl (Nat.le_of_ble_eq_true rfl) (g_lw (lv2 := [some (.int x0), none]) ⟨rfl, trivial⟩ ?_)
  refine g_iload_n (pc2 := 1) dJ6_numberOfTrailingZeros_0f7a4_0 rfl rfl ?_
  refine g_iconst (v := (-1)) (pc2 := 2) dJ6_numberOfTrailingZeros_0f7a4_1 (by decide) rfl ?_
  refine g_ixor (pc2 := 3) dJ6_numberOfTrailingZeros_0f7a4_2 rfl ?_
  refine g_iload_n (pc2 := 4) dJ6_numberOfTrailingZeros_0f7a4_3 rfl rfl ?_
  refine g_iconst (v := 1) (pc2 := 5) dJ6_numberOfTrailingZeros_0f7a4_4 (by decide) rfl ?_
  refine g_isub (pc2 := 6) dJ6_numberOfTrailingZeros_0f7a4_5 rfl ?_
  refine g_iand (pc2 := 7) dJ6_numberOfTrailingZeros_0f7a4_6 rfl ?_
  refine g_istore_n (pc2 := 8) dJ6_numberOfTrailingZeros_0f7a4_7 (by decide) rfl rfl ?_
  refine g_iload_n (pc2 := 9) dJ6_numberOfTrailingZeros_0f7a4_8 rfl rfl ?_
  refine g_if_gt (tgt := 17) (pc2 := 12) dJ6_numberOfTrailingZeros_0f7a4_9 (by decide) rfl (fun c => ?_) (fun c => ?_)
  · have h := h.1 c
    refine g_iconst (v := 1) (pc2 := 18) dJ6_numberOfTrailingZeros_0f7a4_17 (by decide) rfl ?_
    refine g_istore_n (pc2 := 19) dJ6_numberOfTrailingZeros_0f7a4_18 (by decide) rfl rfl ?_
    refine g_iload_n (pc2 := 20) dJ6_numberOfTrailingZeros_0f7a4_19 rfl rfl ?_
    refine g_ldcw (pc2 := 23) dJ6_numberOfTrailingZeros_0f7a4_20 co_J6_264 rfl ?_
    refine g_icmp_le (tgt := 34) (pc2 := 26) dJ6_numberOfTrailingZeros_0f7a4_23 (by decide) rfl (fun c => ?_) (fun c => ?_)
    · have h := h.1 c
      refine g_iload_n (pc2 := 35) dJ6_numberOfTrailingZeros_0f7a4_34 rfl rfl ?_
      refine g_sipush (v := 256) (pc2 := 38) dJ6_numberOfTrailingZeros_0f7a4_35 (by decide) rfl ?_
      refine g_icmp_le (tgt := 49) (pc2 := 41) dJ6_numberOfTrailingZeros_0f7a4_38 (by decide) rfl (fun c => ?_) (fun c => ?_)
      · have h := h.1 c
        exact g_lw (lv2 := [some (.int ((x0 ^^^ (-1)) &&& (x0 - 1))), some (.int 1)]) ⟨rfl, ⟨rfl, trivial⟩⟩ h
      · have h := h.2 c
        refine g_iinc2 (c := 8) (pc2 := 44) dJ6_numberOfTrailingZeros_0f7a4_41 rfl (by decide) (by decide) rfl rfl ?_
        refine g_iload_n (pc2 := 45) dJ6_numberOfTrailingZeros_0f7a4_44 rfl rfl ?_
        refine g_bipush (v := 8) (pc2 := 47) dJ6_numberOfTrailingZeros_0f7a4_45 (by decide) rfl ?_
        refine g_iushr (pc2 := 48) dJ6_numberOfTrailingZeros_0f7a4_47 rfl ?_
        refine g_istore_n (pc2 := 49) dJ6_numberOfTrailingZeros_0f7a4_48 (by decide) rfl rfl ?_
        exact g_lw (lv2 := [some (.int (gw_ushr ((x0 ^^^ (-1)) &&& (x0 - 1)) 8)), some (.int (1 + 8))]) ⟨rfl, ⟨rfl, trivial⟩⟩ h
    · have h := h.2 c
      refine g_iinc2 (c := 16) (pc2 := 29) dJ6_numberOfTrailingZeros_0f7a4_26 rfl (by decide) (by decide) rfl rfl ?_
      refine g_iload_n (pc2 := 30) dJ6_numberOfTrailingZeros_0f7a4_29 rfl rfl ?_
      refine g_bipush (v := 16) (pc2 := 32) dJ6_numberOfTrailingZeros_0f7a4_30 (by decide) rfl ?_
      refine g_iushr (pc2 := 33) dJ6_numberOfTrailingZeros_0f7a4_32 rfl ?_
      refine g_istore_n (pc2 := 34) dJ6_numberOfTrailingZeros_0f7a4_33 (by decide) rfl rfl ?_
      refine g_iload_n (pc2 := 35) dJ6_numberOfTrailingZeros_0f7a4_34 rfl rfl ?_
      refine g_sipush (v := 256) (pc2 := 38) dJ6_numberOfTrailingZeros_0f7a4_35 (by decide) rfl ?_
      refine g_icmp_le (tgt := 49) (pc2 := 41) dJ6_numberOfTrailingZeros_0f7a4_38 (by decide) rfl (fun c => ?_) (fun c => ?_)
      · have h := h.1 c
        exact g_lw (lv2 := [some (.int (gw_ushr ((x0 ^^^ (-1)) &&& (x0 - 1)) 16)), some (.int (1 + 16))]) ⟨rfl, ⟨rfl, trivial⟩⟩ h
      · have h := h.2 c
        refine g_iinc2 (c := 8) (pc2 := 44) dJ6_numberOfTrailingZeros_0f7a4_41 rfl (by decide) (by decide) rfl rfl ?_
        refine g_iload_n (pc2 := 45) dJ6_numberOfTrailingZeros_0f7a4_44 rfl rfl ?_
        refine g_bipush (v := 8) (pc2 := 47) dJ6_numberOfTrailingZeros_0f7a4_45 (by decide) rfl ?_
        refine g_iushr (pc2 := 48) dJ6_numberOfTrailingZeros_0f7a4_47 rfl ?_
        refine g_istore_n (pc2 := 49) dJ6_numberOfTrailingZeros_0f7a4_48 (by decide) rfl rfl ?_
        exact g_lw (lv2 := [some (.int (gw_ushr (gw_ushr ((x0 ^^^ (-1)) &&& (x0 - 1)) 16) 8)), some (.int ((1 + 16) + 8))]) ⟨rfl, ⟨rfl, trivial⟩⟩ h
  · have h := h.2 c
    refine g_iload_n (pc2 := 13) dJ6_numberOfTrailingZeros_0f7a4_12 rfl rfl ?_
    refine g_bipush (v := 32) (pc2 := 15) dJ6_numberOfTrailingZeros_0f7a4_13 (by decide) rfl ?_
    refine g_iand (pc2 := 16) dJ6_numberOfTrailingZeros_0f7a4_15 rfl ?_
    exact g_iret dJ6_numberOfTrailingZeros_0f7a4_16 rfl h
set_option maxRecDepth 20000 in
theorem bJ6_numberOfTrailingZeros_0f7a4_49 {d : Nat} {σ : gw_S} {Q : Option Value → gw_S → Prop} {x0 : Int32} {x1 : Int32}   (h : ((x0 ≤ 16) → (((x0 ≤ 4) → (Q (some (.int (x1 + (gw_ushr x0 1)))) σ)) ∧ ((¬ x0 ≤ 4) → (Q (some (.int ((x1 + 2) + (gw_ushr (gw_ushr x0 2) 1)))) σ)))) ∧ ((¬ x0 ≤ 16) → ((((gw_ushr x0 4) ≤ 4) → (Q (some (.int ((x1 + 4) + (gw_ushr (gw_ushr x0 4) 1)))) σ)) ∧ ((¬ (gw_ushr x0 4) ≤ 4) → (Q (some (.int (((x1 + 4) + 2) + (gw_ushr (gw_ushr (gw_ushr x0 4) 2) 1)))) σ))))) : gG d mJ6_numberOfTrailingZeros_0f7a4 49 [some (.int x0), some (.int x1)] [] σ Q := by
  refine g_iload_n (pc2 := 50) dJ6_numberOfTrailingZeros_0f7a4_49 rfl rfl ?_
  refine g_bipush (v := 16) (pc2 := 52) dJ6_numberOfTrailingZeros_0f7a4_50 (by decide) rfl ?_
  refine g_icmp_le (tgt := 62) (pc2 := 55) dJ6_numberOfTrailingZeros_0f7a4_52 (by decide) rfl (fun c => ?_) (fun c => ?_)
  · have h := h.1 c
    refine g_iload_n (pc2 := 63) dJ6_numberOfTrailingZeros_0f7a4_62 rfl rfl ?_
    refine g_iconst (v := 4) (pc2 := 64) dJ6_numberOfTrailingZeros_0f7a4_63 (by decide) rfl ?_
    refine g_icmp_le (tgt := 74) (pc2 := 67) dJ6_numberOfTrailingZeros_0f7a4_64 (by decide) rfl (fun c => ?_) (fun c => ?_)
    · have h := h.1 c
      refine g_iload_n (pc2 := 75) dJ6_numberOfTrailingZeros_0f7a4_74 rfl rfl ?_
      refine g_iload_n (pc2 := 76) dJ6_numberOfTrailingZeros_0f7a4_75 rfl rfl ?_
      refine g_iconst (v := 1) (pc2 := 77) dJ6_numberOfTrailingZeros_0f7a4_76 (by decide) rfl ?_
      refine g_iushr (pc2 := 78) dJ6_numberOfTrailingZeros_0f7a4_77 rfl ?_
      refine g_iadd (pc2 := 79) dJ6_numberOfTrailingZeros_0f7a4_78 rfl ?_
      exact g_iret dJ6_numberOfTrailingZeros_0f7a4_79 rfl h
    · have h := h.2 c
      refine g_iinc2 (c := 2) (pc2 := 70) dJ6_numberOfTrailingZeros_0f7a4_67 rfl (by decide) (by decide) rfl rfl ?_
      refine g_iload_n (pc2 := 71) dJ6_numberOfTrailingZeros_0f7a4_70 rfl rfl ?_
      refine g_iconst (v := 2) (pc2 := 72) dJ6_numberOfTrailingZeros_0f7a4_71 (by decide) rfl ?_
      refine g_iushr (pc2 := 73) dJ6_numberOfTrailingZeros_0f7a4_72 rfl ?_
      refine g_istore_n (pc2 := 74) dJ6_numberOfTrailingZeros_0f7a4_73 (by decide) rfl rfl ?_
      refine g_iload_n (pc2 := 75) dJ6_numberOfTrailingZeros_0f7a4_74 rfl rfl ?_
      refine g_iload_n (pc2 := 76) dJ6_numberOfTrailingZeros_0f7a4_75 rfl rfl ?_
      refine g_iconst (v := 1) (pc2 := 77) dJ6_numberOfTrailingZeros_0f7a4_76 (by decide) rfl ?_
      refine g_iushr (pc2 := 78) dJ6_numberOfTrailingZeros_0f7a4_77 rfl ?_
      refine g_iadd (pc2 := 79) dJ6_numberOfTrailingZeros_0f7a4_78 rfl ?_
      exact g_iret dJ6_numberOfTrailingZeros_0f7a4_79 rfl h
  · have h := h.2 c
    refine g_iinc2 (c := 4) (pc2 := 58) dJ6_numberOfTrailingZeros_0f7a4_55 rfl (by decide) (by decide) rfl rfl ?_
    refine g_iload_n (pc2 := 59) dJ6_numberOfTrailingZeros_0f7a4_58 rfl rfl ?_
    refine g_iconst (v := 4) (pc2 := 60) dJ6_numberOfTrailingZeros_0f7a4_59 (by decide) rfl ?_
    refine g_iushr (pc2 := 61) dJ6_numberOfTrailingZeros_0f7a4_60 rfl ?_
    refine g_istore_n (pc2 := 62) dJ6_numberOfTrailingZeros_0f7a4_61 (by decide) rfl rfl ?_
    refine g_iload_n (pc2 := 63) dJ6_numberOfTrailingZeros_0f7a4_62 rfl rfl ?_
    refine g_iconst (v := 4) (pc2 := 64) dJ6_numberOfTrailingZeros_0f7a4_63 (by decide) rfl ?_
    refine g_icmp_le (tgt := 74) (pc2 := 67) dJ6_numberOfTrailingZeros_0f7a4_64 (by decide) rfl (fun c => ?_) (fun c => ?_)
    · have h := h.1 c
      refine g_iload_n (pc2 := 75) dJ6_numberOfTrailingZeros_0f7a4_74 rfl rfl ?_
      refine g_iload_n (pc2 := 76) dJ6_numberOfTrailingZeros_0f7a4_75 rfl rfl ?_
      refine g_iconst (v := 1) (pc2 := 77) dJ6_numberOfTrailingZeros_0f7a4_76 (by decide) rfl ?_
      refine g_iushr (pc2 := 78) dJ6_numberOfTrailingZeros_0f7a4_77 rfl ?_
      refine g_iadd (pc2 := 79) dJ6_numberOfTrailingZeros_0f7a4_78 rfl ?_
      exact g_iret dJ6_numberOfTrailingZeros_0f7a4_79 rfl h
    · have h := h.2 c
      refine g_iinc2 (c := 2) (pc2 := 70) dJ6_numberOfTrailingZeros_0f7a4_67 rfl (by decide) (by decide) rfl rfl ?_
      refine g_iload_n (pc2 := 71) dJ6_numberOfTrailingZeros_0f7a4_70 rfl rfl ?_
      refine g_iconst (v := 2) (pc2 := 72) dJ6_numberOfTrailingZeros_0f7a4_71 (by decide) rfl ?_
      refine g_iushr (pc2 := 73) dJ6_numberOfTrailingZeros_0f7a4_72 rfl ?_
      refine g_istore_n (pc2 := 74) dJ6_numberOfTrailingZeros_0f7a4_73 (by decide) rfl rfl ?_
      refine g_iload_n (pc2 := 75) dJ6_numberOfTrailingZeros_0f7a4_74 rfl rfl ?_
      refine g_iload_n (pc2 := 76) dJ6_numberOfTrailingZeros_0f7a4_75 rfl rfl ?_
      refine g_iconst (v := 1) (pc2 := 77) dJ6_numberOfTrailingZeros_0f7a4_76 (by decide) rfl ?_
      refine g_iushr (pc2 := 78) dJ6_numberOfTrailingZeros_0f7a4_77 rfl ?_
      refine g_iadd (pc2 := 79) dJ6_numberOfTrailingZeros_0f7a4_78 rfl ?_
      exact g_iret dJ6_numberOfTrailingZeros_0f7a4_79 rfl h
set_option maxRecDepth 20000 in
theorem eJ7_fill_53178 {d : Nat} {σ : gw_S} {Q : Option Value → gw_S → Prop} {x1 : Int32} {a0 n0 : Nat} (ha0 : gw_k a0 = some (.inl (.int, n0))) (h : gG d mJ7_fill_53178 5 [some (.ref a0), some (.int x1), some (.int 0), some (.int (Int32.ofNat n0))] [] σ Q) : gB d mJ7_fill_53178 [.ref a0, .int x1] σ Q := by
  refine gB_of rfl (Nat.le_of_ble_eq_true rfl) (g_lw (lv2 := [some (.ref a0), some (.int x1), none, none]) ⟨rfl, ⟨rfl, trivial⟩⟩ ?_)
  refine g_iconst (v := 0) (pc2 := 1) dJ7_fill_53178_0 (by decide) rfl ?_
  refine g_istore_n (pc2 := 2) dJ7_fill_53178_1 (by decide) rfl rfl ?_
  refine g_aload_n (pc2 := 3) dJ7_fill_53178_2 rfl rfl ?_
  refine g_alen (pc2 := 4) dJ7_fill_53178_3 ha0 rfl ?_
  refine g_istore_n (pc2 := 5) dJ7_fill_53178_4 (by decide) rfl rfl ?_
  exact g_lw (lv2 := [some (.ref a0), some (.int x1), some (.int 0), some (.int (Int32.ofNat n0))]) ⟨rfl, ⟨rfl, ⟨rfl, ⟨rfl, trivial⟩⟩⟩⟩ h
set_option maxRecDepth 20000 in
theorem bJ7_fill_53178_5 {d : Nat} {σ : gw_S} {Q : Option Value → gw_S → Prop} {x1 : Int32} {x2 : Int32} {x3 : Int32} {a0 n0 : Nat} (ha0 : gw_k a0 = some (.inl (.int, n0))) (h : ((x3 ≤ x2) → (Q none σ)) ∧ ((¬ x3 ≤ x2) → (vp_in x2 n0 ∧ (∀ s1 : gw_S, s1 = gw_u σ a0 x2.toNatClampNeg x1 → (gG d mJ7_fill_53178 5 [some (.ref a0), some (.int x1), some (.int (x2 + 1)), some (.int x3)] [] s1 Q))))) : gG d mJ7_fill_53178 5 [some (.ref a0), some (.int x1), some (.int x2), some (.int x3)] [] σ Q := by
  refine g_iload_n (pc2 := 6) dJ7_fill_53178_5 rfl rfl ?_
  refine g_iload_n (pc2 := 7) dJ7_fill_53178_6 rfl rfl ?_
  refine g_icmp_ge (tgt := 20) (pc2 := 10) dJ7_fill_53178_7 (by decide) rfl (fun c => ?_) (fun c => ?_)
  · have h := h.1 c
    exact g_vret dJ7_fill_53178_20 rfl h
  · have h := h.2 c
    refine g_aload_n (pc2 := 11) dJ7_fill_53178_10 rfl rfl ?_
    refine g_iload_n (pc2 := 12) dJ7_fill_53178_11 rfl rfl ?_
    refine g_iload_n (pc2 := 13) dJ7_fill_53178_12 rfl rfl ?_
    obtain ⟨hx, h⟩ := h
    refine g_iast2 (pc2 := 14) dJ7_fill_53178_13 ha0 hx rfl (fun s1 es1 => ?_)
    replace h := h s1 es1
    refine g_iinc2 (c := 1) (pc2 := 17) dJ7_fill_53178_14 rfl (by decide) (by decide) rfl rfl ?_
    refine g_goto (tgt := 5) dJ7_fill_53178_17 (by decide) ?_
    exact g_lw (lv2 := [some (.ref a0), some (.int x1), some (.int (x2 + 1)), some (.int x3)]) ⟨rfl, ⟨rfl, ⟨rfl, ⟨rfl, trivial⟩⟩⟩⟩ h
set_option maxRecDepth 20000 in
theorem eX1_findingAt {d : Nat} {σ : gw_S} {Q : Option Value → gw_S → Prop} {x1 : Int32} {x2 : Int32} {x3 : Int32}   (h : vp_in x1 4 ∧ (((¬ (σ 32 x1.toNatClampNeg) = (-1)) → (vp_in x1 4 ∧ ((((σ 32 x1.toNatClampNeg) = x2) → (vp_in x1 4 ∧ (gB d mX8_isWithin [.int x3, .int (σ 33 x1.toNatClampNeg)] σ (fun v σ1 => ∃ r2 : Int32, v = some (.int r2) ∧ (((r2 = 0) → (Q (some (.int 2)) σ1)) ∧ ((¬ r2 = 0) → (Q (some (.int 0)) σ1))))))) ∧ ((¬ (σ 32 x1.toNatClampNeg) = x2) → (Q (some (.int 3)) σ))))) ∧ (((σ 32 x1.toNatClampNeg) = (-1)) → (Q (some (.int 1)) σ)))) : gB (d + 1) mX1_findingAt [.ref 26, .int x1, .int x2, .int x3] σ Q := by
  refine gB_of rfl (Nat.le_of_ble_eq_true rfl) (g_lw (lv2 := [some (.ref 26), some (.int x1), some (.int x2), some (.int x3)]) ⟨rfl, ⟨rfl, ⟨rfl, ⟨rfl, trivial⟩⟩⟩⟩ ?_)
  refine g_aload_n (pc2 := 1) dX1_findingAt_0 rfl rfl ?_
  refine g_geta (pc2 := 4) dX1_findingAt_1 fl_X1_16 gk_26 rfl rfl ?_
  refine g_iload_n (pc2 := 5) dX1_findingAt_4 rfl rfl ?_
  obtain ⟨hx, h⟩ := h
  refine g_iald (pc2 := 6) dX1_findingAt_5 gk_32 hx rfl ?_
  refine g_iconst (v := (-1)) (pc2 := 7) dX1_findingAt_6 (by decide) rfl ?_
  refine g_icmp_ne (tgt := 12) (pc2 := 10) dX1_findingAt_7 (by decide) rfl (fun c => ?_) (fun c => ?_)
  · have h := h.1 c
    refine g_aload_n (pc2 := 13) dX1_findingAt_12 rfl rfl ?_
    refine g_geta (pc2 := 16) dX1_findingAt_13 fl_X1_16 gk_26 rfl rfl ?_
    refine g_iload_n (pc2 := 17) dX1_findingAt_16 rfl rfl ?_
    obtain ⟨hx, h⟩ := h
    refine g_iald (pc2 := 18) dX1_findingAt_17 gk_32 hx rfl ?_
    refine g_iload_n (pc2 := 19) dX1_findingAt_18 rfl rfl ?_
    refine g_icmp_eq (tgt := 24) (pc2 := 22) dX1_findingAt_19 (by decide) rfl (fun c => ?_) (fun c => ?_)
    · have h := h.1 c
      refine g_iload_n (pc2 := 25) dX1_findingAt_24 rfl rfl ?_
      refine g_aload_n (pc2 := 26) dX1_findingAt_25 rfl rfl ?_
      refine g_geta (pc2 := 29) dX1_findingAt_26 fl_X1_20 gk_26 rfl rfl ?_
      refine g_iload_n (pc2 := 30) dX1_findingAt_29 rfl rfl ?_
      obtain ⟨hx, h⟩ := h
      refine g_iald (pc2 := 31) dX1_findingAt_30 gk_33 hx rfl ?_
      refine g_callN (M2 := mX8_isWithin) (as := [.int x3, .int (σ 33 x1.toNatClampNeg)]) (st := []) (pc2 := 34) dX1_findingAt_31 (Or.inl rfl) msX8_isWithin rfl rfl (Nat.le_of_ble_eq_true rfl) (Nat.le_refl _) rfl (h.mono ?_)
      rintro _ σ1 ⟨r2, rfl, h⟩
      show gG (d + 1) mX1_findingAt 34 _ [.int r2] σ1 Q
      refine g_if_eq (tgt := 41) (pc2 := 37) dX1_findingAt_34 (by decide) rfl (fun c => ?_) (fun c => ?_)
      · have h := h.1 c
        refine g_iconst (v := 2) (pc2 := 42) dX1_findingAt_41 (by decide) rfl ?_
        exact g_iret dX1_findingAt_42 rfl h
      · have h := h.2 c
        refine g_iconst (v := 0) (pc2 := 38) dX1_findingAt_37 (by decide) rfl ?_
        refine g_goto (tgt := 42) dX1_findingAt_38 (by decide) ?_
        exact g_iret dX1_findingAt_42 rfl h
    · have h := h.2 c
      refine g_iconst (v := 3) (pc2 := 23) dX1_findingAt_22 (by decide) rfl ?_
      exact g_iret dX1_findingAt_23 rfl h
  · have h := h.2 c
    refine g_iconst (v := 1) (pc2 := 11) dX1_findingAt_10 (by decide) rfl ?_
    exact g_iret dX1_findingAt_11 rfl h
set_option maxRecDepth 20000 in
theorem eX1_hasItems {d : Nat} {σ : gw_S} {Q : Option Value → gw_S → Prop} {x1 : Int32} {x2 : Int32} {x3 : Int32}   (h : ((x2 < 0) → (Q (some (.int 0)) σ)) ∧ ((¬ x2 < 0) → (((x3 < 0) → (Q (some (.int 0)) σ)) ∧ ((¬ x3 < 0) → (vp_in x1 4 ∧ ((((σ 33 x1.toNatClampNeg) < x3) → (Q (some (.int 0)) σ)) ∧ ((¬ (σ 33 x1.toNatClampNeg) < x3) → (vp_in x1 4 ∧ (((((σ 33 x1.toNatClampNeg) - x3) < x2) → (Q (some (.int 0)) σ)) ∧ ((¬ ((σ 33 x1.toNatClampNeg) - x3) < x2) → (Q (some (.int 1)) σ))))))))))) : gB d mX1_hasItems [.ref 26, .int x1, .int x2, .int x3] σ Q := by
  refine gB_of rfl (Nat.le_of_ble_eq_true rfl) (g_lw (lv2 := [some (.ref 26), some (.int x1), some (.int x2), some (.int x3)]) ⟨rfl, ⟨rfl, ⟨rfl, ⟨rfl, trivial⟩⟩⟩⟩ ?_)
  refine g_iload_n (pc2 := 1) dX1_hasItems_0 rfl rfl ?_
  refine g_if_lt (tgt := 34) (pc2 := 4) dX1_hasItems_1 (by decide) rfl (fun c => ?_) (fun c => ?_)
  · have h := h.1 c
    refine g_iconst (v := 0) (pc2 := 35) dX1_hasItems_34 (by decide) rfl ?_
    exact g_zret dX1_hasItems_35 rfl rfl h
  · have h := h.2 c
    refine g_iload_n (pc2 := 5) dX1_hasItems_4 rfl rfl ?_
    refine g_if_lt (tgt := 34) (pc2 := 8) dX1_hasItems_5 (by decide) rfl (fun c => ?_) (fun c => ?_)
    · have h := h.1 c
      refine g_iconst (v := 0) (pc2 := 35) dX1_hasItems_34 (by decide) rfl ?_
      exact g_zret dX1_hasItems_35 rfl rfl h
    · have h := h.2 c
      refine g_iload_n (pc2 := 9) dX1_hasItems_8 rfl rfl ?_
      refine g_aload_n (pc2 := 10) dX1_hasItems_9 rfl rfl ?_
      refine g_geta (pc2 := 13) dX1_hasItems_10 fl_X1_20 gk_26 rfl rfl ?_
      refine g_iload_n (pc2 := 14) dX1_hasItems_13 rfl rfl ?_
      obtain ⟨hx, h⟩ := h
      refine g_iald (pc2 := 15) dX1_hasItems_14 gk_33 hx rfl ?_
      refine g_icmp_gt (tgt := 34) (pc2 := 18) dX1_hasItems_15 (by decide) rfl (fun c => ?_) (fun c => ?_)
      · have h := h.1 c
        refine g_iconst (v := 0) (pc2 := 35) dX1_hasItems_34 (by decide) rfl ?_
        exact g_zret dX1_hasItems_35 rfl rfl h
      · have h := h.2 c
        refine g_iload_n (pc2 := 19) dX1_hasItems_18 rfl rfl ?_
        refine g_aload_n (pc2 := 20) dX1_hasItems_19 rfl rfl ?_
        refine g_geta (pc2 := 23) dX1_hasItems_20 fl_X1_20 gk_26 rfl rfl ?_
        refine g_iload_n (pc2 := 24) dX1_hasItems_23 rfl rfl ?_
        obtain ⟨hx, h⟩ := h
        refine g_iald (pc2 := 25) dX1_hasItems_24 gk_33 hx rfl ?_
        refine g_iload_n (pc2 := 26) dX1_hasItems_25 rfl rfl ?_
        refine g_isub (pc2 := 27) dX1_hasItems_26 rfl ?_
        refine g_icmp_gt (tgt := 34) (pc2 := 30) dX1_hasItems_27 (by decide) rfl (fun c => ?_) (fun c => ?_)
        · have h := h.1 c
          refine g_iconst (v := 0) (pc2 := 35) dX1_hasItems_34 (by decide) rfl ?_
          exact g_zret dX1_hasItems_35 rfl rfl h
        · have h := h.2 c
          refine g_iconst (v := 1) (pc2 := 31) dX1_hasItems_30 (by decide) rfl ?_
          refine g_goto (tgt := 35) dX1_hasItems_31 (by decide) ?_
          exact g_zret dX1_hasItems_35 rfl rfl h
set_option maxRecDepth 20000 in
theorem eX1_setItem {d : Nat} {σ : gw_S} {Q : Option Value → gw_S → Prop} {x1 : Int32} {x2 : Int32} {x3 : Int32}   (h : vp_in x1 4 ∧ ∃ q1, ([28, 29, 30, 31] : List Nat)[x1.toNatClampNeg]? = some q1 ∧ gw_k q1 = some (.inl (.int, 60)) ∧ (vp_in x1 4 ∧ (((¬ (σ 32 x1.toNatClampNeg) = 0) → (vp_in x1 4 ∧ (((¬ (σ 32 x1.toNatClampNeg) = 1) → (vp_in x2 60 ∧ (∀ s3 : gw_S, s3 = gw_u σ q1 x2.toNatClampNeg x3 → (Q none s3)))) ∧ (((σ 32 x1.toNatClampNeg) = 1) → (vp_in x2 60 ∧ (∀ s4 : gw_S, s4 = gw_u σ q1 x2.toNatClampNeg x3.toInt16.toInt32 → (Q none s4))))))) ∧ (((σ 32 x1.toNatClampNeg) = 0) → (vp_in x2 60 ∧ (∀ s5 : gw_S, s5 = gw_u σ q1 x2.toNatClampNeg x3.toInt8.toInt32 → (Q none s5))))))) : gB d mX1_setItem [.ref 26, .int x1, .int x2, .int x3] σ Q := by
  refine gB_of rfl (Nat.le_of_ble_eq_true rfl) (g_lw (lv2 := [some (.ref 26), some (.int x1), some (.int x2), some (.int x3)]) ⟨rfl, ⟨rfl, ⟨rfl, ⟨rfl, trivial⟩⟩⟩⟩ ?_)
  refine g_aload_n (pc2 := 1) dX1_setItem_0 rfl rfl ?_
  refine g_geta (pc2 := 4) dX1_setItem_1 fl_X1_11 gk_26 rfl rfl ?_
  refine g_iload_n (pc2 := 5) dX1_setItem_4 rfl rfl ?_
  obtain ⟨hx, q1, hy, hq2, h⟩ := h
  refine g_aald (pc2 := 6) dX1_setItem_5 gk_27 rfl hx hy rfl ?_
  refine g_iload_n (pc2 := 7) dX1_setItem_6 rfl rfl ?_
  refine g_aload_n (pc2 := 8) dX1_setItem_7 rfl rfl ?_
  refine g_geta (pc2 := 11) dX1_setItem_8 fl_X1_16 gk_26 rfl rfl ?_
  refine g_iload_n (pc2 := 12) dX1_setItem_11 rfl rfl ?_
  obtain ⟨hx, h⟩ := h
  refine g_iald (pc2 := 13) dX1_setItem_12 gk_32 hx rfl ?_
  refine g_if_ne (tgt := 21) (pc2 := 16) dX1_setItem_13 (by decide) rfl (fun c => ?_) (fun c => ?_)
  · have h := h.1 c
    refine g_aload_n (pc2 := 22) dX1_setItem_21 rfl rfl ?_
    refine g_geta (pc2 := 25) dX1_setItem_22 fl_X1_16 gk_26 rfl rfl ?_
    refine g_iload_n (pc2 := 26) dX1_setItem_25 rfl rfl ?_
    obtain ⟨hx, h⟩ := h
    refine g_iald (pc2 := 27) dX1_setItem_26 gk_32 hx rfl ?_
    refine g_iconst (v := 1) (pc2 := 28) dX1_setItem_27 (by decide) rfl ?_
    refine g_icmp_ne (tgt := 36) (pc2 := 31) dX1_setItem_28 (by decide) rfl (fun c => ?_) (fun c => ?_)
    · have h := h.1 c
      refine g_iload_n (pc2 := 37) dX1_setItem_36 rfl rfl ?_
      obtain ⟨hx, h⟩ := h
      refine g_iast2 (pc2 := 38) dX1_setItem_37 hq2 hx rfl (fun s3 es3 => ?_)
      replace h := h s3 es3
      exact g_vret dX1_setItem_38 rfl h
    · have h := h.2 c
      refine g_iload_n (pc2 := 32) dX1_setItem_31 rfl rfl ?_
      refine g_i2s (pc2 := 33) dX1_setItem_32 rfl ?_
      refine g_goto (tgt := 37) dX1_setItem_33 (by decide) ?_
      obtain ⟨hx, h⟩ := h
      refine g_iast2 (pc2 := 38) dX1_setItem_37 hq2 hx rfl (fun s4 es4 => ?_)
      replace h := h s4 es4
      exact g_vret dX1_setItem_38 rfl h
  · have h := h.2 c
    refine g_iload_n (pc2 := 17) dX1_setItem_16 rfl rfl ?_
    refine g_i2b (pc2 := 18) dX1_setItem_17 rfl ?_
    refine g_goto (tgt := 37) dX1_setItem_18 (by decide) ?_
    obtain ⟨hx, h⟩ := h
    refine g_iast2 (pc2 := 38) dX1_setItem_37 hq2 hx rfl (fun s5 es5 => ?_)
    replace h := h s5 es5
    exact g_vret dX1_setItem_38 rfl h
set_option maxRecDepth 20000 in
theorem eX2_isFree {d : Nat} {σ : gw_S} {Q : Option Value → gw_S → Prop} {x1 : Int32} {x2 : Int32} {x3 : Int32}   (h : ((¬ ((x1 >>> (x3 &&& 31)) &&& 1) = 0) → (Q (some (.int 0)) σ)) ∧ ((((x1 >>> (x3 &&& 31)) &&& 1) = 0) → (vp_in ((8 * x2) + x3) 64 ∧ (((1000000 ≤ (σ 20 ((8 * x2) + x3).toNatClampNeg)) → (Q (some (.int 0)) σ)) ∧ ((¬ 1000000 ≤ (σ 20 ((8 * x2) + x3).toNatClampNeg)) → (Q (some (.int 1)) σ)))))) : gB d mX2_isFree [.ref 17, .int x1, .int x2, .int x3] σ Q := by
  refine gB_of rfl (Nat.le_of_ble_eq_true rfl) (g_lw (lv2 := [some (.ref 17), some (.int x1), some (.int x2), some (.int x3)]) ⟨rfl, ⟨rfl, ⟨rfl, ⟨rfl, trivial⟩⟩⟩⟩ ?_)
  refine g_iload_n (pc2 := 1) dX2_isFree_0 rfl rfl ?_
  refine g_iload_n (pc2 := 2) dX2_isFree_1 rfl rfl ?_
  refine g_ishr (pc2 := 3) dX2_isFree_2 rfl ?_
  refine g_iconst (v := 1) (pc2 := 4) dX2_isFree_3 (by decide) rfl ?_
  refine g_iand (pc2 := 5) dX2_isFree_4 rfl ?_
  refine g_if_ne (tgt := 28) (pc2 := 8) dX2_isFree_5 (by decide) rfl (fun c => ?_) (fun c => ?_)
  · have h := h.1 c
    refine g_iconst (v := 0) (pc2 := 29) dX2_isFree_28 (by decide) rfl ?_
    exact g_zret dX2_isFree_29 rfl rfl h
  · have h := h.2 c
    refine g_aload_n (pc2 := 9) dX2_isFree_8 rfl rfl ?_
    refine g_geta (pc2 := 12) dX2_isFree_9 fl_X2_18 gk_17 rfl rfl ?_
    refine g_bipush (v := 8) (pc2 := 14) dX2_isFree_12 (by decide) rfl ?_
    refine g_iload_n (pc2 := 15) dX2_isFree_14 rfl rfl ?_
    refine g_imul (pc2 := 16) dX2_isFree_15 rfl ?_
    refine g_iload_n (pc2 := 17) dX2_isFree_16 rfl rfl ?_
    refine g_iadd (pc2 := 18) dX2_isFree_17 rfl ?_
    obtain ⟨hx, h⟩ := h
    refine g_iald (pc2 := 19) dX2_isFree_18 gk_20 hx rfl ?_
    refine g_ldc (pc2 := 21) dX2_isFree_19 co_X2_63 rfl ?_
    refine g_icmp_ge (tgt := 28) (pc2 := 24) dX2_isFree_21 (by decide) rfl (fun c => ?_) (fun c => ?_)
    · have h := h.1 c
      refine g_iconst (v := 0) (pc2 := 29) dX2_isFree_28 (by decide) rfl ?_
      exact g_zret dX2_isFree_29 rfl rfl h
    · have h := h.2 c
      refine g_iconst (v := 1) (pc2 := 25) dX2_isFree_24 (by decide) rfl ?_
      refine g_goto (tgt := 29) dX2_isFree_25 (by decide) ?_
      exact g_zret dX2_isFree_29 rfl rfl h
set_option maxRecDepth 20000 in
theorem eX2_leastFrom {d : Nat} {σ : gw_S} {Q : Option Value → gw_S → Prop} {x1 : Int32} {x2 : Int32}   (h : ((x2 < (σ 17 4)) → (vp_in x1 256 ∧ ((((σ 21 x1.toNatClampNeg) = (-1)) → (gG (d + 1) mX2_leastFrom 33 [some (.ref 17), some (.int x1), some (.int x2), some (.int 1000000), some (.int 0)] [] σ Q)) ∧ ((¬ (σ 21 x1.toNatClampNeg) = (-1)) → (vp_in x1 256 ∧ (Q (some (.int (σ 21 x1.toNatClampNeg))) σ)))))) ∧ ((¬ x2 < (σ 17 4)) → (Q (some (.int 0)) σ))) : gB (d + 1) mX2_leastFrom [.ref 17, .int x1, .int x2] σ Q := by
  refine gB_of rfl (Nat.le_of_ble_eq_true rfl) (g_lw (lv2 := [some (.ref 17), some (.int x1), some (.int x2), none, none]) ⟨rfl, ⟨rfl, ⟨rfl, trivial⟩⟩⟩ ?_)
  refine g_iload_n (pc2 := 1) dX2_leastFrom_0 rfl rfl ?_
  refine g_aload_n (pc2 := 2) dX2_leastFrom_1 rfl rfl ?_
  refine g_geti (pc2 := 5) dX2_leastFrom_2 fl_X2_24 gk_17 rfl rfl ?_
  refine g_icmp_lt (tgt := 10) (pc2 := 8) dX2_leastFrom_5 (by decide) rfl (fun c => ?_) (fun c => ?_)
  · have h := h.1 c
    refine g_aload_n (pc2 := 11) dX2_leastFrom_10 rfl rfl ?_
    refine g_geta (pc2 := 14) dX2_leastFrom_11 fl_X2_21 gk_17 rfl rfl ?_
    refine g_iload_n (pc2 := 15) dX2_leastFrom_14 rfl rfl ?_
    obtain ⟨hx, h⟩ := h
    refine g_iald (pc2 := 16) dX2_leastFrom_15 gk_21 hx rfl ?_
    refine g_iconst (v := (-1)) (pc2 := 17) dX2_leastFrom_16 (by decide) rfl ?_
    refine g_icmp_eq (tgt := 27) (pc2 := 20) dX2_leastFrom_17 (by decide) rfl (fun c => ?_) (fun c => ?_)
    · have h := h.1 c
      refine g_ldc (pc2 := 29) dX2_leastFrom_27 co_X2_63 rfl ?_
      refine g_istore_n (pc2 := 30) dX2_leastFrom_29 (by decide) rfl rfl ?_
      refine g_iconst (v := 0) (pc2 := 31) dX2_leastFrom_30 (by decide) rfl ?_
      refine g_istore (pc2 := 33) dX2_leastFrom_31 (by decide) rfl rfl ?_
      exact g_lw (lv2 := [some (.ref 17), some (.int x1), some (.int x2), some (.int 1000000), some (.int 0)]) ⟨rfl, ⟨rfl, ⟨rfl, ⟨rfl, ⟨rfl, trivial⟩⟩⟩⟩⟩ h
    · have h := h.2 c
      refine g_aload_n (pc2 := 21) dX2_leastFrom_20 rfl rfl ?_
      refine g_geta (pc2 := 24) dX2_leastFrom_21 fl_X2_21 gk_17 rfl rfl ?_
      refine g_iload_n (pc2 := 25) dX2_leastFrom_24 rfl rfl ?_
      obtain ⟨hx, h⟩ := h
      refine g_iald (pc2 := 26) dX2_leastFrom_25 gk_21 hx rfl ?_
      exact g_iret dX2_leastFrom_26 rfl h
  · have h := h.2 c
    refine g_iconst (v := 0) (pc2 := 9) dX2_leastFrom_8 (by decide) rfl ?_
    exact g_iret dX2_leastFrom_9 rfl h
set_option maxRecDepth 20000 in
theorem bX2_leastFrom_33 {d : Nat} {σ : gw_S} {Q : Option Value → gw_S → Prop} {x1 : Int32} {x2 : Int32} {x3 : Int32} {x4 : Int32}   (h : ((8 ≤ x4) → (vp_in x1 256 ∧ (∀ s1 : gw_S, s1 = gw_u σ 21 x1.toNatClampNeg x3 → (Q (some (.int x3)) s1)))) ∧ ((¬ 8 ≤ x4) → (gB d mX2_isFree [.ref 17, .int x1, .int x2, .int x4] σ (fun v σ2 => ∃ r3 : Int32, v = some (.int r3) ∧ (((r3 = 0) → (gG (d + 1) mX2_leastFrom 33 [some (.ref 17), some (.int x1), some (.int x2), some (.int x3), some (.int (x4 + 1))] [] σ2 Q)) ∧ ((¬ r3 = 0) → (vp_in ((8 * x2) + x4) 64 ∧ (gB d mX2_leastFrom [.ref 17, .int (x1 ||| ((1 : Int32) <<< (x4 &&& 31))), .int (x2 + 1)] σ2 (fun v σ4 => ∃ r5 : Int32, v = some (.int r5) ∧ (gG (d + 1) mX2_leastFrom 33 [some (.ref 17), some (.int x1), some (.int x2), some (.int (gw_min x3 ((σ2 20 ((8 * x2) + x4).toNatClampNeg) + r5))), some (.int (x4 + 1))] [] σ4 Q)))))))))) : gG (d + 1) mX2_leastFrom 33 [some (.ref 17), some (.int x1), some (.int x2), some (.int x3), some (.int x4)] [] σ Q := by
  refine g_iload (pc2 := 35) dX2_leastFrom_33 rfl rfl ?_
  refine g_bipush (v := 8) (pc2 := 37) dX2_leastFrom_35 (by decide) rfl ?_
  refine g_icmp_ge (tgt := 88) (pc2 := 40) dX2_leastFrom_37 (by decide) rfl (fun c => ?_) (fun c => ?_)
  · have h := h.1 c
    refine g_aload_n (pc2 := 89) dX2_leastFrom_88 rfl rfl ?_
    refine g_geta (pc2 := 92) dX2_leastFrom_89 fl_X2_21 gk_17 rfl rfl ?_
    refine g_iload_n (pc2 := 93) dX2_leastFrom_92 rfl rfl ?_
    refine g_iload_n (pc2 := 94) dX2_leastFrom_93 rfl rfl ?_
    obtain ⟨hx, h⟩ := h
    refine g_iast2 (pc2 := 95) dX2_leastFrom_94 gk_21 hx rfl (fun s1 es1 => ?_)
    replace h := h s1 es1
    refine g_iload_n (pc2 := 96) dX2_leastFrom_95 rfl rfl ?_
    exact g_iret dX2_leastFrom_96 rfl h
  · have h := h.2 c
    refine g_aload_n (pc2 := 41) dX2_leastFrom_40 rfl rfl ?_
    refine g_iload_n (pc2 := 42) dX2_leastFrom_41 rfl rfl ?_
    refine g_iload_n (pc2 := 43) dX2_leastFrom_42 rfl rfl ?_
    refine g_iload (pc2 := 45) dX2_leastFrom_43 rfl rfl ?_
    refine g_callV (M2 := mX2_isFree) (as := [.int x1, .int x2, .int x4]) (st := []) (pc2 := 48) dX2_leastFrom_45 ml_X2_81 mvX2_isFree gk_17 rfl rfl rfl (Nat.le_of_ble_eq_true rfl) (Nat.le_refl _) rfl (h.mono ?_)
    rintro _ σ2 ⟨r3, rfl, h⟩
    show gG (d + 1) mX2_leastFrom 48 _ [.int r3] σ2 Q
    refine g_if_eq (tgt := 82) (pc2 := 51) dX2_leastFrom_48 (by decide) rfl (fun c => ?_) (fun c => ?_)
    · have h := h.1 c
      refine g_iinc2 (c := 1) (pc2 := 85) dX2_leastFrom_82 rfl (by decide) (by decide) rfl rfl ?_
      refine g_goto (tgt := 33) dX2_leastFrom_85 (by decide) ?_
      exact g_lw (lv2 := [some (.ref 17), some (.int x1), some (.int x2), some (.int x3), some (.int (x4 + 1))]) ⟨rfl, ⟨rfl, ⟨rfl, ⟨rfl, ⟨rfl, trivial⟩⟩⟩⟩⟩ h
    · have h := h.2 c
      refine g_iload_n (pc2 := 52) dX2_leastFrom_51 rfl rfl ?_
      refine g_aload_n (pc2 := 53) dX2_leastFrom_52 rfl rfl ?_
      refine g_geta (pc2 := 56) dX2_leastFrom_53 fl_X2_18 gk_17 rfl rfl ?_
      refine g_bipush (v := 8) (pc2 := 58) dX2_leastFrom_56 (by decide) rfl ?_
      refine g_iload_n (pc2 := 59) dX2_leastFrom_58 rfl rfl ?_
      refine g_imul (pc2 := 60) dX2_leastFrom_59 rfl ?_
      refine g_iload (pc2 := 62) dX2_leastFrom_60 rfl rfl ?_
      refine g_iadd (pc2 := 63) dX2_leastFrom_62 rfl ?_
      obtain ⟨hx, h⟩ := h
      refine g_iald (pc2 := 64) dX2_leastFrom_63 gk_20 hx rfl ?_
      refine g_aload_n (pc2 := 65) dX2_leastFrom_64 rfl rfl ?_
      refine g_iload_n (pc2 := 66) dX2_leastFrom_65 rfl rfl ?_
      refine g_iconst (v := 1) (pc2 := 67) dX2_leastFrom_66 (by decide) rfl ?_
      refine g_iload (pc2 := 69) dX2_leastFrom_67 rfl rfl ?_
      refine g_ishl (pc2 := 70) dX2_leastFrom_69 rfl ?_
      refine g_ior (pc2 := 71) dX2_leastFrom_70 rfl ?_
      refine g_iload_n (pc2 := 72) dX2_leastFrom_71 rfl rfl ?_
      refine g_iconst (v := 1) (pc2 := 73) dX2_leastFrom_72 (by decide) rfl ?_
      refine g_iadd (pc2 := 74) dX2_leastFrom_73 rfl ?_
      refine g_callS (M2 := mX2_leastFrom) (as := [.ref 17, .int (x1 ||| ((1 : Int32) <<< (x4 &&& 31))), .int (x2 + 1)]) (st := [.int (σ2 20 ((8 * x2) + x4).toNatClampNeg), .int x3]) (pc2 := 77) dX2_leastFrom_74 ml_X2_70 msX2_leastFrom rfl rfl (Nat.le_of_ble_eq_true rfl) (Nat.le_refl _) rfl (h.mono ?_)
      rintro _ σ4 ⟨r5, rfl, h⟩
      show gG (d + 1) mX2_leastFrom 77 _ [.int r5, .int (σ2 20 ((8 * x2) + x4).toNatClampNeg), .int x3] σ4 Q
      refine g_iadd (pc2 := 78) dX2_leastFrom_77 rfl ?_
      refine g_mmin (pc2 := 81) dX2_leastFrom_78 ml_X2_38 (Nat.le_add_left 1 _) (Nat.le_of_ble_eq_true rfl) rfl ?_
      refine g_istore_n (pc2 := 82) dX2_leastFrom_81 (by decide) rfl rfl ?_
      refine g_iinc2 (c := 1) (pc2 := 85) dX2_leastFrom_82 rfl (by decide) (by decide) rfl rfl ?_
      refine g_goto (tgt := 33) dX2_leastFrom_85 (by decide) ?_
      exact g_lw (lv2 := [some (.ref 17), some (.int x1), some (.int x2), some (.int (gw_min x3 ((σ2 20 ((8 * x2) + x4).toNatClampNeg) + r5))), some (.int (x4 + 1))]) ⟨rfl, ⟨rfl, ⟨rfl, ⟨rfl, ⟨rfl, trivial⟩⟩⟩⟩⟩ h
set_option maxRecDepth 20000 in
theorem eX2_leastNext {d : Nat} {σ : gw_S} {Q : Option Value → gw_S → Prop} {x1 : Int32} {x2 : Int32}   (h : gB d mX2_leastFrom [.ref 17, .int x1, .int x2] σ (fun v σ1 => ∃ r2 : Int32, v = some (.int r2) ∧ (gG (d + 1) mX2_leastNext 10 [some (.ref 17), some (.int x1), some (.int x2), some (.int r2), some (.int 0)] [] σ1 Q))) : gB (d + 1) mX2_leastNext [.ref 17, .int x1, .int x2] σ Q := by
  refine gB_of rfl (Nat.le_of_ble_eq_true rfl) (g_lw (lv2 := [some (.ref 17), some (.int x1), some (.int x2), none, none]) ⟨rfl, ⟨rfl, ⟨rfl, trivial⟩⟩⟩ ?_)
  refine g_aload_n (pc2 := 1) dX2_leastNext_0 rfl rfl ?_
  refine g_iload_n (pc2 := 2) dX2_leastNext_1 rfl rfl ?_
  refine g_iload_n (pc2 := 3) dX2_leastNext_2 rfl rfl ?_
  refine g_callS (M2 := mX2_leastFrom) (as := [.ref 17, .int x1, .int x2]) (st := []) (pc2 := 6) dX2_leastNext_3 ml_X2_70 msX2_leastFrom rfl rfl (Nat.le_of_ble_eq_true rfl) (Nat.le_refl _) rfl (h.mono ?_)
  rintro _ σ1 ⟨r2, rfl, h⟩
  show gG (d + 1) mX2_leastNext 6 _ [.int r2] σ1 Q
  refine g_istore_n (pc2 := 7) dX2_leastNext_6 (by decide) rfl rfl ?_
  refine g_iconst (v := 0) (pc2 := 8) dX2_leastNext_7 (by decide) rfl ?_
  refine g_istore (pc2 := 10) dX2_leastNext_8 (by decide) rfl rfl ?_
  exact g_lw (lv2 := [some (.ref 17), some (.int x1), some (.int x2), some (.int r2), some (.int 0)]) ⟨rfl, ⟨rfl, ⟨rfl, ⟨rfl, ⟨rfl, trivial⟩⟩⟩⟩⟩ h
set_option maxRecDepth 20000 in
theorem bX2_leastNext_10 {d : Nat} {σ : gw_S} {Q : Option Value → gw_S → Prop} {x1 : Int32} {x2 : Int32} {x3 : Int32} {x4 : Int32}   (h : ((8 ≤ x4) → (Q (some (.int 0)) σ)) ∧ ((¬ 8 ≤ x4) → (gB d mX2_isFree [.ref 17, .int x1, .int x2, .int x4] σ (fun v σ3 => ∃ r4 : Int32, v = some (.int r4) ∧ (((r4 = 0) → (gG (d + 1) mX2_leastNext 10 [some (.ref 17), some (.int x1), some (.int x2), some (.int x3), some (.int (x4 + 1))] [] σ3 Q)) ∧ ((¬ r4 = 0) → (vp_in ((8 * x2) + x4) 64 ∧ (gB d mX2_leastFrom [.ref 17, .int (x1 ||| ((1 : Int32) <<< (x4 &&& 31))), .int (x2 + 1)] σ3 (fun v σ5 => ∃ r6 : Int32, v = some (.int r6) ∧ (((¬ ((σ3 20 ((8 * x2) + x4).toNatClampNeg) + r6) = x3) → (gG (d + 1) mX2_leastNext 10 [some (.ref 17), some (.int x1), some (.int x2), some (.int x3), some (.int (x4 + 1))] [] σ5 Q)) ∧ ((((σ3 20 ((8 * x2) + x4).toNatClampNeg) + r6) = x3) → (Q (some (.int x4)) σ5)))))))))))) : gG (d + 1) mX2_leastNext 10 [some (.ref 17), some (.int x1), some (.int x2), some (.int x3), some (.int x4)] [] σ Q := by
  refine g_iload (pc2 := 12) dX2_leastNext_10 rfl rfl ?_
  refine g_bipush (v := 8) (pc2 := 14) dX2_leastNext_12 (by decide) rfl ?_
  refine g_icmp_ge (tgt := 67) (pc2 := 17) dX2_leastNext_14 (by decide) rfl (fun c => ?_) (fun c => ?_)
  · have h := h.1 c
    refine g_iconst (v := 0) (pc2 := 68) dX2_leastNext_67 (by decide) rfl ?_
    exact g_iret dX2_leastNext_68 rfl h
  · have h := h.2 c
    refine g_aload_n (pc2 := 18) dX2_leastNext_17 rfl rfl ?_
    refine g_iload_n (pc2 := 19) dX2_leastNext_18 rfl rfl ?_
    refine g_iload_n (pc2 := 20) dX2_leastNext_19 rfl rfl ?_
    refine g_iload (pc2 := 22) dX2_leastNext_20 rfl rfl ?_
    refine g_callV (M2 := mX2_isFree) (as := [.int x1, .int x2, .int x4]) (st := []) (pc2 := 25) dX2_leastNext_22 ml_X2_81 mvX2_isFree gk_17 rfl rfl rfl (Nat.le_of_ble_eq_true rfl) (Nat.le_refl _) rfl (h.mono ?_)
    rintro _ σ3 ⟨r4, rfl, h⟩
    show gG (d + 1) mX2_leastNext 25 _ [.int r4] σ3 Q
    refine g_if_eq (tgt := 61) (pc2 := 28) dX2_leastNext_25 (by decide) rfl (fun c => ?_) (fun c => ?_)
    · have h := h.1 c
      refine g_iinc2 (c := 1) (pc2 := 64) dX2_leastNext_61 rfl (by decide) (by decide) rfl rfl ?_
      refine g_goto (tgt := 10) dX2_leastNext_64 (by decide) ?_
      exact g_lw (lv2 := [some (.ref 17), some (.int x1), some (.int x2), some (.int x3), some (.int (x4 + 1))]) ⟨rfl, ⟨rfl, ⟨rfl, ⟨rfl, ⟨rfl, trivial⟩⟩⟩⟩⟩ h
    · have h := h.2 c
      refine g_aload_n (pc2 := 29) dX2_leastNext_28 rfl rfl ?_
      refine g_geta (pc2 := 32) dX2_leastNext_29 fl_X2_18 gk_17 rfl rfl ?_
      refine g_bipush (v := 8) (pc2 := 34) dX2_leastNext_32 (by decide) rfl ?_
      refine g_iload_n (pc2 := 35) dX2_leastNext_34 rfl rfl ?_
      refine g_imul (pc2 := 36) dX2_leastNext_35 rfl ?_
      refine g_iload (pc2 := 38) dX2_leastNext_36 rfl rfl ?_
      refine g_iadd (pc2 := 39) dX2_leastNext_38 rfl ?_
      obtain ⟨hx, h⟩ := h
      refine g_iald (pc2 := 40) dX2_leastNext_39 gk_20 hx rfl ?_
      refine g_aload_n (pc2 := 41) dX2_leastNext_40 rfl rfl ?_
      refine g_iload_n (pc2 := 42) dX2_leastNext_41 rfl rfl ?_
      refine g_iconst (v := 1) (pc2 := 43) dX2_leastNext_42 (by decide) rfl ?_
      refine g_iload (pc2 := 45) dX2_leastNext_43 rfl rfl ?_
      refine g_ishl (pc2 := 46) dX2_leastNext_45 rfl ?_
      refine g_ior (pc2 := 47) dX2_leastNext_46 rfl ?_
      refine g_iload_n (pc2 := 48) dX2_leastNext_47 rfl rfl ?_
      refine g_iconst (v := 1) (pc2 := 49) dX2_leastNext_48 (by decide) rfl ?_
      refine g_iadd (pc2 := 50) dX2_leastNext_49 rfl ?_
      refine g_callS (M2 := mX2_leastFrom) (as := [.ref 17, .int (x1 ||| ((1 : Int32) <<< (x4 &&& 31))), .int (x2 + 1)]) (st := [.int (σ3 20 ((8 * x2) + x4).toNatClampNeg)]) (pc2 := 53) dX2_leastNext_50 ml_X2_70 msX2_leastFrom rfl rfl (Nat.le_of_ble_eq_true rfl) (Nat.le_refl _) rfl (h.mono ?_)
      rintro _ σ5 ⟨r6, rfl, h⟩
      show gG (d + 1) mX2_leastNext 53 _ [.int r6, .int (σ3 20 ((8 * x2) + x4).toNatClampNeg)] σ5 Q
      refine g_iadd (pc2 := 54) dX2_leastNext_53 rfl ?_
      refine g_iload_n (pc2 := 55) dX2_leastNext_54 rfl rfl ?_
      refine g_icmp_ne (tgt := 61) (pc2 := 58) dX2_leastNext_55 (by decide) rfl (fun c => ?_) (fun c => ?_)
      · have h := h.1 c
        refine g_iinc2 (c := 1) (pc2 := 64) dX2_leastNext_61 rfl (by decide) (by decide) rfl rfl ?_
        refine g_goto (tgt := 10) dX2_leastNext_64 (by decide) ?_
        exact g_lw (lv2 := [some (.ref 17), some (.int x1), some (.int x2), some (.int x3), some (.int (x4 + 1))]) ⟨rfl, ⟨rfl, ⟨rfl, ⟨rfl, ⟨rfl, trivial⟩⟩⟩⟩⟩ h
      · have h := h.2 c
        refine g_iload (pc2 := 60) dX2_leastNext_58 rfl rfl ?_
        exact g_iret dX2_leastNext_60 rfl h
set_option maxRecDepth 20000 in
theorem eX2_seekLeast {d : Nat} {σ : gw_S} {Q : Option Value → gw_S → Prop}  {k1 : Nat} (hk1 : gw_st k1) (h : ∀ s1 : gw_S, s1 = gw_u σ 17 5 (-1) → ((((s1 k1 7) < (s1 17 4)) → (Q none s1)) ∧ ((¬ (s1 k1 7) < (s1 17 4)) → (gB d mX2_voices [.ref 17] s1 (fun v σ2 => ∃ r3 : Int32, v = some (.int r3) ∧ (gB d mX3_voicesWith [.ref k1, .int (-1)] σ2 (fun v σ4 => ∃ r5 : Int32, v = some (.int r5) ∧ ((((r3 &&& (r5 ^^^ (-1))) = 0) → (gG (d + 1) mX2_seekLeast 34 [some (.ref 17), some (.ref k1), some (.int 0), none, none] [] σ4 Q)) ∧ ((¬ (r3 &&& (r5 ^^^ (-1))) = 0) → (Q none σ4)))))))))) : gB (d + 1) mX2_seekLeast [.ref 17, .ref k1] σ Q := by
  refine gB_of rfl (Nat.le_of_ble_eq_true rfl) (g_lw (lv2 := [some (.ref 17), some (.ref k1), none, none, none]) ⟨rfl, ⟨rfl, trivial⟩⟩ ?_)
  refine g_aload_n (pc2 := 1) dX2_seekLeast_0 rfl rfl ?_
  refine g_iconst (v := (-1)) (pc2 := 2) dX2_seekLeast_1 (by decide) rfl ?_
  refine g_put2 (pc2 := 5) dX2_seekLeast_2 fp_X2_28 gk_17 rfl rfl rfl rfl (fun s1 es1 => ?_)
  replace h := h s1 es1
  refine g_aload_n (pc2 := 6) dX2_seekLeast_5 rfl rfl ?_
  refine g_geti (pc2 := 9) dX2_seekLeast_6 fl_X2_24 gk_17 rfl rfl ?_
  refine g_aload_n (pc2 := 10) dX2_seekLeast_9 rfl rfl ?_
  refine g_geti (pc2 := 13) dX2_seekLeast_10 fl_X2_47 hk1.1 rfl rfl ?_
  refine g_icmp_gt (tgt := 31) (pc2 := 16) dX2_seekLeast_13 (by decide) rfl (fun c => ?_) (fun c => ?_)
  · have h := h.1 c
    exact g_vret dX2_seekLeast_31 rfl h
  · have h := h.2 c
    refine g_aload_n (pc2 := 17) dX2_seekLeast_16 rfl rfl ?_
    refine g_callV (M2 := mX2_voices) (as := []) (st := []) (pc2 := 20) dX2_seekLeast_17 ml_X2_50 mvX2_voices gk_17 rfl rfl rfl (Nat.le_of_ble_eq_true rfl) (Nat.le_refl _) rfl (h.mono ?_)
    rintro _ σ2 ⟨r3, rfl, h⟩
    show gG (d + 1) mX2_seekLeast 20 _ [.int r3] σ2 Q
    refine g_aload_n (pc2 := 21) dX2_seekLeast_20 rfl rfl ?_
    refine g_iconst (v := (-1)) (pc2 := 22) dX2_seekLeast_21 (by decide) rfl ?_
    refine g_callV (M2 := mX3_voicesWith) (as := [.int (-1)]) (st := [.int r3]) (pc2 := 25) dX2_seekLeast_22 ml_X2_53 mvX3_voicesWith hk1.1 rfl rfl rfl (Nat.le_of_ble_eq_true rfl) (Nat.le_refl _) rfl (h.mono ?_)
    rintro _ σ4 ⟨r5, rfl, h⟩
    show gG (d + 1) mX2_seekLeast 25 _ [.int r5, .int r3] σ4 Q
    refine g_iconst (v := (-1)) (pc2 := 26) dX2_seekLeast_25 (by decide) rfl ?_
    refine g_ixor (pc2 := 27) dX2_seekLeast_26 rfl ?_
    refine g_iand (pc2 := 28) dX2_seekLeast_27 rfl ?_
    refine g_if_eq (tgt := 32) (pc2 := 31) dX2_seekLeast_28 (by decide) rfl (fun c => ?_) (fun c => ?_)
    · have h := h.1 c
      refine g_iconst (v := 0) (pc2 := 33) dX2_seekLeast_32 (by decide) rfl ?_
      refine g_istore_n (pc2 := 34) dX2_seekLeast_33 (by decide) rfl rfl ?_
      exact g_lw (lv2 := [some (.ref 17), some (.ref k1), some (.int 0), none, none]) ⟨rfl, ⟨rfl, ⟨rfl, trivial⟩⟩⟩ h
    · have h := h.2 c
      exact g_vret dX2_seekLeast_31 rfl h
set_option maxRecDepth 20000 in
theorem bX2_seekLeast_34 {d : Nat} {σ : gw_S} {Q : Option Value → gw_S → Prop} {x2 : Int32} {k1 : Nat} (hk1 : gw_st k1) (h : (((σ 17 4) ≤ x2) → (gB d mJ7_fill_53178 [.ref 21, .int (-1)] σ (fun v σ6 => v = none ∧ (gB d mX2_leastFrom [.ref 17, .int 0, .int 0] σ6 (fun v σ7 => ∃ r8 : Int32, v = some (.int r8) ∧ (((1000000 ≤ r8) → (∀ s9 : gw_S, s9 = gw_u σ7 17 5 (-1) → (Q none s9))) ∧ ((¬ 1000000 ≤ r8) → (∀ s10 : gw_S, s10 = gw_u σ7 17 5 r8 → (Q none s10))))))))) ∧ ((¬ (σ 17 4) ≤ x2) → (gG (d + 1) mX2_seekLeast 44 [some (.ref 17), some (.ref k1), some (.int x2), some (.int 0), none] [] σ Q))) : gG (d + 1) mX2_seekLeast 34 [some (.ref 17), some (.ref k1), some (.int x2), none, none] [] σ Q := by
  refine g_iload_n (pc2 := 35) dX2_seekLeast_34 rfl rfl ?_
  refine g_aload_n (pc2 := 36) dX2_seekLeast_35 rfl rfl ?_
  refine g_geti (pc2 := 39) dX2_seekLeast_36 fl_X2_24 gk_17 rfl rfl ?_
  refine g_icmp_ge (tgt := 104) (pc2 := 42) dX2_seekLeast_39 (by decide) rfl (fun c => ?_) (fun c => ?_)
  · have h := h.1 c
    refine g_aload_n (pc2 := 105) dX2_seekLeast_104 rfl rfl ?_
    refine g_geta (pc2 := 108) dX2_seekLeast_105 fl_X2_21 gk_17 rfl rfl ?_
    refine g_iconst (v := (-1)) (pc2 := 109) dX2_seekLeast_108 (by decide) rfl ?_
    refine g_callS (M2 := mJ7_fill_53178) (as := [.ref 21, .int (-1)]) (st := []) (pc2 := 112) dX2_seekLeast_109 ml_X2_64 msJ7_fill_53178 rfl rfl (Nat.le_of_ble_eq_true rfl) (Nat.le_refl _) rfl (h.mono ?_)
    rintro _ σ6 ⟨rfl, h⟩
    show gG (d + 1) mX2_seekLeast 112 _ [] σ6 Q
    refine g_aload_n (pc2 := 113) dX2_seekLeast_112 rfl rfl ?_
    refine g_iconst (v := 0) (pc2 := 114) dX2_seekLeast_113 (by decide) rfl ?_
    refine g_iconst (v := 0) (pc2 := 115) dX2_seekLeast_114 (by decide) rfl ?_
    refine g_callS (M2 := mX2_leastFrom) (as := [.ref 17, .int 0, .int 0]) (st := []) (pc2 := 118) dX2_seekLeast_115 ml_X2_70 msX2_leastFrom rfl rfl (Nat.le_of_ble_eq_true rfl) (Nat.le_refl _) rfl (h.mono ?_)
    rintro _ σ7 ⟨r8, rfl, h⟩
    show gG (d + 1) mX2_seekLeast 118 _ [.int r8] σ7 Q
    refine g_istore_n (pc2 := 119) dX2_seekLeast_118 (by decide) rfl rfl ?_
    refine g_aload_n (pc2 := 120) dX2_seekLeast_119 rfl rfl ?_
    refine g_iload_n (pc2 := 121) dX2_seekLeast_120 rfl rfl ?_
    refine g_ldc (pc2 := 123) dX2_seekLeast_121 co_X2_63 rfl ?_
    refine g_icmp_ge (tgt := 130) (pc2 := 126) dX2_seekLeast_123 (by decide) rfl (fun c => ?_) (fun c => ?_)
    · have h := h.1 c
      refine g_iconst (v := (-1)) (pc2 := 131) dX2_seekLeast_130 (by decide) rfl ?_
      refine g_put2 (pc2 := 134) dX2_seekLeast_131 fp_X2_28 gk_17 rfl rfl rfl rfl (fun s9 es9 => ?_)
      replace h := h s9 es9
      exact g_vret dX2_seekLeast_134 rfl h
    · have h := h.2 c
      refine g_iload_n (pc2 := 127) dX2_seekLeast_126 rfl rfl ?_
      refine g_goto (tgt := 131) dX2_seekLeast_127 (by decide) ?_
      refine g_put2 (pc2 := 134) dX2_seekLeast_131 fp_X2_28 gk_17 rfl rfl rfl rfl (fun s10 es10 => ?_)
      replace h := h s10 es10
      exact g_vret dX2_seekLeast_134 rfl h
  · have h := h.2 c
    refine g_iconst (v := 0) (pc2 := 43) dX2_seekLeast_42 (by decide) rfl ?_
    refine g_istore_n (pc2 := 44) dX2_seekLeast_43 (by decide) rfl rfl ?_
    exact g_lw (lv2 := [some (.ref 17), some (.ref k1), some (.int x2), some (.int 0), none]) ⟨rfl, ⟨rfl, ⟨rfl, ⟨rfl, trivial⟩⟩⟩⟩ h
set_option maxRecDepth 20000 in
theorem bX2_seekLeast_44 {d : Nat} {σ : gw_S} {Q : Option Value → gw_S → Prop} {x2 : Int32} {x3 : Int32} {k1 : Nat} (hk1 : gw_st k1) (h : ((8 ≤ x3) → (gG (d + 1) mX2_seekLeast 34 [some (.ref 17), some (.ref k1), some (.int (x2 + 1)), none, none] [] σ Q)) ∧ ((¬ 8 ≤ x3) → (vp_in x2 8 ∧ (gB d mX3_muchOf [.ref k1, .int x3, .int (σ 18 x2.toNatClampNeg)] σ (fun v σ11 => ∃ r12 : Int32, v = some (.int r12) ∧ (((r12 ≤ 0) → (vp_in ((8 * x2) + x3) 64 ∧ (∀ s13 : gw_S, s13 = gw_u σ11 20 ((8 * x2) + x3).toNatClampNeg 1000000 → (gG (d + 1) mX2_seekLeast 44 [some (.ref 17), some (.ref k1), some (.int x2), some (.int (x3 + 1)), none] [] s13 Q)))) ∧ ((¬ r12 ≤ 0) → (gB d mX3_allIn [.ref k1, .int x3] σ11 (fun v σ14 => ∃ r15 : Int32, v = some (.int r15) ∧ (vp_in ((8 * x2) + x3) 64 ∧ (∀ s16 : gw_S, s16 = gw_u σ14 20 ((8 * x2) + x3).toNatClampNeg (r15 - r12) → (gG (d + 1) mX2_seekLeast 44 [some (.ref 17), some (.ref k1), some (.int x2), some (.int (x3 + 1)), none] [] s16 Q)))))))))))) : gG (d + 1) mX2_seekLeast 44 [some (.ref 17), some (.ref k1), some (.int x2), some (.int x3), none] [] σ Q := by
  refine g_iload_n (pc2 := 45) dX2_seekLeast_44 rfl rfl ?_
  refine g_bipush (v := 8) (pc2 := 47) dX2_seekLeast_45 (by decide) rfl ?_
  refine g_icmp_ge (tgt := 98) (pc2 := 50) dX2_seekLeast_47 (by decide) rfl (fun c => ?_) (fun c => ?_)
  · have h := h.1 c
    refine g_iinc2 (c := 1) (pc2 := 101) dX2_seekLeast_98 rfl (by decide) (by decide) rfl rfl ?_
    refine g_goto (tgt := 34) dX2_seekLeast_101 (by decide) ?_
    exact g_lw (lv2 := [some (.ref 17), some (.ref k1), some (.int (x2 + 1)), none, none]) ⟨rfl, ⟨rfl, ⟨rfl, trivial⟩⟩⟩ h
  · have h := h.2 c
    refine g_aload_n (pc2 := 51) dX2_seekLeast_50 rfl rfl ?_
    refine g_iload_n (pc2 := 52) dX2_seekLeast_51 rfl rfl ?_
    refine g_aload_n (pc2 := 53) dX2_seekLeast_52 rfl rfl ?_
    refine g_geta (pc2 := 56) dX2_seekLeast_53 fl_X2_9 gk_17 rfl rfl ?_
    refine g_iload_n (pc2 := 57) dX2_seekLeast_56 rfl rfl ?_
    obtain ⟨hx, h⟩ := h
    refine g_iald (pc2 := 58) dX2_seekLeast_57 gk_18 hx rfl ?_
    refine g_callV (M2 := mX3_muchOf) (as := [.int x3, .int (σ 18 x2.toNatClampNeg)]) (st := []) (pc2 := 61) dX2_seekLeast_58 ml_X2_57 mvX3_muchOf hk1.1 rfl rfl rfl (Nat.le_of_ble_eq_true rfl) (Nat.le_refl _) rfl (h.mono ?_)
    rintro _ σ11 ⟨r12, rfl, h⟩
    show gG (d + 1) mX2_seekLeast 61 _ [.int r12] σ11 Q
    refine g_istore (pc2 := 63) dX2_seekLeast_61 (by decide) rfl rfl ?_
    refine g_aload_n (pc2 := 64) dX2_seekLeast_63 rfl rfl ?_
    refine g_geta (pc2 := 67) dX2_seekLeast_64 fl_X2_18 gk_17 rfl rfl ?_
    refine g_bipush (v := 8) (pc2 := 69) dX2_seekLeast_67 (by decide) rfl ?_
    refine g_iload_n (pc2 := 70) dX2_seekLeast_69 rfl rfl ?_
    refine g_imul (pc2 := 71) dX2_seekLeast_70 rfl ?_
    refine g_iload_n (pc2 := 72) dX2_seekLeast_71 rfl rfl ?_
    refine g_iadd (pc2 := 73) dX2_seekLeast_72 rfl ?_
    refine g_iload (pc2 := 75) dX2_seekLeast_73 rfl rfl ?_
    refine g_if_le (tgt := 89) (pc2 := 78) dX2_seekLeast_75 (by decide) rfl (fun c => ?_) (fun c => ?_)
    · have h := h.1 c
      refine g_ldc (pc2 := 91) dX2_seekLeast_89 co_X2_63 rfl ?_
      obtain ⟨hx, h⟩ := h
      refine g_iast2 (pc2 := 92) dX2_seekLeast_91 gk_20 hx rfl (fun s13 es13 => ?_)
      replace h := h s13 es13
      refine g_iinc2 (c := 1) (pc2 := 95) dX2_seekLeast_92 rfl (by decide) (by decide) rfl rfl ?_
      refine g_goto (tgt := 44) dX2_seekLeast_95 (by decide) ?_
      exact g_lw (lv2 := [some (.ref 17), some (.ref k1), some (.int x2), some (.int (x3 + 1)), none]) ⟨rfl, ⟨rfl, ⟨rfl, ⟨rfl, trivial⟩⟩⟩⟩ h
    · have h := h.2 c
      refine g_aload_n (pc2 := 79) dX2_seekLeast_78 rfl rfl ?_
      refine g_iload_n (pc2 := 80) dX2_seekLeast_79 rfl rfl ?_
      refine g_callV (M2 := mX3_allIn) (as := [.int x3]) (st := [.int ((8 * x2) + x3), .ref 20]) (pc2 := 83) dX2_seekLeast_80 ml_X2_60 mvX3_allIn hk1.1 rfl rfl rfl (Nat.le_of_ble_eq_true rfl) (Nat.le_refl _) rfl (h.mono ?_)
      rintro _ σ14 ⟨r15, rfl, h⟩
      show gG (d + 1) mX2_seekLeast 83 _ [.int r15, .int ((8 * x2) + x3), .ref 20] σ14 Q
      refine g_iload (pc2 := 85) dX2_seekLeast_83 rfl rfl ?_
      refine g_isub (pc2 := 86) dX2_seekLeast_85 rfl ?_
      refine g_goto (tgt := 91) dX2_seekLeast_86 (by decide) ?_
      obtain ⟨hx, h⟩ := h
      refine g_iast2 (pc2 := 92) dX2_seekLeast_91 gk_20 hx rfl (fun s16 es16 => ?_)
      replace h := h s16 es16
      refine g_iinc2 (c := 1) (pc2 := 95) dX2_seekLeast_92 rfl (by decide) (by decide) rfl rfl ?_
      refine g_goto (tgt := 44) dX2_seekLeast_95 (by decide) ?_
      exact g_lw (lv2 := [some (.ref 17), some (.ref k1), some (.int x2), some (.int (x3 + 1)), none]) ⟨rfl, ⟨rfl, ⟨rfl, ⟨rfl, trivial⟩⟩⟩⟩ h
set_option maxRecDepth 20000 in
theorem eX2_seekRow {d : Nat} {σ : gw_S} {Q : Option Value → gw_S → Prop}  {k1 : Nat} (hk1 : gw_st k1) (h : gB d mX2_seekLeast [.ref 17, .ref k1] σ (fun v σ1 => v = none ∧ (gG (d + 1) mX2_seekRow 9 [some (.ref 17), none, some (.int 0), some (.int 0)] [] σ1 Q))) : gB (d + 1) mX2_seekRow [.ref 17, .ref k1] σ Q := by
  refine gB_of rfl (Nat.le_of_ble_eq_true rfl) (g_lw (lv2 := [some (.ref 17), some (.ref k1), none, none]) ⟨rfl, ⟨rfl, trivial⟩⟩ ?_)
  refine g_aload_n (pc2 := 1) dX2_seekRow_0 rfl rfl ?_
  refine g_aload_n (pc2 := 2) dX2_seekRow_1 rfl rfl ?_
  refine g_callV (M2 := mX2_seekLeast) (as := [.ref k1]) (st := []) (pc2 := 5) dX2_seekRow_2 ml_X2_74 mvX2_seekLeast gk_17 rfl rfl rfl (Nat.le_of_ble_eq_true rfl) (Nat.le_refl _) rfl (h.mono ?_)
  rintro _ σ1 ⟨rfl, h⟩
  show gG (d + 1) mX2_seekRow 5 _ [] σ1 Q
  refine g_iconst (v := 0) (pc2 := 6) dX2_seekRow_5 (by decide) rfl ?_
  refine g_istore_n (pc2 := 7) dX2_seekRow_6 (by decide) rfl rfl ?_
  refine g_iconst (v := 0) (pc2 := 8) dX2_seekRow_7 (by decide) rfl ?_
  refine g_istore_n (pc2 := 9) dX2_seekRow_8 (by decide) rfl rfl ?_
  exact g_lw (lv2 := [some (.ref 17), none, some (.int 0), some (.int 0)]) ⟨rfl, ⟨rfl, ⟨rfl, trivial⟩⟩⟩ h
set_option maxRecDepth 20000 in
theorem bX2_seekRow_9 {d : Nat} {σ : gw_S} {Q : Option Value → gw_S → Prop} {x2 : Int32} {x3 : Int32}   (h : (((σ 17 4) ≤ x3) → (Q none σ)) ∧ ((¬ (σ 17 4) ≤ x3) → ((((σ 17 5) = (-1)) → (Q none σ)) ∧ ((¬ (σ 17 5) = (-1)) → (gB d mX2_leastNext [.ref 17, .int x2, .int x3] σ (fun v σ2 => ∃ r3 : Int32, v = some (.int r3) ∧ (vp_in x3 8 ∧ (∀ s4 : gw_S, s4 = gw_u σ2 19 x3.toNatClampNeg r3 → (vp_in x3 8 ∧ (gG (d + 1) mX2_seekRow 9 [some (.ref 17), none, some (.int (x2 ||| ((1 : Int32) <<< ((s4 19 x3.toNatClampNeg) &&& 31)))), some (.int (x3 + 1))] [] s4 Q)))))))))) : gG (d + 1) mX2_seekRow 9 [some (.ref 17), none, some (.int x2), some (.int x3)] [] σ Q := by
  refine g_iload_n (pc2 := 10) dX2_seekRow_9 rfl rfl ?_
  refine g_aload_n (pc2 := 11) dX2_seekRow_10 rfl rfl ?_
  refine g_geti (pc2 := 14) dX2_seekRow_11 fl_X2_24 gk_17 rfl rfl ?_
  refine g_icmp_ge (tgt := 54) (pc2 := 17) dX2_seekRow_14 (by decide) rfl (fun c => ?_) (fun c => ?_)
  · have h := h.1 c
    exact g_vret dX2_seekRow_54 rfl h
  · have h := h.2 c
    refine g_aload_n (pc2 := 18) dX2_seekRow_17 rfl rfl ?_
    refine g_geti (pc2 := 21) dX2_seekRow_18 fl_X2_28 gk_17 rfl rfl ?_
    refine g_iconst (v := (-1)) (pc2 := 22) dX2_seekRow_21 (by decide) rfl ?_
    refine g_icmp_eq (tgt := 54) (pc2 := 25) dX2_seekRow_22 (by decide) rfl (fun c => ?_) (fun c => ?_)
    · have h := h.1 c
      exact g_vret dX2_seekRow_54 rfl h
    · have h := h.2 c
      refine g_aload_n (pc2 := 26) dX2_seekRow_25 rfl rfl ?_
      refine g_geta (pc2 := 29) dX2_seekRow_26 fl_X2_15 gk_17 rfl rfl ?_
      refine g_iload_n (pc2 := 30) dX2_seekRow_29 rfl rfl ?_
      refine g_aload_n (pc2 := 31) dX2_seekRow_30 rfl rfl ?_
      refine g_iload_n (pc2 := 32) dX2_seekRow_31 rfl rfl ?_
      refine g_iload_n (pc2 := 33) dX2_seekRow_32 rfl rfl ?_
      refine g_callV (M2 := mX2_leastNext) (as := [.int x2, .int x3]) (st := [.int x3, .ref 19]) (pc2 := 36) dX2_seekRow_33 ml_X2_78 mvX2_leastNext gk_17 rfl rfl rfl (Nat.le_of_ble_eq_true rfl) (Nat.le_refl _) rfl (h.mono ?_)
      rintro _ σ2 ⟨r3, rfl, h⟩
      show gG (d + 1) mX2_seekRow 36 _ [.int r3, .int x3, .ref 19] σ2 Q
      obtain ⟨hx, h⟩ := h
      refine g_iast2 (pc2 := 37) dX2_seekRow_36 gk_19 hx rfl (fun s4 es4 => ?_)
      replace h := h s4 es4
      refine g_iload_n (pc2 := 38) dX2_seekRow_37 rfl rfl ?_
      refine g_iconst (v := 1) (pc2 := 39) dX2_seekRow_38 (by decide) rfl ?_
      refine g_aload_n (pc2 := 40) dX2_seekRow_39 rfl rfl ?_
      refine g_geta (pc2 := 43) dX2_seekRow_40 fl_X2_15 gk_17 rfl rfl ?_
      refine g_iload_n (pc2 := 44) dX2_seekRow_43 rfl rfl ?_
      obtain ⟨hx, h⟩ := h
      refine g_iald (pc2 := 45) dX2_seekRow_44 gk_19 hx rfl ?_
      refine g_ishl (pc2 := 46) dX2_seekRow_45 rfl ?_
      refine g_ior (pc2 := 47) dX2_seekRow_46 rfl ?_
      refine g_istore_n (pc2 := 48) dX2_seekRow_47 (by decide) rfl rfl ?_
      refine g_iinc2 (c := 1) (pc2 := 51) dX2_seekRow_48 rfl (by decide) (by decide) rfl rfl ?_
      refine g_goto (tgt := 9) dX2_seekRow_51 (by decide) ?_
      exact g_lw (lv2 := [some (.ref 17), none, some (.int (x2 ||| ((1 : Int32) <<< ((s4 19 x3.toNatClampNeg) &&& 31)))), some (.int (x3 + 1))]) ⟨rfl, ⟨rfl, ⟨rfl, trivial⟩⟩⟩ h
set_option maxRecDepth 20000 in
theorem eX2_takeFrom {d : Nat} {σ : gw_S} {Q : Option Value → gw_S → Prop}    (h : gB d mX5_faultAsSong [.ref 4] σ (fun v σ1 => ∃ r2 : Int32, v = some (.int r2) ∧ (((¬ r2 = (-1)) → (∀ s3 : gw_S, s3 = gw_u σ1 17 4 0 → (gG (d + 1) mX2_takeFrom 27 [some (.ref 17), some (.ref 4), some (.int 0)] [] s3 Q))) ∧ ((r2 = (-1)) → (∀ s4 : gw_S, s4 = gw_u σ1 17 4 (gw_min 8 (σ1 4 2)) → (gG (d + 1) mX2_takeFrom 27 [some (.ref 17), some (.ref 4), some (.int 0)] [] s4 Q)))))) : gB (d + 1) mX2_takeFrom [.ref 17, .ref 4] σ Q := by
  refine gB_of rfl (Nat.le_of_ble_eq_true rfl) (g_lw (lv2 := [some (.ref 17), some (.ref 4), none]) ⟨rfl, ⟨rfl, trivial⟩⟩ ?_)
  refine g_aload_n (pc2 := 1) dX2_takeFrom_0 rfl rfl ?_
  refine g_aload_n (pc2 := 2) dX2_takeFrom_1 rfl rfl ?_
  refine g_callV (M2 := mX5_faultAsSong) (as := []) (st := [.ref 17]) (pc2 := 5) dX2_takeFrom_2 ml_X2_31 mvX5_faultAsSong gk_4 rfl rfl rfl (Nat.le_of_ble_eq_true rfl) (Nat.le_refl _) rfl (h.mono ?_)
  rintro _ σ1 ⟨r2, rfl, h⟩
  show gG (d + 1) mX2_takeFrom 5 _ [.int r2, .ref 17] σ1 Q
  refine g_iconst (v := (-1)) (pc2 := 6) dX2_takeFrom_5 (by decide) rfl ?_
  refine g_icmp_ne (tgt := 21) (pc2 := 9) dX2_takeFrom_6 (by decide) rfl (fun c => ?_) (fun c => ?_)
  · have h := h.1 c
    refine g_iconst (v := 0) (pc2 := 22) dX2_takeFrom_21 (by decide) rfl ?_
    refine g_put2 (pc2 := 25) dX2_takeFrom_22 fp_X2_24 gk_17 rfl rfl rfl rfl (fun s3 es3 => ?_)
    replace h := h s3 es3
    refine g_iconst (v := 0) (pc2 := 26) dX2_takeFrom_25 (by decide) rfl ?_
    refine g_istore_n (pc2 := 27) dX2_takeFrom_26 (by decide) rfl rfl ?_
    exact g_lw (lv2 := [some (.ref 17), some (.ref 4), some (.int 0)]) ⟨rfl, ⟨rfl, ⟨rfl, trivial⟩⟩⟩ h
  · have h := h.2 c
    refine g_bipush (v := 8) (pc2 := 11) dX2_takeFrom_9 (by decide) rfl ?_
    refine g_aload_n (pc2 := 12) dX2_takeFrom_11 rfl rfl ?_
    refine g_geti (pc2 := 15) dX2_takeFrom_12 fl_X2_37 gk_4 rfl rfl ?_
    refine g_mmin (pc2 := 18) dX2_takeFrom_15 ml_X2_38 (Nat.le_add_left 1 _) (Nat.le_of_ble_eq_true rfl) rfl ?_
    refine g_goto (tgt := 22) dX2_takeFrom_18 (by decide) ?_
    refine g_put2 (pc2 := 25) dX2_takeFrom_22 fp_X2_24 gk_17 rfl rfl rfl rfl (fun s4 es4 => ?_)
    replace h := h s4 es4
    refine g_iconst (v := 0) (pc2 := 26) dX2_takeFrom_25 (by decide) rfl ?_
    refine g_istore_n (pc2 := 27) dX2_takeFrom_26 (by decide) rfl rfl ?_
    exact g_lw (lv2 := [some (.ref 17), some (.ref 4), some (.int 0)]) ⟨rfl, ⟨rfl, ⟨rfl, trivial⟩⟩⟩ h
set_option maxRecDepth 20000 in
theorem bX2_takeFrom_27 {d : Nat} {σ : gw_S} {Q : Option Value → gw_S → Prop} {x2 : Int32}   (h : (((σ 17 4) ≤ x2) → (Q none σ)) ∧ ((¬ (σ 17 4) ≤ x2) → (vp_in x2 47 ∧ (vp_in x2 8 ∧ (∀ s5 : gw_S, s5 = gw_u σ 18 x2.toNatClampNeg ((σ 5 x2.toNatClampNeg) - 97) → (gG (d + 1) mX2_takeFrom 27 [some (.ref 17), some (.ref 4), some (.int (x2 + 1))] [] s5 Q)))))) : gG (d + 1) mX2_takeFrom 27 [some (.ref 17), some (.ref 4), some (.int x2)] [] σ Q := by
  refine g_iload_n (pc2 := 28) dX2_takeFrom_27 rfl rfl ?_
  refine g_aload_n (pc2 := 29) dX2_takeFrom_28 rfl rfl ?_
  refine g_geti (pc2 := 32) dX2_takeFrom_29 fl_X2_24 gk_17 rfl rfl ?_
  refine g_icmp_ge (tgt := 56) (pc2 := 35) dX2_takeFrom_32 (by decide) rfl (fun c => ?_) (fun c => ?_)
  · have h := h.1 c
    exact g_vret dX2_takeFrom_56 rfl h
  · have h := h.2 c
    refine g_aload_n (pc2 := 36) dX2_takeFrom_35 rfl rfl ?_
    refine g_geta (pc2 := 39) dX2_takeFrom_36 fl_X2_9 gk_17 rfl rfl ?_
    refine g_iload_n (pc2 := 40) dX2_takeFrom_39 rfl rfl ?_
    refine g_aload_n (pc2 := 41) dX2_takeFrom_40 rfl rfl ?_
    refine g_geta (pc2 := 44) dX2_takeFrom_41 fl_X2_44 gk_4 rfl rfl ?_
    refine g_iload_n (pc2 := 45) dX2_takeFrom_44 rfl rfl ?_
    obtain ⟨hx, h⟩ := h
    refine g_iald (pc2 := 46) dX2_takeFrom_45 gk_5 hx rfl ?_
    refine g_bipush (v := 97) (pc2 := 48) dX2_takeFrom_46 (by decide) rfl ?_
    refine g_isub (pc2 := 49) dX2_takeFrom_48 rfl ?_
    obtain ⟨hx, h⟩ := h
    refine g_iast2 (pc2 := 50) dX2_takeFrom_49 gk_18 hx rfl (fun s5 es5 => ?_)
    replace h := h s5 es5
    refine g_iinc2 (c := 1) (pc2 := 53) dX2_takeFrom_50 rfl (by decide) (by decide) rfl rfl ?_
    refine g_goto (tgt := 27) dX2_takeFrom_53 (by decide) ?_
    exact g_lw (lv2 := [some (.ref 17), some (.ref 4), some (.int (x2 + 1))]) ⟨rfl, ⟨rfl, ⟨rfl, trivial⟩⟩⟩ h
set_option maxRecDepth 20000 in
theorem eX2_voices {d : Nat} {σ : gw_S} {Q : Option Value → gw_S → Prop}    (h : gG d mX2_voices 4 [some (.ref 17), some (.int 0), some (.int 0)] [] σ Q) : gB d mX2_voices [.ref 17] σ Q := by
  refine gB_of rfl (Nat.le_of_ble_eq_true rfl) (g_lw (lv2 := [some (.ref 17), none, none]) ⟨rfl, trivial⟩ ?_)
  refine g_iconst (v := 0) (pc2 := 1) dX2_voices_0 (by decide) rfl ?_
  refine g_istore_n (pc2 := 2) dX2_voices_1 (by decide) rfl rfl ?_
  refine g_iconst (v := 0) (pc2 := 3) dX2_voices_2 (by decide) rfl ?_
  refine g_istore_n (pc2 := 4) dX2_voices_3 (by decide) rfl rfl ?_
  exact g_lw (lv2 := [some (.ref 17), some (.int 0), some (.int 0)]) ⟨rfl, ⟨rfl, ⟨rfl, trivial⟩⟩⟩ h
set_option maxRecDepth 20000 in
theorem bX2_voices_4 {d : Nat} {σ : gw_S} {Q : Option Value → gw_S → Prop} {x1 : Int32} {x2 : Int32}   (h : (((σ 17 4) ≤ x2) → (Q (some (.int x1)) σ)) ∧ ((¬ (σ 17 4) ≤ x2) → (vp_in x2 8 ∧ (gG d mX2_voices 4 [some (.ref 17), some (.int (x1 ||| ((1 : Int32) <<< ((σ 18 x2.toNatClampNeg) &&& 31)))), some (.int (x2 + 1))] [] σ Q)))) : gG d mX2_voices 4 [some (.ref 17), some (.int x1), some (.int x2)] [] σ Q := by
  refine g_iload_n (pc2 := 5) dX2_voices_4 rfl rfl ?_
  refine g_aload_n (pc2 := 6) dX2_voices_5 rfl rfl ?_
  refine g_geti (pc2 := 9) dX2_voices_6 fl_X2_24 gk_17 rfl rfl ?_
  refine g_icmp_ge (tgt := 29) (pc2 := 12) dX2_voices_9 (by decide) rfl (fun c => ?_) (fun c => ?_)
  · have h := h.1 c
    refine g_iload_n (pc2 := 30) dX2_voices_29 rfl rfl ?_
    exact g_iret dX2_voices_30 rfl h
  · have h := h.2 c
    refine g_iload_n (pc2 := 13) dX2_voices_12 rfl rfl ?_
    refine g_iconst (v := 1) (pc2 := 14) dX2_voices_13 (by decide) rfl ?_
    refine g_aload_n (pc2 := 15) dX2_voices_14 rfl rfl ?_
    refine g_geta (pc2 := 18) dX2_voices_15 fl_X2_9 gk_17 rfl rfl ?_
    refine g_iload_n (pc2 := 19) dX2_voices_18 rfl rfl ?_
    obtain ⟨hx, h⟩ := h
    refine g_iald (pc2 := 20) dX2_voices_19 gk_18 hx rfl ?_
    refine g_ishl (pc2 := 21) dX2_voices_20 rfl ?_
    refine g_ior (pc2 := 22) dX2_voices_21 rfl ?_
    refine g_istore_n (pc2 := 23) dX2_voices_22 (by decide) rfl rfl ?_
    refine g_iinc2 (c := 1) (pc2 := 26) dX2_voices_23 rfl (by decide) (by decide) rfl rfl ?_
    refine g_goto (tgt := 4) dX2_voices_26 (by decide) ?_
    exact g_lw (lv2 := [some (.ref 17), some (.int (x1 ||| ((1 : Int32) <<< ((σ 18 x2.toNatClampNeg) &&& 31)))), some (.int (x2 + 1))]) ⟨rfl, ⟨rfl, ⟨rfl, trivial⟩⟩⟩ h
set_option maxRecDepth 20000 in
theorem eX3_allIn {d : Nat} {σ : gw_S} {Q : Option Value → gw_S → Prop} {x1 : Int32} {k : Nat} (hk : gw_st k) (h : gG d mX3_allIn 4 [some (.ref k), some (.int x1), some (.int 0), some (.int 0)] [] σ Q) : gB d mX3_allIn [.ref k, .int x1] σ Q := by
  refine gB_of rfl (Nat.le_of_ble_eq_true rfl) (g_lw (lv2 := [some (.ref k), some (.int x1), none, none]) ⟨rfl, ⟨rfl, trivial⟩⟩ ?_)
  refine g_iconst (v := 0) (pc2 := 1) dX3_allIn_0 (by decide) rfl ?_
  refine g_istore_n (pc2 := 2) dX3_allIn_1 (by decide) rfl rfl ?_
  refine g_iconst (v := 0) (pc2 := 3) dX3_allIn_2 (by decide) rfl ?_
  refine g_istore_n (pc2 := 4) dX3_allIn_3 (by decide) rfl rfl ?_
  exact g_lw (lv2 := [some (.ref k), some (.int x1), some (.int 0), some (.int 0)]) ⟨rfl, ⟨rfl, ⟨rfl, ⟨rfl, trivial⟩⟩⟩⟩ h
set_option maxRecDepth 20000 in
theorem bX3_allIn_4 {d : Nat} {σ : gw_S} {Q : Option Value → gw_S → Prop} {x1 : Int32} {x2 : Int32} {x3 : Int32} {k : Nat} (hk : gw_st k) (h : (((σ k 7) ≤ x3) → (Q (some (.int x2)) σ)) ∧ ((¬ (σ k 7) ≤ x3) → (vp_in x3 8 ∧ (((¬ (σ (k + 3) x3.toNatClampNeg) = x1) → (gG d mX3_allIn 4 [some (.ref k), some (.int x1), some (.int x2), some (.int (x3 + 1))] [] σ Q)) ∧ (((σ (k + 3) x3.toNatClampNeg) = x1) → (vp_in x3 8 ∧ (gG d mX3_allIn 4 [some (.ref k), some (.int x1), some (.int (x2 + (σ (k + 2) x3.toNatClampNeg))), some (.int (x3 + 1))] [] σ Q))))))) : gG d mX3_allIn 4 [some (.ref k), some (.int x1), some (.int x2), some (.int x3)] [] σ Q := by
  refine g_iload_n (pc2 := 5) dX3_allIn_4 rfl rfl ?_
  refine g_aload_n (pc2 := 6) dX3_allIn_5 rfl rfl ?_
  refine g_geti (pc2 := 9) dX3_allIn_6 fl_X3_33 hk.1 rfl rfl ?_
  refine g_icmp_ge (tgt := 37) (pc2 := 12) dX3_allIn_9 (by decide) rfl (fun c => ?_) (fun c => ?_)
  · have h := h.1 c
    refine g_iload_n (pc2 := 38) dX3_allIn_37 rfl rfl ?_
    exact g_iret dX3_allIn_38 rfl h
  · have h := h.2 c
    refine g_aload_n (pc2 := 13) dX3_allIn_12 rfl rfl ?_
    refine g_geta (pc2 := 16) dX3_allIn_13 fl_X3_18 hk.1 rfl rfl ?_
    refine g_iload_n (pc2 := 17) dX3_allIn_16 rfl rfl ?_
    obtain ⟨hx, h⟩ := h
    refine g_iald (pc2 := 18) dX3_allIn_17 (hk.2 2 (by decide)) hx rfl ?_
    refine g_iload_n (pc2 := 19) dX3_allIn_18 rfl rfl ?_
    refine g_icmp_ne (tgt := 31) (pc2 := 22) dX3_allIn_19 (by decide) rfl (fun c => ?_) (fun c => ?_)
    · have h := h.1 c
      refine g_iinc2 (c := 1) (pc2 := 34) dX3_allIn_31 rfl (by decide) (by decide) rfl rfl ?_
      refine g_goto (tgt := 4) dX3_allIn_34 (by decide) ?_
      exact g_lw (lv2 := [some (.ref k), some (.int x1), some (.int x2), some (.int (x3 + 1))]) ⟨rfl, ⟨rfl, ⟨rfl, ⟨rfl, trivial⟩⟩⟩⟩ h
    · have h := h.2 c
      refine g_iload_n (pc2 := 23) dX3_allIn_22 rfl rfl ?_
      refine g_aload_n (pc2 := 24) dX3_allIn_23 rfl rfl ?_
      refine g_geta (pc2 := 27) dX3_allIn_24 fl_X3_15 hk.1 rfl rfl ?_
      refine g_iload_n (pc2 := 28) dX3_allIn_27 rfl rfl ?_
      obtain ⟨hx, h⟩ := h
      refine g_iald (pc2 := 29) dX3_allIn_28 (hk.2 1 (by decide)) hx rfl ?_
      refine g_iadd (pc2 := 30) dX3_allIn_29 rfl ?_
      refine g_istore_n (pc2 := 31) dX3_allIn_30 (by decide) rfl rfl ?_
      refine g_iinc2 (c := 1) (pc2 := 34) dX3_allIn_31 rfl (by decide) (by decide) rfl rfl ?_
      refine g_goto (tgt := 4) dX3_allIn_34 (by decide) ?_
      exact g_lw (lv2 := [some (.ref k), some (.int x1), some (.int (x2 + (σ (k + 2) x3.toNatClampNeg))), some (.int (x3 + 1))]) ⟨rfl, ⟨rfl, ⟨rfl, ⟨rfl, trivial⟩⟩⟩⟩ h
set_option maxRecDepth 20000 in
theorem eX3_become {d : Nat} {σ : gw_S} {Q : Option Value → gw_S → Prop}  {k : Nat} {k1 : Nat} (hk : gw_st k) (hk1 : gw_st k1) (h : ∀ s1 : gw_S, s1 = gw_cp σ (k1 + 1) (k + 1) (0 : Int32).toNatClampNeg (0 : Int32).toNatClampNeg (8 : Int32).toNatClampNeg → (∀ s2 : gw_S, s2 = gw_cp s1 (k1 + 2) (k + 2) (0 : Int32).toNatClampNeg (0 : Int32).toNatClampNeg (8 : Int32).toNatClampNeg → (∀ s3 : gw_S, s3 = gw_cp s2 (k1 + 3) (k + 3) (0 : Int32).toNatClampNeg (0 : Int32).toNatClampNeg (8 : Int32).toNatClampNeg → (∀ s4 : gw_S, s4 = gw_cp s3 (k1 + 4) (k + 4) (0 : Int32).toNatClampNeg (0 : Int32).toNatClampNeg (8 : Int32).toNatClampNeg → (∀ s5 : gw_S, s5 = gw_cp s4 (k1 + 5) (k + 5) (0 : Int32).toNatClampNeg (0 : Int32).toNatClampNeg (8 : Int32).toNatClampNeg → (∀ s6 : gw_S, s6 = gw_cp s5 (k1 + 6) (k + 6) (0 : Int32).toNatClampNeg (0 : Int32).toNatClampNeg (8 : Int32).toNatClampNeg → (∀ s7 : gw_S, s7 = gw_cp s6 (k1 + 7) (k + 7) (0 : Int32).toNatClampNeg (0 : Int32).toNatClampNeg (8 : Int32).toNatClampNeg → (∀ s8 : gw_S, s8 = gw_u s7 k 7 (s7 k1 7) → (∀ s9 : gw_S, s9 = gw_u s8 k 8 (s8 k1 8) → (∀ s10 : gw_S, s10 = gw_u s9 k 9 (s9 k1 9) → (∀ s11 : gw_S, s11 = gw_u s10 k 10 (s10 k1 10) → (∀ s12 : gw_S, s12 = gw_u s11 k 11 (s11 k1 11) → (∀ s13 : gw_S, s13 = gw_u s12 k 12 (s12 k1 12) → (Q none s13)))))))))))))) : gB (d + 1) mX3_become [.ref k, .ref k1] σ Q := by
  refine gB_of rfl (Nat.le_of_ble_eq_true rfl) (g_lw (lv2 := [some (.ref k), some (.ref k1)]) ⟨rfl, ⟨rfl, trivial⟩⟩ ?_)
  refine g_aload_n (pc2 := 1) dX3_become_0 rfl rfl ?_
  refine g_geta (pc2 := 4) dX3_become_1 fl_X3_9 hk1.1 rfl rfl ?_
  refine g_iconst (v := 0) (pc2 := 5) dX3_become_4 (by decide) rfl ?_
  refine g_aload_n (pc2 := 6) dX3_become_5 rfl rfl ?_
  refine g_geta (pc2 := 9) dX3_become_6 fl_X3_9 hk.1 rfl rfl ?_
  refine g_iconst (v := 0) (pc2 := 10) dX3_become_9 (by decide) rfl ?_
  refine g_bipush (v := 8) (pc2 := 12) dX3_become_10 (by decide) rfl ?_
  refine g_copy2 (pc2 := 15) dX3_become_12 ml_X3_67 cpw (hk1.2 0 (by decide)) (hk.2 0 (by decide)) (by decide) (by decide) (by decide) (by decide) (by decide) (Nat.le_add_left 1 _) (Nat.le_of_ble_eq_true rfl) rfl (fun s1 es1 => ?_)
  replace h := h s1 es1
  refine g_aload_n (pc2 := 16) dX3_become_15 rfl rfl ?_
  refine g_geta (pc2 := 19) dX3_become_16 fl_X3_15 hk1.1 rfl rfl ?_
  refine g_iconst (v := 0) (pc2 := 20) dX3_become_19 (by decide) rfl ?_
  refine g_aload_n (pc2 := 21) dX3_become_20 rfl rfl ?_
  refine g_geta (pc2 := 24) dX3_become_21 fl_X3_15 hk.1 rfl rfl ?_
  refine g_iconst (v := 0) (pc2 := 25) dX3_become_24 (by decide) rfl ?_
  refine g_bipush (v := 8) (pc2 := 27) dX3_become_25 (by decide) rfl ?_
  refine g_copy2 (pc2 := 30) dX3_become_27 ml_X3_67 cpw (hk1.2 1 (by decide)) (hk.2 1 (by decide)) (by decide) (by decide) (by decide) (by decide) (by decide) (Nat.le_add_left 1 _) (Nat.le_of_ble_eq_true rfl) rfl (fun s2 es2 => ?_)
  replace h := h s2 es2
  refine g_aload_n (pc2 := 31) dX3_become_30 rfl rfl ?_
  refine g_geta (pc2 := 34) dX3_become_31 fl_X3_18 hk1.1 rfl rfl ?_
  refine g_iconst (v := 0) (pc2 := 35) dX3_become_34 (by decide) rfl ?_
  refine g_aload_n (pc2 := 36) dX3_become_35 rfl rfl ?_
  refine g_geta (pc2 := 39) dX3_become_36 fl_X3_18 hk.1 rfl rfl ?_
  refine g_iconst (v := 0) (pc2 := 40) dX3_become_39 (by decide) rfl ?_
  refine g_bipush (v := 8) (pc2 := 42) dX3_become_40 (by decide) rfl ?_
  refine g_copy2 (pc2 := 45) dX3_become_42 ml_X3_67 cpw (hk1.2 2 (by decide)) (hk.2 2 (by decide)) (by decide) (by decide) (by decide) (by decide) (by decide) (Nat.le_add_left 1 _) (Nat.le_of_ble_eq_true rfl) rfl (fun s3 es3 => ?_)
  replace h := h s3 es3
  refine g_aload_n (pc2 := 46) dX3_become_45 rfl rfl ?_
  refine g_geta (pc2 := 49) dX3_become_46 fl_X3_21 hk1.1 rfl rfl ?_
  refine g_iconst (v := 0) (pc2 := 50) dX3_become_49 (by decide) rfl ?_
  refine g_aload_n (pc2 := 51) dX3_become_50 rfl rfl ?_
  refine g_geta (pc2 := 54) dX3_become_51 fl_X3_21 hk.1 rfl rfl ?_
  refine g_iconst (v := 0) (pc2 := 55) dX3_become_54 (by decide) rfl ?_
  refine g_bipush (v := 8) (pc2 := 57) dX3_become_55 (by decide) rfl ?_
  refine g_copy2 (pc2 := 60) dX3_become_57 ml_X3_67 cpw (hk1.2 3 (by decide)) (hk.2 3 (by decide)) (by decide) (by decide) (by decide) (by decide) (by decide) (Nat.le_add_left 1 _) (Nat.le_of_ble_eq_true rfl) rfl (fun s4 es4 => ?_)
  replace h := h s4 es4
  refine g_aload_n (pc2 := 61) dX3_become_60 rfl rfl ?_
  refine g_geta (pc2 := 64) dX3_become_61 fl_X3_24 hk1.1 rfl rfl ?_
  refine g_iconst (v := 0) (pc2 := 65) dX3_become_64 (by decide) rfl ?_
  refine g_aload_n (pc2 := 66) dX3_become_65 rfl rfl ?_
  refine g_geta (pc2 := 69) dX3_become_66 fl_X3_24 hk.1 rfl rfl ?_
  refine g_iconst (v := 0) (pc2 := 70) dX3_become_69 (by decide) rfl ?_
  refine g_bipush (v := 8) (pc2 := 72) dX3_become_70 (by decide) rfl ?_
  refine g_copy2 (pc2 := 75) dX3_become_72 ml_X3_67 cpw (hk1.2 4 (by decide)) (hk.2 4 (by decide)) (by decide) (by decide) (by decide) (by decide) (by decide) (Nat.le_add_left 1 _) (Nat.le_of_ble_eq_true rfl) rfl (fun s5 es5 => ?_)
  replace h := h s5 es5
  refine g_aload_n (pc2 := 76) dX3_become_75 rfl rfl ?_
  refine g_geta (pc2 := 79) dX3_become_76 fl_X3_27 hk1.1 rfl rfl ?_
  refine g_iconst (v := 0) (pc2 := 80) dX3_become_79 (by decide) rfl ?_
  refine g_aload_n (pc2 := 81) dX3_become_80 rfl rfl ?_
  refine g_geta (pc2 := 84) dX3_become_81 fl_X3_27 hk.1 rfl rfl ?_
  refine g_iconst (v := 0) (pc2 := 85) dX3_become_84 (by decide) rfl ?_
  refine g_bipush (v := 8) (pc2 := 87) dX3_become_85 (by decide) rfl ?_
  refine g_copy2 (pc2 := 90) dX3_become_87 ml_X3_67 cpw (hk1.2 5 (by decide)) (hk.2 5 (by decide)) (by decide) (by decide) (by decide) (by decide) (by decide) (Nat.le_add_left 1 _) (Nat.le_of_ble_eq_true rfl) rfl (fun s6 es6 => ?_)
  replace h := h s6 es6
  refine g_aload_n (pc2 := 91) dX3_become_90 rfl rfl ?_
  refine g_geta (pc2 := 94) dX3_become_91 fl_X3_30 hk1.1 rfl rfl ?_
  refine g_iconst (v := 0) (pc2 := 95) dX3_become_94 (by decide) rfl ?_
  refine g_aload_n (pc2 := 96) dX3_become_95 rfl rfl ?_
  refine g_geta (pc2 := 99) dX3_become_96 fl_X3_30 hk.1 rfl rfl ?_
  refine g_iconst (v := 0) (pc2 := 100) dX3_become_99 (by decide) rfl ?_
  refine g_bipush (v := 8) (pc2 := 102) dX3_become_100 (by decide) rfl ?_
  refine g_copy2 (pc2 := 105) dX3_become_102 ml_X3_67 cpw (hk1.2 6 (by decide)) (hk.2 6 (by decide)) (by decide) (by decide) (by decide) (by decide) (by decide) (Nat.le_add_left 1 _) (Nat.le_of_ble_eq_true rfl) rfl (fun s7 es7 => ?_)
  replace h := h s7 es7
  refine g_aload_n (pc2 := 106) dX3_become_105 rfl rfl ?_
  refine g_aload_n (pc2 := 107) dX3_become_106 rfl rfl ?_
  refine g_geti (pc2 := 110) dX3_become_107 fl_X3_33 hk1.1 rfl rfl ?_
  refine g_put2 (pc2 := 113) dX3_become_110 fp_X3_33 hk.1 rfl rfl rfl rfl (fun s8 es8 => ?_)
  replace h := h s8 es8
  refine g_aload_n (pc2 := 114) dX3_become_113 rfl rfl ?_
  refine g_aload_n (pc2 := 115) dX3_become_114 rfl rfl ?_
  refine g_geti (pc2 := 118) dX3_become_115 fl_X3_37 hk1.1 rfl rfl ?_
  refine g_put2 (pc2 := 121) dX3_become_118 fp_X3_37 hk.1 rfl rfl rfl rfl (fun s9 es9 => ?_)
  replace h := h s9 es9
  refine g_aload_n (pc2 := 122) dX3_become_121 rfl rfl ?_
  refine g_aload_n (pc2 := 123) dX3_become_122 rfl rfl ?_
  refine g_geti (pc2 := 126) dX3_become_123 fl_X3_40 hk1.1 rfl rfl ?_
  refine g_put2 (pc2 := 129) dX3_become_126 fp_X3_40 hk.1 rfl rfl rfl rfl (fun s10 es10 => ?_)
  replace h := h s10 es10
  refine g_aload_n (pc2 := 130) dX3_become_129 rfl rfl ?_
  refine g_aload_n (pc2 := 131) dX3_become_130 rfl rfl ?_
  refine g_geti (pc2 := 134) dX3_become_131 fl_X3_43 hk1.1 rfl rfl ?_
  refine g_put2 (pc2 := 137) dX3_become_134 fp_X3_43 hk.1 rfl rfl rfl rfl (fun s11 es11 => ?_)
  replace h := h s11 es11
  refine g_aload_n (pc2 := 138) dX3_become_137 rfl rfl ?_
  refine g_aload_n (pc2 := 139) dX3_become_138 rfl rfl ?_
  refine g_geti (pc2 := 142) dX3_become_139 fl_X3_46 hk1.1 rfl rfl ?_
  refine g_put2 (pc2 := 145) dX3_become_142 fp_X3_46 hk.1 rfl rfl rfl rfl (fun s12 es12 => ?_)
  replace h := h s12 es12
  refine g_aload_n (pc2 := 146) dX3_become_145 rfl rfl ?_
  refine g_aload_n (pc2 := 147) dX3_become_146 rfl rfl ?_
  refine g_geti (pc2 := 150) dX3_become_147 fl_X3_49 hk1.1 rfl rfl ?_
  refine g_put2 (pc2 := 153) dX3_become_150 fp_X3_49 hk.1 rfl rfl rfl rfl (fun s13 es13 => ?_)
  replace h := h s13 es13
  exact g_vret dX3_become_153 rfl h
set_option maxRecDepth 20000 in
theorem eX3_begin {d : Nat} {σ : gw_S} {Q : Option Value → gw_S → Prop} {x2 : Int32} {x3 : Int32} {k : Nat} (hk : gw_st k) (h : ∀ s1 : gw_S, s1 = gw_u σ k 7 (σ 7 4) → (∀ s2 : gw_S, s2 = gw_u s1 k 8 0 → (gG (d + 1) mX3_begin 16 [some (.ref k), some (.ref 7), some (.int x2), some (.int x3), some (.int 0), none] [] s2 Q))) : gB (d + 1) mX3_begin [.ref k, .ref 7, .int x2, .int x3] σ Q := by
  refine gB_of rfl (Nat.le_of_ble_eq_true rfl) (g_lw (lv2 := [some (.ref k), some (.ref 7), some (.int x2), some (.int x3), none, none]) ⟨rfl, ⟨rfl, ⟨rfl, ⟨rfl, trivial⟩⟩⟩⟩ ?_)
  refine g_aload_n (pc2 := 1) dX3_begin_0 rfl rfl ?_
  refine g_aload_n (pc2 := 2) dX3_begin_1 rfl rfl ?_
  refine g_geti (pc2 := 5) dX3_begin_2 fl_X3_52 gk_7 rfl rfl ?_
  refine g_put2 (pc2 := 8) dX3_begin_5 fp_X3_33 hk.1 rfl rfl rfl rfl (fun s1 es1 => ?_)
  replace h := h s1 es1
  refine g_aload_n (pc2 := 9) dX3_begin_8 rfl rfl ?_
  refine g_iconst (v := 0) (pc2 := 10) dX3_begin_9 (by decide) rfl ?_
  refine g_put2 (pc2 := 13) dX3_begin_10 fp_X3_37 hk.1 rfl rfl rfl rfl (fun s2 es2 => ?_)
  replace h := h s2 es2
  refine g_iconst (v := 0) (pc2 := 14) dX3_begin_13 (by decide) rfl ?_
  refine g_istore (pc2 := 16) dX3_begin_14 (by decide) rfl rfl ?_
  exact g_lw (lv2 := [some (.ref k), some (.ref 7), some (.int x2), some (.int x3), some (.int 0), none]) ⟨rfl, ⟨rfl, ⟨rfl, ⟨rfl, ⟨rfl, trivial⟩⟩⟩⟩⟩ h
set_option maxRecDepth 20000 in
theorem bX3_begin_16 {d : Nat} {σ : gw_S} {Q : Option Value → gw_S → Prop} {x2 : Int32} {x3 : Int32} {x4 : Int32} {k : Nat} (hk : gw_st k) (h : (((σ k 7) ≤ x4) → (gB d mJ7_fill_53178 [.ref (k + 6), .int 0] σ (fun v σ3 => v = none ∧ (gB d mJ7_fill_53178 [.ref (k + 7), .int 0] σ3 (fun v σ4 => v = none ∧ (∀ s5 : gw_S, s5 = gw_u σ4 k 9 (((1 : Int32) <<< ((σ4 k 7) &&& 31)) - 1) → (∀ s6 : gw_S, s6 = gw_u s5 k 10 0 → (∀ s7 : gw_S, s7 = gw_u s6 k 11 0 → (∀ s8 : gw_S, s8 = gw_u s7 k 12 (-1) → (Q none s8)))))))))) ∧ ((¬ (σ k 7) ≤ x4) → (((¬ x4 = x2) → (((¬ x4 = x3) → (gG (d + 1) mX3_begin 47 [some (.ref k), some (.ref 7), some (.int x2), some (.int x3), some (.int x4), none] [.int x4] σ Q)) ∧ ((x4 = x3) → (gG (d + 1) mX3_begin 47 [some (.ref k), some (.ref 7), some (.int x2), some (.int x3), some (.int x4), none] [.int x2] σ Q)))) ∧ ((x4 = x2) → (gG (d + 1) mX3_begin 47 [some (.ref k), some (.ref 7), some (.int x2), some (.int x3), some (.int x4), none] [.int x3] σ Q))))) : gG (d + 1) mX3_begin 16 [some (.ref k), some (.ref 7), some (.int x2), some (.int x3), some (.int x4), none] [] σ Q := by
  refine g_iload (pc2 := 18) dX3_begin_16 rfl rfl ?_
  refine g_aload_n (pc2 := 19) dX3_begin_18 rfl rfl ?_
  refine g_geti (pc2 := 22) dX3_begin_19 fl_X3_33 hk.1 rfl rfl ?_
  refine g_icmp_ge (tgt := 135) (pc2 := 25) dX3_begin_22 (by decide) rfl (fun c => ?_) (fun c => ?_)
  · have h := h.1 c
    refine g_aload_n (pc2 := 136) dX3_begin_135 rfl rfl ?_
    refine g_geta (pc2 := 139) dX3_begin_136 fl_X3_27 hk.1 rfl rfl ?_
    refine g_iconst (v := 0) (pc2 := 140) dX3_begin_139 (by decide) rfl ?_
    refine g_callS (M2 := mJ7_fill_53178) (as := [.ref (k + 6), .int 0]) (st := []) (pc2 := 143) dX3_begin_140 ml_X3_61 msJ7_fill_53178 rfl rfl (Nat.le_of_ble_eq_true rfl) (Nat.le_refl _) rfl (h.mono ?_)
    rintro _ σ3 ⟨rfl, h⟩
    show gG (d + 1) mX3_begin 143 _ [] σ3 Q
    refine g_aload_n (pc2 := 144) dX3_begin_143 rfl rfl ?_
    refine g_geta (pc2 := 147) dX3_begin_144 fl_X3_30 hk.1 rfl rfl ?_
    refine g_iconst (v := 0) (pc2 := 148) dX3_begin_147 (by decide) rfl ?_
    refine g_callS (M2 := mJ7_fill_53178) (as := [.ref (k + 7), .int 0]) (st := []) (pc2 := 151) dX3_begin_148 ml_X3_61 msJ7_fill_53178 rfl rfl (Nat.le_of_ble_eq_true rfl) (Nat.le_refl _) rfl (h.mono ?_)
    rintro _ σ4 ⟨rfl, h⟩
    show gG (d + 1) mX3_begin 151 _ [] σ4 Q
    refine g_aload_n (pc2 := 152) dX3_begin_151 rfl rfl ?_
    refine g_iconst (v := 1) (pc2 := 153) dX3_begin_152 (by decide) rfl ?_
    refine g_aload_n (pc2 := 154) dX3_begin_153 rfl rfl ?_
    refine g_geti (pc2 := 157) dX3_begin_154 fl_X3_33 hk.1 rfl rfl ?_
    refine g_ishl (pc2 := 158) dX3_begin_157 rfl ?_
    refine g_iconst (v := 1) (pc2 := 159) dX3_begin_158 (by decide) rfl ?_
    refine g_isub (pc2 := 160) dX3_begin_159 rfl ?_
    refine g_put2 (pc2 := 163) dX3_begin_160 fp_X3_40 hk.1 rfl rfl rfl rfl (fun s5 es5 => ?_)
    replace h := h s5 es5
    refine g_aload_n (pc2 := 164) dX3_begin_163 rfl rfl ?_
    refine g_iconst (v := 0) (pc2 := 165) dX3_begin_164 (by decide) rfl ?_
    refine g_put2 (pc2 := 168) dX3_begin_165 fp_X3_43 hk.1 rfl rfl rfl rfl (fun s6 es6 => ?_)
    replace h := h s6 es6
    refine g_aload_n (pc2 := 169) dX3_begin_168 rfl rfl ?_
    refine g_iconst (v := 0) (pc2 := 170) dX3_begin_169 (by decide) rfl ?_
    refine g_put2 (pc2 := 173) dX3_begin_170 fp_X3_46 hk.1 rfl rfl rfl rfl (fun s7 es7 => ?_)
    replace h := h s7 es7
    refine g_aload_n (pc2 := 174) dX3_begin_173 rfl rfl ?_
    refine g_iconst (v := (-1)) (pc2 := 175) dX3_begin_174 (by decide) rfl ?_
    refine g_put2 (pc2 := 178) dX3_begin_175 fp_X3_49 hk.1 rfl rfl rfl rfl (fun s8 es8 => ?_)
    replace h := h s8 es8
    exact g_vret dX3_begin_178 rfl h
  · have h := h.2 c
    refine g_iload (pc2 := 27) dX3_begin_25 rfl rfl ?_
    refine g_iload_n (pc2 := 28) dX3_begin_27 rfl rfl ?_
    refine g_icmp_ne (tgt := 35) (pc2 := 31) dX3_begin_28 (by decide) rfl (fun c => ?_) (fun c => ?_)
    · have h := h.1 c
      refine g_iload (pc2 := 37) dX3_begin_35 rfl rfl ?_
      refine g_iload_n (pc2 := 38) dX3_begin_37 rfl rfl ?_
      refine g_icmp_ne (tgt := 45) (pc2 := 41) dX3_begin_38 (by decide) rfl (fun c => ?_) (fun c => ?_)
      · have h := h.1 c
        refine g_iload (pc2 := 47) dX3_begin_45 rfl rfl ?_
        exact g_lw (lv2 := [some (.ref k), some (.ref 7), some (.int x2), some (.int x3), some (.int x4), none]) ⟨rfl, ⟨rfl, ⟨rfl, ⟨rfl, ⟨rfl, trivial⟩⟩⟩⟩⟩ h
      · have h := h.2 c
        refine g_iload_n (pc2 := 42) dX3_begin_41 rfl rfl ?_
        refine g_goto (tgt := 47) dX3_begin_42 (by decide) ?_
        exact g_lw (lv2 := [some (.ref k), some (.ref 7), some (.int x2), some (.int x3), some (.int x4), none]) ⟨rfl, ⟨rfl, ⟨rfl, ⟨rfl, ⟨rfl, trivial⟩⟩⟩⟩⟩ h
    · have h := h.2 c
      refine g_iload_n (pc2 := 32) dX3_begin_31 rfl rfl ?_
      refine g_goto (tgt := 47) dX3_begin_32 (by decide) ?_
      exact g_lw (lv2 := [some (.ref k), some (.ref 7), some (.int x2), some (.int x3), some (.int x4), none]) ⟨rfl, ⟨rfl, ⟨rfl, ⟨rfl, ⟨rfl, trivial⟩⟩⟩⟩⟩ h
set_option maxRecDepth 20000 in
theorem bX3_begin_47 {d : Nat} {σ : gw_S} {Q : Option Value → gw_S → Prop} {x2 : Int32} {x3 : Int32} {x4 : Int32} {s0 : Int32} {k : Nat} (hk : gw_st k) (h : vp_in s0 8 ∧ (vp_in x4 8 ∧ (∀ s9 : gw_S, s9 = gw_u σ (k + 1) x4.toNatClampNeg (σ 8 s0.toNatClampNeg) → (vp_in s0 8 ∧ (vp_in x4 8 ∧ (∀ s10 : gw_S, s10 = gw_u s9 (k + 2) x4.toNatClampNeg (s9 9 s0.toNatClampNeg) → (vp_in x4 8 ∧ (∀ s11 : gw_S, s11 = gw_u s10 (k + 3) x4.toNatClampNeg x4 → (vp_in s0 8 ∧ (vp_in x4 8 ∧ (∀ s12 : gw_S, s12 = gw_u s11 (k + 4) x4.toNatClampNeg (s11 10 s0.toNatClampNeg) → (vp_in x4 8 ∧ (∀ s13 : gw_S, s13 = gw_u s12 (k + 5) x4.toNatClampNeg 0 → (∀ s14 : gw_S, s14 = gw_u s13 k 8 ((s13 k 8) ||| ((((s13 7 3) >>> (s0 &&& 31)) &&& 1) <<< (x4 &&& 31))) → (gG (d + 1) mX3_begin 16 [some (.ref k), some (.ref 7), some (.int x2), some (.int x3), some (.int (x4 + 1)), none] [] s14 Q))))))))))))))) : gG (d + 1) mX3_begin 47 [some (.ref k), some (.ref 7), some (.int x2), some (.int x3), some (.int x4), none] [.int s0] σ Q := by
  refine g_istore (pc2 := 49) dX3_begin_47 (by decide) rfl rfl ?_
  refine g_aload_n (pc2 := 50) dX3_begin_49 rfl rfl ?_
  refine g_geta (pc2 := 53) dX3_begin_50 fl_X3_9 hk.1 rfl rfl ?_
  refine g_iload (pc2 := 55) dX3_begin_53 rfl rfl ?_
  refine g_aload_n (pc2 := 56) dX3_begin_55 rfl rfl ?_
  refine g_geta (pc2 := 59) dX3_begin_56 fl_X3_55 gk_7 rfl rfl ?_
  refine g_iload (pc2 := 61) dX3_begin_59 rfl rfl ?_
  obtain ⟨hx, h⟩ := h
  refine g_iald (pc2 := 62) dX3_begin_61 gk_8 hx rfl ?_
  obtain ⟨hx, h⟩ := h
  refine g_iast2 (pc2 := 63) dX3_begin_62 (hk.2 0 (by decide)) hx rfl (fun s9 es9 => ?_)
  replace h := h s9 es9
  refine g_aload_n (pc2 := 64) dX3_begin_63 rfl rfl ?_
  refine g_geta (pc2 := 67) dX3_begin_64 fl_X3_15 hk.1 rfl rfl ?_
  refine g_iload (pc2 := 69) dX3_begin_67 rfl rfl ?_
  refine g_aload_n (pc2 := 70) dX3_begin_69 rfl rfl ?_
  refine g_geta (pc2 := 73) dX3_begin_70 fl_X3_56 gk_7 rfl rfl ?_
  refine g_iload (pc2 := 75) dX3_begin_73 rfl rfl ?_
  obtain ⟨hx, h⟩ := h
  refine g_iald (pc2 := 76) dX3_begin_75 gk_9 hx rfl ?_
  obtain ⟨hx, h⟩ := h
  refine g_iast2 (pc2 := 77) dX3_begin_76 (hk.2 1 (by decide)) hx rfl (fun s10 es10 => ?_)
  replace h := h s10 es10
  refine g_aload_n (pc2 := 78) dX3_begin_77 rfl rfl ?_
  refine g_geta (pc2 := 81) dX3_begin_78 fl_X3_18 hk.1 rfl rfl ?_
  refine g_iload (pc2 := 83) dX3_begin_81 rfl rfl ?_
  refine g_iload (pc2 := 85) dX3_begin_83 rfl rfl ?_
  obtain ⟨hx, h⟩ := h
  refine g_iast2 (pc2 := 86) dX3_begin_85 (hk.2 2 (by decide)) hx rfl (fun s11 es11 => ?_)
  replace h := h s11 es11
  refine g_aload_n (pc2 := 87) dX3_begin_86 rfl rfl ?_
  refine g_geta (pc2 := 90) dX3_begin_87 fl_X3_21 hk.1 rfl rfl ?_
  refine g_iload (pc2 := 92) dX3_begin_90 rfl rfl ?_
  refine g_aload_n (pc2 := 93) dX3_begin_92 rfl rfl ?_
  refine g_geta (pc2 := 96) dX3_begin_93 fl_X3_59 gk_7 rfl rfl ?_
  refine g_iload (pc2 := 98) dX3_begin_96 rfl rfl ?_
  obtain ⟨hx, h⟩ := h
  refine g_iald (pc2 := 99) dX3_begin_98 gk_10 hx rfl ?_
  obtain ⟨hx, h⟩ := h
  refine g_iast2 (pc2 := 100) dX3_begin_99 (hk.2 3 (by decide)) hx rfl (fun s12 es12 => ?_)
  replace h := h s12 es12
  refine g_aload_n (pc2 := 101) dX3_begin_100 rfl rfl ?_
  refine g_geta (pc2 := 104) dX3_begin_101 fl_X3_24 hk.1 rfl rfl ?_
  refine g_iload (pc2 := 106) dX3_begin_104 rfl rfl ?_
  refine g_iconst (v := 0) (pc2 := 107) dX3_begin_106 (by decide) rfl ?_
  obtain ⟨hx, h⟩ := h
  refine g_iast2 (pc2 := 108) dX3_begin_107 (hk.2 4 (by decide)) hx rfl (fun s13 es13 => ?_)
  replace h := h s13 es13
  refine g_aload_n (pc2 := 109) dX3_begin_108 rfl rfl ?_
  refine g_dup (pc2 := 110) dX3_begin_109 rfl rfl ?_
  refine g_geti (pc2 := 113) dX3_begin_110 fl_X3_37 hk.1 rfl rfl ?_
  refine g_aload_n (pc2 := 114) dX3_begin_113 rfl rfl ?_
  refine g_geti (pc2 := 117) dX3_begin_114 fl_X3_60 gk_7 rfl rfl ?_
  refine g_iload (pc2 := 119) dX3_begin_117 rfl rfl ?_
  refine g_ishr (pc2 := 120) dX3_begin_119 rfl ?_
  refine g_iconst (v := 1) (pc2 := 121) dX3_begin_120 (by decide) rfl ?_
  refine g_iand (pc2 := 122) dX3_begin_121 rfl ?_
  refine g_iload (pc2 := 124) dX3_begin_122 rfl rfl ?_
  refine g_ishl (pc2 := 125) dX3_begin_124 rfl ?_
  refine g_ior (pc2 := 126) dX3_begin_125 rfl ?_
  refine g_put2 (pc2 := 129) dX3_begin_126 fp_X3_37 hk.1 rfl rfl rfl rfl (fun s14 es14 => ?_)
  replace h := h s14 es14
  refine g_iinc2 (c := 1) (pc2 := 132) dX3_begin_129 rfl (by decide) (by decide) rfl rfl ?_
  refine g_goto (tgt := 16) dX3_begin_132 (by decide) ?_
  exact g_lw (lv2 := [some (.ref k), some (.ref 7), some (.int x2), some (.int x3), some (.int (x4 + 1)), none]) ⟨rfl, ⟨rfl, ⟨rfl, ⟨rfl, ⟨rfl, trivial⟩⟩⟩⟩⟩ h
set_option maxRecDepth 20000 in
theorem eX3_burstAll {d : Nat} {σ : gw_S} {Q : Option Value → gw_S → Prop} {x1 : Int32} {k : Nat} (hk : gw_st k) (h : gG (d + 1) mX3_burstAll 2 [some (.ref k), some (.int x1), some (.int 0)] [] σ Q) : gB (d + 1) mX3_burstAll [.ref k, .int x1] σ Q := by
  refine gB_of rfl (Nat.le_of_ble_eq_true rfl) (g_lw (lv2 := [some (.ref k), some (.int x1), none]) ⟨rfl, ⟨rfl, trivial⟩⟩ ?_)
  refine g_iconst (v := 0) (pc2 := 1) dX3_burstAll_0 (by decide) rfl ?_
  refine g_istore_n (pc2 := 2) dX3_burstAll_1 (by decide) rfl rfl ?_
  exact g_lw (lv2 := [some (.ref k), some (.int x1), some (.int 0)]) ⟨rfl, ⟨rfl, ⟨rfl, trivial⟩⟩⟩ h
set_option maxRecDepth 20000 in
theorem bX3_burstAll_2 {d : Nat} {σ : gw_S} {Q : Option Value → gw_S → Prop} {x1 : Int32} {x2 : Int32} {k : Nat} (hk : gw_st k) (h : (((σ k 7) ≤ x2) → (Q none σ)) ∧ ((¬ (σ k 7) ≤ x2) → (((¬ ((x1 >>> (x2 &&& 31)) &&& 1) = 1) → (gG (d + 1) mX3_burstAll 2 [some (.ref k), some (.int x1), some (.int (x2 + 1))] [] σ Q)) ∧ ((((x1 >>> (x2 &&& 31)) &&& 1) = 1) → (gB d mX3_letGo [.ref k, .int x2, .ref (k + 7)] σ (fun v σ1 => v = none ∧ (gG (d + 1) mX3_burstAll 2 [some (.ref k), some (.int x1), some (.int (x2 + 1))] [] σ1 Q))))))) : gG (d + 1) mX3_burstAll 2 [some (.ref k), some (.int x1), some (.int x2)] [] σ Q := by
  refine g_iload_n (pc2 := 3) dX3_burstAll_2 rfl rfl ?_
  refine g_aload_n (pc2 := 4) dX3_burstAll_3 rfl rfl ?_
  refine g_geti (pc2 := 7) dX3_burstAll_4 fl_X3_33 hk.1 rfl rfl ?_
  refine g_icmp_ge (tgt := 34) (pc2 := 10) dX3_burstAll_7 (by decide) rfl (fun c => ?_) (fun c => ?_)
  · have h := h.1 c
    exact g_vret dX3_burstAll_34 rfl h
  · have h := h.2 c
    refine g_iload_n (pc2 := 11) dX3_burstAll_10 rfl rfl ?_
    refine g_iload_n (pc2 := 12) dX3_burstAll_11 rfl rfl ?_
    refine g_ishr (pc2 := 13) dX3_burstAll_12 rfl ?_
    refine g_iconst (v := 1) (pc2 := 14) dX3_burstAll_13 (by decide) rfl ?_
    refine g_iand (pc2 := 15) dX3_burstAll_14 rfl ?_
    refine g_iconst (v := 1) (pc2 := 16) dX3_burstAll_15 (by decide) rfl ?_
    refine g_icmp_ne (tgt := 28) (pc2 := 19) dX3_burstAll_16 (by decide) rfl (fun c => ?_) (fun c => ?_)
    · have h := h.1 c
      refine g_iinc2 (c := 1) (pc2 := 31) dX3_burstAll_28 rfl (by decide) (by decide) rfl rfl ?_
      refine g_goto (tgt := 2) dX3_burstAll_31 (by decide) ?_
      exact g_lw (lv2 := [some (.ref k), some (.int x1), some (.int (x2 + 1))]) ⟨rfl, ⟨rfl, ⟨rfl, trivial⟩⟩⟩ h
    · have h := h.2 c
      refine g_aload_n (pc2 := 20) dX3_burstAll_19 rfl rfl ?_
      refine g_iload_n (pc2 := 21) dX3_burstAll_20 rfl rfl ?_
      refine g_aload_n (pc2 := 22) dX3_burstAll_21 rfl rfl ?_
      refine g_geta (pc2 := 25) dX3_burstAll_22 fl_X3_30 hk.1 rfl rfl ?_
      refine g_callV (M2 := mX3_letGo) (as := [.int x2, .ref (k + 7)]) (st := []) (pc2 := 28) dX3_burstAll_25 ml_X3_130 mvX3_letGo hk.1 rfl rfl rfl (Nat.le_of_ble_eq_true rfl) (Nat.le_refl _) rfl (h.mono ?_)
      rintro _ σ1 ⟨rfl, h⟩
      show gG (d + 1) mX3_burstAll 28 _ [] σ1 Q
      refine g_iinc2 (c := 1) (pc2 := 31) dX3_burstAll_28 rfl (by decide) (by decide) rfl rfl ?_
      refine g_goto (tgt := 2) dX3_burstAll_31 (by decide) ?_
      exact g_lw (lv2 := [some (.ref k), some (.int x1), some (.int (x2 + 1))]) ⟨rfl, ⟨rfl, ⟨rfl, trivial⟩⟩⟩ h
set_option maxRecDepth 20000 in
theorem eX3_doAct {d : Nat} {σ : gw_S} {Q : Option Value → gw_S → Prop} {x1 : Int32} {x2 : Int32} {x3 : Int32} {k : Nat} (hk : gw_st k) (h : gB d mX8_isWithin [.int x2, .int (σ k 7)] σ (fun v σ1 => ∃ r2 : Int32, v = some (.int r2) ∧ (((¬ r2 = 0) → ((x1 = 0 → (vp_in x2 8 ∧ ((((σ1 (k + 5) x2.toNatClampNeg) = x3) → (vp_in x2 8 ∧ (∀ s3 : gw_S, s3 = gw_u σ1 (k + 5) x2.toNatClampNeg x3 → (Q (some (.int 0)) s3)))) ∧ ((¬ (σ1 (k + 5) x2.toNatClampNeg) = x3) → (vp_in x2 8 ∧ (∀ s4 : gw_S, s4 = gw_u σ1 (k + 5) x2.toNatClampNeg x3 → (Q (some (.int 1)) s4))))))) ∧ (x1 = 1 → (((x2 = x3) → ((((0 : Int32) = 0) → (Q (some (.int 0)) σ1)) ∧ ((¬ (0 : Int32) = 0) → (gB d mX3_pourInto [.ref k, .int x2, .int x3] σ1 (fun v σ5 => v = none ∧ (Q (some (.int 0)) σ5)))))) ∧ ((¬ x2 = x3) → (gB d mX3_isWhole [.ref k, .int x2] σ1 (fun v σ6 => ∃ r7 : Int32, v = some (.int r7) ∧ (((r7 = 0) → ((((0 : Int32) = 0) → (Q (some (.int 0)) σ6)) ∧ ((¬ (0 : Int32) = 0) → (gB d mX3_pourInto [.ref k, .int x2, .int x3] σ6 (fun v σ8 => v = none ∧ (Q (some (.int 0)) σ8)))))) ∧ ((¬ r7 = 0) → (gB d mX3_isWhole [.ref k, .int x3] σ6 (fun v σ9 => ∃ r10 : Int32, v = some (.int r10) ∧ (((r10 = 0) → ((((0 : Int32) = 0) → (Q (some (.int 0)) σ9)) ∧ ((¬ (0 : Int32) = 0) → (gB d mX3_pourInto [.ref k, .int x2, .int x3] σ9 (fun v σ11 => v = none ∧ (Q (some (.int 0)) σ11)))))) ∧ ((¬ r10 = 0) → ((((1 : Int32) = 0) → (Q (some (.int 1)) σ9)) ∧ ((¬ (1 : Int32) = 0) → (gB d mX3_pourInto [.ref k, .int x2, .int x3] σ9 (fun v σ12 => v = none ∧ (Q (some (.int 1)) σ12)))))))))))))))) ∧ (x1 = 2 → (gB d mX3_isWhole [.ref k, .int x2] σ1 (fun v σ13 => ∃ r14 : Int32, v = some (.int r14) ∧ (gB d mX3_letGo [.ref k, .int x2, .ref (k + 6)] σ13 (fun v σ15 => v = none ∧ (narrow .boolean (.int r14) = .int r14 ∧ Q (some (.int r14)) σ15)))))) ∧ (x1 = 3 → (vp_in x2 8 ∧ ((((σ1 (k + 4) x2.toNatClampNeg) = 9) → (vp_in x2 8 ∧ (∀ s16 : gw_S, s16 = gw_u σ1 (k + 4) x2.toNatClampNeg 9 → (Q (some (.int 0)) s16)))) ∧ ((¬ (σ1 (k + 4) x2.toNatClampNeg) = 9) → (vp_in x2 8 ∧ (∀ s17 : gw_S, s17 = gw_u σ1 (k + 4) x2.toNatClampNeg 9 → (Q (some (.int 1)) s17))))))) ∧ (¬ x1 = 0 → ¬ x1 = 1 → ¬ x1 = 2 → ¬ x1 = 3 → (Q (some (.int 0)) σ1)))) ∧ ((r2 = 0) → (Q (some (.int 0)) σ1))))) : gB (d + 1) mX3_doAct [.ref k, .int x1, .int x2, .int x3] σ Q := by
  refine gB_of rfl (Nat.le_of_ble_eq_true rfl) (g_lw (lv2 := [some (.ref k), some (.int x1), some (.int x2), some (.int x3), none]) ⟨rfl, ⟨rfl, ⟨rfl, ⟨rfl, trivial⟩⟩⟩⟩ ?_)
  refine g_iload_n (pc2 := 1) dX3_doAct_0 rfl rfl ?_
  refine g_aload_n (pc2 := 2) dX3_doAct_1 rfl rfl ?_
  refine g_geti (pc2 := 5) dX3_doAct_2 fl_X3_33 hk.1 rfl rfl ?_
  refine g_callN (M2 := mX8_isWithin) (as := [.int x2, .int (σ k 7)]) (st := []) (pc2 := 8) dX3_doAct_5 (Or.inr rfl) msX8_isWithin rfl rfl (Nat.le_of_ble_eq_true rfl) (Nat.le_refl _) rfl (h.mono ?_)
  rintro _ σ1 ⟨r2, rfl, h⟩
  show gG (d + 1) mX3_doAct 8 _ [.int r2] σ1 Q
  refine g_if_ne (tgt := 13) (pc2 := 11) dX3_doAct_8 (by decide) rfl (fun c => ?_) (fun c => ?_)
  · have h := h.1 c
    refine g_iconst (v := 0) (pc2 := 14) dX3_doAct_13 (by decide) rfl ?_
    refine g_istore (pc2 := 16) dX3_doAct_14 (by decide) rfl rfl ?_
    refine g_iload_n (pc2 := 17) dX3_doAct_16 rfl rfl ?_
    by_cases c0 : x1 = 0
    · have h := h.1 c0
      refine g_tabIn (x := x1) (tgt := 48) dX3_doAct_17 (by rw [c0]; decide) (by rw [c0]; decide) (by rw [c0]; rfl) (by decide) ?_
      refine g_aload_n (pc2 := 49) dX3_doAct_48 rfl rfl ?_
      refine g_geta (pc2 := 52) dX3_doAct_49 fl_X3_24 hk.1 rfl rfl ?_
      refine g_iload_n (pc2 := 53) dX3_doAct_52 rfl rfl ?_
      obtain ⟨hx, h⟩ := h
      refine g_iald (pc2 := 54) dX3_doAct_53 (hk.2 4 (by decide)) hx rfl ?_
      refine g_iload_n (pc2 := 55) dX3_doAct_54 rfl rfl ?_
      refine g_icmp_eq (tgt := 62) (pc2 := 58) dX3_doAct_55 (by decide) rfl (fun c => ?_) (fun c => ?_)
      · have h := h.1 c
        refine g_iconst (v := 0) (pc2 := 63) dX3_doAct_62 (by decide) rfl ?_
        refine g_istore (pc2 := 65) dX3_doAct_63 (by decide) rfl rfl ?_
        refine g_aload_n (pc2 := 66) dX3_doAct_65 rfl rfl ?_
        refine g_geta (pc2 := 69) dX3_doAct_66 fl_X3_24 hk.1 rfl rfl ?_
        refine g_iload_n (pc2 := 70) dX3_doAct_69 rfl rfl ?_
        refine g_iload_n (pc2 := 71) dX3_doAct_70 rfl rfl ?_
        obtain ⟨hx, h⟩ := h
        refine g_iast2 (pc2 := 72) dX3_doAct_71 (hk.2 4 (by decide)) hx rfl (fun s3 es3 => ?_)
        replace h := h s3 es3
        refine g_goto (tgt := 165) dX3_doAct_72 (by decide) ?_
        refine g_iload (pc2 := 167) dX3_doAct_165 rfl rfl ?_
        exact g_zret dX3_doAct_167 rfl rfl h
      · have h := h.2 c
        refine g_iconst (v := 1) (pc2 := 59) dX3_doAct_58 (by decide) rfl ?_
        refine g_goto (tgt := 63) dX3_doAct_59 (by decide) ?_
        refine g_istore (pc2 := 65) dX3_doAct_63 (by decide) rfl rfl ?_
        refine g_aload_n (pc2 := 66) dX3_doAct_65 rfl rfl ?_
        refine g_geta (pc2 := 69) dX3_doAct_66 fl_X3_24 hk.1 rfl rfl ?_
        refine g_iload_n (pc2 := 70) dX3_doAct_69 rfl rfl ?_
        refine g_iload_n (pc2 := 71) dX3_doAct_70 rfl rfl ?_
        obtain ⟨hx, h⟩ := h
        refine g_iast2 (pc2 := 72) dX3_doAct_71 (hk.2 4 (by decide)) hx rfl (fun s4 es4 => ?_)
        replace h := h s4 es4
        refine g_goto (tgt := 165) dX3_doAct_72 (by decide) ?_
        refine g_iload (pc2 := 167) dX3_doAct_165 rfl rfl ?_
        exact g_zret dX3_doAct_167 rfl rfl h
    replace h := h.2
    by_cases c1 : x1 = 1
    · have h := h.1 c1
      refine g_tabIn (x := x1) (tgt := 75) dX3_doAct_17 (by rw [c1]; decide) (by rw [c1]; decide) (by rw [c1]; rfl) (by decide) ?_
      refine g_iload_n (pc2 := 76) dX3_doAct_75 rfl rfl ?_
      refine g_iload_n (pc2 := 77) dX3_doAct_76 rfl rfl ?_
      refine g_icmp_eq (tgt := 100) (pc2 := 80) dX3_doAct_77 (by decide) rfl (fun c => ?_) (fun c => ?_)
      · have h := h.1 c
        refine g_iconst (v := 0) (pc2 := 101) dX3_doAct_100 (by decide) rfl ?_
        refine g_istore (pc2 := 103) dX3_doAct_101 (by decide) rfl rfl ?_
        refine g_iload (pc2 := 105) dX3_doAct_103 rfl rfl ?_
        refine g_if_eq (tgt := 165) (pc2 := 108) dX3_doAct_105 (by decide) rfl (fun c => ?_) (fun c => ?_)
        · have h := h.1 c
          refine g_iload (pc2 := 167) dX3_doAct_165 rfl rfl ?_
          exact g_zret dX3_doAct_167 rfl rfl h
        · have h := h.2 c
          refine g_aload_n (pc2 := 109) dX3_doAct_108 rfl rfl ?_
          refine g_iload_n (pc2 := 110) dX3_doAct_109 rfl rfl ?_
          refine g_iload_n (pc2 := 111) dX3_doAct_110 rfl rfl ?_
          refine g_callV (M2 := mX3_pourInto) (as := [.int x2, .int x3]) (st := []) (pc2 := 114) dX3_doAct_111 ml_X3_126 mvX3_pourInto hk.1 rfl rfl rfl (Nat.le_of_ble_eq_true rfl) (Nat.le_refl _) rfl (h.mono ?_)
          rintro _ σ5 ⟨rfl, h⟩
          show gG (d + 1) mX3_doAct 114 _ [] σ5 Q
          refine g_goto (tgt := 165) dX3_doAct_114 (by decide) ?_
          refine g_iload (pc2 := 167) dX3_doAct_165 rfl rfl ?_
          exact g_zret dX3_doAct_167 rfl rfl h
      · have h := h.2 c
        refine g_aload_n (pc2 := 81) dX3_doAct_80 rfl rfl ?_
        refine g_iload_n (pc2 := 82) dX3_doAct_81 rfl rfl ?_
        refine g_callV (M2 := mX3_isWhole) (as := [.int x2]) (st := []) (pc2 := 85) dX3_doAct_82 ml_X3_123 mvX3_isWhole hk.1 rfl rfl rfl (Nat.le_of_ble_eq_true rfl) (Nat.le_refl _) rfl (h.mono ?_)
        rintro _ σ6 ⟨r7, rfl, h⟩
        show gG (d + 1) mX3_doAct 85 _ [.int r7] σ6 Q
        refine g_if_eq (tgt := 100) (pc2 := 88) dX3_doAct_85 (by decide) rfl (fun c => ?_) (fun c => ?_)
        · have h := h.1 c
          refine g_iconst (v := 0) (pc2 := 101) dX3_doAct_100 (by decide) rfl ?_
          refine g_istore (pc2 := 103) dX3_doAct_101 (by decide) rfl rfl ?_
          refine g_iload (pc2 := 105) dX3_doAct_103 rfl rfl ?_
          refine g_if_eq (tgt := 165) (pc2 := 108) dX3_doAct_105 (by decide) rfl (fun c => ?_) (fun c => ?_)
          · have h := h.1 c
            refine g_iload (pc2 := 167) dX3_doAct_165 rfl rfl ?_
            exact g_zret dX3_doAct_167 rfl rfl h
          · have h := h.2 c
            refine g_aload_n (pc2 := 109) dX3_doAct_108 rfl rfl ?_
            refine g_iload_n (pc2 := 110) dX3_doAct_109 rfl rfl ?_
            refine g_iload_n (pc2 := 111) dX3_doAct_110 rfl rfl ?_
            refine g_callV (M2 := mX3_pourInto) (as := [.int x2, .int x3]) (st := []) (pc2 := 114) dX3_doAct_111 ml_X3_126 mvX3_pourInto hk.1 rfl rfl rfl (Nat.le_of_ble_eq_true rfl) (Nat.le_refl _) rfl (h.mono ?_)
            rintro _ σ8 ⟨rfl, h⟩
            show gG (d + 1) mX3_doAct 114 _ [] σ8 Q
            refine g_goto (tgt := 165) dX3_doAct_114 (by decide) ?_
            refine g_iload (pc2 := 167) dX3_doAct_165 rfl rfl ?_
            exact g_zret dX3_doAct_167 rfl rfl h
        · have h := h.2 c
          refine g_aload_n (pc2 := 89) dX3_doAct_88 rfl rfl ?_
          refine g_iload_n (pc2 := 90) dX3_doAct_89 rfl rfl ?_
          refine g_callV (M2 := mX3_isWhole) (as := [.int x3]) (st := []) (pc2 := 93) dX3_doAct_90 ml_X3_123 mvX3_isWhole hk.1 rfl rfl rfl (Nat.le_of_ble_eq_true rfl) (Nat.le_refl _) rfl (h.mono ?_)
          rintro _ σ9 ⟨r10, rfl, h⟩
          show gG (d + 1) mX3_doAct 93 _ [.int r10] σ9 Q
          refine g_if_eq (tgt := 100) (pc2 := 96) dX3_doAct_93 (by decide) rfl (fun c => ?_) (fun c => ?_)
          · have h := h.1 c
            refine g_iconst (v := 0) (pc2 := 101) dX3_doAct_100 (by decide) rfl ?_
            refine g_istore (pc2 := 103) dX3_doAct_101 (by decide) rfl rfl ?_
            refine g_iload (pc2 := 105) dX3_doAct_103 rfl rfl ?_
            refine g_if_eq (tgt := 165) (pc2 := 108) dX3_doAct_105 (by decide) rfl (fun c => ?_) (fun c => ?_)
            · have h := h.1 c
              refine g_iload (pc2 := 167) dX3_doAct_165 rfl rfl ?_
              exact g_zret dX3_doAct_167 rfl rfl h
            · have h := h.2 c
              refine g_aload_n (pc2 := 109) dX3_doAct_108 rfl rfl ?_
              refine g_iload_n (pc2 := 110) dX3_doAct_109 rfl rfl ?_
              refine g_iload_n (pc2 := 111) dX3_doAct_110 rfl rfl ?_
              refine g_callV (M2 := mX3_pourInto) (as := [.int x2, .int x3]) (st := []) (pc2 := 114) dX3_doAct_111 ml_X3_126 mvX3_pourInto hk.1 rfl rfl rfl (Nat.le_of_ble_eq_true rfl) (Nat.le_refl _) rfl (h.mono ?_)
              rintro _ σ11 ⟨rfl, h⟩
              show gG (d + 1) mX3_doAct 114 _ [] σ11 Q
              refine g_goto (tgt := 165) dX3_doAct_114 (by decide) ?_
              refine g_iload (pc2 := 167) dX3_doAct_165 rfl rfl ?_
              exact g_zret dX3_doAct_167 rfl rfl h
          · have h := h.2 c
            refine g_iconst (v := 1) (pc2 := 97) dX3_doAct_96 (by decide) rfl ?_
            refine g_goto (tgt := 101) dX3_doAct_97 (by decide) ?_
            refine g_istore (pc2 := 103) dX3_doAct_101 (by decide) rfl rfl ?_
            refine g_iload (pc2 := 105) dX3_doAct_103 rfl rfl ?_
            refine g_if_eq (tgt := 165) (pc2 := 108) dX3_doAct_105 (by decide) rfl (fun c => ?_) (fun c => ?_)
            · have h := h.1 c
              refine g_iload (pc2 := 167) dX3_doAct_165 rfl rfl ?_
              exact g_zret dX3_doAct_167 rfl rfl h
            · have h := h.2 c
              refine g_aload_n (pc2 := 109) dX3_doAct_108 rfl rfl ?_
              refine g_iload_n (pc2 := 110) dX3_doAct_109 rfl rfl ?_
              refine g_iload_n (pc2 := 111) dX3_doAct_110 rfl rfl ?_
              refine g_callV (M2 := mX3_pourInto) (as := [.int x2, .int x3]) (st := []) (pc2 := 114) dX3_doAct_111 ml_X3_126 mvX3_pourInto hk.1 rfl rfl rfl (Nat.le_of_ble_eq_true rfl) (Nat.le_refl _) rfl (h.mono ?_)
              rintro _ σ12 ⟨rfl, h⟩
              show gG (d + 1) mX3_doAct 114 _ [] σ12 Q
              refine g_goto (tgt := 165) dX3_doAct_114 (by decide) ?_
              refine g_iload (pc2 := 167) dX3_doAct_165 rfl rfl ?_
              exact g_zret dX3_doAct_167 rfl rfl h
    replace h := h.2
    by_cases c2 : x1 = 2
    · have h := h.1 c2
      refine g_tabIn (x := x1) (tgt := 117) dX3_doAct_17 (by rw [c2]; decide) (by rw [c2]; decide) (by rw [c2]; rfl) (by decide) ?_
      refine g_aload_n (pc2 := 118) dX3_doAct_117 rfl rfl ?_
      refine g_iload_n (pc2 := 119) dX3_doAct_118 rfl rfl ?_
      refine g_callV (M2 := mX3_isWhole) (as := [.int x2]) (st := []) (pc2 := 122) dX3_doAct_119 ml_X3_123 mvX3_isWhole hk.1 rfl rfl rfl (Nat.le_of_ble_eq_true rfl) (Nat.le_refl _) rfl (h.mono ?_)
      rintro _ σ13 ⟨r14, rfl, h⟩
      show gG (d + 1) mX3_doAct 122 _ [.int r14] σ13 Q
      refine g_istore (pc2 := 124) dX3_doAct_122 (by decide) rfl rfl ?_
      refine g_aload_n (pc2 := 125) dX3_doAct_124 rfl rfl ?_
      refine g_iload_n (pc2 := 126) dX3_doAct_125 rfl rfl ?_
      refine g_aload_n (pc2 := 127) dX3_doAct_126 rfl rfl ?_
      refine g_geta (pc2 := 130) dX3_doAct_127 fl_X3_27 hk.1 rfl rfl ?_
      refine g_callV (M2 := mX3_letGo) (as := [.int x2, .ref (k + 6)]) (st := []) (pc2 := 133) dX3_doAct_130 ml_X3_130 mvX3_letGo hk.1 rfl rfl rfl (Nat.le_of_ble_eq_true rfl) (Nat.le_refl _) rfl (h.mono ?_)
      rintro _ σ15 ⟨rfl, h⟩
      show gG (d + 1) mX3_doAct 133 _ [] σ15 Q
      refine g_goto (tgt := 165) dX3_doAct_133 (by decide) ?_
      refine g_iload (pc2 := 167) dX3_doAct_165 rfl rfl ?_
      exact g_zret dX3_doAct_167 rfl h.1 h.2
    replace h := h.2
    by_cases c3 : x1 = 3
    · have h := h.1 c3
      refine g_tabIn (x := x1) (tgt := 136) dX3_doAct_17 (by rw [c3]; decide) (by rw [c3]; decide) (by rw [c3]; rfl) (by decide) ?_
      refine g_aload_n (pc2 := 137) dX3_doAct_136 rfl rfl ?_
      refine g_geta (pc2 := 140) dX3_doAct_137 fl_X3_21 hk.1 rfl rfl ?_
      refine g_iload_n (pc2 := 141) dX3_doAct_140 rfl rfl ?_
      obtain ⟨hx, h⟩ := h
      refine g_iald (pc2 := 142) dX3_doAct_141 (hk.2 3 (by decide)) hx rfl ?_
      refine g_bipush (v := 9) (pc2 := 144) dX3_doAct_142 (by decide) rfl ?_
      refine g_icmp_eq (tgt := 151) (pc2 := 147) dX3_doAct_144 (by decide) rfl (fun c => ?_) (fun c => ?_)
      · have h := h.1 c
        refine g_iconst (v := 0) (pc2 := 152) dX3_doAct_151 (by decide) rfl ?_
        refine g_istore (pc2 := 154) dX3_doAct_152 (by decide) rfl rfl ?_
        refine g_aload_n (pc2 := 155) dX3_doAct_154 rfl rfl ?_
        refine g_geta (pc2 := 158) dX3_doAct_155 fl_X3_21 hk.1 rfl rfl ?_
        refine g_iload_n (pc2 := 159) dX3_doAct_158 rfl rfl ?_
        refine g_bipush (v := 9) (pc2 := 161) dX3_doAct_159 (by decide) rfl ?_
        obtain ⟨hx, h⟩ := h
        refine g_iast2 (pc2 := 162) dX3_doAct_161 (hk.2 3 (by decide)) hx rfl (fun s16 es16 => ?_)
        replace h := h s16 es16
        refine g_goto (tgt := 165) dX3_doAct_162 (by decide) ?_
        refine g_iload (pc2 := 167) dX3_doAct_165 rfl rfl ?_
        exact g_zret dX3_doAct_167 rfl rfl h
      · have h := h.2 c
        refine g_iconst (v := 1) (pc2 := 148) dX3_doAct_147 (by decide) rfl ?_
        refine g_goto (tgt := 152) dX3_doAct_148 (by decide) ?_
        refine g_istore (pc2 := 154) dX3_doAct_152 (by decide) rfl rfl ?_
        refine g_aload_n (pc2 := 155) dX3_doAct_154 rfl rfl ?_
        refine g_geta (pc2 := 158) dX3_doAct_155 fl_X3_21 hk.1 rfl rfl ?_
        refine g_iload_n (pc2 := 159) dX3_doAct_158 rfl rfl ?_
        refine g_bipush (v := 9) (pc2 := 161) dX3_doAct_159 (by decide) rfl ?_
        obtain ⟨hx, h⟩ := h
        refine g_iast2 (pc2 := 162) dX3_doAct_161 (hk.2 3 (by decide)) hx rfl (fun s17 es17 => ?_)
        replace h := h s17 es17
        refine g_goto (tgt := 165) dX3_doAct_162 (by decide) ?_
        refine g_iload (pc2 := 167) dX3_doAct_165 rfl rfl ?_
        exact g_zret dX3_doAct_167 rfl rfl h
    replace h := h.2
    refine g_tabOut (x := x1) (tgt := 165) dX3_doAct_17 (gw_out (fun e => gw_sw4 e c0 c1 c2 c3)) (by decide) ?_
    replace h := h c0 c1 c2 c3
    refine g_iload (pc2 := 167) dX3_doAct_165 rfl rfl ?_
    exact g_zret dX3_doAct_167 rfl rfl h
  · have h := h.2 c
    refine g_iconst (v := 0) (pc2 := 12) dX3_doAct_11 (by decide) rfl ?_
    exact g_zret dX3_doAct_12 rfl rfl h
set_option maxRecDepth 20000 in
theorem eX3_isWhole {d : Nat} {σ : gw_S} {Q : Option Value → gw_S → Prop} {x1 : Int32} {k : Nat} (hk : gw_st k) (h : ((x1 < 0) → (Q (some (.int 0)) σ)) ∧ ((¬ x1 < 0) → ((((σ k 7) ≤ x1) → (Q (some (.int 0)) σ)) ∧ ((¬ (σ k 7) ≤ x1) → (((¬ (((σ k 9) >>> (x1 &&& 31)) &&& 1) = 1) → (Q (some (.int 0)) σ)) ∧ (((((σ k 9) >>> (x1 &&& 31)) &&& 1) = 1) → (Q (some (.int 1)) σ))))))) : gB d mX3_isWhole [.ref k, .int x1] σ Q := by
  refine gB_of rfl (Nat.le_of_ble_eq_true rfl) (g_lw (lv2 := [some (.ref k), some (.int x1)]) ⟨rfl, ⟨rfl, trivial⟩⟩ ?_)
  refine g_iload_n (pc2 := 1) dX3_isWhole_0 rfl rfl ?_
  refine g_if_lt (tgt := 28) (pc2 := 4) dX3_isWhole_1 (by decide) rfl (fun c => ?_) (fun c => ?_)
  · have h := h.1 c
    refine g_iconst (v := 0) (pc2 := 29) dX3_isWhole_28 (by decide) rfl ?_
    exact g_zret dX3_isWhole_29 rfl rfl h
  · have h := h.2 c
    refine g_iload_n (pc2 := 5) dX3_isWhole_4 rfl rfl ?_
    refine g_aload_n (pc2 := 6) dX3_isWhole_5 rfl rfl ?_
    refine g_geti (pc2 := 9) dX3_isWhole_6 fl_X3_33 hk.1 rfl rfl ?_
    refine g_icmp_ge (tgt := 28) (pc2 := 12) dX3_isWhole_9 (by decide) rfl (fun c => ?_) (fun c => ?_)
    · have h := h.1 c
      refine g_iconst (v := 0) (pc2 := 29) dX3_isWhole_28 (by decide) rfl ?_
      exact g_zret dX3_isWhole_29 rfl rfl h
    · have h := h.2 c
      refine g_aload_n (pc2 := 13) dX3_isWhole_12 rfl rfl ?_
      refine g_geti (pc2 := 16) dX3_isWhole_13 fl_X3_40 hk.1 rfl rfl ?_
      refine g_iload_n (pc2 := 17) dX3_isWhole_16 rfl rfl ?_
      refine g_ishr (pc2 := 18) dX3_isWhole_17 rfl ?_
      refine g_iconst (v := 1) (pc2 := 19) dX3_isWhole_18 (by decide) rfl ?_
      refine g_iand (pc2 := 20) dX3_isWhole_19 rfl ?_
      refine g_iconst (v := 1) (pc2 := 21) dX3_isWhole_20 (by decide) rfl ?_
      refine g_icmp_ne (tgt := 28) (pc2 := 24) dX3_isWhole_21 (by decide) rfl (fun c => ?_) (fun c => ?_)
      · have h := h.1 c
        refine g_iconst (v := 0) (pc2 := 29) dX3_isWhole_28 (by decide) rfl ?_
        exact g_zret dX3_isWhole_29 rfl rfl h
      · have h := h.2 c
        refine g_iconst (v := 1) (pc2 := 25) dX3_isWhole_24 (by decide) rfl ?_
        refine g_goto (tgt := 29) dX3_isWhole_25 (by decide) ?_
        exact g_zret dX3_isWhole_29 rfl rfl h
set_option maxRecDepth 20000 in
theorem eX3_leak {d : Nat} {σ : gw_S} {Q : Option Value → gw_S → Prop}  {k : Nat} (hk : gw_st k) (h : gG d mX3_leak 2 [some (.ref k), some (.int 0), none, none] [] σ Q) : gB d mX3_leak [.ref k] σ Q := by
  refine gB_of rfl (Nat.le_of_ble_eq_true rfl) (g_lw (lv2 := [some (.ref k), none, none, none]) ⟨rfl, trivial⟩ ?_)
  refine g_iconst (v := 0) (pc2 := 1) dX3_leak_0 (by decide) rfl ?_
  refine g_istore_n (pc2 := 2) dX3_leak_1 (by decide) rfl rfl ?_
  exact g_lw (lv2 := [some (.ref k), some (.int 0), none, none]) ⟨rfl, ⟨rfl, trivial⟩⟩ h
set_option maxRecDepth 20000 in
theorem bX3_leak_2 {d : Nat} {σ : gw_S} {Q : Option Value → gw_S → Prop} {x1 : Int32} {k : Nat} (hk : gw_st k) (h : (((σ k 7) ≤ x1) → (Q none σ)) ∧ ((¬ (σ k 7) ≤ x1) → (vp_in x1 8 ∧ (((¬ (σ (k + 2) x1.toNatClampNeg) = 0) → (vp_in x1 8 ∧ (vp_in (σ (k + 3) x1.toNatClampNeg) 8 ∧ (vp_in x1 8 ∧ (((¬ (σ (k + 4) (σ (k + 3) x1.toNatClampNeg).toNatClampNeg) = 0) → (vp_in x1 8 ∧ (vp_in x1 8 ∧ (∀ s1 : gw_S, s1 = gw_u σ (k + 2) x1.toNatClampNeg ((σ (k + 2) x1.toNatClampNeg) - ((((σ (k + 2) x1.toNatClampNeg) * (10 - (σ (k + 4) (σ (k + 3) x1.toNatClampNeg).toNatClampNeg))) / 100) + 0)) → (∀ s2 : gw_S, s2 = gw_u s1 k 10 ((s1 k 10) + ((((σ (k + 2) x1.toNatClampNeg) * (10 - (σ (k + 4) (σ (k + 3) x1.toNatClampNeg).toNatClampNeg))) / 100) + 0)) → (gG d mX3_leak 2 [some (.ref k), some (.int (x1 + 1)), none, none] [] s2 Q)))))) ∧ (((σ (k + 4) (σ (k + 3) x1.toNatClampNeg).toNatClampNeg) = 0) → (vp_in x1 8 ∧ (vp_in x1 8 ∧ (∀ s3 : gw_S, s3 = gw_u σ (k + 2) x1.toNatClampNeg ((σ (k + 2) x1.toNatClampNeg) - ((((σ (k + 2) x1.toNatClampNeg) * (10 - (σ (k + 4) (σ (k + 3) x1.toNatClampNeg).toNatClampNeg))) / 100) + 1)) → (∀ s4 : gw_S, s4 = gw_u s3 k 10 ((s3 k 10) + ((((σ (k + 2) x1.toNatClampNeg) * (10 - (σ (k + 4) (σ (k + 3) x1.toNatClampNeg).toNatClampNeg))) / 100) + 1)) → (gG d mX3_leak 2 [some (.ref k), some (.int (x1 + 1)), none, none] [] s4 Q))))))))))) ∧ (((σ (k + 2) x1.toNatClampNeg) = 0) → (gG d mX3_leak 2 [some (.ref k), some (.int (x1 + 1)), none, none] [] σ Q)))))) : gG d mX3_leak 2 [some (.ref k), some (.int x1), none, none] [] σ Q := by
  refine g_iload_n (pc2 := 3) dX3_leak_2 rfl rfl ?_
  refine g_aload_n (pc2 := 4) dX3_leak_3 rfl rfl ?_
  refine g_geti (pc2 := 7) dX3_leak_4 fl_X3_33 hk.1 rfl rfl ?_
  refine g_icmp_ge (tgt := 85) (pc2 := 10) dX3_leak_7 (by decide) rfl (fun c => ?_) (fun c => ?_)
  · have h := h.1 c
    exact g_vret dX3_leak_85 rfl h
  · have h := h.2 c
    refine g_aload_n (pc2 := 11) dX3_leak_10 rfl rfl ?_
    refine g_geta (pc2 := 14) dX3_leak_11 fl_X3_15 hk.1 rfl rfl ?_
    refine g_iload_n (pc2 := 15) dX3_leak_14 rfl rfl ?_
    obtain ⟨hx, h⟩ := h
    refine g_iald (pc2 := 16) dX3_leak_15 (hk.2 1 (by decide)) hx rfl ?_
    refine g_if_ne (tgt := 22) (pc2 := 19) dX3_leak_16 (by decide) rfl (fun c => ?_) (fun c => ?_)
    · have h := h.1 c
      refine g_aload_n (pc2 := 23) dX3_leak_22 rfl rfl ?_
      refine g_geta (pc2 := 26) dX3_leak_23 fl_X3_21 hk.1 rfl rfl ?_
      refine g_aload_n (pc2 := 27) dX3_leak_26 rfl rfl ?_
      refine g_geta (pc2 := 30) dX3_leak_27 fl_X3_18 hk.1 rfl rfl ?_
      refine g_iload_n (pc2 := 31) dX3_leak_30 rfl rfl ?_
      obtain ⟨hx, h⟩ := h
      refine g_iald (pc2 := 32) dX3_leak_31 (hk.2 2 (by decide)) hx rfl ?_
      obtain ⟨hx, h⟩ := h
      refine g_iald (pc2 := 33) dX3_leak_32 (hk.2 3 (by decide)) hx rfl ?_
      refine g_istore_n (pc2 := 34) dX3_leak_33 (by decide) rfl rfl ?_
      refine g_aload_n (pc2 := 35) dX3_leak_34 rfl rfl ?_
      refine g_geta (pc2 := 38) dX3_leak_35 fl_X3_15 hk.1 rfl rfl ?_
      refine g_iload_n (pc2 := 39) dX3_leak_38 rfl rfl ?_
      obtain ⟨hx, h⟩ := h
      refine g_iald (pc2 := 40) dX3_leak_39 (hk.2 1 (by decide)) hx rfl ?_
      refine g_bipush (v := 10) (pc2 := 42) dX3_leak_40 (by decide) rfl ?_
      refine g_iload_n (pc2 := 43) dX3_leak_42 rfl rfl ?_
      refine g_isub (pc2 := 44) dX3_leak_43 rfl ?_
      refine g_imul (pc2 := 45) dX3_leak_44 rfl ?_
      refine g_bipush (v := 100) (pc2 := 47) dX3_leak_45 (by decide) rfl ?_
      refine g_idiv (pc2 := 48) dX3_leak_47 (by decide) rfl ?_
      refine g_iload_n (pc2 := 49) dX3_leak_48 rfl rfl ?_
      refine g_if_ne (tgt := 56) (pc2 := 52) dX3_leak_49 (by decide) rfl (fun c => ?_) (fun c => ?_)
      · have h := h.1 c
        refine g_iconst (v := 0) (pc2 := 57) dX3_leak_56 (by decide) rfl ?_
        refine g_iadd (pc2 := 58) dX3_leak_57 rfl ?_
        refine g_istore_n (pc2 := 59) dX3_leak_58 (by decide) rfl rfl ?_
        refine g_aload_n (pc2 := 60) dX3_leak_59 rfl rfl ?_
        refine g_geta (pc2 := 63) dX3_leak_60 fl_X3_15 hk.1 rfl rfl ?_
        refine g_iload_n (pc2 := 64) dX3_leak_63 rfl rfl ?_
        refine g_dup2 (pc2 := 65) dX3_leak_64 rfl rfl rfl ?_
        obtain ⟨hx, h⟩ := h
        refine g_iald (pc2 := 66) dX3_leak_65 (hk.2 1 (by decide)) hx rfl ?_
        refine g_iload_n (pc2 := 67) dX3_leak_66 rfl rfl ?_
        refine g_isub (pc2 := 68) dX3_leak_67 rfl ?_
        obtain ⟨hx, h⟩ := h
        refine g_iast2 (pc2 := 69) dX3_leak_68 (hk.2 1 (by decide)) hx rfl (fun s1 es1 => ?_)
        replace h := h s1 es1
        refine g_aload_n (pc2 := 70) dX3_leak_69 rfl rfl ?_
        refine g_dup (pc2 := 71) dX3_leak_70 rfl rfl ?_
        refine g_geti (pc2 := 74) dX3_leak_71 fl_X3_43 hk.1 rfl rfl ?_
        refine g_iload_n (pc2 := 75) dX3_leak_74 rfl rfl ?_
        refine g_iadd (pc2 := 76) dX3_leak_75 rfl ?_
        refine g_put2 (pc2 := 79) dX3_leak_76 fp_X3_43 hk.1 rfl rfl rfl rfl (fun s2 es2 => ?_)
        replace h := h s2 es2
        refine g_iinc2 (c := 1) (pc2 := 82) dX3_leak_79 rfl (by decide) (by decide) rfl rfl ?_
        refine g_goto (tgt := 2) dX3_leak_82 (by decide) ?_
        exact g_lw (lv2 := [some (.ref k), some (.int (x1 + 1)), none, none]) ⟨rfl, ⟨rfl, trivial⟩⟩ h
      · have h := h.2 c
        refine g_iconst (v := 1) (pc2 := 53) dX3_leak_52 (by decide) rfl ?_
        refine g_goto (tgt := 57) dX3_leak_53 (by decide) ?_
        refine g_iadd (pc2 := 58) dX3_leak_57 rfl ?_
        refine g_istore_n (pc2 := 59) dX3_leak_58 (by decide) rfl rfl ?_
        refine g_aload_n (pc2 := 60) dX3_leak_59 rfl rfl ?_
        refine g_geta (pc2 := 63) dX3_leak_60 fl_X3_15 hk.1 rfl rfl ?_
        refine g_iload_n (pc2 := 64) dX3_leak_63 rfl rfl ?_
        refine g_dup2 (pc2 := 65) dX3_leak_64 rfl rfl rfl ?_
        obtain ⟨hx, h⟩ := h
        refine g_iald (pc2 := 66) dX3_leak_65 (hk.2 1 (by decide)) hx rfl ?_
        refine g_iload_n (pc2 := 67) dX3_leak_66 rfl rfl ?_
        refine g_isub (pc2 := 68) dX3_leak_67 rfl ?_
        obtain ⟨hx, h⟩ := h
        refine g_iast2 (pc2 := 69) dX3_leak_68 (hk.2 1 (by decide)) hx rfl (fun s3 es3 => ?_)
        replace h := h s3 es3
        refine g_aload_n (pc2 := 70) dX3_leak_69 rfl rfl ?_
        refine g_dup (pc2 := 71) dX3_leak_70 rfl rfl ?_
        refine g_geti (pc2 := 74) dX3_leak_71 fl_X3_43 hk.1 rfl rfl ?_
        refine g_iload_n (pc2 := 75) dX3_leak_74 rfl rfl ?_
        refine g_iadd (pc2 := 76) dX3_leak_75 rfl ?_
        refine g_put2 (pc2 := 79) dX3_leak_76 fp_X3_43 hk.1 rfl rfl rfl rfl (fun s4 es4 => ?_)
        replace h := h s4 es4
        refine g_iinc2 (c := 1) (pc2 := 82) dX3_leak_79 rfl (by decide) (by decide) rfl rfl ?_
        refine g_goto (tgt := 2) dX3_leak_82 (by decide) ?_
        exact g_lw (lv2 := [some (.ref k), some (.int (x1 + 1)), none, none]) ⟨rfl, ⟨rfl, trivial⟩⟩ h
    · have h := h.2 c
      refine g_goto (tgt := 79) dX3_leak_19 (by decide) ?_
      refine g_iinc2 (c := 1) (pc2 := 82) dX3_leak_79 rfl (by decide) (by decide) rfl rfl ?_
      refine g_goto (tgt := 2) dX3_leak_82 (by decide) ?_
      exact g_lw (lv2 := [some (.ref k), some (.int (x1 + 1)), none, none]) ⟨rfl, ⟨rfl, trivial⟩⟩ h
set_option maxRecDepth 20000 in
theorem eX3_letGo {d : Nat} {σ : gw_S} {Q : Option Value → gw_S → Prop} {x1 : Int32} {k : Nat} {a2 n2 : Nat} (hk : gw_st k) (ha2 : gw_k a2 = some (.inl (.int, n2))) (h : ∀ s1 : gw_S, s1 = gw_u σ k 9 ((σ k 9) &&& (((1 : Int32) <<< (x1 &&& 31)) ^^^ (-1))) → (gG d mX3_letGo 16 [some (.ref k), some (.int x1), some (.ref a2), some (.int 0)] [] s1 Q)) : gB d mX3_letGo [.ref k, .int x1, .ref a2] σ Q := by
  refine gB_of rfl (Nat.le_of_ble_eq_true rfl) (g_lw (lv2 := [some (.ref k), some (.int x1), some (.ref a2), none]) ⟨rfl, ⟨rfl, ⟨rfl, trivial⟩⟩⟩ ?_)
  refine g_aload_n (pc2 := 1) dX3_letGo_0 rfl rfl ?_
  refine g_dup (pc2 := 2) dX3_letGo_1 rfl rfl ?_
  refine g_geti (pc2 := 5) dX3_letGo_2 fl_X3_40 hk.1 rfl rfl ?_
  refine g_iconst (v := 1) (pc2 := 6) dX3_letGo_5 (by decide) rfl ?_
  refine g_iload_n (pc2 := 7) dX3_letGo_6 rfl rfl ?_
  refine g_ishl (pc2 := 8) dX3_letGo_7 rfl ?_
  refine g_iconst (v := (-1)) (pc2 := 9) dX3_letGo_8 (by decide) rfl ?_
  refine g_ixor (pc2 := 10) dX3_letGo_9 rfl ?_
  refine g_iand (pc2 := 11) dX3_letGo_10 rfl ?_
  refine g_put2 (pc2 := 14) dX3_letGo_11 fp_X3_40 hk.1 rfl rfl rfl rfl (fun s1 es1 => ?_)
  replace h := h s1 es1
  refine g_iconst (v := 0) (pc2 := 15) dX3_letGo_14 (by decide) rfl ?_
  refine g_istore_n (pc2 := 16) dX3_letGo_15 (by decide) rfl rfl ?_
  exact g_lw (lv2 := [some (.ref k), some (.int x1), some (.ref a2), some (.int 0)]) ⟨rfl, ⟨rfl, ⟨rfl, ⟨rfl, trivial⟩⟩⟩⟩ h
set_option maxRecDepth 20000 in
theorem bX3_letGo_16 {d : Nat} {σ : gw_S} {Q : Option Value → gw_S → Prop} {x1 : Int32} {x3 : Int32} {k : Nat} {a2 n2 : Nat} (hk : gw_st k) (ha2 : gw_k a2 = some (.inl (.int, n2))) (h : (((σ k 7) ≤ x3) → (Q none σ)) ∧ ((¬ (σ k 7) ≤ x3) → (vp_in x3 8 ∧ (((¬ (σ (k + 3) x3.toNatClampNeg) = x1) → (gG d mX3_letGo 16 [some (.ref k), some (.int x1), some (.ref a2), some (.int (x3 + 1))] [] σ Q)) ∧ (((σ (k + 3) x3.toNatClampNeg) = x1) → (vp_in x3 8 ∧ (vp_in (σ (k + 1) x3.toNatClampNeg) n2 ∧ (vp_in x3 8 ∧ (vp_in (σ (k + 1) x3.toNatClampNeg) n2 ∧ (∀ s2 : gw_S, s2 = gw_u σ a2 (σ (k + 1) x3.toNatClampNeg).toNatClampNeg ((σ a2 (σ (k + 1) x3.toNatClampNeg).toNatClampNeg) + (σ (k + 2) x3.toNatClampNeg)) → (vp_in x3 8 ∧ (∀ s3 : gw_S, s3 = gw_u s2 (k + 2) x3.toNatClampNeg 0 → (gG d mX3_letGo 16 [some (.ref k), some (.int x1), some (.ref a2), some (.int (x3 + 1))] [] s3 Q))))))))))))) : gG d mX3_letGo 16 [some (.ref k), some (.int x1), some (.ref a2), some (.int x3)] [] σ Q := by
  refine g_iload_n (pc2 := 17) dX3_letGo_16 rfl rfl ?_
  refine g_aload_n (pc2 := 18) dX3_letGo_17 rfl rfl ?_
  refine g_geti (pc2 := 21) dX3_letGo_18 fl_X3_33 hk.1 rfl rfl ?_
  refine g_icmp_ge (tgt := 64) (pc2 := 24) dX3_letGo_21 (by decide) rfl (fun c => ?_) (fun c => ?_)
  · have h := h.1 c
    exact g_vret dX3_letGo_64 rfl h
  · have h := h.2 c
    refine g_aload_n (pc2 := 25) dX3_letGo_24 rfl rfl ?_
    refine g_geta (pc2 := 28) dX3_letGo_25 fl_X3_18 hk.1 rfl rfl ?_
    refine g_iload_n (pc2 := 29) dX3_letGo_28 rfl rfl ?_
    obtain ⟨hx, h⟩ := h
    refine g_iald (pc2 := 30) dX3_letGo_29 (hk.2 2 (by decide)) hx rfl ?_
    refine g_iload_n (pc2 := 31) dX3_letGo_30 rfl rfl ?_
    refine g_icmp_ne (tgt := 58) (pc2 := 34) dX3_letGo_31 (by decide) rfl (fun c => ?_) (fun c => ?_)
    · have h := h.1 c
      refine g_iinc2 (c := 1) (pc2 := 61) dX3_letGo_58 rfl (by decide) (by decide) rfl rfl ?_
      refine g_goto (tgt := 16) dX3_letGo_61 (by decide) ?_
      exact g_lw (lv2 := [some (.ref k), some (.int x1), some (.ref a2), some (.int (x3 + 1))]) ⟨rfl, ⟨rfl, ⟨rfl, ⟨rfl, trivial⟩⟩⟩⟩ h
    · have h := h.2 c
      refine g_aload_n (pc2 := 35) dX3_letGo_34 rfl rfl ?_
      refine g_aload_n (pc2 := 36) dX3_letGo_35 rfl rfl ?_
      refine g_geta (pc2 := 39) dX3_letGo_36 fl_X3_9 hk.1 rfl rfl ?_
      refine g_iload_n (pc2 := 40) dX3_letGo_39 rfl rfl ?_
      obtain ⟨hx, h⟩ := h
      refine g_iald (pc2 := 41) dX3_letGo_40 (hk.2 0 (by decide)) hx rfl ?_
      refine g_dup2 (pc2 := 42) dX3_letGo_41 rfl rfl rfl ?_
      obtain ⟨hx, h⟩ := h
      refine g_iald (pc2 := 43) dX3_letGo_42 ha2 hx rfl ?_
      refine g_aload_n (pc2 := 44) dX3_letGo_43 rfl rfl ?_
      refine g_geta (pc2 := 47) dX3_letGo_44 fl_X3_15 hk.1 rfl rfl ?_
      refine g_iload_n (pc2 := 48) dX3_letGo_47 rfl rfl ?_
      obtain ⟨hx, h⟩ := h
      refine g_iald (pc2 := 49) dX3_letGo_48 (hk.2 1 (by decide)) hx rfl ?_
      refine g_iadd (pc2 := 50) dX3_letGo_49 rfl ?_
      obtain ⟨hx, h⟩ := h
      refine g_iast2 (pc2 := 51) dX3_letGo_50 ha2 hx rfl (fun s2 es2 => ?_)
      replace h := h s2 es2
      refine g_aload_n (pc2 := 52) dX3_letGo_51 rfl rfl ?_
      refine g_geta (pc2 := 55) dX3_letGo_52 fl_X3_15 hk.1 rfl rfl ?_
      refine g_iload_n (pc2 := 56) dX3_letGo_55 rfl rfl ?_
      refine g_iconst (v := 0) (pc2 := 57) dX3_letGo_56 (by decide) rfl ?_
      obtain ⟨hx, h⟩ := h
      refine g_iast2 (pc2 := 58) dX3_letGo_57 (hk.2 1 (by decide)) hx rfl (fun s3 es3 => ?_)
      replace h := h s3 es3
      refine g_iinc2 (c := 1) (pc2 := 61) dX3_letGo_58 rfl (by decide) (by decide) rfl rfl ?_
      refine g_goto (tgt := 16) dX3_letGo_61 (by decide) ?_
      exact g_lw (lv2 := [some (.ref k), some (.int x1), some (.ref a2), some (.int (x3 + 1))]) ⟨rfl, ⟨rfl, ⟨rfl, ⟨rfl, trivial⟩⟩⟩⟩ h
set_option maxRecDepth 20000 in
theorem eX3_muchOf {d : Nat} {σ : gw_S} {Q : Option Value → gw_S → Prop} {x1 : Int32} {x2 : Int32} {k : Nat} (hk : gw_st k) (h : gG d mX3_muchOf 5 [some (.ref k), some (.int x1), some (.int x2), some (.int 0), some (.int 0)] [] σ Q) : gB d mX3_muchOf [.ref k, .int x1, .int x2] σ Q := by
  refine gB_of rfl (Nat.le_of_ble_eq_true rfl) (g_lw (lv2 := [some (.ref k), some (.int x1), some (.int x2), none, none]) ⟨rfl, ⟨rfl, ⟨rfl, trivial⟩⟩⟩ ?_)
  refine g_iconst (v := 0) (pc2 := 1) dX3_muchOf_0 (by decide) rfl ?_
  refine g_istore_n (pc2 := 2) dX3_muchOf_1 (by decide) rfl rfl ?_
  refine g_iconst (v := 0) (pc2 := 3) dX3_muchOf_2 (by decide) rfl ?_
  refine g_istore (pc2 := 5) dX3_muchOf_3 (by decide) rfl rfl ?_
  exact g_lw (lv2 := [some (.ref k), some (.int x1), some (.int x2), some (.int 0), some (.int 0)]) ⟨rfl, ⟨rfl, ⟨rfl, ⟨rfl, ⟨rfl, trivial⟩⟩⟩⟩⟩ h
set_option maxRecDepth 20000 in
theorem bX3_muchOf_5 {d : Nat} {σ : gw_S} {Q : Option Value → gw_S → Prop} {x1 : Int32} {x2 : Int32} {x3 : Int32} {x4 : Int32} {k : Nat} (hk : gw_st k) (h : (((σ k 7) ≤ x4) → (Q (some (.int x3)) σ)) ∧ ((¬ (σ k 7) ≤ x4) → (vp_in x4 8 ∧ (((¬ (σ (k + 3) x4.toNatClampNeg) = x1) → (gG d mX3_muchOf 5 [some (.ref k), some (.int x1), some (.int x2), some (.int x3), some (.int (x4 + 1))] [] σ Q)) ∧ (((σ (k + 3) x4.toNatClampNeg) = x1) → (vp_in x4 8 ∧ (((¬ (σ (k + 1) x4.toNatClampNeg) = x2) → (gG d mX3_muchOf 5 [some (.ref k), some (.int x1), some (.int x2), some (.int x3), some (.int (x4 + 1))] [] σ Q)) ∧ (((σ (k + 1) x4.toNatClampNeg) = x2) → (vp_in x4 8 ∧ (gG d mX3_muchOf 5 [some (.ref k), some (.int x1), some (.int x2), some (.int (x3 + (σ (k + 2) x4.toNatClampNeg))), some (.int (x4 + 1))] [] σ Q)))))))))) : gG d mX3_muchOf 5 [some (.ref k), some (.int x1), some (.int x2), some (.int x3), some (.int x4)] [] σ Q := by
  refine g_iload (pc2 := 7) dX3_muchOf_5 rfl rfl ?_
  refine g_aload_n (pc2 := 8) dX3_muchOf_7 rfl rfl ?_
  refine g_geti (pc2 := 11) dX3_muchOf_8 fl_X3_33 hk.1 rfl rfl ?_
  refine g_icmp_ge (tgt := 52) (pc2 := 14) dX3_muchOf_11 (by decide) rfl (fun c => ?_) (fun c => ?_)
  · have h := h.1 c
    refine g_iload_n (pc2 := 53) dX3_muchOf_52 rfl rfl ?_
    exact g_iret dX3_muchOf_53 rfl h
  · have h := h.2 c
    refine g_aload_n (pc2 := 15) dX3_muchOf_14 rfl rfl ?_
    refine g_geta (pc2 := 18) dX3_muchOf_15 fl_X3_18 hk.1 rfl rfl ?_
    refine g_iload (pc2 := 20) dX3_muchOf_18 rfl rfl ?_
    obtain ⟨hx, h⟩ := h
    refine g_iald (pc2 := 21) dX3_muchOf_20 (hk.2 2 (by decide)) hx rfl ?_
    refine g_iload_n (pc2 := 22) dX3_muchOf_21 rfl rfl ?_
    refine g_icmp_ne (tgt := 46) (pc2 := 25) dX3_muchOf_22 (by decide) rfl (fun c => ?_) (fun c => ?_)
    · have h := h.1 c
      refine g_iinc2 (c := 1) (pc2 := 49) dX3_muchOf_46 rfl (by decide) (by decide) rfl rfl ?_
      refine g_goto (tgt := 5) dX3_muchOf_49 (by decide) ?_
      exact g_lw (lv2 := [some (.ref k), some (.int x1), some (.int x2), some (.int x3), some (.int (x4 + 1))]) ⟨rfl, ⟨rfl, ⟨rfl, ⟨rfl, ⟨rfl, trivial⟩⟩⟩⟩⟩ h
    · have h := h.2 c
      refine g_aload_n (pc2 := 26) dX3_muchOf_25 rfl rfl ?_
      refine g_geta (pc2 := 29) dX3_muchOf_26 fl_X3_9 hk.1 rfl rfl ?_
      refine g_iload (pc2 := 31) dX3_muchOf_29 rfl rfl ?_
      obtain ⟨hx, h⟩ := h
      refine g_iald (pc2 := 32) dX3_muchOf_31 (hk.2 0 (by decide)) hx rfl ?_
      refine g_iload_n (pc2 := 33) dX3_muchOf_32 rfl rfl ?_
      refine g_icmp_ne (tgt := 46) (pc2 := 36) dX3_muchOf_33 (by decide) rfl (fun c => ?_) (fun c => ?_)
      · have h := h.1 c
        refine g_iinc2 (c := 1) (pc2 := 49) dX3_muchOf_46 rfl (by decide) (by decide) rfl rfl ?_
        refine g_goto (tgt := 5) dX3_muchOf_49 (by decide) ?_
        exact g_lw (lv2 := [some (.ref k), some (.int x1), some (.int x2), some (.int x3), some (.int (x4 + 1))]) ⟨rfl, ⟨rfl, ⟨rfl, ⟨rfl, ⟨rfl, trivial⟩⟩⟩⟩⟩ h
      · have h := h.2 c
        refine g_iload_n (pc2 := 37) dX3_muchOf_36 rfl rfl ?_
        refine g_aload_n (pc2 := 38) dX3_muchOf_37 rfl rfl ?_
        refine g_geta (pc2 := 41) dX3_muchOf_38 fl_X3_15 hk.1 rfl rfl ?_
        refine g_iload (pc2 := 43) dX3_muchOf_41 rfl rfl ?_
        obtain ⟨hx, h⟩ := h
        refine g_iald (pc2 := 44) dX3_muchOf_43 (hk.2 1 (by decide)) hx rfl ?_
        refine g_iadd (pc2 := 45) dX3_muchOf_44 rfl ?_
        refine g_istore_n (pc2 := 46) dX3_muchOf_45 (by decide) rfl rfl ?_
        refine g_iinc2 (c := 1) (pc2 := 49) dX3_muchOf_46 rfl (by decide) (by decide) rfl rfl ?_
        refine g_goto (tgt := 5) dX3_muchOf_49 (by decide) ?_
        exact g_lw (lv2 := [some (.ref k), some (.int x1), some (.int x2), some (.int (x3 + (σ (k + 2) x4.toNatClampNeg))), some (.int (x4 + 1))]) ⟨rfl, ⟨rfl, ⟨rfl, ⟨rfl, ⟨rfl, trivial⟩⟩⟩⟩⟩ h
set_option maxRecDepth 20000 in
theorem eX3_passDay {d : Nat} {σ : gw_S} {Q : Option Value → gw_S → Prop} {x2 : Int32} {k : Nat} (hk : gw_st k) (h : gB d mX3_passUntilHeat [.ref k, .ref 11, .int x2] σ (fun v σ1 => v = none ∧ (gB d mX6_isHot [.ref 6, .int (σ1 k 12)] σ1 (fun v σ2 => ∃ r3 : Int32, v = some (.int r3) ∧ (((r3 = 0) → (Q none σ2)) ∧ ((¬ r3 = 0) → (gB d mX3_ripeBottles [.ref k, .int (σ2 6 4)] σ2 (fun v σ4 => ∃ r5 : Int32, v = some (.int r5) ∧ (gB d mX3_burstAll [.ref k, .int r5] σ4 (fun v σ6 => v = none ∧ (Q none σ6))))))))))) : gB (d + 1) mX3_passDay [.ref k, .ref 6, .int x2] σ Q := by
  refine gB_of rfl (Nat.le_of_ble_eq_true rfl) (g_lw (lv2 := [some (.ref k), some (.ref 6), some (.int x2)]) ⟨rfl, ⟨rfl, ⟨rfl, trivial⟩⟩⟩ ?_)
  refine g_aload_n (pc2 := 1) dX3_passDay_0 rfl rfl ?_
  refine g_aload_n (pc2 := 2) dX3_passDay_1 rfl rfl ?_
  refine g_geta (pc2 := 5) dX3_passDay_2 fl_X3_73 gk_6 rfl rfl ?_
  refine g_iload_n (pc2 := 6) dX3_passDay_5 rfl rfl ?_
  refine g_callV (M2 := mX3_passUntilHeat) (as := [.ref 11, .int x2]) (st := []) (pc2 := 9) dX3_passDay_6 ml_X3_79 mvX3_passUntilHeat hk.1 rfl rfl rfl (Nat.le_of_ble_eq_true rfl) (Nat.le_refl _) rfl (h.mono ?_)
  rintro _ σ1 ⟨rfl, h⟩
  show gG (d + 1) mX3_passDay 9 _ [] σ1 Q
  refine g_aload_n (pc2 := 10) dX3_passDay_9 rfl rfl ?_
  refine g_aload_n (pc2 := 11) dX3_passDay_10 rfl rfl ?_
  refine g_geti (pc2 := 14) dX3_passDay_11 fl_X3_49 hk.1 rfl rfl ?_
  refine g_callV (M2 := mX6_isHot) (as := [.int (σ1 k 12)]) (st := []) (pc2 := 17) dX3_passDay_14 ml_X3_83 mvX6_isHot gk_6 rfl rfl rfl (Nat.le_of_ble_eq_true rfl) (Nat.le_refl _) rfl (h.mono ?_)
  rintro _ σ2 ⟨r3, rfl, h⟩
  show gG (d + 1) mX3_passDay 17 _ [.int r3] σ2 Q
  refine g_if_eq (tgt := 32) (pc2 := 20) dX3_passDay_17 (by decide) rfl (fun c => ?_) (fun c => ?_)
  · have h := h.1 c
    exact g_vret dX3_passDay_32 rfl h
  · have h := h.2 c
    refine g_aload_n (pc2 := 21) dX3_passDay_20 rfl rfl ?_
    refine g_aload_n (pc2 := 22) dX3_passDay_21 rfl rfl ?_
    refine g_aload_n (pc2 := 23) dX3_passDay_22 rfl rfl ?_
    refine g_geti (pc2 := 26) dX3_passDay_23 fl_X3_87 gk_6 rfl rfl ?_
    refine g_callV (M2 := mX3_ripeBottles) (as := [.int (σ2 6 4)]) (st := [.ref k]) (pc2 := 29) dX3_passDay_26 ml_X3_90 mvX3_ripeBottles hk.1 rfl rfl rfl (Nat.le_of_ble_eq_true rfl) (Nat.le_refl _) rfl (h.mono ?_)
    rintro _ σ4 ⟨r5, rfl, h⟩
    show gG (d + 1) mX3_passDay 29 _ [.int r5, .ref k] σ4 Q
    refine g_callV (M2 := mX3_burstAll) (as := [.int r5]) (st := []) (pc2 := 32) dX3_passDay_29 ml_X3_94 mvX3_burstAll hk.1 rfl rfl rfl (Nat.le_of_ble_eq_true rfl) (Nat.le_refl _) rfl (h.mono ?_)
    rintro _ σ6 ⟨rfl, h⟩
    show gG (d + 1) mX3_passDay 32 _ [] σ6 Q
    exact g_vret dX3_passDay_32 rfl h
set_option maxRecDepth 20000 in
theorem eX3_passUntilHeat {d : Nat} {σ : gw_S} {Q : Option Value → gw_S → Prop} {x2 : Int32} {k : Nat} (hk : gw_st k) (h : ∀ s1 : gw_S, s1 = gw_u σ k 12 ((σ k 12) + 1) → (gG (d + 1) mX3_passUntilHeat 12 [some (.ref k), some (.ref 11), some (.int x2), some (.int 0)] [] s1 Q)) : gB (d + 1) mX3_passUntilHeat [.ref k, .ref 11, .int x2] σ Q := by
  refine gB_of rfl (Nat.le_of_ble_eq_true rfl) (g_lw (lv2 := [some (.ref k), some (.ref 11), some (.int x2), none]) ⟨rfl, ⟨rfl, ⟨rfl, trivial⟩⟩⟩ ?_)
  refine g_aload_n (pc2 := 1) dX3_passUntilHeat_0 rfl rfl ?_
  refine g_dup (pc2 := 2) dX3_passUntilHeat_1 rfl rfl ?_
  refine g_geti (pc2 := 5) dX3_passUntilHeat_2 fl_X3_49 hk.1 rfl rfl ?_
  refine g_iconst (v := 1) (pc2 := 6) dX3_passUntilHeat_5 (by decide) rfl ?_
  refine g_iadd (pc2 := 7) dX3_passUntilHeat_6 rfl ?_
  refine g_put2 (pc2 := 10) dX3_passUntilHeat_7 fp_X3_49 hk.1 rfl rfl rfl rfl (fun s1 es1 => ?_)
  replace h := h s1 es1
  refine g_iconst (v := 0) (pc2 := 11) dX3_passUntilHeat_10 (by decide) rfl ?_
  refine g_istore_n (pc2 := 12) dX3_passUntilHeat_11 (by decide) rfl rfl ?_
  exact g_lw (lv2 := [some (.ref k), some (.ref 11), some (.int x2), some (.int 0)]) ⟨rfl, ⟨rfl, ⟨rfl, ⟨rfl, trivial⟩⟩⟩⟩ h
set_option maxRecDepth 20000 in
theorem bX3_passUntilHeat_12 {d : Nat} {σ : gw_S} {Q : Option Value → gw_S → Prop} {x2 : Int32} {x3 : Int32} {k : Nat} (hk : gw_st k) (h : (((σ 11 4) ≤ x3) → (gB d mX3_leak [.ref k] σ (fun v σ2 => v = none ∧ (Q none σ2)))) ∧ ((¬ (σ 11 4) ≤ x3) → (vp_in x3 16 ∧ (((¬ (σ 12 x3.toNatClampNeg) = (σ k 12)) → (gG (d + 1) mX3_passUntilHeat 12 [some (.ref k), some (.ref 11), some (.int x2), some (.int (x3 + 1))] [] σ Q)) ∧ (((σ 12 x3.toNatClampNeg) = (σ k 12)) → (((x3 = x2) → (gG (d + 1) mX3_passUntilHeat 12 [some (.ref k), some (.ref 11), some (.int x2), some (.int (x3 + 1))] [] σ Q)) ∧ ((¬ x3 = x2) → (vp_in x3 16 ∧ (vp_in x3 16 ∧ (vp_in x3 16 ∧ (gB d mX3_doAct [.ref k, .int (σ 13 x3.toNatClampNeg), .int (σ 14 x3.toNatClampNeg), .int (σ 15 x3.toNatClampNeg)] σ (fun v σ3 => ∃ r4 : Int32, v = some (.int r4) ∧ (((r4 = 0) → (gG (d + 1) mX3_passUntilHeat 12 [some (.ref k), some (.ref 11), some (.int x2), some (.int (x3 + 1))] [] σ3 Q)) ∧ ((¬ r4 = 0) → (∀ s5 : gw_S, s5 = gw_u σ3 k 11 ((σ3 k 11) ||| ((1 : Int32) <<< (x3 &&& 31))) → (gG (d + 1) mX3_passUntilHeat 12 [some (.ref k), some (.ref 11), some (.int x2), some (.int (x3 + 1))] [] s5 Q)))))))))))))))) : gG (d + 1) mX3_passUntilHeat 12 [some (.ref k), some (.ref 11), some (.int x2), some (.int x3)] [] σ Q := by
  refine g_iload_n (pc2 := 13) dX3_passUntilHeat_12 rfl rfl ?_
  refine g_aload_n (pc2 := 14) dX3_passUntilHeat_13 rfl rfl ?_
  refine g_geti (pc2 := 17) dX3_passUntilHeat_14 fl_X3_98 gk_11 rfl rfl ?_
  refine g_icmp_ge (tgt := 81) (pc2 := 20) dX3_passUntilHeat_17 (by decide) rfl (fun c => ?_) (fun c => ?_)
  · have h := h.1 c
    refine g_aload_n (pc2 := 82) dX3_passUntilHeat_81 rfl rfl ?_
    refine g_callV (M2 := mX3_leak) (as := []) (st := []) (pc2 := 85) dX3_passUntilHeat_82 ml_X3_116 mvX3_leak hk.1 rfl rfl rfl (Nat.le_of_ble_eq_true rfl) (Nat.le_refl _) rfl (h.mono ?_)
    rintro _ σ2 ⟨rfl, h⟩
    show gG (d + 1) mX3_passUntilHeat 85 _ [] σ2 Q
    exact g_vret dX3_passUntilHeat_85 rfl h
  · have h := h.2 c
    refine g_aload_n (pc2 := 21) dX3_passUntilHeat_20 rfl rfl ?_
    refine g_geta (pc2 := 24) dX3_passUntilHeat_21 fl_X3_101 gk_11 rfl rfl ?_
    refine g_iload_n (pc2 := 25) dX3_passUntilHeat_24 rfl rfl ?_
    obtain ⟨hx, h⟩ := h
    refine g_iald (pc2 := 26) dX3_passUntilHeat_25 gk_12 hx rfl ?_
    refine g_aload_n (pc2 := 27) dX3_passUntilHeat_26 rfl rfl ?_
    refine g_geti (pc2 := 30) dX3_passUntilHeat_27 fl_X3_49 hk.1 rfl rfl ?_
    refine g_icmp_ne (tgt := 75) (pc2 := 33) dX3_passUntilHeat_30 (by decide) rfl (fun c => ?_) (fun c => ?_)
    · have h := h.1 c
      refine g_iinc2 (c := 1) (pc2 := 78) dX3_passUntilHeat_75 rfl (by decide) (by decide) rfl rfl ?_
      refine g_goto (tgt := 12) dX3_passUntilHeat_78 (by decide) ?_
      exact g_lw (lv2 := [some (.ref k), some (.ref 11), some (.int x2), some (.int (x3 + 1))]) ⟨rfl, ⟨rfl, ⟨rfl, ⟨rfl, trivial⟩⟩⟩⟩ h
    · have h := h.2 c
      refine g_iload_n (pc2 := 34) dX3_passUntilHeat_33 rfl rfl ?_
      refine g_iload_n (pc2 := 35) dX3_passUntilHeat_34 rfl rfl ?_
      refine g_icmp_eq (tgt := 75) (pc2 := 38) dX3_passUntilHeat_35 (by decide) rfl (fun c => ?_) (fun c => ?_)
      · have h := h.1 c
        refine g_iinc2 (c := 1) (pc2 := 78) dX3_passUntilHeat_75 rfl (by decide) (by decide) rfl rfl ?_
        refine g_goto (tgt := 12) dX3_passUntilHeat_78 (by decide) ?_
        exact g_lw (lv2 := [some (.ref k), some (.ref 11), some (.int x2), some (.int (x3 + 1))]) ⟨rfl, ⟨rfl, ⟨rfl, ⟨rfl, trivial⟩⟩⟩⟩ h
      · have h := h.2 c
        refine g_aload_n (pc2 := 39) dX3_passUntilHeat_38 rfl rfl ?_
        refine g_aload_n (pc2 := 40) dX3_passUntilHeat_39 rfl rfl ?_
        refine g_geta (pc2 := 43) dX3_passUntilHeat_40 fl_X3_103 gk_11 rfl rfl ?_
        refine g_iload_n (pc2 := 44) dX3_passUntilHeat_43 rfl rfl ?_
        obtain ⟨hx, h⟩ := h
        refine g_iald (pc2 := 45) dX3_passUntilHeat_44 gk_13 hx rfl ?_
        refine g_aload_n (pc2 := 46) dX3_passUntilHeat_45 rfl rfl ?_
        refine g_geta (pc2 := 49) dX3_passUntilHeat_46 fl_X3_106 gk_11 rfl rfl ?_
        refine g_iload_n (pc2 := 50) dX3_passUntilHeat_49 rfl rfl ?_
        obtain ⟨hx, h⟩ := h
        refine g_iald (pc2 := 51) dX3_passUntilHeat_50 gk_14 hx rfl ?_
        refine g_aload_n (pc2 := 52) dX3_passUntilHeat_51 rfl rfl ?_
        refine g_geta (pc2 := 55) dX3_passUntilHeat_52 fl_X3_109 gk_11 rfl rfl ?_
        refine g_iload_n (pc2 := 56) dX3_passUntilHeat_55 rfl rfl ?_
        obtain ⟨hx, h⟩ := h
        refine g_iald (pc2 := 57) dX3_passUntilHeat_56 gk_15 hx rfl ?_
        refine g_callV (M2 := mX3_doAct) (as := [.int (σ 13 x3.toNatClampNeg), .int (σ 14 x3.toNatClampNeg), .int (σ 15 x3.toNatClampNeg)]) (st := []) (pc2 := 60) dX3_passUntilHeat_57 ml_X3_112 mvX3_doAct hk.1 rfl rfl rfl (Nat.le_of_ble_eq_true rfl) (Nat.le_refl _) rfl (h.mono ?_)
        rintro _ σ3 ⟨r4, rfl, h⟩
        show gG (d + 1) mX3_passUntilHeat 60 _ [.int r4] σ3 Q
        refine g_if_eq (tgt := 75) (pc2 := 63) dX3_passUntilHeat_60 (by decide) rfl (fun c => ?_) (fun c => ?_)
        · have h := h.1 c
          refine g_iinc2 (c := 1) (pc2 := 78) dX3_passUntilHeat_75 rfl (by decide) (by decide) rfl rfl ?_
          refine g_goto (tgt := 12) dX3_passUntilHeat_78 (by decide) ?_
          exact g_lw (lv2 := [some (.ref k), some (.ref 11), some (.int x2), some (.int (x3 + 1))]) ⟨rfl, ⟨rfl, ⟨rfl, ⟨rfl, trivial⟩⟩⟩⟩ h
        · have h := h.2 c
          refine g_aload_n (pc2 := 64) dX3_passUntilHeat_63 rfl rfl ?_
          refine g_dup (pc2 := 65) dX3_passUntilHeat_64 rfl rfl ?_
          refine g_geti (pc2 := 68) dX3_passUntilHeat_65 fl_X3_46 hk.1 rfl rfl ?_
          refine g_iconst (v := 1) (pc2 := 69) dX3_passUntilHeat_68 (by decide) rfl ?_
          refine g_iload_n (pc2 := 70) dX3_passUntilHeat_69 rfl rfl ?_
          refine g_ishl (pc2 := 71) dX3_passUntilHeat_70 rfl ?_
          refine g_ior (pc2 := 72) dX3_passUntilHeat_71 rfl ?_
          refine g_put2 (pc2 := 75) dX3_passUntilHeat_72 fp_X3_46 hk.1 rfl rfl rfl rfl (fun s5 es5 => ?_)
          replace h := h s5 es5
          refine g_iinc2 (c := 1) (pc2 := 78) dX3_passUntilHeat_75 rfl (by decide) (by decide) rfl rfl ?_
          refine g_goto (tgt := 12) dX3_passUntilHeat_78 (by decide) ?_
          exact g_lw (lv2 := [some (.ref k), some (.ref 11), some (.int x2), some (.int (x3 + 1))]) ⟨rfl, ⟨rfl, ⟨rfl, ⟨rfl, trivial⟩⟩⟩⟩ h
set_option maxRecDepth 20000 in
theorem eX3_pourInto {d : Nat} {σ : gw_S} {Q : Option Value → gw_S → Prop} {x1 : Int32} {x2 : Int32} {k : Nat} (hk : gw_st k) (h : gG d mX3_pourInto 2 [some (.ref k), some (.int x1), some (.int x2), some (.int 0), none] [] σ Q) : gB d mX3_pourInto [.ref k, .int x1, .int x2] σ Q := by
  refine gB_of rfl (Nat.le_of_ble_eq_true rfl) (g_lw (lv2 := [some (.ref k), some (.int x1), some (.int x2), none, none]) ⟨rfl, ⟨rfl, ⟨rfl, trivial⟩⟩⟩ ?_)
  refine g_iconst (v := 0) (pc2 := 1) dX3_pourInto_0 (by decide) rfl ?_
  refine g_istore_n (pc2 := 2) dX3_pourInto_1 (by decide) rfl rfl ?_
  exact g_lw (lv2 := [some (.ref k), some (.int x1), some (.int x2), some (.int 0), none]) ⟨rfl, ⟨rfl, ⟨rfl, ⟨rfl, trivial⟩⟩⟩⟩ h
set_option maxRecDepth 20000 in
theorem bX3_pourInto_2 {d : Nat} {σ : gw_S} {Q : Option Value → gw_S → Prop} {x1 : Int32} {x2 : Int32} {x3 : Int32} {k : Nat} (hk : gw_st k) (h : (((σ k 7) ≤ x3) → (Q none σ)) ∧ ((¬ (σ k 7) ≤ x3) → (vp_in x3 8 ∧ ((((σ (k + 3) x3.toNatClampNeg) = x1) → (vp_in x3 8 ∧ (∀ s1 : gw_S, s1 = gw_u σ (k + 3) x3.toNatClampNeg x2 → (gG d mX3_pourInto 33 [some (.ref k), some (.int x1), some (.int x2), some (.int x3), some (.int 0)] [] s1 Q)))) ∧ ((¬ (σ (k + 3) x3.toNatClampNeg) = x1) → (gG d mX3_pourInto 2 [some (.ref k), some (.int x1), some (.int x2), some (.int (x3 + 1)), none] [] σ Q)))))) : gG d mX3_pourInto 2 [some (.ref k), some (.int x1), some (.int x2), some (.int x3), none] [] σ Q := by
  refine g_iload_n (pc2 := 3) dX3_pourInto_2 rfl rfl ?_
  refine g_aload_n (pc2 := 4) dX3_pourInto_3 rfl rfl ?_
  refine g_geti (pc2 := 7) dX3_pourInto_4 fl_X3_33 hk.1 rfl rfl ?_
  refine g_icmp_ge (tgt := 111) (pc2 := 10) dX3_pourInto_7 (by decide) rfl (fun c => ?_) (fun c => ?_)
  · have h := h.1 c
    exact g_vret dX3_pourInto_111 rfl h
  · have h := h.2 c
    refine g_aload_n (pc2 := 11) dX3_pourInto_10 rfl rfl ?_
    refine g_geta (pc2 := 14) dX3_pourInto_11 fl_X3_18 hk.1 rfl rfl ?_
    refine g_iload_n (pc2 := 15) dX3_pourInto_14 rfl rfl ?_
    obtain ⟨hx, h⟩ := h
    refine g_iald (pc2 := 16) dX3_pourInto_15 (hk.2 2 (by decide)) hx rfl ?_
    refine g_iload_n (pc2 := 17) dX3_pourInto_16 rfl rfl ?_
    refine g_icmp_eq (tgt := 23) (pc2 := 20) dX3_pourInto_17 (by decide) rfl (fun c => ?_) (fun c => ?_)
    · have h := h.1 c
      refine g_aload_n (pc2 := 24) dX3_pourInto_23 rfl rfl ?_
      refine g_geta (pc2 := 27) dX3_pourInto_24 fl_X3_18 hk.1 rfl rfl ?_
      refine g_iload_n (pc2 := 28) dX3_pourInto_27 rfl rfl ?_
      refine g_iload_n (pc2 := 29) dX3_pourInto_28 rfl rfl ?_
      obtain ⟨hx, h⟩ := h
      refine g_iast2 (pc2 := 30) dX3_pourInto_29 (hk.2 2 (by decide)) hx rfl (fun s1 es1 => ?_)
      replace h := h s1 es1
      refine g_iconst (v := 0) (pc2 := 31) dX3_pourInto_30 (by decide) rfl ?_
      refine g_istore (pc2 := 33) dX3_pourInto_31 (by decide) rfl rfl ?_
      exact g_lw (lv2 := [some (.ref k), some (.int x1), some (.int x2), some (.int x3), some (.int 0)]) ⟨rfl, ⟨rfl, ⟨rfl, ⟨rfl, ⟨rfl, trivial⟩⟩⟩⟩⟩ h
    · have h := h.2 c
      refine g_goto (tgt := 105) dX3_pourInto_20 (by decide) ?_
      refine g_iinc2 (c := 1) (pc2 := 108) dX3_pourInto_105 rfl (by decide) (by decide) rfl rfl ?_
      refine g_goto (tgt := 2) dX3_pourInto_108 (by decide) ?_
      exact g_lw (lv2 := [some (.ref k), some (.int x1), some (.int x2), some (.int (x3 + 1)), none]) ⟨rfl, ⟨rfl, ⟨rfl, ⟨rfl, trivial⟩⟩⟩⟩ h
set_option maxRecDepth 20000 in
theorem bX3_pourInto_33 {d : Nat} {σ : gw_S} {Q : Option Value → gw_S → Prop} {x1 : Int32} {x2 : Int32} {x3 : Int32} {x4 : Int32} {k : Nat} (hk : gw_st k) (h : (((σ k 7) ≤ x4) → (gG d mX3_pourInto 2 [some (.ref k), some (.int x1), some (.int x2), some (.int (x3 + 1)), none] [] σ Q)) ∧ ((¬ (σ k 7) ≤ x4) → (((x4 = x3) → (gG d mX3_pourInto 33 [some (.ref k), some (.int x1), some (.int x2), some (.int x3), some (.int (x4 + 1))] [] σ Q)) ∧ ((¬ x4 = x3) → (vp_in x4 8 ∧ (((¬ (σ (k + 3) x4.toNatClampNeg) = x2) → (gG d mX3_pourInto 33 [some (.ref k), some (.int x1), some (.int x2), some (.int x3), some (.int (x4 + 1))] [] σ Q)) ∧ (((σ (k + 3) x4.toNatClampNeg) = x2) → (vp_in x4 8 ∧ (vp_in x3 8 ∧ (((¬ (σ (k + 1) x4.toNatClampNeg) = (σ (k + 1) x3.toNatClampNeg)) → (gG d mX3_pourInto 33 [some (.ref k), some (.int x1), some (.int x2), some (.int x3), some (.int (x4 + 1))] [] σ Q)) ∧ (((σ (k + 1) x4.toNatClampNeg) = (σ (k + 1) x3.toNatClampNeg)) → (vp_in x3 8 ∧ (vp_in x4 8 ∧ (vp_in x3 8 ∧ (∀ s2 : gw_S, s2 = gw_u σ (k + 2) x3.toNatClampNeg ((σ (k + 2) x3.toNatClampNeg) + (σ (k + 2) x4.toNatClampNeg)) → (vp_in x4 8 ∧ (∀ s3 : gw_S, s3 = gw_u s2 (k + 2) x4.toNatClampNeg 0 → (gG d mX3_pourInto 33 [some (.ref k), some (.int x1), some (.int x2), some (.int x3), some (.int (x4 + 1))] [] s3 Q)))))))))))))))))) : gG d mX3_pourInto 33 [some (.ref k), some (.int x1), some (.int x2), some (.int x3), some (.int x4)] [] σ Q := by
  refine g_iload (pc2 := 35) dX3_pourInto_33 rfl rfl ?_
  refine g_aload_n (pc2 := 36) dX3_pourInto_35 rfl rfl ?_
  refine g_geti (pc2 := 39) dX3_pourInto_36 fl_X3_33 hk.1 rfl rfl ?_
  refine g_icmp_ge (tgt := 105) (pc2 := 42) dX3_pourInto_39 (by decide) rfl (fun c => ?_) (fun c => ?_)
  · have h := h.1 c
    refine g_iinc2 (c := 1) (pc2 := 108) dX3_pourInto_105 rfl (by decide) (by decide) rfl rfl ?_
    refine g_goto (tgt := 2) dX3_pourInto_108 (by decide) ?_
    exact g_lw (lv2 := [some (.ref k), some (.int x1), some (.int x2), some (.int (x3 + 1)), none]) ⟨rfl, ⟨rfl, ⟨rfl, ⟨rfl, trivial⟩⟩⟩⟩ h
  · have h := h.2 c
    refine g_iload (pc2 := 44) dX3_pourInto_42 rfl rfl ?_
    refine g_iload_n (pc2 := 45) dX3_pourInto_44 rfl rfl ?_
    refine g_icmp_eq (tgt := 99) (pc2 := 48) dX3_pourInto_45 (by decide) rfl (fun c => ?_) (fun c => ?_)
    · have h := h.1 c
      refine g_iinc2 (c := 1) (pc2 := 102) dX3_pourInto_99 rfl (by decide) (by decide) rfl rfl ?_
      refine g_goto (tgt := 33) dX3_pourInto_102 (by decide) ?_
      exact g_lw (lv2 := [some (.ref k), some (.int x1), some (.int x2), some (.int x3), some (.int (x4 + 1))]) ⟨rfl, ⟨rfl, ⟨rfl, ⟨rfl, ⟨rfl, trivial⟩⟩⟩⟩⟩ h
    · have h := h.2 c
      refine g_aload_n (pc2 := 49) dX3_pourInto_48 rfl rfl ?_
      refine g_geta (pc2 := 52) dX3_pourInto_49 fl_X3_18 hk.1 rfl rfl ?_
      refine g_iload (pc2 := 54) dX3_pourInto_52 rfl rfl ?_
      obtain ⟨hx, h⟩ := h
      refine g_iald (pc2 := 55) dX3_pourInto_54 (hk.2 2 (by decide)) hx rfl ?_
      refine g_iload_n (pc2 := 56) dX3_pourInto_55 rfl rfl ?_
      refine g_icmp_ne (tgt := 99) (pc2 := 59) dX3_pourInto_56 (by decide) rfl (fun c => ?_) (fun c => ?_)
      · have h := h.1 c
        refine g_iinc2 (c := 1) (pc2 := 102) dX3_pourInto_99 rfl (by decide) (by decide) rfl rfl ?_
        refine g_goto (tgt := 33) dX3_pourInto_102 (by decide) ?_
        exact g_lw (lv2 := [some (.ref k), some (.int x1), some (.int x2), some (.int x3), some (.int (x4 + 1))]) ⟨rfl, ⟨rfl, ⟨rfl, ⟨rfl, ⟨rfl, trivial⟩⟩⟩⟩⟩ h
      · have h := h.2 c
        refine g_aload_n (pc2 := 60) dX3_pourInto_59 rfl rfl ?_
        refine g_geta (pc2 := 63) dX3_pourInto_60 fl_X3_9 hk.1 rfl rfl ?_
        refine g_iload (pc2 := 65) dX3_pourInto_63 rfl rfl ?_
        obtain ⟨hx, h⟩ := h
        refine g_iald (pc2 := 66) dX3_pourInto_65 (hk.2 0 (by decide)) hx rfl ?_
        refine g_aload_n (pc2 := 67) dX3_pourInto_66 rfl rfl ?_
        refine g_geta (pc2 := 70) dX3_pourInto_67 fl_X3_9 hk.1 rfl rfl ?_
        refine g_iload_n (pc2 := 71) dX3_pourInto_70 rfl rfl ?_
        obtain ⟨hx, h⟩ := h
        refine g_iald (pc2 := 72) dX3_pourInto_71 (hk.2 0 (by decide)) hx rfl ?_
        refine g_icmp_ne (tgt := 99) (pc2 := 75) dX3_pourInto_72 (by decide) rfl (fun c => ?_) (fun c => ?_)
        · have h := h.1 c
          refine g_iinc2 (c := 1) (pc2 := 102) dX3_pourInto_99 rfl (by decide) (by decide) rfl rfl ?_
          refine g_goto (tgt := 33) dX3_pourInto_102 (by decide) ?_
          exact g_lw (lv2 := [some (.ref k), some (.int x1), some (.int x2), some (.int x3), some (.int (x4 + 1))]) ⟨rfl, ⟨rfl, ⟨rfl, ⟨rfl, ⟨rfl, trivial⟩⟩⟩⟩⟩ h
        · have h := h.2 c
          refine g_aload_n (pc2 := 76) dX3_pourInto_75 rfl rfl ?_
          refine g_geta (pc2 := 79) dX3_pourInto_76 fl_X3_15 hk.1 rfl rfl ?_
          refine g_iload_n (pc2 := 80) dX3_pourInto_79 rfl rfl ?_
          refine g_dup2 (pc2 := 81) dX3_pourInto_80 rfl rfl rfl ?_
          obtain ⟨hx, h⟩ := h
          refine g_iald (pc2 := 82) dX3_pourInto_81 (hk.2 1 (by decide)) hx rfl ?_
          refine g_aload_n (pc2 := 83) dX3_pourInto_82 rfl rfl ?_
          refine g_geta (pc2 := 86) dX3_pourInto_83 fl_X3_15 hk.1 rfl rfl ?_
          refine g_iload (pc2 := 88) dX3_pourInto_86 rfl rfl ?_
          obtain ⟨hx, h⟩ := h
          refine g_iald (pc2 := 89) dX3_pourInto_88 (hk.2 1 (by decide)) hx rfl ?_
          refine g_iadd (pc2 := 90) dX3_pourInto_89 rfl ?_
          obtain ⟨hx, h⟩ := h
          refine g_iast2 (pc2 := 91) dX3_pourInto_90 (hk.2 1 (by decide)) hx rfl (fun s2 es2 => ?_)
          replace h := h s2 es2
          refine g_aload_n (pc2 := 92) dX3_pourInto_91 rfl rfl ?_
          refine g_geta (pc2 := 95) dX3_pourInto_92 fl_X3_15 hk.1 rfl rfl ?_
          refine g_iload (pc2 := 97) dX3_pourInto_95 rfl rfl ?_
          refine g_iconst (v := 0) (pc2 := 98) dX3_pourInto_97 (by decide) rfl ?_
          obtain ⟨hx, h⟩ := h
          refine g_iast2 (pc2 := 99) dX3_pourInto_98 (hk.2 1 (by decide)) hx rfl (fun s3 es3 => ?_)
          replace h := h s3 es3
          refine g_iinc2 (c := 1) (pc2 := 102) dX3_pourInto_99 rfl (by decide) (by decide) rfl rfl ?_
          refine g_goto (tgt := 33) dX3_pourInto_102 (by decide) ?_
          exact g_lw (lv2 := [some (.ref k), some (.int x1), some (.int x2), some (.int x3), some (.int (x4 + 1))]) ⟨rfl, ⟨rfl, ⟨rfl, ⟨rfl, ⟨rfl, trivial⟩⟩⟩⟩⟩ h
set_option maxRecDepth 20000 in
theorem eX3_ripeBottles {d : Nat} {σ : gw_S} {Q : Option Value → gw_S → Prop} {x1 : Int32} {k : Nat} (hk : gw_st k) (h : gG (d + 1) mX3_ripeBottles 4 [some (.ref k), some (.int x1), some (.int 0), some (.int 0)] [] σ Q) : gB (d + 1) mX3_ripeBottles [.ref k, .int x1] σ Q := by
  refine gB_of rfl (Nat.le_of_ble_eq_true rfl) (g_lw (lv2 := [some (.ref k), some (.int x1), none, none]) ⟨rfl, ⟨rfl, trivial⟩⟩ ?_)
  refine g_iconst (v := 0) (pc2 := 1) dX3_ripeBottles_0 (by decide) rfl ?_
  refine g_istore_n (pc2 := 2) dX3_ripeBottles_1 (by decide) rfl rfl ?_
  refine g_iconst (v := 0) (pc2 := 3) dX3_ripeBottles_2 (by decide) rfl ?_
  refine g_istore_n (pc2 := 4) dX3_ripeBottles_3 (by decide) rfl rfl ?_
  exact g_lw (lv2 := [some (.ref k), some (.int x1), some (.int 0), some (.int 0)]) ⟨rfl, ⟨rfl, ⟨rfl, ⟨rfl, trivial⟩⟩⟩⟩ h
set_option maxRecDepth 20000 in
theorem bX3_ripeBottles_4 {d : Nat} {σ : gw_S} {Q : Option Value → gw_S → Prop} {x1 : Int32} {x2 : Int32} {x3 : Int32} {k : Nat} (hk : gw_st k) (h : (((σ k 7) ≤ x3) → (Q (some (.int x2)) σ)) ∧ ((¬ (σ k 7) ≤ x3) → (((¬ (((σ k 8) >>> (x3 &&& 31)) &&& 1) = 1) → (gG (d + 1) mX3_ripeBottles 4 [some (.ref k), some (.int x1), some (.int x2), some (.int (x3 + 1))] [] σ Q)) ∧ (((((σ k 8) >>> (x3 &&& 31)) &&& 1) = 1) → (gB d mX3_allIn [.ref k, .int x3] σ (fun v σ1 => ∃ r2 : Int32, v = some (.int r2) ∧ (((r2 < x1) → (gG (d + 1) mX3_ripeBottles 4 [some (.ref k), some (.int x1), some (.int x2), some (.int (x3 + 1))] [] σ1 Q)) ∧ ((¬ r2 < x1) → (gG (d + 1) mX3_ripeBottles 4 [some (.ref k), some (.int x1), some (.int (x2 ||| ((1 : Int32) <<< (x3 &&& 31)))), some (.int (x3 + 1))] [] σ1 Q))))))))) : gG (d + 1) mX3_ripeBottles 4 [some (.ref k), some (.int x1), some (.int x2), some (.int x3)] [] σ Q := by
  refine g_iload_n (pc2 := 5) dX3_ripeBottles_4 rfl rfl ?_
  refine g_aload_n (pc2 := 6) dX3_ripeBottles_5 rfl rfl ?_
  refine g_geti (pc2 := 9) dX3_ripeBottles_6 fl_X3_33 hk.1 rfl rfl ?_
  refine g_icmp_ge (tgt := 45) (pc2 := 12) dX3_ripeBottles_9 (by decide) rfl (fun c => ?_) (fun c => ?_)
  · have h := h.1 c
    refine g_iload_n (pc2 := 46) dX3_ripeBottles_45 rfl rfl ?_
    exact g_iret dX3_ripeBottles_46 rfl h
  · have h := h.2 c
    refine g_aload_n (pc2 := 13) dX3_ripeBottles_12 rfl rfl ?_
    refine g_geti (pc2 := 16) dX3_ripeBottles_13 fl_X3_37 hk.1 rfl rfl ?_
    refine g_iload_n (pc2 := 17) dX3_ripeBottles_16 rfl rfl ?_
    refine g_ishr (pc2 := 18) dX3_ripeBottles_17 rfl ?_
    refine g_iconst (v := 1) (pc2 := 19) dX3_ripeBottles_18 (by decide) rfl ?_
    refine g_iand (pc2 := 20) dX3_ripeBottles_19 rfl ?_
    refine g_iconst (v := 1) (pc2 := 21) dX3_ripeBottles_20 (by decide) rfl ?_
    refine g_icmp_ne (tgt := 39) (pc2 := 24) dX3_ripeBottles_21 (by decide) rfl (fun c => ?_) (fun c => ?_)
    · have h := h.1 c
      refine g_iinc2 (c := 1) (pc2 := 42) dX3_ripeBottles_39 rfl (by decide) (by decide) rfl rfl ?_
      refine g_goto (tgt := 4) dX3_ripeBottles_42 (by decide) ?_
      exact g_lw (lv2 := [some (.ref k), some (.int x1), some (.int x2), some (.int (x3 + 1))]) ⟨rfl, ⟨rfl, ⟨rfl, ⟨rfl, trivial⟩⟩⟩⟩ h
    · have h := h.2 c
      refine g_aload_n (pc2 := 25) dX3_ripeBottles_24 rfl rfl ?_
      refine g_iload_n (pc2 := 26) dX3_ripeBottles_25 rfl rfl ?_
      refine g_callV (M2 := mX3_allIn) (as := [.int x3]) (st := []) (pc2 := 29) dX3_ripeBottles_26 ml_X3_134 mvX3_allIn hk.1 rfl rfl rfl (Nat.le_of_ble_eq_true rfl) (Nat.le_refl _) rfl (h.mono ?_)
      rintro _ σ1 ⟨r2, rfl, h⟩
      show gG (d + 1) mX3_ripeBottles 29 _ [.int r2] σ1 Q
      refine g_iload_n (pc2 := 30) dX3_ripeBottles_29 rfl rfl ?_
      refine g_icmp_lt (tgt := 39) (pc2 := 33) dX3_ripeBottles_30 (by decide) rfl (fun c => ?_) (fun c => ?_)
      · have h := h.1 c
        refine g_iinc2 (c := 1) (pc2 := 42) dX3_ripeBottles_39 rfl (by decide) (by decide) rfl rfl ?_
        refine g_goto (tgt := 4) dX3_ripeBottles_42 (by decide) ?_
        exact g_lw (lv2 := [some (.ref k), some (.int x1), some (.int x2), some (.int (x3 + 1))]) ⟨rfl, ⟨rfl, ⟨rfl, ⟨rfl, trivial⟩⟩⟩⟩ h
      · have h := h.2 c
        refine g_iload_n (pc2 := 34) dX3_ripeBottles_33 rfl rfl ?_
        refine g_iconst (v := 1) (pc2 := 35) dX3_ripeBottles_34 (by decide) rfl ?_
        refine g_iload_n (pc2 := 36) dX3_ripeBottles_35 rfl rfl ?_
        refine g_ishl (pc2 := 37) dX3_ripeBottles_36 rfl ?_
        refine g_ior (pc2 := 38) dX3_ripeBottles_37 rfl ?_
        refine g_istore_n (pc2 := 39) dX3_ripeBottles_38 (by decide) rfl rfl ?_
        refine g_iinc2 (c := 1) (pc2 := 42) dX3_ripeBottles_39 rfl (by decide) (by decide) rfl rfl ?_
        refine g_goto (tgt := 4) dX3_ripeBottles_42 (by decide) ?_
        exact g_lw (lv2 := [some (.ref k), some (.int x1), some (.int (x2 ||| ((1 : Int32) <<< (x3 &&& 31)))), some (.int (x3 + 1))]) ⟨rfl, ⟨rfl, ⟨rfl, ⟨rfl, trivial⟩⟩⟩⟩ h
set_option maxRecDepth 20000 in
theorem eX3_voicesWith {d : Nat} {σ : gw_S} {Q : Option Value → gw_S → Prop} {x1 : Int32} {k : Nat} (hk : gw_st k) (h : gG d mX3_voicesWith 4 [some (.ref k), some (.int x1), some (.int 0), some (.int 0)] [] σ Q) : gB d mX3_voicesWith [.ref k, .int x1] σ Q := by
  refine gB_of rfl (Nat.le_of_ble_eq_true rfl) (g_lw (lv2 := [some (.ref k), some (.int x1), none, none]) ⟨rfl, ⟨rfl, trivial⟩⟩ ?_)
  refine g_iconst (v := 0) (pc2 := 1) dX3_voicesWith_0 (by decide) rfl ?_
  refine g_istore_n (pc2 := 2) dX3_voicesWith_1 (by decide) rfl rfl ?_
  refine g_iconst (v := 0) (pc2 := 3) dX3_voicesWith_2 (by decide) rfl ?_
  refine g_istore_n (pc2 := 4) dX3_voicesWith_3 (by decide) rfl rfl ?_
  exact g_lw (lv2 := [some (.ref k), some (.int x1), some (.int 0), some (.int 0)]) ⟨rfl, ⟨rfl, ⟨rfl, ⟨rfl, trivial⟩⟩⟩⟩ h
set_option maxRecDepth 20000 in
theorem bX3_voicesWith_4 {d : Nat} {σ : gw_S} {Q : Option Value → gw_S → Prop} {x1 : Int32} {x2 : Int32} {x3 : Int32} {k : Nat} (hk : gw_st k) (h : (((σ k 7) ≤ x3) → (Q (some (.int x2)) σ)) ∧ ((¬ (σ k 7) ≤ x3) → (vp_in x3 8 ∧ ((((σ (k + 2) x3.toNatClampNeg) ≤ 0) → (gG d mX3_voicesWith 4 [some (.ref k), some (.int x1), some (.int x2), some (.int (x3 + 1))] [] σ Q)) ∧ ((¬ (σ (k + 2) x3.toNatClampNeg) ≤ 0) → (((x1 = (-1)) → (vp_in x3 8 ∧ (gG d mX3_voicesWith 4 [some (.ref k), some (.int x1), some (.int (x2 ||| ((1 : Int32) <<< ((σ (k + 1) x3.toNatClampNeg) &&& 31)))), some (.int (x3 + 1))] [] σ Q))) ∧ ((¬ x1 = (-1)) → (vp_in x3 8 ∧ (vp_in (σ (k + 3) x3.toNatClampNeg) 8 ∧ (((¬ (σ (k + 5) (σ (k + 3) x3.toNatClampNeg).toNatClampNeg) = x1) → (gG d mX3_voicesWith 4 [some (.ref k), some (.int x1), some (.int x2), some (.int (x3 + 1))] [] σ Q)) ∧ (((σ (k + 5) (σ (k + 3) x3.toNatClampNeg).toNatClampNeg) = x1) → (vp_in x3 8 ∧ (gG d mX3_voicesWith 4 [some (.ref k), some (.int x1), some (.int (x2 ||| ((1 : Int32) <<< ((σ (k + 1) x3.toNatClampNeg) &&& 31)))), some (.int (x3 + 1))] [] σ Q))))))))))))) : gG d mX3_voicesWith 4 [some (.ref k), some (.int x1), some (.int x2), some (.int x3)] [] σ Q := by
  refine g_iload_n (pc2 := 5) dX3_voicesWith_4 rfl rfl ?_
  refine g_aload_n (pc2 := 6) dX3_voicesWith_5 rfl rfl ?_
  refine g_geti (pc2 := 9) dX3_voicesWith_6 fl_X3_33 hk.1 rfl rfl ?_
  refine g_icmp_ge (tgt := 58) (pc2 := 12) dX3_voicesWith_9 (by decide) rfl (fun c => ?_) (fun c => ?_)
  · have h := h.1 c
    refine g_iload_n (pc2 := 59) dX3_voicesWith_58 rfl rfl ?_
    exact g_iret dX3_voicesWith_59 rfl h
  · have h := h.2 c
    refine g_aload_n (pc2 := 13) dX3_voicesWith_12 rfl rfl ?_
    refine g_geta (pc2 := 16) dX3_voicesWith_13 fl_X3_15 hk.1 rfl rfl ?_
    refine g_iload_n (pc2 := 17) dX3_voicesWith_16 rfl rfl ?_
    obtain ⟨hx, h⟩ := h
    refine g_iald (pc2 := 18) dX3_voicesWith_17 (hk.2 1 (by decide)) hx rfl ?_
    refine g_if_le (tgt := 52) (pc2 := 21) dX3_voicesWith_18 (by decide) rfl (fun c => ?_) (fun c => ?_)
    · have h := h.1 c
      refine g_iinc2 (c := 1) (pc2 := 55) dX3_voicesWith_52 rfl (by decide) (by decide) rfl rfl ?_
      refine g_goto (tgt := 4) dX3_voicesWith_55 (by decide) ?_
      exact g_lw (lv2 := [some (.ref k), some (.int x1), some (.int x2), some (.int (x3 + 1))]) ⟨rfl, ⟨rfl, ⟨rfl, ⟨rfl, trivial⟩⟩⟩⟩ h
    · have h := h.2 c
      refine g_iload_n (pc2 := 22) dX3_voicesWith_21 rfl rfl ?_
      refine g_iconst (v := (-1)) (pc2 := 23) dX3_voicesWith_22 (by decide) rfl ?_
      refine g_icmp_eq (tgt := 41) (pc2 := 26) dX3_voicesWith_23 (by decide) rfl (fun c => ?_) (fun c => ?_)
      · have h := h.1 c
        refine g_iload_n (pc2 := 42) dX3_voicesWith_41 rfl rfl ?_
        refine g_iconst (v := 1) (pc2 := 43) dX3_voicesWith_42 (by decide) rfl ?_
        refine g_aload_n (pc2 := 44) dX3_voicesWith_43 rfl rfl ?_
        refine g_geta (pc2 := 47) dX3_voicesWith_44 fl_X3_9 hk.1 rfl rfl ?_
        refine g_iload_n (pc2 := 48) dX3_voicesWith_47 rfl rfl ?_
        obtain ⟨hx, h⟩ := h
        refine g_iald (pc2 := 49) dX3_voicesWith_48 (hk.2 0 (by decide)) hx rfl ?_
        refine g_ishl (pc2 := 50) dX3_voicesWith_49 rfl ?_
        refine g_ior (pc2 := 51) dX3_voicesWith_50 rfl ?_
        refine g_istore_n (pc2 := 52) dX3_voicesWith_51 (by decide) rfl rfl ?_
        refine g_iinc2 (c := 1) (pc2 := 55) dX3_voicesWith_52 rfl (by decide) (by decide) rfl rfl ?_
        refine g_goto (tgt := 4) dX3_voicesWith_55 (by decide) ?_
        exact g_lw (lv2 := [some (.ref k), some (.int x1), some (.int (x2 ||| ((1 : Int32) <<< ((σ (k + 1) x3.toNatClampNeg) &&& 31)))), some (.int (x3 + 1))]) ⟨rfl, ⟨rfl, ⟨rfl, ⟨rfl, trivial⟩⟩⟩⟩ h
      · have h := h.2 c
        refine g_aload_n (pc2 := 27) dX3_voicesWith_26 rfl rfl ?_
        refine g_geta (pc2 := 30) dX3_voicesWith_27 fl_X3_24 hk.1 rfl rfl ?_
        refine g_aload_n (pc2 := 31) dX3_voicesWith_30 rfl rfl ?_
        refine g_geta (pc2 := 34) dX3_voicesWith_31 fl_X3_18 hk.1 rfl rfl ?_
        refine g_iload_n (pc2 := 35) dX3_voicesWith_34 rfl rfl ?_
        obtain ⟨hx, h⟩ := h
        refine g_iald (pc2 := 36) dX3_voicesWith_35 (hk.2 2 (by decide)) hx rfl ?_
        obtain ⟨hx, h⟩ := h
        refine g_iald (pc2 := 37) dX3_voicesWith_36 (hk.2 4 (by decide)) hx rfl ?_
        refine g_iload_n (pc2 := 38) dX3_voicesWith_37 rfl rfl ?_
        refine g_icmp_ne (tgt := 52) (pc2 := 41) dX3_voicesWith_38 (by decide) rfl (fun c => ?_) (fun c => ?_)
        · have h := h.1 c
          refine g_iinc2 (c := 1) (pc2 := 55) dX3_voicesWith_52 rfl (by decide) (by decide) rfl rfl ?_
          refine g_goto (tgt := 4) dX3_voicesWith_55 (by decide) ?_
          exact g_lw (lv2 := [some (.ref k), some (.int x1), some (.int x2), some (.int (x3 + 1))]) ⟨rfl, ⟨rfl, ⟨rfl, ⟨rfl, trivial⟩⟩⟩⟩ h
        · have h := h.2 c
          refine g_iload_n (pc2 := 42) dX3_voicesWith_41 rfl rfl ?_
          refine g_iconst (v := 1) (pc2 := 43) dX3_voicesWith_42 (by decide) rfl ?_
          refine g_aload_n (pc2 := 44) dX3_voicesWith_43 rfl rfl ?_
          refine g_geta (pc2 := 47) dX3_voicesWith_44 fl_X3_9 hk.1 rfl rfl ?_
          refine g_iload_n (pc2 := 48) dX3_voicesWith_47 rfl rfl ?_
          obtain ⟨hx, h⟩ := h
          refine g_iald (pc2 := 49) dX3_voicesWith_48 (hk.2 0 (by decide)) hx rfl ?_
          refine g_ishl (pc2 := 50) dX3_voicesWith_49 rfl ?_
          refine g_ior (pc2 := 51) dX3_voicesWith_50 rfl ?_
          refine g_istore_n (pc2 := 52) dX3_voicesWith_51 (by decide) rfl rfl ?_
          refine g_iinc2 (c := 1) (pc2 := 55) dX3_voicesWith_52 rfl (by decide) (by decide) rfl rfl ?_
          refine g_goto (tgt := 4) dX3_voicesWith_55 (by decide) ?_
          exact g_lw (lv2 := [some (.ref k), some (.int x1), some (.int (x2 ||| ((1 : Int32) <<< ((σ (k + 1) x3.toNatClampNeg) &&& 31)))), some (.int (x3 + 1))]) ⟨rfl, ⟨rfl, ⟨rfl, ⟨rfl, trivial⟩⟩⟩⟩ h
set_option maxRecDepth 20000 in
theorem eX4_takeFrom {d : Nat} {σ : gw_S} {Q : Option Value → gw_S → Prop}    (h : gB d mX5_faultAsBottles [.ref 2] σ (fun v σ1 => ∃ r2 : Int32, v = some (.int r2) ∧ (((¬ r2 = (-1)) → (∀ s3 : gw_S, s3 = gw_u σ1 7 4 0 → (∀ s4 : gw_S, s4 = gw_u s3 7 3 0 → (gG (d + 1) mX4_takeFrom 37 [some (.ref 7), some (.ref 2), some (.int 0), none] [] s4 Q)))) ∧ ((r2 = (-1)) → (∀ s5 : gw_S, s5 = gw_u σ1 7 4 (gw_min 8 (((σ1 2 2) + 1) / 6)) → (∀ s6 : gw_S, s6 = gw_u s5 7 3 0 → (gG (d + 1) mX4_takeFrom 37 [some (.ref 7), some (.ref 2), some (.int 0), none] [] s6 Q))))))) : gB (d + 1) mX4_takeFrom [.ref 7, .ref 2] σ Q := by
  refine gB_of rfl (Nat.le_of_ble_eq_true rfl) (g_lw (lv2 := [some (.ref 7), some (.ref 2), none, none]) ⟨rfl, ⟨rfl, trivial⟩⟩ ?_)
  refine g_aload_n (pc2 := 1) dX4_takeFrom_0 rfl rfl ?_
  refine g_aload_n (pc2 := 2) dX4_takeFrom_1 rfl rfl ?_
  refine g_callV (M2 := mX5_faultAsBottles) (as := []) (st := [.ref 7]) (pc2 := 5) dX4_takeFrom_2 ml_X4_28 mvX5_faultAsBottles gk_2 rfl rfl rfl (Nat.le_of_ble_eq_true rfl) (Nat.le_refl _) rfl (h.mono ?_)
  rintro _ σ1 ⟨r2, rfl, h⟩
  show gG (d + 1) mX4_takeFrom 5 _ [.int r2, .ref 7] σ1 Q
  refine g_iconst (v := (-1)) (pc2 := 6) dX4_takeFrom_5 (by decide) rfl ?_
  refine g_icmp_ne (tgt := 26) (pc2 := 9) dX4_takeFrom_6 (by decide) rfl (fun c => ?_) (fun c => ?_)
  · have h := h.1 c
    refine g_iconst (v := 0) (pc2 := 27) dX4_takeFrom_26 (by decide) rfl ?_
    refine g_put2 (pc2 := 30) dX4_takeFrom_27 fp_X4_25 gk_7 rfl rfl rfl rfl (fun s3 es3 => ?_)
    replace h := h s3 es3
    refine g_aload_n (pc2 := 31) dX4_takeFrom_30 rfl rfl ?_
    refine g_iconst (v := 0) (pc2 := 32) dX4_takeFrom_31 (by decide) rfl ?_
    refine g_put2 (pc2 := 35) dX4_takeFrom_32 fp_X4_21 gk_7 rfl rfl rfl rfl (fun s4 es4 => ?_)
    replace h := h s4 es4
    refine g_iconst (v := 0) (pc2 := 36) dX4_takeFrom_35 (by decide) rfl ?_
    refine g_istore_n (pc2 := 37) dX4_takeFrom_36 (by decide) rfl rfl ?_
    exact g_lw (lv2 := [some (.ref 7), some (.ref 2), some (.int 0), none]) ⟨rfl, ⟨rfl, ⟨rfl, trivial⟩⟩⟩ h
  · have h := h.2 c
    refine g_bipush (v := 8) (pc2 := 11) dX4_takeFrom_9 (by decide) rfl ?_
    refine g_aload_n (pc2 := 12) dX4_takeFrom_11 rfl rfl ?_
    refine g_geti (pc2 := 15) dX4_takeFrom_12 fl_X4_34 gk_2 rfl rfl ?_
    refine g_iconst (v := 1) (pc2 := 16) dX4_takeFrom_15 (by decide) rfl ?_
    refine g_iadd (pc2 := 17) dX4_takeFrom_16 rfl ?_
    refine g_bipush (v := 6) (pc2 := 19) dX4_takeFrom_17 (by decide) rfl ?_
    refine g_idiv (pc2 := 20) dX4_takeFrom_19 (by decide) rfl ?_
    refine g_mmin (pc2 := 23) dX4_takeFrom_20 ml_X4_35 (Nat.le_add_left 1 _) (Nat.le_of_ble_eq_true rfl) rfl ?_
    refine g_goto (tgt := 27) dX4_takeFrom_23 (by decide) ?_
    refine g_put2 (pc2 := 30) dX4_takeFrom_27 fp_X4_25 gk_7 rfl rfl rfl rfl (fun s5 es5 => ?_)
    replace h := h s5 es5
    refine g_aload_n (pc2 := 31) dX4_takeFrom_30 rfl rfl ?_
    refine g_iconst (v := 0) (pc2 := 32) dX4_takeFrom_31 (by decide) rfl ?_
    refine g_put2 (pc2 := 35) dX4_takeFrom_32 fp_X4_21 gk_7 rfl rfl rfl rfl (fun s6 es6 => ?_)
    replace h := h s6 es6
    refine g_iconst (v := 0) (pc2 := 36) dX4_takeFrom_35 (by decide) rfl ?_
    refine g_istore_n (pc2 := 37) dX4_takeFrom_36 (by decide) rfl rfl ?_
    exact g_lw (lv2 := [some (.ref 7), some (.ref 2), some (.int 0), none]) ⟨rfl, ⟨rfl, ⟨rfl, trivial⟩⟩⟩ h
set_option maxRecDepth 20000 in
theorem bX4_takeFrom_37 {d : Nat} {σ : gw_S} {Q : Option Value → gw_S → Prop} {x2 : Int32}   (h : (((σ 7 4) ≤ x2) → (Q none σ)) ∧ ((¬ (σ 7 4) ≤ x2) → (vp_in (6 * x2) 47 ∧ (vp_in x2 8 ∧ (∀ s7 : gw_S, s7 = gw_u σ 8 x2.toNatClampNeg ((σ 3 (6 * x2).toNatClampNeg) - 97) → (vp_in ((6 * x2) + 1) 47 ∧ (vp_in ((6 * x2) + 2) 47 ∧ (vp_in x2 8 ∧ (∀ s8 : gw_S, s8 = gw_u s7 9 x2.toNatClampNeg (((10 * ((s7 3 ((6 * x2) + 1).toNatClampNeg) - 48)) + (s7 3 ((6 * x2) + 2).toNatClampNeg)) - 48) → (vp_in ((6 * x2) + 3) 47 ∧ (vp_in x2 8 ∧ (∀ s9 : gw_S, s9 = gw_u s8 10 x2.toNatClampNeg ((s8 3 ((6 * x2) + 3).toNatClampNeg) - 48) → (vp_in ((6 * x2) + 4) 47 ∧ (((¬ (s9 3 ((6 * x2) + 4).toNatClampNeg) = 115) → (gG (d + 1) mX4_takeFrom 37 [some (.ref 7), some (.ref 2), some (.int (x2 + 1)), none] [] s9 Q)) ∧ (((s9 3 ((6 * x2) + 4).toNatClampNeg) = 115) → (∀ s10 : gw_S, s10 = gw_u s9 7 3 ((s9 7 3) ||| ((1 : Int32) <<< (x2 &&& 31))) → (gG (d + 1) mX4_takeFrom 37 [some (.ref 7), some (.ref 2), some (.int (x2 + 1)), none] [] s10 Q))))))))))))))))) : gG (d + 1) mX4_takeFrom 37 [some (.ref 7), some (.ref 2), some (.int x2), none] [] σ Q := by
  refine g_iload_n (pc2 := 38) dX4_takeFrom_37 rfl rfl ?_
  refine g_aload_n (pc2 := 39) dX4_takeFrom_38 rfl rfl ?_
  refine g_geti (pc2 := 42) dX4_takeFrom_39 fl_X4_25 gk_7 rfl rfl ?_
  refine g_icmp_ge (tgt := 145) (pc2 := 45) dX4_takeFrom_42 (by decide) rfl (fun c => ?_) (fun c => ?_)
  · have h := h.1 c
    exact g_vret dX4_takeFrom_145 rfl h
  · have h := h.2 c
    refine g_bipush (v := 6) (pc2 := 47) dX4_takeFrom_45 (by decide) rfl ?_
    refine g_iload_n (pc2 := 48) dX4_takeFrom_47 rfl rfl ?_
    refine g_imul (pc2 := 49) dX4_takeFrom_48 rfl ?_
    refine g_istore_n (pc2 := 50) dX4_takeFrom_49 (by decide) rfl rfl ?_
    refine g_aload_n (pc2 := 51) dX4_takeFrom_50 rfl rfl ?_
    refine g_geta (pc2 := 54) dX4_takeFrom_51 fl_X4_9 gk_7 rfl rfl ?_
    refine g_iload_n (pc2 := 55) dX4_takeFrom_54 rfl rfl ?_
    refine g_aload_n (pc2 := 56) dX4_takeFrom_55 rfl rfl ?_
    refine g_geta (pc2 := 59) dX4_takeFrom_56 fl_X4_41 gk_2 rfl rfl ?_
    refine g_iload_n (pc2 := 60) dX4_takeFrom_59 rfl rfl ?_
    obtain ⟨hx, h⟩ := h
    refine g_iald (pc2 := 61) dX4_takeFrom_60 gk_3 hx rfl ?_
    refine g_bipush (v := 97) (pc2 := 63) dX4_takeFrom_61 (by decide) rfl ?_
    refine g_isub (pc2 := 64) dX4_takeFrom_63 rfl ?_
    obtain ⟨hx, h⟩ := h
    refine g_iast2 (pc2 := 65) dX4_takeFrom_64 gk_8 hx rfl (fun s7 es7 => ?_)
    replace h := h s7 es7
    refine g_aload_n (pc2 := 66) dX4_takeFrom_65 rfl rfl ?_
    refine g_geta (pc2 := 69) dX4_takeFrom_66 fl_X4_15 gk_7 rfl rfl ?_
    refine g_iload_n (pc2 := 70) dX4_takeFrom_69 rfl rfl ?_
    refine g_bipush (v := 10) (pc2 := 72) dX4_takeFrom_70 (by decide) rfl ?_
    refine g_aload_n (pc2 := 73) dX4_takeFrom_72 rfl rfl ?_
    refine g_geta (pc2 := 76) dX4_takeFrom_73 fl_X4_41 gk_2 rfl rfl ?_
    refine g_iload_n (pc2 := 77) dX4_takeFrom_76 rfl rfl ?_
    refine g_iconst (v := 1) (pc2 := 78) dX4_takeFrom_77 (by decide) rfl ?_
    refine g_iadd (pc2 := 79) dX4_takeFrom_78 rfl ?_
    obtain ⟨hx, h⟩ := h
    refine g_iald (pc2 := 80) dX4_takeFrom_79 gk_3 hx rfl ?_
    refine g_bipush (v := 48) (pc2 := 82) dX4_takeFrom_80 (by decide) rfl ?_
    refine g_isub (pc2 := 83) dX4_takeFrom_82 rfl ?_
    refine g_imul (pc2 := 84) dX4_takeFrom_83 rfl ?_
    refine g_aload_n (pc2 := 85) dX4_takeFrom_84 rfl rfl ?_
    refine g_geta (pc2 := 88) dX4_takeFrom_85 fl_X4_41 gk_2 rfl rfl ?_
    refine g_iload_n (pc2 := 89) dX4_takeFrom_88 rfl rfl ?_
    refine g_iconst (v := 2) (pc2 := 90) dX4_takeFrom_89 (by decide) rfl ?_
    refine g_iadd (pc2 := 91) dX4_takeFrom_90 rfl ?_
    obtain ⟨hx, h⟩ := h
    refine g_iald (pc2 := 92) dX4_takeFrom_91 gk_3 hx rfl ?_
    refine g_iadd (pc2 := 93) dX4_takeFrom_92 rfl ?_
    refine g_bipush (v := 48) (pc2 := 95) dX4_takeFrom_93 (by decide) rfl ?_
    refine g_isub (pc2 := 96) dX4_takeFrom_95 rfl ?_
    obtain ⟨hx, h⟩ := h
    refine g_iast2 (pc2 := 97) dX4_takeFrom_96 gk_9 hx rfl (fun s8 es8 => ?_)
    replace h := h s8 es8
    refine g_aload_n (pc2 := 98) dX4_takeFrom_97 rfl rfl ?_
    refine g_geta (pc2 := 101) dX4_takeFrom_98 fl_X4_18 gk_7 rfl rfl ?_
    refine g_iload_n (pc2 := 102) dX4_takeFrom_101 rfl rfl ?_
    refine g_aload_n (pc2 := 103) dX4_takeFrom_102 rfl rfl ?_
    refine g_geta (pc2 := 106) dX4_takeFrom_103 fl_X4_41 gk_2 rfl rfl ?_
    refine g_iload_n (pc2 := 107) dX4_takeFrom_106 rfl rfl ?_
    refine g_iconst (v := 3) (pc2 := 108) dX4_takeFrom_107 (by decide) rfl ?_
    refine g_iadd (pc2 := 109) dX4_takeFrom_108 rfl ?_
    obtain ⟨hx, h⟩ := h
    refine g_iald (pc2 := 110) dX4_takeFrom_109 gk_3 hx rfl ?_
    refine g_bipush (v := 48) (pc2 := 112) dX4_takeFrom_110 (by decide) rfl ?_
    refine g_isub (pc2 := 113) dX4_takeFrom_112 rfl ?_
    obtain ⟨hx, h⟩ := h
    refine g_iast2 (pc2 := 114) dX4_takeFrom_113 gk_10 hx rfl (fun s9 es9 => ?_)
    replace h := h s9 es9
    refine g_aload_n (pc2 := 115) dX4_takeFrom_114 rfl rfl ?_
    refine g_geta (pc2 := 118) dX4_takeFrom_115 fl_X4_41 gk_2 rfl rfl ?_
    refine g_iload_n (pc2 := 119) dX4_takeFrom_118 rfl rfl ?_
    refine g_iconst (v := 4) (pc2 := 120) dX4_takeFrom_119 (by decide) rfl ?_
    refine g_iadd (pc2 := 121) dX4_takeFrom_120 rfl ?_
    obtain ⟨hx, h⟩ := h
    refine g_iald (pc2 := 122) dX4_takeFrom_121 gk_3 hx rfl ?_
    refine g_bipush (v := 115) (pc2 := 124) dX4_takeFrom_122 (by decide) rfl ?_
    refine g_icmp_ne (tgt := 139) (pc2 := 127) dX4_takeFrom_124 (by decide) rfl (fun c => ?_) (fun c => ?_)
    · have h := h.1 c
      refine g_iinc2 (c := 1) (pc2 := 142) dX4_takeFrom_139 rfl (by decide) (by decide) rfl rfl ?_
      refine g_goto (tgt := 37) dX4_takeFrom_142 (by decide) ?_
      exact g_lw (lv2 := [some (.ref 7), some (.ref 2), some (.int (x2 + 1)), none]) ⟨rfl, ⟨rfl, ⟨rfl, trivial⟩⟩⟩ h
    · have h := h.2 c
      refine g_aload_n (pc2 := 128) dX4_takeFrom_127 rfl rfl ?_
      refine g_dup (pc2 := 129) dX4_takeFrom_128 rfl rfl ?_
      refine g_geti (pc2 := 132) dX4_takeFrom_129 fl_X4_21 gk_7 rfl rfl ?_
      refine g_iconst (v := 1) (pc2 := 133) dX4_takeFrom_132 (by decide) rfl ?_
      refine g_iload_n (pc2 := 134) dX4_takeFrom_133 rfl rfl ?_
      refine g_ishl (pc2 := 135) dX4_takeFrom_134 rfl ?_
      refine g_ior (pc2 := 136) dX4_takeFrom_135 rfl ?_
      refine g_put2 (pc2 := 139) dX4_takeFrom_136 fp_X4_21 gk_7 rfl rfl rfl rfl (fun s10 es10 => ?_)
      replace h := h s10 es10
      refine g_iinc2 (c := 1) (pc2 := 142) dX4_takeFrom_139 rfl (by decide) (by decide) rfl rfl ?_
      refine g_goto (tgt := 37) dX4_takeFrom_142 (by decide) ?_
      exact g_lw (lv2 := [some (.ref 7), some (.ref 2), some (.int (x2 + 1)), none]) ⟨rfl, ⟨rfl, ⟨rfl, trivial⟩⟩⟩ h
set_option maxRecDepth 20000 in
theorem eX4_voices {d : Nat} {σ : gw_S} {Q : Option Value → gw_S → Prop}    (h : gG d mX4_voices 4 [some (.ref 7), some (.int 0), some (.int 0)] [] σ Q) : gB d mX4_voices [.ref 7] σ Q := by
  refine gB_of rfl (Nat.le_of_ble_eq_true rfl) (g_lw (lv2 := [some (.ref 7), none, none]) ⟨rfl, trivial⟩ ?_)
  refine g_iconst (v := 0) (pc2 := 1) dX4_voices_0 (by decide) rfl ?_
  refine g_istore_n (pc2 := 2) dX4_voices_1 (by decide) rfl rfl ?_
  refine g_iconst (v := 0) (pc2 := 3) dX4_voices_2 (by decide) rfl ?_
  refine g_istore_n (pc2 := 4) dX4_voices_3 (by decide) rfl rfl ?_
  exact g_lw (lv2 := [some (.ref 7), some (.int 0), some (.int 0)]) ⟨rfl, ⟨rfl, ⟨rfl, trivial⟩⟩⟩ h
set_option maxRecDepth 20000 in
theorem bX4_voices_4 {d : Nat} {σ : gw_S} {Q : Option Value → gw_S → Prop} {x1 : Int32} {x2 : Int32}   (h : (((σ 7 4) ≤ x2) → (Q (some (.int x1)) σ)) ∧ ((¬ (σ 7 4) ≤ x2) → (vp_in x2 8 ∧ (gG d mX4_voices 4 [some (.ref 7), some (.int (x1 ||| ((1 : Int32) <<< ((σ 8 x2.toNatClampNeg) &&& 31)))), some (.int (x2 + 1))] [] σ Q)))) : gG d mX4_voices 4 [some (.ref 7), some (.int x1), some (.int x2)] [] σ Q := by
  refine g_iload_n (pc2 := 5) dX4_voices_4 rfl rfl ?_
  refine g_aload_n (pc2 := 6) dX4_voices_5 rfl rfl ?_
  refine g_geti (pc2 := 9) dX4_voices_6 fl_X4_25 gk_7 rfl rfl ?_
  refine g_icmp_ge (tgt := 29) (pc2 := 12) dX4_voices_9 (by decide) rfl (fun c => ?_) (fun c => ?_)
  · have h := h.1 c
    refine g_iload_n (pc2 := 30) dX4_voices_29 rfl rfl ?_
    exact g_iret dX4_voices_30 rfl h
  · have h := h.2 c
    refine g_iload_n (pc2 := 13) dX4_voices_12 rfl rfl ?_
    refine g_iconst (v := 1) (pc2 := 14) dX4_voices_13 (by decide) rfl ?_
    refine g_aload_n (pc2 := 15) dX4_voices_14 rfl rfl ?_
    refine g_geta (pc2 := 18) dX4_voices_15 fl_X4_9 gk_7 rfl rfl ?_
    refine g_iload_n (pc2 := 19) dX4_voices_18 rfl rfl ?_
    obtain ⟨hx, h⟩ := h
    refine g_iald (pc2 := 20) dX4_voices_19 gk_8 hx rfl ?_
    refine g_ishl (pc2 := 21) dX4_voices_20 rfl ?_
    refine g_ior (pc2 := 22) dX4_voices_21 rfl ?_
    refine g_istore_n (pc2 := 23) dX4_voices_22 (by decide) rfl rfl ?_
    refine g_iinc2 (c := 1) (pc2 := 26) dX4_voices_23 rfl (by decide) (by decide) rfl rfl ?_
    refine g_goto (tgt := 4) dX4_voices_26 (by decide) ?_
    exact g_lw (lv2 := [some (.ref 7), some (.int (x1 ||| ((1 : Int32) <<< ((σ 8 x2.toNatClampNeg) &&& 31)))), some (.int (x2 + 1))]) ⟨rfl, ⟨rfl, ⟨rfl, trivial⟩⟩⟩ h
set_option maxRecDepth 20000 in
theorem eX5_faultAsBottles {d : Nat} {σ : gw_S} {Q : Option Value → gw_S → Prop}  {k : Nat} (hk : gw_tx k) (h : gG (d + 1) mX5_faultAsBottles 2 [some (.ref k), some (.int 0)] [] σ Q) : gB (d + 1) mX5_faultAsBottles [.ref k] σ Q := by
  refine gB_of rfl (Nat.le_of_ble_eq_true rfl) (g_lw (lv2 := [some (.ref k), none]) ⟨rfl, trivial⟩ ?_)
  refine g_iconst (v := 0) (pc2 := 1) dX5_faultAsBottles_0 (by decide) rfl ?_
  refine g_istore_n (pc2 := 2) dX5_faultAsBottles_1 (by decide) rfl rfl ?_
  exact g_lw (lv2 := [some (.ref k), some (.int 0)]) ⟨rfl, ⟨rfl, trivial⟩⟩ h
set_option maxRecDepth 20000 in
theorem bX5_faultAsBottles_2 {d : Nat} {σ : gw_S} {Q : Option Value → gw_S → Prop} {x1 : Int32} {k : Nat} (hk : gw_tx k) (h : (((σ k 2) ≤ x1) → ((((σ k 2) = 0) → (Q (some (.int (-1))) σ)) ∧ ((¬ (σ k 2) = 0) → (((¬ (gw_rem (σ k 2) 6) = 5) → (Q (some (.int (σ k 2))) σ)) ∧ (((gw_rem (σ k 2) 6) = 5) → (Q (some (.int (-1))) σ)))))) ∧ ((¬ (σ k 2) ≤ x1) → (gB d mX5_mayStandAt [.ref k, .int x1] σ (fun v σ1 => ∃ r2 : Int32, v = some (.int r2) ∧ (((¬ r2 = 0) → (gG (d + 1) mX5_faultAsBottles 2 [some (.ref k), some (.int (x1 + 1))] [] σ1 Q)) ∧ ((r2 = 0) → (Q (some (.int x1)) σ1))))))) : gG (d + 1) mX5_faultAsBottles 2 [some (.ref k), some (.int x1)] [] σ Q := by
  refine g_iload_n (pc2 := 3) dX5_faultAsBottles_2 rfl rfl ?_
  refine g_aload_n (pc2 := 4) dX5_faultAsBottles_3 rfl rfl ?_
  refine g_geti (pc2 := 7) dX5_faultAsBottles_4 fl_X5_15 hk.1 rfl rfl ?_
  refine g_icmp_ge (tgt := 26) (pc2 := 10) dX5_faultAsBottles_7 (by decide) rfl (fun c => ?_) (fun c => ?_)
  · have h := h.1 c
    refine g_aload_n (pc2 := 27) dX5_faultAsBottles_26 rfl rfl ?_
    refine g_geti (pc2 := 30) dX5_faultAsBottles_27 fl_X5_15 hk.1 rfl rfl ?_
    refine g_if_eq (tgt := 44) (pc2 := 33) dX5_faultAsBottles_30 (by decide) rfl (fun c => ?_) (fun c => ?_)
    · have h := h.1 c
      refine g_iconst (v := (-1)) (pc2 := 45) dX5_faultAsBottles_44 (by decide) rfl ?_
      refine g_goto (tgt := 52) dX5_faultAsBottles_45 (by decide) ?_
      exact g_iret dX5_faultAsBottles_52 rfl h
    · have h := h.2 c
      refine g_aload_n (pc2 := 34) dX5_faultAsBottles_33 rfl rfl ?_
      refine g_geti (pc2 := 37) dX5_faultAsBottles_34 fl_X5_15 hk.1 rfl rfl ?_
      refine g_bipush (v := 6) (pc2 := 39) dX5_faultAsBottles_37 (by decide) rfl ?_
      refine g_irem (pc2 := 40) dX5_faultAsBottles_39 (by decide) rfl ?_
      refine g_iconst (v := 5) (pc2 := 41) dX5_faultAsBottles_40 (by decide) rfl ?_
      refine g_icmp_ne (tgt := 48) (pc2 := 44) dX5_faultAsBottles_41 (by decide) rfl (fun c => ?_) (fun c => ?_)
      · have h := h.1 c
        refine g_aload_n (pc2 := 49) dX5_faultAsBottles_48 rfl rfl ?_
        refine g_geti (pc2 := 52) dX5_faultAsBottles_49 fl_X5_15 hk.1 rfl rfl ?_
        exact g_iret dX5_faultAsBottles_52 rfl h
      · have h := h.2 c
        refine g_iconst (v := (-1)) (pc2 := 45) dX5_faultAsBottles_44 (by decide) rfl ?_
        refine g_goto (tgt := 52) dX5_faultAsBottles_45 (by decide) ?_
        exact g_iret dX5_faultAsBottles_52 rfl h
  · have h := h.2 c
    refine g_aload_n (pc2 := 11) dX5_faultAsBottles_10 rfl rfl ?_
    refine g_iload_n (pc2 := 12) dX5_faultAsBottles_11 rfl rfl ?_
    refine g_callV (M2 := mX5_mayStandAt) (as := [.int x1]) (st := []) (pc2 := 15) dX5_faultAsBottles_12 ml_X5_28 mvX5_mayStandAt hk.1 rfl rfl rfl (Nat.le_of_ble_eq_true rfl) (Nat.le_refl _) rfl (h.mono ?_)
    rintro _ σ1 ⟨r2, rfl, h⟩
    show gG (d + 1) mX5_faultAsBottles 15 _ [.int r2] σ1 Q
    refine g_if_ne (tgt := 20) (pc2 := 18) dX5_faultAsBottles_15 (by decide) rfl (fun c => ?_) (fun c => ?_)
    · have h := h.1 c
      refine g_iinc2 (c := 1) (pc2 := 23) dX5_faultAsBottles_20 rfl (by decide) (by decide) rfl rfl ?_
      refine g_goto (tgt := 2) dX5_faultAsBottles_23 (by decide) ?_
      exact g_lw (lv2 := [some (.ref k), some (.int (x1 + 1))]) ⟨rfl, ⟨rfl, trivial⟩⟩ h
    · have h := h.2 c
      refine g_iload_n (pc2 := 19) dX5_faultAsBottles_18 rfl rfl ?_
      exact g_iret dX5_faultAsBottles_19 rfl h
set_option maxRecDepth 20000 in
theorem eX5_faultAsSong {d : Nat} {σ : gw_S} {Q : Option Value → gw_S → Prop}  {k : Nat} (hk : gw_tx k) (h : gG (d + 1) mX5_faultAsSong 2 [some (.ref k), some (.int 0)] [] σ Q) : gB (d + 1) mX5_faultAsSong [.ref k] σ Q := by
  refine gB_of rfl (Nat.le_of_ble_eq_true rfl) (g_lw (lv2 := [some (.ref k), none]) ⟨rfl, trivial⟩ ?_)
  refine g_iconst (v := 0) (pc2 := 1) dX5_faultAsSong_0 (by decide) rfl ?_
  refine g_istore_n (pc2 := 2) dX5_faultAsSong_1 (by decide) rfl rfl ?_
  exact g_lw (lv2 := [some (.ref k), some (.int 0)]) ⟨rfl, ⟨rfl, trivial⟩⟩ h
set_option maxRecDepth 20000 in
theorem bX5_faultAsSong_2 {d : Nat} {σ : gw_S} {Q : Option Value → gw_S → Prop} {x1 : Int32} {k : Nat} (hk : gw_tx k) (h : (((σ k 2) ≤ x1) → (Q (some (.int (-1))) σ)) ∧ ((¬ (σ k 2) ≤ x1) → (vp_in x1 47 ∧ (gB d mX5_isLetter [.int (σ (k + 1) x1.toNatClampNeg)] σ (fun v σ1 => ∃ r2 : Int32, v = some (.int r2) ∧ (((¬ r2 = 0) → (gG (d + 1) mX5_faultAsSong 2 [some (.ref k), some (.int (x1 + 1))] [] σ1 Q)) ∧ ((r2 = 0) → (Q (some (.int x1)) σ1)))))))) : gG (d + 1) mX5_faultAsSong 2 [some (.ref k), some (.int x1)] [] σ Q := by
  refine g_iload_n (pc2 := 3) dX5_faultAsSong_2 rfl rfl ?_
  refine g_aload_n (pc2 := 4) dX5_faultAsSong_3 rfl rfl ?_
  refine g_geti (pc2 := 7) dX5_faultAsSong_4 fl_X5_15 hk.1 rfl rfl ?_
  refine g_icmp_ge (tgt := 30) (pc2 := 10) dX5_faultAsSong_7 (by decide) rfl (fun c => ?_) (fun c => ?_)
  · have h := h.1 c
    refine g_iconst (v := (-1)) (pc2 := 31) dX5_faultAsSong_30 (by decide) rfl ?_
    exact g_iret dX5_faultAsSong_31 rfl h
  · have h := h.2 c
    refine g_aload_n (pc2 := 11) dX5_faultAsSong_10 rfl rfl ?_
    refine g_geta (pc2 := 14) dX5_faultAsSong_11 fl_X5_9 hk.1 rfl rfl ?_
    refine g_iload_n (pc2 := 15) dX5_faultAsSong_14 rfl rfl ?_
    obtain ⟨hx, h⟩ := h
    refine g_iald (pc2 := 16) dX5_faultAsSong_15 hk.2 hx rfl ?_
    refine g_callS (M2 := mX5_isLetter) (as := [.int (σ (k + 1) x1.toNatClampNeg)]) (st := []) (pc2 := 19) dX5_faultAsSong_16 ml_X5_32 msX5_isLetter rfl rfl (Nat.le_of_ble_eq_true rfl) (Nat.le_refl _) rfl (h.mono ?_)
    rintro _ σ1 ⟨r2, rfl, h⟩
    show gG (d + 1) mX5_faultAsSong 19 _ [.int r2] σ1 Q
    refine g_if_ne (tgt := 24) (pc2 := 22) dX5_faultAsSong_19 (by decide) rfl (fun c => ?_) (fun c => ?_)
    · have h := h.1 c
      refine g_iinc2 (c := 1) (pc2 := 27) dX5_faultAsSong_24 rfl (by decide) (by decide) rfl rfl ?_
      refine g_goto (tgt := 2) dX5_faultAsSong_27 (by decide) ?_
      exact g_lw (lv2 := [some (.ref k), some (.int (x1 + 1))]) ⟨rfl, ⟨rfl, trivial⟩⟩ h
    · have h := h.2 c
      refine g_iload_n (pc2 := 23) dX5_faultAsSong_22 rfl rfl ?_
      exact g_iret dX5_faultAsSong_23 rfl h
set_option maxRecDepth 20000 in
theorem eX5_isFigure {d : Nat} {σ : gw_S} {Q : Option Value → gw_S → Prop} {x0 : Int32}   (h : ((x0 < 48) → (Q (some (.int 0)) σ)) ∧ ((¬ x0 < 48) → (((57 < x0) → (Q (some (.int 0)) σ)) ∧ ((¬ 57 < x0) → (Q (some (.int 1)) σ))))) : gB d mX5_isFigure [.int x0] σ Q := by
  refine gB_of rfl (Nat.le_of_ble_eq_true rfl) (g_lw (lv2 := [some (.int x0)]) ⟨rfl, trivial⟩ ?_)
  refine g_iload_n (pc2 := 1) dX5_isFigure_0 rfl rfl ?_
  refine g_bipush (v := 48) (pc2 := 3) dX5_isFigure_1 (by decide) rfl ?_
  refine g_icmp_lt (tgt := 16) (pc2 := 6) dX5_isFigure_3 (by decide) rfl (fun c => ?_) (fun c => ?_)
  · have h := h.1 c
    refine g_iconst (v := 0) (pc2 := 17) dX5_isFigure_16 (by decide) rfl ?_
    exact g_zret dX5_isFigure_17 rfl rfl h
  · have h := h.2 c
    refine g_iload_n (pc2 := 7) dX5_isFigure_6 rfl rfl ?_
    refine g_bipush (v := 57) (pc2 := 9) dX5_isFigure_7 (by decide) rfl ?_
    refine g_icmp_gt (tgt := 16) (pc2 := 12) dX5_isFigure_9 (by decide) rfl (fun c => ?_) (fun c => ?_)
    · have h := h.1 c
      refine g_iconst (v := 0) (pc2 := 17) dX5_isFigure_16 (by decide) rfl ?_
      exact g_zret dX5_isFigure_17 rfl rfl h
    · have h := h.2 c
      refine g_iconst (v := 1) (pc2 := 13) dX5_isFigure_12 (by decide) rfl ?_
      refine g_goto (tgt := 17) dX5_isFigure_13 (by decide) ?_
      exact g_zret dX5_isFigure_17 rfl rfl h
set_option maxRecDepth 20000 in
theorem eX5_isLetter {d : Nat} {σ : gw_S} {Q : Option Value → gw_S → Prop} {x0 : Int32}   (h : ((x0 < 97) → (Q (some (.int 0)) σ)) ∧ ((¬ x0 < 97) → (((104 < x0) → (Q (some (.int 0)) σ)) ∧ ((¬ 104 < x0) → (Q (some (.int 1)) σ))))) : gB d mX5_isLetter [.int x0] σ Q := by
  refine gB_of rfl (Nat.le_of_ble_eq_true rfl) (g_lw (lv2 := [some (.int x0)]) ⟨rfl, trivial⟩ ?_)
  refine g_iload_n (pc2 := 1) dX5_isLetter_0 rfl rfl ?_
  refine g_bipush (v := 97) (pc2 := 3) dX5_isLetter_1 (by decide) rfl ?_
  refine g_icmp_lt (tgt := 16) (pc2 := 6) dX5_isLetter_3 (by decide) rfl (fun c => ?_) (fun c => ?_)
  · have h := h.1 c
    refine g_iconst (v := 0) (pc2 := 17) dX5_isLetter_16 (by decide) rfl ?_
    exact g_zret dX5_isLetter_17 rfl rfl h
  · have h := h.2 c
    refine g_iload_n (pc2 := 7) dX5_isLetter_6 rfl rfl ?_
    refine g_bipush (v := 104) (pc2 := 9) dX5_isLetter_7 (by decide) rfl ?_
    refine g_icmp_gt (tgt := 16) (pc2 := 12) dX5_isLetter_9 (by decide) rfl (fun c => ?_) (fun c => ?_)
    · have h := h.1 c
      refine g_iconst (v := 0) (pc2 := 17) dX5_isLetter_16 (by decide) rfl ?_
      exact g_zret dX5_isLetter_17 rfl rfl h
    · have h := h.2 c
      refine g_iconst (v := 1) (pc2 := 13) dX5_isLetter_12 (by decide) rfl ?_
      refine g_goto (tgt := 17) dX5_isLetter_13 (by decide) ?_
      exact g_zret dX5_isLetter_17 rfl rfl h
set_option maxRecDepth 20000 in
theorem eX5_mayStandAt {d : Nat} {σ : gw_S} {Q : Option Value → gw_S → Prop} {x1 : Int32} {k : Nat} (hk : gw_tx k) (h : vp_in x1 47 ∧ (((gw_rem x1 6) = 0 → (gB d mX5_isLetter [.int (σ (k + 1) x1.toNatClampNeg)] σ (fun v σ1 => ∃ r2 : Int32, v = some (.int r2) ∧ (narrow .boolean (.int r2) = .int r2 ∧ Q (some (.int r2)) σ1)))) ∧ ((gw_rem x1 6) = 1 → (gB d mX5_isFigure [.int (σ (k + 1) x1.toNatClampNeg)] σ (fun v σ3 => ∃ r4 : Int32, v = some (.int r4) ∧ (narrow .boolean (.int r4) = .int r4 ∧ Q (some (.int r4)) σ3)))) ∧ ((gw_rem x1 6) = 2 → (gB d mX5_isFigure [.int (σ (k + 1) x1.toNatClampNeg)] σ (fun v σ5 => ∃ r6 : Int32, v = some (.int r6) ∧ (((r6 = 0) → (Q (some (.int 0)) σ5)) ∧ ((¬ r6 = 0) → (((¬ (σ (k + 1) x1.toNatClampNeg) = 48) → (Q (some (.int 1)) σ5)) ∧ (((σ (k + 1) x1.toNatClampNeg) = 48) → (((x1 < 1) → (Q (some (.int 1)) σ5)) ∧ ((¬ x1 < 1) → (vp_in (x1 - 1) 47 ∧ ((((σ5 (k + 1) (x1 - 1).toNatClampNeg) = 48) → (Q (some (.int 0)) σ5)) ∧ ((¬ (σ5 (k + 1) (x1 - 1).toNatClampNeg) = 48) → (Q (some (.int 1)) σ5))))))))))))) ∧ ((gw_rem x1 6) = 3 → (gB d mX5_isFigure [.int (σ (k + 1) x1.toNatClampNeg)] σ (fun v σ7 => ∃ r8 : Int32, v = some (.int r8) ∧ (narrow .boolean (.int r8) = .int r8 ∧ Q (some (.int r8)) σ7)))) ∧ ((gw_rem x1 6) = 4 → ((((σ (k + 1) x1.toNatClampNeg) = 110) → (Q (some (.int 1)) σ)) ∧ ((¬ (σ (k + 1) x1.toNatClampNeg) = 110) → (((¬ (σ (k + 1) x1.toNatClampNeg) = 115) → (Q (some (.int 0)) σ)) ∧ (((σ (k + 1) x1.toNatClampNeg) = 115) → (Q (some (.int 1)) σ)))))) ∧ (¬ (gw_rem x1 6) = 0 → ¬ (gw_rem x1 6) = 1 → ¬ (gw_rem x1 6) = 2 → ¬ (gw_rem x1 6) = 3 → ¬ (gw_rem x1 6) = 4 → (((¬ (σ (k + 1) x1.toNatClampNeg) = 59) → (Q (some (.int 0)) σ)) ∧ (((σ (k + 1) x1.toNatClampNeg) = 59) → (Q (some (.int 1)) σ)))))) : gB (d + 1) mX5_mayStandAt [.ref k, .int x1] σ Q := by
  refine gB_of rfl (Nat.le_of_ble_eq_true rfl) (g_lw (lv2 := [some (.ref k), some (.int x1), none]) ⟨rfl, ⟨rfl, trivial⟩⟩ ?_)
  refine g_aload_n (pc2 := 1) dX5_mayStandAt_0 rfl rfl ?_
  refine g_geta (pc2 := 4) dX5_mayStandAt_1 fl_X5_9 hk.1 rfl rfl ?_
  refine g_iload_n (pc2 := 5) dX5_mayStandAt_4 rfl rfl ?_
  obtain ⟨hx, h⟩ := h
  refine g_iald (pc2 := 6) dX5_mayStandAt_5 hk.2 hx rfl ?_
  refine g_istore_n (pc2 := 7) dX5_mayStandAt_6 (by decide) rfl rfl ?_
  refine g_iload_n (pc2 := 8) dX5_mayStandAt_7 rfl rfl ?_
  refine g_bipush (v := 6) (pc2 := 10) dX5_mayStandAt_8 (by decide) rfl ?_
  refine g_irem (pc2 := 11) dX5_mayStandAt_10 (by decide) rfl ?_
  by_cases c0 : (gw_rem x1 6) = 0
  · have h := h.1 c0
    refine g_tabIn (x := gw_rem x1 6) (tgt := 44) dX5_mayStandAt_11 (by rw [c0]; decide) (by rw [c0]; decide) (by rw [c0]; rfl) (by decide) ?_
    refine g_iload_n (pc2 := 45) dX5_mayStandAt_44 rfl rfl ?_
    refine g_callS (M2 := mX5_isLetter) (as := [.int (σ (k + 1) x1.toNatClampNeg)]) (st := []) (pc2 := 48) dX5_mayStandAt_45 ml_X5_32 msX5_isLetter rfl rfl (Nat.le_of_ble_eq_true rfl) (Nat.le_refl _) rfl (h.mono ?_)
    rintro _ σ1 ⟨r2, rfl, h⟩
    show gG (d + 1) mX5_mayStandAt 48 _ [.int r2] σ1 Q
    exact g_zret dX5_mayStandAt_48 rfl h.1 h.2
  replace h := h.2
  by_cases c1 : (gw_rem x1 6) = 1
  · have h := h.1 c1
    refine g_tabIn (x := gw_rem x1 6) (tgt := 49) dX5_mayStandAt_11 (by rw [c1]; decide) (by rw [c1]; decide) (by rw [c1]; rfl) (by decide) ?_
    refine g_iload_n (pc2 := 50) dX5_mayStandAt_49 rfl rfl ?_
    refine g_callS (M2 := mX5_isFigure) (as := [.int (σ (k + 1) x1.toNatClampNeg)]) (st := []) (pc2 := 53) dX5_mayStandAt_50 ml_X5_35 msX5_isFigure rfl rfl (Nat.le_of_ble_eq_true rfl) (Nat.le_refl _) rfl (h.mono ?_)
    rintro _ σ3 ⟨r4, rfl, h⟩
    show gG (d + 1) mX5_mayStandAt 53 _ [.int r4] σ3 Q
    exact g_zret dX5_mayStandAt_53 rfl h.1 h.2
  replace h := h.2
  by_cases c2 : (gw_rem x1 6) = 2
  · have h := h.1 c2
    refine g_tabIn (x := gw_rem x1 6) (tgt := 54) dX5_mayStandAt_11 (by rw [c2]; decide) (by rw [c2]; decide) (by rw [c2]; rfl) (by decide) ?_
    refine g_iload_n (pc2 := 55) dX5_mayStandAt_54 rfl rfl ?_
    refine g_callS (M2 := mX5_isFigure) (as := [.int (σ (k + 1) x1.toNatClampNeg)]) (st := []) (pc2 := 58) dX5_mayStandAt_55 ml_X5_35 msX5_isFigure rfl rfl (Nat.le_of_ble_eq_true rfl) (Nat.le_refl _) rfl (h.mono ?_)
    rintro _ σ5 ⟨r6, rfl, h⟩
    show gG (d + 1) mX5_mayStandAt 58 _ [.int r6] σ5 Q
    refine g_if_eq (tgt := 89) (pc2 := 61) dX5_mayStandAt_58 (by decide) rfl (fun c => ?_) (fun c => ?_)
    · have h := h.1 c
      refine g_iconst (v := 0) (pc2 := 90) dX5_mayStandAt_89 (by decide) rfl ?_
      exact g_zret dX5_mayStandAt_90 rfl rfl h
    · have h := h.2 c
      refine g_iload_n (pc2 := 62) dX5_mayStandAt_61 rfl rfl ?_
      refine g_bipush (v := 48) (pc2 := 64) dX5_mayStandAt_62 (by decide) rfl ?_
      refine g_icmp_ne (tgt := 85) (pc2 := 67) dX5_mayStandAt_64 (by decide) rfl (fun c => ?_) (fun c => ?_)
      · have h := h.1 c
        refine g_iconst (v := 1) (pc2 := 86) dX5_mayStandAt_85 (by decide) rfl ?_
        refine g_goto (tgt := 90) dX5_mayStandAt_86 (by decide) ?_
        exact g_zret dX5_mayStandAt_90 rfl rfl h
      · have h := h.2 c
        refine g_iload_n (pc2 := 68) dX5_mayStandAt_67 rfl rfl ?_
        refine g_iconst (v := 1) (pc2 := 69) dX5_mayStandAt_68 (by decide) rfl ?_
        refine g_icmp_lt (tgt := 85) (pc2 := 72) dX5_mayStandAt_69 (by decide) rfl (fun c => ?_) (fun c => ?_)
        · have h := h.1 c
          refine g_iconst (v := 1) (pc2 := 86) dX5_mayStandAt_85 (by decide) rfl ?_
          refine g_goto (tgt := 90) dX5_mayStandAt_86 (by decide) ?_
          exact g_zret dX5_mayStandAt_90 rfl rfl h
        · have h := h.2 c
          refine g_aload_n (pc2 := 73) dX5_mayStandAt_72 rfl rfl ?_
          refine g_geta (pc2 := 76) dX5_mayStandAt_73 fl_X5_9 hk.1 rfl rfl ?_
          refine g_iload_n (pc2 := 77) dX5_mayStandAt_76 rfl rfl ?_
          refine g_iconst (v := 1) (pc2 := 78) dX5_mayStandAt_77 (by decide) rfl ?_
          refine g_isub (pc2 := 79) dX5_mayStandAt_78 rfl ?_
          obtain ⟨hx, h⟩ := h
          refine g_iald (pc2 := 80) dX5_mayStandAt_79 hk.2 hx rfl ?_
          refine g_bipush (v := 48) (pc2 := 82) dX5_mayStandAt_80 (by decide) rfl ?_
          refine g_icmp_eq (tgt := 89) (pc2 := 85) dX5_mayStandAt_82 (by decide) rfl (fun c => ?_) (fun c => ?_)
          · have h := h.1 c
            refine g_iconst (v := 0) (pc2 := 90) dX5_mayStandAt_89 (by decide) rfl ?_
            exact g_zret dX5_mayStandAt_90 rfl rfl h
          · have h := h.2 c
            refine g_iconst (v := 1) (pc2 := 86) dX5_mayStandAt_85 (by decide) rfl ?_
            refine g_goto (tgt := 90) dX5_mayStandAt_86 (by decide) ?_
            exact g_zret dX5_mayStandAt_90 rfl rfl h
  replace h := h.2
  by_cases c3 : (gw_rem x1 6) = 3
  · have h := h.1 c3
    refine g_tabIn (x := gw_rem x1 6) (tgt := 49) dX5_mayStandAt_11 (by rw [c3]; decide) (by rw [c3]; decide) (by rw [c3]; rfl) (by decide) ?_
    refine g_iload_n (pc2 := 50) dX5_mayStandAt_49 rfl rfl ?_
    refine g_callS (M2 := mX5_isFigure) (as := [.int (σ (k + 1) x1.toNatClampNeg)]) (st := []) (pc2 := 53) dX5_mayStandAt_50 ml_X5_35 msX5_isFigure rfl rfl (Nat.le_of_ble_eq_true rfl) (Nat.le_refl _) rfl (h.mono ?_)
    rintro _ σ7 ⟨r8, rfl, h⟩
    show gG (d + 1) mX5_mayStandAt 53 _ [.int r8] σ7 Q
    exact g_zret dX5_mayStandAt_53 rfl h.1 h.2
  replace h := h.2
  by_cases c4 : (gw_rem x1 6) = 4
  · have h := h.1 c4
    refine g_tabIn (x := gw_rem x1 6) (tgt := 91) dX5_mayStandAt_11 (by rw [c4]; decide) (by rw [c4]; decide) (by rw [c4]; rfl) (by decide) ?_
    refine g_iload_n (pc2 := 92) dX5_mayStandAt_91 rfl rfl ?_
    refine g_bipush (v := 110) (pc2 := 94) dX5_mayStandAt_92 (by decide) rfl ?_
    refine g_icmp_eq (tgt := 103) (pc2 := 97) dX5_mayStandAt_94 (by decide) rfl (fun c => ?_) (fun c => ?_)
    · have h := h.1 c
      refine g_iconst (v := 1) (pc2 := 104) dX5_mayStandAt_103 (by decide) rfl ?_
      refine g_goto (tgt := 108) dX5_mayStandAt_104 (by decide) ?_
      exact g_zret dX5_mayStandAt_108 rfl rfl h
    · have h := h.2 c
      refine g_iload_n (pc2 := 98) dX5_mayStandAt_97 rfl rfl ?_
      refine g_bipush (v := 115) (pc2 := 100) dX5_mayStandAt_98 (by decide) rfl ?_
      refine g_icmp_ne (tgt := 107) (pc2 := 103) dX5_mayStandAt_100 (by decide) rfl (fun c => ?_) (fun c => ?_)
      · have h := h.1 c
        refine g_iconst (v := 0) (pc2 := 108) dX5_mayStandAt_107 (by decide) rfl ?_
        exact g_zret dX5_mayStandAt_108 rfl rfl h
      · have h := h.2 c
        refine g_iconst (v := 1) (pc2 := 104) dX5_mayStandAt_103 (by decide) rfl ?_
        refine g_goto (tgt := 108) dX5_mayStandAt_104 (by decide) ?_
        exact g_zret dX5_mayStandAt_108 rfl rfl h
  replace h := h.2
  refine g_tabOut (x := gw_rem x1 6) (tgt := 109) dX5_mayStandAt_11 (gw_out (fun e => gw_sw5 e c0 c1 c2 c3 c4)) (by decide) ?_
  replace h := h c0 c1 c2 c3 c4
  refine g_iload_n (pc2 := 110) dX5_mayStandAt_109 rfl rfl ?_
  refine g_bipush (v := 59) (pc2 := 112) dX5_mayStandAt_110 (by decide) rfl ?_
  refine g_icmp_ne (tgt := 119) (pc2 := 115) dX5_mayStandAt_112 (by decide) rfl (fun c => ?_) (fun c => ?_)
  · have h := h.1 c
    refine g_iconst (v := 0) (pc2 := 120) dX5_mayStandAt_119 (by decide) rfl ?_
    exact g_zret dX5_mayStandAt_120 rfl rfl h
  · have h := h.2 c
    refine g_iconst (v := 1) (pc2 := 116) dX5_mayStandAt_115 (by decide) rfl ?_
    refine g_goto (tgt := 120) dX5_mayStandAt_116 (by decide) ?_
    exact g_zret dX5_mayStandAt_120 rfl rfl h
set_option maxRecDepth 20000 in
theorem eX6_isHot {d : Nat} {σ : gw_S} {Q : Option Value → gw_S → Prop} {x1 : Int32}   (h : gG d mX6_isHot 2 [some (.ref 6), some (.int x1), some (.int 0)] [] σ Q) : gB d mX6_isHot [.ref 6, .int x1] σ Q := by
  refine gB_of rfl (Nat.le_of_ble_eq_true rfl) (g_lw (lv2 := [some (.ref 6), some (.int x1), none]) ⟨rfl, ⟨rfl, trivial⟩⟩ ?_)
  refine g_iconst (v := 0) (pc2 := 1) dX6_isHot_0 (by decide) rfl ?_
  refine g_istore_n (pc2 := 2) dX6_isHot_1 (by decide) rfl rfl ?_
  exact g_lw (lv2 := [some (.ref 6), some (.int x1), some (.int 0)]) ⟨rfl, ⟨rfl, ⟨rfl, trivial⟩⟩⟩ h
set_option maxRecDepth 20000 in
theorem bX6_isHot_2 {d : Nat} {σ : gw_S} {Q : Option Value → gw_S → Prop} {x1 : Int32} {x2 : Int32}   (h : (((σ 6 3) ≤ x2) → (Q (some (.int 0)) σ)) ∧ ((¬ (σ 6 3) ≤ x2) → (vp_in x2 8 ∧ (((¬ (σ 16 x2.toNatClampNeg) = x1) → (gG d mX6_isHot 2 [some (.ref 6), some (.int x1), some (.int (x2 + 1))] [] σ Q)) ∧ (((σ 16 x2.toNatClampNeg) = x1) → (Q (some (.int 1)) σ)))))) : gG d mX6_isHot 2 [some (.ref 6), some (.int x1), some (.int x2)] [] σ Q := by
  refine g_iload_n (pc2 := 3) dX6_isHot_2 rfl rfl ?_
  refine g_aload_n (pc2 := 4) dX6_isHot_3 rfl rfl ?_
  refine g_geti (pc2 := 7) dX6_isHot_4 fl_X6_29 gk_6 rfl rfl ?_
  refine g_icmp_ge (tgt := 28) (pc2 := 10) dX6_isHot_7 (by decide) rfl (fun c => ?_) (fun c => ?_)
  · have h := h.1 c
    refine g_iconst (v := 0) (pc2 := 29) dX6_isHot_28 (by decide) rfl ?_
    exact g_zret dX6_isHot_29 rfl rfl h
  · have h := h.2 c
    refine g_aload_n (pc2 := 11) dX6_isHot_10 rfl rfl ?_
    refine g_geta (pc2 := 14) dX6_isHot_11 fl_X6_25 gk_6 rfl rfl ?_
    refine g_iload_n (pc2 := 15) dX6_isHot_14 rfl rfl ?_
    obtain ⟨hx, h⟩ := h
    refine g_iald (pc2 := 16) dX6_isHot_15 gk_16 hx rfl ?_
    refine g_iload_n (pc2 := 17) dX6_isHot_16 rfl rfl ?_
    refine g_icmp_ne (tgt := 22) (pc2 := 20) dX6_isHot_17 (by decide) rfl (fun c => ?_) (fun c => ?_)
    · have h := h.1 c
      refine g_iinc2 (c := 1) (pc2 := 25) dX6_isHot_22 rfl (by decide) (by decide) rfl rfl ?_
      refine g_goto (tgt := 2) dX6_isHot_25 (by decide) ?_
      exact g_lw (lv2 := [some (.ref 6), some (.int x1), some (.int (x2 + 1))]) ⟨rfl, ⟨rfl, ⟨rfl, trivial⟩⟩⟩ h
    · have h := h.2 c
      refine g_iconst (v := 1) (pc2 := 21) dX6_isHot_20 (by decide) rfl ?_
      exact g_zret dX6_isHot_21 rfl rfl h
set_option maxRecDepth 20000 in
theorem eX7_agreeWith {d : Nat} {σ : gw_S} {Q : Option Value → gw_S → Prop}  {k1 : Nat} (hk1 : gw_st k1) (h : gG (d + 1) mX7_agreeWith 2 [some (.ref 22), some (.ref k1), some (.int 0)] [] σ Q) : gB (d + 1) mX7_agreeWith [.ref 22, .ref k1] σ Q := by
  refine gB_of rfl (Nat.le_of_ble_eq_true rfl) (g_lw (lv2 := [some (.ref 22), some (.ref k1), none]) ⟨rfl, ⟨rfl, trivial⟩⟩ ?_)
  refine g_iconst (v := 0) (pc2 := 1) dX7_agreeWith_0 (by decide) rfl ?_
  refine g_istore_n (pc2 := 2) dX7_agreeWith_1 (by decide) rfl rfl ?_
  exact g_lw (lv2 := [some (.ref 22), some (.ref k1), some (.int 0)]) ⟨rfl, ⟨rfl, ⟨rfl, trivial⟩⟩⟩ h
set_option maxRecDepth 20000 in
theorem bX7_agreeWith_2 {d : Nat} {σ : gw_S} {Q : Option Value → gw_S → Prop} {x2 : Int32} {k1 : Nat} (hk1 : gw_st k1) (h : (((σ 22 3) ≤ x2) → (Q (some (.int 1)) σ)) ∧ ((¬ (σ 22 3) ≤ x2) → (vp_in x2 8 ∧ (((¬ (σ 23 x2.toNatClampNeg) = (σ k1 12)) → (gG (d + 1) mX7_agreeWith 2 [some (.ref 22), some (.ref k1), some (.int (x2 + 1))] [] σ Q)) ∧ (((σ 23 x2.toNatClampNeg) = (σ k1 12)) → (vp_in x2 8 ∧ ((((σ k1 7) ≤ (σ 24 x2.toNatClampNeg)) → (Q (some (.int 0)) σ)) ∧ ((¬ (σ k1 7) ≤ (σ 24 x2.toNatClampNeg)) → (vp_in x2 8 ∧ (gB d mX3_allIn [.ref k1, .int (σ 24 x2.toNatClampNeg)] σ (fun v σ1 => ∃ r2 : Int32, v = some (.int r2) ∧ (vp_in x2 8 ∧ (((r2 = (σ1 25 x2.toNatClampNeg)) → (gG (d + 1) mX7_agreeWith 2 [some (.ref 22), some (.ref k1), some (.int (x2 + 1))] [] σ1 Q)) ∧ ((¬ r2 = (σ1 25 x2.toNatClampNeg)) → (Q (some (.int 0)) σ1))))))))))))))) : gG (d + 1) mX7_agreeWith 2 [some (.ref 22), some (.ref k1), some (.int x2)] [] σ Q := by
  refine g_iload_n (pc2 := 3) dX7_agreeWith_2 rfl rfl ?_
  refine g_aload_n (pc2 := 4) dX7_agreeWith_3 rfl rfl ?_
  refine g_geti (pc2 := 7) dX7_agreeWith_4 fl_X7_21 gk_22 rfl rfl ?_
  refine g_icmp_ge (tgt := 63) (pc2 := 10) dX7_agreeWith_7 (by decide) rfl (fun c => ?_) (fun c => ?_)
  · have h := h.1 c
    refine g_iconst (v := 1) (pc2 := 64) dX7_agreeWith_63 (by decide) rfl ?_
    exact g_zret dX7_agreeWith_64 rfl rfl h
  · have h := h.2 c
    refine g_aload_n (pc2 := 11) dX7_agreeWith_10 rfl rfl ?_
    refine g_geta (pc2 := 14) dX7_agreeWith_11 fl_X7_9 gk_22 rfl rfl ?_
    refine g_iload_n (pc2 := 15) dX7_agreeWith_14 rfl rfl ?_
    obtain ⟨hx, h⟩ := h
    refine g_iald (pc2 := 16) dX7_agreeWith_15 gk_23 hx rfl ?_
    refine g_aload_n (pc2 := 17) dX7_agreeWith_16 rfl rfl ?_
    refine g_geti (pc2 := 20) dX7_agreeWith_17 fl_X7_31 hk1.1 rfl rfl ?_
    refine g_icmp_ne (tgt := 57) (pc2 := 23) dX7_agreeWith_20 (by decide) rfl (fun c => ?_) (fun c => ?_)
    · have h := h.1 c
      refine g_iinc2 (c := 1) (pc2 := 60) dX7_agreeWith_57 rfl (by decide) (by decide) rfl rfl ?_
      refine g_goto (tgt := 2) dX7_agreeWith_60 (by decide) ?_
      exact g_lw (lv2 := [some (.ref 22), some (.ref k1), some (.int (x2 + 1))]) ⟨rfl, ⟨rfl, ⟨rfl, trivial⟩⟩⟩ h
    · have h := h.2 c
      refine g_aload_n (pc2 := 24) dX7_agreeWith_23 rfl rfl ?_
      refine g_geta (pc2 := 27) dX7_agreeWith_24 fl_X7_15 gk_22 rfl rfl ?_
      refine g_iload_n (pc2 := 28) dX7_agreeWith_27 rfl rfl ?_
      obtain ⟨hx, h⟩ := h
      refine g_iald (pc2 := 29) dX7_agreeWith_28 gk_24 hx rfl ?_
      refine g_aload_n (pc2 := 30) dX7_agreeWith_29 rfl rfl ?_
      refine g_geti (pc2 := 33) dX7_agreeWith_30 fl_X7_35 hk1.1 rfl rfl ?_
      refine g_icmp_ge (tgt := 55) (pc2 := 36) dX7_agreeWith_33 (by decide) rfl (fun c => ?_) (fun c => ?_)
      · have h := h.1 c
        refine g_iconst (v := 0) (pc2 := 56) dX7_agreeWith_55 (by decide) rfl ?_
        exact g_zret dX7_agreeWith_56 rfl rfl h
      · have h := h.2 c
        refine g_aload_n (pc2 := 37) dX7_agreeWith_36 rfl rfl ?_
        refine g_aload_n (pc2 := 38) dX7_agreeWith_37 rfl rfl ?_
        refine g_geta (pc2 := 41) dX7_agreeWith_38 fl_X7_15 gk_22 rfl rfl ?_
        refine g_iload_n (pc2 := 42) dX7_agreeWith_41 rfl rfl ?_
        obtain ⟨hx, h⟩ := h
        refine g_iald (pc2 := 43) dX7_agreeWith_42 gk_24 hx rfl ?_
        refine g_callV (M2 := mX3_allIn) (as := [.int (σ 24 x2.toNatClampNeg)]) (st := []) (pc2 := 46) dX7_agreeWith_43 ml_X7_36 mvX3_allIn hk1.1 rfl rfl rfl (Nat.le_of_ble_eq_true rfl) (Nat.le_refl _) rfl (h.mono ?_)
        rintro _ σ1 ⟨r2, rfl, h⟩
        show gG (d + 1) mX7_agreeWith 46 _ [.int r2] σ1 Q
        refine g_aload_n (pc2 := 47) dX7_agreeWith_46 rfl rfl ?_
        refine g_geta (pc2 := 50) dX7_agreeWith_47 fl_X7_18 gk_22 rfl rfl ?_
        refine g_iload_n (pc2 := 51) dX7_agreeWith_50 rfl rfl ?_
        obtain ⟨hx, h⟩ := h
        refine g_iald (pc2 := 52) dX7_agreeWith_51 gk_25 hx rfl ?_
        refine g_icmp_eq (tgt := 57) (pc2 := 55) dX7_agreeWith_52 (by decide) rfl (fun c => ?_) (fun c => ?_)
        · have h := h.1 c
          refine g_iinc2 (c := 1) (pc2 := 60) dX7_agreeWith_57 rfl (by decide) (by decide) rfl rfl ?_
          refine g_goto (tgt := 2) dX7_agreeWith_60 (by decide) ?_
          exact g_lw (lv2 := [some (.ref 22), some (.ref k1), some (.int (x2 + 1))]) ⟨rfl, ⟨rfl, ⟨rfl, trivial⟩⟩⟩ h
        · have h := h.2 c
          refine g_iconst (v := 0) (pc2 := 56) dX7_agreeWith_55 (by decide) rfl ?_
          exact g_zret dX7_agreeWith_56 rfl rfl h
set_option maxRecDepth 20000 in
theorem eX7_lastDay {d : Nat} {σ : gw_S} {Q : Option Value → gw_S → Prop}    (h : gG (d + 1) mX7_lastDay 4 [some (.ref 22), some (.int (-1)), some (.int 0)] [] σ Q) : gB (d + 1) mX7_lastDay [.ref 22] σ Q := by
  refine gB_of rfl (Nat.le_of_ble_eq_true rfl) (g_lw (lv2 := [some (.ref 22), none, none]) ⟨rfl, trivial⟩ ?_)
  refine g_iconst (v := (-1)) (pc2 := 1) dX7_lastDay_0 (by decide) rfl ?_
  refine g_istore_n (pc2 := 2) dX7_lastDay_1 (by decide) rfl rfl ?_
  refine g_iconst (v := 0) (pc2 := 3) dX7_lastDay_2 (by decide) rfl ?_
  refine g_istore_n (pc2 := 4) dX7_lastDay_3 (by decide) rfl rfl ?_
  exact g_lw (lv2 := [some (.ref 22), some (.int (-1)), some (.int 0)]) ⟨rfl, ⟨rfl, ⟨rfl, trivial⟩⟩⟩ h
set_option maxRecDepth 20000 in
theorem bX7_lastDay_4 {d : Nat} {σ : gw_S} {Q : Option Value → gw_S → Prop} {x1 : Int32} {x2 : Int32}   (h : (((σ 22 3) ≤ x2) → (Q (some (.int x1)) σ)) ∧ ((¬ (σ 22 3) ≤ x2) → (vp_in x2 8 ∧ (gG (d + 1) mX7_lastDay 4 [some (.ref 22), some (.int (gw_max x1 (σ 23 x2.toNatClampNeg))), some (.int (x2 + 1))] [] σ Q)))) : gG (d + 1) mX7_lastDay 4 [some (.ref 22), some (.int x1), some (.int x2)] [] σ Q := by
  refine g_iload_n (pc2 := 5) dX7_lastDay_4 rfl rfl ?_
  refine g_aload_n (pc2 := 6) dX7_lastDay_5 rfl rfl ?_
  refine g_geti (pc2 := 9) dX7_lastDay_6 fl_X7_21 gk_22 rfl rfl ?_
  refine g_icmp_ge (tgt := 29) (pc2 := 12) dX7_lastDay_9 (by decide) rfl (fun c => ?_) (fun c => ?_)
  · have h := h.1 c
    refine g_iload_n (pc2 := 30) dX7_lastDay_29 rfl rfl ?_
    exact g_iret dX7_lastDay_30 rfl h
  · have h := h.2 c
    refine g_iload_n (pc2 := 13) dX7_lastDay_12 rfl rfl ?_
    refine g_aload_n (pc2 := 14) dX7_lastDay_13 rfl rfl ?_
    refine g_geta (pc2 := 17) dX7_lastDay_14 fl_X7_9 gk_22 rfl rfl ?_
    refine g_iload_n (pc2 := 18) dX7_lastDay_17 rfl rfl ?_
    obtain ⟨hx, h⟩ := h
    refine g_iald (pc2 := 19) dX7_lastDay_18 gk_23 hx rfl ?_
    refine g_mmax (pc2 := 22) dX7_lastDay_19 ml_X7_25 (Nat.le_add_left 1 _) (Nat.le_of_ble_eq_true rfl) rfl ?_
    refine g_istore_n (pc2 := 23) dX7_lastDay_22 (by decide) rfl rfl ?_
    refine g_iinc2 (c := 1) (pc2 := 26) dX7_lastDay_23 rfl (by decide) (by decide) rfl rfl ?_
    refine g_goto (tgt := 4) dX7_lastDay_26 (by decide) ?_
    exact g_lw (lv2 := [some (.ref 22), some (.int (gw_max x1 (σ 23 x2.toNatClampNeg))), some (.int (x2 + 1))]) ⟨rfl, ⟨rfl, ⟨rfl, trivial⟩⟩⟩ h
