def X8_image_L1 (n : Nat) (τ_1 : St) (y1_1 : Int32) : Option (Int32 × St) := match n with
  | 0 => none
  | n + 1 =>
    if (81 : Int32) ≤ y1_1 then (
      some (y1_1, τ_1))
    else (
      bd (rd (τ_1 33) 81 y1_1) fun v3 =>
      bd (wa τ_1 44 81 y1_1 v3) fun τ4 =>
      X8_image_L1 n τ4 (y1_1 + (1 : Int32)))
theorem X8_image_L1_s (n : Nat) (τ_1 : St) (y1_1 : Int32) : X8_image_L1 (n + 1) τ_1 y1_1 =
    if (81 : Int32) ≤ y1_1 then (
      some (y1_1, τ_1))
    else (
      bd (rd (τ_1 33) 81 y1_1) fun v3 =>
      bd (wa τ_1 44 81 y1_1 v3) fun τ4 =>
      X8_image_L1 n τ4 (y1_1 + (1 : Int32))) := rfl
def X8_image_L2 (n : Nat) (τ_2 : St) (y2_1 : Int32) : Option (Int32 × St) := match n with
  | 0 => none
  | n + 1 =>
    if (9 : Int32) ≤ y2_1 then (
      some (y2_1, τ_2))
    else (
      bd (rd (τ_2 32) 9 y2_1) fun v7 =>
      bd (wa τ_2 43 9 y2_1 v7) fun τ8 =>
      X8_image_L2 n τ8 (y2_1 + (1 : Int32)))
theorem X8_image_L2_s (n : Nat) (τ_2 : St) (y2_1 : Int32) : X8_image_L2 (n + 1) τ_2 y2_1 =
    if (9 : Int32) ≤ y2_1 then (
      some (y2_1, τ_2))
    else (
      bd (rd (τ_2 32) 9 y2_1) fun v7 =>
      bd (wa τ_2 43 9 y2_1 v7) fun τ8 =>
      X8_image_L2 n τ8 (y2_1 + (1 : Int32))) := rfl
def X8_image_L3 (n : Nat) (τ_3 : St) (y3_1 : Int32) : Option (Int32 × St) := match n with
  | 0 => none
  | n + 1 =>
    if (8 : Int32) ≤ y3_1 then (
      some (y3_1, τ_3))
    else (
      bd (rd (τ_3 42) 24 (((3 : Int32) * y3_1) + (2 : Int32))) fun v11 =>
      bd (wa τ_3 45 8 y3_1 v11) fun τ12 =>
      X8_image_L3 n τ12 (y3_1 + (1 : Int32)))
theorem X8_image_L3_s (n : Nat) (τ_3 : St) (y3_1 : Int32) : X8_image_L3 (n + 1) τ_3 y3_1 =
    if (8 : Int32) ≤ y3_1 then (
      some (y3_1, τ_3))
    else (
      bd (rd (τ_3 42) 24 (((3 : Int32) * y3_1) + (2 : Int32))) fun v11 =>
      bd (wa τ_3 45 8 y3_1 v11) fun τ12 =>
      X8_image_L3 n τ12 (y3_1 + (1 : Int32))) := rfl
def X8_image (τ : St)  : Option (Int32 × St) :=
  bd (X8_image_L1 10000 τ (0 : Int32)) fun v1 =>
  bd (X8_image_L2 10000 v1.2 (0 : Int32)) fun v5 =>
  bd (X8_image_L3 10000 v5.2 (0 : Int32)) fun v9 =>
  lt (s2 v9.2 29 21 (v9.2 29 0)) fun τ13 =>
  lt (s2 τ13 29 22 (τ13 29 18)) fun τ14 =>
  bd (X8_knowMany τ14 ) fun v15 =>
  some (v15.1, v15.2)
abbrev rmX8_image : Room := { frames := 4, cells := 0, slots := 0, locals := 90 }
set_option maxHeartbeats 4000000 in
set_option maxRecDepth 100000 in
theorem c_X8_image (l : Launch) (D : va_G) (ad : Nat → Nat) (cI : ClassId) (hd : HD ad) (σ τ : St) (η : Int64)  (rr : Int32 × St) (h : X8_image τ  = some rr) : MI l yX8_image (wy yX8_image cX8_image 2 (some .int)) rmX8_image D ad cI [.ref (ad 29)] σ τ η rr.1 σ rr.2 η := by
  refine mk_i (own := RX8) (lv := [(0, .ref (ad 29))]) (plainFor_of_name (by decide)) rfl (Nat.le_of_ble_eq_true rfl) rfl ?_
  intro p e s m args below meth c Q ls hx hb hml hown htb hK ret hP hS hl
  unfold X8_image at h
  refine lv_iconst (v := (0 : Int32)) hx hb dX8_image_0 (by decide) ?_
  refine lv_istore_n (lv' := [(1, .int (0 : Int32)), (0, .ref (ad 29))]) hx hb dX8_image_1 rfl hl (by decide) rfl (fun ls hl => ?_)
  obtain ⟨v1, hj1, h⟩ := ob h
  have K1 : ∀ (H : Heap) (locs : List Loc) (ls : Array Slot), WP D ad cI σ v1.2 η H → va_S (AA ad) s.heap H locs → lv_has ls 2 [(0, .ref (ad 29))] → W p l e rmX8_image s m args below meth c H locs 0 0 Q (F0 m 26 ls []) := by
    intro H locs ls hP hS hl
    refine lv_iconst (v := (0 : Int32)) hx hb dX8_image_26 (by decide) ?_
    refine lv_istore_n (lv' := [(1, .int (0 : Int32)), (0, .ref (ad 29))]) hx hb dX8_image_27 rfl hl (by decide) rfl (fun ls hl => ?_)
    obtain ⟨v5, hj5, h⟩ := ob h
    have K2 : ∀ (H : Heap) (locs : List Loc) (ls : Array Slot), WP D ad cI σ v5.2 η H → va_S (AA ad) s.heap H locs → lv_has ls 2 [(0, .ref (ad 29))] → W p l e rmX8_image s m args below meth c H locs 0 0 Q (F0 m 52 ls []) := by
      intro H locs ls hP hS hl
      refine lv_iconst (v := (0 : Int32)) hx hb dX8_image_52 (by decide) ?_
      refine lv_istore_n (lv' := [(1, .int (0 : Int32)), (0, .ref (ad 29))]) hx hb dX8_image_53 rfl hl (by decide) rfl (fun ls hl => ?_)
      obtain ⟨v9, hj9, h⟩ := ob h
      have K3 : ∀ (H : Heap) (locs : List Loc) (ls : Array Slot), WP D ad cI σ v9.2 η H → va_S (AA ad) s.heap H locs → lv_has ls 2 [(0, .ref (ad 29))] → W p l e rmX8_image s m args below meth c H locs 0 0 Q (F0 m 82 ls []) := by
        intro H locs ls hP hS hl
        refine lv_aload_n hx hb dX8_image_82 rfl (lv_at hl 0 rfl) ?_
        refine lv_aload_n hx hb dX8_image_83 rfl (lv_at hl 0 rfl) ?_
        refine va_get (D := D) (ci := 8) (v := .int (v9.2 29 0)) (C := RX8) (T := TX8) (N := 27) hx hb htb wu_8 hown hK.1 hP 29 w_29 rfl 0 (by decide) (htb _ wFL_RX8_62) (fun _ h9 => h9) rfl dX8_image_84 ?_
        obtain ⟨τ13, g13, h⟩ := ol h
        refine r_putM (ci := 8) (C := RX8) (T := TX8) (N := 27) (A := AA ad) hx hb htb wu_8 tyX8 tyX8_ok nmX8 hown hK hd (fun _ hh => hh) hP hS 21 rfl rfl rfl (by decide) (htb _ wFL_RX8_58) rfl rfl (by decide +kernel) (Nat.le_of_ble_eq_true rfl) dX8_image_87 (fun H locs hP hS => ?_)
        rw [g13] at hP
        refine lv_aload_n hx hb dX8_image_90 rfl (lv_at hl 0 rfl) ?_
        refine lv_aload_n hx hb dX8_image_91 rfl (lv_at hl 0 rfl) ?_
        refine va_get (D := D) (ci := 8) (v := .int (τ13 29 18)) (C := RX8) (T := TX8) (N := 27) hx hb htb wu_8 hown hK.1 hP 29 w_29 rfl 18 (by decide) (htb _ wFL_RX8_189) (fun _ h9 => h9) rfl dX8_image_92 ?_
        obtain ⟨τ14, g14, h⟩ := ol h
        refine r_putM (ci := 8) (C := RX8) (T := TX8) (N := 27) (A := AA ad) hx hb htb wu_8 tyX8 tyX8_ok nmX8 hown hK hd (fun _ hh => hh) hP hS 22 rfl rfl rfl (by decide) (htb _ wFL_RX8_226) rfl rfl (by decide +kernel) (Nat.le_of_ble_eq_true rfl) dX8_image_95 (fun H locs hP hS => ?_)
        rw [g14] at hP
        refine lv_aload_n hx hb dX8_image_98 rfl (lv_at hl 0 rfl) ?_
        obtain ⟨v15, g15, h⟩ := ob h
        refine c_Vi (q := (RX8, TX8, 27)) (ci := 8) (b := 29) (As := []) (rest := []) (A := AA ad) ⟨hx, hb, hml, hown, htb⟩ (c_X8_knowMany l D ad cI hd σ τ14 η  v15 g15) (cwV 0 htb (gdV (fun _ hh => hh) wML_RX8_229 wIM_yX8_knowMany wSE_yX8_knowMany wI_RX8 wC_yX8_knowMany) rfl rfl rfl hd_X8_knowMany ⟨by decide, by decide⟩) hK hP rfl w_29 (fun _ hh => hh) hS rfl hl.1 rfl (Nat.le_of_ble_eq_true rfl) dX8_image_99 ⟨Nat.le_refl 0, Nat.le_refl 0⟩ (fun H locs hP hS => ?_)
        obtain rfl := Option.some.inj h
        exact ret _ _ _ _ _ dX8_image_102 hP hS rfl
      have L3 : ∀ (n : Nat) (τ_3 : St) (y3_1 : Int32) (H : Heap) (locs : List Loc) (ls : Array Slot), X8_image_L3 n τ_3 y3_1 = some v9 → WP D ad cI σ τ_3 η H → va_S (AA ad) s.heap H locs → lv_has ls 2 [(0, .ref (ad 29)), (1, .int y3_1)] → W p l e rmX8_image s m args below meth c H locs 0 0 Q (F0 m 54 ls []) := by
        intro n
        induction n with
        | zero => intro τ_3 y3_1 H locs ls h; exact absurd h (by simp [X8_image_L3])
        | succ n ih =>
          intro τ_3 y3_1 H locs ls h hP hS hl
          replace h := (X8_image_L3_s n τ_3 y3_1).symm.trans h
          refine lv_iload_n hx hb dX8_image_54 rfl (lv_at hl 1 rfl) ?_
          refine lv_bipush (v := (8 : Int32)) hx hb dX8_image_55 (by decide) ?_
          refine lv_icmp_ge (tgt := 82) hx hb dX8_image_57 (by decide) (fun c10 => ?_) (fun c10 => ?_)
          · replace h := ip c10 h
            obtain rfl := Option.some.inj h
            exact K3 _ _ _ hP hS (lv_sub hl [0] rfl)
          · replace h := iq c10 h
            refine lv_aload_n hx hb dX8_image_60 rfl (lv_at hl 0 rfl) ?_
            refine va_get (D := D) (ci := 8) (v := .ref (ad 45)) (C := RX8) (T := TX8) (N := 27) hx hb htb wu_8 hown hK.1 hP 29 w_29 rfl 25 (by decide) (htb _ wFL_RX8_55) (fun _ h9 => h9) rfl dX8_image_61 ?_
            refine lv_iload_n hx hb dX8_image_64 rfl (lv_at hl 1 rfl) ?_
            refine lv_aload_n hx hb dX8_image_65 rfl (lv_at hl 0 rfl) ?_
            refine va_get (D := D) (ci := 8) (v := .ref (ad 42)) (C := RX8) (T := TX8) (N := 27) hx hb htb wu_8 hown hK.1 hP 29 w_29 rfl 19 (by decide) (htb _ wFL_RX8_46) (fun _ h9 => h9) rfl dX8_image_66 ?_
            refine lv_iconst (v := (3 : Int32)) hx hb dX8_image_69 (by decide) ?_
            refine lv_iload_n hx hb dX8_image_70 rfl (lv_at hl 1 rfl) ?_
            refine lv_imul hx hb dX8_image_71 ?_
            refine lv_iconst (v := (2 : Int32)) hx hb dX8_image_72 (by decide) ?_
            refine lv_iadd hx hb dX8_image_73 ?_
            obtain ⟨v11, g11, h⟩ := ob h
            refine r_ald hx hb hK hP 42 w_42 g11 dX8_image_74 ?_
            obtain ⟨τ12, g12, h⟩ := ob h
            refine r_astM (A := AA ad) hx hb hK hd (fun _ hh => hh) hP hS 45 8 (by decide) (fun _ => rfl) g12 dX8_image_75 (fun H locs hP hS => ?_)
            refine lv_iinc (v := (y3_1 + (1 : Int32))) (lv' := [(1, .int (y3_1 + (1 : Int32))), (0, .ref (ad 29))]) hx hb dX8_image_76 hl (k := 1) rfl rfl (by decide) rfl (fun ls hl => ?_)
            refine lv_goto (tgt := 54) hx hb dX8_image_79 (by decide) ?_
            exact ih τ12 (y3_1 + (1 : Int32)) _ _ _ h hP hS (lv_sub hl [1, 0] rfl)
      exact L3 10000 v5.2 (0 : Int32) _ _ _ hj9 hP hS (lv_sub hl [1, 0] rfl)
    have L2 : ∀ (n : Nat) (τ_2 : St) (y2_1 : Int32) (H : Heap) (locs : List Loc) (ls : Array Slot), X8_image_L2 n τ_2 y2_1 = some v5 → WP D ad cI σ τ_2 η H → va_S (AA ad) s.heap H locs → lv_has ls 2 [(0, .ref (ad 29)), (1, .int y2_1)] → W p l e rmX8_image s m args below meth c H locs 0 0 Q (F0 m 28 ls []) := by
      intro n
      induction n with
      | zero => intro τ_2 y2_1 H locs ls h; exact absurd h (by simp [X8_image_L2])
      | succ n ih =>
        intro τ_2 y2_1 H locs ls h hP hS hl
        replace h := (X8_image_L2_s n τ_2 y2_1).symm.trans h
        refine lv_iload_n hx hb dX8_image_28 rfl (lv_at hl 1 rfl) ?_
        refine lv_bipush (v := (9 : Int32)) hx hb dX8_image_29 (by decide) ?_
        refine lv_icmp_ge (tgt := 52) hx hb dX8_image_31 (by decide) (fun c6 => ?_) (fun c6 => ?_)
        · replace h := ip c6 h
          obtain rfl := Option.some.inj h
          exact K2 _ _ _ hP hS (lv_sub hl [0] rfl)
        · replace h := iq c6 h
          refine lv_aload_n hx hb dX8_image_34 rfl (lv_at hl 0 rfl) ?_
          refine va_get (D := D) (ci := 8) (v := .ref (ad 43)) (C := RX8) (T := TX8) (N := 27) hx hb htb wu_8 hown hK.1 hP 29 w_29 rfl 23 (by decide) (htb _ wFL_RX8_49) (fun _ h9 => h9) rfl dX8_image_35 ?_
          refine lv_iload_n hx hb dX8_image_38 rfl (lv_at hl 1 rfl) ?_
          refine lv_aload_n hx hb dX8_image_39 rfl (lv_at hl 0 rfl) ?_
          refine va_get (D := D) (ci := 8) (v := .ref (ad 32)) (C := RX8) (T := TX8) (N := 27) hx hb htb wu_8 hown hK.1 hP 29 w_29 rfl 3 (by decide) (htb _ wFL_RX8_16) (fun _ h9 => h9) rfl dX8_image_40 ?_
          refine lv_iload_n hx hb dX8_image_43 rfl (lv_at hl 1 rfl) ?_
          obtain ⟨v7, g7, h⟩ := ob h
          refine r_ald hx hb hK hP 32 w_32 g7 dX8_image_44 ?_
          obtain ⟨τ8, g8, h⟩ := ob h
          refine r_astM (A := AA ad) hx hb hK hd (fun _ hh => hh) hP hS 43 9 (by decide) (fun _ => rfl) g8 dX8_image_45 (fun H locs hP hS => ?_)
          refine lv_iinc (v := (y2_1 + (1 : Int32))) (lv' := [(1, .int (y2_1 + (1 : Int32))), (0, .ref (ad 29))]) hx hb dX8_image_46 hl (k := 1) rfl rfl (by decide) rfl (fun ls hl => ?_)
          refine lv_goto (tgt := 28) hx hb dX8_image_49 (by decide) ?_
          exact ih τ8 (y2_1 + (1 : Int32)) _ _ _ h hP hS (lv_sub hl [1, 0] rfl)
    exact L2 10000 v1.2 (0 : Int32) _ _ _ hj5 hP hS (lv_sub hl [1, 0] rfl)
  have L1 : ∀ (n : Nat) (τ_1 : St) (y1_1 : Int32) (H : Heap) (locs : List Loc) (ls : Array Slot), X8_image_L1 n τ_1 y1_1 = some v1 → WP D ad cI σ τ_1 η H → va_S (AA ad) s.heap H locs → lv_has ls 2 [(0, .ref (ad 29)), (1, .int y1_1)] → W p l e rmX8_image s m args below meth c H locs 0 0 Q (F0 m 2 ls []) := by
    intro n
    induction n with
    | zero => intro τ_1 y1_1 H locs ls h; exact absurd h (by simp [X8_image_L1])
    | succ n ih =>
      intro τ_1 y1_1 H locs ls h hP hS hl
      replace h := (X8_image_L1_s n τ_1 y1_1).symm.trans h
      refine lv_iload_n hx hb dX8_image_2 rfl (lv_at hl 1 rfl) ?_
      refine lv_bipush (v := (81 : Int32)) hx hb dX8_image_3 (by decide) ?_
      refine lv_icmp_ge (tgt := 26) hx hb dX8_image_5 (by decide) (fun c2 => ?_) (fun c2 => ?_)
      · replace h := ip c2 h
        obtain rfl := Option.some.inj h
        exact K1 _ _ _ hP hS (lv_sub hl [0] rfl)
      · replace h := iq c2 h
        refine lv_aload_n hx hb dX8_image_8 rfl (lv_at hl 0 rfl) ?_
        refine va_get (D := D) (ci := 8) (v := .ref (ad 44)) (C := RX8) (T := TX8) (N := 27) hx hb htb wu_8 hown hK.1 hP 29 w_29 rfl 24 (by decide) (htb _ wFL_RX8_52) (fun _ h9 => h9) rfl dX8_image_9 ?_
        refine lv_iload_n hx hb dX8_image_12 rfl (lv_at hl 1 rfl) ?_
        refine lv_aload_n hx hb dX8_image_13 rfl (lv_at hl 0 rfl) ?_
        refine va_get (D := D) (ci := 8) (v := .ref (ad 33)) (C := RX8) (T := TX8) (N := 27) hx hb htb wu_8 hown hK.1 hP 29 w_29 rfl 4 (by decide) (htb _ wFL_RX8_19) (fun _ h9 => h9) rfl dX8_image_14 ?_
        refine lv_iload_n hx hb dX8_image_17 rfl (lv_at hl 1 rfl) ?_
        obtain ⟨v3, g3, h⟩ := ob h
        refine r_ald hx hb hK hP 33 w_33 g3 dX8_image_18 ?_
        obtain ⟨τ4, g4, h⟩ := ob h
        refine r_astM (A := AA ad) hx hb hK hd (fun _ hh => hh) hP hS 44 81 (by decide) (fun _ => rfl) g4 dX8_image_19 (fun H locs hP hS => ?_)
        refine lv_iinc (v := (y1_1 + (1 : Int32))) (lv' := [(1, .int (y1_1 + (1 : Int32))), (0, .ref (ad 29))]) hx hb dX8_image_20 hl (k := 1) rfl rfl (by decide) rfl (fun ls hl => ?_)
        refine lv_goto (tgt := 2) hx hb dX8_image_23 (by decide) ?_
        exact ih τ4 (y1_1 + (1 : Int32)) _ _ _ h hP hS (lv_sub hl [1, 0] rfl)
  exact L1 10000 τ (0 : Int32) _ _ _ hj1 hP hS (lv_sub hl [1, 0] rfl)
def X1_fits (σ : St)  : Int32 :=
  lt (X0_size σ ) fun v1 =>
  if (σ 22 3) = v1 then (
    lt (X4_size σ ) fun v3 =>
    if (σ 22 4) = v3 then (
      (1 : Int32))
    else (
      (0 : Int32)))
  else (
    (0 : Int32))
abbrev rmX1_fits : Room := { frames := 1, cells := 0, slots := 0, locals := 20 }
set_option maxHeartbeats 4000000 in
set_option maxRecDepth 100000 in
theorem c_X1_fits (l : Launch) (D : va_G) (ad : Nat → Nat) (cI : ClassId) (hd : HD ad) (σ τ : St) (η : Int64)  (rr : Int32) (h : X1_fits σ  = rr) : MZ l yX1_fits (wy yX1_fits cX1_fits 3 (some .boolean)) rmX1_fits D ad cI [.ref (ad 22), .ref (ad 1), .ref (ad 18)] σ τ η rr σ τ η := by
  refine mk_z (own := RX1) (lv := [(0, .ref (ad 22)), (1, .ref (ad 1)), (2, .ref (ad 18))]) (plainFor_of_name (by decide)) rfl (Nat.le_of_ble_eq_true rfl) rfl ?_
  intro p e s m args below meth c Q ls hx hb hml hown htb hK ret hP hS hl
  unfold X1_fits at h
  refine lv_aload_n hx hb dX1_fits_0 rfl (lv_at hl 0 rfl) ?_
  refine va_get (D := D) (ci := 1) (v := .int (σ 22 3)) (C := RX1) (T := TX1) (N := 5) hx hb htb wu_1 hown hK.1 hP 22 w_22 rfl 3 (by decide) (htb _ wFL_RX1_25) (fun _ h9 => h9) rfl dX1_fits_1 ?_
  refine lv_aload_n hx hb dX1_fits_4 rfl (lv_at hl 1 rfl) ?_
  obtain ⟨v1, g1, h⟩ := ol h
  refine c_Vi (q := (RX0, TX0, 6)) (ci := 0) (b := 1) (As := []) (rest := [.int (σ 22 3)]) (A := AA ad) ⟨hx, hb, hml, hown, htb⟩ (c_X0_size l D ad cI hd σ τ η  v1 g1) (cwV 0 htb (gdV (fun _ hh => hh) wML_RX1_41 wIM_yX0_size wSE_yX0_size wI_RX0 wC_yX0_size) rfl rfl rfl hd_X0_size ⟨by decide, by decide⟩) hK hP rfl w_1 (fun _ hh => hh) hS rfl hl.1 rfl (Nat.le_of_ble_eq_true rfl) dX1_fits_5 ⟨Nat.le_refl 0, Nat.le_refl 0⟩ (fun H locs hP hS => ?_)
  refine lv_icmp_ne (tgt := 26) hx hb dX1_fits_8 (by decide) (fun c2 => ?_) (fun c2 => ?_)
  · replace h := iq c2 h
    refine lv_iconst (v := (0 : Int32)) hx hb dX1_fits_26 (by decide) ?_
    subst h
    exact ret _ _ _ _ _ dX1_fits_27 hP hS rfl (by first | exact Or.inl rfl | exact Or.inr rfl | assumption)
  · replace h := ip c2 h
    refine lv_aload_n hx hb dX1_fits_11 rfl (lv_at hl 0 rfl) ?_
    refine va_get (D := D) (ci := 1) (v := .int (σ 22 4)) (C := RX1) (T := TX1) (N := 5) hx hb htb wu_1 hown hK.1 hP 22 w_22 rfl 4 (by decide) (htb _ wFL_RX1_29) (fun _ h9 => h9) rfl dX1_fits_12 ?_
    refine lv_aload_n hx hb dX1_fits_15 rfl (lv_at hl 2 rfl) ?_
    obtain ⟨v3, g3, h⟩ := ol h
    refine c_Vi (q := (RX4, TX4, 4)) (ci := 4) (b := 18) (As := []) (rest := [.int (σ 22 4)]) (A := AA ad) ⟨hx, hb, hml, hown, htb⟩ (c_X4_size l D ad cI hd σ τ η  v3 g3) (cwV 0 htb (gdV (fun _ hh => hh) wML_RX1_45 wIM_yX4_size wSE_yX4_size wI_RX4 wC_yX4_size) rfl rfl rfl hd_X4_size ⟨by decide, by decide⟩) hK hP rfl w_18 (fun _ hh => hh) hS rfl hl.1 rfl (Nat.le_of_ble_eq_true rfl) dX1_fits_16 ⟨Nat.le_refl 0, Nat.le_refl 0⟩ (fun H locs hP hS => ?_)
    refine lv_icmp_ne (tgt := 26) hx hb dX1_fits_19 (by decide) (fun c4 => ?_) (fun c4 => ?_)
    · replace h := iq c4 h
      refine lv_iconst (v := (0 : Int32)) hx hb dX1_fits_26 (by decide) ?_
      subst h
      exact ret _ _ _ _ _ dX1_fits_27 hP hS rfl (by first | exact Or.inl rfl | exact Or.inr rfl | assumption)
    · replace h := ip c4 h
      refine lv_iconst (v := (1 : Int32)) hx hb dX1_fits_22 (by decide) ?_
      refine lv_goto (tgt := 27) hx hb dX1_fits_23 (by decide) ?_
      subst h
      exact ret _ _ _ _ _ dX1_fits_27 hP hS rfl (by first | exact Or.inl rfl | exact Or.inr rfl | assumption)
def X1_giveBack (σ : St)  : St :=
  lt (sc σ 23 4 9) fun σ1 =>
  lt (sc σ1 24 5 72) fun σ2 =>
  lt (sc σ2 25 21 8) fun σ3 =>
  σ3
abbrev rmX1_giveBack : Room := { frames := 1, cells := 0, slots := 0, locals := 60 }
set_option maxHeartbeats 4000000 in
set_option maxRecDepth 100000 in
theorem c_X1_giveBack (l : Launch) (D : va_G) (ad : Nat → Nat) (cI : ClassId) (hd : HD ad) (σ τ : St) (η : Int64)  (rr : St) (h : X1_giveBack σ  = rr) : MV l yX1_giveBack (wy yX1_giveBack cX1_giveBack 3 none) rmX1_giveBack D ad cI [.ref (ad 22), .ref (ad 1), .ref (ad 18)] σ τ η rr τ η := by
  refine mk_v (own := RX1) (lv := [(0, .ref (ad 22)), (1, .ref (ad 1)), (2, .ref (ad 18))]) (plainFor_of_name (by decide)) rfl (Nat.le_of_ble_eq_true rfl) rfl ?_
  intro p e s m args below meth c Q ls hx hb hml hown htb hK ret hP hS hl
  unfold X1_giveBack at h
  refine lv_aload_n hx hb dX1_giveBack_0 rfl (lv_at hl 0 rfl) ?_
  refine va_get (D := D) (ci := 1) (v := .ref (ad 23)) (C := RX1) (T := TX1) (N := 5) hx hb htb wu_1 hown hK.1 hP 22 w_22 rfl 0 (by decide) (htb _ wFL_RX1_11) (fun _ h9 => h9) rfl dX1_giveBack_1 ?_
  refine lv_iconst (v := (0 : Int32)) hx hb dX1_giveBack_4 (by decide) ?_
  refine lv_aload_n hx hb dX1_giveBack_5 rfl (lv_at hl 1 rfl) ?_
  refine va_getN (D := D) (ci := 0) (v := .ref (ad 4)) (C := RX0) (T := TX0) (N := 6) hx hb htb wu_0 hown hK.1 hP 1 w_1 rfl 2 (by decide) (va_Nw.use rfl (hK.2 _ wFN_RX1_32 rfl)) (fun _ h9 => h9) rfl dX1_giveBack_6 ?_
  refine lv_iconst (v := (0 : Int32)) hx hb dX1_giveBack_9 (by decide) ?_
  refine lv_aload_n hx hb dX1_giveBack_10 rfl (lv_at hl 0 rfl) ?_
  refine va_get (D := D) (ci := 1) (v := .ref (ad 23)) (C := RX1) (T := TX1) (N := 5) hx hb htb wu_1 hown hK.1 hP 22 w_22 rfl 0 (by decide) (htb _ wFL_RX1_11) (fun _ h9 => h9) rfl dX1_giveBack_11 ?_
  refine r_len (v := (9 : Int32)) hx hb hK hP 23 w_23 (by decide) dX1_giveBack_14 ?_
  obtain ⟨σ1, g1, h⟩ := ol h
  refine r_cpyC (A := AA ad) hx hb (hml.trans hl.1.symm) hown (htb _ wML_RX1_33) (htb _ wNA_arraycopyName) (htb _ wST_arraycopyName) (htb _ wI_RJ10) hK hd (fun _ hh => hh) hP hS 23 4 9 (by decide) (by decide) (fun _ => rfl) (fun _ => rfl) (by decide) (by decide) (by decide) (by decide) dX1_giveBack_15 (fun H locs hP hS => ?_)
  rw [g1] at hP
  refine lv_aload_n hx hb dX1_giveBack_18 rfl (lv_at hl 0 rfl) ?_
  refine va_get (D := D) (ci := 1) (v := .ref (ad 24)) (C := RX1) (T := TX1) (N := 5) hx hb htb wu_1 hown hK.1 hP 22 w_22 rfl 1 (by decide) (htb _ wFL_RX1_17) (fun _ h9 => h9) rfl dX1_giveBack_19 ?_
  refine lv_iconst (v := (0 : Int32)) hx hb dX1_giveBack_22 (by decide) ?_
  refine lv_aload_n hx hb dX1_giveBack_23 rfl (lv_at hl 1 rfl) ?_
  refine va_getN (D := D) (ci := 0) (v := .ref (ad 5)) (C := RX0) (T := TX0) (N := 6) hx hb htb wu_0 hown hK.1 hP 1 w_1 rfl 3 (by decide) (va_Nw.use rfl (hK.2 _ wFN_RX1_39 rfl)) (fun _ h9 => h9) rfl dX1_giveBack_24 ?_
  refine lv_iconst (v := (0 : Int32)) hx hb dX1_giveBack_27 (by decide) ?_
  refine lv_aload_n hx hb dX1_giveBack_28 rfl (lv_at hl 0 rfl) ?_
  refine va_get (D := D) (ci := 1) (v := .ref (ad 24)) (C := RX1) (T := TX1) (N := 5) hx hb htb wu_1 hown hK.1 hP 22 w_22 rfl 1 (by decide) (htb _ wFL_RX1_17) (fun _ h9 => h9) rfl dX1_giveBack_29 ?_
  refine r_len (v := (72 : Int32)) hx hb hK hP 24 w_24 (by decide) dX1_giveBack_32 ?_
  obtain ⟨σ2, g2, h⟩ := ol h
  refine r_cpyC (A := AA ad) hx hb (hml.trans hl.1.symm) hown (htb _ wML_RX1_33) (htb _ wNA_arraycopyName) (htb _ wST_arraycopyName) (htb _ wI_RJ10) hK hd (fun _ hh => hh) hP hS 24 5 72 (by decide) (by decide) (fun _ => rfl) (fun _ => rfl) (by decide) (by decide) (by decide) (by decide) dX1_giveBack_33 (fun H locs hP hS => ?_)
  rw [g2] at hP
  refine lv_aload_n hx hb dX1_giveBack_36 rfl (lv_at hl 0 rfl) ?_
  refine va_get (D := D) (ci := 1) (v := .ref (ad 25)) (C := RX1) (T := TX1) (N := 5) hx hb htb wu_1 hown hK.1 hP 22 w_22 rfl 2 (by decide) (htb _ wFL_RX1_22) (fun _ h9 => h9) rfl dX1_giveBack_37 ?_
  refine lv_iconst (v := (0 : Int32)) hx hb dX1_giveBack_40 (by decide) ?_
  refine lv_aload_n hx hb dX1_giveBack_41 rfl (lv_at hl 2 rfl) ?_
  refine va_getN (D := D) (ci := 4) (v := .ref (ad 21)) (C := RX4) (T := TX4) (N := 4) hx hb htb wu_4 hown hK.1 hP 18 w_18 rfl 2 (by decide) (va_Nw.use rfl (hK.2 _ wFN_RX1_40 rfl)) (fun _ h9 => h9) rfl dX1_giveBack_42 ?_
  refine lv_iconst (v := (0 : Int32)) hx hb dX1_giveBack_45 (by decide) ?_
  refine lv_aload_n hx hb dX1_giveBack_46 rfl (lv_at hl 0 rfl) ?_
  refine va_get (D := D) (ci := 1) (v := .ref (ad 25)) (C := RX1) (T := TX1) (N := 5) hx hb htb wu_1 hown hK.1 hP 22 w_22 rfl 2 (by decide) (htb _ wFL_RX1_22) (fun _ h9 => h9) rfl dX1_giveBack_47 ?_
  refine r_len (v := (8 : Int32)) hx hb hK hP 25 w_25 (by decide) dX1_giveBack_50 ?_
  obtain ⟨σ3, g3, h⟩ := ol h
  refine r_cpyC (A := AA ad) hx hb (hml.trans hl.1.symm) hown (htb _ wML_RX1_33) (htb _ wNA_arraycopyName) (htb _ wST_arraycopyName) (htb _ wI_RJ10) hK hd (fun _ hh => hh) hP hS 25 21 8 (by decide) (by decide) (fun _ => rfl) (fun _ => rfl) (by decide) (by decide) (by decide) (by decide) dX1_giveBack_51 (fun H locs hP hS => ?_)
  rw [g3] at hP
  subst h
  exact ret _ _ _ _ dX1_giveBack_54 hP hS
def X7_restore (σ : St)  : Option (Int32 × St) :=
  lt (X1_fits σ ) fun v1 =>
  if v1 = 0 then (
    some ((-103 : Int32), σ))
  else (
    lt (X1_giveBack σ ) fun v3 =>
    bd (X7_followWord v3 ) fun v4 =>
    bd (X6_howManyOn v4 (9 : Int32)) fun v5 =>
    some (v5, v4))
abbrev rmX7_restore : Room := { frames := 4, cells := 0, slots := 0, locals := 91 }
set_option maxHeartbeats 4000000 in
set_option maxRecDepth 100000 in
theorem c_X7_restore (l : Launch) (D : va_G) (ad : Nat → Nat) (cI : ClassId) (hd : HD ad) (σ τ : St) (η : Int64)  (rr : Int32 × St) (h : X7_restore σ  = some rr) : MI l yX7_restore (wy yX7_restore cX7_restore 1 (some .int)) rmX7_restore D ad cI [.ref (ad 0)] σ τ η rr.1 rr.2 τ η := by
  refine mk_i (own := RX7) (lv := [(0, .ref (ad 0))]) (plainFor_of_name (by decide)) rfl (Nat.le_of_ble_eq_true rfl) rfl ?_
  intro p e s m args below meth c Q ls hx hb hml hown htb hK ret hP hS hl
  unfold X7_restore at h
  refine lv_aload_n hx hb dX7_restore_0 rfl (lv_at hl 0 rfl) ?_
  refine va_get (D := D) (ci := 7) (v := .ref (ad 22)) (C := RX7) (T := TX7) (N := 11) hx hb htb wu_7 hown hK.1 hP 0 w_0 rfl 6 (by decide) (htb _ wFL_RX7_54) (fun _ h9 => h9) rfl dX7_restore_1 ?_
  refine lv_aload_n hx hb dX7_restore_4 rfl (lv_at hl 0 rfl) ?_
  refine va_get (D := D) (ci := 7) (v := .ref (ad 1)) (C := RX7) (T := TX7) (N := 11) hx hb htb wu_7 hown hK.1 hP 0 w_0 rfl 0 (by decide) (htb _ wFL_RX7_10) (fun _ h9 => h9) rfl dX7_restore_5 ?_
  refine lv_aload_n hx hb dX7_restore_8 rfl (lv_at hl 0 rfl) ?_
  refine va_get (D := D) (ci := 7) (v := .ref (ad 18)) (C := RX7) (T := TX7) (N := 11) hx hb htb wu_7 hown hK.1 hP 0 w_0 rfl 5 (by decide) (htb _ wFL_RX7_47) (fun _ h9 => h9) rfl dX7_restore_9 ?_
  obtain ⟨v1, g1, h⟩ := ol h
  refine c_Vz (q := (RX1, TX1, 5)) (ci := 1) (b := 22) (As := [.ref (ad 1), .ref (ad 18)]) (rest := []) (A := AA ad) ⟨hx, hb, hml, hown, htb⟩ (c_X1_fits l D ad cI hd σ τ η  v1 g1) (cwV 2 htb (gdV (fun _ hh => hh) wML_RX7_289 wIM_yX1_fits wSE_yX1_fits wI_RX1 wC_yX1_fits) rfl rfl rfl hd_X1_fits ⟨by decide, by decide⟩) hK hP rfl w_22 (fun _ hh => hh) hS rfl hl.1 rfl (Nat.le_of_ble_eq_true rfl) dX7_restore_12 ⟨Nat.le_refl 0, Nat.le_refl 0⟩ (fun H locs hz1 hP hS => ?_)
  refine lv_if_ne (tgt := 21) hx hb dX7_restore_15 (by decide) (fun c2 => ?_) (fun c2 => ?_)
  · replace h := iq c2 h
    refine lv_aload_n hx hb dX7_restore_21 rfl (lv_at hl 0 rfl) ?_
    refine va_get (D := D) (ci := 7) (v := .ref (ad 22)) (C := RX7) (T := TX7) (N := 11) hx hb htb wu_7 hown hK.1 hP 0 w_0 rfl 6 (by decide) (htb _ wFL_RX7_54) (fun _ h9 => h9) rfl dX7_restore_22 ?_
    refine lv_aload_n hx hb dX7_restore_25 rfl (lv_at hl 0 rfl) ?_
    refine va_get (D := D) (ci := 7) (v := .ref (ad 1)) (C := RX7) (T := TX7) (N := 11) hx hb htb wu_7 hown hK.1 hP 0 w_0 rfl 0 (by decide) (htb _ wFL_RX7_10) (fun _ h9 => h9) rfl dX7_restore_26 ?_
    refine lv_aload_n hx hb dX7_restore_29 rfl (lv_at hl 0 rfl) ?_
    refine va_get (D := D) (ci := 7) (v := .ref (ad 18)) (C := RX7) (T := TX7) (N := 11) hx hb htb wu_7 hown hK.1 hP 0 w_0 rfl 5 (by decide) (htb _ wFL_RX7_47) (fun _ h9 => h9) rfl dX7_restore_30 ?_
    obtain ⟨v3, g3, h⟩ := ol h
    refine c_Vv (q := (RX1, TX1, 5)) (ci := 1) (b := 22) (As := [.ref (ad 1), .ref (ad 18)]) (rest := []) (A := AA ad) ⟨hx, hb, hml, hown, htb⟩ (c_X1_giveBack l D ad cI hd σ τ η  v3 g3) (cwV 2 htb (gdV (fun _ hh => hh) wML_RX7_293 wIM_yX1_giveBack wSE_yX1_giveBack wI_RX1 wC_yX1_giveBack) rfl rfl rfl hd_X1_giveBack ⟨by decide, by decide⟩) hK hP rfl w_22 (fun _ hh => hh) hS rfl hl.1 rfl (Nat.le_of_ble_eq_true rfl) dX7_restore_33 ⟨Nat.le_refl 0, Nat.le_refl 0⟩ (fun H locs hP hS => ?_)
    refine lv_aload_n hx hb dX7_restore_36 rfl (lv_at hl 0 rfl) ?_
    obtain ⟨v4, g4, h⟩ := ob h
    refine c_Vv (q := (RX7, TX7, 11)) (ci := 7) (b := 0) (As := []) (rest := []) (A := AA ad) ⟨hx, hb, hml, hown, htb⟩ (c_X7_followWord l D ad cI hd v3 τ η  v4 g4) (cwV 0 htb (gdV (fun _ hh => hh) wML_RX7_116 wIM_yX7_followWord wSE_yX7_followWord wI_RX7 wC_yX7_followWord) rfl rfl rfl hd_X7_followWord ⟨by decide, by decide⟩) hK hP rfl w_0 (fun _ hh => hh) hS rfl hl.1 rfl (Nat.le_of_ble_eq_true rfl) dX7_restore_37 ⟨Nat.le_refl 0, Nat.le_refl 0⟩ (fun H locs hP hS => ?_)
    refine lv_aload_n hx hb dX7_restore_40 rfl (lv_at hl 0 rfl) ?_
    refine va_get (D := D) (ci := 7) (v := .ref (ad 6)) (C := RX7) (T := TX7) (N := 11) hx hb htb wu_7 hown hK.1 hP 0 w_0 rfl 1 (by decide) (htb _ wFL_RX7_19) (fun _ h9 => h9) rfl dX7_restore_41 ?_
    refine lv_bipush (v := (9 : Int32)) hx hb dX7_restore_44 (by decide) ?_
    obtain ⟨v5, g5, h⟩ := ob h
    refine c_Vi (q := (RX6, TX6, 1)) (ci := 6) (b := 6) (As := [.int (9 : Int32)]) (rest := []) (A := AA ad) ⟨hx, hb, hml, hown, htb⟩ (c_X6_howManyOn l D ad cI hd v4 τ η (9 : Int32) v5 g5) (cwV 1 htb (gdV (fun _ hh => hh) wML_RX7_286 wIM_yX6_howManyOn wSE_yX6_howManyOn wI_RX6 wC_yX6_howManyOn) rfl rfl rfl hd_X6_howManyOn ⟨by decide, by decide⟩) hK hP rfl w_6 (fun _ hh => hh) hS rfl hl.1 rfl (Nat.le_of_ble_eq_true rfl) dX7_restore_46 ⟨Nat.le_refl 0, Nat.le_refl 0⟩ (fun H locs hP hS => ?_)
    obtain rfl := Option.some.inj h
    exact ret _ _ _ _ _ dX7_restore_49 hP hS rfl
  · replace h := ip c2 h
    refine lv_bipush (v := (-103 : Int32)) hx hb dX7_restore_18 (by decide) ?_
    obtain rfl := Option.some.inj h
    exact ret _ _ _ _ _ dX7_restore_20 hP hS rfl
def X8_restore_L1 (n : Nat) (τ_1 : St) (y1_1 : Int32) : Option (Int32 × St) := match n with
  | 0 => none
  | n + 1 =>
    if (81 : Int32) ≤ y1_1 then (
      some (y1_1, τ_1))
    else (
      bd (rd (τ_1 44) 81 y1_1) fun v5 =>
      bd (wa τ_1 33 81 y1_1 v5) fun τ6 =>
      X8_restore_L1 n τ6 (y1_1 + (1 : Int32)))
theorem X8_restore_L1_s (n : Nat) (τ_1 : St) (y1_1 : Int32) : X8_restore_L1 (n + 1) τ_1 y1_1 =
    if (81 : Int32) ≤ y1_1 then (
      some (y1_1, τ_1))
    else (
      bd (rd (τ_1 44) 81 y1_1) fun v5 =>
      bd (wa τ_1 33 81 y1_1 v5) fun τ6 =>
      X8_restore_L1 n τ6 (y1_1 + (1 : Int32))) := rfl
def X8_restore_L2 (n : Nat) (τ_2 : St) (y2_1 : Int32) : Option (Int32 × St) := match n with
  | 0 => none
  | n + 1 =>
    if (9 : Int32) ≤ y2_1 then (
      some (y2_1, τ_2))
    else (
      bd (rd (τ_2 43) 9 y2_1) fun v9 =>
      bd (wa τ_2 32 9 y2_1 v9) fun τ10 =>
      X8_restore_L2 n τ10 (y2_1 + (1 : Int32)))
theorem X8_restore_L2_s (n : Nat) (τ_2 : St) (y2_1 : Int32) : X8_restore_L2 (n + 1) τ_2 y2_1 =
    if (9 : Int32) ≤ y2_1 then (
      some (y2_1, τ_2))
    else (
      bd (rd (τ_2 43) 9 y2_1) fun v9 =>
      bd (wa τ_2 32 9 y2_1 v9) fun τ10 =>
      X8_restore_L2 n τ10 (y2_1 + (1 : Int32))) := rfl
def X8_restore_L3 (n : Nat) (τ_3 : St) (y3_1 : Int32) : Option (Int32 × St) := match n with
  | 0 => none
  | n + 1 =>
    if (8 : Int32) ≤ y3_1 then (
      some (y3_1, τ_3))
    else (
      bd (rd (τ_3 45) 8 y3_1) fun v13 =>
      bd (wa τ_3 42 24 (((3 : Int32) * y3_1) + (2 : Int32)) v13) fun τ14 =>
      X8_restore_L3 n τ14 (y3_1 + (1 : Int32)))
theorem X8_restore_L3_s (n : Nat) (τ_3 : St) (y3_1 : Int32) : X8_restore_L3 (n + 1) τ_3 y3_1 =
    if (8 : Int32) ≤ y3_1 then (
      some (y3_1, τ_3))
    else (
      bd (rd (τ_3 45) 8 y3_1) fun v13 =>
      bd (wa τ_3 42 24 (((3 : Int32) * y3_1) + (2 : Int32)) v13) fun τ14 =>
      X8_restore_L3 n τ14 (y3_1 + (1 : Int32))) := rfl
def X8_restore (τ : St)  : Option (Int32 × St) :=
  if (τ 29 21) = (τ 29 0) then (
    if (τ 29 22) = (τ 29 18) then (
      bd (X8_restore_L1 10000 τ (0 : Int32)) fun v3 =>
      bd (X8_restore_L2 10000 v3.2 (0 : Int32)) fun v7 =>
      bd (X8_restore_L3 10000 v7.2 (0 : Int32)) fun v11 =>
      bd (X8_knowMany v11.2 ) fun v15 =>
      some (v15.1, v15.2))
    else (
      some ((-103 : Int32), τ)))
  else (
    some ((-103 : Int32), τ))
abbrev rmX8_restore : Room := { frames := 4, cells := 0, slots := 0, locals := 90 }
set_option maxHeartbeats 4000000 in
set_option maxRecDepth 100000 in
theorem c_X8_restore (l : Launch) (D : va_G) (ad : Nat → Nat) (cI : ClassId) (hd : HD ad) (σ τ : St) (η : Int64)  (rr : Int32 × St) (h : X8_restore τ  = some rr) : MI l yX8_restore (wy yX8_restore cX8_restore 2 (some .int)) rmX8_restore D ad cI [.ref (ad 29)] σ τ η rr.1 σ rr.2 η := by
  refine mk_i (own := RX8) (lv := [(0, .ref (ad 29))]) (plainFor_of_name (by decide)) rfl (Nat.le_of_ble_eq_true rfl) rfl ?_
  intro p e s m args below meth c Q ls hx hb hml hown htb hK ret hP hS hl
  unfold X8_restore at h
  refine lv_aload_n hx hb dX8_restore_0 rfl (lv_at hl 0 rfl) ?_
  refine va_get (D := D) (ci := 8) (v := .int (τ 29 21)) (C := RX8) (T := TX8) (N := 27) hx hb htb wu_8 hown hK.1 hP 29 w_29 rfl 21 (by decide) (htb _ wFL_RX8_58) (fun _ h9 => h9) rfl dX8_restore_1 ?_
  refine lv_aload_n hx hb dX8_restore_4 rfl (lv_at hl 0 rfl) ?_
  refine va_get (D := D) (ci := 8) (v := .int (τ 29 0)) (C := RX8) (T := TX8) (N := 27) hx hb htb wu_8 hown hK.1 hP 29 w_29 rfl 0 (by decide) (htb _ wFL_RX8_62) (fun _ h9 => h9) rfl dX8_restore_5 ?_
  refine lv_icmp_ne (tgt := 22) hx hb dX8_restore_8 (by decide) (fun c1 => ?_) (fun c1 => ?_)
  · replace h := iq c1 h
    refine lv_bipush (v := (-103 : Int32)) hx hb dX8_restore_22 (by decide) ?_
    obtain rfl := Option.some.inj h
    exact ret _ _ _ _ _ dX8_restore_24 hP hS rfl
  · replace h := ip c1 h
    refine lv_aload_n hx hb dX8_restore_11 rfl (lv_at hl 0 rfl) ?_
    refine va_get (D := D) (ci := 8) (v := .int (τ 29 22)) (C := RX8) (T := TX8) (N := 27) hx hb htb wu_8 hown hK.1 hP 29 w_29 rfl 22 (by decide) (htb _ wFL_RX8_226) (fun _ h9 => h9) rfl dX8_restore_12 ?_
    refine lv_aload_n hx hb dX8_restore_15 rfl (lv_at hl 0 rfl) ?_
    refine va_get (D := D) (ci := 8) (v := .int (τ 29 18)) (C := RX8) (T := TX8) (N := 27) hx hb htb wu_8 hown hK.1 hP 29 w_29 rfl 18 (by decide) (htb _ wFL_RX8_189) (fun _ h9 => h9) rfl dX8_restore_16 ?_
    refine lv_icmp_eq (tgt := 25) hx hb dX8_restore_19 (by decide) (fun c2 => ?_) (fun c2 => ?_)
    · replace h := ip c2 h
      refine lv_iconst (v := (0 : Int32)) hx hb dX8_restore_25 (by decide) ?_
      refine lv_istore_n (lv' := [(1, .int (0 : Int32)), (0, .ref (ad 29))]) hx hb dX8_restore_26 rfl hl (by decide) rfl (fun ls hl => ?_)
      obtain ⟨v3, hj3, h⟩ := ob h
      have K1 : ∀ (H : Heap) (locs : List Loc) (ls : Array Slot), WP D ad cI σ v3.2 η H → va_S (AA ad) s.heap H locs → lv_has ls 2 [(0, .ref (ad 29))] → W p l e rmX8_restore s m args below meth c H locs 0 0 Q (F0 m 51 ls []) := by
        intro H locs ls hP hS hl
        refine lv_iconst (v := (0 : Int32)) hx hb dX8_restore_51 (by decide) ?_
        refine lv_istore_n (lv' := [(1, .int (0 : Int32)), (0, .ref (ad 29))]) hx hb dX8_restore_52 rfl hl (by decide) rfl (fun ls hl => ?_)
        obtain ⟨v7, hj7, h⟩ := ob h
        have K2 : ∀ (H : Heap) (locs : List Loc) (ls : Array Slot), WP D ad cI σ v7.2 η H → va_S (AA ad) s.heap H locs → lv_has ls 2 [(0, .ref (ad 29))] → W p l e rmX8_restore s m args below meth c H locs 0 0 Q (F0 m 77 ls []) := by
          intro H locs ls hP hS hl
          refine lv_iconst (v := (0 : Int32)) hx hb dX8_restore_77 (by decide) ?_
          refine lv_istore_n (lv' := [(1, .int (0 : Int32)), (0, .ref (ad 29))]) hx hb dX8_restore_78 rfl hl (by decide) rfl (fun ls hl => ?_)
          obtain ⟨v11, hj11, h⟩ := ob h
          have K3 : ∀ (H : Heap) (locs : List Loc) (ls : Array Slot), WP D ad cI σ v11.2 η H → va_S (AA ad) s.heap H locs → lv_has ls 2 [(0, .ref (ad 29))] → W p l e rmX8_restore s m args below meth c H locs 0 0 Q (F0 m 107 ls []) := by
            intro H locs ls hP hS hl
            refine lv_aload_n hx hb dX8_restore_107 rfl (lv_at hl 0 rfl) ?_
            obtain ⟨v15, g15, h⟩ := ob h
            refine c_Vi (q := (RX8, TX8, 27)) (ci := 8) (b := 29) (As := []) (rest := []) (A := AA ad) ⟨hx, hb, hml, hown, htb⟩ (c_X8_knowMany l D ad cI hd σ v11.2 η  v15 g15) (cwV 0 htb (gdV (fun _ hh => hh) wML_RX8_229 wIM_yX8_knowMany wSE_yX8_knowMany wI_RX8 wC_yX8_knowMany) rfl rfl rfl hd_X8_knowMany ⟨by decide, by decide⟩) hK hP rfl w_29 (fun _ hh => hh) hS rfl hl.1 rfl (Nat.le_of_ble_eq_true rfl) dX8_restore_108 ⟨Nat.le_refl 0, Nat.le_refl 0⟩ (fun H locs hP hS => ?_)
            obtain rfl := Option.some.inj h
            exact ret _ _ _ _ _ dX8_restore_111 hP hS rfl
          have L3 : ∀ (n : Nat) (τ_3 : St) (y3_1 : Int32) (H : Heap) (locs : List Loc) (ls : Array Slot), X8_restore_L3 n τ_3 y3_1 = some v11 → WP D ad cI σ τ_3 η H → va_S (AA ad) s.heap H locs → lv_has ls 2 [(0, .ref (ad 29)), (1, .int y3_1)] → W p l e rmX8_restore s m args below meth c H locs 0 0 Q (F0 m 79 ls []) := by
            intro n
            induction n with
            | zero => intro τ_3 y3_1 H locs ls h; exact absurd h (by simp [X8_restore_L3])
            | succ n ih =>
              intro τ_3 y3_1 H locs ls h hP hS hl
              replace h := (X8_restore_L3_s n τ_3 y3_1).symm.trans h
              refine lv_iload_n hx hb dX8_restore_79 rfl (lv_at hl 1 rfl) ?_
              refine lv_bipush (v := (8 : Int32)) hx hb dX8_restore_80 (by decide) ?_
              refine lv_icmp_ge (tgt := 107) hx hb dX8_restore_82 (by decide) (fun c12 => ?_) (fun c12 => ?_)
              · replace h := ip c12 h
                obtain rfl := Option.some.inj h
                exact K3 _ _ _ hP hS (lv_sub hl [0] rfl)
              · replace h := iq c12 h
                refine lv_aload_n hx hb dX8_restore_85 rfl (lv_at hl 0 rfl) ?_
                refine va_get (D := D) (ci := 8) (v := .ref (ad 42)) (C := RX8) (T := TX8) (N := 27) hx hb htb wu_8 hown hK.1 hP 29 w_29 rfl 19 (by decide) (htb _ wFL_RX8_46) (fun _ h9 => h9) rfl dX8_restore_86 ?_
                refine lv_iconst (v := (3 : Int32)) hx hb dX8_restore_89 (by decide) ?_
                refine lv_iload_n hx hb dX8_restore_90 rfl (lv_at hl 1 rfl) ?_
                refine lv_imul hx hb dX8_restore_91 ?_
                refine lv_iconst (v := (2 : Int32)) hx hb dX8_restore_92 (by decide) ?_
                refine lv_iadd hx hb dX8_restore_93 ?_
                refine lv_aload_n hx hb dX8_restore_94 rfl (lv_at hl 0 rfl) ?_
                refine va_get (D := D) (ci := 8) (v := .ref (ad 45)) (C := RX8) (T := TX8) (N := 27) hx hb htb wu_8 hown hK.1 hP 29 w_29 rfl 25 (by decide) (htb _ wFL_RX8_55) (fun _ h9 => h9) rfl dX8_restore_95 ?_
                refine lv_iload_n hx hb dX8_restore_98 rfl (lv_at hl 1 rfl) ?_
                obtain ⟨v13, g13, h⟩ := ob h
                refine r_ald hx hb hK hP 45 w_45 g13 dX8_restore_99 ?_
                obtain ⟨τ14, g14, h⟩ := ob h
                refine r_astM (A := AA ad) hx hb hK hd (fun _ hh => hh) hP hS 42 24 (by decide) (fun _ => rfl) g14 dX8_restore_100 (fun H locs hP hS => ?_)
                refine lv_iinc (v := (y3_1 + (1 : Int32))) (lv' := [(1, .int (y3_1 + (1 : Int32))), (0, .ref (ad 29))]) hx hb dX8_restore_101 hl (k := 1) rfl rfl (by decide) rfl (fun ls hl => ?_)
                refine lv_goto (tgt := 79) hx hb dX8_restore_104 (by decide) ?_
                exact ih τ14 (y3_1 + (1 : Int32)) _ _ _ h hP hS (lv_sub hl [1, 0] rfl)
          exact L3 10000 v7.2 (0 : Int32) _ _ _ hj11 hP hS (lv_sub hl [1, 0] rfl)
        have L2 : ∀ (n : Nat) (τ_2 : St) (y2_1 : Int32) (H : Heap) (locs : List Loc) (ls : Array Slot), X8_restore_L2 n τ_2 y2_1 = some v7 → WP D ad cI σ τ_2 η H → va_S (AA ad) s.heap H locs → lv_has ls 2 [(0, .ref (ad 29)), (1, .int y2_1)] → W p l e rmX8_restore s m args below meth c H locs 0 0 Q (F0 m 53 ls []) := by
          intro n
          induction n with
          | zero => intro τ_2 y2_1 H locs ls h; exact absurd h (by simp [X8_restore_L2])
          | succ n ih =>
            intro τ_2 y2_1 H locs ls h hP hS hl
            replace h := (X8_restore_L2_s n τ_2 y2_1).symm.trans h
            refine lv_iload_n hx hb dX8_restore_53 rfl (lv_at hl 1 rfl) ?_
            refine lv_bipush (v := (9 : Int32)) hx hb dX8_restore_54 (by decide) ?_
            refine lv_icmp_ge (tgt := 77) hx hb dX8_restore_56 (by decide) (fun c8 => ?_) (fun c8 => ?_)
            · replace h := ip c8 h
              obtain rfl := Option.some.inj h
              exact K2 _ _ _ hP hS (lv_sub hl [0] rfl)
            · replace h := iq c8 h
              refine lv_aload_n hx hb dX8_restore_59 rfl (lv_at hl 0 rfl) ?_
              refine va_get (D := D) (ci := 8) (v := .ref (ad 32)) (C := RX8) (T := TX8) (N := 27) hx hb htb wu_8 hown hK.1 hP 29 w_29 rfl 3 (by decide) (htb _ wFL_RX8_16) (fun _ h9 => h9) rfl dX8_restore_60 ?_
              refine lv_iload_n hx hb dX8_restore_63 rfl (lv_at hl 1 rfl) ?_
              refine lv_aload_n hx hb dX8_restore_64 rfl (lv_at hl 0 rfl) ?_
              refine va_get (D := D) (ci := 8) (v := .ref (ad 43)) (C := RX8) (T := TX8) (N := 27) hx hb htb wu_8 hown hK.1 hP 29 w_29 rfl 23 (by decide) (htb _ wFL_RX8_49) (fun _ h9 => h9) rfl dX8_restore_65 ?_
              refine lv_iload_n hx hb dX8_restore_68 rfl (lv_at hl 1 rfl) ?_
              obtain ⟨v9, g9, h⟩ := ob h
              refine r_ald hx hb hK hP 43 w_43 g9 dX8_restore_69 ?_
              obtain ⟨τ10, g10, h⟩ := ob h
              refine r_astM (A := AA ad) hx hb hK hd (fun _ hh => hh) hP hS 32 9 (by decide) (fun _ => rfl) g10 dX8_restore_70 (fun H locs hP hS => ?_)
              refine lv_iinc (v := (y2_1 + (1 : Int32))) (lv' := [(1, .int (y2_1 + (1 : Int32))), (0, .ref (ad 29))]) hx hb dX8_restore_71 hl (k := 1) rfl rfl (by decide) rfl (fun ls hl => ?_)
              refine lv_goto (tgt := 53) hx hb dX8_restore_74 (by decide) ?_
              exact ih τ10 (y2_1 + (1 : Int32)) _ _ _ h hP hS (lv_sub hl [1, 0] rfl)
        exact L2 10000 v3.2 (0 : Int32) _ _ _ hj7 hP hS (lv_sub hl [1, 0] rfl)
      have L1 : ∀ (n : Nat) (τ_1 : St) (y1_1 : Int32) (H : Heap) (locs : List Loc) (ls : Array Slot), X8_restore_L1 n τ_1 y1_1 = some v3 → WP D ad cI σ τ_1 η H → va_S (AA ad) s.heap H locs → lv_has ls 2 [(0, .ref (ad 29)), (1, .int y1_1)] → W p l e rmX8_restore s m args below meth c H locs 0 0 Q (F0 m 27 ls []) := by
        intro n
        induction n with
        | zero => intro τ_1 y1_1 H locs ls h; exact absurd h (by simp [X8_restore_L1])
        | succ n ih =>
          intro τ_1 y1_1 H locs ls h hP hS hl
          replace h := (X8_restore_L1_s n τ_1 y1_1).symm.trans h
          refine lv_iload_n hx hb dX8_restore_27 rfl (lv_at hl 1 rfl) ?_
          refine lv_bipush (v := (81 : Int32)) hx hb dX8_restore_28 (by decide) ?_
          refine lv_icmp_ge (tgt := 51) hx hb dX8_restore_30 (by decide) (fun c4 => ?_) (fun c4 => ?_)
          · replace h := ip c4 h
            obtain rfl := Option.some.inj h
            exact K1 _ _ _ hP hS (lv_sub hl [0] rfl)
          · replace h := iq c4 h
            refine lv_aload_n hx hb dX8_restore_33 rfl (lv_at hl 0 rfl) ?_
            refine va_get (D := D) (ci := 8) (v := .ref (ad 33)) (C := RX8) (T := TX8) (N := 27) hx hb htb wu_8 hown hK.1 hP 29 w_29 rfl 4 (by decide) (htb _ wFL_RX8_19) (fun _ h9 => h9) rfl dX8_restore_34 ?_
            refine lv_iload_n hx hb dX8_restore_37 rfl (lv_at hl 1 rfl) ?_
            refine lv_aload_n hx hb dX8_restore_38 rfl (lv_at hl 0 rfl) ?_
            refine va_get (D := D) (ci := 8) (v := .ref (ad 44)) (C := RX8) (T := TX8) (N := 27) hx hb htb wu_8 hown hK.1 hP 29 w_29 rfl 24 (by decide) (htb _ wFL_RX8_52) (fun _ h9 => h9) rfl dX8_restore_39 ?_
            refine lv_iload_n hx hb dX8_restore_42 rfl (lv_at hl 1 rfl) ?_
            obtain ⟨v5, g5, h⟩ := ob h
            refine r_ald hx hb hK hP 44 w_44 g5 dX8_restore_43 ?_
            obtain ⟨τ6, g6, h⟩ := ob h
            refine r_astM (A := AA ad) hx hb hK hd (fun _ hh => hh) hP hS 33 81 (by decide) (fun _ => rfl) g6 dX8_restore_44 (fun H locs hP hS => ?_)
            refine lv_iinc (v := (y1_1 + (1 : Int32))) (lv' := [(1, .int (y1_1 + (1 : Int32))), (0, .ref (ad 29))]) hx hb dX8_restore_45 hl (k := 1) rfl rfl (by decide) rfl (fun ls hl => ?_)
            refine lv_goto (tgt := 27) hx hb dX8_restore_48 (by decide) ?_
            exact ih τ6 (y1_1 + (1 : Int32)) _ _ _ h hP hS (lv_sub hl [1, 0] rfl)
      exact L1 10000 τ (0 : Int32) _ _ _ hj3 hP hS (lv_sub hl [1, 0] rfl)
    · replace h := iq c2 h
      refine lv_bipush (v := (-103 : Int32)) hx hb dX8_restore_22 (by decide) ?_
      obtain rfl := Option.some.inj h
      exact ret _ _ _ _ _ dX8_restore_24 hP hS rfl
def X5_size (σ : St)  : Int32 :=
  (σ 15 2)
abbrev rmX5_size : Room := { frames := 0, cells := 0, slots := 0, locals := 0 }
set_option maxHeartbeats 4000000 in
set_option maxRecDepth 100000 in
theorem c_X5_size (l : Launch) (D : va_G) (ad : Nat → Nat) (cI : ClassId) (hd : HD ad) (σ τ : St) (η : Int64)  (rr : Int32) (h : X5_size σ  = rr) : MI l yX5_size (wy yX5_size cX5_size 1 (some .int)) rmX5_size D ad cI [.ref (ad 15)] σ τ η rr σ τ η := by
  refine mk_i (own := RX5) (lv := [(0, .ref (ad 15))]) (plainFor_of_name (by decide)) rfl (Nat.le_of_ble_eq_true rfl) rfl ?_
  intro p e s m args below meth c Q ls hx hb hml hown htb hK ret hP hS hl
  unfold X5_size at h
  refine lv_aload_n hx hb dX5_size_0 rfl (lv_at hl 0 rfl) ?_
  refine va_get (D := D) (ci := 5) (v := .int (σ 15 2)) (C := RX5) (T := TX5) (N := 3) hx hb htb wu_5 hown hK.1 hP 15 w_15 rfl 2 (by decide) (htb _ wFL_RX5_18) (fun _ h9 => h9) rfl dX5_size_1 ?_
  subst h
  exact ret _ _ _ _ _ dX5_size_4 hP hS rfl
def X7_count (σ : St) (x1 : Int32) : Option (Int32) :=
  if x1 = (0 : Int32) then (
    lt (X0_size σ ) fun v2 =>
    some v2)
  else (
    if x1 = (1 : Int32) then (
      lt (X2_size σ ) fun v4 =>
      some v4)
    else (
      if x1 = (2 : Int32) then (
        lt (X5_size σ ) fun v6 =>
        some v6)
      else (
        if x1 = (3 : Int32) then (
          lt (X4_size σ ) fun v8 =>
          some v8)
        else (
          if x1 = (4 : Int32) then (
            bd (X6_howManyOn σ (9 : Int32)) fun v10 =>
            some v10)
          else (
            if x1 = (5 : Int32) then (
              lt (X3_size σ ) fun v12 =>
              some v12)
            else (
              if x1 = (6 : Int32) then (
                some (σ 0 9))
              else (
                if x1 = (7 : Int32) then (
                  some (σ 0 10))
                else (
                  some (-102 : Int32)))))))))
abbrev rmX7_count : Room := { frames := 2, cells := 0, slots := 0, locals := 42 }
set_option maxHeartbeats 4000000 in
set_option maxRecDepth 100000 in
theorem c_X7_count (l : Launch) (D : va_G) (ad : Nat → Nat) (cI : ClassId) (hd : HD ad) (σ τ : St) (η : Int64) (x1 : Int32) (rr : Int32) (h : X7_count σ x1 = some rr) : MI l yX7_count (wy yX7_count cX7_count 2 (some .int)) rmX7_count D ad cI [.ref (ad 0), .int x1] σ τ η rr σ τ η := by
  refine mk_i (own := RX7) (lv := [(0, .ref (ad 0)), (1, .int x1)]) (plainFor_of_name (by decide)) rfl (Nat.le_of_ble_eq_true rfl) rfl ?_
  intro p e s m args below meth c Q ls hx hb hml hown htb hK ret hP hS hl
  unfold X7_count at h
  refine lv_iload_n hx hb dX7_count_0 rfl (lv_at hl 1 rfl) ?_
  by_cases c1 : x1 = (0 : Int32)
  · replace h := ip c1 h
    refine lv_tableIn (x := x1) (off := 47) (tgt := 48) hx hb dX7_count_1 (by rw [c1]; decide) (by rw [c1]; decide) (by rw [c1]; rfl) (by decide) ?_
    refine lv_aload_n hx hb dX7_count_48 rfl (lv_at hl 0 rfl) ?_
    refine va_get (D := D) (ci := 7) (v := .ref (ad 1)) (C := RX7) (T := TX7) (N := 11) hx hb htb wu_7 hown hK.1 hP 0 w_0 rfl 0 (by decide) (htb _ wFL_RX7_10) (fun _ h9 => h9) rfl dX7_count_49 ?_
    obtain ⟨v2, g2, h⟩ := ol h
    refine c_Vi (q := (RX0, TX0, 6)) (ci := 0) (b := 1) (As := []) (rest := []) (A := AA ad) ⟨hx, hb, hml, hown, htb⟩ (c_X0_size l D ad cI hd σ τ η  v2 g2) (cwV 0 htb (gdV (fun _ hh => hh) wML_RX7_138 wIM_yX0_size wSE_yX0_size wI_RX0 wC_yX0_size) rfl rfl rfl hd_X0_size ⟨by decide, by decide⟩) hK hP rfl w_1 (fun _ hh => hh) hS rfl hl.1 rfl (Nat.le_of_ble_eq_true rfl) dX7_count_52 ⟨Nat.le_refl 0, Nat.le_refl 0⟩ (fun H locs hP hS => ?_)
    obtain rfl := Option.some.inj h
    exact ret _ _ _ _ _ dX7_count_55 hP hS rfl
  · replace h := iq c1 h
    by_cases c3 : x1 = (1 : Int32)
    · replace h := ip c3 h
      refine lv_tableIn (x := x1) (off := 55) (tgt := 56) hx hb dX7_count_1 (by rw [c3]; decide) (by rw [c3]; decide) (by rw [c3]; rfl) (by decide) ?_
      refine lv_aload_n hx hb dX7_count_56 rfl (lv_at hl 0 rfl) ?_
      refine va_get (D := D) (ci := 7) (v := .ref (ad 10)) (C := RX7) (T := TX7) (N := 11) hx hb htb wu_7 hown hK.1 hP 0 w_0 rfl 3 (by decide) (htb _ wFL_RX7_33) (fun _ h9 => h9) rfl dX7_count_57 ?_
      obtain ⟨v4, g4, h⟩ := ol h
      refine c_Vi (q := (RX2, TX2, 5)) (ci := 2) (b := 10) (As := []) (rest := []) (A := AA ad) ⟨hx, hb, hml, hown, htb⟩ (c_X2_size l D ad cI hd σ τ η  v4 g4) (cwV 0 htb (gdV (fun _ hh => hh) wML_RX7_155 wIM_yX2_size wSE_yX2_size wI_RX2 wC_yX2_size) rfl rfl rfl hd_X2_size ⟨by decide, by decide⟩) hK hP rfl w_10 (fun _ hh => hh) hS rfl hl.1 rfl (Nat.le_of_ble_eq_true rfl) dX7_count_60 ⟨Nat.le_refl 0, Nat.le_refl 0⟩ (fun H locs hP hS => ?_)
      obtain rfl := Option.some.inj h
      exact ret _ _ _ _ _ dX7_count_63 hP hS rfl
    · replace h := iq c3 h
      by_cases c5 : x1 = (2 : Int32)
      · replace h := ip c5 h
        refine lv_tableIn (x := x1) (off := 63) (tgt := 64) hx hb dX7_count_1 (by rw [c5]; decide) (by rw [c5]; decide) (by rw [c5]; rfl) (by decide) ?_
        refine lv_aload_n hx hb dX7_count_64 rfl (lv_at hl 0 rfl) ?_
        refine va_get (D := D) (ci := 7) (v := .ref (ad 15)) (C := RX7) (T := TX7) (N := 11) hx hb htb wu_7 hown hK.1 hP 0 w_0 rfl 4 (by decide) (htb _ wFL_RX7_40) (fun _ h9 => h9) rfl dX7_count_65 ?_
        obtain ⟨v6, g6, h⟩ := ol h
        refine c_Vi (q := (RX5, TX5, 3)) (ci := 5) (b := 15) (As := []) (rest := []) (A := AA ad) ⟨hx, hb, hml, hown, htb⟩ (c_X5_size l D ad cI hd σ τ η  v6 g6) (cwV 0 htb (gdV (fun _ hh => hh) wML_RX7_296 wIM_yX5_size wSE_yX5_size wI_RX5 wC_yX5_size) rfl rfl rfl hd_X5_size ⟨by decide, by decide⟩) hK hP rfl w_15 (fun _ hh => hh) hS rfl hl.1 rfl (Nat.le_of_ble_eq_true rfl) dX7_count_68 ⟨Nat.le_refl 0, Nat.le_refl 0⟩ (fun H locs hP hS => ?_)
        obtain rfl := Option.some.inj h
        exact ret _ _ _ _ _ dX7_count_71 hP hS rfl
      · replace h := iq c5 h
        by_cases c7 : x1 = (3 : Int32)
        · replace h := ip c7 h
          refine lv_tableIn (x := x1) (off := 71) (tgt := 72) hx hb dX7_count_1 (by rw [c7]; decide) (by rw [c7]; decide) (by rw [c7]; rfl) (by decide) ?_
          refine lv_aload_n hx hb dX7_count_72 rfl (lv_at hl 0 rfl) ?_
          refine va_get (D := D) (ci := 7) (v := .ref (ad 18)) (C := RX7) (T := TX7) (N := 11) hx hb htb wu_7 hown hK.1 hP 0 w_0 rfl 5 (by decide) (htb _ wFL_RX7_47) (fun _ h9 => h9) rfl dX7_count_73 ?_
          obtain ⟨v8, g8, h⟩ := ol h
          refine c_Vi (q := (RX4, TX4, 4)) (ci := 4) (b := 18) (As := []) (rest := []) (A := AA ad) ⟨hx, hb, hml, hown, htb⟩ (c_X4_size l D ad cI hd σ τ η  v8 g8) (cwV 0 htb (gdV (fun _ hh => hh) wML_RX7_297 wIM_yX4_size wSE_yX4_size wI_RX4 wC_yX4_size) rfl rfl rfl hd_X4_size ⟨by decide, by decide⟩) hK hP rfl w_18 (fun _ hh => hh) hS rfl hl.1 rfl (Nat.le_of_ble_eq_true rfl) dX7_count_76 ⟨Nat.le_refl 0, Nat.le_refl 0⟩ (fun H locs hP hS => ?_)
          obtain rfl := Option.some.inj h
          exact ret _ _ _ _ _ dX7_count_79 hP hS rfl
        · replace h := iq c7 h
          by_cases c9 : x1 = (4 : Int32)
          · replace h := ip c9 h
            refine lv_tableIn (x := x1) (off := 79) (tgt := 80) hx hb dX7_count_1 (by rw [c9]; decide) (by rw [c9]; decide) (by rw [c9]; rfl) (by decide) ?_
            refine lv_aload_n hx hb dX7_count_80 rfl (lv_at hl 0 rfl) ?_
            refine va_get (D := D) (ci := 7) (v := .ref (ad 6)) (C := RX7) (T := TX7) (N := 11) hx hb htb wu_7 hown hK.1 hP 0 w_0 rfl 1 (by decide) (htb _ wFL_RX7_19) (fun _ h9 => h9) rfl dX7_count_81 ?_
            refine lv_bipush (v := (9 : Int32)) hx hb dX7_count_84 (by decide) ?_
            obtain ⟨v10, g10, h⟩ := ob h
            refine c_Vi (q := (RX6, TX6, 1)) (ci := 6) (b := 6) (As := [.int (9 : Int32)]) (rest := []) (A := AA ad) ⟨hx, hb, hml, hown, htb⟩ (c_X6_howManyOn l D ad cI hd σ τ η (9 : Int32) v10 g10) (cwV 1 htb (gdV (fun _ hh => hh) wML_RX7_286 wIM_yX6_howManyOn wSE_yX6_howManyOn wI_RX6 wC_yX6_howManyOn) rfl rfl rfl hd_X6_howManyOn ⟨by decide, by decide⟩) hK hP rfl w_6 (fun _ hh => hh) hS rfl hl.1 rfl (Nat.le_of_ble_eq_true rfl) dX7_count_86 ⟨Nat.le_refl 0, Nat.le_refl 0⟩ (fun H locs hP hS => ?_)
            obtain rfl := Option.some.inj h
            exact ret _ _ _ _ _ dX7_count_89 hP hS rfl
          · replace h := iq c9 h
            by_cases c11 : x1 = (5 : Int32)
            · replace h := ip c11 h
              refine lv_tableIn (x := x1) (off := 89) (tgt := 90) hx hb dX7_count_1 (by rw [c11]; decide) (by rw [c11]; decide) (by rw [c11]; rfl) (by decide) ?_
              refine lv_aload_n hx hb dX7_count_90 rfl (lv_at hl 0 rfl) ?_
              refine va_get (D := D) (ci := 7) (v := .ref (ad 8)) (C := RX7) (T := TX7) (N := 11) hx hb htb wu_7 hown hK.1 hP 0 w_0 rfl 2 (by decide) (htb _ wFL_RX7_26) (fun _ h9 => h9) rfl dX7_count_91 ?_
              obtain ⟨v12, g12, h⟩ := ol h
              refine c_Vi (q := (RX3, TX3, 2)) (ci := 3) (b := 8) (As := []) (rest := []) (A := AA ad) ⟨hx, hb, hml, hown, htb⟩ (c_X3_size l D ad cI hd σ τ η  v12 g12) (cwV 0 htb (gdV (fun _ hh => hh) wML_RX7_127 wIM_yX3_size wSE_yX3_size wI_RX3 wC_yX3_size) rfl rfl rfl hd_X3_size ⟨by decide, by decide⟩) hK hP rfl w_8 (fun _ hh => hh) hS rfl hl.1 rfl (Nat.le_of_ble_eq_true rfl) dX7_count_94 ⟨Nat.le_refl 0, Nat.le_refl 0⟩ (fun H locs hP hS => ?_)
              obtain rfl := Option.some.inj h
              exact ret _ _ _ _ _ dX7_count_97 hP hS rfl
            · replace h := iq c11 h
              by_cases c13 : x1 = (6 : Int32)
              · replace h := ip c13 h
                refine lv_tableIn (x := x1) (off := 97) (tgt := 98) hx hb dX7_count_1 (by rw [c13]; decide) (by rw [c13]; decide) (by rw [c13]; rfl) (by decide) ?_
                refine lv_aload_n hx hb dX7_count_98 rfl (lv_at hl 0 rfl) ?_
                refine va_get (D := D) (ci := 7) (v := .int (σ 0 9)) (C := RX7) (T := TX7) (N := 11) hx hb htb wu_7 hown hK.1 hP 0 w_0 rfl 9 (by decide) (htb _ wFL_RX7_65) (fun _ h9 => h9) rfl dX7_count_99 ?_
                obtain rfl := Option.some.inj h
                exact ret _ _ _ _ _ dX7_count_102 hP hS rfl
              · replace h := iq c13 h
                by_cases c14 : x1 = (7 : Int32)
                · replace h := ip c14 h
                  refine lv_tableIn (x := x1) (off := 102) (tgt := 103) hx hb dX7_count_1 (by rw [c14]; decide) (by rw [c14]; decide) (by rw [c14]; rfl) (by decide) ?_
                  refine lv_aload_n hx hb dX7_count_103 rfl (lv_at hl 0 rfl) ?_
                  refine va_get (D := D) (ci := 7) (v := .int (σ 0 10)) (C := RX7) (T := TX7) (N := 11) hx hb htb wu_7 hown hK.1 hP 0 w_0 rfl 10 (by decide) (htb _ wFL_RX7_69) (fun _ h9 => h9) rfl dX7_count_104 ?_
                  obtain rfl := Option.some.inj h
                  exact ret _ _ _ _ _ dX7_count_107 hP hS rfl
                · replace h := iq c14 h
                  have zc1 := lv_neT c1 (show ((0 : Int32)).toInt = 0 by decide)
                  have zc3 := lv_neT c3 (show ((1 : Int32)).toInt = 1 by decide)
                  have zc5 := lv_neT c5 (show ((2 : Int32)).toInt = 2 by decide)
                  have zc7 := lv_neT c7 (show ((3 : Int32)).toInt = 3 by decide)
                  have zc9 := lv_neT c9 (show ((4 : Int32)).toInt = 4 by decide)
                  have zc11 := lv_neT c11 (show ((5 : Int32)).toInt = 5 by decide)
                  have zc13 := lv_neT c13 (show ((6 : Int32)).toInt = 6 by decide)
                  have zc14 := lv_neT c14 (show ((7 : Int32)).toInt = 7 by decide)
                  refine lv_tableOut (x := x1) (tgt := 108) hx hb dX7_count_1 (by omega) (by decide) ?_
                  refine lv_bipush (v := (-102 : Int32)) hx hb dX7_count_108 (by decide) ?_
                  obtain rfl := Option.some.inj h
                  exact ret _ _ _ _ _ dX7_count_110 hP hS rfl
def X8_countOf (τ : St) (x1 : Int32) : Option (Int32 × St) :=
  if x1 = (0 : Int32) then (
    some ((τ 29 0), τ))
  else (
    if x1 = (1 : Int32) then (
      some ((τ 29 8), τ))
    else (
      if x1 = (2 : Int32) then (
        some ((τ 29 15), τ))
      else (
        if x1 = (3 : Int32) then (
          some ((τ 29 18), τ))
        else (
          if x1 = (4 : Int32) then (
            bd (X8_knowMany τ ) fun v6 =>
            some (v6.1, v6.2))
          else (
            if x1 = (5 : Int32) then (
              some ((τ 29 7), τ))
            else (
              if x1 = (6 : Int32) then (
                some ((τ 29 9), τ))
              else (
                if x1 = (7 : Int32) then (
                  some ((τ 29 11), τ))
                else (
                  some ((-102 : Int32), τ)))))))))
abbrev rmX8_countOf : Room := { frames := 4, cells := 0, slots := 0, locals := 90 }
set_option maxHeartbeats 4000000 in
set_option maxRecDepth 100000 in
theorem c_X8_countOf (l : Launch) (D : va_G) (ad : Nat → Nat) (cI : ClassId) (hd : HD ad) (σ τ : St) (η : Int64) (x1 : Int32) (rr : Int32 × St) (h : X8_countOf τ x1 = some rr) : MI l yX8_countOf (wy yX8_countOf cX8_countOf 2 (some .int)) rmX8_countOf D ad cI [.ref (ad 29), .int x1] σ τ η rr.1 σ rr.2 η := by
  refine mk_i (own := RX8) (lv := [(0, .ref (ad 29)), (1, .int x1)]) (plainFor_of_name (by decide)) rfl (Nat.le_of_ble_eq_true rfl) rfl ?_
  intro p e s m args below meth c Q ls hx hb hml hown htb hK ret hP hS hl
  unfold X8_countOf at h
  refine lv_iload_n hx hb dX8_countOf_0 rfl (lv_at hl 1 rfl) ?_
  by_cases c1 : x1 = (0 : Int32)
  · replace h := ip c1 h
    refine lv_tableIn (x := x1) (off := 47) (tgt := 48) hx hb dX8_countOf_1 (by rw [c1]; decide) (by rw [c1]; decide) (by rw [c1]; rfl) (by decide) ?_
    refine lv_aload_n hx hb dX8_countOf_48 rfl (lv_at hl 0 rfl) ?_
    refine va_get (D := D) (ci := 8) (v := .int (τ 29 0)) (C := RX8) (T := TX8) (N := 27) hx hb htb wu_8 hown hK.1 hP 29 w_29 rfl 0 (by decide) (htb _ wFL_RX8_62) (fun _ h9 => h9) rfl dX8_countOf_49 ?_
    obtain rfl := Option.some.inj h
    exact ret _ _ _ _ _ dX8_countOf_52 hP hS rfl
  · replace h := iq c1 h
    by_cases c2 : x1 = (1 : Int32)
    · replace h := ip c2 h
      refine lv_tableIn (x := x1) (off := 52) (tgt := 53) hx hb dX8_countOf_1 (by rw [c2]; decide) (by rw [c2]; decide) (by rw [c2]; rfl) (by decide) ?_
      refine lv_aload_n hx hb dX8_countOf_53 rfl (lv_at hl 0 rfl) ?_
      refine va_get (D := D) (ci := 8) (v := .int (τ 29 8)) (C := RX8) (T := TX8) (N := 27) hx hb htb wu_8 hown hK.1 hP 29 w_29 rfl 8 (by decide) (htb _ wFL_RX8_109) (fun _ h9 => h9) rfl dX8_countOf_54 ?_
      obtain rfl := Option.some.inj h
      exact ret _ _ _ _ _ dX8_countOf_57 hP hS rfl
    · replace h := iq c2 h
      by_cases c3 : x1 = (2 : Int32)
      · replace h := ip c3 h
        refine lv_tableIn (x := x1) (off := 57) (tgt := 58) hx hb dX8_countOf_1 (by rw [c3]; decide) (by rw [c3]; decide) (by rw [c3]; rfl) (by decide) ?_
        refine lv_aload_n hx hb dX8_countOf_58 rfl (lv_at hl 0 rfl) ?_
        refine va_get (D := D) (ci := 8) (v := .int (τ 29 15)) (C := RX8) (T := TX8) (N := 27) hx hb htb wu_8 hown hK.1 hP 29 w_29 rfl 15 (by decide) (htb _ wFL_RX8_177) (fun _ h9 => h9) rfl dX8_countOf_59 ?_
        obtain rfl := Option.some.inj h
        exact ret _ _ _ _ _ dX8_countOf_62 hP hS rfl
      · replace h := iq c3 h
        by_cases c4 : x1 = (3 : Int32)
        · replace h := ip c4 h
          refine lv_tableIn (x := x1) (off := 62) (tgt := 63) hx hb dX8_countOf_1 (by rw [c4]; decide) (by rw [c4]; decide) (by rw [c4]; rfl) (by decide) ?_
          refine lv_aload_n hx hb dX8_countOf_63 rfl (lv_at hl 0 rfl) ?_
          refine va_get (D := D) (ci := 8) (v := .int (τ 29 18)) (C := RX8) (T := TX8) (N := 27) hx hb htb wu_8 hown hK.1 hP 29 w_29 rfl 18 (by decide) (htb _ wFL_RX8_189) (fun _ h9 => h9) rfl dX8_countOf_64 ?_
          obtain rfl := Option.some.inj h
          exact ret _ _ _ _ _ dX8_countOf_67 hP hS rfl
        · replace h := iq c4 h
          by_cases c5 : x1 = (4 : Int32)
          · replace h := ip c5 h
            refine lv_tableIn (x := x1) (off := 67) (tgt := 68) hx hb dX8_countOf_1 (by rw [c5]; decide) (by rw [c5]; decide) (by rw [c5]; rfl) (by decide) ?_
            refine lv_aload_n hx hb dX8_countOf_68 rfl (lv_at hl 0 rfl) ?_
            obtain ⟨v6, g6, h⟩ := ob h
            refine c_Vi (q := (RX8, TX8, 27)) (ci := 8) (b := 29) (As := []) (rest := []) (A := AA ad) ⟨hx, hb, hml, hown, htb⟩ (c_X8_knowMany l D ad cI hd σ τ η  v6 g6) (cwV 0 htb (gdV (fun _ hh => hh) wML_RX8_229 wIM_yX8_knowMany wSE_yX8_knowMany wI_RX8 wC_yX8_knowMany) rfl rfl rfl hd_X8_knowMany ⟨by decide, by decide⟩) hK hP rfl w_29 (fun _ hh => hh) hS rfl hl.1 rfl (Nat.le_of_ble_eq_true rfl) dX8_countOf_69 ⟨Nat.le_refl 0, Nat.le_refl 0⟩ (fun H locs hP hS => ?_)
            obtain rfl := Option.some.inj h
            exact ret _ _ _ _ _ dX8_countOf_72 hP hS rfl
          · replace h := iq c5 h
            by_cases c7 : x1 = (5 : Int32)
            · replace h := ip c7 h
              refine lv_tableIn (x := x1) (off := 72) (tgt := 73) hx hb dX8_countOf_1 (by rw [c7]; decide) (by rw [c7]; decide) (by rw [c7]; rfl) (by decide) ?_
              refine lv_aload_n hx hb dX8_countOf_73 rfl (lv_at hl 0 rfl) ?_
              refine va_get (D := D) (ci := 8) (v := .int (τ 29 7)) (C := RX8) (T := TX8) (N := 27) hx hb htb wu_8 hown hK.1 hP 29 w_29 rfl 7 (by decide) (htb _ wFL_RX8_97) (fun _ h9 => h9) rfl dX8_countOf_74 ?_
              obtain rfl := Option.some.inj h
              exact ret _ _ _ _ _ dX8_countOf_77 hP hS rfl
            · replace h := iq c7 h
              by_cases c8 : x1 = (6 : Int32)
              · replace h := ip c8 h
                refine lv_tableIn (x := x1) (off := 77) (tgt := 78) hx hb dX8_countOf_1 (by rw [c8]; decide) (by rw [c8]; decide) (by rw [c8]; rfl) (by decide) ?_
                refine lv_aload_n hx hb dX8_countOf_78 rfl (lv_at hl 0 rfl) ?_
                refine va_get (D := D) (ci := 8) (v := .int (τ 29 9)) (C := RX8) (T := TX8) (N := 27) hx hb htb wu_8 hown hK.1 hP 29 w_29 rfl 9 (by decide) (htb _ wFL_RX8_112) (fun _ h9 => h9) rfl dX8_countOf_79 ?_
                obtain rfl := Option.some.inj h
                exact ret _ _ _ _ _ dX8_countOf_82 hP hS rfl
              · replace h := iq c8 h
                by_cases c9 : x1 = (7 : Int32)
                · replace h := ip c9 h
                  refine lv_tableIn (x := x1) (off := 82) (tgt := 83) hx hb dX8_countOf_1 (by rw [c9]; decide) (by rw [c9]; decide) (by rw [c9]; rfl) (by decide) ?_
                  refine lv_aload_n hx hb dX8_countOf_83 rfl (lv_at hl 0 rfl) ?_
                  refine va_get (D := D) (ci := 8) (v := .int (τ 29 11)) (C := RX8) (T := TX8) (N := 27) hx hb htb wu_8 hown hK.1 hP 29 w_29 rfl 11 (by decide) (htb _ wFL_RX8_161) (fun _ h9 => h9) rfl dX8_countOf_84 ?_
                  obtain rfl := Option.some.inj h
                  exact ret _ _ _ _ _ dX8_countOf_87 hP hS rfl
                · replace h := iq c9 h
                  have zc1 := lv_neT c1 (show ((0 : Int32)).toInt = 0 by decide)
                  have zc2 := lv_neT c2 (show ((1 : Int32)).toInt = 1 by decide)
                  have zc3 := lv_neT c3 (show ((2 : Int32)).toInt = 2 by decide)
                  have zc4 := lv_neT c4 (show ((3 : Int32)).toInt = 3 by decide)
                  have zc5 := lv_neT c5 (show ((4 : Int32)).toInt = 4 by decide)
                  have zc7 := lv_neT c7 (show ((5 : Int32)).toInt = 5 by decide)
                  have zc8 := lv_neT c8 (show ((6 : Int32)).toInt = 6 by decide)
                  have zc9 := lv_neT c9 (show ((7 : Int32)).toInt = 7 by decide)
                  refine lv_tableOut (x := x1) (tgt := 88) hx hb dX8_countOf_1 (by omega) (by decide) ?_
                  refine lv_bipush (v := (-102 : Int32)) hx hb dX8_countOf_88 (by decide) ?_
                  obtain rfl := Option.some.inj h
                  exact ret _ _ _ _ _ dX8_countOf_90 hP hS rfl
