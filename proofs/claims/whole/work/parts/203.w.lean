def X0_putTold (σ : St) (x1 : Int32) (x2 : Int32) : Option (St) :=
  lt (X0_has σ x1) fun v1 =>
  if v1 = 0 then (
    some σ)
  else (
    bd (wa σ 4 9 x1 x2) fun σ3 =>
    some σ3)
abbrev rmX0_putTold : Room := { frames := 1, cells := 0, slots := 0, locals := 21 }
set_option maxHeartbeats 4000000 in
set_option maxRecDepth 100000 in
theorem c_X0_putTold (l : Launch) (D : va_G) (ad : Nat → Nat) (cI : ClassId) (hd : HD ad) (σ τ : St) (η : Int64) (x1 : Int32) (x2 : Int32) (rr : St) (h : X0_putTold σ x1 x2 = some rr) : MV l yX0_putTold (wy yX0_putTold cX0_putTold 3 none) rmX0_putTold D ad cI [.ref (ad 1), .int x1, .int x2] σ τ η rr τ η := by
  refine mk_v (own := RX0) (lv := [(0, .ref (ad 1)), (1, .int x1), (2, .int x2)]) (plainFor_of_name (by decide)) rfl (Nat.le_of_ble_eq_true rfl) rfl ?_
  intro p e s m args below meth c Q ls hx hb hml hown htb hK ret hP hS hl
  unfold X0_putTold at h
  refine lv_aload_n hx hb dX0_putTold_0 rfl (lv_at hl 0 rfl) ?_
  refine lv_iload_n hx hb dX0_putTold_1 rfl (lv_at hl 1 rfl) ?_
  obtain ⟨v1, g1, h⟩ := ol h
  refine c_Vz (q := (RX0, TX0, 6)) (ci := 0) (b := 1) (As := [.int x1]) (rest := []) (A := AA ad) ⟨hx, hb, hml, hown, htb⟩ (c_X0_has l D ad cI hd σ τ η x1 v1 g1) (cwV 1 htb (gdV (fun _ hh => hh) wML_RX0_39 wIM_yX0_has wSE_yX0_has wI_RX0 wC_yX0_has) rfl rfl rfl hd_X0_has ⟨by decide, by decide⟩) hK hP rfl w_1 (fun _ hh => hh) hS rfl hl.1 rfl (Nat.le_of_ble_eq_true rfl) dX0_putTold_2 ⟨Nat.le_refl 0, Nat.le_refl 0⟩ (fun H locs hz1 hP hS => ?_)
  refine lv_if_eq (tgt := 15) hx hb dX0_putTold_5 (by decide) (fun c2 => ?_) (fun c2 => ?_)
  · replace h := ip c2 h
    obtain rfl := Option.some.inj h
    exact ret _ _ _ _ dX0_putTold_15 hP hS
  · replace h := iq c2 h
    refine lv_aload_n hx hb dX0_putTold_8 rfl (lv_at hl 0 rfl) ?_
    refine va_get (D := D) (ci := 0) (v := .ref (ad 4)) (C := RX0) (T := TX0) (N := 6) hx hb htb wu_0 hown hK.1 hP 1 w_1 rfl 2 (by decide) (htb _ wFL_RX0_18) (fun _ h9 => h9) rfl dX0_putTold_9 ?_
    refine lv_iload_n hx hb dX0_putTold_12 rfl (lv_at hl 1 rfl) ?_
    refine lv_iload_n hx hb dX0_putTold_13 rfl (lv_at hl 2 rfl) ?_
    obtain ⟨σ3, g3, h⟩ := ob h
    refine r_astC (A := AA ad) hx hb hK hd (fun _ hh => hh) hP hS 4 9 (by decide) (fun _ => rfl) g3 dX0_putTold_14 (fun H locs hP hS => ?_)
    obtain rfl := Option.some.inj h
    exact ret _ _ _ _ dX0_putTold_15 hP hS
def X7_tell (σ : St) (x1 : Int32) (x2 : Int32) : Option (Int32 × St) :=
  lt (X0_has σ x1) fun v1 =>
  if v1 = 0 then (
    some ((-101 : Int32), σ))
  else (
    if x2 = 0 then (
      bd (X0_toldOf σ x1) fun v4 =>
      bd (X0_putTold σ x1 x2) fun v5 =>
      bd (X7_followWord v5 ) fun v6 =>
      some (v4, v6))
    else (
      lt (X7_isDay  x2) fun v7 =>
      if v7 = 0 then (
        some ((-102 : Int32), σ))
      else (
        bd (X0_toldOf σ x1) fun v9 =>
        bd (X0_putTold σ x1 x2) fun v10 =>
        bd (X7_followWord v10 ) fun v11 =>
        some (v9, v11))))
abbrev rmX7_tell : Room := { frames := 4, cells := 0, slots := 0, locals := 91 }
set_option maxHeartbeats 4000000 in
set_option maxRecDepth 100000 in
theorem c_X7_tell (l : Launch) (D : va_G) (ad : Nat → Nat) (cI : ClassId) (hd : HD ad) (σ τ : St) (η : Int64) (x1 : Int32) (x2 : Int32) (rr : Int32 × St) (h : X7_tell σ x1 x2 = some rr) : MI l yX7_tell (wy yX7_tell cX7_tell 4 (some .int)) rmX7_tell D ad cI [.ref (ad 0), .int x1, .int x2] σ τ η rr.1 rr.2 τ η := by
  refine mk_i (own := RX7) (lv := [(0, .ref (ad 0)), (1, .int x1), (2, .int x2)]) (plainFor_of_name (by decide)) rfl (Nat.le_of_ble_eq_true rfl) rfl ?_
  intro p e s m args below meth c Q ls hx hb hml hown htb hK ret hP hS hl
  unfold X7_tell at h
  refine lv_aload_n hx hb dX7_tell_0 rfl (lv_at hl 0 rfl) ?_
  refine va_get (D := D) (ci := 7) (v := .ref (ad 1)) (C := RX7) (T := TX7) (N := 11) hx hb htb wu_7 hown hK.1 hP 0 w_0 rfl 0 (by decide) (htb _ wFL_RX7_10) (fun _ h9 => h9) rfl dX7_tell_1 ?_
  refine lv_iload_n hx hb dX7_tell_4 rfl (lv_at hl 1 rfl) ?_
  obtain ⟨v1, g1, h⟩ := ol h
  refine c_Vz (q := (RX0, TX0, 6)) (ci := 0) (b := 1) (As := [.int x1]) (rest := []) (A := AA ad) ⟨hx, hb, hml, hown, htb⟩ (c_X0_has l D ad cI hd σ τ η x1 v1 g1) (cwV 1 htb (gdV (fun _ hh => hh) wML_RX7_84 wIM_yX0_has wSE_yX0_has wI_RX0 wC_yX0_has) rfl rfl rfl hd_X0_has ⟨by decide, by decide⟩) hK hP rfl w_1 (fun _ hh => hh) hS rfl hl.1 rfl (Nat.le_of_ble_eq_true rfl) dX7_tell_5 ⟨Nat.le_refl 0, Nat.le_refl 0⟩ (fun H locs hz1 hP hS => ?_)
  refine lv_if_ne (tgt := 14) hx hb dX7_tell_8 (by decide) (fun c2 => ?_) (fun c2 => ?_)
  · replace h := iq c2 h
    refine lv_iload_n hx hb dX7_tell_14 rfl (lv_at hl 2 rfl) ?_
    refine lv_if_eq (tgt := 28) hx hb dX7_tell_15 (by decide) (fun c3 => ?_) (fun c3 => ?_)
    · replace h := ip c3 h
      refine lv_aload_n hx hb dX7_tell_28 rfl (lv_at hl 0 rfl) ?_
      refine va_get (D := D) (ci := 7) (v := .ref (ad 1)) (C := RX7) (T := TX7) (N := 11) hx hb htb wu_7 hown hK.1 hP 0 w_0 rfl 0 (by decide) (htb _ wFL_RX7_10) (fun _ h9 => h9) rfl dX7_tell_29 ?_
      refine lv_iload_n hx hb dX7_tell_32 rfl (lv_at hl 1 rfl) ?_
      obtain ⟨v4, g4, h⟩ := ob h
      refine c_Vi (q := (RX0, TX0, 6)) (ci := 0) (b := 1) (As := [.int x1]) (rest := []) (A := AA ad) ⟨hx, hb, hml, hown, htb⟩ (c_X0_toldOf l D ad cI hd σ τ η x1 v4 g4) (cwV 1 htb (gdV (fun _ hh => hh) wML_RX7_94 wIM_yX0_toldOf wSE_yX0_toldOf wI_RX0 wC_yX0_toldOf) rfl rfl rfl hd_X0_toldOf ⟨by decide, by decide⟩) hK hP rfl w_1 (fun _ hh => hh) hS rfl hl.1 rfl (Nat.le_of_ble_eq_true rfl) dX7_tell_33 ⟨Nat.le_refl 0, Nat.le_refl 0⟩ (fun H locs hP hS => ?_)
      refine lv_istore_n (lv' := [(3, .int v4), (0, .ref (ad 0)), (1, .int x1), (2, .int x2)]) hx hb dX7_tell_36 rfl hl (by decide) rfl (fun ls hl => ?_)
      refine lv_aload_n hx hb dX7_tell_37 rfl (lv_at hl 1 rfl) ?_
      refine va_get (D := D) (ci := 7) (v := .ref (ad 1)) (C := RX7) (T := TX7) (N := 11) hx hb htb wu_7 hown hK.1 hP 0 w_0 rfl 0 (by decide) (htb _ wFL_RX7_10) (fun _ h9 => h9) rfl dX7_tell_38 ?_
      refine lv_iload_n hx hb dX7_tell_41 rfl (lv_at hl 2 rfl) ?_
      refine lv_iload_n hx hb dX7_tell_42 rfl (lv_at hl 3 rfl) ?_
      obtain ⟨v5, g5, h⟩ := ob h
      refine c_Vv (q := (RX0, TX0, 6)) (ci := 0) (b := 1) (As := [.int x1, .int x2]) (rest := []) (A := AA ad) ⟨hx, hb, hml, hown, htb⟩ (c_X0_putTold l D ad cI hd σ τ η x1 x2 v5 g5) (cwV 2 htb (gdV (fun _ hh => hh) wML_RX7_119 wIM_yX0_putTold wSE_yX0_putTold wI_RX0 wC_yX0_putTold) rfl rfl rfl hd_X0_putTold ⟨by decide, by decide⟩) hK hP rfl w_1 (fun _ hh => hh) hS rfl hl.1 rfl (Nat.le_of_ble_eq_true rfl) dX7_tell_43 ⟨Nat.le_refl 0, Nat.le_refl 0⟩ (fun H locs hP hS => ?_)
      refine lv_aload_n hx hb dX7_tell_46 rfl (lv_at hl 1 rfl) ?_
      obtain ⟨v6, g6, h⟩ := ob h
      refine c_Vv (q := (RX7, TX7, 11)) (ci := 7) (b := 0) (As := []) (rest := []) (A := AA ad) ⟨hx, hb, hml, hown, htb⟩ (c_X7_followWord l D ad cI hd v5 τ η  v6 g6) (cwV 0 htb (gdV (fun _ hh => hh) wML_RX7_116 wIM_yX7_followWord wSE_yX7_followWord wI_RX7 wC_yX7_followWord) rfl rfl rfl hd_X7_followWord ⟨by decide, by decide⟩) hK hP rfl w_0 (fun _ hh => hh) hS rfl hl.1 rfl (Nat.le_of_ble_eq_true rfl) dX7_tell_47 ⟨Nat.le_refl 0, Nat.le_refl 0⟩ (fun H locs hP hS => ?_)
      refine lv_iload_n hx hb dX7_tell_50 rfl (lv_at hl 0 rfl) ?_
      obtain rfl := Option.some.inj h
      exact ret _ _ _ _ _ dX7_tell_51 hP hS rfl
    · replace h := iq c3 h
      refine lv_iload_n hx hb dX7_tell_18 rfl (lv_at hl 2 rfl) ?_
      obtain ⟨v7, g7, h⟩ := ol h
      refine c_Sz (As := [.int x2]) (rest := []) (A := AA ad) ⟨hx, hb, hml, hown, htb⟩ (c_X7_isDay l D ad cI hd σ τ η x2 v7 g7) (va_cwS 1 htb (gdS (fun _ hh => hh) wML_RX7_103 wST_yX7_isDay wI_RX7 wC_yX7_isDay) rfl rfl rfl hd_X7_isDay.2 ⟨by decide, by decide⟩) hK hP (fun _ hh => hh) hS rfl hl.1 rfl (Nat.le_of_ble_eq_true rfl) dX7_tell_19 ⟨Nat.le_refl 0, Nat.le_refl 0⟩ (fun H locs hz7 hP hS => ?_)
      refine lv_if_ne (tgt := 28) hx hb dX7_tell_22 (by decide) (fun c8 => ?_) (fun c8 => ?_)
      · replace h := iq c8 h
        refine lv_aload_n hx hb dX7_tell_28 rfl (lv_at hl 0 rfl) ?_
        refine va_get (D := D) (ci := 7) (v := .ref (ad 1)) (C := RX7) (T := TX7) (N := 11) hx hb htb wu_7 hown hK.1 hP 0 w_0 rfl 0 (by decide) (htb _ wFL_RX7_10) (fun _ h9 => h9) rfl dX7_tell_29 ?_
        refine lv_iload_n hx hb dX7_tell_32 rfl (lv_at hl 1 rfl) ?_
        obtain ⟨v9, g9, h⟩ := ob h
        refine c_Vi (q := (RX0, TX0, 6)) (ci := 0) (b := 1) (As := [.int x1]) (rest := []) (A := AA ad) ⟨hx, hb, hml, hown, htb⟩ (c_X0_toldOf l D ad cI hd σ τ η x1 v9 g9) (cwV 1 htb (gdV (fun _ hh => hh) wML_RX7_94 wIM_yX0_toldOf wSE_yX0_toldOf wI_RX0 wC_yX0_toldOf) rfl rfl rfl hd_X0_toldOf ⟨by decide, by decide⟩) hK hP rfl w_1 (fun _ hh => hh) hS rfl hl.1 rfl (Nat.le_of_ble_eq_true rfl) dX7_tell_33 ⟨Nat.le_refl 0, Nat.le_refl 0⟩ (fun H locs hP hS => ?_)
        refine lv_istore_n (lv' := [(3, .int v9), (0, .ref (ad 0)), (1, .int x1), (2, .int x2)]) hx hb dX7_tell_36 rfl hl (by decide) rfl (fun ls hl => ?_)
        refine lv_aload_n hx hb dX7_tell_37 rfl (lv_at hl 1 rfl) ?_
        refine va_get (D := D) (ci := 7) (v := .ref (ad 1)) (C := RX7) (T := TX7) (N := 11) hx hb htb wu_7 hown hK.1 hP 0 w_0 rfl 0 (by decide) (htb _ wFL_RX7_10) (fun _ h9 => h9) rfl dX7_tell_38 ?_
        refine lv_iload_n hx hb dX7_tell_41 rfl (lv_at hl 2 rfl) ?_
        refine lv_iload_n hx hb dX7_tell_42 rfl (lv_at hl 3 rfl) ?_
        obtain ⟨v10, g10, h⟩ := ob h
        refine c_Vv (q := (RX0, TX0, 6)) (ci := 0) (b := 1) (As := [.int x1, .int x2]) (rest := []) (A := AA ad) ⟨hx, hb, hml, hown, htb⟩ (c_X0_putTold l D ad cI hd σ τ η x1 x2 v10 g10) (cwV 2 htb (gdV (fun _ hh => hh) wML_RX7_119 wIM_yX0_putTold wSE_yX0_putTold wI_RX0 wC_yX0_putTold) rfl rfl rfl hd_X0_putTold ⟨by decide, by decide⟩) hK hP rfl w_1 (fun _ hh => hh) hS rfl hl.1 rfl (Nat.le_of_ble_eq_true rfl) dX7_tell_43 ⟨Nat.le_refl 0, Nat.le_refl 0⟩ (fun H locs hP hS => ?_)
        refine lv_aload_n hx hb dX7_tell_46 rfl (lv_at hl 1 rfl) ?_
        obtain ⟨v11, g11, h⟩ := ob h
        refine c_Vv (q := (RX7, TX7, 11)) (ci := 7) (b := 0) (As := []) (rest := []) (A := AA ad) ⟨hx, hb, hml, hown, htb⟩ (c_X7_followWord l D ad cI hd v10 τ η  v11 g11) (cwV 0 htb (gdV (fun _ hh => hh) wML_RX7_116 wIM_yX7_followWord wSE_yX7_followWord wI_RX7 wC_yX7_followWord) rfl rfl rfl hd_X7_followWord ⟨by decide, by decide⟩) hK hP rfl w_0 (fun _ hh => hh) hS rfl hl.1 rfl (Nat.le_of_ble_eq_true rfl) dX7_tell_47 ⟨Nat.le_refl 0, Nat.le_refl 0⟩ (fun H locs hP hS => ?_)
        refine lv_iload_n hx hb dX7_tell_50 rfl (lv_at hl 0 rfl) ?_
        obtain rfl := Option.some.inj h
        exact ret _ _ _ _ _ dX7_tell_51 hP hS rfl
      · replace h := ip c8 h
        refine lv_bipush (v := (-102 : Int32)) hx hb dX7_tell_25 (by decide) ?_
        obtain rfl := Option.some.inj h
        exact ret _ _ _ _ _ dX7_tell_27 hP hS rfl
  · replace h := ip c2 h
    refine lv_bipush (v := (-101 : Int32)) hx hb dX7_tell_11 (by decide) ?_
    obtain rfl := Option.some.inj h
    exact ret _ _ _ _ _ dX7_tell_13 hP hS rfl
def X8_tell (τ : St) (x1 : Int32) (x2 : Int32) : Option (Int32 × St) :=
  lt (X8_isGuest τ x1) fun v1 =>
  if v1 = 0 then (
    some ((-101 : Int32), τ))
  else (
    lt (X8_in  ((x2).toInt64) (0 : Int64) (8 : Int64)) fun v3 =>
    if v3 = 0 then (
      some ((-102 : Int32), τ))
    else (
      bd (rd (τ 32) 9 x1) fun v5 =>
      bd (wa τ 32 9 x1 x2) fun τ6 =>
      some (v5, τ6)))
abbrev rmX8_tell : Room := { frames := 2, cells := 0, slots := 0, locals := 46 }
set_option maxHeartbeats 4000000 in
set_option maxRecDepth 100000 in
theorem c_X8_tell (l : Launch) (D : va_G) (ad : Nat → Nat) (cI : ClassId) (hd : HD ad) (σ τ : St) (η : Int64) (x1 : Int32) (x2 : Int32) (rr : Int32 × St) (h : X8_tell τ x1 x2 = some rr) : MI l yX8_tell (wy yX8_tell cX8_tell 4 (some .int)) rmX8_tell D ad cI [.ref (ad 29), .int x1, .int x2] σ τ η rr.1 σ rr.2 η := by
  refine mk_i (own := RX8) (lv := [(0, .ref (ad 29)), (1, .int x1), (2, .int x2)]) (plainFor_of_name (by decide)) rfl (Nat.le_of_ble_eq_true rfl) rfl ?_
  intro p e s m args below meth c Q ls hx hb hml hown htb hK ret hP hS hl
  unfold X8_tell at h
  refine lv_aload_n hx hb dX8_tell_0 rfl (lv_at hl 0 rfl) ?_
  refine lv_iload_n hx hb dX8_tell_1 rfl (lv_at hl 1 rfl) ?_
  obtain ⟨v1, g1, h⟩ := ol h
  refine c_Vz (q := (RX8, TX8, 27)) (ci := 8) (b := 29) (As := [.int x1]) (rest := []) (A := AA ad) ⟨hx, hb, hml, hown, htb⟩ (c_X8_isGuest l D ad cI hd σ τ η x1 v1 g1) (cwV 1 htb (gdV (fun _ hh => hh) wML_RX8_88 wIM_yX8_isGuest wSE_yX8_isGuest wI_RX8 wC_yX8_isGuest) rfl rfl rfl hd_X8_isGuest ⟨by decide, by decide⟩) hK hP rfl w_29 (fun _ hh => hh) hS rfl hl.1 rfl (Nat.le_of_ble_eq_true rfl) dX8_tell_2 ⟨Nat.le_refl 0, Nat.le_refl 0⟩ (fun H locs hz1 hP hS => ?_)
  refine lv_if_ne (tgt := 11) hx hb dX8_tell_5 (by decide) (fun c2 => ?_) (fun c2 => ?_)
  · replace h := iq c2 h
    refine lv_iload_n hx hb dX8_tell_11 rfl (lv_at hl 2 rfl) ?_
    refine lv_i2l (v := ((x2).toInt64)) hx hb dX8_tell_12 rfl ?_
    refine lv_lconst (v := (0 : Int64)) hx hb dX8_tell_13 rfl ?_
    refine lv_ldc2 (v := (8 : Int64)) hx hb hown (htb _ wKL_RX8_75) dX8_tell_14 ?_
    obtain ⟨v3, g3, h⟩ := ol h
    refine c_Sz (As := [.long ((x2).toInt64), .long (0 : Int64), .long (8 : Int64)]) (rest := []) (A := AA ad) ⟨hx, hb, hml, hown, htb⟩ (c_X8_in l D ad cI hd σ τ η ((x2).toInt64) (0 : Int64) (8 : Int64) v3 g3) (va_cwS 3 htb (gdS (fun _ hh => hh) wML_RX8_65 wST_yX8_in wI_RX8 wC_yX8_in) rfl rfl rfl hd_X8_in.2 ⟨by decide, by decide⟩) hK hP (fun _ hh => hh) hS rfl hl.1 rfl (Nat.le_of_ble_eq_true rfl) dX8_tell_17 ⟨Nat.le_refl 0, Nat.le_refl 0⟩ (fun H locs hz3 hP hS => ?_)
    refine lv_if_ne (tgt := 26) hx hb dX8_tell_20 (by decide) (fun c4 => ?_) (fun c4 => ?_)
    · replace h := iq c4 h
      refine lv_aload_n hx hb dX8_tell_26 rfl (lv_at hl 0 rfl) ?_
      refine va_get (D := D) (ci := 8) (v := .ref (ad 32)) (C := RX8) (T := TX8) (N := 27) hx hb htb wu_8 hown hK.1 hP 29 w_29 rfl 3 (by decide) (htb _ wFL_RX8_16) (fun _ h9 => h9) rfl dX8_tell_27 ?_
      refine lv_iload_n hx hb dX8_tell_30 rfl (lv_at hl 1 rfl) ?_
      obtain ⟨v5, g5, h⟩ := ob h
      refine r_ald hx hb hK hP 32 w_32 g5 dX8_tell_31 ?_
      refine lv_istore_n (lv' := [(3, .int v5), (0, .ref (ad 29)), (1, .int x1), (2, .int x2)]) hx hb dX8_tell_32 rfl hl (by decide) rfl (fun ls hl => ?_)
      refine lv_aload_n hx hb dX8_tell_33 rfl (lv_at hl 1 rfl) ?_
      refine va_get (D := D) (ci := 8) (v := .ref (ad 32)) (C := RX8) (T := TX8) (N := 27) hx hb htb wu_8 hown hK.1 hP 29 w_29 rfl 3 (by decide) (htb _ wFL_RX8_16) (fun _ h9 => h9) rfl dX8_tell_34 ?_
      refine lv_iload_n hx hb dX8_tell_37 rfl (lv_at hl 2 rfl) ?_
      refine lv_iload_n hx hb dX8_tell_38 rfl (lv_at hl 3 rfl) ?_
      obtain ⟨τ6, g6, h⟩ := ob h
      refine r_astM (A := AA ad) hx hb hK hd (fun _ hh => hh) hP hS 32 9 (by decide) (fun _ => rfl) g6 dX8_tell_39 (fun H locs hP hS => ?_)
      refine lv_iload_n hx hb dX8_tell_40 rfl (lv_at hl 0 rfl) ?_
      obtain rfl := Option.some.inj h
      exact ret _ _ _ _ _ dX8_tell_41 hP hS rfl
    · replace h := ip c4 h
      refine lv_bipush (v := (-102 : Int32)) hx hb dX8_tell_23 (by decide) ?_
      obtain rfl := Option.some.inj h
      exact ret _ _ _ _ _ dX8_tell_25 hP hS rfl
  · replace h := ip c2 h
    refine lv_bipush (v := (-101 : Int32)) hx hb dX8_tell_8 (by decide) ?_
    obtain rfl := Option.some.inj h
    exact ret _ _ _ _ _ dX8_tell_10 hP hS rfl
def X3_codeIn  (x0 : Int64) (x2 : Int32) : Int32 :=
  ((((lushr x0 ((8 : Int32) * x2)) &&& (255 : Int64))).toInt32)
abbrev rmX3_codeIn : Room := { frames := 0, cells := 0, slots := 0, locals := 0 }
set_option maxHeartbeats 4000000 in
set_option maxRecDepth 100000 in
theorem c_X3_codeIn (l : Launch) (D : va_G) (ad : Nat → Nat) (cI : ClassId) (hd : HD ad) (σ τ : St) (η : Int64) (x0 : Int64) (x2 : Int32) (rr : Int32) (h : X3_codeIn  x0 x2 = rr) : MI l yX3_codeIn (wy yX3_codeIn cX3_codeIn 3 (some .int)) rmX3_codeIn D ad cI [.long x0, .int x2] σ τ η rr σ τ η := by
  refine mk_i (own := RX3) (lv := [(0, .long x0), (2, .int x2)]) (plainFor_of_name (by decide)) rfl (Nat.le_of_ble_eq_true rfl) rfl ?_
  intro p e s m args below meth c Q ls hx hb hml hown htb hK ret hP hS hl
  unfold X3_codeIn at h
  refine lv_lload_n hx hb dX3_codeIn_0 rfl (lv_at hl 0 rfl) ?_
  refine lv_bipush (v := (8 : Int32)) hx hb dX3_codeIn_1 (by decide) ?_
  refine lv_iload_n hx hb dX3_codeIn_3 rfl (lv_at hl 1 rfl) ?_
  refine lv_imul hx hb dX3_codeIn_4 ?_
  refine lv_lushr (v := (lushr x0 ((8 : Int32) * x2))) hx hb dX3_codeIn_5 rfl ?_
  refine lv_ldc2 (v := (255 : Int64)) hx hb hown (htb _ wKL_RX3_25) dX3_codeIn_6 ?_
  refine lv_land hx hb dX3_codeIn_9 ?_
  refine lv_l2i (v := ((((lushr x0 ((8 : Int32) * x2)) &&& (255 : Int64))).toInt32)) hx hb dX3_codeIn_10 rfl ?_
  subst h
  exact ret _ _ _ _ _ dX3_codeIn_11 hP hS rfl
def X3_lettersIn_L1 (n : Nat) (u1_0 : Int64) (y1_2 : Int32) (y1_3 : Int32) (y1_4 : Int32) : Option ((Int32) ⊕ (Int32 × Int32 × Int32)) := match n with
  | 0 => none
  | n + 1 =>
    if (8 : Int32) ≤ y1_4 then (
      some (Sum.inr (y1_2, y1_3, y1_4)))
    else (
      lt (X3_codeIn  u1_0 y1_4) fun v3 =>
      if (126 : Int32) < v3 then (
        some (Sum.inl (-1 : Int32)))
      else (
        if y1_3 = 0 then (
          lt ((
              if v3 = 0 then (
                (y1_2, (1 : Int32)))
              else (
                ((y1_2 + (1 : Int32)), y1_3))) : Int32 × Int32) fun v7 =>
          X3_lettersIn_L1 n u1_0 v7.1 v7.2 (y1_4 + (1 : Int32)))
        else (
          if v3 = 0 then (
            lt ((
                if v3 = 0 then (
                  (y1_2, (1 : Int32)))
                else (
                  ((y1_2 + (1 : Int32)), y1_3))) : Int32 × Int32) fun v10 =>
            X3_lettersIn_L1 n u1_0 v10.1 v10.2 (y1_4 + (1 : Int32)))
          else (
            some (Sum.inl (-1 : Int32))))))
theorem X3_lettersIn_L1_s (n : Nat) (u1_0 : Int64) (y1_2 : Int32) (y1_3 : Int32) (y1_4 : Int32) : X3_lettersIn_L1 (n + 1) u1_0 y1_2 y1_3 y1_4 =
    if (8 : Int32) ≤ y1_4 then (
      some (Sum.inr (y1_2, y1_3, y1_4)))
    else (
      lt (X3_codeIn  u1_0 y1_4) fun v3 =>
      if (126 : Int32) < v3 then (
        some (Sum.inl (-1 : Int32)))
      else (
        if y1_3 = 0 then (
          lt ((
              if v3 = 0 then (
                (y1_2, (1 : Int32)))
              else (
                ((y1_2 + (1 : Int32)), y1_3))) : Int32 × Int32) fun v7 =>
          X3_lettersIn_L1 n u1_0 v7.1 v7.2 (y1_4 + (1 : Int32)))
        else (
          if v3 = 0 then (
            lt ((
                if v3 = 0 then (
                  (y1_2, (1 : Int32)))
                else (
                  ((y1_2 + (1 : Int32)), y1_3))) : Int32 × Int32) fun v10 =>
            X3_lettersIn_L1 n u1_0 v10.1 v10.2 (y1_4 + (1 : Int32)))
          else (
            some (Sum.inl (-1 : Int32)))))) := rfl
def X3_lettersIn  (x0 : Int64) : Option (Int32) :=
  bd (X3_lettersIn_L1 10000 x0 (0 : Int32) (0 : Int32) (0 : Int32)) fun v1 => Sum.elim (fun q => some q) (fun w11 =>
    some w11.1) v1
abbrev rmX3_lettersIn : Room := { frames := 1, cells := 0, slots := 0, locals := 22 }
set_option maxHeartbeats 4000000 in
set_option maxRecDepth 100000 in
theorem c_X3_lettersIn (l : Launch) (D : va_G) (ad : Nat → Nat) (cI : ClassId) (hd : HD ad) (σ τ : St) (η : Int64) (x0 : Int64) (rr : Int32) (h : X3_lettersIn  x0 = some rr) : MI l yX3_lettersIn (wy yX3_lettersIn cX3_lettersIn 6 (some .int)) rmX3_lettersIn D ad cI [.long x0] σ τ η rr σ τ η := by
  refine mk_i (own := RX3) (lv := [(0, .long x0)]) (plainFor_of_name (by decide)) rfl (Nat.le_of_ble_eq_true rfl) rfl ?_
  intro p e s m args below meth c Q ls hx hb hml hown htb hK ret hP hS hl
  unfold X3_lettersIn at h
  refine lv_iconst (v := (0 : Int32)) hx hb dX3_lettersIn_0 (by decide) ?_
  refine lv_istore_n (lv' := [(2, .int (0 : Int32)), (0, .long x0)]) hx hb dX3_lettersIn_1 rfl hl (by decide) rfl (fun ls hl => ?_)
  refine lv_iconst (v := (0 : Int32)) hx hb dX3_lettersIn_2 (by decide) ?_
  refine lv_istore_n (lv' := [(3, .int (0 : Int32)), (2, .int (0 : Int32)), (0, .long x0)]) hx hb dX3_lettersIn_3 rfl hl (by decide) rfl (fun ls hl => ?_)
  refine lv_iconst (v := (0 : Int32)) hx hb dX3_lettersIn_4 (by decide) ?_
  refine lv_istore (lv' := [(4, .int (0 : Int32)), (3, .int (0 : Int32)), (2, .int (0 : Int32)), (0, .long x0)]) hx hb dX3_lettersIn_5 hl (by decide) rfl (fun ls hl => ?_)
  obtain ⟨v1, hj1, h⟩ := ob h
  have KR1 : ∀ q, v1 = Sum.inl q → rr = q := fun q e8 => by
    rw [e8] at h
    exact (Option.some.inj h).symm
  have K1 : ∀ w11, v1 = Sum.inr w11 → ∀ (H : Heap) (locs : List Loc) (ls : Array Slot), WP D ad cI σ τ η H → va_S (AA ad) s.heap H locs → lv_has ls 6 [(2, .int w11.1)] → W p l e rmX3_lettersIn s m args below meth c H locs 0 0 Q (F0 m 59 ls []) := by
    intro w11 e8 H locs ls hP hS hl
    rw [e8] at h
    replace h : (    some w11.1) = some rr := h
    refine lv_iload_n hx hb dX3_lettersIn_59 rfl (lv_at hl 0 rfl) ?_
    obtain rfl := Option.some.inj h
    exact ret _ _ _ _ _ dX3_lettersIn_60 hP hS rfl
  have L1 : ∀ (n : Nat) (y1_2 : Int32) (y1_3 : Int32) (y1_4 : Int32) (H : Heap) (locs : List Loc) (ls : Array Slot), X3_lettersIn_L1 n x0 y1_2 y1_3 y1_4 = some v1 → WP D ad cI σ τ η H → va_S (AA ad) s.heap H locs → lv_has ls 6 [(0, .long x0), (2, .int y1_2), (3, .int y1_3), (4, .int y1_4)] → W p l e rmX3_lettersIn s m args below meth c H locs 0 0 Q (F0 m 7 ls []) := by
    intro n
    induction n with
    | zero => intro y1_2 y1_3 y1_4 H locs ls h; exact absurd h (by simp [X3_lettersIn_L1])
    | succ n ih =>
      intro y1_2 y1_3 y1_4 H locs ls h hP hS hl
      replace h := (X3_lettersIn_L1_s n x0 y1_2 y1_3 y1_4).symm.trans h
      refine lv_iload hx hb dX3_lettersIn_7 (lv_at hl 3 rfl) ?_
      refine lv_bipush (v := (8 : Int32)) hx hb dX3_lettersIn_9 (by decide) ?_
      refine lv_icmp_ge (tgt := 59) hx hb dX3_lettersIn_11 (by decide) (fun c2 => ?_) (fun c2 => ?_)
      · replace h := ip c2 h
        exact K1 _ (Option.some.inj h).symm _ _ _ hP hS (lv_sub hl [1] rfl)
      · replace h := iq c2 h
        refine lv_lload_n hx hb dX3_lettersIn_14 rfl (lv_at hl 0 rfl) ?_
        refine lv_iload hx hb dX3_lettersIn_15 (lv_at hl 3 rfl) ?_
        obtain ⟨v3, g3, h⟩ := ol h
        refine c_Si (As := [.long x0, .int y1_4]) (rest := []) (A := AA ad) ⟨hx, hb, hml, hown, htb⟩ (c_X3_codeIn l D ad cI hd σ τ η x0 y1_4 v3 g3) (va_cwS 2 htb (gdS (fun _ hh => hh) wML_RX3_21 wST_yX3_codeIn wI_RX3 wC_yX3_codeIn) rfl rfl rfl hd_X3_codeIn.2 ⟨by decide, by decide⟩) hK hP (fun _ hh => hh) hS rfl hl.1 rfl (Nat.le_of_ble_eq_true rfl) dX3_lettersIn_17 ⟨Nat.le_refl 0, Nat.le_refl 0⟩ (fun H locs hP hS => ?_)
        refine lv_istore (lv' := [(5, .int v3), (0, .long x0), (2, .int y1_2), (3, .int y1_3), (4, .int y1_4)]) hx hb dX3_lettersIn_20 hl (by decide) rfl (fun ls hl => ?_)
        refine lv_iload hx hb dX3_lettersIn_22 (lv_at hl 0 rfl) ?_
        refine lv_bipush (v := (126 : Int32)) hx hb dX3_lettersIn_24 (by decide) ?_
        refine lv_icmp_gt (tgt := 38) hx hb dX3_lettersIn_26 (by decide) (fun c4 => ?_) (fun c4 => ?_)
        · replace h := ip c4 h
          refine lv_iconst (v := (-1 : Int32)) hx hb dX3_lettersIn_38 (by decide) ?_
          have e9 := KR1 _ (Option.some.inj h).symm
          subst e9
          exact ret _ _ _ _ _ dX3_lettersIn_39 hP hS rfl
        · replace h := iq c4 h
          refine lv_iload_n hx hb dX3_lettersIn_29 rfl (lv_at hl 3 rfl) ?_
          refine lv_if_eq (tgt := 40) hx hb dX3_lettersIn_30 (by decide) (fun c5 => ?_) (fun c5 => ?_)
          · replace h := ip c5 h
            refine lv_iload hx hb dX3_lettersIn_40 (lv_at hl 0 rfl) ?_
            obtain ⟨v7, hj7, h⟩ := ol h
            have J7 : ∀ (H : Heap) (locs : List Loc) (ls : Array Slot), WP D ad cI σ τ η H → va_S (AA ad) s.heap H locs → lv_has ls 6 [(0, .long x0), (2, .int v7.1), (3, .int v7.2), (4, .int y1_4)] → W p l e rmX3_lettersIn s m args below meth c H locs 0 0 Q (F0 m 53 ls []) := by
              intro H locs ls hP hS hl
              refine lv_iinc (v := (y1_4 + (1 : Int32))) (lv' := [(4, .int (y1_4 + (1 : Int32))), (0, .long x0), (2, .int v7.1), (3, .int v7.2)]) hx hb dX3_lettersIn_53 hl (k := 3) rfl rfl (by decide) rfl (fun ls hl => ?_)
              refine lv_goto (tgt := 7) hx hb dX3_lettersIn_56 (by decide) ?_
              exact ih v7.1 v7.2 (y1_4 + (1 : Int32)) _ _ _ h hP hS (lv_sub hl [1, 2, 3, 0] rfl)
            replace h := hj7
            refine lv_if_ne (tgt := 50) hx hb dX3_lettersIn_42 (by decide) (fun c6 => ?_) (fun c6 => ?_)
            · replace h := iq c6 h
              refine lv_iinc (v := (y1_2 + (1 : Int32))) (lv' := [(2, .int (y1_2 + (1 : Int32))), (5, .int v3), (0, .long x0), (3, .int y1_3), (4, .int y1_4)]) hx hb dX3_lettersIn_50 hl (k := 2) rfl rfl (by decide) rfl (fun ls hl => ?_)
              subst h
              exact J7 _ _ _ hP hS (lv_sub hl [2, 0, 3, 4] rfl)
            · replace h := ip c6 h
              refine lv_iconst (v := (1 : Int32)) hx hb dX3_lettersIn_45 (by decide) ?_
              refine lv_istore_n (lv' := [(3, .int (1 : Int32)), (5, .int v3), (0, .long x0), (2, .int y1_2), (4, .int y1_4)]) hx hb dX3_lettersIn_46 rfl hl (by decide) rfl (fun ls hl => ?_)
              refine lv_goto (tgt := 53) hx hb dX3_lettersIn_47 (by decide) ?_
              subst h
              exact J7 _ _ _ hP hS (lv_sub hl [2, 3, 0, 4] rfl)
          · replace h := iq c5 h
            refine lv_iload hx hb dX3_lettersIn_33 (lv_at hl 0 rfl) ?_
            refine lv_if_eq (tgt := 40) hx hb dX3_lettersIn_35 (by decide) (fun c8 => ?_) (fun c8 => ?_)
            · replace h := ip c8 h
              refine lv_iload hx hb dX3_lettersIn_40 (lv_at hl 0 rfl) ?_
              obtain ⟨v10, hj10, h⟩ := ol h
              have J10 : ∀ (H : Heap) (locs : List Loc) (ls : Array Slot), WP D ad cI σ τ η H → va_S (AA ad) s.heap H locs → lv_has ls 6 [(0, .long x0), (2, .int v10.1), (3, .int v10.2), (4, .int y1_4)] → W p l e rmX3_lettersIn s m args below meth c H locs 0 0 Q (F0 m 53 ls []) := by
                intro H locs ls hP hS hl
                refine lv_iinc (v := (y1_4 + (1 : Int32))) (lv' := [(4, .int (y1_4 + (1 : Int32))), (0, .long x0), (2, .int v10.1), (3, .int v10.2)]) hx hb dX3_lettersIn_53 hl (k := 3) rfl rfl (by decide) rfl (fun ls hl => ?_)
                refine lv_goto (tgt := 7) hx hb dX3_lettersIn_56 (by decide) ?_
                exact ih v10.1 v10.2 (y1_4 + (1 : Int32)) _ _ _ h hP hS (lv_sub hl [1, 2, 3, 0] rfl)
              replace h := hj10
              refine lv_if_ne (tgt := 50) hx hb dX3_lettersIn_42 (by decide) (fun c9 => ?_) (fun c9 => ?_)
              · replace h := iq c9 h
                refine lv_iinc (v := (y1_2 + (1 : Int32))) (lv' := [(2, .int (y1_2 + (1 : Int32))), (5, .int v3), (0, .long x0), (3, .int y1_3), (4, .int y1_4)]) hx hb dX3_lettersIn_50 hl (k := 2) rfl rfl (by decide) rfl (fun ls hl => ?_)
                subst h
                exact J10 _ _ _ hP hS (lv_sub hl [2, 0, 3, 4] rfl)
              · replace h := ip c9 h
                refine lv_iconst (v := (1 : Int32)) hx hb dX3_lettersIn_45 (by decide) ?_
                refine lv_istore_n (lv' := [(3, .int (1 : Int32)), (5, .int v3), (0, .long x0), (2, .int y1_2), (4, .int y1_4)]) hx hb dX3_lettersIn_46 rfl hl (by decide) rfl (fun ls hl => ?_)
                refine lv_goto (tgt := 53) hx hb dX3_lettersIn_47 (by decide) ?_
                subst h
                exact J10 _ _ _ hP hS (lv_sub hl [2, 3, 0, 4] rfl)
            · replace h := iq c8 h
              refine lv_iconst (v := (-1 : Int32)) hx hb dX3_lettersIn_38 (by decide) ?_
              have e9 := KR1 _ (Option.some.inj h).symm
              subst e9
              exact ret _ _ _ _ _ dX3_lettersIn_39 hP hS rfl
  exact L1 10000 (0 : Int32) (0 : Int32) (0 : Int32) _ _ _ hj1 hP hS (lv_sub hl [3, 2, 1, 0] rfl)
def X3_size (σ : St)  : Int32 :=
  (σ 8 1)
abbrev rmX3_size : Room := { frames := 0, cells := 0, slots := 0, locals := 0 }
set_option maxHeartbeats 4000000 in
set_option maxRecDepth 100000 in
theorem c_X3_size (l : Launch) (D : va_G) (ad : Nat → Nat) (cI : ClassId) (hd : HD ad) (σ τ : St) (η : Int64)  (rr : Int32) (h : X3_size σ  = rr) : MI l yX3_size (wy yX3_size cX3_size 1 (some .int)) rmX3_size D ad cI [.ref (ad 8)] σ τ η rr σ τ η := by
  refine mk_i (own := RX3) (lv := [(0, .ref (ad 8))]) (plainFor_of_name (by decide)) rfl (Nat.le_of_ble_eq_true rfl) rfl ?_
  intro p e s m args below meth c Q ls hx hb hml hown htb hK ret hP hS hl
  unfold X3_size at h
  refine lv_aload_n hx hb dX3_size_0 rfl (lv_at hl 0 rfl) ?_
  refine va_get (D := D) (ci := 3) (v := .int (σ 8 1)) (C := RX3) (T := TX3) (N := 2) hx hb htb wu_3 hown hK.1 hP 8 w_8 rfl 1 (by decide) (htb _ wFL_RX3_17) (fun _ h9 => h9) rfl dX3_size_1 ?_
  subst h
  exact ret _ _ _ _ _ dX3_size_4 hP hS rfl
def X3_append_L1 (n : Nat) (σ_1 : St) (u1_1 : Int64) (u1_3 : Int32) (y1_4 : Int32) : Option (Int32 × St) := match n with
  | 0 => none
  | n + 1 =>
    if u1_3 ≤ y1_4 then (
      some (y1_4, σ_1))
    else (
      if (60 : Int32) ≤ (σ_1 8 1) then (
        some (y1_4, σ_1))
      else (
        lt (X3_codeIn  u1_1 y1_4) fun v4 =>
        bd (wa σ_1 9 60 (σ_1 8 1) v4) fun σ5 =>
        lt (s2 σ5 8 1 ((σ5 8 1) + (1 : Int32))) fun σ6 =>
        X3_append_L1 n σ6 u1_1 u1_3 (y1_4 + (1 : Int32))))
theorem X3_append_L1_s (n : Nat) (σ_1 : St) (u1_1 : Int64) (u1_3 : Int32) (y1_4 : Int32) : X3_append_L1 (n + 1) σ_1 u1_1 u1_3 y1_4 =
    if u1_3 ≤ y1_4 then (
      some (y1_4, σ_1))
    else (
      if (60 : Int32) ≤ (σ_1 8 1) then (
        some (y1_4, σ_1))
      else (
        lt (X3_codeIn  u1_1 y1_4) fun v4 =>
        bd (wa σ_1 9 60 (σ_1 8 1) v4) fun σ5 =>
        lt (s2 σ5 8 1 ((σ5 8 1) + (1 : Int32))) fun σ6 =>
        X3_append_L1 n σ6 u1_1 u1_3 (y1_4 + (1 : Int32)))) := rfl
def X3_append (σ : St) (x1 : Int64) (x3 : Int32) : Option (St) :=
  bd (X3_append_L1 10000 σ x1 x3 (0 : Int32)) fun v1 =>
  some v1.2
abbrev rmX3_append : Room := { frames := 1, cells := 0, slots := 0, locals := 22 }
set_option maxHeartbeats 4000000 in
set_option maxRecDepth 100000 in
theorem c_X3_append (l : Launch) (D : va_G) (ad : Nat → Nat) (cI : ClassId) (hd : HD ad) (σ τ : St) (η : Int64) (x1 : Int64) (x3 : Int32) (rr : St) (h : X3_append σ x1 x3 = some rr) : MV l yX3_append (wy yX3_append cX3_append 5 none) rmX3_append D ad cI [.ref (ad 8), .long x1, .int x3] σ τ η rr τ η := by
  refine mk_v (own := RX3) (lv := [(0, .ref (ad 8)), (1, .long x1), (3, .int x3)]) (plainFor_of_name (by decide)) rfl (Nat.le_of_ble_eq_true rfl) rfl ?_
  intro p e s m args below meth c Q ls hx hb hml hown htb hK ret hP hS hl
  unfold X3_append at h
  refine lv_iconst (v := (0 : Int32)) hx hb dX3_append_0 (by decide) ?_
  refine lv_istore (lv' := [(4, .int (0 : Int32)), (0, .ref (ad 8)), (1, .long x1), (3, .int x3)]) hx hb dX3_append_1 hl (by decide) rfl (fun ls hl => ?_)
  obtain ⟨v1, hj1, h⟩ := ob h
  have K1 : ∀ (H : Heap) (locs : List Loc) (ls : Array Slot), WP D ad cI v1.2 τ η H → va_S (AA ad) s.heap H locs → lv_has ls 5 [] → W p l e rmX3_append s m args below meth c H locs 0 0 Q (F0 m 49 ls []) := by
    intro H locs ls hP hS hl
    obtain rfl := Option.some.inj h
    exact ret _ _ _ _ dX3_append_49 hP hS
  have L1 : ∀ (n : Nat) (σ_1 : St) (y1_4 : Int32) (H : Heap) (locs : List Loc) (ls : Array Slot), X3_append_L1 n σ_1 x1 x3 y1_4 = some v1 → WP D ad cI σ_1 τ η H → va_S (AA ad) s.heap H locs → lv_has ls 5 [(0, .ref (ad 8)), (1, .long x1), (3, .int x3), (4, .int y1_4)] → W p l e rmX3_append s m args below meth c H locs 0 0 Q (F0 m 3 ls []) := by
    intro n
    induction n with
    | zero => intro σ_1 y1_4 H locs ls h; exact absurd h (by simp [X3_append_L1])
    | succ n ih =>
      intro σ_1 y1_4 H locs ls h hP hS hl
      replace h := (X3_append_L1_s n σ_1 x1 x3 y1_4).symm.trans h
      refine lv_iload hx hb dX3_append_3 (lv_at hl 3 rfl) ?_
      refine lv_iload_n hx hb dX3_append_5 rfl (lv_at hl 2 rfl) ?_
      refine lv_icmp_ge (tgt := 49) hx hb dX3_append_6 (by decide) (fun c2 => ?_) (fun c2 => ?_)
      · replace h := ip c2 h
        obtain rfl := Option.some.inj h
        exact K1 _ _ _ hP hS (lv_sub hl [] rfl)
      · replace h := iq c2 h
        refine lv_aload_n hx hb dX3_append_9 rfl (lv_at hl 0 rfl) ?_
        refine va_get (D := D) (ci := 3) (v := .int (σ_1 8 1)) (C := RX3) (T := TX3) (N := 2) hx hb htb wu_3 hown hK.1 hP 8 w_8 rfl 1 (by decide) (htb _ wFL_RX3_17) (fun _ h9 => h9) rfl dX3_append_10 ?_
        refine lv_bipush (v := (60 : Int32)) hx hb dX3_append_13 (by decide) ?_
        refine lv_icmp_ge (tgt := 49) hx hb dX3_append_15 (by decide) (fun c3 => ?_) (fun c3 => ?_)
        · replace h := ip c3 h
          obtain rfl := Option.some.inj h
          exact K1 _ _ _ hP hS (lv_sub hl [] rfl)
        · replace h := iq c3 h
          refine lv_aload_n hx hb dX3_append_18 rfl (lv_at hl 0 rfl) ?_
          refine va_get (D := D) (ci := 3) (v := .ref (ad 9)) (C := RX3) (T := TX3) (N := 2) hx hb htb wu_3 hown hK.1 hP 8 w_8 rfl 0 (by decide) (htb _ wFL_RX3_13) (fun _ h9 => h9) rfl dX3_append_19 ?_
          refine lv_aload_n hx hb dX3_append_22 rfl (lv_at hl 0 rfl) ?_
          refine va_get (D := D) (ci := 3) (v := .int (σ_1 8 1)) (C := RX3) (T := TX3) (N := 2) hx hb htb wu_3 hown hK.1 hP 8 w_8 rfl 1 (by decide) (htb _ wFL_RX3_17) (fun _ h9 => h9) rfl dX3_append_23 ?_
          refine lv_lload_n hx hb dX3_append_26 rfl (lv_at hl 1 rfl) ?_
          refine lv_iload hx hb dX3_append_27 (lv_at hl 3 rfl) ?_
          obtain ⟨v4, g4, h⟩ := ol h
          refine c_Si (As := [.long x1, .int y1_4]) (rest := [.int (σ_1 8 1), .ref (ad 9)]) (A := AA ad) ⟨hx, hb, hml, hown, htb⟩ (c_X3_codeIn l D ad cI hd σ_1 τ η x1 y1_4 v4 g4) (va_cwS 2 htb (gdS (fun _ hh => hh) wML_RX3_21 wST_yX3_codeIn wI_RX3 wC_yX3_codeIn) rfl rfl rfl hd_X3_codeIn.2 ⟨by decide, by decide⟩) hK hP (fun _ hh => hh) hS rfl hl.1 rfl (Nat.le_of_ble_eq_true rfl) dX3_append_29 ⟨Nat.le_refl 0, Nat.le_refl 0⟩ (fun H locs hP hS => ?_)
          obtain ⟨σ5, g5, h⟩ := ob h
          refine r_astC (A := AA ad) hx hb hK hd (fun _ hh => hh) hP hS 9 60 (by decide) (fun _ => rfl) g5 dX3_append_32 (fun H locs hP hS => ?_)
          refine lv_aload_n hx hb dX3_append_33 rfl (lv_at hl 0 rfl) ?_
          refine lv_dup hx hb dX3_append_34 rfl ?_
          refine va_get (D := D) (ci := 3) (v := .int (σ5 8 1)) (C := RX3) (T := TX3) (N := 2) hx hb htb wu_3 hown hK.1 hP 8 w_8 rfl 1 (by decide) (htb _ wFL_RX3_17) (fun _ h9 => h9) rfl dX3_append_35 ?_
          refine lv_iconst (v := (1 : Int32)) hx hb dX3_append_38 (by decide) ?_
          refine lv_iadd hx hb dX3_append_39 ?_
          obtain ⟨σ6, g6, h⟩ := ol h
          refine r_putC (ci := 3) (C := RX3) (T := TX3) (N := 2) (A := AA ad) hx hb htb wu_3 tyX3 tyX3_ok nmX3 hown hK hd (fun _ hh => hh) hP hS 8 (by decide) 1 rfl rfl rfl (by decide) (htb _ wFL_RX3_17) rfl rfl (by decide +kernel) (Nat.le_of_ble_eq_true rfl) dX3_append_40 (fun H locs hP hS => ?_)
          rw [g6] at hP
          refine lv_iinc (v := (y1_4 + (1 : Int32))) (lv' := [(4, .int (y1_4 + (1 : Int32))), (0, .ref (ad 8)), (1, .long x1), (3, .int x3)]) hx hb dX3_append_43 hl (k := 3) rfl rfl (by decide) rfl (fun ls hl => ?_)
          refine lv_goto (tgt := 3) hx hb dX3_append_46 (by decide) ?_
          exact ih σ6 (y1_4 + (1 : Int32)) _ _ _ h hP hS (lv_sub hl [1, 2, 3, 0] rfl)
  exact L1 10000 σ (0 : Int32) _ _ _ hj1 hP hS (lv_sub hl [1, 2, 3, 0] rfl)
def X7_letters (σ : St) (x1 : Int64) : Option (Int32 × St) :=
  bd (X3_lettersIn  x1) fun v1 =>
  if v1 = (-1 : Int32) then (
    some ((-102 : Int32), σ))
  else (
    lt (X3_size σ ) fun v3 =>
    if (v3 + v1) ≤ (60 : Int32) then (
      bd (X3_append σ x1 v1) fun v5 =>
      lt (X3_size v5 ) fun v6 =>
      some (v6, v5))
    else (
      some ((-104 : Int32), σ)))
abbrev rmX7_letters : Room := { frames := 2, cells := 0, slots := 0, locals := 47 }
set_option maxHeartbeats 4000000 in
set_option maxRecDepth 100000 in
theorem c_X7_letters (l : Launch) (D : va_G) (ad : Nat → Nat) (cI : ClassId) (hd : HD ad) (σ τ : St) (η : Int64) (x1 : Int64) (rr : Int32 × St) (h : X7_letters σ x1 = some rr) : MI l yX7_letters (wy yX7_letters cX7_letters 4 (some .int)) rmX7_letters D ad cI [.ref (ad 0), .long x1] σ τ η rr.1 rr.2 τ η := by
  refine mk_i (own := RX7) (lv := [(0, .ref (ad 0)), (1, .long x1)]) (plainFor_of_name (by decide)) rfl (Nat.le_of_ble_eq_true rfl) rfl ?_
  intro p e s m args below meth c Q ls hx hb hml hown htb hK ret hP hS hl
  unfold X7_letters at h
  refine lv_lload_n hx hb dX7_letters_0 rfl (lv_at hl 1 rfl) ?_
  obtain ⟨v1, g1, h⟩ := ob h
  refine c_Si (As := [.long x1]) (rest := []) (A := AA ad) ⟨hx, hb, hml, hown, htb⟩ (c_X3_lettersIn l D ad cI hd σ τ η x1 v1 g1) (va_cwS 1 htb (gdS (fun _ hh => hh) wML_RX7_123 wST_yX3_lettersIn wI_RX3 wC_yX3_lettersIn) rfl rfl rfl hd_X3_lettersIn.2 ⟨by decide, by decide⟩) hK hP (fun _ hh => hh) hS rfl hl.1 rfl (Nat.le_of_ble_eq_true rfl) dX7_letters_1 ⟨Nat.le_refl 0, Nat.le_refl 0⟩ (fun H locs hP hS => ?_)
  refine lv_istore_n (lv' := [(3, .int v1), (0, .ref (ad 0)), (1, .long x1)]) hx hb dX7_letters_4 rfl hl (by decide) rfl (fun ls hl => ?_)
  refine lv_iload_n hx hb dX7_letters_5 rfl (lv_at hl 0 rfl) ?_
  refine lv_iconst (v := (-1 : Int32)) hx hb dX7_letters_6 (by decide) ?_
  refine lv_icmp_ne (tgt := 13) hx hb dX7_letters_7 (by decide) (fun c2 => ?_) (fun c2 => ?_)
  · replace h := iq c2 h
    refine lv_aload_n hx hb dX7_letters_13 rfl (lv_at hl 1 rfl) ?_
    refine va_get (D := D) (ci := 7) (v := .ref (ad 8)) (C := RX7) (T := TX7) (N := 11) hx hb htb wu_7 hown hK.1 hP 0 w_0 rfl 2 (by decide) (htb _ wFL_RX7_26) (fun _ h9 => h9) rfl dX7_letters_14 ?_
    obtain ⟨v3, g3, h⟩ := ol h
    refine c_Vi (q := (RX3, TX3, 2)) (ci := 3) (b := 8) (As := []) (rest := []) (A := AA ad) ⟨hx, hb, hml, hown, htb⟩ (c_X3_size l D ad cI hd σ τ η  v3 g3) (cwV 0 htb (gdV (fun _ hh => hh) wML_RX7_127 wIM_yX3_size wSE_yX3_size wI_RX3 wC_yX3_size) rfl rfl rfl hd_X3_size ⟨by decide, by decide⟩) hK hP rfl w_8 (fun _ hh => hh) hS rfl hl.1 rfl (Nat.le_of_ble_eq_true rfl) dX7_letters_17 ⟨Nat.le_refl 0, Nat.le_refl 0⟩ (fun H locs hP hS => ?_)
    refine lv_iload_n hx hb dX7_letters_20 rfl (lv_at hl 0 rfl) ?_
    refine lv_iadd hx hb dX7_letters_21 ?_
    refine lv_bipush (v := (60 : Int32)) hx hb dX7_letters_22 (by decide) ?_
    refine lv_icmp_le (tgt := 30) hx hb dX7_letters_24 (by decide) (fun c4 => ?_) (fun c4 => ?_)
    · replace h := ip c4 h
      refine lv_aload_n hx hb dX7_letters_30 rfl (lv_at hl 1 rfl) ?_
      refine va_get (D := D) (ci := 7) (v := .ref (ad 8)) (C := RX7) (T := TX7) (N := 11) hx hb htb wu_7 hown hK.1 hP 0 w_0 rfl 2 (by decide) (htb _ wFL_RX7_26) (fun _ h9 => h9) rfl dX7_letters_31 ?_
      refine lv_lload_n hx hb dX7_letters_34 rfl (lv_at hl 2 rfl) ?_
      refine lv_iload_n hx hb dX7_letters_35 rfl (lv_at hl 0 rfl) ?_
      obtain ⟨v5, g5, h⟩ := ob h
      refine c_Vv (q := (RX3, TX3, 2)) (ci := 3) (b := 8) (As := [.long x1, .int v1]) (rest := []) (A := AA ad) ⟨hx, hb, hml, hown, htb⟩ (c_X3_append l D ad cI hd σ τ η x1 v1 v5 g5) (cwV 2 htb (gdV (fun _ hh => hh) wML_RX7_131 wIM_yX3_append wSE_yX3_append wI_RX3 wC_yX3_append) rfl rfl rfl hd_X3_append ⟨by decide, by decide⟩) hK hP rfl w_8 (fun _ hh => hh) hS rfl hl.1 rfl (Nat.le_of_ble_eq_true rfl) dX7_letters_36 ⟨Nat.le_refl 0, Nat.le_refl 0⟩ (fun H locs hP hS => ?_)
      refine lv_aload_n hx hb dX7_letters_39 rfl (lv_at hl 1 rfl) ?_
      refine va_get (D := D) (ci := 7) (v := .ref (ad 8)) (C := RX7) (T := TX7) (N := 11) hx hb htb wu_7 hown hK.1 hP 0 w_0 rfl 2 (by decide) (htb _ wFL_RX7_26) (fun _ h9 => h9) rfl dX7_letters_40 ?_
      obtain ⟨v6, g6, h⟩ := ol h
      refine c_Vi (q := (RX3, TX3, 2)) (ci := 3) (b := 8) (As := []) (rest := []) (A := AA ad) ⟨hx, hb, hml, hown, htb⟩ (c_X3_size l D ad cI hd v5 τ η  v6 g6) (cwV 0 htb (gdV (fun _ hh => hh) wML_RX7_127 wIM_yX3_size wSE_yX3_size wI_RX3 wC_yX3_size) rfl rfl rfl hd_X3_size ⟨by decide, by decide⟩) hK hP rfl w_8 (fun _ hh => hh) hS rfl hl.1 rfl (Nat.le_of_ble_eq_true rfl) dX7_letters_43 ⟨Nat.le_refl 0, Nat.le_refl 0⟩ (fun H locs hP hS => ?_)
      obtain rfl := Option.some.inj h
      exact ret _ _ _ _ _ dX7_letters_46 hP hS rfl
    · replace h := iq c4 h
      refine lv_bipush (v := (-104 : Int32)) hx hb dX7_letters_27 (by decide) ?_
      obtain rfl := Option.some.inj h
      exact ret _ _ _ _ _ dX7_letters_29 hP hS rfl
  · replace h := ip c2 h
    refine lv_bipush (v := (-102 : Int32)) hx hb dX7_letters_10 (by decide) ?_
    obtain rfl := Option.some.inj h
    exact ret _ _ _ _ _ dX7_letters_12 hP hS rfl
def X8_letters_L1 (n : Nat) (u1_1 : Int64) (y1_3 : Int32) (y1_4 : Int32) (y1_5 : Int64) (y1_7 : Int32) : Option (Int32 × Int32 × Int64 × Int32) := match n with
  | 0 => none
  | n + 1 =>
    if (8 : Int32) ≤ y1_7 then (
      some (y1_3, y1_4, y1_5, y1_7))
    else (
      lt ((
          if y1_4 = 0 then (
            (0 : Int32))
          else (
            if (126 : Int32) < (((y1_5 &&& (255 : Int64))).toInt32) then (
              (0 : Int32))
            else (
              if (((y1_5 &&& (255 : Int64))).toInt32) = 0 then (
                (1 : Int32))
              else (
                if y1_3 = y1_7 then (
                  (1 : Int32))
                else (
                  (0 : Int32)))))) : Int32) fun v4 =>
      lt ((
          if (((y1_5 &&& (255 : Int64))).toInt32) ≤ 0 then (
            (0 : Int32))
          else (
            (1 : Int32))) : Int32) fun v9 =>
      X8_letters_L1 n u1_1 (y1_3 + v9) v4 (lushr y1_5 (8 : Int32)) (y1_7 + (1 : Int32)))
theorem X8_letters_L1_s (n : Nat) (u1_1 : Int64) (y1_3 : Int32) (y1_4 : Int32) (y1_5 : Int64) (y1_7 : Int32) : X8_letters_L1 (n + 1) u1_1 y1_3 y1_4 y1_5 y1_7 =
    if (8 : Int32) ≤ y1_7 then (
      some (y1_3, y1_4, y1_5, y1_7))
    else (
      lt ((
          if y1_4 = 0 then (
            (0 : Int32))
          else (
            if (126 : Int32) < (((y1_5 &&& (255 : Int64))).toInt32) then (
              (0 : Int32))
            else (
              if (((y1_5 &&& (255 : Int64))).toInt32) = 0 then (
                (1 : Int32))
              else (
                if y1_3 = y1_7 then (
                  (1 : Int32))
                else (
                  (0 : Int32)))))) : Int32) fun v4 =>
      lt ((
          if (((y1_5 &&& (255 : Int64))).toInt32) ≤ 0 then (
            (0 : Int32))
          else (
            (1 : Int32))) : Int32) fun v9 =>
      X8_letters_L1 n u1_1 (y1_3 + v9) v4 (lushr y1_5 (8 : Int32)) (y1_7 + (1 : Int32))) := rfl
def X8_letters_L2 (n : Nat) (τ_2 : St) (u2_1 : Int64) (u2_3 : Int32) (y2_7 : Int32) : Option (Int32 × St) := match n with
  | 0 => none
  | n + 1 =>
    if u2_3 ≤ y2_7 then (
      some (y2_7, τ_2))
    else (
      bd (wa τ_2 35 60 (τ_2 29 7) ((((lushr u2_1 ((8 : Int32) * y2_7)) &&& (255 : Int64))).toInt32)) fun τ14 =>
      lt (s2 τ14 29 7 ((τ14 29 7) + (1 : Int32))) fun τ15 =>
      X8_letters_L2 n τ15 u2_1 u2_3 (y2_7 + (1 : Int32)))
theorem X8_letters_L2_s (n : Nat) (τ_2 : St) (u2_1 : Int64) (u2_3 : Int32) (y2_7 : Int32) : X8_letters_L2 (n + 1) τ_2 u2_1 u2_3 y2_7 =
    if u2_3 ≤ y2_7 then (
      some (y2_7, τ_2))
    else (
      bd (wa τ_2 35 60 (τ_2 29 7) ((((lushr u2_1 ((8 : Int32) * y2_7)) &&& (255 : Int64))).toInt32)) fun τ14 =>
      lt (s2 τ14 29 7 ((τ14 29 7) + (1 : Int32))) fun τ15 =>
      X8_letters_L2 n τ15 u2_1 u2_3 (y2_7 + (1 : Int32))) := rfl
def X8_letters (τ : St) (x1 : Int64) : Option (Int32 × St) :=
  bd (X8_letters_L1 10000 x1 (0 : Int32) (1 : Int32) x1 (0 : Int32)) fun v1 =>
  if v1.2.1 = 0 then (
    some ((-102 : Int32), τ))
  else (
    if ((τ 29 7) + v1.1) ≤ (60 : Int32) then (
      bd (X8_letters_L2 10000 τ x1 v1.1 (0 : Int32)) fun v12 =>
      some ((v12.2 29 7), v12.2))
    else (
      some ((-104 : Int32), τ)))
abbrev rmX8_letters : Room := { frames := 0, cells := 0, slots := 0, locals := 0 }
set_option maxHeartbeats 4000000 in
set_option maxRecDepth 100000 in
theorem c_X8_letters (l : Launch) (D : va_G) (ad : Nat → Nat) (cI : ClassId) (hd : HD ad) (σ τ : St) (η : Int64) (x1 : Int64) (rr : Int32 × St) (h : X8_letters τ x1 = some rr) : MI l yX8_letters (wy yX8_letters cX8_letters 9 (some .int)) rmX8_letters D ad cI [.ref (ad 29), .long x1] σ τ η rr.1 σ rr.2 η := by
  refine mk_i (own := RX8) (lv := [(0, .ref (ad 29)), (1, .long x1)]) (plainFor_of_name (by decide)) rfl (Nat.le_of_ble_eq_true rfl) rfl ?_
  intro p e s m args below meth c Q ls hx hb hml hown htb hK ret hP hS hl
  unfold X8_letters at h
  refine lv_iconst (v := (0 : Int32)) hx hb dX8_letters_0 (by decide) ?_
  refine lv_istore_n (lv' := [(3, .int (0 : Int32)), (0, .ref (ad 29)), (1, .long x1)]) hx hb dX8_letters_1 rfl hl (by decide) rfl (fun ls hl => ?_)
  refine lv_iconst (v := (1 : Int32)) hx hb dX8_letters_2 (by decide) ?_
  refine lv_istore (lv' := [(4, .int (1 : Int32)), (3, .int (0 : Int32)), (0, .ref (ad 29)), (1, .long x1)]) hx hb dX8_letters_3 hl (by decide) rfl (fun ls hl => ?_)
  refine lv_lload_n hx hb dX8_letters_5 rfl (lv_at hl 3 rfl) ?_
  refine lv_lstore (lv' := [(5, .long x1), (4, .int (1 : Int32)), (3, .int (0 : Int32)), (0, .ref (ad 29)), (1, .long x1)]) hx hb dX8_letters_6 hl (by decide) rfl (fun ls hl => ?_)
  refine lv_iconst (v := (0 : Int32)) hx hb dX8_letters_8 (by decide) ?_
  refine lv_istore (lv' := [(7, .int (0 : Int32)), (5, .long x1), (4, .int (1 : Int32)), (3, .int (0 : Int32)), (0, .ref (ad 29)), (1, .long x1)]) hx hb dX8_letters_9 hl (by decide) rfl (fun ls hl => ?_)
  obtain ⟨v1, hj1, h⟩ := ob h
  have K1 : ∀ (H : Heap) (locs : List Loc) (ls : Array Slot), WP D ad cI σ τ η H → va_S (AA ad) s.heap H locs → lv_has ls 9 [(0, .ref (ad 29)), (1, .long x1), (3, .int v1.1), (4, .int v1.2.1)] → W p l e rmX8_letters s m args below meth c H locs 0 0 Q (F0 m 83 ls []) := by
    intro H locs ls hP hS hl
    refine lv_iload hx hb dX8_letters_83 (lv_at hl 3 rfl) ?_
    refine lv_if_ne (tgt := 91) hx hb dX8_letters_85 (by decide) (fun c10 => ?_) (fun c10 => ?_)
    · replace h := iq c10 h
      refine lv_aload_n hx hb dX8_letters_91 rfl (lv_at hl 0 rfl) ?_
      refine va_get (D := D) (ci := 8) (v := .int (τ 29 7)) (C := RX8) (T := TX8) (N := 27) hx hb htb wu_8 hown hK.1 hP 29 w_29 rfl 7 (by decide) (htb _ wFL_RX8_97) (fun _ h9 => h9) rfl dX8_letters_92 ?_
      refine lv_iload_n hx hb dX8_letters_95 rfl (lv_at hl 2 rfl) ?_
      refine lv_iadd hx hb dX8_letters_96 ?_
      refine lv_bipush (v := (60 : Int32)) hx hb dX8_letters_97 (by decide) ?_
      refine lv_icmp_le (tgt := 105) hx hb dX8_letters_99 (by decide) (fun c11 => ?_) (fun c11 => ?_)
      · replace h := ip c11 h
        refine lv_iconst (v := (0 : Int32)) hx hb dX8_letters_105 (by decide) ?_
        refine lv_istore (lv' := [(7, .int (0 : Int32)), (0, .ref (ad 29)), (1, .long x1), (3, .int v1.1), (4, .int v1.2.1)]) hx hb dX8_letters_106 hl (by decide) rfl (fun ls hl => ?_)
        obtain ⟨v12, hj12, h⟩ := ob h
        have K2 : ∀ (H : Heap) (locs : List Loc) (ls : Array Slot), WP D ad cI σ v12.2 η H → va_S (AA ad) s.heap H locs → lv_has ls 9 [(0, .ref (ad 29))] → W p l e rmX8_letters s m args below meth c H locs 0 0 Q (F0 m 151 ls []) := by
          intro H locs ls hP hS hl
          refine lv_aload_n hx hb dX8_letters_151 rfl (lv_at hl 0 rfl) ?_
          refine va_get (D := D) (ci := 8) (v := .int (v12.2 29 7)) (C := RX8) (T := TX8) (N := 27) hx hb htb wu_8 hown hK.1 hP 29 w_29 rfl 7 (by decide) (htb _ wFL_RX8_97) (fun _ h9 => h9) rfl dX8_letters_152 ?_
          obtain rfl := Option.some.inj h
          exact ret _ _ _ _ _ dX8_letters_155 hP hS rfl
        have L2 : ∀ (n : Nat) (τ_2 : St) (y2_7 : Int32) (H : Heap) (locs : List Loc) (ls : Array Slot), X8_letters_L2 n τ_2 x1 v1.1 y2_7 = some v12 → WP D ad cI σ τ_2 η H → va_S (AA ad) s.heap H locs → lv_has ls 9 [(0, .ref (ad 29)), (1, .long x1), (3, .int v1.1), (7, .int y2_7)] → W p l e rmX8_letters s m args below meth c H locs 0 0 Q (F0 m 108 ls []) := by
          intro n
          induction n with
          | zero => intro τ_2 y2_7 H locs ls h; exact absurd h (by simp [X8_letters_L2])
          | succ n ih =>
            intro τ_2 y2_7 H locs ls h hP hS hl
            replace h := (X8_letters_L2_s n τ_2 x1 v1.1 y2_7).symm.trans h
            refine lv_iload hx hb dX8_letters_108 (lv_at hl 3 rfl) ?_
            refine lv_iload_n hx hb dX8_letters_110 rfl (lv_at hl 2 rfl) ?_
            refine lv_icmp_ge (tgt := 151) hx hb dX8_letters_111 (by decide) (fun c13 => ?_) (fun c13 => ?_)
            · replace h := ip c13 h
              obtain rfl := Option.some.inj h
              exact K2 _ _ _ hP hS (lv_sub hl [0] rfl)
            · replace h := iq c13 h
              refine lv_aload_n hx hb dX8_letters_114 rfl (lv_at hl 0 rfl) ?_
              refine va_get (D := D) (ci := 8) (v := .ref (ad 35)) (C := RX8) (T := TX8) (N := 27) hx hb htb wu_8 hown hK.1 hP 29 w_29 rfl 6 (by decide) (htb _ wFL_RX8_25) (fun _ h9 => h9) rfl dX8_letters_115 ?_
              refine lv_aload_n hx hb dX8_letters_118 rfl (lv_at hl 0 rfl) ?_
              refine va_get (D := D) (ci := 8) (v := .int (τ_2 29 7)) (C := RX8) (T := TX8) (N := 27) hx hb htb wu_8 hown hK.1 hP 29 w_29 rfl 7 (by decide) (htb _ wFL_RX8_97) (fun _ h9 => h9) rfl dX8_letters_119 ?_
              refine lv_lload_n hx hb dX8_letters_122 rfl (lv_at hl 1 rfl) ?_
              refine lv_bipush (v := (8 : Int32)) hx hb dX8_letters_123 (by decide) ?_
              refine lv_iload hx hb dX8_letters_125 (lv_at hl 3 rfl) ?_
              refine lv_imul hx hb dX8_letters_127 ?_
              refine lv_lushr (v := (lushr x1 ((8 : Int32) * y2_7))) hx hb dX8_letters_128 rfl ?_
              refine lv_ldc2 (v := (255 : Int64)) hx hb hown (htb _ wKL_RX8_95) dX8_letters_129 ?_
              refine lv_land hx hb dX8_letters_132 ?_
              refine lv_l2i (v := ((((lushr x1 ((8 : Int32) * y2_7)) &&& (255 : Int64))).toInt32)) hx hb dX8_letters_133 rfl ?_
              obtain ⟨τ14, g14, h⟩ := ob h
              refine r_astM (A := AA ad) hx hb hK hd (fun _ hh => hh) hP hS 35 60 (by decide) (fun _ => rfl) g14 dX8_letters_134 (fun H locs hP hS => ?_)
              refine lv_aload_n hx hb dX8_letters_135 rfl (lv_at hl 0 rfl) ?_
              refine lv_dup hx hb dX8_letters_136 rfl ?_
              refine va_get (D := D) (ci := 8) (v := .int (τ14 29 7)) (C := RX8) (T := TX8) (N := 27) hx hb htb wu_8 hown hK.1 hP 29 w_29 rfl 7 (by decide) (htb _ wFL_RX8_97) (fun _ h9 => h9) rfl dX8_letters_137 ?_
              refine lv_iconst (v := (1 : Int32)) hx hb dX8_letters_140 (by decide) ?_
              refine lv_iadd hx hb dX8_letters_141 ?_
              obtain ⟨τ15, g15, h⟩ := ol h
              refine r_putM (ci := 8) (C := RX8) (T := TX8) (N := 27) (A := AA ad) hx hb htb wu_8 tyX8 tyX8_ok nmX8 hown hK hd (fun _ hh => hh) hP hS 7 rfl rfl rfl (by decide) (htb _ wFL_RX8_97) rfl rfl (by decide +kernel) (Nat.le_of_ble_eq_true rfl) dX8_letters_142 (fun H locs hP hS => ?_)
              rw [g15] at hP
              refine lv_iinc (v := (y2_7 + (1 : Int32))) (lv' := [(7, .int (y2_7 + (1 : Int32))), (0, .ref (ad 29)), (1, .long x1), (3, .int v1.1)]) hx hb dX8_letters_145 hl (k := 3) rfl rfl (by decide) rfl (fun ls hl => ?_)
              refine lv_goto (tgt := 108) hx hb dX8_letters_148 (by decide) ?_
              exact ih τ15 (y2_7 + (1 : Int32)) _ _ _ h hP hS (lv_sub hl [1, 2, 3, 0] rfl)
        exact L2 10000 τ (0 : Int32) _ _ _ hj12 hP hS (lv_sub hl [1, 2, 3, 0] rfl)
      · replace h := iq c11 h
        refine lv_bipush (v := (-104 : Int32)) hx hb dX8_letters_102 (by decide) ?_
        obtain rfl := Option.some.inj h
        exact ret _ _ _ _ _ dX8_letters_104 hP hS rfl
    · replace h := ip c10 h
      refine lv_bipush (v := (-102 : Int32)) hx hb dX8_letters_88 (by decide) ?_
      obtain rfl := Option.some.inj h
      exact ret _ _ _ _ _ dX8_letters_90 hP hS rfl
  have L1 : ∀ (n : Nat) (y1_3 : Int32) (y1_4 : Int32) (y1_5 : Int64) (y1_7 : Int32) (H : Heap) (locs : List Loc) (ls : Array Slot), X8_letters_L1 n x1 y1_3 y1_4 y1_5 y1_7 = some v1 → WP D ad cI σ τ η H → va_S (AA ad) s.heap H locs → lv_has ls 9 [(0, .ref (ad 29)), (1, .long x1), (3, .int y1_3), (4, .int y1_4), (5, .long y1_5), (7, .int y1_7)] → W p l e rmX8_letters s m args below meth c H locs 0 0 Q (F0 m 11 ls []) := by
    intro n
    induction n with
    | zero => intro y1_3 y1_4 y1_5 y1_7 H locs ls h; exact absurd h (by simp [X8_letters_L1])
    | succ n ih =>
      intro y1_3 y1_4 y1_5 y1_7 H locs ls h hP hS hl
      replace h := (X8_letters_L1_s n x1 y1_3 y1_4 y1_5 y1_7).symm.trans h
      refine lv_iload hx hb dX8_letters_11 (lv_at hl 5 rfl) ?_
      refine lv_bipush (v := (8 : Int32)) hx hb dX8_letters_13 (by decide) ?_
      refine lv_icmp_ge (tgt := 83) hx hb dX8_letters_15 (by decide) (fun c2 => ?_) (fun c2 => ?_)
      · replace h := ip c2 h
        obtain rfl := Option.some.inj h
        exact K1 _ _ _ hP hS (lv_sub hl [0, 1, 2, 3] rfl)
      · replace h := iq c2 h
        refine lv_lload hx hb dX8_letters_18 (lv_at hl 4 rfl) ?_
        refine lv_ldc2 (v := (255 : Int64)) hx hb hown (htb _ wKL_RX8_95) dX8_letters_20 ?_
        refine lv_land hx hb dX8_letters_23 ?_
        refine lv_l2i (v := (((y1_5 &&& (255 : Int64))).toInt32)) hx hb dX8_letters_24 rfl ?_
        refine lv_istore (lv' := [(8, .int (((y1_5 &&& (255 : Int64))).toInt32)), (0, .ref (ad 29)), (1, .long x1), (3, .int y1_3), (4, .int y1_4), (5, .long y1_5), (7, .int y1_7)]) hx hb dX8_letters_25 hl (by decide) rfl (fun ls hl => ?_)
        refine lv_lload hx hb dX8_letters_27 (lv_at hl 5 rfl) ?_
        refine lv_bipush (v := (8 : Int32)) hx hb dX8_letters_29 (by decide) ?_
        refine lv_lushr (v := (lushr y1_5 (8 : Int32))) hx hb dX8_letters_31 rfl ?_
        refine lv_lstore (lv' := [(5, .long (lushr y1_5 (8 : Int32))), (8, .int (((y1_5 &&& (255 : Int64))).toInt32)), (0, .ref (ad 29)), (1, .long x1), (3, .int y1_3), (4, .int y1_4), (7, .int y1_7)]) hx hb dX8_letters_32 hl (by decide) rfl (fun ls hl => ?_)
        refine lv_iload hx hb dX8_letters_34 (lv_at hl 5 rfl) ?_
        obtain ⟨v4, hj4, h⟩ := ol h
        have J4 : ∀ (H : Heap) (locs : List Loc) (ls : Array Slot), WP D ad cI σ τ η H → va_S (AA ad) s.heap H locs → lv_has ls 9 [(0, .ref (ad 29)), (1, .long x1), (3, .int y1_3), (5, .long (lushr y1_5 (8 : Int32))), (7, .int y1_7), (8, .int (((y1_5 &&& (255 : Int64))).toInt32))] → W p l e rmX8_letters s m args below meth c H locs 0 0 Q (F0 m 62 ls [.int v4]) := by
          intro H locs ls hP hS hl
          refine lv_istore (lv' := [(4, .int v4), (0, .ref (ad 29)), (1, .long x1), (3, .int y1_3), (5, .long (lushr y1_5 (8 : Int32))), (7, .int y1_7), (8, .int (((y1_5 &&& (255 : Int64))).toInt32))]) hx hb dX8_letters_62 hl (by decide) rfl (fun ls hl => ?_)
          refine lv_iload_n hx hb dX8_letters_64 rfl (lv_at hl 3 rfl) ?_
          refine lv_iload hx hb dX8_letters_65 (lv_at hl 6 rfl) ?_
          obtain ⟨v9, hj9, h⟩ := ol h
          have J9 : ∀ (H : Heap) (locs : List Loc) (ls : Array Slot), WP D ad cI σ τ η H → va_S (AA ad) s.heap H locs → lv_has ls 9 [(0, .ref (ad 29)), (1, .long x1), (4, .int v4), (5, .long (lushr y1_5 (8 : Int32))), (7, .int y1_7)] → W p l e rmX8_letters s m args below meth c H locs 0 0 Q (F0 m 75 ls [.int v9, .int y1_3]) := by
            intro H locs ls hP hS hl
            refine lv_iadd hx hb dX8_letters_75 ?_
            refine lv_istore_n (lv' := [(3, .int (y1_3 + v9)), (0, .ref (ad 29)), (1, .long x1), (4, .int v4), (5, .long (lushr y1_5 (8 : Int32))), (7, .int y1_7)]) hx hb dX8_letters_76 rfl hl (by decide) rfl (fun ls hl => ?_)
            refine lv_iinc (v := (y1_7 + (1 : Int32))) (lv' := [(7, .int (y1_7 + (1 : Int32))), (3, .int (y1_3 + v9)), (0, .ref (ad 29)), (1, .long x1), (4, .int v4), (5, .long (lushr y1_5 (8 : Int32)))]) hx hb dX8_letters_77 hl (k := 5) rfl rfl (by decide) rfl (fun ls hl => ?_)
            refine lv_goto (tgt := 11) hx hb dX8_letters_80 (by decide) ?_
            exact ih (y1_3 + v9) v4 (lushr y1_5 (8 : Int32)) (y1_7 + (1 : Int32)) _ _ _ h hP hS (lv_sub hl [2, 3, 1, 4, 5, 0] rfl)
          replace h := hj9
          refine lv_if_le (tgt := 74) hx hb dX8_letters_67 (by decide) (fun c8 => ?_) (fun c8 => ?_)
          · replace h := ip c8 h
            refine lv_iconst (v := (0 : Int32)) hx hb dX8_letters_74 (by decide) ?_
            subst h
            exact J9 _ _ _ hP hS (lv_sub hl [1, 2, 0, 4, 5] rfl)
          · replace h := iq c8 h
            refine lv_iconst (v := (1 : Int32)) hx hb dX8_letters_70 (by decide) ?_
            refine lv_goto (tgt := 75) hx hb dX8_letters_71 (by decide) ?_
            subst h
            exact J9 _ _ _ hP hS (lv_sub hl [1, 2, 0, 4, 5] rfl)
        replace h := hj4
        refine lv_if_eq (tgt := 61) hx hb dX8_letters_36 (by decide) (fun c3 => ?_) (fun c3 => ?_)
        · replace h := ip c3 h
          refine lv_iconst (v := (0 : Int32)) hx hb dX8_letters_61 (by decide) ?_
          subst h
          exact J4 _ _ _ hP hS (lv_sub hl [2, 3, 4, 0, 6, 1] rfl)
        · replace h := iq c3 h
          refine lv_iload hx hb dX8_letters_39 (lv_at hl 1 rfl) ?_
          refine lv_bipush (v := (126 : Int32)) hx hb dX8_letters_41 (by decide) ?_
          refine lv_icmp_gt (tgt := 61) hx hb dX8_letters_43 (by decide) (fun c5 => ?_) (fun c5 => ?_)
          · replace h := ip c5 h
            refine lv_iconst (v := (0 : Int32)) hx hb dX8_letters_61 (by decide) ?_
            subst h
            exact J4 _ _ _ hP hS (lv_sub hl [2, 3, 4, 0, 6, 1] rfl)
          · replace h := iq c5 h
            refine lv_iload hx hb dX8_letters_46 (lv_at hl 1 rfl) ?_
            refine lv_if_eq (tgt := 57) hx hb dX8_letters_48 (by decide) (fun c6 => ?_) (fun c6 => ?_)
            · replace h := ip c6 h
              refine lv_iconst (v := (1 : Int32)) hx hb dX8_letters_57 (by decide) ?_
              refine lv_goto (tgt := 62) hx hb dX8_letters_58 (by decide) ?_
              subst h
              exact J4 _ _ _ hP hS (lv_sub hl [2, 3, 4, 0, 6, 1] rfl)
            · replace h := iq c6 h
              refine lv_iload_n hx hb dX8_letters_51 rfl (lv_at hl 4 rfl) ?_
              refine lv_iload hx hb dX8_letters_52 (lv_at hl 6 rfl) ?_
              refine lv_icmp_ne (tgt := 61) hx hb dX8_letters_54 (by decide) (fun c7 => ?_) (fun c7 => ?_)
              · replace h := iq c7 h
                refine lv_iconst (v := (0 : Int32)) hx hb dX8_letters_61 (by decide) ?_
                subst h
                exact J4 _ _ _ hP hS (lv_sub hl [2, 3, 4, 0, 6, 1] rfl)
              · replace h := ip c7 h
                refine lv_iconst (v := (1 : Int32)) hx hb dX8_letters_57 (by decide) ?_
                refine lv_goto (tgt := 62) hx hb dX8_letters_58 (by decide) ?_
                subst h
                exact J4 _ _ _ hP hS (lv_sub hl [2, 3, 4, 0, 6, 1] rfl)
  exact L1 10000 (0 : Int32) (1 : Int32) x1 (0 : Int32) _ _ _ hj1 hP hS (lv_sub hl [4, 5, 3, 2, 1, 0] rfl)
def X3_clear (σ : St)  : St :=
  lt (s2 σ 8 1 (0 : Int32)) fun σ1 =>
  σ1
abbrev rmX3_clear : Room := { frames := 0, cells := 0, slots := 0, locals := 0 }
set_option maxHeartbeats 4000000 in
set_option maxRecDepth 100000 in
theorem c_X3_clear (l : Launch) (D : va_G) (ad : Nat → Nat) (cI : ClassId) (hd : HD ad) (σ τ : St) (η : Int64)  (rr : St) (h : X3_clear σ  = rr) : MV l yX3_clear (wy yX3_clear cX3_clear 1 none) rmX3_clear D ad cI [.ref (ad 8)] σ τ η rr τ η := by
  refine mk_v (own := RX3) (lv := [(0, .ref (ad 8))]) (plainFor_of_name (by decide)) rfl (Nat.le_of_ble_eq_true rfl) rfl ?_
  intro p e s m args below meth c Q ls hx hb hml hown htb hK ret hP hS hl
  unfold X3_clear at h
  refine lv_aload_n hx hb dX3_clear_0 rfl (lv_at hl 0 rfl) ?_
  refine lv_iconst (v := (0 : Int32)) hx hb dX3_clear_1 (by decide) ?_
  obtain ⟨σ1, g1, h⟩ := ol h
  refine r_putC (ci := 3) (C := RX3) (T := TX3) (N := 2) (A := AA ad) hx hb htb wu_3 tyX3 tyX3_ok nmX3 hown hK hd (fun _ hh => hh) hP hS 8 (by decide) 1 rfl rfl rfl (by decide) (htb _ wFL_RX3_17) rfl rfl (by decide +kernel) (Nat.le_of_ble_eq_true rfl) dX3_clear_2 (fun H locs hP hS => ?_)
  rw [g1] at hP
  subst h
  exact ret _ _ _ _ dX3_clear_5 hP hS
def X7_blank (σ : St)  : Int32 × St :=
  lt (X3_size σ ) fun v1 =>
  lt (X3_clear σ ) fun v2 =>
  (v1, v2)
abbrev rmX7_blank : Room := { frames := 1, cells := 0, slots := 0, locals := 20 }
set_option maxHeartbeats 4000000 in
set_option maxRecDepth 100000 in
theorem c_X7_blank (l : Launch) (D : va_G) (ad : Nat → Nat) (cI : ClassId) (hd : HD ad) (σ τ : St) (η : Int64)  (rr : Int32 × St) (h : X7_blank σ  = rr) : MI l yX7_blank (wy yX7_blank cX7_blank 2 (some .int)) rmX7_blank D ad cI [.ref (ad 0)] σ τ η rr.1 rr.2 τ η := by
  refine mk_i (own := RX7) (lv := [(0, .ref (ad 0))]) (plainFor_of_name (by decide)) rfl (Nat.le_of_ble_eq_true rfl) rfl ?_
  intro p e s m args below meth c Q ls hx hb hml hown htb hK ret hP hS hl
  unfold X7_blank at h
  refine lv_aload_n hx hb dX7_blank_0 rfl (lv_at hl 0 rfl) ?_
  refine va_get (D := D) (ci := 7) (v := .ref (ad 8)) (C := RX7) (T := TX7) (N := 11) hx hb htb wu_7 hown hK.1 hP 0 w_0 rfl 2 (by decide) (htb _ wFL_RX7_26) (fun _ h9 => h9) rfl dX7_blank_1 ?_
  obtain ⟨v1, g1, h⟩ := ol h
  refine c_Vi (q := (RX3, TX3, 2)) (ci := 3) (b := 8) (As := []) (rest := []) (A := AA ad) ⟨hx, hb, hml, hown, htb⟩ (c_X3_size l D ad cI hd σ τ η  v1 g1) (cwV 0 htb (gdV (fun _ hh => hh) wML_RX7_127 wIM_yX3_size wSE_yX3_size wI_RX3 wC_yX3_size) rfl rfl rfl hd_X3_size ⟨by decide, by decide⟩) hK hP rfl w_8 (fun _ hh => hh) hS rfl hl.1 rfl (Nat.le_of_ble_eq_true rfl) dX7_blank_4 ⟨Nat.le_refl 0, Nat.le_refl 0⟩ (fun H locs hP hS => ?_)
  refine lv_istore_n (lv' := [(1, .int v1), (0, .ref (ad 0))]) hx hb dX7_blank_7 rfl hl (by decide) rfl (fun ls hl => ?_)
  refine lv_aload_n hx hb dX7_blank_8 rfl (lv_at hl 1 rfl) ?_
  refine va_get (D := D) (ci := 7) (v := .ref (ad 8)) (C := RX7) (T := TX7) (N := 11) hx hb htb wu_7 hown hK.1 hP 0 w_0 rfl 2 (by decide) (htb _ wFL_RX7_26) (fun _ h9 => h9) rfl dX7_blank_9 ?_
  obtain ⟨v2, g2, h⟩ := ol h
  refine c_Vv (q := (RX3, TX3, 2)) (ci := 3) (b := 8) (As := []) (rest := []) (A := AA ad) ⟨hx, hb, hml, hown, htb⟩ (c_X3_clear l D ad cI hd σ τ η  v2 g2) (cwV 0 htb (gdV (fun _ hh => hh) wML_RX7_135 wIM_yX3_clear wSE_yX3_clear wI_RX3 wC_yX3_clear) rfl rfl rfl hd_X3_clear ⟨by decide, by decide⟩) hK hP rfl w_8 (fun _ hh => hh) hS rfl hl.1 rfl (Nat.le_of_ble_eq_true rfl) dX7_blank_12 ⟨Nat.le_refl 0, Nat.le_refl 0⟩ (fun H locs hP hS => ?_)
  refine lv_iload_n hx hb dX7_blank_15 rfl (lv_at hl 0 rfl) ?_
  subst h
  exact ret _ _ _ _ _ dX7_blank_16 hP hS rfl
