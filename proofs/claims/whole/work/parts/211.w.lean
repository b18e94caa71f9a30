def X5_putClash (σ : St) (x1 : Int32) (x2 : Int32) (x3 : Int32) : Option (St) :=
  lt (X5_has σ x1) fun v1 =>
  if v1 = 0 then (
    some σ)
  else (
    lt (X5_has σ x2) fun v3 =>
    if v3 = 0 then (
      some σ)
    else (
      bd (rd (σ 17) 8 x1) fun v5 =>
      lt (X7_withBit  v5 x2 x3) fun v6 =>
      bd (wa σ 17 8 x1 v6) fun σ7 =>
      some σ7))
abbrev rmX5_putClash : Room := { frames := 1, cells := 0, slots := 0, locals := 22 }
set_option maxHeartbeats 4000000 in
set_option maxRecDepth 100000 in
theorem c_X5_putClash (l : Launch) (D : va_G) (ad : Nat → Nat) (cI : ClassId) (hd : HD ad) (σ τ : St) (η : Int64) (x1 : Int32) (x2 : Int32) (x3 : Int32) (rr : St) (h : X5_putClash σ x1 x2 x3 = some rr) : MV l yX5_putClash (wy yX5_putClash cX5_putClash 4 none) rmX5_putClash D ad cI [.ref (ad 15), .int x1, .int x2, .int x3] σ τ η rr τ η := by
  refine mk_v (own := RX5) (lv := [(0, .ref (ad 15)), (1, .int x1), (2, .int x2), (3, .int x3)]) (plainFor_of_name (by decide)) rfl (Nat.le_of_ble_eq_true rfl) rfl ?_
  intro p e s m args below meth c Q ls hx hb hml hown htb hK ret hP hS hl
  unfold X5_putClash at h
  refine lv_aload_n hx hb dX5_putClash_0 rfl (lv_at hl 0 rfl) ?_
  refine lv_iload_n hx hb dX5_putClash_1 rfl (lv_at hl 1 rfl) ?_
  obtain ⟨v1, g1, h⟩ := ol h
  refine c_Vz (q := (RX5, TX5, 3)) (ci := 5) (b := 15) (As := [.int x1]) (rest := []) (A := AA ad) ⟨hx, hb, hml, hown, htb⟩ (c_X5_has l D ad cI hd σ τ η x1 v1 g1) (cwV 1 htb (gdV (fun _ hh => hh) wML_RX5_24 wIM_yX5_has wSE_yX5_has wI_RX5 wC_yX5_has) rfl rfl rfl hd_X5_has ⟨by decide, by decide⟩) hK hP rfl w_15 (fun _ hh => hh) hS rfl hl.1 rfl (Nat.le_of_ble_eq_true rfl) dX5_putClash_2 ⟨Nat.le_refl 0, Nat.le_refl 0⟩ (fun H locs hz1 hP hS => ?_)
  refine lv_if_eq (tgt := 33) hx hb dX5_putClash_5 (by decide) (fun c2 => ?_) (fun c2 => ?_)
  · replace h := ip c2 h
    obtain rfl := Option.some.inj h
    exact ret _ _ _ _ dX5_putClash_33 hP hS
  · replace h := iq c2 h
    refine lv_aload_n hx hb dX5_putClash_8 rfl (lv_at hl 0 rfl) ?_
    refine lv_iload_n hx hb dX5_putClash_9 rfl (lv_at hl 2 rfl) ?_
    obtain ⟨v3, g3, h⟩ := ol h
    refine c_Vz (q := (RX5, TX5, 3)) (ci := 5) (b := 15) (As := [.int x2]) (rest := []) (A := AA ad) ⟨hx, hb, hml, hown, htb⟩ (c_X5_has l D ad cI hd σ τ η x2 v3 g3) (cwV 1 htb (gdV (fun _ hh => hh) wML_RX5_24 wIM_yX5_has wSE_yX5_has wI_RX5 wC_yX5_has) rfl rfl rfl hd_X5_has ⟨by decide, by decide⟩) hK hP rfl w_15 (fun _ hh => hh) hS rfl hl.1 rfl (Nat.le_of_ble_eq_true rfl) dX5_putClash_10 ⟨Nat.le_refl 0, Nat.le_refl 0⟩ (fun H locs hz3 hP hS => ?_)
    refine lv_if_eq (tgt := 33) hx hb dX5_putClash_13 (by decide) (fun c4 => ?_) (fun c4 => ?_)
    · replace h := ip c4 h
      obtain rfl := Option.some.inj h
      exact ret _ _ _ _ dX5_putClash_33 hP hS
    · replace h := iq c4 h
      refine lv_aload_n hx hb dX5_putClash_16 rfl (lv_at hl 0 rfl) ?_
      refine va_get (D := D) (ci := 5) (v := .ref (ad 17)) (C := RX5) (T := TX5) (N := 3) hx hb htb wu_5 hown hK.1 hP 15 w_15 rfl 1 (by decide) (htb _ wFL_RX5_15) (fun _ h9 => h9) rfl dX5_putClash_17 ?_
      refine lv_iload_n hx hb dX5_putClash_20 rfl (lv_at hl 1 rfl) ?_
      refine lv_aload_n hx hb dX5_putClash_21 rfl (lv_at hl 0 rfl) ?_
      refine va_get (D := D) (ci := 5) (v := .ref (ad 17)) (C := RX5) (T := TX5) (N := 3) hx hb htb wu_5 hown hK.1 hP 15 w_15 rfl 1 (by decide) (htb _ wFL_RX5_15) (fun _ h9 => h9) rfl dX5_putClash_22 ?_
      refine lv_iload_n hx hb dX5_putClash_25 rfl (lv_at hl 1 rfl) ?_
      obtain ⟨v5, g5, h⟩ := ob h
      refine r_ald hx hb hK hP 17 w_17 g5 dX5_putClash_26 ?_
      refine lv_iload_n hx hb dX5_putClash_27 rfl (lv_at hl 2 rfl) ?_
      refine lv_iload_n hx hb dX5_putClash_28 rfl (lv_at hl 3 rfl) ?_
      obtain ⟨v6, g6, h⟩ := ol h
      refine c_Ni (As := [.int v5, .int x2, .int x3]) (rest := [.int x1, .ref (ad 17)]) (A := AA ad) ⟨hx, hb, hml, hown, htb⟩ (c_X7_withBit l D ad cI hd σ τ η v5 x2 x3 v6 g6) ⟨va_cnB 3 htb (gdW (fun _ hh => hh) wC_yX7_withBit) rfl rfl rfl (hK.2 _ wMN_RX5_28 rfl) (htb _ wI_RX7) hd_X7_withBit.2 ⟨by decide, by decide⟩, htb _ wST_yX7_withBit, trivial⟩ hK hP (fun _ hh => hh) hS rfl hl.1 rfl (Nat.le_of_ble_eq_true rfl) dX5_putClash_29 ⟨Nat.le_refl 0, Nat.le_refl 0⟩ (fun H locs hP hS => ?_)
      obtain ⟨σ7, g7, h⟩ := ob h
      refine r_astC (A := AA ad) hx hb hK hd (fun _ hh => hh) hP hS 17 8 (by decide) (fun _ => rfl) g7 dX5_putClash_32 (fun H locs hP hS => ?_)
      obtain rfl := Option.some.inj h
      exact ret _ _ _ _ dX5_putClash_33 hP hS
def X7_clash (σ : St) (x1 : Int32) (x2 : Int32) (x3 : Int32) : Option (Int32 × St) :=
  lt (X5_has σ x1) fun v1 =>
  if v1 = 0 then (
    some ((-101 : Int32), σ))
  else (
    lt (X5_has σ x2) fun v3 =>
    if v3 = 0 then (
      some ((-101 : Int32), σ))
    else (
      if x1 = x2 then (
        some ((-101 : Int32), σ))
      else (
        bd (X5_clashesOf σ x1) fun v6 =>
        lt (X7_bit  v6 x2) fun v7 =>
        bd (X5_putClash σ x1 x2 x3) fun v8 =>
        bd (X5_putClash v8 x2 x1 x3) fun v9 =>
        some (v7, v9))))
abbrev rmX7_clash : Room := { frames := 2, cells := 0, slots := 0, locals := 45 }
set_option maxHeartbeats 4000000 in
set_option maxRecDepth 100000 in
theorem c_X7_clash (l : Launch) (D : va_G) (ad : Nat → Nat) (cI : ClassId) (hd : HD ad) (σ τ : St) (η : Int64) (x1 : Int32) (x2 : Int32) (x3 : Int32) (rr : Int32 × St) (h : X7_clash σ x1 x2 x3 = some rr) : MI l yX7_clash (wy yX7_clash cX7_clash 5 (some .int)) rmX7_clash D ad cI [.ref (ad 0), .int x1, .int x2, .int x3] σ τ η rr.1 rr.2 τ η := by
  refine mk_i (own := RX7) (lv := [(0, .ref (ad 0)), (1, .int x1), (2, .int x2), (3, .int x3)]) (plainFor_of_name (by decide)) rfl (Nat.le_of_ble_eq_true rfl) rfl ?_
  intro p e s m args below meth c Q ls hx hb hml hown htb hK ret hP hS hl
  unfold X7_clash at h
  refine lv_aload_n hx hb dX7_clash_0 rfl (lv_at hl 0 rfl) ?_
  refine va_get (D := D) (ci := 7) (v := .ref (ad 15)) (C := RX7) (T := TX7) (N := 11) hx hb htb wu_7 hown hK.1 hP 0 w_0 rfl 4 (by decide) (htb _ wFL_RX7_40) (fun _ h9 => h9) rfl dX7_clash_1 ?_
  refine lv_iload_n hx hb dX7_clash_4 rfl (lv_at hl 1 rfl) ?_
  obtain ⟨v1, g1, h⟩ := ol h
  refine c_Vz (q := (RX5, TX5, 3)) (ci := 5) (b := 15) (As := [.int x1]) (rest := []) (A := AA ad) ⟨hx, hb, hml, hown, htb⟩ (c_X5_has l D ad cI hd σ τ η x1 v1 g1) (cwV 1 htb (gdV (fun _ hh => hh) wML_RX7_225 wIM_yX5_has wSE_yX5_has wI_RX5 wC_yX5_has) rfl rfl rfl hd_X5_has ⟨by decide, by decide⟩) hK hP rfl w_15 (fun _ hh => hh) hS rfl hl.1 rfl (Nat.le_of_ble_eq_true rfl) dX7_clash_5 ⟨Nat.le_refl 0, Nat.le_refl 0⟩ (fun H locs hz1 hP hS => ?_)
  refine lv_if_eq (tgt := 27) hx hb dX7_clash_8 (by decide) (fun c2 => ?_) (fun c2 => ?_)
  · replace h := ip c2 h
    refine lv_bipush (v := (-101 : Int32)) hx hb dX7_clash_27 (by decide) ?_
    obtain rfl := Option.some.inj h
    exact ret _ _ _ _ _ dX7_clash_29 hP hS rfl
  · replace h := iq c2 h
    refine lv_aload_n hx hb dX7_clash_11 rfl (lv_at hl 0 rfl) ?_
    refine va_get (D := D) (ci := 7) (v := .ref (ad 15)) (C := RX7) (T := TX7) (N := 11) hx hb htb wu_7 hown hK.1 hP 0 w_0 rfl 4 (by decide) (htb _ wFL_RX7_40) (fun _ h9 => h9) rfl dX7_clash_12 ?_
    refine lv_iload_n hx hb dX7_clash_15 rfl (lv_at hl 2 rfl) ?_
    obtain ⟨v3, g3, h⟩ := ol h
    refine c_Vz (q := (RX5, TX5, 3)) (ci := 5) (b := 15) (As := [.int x2]) (rest := []) (A := AA ad) ⟨hx, hb, hml, hown, htb⟩ (c_X5_has l D ad cI hd σ τ η x2 v3 g3) (cwV 1 htb (gdV (fun _ hh => hh) wML_RX7_225 wIM_yX5_has wSE_yX5_has wI_RX5 wC_yX5_has) rfl rfl rfl hd_X5_has ⟨by decide, by decide⟩) hK hP rfl w_15 (fun _ hh => hh) hS rfl hl.1 rfl (Nat.le_of_ble_eq_true rfl) dX7_clash_16 ⟨Nat.le_refl 0, Nat.le_refl 0⟩ (fun H locs hz3 hP hS => ?_)
    refine lv_if_eq (tgt := 27) hx hb dX7_clash_19 (by decide) (fun c4 => ?_) (fun c4 => ?_)
    · replace h := ip c4 h
      refine lv_bipush (v := (-101 : Int32)) hx hb dX7_clash_27 (by decide) ?_
      obtain rfl := Option.some.inj h
      exact ret _ _ _ _ _ dX7_clash_29 hP hS rfl
    · replace h := iq c4 h
      refine lv_iload_n hx hb dX7_clash_22 rfl (lv_at hl 1 rfl) ?_
      refine lv_iload_n hx hb dX7_clash_23 rfl (lv_at hl 2 rfl) ?_
      refine lv_icmp_ne (tgt := 30) hx hb dX7_clash_24 (by decide) (fun c5 => ?_) (fun c5 => ?_)
      · replace h := iq c5 h
        refine lv_aload_n hx hb dX7_clash_30 rfl (lv_at hl 0 rfl) ?_
        refine va_get (D := D) (ci := 7) (v := .ref (ad 15)) (C := RX7) (T := TX7) (N := 11) hx hb htb wu_7 hown hK.1 hP 0 w_0 rfl 4 (by decide) (htb _ wFL_RX7_40) (fun _ h9 => h9) rfl dX7_clash_31 ?_
        refine lv_iload_n hx hb dX7_clash_34 rfl (lv_at hl 1 rfl) ?_
        obtain ⟨v6, g6, h⟩ := ob h
        refine c_Vi (q := (RX5, TX5, 3)) (ci := 5) (b := 15) (As := [.int x1]) (rest := []) (A := AA ad) ⟨hx, hb, hml, hown, htb⟩ (c_X5_clashesOf l D ad cI hd σ τ η x1 v6 g6) (cwV 1 htb (gdV (fun _ hh => hh) wML_RX7_226 wIM_yX5_clashesOf wSE_yX5_clashesOf wI_RX5 wC_yX5_clashesOf) rfl rfl rfl hd_X5_clashesOf ⟨by decide, by decide⟩) hK hP rfl w_15 (fun _ hh => hh) hS rfl hl.1 rfl (Nat.le_of_ble_eq_true rfl) dX7_clash_35 ⟨Nat.le_refl 0, Nat.le_refl 0⟩ (fun H locs hP hS => ?_)
        refine lv_iload_n hx hb dX7_clash_38 rfl (lv_at hl 2 rfl) ?_
        obtain ⟨v7, g7, h⟩ := ol h
        refine c_Si (As := [.int v6, .int x2]) (rest := []) (A := AA ad) ⟨hx, hb, hml, hown, htb⟩ (c_X7_bit l D ad cI hd σ τ η v6 x2 v7 g7) (va_cwS 2 htb (gdS (fun _ hh => hh) wML_RX7_109 wST_yX7_bit wI_RX7 wC_yX7_bit) rfl rfl rfl hd_X7_bit.2 ⟨by decide, by decide⟩) hK hP (fun _ hh => hh) hS rfl hl.1 rfl (Nat.le_of_ble_eq_true rfl) dX7_clash_39 ⟨Nat.le_refl 0, Nat.le_refl 0⟩ (fun H locs hP hS => ?_)
        refine lv_istore (lv' := [(4, .int v7), (0, .ref (ad 0)), (1, .int x1), (2, .int x2), (3, .int x3)]) hx hb dX7_clash_42 hl (by decide) rfl (fun ls hl => ?_)
        refine lv_aload_n hx hb dX7_clash_44 rfl (lv_at hl 1 rfl) ?_
        refine va_get (D := D) (ci := 7) (v := .ref (ad 15)) (C := RX7) (T := TX7) (N := 11) hx hb htb wu_7 hown hK.1 hP 0 w_0 rfl 4 (by decide) (htb _ wFL_RX7_40) (fun _ h9 => h9) rfl dX7_clash_45 ?_
        refine lv_iload_n hx hb dX7_clash_48 rfl (lv_at hl 2 rfl) ?_
        refine lv_iload_n hx hb dX7_clash_49 rfl (lv_at hl 3 rfl) ?_
        refine lv_iload_n hx hb dX7_clash_50 rfl (lv_at hl 4 rfl) ?_
        obtain ⟨v8, g8, h⟩ := ob h
        refine c_Vv (q := (RX5, TX5, 3)) (ci := 5) (b := 15) (As := [.int x1, .int x2, .int x3]) (rest := []) (A := AA ad) ⟨hx, hb, hml, hown, htb⟩ (c_X5_putClash l D ad cI hd σ τ η x1 x2 x3 v8 g8) (cwV 3 htb (gdV (fun _ hh => hh) wML_RX7_229 wIM_yX5_putClash wSE_yX5_putClash wI_RX5 wC_yX5_putClash) rfl rfl rfl hd_X5_putClash ⟨by decide, by decide⟩) hK hP rfl w_15 (fun _ hh => hh) hS rfl hl.1 rfl (Nat.le_of_ble_eq_true rfl) dX7_clash_51 ⟨Nat.le_refl 0, Nat.le_refl 0⟩ (fun H locs hP hS => ?_)
        refine lv_aload_n hx hb dX7_clash_54 rfl (lv_at hl 1 rfl) ?_
        refine va_get (D := D) (ci := 7) (v := .ref (ad 15)) (C := RX7) (T := TX7) (N := 11) hx hb htb wu_7 hown hK.1 hP 0 w_0 rfl 4 (by decide) (htb _ wFL_RX7_40) (fun _ h9 => h9) rfl dX7_clash_55 ?_
        refine lv_iload_n hx hb dX7_clash_58 rfl (lv_at hl 3 rfl) ?_
        refine lv_iload_n hx hb dX7_clash_59 rfl (lv_at hl 2 rfl) ?_
        refine lv_iload_n hx hb dX7_clash_60 rfl (lv_at hl 4 rfl) ?_
        obtain ⟨v9, g9, h⟩ := ob h
        refine c_Vv (q := (RX5, TX5, 3)) (ci := 5) (b := 15) (As := [.int x2, .int x1, .int x3]) (rest := []) (A := AA ad) ⟨hx, hb, hml, hown, htb⟩ (c_X5_putClash l D ad cI hd v8 τ η x2 x1 x3 v9 g9) (cwV 3 htb (gdV (fun _ hh => hh) wML_RX7_229 wIM_yX5_putClash wSE_yX5_putClash wI_RX5 wC_yX5_putClash) rfl rfl rfl hd_X5_putClash ⟨by decide, by decide⟩) hK hP rfl w_15 (fun _ hh => hh) hS rfl hl.1 rfl (Nat.le_of_ble_eq_true rfl) dX7_clash_61 ⟨Nat.le_refl 0, Nat.le_refl 0⟩ (fun H locs hP hS => ?_)
        refine lv_iload hx hb dX7_clash_64 (lv_at hl 0 rfl) ?_
        obtain rfl := Option.some.inj h
        exact ret _ _ _ _ _ dX7_clash_66 hP hS rfl
      · replace h := ip c5 h
        refine lv_bipush (v := (-101 : Int32)) hx hb dX7_clash_27 (by decide) ?_
        obtain rfl := Option.some.inj h
        exact ret _ _ _ _ _ dX7_clash_29 hP hS rfl
def X8_isStory (τ : St) (x1 : Int32) : Int32 :=
  lt (X8_in  ((x1).toInt64) (0 : Int64) ((((τ 29 15) - (1 : Int32))).toInt64)) fun v1 =>
  v1
abbrev rmX8_isStory : Room := { frames := 1, cells := 0, slots := 0, locals := 25 }
set_option maxHeartbeats 4000000 in
set_option maxRecDepth 100000 in
theorem c_X8_isStory (l : Launch) (D : va_G) (ad : Nat → Nat) (cI : ClassId) (hd : HD ad) (σ τ : St) (η : Int64) (x1 : Int32) (rr : Int32) (h : X8_isStory τ x1 = rr) : MZ l yX8_isStory (wy yX8_isStory cX8_isStory 2 (some .boolean)) rmX8_isStory D ad cI [.ref (ad 29), .int x1] σ τ η rr σ τ η := by
  refine mk_z (own := RX8) (lv := [(0, .ref (ad 29)), (1, .int x1)]) (plainFor_of_name (by decide)) rfl (Nat.le_of_ble_eq_true rfl) rfl ?_
  intro p e s m args below meth c Q ls hx hb hml hown htb hK ret hP hS hl
  unfold X8_isStory at h
  refine lv_iload_n hx hb dX8_isStory_0 rfl (lv_at hl 1 rfl) ?_
  refine lv_i2l (v := ((x1).toInt64)) hx hb dX8_isStory_1 rfl ?_
  refine lv_lconst (v := (0 : Int64)) hx hb dX8_isStory_2 rfl ?_
  refine lv_aload_n hx hb dX8_isStory_3 rfl (lv_at hl 0 rfl) ?_
  refine va_get (D := D) (ci := 8) (v := .int (τ 29 15)) (C := RX8) (T := TX8) (N := 27) hx hb htb wu_8 hown hK.1 hP 29 w_29 rfl 15 (by decide) (htb _ wFL_RX8_177) (fun _ h9 => h9) rfl dX8_isStory_4 ?_
  refine lv_iconst (v := (1 : Int32)) hx hb dX8_isStory_7 (by decide) ?_
  refine lv_isub hx hb dX8_isStory_8 ?_
  refine lv_i2l (v := ((((τ 29 15) - (1 : Int32))).toInt64)) hx hb dX8_isStory_9 rfl ?_
  obtain ⟨v1, g1, h⟩ := ol h
  refine c_Sz (As := [.long ((x1).toInt64), .long (0 : Int64), .long ((((τ 29 15) - (1 : Int32))).toInt64)]) (rest := []) (A := AA ad) ⟨hx, hb, hml, hown, htb⟩ (c_X8_in l D ad cI hd σ τ η ((x1).toInt64) (0 : Int64) ((((τ 29 15) - (1 : Int32))).toInt64) v1 g1) (va_cwS 3 htb (gdS (fun _ hh => hh) wML_RX8_65 wST_yX8_in wI_RX8 wC_yX8_in) rfl rfl rfl hd_X8_in.2 ⟨by decide, by decide⟩) hK hP (fun _ hh => hh) hS rfl hl.1 rfl (Nat.le_of_ble_eq_true rfl) dX8_isStory_10 ⟨Nat.le_refl 0, Nat.le_refl 0⟩ (fun H locs hz1 hP hS => ?_)
  subst h
  exact ret _ _ _ _ _ dX8_isStory_13 hP hS rfl (by first | exact Or.inl rfl | exact Or.inr rfl | assumption)
def X8_clash (τ : St) (x1 : Int32) (x2 : Int32) (x3 : Int32) : Option (Int32 × St) :=
  lt (X8_isStory τ x1) fun v1 =>
  if v1 = 0 then (
    some ((-101 : Int32), τ))
  else (
    lt (X8_isStory τ x2) fun v3 =>
    if v3 = 0 then (
      some ((-101 : Int32), τ))
    else (
      if x1 = x2 then (
        some ((-101 : Int32), τ))
      else (
        bd (rd (τ 41) 8 x1) fun v6 =>
        bd (rd (τ 41) 8 x1) fun v7 =>
        lt ((
            if x3 = 0 then (
              (0 : Int32))
            else (
              (ishl (1 : Int32) x2))) : Int32) fun v9 =>
        bd (wa τ 41 8 x1 ((v7 &&& ((ishl (1 : Int32) x2) ^^^ (-1 : Int32))) ||| v9)) fun τ10 =>
        bd (rd (τ10 41) 8 x2) fun v11 =>
        lt ((
            if x3 = 0 then (
              (0 : Int32))
            else (
              (ishl (1 : Int32) x1))) : Int32) fun v13 =>
        bd (wa τ10 41 8 x2 ((v11 &&& ((ishl (1 : Int32) x1) ^^^ (-1 : Int32))) ||| v13)) fun τ14 =>
        some (((ishr v6 x2) &&& (1 : Int32)), τ14))))
abbrev rmX8_clash : Room := { frames := 2, cells := 0, slots := 0, locals := 46 }
set_option maxHeartbeats 4000000 in
set_option maxRecDepth 100000 in
theorem c_X8_clash (l : Launch) (D : va_G) (ad : Nat → Nat) (cI : ClassId) (hd : HD ad) (σ τ : St) (η : Int64) (x1 : Int32) (x2 : Int32) (x3 : Int32) (rr : Int32 × St) (h : X8_clash τ x1 x2 x3 = some rr) : MI l yX8_clash (wy yX8_clash cX8_clash 5 (some .int)) rmX8_clash D ad cI [.ref (ad 29), .int x1, .int x2, .int x3] σ τ η rr.1 σ rr.2 η := by
  refine mk_i (own := RX8) (lv := [(0, .ref (ad 29)), (1, .int x1), (2, .int x2), (3, .int x3)]) (plainFor_of_name (by decide)) rfl (Nat.le_of_ble_eq_true rfl) rfl ?_
  intro p e s m args below meth c Q ls hx hb hml hown htb hK ret hP hS hl
  unfold X8_clash at h
  refine lv_aload_n hx hb dX8_clash_0 rfl (lv_at hl 0 rfl) ?_
  refine lv_iload_n hx hb dX8_clash_1 rfl (lv_at hl 1 rfl) ?_
  obtain ⟨v1, g1, h⟩ := ol h
  refine c_Vz (q := (RX8, TX8, 27)) (ci := 8) (b := 29) (As := [.int x1]) (rest := []) (A := AA ad) ⟨hx, hb, hml, hown, htb⟩ (c_X8_isStory l D ad cI hd σ τ η x1 v1 g1) (cwV 1 htb (gdV (fun _ hh => hh) wML_RX8_180 wIM_yX8_isStory wSE_yX8_isStory wI_RX8 wC_yX8_isStory) rfl rfl rfl hd_X8_isStory ⟨by decide, by decide⟩) hK hP rfl w_29 (fun _ hh => hh) hS rfl hl.1 rfl (Nat.le_of_ble_eq_true rfl) dX8_clash_2 ⟨Nat.le_refl 0, Nat.le_refl 0⟩ (fun H locs hz1 hP hS => ?_)
  refine lv_if_eq (tgt := 21) hx hb dX8_clash_5 (by decide) (fun c2 => ?_) (fun c2 => ?_)
  · replace h := ip c2 h
    refine lv_bipush (v := (-101 : Int32)) hx hb dX8_clash_21 (by decide) ?_
    obtain rfl := Option.some.inj h
    exact ret _ _ _ _ _ dX8_clash_23 hP hS rfl
  · replace h := iq c2 h
    refine lv_aload_n hx hb dX8_clash_8 rfl (lv_at hl 0 rfl) ?_
    refine lv_iload_n hx hb dX8_clash_9 rfl (lv_at hl 2 rfl) ?_
    obtain ⟨v3, g3, h⟩ := ol h
    refine c_Vz (q := (RX8, TX8, 27)) (ci := 8) (b := 29) (As := [.int x2]) (rest := []) (A := AA ad) ⟨hx, hb, hml, hown, htb⟩ (c_X8_isStory l D ad cI hd σ τ η x2 v3 g3) (cwV 1 htb (gdV (fun _ hh => hh) wML_RX8_180 wIM_yX8_isStory wSE_yX8_isStory wI_RX8 wC_yX8_isStory) rfl rfl rfl hd_X8_isStory ⟨by decide, by decide⟩) hK hP rfl w_29 (fun _ hh => hh) hS rfl hl.1 rfl (Nat.le_of_ble_eq_true rfl) dX8_clash_10 ⟨Nat.le_refl 0, Nat.le_refl 0⟩ (fun H locs hz3 hP hS => ?_)
    refine lv_if_eq (tgt := 21) hx hb dX8_clash_13 (by decide) (fun c4 => ?_) (fun c4 => ?_)
    · replace h := ip c4 h
      refine lv_bipush (v := (-101 : Int32)) hx hb dX8_clash_21 (by decide) ?_
      obtain rfl := Option.some.inj h
      exact ret _ _ _ _ _ dX8_clash_23 hP hS rfl
    · replace h := iq c4 h
      refine lv_iload_n hx hb dX8_clash_16 rfl (lv_at hl 1 rfl) ?_
      refine lv_iload_n hx hb dX8_clash_17 rfl (lv_at hl 2 rfl) ?_
      refine lv_icmp_ne (tgt := 24) hx hb dX8_clash_18 (by decide) (fun c5 => ?_) (fun c5 => ?_)
      · replace h := iq c5 h
        refine lv_aload_n hx hb dX8_clash_24 rfl (lv_at hl 0 rfl) ?_
        refine va_get (D := D) (ci := 8) (v := .ref (ad 41)) (C := RX8) (T := TX8) (N := 27) hx hb htb wu_8 hown hK.1 hP 29 w_29 rfl 17 (by decide) (htb _ wFL_RX8_43) (fun _ h9 => h9) rfl dX8_clash_25 ?_
        refine lv_iload_n hx hb dX8_clash_28 rfl (lv_at hl 1 rfl) ?_
        obtain ⟨v6, g6, h⟩ := ob h
        refine r_ald hx hb hK hP 41 w_41 g6 dX8_clash_29 ?_
        refine lv_iload_n hx hb dX8_clash_30 rfl (lv_at hl 2 rfl) ?_
        refine lv_ishr hx hb dX8_clash_31 ?_
        refine lv_iconst (v := (1 : Int32)) hx hb dX8_clash_32 (by decide) ?_
        refine lv_iand hx hb dX8_clash_33 ?_
        refine lv_istore (lv' := [(4, .int ((ishr v6 x2) &&& (1 : Int32))), (0, .ref (ad 29)), (1, .int x1), (2, .int x2), (3, .int x3)]) hx hb dX8_clash_34 hl (by decide) rfl (fun ls hl => ?_)
        refine lv_aload_n hx hb dX8_clash_36 rfl (lv_at hl 1 rfl) ?_
        refine va_get (D := D) (ci := 8) (v := .ref (ad 41)) (C := RX8) (T := TX8) (N := 27) hx hb htb wu_8 hown hK.1 hP 29 w_29 rfl 17 (by decide) (htb _ wFL_RX8_43) (fun _ h9 => h9) rfl dX8_clash_37 ?_
        refine lv_iload_n hx hb dX8_clash_40 rfl (lv_at hl 2 rfl) ?_
        refine lv_aload_n hx hb dX8_clash_41 rfl (lv_at hl 1 rfl) ?_
        refine va_get (D := D) (ci := 8) (v := .ref (ad 41)) (C := RX8) (T := TX8) (N := 27) hx hb htb wu_8 hown hK.1 hP 29 w_29 rfl 17 (by decide) (htb _ wFL_RX8_43) (fun _ h9 => h9) rfl dX8_clash_42 ?_
        refine lv_iload_n hx hb dX8_clash_45 rfl (lv_at hl 2 rfl) ?_
        obtain ⟨v7, g7, h⟩ := ob h
        refine r_ald hx hb hK hP 41 w_41 g7 dX8_clash_46 ?_
        refine lv_iconst (v := (1 : Int32)) hx hb dX8_clash_47 (by decide) ?_
        refine lv_iload_n hx hb dX8_clash_48 rfl (lv_at hl 3 rfl) ?_
        refine lv_ishl hx hb dX8_clash_49 ?_
        refine lv_iconst (v := (-1 : Int32)) hx hb dX8_clash_50 (by decide) ?_
        refine lv_ixor hx hb dX8_clash_51 ?_
        refine lv_iand hx hb dX8_clash_52 ?_
        refine lv_iload_n hx hb dX8_clash_53 rfl (lv_at hl 4 rfl) ?_
        obtain ⟨v9, hj9, h⟩ := ol h
        have J9 : ∀ (H : Heap) (locs : List Loc) (ls : Array Slot), WP D ad cI σ τ η H → va_S (AA ad) s.heap H locs → lv_has ls 5 [(0, .ref (ad 29)), (1, .int x1), (2, .int x2), (3, .int x3), (4, .int ((ishr v6 x2) &&& (1 : Int32)))] → W p l e rmX8_clash s m args below meth c H locs 0 0 Q (F0 m 64 ls [.int v9, .int (v7 &&& ((ishl (1 : Int32) x2) ^^^ (-1 : Int32))), .int x1, .ref (ad 41)]) := by
          intro H locs ls hP hS hl
          refine lv_ior hx hb dX8_clash_64 ?_
          obtain ⟨τ10, g10, h⟩ := ob h
          refine r_astM (A := AA ad) hx hb hK hd (fun _ hh => hh) hP hS 41 8 (by decide) (fun _ => rfl) g10 dX8_clash_65 (fun H locs hP hS => ?_)
          refine lv_aload_n hx hb dX8_clash_66 rfl (lv_at hl 0 rfl) ?_
          refine va_get (D := D) (ci := 8) (v := .ref (ad 41)) (C := RX8) (T := TX8) (N := 27) hx hb htb wu_8 hown hK.1 hP 29 w_29 rfl 17 (by decide) (htb _ wFL_RX8_43) (fun _ h9 => h9) rfl dX8_clash_67 ?_
          refine lv_iload_n hx hb dX8_clash_70 rfl (lv_at hl 2 rfl) ?_
          refine lv_aload_n hx hb dX8_clash_71 rfl (lv_at hl 0 rfl) ?_
          refine va_get (D := D) (ci := 8) (v := .ref (ad 41)) (C := RX8) (T := TX8) (N := 27) hx hb htb wu_8 hown hK.1 hP 29 w_29 rfl 17 (by decide) (htb _ wFL_RX8_43) (fun _ h9 => h9) rfl dX8_clash_72 ?_
          refine lv_iload_n hx hb dX8_clash_75 rfl (lv_at hl 2 rfl) ?_
          obtain ⟨v11, g11, h⟩ := ob h
          refine r_ald hx hb hK hP 41 w_41 g11 dX8_clash_76 ?_
          refine lv_iconst (v := (1 : Int32)) hx hb dX8_clash_77 (by decide) ?_
          refine lv_iload_n hx hb dX8_clash_78 rfl (lv_at hl 1 rfl) ?_
          refine lv_ishl hx hb dX8_clash_79 ?_
          refine lv_iconst (v := (-1 : Int32)) hx hb dX8_clash_80 (by decide) ?_
          refine lv_ixor hx hb dX8_clash_81 ?_
          refine lv_iand hx hb dX8_clash_82 ?_
          refine lv_iload_n hx hb dX8_clash_83 rfl (lv_at hl 3 rfl) ?_
          obtain ⟨v13, hj13, h⟩ := ol h
          have J13 : ∀ (H : Heap) (locs : List Loc) (ls : Array Slot), WP D ad cI σ τ10 η H → va_S (AA ad) s.heap H locs → lv_has ls 5 [(4, .int ((ishr v6 x2) &&& (1 : Int32)))] → W p l e rmX8_clash s m args below meth c H locs 0 0 Q (F0 m 94 ls [.int v13, .int (v11 &&& ((ishl (1 : Int32) x1) ^^^ (-1 : Int32))), .int x2, .ref (ad 41)]) := by
            intro H locs ls hP hS hl
            refine lv_ior hx hb dX8_clash_94 ?_
            obtain ⟨τ14, g14, h⟩ := ob h
            refine r_astM (A := AA ad) hx hb hK hd (fun _ hh => hh) hP hS 41 8 (by decide) (fun _ => rfl) g14 dX8_clash_95 (fun H locs hP hS => ?_)
            refine lv_iload hx hb dX8_clash_96 (lv_at hl 0 rfl) ?_
            obtain rfl := Option.some.inj h
            exact ret _ _ _ _ _ dX8_clash_98 hP hS rfl
          replace h := hj13
          refine lv_if_eq (tgt := 93) hx hb dX8_clash_84 (by decide) (fun c12 => ?_) (fun c12 => ?_)
          · replace h := ip c12 h
            refine lv_iconst (v := (0 : Int32)) hx hb dX8_clash_93 (by decide) ?_
            subst h
            exact J13 _ _ _ hP hS (lv_sub hl [4] rfl)
          · replace h := iq c12 h
            refine lv_iconst (v := (1 : Int32)) hx hb dX8_clash_87 (by decide) ?_
            refine lv_iload_n hx hb dX8_clash_88 rfl (lv_at hl 1 rfl) ?_
            refine lv_ishl hx hb dX8_clash_89 ?_
            refine lv_goto (tgt := 94) hx hb dX8_clash_90 (by decide) ?_
            subst h
            exact J13 _ _ _ hP hS (lv_sub hl [4] rfl)
        replace h := hj9
        refine lv_if_eq (tgt := 63) hx hb dX8_clash_54 (by decide) (fun c8 => ?_) (fun c8 => ?_)
        · replace h := ip c8 h
          refine lv_iconst (v := (0 : Int32)) hx hb dX8_clash_63 (by decide) ?_
          subst h
          exact J9 _ _ _ hP hS (lv_sub hl [1, 2, 3, 4, 0] rfl)
        · replace h := iq c8 h
          refine lv_iconst (v := (1 : Int32)) hx hb dX8_clash_57 (by decide) ?_
          refine lv_iload_n hx hb dX8_clash_58 rfl (lv_at hl 3 rfl) ?_
          refine lv_ishl hx hb dX8_clash_59 ?_
          refine lv_goto (tgt := 64) hx hb dX8_clash_60 (by decide) ?_
          subst h
          exact J9 _ _ _ hP hS (lv_sub hl [1, 2, 3, 4, 0] rfl)
      · replace h := ip c5 h
        refine lv_bipush (v := (-101 : Int32)) hx hb dX8_clash_21 (by decide) ?_
        obtain rfl := Option.some.inj h
        exact ret _ _ _ _ _ dX8_clash_23 hP hS rfl
def X6_on (σ : St) (x1 : Int32) : Option (Int32) :=
  if x1 < (1 : Int32) then (
    some (0 : Int32))
  else (
    if (9 : Int32) < x1 then (
      some (0 : Int32))
    else (
      bd (rd (σ 7) 10 x1) fun v3 =>
      some v3))
abbrev rmX6_on : Room := { frames := 0, cells := 0, slots := 0, locals := 0 }
set_option maxHeartbeats 4000000 in
set_option maxRecDepth 100000 in
theorem c_X6_on (l : Launch) (D : va_G) (ad : Nat → Nat) (cI : ClassId) (hd : HD ad) (σ τ : St) (η : Int64) (x1 : Int32) (rr : Int32) (h : X6_on σ x1 = some rr) : MI l yX6_on (wy yX6_on cX6_on 2 (some .int)) rmX6_on D ad cI [.ref (ad 6), .int x1] σ τ η rr σ τ η := by
  refine mk_i (own := RX6) (lv := [(0, .ref (ad 6)), (1, .int x1)]) (plainFor_of_name (by decide)) rfl (Nat.le_of_ble_eq_true rfl) rfl ?_
  intro p e s m args below meth c Q ls hx hb hml hown htb hK ret hP hS hl
  unfold X6_on at h
  refine lv_iload_n hx hb dX6_on_0 rfl (lv_at hl 1 rfl) ?_
  refine lv_iconst (v := (1 : Int32)) hx hb dX6_on_1 (by decide) ?_
  refine lv_icmp_lt (tgt := 20) hx hb dX6_on_2 (by decide) (fun c1 => ?_) (fun c1 => ?_)
  · replace h := ip c1 h
    refine lv_iconst (v := (0 : Int32)) hx hb dX6_on_20 (by decide) ?_
    obtain rfl := Option.some.inj h
    exact ret _ _ _ _ _ dX6_on_21 hP hS rfl
  · replace h := iq c1 h
    refine lv_iload_n hx hb dX6_on_5 rfl (lv_at hl 1 rfl) ?_
    refine lv_bipush (v := (9 : Int32)) hx hb dX6_on_6 (by decide) ?_
    refine lv_icmp_gt (tgt := 20) hx hb dX6_on_8 (by decide) (fun c2 => ?_) (fun c2 => ?_)
    · replace h := ip c2 h
      refine lv_iconst (v := (0 : Int32)) hx hb dX6_on_20 (by decide) ?_
      obtain rfl := Option.some.inj h
      exact ret _ _ _ _ _ dX6_on_21 hP hS rfl
    · replace h := iq c2 h
      refine lv_aload_n hx hb dX6_on_11 rfl (lv_at hl 0 rfl) ?_
      refine va_get (D := D) (ci := 6) (v := .ref (ad 7)) (C := RX6) (T := TX6) (N := 1) hx hb htb wu_6 hown hK.1 hP 6 w_6 rfl 0 (by decide) (htb _ wFL_RX6_9) (fun _ h9 => h9) rfl dX6_on_12 ?_
      refine lv_iload_n hx hb dX6_on_15 rfl (lv_at hl 1 rfl) ?_
      obtain ⟨v3, g3, h⟩ := ob h
      refine r_ald hx hb hK hP 7 w_7 g3 dX6_on_16 ?_
      refine lv_goto (tgt := 21) hx hb dX6_on_17 (by decide) ?_
      obtain rfl := Option.some.inj h
      exact ret _ _ _ _ _ dX6_on_21 hP hS rfl
def J6_bitCount_0f7a4  (x0 : Int32) : Int32 :=
  ((((((((x0 - ((iushr x0 (1 : Int32)) &&& (1431655765 : Int32))) &&& (858993459 : Int32)) + ((iushr (x0 - ((iushr x0 (1 : Int32)) &&& (1431655765 : Int32))) (2 : Int32)) &&& (858993459 : Int32))) + (iushr (((x0 - ((iushr x0 (1 : Int32)) &&& (1431655765 : Int32))) &&& (858993459 : Int32)) + ((iushr (x0 - ((iushr x0 (1 : Int32)) &&& (1431655765 : Int32))) (2 : Int32)) &&& (858993459 : Int32))) (4 : Int32))) &&& (252645135 : Int32)) + (iushr (((((x0 - ((iushr x0 (1 : Int32)) &&& (1431655765 : Int32))) &&& (858993459 : Int32)) + ((iushr (x0 - ((iushr x0 (1 : Int32)) &&& (1431655765 : Int32))) (2 : Int32)) &&& (858993459 : Int32))) + (iushr (((x0 - ((iushr x0 (1 : Int32)) &&& (1431655765 : Int32))) &&& (858993459 : Int32)) + ((iushr (x0 - ((iushr x0 (1 : Int32)) &&& (1431655765 : Int32))) (2 : Int32)) &&& (858993459 : Int32))) (4 : Int32))) &&& (252645135 : Int32)) (8 : Int32))) + (iushr ((((((x0 - ((iushr x0 (1 : Int32)) &&& (1431655765 : Int32))) &&& (858993459 : Int32)) + ((iushr (x0 - ((iushr x0 (1 : Int32)) &&& (1431655765 : Int32))) (2 : Int32)) &&& (858993459 : Int32))) + (iushr (((x0 - ((iushr x0 (1 : Int32)) &&& (1431655765 : Int32))) &&& (858993459 : Int32)) + ((iushr (x0 - ((iushr x0 (1 : Int32)) &&& (1431655765 : Int32))) (2 : Int32)) &&& (858993459 : Int32))) (4 : Int32))) &&& (252645135 : Int32)) + (iushr (((((x0 - ((iushr x0 (1 : Int32)) &&& (1431655765 : Int32))) &&& (858993459 : Int32)) + ((iushr (x0 - ((iushr x0 (1 : Int32)) &&& (1431655765 : Int32))) (2 : Int32)) &&& (858993459 : Int32))) + (iushr (((x0 - ((iushr x0 (1 : Int32)) &&& (1431655765 : Int32))) &&& (858993459 : Int32)) + ((iushr (x0 - ((iushr x0 (1 : Int32)) &&& (1431655765 : Int32))) (2 : Int32)) &&& (858993459 : Int32))) (4 : Int32))) &&& (252645135 : Int32)) (8 : Int32))) (16 : Int32))) &&& (63 : Int32))
abbrev rmJ6_bitCount_0f7a4 : Room := { frames := 0, cells := 0, slots := 0, locals := 0 }
set_option maxHeartbeats 4000000 in
set_option maxRecDepth 100000 in
theorem c_J6_bitCount_0f7a4 (l : Launch) (D : va_G) (ad : Nat → Nat) (cI : ClassId) (hd : HD ad) (σ τ : St) (η : Int64) (x0 : Int32) (rr : Int32) (h : J6_bitCount_0f7a4  x0 = rr) : MI l yJ6_bitCount_0f7a4 (wy yJ6_bitCount_0f7a4 cJ6_bitCount_0f7a4 1 (some .int)) rmJ6_bitCount_0f7a4 D ad cI [.int x0] σ τ η rr σ τ η := by
  refine mk_i (own := RJ6) (lv := [(0, .int x0)]) (by decide +kernel) rfl (Nat.le_of_ble_eq_true rfl) rfl ?_
  intro p e s m args below meth c Q ls hx hb hml hown htb hK ret hP hS hl
  unfold J6_bitCount_0f7a4 at h
  refine lv_iload_n hx hb dJ6_bitCount_0f7a4_0 rfl (lv_at hl 0 rfl) ?_
  refine lv_iload_n hx hb dJ6_bitCount_0f7a4_1 rfl (lv_at hl 0 rfl) ?_
  refine lv_iconst (v := (1 : Int32)) hx hb dJ6_bitCount_0f7a4_2 (by decide) ?_
  refine lv_iushr (v := (iushr x0 (1 : Int32))) hx hb dJ6_bitCount_0f7a4_3 rfl ?_
  refine lv_ldcw (v := (1431655765 : Int32)) hx hb hown (htb _ wK_RJ6_265) dJ6_bitCount_0f7a4_4 ?_
  refine lv_iand hx hb dJ6_bitCount_0f7a4_7 ?_
  refine lv_isub hx hb dJ6_bitCount_0f7a4_8 ?_
  refine lv_istore_n (lv' := [(0, .int (x0 - ((iushr x0 (1 : Int32)) &&& (1431655765 : Int32))))]) hx hb dJ6_bitCount_0f7a4_9 rfl hl (by decide) rfl (fun ls hl => ?_)
  refine lv_iload_n hx hb dJ6_bitCount_0f7a4_10 rfl (lv_at hl 0 rfl) ?_
  refine lv_ldcw (v := (858993459 : Int32)) hx hb hown (htb _ wK_RJ6_266) dJ6_bitCount_0f7a4_11 ?_
  refine lv_iand hx hb dJ6_bitCount_0f7a4_14 ?_
  refine lv_iload_n hx hb dJ6_bitCount_0f7a4_15 rfl (lv_at hl 0 rfl) ?_
  refine lv_iconst (v := (2 : Int32)) hx hb dJ6_bitCount_0f7a4_16 (by decide) ?_
  refine lv_iushr (v := (iushr (x0 - ((iushr x0 (1 : Int32)) &&& (1431655765 : Int32))) (2 : Int32))) hx hb dJ6_bitCount_0f7a4_17 rfl ?_
  refine lv_ldcw (v := (858993459 : Int32)) hx hb hown (htb _ wK_RJ6_266) dJ6_bitCount_0f7a4_18 ?_
  refine lv_iand hx hb dJ6_bitCount_0f7a4_21 ?_
  refine lv_iadd hx hb dJ6_bitCount_0f7a4_22 ?_
  refine lv_istore_n (lv' := [(0, .int (((x0 - ((iushr x0 (1 : Int32)) &&& (1431655765 : Int32))) &&& (858993459 : Int32)) + ((iushr (x0 - ((iushr x0 (1 : Int32)) &&& (1431655765 : Int32))) (2 : Int32)) &&& (858993459 : Int32))))]) hx hb dJ6_bitCount_0f7a4_23 rfl hl (by decide) rfl (fun ls hl => ?_)
  refine lv_iload_n hx hb dJ6_bitCount_0f7a4_24 rfl (lv_at hl 0 rfl) ?_
  refine lv_iload_n hx hb dJ6_bitCount_0f7a4_25 rfl (lv_at hl 0 rfl) ?_
  refine lv_iconst (v := (4 : Int32)) hx hb dJ6_bitCount_0f7a4_26 (by decide) ?_
  refine lv_iushr (v := (iushr (((x0 - ((iushr x0 (1 : Int32)) &&& (1431655765 : Int32))) &&& (858993459 : Int32)) + ((iushr (x0 - ((iushr x0 (1 : Int32)) &&& (1431655765 : Int32))) (2 : Int32)) &&& (858993459 : Int32))) (4 : Int32))) hx hb dJ6_bitCount_0f7a4_27 rfl ?_
  refine lv_iadd hx hb dJ6_bitCount_0f7a4_28 ?_
  refine lv_ldcw (v := (252645135 : Int32)) hx hb hown (htb _ wK_RJ6_267) dJ6_bitCount_0f7a4_29 ?_
  refine lv_iand hx hb dJ6_bitCount_0f7a4_32 ?_
  refine lv_istore_n (lv' := [(0, .int (((((x0 - ((iushr x0 (1 : Int32)) &&& (1431655765 : Int32))) &&& (858993459 : Int32)) + ((iushr (x0 - ((iushr x0 (1 : Int32)) &&& (1431655765 : Int32))) (2 : Int32)) &&& (858993459 : Int32))) + (iushr (((x0 - ((iushr x0 (1 : Int32)) &&& (1431655765 : Int32))) &&& (858993459 : Int32)) + ((iushr (x0 - ((iushr x0 (1 : Int32)) &&& (1431655765 : Int32))) (2 : Int32)) &&& (858993459 : Int32))) (4 : Int32))) &&& (252645135 : Int32)))]) hx hb dJ6_bitCount_0f7a4_33 rfl hl (by decide) rfl (fun ls hl => ?_)
  refine lv_iload_n hx hb dJ6_bitCount_0f7a4_34 rfl (lv_at hl 0 rfl) ?_
  refine lv_iload_n hx hb dJ6_bitCount_0f7a4_35 rfl (lv_at hl 0 rfl) ?_
  refine lv_bipush (v := (8 : Int32)) hx hb dJ6_bitCount_0f7a4_36 (by decide) ?_
  refine lv_iushr (v := (iushr (((((x0 - ((iushr x0 (1 : Int32)) &&& (1431655765 : Int32))) &&& (858993459 : Int32)) + ((iushr (x0 - ((iushr x0 (1 : Int32)) &&& (1431655765 : Int32))) (2 : Int32)) &&& (858993459 : Int32))) + (iushr (((x0 - ((iushr x0 (1 : Int32)) &&& (1431655765 : Int32))) &&& (858993459 : Int32)) + ((iushr (x0 - ((iushr x0 (1 : Int32)) &&& (1431655765 : Int32))) (2 : Int32)) &&& (858993459 : Int32))) (4 : Int32))) &&& (252645135 : Int32)) (8 : Int32))) hx hb dJ6_bitCount_0f7a4_38 rfl ?_
  refine lv_iadd hx hb dJ6_bitCount_0f7a4_39 ?_
  refine lv_istore_n (lv' := [(0, .int ((((((x0 - ((iushr x0 (1 : Int32)) &&& (1431655765 : Int32))) &&& (858993459 : Int32)) + ((iushr (x0 - ((iushr x0 (1 : Int32)) &&& (1431655765 : Int32))) (2 : Int32)) &&& (858993459 : Int32))) + (iushr (((x0 - ((iushr x0 (1 : Int32)) &&& (1431655765 : Int32))) &&& (858993459 : Int32)) + ((iushr (x0 - ((iushr x0 (1 : Int32)) &&& (1431655765 : Int32))) (2 : Int32)) &&& (858993459 : Int32))) (4 : Int32))) &&& (252645135 : Int32)) + (iushr (((((x0 - ((iushr x0 (1 : Int32)) &&& (1431655765 : Int32))) &&& (858993459 : Int32)) + ((iushr (x0 - ((iushr x0 (1 : Int32)) &&& (1431655765 : Int32))) (2 : Int32)) &&& (858993459 : Int32))) + (iushr (((x0 - ((iushr x0 (1 : Int32)) &&& (1431655765 : Int32))) &&& (858993459 : Int32)) + ((iushr (x0 - ((iushr x0 (1 : Int32)) &&& (1431655765 : Int32))) (2 : Int32)) &&& (858993459 : Int32))) (4 : Int32))) &&& (252645135 : Int32)) (8 : Int32))))]) hx hb dJ6_bitCount_0f7a4_40 rfl hl (by decide) rfl (fun ls hl => ?_)
  refine lv_iload_n hx hb dJ6_bitCount_0f7a4_41 rfl (lv_at hl 0 rfl) ?_
  refine lv_iload_n hx hb dJ6_bitCount_0f7a4_42 rfl (lv_at hl 0 rfl) ?_
  refine lv_bipush (v := (16 : Int32)) hx hb dJ6_bitCount_0f7a4_43 (by decide) ?_
  refine lv_iushr (v := (iushr ((((((x0 - ((iushr x0 (1 : Int32)) &&& (1431655765 : Int32))) &&& (858993459 : Int32)) + ((iushr (x0 - ((iushr x0 (1 : Int32)) &&& (1431655765 : Int32))) (2 : Int32)) &&& (858993459 : Int32))) + (iushr (((x0 - ((iushr x0 (1 : Int32)) &&& (1431655765 : Int32))) &&& (858993459 : Int32)) + ((iushr (x0 - ((iushr x0 (1 : Int32)) &&& (1431655765 : Int32))) (2 : Int32)) &&& (858993459 : Int32))) (4 : Int32))) &&& (252645135 : Int32)) + (iushr (((((x0 - ((iushr x0 (1 : Int32)) &&& (1431655765 : Int32))) &&& (858993459 : Int32)) + ((iushr (x0 - ((iushr x0 (1 : Int32)) &&& (1431655765 : Int32))) (2 : Int32)) &&& (858993459 : Int32))) + (iushr (((x0 - ((iushr x0 (1 : Int32)) &&& (1431655765 : Int32))) &&& (858993459 : Int32)) + ((iushr (x0 - ((iushr x0 (1 : Int32)) &&& (1431655765 : Int32))) (2 : Int32)) &&& (858993459 : Int32))) (4 : Int32))) &&& (252645135 : Int32)) (8 : Int32))) (16 : Int32))) hx hb dJ6_bitCount_0f7a4_45 rfl ?_
  refine lv_iadd hx hb dJ6_bitCount_0f7a4_46 ?_
  refine lv_istore_n (lv' := [(0, .int (((((((x0 - ((iushr x0 (1 : Int32)) &&& (1431655765 : Int32))) &&& (858993459 : Int32)) + ((iushr (x0 - ((iushr x0 (1 : Int32)) &&& (1431655765 : Int32))) (2 : Int32)) &&& (858993459 : Int32))) + (iushr (((x0 - ((iushr x0 (1 : Int32)) &&& (1431655765 : Int32))) &&& (858993459 : Int32)) + ((iushr (x0 - ((iushr x0 (1 : Int32)) &&& (1431655765 : Int32))) (2 : Int32)) &&& (858993459 : Int32))) (4 : Int32))) &&& (252645135 : Int32)) + (iushr (((((x0 - ((iushr x0 (1 : Int32)) &&& (1431655765 : Int32))) &&& (858993459 : Int32)) + ((iushr (x0 - ((iushr x0 (1 : Int32)) &&& (1431655765 : Int32))) (2 : Int32)) &&& (858993459 : Int32))) + (iushr (((x0 - ((iushr x0 (1 : Int32)) &&& (1431655765 : Int32))) &&& (858993459 : Int32)) + ((iushr (x0 - ((iushr x0 (1 : Int32)) &&& (1431655765 : Int32))) (2 : Int32)) &&& (858993459 : Int32))) (4 : Int32))) &&& (252645135 : Int32)) (8 : Int32))) + (iushr ((((((x0 - ((iushr x0 (1 : Int32)) &&& (1431655765 : Int32))) &&& (858993459 : Int32)) + ((iushr (x0 - ((iushr x0 (1 : Int32)) &&& (1431655765 : Int32))) (2 : Int32)) &&& (858993459 : Int32))) + (iushr (((x0 - ((iushr x0 (1 : Int32)) &&& (1431655765 : Int32))) &&& (858993459 : Int32)) + ((iushr (x0 - ((iushr x0 (1 : Int32)) &&& (1431655765 : Int32))) (2 : Int32)) &&& (858993459 : Int32))) (4 : Int32))) &&& (252645135 : Int32)) + (iushr (((((x0 - ((iushr x0 (1 : Int32)) &&& (1431655765 : Int32))) &&& (858993459 : Int32)) + ((iushr (x0 - ((iushr x0 (1 : Int32)) &&& (1431655765 : Int32))) (2 : Int32)) &&& (858993459 : Int32))) + (iushr (((x0 - ((iushr x0 (1 : Int32)) &&& (1431655765 : Int32))) &&& (858993459 : Int32)) + ((iushr (x0 - ((iushr x0 (1 : Int32)) &&& (1431655765 : Int32))) (2 : Int32)) &&& (858993459 : Int32))) (4 : Int32))) &&& (252645135 : Int32)) (8 : Int32))) (16 : Int32))))]) hx hb dJ6_bitCount_0f7a4_47 rfl hl (by decide) rfl (fun ls hl => ?_)
  refine lv_iload_n hx hb dJ6_bitCount_0f7a4_48 rfl (lv_at hl 0 rfl) ?_
  refine lv_bipush (v := (63 : Int32)) hx hb dJ6_bitCount_0f7a4_49 (by decide) ?_
  refine lv_iand hx hb dJ6_bitCount_0f7a4_51 ?_
  subst h
  exact ret _ _ _ _ _ dJ6_bitCount_0f7a4_52 hP hS rfl
def X5_canBeToldBy_L1 (n : Nat) (σ_1 : St) (u1_1 : Int32) (u1_2 : Int32) (y1_3 : Int32) (y1_4 : Int32) : Option ((Int32) ⊕ (Int32 × Int32)) := match n with
  | 0 => none
  | n + 1 =>
    if (σ_1 15 2) ≤ y1_4 then (
      some (Sum.inr (y1_3, y1_4)))
    else (
      lt (X7_bit  u1_1 y1_4) fun v3 =>
      if v3 = (1 : Int32) then (
        bd (rd (σ_1 17) 8 y1_4) fun v5 =>
        if (v5 &&& u1_1) = 0 then (
          bd (rd (σ_1 16) 8 y1_4) fun v7 =>
          X5_canBeToldBy_L1 n σ_1 u1_1 u1_2 (y1_3 ||| v7) (y1_4 + (1 : Int32)))
        else (
          some (Sum.inl (0 : Int32))))
      else (
        X5_canBeToldBy_L1 n σ_1 u1_1 u1_2 y1_3 (y1_4 + (1 : Int32))))
theorem X5_canBeToldBy_L1_s (n : Nat) (σ_1 : St) (u1_1 : Int32) (u1_2 : Int32) (y1_3 : Int32) (y1_4 : Int32) : X5_canBeToldBy_L1 (n + 1) σ_1 u1_1 u1_2 y1_3 y1_4 =
    if (σ_1 15 2) ≤ y1_4 then (
      some (Sum.inr (y1_3, y1_4)))
    else (
      lt (X7_bit  u1_1 y1_4) fun v3 =>
      if v3 = (1 : Int32) then (
        bd (rd (σ_1 17) 8 y1_4) fun v5 =>
        if (v5 &&& u1_1) = 0 then (
          bd (rd (σ_1 16) 8 y1_4) fun v7 =>
          X5_canBeToldBy_L1 n σ_1 u1_1 u1_2 (y1_3 ||| v7) (y1_4 + (1 : Int32)))
        else (
          some (Sum.inl (0 : Int32))))
      else (
        X5_canBeToldBy_L1 n σ_1 u1_1 u1_2 y1_3 (y1_4 + (1 : Int32)))) := rfl
def X5_canBeToldBy (σ : St) (x1 : Int32) (x2 : Int32) : Option (Int32) :=
  bd (X5_canBeToldBy_L1 10000 σ x1 x2 (0 : Int32) (0 : Int32)) fun v1 => Sum.elim (fun q => some q) (fun w8 =>
    if (w8.1 &&& x2) = x2 then (
      some (1 : Int32))
    else (
      some (0 : Int32))) v1
abbrev rmX5_canBeToldBy : Room := { frames := 1, cells := 0, slots := 0, locals := 21 }
set_option maxHeartbeats 4000000 in
set_option maxRecDepth 100000 in
theorem c_X5_canBeToldBy (l : Launch) (D : va_G) (ad : Nat → Nat) (cI : ClassId) (hd : HD ad) (σ τ : St) (η : Int64) (x1 : Int32) (x2 : Int32) (rr : Int32) (h : X5_canBeToldBy σ x1 x2 = some rr) : MZ l yX5_canBeToldBy (wy yX5_canBeToldBy cX5_canBeToldBy 5 (some .boolean)) rmX5_canBeToldBy D ad cI [.ref (ad 15), .int x1, .int x2] σ τ η rr σ τ η := by
  refine mk_z (own := RX5) (lv := [(0, .ref (ad 15)), (1, .int x1), (2, .int x2)]) (plainFor_of_name (by decide)) rfl (Nat.le_of_ble_eq_true rfl) rfl ?_
  intro p e s m args below meth c Q ls hx hb hml hown htb hK ret hP hS hl
  unfold X5_canBeToldBy at h
  refine lv_iconst (v := (0 : Int32)) hx hb dX5_canBeToldBy_0 (by decide) ?_
  refine lv_istore_n (lv' := [(3, .int (0 : Int32)), (0, .ref (ad 15)), (1, .int x1), (2, .int x2)]) hx hb dX5_canBeToldBy_1 rfl hl (by decide) rfl (fun ls hl => ?_)
  refine lv_iconst (v := (0 : Int32)) hx hb dX5_canBeToldBy_2 (by decide) ?_
  refine lv_istore (lv' := [(4, .int (0 : Int32)), (3, .int (0 : Int32)), (0, .ref (ad 15)), (1, .int x1), (2, .int x2)]) hx hb dX5_canBeToldBy_3 hl (by decide) rfl (fun ls hl => ?_)
  obtain ⟨v1, hj1, h⟩ := ob h
  have KR1 : ∀ q, v1 = Sum.inl q → rr = q := fun q e8 => by
    rw [e8] at h
    exact (Option.some.inj h).symm
  have K1 : ∀ w8, v1 = Sum.inr w8 → ∀ (H : Heap) (locs : List Loc) (ls : Array Slot), WP D ad cI σ τ η H → va_S (AA ad) s.heap H locs → lv_has ls 5 [(2, .int x2), (3, .int w8.1)] → W p l e rmX5_canBeToldBy s m args below meth c H locs 0 0 Q (F0 m 54 ls []) := by
    intro w8 e8 H locs ls hP hS hl
    rw [e8] at h
    replace h : (    if (w8.1 &&& x2) = x2 then (
      some (1 : Int32))
    else (
      some (0 : Int32))) = some rr := h
    refine lv_iload_n hx hb dX5_canBeToldBy_54 rfl (lv_at hl 1 rfl) ?_
    refine lv_iload_n hx hb dX5_canBeToldBy_55 rfl (lv_at hl 0 rfl) ?_
    refine lv_iand hx hb dX5_canBeToldBy_56 ?_
    refine lv_iload_n hx hb dX5_canBeToldBy_57 rfl (lv_at hl 0 rfl) ?_
    refine lv_icmp_ne (tgt := 65) hx hb dX5_canBeToldBy_58 (by decide) (fun c9 => ?_) (fun c9 => ?_)
    · replace h := iq c9 h
      refine lv_iconst (v := (0 : Int32)) hx hb dX5_canBeToldBy_65 (by decide) ?_
      obtain rfl := Option.some.inj h
      exact ret _ _ _ _ _ dX5_canBeToldBy_66 hP hS rfl (by first | exact Or.inl rfl | exact Or.inr rfl | assumption)
    · replace h := ip c9 h
      refine lv_iconst (v := (1 : Int32)) hx hb dX5_canBeToldBy_61 (by decide) ?_
      refine lv_goto (tgt := 66) hx hb dX5_canBeToldBy_62 (by decide) ?_
      obtain rfl := Option.some.inj h
      exact ret _ _ _ _ _ dX5_canBeToldBy_66 hP hS rfl (by first | exact Or.inl rfl | exact Or.inr rfl | assumption)
  have L1 : ∀ (n : Nat) (y1_3 : Int32) (y1_4 : Int32) (H : Heap) (locs : List Loc) (ls : Array Slot), X5_canBeToldBy_L1 n σ x1 x2 y1_3 y1_4 = some v1 → WP D ad cI σ τ η H → va_S (AA ad) s.heap H locs → lv_has ls 5 [(0, .ref (ad 15)), (1, .int x1), (2, .int x2), (3, .int y1_3), (4, .int y1_4)] → W p l e rmX5_canBeToldBy s m args below meth c H locs 0 0 Q (F0 m 5 ls []) := by
    intro n
    induction n with
    | zero => intro y1_3 y1_4 H locs ls h; exact absurd h (by simp [X5_canBeToldBy_L1])
    | succ n ih =>
      intro y1_3 y1_4 H locs ls h hP hS hl
      replace h := (X5_canBeToldBy_L1_s n σ x1 x2 y1_3 y1_4).symm.trans h
      refine lv_iload hx hb dX5_canBeToldBy_5 (lv_at hl 4 rfl) ?_
      refine lv_aload_n hx hb dX5_canBeToldBy_7 rfl (lv_at hl 0 rfl) ?_
      refine va_get (D := D) (ci := 5) (v := .int (σ 15 2)) (C := RX5) (T := TX5) (N := 3) hx hb htb wu_5 hown hK.1 hP 15 w_15 rfl 2 (by decide) (htb _ wFL_RX5_18) (fun _ h9 => h9) rfl dX5_canBeToldBy_8 ?_
      refine lv_icmp_ge (tgt := 54) hx hb dX5_canBeToldBy_11 (by decide) (fun c2 => ?_) (fun c2 => ?_)
      · replace h := ip c2 h
        exact K1 _ (Option.some.inj h).symm _ _ _ hP hS (lv_sub hl [2, 3] rfl)
      · replace h := iq c2 h
        refine lv_iload_n hx hb dX5_canBeToldBy_14 rfl (lv_at hl 1 rfl) ?_
        refine lv_iload hx hb dX5_canBeToldBy_15 (lv_at hl 4 rfl) ?_
        obtain ⟨v3, g3, h⟩ := ol h
        refine c_Ni (As := [.int x1, .int y1_4]) (rest := []) (A := AA ad) ⟨hx, hb, hml, hown, htb⟩ (c_X7_bit l D ad cI hd σ τ η x1 y1_4 v3 g3) ⟨va_cnB 2 htb (gdW (fun _ hh => hh) wC_yX7_bit) rfl rfl rfl (hK.2 _ wMN_RX5_42 rfl) (htb _ wI_RX7) hd_X7_bit.2 ⟨by decide, by decide⟩, htb _ wST_yX7_bit, trivial⟩ hK hP (fun _ hh => hh) hS rfl hl.1 rfl (Nat.le_of_ble_eq_true rfl) dX5_canBeToldBy_17 ⟨Nat.le_refl 0, Nat.le_refl 0⟩ (fun H locs hP hS => ?_)
        refine lv_iconst (v := (1 : Int32)) hx hb dX5_canBeToldBy_20 (by decide) ?_
        refine lv_icmp_ne (tgt := 48) hx hb dX5_canBeToldBy_21 (by decide) (fun c4 => ?_) (fun c4 => ?_)
        · replace h := iq c4 h
          refine lv_iinc (v := (y1_4 + (1 : Int32))) (lv' := [(4, .int (y1_4 + (1 : Int32))), (0, .ref (ad 15)), (1, .int x1), (2, .int x2), (3, .int y1_3)]) hx hb dX5_canBeToldBy_48 hl (k := 4) rfl rfl (by decide) rfl (fun ls hl => ?_)
          refine lv_goto (tgt := 5) hx hb dX5_canBeToldBy_51 (by decide) ?_
          exact ih y1_3 (y1_4 + (1 : Int32)) _ _ _ h hP hS (lv_sub hl [1, 2, 3, 4, 0] rfl)
        · replace h := ip c4 h
          refine lv_aload_n hx hb dX5_canBeToldBy_24 rfl (lv_at hl 0 rfl) ?_
          refine va_get (D := D) (ci := 5) (v := .ref (ad 17)) (C := RX5) (T := TX5) (N := 3) hx hb htb wu_5 hown hK.1 hP 15 w_15 rfl 1 (by decide) (htb _ wFL_RX5_15) (fun _ h9 => h9) rfl dX5_canBeToldBy_25 ?_
          refine lv_iload hx hb dX5_canBeToldBy_28 (lv_at hl 4 rfl) ?_
          obtain ⟨v5, g5, h⟩ := ob h
          refine r_ald hx hb hK hP 17 w_17 g5 dX5_canBeToldBy_30 ?_
          refine lv_iload_n hx hb dX5_canBeToldBy_31 rfl (lv_at hl 1 rfl) ?_
          refine lv_iand hx hb dX5_canBeToldBy_32 ?_
          refine lv_if_eq (tgt := 38) hx hb dX5_canBeToldBy_33 (by decide) (fun c6 => ?_) (fun c6 => ?_)
          · replace h := ip c6 h
            refine lv_iload_n hx hb dX5_canBeToldBy_38 rfl (lv_at hl 3 rfl) ?_
            refine lv_aload_n hx hb dX5_canBeToldBy_39 rfl (lv_at hl 0 rfl) ?_
            refine va_get (D := D) (ci := 5) (v := .ref (ad 16)) (C := RX5) (T := TX5) (N := 3) hx hb htb wu_5 hown hK.1 hP 15 w_15 rfl 0 (by decide) (htb _ wFL_RX5_11) (fun _ h9 => h9) rfl dX5_canBeToldBy_40 ?_
            refine lv_iload hx hb dX5_canBeToldBy_43 (lv_at hl 4 rfl) ?_
            obtain ⟨v7, g7, h⟩ := ob h
            refine r_ald hx hb hK hP 16 w_16 g7 dX5_canBeToldBy_45 ?_
            refine lv_ior hx hb dX5_canBeToldBy_46 ?_
            refine lv_istore_n (lv' := [(3, .int (y1_3 ||| v7)), (0, .ref (ad 15)), (1, .int x1), (2, .int x2), (4, .int y1_4)]) hx hb dX5_canBeToldBy_47 rfl hl (by decide) rfl (fun ls hl => ?_)
            refine lv_iinc (v := (y1_4 + (1 : Int32))) (lv' := [(4, .int (y1_4 + (1 : Int32))), (3, .int (y1_3 ||| v7)), (0, .ref (ad 15)), (1, .int x1), (2, .int x2)]) hx hb dX5_canBeToldBy_48 hl (k := 4) rfl rfl (by decide) rfl (fun ls hl => ?_)
            refine lv_goto (tgt := 5) hx hb dX5_canBeToldBy_51 (by decide) ?_
            exact ih (y1_3 ||| v7) (y1_4 + (1 : Int32)) _ _ _ h hP hS (lv_sub hl [2, 3, 4, 1, 0] rfl)
          · replace h := iq c6 h
            refine lv_iconst (v := (0 : Int32)) hx hb dX5_canBeToldBy_36 (by decide) ?_
            have e9 := KR1 _ (Option.some.inj h).symm
            subst e9
            exact ret _ _ _ _ _ dX5_canBeToldBy_37 hP hS rfl (by first | exact Or.inl rfl | exact Or.inr rfl | assumption)
  exact L1 10000 (0 : Int32) (0 : Int32) _ _ _ hj1 hP hS (lv_sub hl [2, 3, 4, 1, 0] rfl)
def X5_fewestFor_L1 (n : Nat) (σ_1 : St) (u1_1 : Int32) (y1_2 : Int32) (y1_3 : Int32) (y1_4 : Int32) : Option (Int32 × Int32 × Int32) := match n with
  | 0 => none
  | n + 1 =>
    if (ishl (1 : Int32) (σ_1 15 2)) ≤ y1_4 then (
      some (y1_2, y1_3, y1_4))
    else (
      lt (J6_bitCount_0f7a4  y1_4) fun v3 =>
      bd ((
          if y1_2 ≤ v3 then (
            some (y1_2, y1_3))
          else (
            bd (X5_canBeToldBy σ_1 y1_4 u1_1) fun v6 =>
            if v6 = 0 then (
              some (y1_2, y1_3))
            else (
              some (v3, y1_4)))) : Option (Int32 × Int32)) fun v5 =>
      X5_fewestFor_L1 n σ_1 u1_1 v5.1 v5.2 (y1_4 + (1 : Int32)))
theorem X5_fewestFor_L1_s (n : Nat) (σ_1 : St) (u1_1 : Int32) (y1_2 : Int32) (y1_3 : Int32) (y1_4 : Int32) : X5_fewestFor_L1 (n + 1) σ_1 u1_1 y1_2 y1_3 y1_4 =
    if (ishl (1 : Int32) (σ_1 15 2)) ≤ y1_4 then (
      some (y1_2, y1_3, y1_4))
    else (
      lt (J6_bitCount_0f7a4  y1_4) fun v3 =>
      bd ((
          if y1_2 ≤ v3 then (
            some (y1_2, y1_3))
          else (
            bd (X5_canBeToldBy σ_1 y1_4 u1_1) fun v6 =>
            if v6 = 0 then (
              some (y1_2, y1_3))
            else (
              some (v3, y1_4)))) : Option (Int32 × Int32)) fun v5 =>
      X5_fewestFor_L1 n σ_1 u1_1 v5.1 v5.2 (y1_4 + (1 : Int32))) := rfl
def X5_fewestFor (σ : St) (x1 : Int32) : Option (Int32) :=
  bd (X5_fewestFor_L1 10000 σ x1 (9 : Int32) (-1 : Int32) (0 : Int32)) fun v1 =>
  some v1.2.1
abbrev rmX5_fewestFor : Room := { frames := 2, cells := 0, slots := 0, locals := 45 }
set_option maxHeartbeats 4000000 in
set_option maxRecDepth 100000 in
theorem c_X5_fewestFor (l : Launch) (D : va_G) (ad : Nat → Nat) (cI : ClassId) (hd : HD ad) (σ τ : St) (η : Int64) (x1 : Int32) (rr : Int32) (h : X5_fewestFor σ x1 = some rr) : MI l yX5_fewestFor (wy yX5_fewestFor cX5_fewestFor 6 (some .int)) rmX5_fewestFor D ad cI [.ref (ad 15), .int x1] σ τ η rr σ τ η := by
  refine mk_i (own := RX5) (lv := [(0, .ref (ad 15)), (1, .int x1)]) (plainFor_of_name (by decide)) rfl (Nat.le_of_ble_eq_true rfl) rfl ?_
  intro p e s m args below meth c Q ls hx hb hml hown htb hK ret hP hS hl
  unfold X5_fewestFor at h
  refine lv_bipush (v := (9 : Int32)) hx hb dX5_fewestFor_0 (by decide) ?_
  refine lv_istore_n (lv' := [(2, .int (9 : Int32)), (0, .ref (ad 15)), (1, .int x1)]) hx hb dX5_fewestFor_2 rfl hl (by decide) rfl (fun ls hl => ?_)
  refine lv_iconst (v := (-1 : Int32)) hx hb dX5_fewestFor_3 (by decide) ?_
  refine lv_istore_n (lv' := [(3, .int (-1 : Int32)), (2, .int (9 : Int32)), (0, .ref (ad 15)), (1, .int x1)]) hx hb dX5_fewestFor_4 rfl hl (by decide) rfl (fun ls hl => ?_)
  refine lv_iconst (v := (0 : Int32)) hx hb dX5_fewestFor_5 (by decide) ?_
  refine lv_istore (lv' := [(4, .int (0 : Int32)), (3, .int (-1 : Int32)), (2, .int (9 : Int32)), (0, .ref (ad 15)), (1, .int x1)]) hx hb dX5_fewestFor_6 hl (by decide) rfl (fun ls hl => ?_)
  obtain ⟨v1, hj1, h⟩ := ob h
  have K1 : ∀ (H : Heap) (locs : List Loc) (ls : Array Slot), WP D ad cI σ τ η H → va_S (AA ad) s.heap H locs → lv_has ls 6 [(3, .int v1.2.1)] → W p l e rmX5_fewestFor s m args below meth c H locs 0 0 Q (F0 m 54 ls []) := by
    intro H locs ls hP hS hl
    refine lv_iload_n hx hb dX5_fewestFor_54 rfl (lv_at hl 0 rfl) ?_
    obtain rfl := Option.some.inj h
    exact ret _ _ _ _ _ dX5_fewestFor_55 hP hS rfl
  have L1 : ∀ (n : Nat) (y1_2 : Int32) (y1_3 : Int32) (y1_4 : Int32) (H : Heap) (locs : List Loc) (ls : Array Slot), X5_fewestFor_L1 n σ x1 y1_2 y1_3 y1_4 = some v1 → WP D ad cI σ τ η H → va_S (AA ad) s.heap H locs → lv_has ls 6 [(0, .ref (ad 15)), (1, .int x1), (2, .int y1_2), (3, .int y1_3), (4, .int y1_4)] → W p l e rmX5_fewestFor s m args below meth c H locs 0 0 Q (F0 m 8 ls []) := by
    intro n
    induction n with
    | zero => intro y1_2 y1_3 y1_4 H locs ls h; exact absurd h (by simp [X5_fewestFor_L1])
    | succ n ih =>
      intro y1_2 y1_3 y1_4 H locs ls h hP hS hl
      replace h := (X5_fewestFor_L1_s n σ x1 y1_2 y1_3 y1_4).symm.trans h
      refine lv_iload hx hb dX5_fewestFor_8 (lv_at hl 4 rfl) ?_
      refine lv_iconst (v := (1 : Int32)) hx hb dX5_fewestFor_10 (by decide) ?_
      refine lv_aload_n hx hb dX5_fewestFor_11 rfl (lv_at hl 0 rfl) ?_
      refine va_get (D := D) (ci := 5) (v := .int (σ 15 2)) (C := RX5) (T := TX5) (N := 3) hx hb htb wu_5 hown hK.1 hP 15 w_15 rfl 2 (by decide) (htb _ wFL_RX5_18) (fun _ h9 => h9) rfl dX5_fewestFor_12 ?_
      refine lv_ishl hx hb dX5_fewestFor_15 ?_
      refine lv_icmp_ge (tgt := 54) hx hb dX5_fewestFor_16 (by decide) (fun c2 => ?_) (fun c2 => ?_)
      · replace h := ip c2 h
        obtain rfl := Option.some.inj h
        exact K1 _ _ _ hP hS (lv_sub hl [3] rfl)
      · replace h := iq c2 h
        refine lv_iload hx hb dX5_fewestFor_19 (lv_at hl 4 rfl) ?_
        obtain ⟨v3, g3, h⟩ := ol h
        refine c_Si (As := [.int y1_4]) (rest := []) (A := AA ad) ⟨hx, hb, hml, hown, htb⟩ (c_J6_bitCount_0f7a4 l D ad cI hd σ τ η y1_4 v3 g3) (va_cwS 1 htb (gdS (fun _ hh => hh) wML_RX5_32 wST_yJ6_bitCount_0f7a4 wI_RJ6 wC_yJ6_bitCount_0f7a4) rfl rfl rfl hd_J6_bitCount_0f7a4.2 ⟨by decide, by decide⟩) hK hP (fun _ hh => hh) hS rfl hl.1 rfl (Nat.le_of_ble_eq_true rfl) dX5_fewestFor_21 ⟨Nat.le_refl 0, Nat.le_refl 0⟩ (fun H locs hP hS => ?_)
        refine lv_istore (lv' := [(5, .int v3), (0, .ref (ad 15)), (1, .int x1), (2, .int y1_2), (3, .int y1_3), (4, .int y1_4)]) hx hb dX5_fewestFor_24 hl (by decide) rfl (fun ls hl => ?_)
        refine lv_iload hx hb dX5_fewestFor_26 (lv_at hl 0 rfl) ?_
        refine lv_iload_n hx hb dX5_fewestFor_28 rfl (lv_at hl 3 rfl) ?_
        obtain ⟨v5, hj5, h⟩ := ob h
        have J5 : ∀ (H : Heap) (locs : List Loc) (ls : Array Slot), WP D ad cI σ τ η H → va_S (AA ad) s.heap H locs → lv_has ls 6 [(0, .ref (ad 15)), (1, .int x1), (2, .int v5.1), (3, .int v5.2), (4, .int y1_4)] → W p l e rmX5_fewestFor s m args below meth c H locs 0 0 Q (F0 m 48 ls []) := by
          intro H locs ls hP hS hl
          refine lv_iinc (v := (y1_4 + (1 : Int32))) (lv' := [(4, .int (y1_4 + (1 : Int32))), (0, .ref (ad 15)), (1, .int x1), (2, .int v5.1), (3, .int v5.2)]) hx hb dX5_fewestFor_48 hl (k := 4) rfl rfl (by decide) rfl (fun ls hl => ?_)
          refine lv_goto (tgt := 8) hx hb dX5_fewestFor_51 (by decide) ?_
          exact ih v5.1 v5.2 (y1_4 + (1 : Int32)) _ _ _ h hP hS (lv_sub hl [1, 2, 3, 4, 0] rfl)
        replace h := hj5
        refine lv_icmp_ge (tgt := 48) hx hb dX5_fewestFor_29 (by decide) (fun c4 => ?_) (fun c4 => ?_)
        · replace h := ip c4 h
          obtain rfl := Option.some.inj h
          exact J5 _ _ _ hP hS (lv_sub hl [1, 2, 3, 4, 5] rfl)
        · replace h := iq c4 h
          refine lv_aload_n hx hb dX5_fewestFor_32 rfl (lv_at hl 1 rfl) ?_
          refine lv_iload hx hb dX5_fewestFor_33 (lv_at hl 5 rfl) ?_
          refine lv_iload_n hx hb dX5_fewestFor_35 rfl (lv_at hl 2 rfl) ?_
          obtain ⟨v6, g6, h⟩ := ob h
          refine c_Vz (q := (RX5, TX5, 3)) (ci := 5) (b := 15) (As := [.int y1_4, .int x1]) (rest := []) (A := AA ad) ⟨hx, hb, hml, hown, htb⟩ (c_X5_canBeToldBy l D ad cI hd σ τ η y1_4 x1 v6 g6) (cwV 2 htb (gdV (fun _ hh => hh) wML_RX5_38 wIM_yX5_canBeToldBy wSE_yX5_canBeToldBy wI_RX5 wC_yX5_canBeToldBy) rfl rfl rfl hd_X5_canBeToldBy ⟨by decide, by decide⟩) hK hP rfl w_15 (fun _ hh => hh) hS rfl hl.1 rfl (Nat.le_of_ble_eq_true rfl) dX5_fewestFor_36 ⟨Nat.le_refl 0, Nat.le_refl 0⟩ (fun H locs hz6 hP hS => ?_)
          refine lv_if_eq (tgt := 48) hx hb dX5_fewestFor_39 (by decide) (fun c7 => ?_) (fun c7 => ?_)
          · replace h := ip c7 h
            obtain rfl := Option.some.inj h
            exact J5 _ _ _ hP hS (lv_sub hl [1, 2, 3, 4, 5] rfl)
          · replace h := iq c7 h
            refine lv_iload hx hb dX5_fewestFor_42 (lv_at hl 0 rfl) ?_
            refine lv_istore_n (lv' := [(2, .int v3), (5, .int v3), (0, .ref (ad 15)), (1, .int x1), (3, .int y1_3), (4, .int y1_4)]) hx hb dX5_fewestFor_44 rfl hl (by decide) rfl (fun ls hl => ?_)
            refine lv_iload hx hb dX5_fewestFor_45 (lv_at hl 5 rfl) ?_
            refine lv_istore_n (lv' := [(3, .int y1_4), (2, .int v3), (5, .int v3), (0, .ref (ad 15)), (1, .int x1), (4, .int y1_4)]) hx hb dX5_fewestFor_47 rfl hl (by decide) rfl (fun ls hl => ?_)
            obtain rfl := Option.some.inj h
            exact J5 _ _ _ hP hS (lv_sub hl [3, 4, 1, 0, 5] rfl)
  exact L1 10000 (9 : Int32) (-1 : Int32) (0 : Int32) _ _ _ hj1 hP hS (lv_sub hl [3, 4, 2, 1, 0] rfl)
def X7_cover (σ : St) (x1 : Int32) : Option (Int32) :=
  if x1 = 0 then (
    bd (X6_on σ (9 : Int32)) fun v2 =>
    bd (X5_fewestFor σ v2) fun v3 =>
    if v3 = (-1 : Int32) then (
      some (-1 : Int32))
    else (
      if x1 = 0 then (
        lt (J6_bitCount_0f7a4  v3) fun v6 =>
        some v6)
      else (
        some v3)))
  else (
    if x1 = (1 : Int32) then (
      bd (X6_on σ (9 : Int32)) fun v8 =>
      bd (X5_fewestFor σ v8) fun v9 =>
      if v9 = (-1 : Int32) then (
        some (-1 : Int32))
      else (
        if x1 = 0 then (
          lt (J6_bitCount_0f7a4  v9) fun v12 =>
          some v12)
        else (
          some v9)))
    else (
      some (-102 : Int32)))
abbrev rmX7_cover : Room := { frames := 3, cells := 0, slots := 0, locals := 70 }
set_option maxHeartbeats 4000000 in
set_option maxRecDepth 100000 in
theorem c_X7_cover (l : Launch) (D : va_G) (ad : Nat → Nat) (cI : ClassId) (hd : HD ad) (σ τ : St) (η : Int64) (x1 : Int32) (rr : Int32) (h : X7_cover σ x1 = some rr) : MI l yX7_cover (wy yX7_cover cX7_cover 3 (some .int)) rmX7_cover D ad cI [.ref (ad 0), .int x1] σ τ η rr σ τ η := by
  refine mk_i (own := RX7) (lv := [(0, .ref (ad 0)), (1, .int x1)]) (plainFor_of_name (by decide)) rfl (Nat.le_of_ble_eq_true rfl) rfl ?_
  intro p e s m args below meth c Q ls hx hb hml hown htb hK ret hP hS hl
  unfold X7_cover at h
  refine lv_iload_n hx hb dX7_cover_0 rfl (lv_at hl 1 rfl) ?_
  refine lv_if_eq (tgt := 12) hx hb dX7_cover_1 (by decide) (fun c1 => ?_) (fun c1 => ?_)
  · replace h := ip c1 h
    refine lv_aload_n hx hb dX7_cover_12 rfl (lv_at hl 0 rfl) ?_
    refine va_get (D := D) (ci := 7) (v := .ref (ad 15)) (C := RX7) (T := TX7) (N := 11) hx hb htb wu_7 hown hK.1 hP 0 w_0 rfl 4 (by decide) (htb _ wFL_RX7_40) (fun _ h9 => h9) rfl dX7_cover_13 ?_
    refine lv_aload_n hx hb dX7_cover_16 rfl (lv_at hl 0 rfl) ?_
    refine va_get (D := D) (ci := 7) (v := .ref (ad 6)) (C := RX7) (T := TX7) (N := 11) hx hb htb wu_7 hown hK.1 hP 0 w_0 rfl 1 (by decide) (htb _ wFL_RX7_19) (fun _ h9 => h9) rfl dX7_cover_17 ?_
    refine lv_bipush (v := (9 : Int32)) hx hb dX7_cover_20 (by decide) ?_
    obtain ⟨v2, g2, h⟩ := ob h
    refine c_Vi (q := (RX6, TX6, 1)) (ci := 6) (b := 6) (As := [.int (9 : Int32)]) (rest := [.ref (ad 15)]) (A := AA ad) ⟨hx, hb, hml, hown, htb⟩ (c_X6_on l D ad cI hd σ τ η (9 : Int32) v2 g2) (cwV 1 htb (gdV (fun _ hh => hh) wML_RX7_233 wIM_yX6_on wSE_yX6_on wI_RX6 wC_yX6_on) rfl rfl rfl hd_X6_on ⟨by decide, by decide⟩) hK hP rfl w_6 (fun _ hh => hh) hS rfl hl.1 rfl (Nat.le_of_ble_eq_true rfl) dX7_cover_22 ⟨Nat.le_refl 0, Nat.le_refl 0⟩ (fun H locs hP hS => ?_)
    obtain ⟨v3, g3, h⟩ := ob h
    refine c_Vi (q := (RX5, TX5, 3)) (ci := 5) (b := 15) (As := [.int v2]) (rest := []) (A := AA ad) ⟨hx, hb, hml, hown, htb⟩ (c_X5_fewestFor l D ad cI hd σ τ η v2 v3 g3) (cwV 1 htb (gdV (fun _ hh => hh) wML_RX7_236 wIM_yX5_fewestFor wSE_yX5_fewestFor wI_RX5 wC_yX5_fewestFor) rfl rfl rfl hd_X5_fewestFor ⟨by decide, by decide⟩) hK hP rfl w_15 (fun _ hh => hh) hS rfl hl.1 rfl (Nat.le_of_ble_eq_true rfl) dX7_cover_25 ⟨Nat.le_refl 0, Nat.le_refl 0⟩ (fun H locs hP hS => ?_)
    refine lv_istore_n (lv' := [(2, .int v3), (0, .ref (ad 0)), (1, .int x1)]) hx hb dX7_cover_28 rfl hl (by decide) rfl (fun ls hl => ?_)
    refine lv_iload_n hx hb dX7_cover_29 rfl (lv_at hl 0 rfl) ?_
    refine lv_iconst (v := (-1 : Int32)) hx hb dX7_cover_30 (by decide) ?_
    refine lv_icmp_ne (tgt := 36) hx hb dX7_cover_31 (by decide) (fun c4 => ?_) (fun c4 => ?_)
    · replace h := iq c4 h
      refine lv_iload_n hx hb dX7_cover_36 rfl (lv_at hl 2 rfl) ?_
      refine lv_if_ne (tgt := 47) hx hb dX7_cover_37 (by decide) (fun c5 => ?_) (fun c5 => ?_)
      · replace h := iq c5 h
        refine lv_iload_n hx hb dX7_cover_47 rfl (lv_at hl 0 rfl) ?_
        obtain rfl := Option.some.inj h
        exact ret _ _ _ _ _ dX7_cover_48 hP hS rfl
      · replace h := ip c5 h
        refine lv_iload_n hx hb dX7_cover_40 rfl (lv_at hl 0 rfl) ?_
        obtain ⟨v6, g6, h⟩ := ol h
        refine c_Si (As := [.int v3]) (rest := []) (A := AA ad) ⟨hx, hb, hml, hown, htb⟩ (c_J6_bitCount_0f7a4 l D ad cI hd σ τ η v3 v6 g6) (va_cwS 1 htb (gdS (fun _ hh => hh) wML_RX7_239 wST_yJ6_bitCount_0f7a4 wI_RJ6 wC_yJ6_bitCount_0f7a4) rfl rfl rfl hd_J6_bitCount_0f7a4.2 ⟨by decide, by decide⟩) hK hP (fun _ hh => hh) hS rfl hl.1 rfl (Nat.le_of_ble_eq_true rfl) dX7_cover_41 ⟨Nat.le_refl 0, Nat.le_refl 0⟩ (fun H locs hP hS => ?_)
        refine lv_goto (tgt := 48) hx hb dX7_cover_44 (by decide) ?_
        obtain rfl := Option.some.inj h
        exact ret _ _ _ _ _ dX7_cover_48 hP hS rfl
    · replace h := ip c4 h
      refine lv_iconst (v := (-1 : Int32)) hx hb dX7_cover_34 (by decide) ?_
      obtain rfl := Option.some.inj h
      exact ret _ _ _ _ _ dX7_cover_35 hP hS rfl
  · replace h := iq c1 h
    refine lv_iload_n hx hb dX7_cover_4 rfl (lv_at hl 1 rfl) ?_
    refine lv_iconst (v := (1 : Int32)) hx hb dX7_cover_5 (by decide) ?_
    refine lv_icmp_eq (tgt := 12) hx hb dX7_cover_6 (by decide) (fun c7 => ?_) (fun c7 => ?_)
    · replace h := ip c7 h
      refine lv_aload_n hx hb dX7_cover_12 rfl (lv_at hl 0 rfl) ?_
      refine va_get (D := D) (ci := 7) (v := .ref (ad 15)) (C := RX7) (T := TX7) (N := 11) hx hb htb wu_7 hown hK.1 hP 0 w_0 rfl 4 (by decide) (htb _ wFL_RX7_40) (fun _ h9 => h9) rfl dX7_cover_13 ?_
      refine lv_aload_n hx hb dX7_cover_16 rfl (lv_at hl 0 rfl) ?_
      refine va_get (D := D) (ci := 7) (v := .ref (ad 6)) (C := RX7) (T := TX7) (N := 11) hx hb htb wu_7 hown hK.1 hP 0 w_0 rfl 1 (by decide) (htb _ wFL_RX7_19) (fun _ h9 => h9) rfl dX7_cover_17 ?_
      refine lv_bipush (v := (9 : Int32)) hx hb dX7_cover_20 (by decide) ?_
      obtain ⟨v8, g8, h⟩ := ob h
      refine c_Vi (q := (RX6, TX6, 1)) (ci := 6) (b := 6) (As := [.int (9 : Int32)]) (rest := [.ref (ad 15)]) (A := AA ad) ⟨hx, hb, hml, hown, htb⟩ (c_X6_on l D ad cI hd σ τ η (9 : Int32) v8 g8) (cwV 1 htb (gdV (fun _ hh => hh) wML_RX7_233 wIM_yX6_on wSE_yX6_on wI_RX6 wC_yX6_on) rfl rfl rfl hd_X6_on ⟨by decide, by decide⟩) hK hP rfl w_6 (fun _ hh => hh) hS rfl hl.1 rfl (Nat.le_of_ble_eq_true rfl) dX7_cover_22 ⟨Nat.le_refl 0, Nat.le_refl 0⟩ (fun H locs hP hS => ?_)
      obtain ⟨v9, g9, h⟩ := ob h
      refine c_Vi (q := (RX5, TX5, 3)) (ci := 5) (b := 15) (As := [.int v8]) (rest := []) (A := AA ad) ⟨hx, hb, hml, hown, htb⟩ (c_X5_fewestFor l D ad cI hd σ τ η v8 v9 g9) (cwV 1 htb (gdV (fun _ hh => hh) wML_RX7_236 wIM_yX5_fewestFor wSE_yX5_fewestFor wI_RX5 wC_yX5_fewestFor) rfl rfl rfl hd_X5_fewestFor ⟨by decide, by decide⟩) hK hP rfl w_15 (fun _ hh => hh) hS rfl hl.1 rfl (Nat.le_of_ble_eq_true rfl) dX7_cover_25 ⟨Nat.le_refl 0, Nat.le_refl 0⟩ (fun H locs hP hS => ?_)
      refine lv_istore_n (lv' := [(2, .int v9), (0, .ref (ad 0)), (1, .int x1)]) hx hb dX7_cover_28 rfl hl (by decide) rfl (fun ls hl => ?_)
      refine lv_iload_n hx hb dX7_cover_29 rfl (lv_at hl 0 rfl) ?_
      refine lv_iconst (v := (-1 : Int32)) hx hb dX7_cover_30 (by decide) ?_
      refine lv_icmp_ne (tgt := 36) hx hb dX7_cover_31 (by decide) (fun c10 => ?_) (fun c10 => ?_)
      · replace h := iq c10 h
        refine lv_iload_n hx hb dX7_cover_36 rfl (lv_at hl 2 rfl) ?_
        refine lv_if_ne (tgt := 47) hx hb dX7_cover_37 (by decide) (fun c11 => ?_) (fun c11 => ?_)
        · replace h := iq c11 h
          refine lv_iload_n hx hb dX7_cover_47 rfl (lv_at hl 0 rfl) ?_
          obtain rfl := Option.some.inj h
          exact ret _ _ _ _ _ dX7_cover_48 hP hS rfl
        · replace h := ip c11 h
          refine lv_iload_n hx hb dX7_cover_40 rfl (lv_at hl 0 rfl) ?_
          obtain ⟨v12, g12, h⟩ := ol h
          refine c_Si (As := [.int v9]) (rest := []) (A := AA ad) ⟨hx, hb, hml, hown, htb⟩ (c_J6_bitCount_0f7a4 l D ad cI hd σ τ η v9 v12 g12) (va_cwS 1 htb (gdS (fun _ hh => hh) wML_RX7_239 wST_yJ6_bitCount_0f7a4 wI_RJ6 wC_yJ6_bitCount_0f7a4) rfl rfl rfl hd_J6_bitCount_0f7a4.2 ⟨by decide, by decide⟩) hK hP (fun _ hh => hh) hS rfl hl.1 rfl (Nat.le_of_ble_eq_true rfl) dX7_cover_41 ⟨Nat.le_refl 0, Nat.le_refl 0⟩ (fun H locs hP hS => ?_)
          refine lv_goto (tgt := 48) hx hb dX7_cover_44 (by decide) ?_
          obtain rfl := Option.some.inj h
          exact ret _ _ _ _ _ dX7_cover_48 hP hS rfl
      · replace h := ip c10 h
        refine lv_iconst (v := (-1 : Int32)) hx hb dX7_cover_34 (by decide) ?_
        obtain rfl := Option.some.inj h
        exact ret _ _ _ _ _ dX7_cover_35 hP hS rfl
    · replace h := iq c7 h
      refine lv_bipush (v := (-102 : Int32)) hx hb dX7_cover_9 (by decide) ?_
      obtain rfl := Option.some.inj h
      exact ret _ _ _ _ _ dX7_cover_11 hP hS rfl
