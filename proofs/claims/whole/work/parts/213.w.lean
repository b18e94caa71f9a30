def X7_look (σ : St) (x1 : Int32) (x2 : Int32) : Option (Int32 × St) :=
  lt (X4_has σ x1) fun v1 =>
  if v1 = 0 then (
    some ((-101 : Int32), σ))
  else (
    lt (X4_isHow  x2) fun v3 =>
    if v3 = 0 then (
      some ((-102 : Int32), σ))
    else (
      bd (X4_howOf σ x1) fun v5 =>
      bd (X4_putHow σ x1 x2) fun v6 =>
      some (v5, v6)))
abbrev rmX7_look : Room := { frames := 2, cells := 0, slots := 0, locals := 43 }
set_option maxHeartbeats 4000000 in
set_option maxRecDepth 100000 in
theorem c_X7_look (l : Launch) (D : va_G) (ad : Nat → Nat) (cI : ClassId) (hd : HD ad) (σ τ : St) (η : Int64) (x1 : Int32) (x2 : Int32) (rr : Int32 × St) (h : X7_look σ x1 x2 = some rr) : MI l yX7_look (wy yX7_look cX7_look 4 (some .int)) rmX7_look D ad cI [.ref (ad 0), .int x1, .int x2] σ τ η rr.1 rr.2 τ η := by
  refine mk_i (own := RX7) (lv := [(0, .ref (ad 0)), (1, .int x1), (2, .int x2)]) (plainFor_of_name (by decide)) rfl (Nat.le_of_ble_eq_true rfl) rfl ?_
  intro p e s m args below meth c Q ls hx hb hml hown htb hK ret hP hS hl
  unfold X7_look at h
  refine lv_aload_n hx hb dX7_look_0 rfl (lv_at hl 0 rfl) ?_
  refine va_get (D := D) (ci := 7) (v := .ref (ad 18)) (C := RX7) (T := TX7) (N := 11) hx hb htb wu_7 hown hK.1 hP 0 w_0 rfl 5 (by decide) (htb _ wFL_RX7_47) (fun _ h9 => h9) rfl dX7_look_1 ?_
  refine lv_iload_n hx hb dX7_look_4 rfl (lv_at hl 1 rfl) ?_
  obtain ⟨v1, g1, h⟩ := ol h
  refine c_Vz (q := (RX4, TX4, 4)) (ci := 4) (b := 18) (As := [.int x1]) (rest := []) (A := AA ad) ⟨hx, hb, hml, hown, htb⟩ (c_X4_has l D ad cI hd σ τ η x1 v1 g1) (cwV 1 htb (gdV (fun _ hh => hh) wML_RX7_248 wIM_yX4_has wSE_yX4_has wI_RX4 wC_yX4_has) rfl rfl rfl hd_X4_has ⟨by decide, by decide⟩) hK hP rfl w_18 (fun _ hh => hh) hS rfl hl.1 rfl (Nat.le_of_ble_eq_true rfl) dX7_look_5 ⟨Nat.le_refl 0, Nat.le_refl 0⟩ (fun H locs hz1 hP hS => ?_)
  refine lv_if_ne (tgt := 14) hx hb dX7_look_8 (by decide) (fun c2 => ?_) (fun c2 => ?_)
  · replace h := iq c2 h
    refine lv_iload_n hx hb dX7_look_14 rfl (lv_at hl 2 rfl) ?_
    obtain ⟨v3, g3, h⟩ := ol h
    refine c_Sz (As := [.int x2]) (rest := []) (A := AA ad) ⟨hx, hb, hml, hown, htb⟩ (c_X4_isHow l D ad cI hd σ τ η x2 v3 g3) (va_cwS 1 htb (gdS (fun _ hh => hh) wML_RX7_249 wST_yX4_isHow wI_RX4 wC_yX4_isHow) rfl rfl rfl hd_X4_isHow.2 ⟨by decide, by decide⟩) hK hP (fun _ hh => hh) hS rfl hl.1 rfl (Nat.le_of_ble_eq_true rfl) dX7_look_15 ⟨Nat.le_refl 0, Nat.le_refl 0⟩ (fun H locs hz3 hP hS => ?_)
    refine lv_if_ne (tgt := 24) hx hb dX7_look_18 (by decide) (fun c4 => ?_) (fun c4 => ?_)
    · replace h := iq c4 h
      refine lv_aload_n hx hb dX7_look_24 rfl (lv_at hl 0 rfl) ?_
      refine va_get (D := D) (ci := 7) (v := .ref (ad 18)) (C := RX7) (T := TX7) (N := 11) hx hb htb wu_7 hown hK.1 hP 0 w_0 rfl 5 (by decide) (htb _ wFL_RX7_47) (fun _ h9 => h9) rfl dX7_look_25 ?_
      refine lv_iload_n hx hb dX7_look_28 rfl (lv_at hl 1 rfl) ?_
      obtain ⟨v5, g5, h⟩ := ob h
      refine c_Vi (q := (RX4, TX4, 4)) (ci := 4) (b := 18) (As := [.int x1]) (rest := []) (A := AA ad) ⟨hx, hb, hml, hown, htb⟩ (c_X4_howOf l D ad cI hd σ τ η x1 v5 g5) (cwV 1 htb (gdV (fun _ hh => hh) wML_RX7_252 wIM_yX4_howOf wSE_yX4_howOf wI_RX4 wC_yX4_howOf) rfl rfl rfl hd_X4_howOf ⟨by decide, by decide⟩) hK hP rfl w_18 (fun _ hh => hh) hS rfl hl.1 rfl (Nat.le_of_ble_eq_true rfl) dX7_look_29 ⟨Nat.le_refl 0, Nat.le_refl 0⟩ (fun H locs hP hS => ?_)
      refine lv_istore_n (lv' := [(3, .int v5), (0, .ref (ad 0)), (1, .int x1), (2, .int x2)]) hx hb dX7_look_32 rfl hl (by decide) rfl (fun ls hl => ?_)
      refine lv_aload_n hx hb dX7_look_33 rfl (lv_at hl 1 rfl) ?_
      refine va_get (D := D) (ci := 7) (v := .ref (ad 18)) (C := RX7) (T := TX7) (N := 11) hx hb htb wu_7 hown hK.1 hP 0 w_0 rfl 5 (by decide) (htb _ wFL_RX7_47) (fun _ h9 => h9) rfl dX7_look_34 ?_
      refine lv_iload_n hx hb dX7_look_37 rfl (lv_at hl 2 rfl) ?_
      refine lv_iload_n hx hb dX7_look_38 rfl (lv_at hl 3 rfl) ?_
      obtain ⟨v6, g6, h⟩ := ob h
      refine c_Vv (q := (RX4, TX4, 4)) (ci := 4) (b := 18) (As := [.int x1, .int x2]) (rest := []) (A := AA ad) ⟨hx, hb, hml, hown, htb⟩ (c_X4_putHow l D ad cI hd σ τ η x1 x2 v6 g6) (cwV 2 htb (gdV (fun _ hh => hh) wML_RX7_255 wIM_yX4_putHow wSE_yX4_putHow wI_RX4 wC_yX4_putHow) rfl rfl rfl hd_X4_putHow ⟨by decide, by decide⟩) hK hP rfl w_18 (fun _ hh => hh) hS rfl hl.1 rfl (Nat.le_of_ble_eq_true rfl) dX7_look_39 ⟨Nat.le_refl 0, Nat.le_refl 0⟩ (fun H locs hP hS => ?_)
      refine lv_iload_n hx hb dX7_look_42 rfl (lv_at hl 0 rfl) ?_
      obtain rfl := Option.some.inj h
      exact ret _ _ _ _ _ dX7_look_43 hP hS rfl
    · replace h := ip c4 h
      refine lv_bipush (v := (-102 : Int32)) hx hb dX7_look_21 (by decide) ?_
      obtain rfl := Option.some.inj h
      exact ret _ _ _ _ _ dX7_look_23 hP hS rfl
  · replace h := ip c2 h
    refine lv_bipush (v := (-101 : Int32)) hx hb dX7_look_11 (by decide) ?_
    obtain rfl := Option.some.inj h
    exact ret _ _ _ _ _ dX7_look_13 hP hS rfl
def X8_isSign (τ : St) (x1 : Int32) : Int32 :=
  lt (X8_in  ((x1).toInt64) (0 : Int64) ((((τ 29 18) - (1 : Int32))).toInt64)) fun v1 =>
  v1
abbrev rmX8_isSign : Room := { frames := 1, cells := 0, slots := 0, locals := 25 }
set_option maxHeartbeats 4000000 in
set_option maxRecDepth 100000 in
theorem c_X8_isSign (l : Launch) (D : va_G) (ad : Nat → Nat) (cI : ClassId) (hd : HD ad) (σ τ : St) (η : Int64) (x1 : Int32) (rr : Int32) (h : X8_isSign τ x1 = rr) : MZ l yX8_isSign (wy yX8_isSign cX8_isSign 2 (some .boolean)) rmX8_isSign D ad cI [.ref (ad 29), .int x1] σ τ η rr σ τ η := by
  refine mk_z (own := RX8) (lv := [(0, .ref (ad 29)), (1, .int x1)]) (plainFor_of_name (by decide)) rfl (Nat.le_of_ble_eq_true rfl) rfl ?_
  intro p e s m args below meth c Q ls hx hb hml hown htb hK ret hP hS hl
  unfold X8_isSign at h
  refine lv_iload_n hx hb dX8_isSign_0 rfl (lv_at hl 1 rfl) ?_
  refine lv_i2l (v := ((x1).toInt64)) hx hb dX8_isSign_1 rfl ?_
  refine lv_lconst (v := (0 : Int64)) hx hb dX8_isSign_2 rfl ?_
  refine lv_aload_n hx hb dX8_isSign_3 rfl (lv_at hl 0 rfl) ?_
  refine va_get (D := D) (ci := 8) (v := .int (τ 29 18)) (C := RX8) (T := TX8) (N := 27) hx hb htb wu_8 hown hK.1 hP 29 w_29 rfl 18 (by decide) (htb _ wFL_RX8_189) (fun _ h9 => h9) rfl dX8_isSign_4 ?_
  refine lv_iconst (v := (1 : Int32)) hx hb dX8_isSign_7 (by decide) ?_
  refine lv_isub hx hb dX8_isSign_8 ?_
  refine lv_i2l (v := ((((τ 29 18) - (1 : Int32))).toInt64)) hx hb dX8_isSign_9 rfl ?_
  obtain ⟨v1, g1, h⟩ := ol h
  refine c_Sz (As := [.long ((x1).toInt64), .long (0 : Int64), .long ((((τ 29 18) - (1 : Int32))).toInt64)]) (rest := []) (A := AA ad) ⟨hx, hb, hml, hown, htb⟩ (c_X8_in l D ad cI hd σ τ η ((x1).toInt64) (0 : Int64) ((((τ 29 18) - (1 : Int32))).toInt64) v1 g1) (va_cwS 3 htb (gdS (fun _ hh => hh) wML_RX8_65 wST_yX8_in wI_RX8 wC_yX8_in) rfl rfl rfl hd_X8_in.2 ⟨by decide, by decide⟩) hK hP (fun _ hh => hh) hS rfl hl.1 rfl (Nat.le_of_ble_eq_true rfl) dX8_isSign_10 ⟨Nat.le_refl 0, Nat.le_refl 0⟩ (fun H locs hz1 hP hS => ?_)
  subst h
  exact ret _ _ _ _ _ dX8_isSign_13 hP hS rfl (by first | exact Or.inl rfl | exact Or.inr rfl | assumption)
def X8_look (τ : St) (x1 : Int32) (x2 : Int32) : Option (Int32 × St) :=
  lt (X8_isSign τ x1) fun v1 =>
  if v1 = 0 then (
    some ((-101 : Int32), τ))
  else (
    lt (X8_in  ((x2).toInt64) (0 : Int64) (2 : Int64)) fun v3 =>
    if v3 = 0 then (
      some ((-102 : Int32), τ))
    else (
      bd (rd (τ 42) 24 (((3 : Int32) * x1) + (2 : Int32))) fun v5 =>
      bd (wa τ 42 24 (((3 : Int32) * x1) + (2 : Int32)) x2) fun τ6 =>
      some (v5, τ6)))
abbrev rmX8_look : Room := { frames := 2, cells := 0, slots := 0, locals := 46 }
set_option maxHeartbeats 4000000 in
set_option maxRecDepth 100000 in
theorem c_X8_look (l : Launch) (D : va_G) (ad : Nat → Nat) (cI : ClassId) (hd : HD ad) (σ τ : St) (η : Int64) (x1 : Int32) (x2 : Int32) (rr : Int32 × St) (h : X8_look τ x1 x2 = some rr) : MI l yX8_look (wy yX8_look cX8_look 4 (some .int)) rmX8_look D ad cI [.ref (ad 29), .int x1, .int x2] σ τ η rr.1 σ rr.2 η := by
  refine mk_i (own := RX8) (lv := [(0, .ref (ad 29)), (1, .int x1), (2, .int x2)]) (plainFor_of_name (by decide)) rfl (Nat.le_of_ble_eq_true rfl) rfl ?_
  intro p e s m args below meth c Q ls hx hb hml hown htb hK ret hP hS hl
  unfold X8_look at h
  refine lv_aload_n hx hb dX8_look_0 rfl (lv_at hl 0 rfl) ?_
  refine lv_iload_n hx hb dX8_look_1 rfl (lv_at hl 1 rfl) ?_
  obtain ⟨v1, g1, h⟩ := ol h
  refine c_Vz (q := (RX8, TX8, 27)) (ci := 8) (b := 29) (As := [.int x1]) (rest := []) (A := AA ad) ⟨hx, hb, hml, hown, htb⟩ (c_X8_isSign l D ad cI hd σ τ η x1 v1 g1) (cwV 1 htb (gdV (fun _ hh => hh) wML_RX8_192 wIM_yX8_isSign wSE_yX8_isSign wI_RX8 wC_yX8_isSign) rfl rfl rfl hd_X8_isSign ⟨by decide, by decide⟩) hK hP rfl w_29 (fun _ hh => hh) hS rfl hl.1 rfl (Nat.le_of_ble_eq_true rfl) dX8_look_2 ⟨Nat.le_refl 0, Nat.le_refl 0⟩ (fun H locs hz1 hP hS => ?_)
  refine lv_if_ne (tgt := 11) hx hb dX8_look_5 (by decide) (fun c2 => ?_) (fun c2 => ?_)
  · replace h := iq c2 h
    refine lv_iload_n hx hb dX8_look_11 rfl (lv_at hl 2 rfl) ?_
    refine lv_i2l (v := ((x2).toInt64)) hx hb dX8_look_12 rfl ?_
    refine lv_lconst (v := (0 : Int64)) hx hb dX8_look_13 rfl ?_
    refine lv_ldc2 (v := (2 : Int64)) hx hb hown (htb _ wKL_RX8_119) dX8_look_14 ?_
    obtain ⟨v3, g3, h⟩ := ol h
    refine c_Sz (As := [.long ((x2).toInt64), .long (0 : Int64), .long (2 : Int64)]) (rest := []) (A := AA ad) ⟨hx, hb, hml, hown, htb⟩ (c_X8_in l D ad cI hd σ τ η ((x2).toInt64) (0 : Int64) (2 : Int64) v3 g3) (va_cwS 3 htb (gdS (fun _ hh => hh) wML_RX8_65 wST_yX8_in wI_RX8 wC_yX8_in) rfl rfl rfl hd_X8_in.2 ⟨by decide, by decide⟩) hK hP (fun _ hh => hh) hS rfl hl.1 rfl (Nat.le_of_ble_eq_true rfl) dX8_look_17 ⟨Nat.le_refl 0, Nat.le_refl 0⟩ (fun H locs hz3 hP hS => ?_)
    refine lv_if_ne (tgt := 26) hx hb dX8_look_20 (by decide) (fun c4 => ?_) (fun c4 => ?_)
    · replace h := iq c4 h
      refine lv_aload_n hx hb dX8_look_26 rfl (lv_at hl 0 rfl) ?_
      refine va_get (D := D) (ci := 8) (v := .ref (ad 42)) (C := RX8) (T := TX8) (N := 27) hx hb htb wu_8 hown hK.1 hP 29 w_29 rfl 19 (by decide) (htb _ wFL_RX8_46) (fun _ h9 => h9) rfl dX8_look_27 ?_
      refine lv_iconst (v := (3 : Int32)) hx hb dX8_look_30 (by decide) ?_
      refine lv_iload_n hx hb dX8_look_31 rfl (lv_at hl 1 rfl) ?_
      refine lv_imul hx hb dX8_look_32 ?_
      refine lv_iconst (v := (2 : Int32)) hx hb dX8_look_33 (by decide) ?_
      refine lv_iadd hx hb dX8_look_34 ?_
      obtain ⟨v5, g5, h⟩ := ob h
      refine r_ald hx hb hK hP 42 w_42 g5 dX8_look_35 ?_
      refine lv_istore_n (lv' := [(3, .int v5), (0, .ref (ad 29)), (1, .int x1), (2, .int x2)]) hx hb dX8_look_36 rfl hl (by decide) rfl (fun ls hl => ?_)
      refine lv_aload_n hx hb dX8_look_37 rfl (lv_at hl 1 rfl) ?_
      refine va_get (D := D) (ci := 8) (v := .ref (ad 42)) (C := RX8) (T := TX8) (N := 27) hx hb htb wu_8 hown hK.1 hP 29 w_29 rfl 19 (by decide) (htb _ wFL_RX8_46) (fun _ h9 => h9) rfl dX8_look_38 ?_
      refine lv_iconst (v := (3 : Int32)) hx hb dX8_look_41 (by decide) ?_
      refine lv_iload_n hx hb dX8_look_42 rfl (lv_at hl 2 rfl) ?_
      refine lv_imul hx hb dX8_look_43 ?_
      refine lv_iconst (v := (2 : Int32)) hx hb dX8_look_44 (by decide) ?_
      refine lv_iadd hx hb dX8_look_45 ?_
      refine lv_iload_n hx hb dX8_look_46 rfl (lv_at hl 3 rfl) ?_
      obtain ⟨τ6, g6, h⟩ := ob h
      refine r_astM (A := AA ad) hx hb hK hd (fun _ hh => hh) hP hS 42 24 (by decide) (fun _ => rfl) g6 dX8_look_47 (fun H locs hP hS => ?_)
      refine lv_iload_n hx hb dX8_look_48 rfl (lv_at hl 0 rfl) ?_
      obtain rfl := Option.some.inj h
      exact ret _ _ _ _ _ dX8_look_49 hP hS rfl
    · replace h := ip c4 h
      refine lv_bipush (v := (-102 : Int32)) hx hb dX8_look_23 (by decide) ?_
      obtain rfl := Option.some.inj h
      exact ret _ _ _ _ _ dX8_look_25 hP hS rfl
  · replace h := ip c2 h
    refine lv_bipush (v := (-101 : Int32)) hx hb dX8_look_8 (by decide) ?_
    obtain rfl := Option.some.inj h
    exact ret _ _ _ _ _ dX8_look_10 hP hS rfl
def J9_abs_0f7a4  (x0 : Int32) : Int32 :=
  if 0 ≤ x0 then (
    x0)
  else (
    (-x0))
abbrev rmJ9_abs_0f7a4 : Room := { frames := 0, cells := 0, slots := 0, locals := 0 }
set_option maxHeartbeats 4000000 in
set_option maxRecDepth 100000 in
theorem c_J9_abs_0f7a4 (l : Launch) (D : va_G) (ad : Nat → Nat) (cI : ClassId) (hd : HD ad) (σ τ : St) (η : Int64) (x0 : Int32) (rr : Int32) (h : J9_abs_0f7a4  x0 = rr) : MI l yJ9_abs_0f7a4 (wy yJ9_abs_0f7a4 cJ9_abs_0f7a4 1 (some .int)) rmJ9_abs_0f7a4 D ad cI [.int x0] σ τ η rr σ τ η := by
  refine mk_i (own := RJ9) (lv := [(0, .int x0)]) (by decide +kernel) rfl (Nat.le_of_ble_eq_true rfl) rfl ?_
  intro p e s m args below meth c Q ls hx hb hml hown htb hK ret hP hS hl
  unfold J9_abs_0f7a4 at h
  refine lv_iload_n hx hb dJ9_abs_0f7a4_0 rfl (lv_at hl 0 rfl) ?_
  refine lv_if_ge (tgt := 9) hx hb dJ9_abs_0f7a4_1 (by decide) (fun c1 => ?_) (fun c1 => ?_)
  · replace h := ip c1 h
    refine lv_iload_n hx hb dJ9_abs_0f7a4_9 rfl (lv_at hl 0 rfl) ?_
    subst h
    exact ret _ _ _ _ _ dJ9_abs_0f7a4_10 hP hS rfl
  · replace h := iq c1 h
    refine lv_iload_n hx hb dJ9_abs_0f7a4_4 rfl (lv_at hl 0 rfl) ?_
    refine lv_ineg hx hb dJ9_abs_0f7a4_5 ?_
    refine lv_goto (tgt := 10) hx hb dJ9_abs_0f7a4_6 (by decide) ?_
    subst h
    exact ret _ _ _ _ _ dJ9_abs_0f7a4_10 hP hS rfl
def X4_onTrail  (x0 : Int32) (x1 : Int32) (x2 : Int32) : Int32 :=
  lt (J9_abs_0f7a4  (x1 - x0)) fun v1 =>
  if x1 ≤ x0 then (
    (x0 - (((v1 * x2) + (9 : Int32)) / (10 : Int32))))
  else (
    (x0 + (((v1 * x2) + (9 : Int32)) / (10 : Int32))))
abbrev rmX4_onTrail : Room := { frames := 1, cells := 0, slots := 0, locals := 20 }
set_option maxHeartbeats 4000000 in
set_option maxRecDepth 100000 in
theorem c_X4_onTrail (l : Launch) (D : va_G) (ad : Nat → Nat) (cI : ClassId) (hd : HD ad) (σ τ : St) (η : Int64) (x0 : Int32) (x1 : Int32) (x2 : Int32) (rr : Int32) (h : X4_onTrail  x0 x1 x2 = rr) : MI l yX4_onTrail (wy yX4_onTrail cX4_onTrail 4 (some .int)) rmX4_onTrail D ad cI [.int x0, .int x1, .int x2] σ τ η rr σ τ η := by
  refine mk_i (own := RX4) (lv := [(0, .int x0), (1, .int x1), (2, .int x2)]) (plainFor_of_name (by decide)) rfl (Nat.le_of_ble_eq_true rfl) rfl ?_
  intro p e s m args below meth c Q ls hx hb hml hown htb hK ret hP hS hl
  unfold X4_onTrail at h
  refine lv_iload_n hx hb dX4_onTrail_0 rfl (lv_at hl 1 rfl) ?_
  refine lv_iload_n hx hb dX4_onTrail_1 rfl (lv_at hl 0 rfl) ?_
  refine lv_isub hx hb dX4_onTrail_2 ?_
  obtain ⟨v1, g1, h⟩ := ol h
  refine c_Si (As := [.int (x1 - x0)]) (rest := []) (A := AA ad) ⟨hx, hb, hml, hown, htb⟩ (c_J9_abs_0f7a4 l D ad cI hd σ τ η (x1 - x0) v1 g1) (va_cwS 1 htb (gdS (fun _ hh => hh) wML_RX4_33 wST_yJ9_abs_0f7a4 wI_RJ9 wC_yJ9_abs_0f7a4) rfl rfl rfl hd_J9_abs_0f7a4.2 ⟨by decide, by decide⟩) hK hP (fun _ hh => hh) hS rfl hl.1 rfl (Nat.le_of_ble_eq_true rfl) dX4_onTrail_3 ⟨Nat.le_refl 0, Nat.le_refl 0⟩ (fun H locs hP hS => ?_)
  refine lv_iload_n hx hb dX4_onTrail_6 rfl (lv_at hl 2 rfl) ?_
  refine lv_imul hx hb dX4_onTrail_7 ?_
  refine lv_bipush (v := (9 : Int32)) hx hb dX4_onTrail_8 (by decide) ?_
  refine lv_iadd hx hb dX4_onTrail_10 ?_
  refine lv_bipush (v := (10 : Int32)) hx hb dX4_onTrail_11 (by decide) ?_
  refine lv_idiv hx hb dX4_onTrail_13 (by decide) ?_
  refine lv_istore_n (lv' := [(3, .int (((v1 * x2) + (9 : Int32)) / (10 : Int32))), (0, .int x0), (1, .int x1), (2, .int x2)]) hx hb dX4_onTrail_14 rfl hl (by decide) rfl (fun ls hl => ?_)
  refine lv_iload_n hx hb dX4_onTrail_15 rfl (lv_at hl 1 rfl) ?_
  refine lv_iload_n hx hb dX4_onTrail_16 rfl (lv_at hl 2 rfl) ?_
  refine lv_icmp_ge (tgt := 26) hx hb dX4_onTrail_17 (by decide) (fun c2 => ?_) (fun c2 => ?_)
  · replace h := ip c2 h
    refine lv_iload_n hx hb dX4_onTrail_26 rfl (lv_at hl 1 rfl) ?_
    refine lv_iload_n hx hb dX4_onTrail_27 rfl (lv_at hl 0 rfl) ?_
    refine lv_isub hx hb dX4_onTrail_28 ?_
    subst h
    exact ret _ _ _ _ _ dX4_onTrail_29 hP hS rfl
  · replace h := iq c2 h
    refine lv_iload_n hx hb dX4_onTrail_20 rfl (lv_at hl 1 rfl) ?_
    refine lv_iload_n hx hb dX4_onTrail_21 rfl (lv_at hl 0 rfl) ?_
    refine lv_iadd hx hb dX4_onTrail_22 ?_
    refine lv_goto (tgt := 29) hx hb dX4_onTrail_23 (by decide) ?_
    subst h
    exact ret _ _ _ _ _ dX4_onTrail_29 hP hS rfl
def X4_oddsIfThereIsOne_L1 (n : Nat) (σ_1 : St) (u1_1 : Int32) (y1_2 : Int64) (y1_4 : Int32) : Option (Int64 × Int32) := match n with
  | 0 => none
  | n + 1 =>
    if (σ_1 18 3) ≤ y1_4 then (
      some (y1_2, y1_4))
    else (
      bd (rd (σ_1 21) 8 y1_4) fun v3 =>
      bd ((
          if v3 = (1 : Int32) then (
            bd (rd (σ_1 19) 8 y1_4) fun v9 =>
            bd (rd (σ_1 20) 8 y1_4) fun v10 =>
            lt (X4_onTrail  v9 v10 u1_1) fun v11 =>
            some (y1_2 * ((v11).toInt64)))
          else (
            bd (rd (σ_1 21) 8 y1_4) fun v6 =>
            if v6 = (2 : Int32) then (
              bd (rd (σ_1 19) 8 y1_4) fun v8 =>
              some (y1_2 * ((((10 : Int32) - v8)).toInt64)))
            else (
              some y1_2))) : Option (Int64)) fun v5 =>
      X4_oddsIfThereIsOne_L1 n σ_1 u1_1 v5 (y1_4 + (1 : Int32)))
theorem X4_oddsIfThereIsOne_L1_s (n : Nat) (σ_1 : St) (u1_1 : Int32) (y1_2 : Int64) (y1_4 : Int32) : X4_oddsIfThereIsOne_L1 (n + 1) σ_1 u1_1 y1_2 y1_4 =
    if (σ_1 18 3) ≤ y1_4 then (
      some (y1_2, y1_4))
    else (
      bd (rd (σ_1 21) 8 y1_4) fun v3 =>
      bd ((
          if v3 = (1 : Int32) then (
            bd (rd (σ_1 19) 8 y1_4) fun v9 =>
            bd (rd (σ_1 20) 8 y1_4) fun v10 =>
            lt (X4_onTrail  v9 v10 u1_1) fun v11 =>
            some (y1_2 * ((v11).toInt64)))
          else (
            bd (rd (σ_1 21) 8 y1_4) fun v6 =>
            if v6 = (2 : Int32) then (
              bd (rd (σ_1 19) 8 y1_4) fun v8 =>
              some (y1_2 * ((((10 : Int32) - v8)).toInt64)))
            else (
              some y1_2))) : Option (Int64)) fun v5 =>
      X4_oddsIfThereIsOne_L1 n σ_1 u1_1 v5 (y1_4 + (1 : Int32))) := rfl
def X4_oddsIfThereIsOne (σ : St) (x1 : Int32) : Option (Int64) :=
  bd (X4_oddsIfThereIsOne_L1 10000 σ x1 (1 : Int64) (0 : Int32)) fun v1 =>
  some v1.1
abbrev rmX4_oddsIfThereIsOne : Room := { frames := 2, cells := 0, slots := 0, locals := 43 }
set_option maxHeartbeats 4000000 in
set_option maxRecDepth 100000 in
theorem c_X4_oddsIfThereIsOne (l : Launch) (D : va_G) (ad : Nat → Nat) (cI : ClassId) (hd : HD ad) (σ τ : St) (η : Int64) (x1 : Int32) (rr : Int64) (h : X4_oddsIfThereIsOne σ x1 = some rr) : ML l yX4_oddsIfThereIsOne (wy yX4_oddsIfThereIsOne cX4_oddsIfThereIsOne 5 (some .long)) rmX4_oddsIfThereIsOne D ad cI [.ref (ad 18), .int x1] σ τ η rr σ τ η := by
  refine mk_l (own := RX4) (lv := [(0, .ref (ad 18)), (1, .int x1)]) (plainFor_of_name (by decide)) rfl (Nat.le_of_ble_eq_true rfl) rfl ?_
  intro p e s m args below meth c Q ls hx hb hml hown htb hK ret hP hS hl
  unfold X4_oddsIfThereIsOne at h
  refine lv_lconst (v := (1 : Int64)) hx hb dX4_oddsIfThereIsOne_0 rfl ?_
  refine lv_lstore_n (lv' := [(2, .long (1 : Int64)), (0, .ref (ad 18)), (1, .int x1)]) hx hb dX4_oddsIfThereIsOne_1 rfl hl (by decide) rfl (fun ls hl => ?_)
  refine lv_iconst (v := (0 : Int32)) hx hb dX4_oddsIfThereIsOne_2 (by decide) ?_
  refine lv_istore (lv' := [(4, .int (0 : Int32)), (2, .long (1 : Int64)), (0, .ref (ad 18)), (1, .int x1)]) hx hb dX4_oddsIfThereIsOne_3 hl (by decide) rfl (fun ls hl => ?_)
  obtain ⟨v1, hj1, h⟩ := ob h
  have K1 : ∀ (H : Heap) (locs : List Loc) (ls : Array Slot), WP D ad cI σ τ η H → va_S (AA ad) s.heap H locs → lv_has ls 5 [(2, .long v1.1)] → W p l e rmX4_oddsIfThereIsOne s m args below meth c H locs 0 0 Q (F0 m 81 ls []) := by
    intro H locs ls hP hS hl
    refine lv_lload_n hx hb dX4_oddsIfThereIsOne_81 rfl (lv_at hl 0 rfl) ?_
    obtain rfl := Option.some.inj h
    exact ret _ _ _ _ _ dX4_oddsIfThereIsOne_82 hP hS rfl
  have L1 : ∀ (n : Nat) (y1_2 : Int64) (y1_4 : Int32) (H : Heap) (locs : List Loc) (ls : Array Slot), X4_oddsIfThereIsOne_L1 n σ x1 y1_2 y1_4 = some v1 → WP D ad cI σ τ η H → va_S (AA ad) s.heap H locs → lv_has ls 5 [(0, .ref (ad 18)), (1, .int x1), (2, .long y1_2), (4, .int y1_4)] → W p l e rmX4_oddsIfThereIsOne s m args below meth c H locs 0 0 Q (F0 m 5 ls []) := by
    intro n
    induction n with
    | zero => intro y1_2 y1_4 H locs ls h; exact absurd h (by simp [X4_oddsIfThereIsOne_L1])
    | succ n ih =>
      intro y1_2 y1_4 H locs ls h hP hS hl
      replace h := (X4_oddsIfThereIsOne_L1_s n σ x1 y1_2 y1_4).symm.trans h
      refine lv_iload hx hb dX4_oddsIfThereIsOne_5 (lv_at hl 3 rfl) ?_
      refine lv_aload_n hx hb dX4_oddsIfThereIsOne_7 rfl (lv_at hl 0 rfl) ?_
      refine va_get (D := D) (ci := 4) (v := .int (σ 18 3)) (C := RX4) (T := TX4) (N := 4) hx hb htb wu_4 hown hK.1 hP 18 w_18 rfl 3 (by decide) (htb _ wFL_RX4_21) (fun _ h9 => h9) rfl dX4_oddsIfThereIsOne_8 ?_
      refine lv_icmp_ge (tgt := 81) hx hb dX4_oddsIfThereIsOne_11 (by decide) (fun c2 => ?_) (fun c2 => ?_)
      · replace h := ip c2 h
        obtain rfl := Option.some.inj h
        exact K1 _ _ _ hP hS (lv_sub hl [2] rfl)
      · replace h := iq c2 h
        refine lv_aload_n hx hb dX4_oddsIfThereIsOne_14 rfl (lv_at hl 0 rfl) ?_
        refine va_get (D := D) (ci := 4) (v := .ref (ad 21)) (C := RX4) (T := TX4) (N := 4) hx hb htb wu_4 hown hK.1 hP 18 w_18 rfl 2 (by decide) (htb _ wFL_RX4_18) (fun _ h9 => h9) rfl dX4_oddsIfThereIsOne_15 ?_
        refine lv_iload hx hb dX4_oddsIfThereIsOne_18 (lv_at hl 3 rfl) ?_
        obtain ⟨v3, g3, h⟩ := ob h
        refine r_ald hx hb hK hP 21 w_21 g3 dX4_oddsIfThereIsOne_20 ?_
        refine lv_iconst (v := (1 : Int32)) hx hb dX4_oddsIfThereIsOne_21 (by decide) ?_
        obtain ⟨v5, hj5, h⟩ := ob h
        have J5 : ∀ (H : Heap) (locs : List Loc) (ls : Array Slot), WP D ad cI σ τ η H → va_S (AA ad) s.heap H locs → lv_has ls 5 [(0, .ref (ad 18)), (1, .int x1), (2, .long v5), (4, .int y1_4)] → W p l e rmX4_oddsIfThereIsOne s m args below meth c H locs 0 0 Q (F0 m 75 ls []) := by
          intro H locs ls hP hS hl
          refine lv_iinc (v := (y1_4 + (1 : Int32))) (lv' := [(4, .int (y1_4 + (1 : Int32))), (0, .ref (ad 18)), (1, .int x1), (2, .long v5)]) hx hb dX4_oddsIfThereIsOne_75 hl (k := 3) rfl rfl (by decide) rfl (fun ls hl => ?_)
          refine lv_goto (tgt := 5) hx hb dX4_oddsIfThereIsOne_78 (by decide) ?_
          exact ih v5 (y1_4 + (1 : Int32)) _ _ _ h hP hS (lv_sub hl [1, 2, 3, 0] rfl)
        replace h := hj5
        refine lv_icmp_ne (tgt := 50) hx hb dX4_oddsIfThereIsOne_22 (by decide) (fun c4 => ?_) (fun c4 => ?_)
        · replace h := iq c4 h
          refine lv_aload_n hx hb dX4_oddsIfThereIsOne_50 rfl (lv_at hl 0 rfl) ?_
          refine va_get (D := D) (ci := 4) (v := .ref (ad 21)) (C := RX4) (T := TX4) (N := 4) hx hb htb wu_4 hown hK.1 hP 18 w_18 rfl 2 (by decide) (htb _ wFL_RX4_18) (fun _ h9 => h9) rfl dX4_oddsIfThereIsOne_51 ?_
          refine lv_iload hx hb dX4_oddsIfThereIsOne_54 (lv_at hl 3 rfl) ?_
          obtain ⟨v6, g6, h⟩ := ob h
          refine r_ald hx hb hK hP 21 w_21 g6 dX4_oddsIfThereIsOne_56 ?_
          refine lv_iconst (v := (2 : Int32)) hx hb dX4_oddsIfThereIsOne_57 (by decide) ?_
          refine lv_icmp_ne (tgt := 75) hx hb dX4_oddsIfThereIsOne_58 (by decide) (fun c7 => ?_) (fun c7 => ?_)
          · replace h := iq c7 h
            obtain rfl := Option.some.inj h
            exact J5 _ _ _ hP hS (lv_sub hl [0, 1, 2, 3] rfl)
          · replace h := ip c7 h
            refine lv_lload_n hx hb dX4_oddsIfThereIsOne_61 rfl (lv_at hl 2 rfl) ?_
            refine lv_bipush (v := (10 : Int32)) hx hb dX4_oddsIfThereIsOne_62 (by decide) ?_
            refine lv_aload_n hx hb dX4_oddsIfThereIsOne_64 rfl (lv_at hl 0 rfl) ?_
            refine va_get (D := D) (ci := 4) (v := .ref (ad 19)) (C := RX4) (T := TX4) (N := 4) hx hb htb wu_4 hown hK.1 hP 18 w_18 rfl 0 (by decide) (htb _ wFL_RX4_11) (fun _ h9 => h9) rfl dX4_oddsIfThereIsOne_65 ?_
            refine lv_iload hx hb dX4_oddsIfThereIsOne_68 (lv_at hl 3 rfl) ?_
            obtain ⟨v8, g8, h⟩ := ob h
            refine r_ald hx hb hK hP 19 w_19 g8 dX4_oddsIfThereIsOne_70 ?_
            refine lv_isub hx hb dX4_oddsIfThereIsOne_71 ?_
            refine lv_i2l (v := ((((10 : Int32) - v8)).toInt64)) hx hb dX4_oddsIfThereIsOne_72 rfl ?_
            refine lv_lmul hx hb dX4_oddsIfThereIsOne_73 ?_
            refine lv_lstore_n (lv' := [(2, .long (y1_2 * ((((10 : Int32) - v8)).toInt64))), (0, .ref (ad 18)), (1, .int x1), (4, .int y1_4)]) hx hb dX4_oddsIfThereIsOne_74 rfl hl (by decide) rfl (fun ls hl => ?_)
            obtain rfl := Option.some.inj h
            exact J5 _ _ _ hP hS (lv_sub hl [1, 2, 0, 3] rfl)
        · replace h := ip c4 h
          refine lv_lload_n hx hb dX4_oddsIfThereIsOne_25 rfl (lv_at hl 2 rfl) ?_
          refine lv_aload_n hx hb dX4_oddsIfThereIsOne_26 rfl (lv_at hl 0 rfl) ?_
          refine va_get (D := D) (ci := 4) (v := .ref (ad 19)) (C := RX4) (T := TX4) (N := 4) hx hb htb wu_4 hown hK.1 hP 18 w_18 rfl 0 (by decide) (htb _ wFL_RX4_11) (fun _ h9 => h9) rfl dX4_oddsIfThereIsOne_27 ?_
          refine lv_iload hx hb dX4_oddsIfThereIsOne_30 (lv_at hl 3 rfl) ?_
          obtain ⟨v9, g9, h⟩ := ob h
          refine r_ald hx hb hK hP 19 w_19 g9 dX4_oddsIfThereIsOne_32 ?_
          refine lv_aload_n hx hb dX4_oddsIfThereIsOne_33 rfl (lv_at hl 0 rfl) ?_
          refine va_get (D := D) (ci := 4) (v := .ref (ad 20)) (C := RX4) (T := TX4) (N := 4) hx hb htb wu_4 hown hK.1 hP 18 w_18 rfl 1 (by decide) (htb _ wFL_RX4_15) (fun _ h9 => h9) rfl dX4_oddsIfThereIsOne_34 ?_
          refine lv_iload hx hb dX4_oddsIfThereIsOne_37 (lv_at hl 3 rfl) ?_
          obtain ⟨v10, g10, h⟩ := ob h
          refine r_ald hx hb hK hP 20 w_20 g10 dX4_oddsIfThereIsOne_39 ?_
          refine lv_iload_n hx hb dX4_oddsIfThereIsOne_40 rfl (lv_at hl 1 rfl) ?_
          obtain ⟨v11, g11, h⟩ := ol h
          refine c_Si (As := [.int v9, .int v10, .int x1]) (rest := [.long y1_2]) (A := AA ad) ⟨hx, hb, hml, hown, htb⟩ (c_X4_onTrail l D ad cI hd σ τ η v9 v10 x1 v11 g11) (va_cwS 3 htb (gdS (fun _ hh => hh) wML_RX4_29 wST_yX4_onTrail wI_RX4 wC_yX4_onTrail) rfl rfl rfl hd_X4_onTrail.2 ⟨by decide, by decide⟩) hK hP (fun _ hh => hh) hS rfl hl.1 rfl (Nat.le_of_ble_eq_true rfl) dX4_oddsIfThereIsOne_41 ⟨Nat.le_refl 0, Nat.le_refl 0⟩ (fun H locs hP hS => ?_)
          refine lv_i2l (v := ((v11).toInt64)) hx hb dX4_oddsIfThereIsOne_44 rfl ?_
          refine lv_lmul hx hb dX4_oddsIfThereIsOne_45 ?_
          refine lv_lstore_n (lv' := [(2, .long (y1_2 * ((v11).toInt64))), (0, .ref (ad 18)), (1, .int x1), (4, .int y1_4)]) hx hb dX4_oddsIfThereIsOne_46 rfl hl (by decide) rfl (fun ls hl => ?_)
          refine lv_goto (tgt := 75) hx hb dX4_oddsIfThereIsOne_47 (by decide) ?_
          obtain rfl := Option.some.inj h
          exact J5 _ _ _ hP hS (lv_sub hl [1, 2, 0, 3] rfl)
  exact L1 10000 (1 : Int64) (0 : Int32) _ _ _ hj1 hP hS (lv_sub hl [2, 3, 1, 0] rfl)
def X4_oddsIfThereIsNone_L1 (n : Nat) (σ_1 : St) (y1_1 : Int64) (y1_3 : Int32) : Option (Int64 × Int32) := match n with
  | 0 => none
  | n + 1 =>
    if (σ_1 18 3) ≤ y1_3 then (
      some (y1_1, y1_3))
    else (
      bd (rd (σ_1 21) 8 y1_3) fun v3 =>
      bd ((
          if v3 = (1 : Int32) then (
            bd (rd (σ_1 20) 8 y1_3) fun v9 =>
            some (y1_1 * ((v9).toInt64)))
          else (
            bd (rd (σ_1 21) 8 y1_3) fun v6 =>
            if v6 = (2 : Int32) then (
              bd (rd (σ_1 20) 8 y1_3) fun v8 =>
              some (y1_1 * ((((10 : Int32) - v8)).toInt64)))
            else (
              some y1_1))) : Option (Int64)) fun v5 =>
      X4_oddsIfThereIsNone_L1 n σ_1 v5 (y1_3 + (1 : Int32)))
theorem X4_oddsIfThereIsNone_L1_s (n : Nat) (σ_1 : St) (y1_1 : Int64) (y1_3 : Int32) : X4_oddsIfThereIsNone_L1 (n + 1) σ_1 y1_1 y1_3 =
    if (σ_1 18 3) ≤ y1_3 then (
      some (y1_1, y1_3))
    else (
      bd (rd (σ_1 21) 8 y1_3) fun v3 =>
      bd ((
          if v3 = (1 : Int32) then (
            bd (rd (σ_1 20) 8 y1_3) fun v9 =>
            some (y1_1 * ((v9).toInt64)))
          else (
            bd (rd (σ_1 21) 8 y1_3) fun v6 =>
            if v6 = (2 : Int32) then (
              bd (rd (σ_1 20) 8 y1_3) fun v8 =>
              some (y1_1 * ((((10 : Int32) - v8)).toInt64)))
            else (
              some y1_1))) : Option (Int64)) fun v5 =>
      X4_oddsIfThereIsNone_L1 n σ_1 v5 (y1_3 + (1 : Int32))) := rfl
def X4_oddsIfThereIsNone (σ : St)  : Option (Int64) :=
  bd (X4_oddsIfThereIsNone_L1 10000 σ (1 : Int64) (0 : Int32)) fun v1 =>
  some v1.1
abbrev rmX4_oddsIfThereIsNone : Room := { frames := 0, cells := 0, slots := 0, locals := 0 }
set_option maxHeartbeats 4000000 in
set_option maxRecDepth 100000 in
theorem c_X4_oddsIfThereIsNone (l : Launch) (D : va_G) (ad : Nat → Nat) (cI : ClassId) (hd : HD ad) (σ τ : St) (η : Int64)  (rr : Int64) (h : X4_oddsIfThereIsNone σ  = some rr) : ML l yX4_oddsIfThereIsNone (wy yX4_oddsIfThereIsNone cX4_oddsIfThereIsNone 4 (some .long)) rmX4_oddsIfThereIsNone D ad cI [.ref (ad 18)] σ τ η rr σ τ η := by
  refine mk_l (own := RX4) (lv := [(0, .ref (ad 18))]) (plainFor_of_name (by decide)) rfl (Nat.le_of_ble_eq_true rfl) rfl ?_
  intro p e s m args below meth c Q ls hx hb hml hown htb hK ret hP hS hl
  unfold X4_oddsIfThereIsNone at h
  refine lv_lconst (v := (1 : Int64)) hx hb dX4_oddsIfThereIsNone_0 rfl ?_
  refine lv_lstore_n (lv' := [(1, .long (1 : Int64)), (0, .ref (ad 18))]) hx hb dX4_oddsIfThereIsNone_1 rfl hl (by decide) rfl (fun ls hl => ?_)
  refine lv_iconst (v := (0 : Int32)) hx hb dX4_oddsIfThereIsNone_2 (by decide) ?_
  refine lv_istore_n (lv' := [(3, .int (0 : Int32)), (1, .long (1 : Int64)), (0, .ref (ad 18))]) hx hb dX4_oddsIfThereIsNone_3 rfl hl (by decide) rfl (fun ls hl => ?_)
  obtain ⟨v1, hj1, h⟩ := ob h
  have K1 : ∀ (H : Heap) (locs : List Loc) (ls : Array Slot), WP D ad cI σ τ η H → va_S (AA ad) s.heap H locs → lv_has ls 4 [(1, .long v1.1)] → W p l e rmX4_oddsIfThereIsNone s m args below meth c H locs 0 0 Q (F0 m 64 ls []) := by
    intro H locs ls hP hS hl
    refine lv_lload_n hx hb dX4_oddsIfThereIsNone_64 rfl (lv_at hl 0 rfl) ?_
    obtain rfl := Option.some.inj h
    exact ret _ _ _ _ _ dX4_oddsIfThereIsNone_65 hP hS rfl
  have L1 : ∀ (n : Nat) (y1_1 : Int64) (y1_3 : Int32) (H : Heap) (locs : List Loc) (ls : Array Slot), X4_oddsIfThereIsNone_L1 n σ y1_1 y1_3 = some v1 → WP D ad cI σ τ η H → va_S (AA ad) s.heap H locs → lv_has ls 4 [(0, .ref (ad 18)), (1, .long y1_1), (3, .int y1_3)] → W p l e rmX4_oddsIfThereIsNone s m args below meth c H locs 0 0 Q (F0 m 4 ls []) := by
    intro n
    induction n with
    | zero => intro y1_1 y1_3 H locs ls h; exact absurd h (by simp [X4_oddsIfThereIsNone_L1])
    | succ n ih =>
      intro y1_1 y1_3 H locs ls h hP hS hl
      replace h := (X4_oddsIfThereIsNone_L1_s n σ y1_1 y1_3).symm.trans h
      refine lv_iload_n hx hb dX4_oddsIfThereIsNone_4 rfl (lv_at hl 2 rfl) ?_
      refine lv_aload_n hx hb dX4_oddsIfThereIsNone_5 rfl (lv_at hl 0 rfl) ?_
      refine va_get (D := D) (ci := 4) (v := .int (σ 18 3)) (C := RX4) (T := TX4) (N := 4) hx hb htb wu_4 hown hK.1 hP 18 w_18 rfl 3 (by decide) (htb _ wFL_RX4_21) (fun _ h9 => h9) rfl dX4_oddsIfThereIsNone_6 ?_
      refine lv_icmp_ge (tgt := 64) hx hb dX4_oddsIfThereIsNone_9 (by decide) (fun c2 => ?_) (fun c2 => ?_)
      · replace h := ip c2 h
        obtain rfl := Option.some.inj h
        exact K1 _ _ _ hP hS (lv_sub hl [1] rfl)
      · replace h := iq c2 h
        refine lv_aload_n hx hb dX4_oddsIfThereIsNone_12 rfl (lv_at hl 0 rfl) ?_
        refine va_get (D := D) (ci := 4) (v := .ref (ad 21)) (C := RX4) (T := TX4) (N := 4) hx hb htb wu_4 hown hK.1 hP 18 w_18 rfl 2 (by decide) (htb _ wFL_RX4_18) (fun _ h9 => h9) rfl dX4_oddsIfThereIsNone_13 ?_
        refine lv_iload_n hx hb dX4_oddsIfThereIsNone_16 rfl (lv_at hl 2 rfl) ?_
        obtain ⟨v3, g3, h⟩ := ob h
        refine r_ald hx hb hK hP 21 w_21 g3 dX4_oddsIfThereIsNone_17 ?_
        refine lv_iconst (v := (1 : Int32)) hx hb dX4_oddsIfThereIsNone_18 (by decide) ?_
        obtain ⟨v5, hj5, h⟩ := ob h
        have J5 : ∀ (H : Heap) (locs : List Loc) (ls : Array Slot), WP D ad cI σ τ η H → va_S (AA ad) s.heap H locs → lv_has ls 4 [(0, .ref (ad 18)), (1, .long v5), (3, .int y1_3)] → W p l e rmX4_oddsIfThereIsNone s m args below meth c H locs 0 0 Q (F0 m 58 ls []) := by
          intro H locs ls hP hS hl
          refine lv_iinc (v := (y1_3 + (1 : Int32))) (lv' := [(3, .int (y1_3 + (1 : Int32))), (0, .ref (ad 18)), (1, .long v5)]) hx hb dX4_oddsIfThereIsNone_58 hl (k := 2) rfl rfl (by decide) rfl (fun ls hl => ?_)
          refine lv_goto (tgt := 4) hx hb dX4_oddsIfThereIsNone_61 (by decide) ?_
          exact ih v5 (y1_3 + (1 : Int32)) _ _ _ h hP hS (lv_sub hl [1, 2, 0] rfl)
        replace h := hj5
        refine lv_icmp_ne (tgt := 35) hx hb dX4_oddsIfThereIsNone_19 (by decide) (fun c4 => ?_) (fun c4 => ?_)
        · replace h := iq c4 h
          refine lv_aload_n hx hb dX4_oddsIfThereIsNone_35 rfl (lv_at hl 0 rfl) ?_
          refine va_get (D := D) (ci := 4) (v := .ref (ad 21)) (C := RX4) (T := TX4) (N := 4) hx hb htb wu_4 hown hK.1 hP 18 w_18 rfl 2 (by decide) (htb _ wFL_RX4_18) (fun _ h9 => h9) rfl dX4_oddsIfThereIsNone_36 ?_
          refine lv_iload_n hx hb dX4_oddsIfThereIsNone_39 rfl (lv_at hl 2 rfl) ?_
          obtain ⟨v6, g6, h⟩ := ob h
          refine r_ald hx hb hK hP 21 w_21 g6 dX4_oddsIfThereIsNone_40 ?_
          refine lv_iconst (v := (2 : Int32)) hx hb dX4_oddsIfThereIsNone_41 (by decide) ?_
          refine lv_icmp_ne (tgt := 58) hx hb dX4_oddsIfThereIsNone_42 (by decide) (fun c7 => ?_) (fun c7 => ?_)
          · replace h := iq c7 h
            obtain rfl := Option.some.inj h
            exact J5 _ _ _ hP hS (lv_sub hl [0, 1, 2] rfl)
          · replace h := ip c7 h
            refine lv_lload_n hx hb dX4_oddsIfThereIsNone_45 rfl (lv_at hl 1 rfl) ?_
            refine lv_bipush (v := (10 : Int32)) hx hb dX4_oddsIfThereIsNone_46 (by decide) ?_
            refine lv_aload_n hx hb dX4_oddsIfThereIsNone_48 rfl (lv_at hl 0 rfl) ?_
            refine va_get (D := D) (ci := 4) (v := .ref (ad 20)) (C := RX4) (T := TX4) (N := 4) hx hb htb wu_4 hown hK.1 hP 18 w_18 rfl 1 (by decide) (htb _ wFL_RX4_15) (fun _ h9 => h9) rfl dX4_oddsIfThereIsNone_49 ?_
            refine lv_iload_n hx hb dX4_oddsIfThereIsNone_52 rfl (lv_at hl 2 rfl) ?_
            obtain ⟨v8, g8, h⟩ := ob h
            refine r_ald hx hb hK hP 20 w_20 g8 dX4_oddsIfThereIsNone_53 ?_
            refine lv_isub hx hb dX4_oddsIfThereIsNone_54 ?_
            refine lv_i2l (v := ((((10 : Int32) - v8)).toInt64)) hx hb dX4_oddsIfThereIsNone_55 rfl ?_
            refine lv_lmul hx hb dX4_oddsIfThereIsNone_56 ?_
            refine lv_lstore_n (lv' := [(1, .long (y1_1 * ((((10 : Int32) - v8)).toInt64))), (0, .ref (ad 18)), (3, .int y1_3)]) hx hb dX4_oddsIfThereIsNone_57 rfl hl (by decide) rfl (fun ls hl => ?_)
            obtain rfl := Option.some.inj h
            exact J5 _ _ _ hP hS (lv_sub hl [1, 0, 2] rfl)
        · replace h := ip c4 h
          refine lv_lload_n hx hb dX4_oddsIfThereIsNone_22 rfl (lv_at hl 1 rfl) ?_
          refine lv_aload_n hx hb dX4_oddsIfThereIsNone_23 rfl (lv_at hl 0 rfl) ?_
          refine va_get (D := D) (ci := 4) (v := .ref (ad 20)) (C := RX4) (T := TX4) (N := 4) hx hb htb wu_4 hown hK.1 hP 18 w_18 rfl 1 (by decide) (htb _ wFL_RX4_15) (fun _ h9 => h9) rfl dX4_oddsIfThereIsNone_24 ?_
          refine lv_iload_n hx hb dX4_oddsIfThereIsNone_27 rfl (lv_at hl 2 rfl) ?_
          obtain ⟨v9, g9, h⟩ := ob h
          refine r_ald hx hb hK hP 20 w_20 g9 dX4_oddsIfThereIsNone_28 ?_
          refine lv_i2l (v := ((v9).toInt64)) hx hb dX4_oddsIfThereIsNone_29 rfl ?_
          refine lv_lmul hx hb dX4_oddsIfThereIsNone_30 ?_
          refine lv_lstore_n (lv' := [(1, .long (y1_1 * ((v9).toInt64))), (0, .ref (ad 18)), (3, .int y1_3)]) hx hb dX4_oddsIfThereIsNone_31 rfl hl (by decide) rfl (fun ls hl => ?_)
          refine lv_goto (tgt := 58) hx hb dX4_oddsIfThereIsNone_32 (by decide) ?_
          obtain rfl := Option.some.inj h
          exact J5 _ _ _ hP hS (lv_sub hl [1, 0, 2] rfl)
  exact L1 10000 (1 : Int64) (0 : Int32) _ _ _ hj1 hP hS (lv_sub hl [2, 1, 0] rfl)
def X7_belief (σ : St) (x1 : Int32) (x2 : Int32) : Option (Int64) :=
  if x1 < 0 then (
    some (-102 : Int64))
  else (
    if (9 : Int32) < x1 then (
      some (-102 : Int64))
    else (
      lt (X7_isPart  x2) fun v3 =>
      if v3 = 0 then (
        some (-102 : Int64))
      else (
        bd (X4_oddsIfThereIsOne σ x1) fun v5 =>
        bd (X4_oddsIfThereIsNone σ ) fun v6 =>
        bd (X7_lowest  v5 (v5 + v6) x2) fun v7 =>
        some v7)))
abbrev rmX7_belief : Room := { frames := 3, cells := 0, slots := 0, locals := 67 }
set_option maxHeartbeats 4000000 in
set_option maxRecDepth 100000 in
theorem c_X7_belief (l : Launch) (D : va_G) (ad : Nat → Nat) (cI : ClassId) (hd : HD ad) (σ τ : St) (η : Int64) (x1 : Int32) (x2 : Int32) (rr : Int64) (h : X7_belief σ x1 x2 = some rr) : ML l yX7_belief (wy yX7_belief cX7_belief 5 (some .long)) rmX7_belief D ad cI [.ref (ad 0), .int x1, .int x2] σ τ η rr σ τ η := by
  refine mk_l (own := RX7) (lv := [(0, .ref (ad 0)), (1, .int x1), (2, .int x2)]) (plainFor_of_name (by decide)) rfl (Nat.le_of_ble_eq_true rfl) rfl ?_
  intro p e s m args below meth c Q ls hx hb hml hown htb hK ret hP hS hl
  unfold X7_belief at h
  refine lv_iload_n hx hb dX7_belief_0 rfl (lv_at hl 1 rfl) ?_
  refine lv_if_lt (tgt := 17) hx hb dX7_belief_1 (by decide) (fun c1 => ?_) (fun c1 => ?_)
  · replace h := ip c1 h
    refine lv_ldc2 (v := (-102 : Int64)) hx hb hown (htb _ wKL_RX7_173) dX7_belief_17 ?_
    obtain rfl := Option.some.inj h
    exact ret _ _ _ _ _ dX7_belief_20 hP hS rfl
  · replace h := iq c1 h
    refine lv_iload_n hx hb dX7_belief_4 rfl (lv_at hl 1 rfl) ?_
    refine lv_bipush (v := (9 : Int32)) hx hb dX7_belief_5 (by decide) ?_
    refine lv_icmp_gt (tgt := 17) hx hb dX7_belief_7 (by decide) (fun c2 => ?_) (fun c2 => ?_)
    · replace h := ip c2 h
      refine lv_ldc2 (v := (-102 : Int64)) hx hb hown (htb _ wKL_RX7_173) dX7_belief_17 ?_
      obtain rfl := Option.some.inj h
      exact ret _ _ _ _ _ dX7_belief_20 hP hS rfl
    · replace h := iq c2 h
      refine lv_iload_n hx hb dX7_belief_10 rfl (lv_at hl 2 rfl) ?_
      obtain ⟨v3, g3, h⟩ := ol h
      refine c_Sz (As := [.int x2]) (rest := []) (A := AA ad) ⟨hx, hb, hml, hown, htb⟩ (c_X7_isPart l D ad cI hd σ τ η x2 v3 g3) (va_cwS 1 htb (gdS (fun _ hh => hh) wML_RX7_170 wST_yX7_isPart wI_RX7 wC_yX7_isPart) rfl rfl rfl hd_X7_isPart.2 ⟨by decide, by decide⟩) hK hP (fun _ hh => hh) hS rfl hl.1 rfl (Nat.le_of_ble_eq_true rfl) dX7_belief_11 ⟨Nat.le_refl 0, Nat.le_refl 0⟩ (fun H locs hz3 hP hS => ?_)
      refine lv_if_ne (tgt := 21) hx hb dX7_belief_14 (by decide) (fun c4 => ?_) (fun c4 => ?_)
      · replace h := iq c4 h
        refine lv_aload_n hx hb dX7_belief_21 rfl (lv_at hl 0 rfl) ?_
        refine va_get (D := D) (ci := 7) (v := .ref (ad 18)) (C := RX7) (T := TX7) (N := 11) hx hb htb wu_7 hown hK.1 hP 0 w_0 rfl 5 (by decide) (htb _ wFL_RX7_47) (fun _ h9 => h9) rfl dX7_belief_22 ?_
        refine lv_iload_n hx hb dX7_belief_25 rfl (lv_at hl 1 rfl) ?_
        obtain ⟨v5, g5, h⟩ := ob h
        refine c_Vl (q := (RX4, TX4, 4)) (ci := 4) (b := 18) (As := [.int x1]) (rest := []) (A := AA ad) ⟨hx, hb, hml, hown, htb⟩ (c_X4_oddsIfThereIsOne l D ad cI hd σ τ η x1 v5 g5) (cwV 1 htb (gdV (fun _ hh => hh) wML_RX7_258 wIM_yX4_oddsIfThereIsOne wSE_yX4_oddsIfThereIsOne wI_RX4 wC_yX4_oddsIfThereIsOne) rfl rfl rfl hd_X4_oddsIfThereIsOne ⟨by decide, by decide⟩) hK hP rfl w_18 (fun _ hh => hh) hS rfl hl.1 rfl (Nat.le_of_ble_eq_true rfl) dX7_belief_26 ⟨Nat.le_refl 0, Nat.le_refl 0⟩ (fun H locs hP hS => ?_)
        refine lv_lstore_n (lv' := [(3, .long v5), (0, .ref (ad 0)), (1, .int x1), (2, .int x2)]) hx hb dX7_belief_29 rfl hl (by decide) rfl (fun ls hl => ?_)
        refine lv_lload_n hx hb dX7_belief_30 rfl (lv_at hl 0 rfl) ?_
        refine lv_lload_n hx hb dX7_belief_31 rfl (lv_at hl 0 rfl) ?_
        refine lv_aload_n hx hb dX7_belief_32 rfl (lv_at hl 1 rfl) ?_
        refine va_get (D := D) (ci := 7) (v := .ref (ad 18)) (C := RX7) (T := TX7) (N := 11) hx hb htb wu_7 hown hK.1 hP 0 w_0 rfl 5 (by decide) (htb _ wFL_RX7_47) (fun _ h9 => h9) rfl dX7_belief_33 ?_
        obtain ⟨v6, g6, h⟩ := ob h
        refine c_Vl (q := (RX4, TX4, 4)) (ci := 4) (b := 18) (As := []) (rest := [.long v5, .long v5]) (A := AA ad) ⟨hx, hb, hml, hown, htb⟩ (c_X4_oddsIfThereIsNone l D ad cI hd σ τ η  v6 g6) (cwV 0 htb (gdV (fun _ hh => hh) wML_RX7_262 wIM_yX4_oddsIfThereIsNone wSE_yX4_oddsIfThereIsNone wI_RX4 wC_yX4_oddsIfThereIsNone) rfl rfl rfl hd_X4_oddsIfThereIsNone ⟨by decide, by decide⟩) hK hP rfl w_18 (fun _ hh => hh) hS rfl hl.1 rfl (Nat.le_of_ble_eq_true rfl) dX7_belief_36 ⟨Nat.le_refl 0, Nat.le_refl 0⟩ (fun H locs hP hS => ?_)
        refine lv_ladd hx hb dX7_belief_39 ?_
        refine lv_iload_n hx hb dX7_belief_40 rfl (lv_at hl 3 rfl) ?_
        obtain ⟨v7, g7, h⟩ := ob h
        refine c_Sl (As := [.long v5, .long (v5 + v6), .int x2]) (rest := []) (A := AA ad) ⟨hx, hb, hml, hown, htb⟩ (c_X7_lowest l D ad cI hd σ τ η v5 (v5 + v6) x2 v7 g7) (va_cwS 3 htb (gdS (fun _ hh => hh) wML_RX7_195 wST_yX7_lowest wI_RX7 wC_yX7_lowest) rfl rfl rfl hd_X7_lowest.2 ⟨by decide, by decide⟩) hK hP (fun _ hh => hh) hS rfl hl.1 rfl (Nat.le_of_ble_eq_true rfl) dX7_belief_41 ⟨Nat.le_refl 0, Nat.le_refl 0⟩ (fun H locs hP hS => ?_)
        obtain rfl := Option.some.inj h
        exact ret _ _ _ _ _ dX7_belief_44 hP hS rfl
      · replace h := ip c4 h
        refine lv_ldc2 (v := (-102 : Int64)) hx hb hown (htb _ wKL_RX7_173) dX7_belief_17 ?_
        obtain rfl := Option.some.inj h
        exact ret _ _ _ _ _ dX7_belief_20 hP hS rfl
def X8_withBy (τ : St) (x1 : Int32) (x2 : Int32) : Option (Int32) :=
  bd (rd (τ 42) 24 ((3 : Int32) * x1)) fun v1 =>
  bd (rd (τ 42) 24 (((3 : Int32) * x1) + (1 : Int32))) fun v2 =>
  lt ((
      if 0 ≤ (v2 - v1) then (
        ((((v2 - v1) * x2) + (9 : Int32)) / (10 : Int32)))
      else (
        ((((-(v2 - v1)) * x2) + (9 : Int32)) / (10 : Int32)))) : Int32) fun v4 =>
  if 0 ≤ (v2 - v1) then (
    some (v1 + v4))
  else (
    some (v1 - v4))
abbrev rmX8_withBy : Room := { frames := 0, cells := 0, slots := 0, locals := 0 }
set_option maxHeartbeats 4000000 in
set_option maxRecDepth 100000 in
theorem c_X8_withBy (l : Launch) (D : va_G) (ad : Nat → Nat) (cI : ClassId) (hd : HD ad) (σ τ : St) (η : Int64) (x1 : Int32) (x2 : Int32) (rr : Int32) (h : X8_withBy τ x1 x2 = some rr) : MI l yX8_withBy (wy yX8_withBy cX8_withBy 6 (some .int)) rmX8_withBy D ad cI [.ref (ad 29), .int x1, .int x2] σ τ η rr σ τ η := by
  refine mk_i (own := RX8) (lv := [(0, .ref (ad 29)), (1, .int x1), (2, .int x2)]) (plainFor_of_name (by decide)) rfl (Nat.le_of_ble_eq_true rfl) rfl ?_
  intro p e s m args below meth c Q ls hx hb hml hown htb hK ret hP hS hl
  unfold X8_withBy at h
  refine lv_aload_n hx hb dX8_withBy_0 rfl (lv_at hl 0 rfl) ?_
  refine va_get (D := D) (ci := 8) (v := .ref (ad 42)) (C := RX8) (T := TX8) (N := 27) hx hb htb wu_8 hown hK.1 hP 29 w_29 rfl 19 (by decide) (htb _ wFL_RX8_46) (fun _ h9 => h9) rfl dX8_withBy_1 ?_
  refine lv_iconst (v := (3 : Int32)) hx hb dX8_withBy_4 (by decide) ?_
  refine lv_iload_n hx hb dX8_withBy_5 rfl (lv_at hl 1 rfl) ?_
  refine lv_imul hx hb dX8_withBy_6 ?_
  obtain ⟨v1, g1, h⟩ := ob h
  refine r_ald hx hb hK hP 42 w_42 g1 dX8_withBy_7 ?_
  refine lv_istore_n (lv' := [(3, .int v1), (0, .ref (ad 29)), (1, .int x1), (2, .int x2)]) hx hb dX8_withBy_8 rfl hl (by decide) rfl (fun ls hl => ?_)
  refine lv_aload_n hx hb dX8_withBy_9 rfl (lv_at hl 1 rfl) ?_
  refine va_get (D := D) (ci := 8) (v := .ref (ad 42)) (C := RX8) (T := TX8) (N := 27) hx hb htb wu_8 hown hK.1 hP 29 w_29 rfl 19 (by decide) (htb _ wFL_RX8_46) (fun _ h9 => h9) rfl dX8_withBy_10 ?_
  refine lv_iconst (v := (3 : Int32)) hx hb dX8_withBy_13 (by decide) ?_
  refine lv_iload_n hx hb dX8_withBy_14 rfl (lv_at hl 2 rfl) ?_
  refine lv_imul hx hb dX8_withBy_15 ?_
  refine lv_iconst (v := (1 : Int32)) hx hb dX8_withBy_16 (by decide) ?_
  refine lv_iadd hx hb dX8_withBy_17 ?_
  obtain ⟨v2, g2, h⟩ := ob h
  refine r_ald hx hb hK hP 42 w_42 g2 dX8_withBy_18 ?_
  refine lv_iload_n hx hb dX8_withBy_19 rfl (lv_at hl 0 rfl) ?_
  refine lv_isub hx hb dX8_withBy_20 ?_
  refine lv_istore (lv' := [(4, .int (v2 - v1)), (3, .int v1), (0, .ref (ad 29)), (1, .int x1), (2, .int x2)]) hx hb dX8_withBy_21 hl (by decide) rfl (fun ls hl => ?_)
  refine lv_iload hx hb dX8_withBy_23 (lv_at hl 0 rfl) ?_
  obtain ⟨v4, hj4, h⟩ := ol h
  have J4 : ∀ (H : Heap) (locs : List Loc) (ls : Array Slot), WP D ad cI σ τ η H → va_S (AA ad) s.heap H locs → lv_has ls 6 [(3, .int v1), (4, .int (v2 - v1))] → W p l e rmX8_withBy s m args below meth c H locs 0 0 Q (F0 m 52 ls [.int v4]) := by
    intro H locs ls hP hS hl
    refine lv_istore (lv' := [(5, .int v4), (3, .int v1), (4, .int (v2 - v1))]) hx hb dX8_withBy_52 hl (by decide) rfl (fun ls hl => ?_)
    refine lv_iload hx hb dX8_withBy_54 (lv_at hl 2 rfl) ?_
    refine lv_if_ge (tgt := 66) hx hb dX8_withBy_56 (by decide) (fun c5 => ?_) (fun c5 => ?_)
    · replace h := ip c5 h
      refine lv_iload_n hx hb dX8_withBy_66 rfl (lv_at hl 1 rfl) ?_
      refine lv_iload hx hb dX8_withBy_67 (lv_at hl 0 rfl) ?_
      refine lv_iadd hx hb dX8_withBy_69 ?_
      obtain rfl := Option.some.inj h
      exact ret _ _ _ _ _ dX8_withBy_70 hP hS rfl
    · replace h := iq c5 h
      refine lv_iload_n hx hb dX8_withBy_59 rfl (lv_at hl 1 rfl) ?_
      refine lv_iload hx hb dX8_withBy_60 (lv_at hl 0 rfl) ?_
      refine lv_isub hx hb dX8_withBy_62 ?_
      refine lv_goto (tgt := 70) hx hb dX8_withBy_63 (by decide) ?_
      obtain rfl := Option.some.inj h
      exact ret _ _ _ _ _ dX8_withBy_70 hP hS rfl
  replace h := hj4
  refine lv_if_ge (tgt := 42) hx hb dX8_withBy_25 (by decide) (fun c3 => ?_) (fun c3 => ?_)
  · replace h := ip c3 h
    refine lv_iload hx hb dX8_withBy_42 (lv_at hl 0 rfl) ?_
    refine lv_iload_n hx hb dX8_withBy_44 rfl (lv_at hl 4 rfl) ?_
    refine lv_imul hx hb dX8_withBy_45 ?_
    refine lv_bipush (v := (9 : Int32)) hx hb dX8_withBy_46 (by decide) ?_
    refine lv_iadd hx hb dX8_withBy_48 ?_
    refine lv_bipush (v := (10 : Int32)) hx hb dX8_withBy_49 (by decide) ?_
    refine lv_idiv hx hb dX8_withBy_51 (by decide) ?_
    subst h
    exact J4 _ _ _ hP hS (lv_sub hl [1, 0] rfl)
  · replace h := iq c3 h
    refine lv_iload hx hb dX8_withBy_28 (lv_at hl 0 rfl) ?_
    refine lv_ineg hx hb dX8_withBy_30 ?_
    refine lv_iload_n hx hb dX8_withBy_31 rfl (lv_at hl 4 rfl) ?_
    refine lv_imul hx hb dX8_withBy_32 ?_
    refine lv_bipush (v := (9 : Int32)) hx hb dX8_withBy_33 (by decide) ?_
    refine lv_iadd hx hb dX8_withBy_35 ?_
    refine lv_bipush (v := (10 : Int32)) hx hb dX8_withBy_36 (by decide) ?_
    refine lv_idiv hx hb dX8_withBy_38 (by decide) ?_
    refine lv_goto (tgt := 52) hx hb dX8_withBy_39 (by decide) ?_
    subst h
    exact J4 _ _ _ hP hS (lv_sub hl [1, 0] rfl)
def X8_weight_L1 (n : Nat) (τ_1 : St) (u1_1 : Int32) (u1_2 : Int32) (y1_3 : Int64) (y1_5 : Int32) : Option (Int64 × Int32) := match n with
  | 0 => none
  | n + 1 =>
    if (τ_1 29 18) ≤ y1_5 then (
      some (y1_3, y1_5))
    else (
      bd (rd (τ_1 42) 24 (((3 : Int32) * y1_5) + (2 : Int32))) fun v3 =>
      bd ((
          if u1_1 = 0 then (
            bd (rd (τ_1 42) 24 (((3 : Int32) * y1_5) + (1 : Int32))) fun v9 =>
            some v9)
          else (
            if v3 = (1 : Int32) then (
              bd (X8_withBy τ_1 y1_5 u1_2) fun v8 =>
              some v8)
            else (
              bd (rd (τ_1 42) 24 ((3 : Int32) * y1_5)) fun v7 =>
              some v7))) : Option (Int32)) fun v5 =>
      lt ((
          if v3 = 0 then (
            (1 : Int64))
          else (
            if v3 = (1 : Int32) then (
              ((v5).toInt64))
            else (
              ((((10 : Int32) - v5)).toInt64)))) : Int64) fun v11 =>
      X8_weight_L1 n τ_1 u1_1 u1_2 (y1_3 * v11) (y1_5 + (1 : Int32)))
theorem X8_weight_L1_s (n : Nat) (τ_1 : St) (u1_1 : Int32) (u1_2 : Int32) (y1_3 : Int64) (y1_5 : Int32) : X8_weight_L1 (n + 1) τ_1 u1_1 u1_2 y1_3 y1_5 =
    if (τ_1 29 18) ≤ y1_5 then (
      some (y1_3, y1_5))
    else (
      bd (rd (τ_1 42) 24 (((3 : Int32) * y1_5) + (2 : Int32))) fun v3 =>
      bd ((
          if u1_1 = 0 then (
            bd (rd (τ_1 42) 24 (((3 : Int32) * y1_5) + (1 : Int32))) fun v9 =>
            some v9)
          else (
            if v3 = (1 : Int32) then (
              bd (X8_withBy τ_1 y1_5 u1_2) fun v8 =>
              some v8)
            else (
              bd (rd (τ_1 42) 24 ((3 : Int32) * y1_5)) fun v7 =>
              some v7))) : Option (Int32)) fun v5 =>
      lt ((
          if v3 = 0 then (
            (1 : Int64))
          else (
            if v3 = (1 : Int32) then (
              ((v5).toInt64))
            else (
              ((((10 : Int32) - v5)).toInt64)))) : Int64) fun v11 =>
      X8_weight_L1 n τ_1 u1_1 u1_2 (y1_3 * v11) (y1_5 + (1 : Int32))) := rfl
def X8_weight (τ : St) (x1 : Int32) (x2 : Int32) : Option (Int64) :=
  bd (X8_weight_L1 10000 τ x1 x2 (1 : Int64) (0 : Int32)) fun v1 =>
  some v1.1
abbrev rmX8_weight : Room := { frames := 1, cells := 0, slots := 0, locals := 25 }
set_option maxHeartbeats 4000000 in
set_option maxRecDepth 100000 in
theorem c_X8_weight (l : Launch) (D : va_G) (ad : Nat → Nat) (cI : ClassId) (hd : HD ad) (σ τ : St) (η : Int64) (x1 : Int32) (x2 : Int32) (rr : Int64) (h : X8_weight τ x1 x2 = some rr) : ML l yX8_weight (wy yX8_weight cX8_weight 8 (some .long)) rmX8_weight D ad cI [.ref (ad 29), .int x1, .int x2] σ τ η rr σ τ η := by
  refine mk_l (own := RX8) (lv := [(0, .ref (ad 29)), (1, .int x1), (2, .int x2)]) (plainFor_of_name (by decide)) rfl (Nat.le_of_ble_eq_true rfl) rfl ?_
  intro p e s m args below meth c Q ls hx hb hml hown htb hK ret hP hS hl
  unfold X8_weight at h
  refine lv_lconst (v := (1 : Int64)) hx hb dX8_weight_0 rfl ?_
  refine lv_lstore_n (lv' := [(3, .long (1 : Int64)), (0, .ref (ad 29)), (1, .int x1), (2, .int x2)]) hx hb dX8_weight_1 rfl hl (by decide) rfl (fun ls hl => ?_)
  refine lv_iconst (v := (0 : Int32)) hx hb dX8_weight_2 (by decide) ?_
  refine lv_istore (lv' := [(5, .int (0 : Int32)), (3, .long (1 : Int64)), (0, .ref (ad 29)), (1, .int x1), (2, .int x2)]) hx hb dX8_weight_3 hl (by decide) rfl (fun ls hl => ?_)
  obtain ⟨v1, hj1, h⟩ := ob h
  have K1 : ∀ (H : Heap) (locs : List Loc) (ls : Array Slot), WP D ad cI σ τ η H → va_S (AA ad) s.heap H locs → lv_has ls 8 [(3, .long v1.1)] → W p l e rmX8_weight s m args below meth c H locs 0 0 Q (F0 m 108 ls []) := by
    intro H locs ls hP hS hl
    refine lv_lload_n hx hb dX8_weight_108 rfl (lv_at hl 0 rfl) ?_
    obtain rfl := Option.some.inj h
    exact ret _ _ _ _ _ dX8_weight_109 hP hS rfl
  have L1 : ∀ (n : Nat) (y1_3 : Int64) (y1_5 : Int32) (H : Heap) (locs : List Loc) (ls : Array Slot), X8_weight_L1 n τ x1 x2 y1_3 y1_5 = some v1 → WP D ad cI σ τ η H → va_S (AA ad) s.heap H locs → lv_has ls 8 [(0, .ref (ad 29)), (1, .int x1), (2, .int x2), (3, .long y1_3), (5, .int y1_5)] → W p l e rmX8_weight s m args below meth c H locs 0 0 Q (F0 m 5 ls []) := by
    intro n
    induction n with
    | zero => intro y1_3 y1_5 H locs ls h; exact absurd h (by simp [X8_weight_L1])
    | succ n ih =>
      intro y1_3 y1_5 H locs ls h hP hS hl
      replace h := (X8_weight_L1_s n τ x1 x2 y1_3 y1_5).symm.trans h
      refine lv_iload hx hb dX8_weight_5 (lv_at hl 4 rfl) ?_
      refine lv_aload_n hx hb dX8_weight_7 rfl (lv_at hl 0 rfl) ?_
      refine va_get (D := D) (ci := 8) (v := .int (τ 29 18)) (C := RX8) (T := TX8) (N := 27) hx hb htb wu_8 hown hK.1 hP 29 w_29 rfl 18 (by decide) (htb _ wFL_RX8_189) (fun _ h9 => h9) rfl dX8_weight_8 ?_
      refine lv_icmp_ge (tgt := 108) hx hb dX8_weight_11 (by decide) (fun c2 => ?_) (fun c2 => ?_)
      · replace h := ip c2 h
        obtain rfl := Option.some.inj h
        exact K1 _ _ _ hP hS (lv_sub hl [3] rfl)
      · replace h := iq c2 h
        refine lv_aload_n hx hb dX8_weight_14 rfl (lv_at hl 0 rfl) ?_
        refine va_get (D := D) (ci := 8) (v := .ref (ad 42)) (C := RX8) (T := TX8) (N := 27) hx hb htb wu_8 hown hK.1 hP 29 w_29 rfl 19 (by decide) (htb _ wFL_RX8_46) (fun _ h9 => h9) rfl dX8_weight_15 ?_
        refine lv_iconst (v := (3 : Int32)) hx hb dX8_weight_18 (by decide) ?_
        refine lv_iload hx hb dX8_weight_19 (lv_at hl 4 rfl) ?_
        refine lv_imul hx hb dX8_weight_21 ?_
        refine lv_iconst (v := (2 : Int32)) hx hb dX8_weight_22 (by decide) ?_
        refine lv_iadd hx hb dX8_weight_23 ?_
        obtain ⟨v3, g3, h⟩ := ob h
        refine r_ald hx hb hK hP 42 w_42 g3 dX8_weight_24 ?_
        refine lv_istore (lv' := [(6, .int v3), (0, .ref (ad 29)), (1, .int x1), (2, .int x2), (3, .long y1_3), (5, .int y1_5)]) hx hb dX8_weight_25 hl (by decide) rfl (fun ls hl => ?_)
        refine lv_iload_n hx hb dX8_weight_27 rfl (lv_at hl 2 rfl) ?_
        obtain ⟨v5, hj5, h⟩ := ob h
        have J5 : ∀ (H : Heap) (locs : List Loc) (ls : Array Slot), WP D ad cI σ τ η H → va_S (AA ad) s.heap H locs → lv_has ls 8 [(0, .ref (ad 29)), (1, .int x1), (2, .int x2), (3, .long y1_3), (5, .int y1_5), (6, .int v3)] → W p l e rmX8_weight s m args below meth c H locs 0 0 Q (F0 m 70 ls [.int v5]) := by
          intro H locs ls hP hS hl
          refine lv_istore (lv' := [(7, .int v5), (0, .ref (ad 29)), (1, .int x1), (2, .int x2), (3, .long y1_3), (5, .int y1_5), (6, .int v3)]) hx hb dX8_weight_70 hl (by decide) rfl (fun ls hl => ?_)
          refine lv_lload_n hx hb dX8_weight_72 rfl (lv_at hl 4 rfl) ?_
          refine lv_iload hx hb dX8_weight_73 (lv_at hl 6 rfl) ?_
          obtain ⟨v11, hj11, h⟩ := ol h
          have J11 : ∀ (H : Heap) (locs : List Loc) (ls : Array Slot), WP D ad cI σ τ η H → va_S (AA ad) s.heap H locs → lv_has ls 8 [(0, .ref (ad 29)), (1, .int x1), (2, .int x2), (5, .int y1_5)] → W p l e rmX8_weight s m args below meth c H locs 0 0 Q (F0 m 100 ls [.long v11, .long y1_3]) := by
            intro H locs ls hP hS hl
            refine lv_lmul hx hb dX8_weight_100 ?_
            refine lv_lstore_n (lv' := [(3, .long (y1_3 * v11)), (0, .ref (ad 29)), (1, .int x1), (2, .int x2), (5, .int y1_5)]) hx hb dX8_weight_101 rfl hl (by decide) rfl (fun ls hl => ?_)
            refine lv_iinc (v := (y1_5 + (1 : Int32))) (lv' := [(5, .int (y1_5 + (1 : Int32))), (3, .long (y1_3 * v11)), (0, .ref (ad 29)), (1, .int x1), (2, .int x2)]) hx hb dX8_weight_102 hl (k := 4) rfl rfl (by decide) rfl (fun ls hl => ?_)
            refine lv_goto (tgt := 5) hx hb dX8_weight_105 (by decide) ?_
            exact ih (y1_3 * v11) (y1_5 + (1 : Int32)) _ _ _ h hP hS (lv_sub hl [2, 3, 4, 1, 0] rfl)
          replace h := hj11
          refine lv_if_ne (tgt := 82) hx hb dX8_weight_75 (by decide) (fun c10 => ?_) (fun c10 => ?_)
          · replace h := iq c10 h
            refine lv_iload hx hb dX8_weight_82 (lv_at hl 6 rfl) ?_
            refine lv_iconst (v := (1 : Int32)) hx hb dX8_weight_84 (by decide) ?_
            refine lv_icmp_ne (tgt := 94) hx hb dX8_weight_85 (by decide) (fun c12 => ?_) (fun c12 => ?_)
            · replace h := iq c12 h
              refine lv_bipush (v := (10 : Int32)) hx hb dX8_weight_94 (by decide) ?_
              refine lv_iload hx hb dX8_weight_96 (lv_at hl 0 rfl) ?_
              refine lv_isub hx hb dX8_weight_98 ?_
              refine lv_i2l (v := ((((10 : Int32) - v5)).toInt64)) hx hb dX8_weight_99 rfl ?_
              subst h
              exact J11 _ _ _ hP hS (lv_sub hl [1, 2, 3, 5] rfl)
            · replace h := ip c12 h
              refine lv_iload hx hb dX8_weight_88 (lv_at hl 0 rfl) ?_
              refine lv_i2l (v := ((v5).toInt64)) hx hb dX8_weight_90 rfl ?_
              refine lv_goto (tgt := 100) hx hb dX8_weight_91 (by decide) ?_
              subst h
              exact J11 _ _ _ hP hS (lv_sub hl [1, 2, 3, 5] rfl)
          · replace h := ip c10 h
            refine lv_lconst (v := (1 : Int64)) hx hb dX8_weight_78 rfl ?_
            refine lv_goto (tgt := 100) hx hb dX8_weight_79 (by decide) ?_
            subst h
            exact J11 _ _ _ hP hS (lv_sub hl [1, 2, 3, 5] rfl)
        replace h := hj5
        refine lv_if_ne (tgt := 45) hx hb dX8_weight_28 (by decide) (fun c4 => ?_) (fun c4 => ?_)
        · replace h := iq c4 h
          refine lv_iload hx hb dX8_weight_45 (lv_at hl 0 rfl) ?_
          refine lv_iconst (v := (1 : Int32)) hx hb dX8_weight_47 (by decide) ?_
          refine lv_icmp_ne (tgt := 61) hx hb dX8_weight_48 (by decide) (fun c6 => ?_) (fun c6 => ?_)
          · replace h := iq c6 h
            refine lv_aload_n hx hb dX8_weight_61 rfl (lv_at hl 1 rfl) ?_
            refine va_get (D := D) (ci := 8) (v := .ref (ad 42)) (C := RX8) (T := TX8) (N := 27) hx hb htb wu_8 hown hK.1 hP 29 w_29 rfl 19 (by decide) (htb _ wFL_RX8_46) (fun _ h9 => h9) rfl dX8_weight_62 ?_
            refine lv_iconst (v := (3 : Int32)) hx hb dX8_weight_65 (by decide) ?_
            refine lv_iload hx hb dX8_weight_66 (lv_at hl 5 rfl) ?_
            refine lv_imul hx hb dX8_weight_68 ?_
            obtain ⟨v7, g7, h⟩ := ob h
            refine r_ald hx hb hK hP 42 w_42 g7 dX8_weight_69 ?_
            obtain rfl := Option.some.inj h
            exact J5 _ _ _ hP hS (lv_sub hl [1, 2, 3, 4, 5, 0] rfl)
          · replace h := ip c6 h
            refine lv_aload_n hx hb dX8_weight_51 rfl (lv_at hl 1 rfl) ?_
            refine lv_iload hx hb dX8_weight_52 (lv_at hl 5 rfl) ?_
            refine lv_iload_n hx hb dX8_weight_54 rfl (lv_at hl 3 rfl) ?_
            obtain ⟨v8, g8, h⟩ := ob h
            refine c_Vi (q := (RX8, TX8, 27)) (ci := 8) (b := 29) (As := [.int y1_5, .int x2]) (rest := []) (A := AA ad) ⟨hx, hb, hml, hown, htb⟩ (c_X8_withBy l D ad cI hd σ τ η y1_5 x2 v8 g8) (cwV 2 htb (gdV (fun _ hh => hh) wML_RX8_195 wIM_yX8_withBy wSE_yX8_withBy wI_RX8 wC_yX8_withBy) rfl rfl rfl hd_X8_withBy ⟨by decide, by decide⟩) hK hP rfl w_29 (fun _ hh => hh) hS rfl hl.1 rfl (Nat.le_of_ble_eq_true rfl) dX8_weight_55 ⟨Nat.le_refl 0, Nat.le_refl 0⟩ (fun H locs hP hS => ?_)
            refine lv_goto (tgt := 70) hx hb dX8_weight_58 (by decide) ?_
            obtain rfl := Option.some.inj h
            exact J5 _ _ _ hP hS (lv_sub hl [1, 2, 3, 4, 5, 0] rfl)
        · replace h := ip c4 h
          refine lv_aload_n hx hb dX8_weight_31 rfl (lv_at hl 1 rfl) ?_
          refine va_get (D := D) (ci := 8) (v := .ref (ad 42)) (C := RX8) (T := TX8) (N := 27) hx hb htb wu_8 hown hK.1 hP 29 w_29 rfl 19 (by decide) (htb _ wFL_RX8_46) (fun _ h9 => h9) rfl dX8_weight_32 ?_
          refine lv_iconst (v := (3 : Int32)) hx hb dX8_weight_35 (by decide) ?_
          refine lv_iload hx hb dX8_weight_36 (lv_at hl 5 rfl) ?_
          refine lv_imul hx hb dX8_weight_38 ?_
          refine lv_iconst (v := (1 : Int32)) hx hb dX8_weight_39 (by decide) ?_
          refine lv_iadd hx hb dX8_weight_40 ?_
          obtain ⟨v9, g9, h⟩ := ob h
          refine r_ald hx hb hK hP 42 w_42 g9 dX8_weight_41 ?_
          refine lv_goto (tgt := 70) hx hb dX8_weight_42 (by decide) ?_
          obtain rfl := Option.some.inj h
          exact J5 _ _ _ hP hS (lv_sub hl [1, 2, 3, 4, 5, 0] rfl)
  exact L1 10000 (1 : Int64) (0 : Int32) _ _ _ hj1 hP hS (lv_sub hl [2, 3, 4, 1, 0] rfl)
def X8_tellBelief (τ : St) (x1 : Int32) (x2 : Int32) : Option (Int64) :=
  bd (X8_weight τ (1 : Int32) x1) fun v1 =>
  bd (X8_weight τ (0 : Int32) x1) fun v2 =>
  bd (X8_term  v1 (v1 + v2) x2) fun v3 =>
  some v3
abbrev rmX8_tellBelief : Room := { frames := 2, cells := 0, slots := 0, locals := 52 }
set_option maxHeartbeats 4000000 in
set_option maxRecDepth 100000 in
theorem c_X8_tellBelief (l : Launch) (D : va_G) (ad : Nat → Nat) (cI : ClassId) (hd : HD ad) (σ τ : St) (η : Int64) (x1 : Int32) (x2 : Int32) (rr : Int64) (h : X8_tellBelief τ x1 x2 = some rr) : ML l yX8_tellBelief (wy yX8_tellBelief cX8_tellBelief 5 (some .long)) rmX8_tellBelief D ad cI [.ref (ad 29), .int x1, .int x2] σ τ η rr σ τ η := by
  refine mk_l (own := RX8) (lv := [(0, .ref (ad 29)), (1, .int x1), (2, .int x2)]) (plainFor_of_name (by decide)) rfl (Nat.le_of_ble_eq_true rfl) rfl ?_
  intro p e s m args below meth c Q ls hx hb hml hown htb hK ret hP hS hl
  unfold X8_tellBelief at h
  refine lv_aload_n hx hb dX8_tellBelief_0 rfl (lv_at hl 0 rfl) ?_
  refine lv_iconst (v := (1 : Int32)) hx hb dX8_tellBelief_1 (by decide) ?_
  refine lv_iload_n hx hb dX8_tellBelief_2 rfl (lv_at hl 1 rfl) ?_
  obtain ⟨v1, g1, h⟩ := ob h
  refine c_Vl (q := (RX8, TX8, 27)) (ci := 8) (b := 29) (As := [.int (1 : Int32), .int x1]) (rest := []) (A := AA ad) ⟨hx, hb, hml, hown, htb⟩ (c_X8_weight l D ad cI hd σ τ η (1 : Int32) x1 v1 g1) (cwV 2 htb (gdV (fun _ hh => hh) wML_RX8_198 wIM_yX8_weight wSE_yX8_weight wI_RX8 wC_yX8_weight) rfl rfl rfl hd_X8_weight ⟨by decide, by decide⟩) hK hP rfl w_29 (fun _ hh => hh) hS rfl hl.1 rfl (Nat.le_of_ble_eq_true rfl) dX8_tellBelief_3 ⟨Nat.le_refl 0, Nat.le_refl 0⟩ (fun H locs hP hS => ?_)
  refine lv_lstore_n (lv' := [(3, .long v1), (0, .ref (ad 29)), (1, .int x1), (2, .int x2)]) hx hb dX8_tellBelief_6 rfl hl (by decide) rfl (fun ls hl => ?_)
  refine lv_lload_n hx hb dX8_tellBelief_7 rfl (lv_at hl 0 rfl) ?_
  refine lv_lload_n hx hb dX8_tellBelief_8 rfl (lv_at hl 0 rfl) ?_
  refine lv_aload_n hx hb dX8_tellBelief_9 rfl (lv_at hl 1 rfl) ?_
  refine lv_iconst (v := (0 : Int32)) hx hb dX8_tellBelief_10 (by decide) ?_
  refine lv_iload_n hx hb dX8_tellBelief_11 rfl (lv_at hl 2 rfl) ?_
  obtain ⟨v2, g2, h⟩ := ob h
  refine c_Vl (q := (RX8, TX8, 27)) (ci := 8) (b := 29) (As := [.int (0 : Int32), .int x1]) (rest := [.long v1, .long v1]) (A := AA ad) ⟨hx, hb, hml, hown, htb⟩ (c_X8_weight l D ad cI hd σ τ η (0 : Int32) x1 v2 g2) (cwV 2 htb (gdV (fun _ hh => hh) wML_RX8_198 wIM_yX8_weight wSE_yX8_weight wI_RX8 wC_yX8_weight) rfl rfl rfl hd_X8_weight ⟨by decide, by decide⟩) hK hP rfl w_29 (fun _ hh => hh) hS rfl hl.1 rfl (Nat.le_of_ble_eq_true rfl) dX8_tellBelief_12 ⟨Nat.le_refl 0, Nat.le_refl 0⟩ (fun H locs hP hS => ?_)
  refine lv_ladd hx hb dX8_tellBelief_15 ?_
  refine lv_iload_n hx hb dX8_tellBelief_16 rfl (lv_at hl 3 rfl) ?_
  obtain ⟨v3, g3, h⟩ := ob h
  refine c_Sl (As := [.long v1, .long (v1 + v2), .int x2]) (rest := []) (A := AA ad) ⟨hx, hb, hml, hown, htb⟩ (c_X8_term l D ad cI hd σ τ η v1 (v1 + v2) x2 v3 g3) (va_cwS 3 htb (gdS (fun _ hh => hh) wML_RX8_133 wST_yX8_term wI_RX8 wC_yX8_term) rfl rfl rfl hd_X8_term.2 ⟨by decide, by decide⟩) hK hP (fun _ hh => hh) hS rfl hl.1 rfl (Nat.le_of_ble_eq_true rfl) dX8_tellBelief_17 ⟨Nat.le_refl 0, Nat.le_refl 0⟩ (fun H locs hP hS => ?_)
  obtain rfl := Option.some.inj h
  exact ret _ _ _ _ _ dX8_tellBelief_20 hP hS rfl
