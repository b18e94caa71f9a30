def X8_blank (τ : St)  : Int32 × St :=
  lt (s2 τ 29 7 (0 : Int32)) fun τ1 =>
  ((τ 29 7), τ1)
abbrev rmX8_blank : Room := { frames := 0, cells := 0, slots := 0, locals := 0 }
set_option maxHeartbeats 4000000 in
set_option maxRecDepth 100000 in
theorem c_X8_blank (l : Launch) (D : va_G) (ad : Nat → Nat) (cI : ClassId) (hd : HD ad) (σ τ : St) (η : Int64)  (rr : Int32 × St) (h : X8_blank τ  = rr) : MI l yX8_blank (wy yX8_blank cX8_blank 2 (some .int)) rmX8_blank D ad cI [.ref (ad 29)] σ τ η rr.1 σ rr.2 η := by
  refine mk_i (own := RX8) (lv := [(0, .ref (ad 29))]) (plainFor_of_name (by decide)) rfl (Nat.le_of_ble_eq_true rfl) rfl ?_
  intro p e s m args below meth c Q ls hx hb hml hown htb hK ret hP hS hl
  unfold X8_blank at h
  refine lv_aload_n hx hb dX8_blank_0 rfl (lv_at hl 0 rfl) ?_
  refine va_get (D := D) (ci := 8) (v := .int (τ 29 7)) (C := RX8) (T := TX8) (N := 27) hx hb htb wu_8 hown hK.1 hP 29 w_29 rfl 7 (by decide) (htb _ wFL_RX8_97) (fun _ h9 => h9) rfl dX8_blank_1 ?_
  refine lv_istore_n (lv' := [(1, .int (τ 29 7)), (0, .ref (ad 29))]) hx hb dX8_blank_4 rfl hl (by decide) rfl (fun ls hl => ?_)
  refine lv_aload_n hx hb dX8_blank_5 rfl (lv_at hl 1 rfl) ?_
  refine lv_iconst (v := (0 : Int32)) hx hb dX8_blank_6 (by decide) ?_
  obtain ⟨τ1, g1, h⟩ := ol h
  refine r_putM (ci := 8) (C := RX8) (T := TX8) (N := 27) (A := AA ad) hx hb htb wu_8 tyX8 tyX8_ok nmX8 hown hK hd (fun _ hh => hh) hP hS 7 rfl rfl rfl (by decide) (htb _ wFL_RX8_97) rfl rfl (by decide +kernel) (Nat.le_of_ble_eq_true rfl) dX8_blank_7 (fun H locs hP hS => ?_)
  rw [g1] at hP
  refine lv_iload_n hx hb dX8_blank_10 rfl (lv_at hl 0 rfl) ?_
  subst h
  exact ret _ _ _ _ _ dX8_blank_11 hP hS rfl
def X3_codeAt (σ : St) (x1 : Int32) : Option (Int32) :=
  if x1 < 0 then (
    some (0 : Int32))
  else (
    if (σ 8 1) ≤ x1 then (
      some (0 : Int32))
    else (
      bd (rd (σ 9) 60 x1) fun v3 =>
      some v3))
abbrev rmX3_codeAt : Room := { frames := 0, cells := 0, slots := 0, locals := 0 }
set_option maxHeartbeats 4000000 in
set_option maxRecDepth 100000 in
theorem c_X3_codeAt (l : Launch) (D : va_G) (ad : Nat → Nat) (cI : ClassId) (hd : HD ad) (σ τ : St) (η : Int64) (x1 : Int32) (rr : Int32) (h : X3_codeAt σ x1 = some rr) : MI l yX3_codeAt (wy yX3_codeAt cX3_codeAt 2 (some .int)) rmX3_codeAt D ad cI [.ref (ad 8), .int x1] σ τ η rr σ τ η := by
  refine mk_i (own := RX3) (lv := [(0, .ref (ad 8)), (1, .int x1)]) (plainFor_of_name (by decide)) rfl (Nat.le_of_ble_eq_true rfl) rfl ?_
  intro p e s m args below meth c Q ls hx hb hml hown htb hK ret hP hS hl
  unfold X3_codeAt at h
  refine lv_iload_n hx hb dX3_codeAt_0 rfl (lv_at hl 1 rfl) ?_
  refine lv_if_lt (tgt := 21) hx hb dX3_codeAt_1 (by decide) (fun c1 => ?_) (fun c1 => ?_)
  · replace h := ip c1 h
    refine lv_iconst (v := (0 : Int32)) hx hb dX3_codeAt_21 (by decide) ?_
    obtain rfl := Option.some.inj h
    exact ret _ _ _ _ _ dX3_codeAt_22 hP hS rfl
  · replace h := iq c1 h
    refine lv_iload_n hx hb dX3_codeAt_4 rfl (lv_at hl 1 rfl) ?_
    refine lv_aload_n hx hb dX3_codeAt_5 rfl (lv_at hl 0 rfl) ?_
    refine va_get (D := D) (ci := 3) (v := .int (σ 8 1)) (C := RX3) (T := TX3) (N := 2) hx hb htb wu_3 hown hK.1 hP 8 w_8 rfl 1 (by decide) (htb _ wFL_RX3_17) (fun _ h9 => h9) rfl dX3_codeAt_6 ?_
    refine lv_icmp_ge (tgt := 21) hx hb dX3_codeAt_9 (by decide) (fun c2 => ?_) (fun c2 => ?_)
    · replace h := ip c2 h
      refine lv_iconst (v := (0 : Int32)) hx hb dX3_codeAt_21 (by decide) ?_
      obtain rfl := Option.some.inj h
      exact ret _ _ _ _ _ dX3_codeAt_22 hP hS rfl
    · replace h := iq c2 h
      refine lv_aload_n hx hb dX3_codeAt_12 rfl (lv_at hl 0 rfl) ?_
      refine va_get (D := D) (ci := 3) (v := .ref (ad 9)) (C := RX3) (T := TX3) (N := 2) hx hb htb wu_3 hown hK.1 hP 8 w_8 rfl 0 (by decide) (htb _ wFL_RX3_13) (fun _ h9 => h9) rfl dX3_codeAt_13 ?_
      refine lv_iload_n hx hb dX3_codeAt_16 rfl (lv_at hl 1 rfl) ?_
      obtain ⟨v3, g3, h⟩ := ob h
      refine r_ald hx hb hK hP 9 w_9 g3 dX3_codeAt_17 ?_
      refine lv_goto (tgt := 22) hx hb dX3_codeAt_18 (by decide) ?_
      obtain rfl := Option.some.inj h
      exact ret _ _ _ _ _ dX3_codeAt_22 hP hS rfl
def X3_digitAt (σ : St) (x1 : Int32) : Option (Int32) :=
  bd (X3_codeAt σ x1) fun v1 =>
  some (v1 - (48 : Int32))
abbrev rmX3_digitAt : Room := { frames := 1, cells := 0, slots := 0, locals := 21 }
set_option maxHeartbeats 4000000 in
set_option maxRecDepth 100000 in
theorem c_X3_digitAt (l : Launch) (D : va_G) (ad : Nat → Nat) (cI : ClassId) (hd : HD ad) (σ τ : St) (η : Int64) (x1 : Int32) (rr : Int32) (h : X3_digitAt σ x1 = some rr) : MI l yX3_digitAt (wy yX3_digitAt cX3_digitAt 2 (some .int)) rmX3_digitAt D ad cI [.ref (ad 8), .int x1] σ τ η rr σ τ η := by
  refine mk_i (own := RX3) (lv := [(0, .ref (ad 8)), (1, .int x1)]) (plainFor_of_name (by decide)) rfl (Nat.le_of_ble_eq_true rfl) rfl ?_
  intro p e s m args below meth c Q ls hx hb hml hown htb hK ret hP hS hl
  unfold X3_digitAt at h
  refine lv_aload_n hx hb dX3_digitAt_0 rfl (lv_at hl 0 rfl) ?_
  refine lv_iload_n hx hb dX3_digitAt_1 rfl (lv_at hl 1 rfl) ?_
  obtain ⟨v1, g1, h⟩ := ob h
  refine c_Vi (q := (RX3, TX3, 2)) (ci := 3) (b := 8) (As := [.int x1]) (rest := []) (A := AA ad) ⟨hx, hb, hml, hown, htb⟩ (c_X3_codeAt l D ad cI hd σ τ η x1 v1 g1) (cwV 1 htb (gdV (fun _ hh => hh) wML_RX3_27 wIM_yX3_codeAt wSE_yX3_codeAt wI_RX3 wC_yX3_codeAt) rfl rfl rfl hd_X3_codeAt ⟨by decide, by decide⟩) hK hP rfl w_8 (fun _ hh => hh) hS rfl hl.1 rfl (Nat.le_of_ble_eq_true rfl) dX3_digitAt_2 ⟨Nat.le_refl 0, Nat.le_refl 0⟩ (fun H locs hP hS => ?_)
  refine lv_bipush (v := (48 : Int32)) hx hb dX3_digitAt_5 (by decide) ?_
  refine lv_isub hx hb dX3_digitAt_7 ?_
  obtain rfl := Option.some.inj h
  exact ret _ _ _ _ _ dX3_digitAt_8 hP hS rfl
def X7_isTenths  (x0 : Int32) : Int32 :=
  if x0 < (1 : Int32) then (
    (0 : Int32))
  else (
    if (9 : Int32) < x0 then (
      (0 : Int32))
    else (
      (1 : Int32)))
abbrev rmX7_isTenths : Room := { frames := 0, cells := 0, slots := 0, locals := 0 }
set_option maxHeartbeats 4000000 in
set_option maxRecDepth 100000 in
theorem c_X7_isTenths (l : Launch) (D : va_G) (ad : Nat → Nat) (cI : ClassId) (hd : HD ad) (σ τ : St) (η : Int64) (x0 : Int32) (rr : Int32) (h : X7_isTenths  x0 = rr) : MZ l yX7_isTenths (wy yX7_isTenths cX7_isTenths 1 (some .boolean)) rmX7_isTenths D ad cI [.int x0] σ τ η rr σ τ η := by
  refine mk_z (own := RX7) (lv := [(0, .int x0)]) (plainFor_of_name (by decide)) rfl (Nat.le_of_ble_eq_true rfl) rfl ?_
  intro p e s m args below meth c Q ls hx hb hml hown htb hK ret hP hS hl
  unfold X7_isTenths at h
  refine lv_iload_n hx hb dX7_isTenths_0 rfl (lv_at hl 0 rfl) ?_
  refine lv_iconst (v := (1 : Int32)) hx hb dX7_isTenths_1 (by decide) ?_
  refine lv_icmp_lt (tgt := 15) hx hb dX7_isTenths_2 (by decide) (fun c1 => ?_) (fun c1 => ?_)
  · replace h := ip c1 h
    refine lv_iconst (v := (0 : Int32)) hx hb dX7_isTenths_15 (by decide) ?_
    subst h
    exact ret _ _ _ _ _ dX7_isTenths_16 hP hS rfl (by first | exact Or.inl rfl | exact Or.inr rfl | assumption)
  · replace h := iq c1 h
    refine lv_iload_n hx hb dX7_isTenths_5 rfl (lv_at hl 0 rfl) ?_
    refine lv_bipush (v := (9 : Int32)) hx hb dX7_isTenths_6 (by decide) ?_
    refine lv_icmp_gt (tgt := 15) hx hb dX7_isTenths_8 (by decide) (fun c2 => ?_) (fun c2 => ?_)
    · replace h := ip c2 h
      refine lv_iconst (v := (0 : Int32)) hx hb dX7_isTenths_15 (by decide) ?_
      subst h
      exact ret _ _ _ _ _ dX7_isTenths_16 hP hS rfl (by first | exact Or.inl rfl | exact Or.inr rfl | assumption)
    · replace h := iq c2 h
      refine lv_iconst (v := (1 : Int32)) hx hb dX7_isTenths_11 (by decide) ?_
      refine lv_goto (tgt := 16) hx hb dX7_isTenths_12 (by decide) ?_
      subst h
      exact ret _ _ _ _ _ dX7_isTenths_16 hP hS rfl (by first | exact Or.inl rfl | exact Or.inr rfl | assumption)
def X3_fits (σ : St) (x1 : Int32) (x2 : Int32) : Option (Int32) :=
  bd (X3_digitAt σ x1) fun v1 =>
  if x1 < (59 : Int32) then (
    if (irem x1 (4 : Int32)) = (0 : Int32) then (
      if v1 < 0 then (
        some (0 : Int32))
      else (
        if x2 ≤ v1 then (
          some (0 : Int32))
        else (
          some (1 : Int32))))
    else (
      if (irem x1 (4 : Int32)) = (1 : Int32) then (
        lt (X7_isDay  v1) fun v7 =>
        some v7)
      else (
        if (irem x1 (4 : Int32)) = (2 : Int32) then (
          lt (X7_isTenths  v1) fun v9 =>
          some v9)
        else (
          bd (X3_codeAt σ x1) fun v10 =>
          if v10 = (44 : Int32) then (
            some (1 : Int32))
          else (
            some (0 : Int32))))))
  else (
    some (0 : Int32))
abbrev rmX3_fits : Room := { frames := 2, cells := 0, slots := 0, locals := 42 }
set_option maxHeartbeats 4000000 in
set_option maxRecDepth 100000 in
theorem c_X3_fits (l : Launch) (D : va_G) (ad : Nat → Nat) (cI : ClassId) (hd : HD ad) (σ τ : St) (η : Int64) (x1 : Int32) (x2 : Int32) (rr : Int32) (h : X3_fits σ x1 x2 = some rr) : MZ l yX3_fits (wy yX3_fits cX3_fits 4 (some .boolean)) rmX3_fits D ad cI [.ref (ad 8), .int x1, .int x2] σ τ η rr σ τ η := by
  refine mk_z (own := RX3) (lv := [(0, .ref (ad 8)), (1, .int x1), (2, .int x2)]) (plainFor_of_name (by decide)) rfl (Nat.le_of_ble_eq_true rfl) rfl ?_
  intro p e s m args below meth c Q ls hx hb hml hown htb hK ret hP hS hl
  unfold X3_fits at h
  refine lv_aload_n hx hb dX3_fits_0 rfl (lv_at hl 0 rfl) ?_
  refine lv_iload_n hx hb dX3_fits_1 rfl (lv_at hl 1 rfl) ?_
  obtain ⟨v1, g1, h⟩ := ob h
  refine c_Vi (q := (RX3, TX3, 2)) (ci := 3) (b := 8) (As := [.int x1]) (rest := []) (A := AA ad) ⟨hx, hb, hml, hown, htb⟩ (c_X3_digitAt l D ad cI hd σ τ η x1 v1 g1) (cwV 1 htb (gdV (fun _ hh => hh) wML_RX3_38 wIM_yX3_digitAt wSE_yX3_digitAt wI_RX3 wC_yX3_digitAt) rfl rfl rfl hd_X3_digitAt ⟨by decide, by decide⟩) hK hP rfl w_8 (fun _ hh => hh) hS rfl hl.1 rfl (Nat.le_of_ble_eq_true rfl) dX3_fits_2 ⟨Nat.le_refl 0, Nat.le_refl 0⟩ (fun H locs hP hS => ?_)
  refine lv_istore_n (lv' := [(3, .int v1), (0, .ref (ad 8)), (1, .int x1), (2, .int x2)]) hx hb dX3_fits_5 rfl hl (by decide) rfl (fun ls hl => ?_)
  refine lv_iload_n hx hb dX3_fits_6 rfl (lv_at hl 2 rfl) ?_
  refine lv_bipush (v := (59 : Int32)) hx hb dX3_fits_7 (by decide) ?_
  refine lv_icmp_lt (tgt := 14) hx hb dX3_fits_9 (by decide) (fun c2 => ?_) (fun c2 => ?_)
  · replace h := ip c2 h
    refine lv_iload_n hx hb dX3_fits_14 rfl (lv_at hl 2 rfl) ?_
    refine lv_iconst (v := (4 : Int32)) hx hb dX3_fits_15 (by decide) ?_
    refine lv_irem hx hb dX3_fits_16 (by decide) ?_
    by_cases c3 : (irem x1 (4 : Int32)) = (0 : Int32)
    · replace h := ip c3 h
      refine lv_tableIn (x := (irem x1 (4 : Int32))) (off := 27) (tgt := 44) hx hb dX3_fits_17 (by rw [c3]; decide) (by rw [c3]; decide) (by rw [c3]; rfl) (by decide) ?_
      refine lv_iload_n hx hb dX3_fits_44 rfl (lv_at hl 0 rfl) ?_
      refine lv_if_lt (tgt := 57) hx hb dX3_fits_45 (by decide) (fun c4 => ?_) (fun c4 => ?_)
      · replace h := ip c4 h
        refine lv_iconst (v := (0 : Int32)) hx hb dX3_fits_57 (by decide) ?_
        obtain rfl := Option.some.inj h
        exact ret _ _ _ _ _ dX3_fits_58 hP hS rfl (by first | exact Or.inl rfl | exact Or.inr rfl | assumption)
      · replace h := iq c4 h
        refine lv_iload_n hx hb dX3_fits_48 rfl (lv_at hl 0 rfl) ?_
        refine lv_iload_n hx hb dX3_fits_49 rfl (lv_at hl 3 rfl) ?_
        refine lv_icmp_ge (tgt := 57) hx hb dX3_fits_50 (by decide) (fun c5 => ?_) (fun c5 => ?_)
        · replace h := ip c5 h
          refine lv_iconst (v := (0 : Int32)) hx hb dX3_fits_57 (by decide) ?_
          obtain rfl := Option.some.inj h
          exact ret _ _ _ _ _ dX3_fits_58 hP hS rfl (by first | exact Or.inl rfl | exact Or.inr rfl | assumption)
        · replace h := iq c5 h
          refine lv_iconst (v := (1 : Int32)) hx hb dX3_fits_53 (by decide) ?_
          refine lv_goto (tgt := 58) hx hb dX3_fits_54 (by decide) ?_
          obtain rfl := Option.some.inj h
          exact ret _ _ _ _ _ dX3_fits_58 hP hS rfl (by first | exact Or.inl rfl | exact Or.inr rfl | assumption)
    · replace h := iq c3 h
      by_cases c6 : (irem x1 (4 : Int32)) = (1 : Int32)
      · replace h := ip c6 h
        refine lv_tableIn (x := (irem x1 (4 : Int32))) (off := 42) (tgt := 59) hx hb dX3_fits_17 (by rw [c6]; decide) (by rw [c6]; decide) (by rw [c6]; rfl) (by decide) ?_
        refine lv_iload_n hx hb dX3_fits_59 rfl (lv_at hl 0 rfl) ?_
        obtain ⟨v7, g7, h⟩ := ol h
        refine c_Nz (As := [.int v1]) (rest := []) (A := AA ad) ⟨hx, hb, hml, hown, htb⟩ (c_X7_isDay l D ad cI hd σ τ η v1 v7 g7) ⟨va_cnB 1 htb (gdW (fun _ hh => hh) wC_yX7_isDay) rfl rfl rfl (hK.2 _ wMN_RX3_41 rfl) (htb _ wI_RX7) hd_X7_isDay.2 ⟨by decide, by decide⟩, htb _ wST_yX7_isDay, trivial⟩ hK hP (fun _ hh => hh) hS rfl hl.1 rfl (Nat.le_of_ble_eq_true rfl) dX3_fits_60 ⟨Nat.le_refl 0, Nat.le_refl 0⟩ (fun H locs hz7 hP hS => ?_)
        obtain rfl := Option.some.inj h
        exact ret _ _ _ _ _ dX3_fits_63 hP hS rfl (by first | exact Or.inl rfl | exact Or.inr rfl | assumption)
      · replace h := iq c6 h
        by_cases c8 : (irem x1 (4 : Int32)) = (2 : Int32)
        · replace h := ip c8 h
          refine lv_tableIn (x := (irem x1 (4 : Int32))) (off := 47) (tgt := 64) hx hb dX3_fits_17 (by rw [c8]; decide) (by rw [c8]; decide) (by rw [c8]; rfl) (by decide) ?_
          refine lv_iload_n hx hb dX3_fits_64 rfl (lv_at hl 0 rfl) ?_
          obtain ⟨v9, g9, h⟩ := ol h
          refine c_Nz (As := [.int v1]) (rest := []) (A := AA ad) ⟨hx, hb, hml, hown, htb⟩ (c_X7_isTenths l D ad cI hd σ τ η v1 v9 g9) ⟨va_cnB 1 htb (gdW (fun _ hh => hh) wC_yX7_isTenths) rfl rfl rfl (hK.2 _ wMN_RX3_45 rfl) (htb _ wI_RX7) hd_X7_isTenths.2 ⟨by decide, by decide⟩, htb _ wST_yX7_isTenths, trivial⟩ hK hP (fun _ hh => hh) hS rfl hl.1 rfl (Nat.le_of_ble_eq_true rfl) dX3_fits_65 ⟨Nat.le_refl 0, Nat.le_refl 0⟩ (fun H locs hz9 hP hS => ?_)
          obtain rfl := Option.some.inj h
          exact ret _ _ _ _ _ dX3_fits_68 hP hS rfl (by first | exact Or.inl rfl | exact Or.inr rfl | assumption)
        · replace h := iq c8 h
          have zc3 := lv_neT c3 (show ((0 : Int32)).toInt = 0 by decide)
          have zc6 := lv_neT c6 (show ((1 : Int32)).toInt = 1 by decide)
          have zc8 := lv_neT c8 (show ((2 : Int32)).toInt = 2 by decide)
          refine lv_tableOut (x := (irem x1 (4 : Int32))) (tgt := 69) hx hb dX3_fits_17 (by omega) (by decide) ?_
          refine lv_aload_n hx hb dX3_fits_69 rfl (lv_at hl 1 rfl) ?_
          refine lv_iload_n hx hb dX3_fits_70 rfl (lv_at hl 2 rfl) ?_
          obtain ⟨v10, g10, h⟩ := ob h
          refine c_Vi (q := (RX3, TX3, 2)) (ci := 3) (b := 8) (As := [.int x1]) (rest := []) (A := AA ad) ⟨hx, hb, hml, hown, htb⟩ (c_X3_codeAt l D ad cI hd σ τ η x1 v10 g10) (cwV 1 htb (gdV (fun _ hh => hh) wML_RX3_27 wIM_yX3_codeAt wSE_yX3_codeAt wI_RX3 wC_yX3_codeAt) rfl rfl rfl hd_X3_codeAt ⟨by decide, by decide⟩) hK hP rfl w_8 (fun _ hh => hh) hS rfl hl.1 rfl (Nat.le_of_ble_eq_true rfl) dX3_fits_71 ⟨Nat.le_refl 0, Nat.le_refl 0⟩ (fun H locs hP hS => ?_)
          refine lv_bipush (v := (44 : Int32)) hx hb dX3_fits_74 (by decide) ?_
          refine lv_icmp_ne (tgt := 83) hx hb dX3_fits_76 (by decide) (fun c11 => ?_) (fun c11 => ?_)
          · replace h := iq c11 h
            refine lv_iconst (v := (0 : Int32)) hx hb dX3_fits_83 (by decide) ?_
            obtain rfl := Option.some.inj h
            exact ret _ _ _ _ _ dX3_fits_84 hP hS rfl (by first | exact Or.inl rfl | exact Or.inr rfl | assumption)
          · replace h := ip c11 h
            refine lv_iconst (v := (1 : Int32)) hx hb dX3_fits_79 (by decide) ?_
            refine lv_goto (tgt := 84) hx hb dX3_fits_80 (by decide) ?_
            obtain rfl := Option.some.inj h
            exact ret _ _ _ _ _ dX3_fits_84 hP hS rfl (by first | exact Or.inl rfl | exact Or.inr rfl | assumption)
  · replace h := iq c2 h
    refine lv_iconst (v := (0 : Int32)) hx hb dX3_fits_12 (by decide) ?_
    obtain rfl := Option.some.inj h
    exact ret _ _ _ _ _ dX3_fits_13 hP hS rfl (by first | exact Or.inl rfl | exact Or.inr rfl | assumption)
def X3_firstWrong_L1 (n : Nat) (σ_1 : St) (u1_1 : Int32) (y1_2 : Int32) : Option ((Int32) ⊕ (Int32)) := match n with
  | 0 => none
  | n + 1 =>
    if (σ_1 8 1) ≤ y1_2 then (
      some (Sum.inr y1_2))
    else (
      bd (X3_fits σ_1 y1_2 u1_1) fun v3 =>
      if v3 = 0 then (
        some (Sum.inl y1_2))
      else (
        X3_firstWrong_L1 n σ_1 u1_1 (y1_2 + (1 : Int32))))
theorem X3_firstWrong_L1_s (n : Nat) (σ_1 : St) (u1_1 : Int32) (y1_2 : Int32) : X3_firstWrong_L1 (n + 1) σ_1 u1_1 y1_2 =
    if (σ_1 8 1) ≤ y1_2 then (
      some (Sum.inr y1_2))
    else (
      bd (X3_fits σ_1 y1_2 u1_1) fun v3 =>
      if v3 = 0 then (
        some (Sum.inl y1_2))
      else (
        X3_firstWrong_L1 n σ_1 u1_1 (y1_2 + (1 : Int32)))) := rfl
def X3_firstWrong (σ : St) (x1 : Int32) : Option (Int32) :=
  bd (X3_firstWrong_L1 10000 σ x1 (0 : Int32)) fun v1 => Sum.elim (fun q => some q) (fun w5 =>
    some (σ 8 1)) v1
abbrev rmX3_firstWrong : Room := { frames := 3, cells := 0, slots := 0, locals := 65 }
set_option maxHeartbeats 4000000 in
set_option maxRecDepth 100000 in
theorem c_X3_firstWrong (l : Launch) (D : va_G) (ad : Nat → Nat) (cI : ClassId) (hd : HD ad) (σ τ : St) (η : Int64) (x1 : Int32) (rr : Int32) (h : X3_firstWrong σ x1 = some rr) : MI l yX3_firstWrong (wy yX3_firstWrong cX3_firstWrong 3 (some .int)) rmX3_firstWrong D ad cI [.ref (ad 8), .int x1] σ τ η rr σ τ η := by
  refine mk_i (own := RX3) (lv := [(0, .ref (ad 8)), (1, .int x1)]) (plainFor_of_name (by decide)) rfl (Nat.le_of_ble_eq_true rfl) rfl ?_
  intro p e s m args below meth c Q ls hx hb hml hown htb hK ret hP hS hl
  unfold X3_firstWrong at h
  refine lv_iconst (v := (0 : Int32)) hx hb dX3_firstWrong_0 (by decide) ?_
  refine lv_istore_n (lv' := [(2, .int (0 : Int32)), (0, .ref (ad 8)), (1, .int x1)]) hx hb dX3_firstWrong_1 rfl hl (by decide) rfl (fun ls hl => ?_)
  obtain ⟨v1, hj1, h⟩ := ob h
  have KR1 : ∀ q, v1 = Sum.inl q → rr = q := fun q e8 => by
    rw [e8] at h
    exact (Option.some.inj h).symm
  have K1 : ∀ w5, v1 = Sum.inr w5 → ∀ (H : Heap) (locs : List Loc) (ls : Array Slot), WP D ad cI σ τ η H → va_S (AA ad) s.heap H locs → lv_has ls 3 [(0, .ref (ad 8))] → W p l e rmX3_firstWrong s m args below meth c H locs 0 0 Q (F0 m 27 ls []) := by
    intro w5 e8 H locs ls hP hS hl
    rw [e8] at h
    replace h : (    some (σ 8 1)) = some rr := h
    refine lv_aload_n hx hb dX3_firstWrong_27 rfl (lv_at hl 0 rfl) ?_
    refine va_get (D := D) (ci := 3) (v := .int (σ 8 1)) (C := RX3) (T := TX3) (N := 2) hx hb htb wu_3 hown hK.1 hP 8 w_8 rfl 1 (by decide) (htb _ wFL_RX3_17) (fun _ h9 => h9) rfl dX3_firstWrong_28 ?_
    obtain rfl := Option.some.inj h
    exact ret _ _ _ _ _ dX3_firstWrong_31 hP hS rfl
  have L1 : ∀ (n : Nat) (y1_2 : Int32) (H : Heap) (locs : List Loc) (ls : Array Slot), X3_firstWrong_L1 n σ x1 y1_2 = some v1 → WP D ad cI σ τ η H → va_S (AA ad) s.heap H locs → lv_has ls 3 [(0, .ref (ad 8)), (1, .int x1), (2, .int y1_2)] → W p l e rmX3_firstWrong s m args below meth c H locs 0 0 Q (F0 m 2 ls []) := by
    intro n
    induction n with
    | zero => intro y1_2 H locs ls h; exact absurd h (by simp [X3_firstWrong_L1])
    | succ n ih =>
      intro y1_2 H locs ls h hP hS hl
      replace h := (X3_firstWrong_L1_s n σ x1 y1_2).symm.trans h
      refine lv_iload_n hx hb dX3_firstWrong_2 rfl (lv_at hl 2 rfl) ?_
      refine lv_aload_n hx hb dX3_firstWrong_3 rfl (lv_at hl 0 rfl) ?_
      refine va_get (D := D) (ci := 3) (v := .int (σ 8 1)) (C := RX3) (T := TX3) (N := 2) hx hb htb wu_3 hown hK.1 hP 8 w_8 rfl 1 (by decide) (htb _ wFL_RX3_17) (fun _ h9 => h9) rfl dX3_firstWrong_4 ?_
      refine lv_icmp_ge (tgt := 27) hx hb dX3_firstWrong_7 (by decide) (fun c2 => ?_) (fun c2 => ?_)
      · replace h := ip c2 h
        exact K1 _ (Option.some.inj h).symm _ _ _ hP hS (lv_sub hl [0] rfl)
      · replace h := iq c2 h
        refine lv_aload_n hx hb dX3_firstWrong_10 rfl (lv_at hl 0 rfl) ?_
        refine lv_iload_n hx hb dX3_firstWrong_11 rfl (lv_at hl 2 rfl) ?_
        refine lv_iload_n hx hb dX3_firstWrong_12 rfl (lv_at hl 1 rfl) ?_
        obtain ⟨v3, g3, h⟩ := ob h
        refine c_Vz (q := (RX3, TX3, 2)) (ci := 3) (b := 8) (As := [.int y1_2, .int x1]) (rest := []) (A := AA ad) ⟨hx, hb, hml, hown, htb⟩ (c_X3_fits l D ad cI hd σ τ η y1_2 x1 v3 g3) (cwV 2 htb (gdV (fun _ hh => hh) wML_RX3_31 wIM_yX3_fits wSE_yX3_fits wI_RX3 wC_yX3_fits) rfl rfl rfl hd_X3_fits ⟨by decide, by decide⟩) hK hP rfl w_8 (fun _ hh => hh) hS rfl hl.1 rfl (Nat.le_of_ble_eq_true rfl) dX3_firstWrong_13 ⟨Nat.le_refl 0, Nat.le_refl 0⟩ (fun H locs hz3 hP hS => ?_)
        refine lv_if_ne (tgt := 21) hx hb dX3_firstWrong_16 (by decide) (fun c4 => ?_) (fun c4 => ?_)
        · replace h := iq c4 h
          refine lv_iinc (v := (y1_2 + (1 : Int32))) (lv' := [(2, .int (y1_2 + (1 : Int32))), (0, .ref (ad 8)), (1, .int x1)]) hx hb dX3_firstWrong_21 hl (k := 2) rfl rfl (by decide) rfl (fun ls hl => ?_)
          refine lv_goto (tgt := 2) hx hb dX3_firstWrong_24 (by decide) ?_
          exact ih (y1_2 + (1 : Int32)) _ _ _ h hP hS (lv_sub hl [1, 2, 0] rfl)
        · replace h := ip c4 h
          refine lv_iload_n hx hb dX3_firstWrong_19 rfl (lv_at hl 2 rfl) ?_
          have e9 := KR1 _ (Option.some.inj h).symm
          subst e9
          exact ret _ _ _ _ _ dX3_firstWrong_20 hP hS rfl
  exact L1 10000 (0 : Int32) _ _ _ hj1 hP hS (lv_sub hl [1, 2, 0] rfl)
def X7_fault (σ : St)  : Option (Int32) :=
  lt (X0_size σ ) fun v1 =>
  bd (X3_firstWrong σ v1) fun v2 =>
  some v2
abbrev rmX7_fault : Room := { frames := 4, cells := 0, slots := 0, locals := 87 }
set_option maxHeartbeats 4000000 in
set_option maxRecDepth 100000 in
theorem c_X7_fault (l : Launch) (D : va_G) (ad : Nat → Nat) (cI : ClassId) (hd : HD ad) (σ τ : St) (η : Int64)  (rr : Int32) (h : X7_fault σ  = some rr) : MI l yX7_fault (wy yX7_fault cX7_fault 1 (some .int)) rmX7_fault D ad cI [.ref (ad 0)] σ τ η rr σ τ η := by
  refine mk_i (own := RX7) (lv := [(0, .ref (ad 0))]) (plainFor_of_name (by decide)) rfl (Nat.le_of_ble_eq_true rfl) rfl ?_
  intro p e s m args below meth c Q ls hx hb hml hown htb hK ret hP hS hl
  unfold X7_fault at h
  refine lv_aload_n hx hb dX7_fault_0 rfl (lv_at hl 0 rfl) ?_
  refine va_get (D := D) (ci := 7) (v := .ref (ad 8)) (C := RX7) (T := TX7) (N := 11) hx hb htb wu_7 hown hK.1 hP 0 w_0 rfl 2 (by decide) (htb _ wFL_RX7_26) (fun _ h9 => h9) rfl dX7_fault_1 ?_
  refine lv_aload_n hx hb dX7_fault_4 rfl (lv_at hl 0 rfl) ?_
  refine va_get (D := D) (ci := 7) (v := .ref (ad 1)) (C := RX7) (T := TX7) (N := 11) hx hb htb wu_7 hown hK.1 hP 0 w_0 rfl 0 (by decide) (htb _ wFL_RX7_10) (fun _ h9 => h9) rfl dX7_fault_5 ?_
  obtain ⟨v1, g1, h⟩ := ol h
  refine c_Vi (q := (RX0, TX0, 6)) (ci := 0) (b := 1) (As := []) (rest := [.ref (ad 8)]) (A := AA ad) ⟨hx, hb, hml, hown, htb⟩ (c_X0_size l D ad cI hd σ τ η  v1 g1) (cwV 0 htb (gdV (fun _ hh => hh) wML_RX7_138 wIM_yX0_size wSE_yX0_size wI_RX0 wC_yX0_size) rfl rfl rfl hd_X0_size ⟨by decide, by decide⟩) hK hP rfl w_1 (fun _ hh => hh) hS rfl hl.1 rfl (Nat.le_of_ble_eq_true rfl) dX7_fault_8 ⟨Nat.le_refl 0, Nat.le_refl 0⟩ (fun H locs hP hS => ?_)
  obtain ⟨v2, g2, h⟩ := ob h
  refine c_Vi (q := (RX3, TX3, 2)) (ci := 3) (b := 8) (As := [.int v1]) (rest := []) (A := AA ad) ⟨hx, hb, hml, hown, htb⟩ (c_X3_firstWrong l D ad cI hd σ τ η v1 v2 g2) (cwV 1 htb (gdV (fun _ hh => hh) wML_RX7_139 wIM_yX3_firstWrong wSE_yX3_firstWrong wI_RX3 wC_yX3_firstWrong) rfl rfl rfl hd_X3_firstWrong ⟨by decide, by decide⟩) hK hP rfl w_8 (fun _ hh => hh) hS rfl hl.1 rfl (Nat.le_of_ble_eq_true rfl) dX7_fault_11 ⟨Nat.le_refl 0, Nat.le_refl 0⟩ (fun H locs hP hS => ?_)
  obtain rfl := Option.some.inj h
  exact ret _ _ _ _ _ dX7_fault_14 hP hS rfl
def X8_mayStand (τ : St) (x1 : Int32) : Option (Int32) :=
  bd (rd (τ 35) 60 x1) fun v1 =>
  if (irem x1 (4 : Int32)) = (0 : Int32) then (
    lt (X8_isGuest τ (v1 - (48 : Int32))) fun v3 =>
    some v3)
  else (
    if (irem x1 (4 : Int32)) = (1 : Int32) then (
      lt (X8_in  (((v1 - (48 : Int32))).toInt64) (1 : Int64) (8 : Int64)) fun v5 =>
      some v5)
    else (
      if (irem x1 (4 : Int32)) = (2 : Int32) then (
        lt (X8_in  (((v1 - (48 : Int32))).toInt64) (1 : Int64) (9 : Int64)) fun v7 =>
        some v7)
      else (
        bd (rd (τ 35) 60 x1) fun v8 =>
        if v8 = (44 : Int32) then (
          if (56 : Int32) ≤ x1 then (
            some (0 : Int32))
          else (
            some (1 : Int32)))
        else (
          some (0 : Int32)))))
abbrev rmX8_mayStand : Room := { frames := 2, cells := 0, slots := 0, locals := 46 }
set_option maxHeartbeats 4000000 in
set_option maxRecDepth 100000 in
theorem c_X8_mayStand (l : Launch) (D : va_G) (ad : Nat → Nat) (cI : ClassId) (hd : HD ad) (σ τ : St) (η : Int64) (x1 : Int32) (rr : Int32) (h : X8_mayStand τ x1 = some rr) : MZ l yX8_mayStand (wy yX8_mayStand cX8_mayStand 3 (some .boolean)) rmX8_mayStand D ad cI [.ref (ad 29), .int x1] σ τ η rr σ τ η := by
  refine mk_z (own := RX8) (lv := [(0, .ref (ad 29)), (1, .int x1)]) (plainFor_of_name (by decide)) rfl (Nat.le_of_ble_eq_true rfl) rfl ?_
  intro p e s m args below meth c Q ls hx hb hml hown htb hK ret hP hS hl
  unfold X8_mayStand at h
  refine lv_aload_n hx hb dX8_mayStand_0 rfl (lv_at hl 0 rfl) ?_
  refine va_get (D := D) (ci := 8) (v := .ref (ad 35)) (C := RX8) (T := TX8) (N := 27) hx hb htb wu_8 hown hK.1 hP 29 w_29 rfl 6 (by decide) (htb _ wFL_RX8_25) (fun _ h9 => h9) rfl dX8_mayStand_1 ?_
  refine lv_iload_n hx hb dX8_mayStand_4 rfl (lv_at hl 1 rfl) ?_
  obtain ⟨v1, g1, h⟩ := ob h
  refine r_ald hx hb hK hP 35 w_35 g1 dX8_mayStand_5 ?_
  refine lv_bipush (v := (48 : Int32)) hx hb dX8_mayStand_6 (by decide) ?_
  refine lv_isub hx hb dX8_mayStand_8 ?_
  refine lv_istore_n (lv' := [(2, .int (v1 - (48 : Int32))), (0, .ref (ad 29)), (1, .int x1)]) hx hb dX8_mayStand_9 rfl hl (by decide) rfl (fun ls hl => ?_)
  refine lv_iload_n hx hb dX8_mayStand_10 rfl (lv_at hl 2 rfl) ?_
  refine lv_iconst (v := (4 : Int32)) hx hb dX8_mayStand_11 (by decide) ?_
  refine lv_irem hx hb dX8_mayStand_12 (by decide) ?_
  by_cases c2 : (irem x1 (4 : Int32)) = (0 : Int32)
  · replace h := ip c2 h
    refine lv_tableIn (x := (irem x1 (4 : Int32))) (off := 27) (tgt := 40) hx hb dX8_mayStand_13 (by rw [c2]; decide) (by rw [c2]; decide) (by rw [c2]; rfl) (by decide) ?_
    refine lv_aload_n hx hb dX8_mayStand_40 rfl (lv_at hl 1 rfl) ?_
    refine lv_iload_n hx hb dX8_mayStand_41 rfl (lv_at hl 0 rfl) ?_
    obtain ⟨v3, g3, h⟩ := ol h
    refine c_Vz (q := (RX8, TX8, 27)) (ci := 8) (b := 29) (As := [.int (v1 - (48 : Int32))]) (rest := []) (A := AA ad) ⟨hx, hb, hml, hown, htb⟩ (c_X8_isGuest l D ad cI hd σ τ η (v1 - (48 : Int32)) v3 g3) (cwV 1 htb (gdV (fun _ hh => hh) wML_RX8_88 wIM_yX8_isGuest wSE_yX8_isGuest wI_RX8 wC_yX8_isGuest) rfl rfl rfl hd_X8_isGuest ⟨by decide, by decide⟩) hK hP rfl w_29 (fun _ hh => hh) hS rfl hl.1 rfl (Nat.le_of_ble_eq_true rfl) dX8_mayStand_42 ⟨Nat.le_refl 0, Nat.le_refl 0⟩ (fun H locs hz3 hP hS => ?_)
    obtain rfl := Option.some.inj h
    exact ret _ _ _ _ _ dX8_mayStand_45 hP hS rfl (by first | exact Or.inl rfl | exact Or.inr rfl | assumption)
  · replace h := iq c2 h
    by_cases c4 : (irem x1 (4 : Int32)) = (1 : Int32)
    · replace h := ip c4 h
      refine lv_tableIn (x := (irem x1 (4 : Int32))) (off := 33) (tgt := 46) hx hb dX8_mayStand_13 (by rw [c4]; decide) (by rw [c4]; decide) (by rw [c4]; rfl) (by decide) ?_
      refine lv_iload_n hx hb dX8_mayStand_46 rfl (lv_at hl 0 rfl) ?_
      refine lv_i2l (v := (((v1 - (48 : Int32))).toInt64)) hx hb dX8_mayStand_47 rfl ?_
      refine lv_lconst (v := (1 : Int64)) hx hb dX8_mayStand_48 rfl ?_
      refine lv_ldc2 (v := (8 : Int64)) hx hb hown (htb _ wKL_RX8_75) dX8_mayStand_49 ?_
      obtain ⟨v5, g5, h⟩ := ol h
      refine c_Sz (As := [.long (((v1 - (48 : Int32))).toInt64), .long (1 : Int64), .long (8 : Int64)]) (rest := []) (A := AA ad) ⟨hx, hb, hml, hown, htb⟩ (c_X8_in l D ad cI hd σ τ η (((v1 - (48 : Int32))).toInt64) (1 : Int64) (8 : Int64) v5 g5) (va_cwS 3 htb (gdS (fun _ hh => hh) wML_RX8_65 wST_yX8_in wI_RX8 wC_yX8_in) rfl rfl rfl hd_X8_in.2 ⟨by decide, by decide⟩) hK hP (fun _ hh => hh) hS rfl hl.1 rfl (Nat.le_of_ble_eq_true rfl) dX8_mayStand_52 ⟨Nat.le_refl 0, Nat.le_refl 0⟩ (fun H locs hz5 hP hS => ?_)
      obtain rfl := Option.some.inj h
      exact ret _ _ _ _ _ dX8_mayStand_55 hP hS rfl (by first | exact Or.inl rfl | exact Or.inr rfl | assumption)
    · replace h := iq c4 h
      by_cases c6 : (irem x1 (4 : Int32)) = (2 : Int32)
      · replace h := ip c6 h
        refine lv_tableIn (x := (irem x1 (4 : Int32))) (off := 43) (tgt := 56) hx hb dX8_mayStand_13 (by rw [c6]; decide) (by rw [c6]; decide) (by rw [c6]; rfl) (by decide) ?_
        refine lv_iload_n hx hb dX8_mayStand_56 rfl (lv_at hl 0 rfl) ?_
        refine lv_i2l (v := (((v1 - (48 : Int32))).toInt64)) hx hb dX8_mayStand_57 rfl ?_
        refine lv_lconst (v := (1 : Int64)) hx hb dX8_mayStand_58 rfl ?_
        refine lv_ldc2 (v := (9 : Int64)) hx hb hown (htb _ wKL_RX8_100) dX8_mayStand_59 ?_
        obtain ⟨v7, g7, h⟩ := ol h
        refine c_Sz (As := [.long (((v1 - (48 : Int32))).toInt64), .long (1 : Int64), .long (9 : Int64)]) (rest := []) (A := AA ad) ⟨hx, hb, hml, hown, htb⟩ (c_X8_in l D ad cI hd σ τ η (((v1 - (48 : Int32))).toInt64) (1 : Int64) (9 : Int64) v7 g7) (va_cwS 3 htb (gdS (fun _ hh => hh) wML_RX8_65 wST_yX8_in wI_RX8 wC_yX8_in) rfl rfl rfl hd_X8_in.2 ⟨by decide, by decide⟩) hK hP (fun _ hh => hh) hS rfl hl.1 rfl (Nat.le_of_ble_eq_true rfl) dX8_mayStand_62 ⟨Nat.le_refl 0, Nat.le_refl 0⟩ (fun H locs hz7 hP hS => ?_)
        obtain rfl := Option.some.inj h
        exact ret _ _ _ _ _ dX8_mayStand_65 hP hS rfl (by first | exact Or.inl rfl | exact Or.inr rfl | assumption)
      · replace h := iq c6 h
        have zc2 := lv_neT c2 (show ((0 : Int32)).toInt = 0 by decide)
        have zc4 := lv_neT c4 (show ((1 : Int32)).toInt = 1 by decide)
        have zc6 := lv_neT c6 (show ((2 : Int32)).toInt = 2 by decide)
        refine lv_tableOut (x := (irem x1 (4 : Int32))) (tgt := 66) hx hb dX8_mayStand_13 (by omega) (by decide) ?_
        refine lv_aload_n hx hb dX8_mayStand_66 rfl (lv_at hl 1 rfl) ?_
        refine va_get (D := D) (ci := 8) (v := .ref (ad 35)) (C := RX8) (T := TX8) (N := 27) hx hb htb wu_8 hown hK.1 hP 29 w_29 rfl 6 (by decide) (htb _ wFL_RX8_25) (fun _ h9 => h9) rfl dX8_mayStand_67 ?_
        refine lv_iload_n hx hb dX8_mayStand_70 rfl (lv_at hl 2 rfl) ?_
        obtain ⟨v8, g8, h⟩ := ob h
        refine r_ald hx hb hK hP 35 w_35 g8 dX8_mayStand_71 ?_
        refine lv_bipush (v := (44 : Int32)) hx hb dX8_mayStand_72 (by decide) ?_
        refine lv_icmp_ne (tgt := 87) hx hb dX8_mayStand_74 (by decide) (fun c9 => ?_) (fun c9 => ?_)
        · replace h := iq c9 h
          refine lv_iconst (v := (0 : Int32)) hx hb dX8_mayStand_87 (by decide) ?_
          obtain rfl := Option.some.inj h
          exact ret _ _ _ _ _ dX8_mayStand_88 hP hS rfl (by first | exact Or.inl rfl | exact Or.inr rfl | assumption)
        · replace h := ip c9 h
          refine lv_iload_n hx hb dX8_mayStand_77 rfl (lv_at hl 2 rfl) ?_
          refine lv_bipush (v := (56 : Int32)) hx hb dX8_mayStand_78 (by decide) ?_
          refine lv_icmp_ge (tgt := 87) hx hb dX8_mayStand_80 (by decide) (fun c10 => ?_) (fun c10 => ?_)
          · replace h := ip c10 h
            refine lv_iconst (v := (0 : Int32)) hx hb dX8_mayStand_87 (by decide) ?_
            obtain rfl := Option.some.inj h
            exact ret _ _ _ _ _ dX8_mayStand_88 hP hS rfl (by first | exact Or.inl rfl | exact Or.inr rfl | assumption)
          · replace h := iq c10 h
            refine lv_iconst (v := (1 : Int32)) hx hb dX8_mayStand_83 (by decide) ?_
            refine lv_goto (tgt := 88) hx hb dX8_mayStand_84 (by decide) ?_
            obtain rfl := Option.some.inj h
            exact ret _ _ _ _ _ dX8_mayStand_88 hP hS rfl (by first | exact Or.inl rfl | exact Or.inr rfl | assumption)
def X8_faultOf_L1 (n : Nat) (τ_1 : St) (y1_1 : Int32) : Option (Int32) := match n with
  | 0 => none
  | n + 1 =>
    if (τ_1 29 7) ≤ y1_1 then (
      some y1_1)
    else (
      bd (X8_mayStand τ_1 y1_1) fun v3 =>
      if v3 = 0 then (
        some y1_1)
      else (
        X8_faultOf_L1 n τ_1 (y1_1 + (1 : Int32))))
theorem X8_faultOf_L1_s (n : Nat) (τ_1 : St) (y1_1 : Int32) : X8_faultOf_L1 (n + 1) τ_1 y1_1 =
    if (τ_1 29 7) ≤ y1_1 then (
      some y1_1)
    else (
      bd (X8_mayStand τ_1 y1_1) fun v3 =>
      if v3 = 0 then (
        some y1_1)
      else (
        X8_faultOf_L1 n τ_1 (y1_1 + (1 : Int32)))) := rfl
def X8_faultOf (τ : St)  : Option (Int32) :=
  bd (X8_faultOf_L1 10000 τ (0 : Int32)) fun v1 =>
  some v1
abbrev rmX8_faultOf : Room := { frames := 3, cells := 0, slots := 0, locals := 68 }
set_option maxHeartbeats 4000000 in
set_option maxRecDepth 100000 in
theorem c_X8_faultOf (l : Launch) (D : va_G) (ad : Nat → Nat) (cI : ClassId) (hd : HD ad) (σ τ : St) (η : Int64)  (rr : Int32) (h : X8_faultOf τ  = some rr) : MI l yX8_faultOf (wy yX8_faultOf cX8_faultOf 2 (some .int)) rmX8_faultOf D ad cI [.ref (ad 29)] σ τ η rr σ τ η := by
  refine mk_i (own := RX8) (lv := [(0, .ref (ad 29))]) (plainFor_of_name (by decide)) rfl (Nat.le_of_ble_eq_true rfl) rfl ?_
  intro p e s m args below meth c Q ls hx hb hml hown htb hK ret hP hS hl
  unfold X8_faultOf at h
  refine lv_iconst (v := (0 : Int32)) hx hb dX8_faultOf_0 (by decide) ?_
  refine lv_istore_n (lv' := [(1, .int (0 : Int32)), (0, .ref (ad 29))]) hx hb dX8_faultOf_1 rfl hl (by decide) rfl (fun ls hl => ?_)
  obtain ⟨v1, hj1, h⟩ := ob h
  have K1 : ∀ (H : Heap) (locs : List Loc) (ls : Array Slot), WP D ad cI σ τ η H → va_S (AA ad) s.heap H locs → lv_has ls 2 [(1, .int v1)] → W p l e rmX8_faultOf s m args below meth c H locs 0 0 Q (F0 m 24 ls []) := by
    intro H locs ls hP hS hl
    refine lv_iload_n hx hb dX8_faultOf_24 rfl (lv_at hl 0 rfl) ?_
    obtain rfl := Option.some.inj h
    exact ret _ _ _ _ _ dX8_faultOf_25 hP hS rfl
  have L1 : ∀ (n : Nat) (y1_1 : Int32) (H : Heap) (locs : List Loc) (ls : Array Slot), X8_faultOf_L1 n τ y1_1 = some v1 → WP D ad cI σ τ η H → va_S (AA ad) s.heap H locs → lv_has ls 2 [(0, .ref (ad 29)), (1, .int y1_1)] → W p l e rmX8_faultOf s m args below meth c H locs 0 0 Q (F0 m 2 ls []) := by
    intro n
    induction n with
    | zero => intro y1_1 H locs ls h; exact absurd h (by simp [X8_faultOf_L1])
    | succ n ih =>
      intro y1_1 H locs ls h hP hS hl
      replace h := (X8_faultOf_L1_s n τ y1_1).symm.trans h
      refine lv_iload_n hx hb dX8_faultOf_2 rfl (lv_at hl 1 rfl) ?_
      refine lv_aload_n hx hb dX8_faultOf_3 rfl (lv_at hl 0 rfl) ?_
      refine va_get (D := D) (ci := 8) (v := .int (τ 29 7)) (C := RX8) (T := TX8) (N := 27) hx hb htb wu_8 hown hK.1 hP 29 w_29 rfl 7 (by decide) (htb _ wFL_RX8_97) (fun _ h9 => h9) rfl dX8_faultOf_4 ?_
      refine lv_icmp_ge (tgt := 24) hx hb dX8_faultOf_7 (by decide) (fun c2 => ?_) (fun c2 => ?_)
      · replace h := ip c2 h
        obtain rfl := Option.some.inj h
        exact K1 _ _ _ hP hS (lv_sub hl [1] rfl)
      · replace h := iq c2 h
        refine lv_aload_n hx hb dX8_faultOf_10 rfl (lv_at hl 0 rfl) ?_
        refine lv_iload_n hx hb dX8_faultOf_11 rfl (lv_at hl 1 rfl) ?_
        obtain ⟨v3, g3, h⟩ := ob h
        refine c_Vz (q := (RX8, TX8, 27)) (ci := 8) (b := 29) (As := [.int y1_1]) (rest := []) (A := AA ad) ⟨hx, hb, hml, hown, htb⟩ (c_X8_mayStand l D ad cI hd σ τ η y1_1 v3 g3) (cwV 1 htb (gdV (fun _ hh => hh) wML_RX8_102 wIM_yX8_mayStand wSE_yX8_mayStand wI_RX8 wC_yX8_mayStand) rfl rfl rfl hd_X8_mayStand ⟨by decide, by decide⟩) hK hP rfl w_29 (fun _ hh => hh) hS rfl hl.1 rfl (Nat.le_of_ble_eq_true rfl) dX8_faultOf_12 ⟨Nat.le_refl 0, Nat.le_refl 0⟩ (fun H locs hz3 hP hS => ?_)
        refine lv_if_eq (tgt := 24) hx hb dX8_faultOf_15 (by decide) (fun c4 => ?_) (fun c4 => ?_)
        · replace h := ip c4 h
          obtain rfl := Option.some.inj h
          exact K1 _ _ _ hP hS (lv_sub hl [1] rfl)
        · replace h := iq c4 h
          refine lv_iinc (v := (y1_1 + (1 : Int32))) (lv' := [(1, .int (y1_1 + (1 : Int32))), (0, .ref (ad 29))]) hx hb dX8_faultOf_18 hl (k := 1) rfl rfl (by decide) rfl (fun ls hl => ?_)
          refine lv_goto (tgt := 2) hx hb dX8_faultOf_21 (by decide) ?_
          exact ih (y1_1 + (1 : Int32)) _ _ _ h hP hS (lv_sub hl [1, 0] rfl)
  exact L1 10000 (0 : Int32) _ _ _ hj1 hP hS (lv_sub hl [1, 0] rfl)
def X8_fault (τ : St)  : Option (Int32) :=
  bd (X8_faultOf τ ) fun v1 =>
  some v1
abbrev rmX8_fault : Room := { frames := 4, cells := 0, slots := 0, locals := 89 }
set_option maxHeartbeats 4000000 in
set_option maxRecDepth 100000 in
theorem c_X8_fault (l : Launch) (D : va_G) (ad : Nat → Nat) (cI : ClassId) (hd : HD ad) (σ τ : St) (η : Int64)  (rr : Int32) (h : X8_fault τ  = some rr) : MI l yX8_fault (wy yX8_fault cX8_fault 1 (some .int)) rmX8_fault D ad cI [.ref (ad 29)] σ τ η rr σ τ η := by
  refine mk_i (own := RX8) (lv := [(0, .ref (ad 29))]) (plainFor_of_name (by decide)) rfl (Nat.le_of_ble_eq_true rfl) rfl ?_
  intro p e s m args below meth c Q ls hx hb hml hown htb hK ret hP hS hl
  unfold X8_fault at h
  refine lv_aload_n hx hb dX8_fault_0 rfl (lv_at hl 0 rfl) ?_
  obtain ⟨v1, g1, h⟩ := ob h
  refine c_Vi (q := (RX8, TX8, 27)) (ci := 8) (b := 29) (As := []) (rest := []) (A := AA ad) ⟨hx, hb, hml, hown, htb⟩ (c_X8_faultOf l D ad cI hd σ τ η  v1 g1) (cwV 0 htb (gdV (fun _ hh => hh) wML_RX8_105 wIM_yX8_faultOf wSE_yX8_faultOf wI_RX8 wC_yX8_faultOf) rfl rfl rfl hd_X8_faultOf ⟨by decide, by decide⟩) hK hP rfl w_29 (fun _ hh => hh) hS rfl hl.1 rfl (Nat.le_of_ble_eq_true rfl) dX8_fault_1 ⟨Nat.le_refl 0, Nat.le_refl 0⟩ (fun H locs hP hS => ?_)
  obtain rfl := Option.some.inj h
  exact ret _ _ _ _ _ dX8_fault_4 hP hS rfl
def X3_isList (σ : St) (x1 : Int32) : Option (Int32) :=
  if (irem (σ 8 1) (4 : Int32)) = (3 : Int32) then (
    bd (X3_firstWrong σ x1) fun v2 =>
    if v2 = (σ 8 1) then (
      some (1 : Int32))
    else (
      some (0 : Int32)))
  else (
    some (0 : Int32))
abbrev rmX3_isList : Room := { frames := 4, cells := 0, slots := 0, locals := 87 }
set_option maxHeartbeats 4000000 in
set_option maxRecDepth 100000 in
theorem c_X3_isList (l : Launch) (D : va_G) (ad : Nat → Nat) (cI : ClassId) (hd : HD ad) (σ τ : St) (η : Int64) (x1 : Int32) (rr : Int32) (h : X3_isList σ x1 = some rr) : MZ l yX3_isList (wy yX3_isList cX3_isList 2 (some .boolean)) rmX3_isList D ad cI [.ref (ad 8), .int x1] σ τ η rr σ τ η := by
  refine mk_z (own := RX3) (lv := [(0, .ref (ad 8)), (1, .int x1)]) (plainFor_of_name (by decide)) rfl (Nat.le_of_ble_eq_true rfl) rfl ?_
  intro p e s m args below meth c Q ls hx hb hml hown htb hK ret hP hS hl
  unfold X3_isList at h
  refine lv_aload_n hx hb dX3_isList_0 rfl (lv_at hl 0 rfl) ?_
  refine va_get (D := D) (ci := 3) (v := .int (σ 8 1)) (C := RX3) (T := TX3) (N := 2) hx hb htb wu_3 hown hK.1 hP 8 w_8 rfl 1 (by decide) (htb _ wFL_RX3_17) (fun _ h9 => h9) rfl dX3_isList_1 ?_
  refine lv_iconst (v := (4 : Int32)) hx hb dX3_isList_4 (by decide) ?_
  refine lv_irem hx hb dX3_isList_5 (by decide) ?_
  refine lv_iconst (v := (3 : Int32)) hx hb dX3_isList_6 (by decide) ?_
  refine lv_icmp_ne (tgt := 26) hx hb dX3_isList_7 (by decide) (fun c1 => ?_) (fun c1 => ?_)
  · replace h := iq c1 h
    refine lv_iconst (v := (0 : Int32)) hx hb dX3_isList_26 (by decide) ?_
    obtain rfl := Option.some.inj h
    exact ret _ _ _ _ _ dX3_isList_27 hP hS rfl (by first | exact Or.inl rfl | exact Or.inr rfl | assumption)
  · replace h := ip c1 h
    refine lv_aload_n hx hb dX3_isList_10 rfl (lv_at hl 0 rfl) ?_
    refine lv_iload_n hx hb dX3_isList_11 rfl (lv_at hl 1 rfl) ?_
    obtain ⟨v2, g2, h⟩ := ob h
    refine c_Vi (q := (RX3, TX3, 2)) (ci := 3) (b := 8) (As := [.int x1]) (rest := []) (A := AA ad) ⟨hx, hb, hml, hown, htb⟩ (c_X3_firstWrong l D ad cI hd σ τ η x1 v2 g2) (cwV 1 htb (gdV (fun _ hh => hh) wML_RX3_35 wIM_yX3_firstWrong wSE_yX3_firstWrong wI_RX3 wC_yX3_firstWrong) rfl rfl rfl hd_X3_firstWrong ⟨by decide, by decide⟩) hK hP rfl w_8 (fun _ hh => hh) hS rfl hl.1 rfl (Nat.le_of_ble_eq_true rfl) dX3_isList_12 ⟨Nat.le_refl 0, Nat.le_refl 0⟩ (fun H locs hP hS => ?_)
    refine lv_aload_n hx hb dX3_isList_15 rfl (lv_at hl 0 rfl) ?_
    refine va_get (D := D) (ci := 3) (v := .int (σ 8 1)) (C := RX3) (T := TX3) (N := 2) hx hb htb wu_3 hown hK.1 hP 8 w_8 rfl 1 (by decide) (htb _ wFL_RX3_17) (fun _ h9 => h9) rfl dX3_isList_16 ?_
    refine lv_icmp_ne (tgt := 26) hx hb dX3_isList_19 (by decide) (fun c3 => ?_) (fun c3 => ?_)
    · replace h := iq c3 h
      refine lv_iconst (v := (0 : Int32)) hx hb dX3_isList_26 (by decide) ?_
      obtain rfl := Option.some.inj h
      exact ret _ _ _ _ _ dX3_isList_27 hP hS rfl (by first | exact Or.inl rfl | exact Or.inr rfl | assumption)
    · replace h := ip c3 h
      refine lv_iconst (v := (1 : Int32)) hx hb dX3_isList_22 (by decide) ?_
      refine lv_goto (tgt := 27) hx hb dX3_isList_23 (by decide) ?_
      obtain rfl := Option.some.inj h
      exact ret _ _ _ _ _ dX3_isList_27 hP hS rfl (by first | exact Or.inl rfl | exact Or.inr rfl | assumption)
def X2_clear (σ : St)  : St :=
  lt (s2 σ 10 4 (0 : Int32)) fun σ1 =>
  σ1
abbrev rmX2_clear : Room := { frames := 0, cells := 0, slots := 0, locals := 0 }
set_option maxHeartbeats 4000000 in
set_option maxRecDepth 100000 in
theorem c_X2_clear (l : Launch) (D : va_G) (ad : Nat → Nat) (cI : ClassId) (hd : HD ad) (σ τ : St) (η : Int64)  (rr : St) (h : X2_clear σ  = rr) : MV l yX2_clear (wy yX2_clear cX2_clear 1 none) rmX2_clear D ad cI [.ref (ad 10)] σ τ η rr τ η := by
  refine mk_v (own := RX2) (lv := [(0, .ref (ad 10))]) (plainFor_of_name (by decide)) rfl (Nat.le_of_ble_eq_true rfl) rfl ?_
  intro p e s m args below meth c Q ls hx hb hml hown htb hK ret hP hS hl
  unfold X2_clear at h
  refine lv_aload_n hx hb dX2_clear_0 rfl (lv_at hl 0 rfl) ?_
  refine lv_iconst (v := (0 : Int32)) hx hb dX2_clear_1 (by decide) ?_
  obtain ⟨σ1, g1, h⟩ := ol h
  refine r_putC (ci := 2) (C := RX2) (T := TX2) (N := 5) (A := AA ad) hx hb htb wu_2 tyX2 tyX2_ok nmX2 hown hK hd (fun _ hh => hh) hP hS 10 (by decide) 4 rfl rfl rfl (by decide) (htb _ wFL_RX2_24) rfl rfl (by decide +kernel) (Nat.le_of_ble_eq_true rfl) dX2_clear_2 (fun H locs hP hS => ?_)
  rw [g1] at hP
  subst h
  exact ret _ _ _ _ dX2_clear_5 hP hS
def X0_isSoftSpoken (σ : St) (x1 : Int32) : Option (Int32) :=
  bd (X0_isA σ x1 (3 : Int32)) fun v1 =>
  if v1 = 0 then (
    bd (X0_isA σ x1 (4 : Int32)) fun v3 =>
    if v3 = 0 then (
      some (0 : Int32))
    else (
      some (1 : Int32)))
  else (
    some (1 : Int32))
abbrev rmX0_isSoftSpoken : Room := { frames := 3, cells := 0, slots := 0, locals := 65 }
set_option maxHeartbeats 4000000 in
set_option maxRecDepth 100000 in
theorem c_X0_isSoftSpoken (l : Launch) (D : va_G) (ad : Nat → Nat) (cI : ClassId) (hd : HD ad) (σ τ : St) (η : Int64) (x1 : Int32) (rr : Int32) (h : X0_isSoftSpoken σ x1 = some rr) : MZ l yX0_isSoftSpoken (wy yX0_isSoftSpoken cX0_isSoftSpoken 2 (some .boolean)) rmX0_isSoftSpoken D ad cI [.ref (ad 1), .int x1] σ τ η rr σ τ η := by
  refine mk_z (own := RX0) (lv := [(0, .ref (ad 1)), (1, .int x1)]) (plainFor_of_name (by decide)) rfl (Nat.le_of_ble_eq_true rfl) rfl ?_
  intro p e s m args below meth c Q ls hx hb hml hown htb hK ret hP hS hl
  unfold X0_isSoftSpoken at h
  refine lv_aload_n hx hb dX0_isSoftSpoken_0 rfl (lv_at hl 0 rfl) ?_
  refine lv_iload_n hx hb dX0_isSoftSpoken_1 rfl (lv_at hl 1 rfl) ?_
  refine lv_iconst (v := (3 : Int32)) hx hb dX0_isSoftSpoken_2 (by decide) ?_
  obtain ⟨v1, g1, h⟩ := ob h
  refine c_Vz (q := (RX0, TX0, 6)) (ci := 0) (b := 1) (As := [.int x1, .int (3 : Int32)]) (rest := []) (A := AA ad) ⟨hx, hb, hml, hown, htb⟩ (c_X0_isA l D ad cI hd σ τ η x1 (3 : Int32) v1 g1) (cwV 2 htb (gdV (fun _ hh => hh) wML_RX0_46 wIM_yX0_isA wSE_yX0_isA wI_RX0 wC_yX0_isA) rfl rfl rfl hd_X0_isA ⟨by decide, by decide⟩) hK hP rfl w_1 (fun _ hh => hh) hS rfl hl.1 rfl (Nat.le_of_ble_eq_true rfl) dX0_isSoftSpoken_3 ⟨Nat.le_refl 0, Nat.le_refl 0⟩ (fun H locs hz1 hP hS => ?_)
  refine lv_if_ne (tgt := 18) hx hb dX0_isSoftSpoken_6 (by decide) (fun c2 => ?_) (fun c2 => ?_)
  · replace h := iq c2 h
    refine lv_iconst (v := (1 : Int32)) hx hb dX0_isSoftSpoken_18 (by decide) ?_
    refine lv_goto (tgt := 23) hx hb dX0_isSoftSpoken_19 (by decide) ?_
    obtain rfl := Option.some.inj h
    exact ret _ _ _ _ _ dX0_isSoftSpoken_23 hP hS rfl (by first | exact Or.inl rfl | exact Or.inr rfl | assumption)
  · replace h := ip c2 h
    refine lv_aload_n hx hb dX0_isSoftSpoken_9 rfl (lv_at hl 0 rfl) ?_
    refine lv_iload_n hx hb dX0_isSoftSpoken_10 rfl (lv_at hl 1 rfl) ?_
    refine lv_iconst (v := (4 : Int32)) hx hb dX0_isSoftSpoken_11 (by decide) ?_
    obtain ⟨v3, g3, h⟩ := ob h
    refine c_Vz (q := (RX0, TX0, 6)) (ci := 0) (b := 1) (As := [.int x1, .int (4 : Int32)]) (rest := []) (A := AA ad) ⟨hx, hb, hml, hown, htb⟩ (c_X0_isA l D ad cI hd σ τ η x1 (4 : Int32) v3 g3) (cwV 2 htb (gdV (fun _ hh => hh) wML_RX0_46 wIM_yX0_isA wSE_yX0_isA wI_RX0 wC_yX0_isA) rfl rfl rfl hd_X0_isA ⟨by decide, by decide⟩) hK hP rfl w_1 (fun _ hh => hh) hS rfl hl.1 rfl (Nat.le_of_ble_eq_true rfl) dX0_isSoftSpoken_12 ⟨Nat.le_refl 0, Nat.le_refl 0⟩ (fun H locs hz3 hP hS => ?_)
    refine lv_if_eq (tgt := 22) hx hb dX0_isSoftSpoken_15 (by decide) (fun c4 => ?_) (fun c4 => ?_)
    · replace h := ip c4 h
      refine lv_iconst (v := (0 : Int32)) hx hb dX0_isSoftSpoken_22 (by decide) ?_
      obtain rfl := Option.some.inj h
      exact ret _ _ _ _ _ dX0_isSoftSpoken_23 hP hS rfl (by first | exact Or.inl rfl | exact Or.inr rfl | assumption)
    · replace h := iq c4 h
      refine lv_iconst (v := (1 : Int32)) hx hb dX0_isSoftSpoken_18 (by decide) ?_
      refine lv_goto (tgt := 23) hx hb dX0_isSoftSpoken_19 (by decide) ?_
      obtain rfl := Option.some.inj h
      exact ret _ _ _ _ _ dX0_isSoftSpoken_23 hP hS rfl (by first | exact Or.inl rfl | exact Or.inr rfl | assumption)
def X2_add_L1 (n : Nat) (σ_1 : St) (u1_1 : Int32) (u1_2 : Int32) (u1_3 : Int32) (u1_4 : Int32) (y1_5 : Int32) : Option (Int32 × St) := match n with
  | 0 => none
  | n + 1 =>
    if y1_5 ≤ 0 then (
      some (y1_5, σ_1))
    else (
      bd (rd (σ_1 12) 15 (y1_5 - (1 : Int32))) fun v4 =>
      if v4 ≤ u1_2 then (
        some (y1_5, σ_1))
      else (
        bd (rd (σ_1 11) 15 (y1_5 - (1 : Int32))) fun v6 =>
        bd (wa σ_1 11 15 y1_5 v6) fun σ7 =>
        bd (rd (σ7 12) 15 (y1_5 - (1 : Int32))) fun v8 =>
        bd (wa σ7 12 15 y1_5 v8) fun σ9 =>
        bd (rd (σ9 13) 15 (y1_5 - (1 : Int32))) fun v10 =>
        bd (wa σ9 13 15 y1_5 v10) fun σ11 =>
        bd (rd (σ11 14) 15 (y1_5 - (1 : Int32))) fun v12 =>
        bd (wa σ11 14 15 y1_5 v12) fun σ13 =>
        X2_add_L1 n σ13 u1_1 u1_2 u1_3 u1_4 (y1_5 + (-1 : Int32))))
theorem X2_add_L1_s (n : Nat) (σ_1 : St) (u1_1 : Int32) (u1_2 : Int32) (u1_3 : Int32) (u1_4 : Int32) (y1_5 : Int32) : X2_add_L1 (n + 1) σ_1 u1_1 u1_2 u1_3 u1_4 y1_5 =
    if y1_5 ≤ 0 then (
      some (y1_5, σ_1))
    else (
      bd (rd (σ_1 12) 15 (y1_5 - (1 : Int32))) fun v4 =>
      if v4 ≤ u1_2 then (
        some (y1_5, σ_1))
      else (
        bd (rd (σ_1 11) 15 (y1_5 - (1 : Int32))) fun v6 =>
        bd (wa σ_1 11 15 y1_5 v6) fun σ7 =>
        bd (rd (σ7 12) 15 (y1_5 - (1 : Int32))) fun v8 =>
        bd (wa σ7 12 15 y1_5 v8) fun σ9 =>
        bd (rd (σ9 13) 15 (y1_5 - (1 : Int32))) fun v10 =>
        bd (wa σ9 13 15 y1_5 v10) fun σ11 =>
        bd (rd (σ11 14) 15 (y1_5 - (1 : Int32))) fun v12 =>
        bd (wa σ11 14 15 y1_5 v12) fun σ13 =>
        X2_add_L1 n σ13 u1_1 u1_2 u1_3 u1_4 (y1_5 + (-1 : Int32)))) := rfl
def X2_add (σ : St) (x1 : Int32) (x2 : Int32) (x3 : Int32) (x4 : Int32) : Option (St) :=
  if (σ 10 4) < (15 : Int32) then (
    bd (X2_add_L1 10000 σ x1 x2 x3 x4 (σ 10 4)) fun v2 =>
    bd (wa v2.2 11 15 v2.1 x1) fun σ14 =>
    bd (wa σ14 12 15 v2.1 x2) fun σ15 =>
    bd (wa σ15 13 15 v2.1 x3) fun σ16 =>
    bd (wa σ16 14 15 v2.1 x4) fun σ17 =>
    lt (s2 σ17 10 4 ((σ17 10 4) + (1 : Int32))) fun σ18 =>
    some σ18)
  else (
    some σ)
abbrev rmX2_add : Room := { frames := 0, cells := 0, slots := 0, locals := 0 }
set_option maxHeartbeats 4000000 in
set_option maxRecDepth 100000 in
theorem c_X2_add (l : Launch) (D : va_G) (ad : Nat → Nat) (cI : ClassId) (hd : HD ad) (σ τ : St) (η : Int64) (x1 : Int32) (x2 : Int32) (x3 : Int32) (x4 : Int32) (rr : St) (h : X2_add σ x1 x2 x3 x4 = some rr) : MV l yX2_add (wy yX2_add cX2_add 6 none) rmX2_add D ad cI [.ref (ad 10), .int x1, .int x2, .int x3, .int x4] σ τ η rr τ η := by
  refine mk_v (own := RX2) (lv := [(0, .ref (ad 10)), (1, .int x1), (2, .int x2), (3, .int x3), (4, .int x4)]) (plainFor_of_name (by decide)) rfl (Nat.le_of_ble_eq_true rfl) rfl ?_
  intro p e s m args below meth c Q ls hx hb hml hown htb hK ret hP hS hl
  unfold X2_add at h
  refine lv_aload_n hx hb dX2_add_0 rfl (lv_at hl 0 rfl) ?_
  refine va_get (D := D) (ci := 2) (v := .int (σ 10 4)) (C := RX2) (T := TX2) (N := 5) hx hb htb wu_2 hown hK.1 hP 10 w_10 rfl 4 (by decide) (htb _ wFL_RX2_24) (fun _ h9 => h9) rfl dX2_add_1 ?_
  refine lv_bipush (v := (15 : Int32)) hx hb dX2_add_4 (by decide) ?_
  refine lv_icmp_lt (tgt := 10) hx hb dX2_add_6 (by decide) (fun c1 => ?_) (fun c1 => ?_)
  · replace h := ip c1 h
    refine lv_aload_n hx hb dX2_add_10 rfl (lv_at hl 0 rfl) ?_
    refine va_get (D := D) (ci := 2) (v := .int (σ 10 4)) (C := RX2) (T := TX2) (N := 5) hx hb htb wu_2 hown hK.1 hP 10 w_10 rfl 4 (by decide) (htb _ wFL_RX2_24) (fun _ h9 => h9) rfl dX2_add_11 ?_
    refine lv_istore (lv' := [(5, .int (σ 10 4)), (0, .ref (ad 10)), (1, .int x1), (2, .int x2), (3, .int x3), (4, .int x4)]) hx hb dX2_add_14 hl (by decide) rfl (fun ls hl => ?_)
    obtain ⟨v2, hj2, h⟩ := ob h
    have K1 : ∀ (H : Heap) (locs : List Loc) (ls : Array Slot), WP D ad cI v2.2 τ η H → va_S (AA ad) s.heap H locs → lv_has ls 6 [(0, .ref (ad 10)), (1, .int x1), (2, .int x2), (3, .int x3), (4, .int x4), (5, .int v2.1)] → W p l e rmX2_add s m args below meth c H locs 0 0 Q (F0 m 104 ls []) := by
      intro H locs ls hP hS hl
      refine lv_aload_n hx hb dX2_add_104 rfl (lv_at hl 0 rfl) ?_
      refine va_get (D := D) (ci := 2) (v := .ref (ad 11)) (C := RX2) (T := TX2) (N := 5) hx hb htb wu_2 hown hK.1 hP 10 w_10 rfl 0 (by decide) (htb _ wFL_RX2_11) (fun _ h9 => h9) rfl dX2_add_105 ?_
      refine lv_iload hx hb dX2_add_108 (lv_at hl 5 rfl) ?_
      refine lv_iload_n hx hb dX2_add_110 rfl (lv_at hl 1 rfl) ?_
      obtain ⟨σ14, g14, h⟩ := ob h
      refine r_astC (A := AA ad) hx hb hK hd (fun _ hh => hh) hP hS 11 15 (by decide) (fun _ => rfl) g14 dX2_add_111 (fun H locs hP hS => ?_)
      refine lv_aload_n hx hb dX2_add_112 rfl (lv_at hl 0 rfl) ?_
      refine va_get (D := D) (ci := 2) (v := .ref (ad 12)) (C := RX2) (T := TX2) (N := 5) hx hb htb wu_2 hown hK.1 hP 10 w_10 rfl 1 (by decide) (htb _ wFL_RX2_15) (fun _ h9 => h9) rfl dX2_add_113 ?_
      refine lv_iload hx hb dX2_add_116 (lv_at hl 5 rfl) ?_
      refine lv_iload_n hx hb dX2_add_118 rfl (lv_at hl 2 rfl) ?_
      obtain ⟨σ15, g15, h⟩ := ob h
      refine r_astC (A := AA ad) hx hb hK hd (fun _ hh => hh) hP hS 12 15 (by decide) (fun _ => rfl) g15 dX2_add_119 (fun H locs hP hS => ?_)
      refine lv_aload_n hx hb dX2_add_120 rfl (lv_at hl 0 rfl) ?_
      refine va_get (D := D) (ci := 2) (v := .ref (ad 13)) (C := RX2) (T := TX2) (N := 5) hx hb htb wu_2 hown hK.1 hP 10 w_10 rfl 2 (by decide) (htb _ wFL_RX2_18) (fun _ h9 => h9) rfl dX2_add_121 ?_
      refine lv_iload hx hb dX2_add_124 (lv_at hl 5 rfl) ?_
      refine lv_iload_n hx hb dX2_add_126 rfl (lv_at hl 3 rfl) ?_
      obtain ⟨σ16, g16, h⟩ := ob h
      refine r_astC (A := AA ad) hx hb hK hd (fun _ hh => hh) hP hS 13 15 (by decide) (fun _ => rfl) g16 dX2_add_127 (fun H locs hP hS => ?_)
      refine lv_aload_n hx hb dX2_add_128 rfl (lv_at hl 0 rfl) ?_
      refine va_get (D := D) (ci := 2) (v := .ref (ad 14)) (C := RX2) (T := TX2) (N := 5) hx hb htb wu_2 hown hK.1 hP 10 w_10 rfl 3 (by decide) (htb _ wFL_RX2_21) (fun _ h9 => h9) rfl dX2_add_129 ?_
      refine lv_iload hx hb dX2_add_132 (lv_at hl 5 rfl) ?_
      refine lv_iload hx hb dX2_add_134 (lv_at hl 4 rfl) ?_
      obtain ⟨σ17, g17, h⟩ := ob h
      refine r_astC (A := AA ad) hx hb hK hd (fun _ hh => hh) hP hS 14 15 (by decide) (fun _ => rfl) g17 dX2_add_136 (fun H locs hP hS => ?_)
      refine lv_aload_n hx hb dX2_add_137 rfl (lv_at hl 0 rfl) ?_
      refine lv_dup hx hb dX2_add_138 rfl ?_
      refine va_get (D := D) (ci := 2) (v := .int (σ17 10 4)) (C := RX2) (T := TX2) (N := 5) hx hb htb wu_2 hown hK.1 hP 10 w_10 rfl 4 (by decide) (htb _ wFL_RX2_24) (fun _ h9 => h9) rfl dX2_add_139 ?_
      refine lv_iconst (v := (1 : Int32)) hx hb dX2_add_142 (by decide) ?_
      refine lv_iadd hx hb dX2_add_143 ?_
      obtain ⟨σ18, g18, h⟩ := ol h
      refine r_putC (ci := 2) (C := RX2) (T := TX2) (N := 5) (A := AA ad) hx hb htb wu_2 tyX2 tyX2_ok nmX2 hown hK hd (fun _ hh => hh) hP hS 10 (by decide) 4 rfl rfl rfl (by decide) (htb _ wFL_RX2_24) rfl rfl (by decide +kernel) (Nat.le_of_ble_eq_true rfl) dX2_add_144 (fun H locs hP hS => ?_)
      rw [g18] at hP
      obtain rfl := Option.some.inj h
      exact ret _ _ _ _ dX2_add_147 hP hS
    have L1 : ∀ (n : Nat) (σ_1 : St) (y1_5 : Int32) (H : Heap) (locs : List Loc) (ls : Array Slot), X2_add_L1 n σ_1 x1 x2 x3 x4 y1_5 = some v2 → WP D ad cI σ_1 τ η H → va_S (AA ad) s.heap H locs → lv_has ls 6 [(0, .ref (ad 10)), (1, .int x1), (2, .int x2), (3, .int x3), (4, .int x4), (5, .int y1_5)] → W p l e rmX2_add s m args below meth c H locs 0 0 Q (F0 m 16 ls []) := by
      intro n
      induction n with
      | zero => intro σ_1 y1_5 H locs ls h; exact absurd h (by simp [X2_add_L1])
      | succ n ih =>
        intro σ_1 y1_5 H locs ls h hP hS hl
        replace h := (X2_add_L1_s n σ_1 x1 x2 x3 x4 y1_5).symm.trans h
        refine lv_iload hx hb dX2_add_16 (lv_at hl 5 rfl) ?_
        refine lv_if_le (tgt := 104) hx hb dX2_add_18 (by decide) (fun c3 => ?_) (fun c3 => ?_)
        · replace h := ip c3 h
          obtain rfl := Option.some.inj h
          exact K1 _ _ _ hP hS (lv_sub hl [0, 1, 2, 3, 4, 5] rfl)
        · replace h := iq c3 h
          refine lv_aload_n hx hb dX2_add_21 rfl (lv_at hl 0 rfl) ?_
          refine va_get (D := D) (ci := 2) (v := .ref (ad 12)) (C := RX2) (T := TX2) (N := 5) hx hb htb wu_2 hown hK.1 hP 10 w_10 rfl 1 (by decide) (htb _ wFL_RX2_15) (fun _ h9 => h9) rfl dX2_add_22 ?_
          refine lv_iload hx hb dX2_add_25 (lv_at hl 5 rfl) ?_
          refine lv_iconst (v := (1 : Int32)) hx hb dX2_add_27 (by decide) ?_
          refine lv_isub hx hb dX2_add_28 ?_
          obtain ⟨v4, g4, h⟩ := ob h
          refine r_ald hx hb hK hP 12 w_12 g4 dX2_add_29 ?_
          refine lv_iload_n hx hb dX2_add_30 rfl (lv_at hl 2 rfl) ?_
          refine lv_icmp_le (tgt := 104) hx hb dX2_add_31 (by decide) (fun c5 => ?_) (fun c5 => ?_)
          · replace h := ip c5 h
            obtain rfl := Option.some.inj h
            exact K1 _ _ _ hP hS (lv_sub hl [0, 1, 2, 3, 4, 5] rfl)
          · replace h := iq c5 h
            refine lv_aload_n hx hb dX2_add_34 rfl (lv_at hl 0 rfl) ?_
            refine va_get (D := D) (ci := 2) (v := .ref (ad 11)) (C := RX2) (T := TX2) (N := 5) hx hb htb wu_2 hown hK.1 hP 10 w_10 rfl 0 (by decide) (htb _ wFL_RX2_11) (fun _ h9 => h9) rfl dX2_add_35 ?_
            refine lv_iload hx hb dX2_add_38 (lv_at hl 5 rfl) ?_
            refine lv_aload_n hx hb dX2_add_40 rfl (lv_at hl 0 rfl) ?_
            refine va_get (D := D) (ci := 2) (v := .ref (ad 11)) (C := RX2) (T := TX2) (N := 5) hx hb htb wu_2 hown hK.1 hP 10 w_10 rfl 0 (by decide) (htb _ wFL_RX2_11) (fun _ h9 => h9) rfl dX2_add_41 ?_
            refine lv_iload hx hb dX2_add_44 (lv_at hl 5 rfl) ?_
            refine lv_iconst (v := (1 : Int32)) hx hb dX2_add_46 (by decide) ?_
            refine lv_isub hx hb dX2_add_47 ?_
            obtain ⟨v6, g6, h⟩ := ob h
            refine r_ald hx hb hK hP 11 w_11 g6 dX2_add_48 ?_
            obtain ⟨σ7, g7, h⟩ := ob h
            refine r_astC (A := AA ad) hx hb hK hd (fun _ hh => hh) hP hS 11 15 (by decide) (fun _ => rfl) g7 dX2_add_49 (fun H locs hP hS => ?_)
            refine lv_aload_n hx hb dX2_add_50 rfl (lv_at hl 0 rfl) ?_
            refine va_get (D := D) (ci := 2) (v := .ref (ad 12)) (C := RX2) (T := TX2) (N := 5) hx hb htb wu_2 hown hK.1 hP 10 w_10 rfl 1 (by decide) (htb _ wFL_RX2_15) (fun _ h9 => h9) rfl dX2_add_51 ?_
            refine lv_iload hx hb dX2_add_54 (lv_at hl 5 rfl) ?_
            refine lv_aload_n hx hb dX2_add_56 rfl (lv_at hl 0 rfl) ?_
            refine va_get (D := D) (ci := 2) (v := .ref (ad 12)) (C := RX2) (T := TX2) (N := 5) hx hb htb wu_2 hown hK.1 hP 10 w_10 rfl 1 (by decide) (htb _ wFL_RX2_15) (fun _ h9 => h9) rfl dX2_add_57 ?_
            refine lv_iload hx hb dX2_add_60 (lv_at hl 5 rfl) ?_
            refine lv_iconst (v := (1 : Int32)) hx hb dX2_add_62 (by decide) ?_
            refine lv_isub hx hb dX2_add_63 ?_
            obtain ⟨v8, g8, h⟩ := ob h
            refine r_ald hx hb hK hP 12 w_12 g8 dX2_add_64 ?_
            obtain ⟨σ9, g9, h⟩ := ob h
            refine r_astC (A := AA ad) hx hb hK hd (fun _ hh => hh) hP hS 12 15 (by decide) (fun _ => rfl) g9 dX2_add_65 (fun H locs hP hS => ?_)
            refine lv_aload_n hx hb dX2_add_66 rfl (lv_at hl 0 rfl) ?_
            refine va_get (D := D) (ci := 2) (v := .ref (ad 13)) (C := RX2) (T := TX2) (N := 5) hx hb htb wu_2 hown hK.1 hP 10 w_10 rfl 2 (by decide) (htb _ wFL_RX2_18) (fun _ h9 => h9) rfl dX2_add_67 ?_
            refine lv_iload hx hb dX2_add_70 (lv_at hl 5 rfl) ?_
            refine lv_aload_n hx hb dX2_add_72 rfl (lv_at hl 0 rfl) ?_
            refine va_get (D := D) (ci := 2) (v := .ref (ad 13)) (C := RX2) (T := TX2) (N := 5) hx hb htb wu_2 hown hK.1 hP 10 w_10 rfl 2 (by decide) (htb _ wFL_RX2_18) (fun _ h9 => h9) rfl dX2_add_73 ?_
            refine lv_iload hx hb dX2_add_76 (lv_at hl 5 rfl) ?_
            refine lv_iconst (v := (1 : Int32)) hx hb dX2_add_78 (by decide) ?_
            refine lv_isub hx hb dX2_add_79 ?_
            obtain ⟨v10, g10, h⟩ := ob h
            refine r_ald hx hb hK hP 13 w_13 g10 dX2_add_80 ?_
            obtain ⟨σ11, g11, h⟩ := ob h
            refine r_astC (A := AA ad) hx hb hK hd (fun _ hh => hh) hP hS 13 15 (by decide) (fun _ => rfl) g11 dX2_add_81 (fun H locs hP hS => ?_)
            refine lv_aload_n hx hb dX2_add_82 rfl (lv_at hl 0 rfl) ?_
            refine va_get (D := D) (ci := 2) (v := .ref (ad 14)) (C := RX2) (T := TX2) (N := 5) hx hb htb wu_2 hown hK.1 hP 10 w_10 rfl 3 (by decide) (htb _ wFL_RX2_21) (fun _ h9 => h9) rfl dX2_add_83 ?_
            refine lv_iload hx hb dX2_add_86 (lv_at hl 5 rfl) ?_
            refine lv_aload_n hx hb dX2_add_88 rfl (lv_at hl 0 rfl) ?_
            refine va_get (D := D) (ci := 2) (v := .ref (ad 14)) (C := RX2) (T := TX2) (N := 5) hx hb htb wu_2 hown hK.1 hP 10 w_10 rfl 3 (by decide) (htb _ wFL_RX2_21) (fun _ h9 => h9) rfl dX2_add_89 ?_
            refine lv_iload hx hb dX2_add_92 (lv_at hl 5 rfl) ?_
            refine lv_iconst (v := (1 : Int32)) hx hb dX2_add_94 (by decide) ?_
            refine lv_isub hx hb dX2_add_95 ?_
            obtain ⟨v12, g12, h⟩ := ob h
            refine r_ald hx hb hK hP 14 w_14 g12 dX2_add_96 ?_
            obtain ⟨σ13, g13, h⟩ := ob h
            refine r_astC (A := AA ad) hx hb hK hd (fun _ hh => hh) hP hS 14 15 (by decide) (fun _ => rfl) g13 dX2_add_97 (fun H locs hP hS => ?_)
            refine lv_iinc (v := (y1_5 + (-1 : Int32))) (lv' := [(5, .int (y1_5 + (-1 : Int32))), (0, .ref (ad 10)), (1, .int x1), (2, .int x2), (3, .int x3), (4, .int x4)]) hx hb dX2_add_98 hl (k := 5) rfl rfl (by decide) rfl (fun ls hl => ?_)
            refine lv_goto (tgt := 16) hx hb dX2_add_101 (by decide) ?_
            exact ih σ13 (y1_5 + (-1 : Int32)) _ _ _ h hP hS (lv_sub hl [1, 2, 3, 4, 5, 0] rfl)
    exact L1 10000 σ (σ 10 4) _ _ _ hj2 hP hS (lv_sub hl [1, 2, 3, 4, 5, 0] rfl)
  · replace h := iq c1 h
    obtain rfl := Option.some.inj h
    exact ret _ _ _ _ dX2_add_9 hP hS
