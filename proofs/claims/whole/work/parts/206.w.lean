def X8_tellMeeting (τ : St) (x1 : Int32) (x2 : Int32) : Option (Int32 × St) :=
  bd (X8_reckon τ ) fun v1 =>
  if x2 = (3 : Int32) then (
    bd (X8_slips v1 x1) fun v6 =>
    some (v6, v1))
  else (
    lt (X8_in  ((x2).toInt64) (0 : Int64) (2 : Int64)) fun v3 =>
    if v3 = 0 then (
      some ((-102 : Int32), v1))
    else (
      bd (rd (v1 36) 45 (((3 : Int32) * x1) + x2)) fun v5 =>
      some (v5, v1)))
abbrev rmX8_tellMeeting : Room := { frames := 3, cells := 0, slots := 0, locals := 68 }
set_option maxHeartbeats 4000000 in
set_option maxRecDepth 100000 in
theorem c_X8_tellMeeting (l : Launch) (D : va_G) (ad : Nat → Nat) (cI : ClassId) (hd : HD ad) (σ τ : St) (η : Int64) (x1 : Int32) (x2 : Int32) (rr : Int32 × St) (h : X8_tellMeeting τ x1 x2 = some rr) : MI l yX8_tellMeeting (wy yX8_tellMeeting cX8_tellMeeting 3 (some .int)) rmX8_tellMeeting D ad cI [.ref (ad 29), .int x1, .int x2] σ τ η rr.1 σ rr.2 η := by
  refine mk_i (own := RX8) (lv := [(0, .ref (ad 29)), (1, .int x1), (2, .int x2)]) (plainFor_of_name (by decide)) rfl (Nat.le_of_ble_eq_true rfl) rfl ?_
  intro p e s m args below meth c Q ls hx hb hml hown htb hK ret hP hS hl
  unfold X8_tellMeeting at h
  refine lv_aload_n hx hb dX8_tellMeeting_0 rfl (lv_at hl 0 rfl) ?_
  obtain ⟨v1, g1, h⟩ := ob h
  refine c_Vv (q := (RX8, TX8, 27)) (ci := 8) (b := 29) (As := []) (rest := []) (A := AA ad) ⟨hx, hb, hml, hown, htb⟩ (c_X8_reckon l D ad cI hd σ τ η  v1 g1) (cwV 0 htb (gdV (fun _ hh => hh) wML_RX8_85 wIM_yX8_reckon wSE_yX8_reckon wI_RX8 wC_yX8_reckon) rfl rfl rfl hd_X8_reckon ⟨by decide, by decide⟩) hK hP rfl w_29 (fun _ hh => hh) hS rfl hl.1 rfl (Nat.le_of_ble_eq_true rfl) dX8_tellMeeting_1 ⟨Nat.le_refl 0, Nat.le_refl 0⟩ (fun H locs hP hS => ?_)
  refine lv_iload_n hx hb dX8_tellMeeting_4 rfl (lv_at hl 2 rfl) ?_
  refine lv_iconst (v := (3 : Int32)) hx hb dX8_tellMeeting_5 (by decide) ?_
  refine lv_icmp_ne (tgt := 17) hx hb dX8_tellMeeting_6 (by decide) (fun c2 => ?_) (fun c2 => ?_)
  · replace h := iq c2 h
    refine lv_iload_n hx hb dX8_tellMeeting_17 rfl (lv_at hl 2 rfl) ?_
    refine lv_i2l (v := ((x2).toInt64)) hx hb dX8_tellMeeting_18 rfl ?_
    refine lv_lconst (v := (0 : Int64)) hx hb dX8_tellMeeting_19 rfl ?_
    refine lv_ldc2 (v := (2 : Int64)) hx hb hown (htb _ wKL_RX8_119) dX8_tellMeeting_20 ?_
    obtain ⟨v3, g3, h⟩ := ol h
    refine c_Sz (As := [.long ((x2).toInt64), .long (0 : Int64), .long (2 : Int64)]) (rest := []) (A := AA ad) ⟨hx, hb, hml, hown, htb⟩ (c_X8_in l D ad cI hd σ v1 η ((x2).toInt64) (0 : Int64) (2 : Int64) v3 g3) (va_cwS 3 htb (gdS (fun _ hh => hh) wML_RX8_65 wST_yX8_in wI_RX8 wC_yX8_in) rfl rfl rfl hd_X8_in.2 ⟨by decide, by decide⟩) hK hP (fun _ hh => hh) hS rfl hl.1 rfl (Nat.le_of_ble_eq_true rfl) dX8_tellMeeting_23 ⟨Nat.le_refl 0, Nat.le_refl 0⟩ (fun H locs hz3 hP hS => ?_)
    refine lv_if_eq (tgt := 42) hx hb dX8_tellMeeting_26 (by decide) (fun c4 => ?_) (fun c4 => ?_)
    · replace h := ip c4 h
      refine lv_bipush (v := (-102 : Int32)) hx hb dX8_tellMeeting_42 (by decide) ?_
      obtain rfl := Option.some.inj h
      exact ret _ _ _ _ _ dX8_tellMeeting_44 hP hS rfl
    · replace h := iq c4 h
      refine lv_aload_n hx hb dX8_tellMeeting_29 rfl (lv_at hl 0 rfl) ?_
      refine va_get (D := D) (ci := 8) (v := .ref (ad 36)) (C := RX8) (T := TX8) (N := 27) hx hb htb wu_8 hown hK.1 hP 29 w_29 rfl 10 (by decide) (htb _ wFL_RX8_28) (fun _ h9 => h9) rfl dX8_tellMeeting_30 ?_
      refine lv_iconst (v := (3 : Int32)) hx hb dX8_tellMeeting_33 (by decide) ?_
      refine lv_iload_n hx hb dX8_tellMeeting_34 rfl (lv_at hl 1 rfl) ?_
      refine lv_imul hx hb dX8_tellMeeting_35 ?_
      refine lv_iload_n hx hb dX8_tellMeeting_36 rfl (lv_at hl 2 rfl) ?_
      refine lv_iadd hx hb dX8_tellMeeting_37 ?_
      obtain ⟨v5, g5, h⟩ := ob h
      refine r_ald hx hb hK hP 36 w_36 g5 dX8_tellMeeting_38 ?_
      refine lv_goto (tgt := 44) hx hb dX8_tellMeeting_39 (by decide) ?_
      obtain rfl := Option.some.inj h
      exact ret _ _ _ _ _ dX8_tellMeeting_44 hP hS rfl
  · replace h := ip c2 h
    refine lv_aload_n hx hb dX8_tellMeeting_9 rfl (lv_at hl 0 rfl) ?_
    refine lv_iload_n hx hb dX8_tellMeeting_10 rfl (lv_at hl 1 rfl) ?_
    obtain ⟨v6, g6, h⟩ := ob h
    refine c_Vi (q := (RX8, TX8, 27)) (ci := 8) (b := 29) (As := [.int x1]) (rest := []) (A := AA ad) ⟨hx, hb, hml, hown, htb⟩ (c_X8_slips l D ad cI hd σ v1 η x1 v6 g6) (cwV 1 htb (gdV (fun _ hh => hh) wML_RX8_115 wIM_yX8_slips wSE_yX8_slips wI_RX8 wC_yX8_slips) rfl rfl rfl hd_X8_slips ⟨by decide, by decide⟩) hK hP rfl w_29 (fun _ hh => hh) hS rfl hl.1 rfl (Nat.le_of_ble_eq_true rfl) dX8_tellMeeting_11 ⟨Nat.le_refl 0, Nat.le_refl 0⟩ (fun H locs hP hS => ?_)
    refine lv_goto (tgt := 44) hx hb dX8_tellMeeting_14 (by decide) ?_
    obtain rfl := Option.some.inj h
    exact ret _ _ _ _ _ dX8_tellMeeting_44 hP hS rfl
def X8_meeting (τ : St) (x1 : Int32) (x2 : Int32) : Option (Int32 × St) :=
  lt (X8_in  ((x1).toInt64) (0 : Int64) ((((τ 29 8) - (1 : Int32))).toInt64)) fun v1 =>
  if v1 = 0 then (
    some ((-101 : Int32), τ))
  else (
    bd (X8_tellMeeting τ x1 x2) fun v3 =>
    some (v3.1, v3.2))
abbrev rmX8_meeting : Room := { frames := 4, cells := 0, slots := 0, locals := 90 }
set_option maxHeartbeats 4000000 in
set_option maxRecDepth 100000 in
theorem c_X8_meeting (l : Launch) (D : va_G) (ad : Nat → Nat) (cI : ClassId) (hd : HD ad) (σ τ : St) (η : Int64) (x1 : Int32) (x2 : Int32) (rr : Int32 × St) (h : X8_meeting τ x1 x2 = some rr) : MI l yX8_meeting (wy yX8_meeting cX8_meeting 3 (some .int)) rmX8_meeting D ad cI [.ref (ad 29), .int x1, .int x2] σ τ η rr.1 σ rr.2 η := by
  refine mk_i (own := RX8) (lv := [(0, .ref (ad 29)), (1, .int x1), (2, .int x2)]) (plainFor_of_name (by decide)) rfl (Nat.le_of_ble_eq_true rfl) rfl ?_
  intro p e s m args below meth c Q ls hx hb hml hown htb hK ret hP hS hl
  unfold X8_meeting at h
  refine lv_iload_n hx hb dX8_meeting_0 rfl (lv_at hl 1 rfl) ?_
  refine lv_i2l (v := ((x1).toInt64)) hx hb dX8_meeting_1 rfl ?_
  refine lv_lconst (v := (0 : Int64)) hx hb dX8_meeting_2 rfl ?_
  refine lv_aload_n hx hb dX8_meeting_3 rfl (lv_at hl 0 rfl) ?_
  refine va_get (D := D) (ci := 8) (v := .int (τ 29 8)) (C := RX8) (T := TX8) (N := 27) hx hb htb wu_8 hown hK.1 hP 29 w_29 rfl 8 (by decide) (htb _ wFL_RX8_109) (fun _ h9 => h9) rfl dX8_meeting_4 ?_
  refine lv_iconst (v := (1 : Int32)) hx hb dX8_meeting_7 (by decide) ?_
  refine lv_isub hx hb dX8_meeting_8 ?_
  refine lv_i2l (v := ((((τ 29 8) - (1 : Int32))).toInt64)) hx hb dX8_meeting_9 rfl ?_
  obtain ⟨v1, g1, h⟩ := ol h
  refine c_Sz (As := [.long ((x1).toInt64), .long (0 : Int64), .long ((((τ 29 8) - (1 : Int32))).toInt64)]) (rest := []) (A := AA ad) ⟨hx, hb, hml, hown, htb⟩ (c_X8_in l D ad cI hd σ τ η ((x1).toInt64) (0 : Int64) ((((τ 29 8) - (1 : Int32))).toInt64) v1 g1) (va_cwS 3 htb (gdS (fun _ hh => hh) wML_RX8_65 wST_yX8_in wI_RX8 wC_yX8_in) rfl rfl rfl hd_X8_in.2 ⟨by decide, by decide⟩) hK hP (fun _ hh => hh) hS rfl hl.1 rfl (Nat.le_of_ble_eq_true rfl) dX8_meeting_10 ⟨Nat.le_refl 0, Nat.le_refl 0⟩ (fun H locs hz1 hP hS => ?_)
  refine lv_if_eq (tgt := 25) hx hb dX8_meeting_13 (by decide) (fun c2 => ?_) (fun c2 => ?_)
  · replace h := ip c2 h
    refine lv_bipush (v := (-101 : Int32)) hx hb dX8_meeting_25 (by decide) ?_
    obtain rfl := Option.some.inj h
    exact ret _ _ _ _ _ dX8_meeting_27 hP hS rfl
  · replace h := iq c2 h
    refine lv_aload_n hx hb dX8_meeting_16 rfl (lv_at hl 0 rfl) ?_
    refine lv_iload_n hx hb dX8_meeting_17 rfl (lv_at hl 1 rfl) ?_
    refine lv_iload_n hx hb dX8_meeting_18 rfl (lv_at hl 2 rfl) ?_
    obtain ⟨v3, g3, h⟩ := ob h
    refine c_Vi (q := (RX8, TX8, 27)) (ci := 8) (b := 29) (As := [.int x1, .int x2]) (rest := []) (A := AA ad) ⟨hx, hb, hml, hown, htb⟩ (c_X8_tellMeeting l D ad cI hd σ τ η x1 x2 v3 g3) (cwV 2 htb (gdV (fun _ hh => hh) wML_RX8_121 wIM_yX8_tellMeeting wSE_yX8_tellMeeting wI_RX8 wC_yX8_tellMeeting) rfl rfl rfl hd_X8_tellMeeting ⟨by decide, by decide⟩) hK hP rfl w_29 (fun _ hh => hh) hS rfl hl.1 rfl (Nat.le_of_ble_eq_true rfl) dX8_meeting_19 ⟨Nat.le_refl 0, Nat.le_refl 0⟩ (fun H locs hP hS => ?_)
    refine lv_goto (tgt := 27) hx hb dX8_meeting_22 (by decide) ?_
    obtain rfl := Option.some.inj h
    exact ret _ _ _ _ _ dX8_meeting_27 hP hS rfl
def X7_isPart  (x0 : Int32) : Int32 :=
  if x0 = 0 then (
    (1 : Int32))
  else (
    if x0 = (1 : Int32) then (
      (1 : Int32))
    else (
      (0 : Int32)))
abbrev rmX7_isPart : Room := { frames := 0, cells := 0, slots := 0, locals := 0 }
set_option maxHeartbeats 4000000 in
set_option maxRecDepth 100000 in
theorem c_X7_isPart (l : Launch) (D : va_G) (ad : Nat → Nat) (cI : ClassId) (hd : HD ad) (σ τ : St) (η : Int64) (x0 : Int32) (rr : Int32) (h : X7_isPart  x0 = rr) : MZ l yX7_isPart (wy yX7_isPart cX7_isPart 1 (some .boolean)) rmX7_isPart D ad cI [.int x0] σ τ η rr σ τ η := by
  refine mk_z (own := RX7) (lv := [(0, .int x0)]) (plainFor_of_name (by decide)) rfl (Nat.le_of_ble_eq_true rfl) rfl ?_
  intro p e s m args below meth c Q ls hx hb hml hown htb hK ret hP hS hl
  unfold X7_isPart at h
  refine lv_iload_n hx hb dX7_isPart_0 rfl (lv_at hl 0 rfl) ?_
  refine lv_if_eq (tgt := 9) hx hb dX7_isPart_1 (by decide) (fun c1 => ?_) (fun c1 => ?_)
  · replace h := ip c1 h
    refine lv_iconst (v := (1 : Int32)) hx hb dX7_isPart_9 (by decide) ?_
    refine lv_goto (tgt := 14) hx hb dX7_isPart_10 (by decide) ?_
    subst h
    exact ret _ _ _ _ _ dX7_isPart_14 hP hS rfl (by first | exact Or.inl rfl | exact Or.inr rfl | assumption)
  · replace h := iq c1 h
    refine lv_iload_n hx hb dX7_isPart_4 rfl (lv_at hl 0 rfl) ?_
    refine lv_iconst (v := (1 : Int32)) hx hb dX7_isPart_5 (by decide) ?_
    refine lv_icmp_ne (tgt := 13) hx hb dX7_isPart_6 (by decide) (fun c2 => ?_) (fun c2 => ?_)
    · replace h := iq c2 h
      refine lv_iconst (v := (0 : Int32)) hx hb dX7_isPart_13 (by decide) ?_
      subst h
      exact ret _ _ _ _ _ dX7_isPart_14 hP hS rfl (by first | exact Or.inl rfl | exact Or.inr rfl | assumption)
    · replace h := ip c2 h
      refine lv_iconst (v := (1 : Int32)) hx hb dX7_isPart_9 (by decide) ?_
      refine lv_goto (tgt := 14) hx hb dX7_isPart_10 (by decide) ?_
      subst h
      exact ret _ _ _ _ _ dX7_isPart_14 hP hS rfl (by first | exact Or.inl rfl | exact Or.inr rfl | assumption)
def X2_silentWays_L1 (n : Nat) (σ_1 : St) (y1_2 : Int64) (y1_4 : Int32) : Option (Int64 × Int32) := match n with
  | 0 => none
  | n + 1 =>
    if (σ_1 10 4) ≤ y1_4 then (
      some (y1_2, y1_4))
    else (
      bd (X2_slipOf σ_1 y1_4) fun v3 =>
      X2_silentWays_L1 n σ_1 (y1_2 * ((((10 : Int32) - v3)).toInt64)) (y1_4 + (1 : Int32)))
theorem X2_silentWays_L1_s (n : Nat) (σ_1 : St) (y1_2 : Int64) (y1_4 : Int32) : X2_silentWays_L1 (n + 1) σ_1 y1_2 y1_4 =
    if (σ_1 10 4) ≤ y1_4 then (
      some (y1_2, y1_4))
    else (
      bd (X2_slipOf σ_1 y1_4) fun v3 =>
      X2_silentWays_L1 n σ_1 (y1_2 * ((((10 : Int32) - v3)).toInt64)) (y1_4 + (1 : Int32))) := rfl
def X2_silentWays (σ : St)  : Option (Int64) :=
  bd (X2_silentWays_L1 10000 σ (1 : Int64) (0 : Int32)) fun v1 =>
  some v1.1
abbrev rmX2_silentWays : Room := { frames := 2, cells := 0, slots := 0, locals := 44 }
set_option maxHeartbeats 4000000 in
set_option maxRecDepth 100000 in
theorem c_X2_silentWays (l : Launch) (D : va_G) (ad : Nat → Nat) (cI : ClassId) (hd : HD ad) (σ τ : St) (η : Int64)  (rr : Int64) (h : X2_silentWays σ  = some rr) : ML l yX2_silentWays (wy yX2_silentWays cX2_silentWays 5 (some .long)) rmX2_silentWays D ad cI [.ref (ad 10), .ref (ad 6)] σ τ η rr σ τ η := by
  refine mk_l (own := RX2) (lv := [(0, .ref (ad 10)), (1, .ref (ad 6))]) (plainFor_of_name (by decide)) rfl (Nat.le_of_ble_eq_true rfl) rfl ?_
  intro p e s m args below meth c Q ls hx hb hml hown htb hK ret hP hS hl
  unfold X2_silentWays at h
  refine lv_lconst (v := (1 : Int64)) hx hb dX2_silentWays_0 rfl ?_
  refine lv_lstore_n (lv' := [(2, .long (1 : Int64)), (0, .ref (ad 10)), (1, .ref (ad 6))]) hx hb dX2_silentWays_1 rfl hl (by decide) rfl (fun ls hl => ?_)
  refine lv_iconst (v := (0 : Int32)) hx hb dX2_silentWays_2 (by decide) ?_
  refine lv_istore (lv' := [(4, .int (0 : Int32)), (2, .long (1 : Int64)), (0, .ref (ad 10)), (1, .ref (ad 6))]) hx hb dX2_silentWays_3 hl (by decide) rfl (fun ls hl => ?_)
  obtain ⟨v1, hj1, h⟩ := ob h
  have K1 : ∀ (H : Heap) (locs : List Loc) (ls : Array Slot), WP D ad cI σ τ η H → va_S (AA ad) s.heap H locs → lv_has ls 5 [(2, .long v1.1)] → W p l e rmX2_silentWays s m args below meth c H locs 0 0 Q (F0 m 34 ls []) := by
    intro H locs ls hP hS hl
    refine lv_lload_n hx hb dX2_silentWays_34 rfl (lv_at hl 0 rfl) ?_
    obtain rfl := Option.some.inj h
    exact ret _ _ _ _ _ dX2_silentWays_35 hP hS rfl
  have L1 : ∀ (n : Nat) (y1_2 : Int64) (y1_4 : Int32) (H : Heap) (locs : List Loc) (ls : Array Slot), X2_silentWays_L1 n σ y1_2 y1_4 = some v1 → WP D ad cI σ τ η H → va_S (AA ad) s.heap H locs → lv_has ls 5 [(0, .ref (ad 10)), (1, .ref (ad 6)), (2, .long y1_2), (4, .int y1_4)] → W p l e rmX2_silentWays s m args below meth c H locs 0 0 Q (F0 m 5 ls []) := by
    intro n
    induction n with
    | zero => intro y1_2 y1_4 H locs ls h; exact absurd h (by simp [X2_silentWays_L1])
    | succ n ih =>
      intro y1_2 y1_4 H locs ls h hP hS hl
      replace h := (X2_silentWays_L1_s n σ y1_2 y1_4).symm.trans h
      refine lv_iload hx hb dX2_silentWays_5 (lv_at hl 3 rfl) ?_
      refine lv_aload_n hx hb dX2_silentWays_7 rfl (lv_at hl 0 rfl) ?_
      refine va_get (D := D) (ci := 2) (v := .int (σ 10 4)) (C := RX2) (T := TX2) (N := 5) hx hb htb wu_2 hown hK.1 hP 10 w_10 rfl 4 (by decide) (htb _ wFL_RX2_24) (fun _ h9 => h9) rfl dX2_silentWays_8 ?_
      refine lv_icmp_ge (tgt := 34) hx hb dX2_silentWays_11 (by decide) (fun c2 => ?_) (fun c2 => ?_)
      · replace h := ip c2 h
        obtain rfl := Option.some.inj h
        exact K1 _ _ _ hP hS (lv_sub hl [2] rfl)
      · replace h := iq c2 h
        refine lv_lload_n hx hb dX2_silentWays_14 rfl (lv_at hl 2 rfl) ?_
        refine lv_bipush (v := (10 : Int32)) hx hb dX2_silentWays_15 (by decide) ?_
        refine lv_aload_n hx hb dX2_silentWays_17 rfl (lv_at hl 0 rfl) ?_
        refine lv_iload hx hb dX2_silentWays_18 (lv_at hl 3 rfl) ?_
        refine lv_aload_n hx hb dX2_silentWays_20 rfl (lv_at hl 1 rfl) ?_
        obtain ⟨v3, g3, h⟩ := ob h
        refine c_Vi (q := (RX2, TX2, 5)) (ci := 2) (b := 10) (As := [.int y1_4, .ref (ad 6)]) (rest := [.int (10 : Int32), .long y1_2]) (A := AA ad) ⟨hx, hb, hml, hown, htb⟩ (c_X2_slipOf l D ad cI hd σ τ η y1_4 v3 g3) (cwV 2 htb (gdV (fun _ hh => hh) wML_RX2_42 wIM_yX2_slipOf wSE_yX2_slipOf wI_RX2 wC_yX2_slipOf) rfl rfl rfl hd_X2_slipOf ⟨by decide, by decide⟩) hK hP rfl w_10 (fun _ hh => hh) hS rfl hl.1 rfl (Nat.le_of_ble_eq_true rfl) dX2_silentWays_21 ⟨Nat.le_refl 0, Nat.le_refl 0⟩ (fun H locs hP hS => ?_)
        refine lv_isub hx hb dX2_silentWays_24 ?_
        refine lv_i2l (v := ((((10 : Int32) - v3)).toInt64)) hx hb dX2_silentWays_25 rfl ?_
        refine lv_lmul hx hb dX2_silentWays_26 ?_
        refine lv_lstore_n (lv' := [(2, .long (y1_2 * ((((10 : Int32) - v3)).toInt64))), (0, .ref (ad 10)), (1, .ref (ad 6)), (4, .int y1_4)]) hx hb dX2_silentWays_27 rfl hl (by decide) rfl (fun ls hl => ?_)
        refine lv_iinc (v := (y1_4 + (1 : Int32))) (lv' := [(4, .int (y1_4 + (1 : Int32))), (2, .long (y1_2 * ((((10 : Int32) - v3)).toInt64))), (0, .ref (ad 10)), (1, .ref (ad 6))]) hx hb dX2_silentWays_28 hl (k := 3) rfl rfl (by decide) rfl (fun ls hl => ?_)
        refine lv_goto (tgt := 5) hx hb dX2_silentWays_31 (by decide) ?_
        exact ih (y1_2 * ((((10 : Int32) - v3)).toInt64)) (y1_4 + (1 : Int32)) _ _ _ h hP hS (lv_sub hl [2, 3, 1, 0] rfl)
  exact L1 10000 (1 : Int64) (0 : Int32) _ _ _ hj1 hP hS (lv_sub hl [2, 3, 1, 0] rfl)
def X7_power_L1 (n : Nat) (u1_0 : Int32) (u1_1 : Int32) (y1_2 : Int64) (y1_4 : Int32) : Option (Int64 × Int32) := match n with
  | 0 => none
  | n + 1 =>
    if u1_1 ≤ y1_4 then (
      some (y1_2, y1_4))
    else (
      X7_power_L1 n u1_0 u1_1 (y1_2 * ((u1_0).toInt64)) (y1_4 + (1 : Int32)))
theorem X7_power_L1_s (n : Nat) (u1_0 : Int32) (u1_1 : Int32) (y1_2 : Int64) (y1_4 : Int32) : X7_power_L1 (n + 1) u1_0 u1_1 y1_2 y1_4 =
    if u1_1 ≤ y1_4 then (
      some (y1_2, y1_4))
    else (
      X7_power_L1 n u1_0 u1_1 (y1_2 * ((u1_0).toInt64)) (y1_4 + (1 : Int32))) := rfl
def X7_power  (x0 : Int32) (x1 : Int32) : Option (Int64) :=
  bd (X7_power_L1 10000 x0 x1 (1 : Int64) (0 : Int32)) fun v1 =>
  some v1.1
abbrev rmX7_power : Room := { frames := 0, cells := 0, slots := 0, locals := 0 }
set_option maxHeartbeats 4000000 in
set_option maxRecDepth 100000 in
theorem c_X7_power (l : Launch) (D : va_G) (ad : Nat → Nat) (cI : ClassId) (hd : HD ad) (σ τ : St) (η : Int64) (x0 : Int32) (x1 : Int32) (rr : Int64) (h : X7_power  x0 x1 = some rr) : ML l yX7_power (wy yX7_power cX7_power 5 (some .long)) rmX7_power D ad cI [.int x0, .int x1] σ τ η rr σ τ η := by
  refine mk_l (own := RX7) (lv := [(0, .int x0), (1, .int x1)]) (plainFor_of_name (by decide)) rfl (Nat.le_of_ble_eq_true rfl) rfl ?_
  intro p e s m args below meth c Q ls hx hb hml hown htb hK ret hP hS hl
  unfold X7_power at h
  refine lv_lconst (v := (1 : Int64)) hx hb dX7_power_0 rfl ?_
  refine lv_lstore_n (lv' := [(2, .long (1 : Int64)), (0, .int x0), (1, .int x1)]) hx hb dX7_power_1 rfl hl (by decide) rfl (fun ls hl => ?_)
  refine lv_iconst (v := (0 : Int32)) hx hb dX7_power_2 (by decide) ?_
  refine lv_istore (lv' := [(4, .int (0 : Int32)), (2, .long (1 : Int64)), (0, .int x0), (1, .int x1)]) hx hb dX7_power_3 hl (by decide) rfl (fun ls hl => ?_)
  obtain ⟨v1, hj1, h⟩ := ob h
  have K1 : ∀ (H : Heap) (locs : List Loc) (ls : Array Slot), WP D ad cI σ τ η H → va_S (AA ad) s.heap H locs → lv_has ls 5 [(2, .long v1.1)] → W p l e rmX7_power s m args below meth c H locs 0 0 Q (F0 m 22 ls []) := by
    intro H locs ls hP hS hl
    refine lv_lload_n hx hb dX7_power_22 rfl (lv_at hl 0 rfl) ?_
    obtain rfl := Option.some.inj h
    exact ret _ _ _ _ _ dX7_power_23 hP hS rfl
  have L1 : ∀ (n : Nat) (y1_2 : Int64) (y1_4 : Int32) (H : Heap) (locs : List Loc) (ls : Array Slot), X7_power_L1 n x0 x1 y1_2 y1_4 = some v1 → WP D ad cI σ τ η H → va_S (AA ad) s.heap H locs → lv_has ls 5 [(0, .int x0), (1, .int x1), (2, .long y1_2), (4, .int y1_4)] → W p l e rmX7_power s m args below meth c H locs 0 0 Q (F0 m 5 ls []) := by
    intro n
    induction n with
    | zero => intro y1_2 y1_4 H locs ls h; exact absurd h (by simp [X7_power_L1])
    | succ n ih =>
      intro y1_2 y1_4 H locs ls h hP hS hl
      replace h := (X7_power_L1_s n x0 x1 y1_2 y1_4).symm.trans h
      refine lv_iload hx hb dX7_power_5 (lv_at hl 3 rfl) ?_
      refine lv_iload_n hx hb dX7_power_7 rfl (lv_at hl 1 rfl) ?_
      refine lv_icmp_ge (tgt := 22) hx hb dX7_power_8 (by decide) (fun c2 => ?_) (fun c2 => ?_)
      · replace h := ip c2 h
        obtain rfl := Option.some.inj h
        exact K1 _ _ _ hP hS (lv_sub hl [2] rfl)
      · replace h := iq c2 h
        refine lv_lload_n hx hb dX7_power_11 rfl (lv_at hl 2 rfl) ?_
        refine lv_iload_n hx hb dX7_power_12 rfl (lv_at hl 0 rfl) ?_
        refine lv_i2l (v := ((x0).toInt64)) hx hb dX7_power_13 rfl ?_
        refine lv_lmul hx hb dX7_power_14 ?_
        refine lv_lstore_n (lv' := [(2, .long (y1_2 * ((x0).toInt64))), (0, .int x0), (1, .int x1), (4, .int y1_4)]) hx hb dX7_power_15 rfl hl (by decide) rfl (fun ls hl => ?_)
        refine lv_iinc (v := (y1_4 + (1 : Int32))) (lv' := [(4, .int (y1_4 + (1 : Int32))), (2, .long (y1_2 * ((x0).toInt64))), (0, .int x0), (1, .int x1)]) hx hb dX7_power_16 hl (k := 3) rfl rfl (by decide) rfl (fun ls hl => ?_)
        refine lv_goto (tgt := 5) hx hb dX7_power_19 (by decide) ?_
        exact ih (y1_2 * ((x0).toInt64)) (y1_4 + (1 : Int32)) _ _ _ h hP hS (lv_sub hl [2, 3, 1, 0] rfl)
  exact L1 10000 (1 : Int64) (0 : Int32) _ _ _ hj1 hP hS (lv_sub hl [2, 3, 1, 0] rfl)
def X2_allWays (σ : St)  : Option (Int64) :=
  bd (X7_power  (10 : Int32) (σ 10 4)) fun v1 =>
  some v1
abbrev rmX2_allWays : Room := { frames := 1, cells := 0, slots := 0, locals := 24 }
set_option maxHeartbeats 4000000 in
set_option maxRecDepth 100000 in
theorem c_X2_allWays (l : Launch) (D : va_G) (ad : Nat → Nat) (cI : ClassId) (hd : HD ad) (σ τ : St) (η : Int64)  (rr : Int64) (h : X2_allWays σ  = some rr) : ML l yX2_allWays (wy yX2_allWays cX2_allWays 1 (some .long)) rmX2_allWays D ad cI [.ref (ad 10)] σ τ η rr σ τ η := by
  refine mk_l (own := RX2) (lv := [(0, .ref (ad 10))]) (plainFor_of_name (by decide)) rfl (Nat.le_of_ble_eq_true rfl) rfl ?_
  intro p e s m args below meth c Q ls hx hb hml hown htb hK ret hP hS hl
  unfold X2_allWays at h
  refine lv_bipush (v := (10 : Int32)) hx hb dX2_allWays_0 (by decide) ?_
  refine lv_aload_n hx hb dX2_allWays_2 rfl (lv_at hl 0 rfl) ?_
  refine va_get (D := D) (ci := 2) (v := .int (σ 10 4)) (C := RX2) (T := TX2) (N := 5) hx hb htb wu_2 hown hK.1 hP 10 w_10 rfl 4 (by decide) (htb _ wFL_RX2_24) (fun _ h9 => h9) rfl dX2_allWays_3 ?_
  obtain ⟨v1, g1, h⟩ := ob h
  refine c_Nl (As := [.int (10 : Int32), .int (σ 10 4)]) (rest := []) (A := AA ad) ⟨hx, hb, hml, hown, htb⟩ (c_X7_power l D ad cI hd σ τ η (10 : Int32) (σ 10 4) v1 g1) ⟨va_cnB 2 htb (gdW (fun _ hh => hh) wC_yX7_power) rfl rfl rfl (hK.2 _ wMN_RX2_38 rfl) (htb _ wI_RX7) hd_X7_power.2 ⟨by decide, by decide⟩, htb _ wST_yX7_power, trivial⟩ hK hP (fun _ hh => hh) hS rfl hl.1 rfl (Nat.le_of_ble_eq_true rfl) dX2_allWays_6 ⟨Nat.le_refl 0, Nat.le_refl 0⟩ (fun H locs hP hS => ?_)
  obtain rfl := Option.some.inj h
  exact ret _ _ _ _ _ dX2_allWays_9 hP hS rfl
def X7_commonDivisor_L1 (n : Nat) (y1_4 : Int64) (y1_6 : Int64) (y1_8 : Int32) : Option (Int64 × Int64 × Int32) := match n with
  | 0 => none
  | n + 1 =>
    if (100 : Int32) ≤ y1_8 then (
      some (y1_4, y1_6, y1_8))
    else (
      if y1_6 = (0 : Int64) then (
        some (y1_4, y1_6, y1_8))
      else (
        if y1_6 = 0 then none else
        X7_commonDivisor_L1 n y1_6 (lrem y1_4 y1_6) (y1_8 + (1 : Int32))))
theorem X7_commonDivisor_L1_s (n : Nat) (y1_4 : Int64) (y1_6 : Int64) (y1_8 : Int32) : X7_commonDivisor_L1 (n + 1) y1_4 y1_6 y1_8 =
    if (100 : Int32) ≤ y1_8 then (
      some (y1_4, y1_6, y1_8))
    else (
      if y1_6 = (0 : Int64) then (
        some (y1_4, y1_6, y1_8))
      else (
        if y1_6 = 0 then none else
        X7_commonDivisor_L1 n y1_6 (lrem y1_4 y1_6) (y1_8 + (1 : Int32)))) := rfl
def X7_commonDivisor  (x0 : Int64) (x2 : Int64) : Option (Int64) :=
  bd (X7_commonDivisor_L1 10000 x0 x2 (0 : Int32)) fun v1 =>
  some v1.1
abbrev rmX7_commonDivisor : Room := { frames := 0, cells := 0, slots := 0, locals := 0 }
set_option maxHeartbeats 4000000 in
set_option maxRecDepth 100000 in
theorem c_X7_commonDivisor (l : Launch) (D : va_G) (ad : Nat → Nat) (cI : ClassId) (hd : HD ad) (σ τ : St) (η : Int64) (x0 : Int64) (x2 : Int64) (rr : Int64) (h : X7_commonDivisor  x0 x2 = some rr) : ML l yX7_commonDivisor (wy yX7_commonDivisor cX7_commonDivisor 11 (some .long)) rmX7_commonDivisor D ad cI [.long x0, .long x2] σ τ η rr σ τ η := by
  refine mk_l (own := RX7) (lv := [(0, .long x0), (2, .long x2)]) (plainFor_of_name (by decide)) rfl (Nat.le_of_ble_eq_true rfl) rfl ?_
  intro p e s m args below meth c Q ls hx hb hml hown htb hK ret hP hS hl
  unfold X7_commonDivisor at h
  refine lv_lload_n hx hb dX7_commonDivisor_0 rfl (lv_at hl 0 rfl) ?_
  refine lv_lstore (lv' := [(4, .long x0), (0, .long x0), (2, .long x2)]) hx hb dX7_commonDivisor_1 hl (by decide) rfl (fun ls hl => ?_)
  refine lv_lload_n hx hb dX7_commonDivisor_3 rfl (lv_at hl 2 rfl) ?_
  refine lv_lstore (lv' := [(6, .long x2), (4, .long x0), (0, .long x0), (2, .long x2)]) hx hb dX7_commonDivisor_4 hl (by decide) rfl (fun ls hl => ?_)
  refine lv_iconst (v := (0 : Int32)) hx hb dX7_commonDivisor_6 (by decide) ?_
  refine lv_istore (lv' := [(8, .int (0 : Int32)), (6, .long x2), (4, .long x0), (0, .long x0), (2, .long x2)]) hx hb dX7_commonDivisor_7 hl (by decide) rfl (fun ls hl => ?_)
  obtain ⟨v1, hj1, h⟩ := ob h
  have K1 : ∀ (H : Heap) (locs : List Loc) (ls : Array Slot), WP D ad cI σ τ η H → va_S (AA ad) s.heap H locs → lv_has ls 11 [(4, .long v1.1)] → W p l e rmX7_commonDivisor s m args below meth c H locs 0 0 Q (F0 m 44 ls []) := by
    intro H locs ls hP hS hl
    refine lv_lload hx hb dX7_commonDivisor_44 (lv_at hl 0 rfl) ?_
    obtain rfl := Option.some.inj h
    exact ret _ _ _ _ _ dX7_commonDivisor_46 hP hS rfl
  have L1 : ∀ (n : Nat) (y1_4 : Int64) (y1_6 : Int64) (y1_8 : Int32) (H : Heap) (locs : List Loc) (ls : Array Slot), X7_commonDivisor_L1 n y1_4 y1_6 y1_8 = some v1 → WP D ad cI σ τ η H → va_S (AA ad) s.heap H locs → lv_has ls 11 [(4, .long y1_4), (6, .long y1_6), (8, .int y1_8)] → W p l e rmX7_commonDivisor s m args below meth c H locs 0 0 Q (F0 m 9 ls []) := by
    intro n
    induction n with
    | zero => intro y1_4 y1_6 y1_8 H locs ls h; exact absurd h (by simp [X7_commonDivisor_L1])
    | succ n ih =>
      intro y1_4 y1_6 y1_8 H locs ls h hP hS hl
      replace h := (X7_commonDivisor_L1_s n y1_4 y1_6 y1_8).symm.trans h
      refine lv_iload hx hb dX7_commonDivisor_9 (lv_at hl 2 rfl) ?_
      refine lv_bipush (v := (100 : Int32)) hx hb dX7_commonDivisor_11 (by decide) ?_
      refine lv_icmp_ge (tgt := 44) hx hb dX7_commonDivisor_13 (by decide) (fun c2 => ?_) (fun c2 => ?_)
      · replace h := ip c2 h
        obtain rfl := Option.some.inj h
        exact K1 _ _ _ hP hS (lv_sub hl [0] rfl)
      · replace h := iq c2 h
        refine lv_lload hx hb dX7_commonDivisor_16 (lv_at hl 1 rfl) ?_
        refine lv_lconst (v := (0 : Int64)) hx hb dX7_commonDivisor_18 rfl ?_
        refine W.lcmp hx hb dX7_commonDivisor_19 ?_
        refine lv_if_eq (tgt := 44) hx hb dX7_commonDivisor_20 (by decide) (fun c3 => ?_) (fun c3 => ?_)
        · replace c3 := (lg_cmp_eq _ _).mp c3
          replace h := ip c3 h
          obtain rfl := Option.some.inj h
          exact K1 _ _ _ hP hS (lv_sub hl [0] rfl)
        · replace c3 := (not_congr (lg_cmp_eq _ _)).mp c3
          replace h := iq c3 h
          refine lv_lload hx hb dX7_commonDivisor_23 (lv_at hl 0 rfl) ?_
          refine lv_lload hx hb dX7_commonDivisor_25 (lv_at hl 1 rfl) ?_
          obtain ⟨c4, h⟩ := inz h
          refine lv_lrem hx hb dX7_commonDivisor_27 c4 ?_
          refine lv_lstore (lv' := [(9, .long (lrem y1_4 y1_6)), (4, .long y1_4), (6, .long y1_6), (8, .int y1_8)]) hx hb dX7_commonDivisor_28 hl (by decide) rfl (fun ls hl => ?_)
          refine lv_lload hx hb dX7_commonDivisor_30 (lv_at hl 2 rfl) ?_
          refine lv_lstore (lv' := [(4, .long y1_6), (9, .long (lrem y1_4 y1_6)), (6, .long y1_6), (8, .int y1_8)]) hx hb dX7_commonDivisor_32 hl (by decide) rfl (fun ls hl => ?_)
          refine lv_lload hx hb dX7_commonDivisor_34 (lv_at hl 1 rfl) ?_
          refine lv_lstore (lv' := [(6, .long (lrem y1_4 y1_6)), (4, .long y1_6), (9, .long (lrem y1_4 y1_6)), (8, .int y1_8)]) hx hb dX7_commonDivisor_36 hl (by decide) rfl (fun ls hl => ?_)
          refine lv_iinc (v := (y1_8 + (1 : Int32))) (lv' := [(8, .int (y1_8 + (1 : Int32))), (6, .long (lrem y1_4 y1_6)), (4, .long y1_6), (9, .long (lrem y1_4 y1_6))]) hx hb dX7_commonDivisor_38 hl (k := 3) rfl rfl (by decide) rfl (fun ls hl => ?_)
          refine lv_goto (tgt := 9) hx hb dX7_commonDivisor_41 (by decide) ?_
          exact ih y1_6 (lrem y1_4 y1_6) (y1_8 + (1 : Int32)) _ _ _ h hP hS (lv_sub hl [2, 1, 0] rfl)
  exact L1 10000 x0 x2 (0 : Int32) _ _ _ hj1 hP hS (lv_sub hl [2, 1, 0] rfl)
def X7_lowest  (x0 : Int64) (x2 : Int64) (x4 : Int32) : Option (Int64) :=
  bd (X7_commonDivisor  x0 x2) fun v1 =>
  if v1 = (0 : Int64) then (
    some (-1 : Int64))
  else (
    if x4 = 0 then (
      if v1 = 0 then none else
      some (x0 / v1))
    else (
      if v1 = 0 then none else
      some (x2 / v1)))
abbrev rmX7_lowest : Room := { frames := 1, cells := 0, slots := 0, locals := 30 }
set_option maxHeartbeats 4000000 in
set_option maxRecDepth 100000 in
theorem c_X7_lowest (l : Launch) (D : va_G) (ad : Nat → Nat) (cI : ClassId) (hd : HD ad) (σ τ : St) (η : Int64) (x0 : Int64) (x2 : Int64) (x4 : Int32) (rr : Int64) (h : X7_lowest  x0 x2 x4 = some rr) : ML l yX7_lowest (wy yX7_lowest cX7_lowest 7 (some .long)) rmX7_lowest D ad cI [.long x0, .long x2, .int x4] σ τ η rr σ τ η := by
  refine mk_l (own := RX7) (lv := [(0, .long x0), (2, .long x2), (4, .int x4)]) (plainFor_of_name (by decide)) rfl (Nat.le_of_ble_eq_true rfl) rfl ?_
  intro p e s m args below meth c Q ls hx hb hml hown htb hK ret hP hS hl
  unfold X7_lowest at h
  refine lv_lload_n hx hb dX7_lowest_0 rfl (lv_at hl 0 rfl) ?_
  refine lv_lload_n hx hb dX7_lowest_1 rfl (lv_at hl 1 rfl) ?_
  obtain ⟨v1, g1, h⟩ := ob h
  refine c_Sl (As := [.long x0, .long x2]) (rest := []) (A := AA ad) ⟨hx, hb, hml, hown, htb⟩ (c_X7_commonDivisor l D ad cI hd σ τ η x0 x2 v1 g1) (va_cwS 2 htb (gdS (fun _ hh => hh) wML_RX7_371 wST_yX7_commonDivisor wI_RX7 wC_yX7_commonDivisor) rfl rfl rfl hd_X7_commonDivisor.2 ⟨by decide, by decide⟩) hK hP (fun _ hh => hh) hS rfl hl.1 rfl (Nat.le_of_ble_eq_true rfl) dX7_lowest_2 ⟨Nat.le_refl 0, Nat.le_refl 0⟩ (fun H locs hP hS => ?_)
  refine lv_lstore (lv' := [(5, .long v1), (0, .long x0), (2, .long x2), (4, .int x4)]) hx hb dX7_lowest_5 hl (by decide) rfl (fun ls hl => ?_)
  refine lv_lload hx hb dX7_lowest_7 (lv_at hl 0 rfl) ?_
  refine lv_lconst (v := (0 : Int64)) hx hb dX7_lowest_9 rfl ?_
  refine W.lcmp hx hb dX7_lowest_10 ?_
  refine lv_if_ne (tgt := 18) hx hb dX7_lowest_11 (by decide) (fun c2 => ?_) (fun c2 => ?_)
  · replace c2 := (not_congr (lg_cmp_eq _ _)).mp c2
    replace h := iq c2 h
    refine lv_iload hx hb dX7_lowest_18 (lv_at hl 3 rfl) ?_
    refine lv_if_ne (tgt := 30) hx hb dX7_lowest_20 (by decide) (fun c3 => ?_) (fun c3 => ?_)
    · replace h := iq c3 h
      refine lv_lload_n hx hb dX7_lowest_30 rfl (lv_at hl 2 rfl) ?_
      refine lv_lload hx hb dX7_lowest_31 (lv_at hl 0 rfl) ?_
      obtain ⟨c4, h⟩ := inz h
      refine lv_ldiv hx hb dX7_lowest_33 c4 ?_
      obtain rfl := Option.some.inj h
      exact ret _ _ _ _ _ dX7_lowest_34 hP hS rfl
    · replace h := ip c3 h
      refine lv_lload_n hx hb dX7_lowest_23 rfl (lv_at hl 1 rfl) ?_
      refine lv_lload hx hb dX7_lowest_24 (lv_at hl 0 rfl) ?_
      obtain ⟨c5, h⟩ := inz h
      refine lv_ldiv hx hb dX7_lowest_26 c5 ?_
      refine lv_goto (tgt := 34) hx hb dX7_lowest_27 (by decide) ?_
      obtain rfl := Option.some.inj h
      exact ret _ _ _ _ _ dX7_lowest_34 hP hS rfl
  · replace c2 := (lg_cmp_eq _ _).mp c2
    replace h := ip c2 h
    refine lv_ldc2 (v := (-1 : Int64)) hx hb hown (htb _ wKL_RX7_189) dX7_lowest_14 ?_
    obtain rfl := Option.some.inj h
    exact ret _ _ _ _ _ dX7_lowest_17 hP hS rfl
def X7_knownPart (σ : St) (x1 : Int64) (x3 : Int32) : Option (Int64) :=
  bd (X2_allWays σ ) fun v1 =>
  bd (X7_lowest  (v1 - x1) v1 x3) fun v2 =>
  some v2
abbrev rmX7_knownPart : Room := { frames := 2, cells := 0, slots := 0, locals := 56 }
set_option maxHeartbeats 4000000 in
set_option maxRecDepth 100000 in
theorem c_X7_knownPart (l : Launch) (D : va_G) (ad : Nat → Nat) (cI : ClassId) (hd : HD ad) (σ τ : St) (η : Int64) (x1 : Int64) (x3 : Int32) (rr : Int64) (h : X7_knownPart σ x1 x3 = some rr) : ML l yX7_knownPart (wy yX7_knownPart cX7_knownPart 6 (some .long)) rmX7_knownPart D ad cI [.ref (ad 0), .long x1, .int x3] σ τ η rr σ τ η := by
  refine mk_l (own := RX7) (lv := [(0, .ref (ad 0)), (1, .long x1), (3, .int x3)]) (plainFor_of_name (by decide)) rfl (Nat.le_of_ble_eq_true rfl) rfl ?_
  intro p e s m args below meth c Q ls hx hb hml hown htb hK ret hP hS hl
  unfold X7_knownPart at h
  refine lv_aload_n hx hb dX7_knownPart_0 rfl (lv_at hl 0 rfl) ?_
  refine va_get (D := D) (ci := 7) (v := .ref (ad 10)) (C := RX7) (T := TX7) (N := 11) hx hb htb wu_7 hown hK.1 hP 0 w_0 rfl 3 (by decide) (htb _ wFL_RX7_33) (fun _ h9 => h9) rfl dX7_knownPart_1 ?_
  obtain ⟨v1, g1, h⟩ := ob h
  refine c_Vl (q := (RX2, TX2, 5)) (ci := 2) (b := 10) (As := []) (rest := []) (A := AA ad) ⟨hx, hb, hml, hown, htb⟩ (c_X2_allWays l D ad cI hd σ τ η  v1 g1) (cwV 0 htb (gdV (fun _ hh => hh) wML_RX7_185 wIM_yX2_allWays wSE_yX2_allWays wI_RX2 wC_yX2_allWays) rfl rfl rfl hd_X2_allWays ⟨by decide, by decide⟩) hK hP rfl w_10 (fun _ hh => hh) hS rfl hl.1 rfl (Nat.le_of_ble_eq_true rfl) dX7_knownPart_4 ⟨Nat.le_refl 0, Nat.le_refl 0⟩ (fun H locs hP hS => ?_)
  refine lv_lstore (lv' := [(4, .long v1), (0, .ref (ad 0)), (1, .long x1), (3, .int x3)]) hx hb dX7_knownPart_7 hl (by decide) rfl (fun ls hl => ?_)
  refine lv_lload hx hb dX7_knownPart_9 (lv_at hl 0 rfl) ?_
  refine lv_lload_n hx hb dX7_knownPart_11 rfl (lv_at hl 2 rfl) ?_
  refine lv_lsub hx hb dX7_knownPart_12 ?_
  refine lv_lload hx hb dX7_knownPart_13 (lv_at hl 0 rfl) ?_
  refine lv_iload_n hx hb dX7_knownPart_15 rfl (lv_at hl 3 rfl) ?_
  obtain ⟨v2, g2, h⟩ := ob h
  refine c_Sl (As := [.long (v1 - x1), .long v1, .int x3]) (rest := []) (A := AA ad) ⟨hx, hb, hml, hown, htb⟩ (c_X7_lowest l D ad cI hd σ τ η (v1 - x1) v1 x3 v2 g2) (va_cwS 3 htb (gdS (fun _ hh => hh) wML_RX7_195 wST_yX7_lowest wI_RX7 wC_yX7_lowest) rfl rfl rfl hd_X7_lowest.2 ⟨by decide, by decide⟩) hK hP (fun _ hh => hh) hS rfl hl.1 rfl (Nat.le_of_ble_eq_true rfl) dX7_knownPart_16 ⟨Nat.le_refl 0, Nat.le_refl 0⟩ (fun H locs hP hS => ?_)
  obtain rfl := Option.some.inj h
  exact ret _ _ _ _ _ dX7_knownPart_19 hP hS rfl
def X7_known (σ : St) (x1 : Int32) : Option (Int64) :=
  lt (X7_isPart  x1) fun v1 =>
  if v1 = 0 then (
    some (-102 : Int64))
  else (
    bd (X2_silentWays σ ) fun v3 =>
    bd (X7_knownPart σ v3 x1) fun v4 =>
    some v4)
abbrev rmX7_known : Room := { frames := 3, cells := 0, slots := 0, locals := 81 }
set_option maxHeartbeats 4000000 in
set_option maxRecDepth 100000 in
theorem c_X7_known (l : Launch) (D : va_G) (ad : Nat → Nat) (cI : ClassId) (hd : HD ad) (σ τ : St) (η : Int64) (x1 : Int32) (rr : Int64) (h : X7_known σ x1 = some rr) : ML l yX7_known (wy yX7_known cX7_known 2 (some .long)) rmX7_known D ad cI [.ref (ad 0), .int x1] σ τ η rr σ τ η := by
  refine mk_l (own := RX7) (lv := [(0, .ref (ad 0)), (1, .int x1)]) (plainFor_of_name (by decide)) rfl (Nat.le_of_ble_eq_true rfl) rfl ?_
  intro p e s m args below meth c Q ls hx hb hml hown htb hK ret hP hS hl
  unfold X7_known at h
  refine lv_iload_n hx hb dX7_known_0 rfl (lv_at hl 1 rfl) ?_
  obtain ⟨v1, g1, h⟩ := ol h
  refine c_Sz (As := [.int x1]) (rest := []) (A := AA ad) ⟨hx, hb, hml, hown, htb⟩ (c_X7_isPart l D ad cI hd σ τ η x1 v1 g1) (va_cwS 1 htb (gdS (fun _ hh => hh) wML_RX7_170 wST_yX7_isPart wI_RX7 wC_yX7_isPart) rfl rfl rfl hd_X7_isPart.2 ⟨by decide, by decide⟩) hK hP (fun _ hh => hh) hS rfl hl.1 rfl (Nat.le_of_ble_eq_true rfl) dX7_known_1 ⟨Nat.le_refl 0, Nat.le_refl 0⟩ (fun H locs hz1 hP hS => ?_)
  refine lv_if_ne (tgt := 11) hx hb dX7_known_4 (by decide) (fun c2 => ?_) (fun c2 => ?_)
  · replace h := iq c2 h
    refine lv_aload_n hx hb dX7_known_11 rfl (lv_at hl 0 rfl) ?_
    refine lv_aload_n hx hb dX7_known_12 rfl (lv_at hl 0 rfl) ?_
    refine va_get (D := D) (ci := 7) (v := .ref (ad 10)) (C := RX7) (T := TX7) (N := 11) hx hb htb wu_7 hown hK.1 hP 0 w_0 rfl 3 (by decide) (htb _ wFL_RX7_33) (fun _ h9 => h9) rfl dX7_known_13 ?_
    refine lv_aload_n hx hb dX7_known_16 rfl (lv_at hl 0 rfl) ?_
    refine va_get (D := D) (ci := 7) (v := .ref (ad 6)) (C := RX7) (T := TX7) (N := 11) hx hb htb wu_7 hown hK.1 hP 0 w_0 rfl 1 (by decide) (htb _ wFL_RX7_19) (fun _ h9 => h9) rfl dX7_known_17 ?_
    obtain ⟨v3, g3, h⟩ := ob h
    refine c_Vl (q := (RX2, TX2, 5)) (ci := 2) (b := 10) (As := [.ref (ad 6)]) (rest := [.ref (ad 0)]) (A := AA ad) ⟨hx, hb, hml, hown, htb⟩ (c_X2_silentWays l D ad cI hd σ τ η  v3 g3) (cwV 1 htb (gdV (fun _ hh => hh) wML_RX7_175 wIM_yX2_silentWays wSE_yX2_silentWays wI_RX2 wC_yX2_silentWays) rfl rfl rfl hd_X2_silentWays ⟨by decide, by decide⟩) hK hP rfl w_10 (fun _ hh => hh) hS rfl hl.1 rfl (Nat.le_of_ble_eq_true rfl) dX7_known_20 ⟨Nat.le_refl 0, Nat.le_refl 0⟩ (fun H locs hP hS => ?_)
    refine lv_iload_n hx hb dX7_known_23 rfl (lv_at hl 1 rfl) ?_
    obtain ⟨v4, g4, h⟩ := ob h
    refine c_Vl (q := (RX7, TX7, 11)) (ci := 7) (b := 0) (As := [.long v3, .int x1]) (rest := []) (A := AA ad) ⟨hx, hb, hml, hown, htb⟩ (c_X7_knownPart l D ad cI hd σ τ η v3 x1 v4 g4) (cwV 2 htb (gdV (fun _ hh => hh) wML_RX7_179 wIM_yX7_knownPart wSE_yX7_knownPart wI_RX7 wC_yX7_knownPart) rfl rfl rfl hd_X7_knownPart ⟨by decide, by decide⟩) hK hP rfl w_0 (fun _ hh => hh) hS rfl hl.1 rfl (Nat.le_of_ble_eq_true rfl) dX7_known_24 ⟨Nat.le_refl 0, Nat.le_refl 0⟩ (fun H locs hP hS => ?_)
    obtain rfl := Option.some.inj h
    exact ret _ _ _ _ _ dX7_known_27 hP hS rfl
  · replace h := ip c2 h
    refine lv_ldc2 (v := (-102 : Int64)) hx hb hown (htb _ wKL_RX7_173) dX7_known_7 ?_
    obtain rfl := Option.some.inj h
    exact ret _ _ _ _ _ dX7_known_10 hP hS rfl
def X8_isPart  (x0 : Int32) : Int32 :=
  lt (X8_in  ((x0).toInt64) (0 : Int64) (1 : Int64)) fun v1 =>
  v1
abbrev rmX8_isPart : Room := { frames := 1, cells := 0, slots := 0, locals := 25 }
set_option maxHeartbeats 4000000 in
set_option maxRecDepth 100000 in
theorem c_X8_isPart (l : Launch) (D : va_G) (ad : Nat → Nat) (cI : ClassId) (hd : HD ad) (σ τ : St) (η : Int64) (x0 : Int32) (rr : Int32) (h : X8_isPart  x0 = rr) : MZ l yX8_isPart (wy yX8_isPart cX8_isPart 1 (some .boolean)) rmX8_isPart D ad cI [.int x0] σ τ η rr σ τ η := by
  refine mk_z (own := RX8) (lv := [(0, .int x0)]) (plainFor_of_name (by decide)) rfl (Nat.le_of_ble_eq_true rfl) rfl ?_
  intro p e s m args below meth c Q ls hx hb hml hown htb hK ret hP hS hl
  unfold X8_isPart at h
  refine lv_iload_n hx hb dX8_isPart_0 rfl (lv_at hl 0 rfl) ?_
  refine lv_i2l (v := ((x0).toInt64)) hx hb dX8_isPart_1 rfl ?_
  refine lv_lconst (v := (0 : Int64)) hx hb dX8_isPart_2 rfl ?_
  refine lv_lconst (v := (1 : Int64)) hx hb dX8_isPart_3 rfl ?_
  obtain ⟨v1, g1, h⟩ := ol h
  refine c_Sz (As := [.long ((x0).toInt64), .long (0 : Int64), .long (1 : Int64)]) (rest := []) (A := AA ad) ⟨hx, hb, hml, hown, htb⟩ (c_X8_in l D ad cI hd σ τ η ((x0).toInt64) (0 : Int64) (1 : Int64) v1 g1) (va_cwS 3 htb (gdS (fun _ hh => hh) wML_RX8_65 wST_yX8_in wI_RX8 wC_yX8_in) rfl rfl rfl hd_X8_in.2 ⟨by decide, by decide⟩) hK hP (fun _ hh => hh) hS rfl hl.1 rfl (Nat.le_of_ble_eq_true rfl) dX8_isPart_4 ⟨Nat.le_refl 0, Nat.le_refl 0⟩ (fun H locs hz1 hP hS => ?_)
  subst h
  exact ret _ _ _ _ _ dX8_isPart_7 hP hS rfl (by first | exact Or.inl rfl | exact Or.inr rfl | assumption)
def X8_whole_L1 (n : Nat) (τ_1 : St) (y1_1 : Int64) (y1_3 : Int32) : Option (Int64 × Int32) := match n with
  | 0 => none
  | n + 1 =>
    if (τ_1 29 8) ≤ y1_3 then (
      some (y1_1, y1_3))
    else (
      X8_whole_L1 n τ_1 (y1_1 * (10 : Int64)) (y1_3 + (1 : Int32)))
theorem X8_whole_L1_s (n : Nat) (τ_1 : St) (y1_1 : Int64) (y1_3 : Int32) : X8_whole_L1 (n + 1) τ_1 y1_1 y1_3 =
    if (τ_1 29 8) ≤ y1_3 then (
      some (y1_1, y1_3))
    else (
      X8_whole_L1 n τ_1 (y1_1 * (10 : Int64)) (y1_3 + (1 : Int32))) := rfl
def X8_whole (τ : St)  : Option (Int64) :=
  bd (X8_whole_L1 10000 τ (1 : Int64) (0 : Int32)) fun v1 =>
  some v1.1
abbrev rmX8_whole : Room := { frames := 0, cells := 0, slots := 0, locals := 0 }
set_option maxHeartbeats 4000000 in
set_option maxRecDepth 100000 in
theorem c_X8_whole (l : Launch) (D : va_G) (ad : Nat → Nat) (cI : ClassId) (hd : HD ad) (σ τ : St) (η : Int64)  (rr : Int64) (h : X8_whole τ  = some rr) : ML l yX8_whole (wy yX8_whole cX8_whole 4 (some .long)) rmX8_whole D ad cI [.ref (ad 29)] σ τ η rr σ τ η := by
  refine mk_l (own := RX8) (lv := [(0, .ref (ad 29))]) (plainFor_of_name (by decide)) rfl (Nat.le_of_ble_eq_true rfl) rfl ?_
  intro p e s m args below meth c Q ls hx hb hml hown htb hK ret hP hS hl
  unfold X8_whole at h
  refine lv_lconst (v := (1 : Int64)) hx hb dX8_whole_0 rfl ?_
  refine lv_lstore_n (lv' := [(1, .long (1 : Int64)), (0, .ref (ad 29))]) hx hb dX8_whole_1 rfl hl (by decide) rfl (fun ls hl => ?_)
  refine lv_iconst (v := (0 : Int32)) hx hb dX8_whole_2 (by decide) ?_
  refine lv_istore_n (lv' := [(3, .int (0 : Int32)), (1, .long (1 : Int64)), (0, .ref (ad 29))]) hx hb dX8_whole_3 rfl hl (by decide) rfl (fun ls hl => ?_)
  obtain ⟨v1, hj1, h⟩ := ob h
  have K1 : ∀ (H : Heap) (locs : List Loc) (ls : Array Slot), WP D ad cI σ τ η H → va_S (AA ad) s.heap H locs → lv_has ls 4 [(1, .long v1.1)] → W p l e rmX8_whole s m args below meth c H locs 0 0 Q (F0 m 24 ls []) := by
    intro H locs ls hP hS hl
    refine lv_lload_n hx hb dX8_whole_24 rfl (lv_at hl 0 rfl) ?_
    obtain rfl := Option.some.inj h
    exact ret _ _ _ _ _ dX8_whole_25 hP hS rfl
  have L1 : ∀ (n : Nat) (y1_1 : Int64) (y1_3 : Int32) (H : Heap) (locs : List Loc) (ls : Array Slot), X8_whole_L1 n τ y1_1 y1_3 = some v1 → WP D ad cI σ τ η H → va_S (AA ad) s.heap H locs → lv_has ls 4 [(0, .ref (ad 29)), (1, .long y1_1), (3, .int y1_3)] → W p l e rmX8_whole s m args below meth c H locs 0 0 Q (F0 m 4 ls []) := by
    intro n
    induction n with
    | zero => intro y1_1 y1_3 H locs ls h; exact absurd h (by simp [X8_whole_L1])
    | succ n ih =>
      intro y1_1 y1_3 H locs ls h hP hS hl
      replace h := (X8_whole_L1_s n τ y1_1 y1_3).symm.trans h
      refine lv_iload_n hx hb dX8_whole_4 rfl (lv_at hl 2 rfl) ?_
      refine lv_aload_n hx hb dX8_whole_5 rfl (lv_at hl 0 rfl) ?_
      refine va_get (D := D) (ci := 8) (v := .int (τ 29 8)) (C := RX8) (T := TX8) (N := 27) hx hb htb wu_8 hown hK.1 hP 29 w_29 rfl 8 (by decide) (htb _ wFL_RX8_109) (fun _ h9 => h9) rfl dX8_whole_6 ?_
      refine lv_icmp_ge (tgt := 24) hx hb dX8_whole_9 (by decide) (fun c2 => ?_) (fun c2 => ?_)
      · replace h := ip c2 h
        obtain rfl := Option.some.inj h
        exact K1 _ _ _ hP hS (lv_sub hl [1] rfl)
      · replace h := iq c2 h
        refine lv_lload_n hx hb dX8_whole_12 rfl (lv_at hl 1 rfl) ?_
        refine lv_ldc2 (v := (10 : Int64)) hx hb hown (htb _ wKL_RX8_124) dX8_whole_13 ?_
        refine lv_lmul hx hb dX8_whole_16 ?_
        refine lv_lstore_n (lv' := [(1, .long (y1_1 * (10 : Int64))), (0, .ref (ad 29)), (3, .int y1_3)]) hx hb dX8_whole_17 rfl hl (by decide) rfl (fun ls hl => ?_)
        refine lv_iinc (v := (y1_3 + (1 : Int32))) (lv' := [(3, .int (y1_3 + (1 : Int32))), (1, .long (y1_1 * (10 : Int64))), (0, .ref (ad 29))]) hx hb dX8_whole_18 hl (k := 2) rfl rfl (by decide) rfl (fun ls hl => ?_)
        refine lv_goto (tgt := 4) hx hb dX8_whole_21 (by decide) ?_
        exact ih (y1_1 * (10 : Int64)) (y1_3 + (1 : Int32)) _ _ _ h hP hS (lv_sub hl [2, 1, 0] rfl)
  exact L1 10000 (1 : Int64) (0 : Int32) _ _ _ hj1 hP hS (lv_sub hl [2, 1, 0] rfl)
def X8_silent_L1 (n : Nat) (τ_1 : St) (y1_1 : Int64) (y1_3 : Int32) : Option (Int64 × Int32) := match n with
  | 0 => none
  | n + 1 =>
    if (τ_1 29 8) ≤ y1_3 then (
      some (y1_1, y1_3))
    else (
      bd (X8_slips τ_1 y1_3) fun v3 =>
      X8_silent_L1 n τ_1 (y1_1 * ((((10 : Int32) - v3)).toInt64)) (y1_3 + (1 : Int32)))
theorem X8_silent_L1_s (n : Nat) (τ_1 : St) (y1_1 : Int64) (y1_3 : Int32) : X8_silent_L1 (n + 1) τ_1 y1_1 y1_3 =
    if (τ_1 29 8) ≤ y1_3 then (
      some (y1_1, y1_3))
    else (
      bd (X8_slips τ_1 y1_3) fun v3 =>
      X8_silent_L1 n τ_1 (y1_1 * ((((10 : Int32) - v3)).toInt64)) (y1_3 + (1 : Int32))) := rfl
def X8_silent (τ : St)  : Option (Int64) :=
  bd (X8_silent_L1 10000 τ (1 : Int64) (0 : Int32)) fun v1 =>
  some v1.1
abbrev rmX8_silent : Room := { frames := 1, cells := 0, slots := 0, locals := 23 }
set_option maxHeartbeats 4000000 in
set_option maxRecDepth 100000 in
theorem c_X8_silent (l : Launch) (D : va_G) (ad : Nat → Nat) (cI : ClassId) (hd : HD ad) (σ τ : St) (η : Int64)  (rr : Int64) (h : X8_silent τ  = some rr) : ML l yX8_silent (wy yX8_silent cX8_silent 4 (some .long)) rmX8_silent D ad cI [.ref (ad 29)] σ τ η rr σ τ η := by
  refine mk_l (own := RX8) (lv := [(0, .ref (ad 29))]) (plainFor_of_name (by decide)) rfl (Nat.le_of_ble_eq_true rfl) rfl ?_
  intro p e s m args below meth c Q ls hx hb hml hown htb hK ret hP hS hl
  unfold X8_silent at h
  refine lv_lconst (v := (1 : Int64)) hx hb dX8_silent_0 rfl ?_
  refine lv_lstore_n (lv' := [(1, .long (1 : Int64)), (0, .ref (ad 29))]) hx hb dX8_silent_1 rfl hl (by decide) rfl (fun ls hl => ?_)
  refine lv_iconst (v := (0 : Int32)) hx hb dX8_silent_2 (by decide) ?_
  refine lv_istore_n (lv' := [(3, .int (0 : Int32)), (1, .long (1 : Int64)), (0, .ref (ad 29))]) hx hb dX8_silent_3 rfl hl (by decide) rfl (fun ls hl => ?_)
  obtain ⟨v1, hj1, h⟩ := ob h
  have K1 : ∀ (H : Heap) (locs : List Loc) (ls : Array Slot), WP D ad cI σ τ η H → va_S (AA ad) s.heap H locs → lv_has ls 4 [(1, .long v1.1)] → W p l e rmX8_silent s m args below meth c H locs 0 0 Q (F0 m 30 ls []) := by
    intro H locs ls hP hS hl
    refine lv_lload_n hx hb dX8_silent_30 rfl (lv_at hl 0 rfl) ?_
    obtain rfl := Option.some.inj h
    exact ret _ _ _ _ _ dX8_silent_31 hP hS rfl
  have L1 : ∀ (n : Nat) (y1_1 : Int64) (y1_3 : Int32) (H : Heap) (locs : List Loc) (ls : Array Slot), X8_silent_L1 n τ y1_1 y1_3 = some v1 → WP D ad cI σ τ η H → va_S (AA ad) s.heap H locs → lv_has ls 4 [(0, .ref (ad 29)), (1, .long y1_1), (3, .int y1_3)] → W p l e rmX8_silent s m args below meth c H locs 0 0 Q (F0 m 4 ls []) := by
    intro n
    induction n with
    | zero => intro y1_1 y1_3 H locs ls h; exact absurd h (by simp [X8_silent_L1])
    | succ n ih =>
      intro y1_1 y1_3 H locs ls h hP hS hl
      replace h := (X8_silent_L1_s n τ y1_1 y1_3).symm.trans h
      refine lv_iload_n hx hb dX8_silent_4 rfl (lv_at hl 2 rfl) ?_
      refine lv_aload_n hx hb dX8_silent_5 rfl (lv_at hl 0 rfl) ?_
      refine va_get (D := D) (ci := 8) (v := .int (τ 29 8)) (C := RX8) (T := TX8) (N := 27) hx hb htb wu_8 hown hK.1 hP 29 w_29 rfl 8 (by decide) (htb _ wFL_RX8_109) (fun _ h9 => h9) rfl dX8_silent_6 ?_
      refine lv_icmp_ge (tgt := 30) hx hb dX8_silent_9 (by decide) (fun c2 => ?_) (fun c2 => ?_)
      · replace h := ip c2 h
        obtain rfl := Option.some.inj h
        exact K1 _ _ _ hP hS (lv_sub hl [1] rfl)
      · replace h := iq c2 h
        refine lv_lload_n hx hb dX8_silent_12 rfl (lv_at hl 1 rfl) ?_
        refine lv_bipush (v := (10 : Int32)) hx hb dX8_silent_13 (by decide) ?_
        refine lv_aload_n hx hb dX8_silent_15 rfl (lv_at hl 0 rfl) ?_
        refine lv_iload_n hx hb dX8_silent_16 rfl (lv_at hl 2 rfl) ?_
        obtain ⟨v3, g3, h⟩ := ob h
        refine c_Vi (q := (RX8, TX8, 27)) (ci := 8) (b := 29) (As := [.int y1_3]) (rest := [.int (10 : Int32), .long y1_1]) (A := AA ad) ⟨hx, hb, hml, hown, htb⟩ (c_X8_slips l D ad cI hd σ τ η y1_3 v3 g3) (cwV 1 htb (gdV (fun _ hh => hh) wML_RX8_115 wIM_yX8_slips wSE_yX8_slips wI_RX8 wC_yX8_slips) rfl rfl rfl hd_X8_slips ⟨by decide, by decide⟩) hK hP rfl w_29 (fun _ hh => hh) hS rfl hl.1 rfl (Nat.le_of_ble_eq_true rfl) dX8_silent_17 ⟨Nat.le_refl 0, Nat.le_refl 0⟩ (fun H locs hP hS => ?_)
        refine lv_isub hx hb dX8_silent_20 ?_
        refine lv_i2l (v := ((((10 : Int32) - v3)).toInt64)) hx hb dX8_silent_21 rfl ?_
        refine lv_lmul hx hb dX8_silent_22 ?_
        refine lv_lstore_n (lv' := [(1, .long (y1_1 * ((((10 : Int32) - v3)).toInt64))), (0, .ref (ad 29)), (3, .int y1_3)]) hx hb dX8_silent_23 rfl hl (by decide) rfl (fun ls hl => ?_)
        refine lv_iinc (v := (y1_3 + (1 : Int32))) (lv' := [(3, .int (y1_3 + (1 : Int32))), (1, .long (y1_1 * ((((10 : Int32) - v3)).toInt64))), (0, .ref (ad 29))]) hx hb dX8_silent_24 hl (k := 2) rfl rfl (by decide) rfl (fun ls hl => ?_)
        refine lv_goto (tgt := 4) hx hb dX8_silent_27 (by decide) ?_
        exact ih (y1_1 * ((((10 : Int32) - v3)).toInt64)) (y1_3 + (1 : Int32)) _ _ _ h hP hS (lv_sub hl [2, 1, 0] rfl)
  exact L1 10000 (1 : Int64) (0 : Int32) _ _ _ hj1 hP hS (lv_sub hl [2, 1, 0] rfl)
def X8_term_L1 (n : Nat) (u1_0 : Int64) (u1_2 : Int64) (u1_4 : Int32) (y1_5 : Int64) (y1_7 : Int64) : Option (Int64 × Int64) := match n with
  | 0 => none
  | n + 1 =>
    if y1_5 = (0 : Int64) then (
      some (y1_5, y1_7))
    else (
      if y1_5 = 0 then none else
      X8_term_L1 n u1_0 u1_2 u1_4 (lrem y1_7 y1_5) y1_5)
theorem X8_term_L1_s (n : Nat) (u1_0 : Int64) (u1_2 : Int64) (u1_4 : Int32) (y1_5 : Int64) (y1_7 : Int64) : X8_term_L1 (n + 1) u1_0 u1_2 u1_4 y1_5 y1_7 =
    if y1_5 = (0 : Int64) then (
      some (y1_5, y1_7))
    else (
      if y1_5 = 0 then none else
      X8_term_L1 n u1_0 u1_2 u1_4 (lrem y1_7 y1_5) y1_5) := rfl
def X8_term  (x0 : Int64) (x2 : Int64) (x4 : Int32) : Option (Int64) :=
  bd (X8_term_L1 10000 x0 x2 x4 x0 x2) fun v1 =>
  if x4 = 0 then (
    if v1.2 = 0 then none else
    some (x0 / v1.2))
  else (
    if v1.2 = 0 then none else
    some (x2 / v1.2))
abbrev rmX8_term : Room := { frames := 0, cells := 0, slots := 0, locals := 0 }
set_option maxHeartbeats 4000000 in
set_option maxRecDepth 100000 in
theorem c_X8_term (l : Launch) (D : va_G) (ad : Nat → Nat) (cI : ClassId) (hd : HD ad) (σ τ : St) (η : Int64) (x0 : Int64) (x2 : Int64) (x4 : Int32) (rr : Int64) (h : X8_term  x0 x2 x4 = some rr) : ML l yX8_term (wy yX8_term cX8_term 11 (some .long)) rmX8_term D ad cI [.long x0, .long x2, .int x4] σ τ η rr σ τ η := by
  refine mk_l (own := RX8) (lv := [(0, .long x0), (2, .long x2), (4, .int x4)]) (plainFor_of_name (by decide)) rfl (Nat.le_of_ble_eq_true rfl) rfl ?_
  intro p e s m args below meth c Q ls hx hb hml hown htb hK ret hP hS hl
  unfold X8_term at h
  refine lv_lload_n hx hb dX8_term_0 rfl (lv_at hl 0 rfl) ?_
  refine lv_lstore (lv' := [(5, .long x0), (0, .long x0), (2, .long x2), (4, .int x4)]) hx hb dX8_term_1 hl (by decide) rfl (fun ls hl => ?_)
  refine lv_lload_n hx hb dX8_term_3 rfl (lv_at hl 2 rfl) ?_
  refine lv_lstore (lv' := [(7, .long x2), (5, .long x0), (0, .long x0), (2, .long x2), (4, .int x4)]) hx hb dX8_term_4 hl (by decide) rfl (fun ls hl => ?_)
  obtain ⟨v1, hj1, h⟩ := ob h
  have K1 : ∀ (H : Heap) (locs : List Loc) (ls : Array Slot), WP D ad cI σ τ η H → va_S (AA ad) s.heap H locs → lv_has ls 11 [(0, .long x0), (2, .long x2), (4, .int x4), (7, .long v1.2)] → W p l e rmX8_term s m args below meth c H locs 0 0 Q (F0 m 31 ls []) := by
    intro H locs ls hP hS hl
    refine lv_iload hx hb dX8_term_31 (lv_at hl 2 rfl) ?_
    refine lv_if_ne (tgt := 43) hx hb dX8_term_33 (by decide) (fun c4 => ?_) (fun c4 => ?_)
    · replace h := iq c4 h
      refine lv_lload_n hx hb dX8_term_43 rfl (lv_at hl 1 rfl) ?_
      refine lv_lload hx hb dX8_term_44 (lv_at hl 3 rfl) ?_
      obtain ⟨c5, h⟩ := inz h
      refine lv_ldiv hx hb dX8_term_46 c5 ?_
      obtain rfl := Option.some.inj h
      exact ret _ _ _ _ _ dX8_term_47 hP hS rfl
    · replace h := ip c4 h
      refine lv_lload_n hx hb dX8_term_36 rfl (lv_at hl 0 rfl) ?_
      refine lv_lload hx hb dX8_term_37 (lv_at hl 3 rfl) ?_
      obtain ⟨c6, h⟩ := inz h
      refine lv_ldiv hx hb dX8_term_39 c6 ?_
      refine lv_goto (tgt := 47) hx hb dX8_term_40 (by decide) ?_
      obtain rfl := Option.some.inj h
      exact ret _ _ _ _ _ dX8_term_47 hP hS rfl
  have L1 : ∀ (n : Nat) (y1_5 : Int64) (y1_7 : Int64) (H : Heap) (locs : List Loc) (ls : Array Slot), X8_term_L1 n x0 x2 x4 y1_5 y1_7 = some v1 → WP D ad cI σ τ η H → va_S (AA ad) s.heap H locs → lv_has ls 11 [(0, .long x0), (2, .long x2), (4, .int x4), (5, .long y1_5), (7, .long y1_7)] → W p l e rmX8_term s m args below meth c H locs 0 0 Q (F0 m 6 ls []) := by
    intro n
    induction n with
    | zero => intro y1_5 y1_7 H locs ls h; exact absurd h (by simp [X8_term_L1])
    | succ n ih =>
      intro y1_5 y1_7 H locs ls h hP hS hl
      replace h := (X8_term_L1_s n x0 x2 x4 y1_5 y1_7).symm.trans h
      refine lv_lload hx hb dX8_term_6 (lv_at hl 3 rfl) ?_
      refine lv_lconst (v := (0 : Int64)) hx hb dX8_term_8 rfl ?_
      refine W.lcmp hx hb dX8_term_9 ?_
      refine lv_if_eq (tgt := 31) hx hb dX8_term_10 (by decide) (fun c2 => ?_) (fun c2 => ?_)
      · replace c2 := (lg_cmp_eq _ _).mp c2
        replace h := ip c2 h
        obtain rfl := Option.some.inj h
        exact K1 _ _ _ hP hS (lv_sub hl [0, 1, 2, 4] rfl)
      · replace c2 := (not_congr (lg_cmp_eq _ _)).mp c2
        replace h := iq c2 h
        refine lv_lload hx hb dX8_term_13 (lv_at hl 4 rfl) ?_
        refine lv_lload hx hb dX8_term_15 (lv_at hl 3 rfl) ?_
        obtain ⟨c3, h⟩ := inz h
        refine lv_lrem hx hb dX8_term_17 c3 ?_
        refine lv_lstore (lv' := [(9, .long (lrem y1_7 y1_5)), (0, .long x0), (2, .long x2), (4, .int x4), (5, .long y1_5), (7, .long y1_7)]) hx hb dX8_term_18 hl (by decide) rfl (fun ls hl => ?_)
        refine lv_lload hx hb dX8_term_20 (lv_at hl 4 rfl) ?_
        refine lv_lstore (lv' := [(7, .long y1_5), (9, .long (lrem y1_7 y1_5)), (0, .long x0), (2, .long x2), (4, .int x4), (5, .long y1_5)]) hx hb dX8_term_22 hl (by decide) rfl (fun ls hl => ?_)
        refine lv_lload hx hb dX8_term_24 (lv_at hl 1 rfl) ?_
        refine lv_lstore (lv' := [(5, .long (lrem y1_7 y1_5)), (7, .long y1_5), (9, .long (lrem y1_7 y1_5)), (0, .long x0), (2, .long x2), (4, .int x4)]) hx hb dX8_term_26 hl (by decide) rfl (fun ls hl => ?_)
        refine lv_goto (tgt := 6) hx hb dX8_term_28 (by decide) ?_
        exact ih (lrem y1_7 y1_5) y1_5 _ _ _ h hP hS (lv_sub hl [3, 4, 5, 0, 1] rfl)
  exact L1 10000 x0 x2 _ _ _ hj1 hP hS (lv_sub hl [2, 3, 4, 1, 0] rfl)
def X8_tellKnown (τ : St) (x1 : Int32) : Option (Int64 × St) :=
  bd (X8_reckon τ ) fun v1 =>
  bd (X8_whole v1 ) fun v2 =>
  bd (X8_silent v1 ) fun v3 =>
  bd (X8_whole v1 ) fun v4 =>
  bd (X8_term  (v2 - v3) v4 x1) fun v5 =>
  some (v5, v1)
abbrev rmX8_tellKnown : Room := { frames := 3, cells := 0, slots := 0, locals := 68 }
set_option maxHeartbeats 4000000 in
set_option maxRecDepth 100000 in
theorem c_X8_tellKnown (l : Launch) (D : va_G) (ad : Nat → Nat) (cI : ClassId) (hd : HD ad) (σ τ : St) (η : Int64) (x1 : Int32) (rr : Int64 × St) (h : X8_tellKnown τ x1 = some rr) : ML l yX8_tellKnown (wy yX8_tellKnown cX8_tellKnown 2 (some .long)) rmX8_tellKnown D ad cI [.ref (ad 29), .int x1] σ τ η rr.1 σ rr.2 η := by
  refine mk_l (own := RX8) (lv := [(0, .ref (ad 29)), (1, .int x1)]) (plainFor_of_name (by decide)) rfl (Nat.le_of_ble_eq_true rfl) rfl ?_
  intro p e s m args below meth c Q ls hx hb hml hown htb hK ret hP hS hl
  unfold X8_tellKnown at h
  refine lv_aload_n hx hb dX8_tellKnown_0 rfl (lv_at hl 0 rfl) ?_
  obtain ⟨v1, g1, h⟩ := ob h
  refine c_Vv (q := (RX8, TX8, 27)) (ci := 8) (b := 29) (As := []) (rest := []) (A := AA ad) ⟨hx, hb, hml, hown, htb⟩ (c_X8_reckon l D ad cI hd σ τ η  v1 g1) (cwV 0 htb (gdV (fun _ hh => hh) wML_RX8_85 wIM_yX8_reckon wSE_yX8_reckon wI_RX8 wC_yX8_reckon) rfl rfl rfl hd_X8_reckon ⟨by decide, by decide⟩) hK hP rfl w_29 (fun _ hh => hh) hS rfl hl.1 rfl (Nat.le_of_ble_eq_true rfl) dX8_tellKnown_1 ⟨Nat.le_refl 0, Nat.le_refl 0⟩ (fun H locs hP hS => ?_)
  refine lv_aload_n hx hb dX8_tellKnown_4 rfl (lv_at hl 0 rfl) ?_
  obtain ⟨v2, g2, h⟩ := ob h
  refine c_Vl (q := (RX8, TX8, 27)) (ci := 8) (b := 29) (As := []) (rest := []) (A := AA ad) ⟨hx, hb, hml, hown, htb⟩ (c_X8_whole l D ad cI hd σ v1 η  v2 g2) (cwV 0 htb (gdV (fun _ hh => hh) wML_RX8_126 wIM_yX8_whole wSE_yX8_whole wI_RX8 wC_yX8_whole) rfl rfl rfl hd_X8_whole ⟨by decide, by decide⟩) hK hP rfl w_29 (fun _ hh => hh) hS rfl hl.1 rfl (Nat.le_of_ble_eq_true rfl) dX8_tellKnown_5 ⟨Nat.le_refl 0, Nat.le_refl 0⟩ (fun H locs hP hS => ?_)
  refine lv_aload_n hx hb dX8_tellKnown_8 rfl (lv_at hl 0 rfl) ?_
  obtain ⟨v3, g3, h⟩ := ob h
  refine c_Vl (q := (RX8, TX8, 27)) (ci := 8) (b := 29) (As := []) (rest := [.long v2]) (A := AA ad) ⟨hx, hb, hml, hown, htb⟩ (c_X8_silent l D ad cI hd σ v1 η  v3 g3) (cwV 0 htb (gdV (fun _ hh => hh) wML_RX8_130 wIM_yX8_silent wSE_yX8_silent wI_RX8 wC_yX8_silent) rfl rfl rfl hd_X8_silent ⟨by decide, by decide⟩) hK hP rfl w_29 (fun _ hh => hh) hS rfl hl.1 rfl (Nat.le_of_ble_eq_true rfl) dX8_tellKnown_9 ⟨Nat.le_refl 0, Nat.le_refl 0⟩ (fun H locs hP hS => ?_)
  refine lv_lsub hx hb dX8_tellKnown_12 ?_
  refine lv_aload_n hx hb dX8_tellKnown_13 rfl (lv_at hl 0 rfl) ?_
  obtain ⟨v4, g4, h⟩ := ob h
  refine c_Vl (q := (RX8, TX8, 27)) (ci := 8) (b := 29) (As := []) (rest := [.long (v2 - v3)]) (A := AA ad) ⟨hx, hb, hml, hown, htb⟩ (c_X8_whole l D ad cI hd σ v1 η  v4 g4) (cwV 0 htb (gdV (fun _ hh => hh) wML_RX8_126 wIM_yX8_whole wSE_yX8_whole wI_RX8 wC_yX8_whole) rfl rfl rfl hd_X8_whole ⟨by decide, by decide⟩) hK hP rfl w_29 (fun _ hh => hh) hS rfl hl.1 rfl (Nat.le_of_ble_eq_true rfl) dX8_tellKnown_14 ⟨Nat.le_refl 0, Nat.le_refl 0⟩ (fun H locs hP hS => ?_)
  refine lv_iload_n hx hb dX8_tellKnown_17 rfl (lv_at hl 1 rfl) ?_
  obtain ⟨v5, g5, h⟩ := ob h
  refine c_Sl (As := [.long (v2 - v3), .long v4, .int x1]) (rest := []) (A := AA ad) ⟨hx, hb, hml, hown, htb⟩ (c_X8_term l D ad cI hd σ v1 η (v2 - v3) v4 x1 v5 g5) (va_cwS 3 htb (gdS (fun _ hh => hh) wML_RX8_133 wST_yX8_term wI_RX8 wC_yX8_term) rfl rfl rfl hd_X8_term.2 ⟨by decide, by decide⟩) hK hP (fun _ hh => hh) hS rfl hl.1 rfl (Nat.le_of_ble_eq_true rfl) dX8_tellKnown_18 ⟨Nat.le_refl 0, Nat.le_refl 0⟩ (fun H locs hP hS => ?_)
  obtain rfl := Option.some.inj h
  exact ret _ _ _ _ _ dX8_tellKnown_21 hP hS rfl
def X8_known (τ : St) (x1 : Int32) : Option (Int64 × St) :=
  lt (X8_isPart  x1) fun v1 =>
  if v1 = 0 then (
    some ((-102 : Int64), τ))
  else (
    bd (X8_tellKnown τ x1) fun v3 =>
    some (v3.1, v3.2))
abbrev rmX8_known : Room := { frames := 4, cells := 0, slots := 0, locals := 89 }
set_option maxHeartbeats 4000000 in
set_option maxRecDepth 100000 in
theorem c_X8_known (l : Launch) (D : va_G) (ad : Nat → Nat) (cI : ClassId) (hd : HD ad) (σ τ : St) (η : Int64) (x1 : Int32) (rr : Int64 × St) (h : X8_known τ x1 = some rr) : ML l yX8_known (wy yX8_known cX8_known 2 (some .long)) rmX8_known D ad cI [.ref (ad 29), .int x1] σ τ η rr.1 σ rr.2 η := by
  refine mk_l (own := RX8) (lv := [(0, .ref (ad 29)), (1, .int x1)]) (plainFor_of_name (by decide)) rfl (Nat.le_of_ble_eq_true rfl) rfl ?_
  intro p e s m args below meth c Q ls hx hb hml hown htb hK ret hP hS hl
  unfold X8_known at h
  refine lv_iload_n hx hb dX8_known_0 rfl (lv_at hl 1 rfl) ?_
  obtain ⟨v1, g1, h⟩ := ol h
  refine c_Sz (As := [.int x1]) (rest := []) (A := AA ad) ⟨hx, hb, hml, hown, htb⟩ (c_X8_isPart l D ad cI hd σ τ η x1 v1 g1) (va_cwS 1 htb (gdS (fun _ hh => hh) wML_RX8_137 wST_yX8_isPart wI_RX8 wC_yX8_isPart) rfl rfl rfl hd_X8_isPart.2 ⟨by decide, by decide⟩) hK hP (fun _ hh => hh) hS rfl hl.1 rfl (Nat.le_of_ble_eq_true rfl) dX8_known_1 ⟨Nat.le_refl 0, Nat.le_refl 0⟩ (fun H locs hz1 hP hS => ?_)
  refine lv_if_eq (tgt := 15) hx hb dX8_known_4 (by decide) (fun c2 => ?_) (fun c2 => ?_)
  · replace h := ip c2 h
    refine lv_ldc2 (v := (-102 : Int64)) hx hb hown (htb _ wKL_RX8_144) dX8_known_15 ?_
    obtain rfl := Option.some.inj h
    exact ret _ _ _ _ _ dX8_known_18 hP hS rfl
  · replace h := iq c2 h
    refine lv_aload_n hx hb dX8_known_7 rfl (lv_at hl 0 rfl) ?_
    refine lv_iload_n hx hb dX8_known_8 rfl (lv_at hl 1 rfl) ?_
    obtain ⟨v3, g3, h⟩ := ob h
    refine c_Vl (q := (RX8, TX8, 27)) (ci := 8) (b := 29) (As := [.int x1]) (rest := []) (A := AA ad) ⟨hx, hb, hml, hown, htb⟩ (c_X8_tellKnown l D ad cI hd σ τ η x1 v3 g3) (cwV 1 htb (gdV (fun _ hh => hh) wML_RX8_140 wIM_yX8_tellKnown wSE_yX8_tellKnown wI_RX8 wC_yX8_tellKnown) rfl rfl rfl hd_X8_tellKnown ⟨by decide, by decide⟩) hK hP rfl w_29 (fun _ hh => hh) hS rfl hl.1 rfl (Nat.le_of_ble_eq_true rfl) dX8_known_9 ⟨Nat.le_refl 0, Nat.le_refl 0⟩ (fun H locs hP hS => ?_)
    refine lv_goto (tgt := 18) hx hb dX8_known_12 (by decide) ?_
    obtain rfl := Option.some.inj h
    exact ret _ _ _ _ _ dX8_known_18 hP hS rfl
def X2_firstSlipWays_L1 (n : Nat) (σ_1 : St) (u1_1 : Int32) (y1_3 : Int64) (y1_5 : Int64) (y1_7 : Int32) : Option (Int64 × Int64 × Int32) := match n with
  | 0 => none
  | n + 1 =>
    if (σ_1 10 4) ≤ y1_7 then (
      some (y1_3, y1_5, y1_7))
    else (
      bd (X2_slipOf σ_1 y1_7) fun v3 =>
      bd (rd (σ_1 11) 15 y1_7) fun v4 =>
      lt ((
          if v4 = u1_1 then (
            ((y1_5 * (10 : Int64)) + (y1_3 * ((v3).toInt64))))
          else (
            (y1_5 * (10 : Int64)))) : Int64) fun v6 =>
      X2_firstSlipWays_L1 n σ_1 u1_1 (y1_3 * ((((10 : Int32) - v3)).toInt64)) v6 (y1_7 + (1 : Int32)))
theorem X2_firstSlipWays_L1_s (n : Nat) (σ_1 : St) (u1_1 : Int32) (y1_3 : Int64) (y1_5 : Int64) (y1_7 : Int32) : X2_firstSlipWays_L1 (n + 1) σ_1 u1_1 y1_3 y1_5 y1_7 =
    if (σ_1 10 4) ≤ y1_7 then (
      some (y1_3, y1_5, y1_7))
    else (
      bd (X2_slipOf σ_1 y1_7) fun v3 =>
      bd (rd (σ_1 11) 15 y1_7) fun v4 =>
      lt ((
          if v4 = u1_1 then (
            ((y1_5 * (10 : Int64)) + (y1_3 * ((v3).toInt64))))
          else (
            (y1_5 * (10 : Int64)))) : Int64) fun v6 =>
      X2_firstSlipWays_L1 n σ_1 u1_1 (y1_3 * ((((10 : Int32) - v3)).toInt64)) v6 (y1_7 + (1 : Int32))) := rfl
def X2_firstSlipWays (σ : St) (x1 : Int32) : Option (Int64) :=
  bd (X2_firstSlipWays_L1 10000 σ x1 (1 : Int64) (0 : Int64) (0 : Int32)) fun v1 =>
  some v1.2.1
abbrev rmX2_firstSlipWays : Room := { frames := 2, cells := 0, slots := 0, locals := 44 }
set_option maxHeartbeats 4000000 in
set_option maxRecDepth 100000 in
theorem c_X2_firstSlipWays (l : Launch) (D : va_G) (ad : Nat → Nat) (cI : ClassId) (hd : HD ad) (σ τ : St) (η : Int64) (x1 : Int32) (rr : Int64) (h : X2_firstSlipWays σ x1 = some rr) : ML l yX2_firstSlipWays (wy yX2_firstSlipWays cX2_firstSlipWays 9 (some .long)) rmX2_firstSlipWays D ad cI [.ref (ad 10), .int x1, .ref (ad 6)] σ τ η rr σ τ η := by
  refine mk_l (own := RX2) (lv := [(0, .ref (ad 10)), (1, .int x1), (2, .ref (ad 6))]) (plainFor_of_name (by decide)) rfl (Nat.le_of_ble_eq_true rfl) rfl ?_
  intro p e s m args below meth c Q ls hx hb hml hown htb hK ret hP hS hl
  unfold X2_firstSlipWays at h
  refine lv_lconst (v := (1 : Int64)) hx hb dX2_firstSlipWays_0 rfl ?_
  refine lv_lstore_n (lv' := [(3, .long (1 : Int64)), (0, .ref (ad 10)), (1, .int x1), (2, .ref (ad 6))]) hx hb dX2_firstSlipWays_1 rfl hl (by decide) rfl (fun ls hl => ?_)
  refine lv_lconst (v := (0 : Int64)) hx hb dX2_firstSlipWays_2 rfl ?_
  refine lv_lstore (lv' := [(5, .long (0 : Int64)), (3, .long (1 : Int64)), (0, .ref (ad 10)), (1, .int x1), (2, .ref (ad 6))]) hx hb dX2_firstSlipWays_3 hl (by decide) rfl (fun ls hl => ?_)
  refine lv_iconst (v := (0 : Int32)) hx hb dX2_firstSlipWays_5 (by decide) ?_
  refine lv_istore (lv' := [(7, .int (0 : Int32)), (5, .long (0 : Int64)), (3, .long (1 : Int64)), (0, .ref (ad 10)), (1, .int x1), (2, .ref (ad 6))]) hx hb dX2_firstSlipWays_6 hl (by decide) rfl (fun ls hl => ?_)
  obtain ⟨v1, hj1, h⟩ := ob h
  have K1 : ∀ (H : Heap) (locs : List Loc) (ls : Array Slot), WP D ad cI σ τ η H → va_S (AA ad) s.heap H locs → lv_has ls 9 [(5, .long v1.2.1)] → W p l e rmX2_firstSlipWays s m args below meth c H locs 0 0 Q (F0 m 70 ls []) := by
    intro H locs ls hP hS hl
    refine lv_lload hx hb dX2_firstSlipWays_70 (lv_at hl 0 rfl) ?_
    obtain rfl := Option.some.inj h
    exact ret _ _ _ _ _ dX2_firstSlipWays_72 hP hS rfl
  have L1 : ∀ (n : Nat) (y1_3 : Int64) (y1_5 : Int64) (y1_7 : Int32) (H : Heap) (locs : List Loc) (ls : Array Slot), X2_firstSlipWays_L1 n σ x1 y1_3 y1_5 y1_7 = some v1 → WP D ad cI σ τ η H → va_S (AA ad) s.heap H locs → lv_has ls 9 [(0, .ref (ad 10)), (1, .int x1), (2, .ref (ad 6)), (3, .long y1_3), (5, .long y1_5), (7, .int y1_7)] → W p l e rmX2_firstSlipWays s m args below meth c H locs 0 0 Q (F0 m 8 ls []) := by
    intro n
    induction n with
    | zero => intro y1_3 y1_5 y1_7 H locs ls h; exact absurd h (by simp [X2_firstSlipWays_L1])
    | succ n ih =>
      intro y1_3 y1_5 y1_7 H locs ls h hP hS hl
      replace h := (X2_firstSlipWays_L1_s n σ x1 y1_3 y1_5 y1_7).symm.trans h
      refine lv_iload hx hb dX2_firstSlipWays_8 (lv_at hl 5 rfl) ?_
      refine lv_aload_n hx hb dX2_firstSlipWays_10 rfl (lv_at hl 0 rfl) ?_
      refine va_get (D := D) (ci := 2) (v := .int (σ 10 4)) (C := RX2) (T := TX2) (N := 5) hx hb htb wu_2 hown hK.1 hP 10 w_10 rfl 4 (by decide) (htb _ wFL_RX2_24) (fun _ h9 => h9) rfl dX2_firstSlipWays_11 ?_
      refine lv_icmp_ge (tgt := 70) hx hb dX2_firstSlipWays_14 (by decide) (fun c2 => ?_) (fun c2 => ?_)
      · replace h := ip c2 h
        obtain rfl := Option.some.inj h
        exact K1 _ _ _ hP hS (lv_sub hl [4] rfl)
      · replace h := iq c2 h
        refine lv_aload_n hx hb dX2_firstSlipWays_17 rfl (lv_at hl 0 rfl) ?_
        refine lv_iload hx hb dX2_firstSlipWays_18 (lv_at hl 5 rfl) ?_
        refine lv_aload_n hx hb dX2_firstSlipWays_20 rfl (lv_at hl 2 rfl) ?_
        obtain ⟨v3, g3, h⟩ := ob h
        refine c_Vi (q := (RX2, TX2, 5)) (ci := 2) (b := 10) (As := [.int y1_7, .ref (ad 6)]) (rest := []) (A := AA ad) ⟨hx, hb, hml, hown, htb⟩ (c_X2_slipOf l D ad cI hd σ τ η y1_7 v3 g3) (cwV 2 htb (gdV (fun _ hh => hh) wML_RX2_42 wIM_yX2_slipOf wSE_yX2_slipOf wI_RX2 wC_yX2_slipOf) rfl rfl rfl hd_X2_slipOf ⟨by decide, by decide⟩) hK hP rfl w_10 (fun _ hh => hh) hS rfl hl.1 rfl (Nat.le_of_ble_eq_true rfl) dX2_firstSlipWays_21 ⟨Nat.le_refl 0, Nat.le_refl 0⟩ (fun H locs hP hS => ?_)
        refine lv_istore (lv' := [(8, .int v3), (0, .ref (ad 10)), (1, .int x1), (2, .ref (ad 6)), (3, .long y1_3), (5, .long y1_5), (7, .int y1_7)]) hx hb dX2_firstSlipWays_24 hl (by decide) rfl (fun ls hl => ?_)
        refine lv_lload hx hb dX2_firstSlipWays_26 (lv_at hl 5 rfl) ?_
        refine lv_ldc2 (v := (10 : Int64)) hx hb hown (htb _ wKL_RX2_46) dX2_firstSlipWays_28 ?_
        refine lv_lmul hx hb dX2_firstSlipWays_31 ?_
        refine lv_lstore (lv' := [(5, .long (y1_5 * (10 : Int64))), (8, .int v3), (0, .ref (ad 10)), (1, .int x1), (2, .ref (ad 6)), (3, .long y1_3), (7, .int y1_7)]) hx hb dX2_firstSlipWays_32 hl (by decide) rfl (fun ls hl => ?_)
        refine lv_aload_n hx hb dX2_firstSlipWays_34 rfl (lv_at hl 2 rfl) ?_
        refine va_get (D := D) (ci := 2) (v := .ref (ad 11)) (C := RX2) (T := TX2) (N := 5) hx hb htb wu_2 hown hK.1 hP 10 w_10 rfl 0 (by decide) (htb _ wFL_RX2_11) (fun _ h9 => h9) rfl dX2_firstSlipWays_35 ?_
        refine lv_iload hx hb dX2_firstSlipWays_38 (lv_at hl 6 rfl) ?_
        obtain ⟨v4, g4, h⟩ := ob h
        refine r_ald hx hb hK hP 11 w_11 g4 dX2_firstSlipWays_40 ?_
        refine lv_iload_n hx hb dX2_firstSlipWays_41 rfl (lv_at hl 3 rfl) ?_
        obtain ⟨v6, hj6, h⟩ := ol h
        have J6 : ∀ (H : Heap) (locs : List Loc) (ls : Array Slot), WP D ad cI σ τ η H → va_S (AA ad) s.heap H locs → lv_has ls 9 [(0, .ref (ad 10)), (1, .int x1), (2, .ref (ad 6)), (3, .long y1_3), (5, .long v6), (7, .int y1_7), (8, .int v3)] → W p l e rmX2_firstSlipWays s m args below meth c H locs 0 0 Q (F0 m 55 ls []) := by
          intro H locs ls hP hS hl
          refine lv_lload_n hx hb dX2_firstSlipWays_55 rfl (lv_at hl 3 rfl) ?_
          refine lv_bipush (v := (10 : Int32)) hx hb dX2_firstSlipWays_56 (by decide) ?_
          refine lv_iload hx hb dX2_firstSlipWays_58 (lv_at hl 6 rfl) ?_
          refine lv_isub hx hb dX2_firstSlipWays_60 ?_
          refine lv_i2l (v := ((((10 : Int32) - v3)).toInt64)) hx hb dX2_firstSlipWays_61 rfl ?_
          refine lv_lmul hx hb dX2_firstSlipWays_62 ?_
          refine lv_lstore_n (lv' := [(3, .long (y1_3 * ((((10 : Int32) - v3)).toInt64))), (0, .ref (ad 10)), (1, .int x1), (2, .ref (ad 6)), (5, .long v6), (7, .int y1_7), (8, .int v3)]) hx hb dX2_firstSlipWays_63 rfl hl (by decide) rfl (fun ls hl => ?_)
          refine lv_iinc (v := (y1_7 + (1 : Int32))) (lv' := [(7, .int (y1_7 + (1 : Int32))), (3, .long (y1_3 * ((((10 : Int32) - v3)).toInt64))), (0, .ref (ad 10)), (1, .int x1), (2, .ref (ad 6)), (5, .long v6), (8, .int v3)]) hx hb dX2_firstSlipWays_64 hl (k := 5) rfl rfl (by decide) rfl (fun ls hl => ?_)
          refine lv_goto (tgt := 8) hx hb dX2_firstSlipWays_67 (by decide) ?_
          exact ih (y1_3 * ((((10 : Int32) - v3)).toInt64)) v6 (y1_7 + (1 : Int32)) _ _ _ h hP hS (lv_sub hl [2, 3, 4, 1, 5, 0] rfl)
        replace h := hj6
        refine lv_icmp_ne (tgt := 55) hx hb dX2_firstSlipWays_42 (by decide) (fun c5 => ?_) (fun c5 => ?_)
        · replace h := iq c5 h
          subst h
          exact J6 _ _ _ hP hS (lv_sub hl [2, 3, 4, 5, 0, 6, 1] rfl)
        · replace h := ip c5 h
          refine lv_lload hx hb dX2_firstSlipWays_45 (lv_at hl 0 rfl) ?_
          refine lv_lload_n hx hb dX2_firstSlipWays_47 rfl (lv_at hl 5 rfl) ?_
          refine lv_iload hx hb dX2_firstSlipWays_48 (lv_at hl 1 rfl) ?_
          refine lv_i2l (v := ((v3).toInt64)) hx hb dX2_firstSlipWays_50 rfl ?_
          refine lv_lmul hx hb dX2_firstSlipWays_51 ?_
          refine lv_ladd hx hb dX2_firstSlipWays_52 ?_
          refine lv_lstore (lv' := [(5, .long ((y1_5 * (10 : Int64)) + (y1_3 * ((v3).toInt64)))), (8, .int v3), (0, .ref (ad 10)), (1, .int x1), (2, .ref (ad 6)), (3, .long y1_3), (7, .int y1_7)]) hx hb dX2_firstSlipWays_53 hl (by decide) rfl (fun ls hl => ?_)
          subst h
          exact J6 _ _ _ hP hS (lv_sub hl [2, 3, 4, 5, 0, 6, 1] rfl)
  exact L1 10000 (1 : Int64) (0 : Int64) (0 : Int32) _ _ _ hj1 hP hS (lv_sub hl [3, 4, 5, 2, 1, 0] rfl)
