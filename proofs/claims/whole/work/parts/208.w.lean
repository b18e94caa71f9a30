def X6_knows_27 (σ : St) (x1 : Int32) (x2 : Int32) : Option (Int32) :=
  if x2 < (1 : Int32) then (
    some (0 : Int32))
  else (
    if (9 : Int32) < x2 then (
      some (0 : Int32))
    else (
      bd (rd (σ 28) 10 x2) fun v3 =>
      if ((ishr v3 x1) &&& (1 : Int32)) = (1 : Int32) then (
        some (1 : Int32))
      else (
        some (0 : Int32))))
abbrev rmX6_knows_27 : Room := { frames := 0, cells := 0, slots := 0, locals := 0 }
set_option maxHeartbeats 4000000 in
set_option maxRecDepth 100000 in
theorem c_X6_knows_27 (l : Launch) (D : va_G) (ad : Nat → Nat) (cI : ClassId) (hd : HD ad) (σ τ : St) (η : Int64) (x1 : Int32) (x2 : Int32) (rr : Int32) (h : X6_knows_27 σ x1 x2 = some rr) : MZ l yX6_knows (wy yX6_knows cX6_knows 3 (some .boolean)) rmX6_knows_27 D ad cI [.ref (ad 27), .int x1, .int x2] σ τ η rr σ τ η := by
  refine mk_z (own := RX6) (lv := [(0, .ref (ad 27)), (1, .int x1), (2, .int x2)]) (plainFor_of_name (by decide)) rfl (Nat.le_of_ble_eq_true rfl) rfl ?_
  intro p e s m args below meth c Q ls hx hb hml hown htb hK ret hP hS hl
  unfold X6_knows_27 at h
  refine lv_iload_n hx hb dX6_knows_0 rfl (lv_at hl 2 rfl) ?_
  refine lv_iconst (v := (1 : Int32)) hx hb dX6_knows_1 (by decide) ?_
  refine lv_icmp_lt (tgt := 29) hx hb dX6_knows_2 (by decide) (fun c1 => ?_) (fun c1 => ?_)
  · replace h := ip c1 h
    refine lv_iconst (v := (0 : Int32)) hx hb dX6_knows_29 (by decide) ?_
    obtain rfl := Option.some.inj h
    exact ret _ _ _ _ _ dX6_knows_30 hP hS rfl (by first | exact Or.inl rfl | exact Or.inr rfl | assumption)
  · replace h := iq c1 h
    refine lv_iload_n hx hb dX6_knows_5 rfl (lv_at hl 2 rfl) ?_
    refine lv_bipush (v := (9 : Int32)) hx hb dX6_knows_6 (by decide) ?_
    refine lv_icmp_gt (tgt := 29) hx hb dX6_knows_8 (by decide) (fun c2 => ?_) (fun c2 => ?_)
    · replace h := ip c2 h
      refine lv_iconst (v := (0 : Int32)) hx hb dX6_knows_29 (by decide) ?_
      obtain rfl := Option.some.inj h
      exact ret _ _ _ _ _ dX6_knows_30 hP hS rfl (by first | exact Or.inl rfl | exact Or.inr rfl | assumption)
    · replace h := iq c2 h
      refine lv_aload_n hx hb dX6_knows_11 rfl (lv_at hl 0 rfl) ?_
      refine va_get (D := D) (ci := 6) (v := .ref (ad 28)) (C := RX6) (T := TX6) (N := 1) hx hb htb wu_6 hown hK.1 hP 27 w_27 rfl 0 (by decide) (htb _ wFL_RX6_9) (fun _ h9 => h9) rfl dX6_knows_12 ?_
      refine lv_iload_n hx hb dX6_knows_15 rfl (lv_at hl 2 rfl) ?_
      obtain ⟨v3, g3, h⟩ := ob h
      refine r_ald hx hb hK hP 28 w_28 g3 dX6_knows_16 ?_
      refine lv_iload_n hx hb dX6_knows_17 rfl (lv_at hl 1 rfl) ?_
      refine lv_ishr hx hb dX6_knows_18 ?_
      refine lv_iconst (v := (1 : Int32)) hx hb dX6_knows_19 (by decide) ?_
      refine lv_iand hx hb dX6_knows_20 ?_
      refine lv_iconst (v := (1 : Int32)) hx hb dX6_knows_21 (by decide) ?_
      refine lv_icmp_ne (tgt := 29) hx hb dX6_knows_22 (by decide) (fun c4 => ?_) (fun c4 => ?_)
      · replace h := iq c4 h
        refine lv_iconst (v := (0 : Int32)) hx hb dX6_knows_29 (by decide) ?_
        obtain rfl := Option.some.inj h
        exact ret _ _ _ _ _ dX6_knows_30 hP hS rfl (by first | exact Or.inl rfl | exact Or.inr rfl | assumption)
      · replace h := ip c4 h
        refine lv_iconst (v := (1 : Int32)) hx hb dX6_knows_25 (by decide) ?_
        refine lv_goto (tgt := 30) hx hb dX6_knows_26 (by decide) ?_
        obtain rfl := Option.some.inj h
        exact ret _ _ _ _ _ dX6_knows_30 hP hS rfl (by first | exact Or.inl rfl | exact Or.inr rfl | assumption)
def X2_slipOf_10_27 (σ : St) (x1 : Int32) : Option (Int32) :=
  lt (X2_has σ x1) fun v1 =>
  if v1 = 0 then (
    some (0 : Int32))
  else (
    bd (rd (σ 11) 15 x1) fun v3 =>
    bd (rd (σ 12) 15 x1) fun v4 =>
    bd (X6_knows_27 σ v3 v4) fun v5 =>
    if v5 = 0 then (
      some (0 : Int32))
    else (
      bd (rd (σ 14) 15 x1) fun v7 =>
      some v7))
abbrev rmX2_slipOf_10_27 : Room := { frames := 1, cells := 0, slots := 0, locals := 22 }
set_option maxHeartbeats 4000000 in
set_option maxRecDepth 100000 in
theorem c_X2_slipOf_10_27 (l : Launch) (D : va_G) (ad : Nat → Nat) (cI : ClassId) (hd : HD ad) (σ τ : St) (η : Int64) (x1 : Int32) (rr : Int32) (h : X2_slipOf_10_27 σ x1 = some rr) : MI l yX2_slipOf (wy yX2_slipOf cX2_slipOf 3 (some .int)) rmX2_slipOf_10_27 D ad cI [.ref (ad 10), .int x1, .ref (ad 27)] σ τ η rr σ τ η := by
  refine mk_i (own := RX2) (lv := [(0, .ref (ad 10)), (1, .int x1), (2, .ref (ad 27))]) (plainFor_of_name (by decide)) rfl (Nat.le_of_ble_eq_true rfl) rfl ?_
  intro p e s m args below meth c Q ls hx hb hml hown htb hK ret hP hS hl
  unfold X2_slipOf_10_27 at h
  refine lv_aload_n hx hb dX2_slipOf_0 rfl (lv_at hl 0 rfl) ?_
  refine lv_iload_n hx hb dX2_slipOf_1 rfl (lv_at hl 1 rfl) ?_
  obtain ⟨v1, g1, h⟩ := ol h
  refine c_Vz (q := (RX2, TX2, 5)) (ci := 2) (b := 10) (As := [.int x1]) (rest := []) (A := AA ad) ⟨hx, hb, hml, hown, htb⟩ (c_X2_has l D ad cI hd σ τ η x1 v1 g1) (cwV 1 htb (gdV (fun _ hh => hh) wML_RX2_28 wIM_yX2_has wSE_yX2_has wI_RX2 wC_yX2_has) rfl rfl rfl hd_X2_has ⟨by decide, by decide⟩) hK hP rfl w_10 (fun _ hh => hh) hS rfl hl.1 rfl (Nat.le_of_ble_eq_true rfl) dX2_slipOf_2 ⟨Nat.le_refl 0, Nat.le_refl 0⟩ (fun H locs hz1 hP hS => ?_)
  refine lv_if_eq (tgt := 27) hx hb dX2_slipOf_5 (by decide) (fun c2 => ?_) (fun c2 => ?_)
  · replace h := ip c2 h
    refine lv_iconst (v := (0 : Int32)) hx hb dX2_slipOf_27 (by decide) ?_
    obtain rfl := Option.some.inj h
    exact ret _ _ _ _ _ dX2_slipOf_28 hP hS rfl
  · replace h := iq c2 h
    refine lv_aload_n hx hb dX2_slipOf_8 rfl (lv_at hl 2 rfl) ?_
    refine lv_aload_n hx hb dX2_slipOf_9 rfl (lv_at hl 0 rfl) ?_
    refine va_get (D := D) (ci := 2) (v := .ref (ad 11)) (C := RX2) (T := TX2) (N := 5) hx hb htb wu_2 hown hK.1 hP 10 w_10 rfl 0 (by decide) (htb _ wFL_RX2_11) (fun _ h9 => h9) rfl dX2_slipOf_10 ?_
    refine lv_iload_n hx hb dX2_slipOf_13 rfl (lv_at hl 1 rfl) ?_
    obtain ⟨v3, g3, h⟩ := ob h
    refine r_ald hx hb hK hP 11 w_11 g3 dX2_slipOf_14 ?_
    refine lv_aload_n hx hb dX2_slipOf_15 rfl (lv_at hl 0 rfl) ?_
    refine va_get (D := D) (ci := 2) (v := .ref (ad 12)) (C := RX2) (T := TX2) (N := 5) hx hb htb wu_2 hown hK.1 hP 10 w_10 rfl 1 (by decide) (htb _ wFL_RX2_15) (fun _ h9 => h9) rfl dX2_slipOf_16 ?_
    refine lv_iload_n hx hb dX2_slipOf_19 rfl (lv_at hl 1 rfl) ?_
    obtain ⟨v4, g4, h⟩ := ob h
    refine r_ald hx hb hK hP 12 w_12 g4 dX2_slipOf_20 ?_
    obtain ⟨v5, g5, h⟩ := ob h
    refine c_Vz (q := (RX6, TX6, 1)) (ci := 6) (b := 27) (As := [.int v3, .int v4]) (rest := []) (A := AA ad) ⟨hx, hb, hml, hown, htb⟩ (c_X6_knows_27 l D ad cI hd σ τ η v3 v4 v5 g5) (cwV 2 htb (gdV (fun _ hh => hh) wML_RX2_32 wIM_yX6_knows wSE_yX6_knows wI_RX6 wC_yX6_knows) rfl rfl rfl hd_X6_knows ⟨by decide, by decide⟩) hK hP rfl w_27 (fun _ hh => hh) hS rfl hl.1 rfl (Nat.le_of_ble_eq_true rfl) dX2_slipOf_21 ⟨Nat.le_refl 0, Nat.le_refl 0⟩ (fun H locs hz5 hP hS => ?_)
    refine lv_if_ne (tgt := 29) hx hb dX2_slipOf_24 (by decide) (fun c6 => ?_) (fun c6 => ?_)
    · replace h := iq c6 h
      refine lv_aload_n hx hb dX2_slipOf_29 rfl (lv_at hl 0 rfl) ?_
      refine va_get (D := D) (ci := 2) (v := .ref (ad 14)) (C := RX2) (T := TX2) (N := 5) hx hb htb wu_2 hown hK.1 hP 10 w_10 rfl 3 (by decide) (htb _ wFL_RX2_21) (fun _ h9 => h9) rfl dX2_slipOf_30 ?_
      refine lv_iload_n hx hb dX2_slipOf_33 rfl (lv_at hl 1 rfl) ?_
      obtain ⟨v7, g7, h⟩ := ob h
      refine r_ald hx hb hK hP 14 w_14 g7 dX2_slipOf_34 ?_
      obtain rfl := Option.some.inj h
      exact ret _ _ _ _ _ dX2_slipOf_35 hP hS rfl
    · replace h := ip c6 h
      refine lv_iconst (v := (0 : Int32)) hx hb dX2_slipOf_27 (by decide) ?_
      obtain rfl := Option.some.inj h
      exact ret _ _ _ _ _ dX2_slipOf_28 hP hS rfl
def X2_silentWays_10_27_L1 (n : Nat) (σ_1 : St) (y1_2 : Int64) (y1_4 : Int32) : Option (Int64 × Int32) := match n with
  | 0 => none
  | n + 1 =>
    if (σ_1 10 4) ≤ y1_4 then (
      some (y1_2, y1_4))
    else (
      bd (X2_slipOf_10_27 σ_1 y1_4) fun v3 =>
      X2_silentWays_10_27_L1 n σ_1 (y1_2 * ((((10 : Int32) - v3)).toInt64)) (y1_4 + (1 : Int32)))
theorem X2_silentWays_10_27_L1_s (n : Nat) (σ_1 : St) (y1_2 : Int64) (y1_4 : Int32) : X2_silentWays_10_27_L1 (n + 1) σ_1 y1_2 y1_4 =
    if (σ_1 10 4) ≤ y1_4 then (
      some (y1_2, y1_4))
    else (
      bd (X2_slipOf_10_27 σ_1 y1_4) fun v3 =>
      X2_silentWays_10_27_L1 n σ_1 (y1_2 * ((((10 : Int32) - v3)).toInt64)) (y1_4 + (1 : Int32))) := rfl
def X2_silentWays_10_27 (σ : St)  : Option (Int64) :=
  bd (X2_silentWays_10_27_L1 10000 σ (1 : Int64) (0 : Int32)) fun v1 =>
  some v1.1
abbrev rmX2_silentWays_10_27 : Room := { frames := 2, cells := 0, slots := 0, locals := 44 }
set_option maxHeartbeats 4000000 in
set_option maxRecDepth 100000 in
theorem c_X2_silentWays_10_27 (l : Launch) (D : va_G) (ad : Nat → Nat) (cI : ClassId) (hd : HD ad) (σ τ : St) (η : Int64)  (rr : Int64) (h : X2_silentWays_10_27 σ  = some rr) : ML l yX2_silentWays (wy yX2_silentWays cX2_silentWays 5 (some .long)) rmX2_silentWays_10_27 D ad cI [.ref (ad 10), .ref (ad 27)] σ τ η rr σ τ η := by
  refine mk_l (own := RX2) (lv := [(0, .ref (ad 10)), (1, .ref (ad 27))]) (plainFor_of_name (by decide)) rfl (Nat.le_of_ble_eq_true rfl) rfl ?_
  intro p e s m args below meth c Q ls hx hb hml hown htb hK ret hP hS hl
  unfold X2_silentWays_10_27 at h
  refine lv_lconst (v := (1 : Int64)) hx hb dX2_silentWays_0 rfl ?_
  refine lv_lstore_n (lv' := [(2, .long (1 : Int64)), (0, .ref (ad 10)), (1, .ref (ad 27))]) hx hb dX2_silentWays_1 rfl hl (by decide) rfl (fun ls hl => ?_)
  refine lv_iconst (v := (0 : Int32)) hx hb dX2_silentWays_2 (by decide) ?_
  refine lv_istore (lv' := [(4, .int (0 : Int32)), (2, .long (1 : Int64)), (0, .ref (ad 10)), (1, .ref (ad 27))]) hx hb dX2_silentWays_3 hl (by decide) rfl (fun ls hl => ?_)
  obtain ⟨v1, hj1, h⟩ := ob h
  have K1 : ∀ (H : Heap) (locs : List Loc) (ls : Array Slot), WP D ad cI σ τ η H → va_S (AA ad) s.heap H locs → lv_has ls 5 [(2, .long v1.1)] → W p l e rmX2_silentWays_10_27 s m args below meth c H locs 0 0 Q (F0 m 34 ls []) := by
    intro H locs ls hP hS hl
    refine lv_lload_n hx hb dX2_silentWays_34 rfl (lv_at hl 0 rfl) ?_
    obtain rfl := Option.some.inj h
    exact ret _ _ _ _ _ dX2_silentWays_35 hP hS rfl
  have L1 : ∀ (n : Nat) (y1_2 : Int64) (y1_4 : Int32) (H : Heap) (locs : List Loc) (ls : Array Slot), X2_silentWays_10_27_L1 n σ y1_2 y1_4 = some v1 → WP D ad cI σ τ η H → va_S (AA ad) s.heap H locs → lv_has ls 5 [(0, .ref (ad 10)), (1, .ref (ad 27)), (2, .long y1_2), (4, .int y1_4)] → W p l e rmX2_silentWays_10_27 s m args below meth c H locs 0 0 Q (F0 m 5 ls []) := by
    intro n
    induction n with
    | zero => intro y1_2 y1_4 H locs ls h; exact absurd h (by simp [X2_silentWays_10_27_L1])
    | succ n ih =>
      intro y1_2 y1_4 H locs ls h hP hS hl
      replace h := (X2_silentWays_10_27_L1_s n σ y1_2 y1_4).symm.trans h
      refine lv_iload hx hb dX2_silentWays_5 (lv_at hl 3 rfl) ?_
      refine lv_aload_n hx hb dX2_silentWays_7 rfl (lv_at hl 0 rfl) ?_
      refine va_get (D := D) (ci := 2) (v := .int (σ 10 4)) (C := RX2) (T := TX2) (N := 5) hx hb htb wu_2 hown hK.1 hP 10 w_10 rfl 4 (by decide) (htb _ wFL_RX2_24) (fun _ h9 => h9) rfl dX2_silentWays_8 ?_
      refine lv_icmp_ge (tgt := 34) hx hb dX2_silentWays_11 (by decide) (fun c2 => ?_) (fun c2 => ?_)
      · replace h := ip c2 h
        obtain rfl := Option.some.inj h
        exact K1 _ _ _ hP hS (lv_sub hl [2] rfl)
      · replace h := iq c2 h
        refine lv_lload_n hx hb dX2_silentWays_14 rfl (lv_at hl 2 rfl) ?_
        refine lv_bipush (v := (10 : Int32)) hx hb dX2_silentWays_15 (by decide) ?_
        refine lv_aload_n hx hb dX2_silentWays_17 rfl (lv_at hl 0 rfl) ?_
        refine lv_iload hx hb dX2_silentWays_18 (lv_at hl 3 rfl) ?_
        refine lv_aload_n hx hb dX2_silentWays_20 rfl (lv_at hl 1 rfl) ?_
        obtain ⟨v3, g3, h⟩ := ob h
        refine c_Vi (q := (RX2, TX2, 5)) (ci := 2) (b := 10) (As := [.int y1_4, .ref (ad 27)]) (rest := [.int (10 : Int32), .long y1_2]) (A := AA ad) ⟨hx, hb, hml, hown, htb⟩ (c_X2_slipOf_10_27 l D ad cI hd σ τ η y1_4 v3 g3) (cwV 2 htb (gdV (fun _ hh => hh) wML_RX2_42 wIM_yX2_slipOf wSE_yX2_slipOf wI_RX2 wC_yX2_slipOf) rfl rfl rfl hd_X2_slipOf ⟨by decide, by decide⟩) hK hP rfl w_10 (fun _ hh => hh) hS rfl hl.1 rfl (Nat.le_of_ble_eq_true rfl) dX2_silentWays_21 ⟨Nat.le_refl 0, Nat.le_refl 0⟩ (fun H locs hP hS => ?_)
        refine lv_isub hx hb dX2_silentWays_24 ?_
        refine lv_i2l (v := ((((10 : Int32) - v3)).toInt64)) hx hb dX2_silentWays_25 rfl ?_
        refine lv_lmul hx hb dX2_silentWays_26 ?_
        refine lv_lstore_n (lv' := [(2, .long (y1_2 * ((((10 : Int32) - v3)).toInt64))), (0, .ref (ad 10)), (1, .ref (ad 27)), (4, .int y1_4)]) hx hb dX2_silentWays_27 rfl hl (by decide) rfl (fun ls hl => ?_)
        refine lv_iinc (v := (y1_4 + (1 : Int32))) (lv' := [(4, .int (y1_4 + (1 : Int32))), (2, .long (y1_2 * ((((10 : Int32) - v3)).toInt64))), (0, .ref (ad 10)), (1, .ref (ad 27))]) hx hb dX2_silentWays_28 hl (k := 3) rfl rfl (by decide) rfl (fun ls hl => ?_)
        refine lv_goto (tgt := 5) hx hb dX2_silentWays_31 (by decide) ?_
        exact ih (y1_2 * ((((10 : Int32) - v3)).toInt64)) (y1_4 + (1 : Int32)) _ _ _ h hP hS (lv_sub hl [2, 3, 1, 0] rfl)
  exact L1 10000 (1 : Int64) (0 : Int32) _ _ _ hj1 hP hS (lv_sub hl [2, 3, 1, 0] rfl)
def X7_planWays (σ : St)  : Option (Int64 × St) :=
  bd (X6_follow_27_1_26 σ ) fun v1 =>
  bd (X2_silentWays_10_27 v1 ) fun v2 =>
  some (v2, v1)
abbrev rmX7_planWays : Room := { frames := 3, cells := 0, slots := 0, locals := 71 }
set_option maxHeartbeats 4000000 in
set_option maxRecDepth 100000 in
theorem c_X7_planWays (l : Launch) (D : va_G) (ad : Nat → Nat) (cI : ClassId) (hd : HD ad) (σ τ : St) (η : Int64)  (rr : Int64 × St) (h : X7_planWays σ  = some rr) : ML l yX7_planWays (wy yX7_planWays cX7_planWays 1 (some .long)) rmX7_planWays D ad cI [.ref (ad 0)] σ τ η rr.1 rr.2 τ η := by
  refine mk_l (own := RX7) (lv := [(0, .ref (ad 0))]) (plainFor_of_name (by decide)) rfl (Nat.le_of_ble_eq_true rfl) rfl ?_
  intro p e s m args below meth c Q ls hx hb hml hown htb hK ret hP hS hl
  unfold X7_planWays at h
  refine lv_aload_n hx hb dX7_planWays_0 rfl (lv_at hl 0 rfl) ?_
  refine va_get (D := D) (ci := 7) (v := .ref (ad 27)) (C := RX7) (T := TX7) (N := 11) hx hb htb wu_7 hown hK.1 hP 0 w_0 rfl 8 (by decide) (htb _ wFL_RX7_62) (fun _ h9 => h9) rfl dX7_planWays_1 ?_
  refine lv_aload_n hx hb dX7_planWays_4 rfl (lv_at hl 0 rfl) ?_
  refine va_get (D := D) (ci := 7) (v := .ref (ad 1)) (C := RX7) (T := TX7) (N := 11) hx hb htb wu_7 hown hK.1 hP 0 w_0 rfl 0 (by decide) (htb _ wFL_RX7_10) (fun _ h9 => h9) rfl dX7_planWays_5 ?_
  refine lv_aload_n hx hb dX7_planWays_8 rfl (lv_at hl 0 rfl) ?_
  refine va_get (D := D) (ci := 7) (v := .ref (ad 26)) (C := RX7) (T := TX7) (N := 11) hx hb htb wu_7 hown hK.1 hP 0 w_0 rfl 7 (by decide) (htb _ wFL_RX7_58) (fun _ h9 => h9) rfl dX7_planWays_9 ?_
  obtain ⟨v1, g1, h⟩ := ob h
  refine c_Vv (q := (RX6, TX6, 1)) (ci := 6) (b := 27) (As := [.ref (ad 1), .ref (ad 26)]) (rest := []) (A := AA ad) ⟨hx, hb, hml, hown, htb⟩ (c_X6_follow_27_1_26 l D ad cI hd σ τ η  v1 g1) (cwV 2 htb (gdV (fun _ hh => hh) wML_RX7_358 wIM_yX6_follow wSE_yX6_follow wI_RX6 wC_yX6_follow) rfl rfl rfl hd_X6_follow ⟨by decide, by decide⟩) hK hP rfl w_27 (fun _ hh => hh) hS rfl hl.1 rfl (Nat.le_of_ble_eq_true rfl) dX7_planWays_12 ⟨Nat.le_refl 0, Nat.le_refl 0⟩ (fun H locs hP hS => ?_)
  refine lv_aload_n hx hb dX7_planWays_15 rfl (lv_at hl 0 rfl) ?_
  refine va_get (D := D) (ci := 7) (v := .ref (ad 10)) (C := RX7) (T := TX7) (N := 11) hx hb htb wu_7 hown hK.1 hP 0 w_0 rfl 3 (by decide) (htb _ wFL_RX7_33) (fun _ h9 => h9) rfl dX7_planWays_16 ?_
  refine lv_aload_n hx hb dX7_planWays_19 rfl (lv_at hl 0 rfl) ?_
  refine va_get (D := D) (ci := 7) (v := .ref (ad 27)) (C := RX7) (T := TX7) (N := 11) hx hb htb wu_7 hown hK.1 hP 0 w_0 rfl 8 (by decide) (htb _ wFL_RX7_62) (fun _ h9 => h9) rfl dX7_planWays_20 ?_
  obtain ⟨v2, g2, h⟩ := ob h
  refine c_Vl (q := (RX2, TX2, 5)) (ci := 2) (b := 10) (As := [.ref (ad 27)]) (rest := []) (A := AA ad) ⟨hx, hb, hml, hown, htb⟩ (c_X2_silentWays_10_27 l D ad cI hd v1 τ η  v2 g2) (cwV 1 htb (gdV (fun _ hh => hh) wML_RX7_175 wIM_yX2_silentWays wSE_yX2_silentWays wI_RX2 wC_yX2_silentWays) rfl rfl rfl hd_X2_silentWays ⟨by decide, by decide⟩) hK hP rfl w_10 (fun _ hh => hh) hS rfl hl.1 rfl (Nat.le_of_ble_eq_true rfl) dX7_planWays_23 ⟨Nat.le_refl 0, Nat.le_refl 0⟩ (fun H locs hP hS => ?_)
  obtain rfl := Option.some.inj h
  exact ret _ _ _ _ _ dX7_planWays_26 hP hS rfl
def X7_bestDayFor_L1 (n : Nat) (σ_1 : St) (u1_1 : Int32) (y1_2 : Int64) (y1_4 : Int32) (y1_5 : Int32) : Option (Int64 × Int32 × Int32 × St) := match n with
  | 0 => none
  | n + 1 =>
    bd (X0_byOf σ_1 u1_1) fun v4 =>
    if v4 < y1_5 then (
      some (y1_2, y1_4, y1_5, σ_1))
    else (
      bd (wa σ_1 26 9 u1_1 y1_5) fun σ6 =>
      bd (X7_planWays σ6 ) fun v7 =>
      lt ((
          if v7.1 ≤ y1_2 then (
            (y1_2, y1_4))
          else (
            (v7.1, y1_5))) : Int64 × Int32) fun v9 =>
      X7_bestDayFor_L1 n v7.2 u1_1 v9.1 v9.2 (y1_5 + (1 : Int32)))
theorem X7_bestDayFor_L1_s (n : Nat) (σ_1 : St) (u1_1 : Int32) (y1_2 : Int64) (y1_4 : Int32) (y1_5 : Int32) : X7_bestDayFor_L1 (n + 1) σ_1 u1_1 y1_2 y1_4 y1_5 =
    bd (X0_byOf σ_1 u1_1) fun v4 =>
    if v4 < y1_5 then (
      some (y1_2, y1_4, y1_5, σ_1))
    else (
      bd (wa σ_1 26 9 u1_1 y1_5) fun σ6 =>
      bd (X7_planWays σ6 ) fun v7 =>
      lt ((
          if v7.1 ≤ y1_2 then (
            (y1_2, y1_4))
          else (
            (v7.1, y1_5))) : Int64 × Int32) fun v9 =>
      X7_bestDayFor_L1 n v7.2 u1_1 v9.1 v9.2 (y1_5 + (1 : Int32))) := rfl
def X7_bestDayFor (σ : St) (x1 : Int32) : Option (Int32 × St) :=
  lt (X0_has σ x1) fun v1 =>
  if v1 = 0 then (
    some ((0 : Int32), σ))
  else (
    bd (X7_bestDayFor_L1 10000 σ x1 (0 : Int64) (0 : Int32) (1 : Int32)) fun v3 =>
    some (v3.2.1, v3.2.2.2))
abbrev rmX7_bestDayFor : Room := { frames := 4, cells := 0, slots := 0, locals := 91 }
set_option maxHeartbeats 4000000 in
set_option maxRecDepth 100000 in
theorem c_X7_bestDayFor (l : Launch) (D : va_G) (ad : Nat → Nat) (cI : ClassId) (hd : HD ad) (σ τ : St) (η : Int64) (x1 : Int32) (rr : Int32 × St) (h : X7_bestDayFor σ x1 = some rr) : MI l yX7_bestDayFor (wy yX7_bestDayFor cX7_bestDayFor 8 (some .int)) rmX7_bestDayFor D ad cI [.ref (ad 0), .int x1] σ τ η rr.1 rr.2 τ η := by
  refine mk_i (own := RX7) (lv := [(0, .ref (ad 0)), (1, .int x1)]) (plainFor_of_name (by decide)) rfl (Nat.le_of_ble_eq_true rfl) rfl ?_
  intro p e s m args below meth c Q ls hx hb hml hown htb hK ret hP hS hl
  unfold X7_bestDayFor at h
  refine lv_aload_n hx hb dX7_bestDayFor_0 rfl (lv_at hl 0 rfl) ?_
  refine va_get (D := D) (ci := 7) (v := .ref (ad 1)) (C := RX7) (T := TX7) (N := 11) hx hb htb wu_7 hown hK.1 hP 0 w_0 rfl 0 (by decide) (htb _ wFL_RX7_10) (fun _ h9 => h9) rfl dX7_bestDayFor_1 ?_
  refine lv_iload_n hx hb dX7_bestDayFor_4 rfl (lv_at hl 1 rfl) ?_
  obtain ⟨v1, g1, h⟩ := ol h
  refine c_Vz (q := (RX0, TX0, 6)) (ci := 0) (b := 1) (As := [.int x1]) (rest := []) (A := AA ad) ⟨hx, hb, hml, hown, htb⟩ (c_X0_has l D ad cI hd σ τ η x1 v1 g1) (cwV 1 htb (gdV (fun _ hh => hh) wML_RX7_84 wIM_yX0_has wSE_yX0_has wI_RX0 wC_yX0_has) rfl rfl rfl hd_X0_has ⟨by decide, by decide⟩) hK hP rfl w_1 (fun _ hh => hh) hS rfl hl.1 rfl (Nat.le_of_ble_eq_true rfl) dX7_bestDayFor_5 ⟨Nat.le_refl 0, Nat.le_refl 0⟩ (fun H locs hz1 hP hS => ?_)
  refine lv_if_ne (tgt := 13) hx hb dX7_bestDayFor_8 (by decide) (fun c2 => ?_) (fun c2 => ?_)
  · replace h := iq c2 h
    refine lv_lconst (v := (0 : Int64)) hx hb dX7_bestDayFor_13 rfl ?_
    refine lv_lstore_n (lv' := [(2, .long (0 : Int64)), (0, .ref (ad 0)), (1, .int x1)]) hx hb dX7_bestDayFor_14 rfl hl (by decide) rfl (fun ls hl => ?_)
    refine lv_iconst (v := (0 : Int32)) hx hb dX7_bestDayFor_15 (by decide) ?_
    refine lv_istore (lv' := [(4, .int (0 : Int32)), (2, .long (0 : Int64)), (0, .ref (ad 0)), (1, .int x1)]) hx hb dX7_bestDayFor_16 hl (by decide) rfl (fun ls hl => ?_)
    refine lv_iconst (v := (1 : Int32)) hx hb dX7_bestDayFor_18 (by decide) ?_
    refine lv_istore (lv' := [(5, .int (1 : Int32)), (4, .int (0 : Int32)), (2, .long (0 : Int64)), (0, .ref (ad 0)), (1, .int x1)]) hx hb dX7_bestDayFor_19 hl (by decide) rfl (fun ls hl => ?_)
    obtain ⟨v3, hj3, h⟩ := ob h
    have K1 : ∀ (H : Heap) (locs : List Loc) (ls : Array Slot), WP D ad cI v3.2.2.2 τ η H → va_S (AA ad) s.heap H locs → lv_has ls 8 [(4, .int v3.2.1)] → W p l e rmX7_bestDayFor s m args below meth c H locs 0 0 Q (F0 m 68 ls []) := by
      intro H locs ls hP hS hl
      refine lv_iload hx hb dX7_bestDayFor_68 (lv_at hl 0 rfl) ?_
      obtain rfl := Option.some.inj h
      exact ret _ _ _ _ _ dX7_bestDayFor_70 hP hS rfl
    have L1 : ∀ (n : Nat) (σ_1 : St) (y1_2 : Int64) (y1_4 : Int32) (y1_5 : Int32) (H : Heap) (locs : List Loc) (ls : Array Slot), X7_bestDayFor_L1 n σ_1 x1 y1_2 y1_4 y1_5 = some v3 → WP D ad cI σ_1 τ η H → va_S (AA ad) s.heap H locs → lv_has ls 8 [(0, .ref (ad 0)), (1, .int x1), (2, .long y1_2), (4, .int y1_4), (5, .int y1_5)] → W p l e rmX7_bestDayFor s m args below meth c H locs 0 0 Q (F0 m 21 ls []) := by
      intro n
      induction n with
      | zero => intro σ_1 y1_2 y1_4 y1_5 H locs ls h; exact absurd h (by simp [X7_bestDayFor_L1])
      | succ n ih =>
        intro σ_1 y1_2 y1_4 y1_5 H locs ls h hP hS hl
        replace h := (X7_bestDayFor_L1_s n σ_1 x1 y1_2 y1_4 y1_5).symm.trans h
        refine lv_iload hx hb dX7_bestDayFor_21 (lv_at hl 4 rfl) ?_
        refine lv_aload_n hx hb dX7_bestDayFor_23 rfl (lv_at hl 0 rfl) ?_
        refine va_get (D := D) (ci := 7) (v := .ref (ad 1)) (C := RX7) (T := TX7) (N := 11) hx hb htb wu_7 hown hK.1 hP 0 w_0 rfl 0 (by decide) (htb _ wFL_RX7_10) (fun _ h9 => h9) rfl dX7_bestDayFor_24 ?_
        refine lv_iload_n hx hb dX7_bestDayFor_27 rfl (lv_at hl 1 rfl) ?_
        obtain ⟨v4, g4, h⟩ := ob h
        refine c_Vi (q := (RX0, TX0, 6)) (ci := 0) (b := 1) (As := [.int x1]) (rest := [.int y1_5]) (A := AA ad) ⟨hx, hb, hml, hown, htb⟩ (c_X0_byOf l D ad cI hd σ_1 τ η x1 v4 g4) (cwV 1 htb (gdV (fun _ hh => hh) wML_RX7_91 wIM_yX0_byOf wSE_yX0_byOf wI_RX0 wC_yX0_byOf) rfl rfl rfl hd_X0_byOf ⟨by decide, by decide⟩) hK hP rfl w_1 (fun _ hh => hh) hS rfl hl.1 rfl (Nat.le_of_ble_eq_true rfl) dX7_bestDayFor_28 ⟨Nat.le_refl 0, Nat.le_refl 0⟩ (fun H locs hP hS => ?_)
        refine lv_icmp_gt (tgt := 68) hx hb dX7_bestDayFor_31 (by decide) (fun c5 => ?_) (fun c5 => ?_)
        · replace h := ip c5 h
          obtain rfl := Option.some.inj h
          exact K1 _ _ _ hP hS (lv_sub hl [3] rfl)
        · replace h := iq c5 h
          refine lv_aload_n hx hb dX7_bestDayFor_34 rfl (lv_at hl 0 rfl) ?_
          refine va_get (D := D) (ci := 7) (v := .ref (ad 26)) (C := RX7) (T := TX7) (N := 11) hx hb htb wu_7 hown hK.1 hP 0 w_0 rfl 7 (by decide) (htb _ wFL_RX7_58) (fun _ h9 => h9) rfl dX7_bestDayFor_35 ?_
          refine lv_iload_n hx hb dX7_bestDayFor_38 rfl (lv_at hl 1 rfl) ?_
          refine lv_iload hx hb dX7_bestDayFor_39 (lv_at hl 4 rfl) ?_
          obtain ⟨σ6, g6, h⟩ := ob h
          refine r_astC (A := AA ad) hx hb hK hd (fun _ hh => hh) hP hS 26 9 (by decide) (fun _ => rfl) g6 dX7_bestDayFor_41 (fun H locs hP hS => ?_)
          refine lv_aload_n hx hb dX7_bestDayFor_42 rfl (lv_at hl 0 rfl) ?_
          obtain ⟨v7, g7, h⟩ := ob h
          refine c_Vl (q := (RX7, TX7, 11)) (ci := 7) (b := 0) (As := []) (rest := []) (A := AA ad) ⟨hx, hb, hml, hown, htb⟩ (c_X7_planWays l D ad cI hd σ6 τ η  v7 g7) (cwV 0 htb (gdV (fun _ hh => hh) wML_RX7_210 wIM_yX7_planWays wSE_yX7_planWays wI_RX7 wC_yX7_planWays) rfl rfl rfl hd_X7_planWays ⟨by decide, by decide⟩) hK hP rfl w_0 (fun _ hh => hh) hS rfl hl.1 rfl (Nat.le_of_ble_eq_true rfl) dX7_bestDayFor_43 ⟨Nat.le_refl 0, Nat.le_refl 0⟩ (fun H locs hP hS => ?_)
          refine lv_lstore (lv' := [(6, .long v7.1), (0, .ref (ad 0)), (1, .int x1), (2, .long y1_2), (4, .int y1_4), (5, .int y1_5)]) hx hb dX7_bestDayFor_46 hl (by decide) rfl (fun ls hl => ?_)
          refine lv_lload hx hb dX7_bestDayFor_48 (lv_at hl 0 rfl) ?_
          refine lv_lload_n hx hb dX7_bestDayFor_50 rfl (lv_at hl 3 rfl) ?_
          refine W.lcmp hx hb dX7_bestDayFor_51 ?_
          obtain ⟨v9, hj9, h⟩ := ol h
          have J9 : ∀ (H : Heap) (locs : List Loc) (ls : Array Slot), WP D ad cI v7.2 τ η H → va_S (AA ad) s.heap H locs → lv_has ls 8 [(0, .ref (ad 0)), (1, .int x1), (2, .long v9.1), (4, .int v9.2), (5, .int y1_5)] → W p l e rmX7_bestDayFor s m args below meth c H locs 0 0 Q (F0 m 62 ls []) := by
            intro H locs ls hP hS hl
            refine lv_iinc (v := (y1_5 + (1 : Int32))) (lv' := [(5, .int (y1_5 + (1 : Int32))), (0, .ref (ad 0)), (1, .int x1), (2, .long v9.1), (4, .int v9.2)]) hx hb dX7_bestDayFor_62 hl (k := 4) rfl rfl (by decide) rfl (fun ls hl => ?_)
            refine lv_goto (tgt := 21) hx hb dX7_bestDayFor_65 (by decide) ?_
            exact ih v7.2 v9.1 v9.2 (y1_5 + (1 : Int32)) _ _ _ h hP hS (lv_sub hl [1, 2, 3, 4, 0] rfl)
          replace h := hj9
          refine lv_if_le (tgt := 62) hx hb dX7_bestDayFor_52 (by decide) (fun c8 => ?_) (fun c8 => ?_)
          · replace c8 := (lg_cmp_le _ _).mp c8
            replace h := ip c8 h
            subst h
            exact J9 _ _ _ hP hS (lv_sub hl [1, 2, 3, 4, 5] rfl)
          · replace c8 := (not_congr (lg_cmp_le _ _)).mp c8
            replace h := iq c8 h
            refine lv_lload hx hb dX7_bestDayFor_55 (lv_at hl 0 rfl) ?_
            refine lv_lstore_n (lv' := [(2, .long v7.1), (6, .long v7.1), (0, .ref (ad 0)), (1, .int x1), (4, .int y1_4), (5, .int y1_5)]) hx hb dX7_bestDayFor_57 rfl hl (by decide) rfl (fun ls hl => ?_)
            refine lv_iload hx hb dX7_bestDayFor_58 (lv_at hl 5 rfl) ?_
            refine lv_istore (lv' := [(4, .int y1_5), (2, .long v7.1), (6, .long v7.1), (0, .ref (ad 0)), (1, .int x1), (5, .int y1_5)]) hx hb dX7_bestDayFor_60 hl (by decide) rfl (fun ls hl => ?_)
            subst h
            exact J9 _ _ _ hP hS (lv_sub hl [3, 4, 1, 0, 5] rfl)
    exact L1 10000 σ (0 : Int64) (0 : Int32) (1 : Int32) _ _ _ hj3 hP hS (lv_sub hl [3, 4, 2, 1, 0] rfl)
  · replace h := ip c2 h
    refine lv_iconst (v := (0 : Int32)) hx hb dX7_bestDayFor_11 (by decide) ?_
    obtain rfl := Option.some.inj h
    exact ret _ _ _ _ _ dX7_bestDayFor_12 hP hS rfl
def X7_planBest_L1 (n : Nat) (σ_1 : St) (y1_1 : Int32) : Option (Int32 × St) := match n with
  | 0 => none
  | n + 1 =>
    lt (X0_size σ_1 ) fun v3 =>
    if v3 ≤ y1_1 then (
      some (y1_1, σ_1))
    else (
      bd (X0_isA σ_1 y1_1 (2 : Int32)) fun v5 =>
      bd ((
          if v5 = 0 then (
            some σ_1)
          else (
            bd (X7_bestDayFor σ_1 y1_1) fun v8 =>
            bd (wa v8.2 26 9 y1_1 v8.1) fun σ9 =>
            some σ9)) : Option (St)) fun v7 =>
      X7_planBest_L1 n v7 (y1_1 + (1 : Int32)))
theorem X7_planBest_L1_s (n : Nat) (σ_1 : St) (y1_1 : Int32) : X7_planBest_L1 (n + 1) σ_1 y1_1 =
    lt (X0_size σ_1 ) fun v3 =>
    if v3 ≤ y1_1 then (
      some (y1_1, σ_1))
    else (
      bd (X0_isA σ_1 y1_1 (2 : Int32)) fun v5 =>
      bd ((
          if v5 = 0 then (
            some σ_1)
          else (
            bd (X7_bestDayFor σ_1 y1_1) fun v8 =>
            bd (wa v8.2 26 9 y1_1 v8.1) fun σ9 =>
            some σ9)) : Option (St)) fun v7 =>
      X7_planBest_L1 n v7 (y1_1 + (1 : Int32))) := rfl
def X7_planBest (σ : St)  : Option (St) :=
  bd (J7_fill_53178 σ (0 : Int32)) fun v1 =>
  bd (X7_planBest_L1 10000 v1 (0 : Int32)) fun v2 =>
  some v2.2
abbrev rmX7_planBest : Room := { frames := 5, cells := 0, slots := 0, locals := 118 }
set_option maxHeartbeats 4000000 in
set_option maxRecDepth 100000 in
theorem c_X7_planBest (l : Launch) (D : va_G) (ad : Nat → Nat) (cI : ClassId) (hd : HD ad) (σ τ : St) (η : Int64)  (rr : St) (h : X7_planBest σ  = some rr) : MV l yX7_planBest (wy yX7_planBest cX7_planBest 2 none) rmX7_planBest D ad cI [.ref (ad 0)] σ τ η rr τ η := by
  refine mk_v (own := RX7) (lv := [(0, .ref (ad 0))]) (plainFor_of_name (by decide)) rfl (Nat.le_of_ble_eq_true rfl) rfl ?_
  intro p e s m args below meth c Q ls hx hb hml hown htb hK ret hP hS hl
  unfold X7_planBest at h
  refine lv_aload_n hx hb dX7_planBest_0 rfl (lv_at hl 0 rfl) ?_
  refine va_get (D := D) (ci := 7) (v := .ref (ad 26)) (C := RX7) (T := TX7) (N := 11) hx hb htb wu_7 hown hK.1 hP 0 w_0 rfl 7 (by decide) (htb _ wFL_RX7_58) (fun _ h9 => h9) rfl dX7_planBest_1 ?_
  refine lv_iconst (v := (0 : Int32)) hx hb dX7_planBest_4 (by decide) ?_
  obtain ⟨v1, g1, h⟩ := ob h
  refine c_Sv (As := [.ref (ad 26), .int (0 : Int32)]) (rest := []) (A := AA ad) ⟨hx, hb, hml, hown, htb⟩ (c_J7_fill_53178 l D ad cI hd σ τ η (0 : Int32) v1 g1) (va_cwS 2 htb (gdS (fun _ hh => hh) wML_RX7_362 wST_yJ7_fill_53178 wI_RJ7 wC_yJ7_fill_53178) rfl rfl rfl hd_J7_fill_53178.2 ⟨by decide, by decide⟩) hK hP (fun _ hh => hh) hS rfl hl.1 rfl (Nat.le_of_ble_eq_true rfl) dX7_planBest_5 ⟨Nat.le_refl 0, Nat.le_refl 0⟩ (fun H locs hP hS => ?_)
  refine lv_iconst (v := (0 : Int32)) hx hb dX7_planBest_8 (by decide) ?_
  refine lv_istore_n (lv' := [(1, .int (0 : Int32)), (0, .ref (ad 0))]) hx hb dX7_planBest_9 rfl hl (by decide) rfl (fun ls hl => ?_)
  obtain ⟨v2, hj2, h⟩ := ob h
  have K1 : ∀ (H : Heap) (locs : List Loc) (ls : Array Slot), WP D ad cI v2.2 τ η H → va_S (AA ad) s.heap H locs → lv_has ls 2 [] → W p l e rmX7_planBest s m args below meth c H locs 0 0 Q (F0 m 50 ls []) := by
    intro H locs ls hP hS hl
    obtain rfl := Option.some.inj h
    exact ret _ _ _ _ dX7_planBest_50 hP hS
  have L1 : ∀ (n : Nat) (σ_1 : St) (y1_1 : Int32) (H : Heap) (locs : List Loc) (ls : Array Slot), X7_planBest_L1 n σ_1 y1_1 = some v2 → WP D ad cI σ_1 τ η H → va_S (AA ad) s.heap H locs → lv_has ls 2 [(0, .ref (ad 0)), (1, .int y1_1)] → W p l e rmX7_planBest s m args below meth c H locs 0 0 Q (F0 m 10 ls []) := by
    intro n
    induction n with
    | zero => intro σ_1 y1_1 H locs ls h; exact absurd h (by simp [X7_planBest_L1])
    | succ n ih =>
      intro σ_1 y1_1 H locs ls h hP hS hl
      replace h := (X7_planBest_L1_s n σ_1 y1_1).symm.trans h
      refine lv_iload_n hx hb dX7_planBest_10 rfl (lv_at hl 1 rfl) ?_
      refine lv_aload_n hx hb dX7_planBest_11 rfl (lv_at hl 0 rfl) ?_
      refine va_get (D := D) (ci := 7) (v := .ref (ad 1)) (C := RX7) (T := TX7) (N := 11) hx hb htb wu_7 hown hK.1 hP 0 w_0 rfl 0 (by decide) (htb _ wFL_RX7_10) (fun _ h9 => h9) rfl dX7_planBest_12 ?_
      obtain ⟨v3, g3, h⟩ := ol h
      refine c_Vi (q := (RX0, TX0, 6)) (ci := 0) (b := 1) (As := []) (rest := [.int y1_1]) (A := AA ad) ⟨hx, hb, hml, hown, htb⟩ (c_X0_size l D ad cI hd σ_1 τ η  v3 g3) (cwV 0 htb (gdV (fun _ hh => hh) wML_RX7_138 wIM_yX0_size wSE_yX0_size wI_RX0 wC_yX0_size) rfl rfl rfl hd_X0_size ⟨by decide, by decide⟩) hK hP rfl w_1 (fun _ hh => hh) hS rfl hl.1 rfl (Nat.le_of_ble_eq_true rfl) dX7_planBest_15 ⟨Nat.le_refl 0, Nat.le_refl 0⟩ (fun H locs hP hS => ?_)
      refine lv_icmp_ge (tgt := 50) hx hb dX7_planBest_18 (by decide) (fun c4 => ?_) (fun c4 => ?_)
      · replace h := ip c4 h
        obtain rfl := Option.some.inj h
        exact K1 _ _ _ hP hS (lv_sub hl [] rfl)
      · replace h := iq c4 h
        refine lv_aload_n hx hb dX7_planBest_21 rfl (lv_at hl 0 rfl) ?_
        refine va_get (D := D) (ci := 7) (v := .ref (ad 1)) (C := RX7) (T := TX7) (N := 11) hx hb htb wu_7 hown hK.1 hP 0 w_0 rfl 0 (by decide) (htb _ wFL_RX7_10) (fun _ h9 => h9) rfl dX7_planBest_22 ?_
        refine lv_iload_n hx hb dX7_planBest_25 rfl (lv_at hl 1 rfl) ?_
        refine lv_iconst (v := (2 : Int32)) hx hb dX7_planBest_26 (by decide) ?_
        obtain ⟨v5, g5, h⟩ := ob h
        refine c_Vz (q := (RX0, TX0, 6)) (ci := 0) (b := 1) (As := [.int y1_1, .int (2 : Int32)]) (rest := []) (A := AA ad) ⟨hx, hb, hml, hown, htb⟩ (c_X0_isA l D ad cI hd σ_1 τ η y1_1 (2 : Int32) v5 g5) (cwV 2 htb (gdV (fun _ hh => hh) wML_RX7_100 wIM_yX0_isA wSE_yX0_isA wI_RX0 wC_yX0_isA) rfl rfl rfl hd_X0_isA ⟨by decide, by decide⟩) hK hP rfl w_1 (fun _ hh => hh) hS rfl hl.1 rfl (Nat.le_of_ble_eq_true rfl) dX7_planBest_27 ⟨Nat.le_refl 0, Nat.le_refl 0⟩ (fun H locs hz5 hP hS => ?_)
        obtain ⟨v7, hj7, h⟩ := ob h
        have J7 : ∀ (H : Heap) (locs : List Loc) (ls : Array Slot), WP D ad cI v7 τ η H → va_S (AA ad) s.heap H locs → lv_has ls 2 [(0, .ref (ad 0)), (1, .int y1_1)] → W p l e rmX7_planBest s m args below meth c H locs 0 0 Q (F0 m 44 ls []) := by
          intro H locs ls hP hS hl
          refine lv_iinc (v := (y1_1 + (1 : Int32))) (lv' := [(1, .int (y1_1 + (1 : Int32))), (0, .ref (ad 0))]) hx hb dX7_planBest_44 hl (k := 1) rfl rfl (by decide) rfl (fun ls hl => ?_)
          refine lv_goto (tgt := 10) hx hb dX7_planBest_47 (by decide) ?_
          exact ih v7 (y1_1 + (1 : Int32)) _ _ _ h hP hS (lv_sub hl [1, 0] rfl)
        replace h := hj7
        refine lv_if_eq (tgt := 44) hx hb dX7_planBest_30 (by decide) (fun c6 => ?_) (fun c6 => ?_)
        · replace h := ip c6 h
          obtain rfl := Option.some.inj h
          exact J7 _ _ _ hP hS (lv_sub hl [0, 1] rfl)
        · replace h := iq c6 h
          refine lv_aload_n hx hb dX7_planBest_33 rfl (lv_at hl 0 rfl) ?_
          refine va_get (D := D) (ci := 7) (v := .ref (ad 26)) (C := RX7) (T := TX7) (N := 11) hx hb htb wu_7 hown hK.1 hP 0 w_0 rfl 7 (by decide) (htb _ wFL_RX7_58) (fun _ h9 => h9) rfl dX7_planBest_34 ?_
          refine lv_iload_n hx hb dX7_planBest_37 rfl (lv_at hl 1 rfl) ?_
          refine lv_aload_n hx hb dX7_planBest_38 rfl (lv_at hl 0 rfl) ?_
          refine lv_iload_n hx hb dX7_planBest_39 rfl (lv_at hl 1 rfl) ?_
          obtain ⟨v8, g8, h⟩ := ob h
          refine c_Vi (q := (RX7, TX7, 11)) (ci := 7) (b := 0) (As := [.int y1_1]) (rest := [.int y1_1, .ref (ad 26)]) (A := AA ad) ⟨hx, hb, hml, hown, htb⟩ (c_X7_bestDayFor l D ad cI hd σ_1 τ η y1_1 v8 g8) (cwV 1 htb (gdV (fun _ hh => hh) wML_RX7_368 wIM_yX7_bestDayFor wSE_yX7_bestDayFor wI_RX7 wC_yX7_bestDayFor) rfl rfl rfl hd_X7_bestDayFor ⟨by decide, by decide⟩) hK hP rfl w_0 (fun _ hh => hh) hS rfl hl.1 rfl (Nat.le_of_ble_eq_true rfl) dX7_planBest_40 ⟨Nat.le_refl 0, Nat.le_refl 0⟩ (fun H locs hP hS => ?_)
          obtain ⟨σ9, g9, h⟩ := ob h
          refine r_astC (A := AA ad) hx hb hK hd (fun _ hh => hh) hP hS 26 9 (by decide) (fun _ => rfl) g9 dX7_planBest_43 (fun H locs hP hS => ?_)
          obtain rfl := Option.some.inj h
          exact J7 _ _ _ hP hS (lv_sub hl [0, 1] rfl)
  exact L1 10000 v1 (0 : Int32) _ _ _ hj2 hP hS (lv_sub hl [1, 0] rfl)
def X7_best (σ : St) (x1 : Int32) : Option (Int64 × St) :=
  lt ((
      if x1 < (10 : Int32) then (
        (0 : Int32))
      else (
        if (19 : Int32) ≤ x1 then (
          (0 : Int32))
        else (
          (1 : Int32)))) : Int32) fun v2 =>
  lt (X7_isPart  x1) fun v4 =>
  if v4 = 0 then (
    if v2 = 0 then (
      some ((-102 : Int64), σ))
    else (
      bd (X0_howMany σ (2 : Int32)) fun v18 =>
      if (4 : Int32) < v18 then (
        some ((-103 : Int64), σ))
      else (
        if (σ 0 10) < (40 : Int32) then (
          lt (s2 σ 0 10 ((σ 0 10) + (1 : Int32))) fun σ21 =>
          bd (X7_planBest σ21 ) fun v22 =>
          if v2 = 0 then (
            bd (X7_planWays v22 ) fun v24 =>
            bd (X7_knownPart v24.2 v24.1 x1) fun v25 =>
            some (v25, v24.2))
          else (
            lt (X0_has v22 (x1 - (10 : Int32))) fun v26 =>
            if v26 = 0 then (
              some ((-1 : Int64), v22))
            else (
              bd (rd (v22 26) 9 (x1 - (10 : Int32))) fun v28 =>
              some (((v28).toInt64), v22))))
        else (
          some ((-103 : Int64), σ)))))
  else (
    bd (X0_howMany σ (2 : Int32)) fun v6 =>
    if (4 : Int32) < v6 then (
      some ((-103 : Int64), σ))
    else (
      if (σ 0 10) < (40 : Int32) then (
        lt (s2 σ 0 10 ((σ 0 10) + (1 : Int32))) fun σ9 =>
        bd (X7_planBest σ9 ) fun v10 =>
        if v2 = 0 then (
          bd (X7_planWays v10 ) fun v12 =>
          bd (X7_knownPart v12.2 v12.1 x1) fun v13 =>
          some (v13, v12.2))
        else (
          lt (X0_has v10 (x1 - (10 : Int32))) fun v14 =>
          if v14 = 0 then (
            some ((-1 : Int64), v10))
          else (
            bd (rd (v10 26) 9 (x1 - (10 : Int32))) fun v16 =>
            some (((v16).toInt64), v10))))
      else (
        some ((-103 : Int64), σ))))
abbrev rmX7_best : Room := { frames := 6, cells := 0, slots := 0, locals := 139 }
set_option maxHeartbeats 4000000 in
set_option maxRecDepth 100000 in
theorem c_X7_best (l : Launch) (D : va_G) (ad : Nat → Nat) (cI : ClassId) (hd : HD ad) (σ τ : St) (η : Int64) (x1 : Int32) (rr : Int64 × St) (h : X7_best σ x1 = some rr) : ML l yX7_best (wy yX7_best cX7_best 4 (some .long)) rmX7_best D ad cI [.ref (ad 0), .int x1] σ τ η rr.1 rr.2 τ η := by
  refine mk_l (own := RX7) (lv := [(0, .ref (ad 0)), (1, .int x1)]) (plainFor_of_name (by decide)) rfl (Nat.le_of_ble_eq_true rfl) rfl ?_
  intro p e s m args below meth c Q ls hx hb hml hown htb hK ret hP hS hl
  unfold X7_best at h
  refine lv_iload_n hx hb dX7_best_0 rfl (lv_at hl 1 rfl) ?_
  refine lv_bipush (v := (10 : Int32)) hx hb dX7_best_1 (by decide) ?_
  obtain ⟨v2, hj2, h⟩ := ol h
  have J2 : ∀ (H : Heap) (locs : List Loc) (ls : Array Slot), WP D ad cI σ τ η H → va_S (AA ad) s.heap H locs → lv_has ls 4 [(0, .ref (ad 0)), (1, .int x1)] → W p l e rmX7_best s m args below meth c H locs 0 0 Q (F0 m 17 ls [.int v2]) := by
    intro H locs ls hP hS hl
    refine lv_istore_n (lv' := [(2, .int v2), (0, .ref (ad 0)), (1, .int x1)]) hx hb dX7_best_17 rfl hl (by decide) rfl (fun ls hl => ?_)
    refine lv_iload_n hx hb dX7_best_18 rfl (lv_at hl 2 rfl) ?_
    obtain ⟨v4, g4, h⟩ := ol h
    refine c_Sz (As := [.int x1]) (rest := []) (A := AA ad) ⟨hx, hb, hml, hown, htb⟩ (c_X7_isPart l D ad cI hd σ τ η x1 v4 g4) (va_cwS 1 htb (gdS (fun _ hh => hh) wML_RX7_170 wST_yX7_isPart wI_RX7 wC_yX7_isPart) rfl rfl rfl hd_X7_isPart.2 ⟨by decide, by decide⟩) hK hP (fun _ hh => hh) hS rfl hl.1 rfl (Nat.le_of_ble_eq_true rfl) dX7_best_19 ⟨Nat.le_refl 0, Nat.le_refl 0⟩ (fun H locs hz4 hP hS => ?_)
    refine lv_if_ne (tgt := 33) hx hb dX7_best_22 (by decide) (fun c5 => ?_) (fun c5 => ?_)
    · replace h := iq c5 h
      refine lv_aload_n hx hb dX7_best_33 rfl (lv_at hl 1 rfl) ?_
      refine va_get (D := D) (ci := 7) (v := .ref (ad 1)) (C := RX7) (T := TX7) (N := 11) hx hb htb wu_7 hown hK.1 hP 0 w_0 rfl 0 (by decide) (htb _ wFL_RX7_10) (fun _ h9 => h9) rfl dX7_best_34 ?_
      refine lv_iconst (v := (2 : Int32)) hx hb dX7_best_37 (by decide) ?_
      obtain ⟨v6, g6, h⟩ := ob h
      refine c_Vi (q := (RX0, TX0, 6)) (ci := 0) (b := 1) (As := [.int (2 : Int32)]) (rest := []) (A := AA ad) ⟨hx, hb, hml, hown, htb⟩ (c_X0_howMany l D ad cI hd σ τ η (2 : Int32) v6 g6) (cwV 1 htb (gdV (fun _ hh => hh) wML_RX7_202 wIM_yX0_howMany wSE_yX0_howMany wI_RX0 wC_yX0_howMany) rfl rfl rfl hd_X0_howMany ⟨by decide, by decide⟩) hK hP rfl w_1 (fun _ hh => hh) hS rfl hl.1 rfl (Nat.le_of_ble_eq_true rfl) dX7_best_38 ⟨Nat.le_refl 0, Nat.le_refl 0⟩ (fun H locs hP hS => ?_)
      refine lv_iconst (v := (4 : Int32)) hx hb dX7_best_41 (by decide) ?_
      refine lv_icmp_gt (tgt := 54) hx hb dX7_best_42 (by decide) (fun c7 => ?_) (fun c7 => ?_)
      · replace h := ip c7 h
        refine lv_ldc2 (v := (-103 : Int64)) hx hb hown (htb _ wKL_RX7_205) dX7_best_54 ?_
        obtain rfl := Option.some.inj h
        exact ret _ _ _ _ _ dX7_best_57 hP hS rfl
      · replace h := iq c7 h
        refine lv_aload_n hx hb dX7_best_45 rfl (lv_at hl 1 rfl) ?_
        refine va_get (D := D) (ci := 7) (v := .int (σ 0 10)) (C := RX7) (T := TX7) (N := 11) hx hb htb wu_7 hown hK.1 hP 0 w_0 rfl 10 (by decide) (htb _ wFL_RX7_69) (fun _ h9 => h9) rfl dX7_best_46 ?_
        refine lv_bipush (v := (40 : Int32)) hx hb dX7_best_49 (by decide) ?_
        refine lv_icmp_lt (tgt := 58) hx hb dX7_best_51 (by decide) (fun c8 => ?_) (fun c8 => ?_)
        · replace h := ip c8 h
          refine lv_aload_n hx hb dX7_best_58 rfl (lv_at hl 1 rfl) ?_
          refine lv_dup hx hb dX7_best_59 rfl ?_
          refine va_get (D := D) (ci := 7) (v := .int (σ 0 10)) (C := RX7) (T := TX7) (N := 11) hx hb htb wu_7 hown hK.1 hP 0 w_0 rfl 10 (by decide) (htb _ wFL_RX7_69) (fun _ h9 => h9) rfl dX7_best_60 ?_
          refine lv_iconst (v := (1 : Int32)) hx hb dX7_best_63 (by decide) ?_
          refine lv_iadd hx hb dX7_best_64 ?_
          obtain ⟨σ9, g9, h⟩ := ol h
          refine r_putC (ci := 7) (C := RX7) (T := TX7) (N := 11) (A := AA ad) hx hb htb wu_7 tyX7 tyX7_ok nmX7 hown hK hd (fun _ hh => hh) hP hS 0 (by decide) 10 rfl rfl rfl (by decide) (htb _ wFL_RX7_69) rfl rfl (by decide +kernel) (Nat.le_of_ble_eq_true rfl) dX7_best_65 (fun H locs hP hS => ?_)
          rw [g9] at hP
          refine lv_aload_n hx hb dX7_best_68 rfl (lv_at hl 1 rfl) ?_
          obtain ⟨v10, g10, h⟩ := ob h
          refine c_Vv (q := (RX7, TX7, 11)) (ci := 7) (b := 0) (As := []) (rest := []) (A := AA ad) ⟨hx, hb, hml, hown, htb⟩ (c_X7_planBest l D ad cI hd σ9 τ η  v10 g10) (cwV 0 htb (gdV (fun _ hh => hh) wML_RX7_207 wIM_yX7_planBest wSE_yX7_planBest wI_RX7 wC_yX7_planBest) rfl rfl rfl hd_X7_planBest ⟨by decide, by decide⟩) hK hP rfl w_0 (fun _ hh => hh) hS rfl hl.1 rfl (Nat.le_of_ble_eq_true rfl) dX7_best_69 ⟨Nat.le_refl 0, Nat.le_refl 0⟩ (fun H locs hP hS => ?_)
          refine lv_iload_n hx hb dX7_best_72 rfl (lv_at hl 0 rfl) ?_
          refine lv_if_eq (tgt := 106) hx hb dX7_best_73 (by decide) (fun c11 => ?_) (fun c11 => ?_)
          · replace h := ip c11 h
            refine lv_aload_n hx hb dX7_best_106 rfl (lv_at hl 1 rfl) ?_
            refine lv_aload_n hx hb dX7_best_107 rfl (lv_at hl 1 rfl) ?_
            obtain ⟨v12, g12, h⟩ := ob h
            refine c_Vl (q := (RX7, TX7, 11)) (ci := 7) (b := 0) (As := []) (rest := [.ref (ad 0)]) (A := AA ad) ⟨hx, hb, hml, hown, htb⟩ (c_X7_planWays l D ad cI hd v10 τ η  v12 g12) (cwV 0 htb (gdV (fun _ hh => hh) wML_RX7_210 wIM_yX7_planWays wSE_yX7_planWays wI_RX7 wC_yX7_planWays) rfl rfl rfl hd_X7_planWays ⟨by decide, by decide⟩) hK hP rfl w_0 (fun _ hh => hh) hS rfl hl.1 rfl (Nat.le_of_ble_eq_true rfl) dX7_best_108 ⟨Nat.le_refl 0, Nat.le_refl 0⟩ (fun H locs hP hS => ?_)
            refine lv_iload_n hx hb dX7_best_111 rfl (lv_at hl 2 rfl) ?_
            obtain ⟨v13, g13, h⟩ := ob h
            refine c_Vl (q := (RX7, TX7, 11)) (ci := 7) (b := 0) (As := [.long v12.1, .int x1]) (rest := []) (A := AA ad) ⟨hx, hb, hml, hown, htb⟩ (c_X7_knownPart l D ad cI hd v12.2 τ η v12.1 x1 v13 g13) (cwV 2 htb (gdV (fun _ hh => hh) wML_RX7_179 wIM_yX7_knownPart wSE_yX7_knownPart wI_RX7 wC_yX7_knownPart) rfl rfl rfl hd_X7_knownPart ⟨by decide, by decide⟩) hK hP rfl w_0 (fun _ hh => hh) hS rfl hl.1 rfl (Nat.le_of_ble_eq_true rfl) dX7_best_112 ⟨Nat.le_refl 0, Nat.le_refl 0⟩ (fun H locs hP hS => ?_)
            obtain rfl := Option.some.inj h
            exact ret _ _ _ _ _ dX7_best_115 hP hS rfl
          · replace h := iq c11 h
            refine lv_iload_n hx hb dX7_best_76 rfl (lv_at hl 2 rfl) ?_
            refine lv_bipush (v := (10 : Int32)) hx hb dX7_best_77 (by decide) ?_
            refine lv_isub hx hb dX7_best_79 ?_
            refine lv_istore_n (lv' := [(3, .int (x1 - (10 : Int32))), (2, .int v2), (0, .ref (ad 0)), (1, .int x1)]) hx hb dX7_best_80 rfl hl (by decide) rfl (fun ls hl => ?_)
            refine lv_aload_n hx hb dX7_best_81 rfl (lv_at hl 2 rfl) ?_
            refine va_get (D := D) (ci := 7) (v := .ref (ad 1)) (C := RX7) (T := TX7) (N := 11) hx hb htb wu_7 hown hK.1 hP 0 w_0 rfl 0 (by decide) (htb _ wFL_RX7_10) (fun _ h9 => h9) rfl dX7_best_82 ?_
            refine lv_iload_n hx hb dX7_best_85 rfl (lv_at hl 0 rfl) ?_
            obtain ⟨v14, g14, h⟩ := ol h
            refine c_Vz (q := (RX0, TX0, 6)) (ci := 0) (b := 1) (As := [.int (x1 - (10 : Int32))]) (rest := []) (A := AA ad) ⟨hx, hb, hml, hown, htb⟩ (c_X0_has l D ad cI hd v10 τ η (x1 - (10 : Int32)) v14 g14) (cwV 1 htb (gdV (fun _ hh => hh) wML_RX7_84 wIM_yX0_has wSE_yX0_has wI_RX0 wC_yX0_has) rfl rfl rfl hd_X0_has ⟨by decide, by decide⟩) hK hP rfl w_1 (fun _ hh => hh) hS rfl hl.1 rfl (Nat.le_of_ble_eq_true rfl) dX7_best_86 ⟨Nat.le_refl 0, Nat.le_refl 0⟩ (fun H locs hz14 hP hS => ?_)
            refine lv_if_eq (tgt := 102) hx hb dX7_best_89 (by decide) (fun c15 => ?_) (fun c15 => ?_)
            · replace h := ip c15 h
              refine lv_ldc2 (v := (-1 : Int64)) hx hb hown (htb _ wKL_RX7_189) dX7_best_102 ?_
              obtain rfl := Option.some.inj h
              exact ret _ _ _ _ _ dX7_best_105 hP hS rfl
            · replace h := iq c15 h
              refine lv_aload_n hx hb dX7_best_92 rfl (lv_at hl 2 rfl) ?_
              refine va_get (D := D) (ci := 7) (v := .ref (ad 26)) (C := RX7) (T := TX7) (N := 11) hx hb htb wu_7 hown hK.1 hP 0 w_0 rfl 7 (by decide) (htb _ wFL_RX7_58) (fun _ h9 => h9) rfl dX7_best_93 ?_
              refine lv_iload_n hx hb dX7_best_96 rfl (lv_at hl 0 rfl) ?_
              obtain ⟨v16, g16, h⟩ := ob h
              refine r_ald hx hb hK hP 26 w_26 g16 dX7_best_97 ?_
              refine lv_i2l (v := ((v16).toInt64)) hx hb dX7_best_98 rfl ?_
              refine lv_goto (tgt := 105) hx hb dX7_best_99 (by decide) ?_
              obtain rfl := Option.some.inj h
              exact ret _ _ _ _ _ dX7_best_105 hP hS rfl
        · replace h := iq c8 h
          refine lv_ldc2 (v := (-103 : Int64)) hx hb hown (htb _ wKL_RX7_205) dX7_best_54 ?_
          obtain rfl := Option.some.inj h
          exact ret _ _ _ _ _ dX7_best_57 hP hS rfl
    · replace h := ip c5 h
      refine lv_iload_n hx hb dX7_best_25 rfl (lv_at hl 0 rfl) ?_
      refine lv_if_ne (tgt := 33) hx hb dX7_best_26 (by decide) (fun c17 => ?_) (fun c17 => ?_)
      · replace h := iq c17 h
        refine lv_aload_n hx hb dX7_best_33 rfl (lv_at hl 1 rfl) ?_
        refine va_get (D := D) (ci := 7) (v := .ref (ad 1)) (C := RX7) (T := TX7) (N := 11) hx hb htb wu_7 hown hK.1 hP 0 w_0 rfl 0 (by decide) (htb _ wFL_RX7_10) (fun _ h9 => h9) rfl dX7_best_34 ?_
        refine lv_iconst (v := (2 : Int32)) hx hb dX7_best_37 (by decide) ?_
        obtain ⟨v18, g18, h⟩ := ob h
        refine c_Vi (q := (RX0, TX0, 6)) (ci := 0) (b := 1) (As := [.int (2 : Int32)]) (rest := []) (A := AA ad) ⟨hx, hb, hml, hown, htb⟩ (c_X0_howMany l D ad cI hd σ τ η (2 : Int32) v18 g18) (cwV 1 htb (gdV (fun _ hh => hh) wML_RX7_202 wIM_yX0_howMany wSE_yX0_howMany wI_RX0 wC_yX0_howMany) rfl rfl rfl hd_X0_howMany ⟨by decide, by decide⟩) hK hP rfl w_1 (fun _ hh => hh) hS rfl hl.1 rfl (Nat.le_of_ble_eq_true rfl) dX7_best_38 ⟨Nat.le_refl 0, Nat.le_refl 0⟩ (fun H locs hP hS => ?_)
        refine lv_iconst (v := (4 : Int32)) hx hb dX7_best_41 (by decide) ?_
        refine lv_icmp_gt (tgt := 54) hx hb dX7_best_42 (by decide) (fun c19 => ?_) (fun c19 => ?_)
        · replace h := ip c19 h
          refine lv_ldc2 (v := (-103 : Int64)) hx hb hown (htb _ wKL_RX7_205) dX7_best_54 ?_
          obtain rfl := Option.some.inj h
          exact ret _ _ _ _ _ dX7_best_57 hP hS rfl
        · replace h := iq c19 h
          refine lv_aload_n hx hb dX7_best_45 rfl (lv_at hl 1 rfl) ?_
          refine va_get (D := D) (ci := 7) (v := .int (σ 0 10)) (C := RX7) (T := TX7) (N := 11) hx hb htb wu_7 hown hK.1 hP 0 w_0 rfl 10 (by decide) (htb _ wFL_RX7_69) (fun _ h9 => h9) rfl dX7_best_46 ?_
          refine lv_bipush (v := (40 : Int32)) hx hb dX7_best_49 (by decide) ?_
          refine lv_icmp_lt (tgt := 58) hx hb dX7_best_51 (by decide) (fun c20 => ?_) (fun c20 => ?_)
          · replace h := ip c20 h
            refine lv_aload_n hx hb dX7_best_58 rfl (lv_at hl 1 rfl) ?_
            refine lv_dup hx hb dX7_best_59 rfl ?_
            refine va_get (D := D) (ci := 7) (v := .int (σ 0 10)) (C := RX7) (T := TX7) (N := 11) hx hb htb wu_7 hown hK.1 hP 0 w_0 rfl 10 (by decide) (htb _ wFL_RX7_69) (fun _ h9 => h9) rfl dX7_best_60 ?_
            refine lv_iconst (v := (1 : Int32)) hx hb dX7_best_63 (by decide) ?_
            refine lv_iadd hx hb dX7_best_64 ?_
            obtain ⟨σ21, g21, h⟩ := ol h
            refine r_putC (ci := 7) (C := RX7) (T := TX7) (N := 11) (A := AA ad) hx hb htb wu_7 tyX7 tyX7_ok nmX7 hown hK hd (fun _ hh => hh) hP hS 0 (by decide) 10 rfl rfl rfl (by decide) (htb _ wFL_RX7_69) rfl rfl (by decide +kernel) (Nat.le_of_ble_eq_true rfl) dX7_best_65 (fun H locs hP hS => ?_)
            rw [g21] at hP
            refine lv_aload_n hx hb dX7_best_68 rfl (lv_at hl 1 rfl) ?_
            obtain ⟨v22, g22, h⟩ := ob h
            refine c_Vv (q := (RX7, TX7, 11)) (ci := 7) (b := 0) (As := []) (rest := []) (A := AA ad) ⟨hx, hb, hml, hown, htb⟩ (c_X7_planBest l D ad cI hd σ21 τ η  v22 g22) (cwV 0 htb (gdV (fun _ hh => hh) wML_RX7_207 wIM_yX7_planBest wSE_yX7_planBest wI_RX7 wC_yX7_planBest) rfl rfl rfl hd_X7_planBest ⟨by decide, by decide⟩) hK hP rfl w_0 (fun _ hh => hh) hS rfl hl.1 rfl (Nat.le_of_ble_eq_true rfl) dX7_best_69 ⟨Nat.le_refl 0, Nat.le_refl 0⟩ (fun H locs hP hS => ?_)
            refine lv_iload_n hx hb dX7_best_72 rfl (lv_at hl 0 rfl) ?_
            refine lv_if_eq (tgt := 106) hx hb dX7_best_73 (by decide) (fun c23 => ?_) (fun c23 => ?_)
            · replace h := ip c23 h
              refine lv_aload_n hx hb dX7_best_106 rfl (lv_at hl 1 rfl) ?_
              refine lv_aload_n hx hb dX7_best_107 rfl (lv_at hl 1 rfl) ?_
              obtain ⟨v24, g24, h⟩ := ob h
              refine c_Vl (q := (RX7, TX7, 11)) (ci := 7) (b := 0) (As := []) (rest := [.ref (ad 0)]) (A := AA ad) ⟨hx, hb, hml, hown, htb⟩ (c_X7_planWays l D ad cI hd v22 τ η  v24 g24) (cwV 0 htb (gdV (fun _ hh => hh) wML_RX7_210 wIM_yX7_planWays wSE_yX7_planWays wI_RX7 wC_yX7_planWays) rfl rfl rfl hd_X7_planWays ⟨by decide, by decide⟩) hK hP rfl w_0 (fun _ hh => hh) hS rfl hl.1 rfl (Nat.le_of_ble_eq_true rfl) dX7_best_108 ⟨Nat.le_refl 0, Nat.le_refl 0⟩ (fun H locs hP hS => ?_)
              refine lv_iload_n hx hb dX7_best_111 rfl (lv_at hl 2 rfl) ?_
              obtain ⟨v25, g25, h⟩ := ob h
              refine c_Vl (q := (RX7, TX7, 11)) (ci := 7) (b := 0) (As := [.long v24.1, .int x1]) (rest := []) (A := AA ad) ⟨hx, hb, hml, hown, htb⟩ (c_X7_knownPart l D ad cI hd v24.2 τ η v24.1 x1 v25 g25) (cwV 2 htb (gdV (fun _ hh => hh) wML_RX7_179 wIM_yX7_knownPart wSE_yX7_knownPart wI_RX7 wC_yX7_knownPart) rfl rfl rfl hd_X7_knownPart ⟨by decide, by decide⟩) hK hP rfl w_0 (fun _ hh => hh) hS rfl hl.1 rfl (Nat.le_of_ble_eq_true rfl) dX7_best_112 ⟨Nat.le_refl 0, Nat.le_refl 0⟩ (fun H locs hP hS => ?_)
              obtain rfl := Option.some.inj h
              exact ret _ _ _ _ _ dX7_best_115 hP hS rfl
            · replace h := iq c23 h
              refine lv_iload_n hx hb dX7_best_76 rfl (lv_at hl 2 rfl) ?_
              refine lv_bipush (v := (10 : Int32)) hx hb dX7_best_77 (by decide) ?_
              refine lv_isub hx hb dX7_best_79 ?_
              refine lv_istore_n (lv' := [(3, .int (x1 - (10 : Int32))), (2, .int v2), (0, .ref (ad 0)), (1, .int x1)]) hx hb dX7_best_80 rfl hl (by decide) rfl (fun ls hl => ?_)
              refine lv_aload_n hx hb dX7_best_81 rfl (lv_at hl 2 rfl) ?_
              refine va_get (D := D) (ci := 7) (v := .ref (ad 1)) (C := RX7) (T := TX7) (N := 11) hx hb htb wu_7 hown hK.1 hP 0 w_0 rfl 0 (by decide) (htb _ wFL_RX7_10) (fun _ h9 => h9) rfl dX7_best_82 ?_
              refine lv_iload_n hx hb dX7_best_85 rfl (lv_at hl 0 rfl) ?_
              obtain ⟨v26, g26, h⟩ := ol h
              refine c_Vz (q := (RX0, TX0, 6)) (ci := 0) (b := 1) (As := [.int (x1 - (10 : Int32))]) (rest := []) (A := AA ad) ⟨hx, hb, hml, hown, htb⟩ (c_X0_has l D ad cI hd v22 τ η (x1 - (10 : Int32)) v26 g26) (cwV 1 htb (gdV (fun _ hh => hh) wML_RX7_84 wIM_yX0_has wSE_yX0_has wI_RX0 wC_yX0_has) rfl rfl rfl hd_X0_has ⟨by decide, by decide⟩) hK hP rfl w_1 (fun _ hh => hh) hS rfl hl.1 rfl (Nat.le_of_ble_eq_true rfl) dX7_best_86 ⟨Nat.le_refl 0, Nat.le_refl 0⟩ (fun H locs hz26 hP hS => ?_)
              refine lv_if_eq (tgt := 102) hx hb dX7_best_89 (by decide) (fun c27 => ?_) (fun c27 => ?_)
              · replace h := ip c27 h
                refine lv_ldc2 (v := (-1 : Int64)) hx hb hown (htb _ wKL_RX7_189) dX7_best_102 ?_
                obtain rfl := Option.some.inj h
                exact ret _ _ _ _ _ dX7_best_105 hP hS rfl
              · replace h := iq c27 h
                refine lv_aload_n hx hb dX7_best_92 rfl (lv_at hl 2 rfl) ?_
                refine va_get (D := D) (ci := 7) (v := .ref (ad 26)) (C := RX7) (T := TX7) (N := 11) hx hb htb wu_7 hown hK.1 hP 0 w_0 rfl 7 (by decide) (htb _ wFL_RX7_58) (fun _ h9 => h9) rfl dX7_best_93 ?_
                refine lv_iload_n hx hb dX7_best_96 rfl (lv_at hl 0 rfl) ?_
                obtain ⟨v28, g28, h⟩ := ob h
                refine r_ald hx hb hK hP 26 w_26 g28 dX7_best_97 ?_
                refine lv_i2l (v := ((v28).toInt64)) hx hb dX7_best_98 rfl ?_
                refine lv_goto (tgt := 105) hx hb dX7_best_99 (by decide) ?_
                obtain rfl := Option.some.inj h
                exact ret _ _ _ _ _ dX7_best_105 hP hS rfl
          · replace h := iq c20 h
            refine lv_ldc2 (v := (-103 : Int64)) hx hb hown (htb _ wKL_RX7_205) dX7_best_54 ?_
            obtain rfl := Option.some.inj h
            exact ret _ _ _ _ _ dX7_best_57 hP hS rfl
      · replace h := ip c17 h
        refine lv_ldc2 (v := (-102 : Int64)) hx hb hown (htb _ wKL_RX7_173) dX7_best_29 ?_
        obtain rfl := Option.some.inj h
        exact ret _ _ _ _ _ dX7_best_32 hP hS rfl
  replace h := hj2
  refine lv_icmp_lt (tgt := 16) hx hb dX7_best_3 (by decide) (fun c1 => ?_) (fun c1 => ?_)
  · replace h := ip c1 h
    refine lv_iconst (v := (0 : Int32)) hx hb dX7_best_16 (by decide) ?_
    subst h
    exact J2 _ _ _ hP hS (lv_sub hl [0, 1] rfl)
  · replace h := iq c1 h
    refine lv_iload_n hx hb dX7_best_6 rfl (lv_at hl 1 rfl) ?_
    refine lv_bipush (v := (19 : Int32)) hx hb dX7_best_7 (by decide) ?_
    refine lv_icmp_ge (tgt := 16) hx hb dX7_best_9 (by decide) (fun c3 => ?_) (fun c3 => ?_)
    · replace h := ip c3 h
      refine lv_iconst (v := (0 : Int32)) hx hb dX7_best_16 (by decide) ?_
      subst h
      exact J2 _ _ _ hP hS (lv_sub hl [0, 1] rfl)
    · replace h := iq c3 h
      refine lv_iconst (v := (1 : Int32)) hx hb dX7_best_12 (by decide) ?_
      refine lv_goto (tgt := 17) hx hb dX7_best_13 (by decide) ?_
      subst h
      exact J2 _ _ _ hP hS (lv_sub hl [0, 1] rfl)
def X8_neededMany_L1 (n : Nat) (τ_1 : St) (y1_1 : Int32) (y1_2 : Int32) : Option (Int32 × Int32 × St) := match n with
  | 0 => none
  | n + 1 =>
    if (τ_1 29 0) ≤ y1_2 then (
      some (y1_1, y1_2, τ_1))
    else (
      bd (rd (τ_1 30) 9 y1_2) fun v3 =>
      lt (X8_isNeeded  v3) fun v4 =>
      bd ((
          if v4 = 0 then (
            some (y1_1, τ_1))
          else (
            bd (wa τ_1 39 9 y1_1 y1_2) fun τ7 =>
            some ((y1_1 + (1 : Int32)), τ7))) : Option (Int32 × St)) fun v6 =>
      X8_neededMany_L1 n v6.2 v6.1 (y1_2 + (1 : Int32)))
theorem X8_neededMany_L1_s (n : Nat) (τ_1 : St) (y1_1 : Int32) (y1_2 : Int32) : X8_neededMany_L1 (n + 1) τ_1 y1_1 y1_2 =
    if (τ_1 29 0) ≤ y1_2 then (
      some (y1_1, y1_2, τ_1))
    else (
      bd (rd (τ_1 30) 9 y1_2) fun v3 =>
      lt (X8_isNeeded  v3) fun v4 =>
      bd ((
          if v4 = 0 then (
            some (y1_1, τ_1))
          else (
            bd (wa τ_1 39 9 y1_1 y1_2) fun τ7 =>
            some ((y1_1 + (1 : Int32)), τ7))) : Option (Int32 × St)) fun v6 =>
      X8_neededMany_L1 n v6.2 v6.1 (y1_2 + (1 : Int32))) := rfl
def X8_neededMany (τ : St)  : Option (Int32 × St) :=
  bd (X8_neededMany_L1 10000 τ (0 : Int32) (0 : Int32)) fun v1 =>
  some (v1.1, v1.2.2)
abbrev rmX8_neededMany : Room := { frames := 1, cells := 0, slots := 0, locals := 20 }
set_option maxHeartbeats 4000000 in
set_option maxRecDepth 100000 in
theorem c_X8_neededMany (l : Launch) (D : va_G) (ad : Nat → Nat) (cI : ClassId) (hd : HD ad) (σ τ : St) (η : Int64)  (rr : Int32 × St) (h : X8_neededMany τ  = some rr) : MI l yX8_neededMany (wy yX8_neededMany cX8_neededMany 3 (some .int)) rmX8_neededMany D ad cI [.ref (ad 29)] σ τ η rr.1 σ rr.2 η := by
  refine mk_i (own := RX8) (lv := [(0, .ref (ad 29))]) (plainFor_of_name (by decide)) rfl (Nat.le_of_ble_eq_true rfl) rfl ?_
  intro p e s m args below meth c Q ls hx hb hml hown htb hK ret hP hS hl
  unfold X8_neededMany at h
  refine lv_iconst (v := (0 : Int32)) hx hb dX8_neededMany_0 (by decide) ?_
  refine lv_istore_n (lv' := [(1, .int (0 : Int32)), (0, .ref (ad 29))]) hx hb dX8_neededMany_1 rfl hl (by decide) rfl (fun ls hl => ?_)
  refine lv_iconst (v := (0 : Int32)) hx hb dX8_neededMany_2 (by decide) ?_
  refine lv_istore_n (lv' := [(2, .int (0 : Int32)), (1, .int (0 : Int32)), (0, .ref (ad 29))]) hx hb dX8_neededMany_3 rfl hl (by decide) rfl (fun ls hl => ?_)
  obtain ⟨v1, hj1, h⟩ := ob h
  have K1 : ∀ (H : Heap) (locs : List Loc) (ls : Array Slot), WP D ad cI σ v1.2.2 η H → va_S (AA ad) s.heap H locs → lv_has ls 3 [(1, .int v1.1)] → W p l e rmX8_neededMany s m args below meth c H locs 0 0 Q (F0 m 40 ls []) := by
    intro H locs ls hP hS hl
    refine lv_iload_n hx hb dX8_neededMany_40 rfl (lv_at hl 0 rfl) ?_
    obtain rfl := Option.some.inj h
    exact ret _ _ _ _ _ dX8_neededMany_41 hP hS rfl
  have L1 : ∀ (n : Nat) (τ_1 : St) (y1_1 : Int32) (y1_2 : Int32) (H : Heap) (locs : List Loc) (ls : Array Slot), X8_neededMany_L1 n τ_1 y1_1 y1_2 = some v1 → WP D ad cI σ τ_1 η H → va_S (AA ad) s.heap H locs → lv_has ls 3 [(0, .ref (ad 29)), (1, .int y1_1), (2, .int y1_2)] → W p l e rmX8_neededMany s m args below meth c H locs 0 0 Q (F0 m 4 ls []) := by
    intro n
    induction n with
    | zero => intro τ_1 y1_1 y1_2 H locs ls h; exact absurd h (by simp [X8_neededMany_L1])
    | succ n ih =>
      intro τ_1 y1_1 y1_2 H locs ls h hP hS hl
      replace h := (X8_neededMany_L1_s n τ_1 y1_1 y1_2).symm.trans h
      refine lv_iload_n hx hb dX8_neededMany_4 rfl (lv_at hl 2 rfl) ?_
      refine lv_aload_n hx hb dX8_neededMany_5 rfl (lv_at hl 0 rfl) ?_
      refine va_get (D := D) (ci := 8) (v := .int (τ_1 29 0)) (C := RX8) (T := TX8) (N := 27) hx hb htb wu_8 hown hK.1 hP 29 w_29 rfl 0 (by decide) (htb _ wFL_RX8_62) (fun _ h9 => h9) rfl dX8_neededMany_6 ?_
      refine lv_icmp_ge (tgt := 40) hx hb dX8_neededMany_9 (by decide) (fun c2 => ?_) (fun c2 => ?_)
      · replace h := ip c2 h
        obtain rfl := Option.some.inj h
        exact K1 _ _ _ hP hS (lv_sub hl [1] rfl)
      · replace h := iq c2 h
        refine lv_aload_n hx hb dX8_neededMany_12 rfl (lv_at hl 0 rfl) ?_
        refine va_get (D := D) (ci := 8) (v := .ref (ad 30)) (C := RX8) (T := TX8) (N := 27) hx hb htb wu_8 hown hK.1 hP 29 w_29 rfl 1 (by decide) (htb _ wFL_RX8_7) (fun _ h9 => h9) rfl dX8_neededMany_13 ?_
        refine lv_iload_n hx hb dX8_neededMany_16 rfl (lv_at hl 2 rfl) ?_
        obtain ⟨v3, g3, h⟩ := ob h
        refine r_ald hx hb hK hP 30 w_30 g3 dX8_neededMany_17 ?_
        obtain ⟨v4, g4, h⟩ := ol h
        refine c_Sz (As := [.int v3]) (rest := []) (A := AA ad) ⟨hx, hb, hml, hown, htb⟩ (c_X8_isNeeded l D ad cI hd σ τ_1 η v3 v4 g4) (va_cwS 1 htb (gdS (fun _ hh => hh) wML_RX8_71 wST_yX8_isNeeded wI_RX8 wC_yX8_isNeeded) rfl rfl rfl hd_X8_isNeeded.2 ⟨by decide, by decide⟩) hK hP (fun _ hh => hh) hS rfl hl.1 rfl (Nat.le_of_ble_eq_true rfl) dX8_neededMany_18 ⟨Nat.le_refl 0, Nat.le_refl 0⟩ (fun H locs hz4 hP hS => ?_)
        obtain ⟨v6, hj6, h⟩ := ob h
        have J6 : ∀ (H : Heap) (locs : List Loc) (ls : Array Slot), WP D ad cI σ v6.2 η H → va_S (AA ad) s.heap H locs → lv_has ls 3 [(0, .ref (ad 29)), (1, .int v6.1), (2, .int y1_2)] → W p l e rmX8_neededMany s m args below meth c H locs 0 0 Q (F0 m 34 ls []) := by
          intro H locs ls hP hS hl
          refine lv_iinc (v := (y1_2 + (1 : Int32))) (lv' := [(2, .int (y1_2 + (1 : Int32))), (0, .ref (ad 29)), (1, .int v6.1)]) hx hb dX8_neededMany_34 hl (k := 2) rfl rfl (by decide) rfl (fun ls hl => ?_)
          refine lv_goto (tgt := 4) hx hb dX8_neededMany_37 (by decide) ?_
          exact ih v6.2 v6.1 (y1_2 + (1 : Int32)) _ _ _ h hP hS (lv_sub hl [1, 2, 0] rfl)
        replace h := hj6
        refine lv_if_eq (tgt := 34) hx hb dX8_neededMany_21 (by decide) (fun c5 => ?_) (fun c5 => ?_)
        · replace h := ip c5 h
          obtain rfl := Option.some.inj h
          exact J6 _ _ _ hP hS (lv_sub hl [0, 1, 2] rfl)
        · replace h := iq c5 h
          refine lv_aload_n hx hb dX8_neededMany_24 rfl (lv_at hl 0 rfl) ?_
          refine va_get (D := D) (ci := 8) (v := .ref (ad 39)) (C := RX8) (T := TX8) (N := 27) hx hb htb wu_8 hown hK.1 hP 29 w_29 rfl 14 (by decide) (htb _ wFL_RX8_37) (fun _ h9 => h9) rfl dX8_neededMany_25 ?_
          refine lv_iload_n hx hb dX8_neededMany_28 rfl (lv_at hl 1 rfl) ?_
          refine lv_iload_n hx hb dX8_neededMany_29 rfl (lv_at hl 2 rfl) ?_
          obtain ⟨τ7, g7, h⟩ := ob h
          refine r_astM (A := AA ad) hx hb hK hd (fun _ hh => hh) hP hS 39 9 (by decide) (fun _ => rfl) g7 dX8_neededMany_30 (fun H locs hP hS => ?_)
          refine lv_iinc (v := (y1_1 + (1 : Int32))) (lv' := [(1, .int (y1_1 + (1 : Int32))), (0, .ref (ad 29)), (2, .int y1_2)]) hx hb dX8_neededMany_31 hl (k := 1) rfl rfl (by decide) rfl (fun ls hl => ?_)
          obtain rfl := Option.some.inj h
          exact J6 _ _ _ hP hS (lv_sub hl [1, 0, 2] rfl)
  exact L1 10000 τ (0 : Int32) (0 : Int32) _ _ _ hj1 hP hS (lv_sub hl [2, 1, 0] rfl)
