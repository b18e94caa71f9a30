def X8_say (η : Int64) (x1 : Int64) : Int64 :=
  lt (((31 : Int64) * η) + x1) fun η1 =>
  η1
abbrev rmX8_say : Room := { frames := 0, cells := 0, slots := 0, locals := 0 }
set_option maxHeartbeats 4000000 in
set_option maxRecDepth 100000 in
theorem c_X8_say (l : Launch) (D : va_G) (ad : Nat → Nat) (cI : ClassId) (hd : HD ad) (σ τ : St) (η : Int64) (x1 : Int64) (rr : Int64) (h : X8_say η x1 = rr) : MV l yX8_say (wy yX8_say cX8_say 3 none) rmX8_say D ad cI [.ref (ad 29), .long x1] σ τ η σ τ rr := by
  refine mk_v (own := RX8) (lv := [(0, .ref (ad 29)), (1, .long x1)]) (plainFor_of_name (by decide)) rfl (Nat.le_of_ble_eq_true rfl) rfl ?_
  intro p e s m args below meth c Q ls hx hb hml hown htb hK ret hP hS hl
  unfold X8_say at h
  refine lv_aload_n hx hb dX8_say_0 rfl (lv_at hl 0 rfl) ?_
  refine lv_ldc2 (v := (31 : Int64)) hx hb hown (htb _ wKL_RX8_235) dX8_say_1 ?_
  refine lv_aload_n hx hb dX8_say_4 rfl (lv_at hl 0 rfl) ?_
  refine va_get (D := D) (ci := 8) (v := .long η) (C := RX8) (T := TX8) (N := 27) hx hb htb wu_8 hown hK.1 hP 29 w_29 rfl 26 (by decide) (htb _ wFL_RX8_237) (fun _ h9 => h9) rfl dX8_say_5 ?_
  refine lv_lmul hx hb dX8_say_8 ?_
  refine lv_lload_n hx hb dX8_say_9 rfl (lv_at hl 1 rfl) ?_
  refine lv_ladd hx hb dX8_say_10 ?_
  obtain ⟨η1, g1, h⟩ := ol h
  refine r_putH (ci := 8) (C := RX8) (T := TX8) (N := 27) (A := AA ad) hx hb htb wu_8 tyX8 tyX8_ok nmX8 hown hK hd (fun _ hh => hh) hP hS 26 rfl rfl rfl (by decide) (htb _ wFL_RX8_237) rfl rfl (by decide +kernel) (Nat.le_of_ble_eq_true rfl) dX8_say_11 (fun H locs hP hS => ?_)
  rw [g1] at hP
  subst h
  exact ret _ _ _ _ dX8_say_14 hP hS
def X8_digest_L2 (n : Nat) (τ_2 : St) (η_2 : Int64) (u2_1 : Int32) (y2_2 : Int32) : Option (Int32 × St × Int64) := match n with
  | 0 => none
  | n + 1 =>
    if (4 : Int32) ≤ y2_2 then (
      some (y2_2, τ_2, η_2))
    else (
      bd (X8_tellGuest τ_2 u2_1 y2_2) fun v6 =>
      lt (X8_say η_2 ((v6.1).toInt64)) fun v7 =>
      X8_digest_L2 n v6.2 v7 u2_1 (y2_2 + (1 : Int32)))
theorem X8_digest_L2_s (n : Nat) (τ_2 : St) (η_2 : Int64) (u2_1 : Int32) (y2_2 : Int32) : X8_digest_L2 (n + 1) τ_2 η_2 u2_1 y2_2 =
    if (4 : Int32) ≤ y2_2 then (
      some (y2_2, τ_2, η_2))
    else (
      bd (X8_tellGuest τ_2 u2_1 y2_2) fun v6 =>
      lt (X8_say η_2 ((v6.1).toInt64)) fun v7 =>
      X8_digest_L2 n v6.2 v7 u2_1 (y2_2 + (1 : Int32))) := rfl
def X8_digest_L1 (n : Nat) (τ_1 : St) (η_1 : Int64) (y1_1 : Int32) : Option (Int32 × St × Int64) := match n with
  | 0 => none
  | n + 1 =>
    if (τ_1 29 0) ≤ y1_1 then (
      some (y1_1, τ_1, η_1))
    else (
      bd (X8_digest_L2 10000 τ_1 η_1 y1_1 (0 : Int32)) fun v4 =>
      bd (X8_latestOf v4.2.1 y1_1) fun v8 =>
      lt (X8_say v4.2.2 ((v8.1).toInt64)) fun v9 =>
      X8_digest_L1 n v8.2 v9 (y1_1 + (1 : Int32)))
theorem X8_digest_L1_s (n : Nat) (τ_1 : St) (η_1 : Int64) (y1_1 : Int32) : X8_digest_L1 (n + 1) τ_1 η_1 y1_1 =
    if (τ_1 29 0) ≤ y1_1 then (
      some (y1_1, τ_1, η_1))
    else (
      bd (X8_digest_L2 10000 τ_1 η_1 y1_1 (0 : Int32)) fun v4 =>
      bd (X8_latestOf v4.2.1 y1_1) fun v8 =>
      lt (X8_say v4.2.2 ((v8.1).toInt64)) fun v9 =>
      X8_digest_L1 n v8.2 v9 (y1_1 + (1 : Int32))) := rfl
def X8_digest_L4 (n : Nat) (τ_4 : St) (η_4 : Int64) (u4_1 : Int32) (y4_2 : Int32) : Option (Int32 × St × Int64) := match n with
  | 0 => none
  | n + 1 =>
    if (4 : Int32) ≤ y4_2 then (
      some (y4_2, τ_4, η_4))
    else (
      bd (X8_tellMeeting τ_4 u4_1 y4_2) fun v14 =>
      lt (X8_say η_4 ((v14.1).toInt64)) fun v15 =>
      X8_digest_L4 n v14.2 v15 u4_1 (y4_2 + (1 : Int32)))
theorem X8_digest_L4_s (n : Nat) (τ_4 : St) (η_4 : Int64) (u4_1 : Int32) (y4_2 : Int32) : X8_digest_L4 (n + 1) τ_4 η_4 u4_1 y4_2 =
    if (4 : Int32) ≤ y4_2 then (
      some (y4_2, τ_4, η_4))
    else (
      bd (X8_tellMeeting τ_4 u4_1 y4_2) fun v14 =>
      lt (X8_say η_4 ((v14.1).toInt64)) fun v15 =>
      X8_digest_L4 n v14.2 v15 u4_1 (y4_2 + (1 : Int32))) := rfl
def X8_digest_L3 (n : Nat) (τ_3 : St) (η_3 : Int64) (y3_1 : Int32) : Option (Int32 × St × Int64) := match n with
  | 0 => none
  | n + 1 =>
    if (τ_3 29 8) ≤ y3_1 then (
      some (y3_1, τ_3, η_3))
    else (
      bd (X8_digest_L4 10000 τ_3 η_3 y3_1 (0 : Int32)) fun v12 =>
      X8_digest_L3 n v12.2.1 v12.2.2 (y3_1 + (1 : Int32)))
theorem X8_digest_L3_s (n : Nat) (τ_3 : St) (η_3 : Int64) (y3_1 : Int32) : X8_digest_L3 (n + 1) τ_3 η_3 y3_1 =
    if (τ_3 29 8) ≤ y3_1 then (
      some (y3_1, τ_3, η_3))
    else (
      bd (X8_digest_L4 10000 τ_3 η_3 y3_1 (0 : Int32)) fun v12 =>
      X8_digest_L3 n v12.2.1 v12.2.2 (y3_1 + (1 : Int32))) := rfl
def X8_digest_L5 (n : Nat) (τ_5 : St) (η_5 : Int64) (y5_1 : Int32) : Option (Int32 × Int64) := match n with
  | 0 => none
  | n + 1 =>
    if ((3 : Int32) * (τ_5 29 18)) ≤ y5_1 then (
      some (y5_1, η_5))
    else (
      bd (rd (τ_5 42) 24 y5_1) fun v30 =>
      lt (X8_say η_5 ((v30).toInt64)) fun v31 =>
      X8_digest_L5 n τ_5 v31 (y5_1 + (1 : Int32)))
theorem X8_digest_L5_s (n : Nat) (τ_5 : St) (η_5 : Int64) (y5_1 : Int32) : X8_digest_L5 (n + 1) τ_5 η_5 y5_1 =
    if ((3 : Int32) * (τ_5 29 18)) ≤ y5_1 then (
      some (y5_1, η_5))
    else (
      bd (rd (τ_5 42) 24 y5_1) fun v30 =>
      lt (X8_say η_5 ((v30).toInt64)) fun v31 =>
      X8_digest_L5 n τ_5 v31 (y5_1 + (1 : Int32))) := rfl
def X8_digest_L6 (n : Nat) (τ_6 : St) (η_6 : Int64) (y6_1 : Int32) : Option (Int32 × Int64) := match n with
  | 0 => none
  | n + 1 =>
    if (τ_6 29 7) ≤ y6_1 then (
      some (y6_1, η_6))
    else (
      bd (rd (τ_6 35) 60 y6_1) fun v40 =>
      lt (X8_say η_6 ((v40).toInt64)) fun v41 =>
      X8_digest_L6 n τ_6 v41 (y6_1 + (1 : Int32)))
theorem X8_digest_L6_s (n : Nat) (τ_6 : St) (η_6 : Int64) (y6_1 : Int32) : X8_digest_L6 (n + 1) τ_6 η_6 y6_1 =
    if (τ_6 29 7) ≤ y6_1 then (
      some (y6_1, η_6))
    else (
      bd (rd (τ_6 35) 60 y6_1) fun v40 =>
      lt (X8_say η_6 ((v40).toInt64)) fun v41 =>
      X8_digest_L6 n τ_6 v41 (y6_1 + (1 : Int32))) := rfl
def X8_digest_L7 (n : Nat) (τ_7 : St) (η_7 : Int64) (y7_1 : Int32) : Option (Int32 × St × Int64) := match n with
  | 0 => none
  | n + 1 =>
    if (8 : Int32) ≤ y7_1 then (
      some (y7_1, τ_7, η_7))
    else (
      bd (X8_countOf τ_7 y7_1) fun v44 =>
      lt (X8_say η_7 ((v44.1).toInt64)) fun v45 =>
      X8_digest_L7 n v44.2 v45 (y7_1 + (1 : Int32)))
theorem X8_digest_L7_s (n : Nat) (τ_7 : St) (η_7 : Int64) (y7_1 : Int32) : X8_digest_L7 (n + 1) τ_7 η_7 y7_1 =
    if (8 : Int32) ≤ y7_1 then (
      some (y7_1, τ_7, η_7))
    else (
      bd (X8_countOf τ_7 y7_1) fun v44 =>
      lt (X8_say η_7 ((v44.1).toInt64)) fun v45 =>
      X8_digest_L7 n v44.2 v45 (y7_1 + (1 : Int32))) := rfl
def X8_digest (τ : St) (η : Int64)  : Option (Int64 × St × Int64) :=
  lt (613 : Int64) fun η1 =>
  bd (X8_digest_L1 10000 τ η1 (0 : Int32)) fun v2 =>
  bd (X8_digest_L3 10000 v2.2.1 v2.2.2 (0 : Int32)) fun v10 =>
  bd (X8_tellKnown v10.2.1 (0 : Int32)) fun v16 =>
  lt (X8_say v10.2.2 v16.1) fun v17 =>
  bd (X8_tellKnown v16.2 (1 : Int32)) fun v18 =>
  lt (X8_say v17 v18.1) fun v19 =>
  bd (X8_rightNow v18.2 ) fun v20 =>
  lt (X8_say v19 ((v20.1).toInt64)) fun v21 =>
  bd (X8_holeOf v20.2 ) fun v22 =>
  lt (X8_say v21 ((v22.1).toInt64)) fun v23 =>
  bd (X8_tellCover v22.2 (0 : Int32)) fun v24 =>
  lt (X8_say v23 ((v24.1).toInt64)) fun v25 =>
  bd (X8_tellCover v24.2 (1 : Int32)) fun v26 =>
  lt (X8_say v25 ((v26.1).toInt64)) fun v27 =>
  bd (X8_digest_L5 10000 v26.2 v27 (0 : Int32)) fun v28 =>
  bd (X8_tellBelief v26.2 (0 : Int32) (0 : Int32)) fun v32 =>
  lt (X8_say v28.2 v32) fun v33 =>
  bd (X8_tellBelief v26.2 (0 : Int32) (1 : Int32)) fun v34 =>
  lt (X8_say v33 v34) fun v35 =>
  bd (X8_partingOf v26.2 ) fun v36 =>
  lt (X8_say v35 ((v36).toInt64)) fun v37 =>
  bd (X8_digest_L6 10000 v26.2 v37 (0 : Int32)) fun v38 =>
  bd (X8_digest_L7 10000 v26.2 v38.2 (0 : Int32)) fun v42 =>
  some (v42.2.2, v42.2.1, v42.2.2)
abbrev rmX8_digest : Room := { frames := 5, cells := 0, slots := 0, locals := 111 }
set_option maxHeartbeats 4000000 in
set_option maxRecDepth 100000 in
theorem c_X8_digest (l : Launch) (D : va_G) (ad : Nat → Nat) (cI : ClassId) (hd : HD ad) (σ τ : St) (η : Int64)  (rr : Int64 × St × Int64) (h : X8_digest τ η  = some rr) : ML l yX8_digest (wy yX8_digest cX8_digest 3 (some .long)) rmX8_digest D ad cI [.ref (ad 29)] σ τ η rr.1 σ rr.2.1 rr.2.2 := by
  refine mk_l (own := RX8) (lv := [(0, .ref (ad 29))]) (plainFor_of_name (by decide)) rfl (Nat.le_of_ble_eq_true rfl) rfl ?_
  intro p e s m args below meth c Q ls hx hb hml hown htb hK ret hP hS hl
  unfold X8_digest at h
  refine lv_aload_n hx hb dX8_digest_0 rfl (lv_at hl 0 rfl) ?_
  refine lv_ldc2 (v := (613 : Int64)) hx hb hown (htb _ wKL_RX8_241) dX8_digest_1 ?_
  obtain ⟨η1, g1, h⟩ := ol h
  refine r_putH (ci := 8) (C := RX8) (T := TX8) (N := 27) (A := AA ad) hx hb htb wu_8 tyX8 tyX8_ok nmX8 hown hK hd (fun _ hh => hh) hP hS 26 rfl rfl rfl (by decide) (htb _ wFL_RX8_237) rfl rfl (by decide +kernel) (Nat.le_of_ble_eq_true rfl) dX8_digest_4 (fun H locs hP hS => ?_)
  rw [g1] at hP
  refine lv_iconst (v := (0 : Int32)) hx hb dX8_digest_7 (by decide) ?_
  refine lv_istore_n (lv' := [(1, .int (0 : Int32)), (0, .ref (ad 29))]) hx hb dX8_digest_8 rfl hl (by decide) rfl (fun ls hl => ?_)
  obtain ⟨v2, hj2, h⟩ := ob h
  have K1 : ∀ (H : Heap) (locs : List Loc) (ls : Array Slot), WP D ad cI σ v2.2.1 v2.2.2 H → va_S (AA ad) s.heap H locs → lv_has ls 3 [(0, .ref (ad 29))] → W p l e rmX8_digest s m args below meth c H locs 0 0 Q (F0 m 57 ls []) := by
    intro H locs ls hP hS hl
    refine lv_iconst (v := (0 : Int32)) hx hb dX8_digest_57 (by decide) ?_
    refine lv_istore_n (lv' := [(1, .int (0 : Int32)), (0, .ref (ad 29))]) hx hb dX8_digest_58 rfl hl (by decide) rfl (fun ls hl => ?_)
    obtain ⟨v10, hj10, h⟩ := ob h
    have K3 : ∀ (H : Heap) (locs : List Loc) (ls : Array Slot), WP D ad cI σ v10.2.1 v10.2.2 H → va_S (AA ad) s.heap H locs → lv_has ls 3 [(0, .ref (ad 29))] → W p l e rmX8_digest s m args below meth c H locs 0 0 Q (F0 m 97 ls []) := by
      intro H locs ls hP hS hl
      refine lv_aload_n hx hb dX8_digest_97 rfl (lv_at hl 0 rfl) ?_
      refine lv_aload_n hx hb dX8_digest_98 rfl (lv_at hl 0 rfl) ?_
      refine lv_iconst (v := (0 : Int32)) hx hb dX8_digest_99 (by decide) ?_
      obtain ⟨v16, g16, h⟩ := ob h
      refine c_Vl (q := (RX8, TX8, 27)) (ci := 8) (b := 29) (As := [.int (0 : Int32)]) (rest := [.ref (ad 29)]) (A := AA ad) ⟨hx, hb, hml, hown, htb⟩ (c_X8_tellKnown l D ad cI hd σ v10.2.1 v10.2.2 (0 : Int32) v16 g16) (cwV 1 htb (gdV (fun _ hh => hh) wML_RX8_140 wIM_yX8_tellKnown wSE_yX8_tellKnown wI_RX8 wC_yX8_tellKnown) rfl rfl rfl hd_X8_tellKnown ⟨by decide, by decide⟩) hK hP rfl w_29 (fun _ hh => hh) hS rfl hl.1 rfl (Nat.le_of_ble_eq_true rfl) dX8_digest_100 ⟨Nat.le_refl 0, Nat.le_refl 0⟩ (fun H locs hP hS => ?_)
      obtain ⟨v17, g17, h⟩ := ol h
      refine c_Vv (q := (RX8, TX8, 27)) (ci := 8) (b := 29) (As := [.long v16.1]) (rest := []) (A := AA ad) ⟨hx, hb, hml, hown, htb⟩ (c_X8_say l D ad cI hd σ v16.2 v10.2.2 v16.1 v17 g17) (cwV 1 htb (gdV (fun _ hh => hh) wML_RX8_243 wIM_yX8_say wSE_yX8_say wI_RX8 wC_yX8_say) rfl rfl rfl hd_X8_say ⟨by decide, by decide⟩) hK hP rfl w_29 (fun _ hh => hh) hS rfl hl.1 rfl (Nat.le_of_ble_eq_true rfl) dX8_digest_103 ⟨Nat.le_refl 0, Nat.le_refl 0⟩ (fun H locs hP hS => ?_)
      refine lv_aload_n hx hb dX8_digest_106 rfl (lv_at hl 0 rfl) ?_
      refine lv_aload_n hx hb dX8_digest_107 rfl (lv_at hl 0 rfl) ?_
      refine lv_iconst (v := (1 : Int32)) hx hb dX8_digest_108 (by decide) ?_
      obtain ⟨v18, g18, h⟩ := ob h
      refine c_Vl (q := (RX8, TX8, 27)) (ci := 8) (b := 29) (As := [.int (1 : Int32)]) (rest := [.ref (ad 29)]) (A := AA ad) ⟨hx, hb, hml, hown, htb⟩ (c_X8_tellKnown l D ad cI hd σ v16.2 v17 (1 : Int32) v18 g18) (cwV 1 htb (gdV (fun _ hh => hh) wML_RX8_140 wIM_yX8_tellKnown wSE_yX8_tellKnown wI_RX8 wC_yX8_tellKnown) rfl rfl rfl hd_X8_tellKnown ⟨by decide, by decide⟩) hK hP rfl w_29 (fun _ hh => hh) hS rfl hl.1 rfl (Nat.le_of_ble_eq_true rfl) dX8_digest_109 ⟨Nat.le_refl 0, Nat.le_refl 0⟩ (fun H locs hP hS => ?_)
      obtain ⟨v19, g19, h⟩ := ol h
      refine c_Vv (q := (RX8, TX8, 27)) (ci := 8) (b := 29) (As := [.long v18.1]) (rest := []) (A := AA ad) ⟨hx, hb, hml, hown, htb⟩ (c_X8_say l D ad cI hd σ v18.2 v17 v18.1 v19 g19) (cwV 1 htb (gdV (fun _ hh => hh) wML_RX8_243 wIM_yX8_say wSE_yX8_say wI_RX8 wC_yX8_say) rfl rfl rfl hd_X8_say ⟨by decide, by decide⟩) hK hP rfl w_29 (fun _ hh => hh) hS rfl hl.1 rfl (Nat.le_of_ble_eq_true rfl) dX8_digest_112 ⟨Nat.le_refl 0, Nat.le_refl 0⟩ (fun H locs hP hS => ?_)
      refine lv_aload_n hx hb dX8_digest_115 rfl (lv_at hl 0 rfl) ?_
      refine lv_aload_n hx hb dX8_digest_116 rfl (lv_at hl 0 rfl) ?_
      obtain ⟨v20, g20, h⟩ := ob h
      refine c_Vi (q := (RX8, TX8, 27)) (ci := 8) (b := 29) (As := []) (rest := [.ref (ad 29)]) (A := AA ad) ⟨hx, hb, hml, hown, htb⟩ (c_X8_rightNow l D ad cI hd σ v18.2 v19  v20 g20) (cwV 0 htb (gdV (fun _ hh => hh) wML_RX8_153 wIM_yX8_rightNow wSE_yX8_rightNow wI_RX8 wC_yX8_rightNow) rfl rfl rfl hd_X8_rightNow ⟨by decide, by decide⟩) hK hP rfl w_29 (fun _ hh => hh) hS rfl hl.1 rfl (Nat.le_of_ble_eq_true rfl) dX8_digest_117 ⟨Nat.le_refl 0, Nat.le_refl 0⟩ (fun H locs hP hS => ?_)
      refine lv_i2l (v := ((v20.1).toInt64)) hx hb dX8_digest_120 rfl ?_
      obtain ⟨v21, g21, h⟩ := ol h
      refine c_Vv (q := (RX8, TX8, 27)) (ci := 8) (b := 29) (As := [.long ((v20.1).toInt64)]) (rest := []) (A := AA ad) ⟨hx, hb, hml, hown, htb⟩ (c_X8_say l D ad cI hd σ v20.2 v19 ((v20.1).toInt64) v21 g21) (cwV 1 htb (gdV (fun _ hh => hh) wML_RX8_243 wIM_yX8_say wSE_yX8_say wI_RX8 wC_yX8_say) rfl rfl rfl hd_X8_say ⟨by decide, by decide⟩) hK hP rfl w_29 (fun _ hh => hh) hS rfl hl.1 rfl (Nat.le_of_ble_eq_true rfl) dX8_digest_121 ⟨Nat.le_refl 0, Nat.le_refl 0⟩ (fun H locs hP hS => ?_)
      refine lv_aload_n hx hb dX8_digest_124 rfl (lv_at hl 0 rfl) ?_
      refine lv_aload_n hx hb dX8_digest_125 rfl (lv_at hl 0 rfl) ?_
      obtain ⟨v22, g22, h⟩ := ob h
      refine c_Vi (q := (RX8, TX8, 27)) (ci := 8) (b := 29) (As := []) (rest := [.ref (ad 29)]) (A := AA ad) ⟨hx, hb, hml, hown, htb⟩ (c_X8_holeOf l D ad cI hd σ v20.2 v21  v22 g22) (cwV 0 htb (gdV (fun _ hh => hh) wML_RX8_169 wIM_yX8_holeOf wSE_yX8_holeOf wI_RX8 wC_yX8_holeOf) rfl rfl rfl hd_X8_holeOf ⟨by decide, by decide⟩) hK hP rfl w_29 (fun _ hh => hh) hS rfl hl.1 rfl (Nat.le_of_ble_eq_true rfl) dX8_digest_126 ⟨Nat.le_refl 0, Nat.le_refl 0⟩ (fun H locs hP hS => ?_)
      refine lv_i2l (v := ((v22.1).toInt64)) hx hb dX8_digest_129 rfl ?_
      obtain ⟨v23, g23, h⟩ := ol h
      refine c_Vv (q := (RX8, TX8, 27)) (ci := 8) (b := 29) (As := [.long ((v22.1).toInt64)]) (rest := []) (A := AA ad) ⟨hx, hb, hml, hown, htb⟩ (c_X8_say l D ad cI hd σ v22.2 v21 ((v22.1).toInt64) v23 g23) (cwV 1 htb (gdV (fun _ hh => hh) wML_RX8_243 wIM_yX8_say wSE_yX8_say wI_RX8 wC_yX8_say) rfl rfl rfl hd_X8_say ⟨by decide, by decide⟩) hK hP rfl w_29 (fun _ hh => hh) hS rfl hl.1 rfl (Nat.le_of_ble_eq_true rfl) dX8_digest_130 ⟨Nat.le_refl 0, Nat.le_refl 0⟩ (fun H locs hP hS => ?_)
      refine lv_aload_n hx hb dX8_digest_133 rfl (lv_at hl 0 rfl) ?_
      refine lv_aload_n hx hb dX8_digest_134 rfl (lv_at hl 0 rfl) ?_
      refine lv_iconst (v := (0 : Int32)) hx hb dX8_digest_135 (by decide) ?_
      obtain ⟨v24, g24, h⟩ := ob h
      refine c_Vi (q := (RX8, TX8, 27)) (ci := 8) (b := 29) (As := [.int (0 : Int32)]) (rest := [.ref (ad 29)]) (A := AA ad) ⟨hx, hb, hml, hown, htb⟩ (c_X8_tellCover l D ad cI hd σ v22.2 v23 (0 : Int32) v24 g24) (cwV 1 htb (gdV (fun _ hh => hh) wML_RX8_186 wIM_yX8_tellCover wSE_yX8_tellCover wI_RX8 wC_yX8_tellCover) rfl rfl rfl hd_X8_tellCover ⟨by decide, by decide⟩) hK hP rfl w_29 (fun _ hh => hh) hS rfl hl.1 rfl (Nat.le_of_ble_eq_true rfl) dX8_digest_136 ⟨Nat.le_refl 0, Nat.le_refl 0⟩ (fun H locs hP hS => ?_)
      refine lv_i2l (v := ((v24.1).toInt64)) hx hb dX8_digest_139 rfl ?_
      obtain ⟨v25, g25, h⟩ := ol h
      refine c_Vv (q := (RX8, TX8, 27)) (ci := 8) (b := 29) (As := [.long ((v24.1).toInt64)]) (rest := []) (A := AA ad) ⟨hx, hb, hml, hown, htb⟩ (c_X8_say l D ad cI hd σ v24.2 v23 ((v24.1).toInt64) v25 g25) (cwV 1 htb (gdV (fun _ hh => hh) wML_RX8_243 wIM_yX8_say wSE_yX8_say wI_RX8 wC_yX8_say) rfl rfl rfl hd_X8_say ⟨by decide, by decide⟩) hK hP rfl w_29 (fun _ hh => hh) hS rfl hl.1 rfl (Nat.le_of_ble_eq_true rfl) dX8_digest_140 ⟨Nat.le_refl 0, Nat.le_refl 0⟩ (fun H locs hP hS => ?_)
      refine lv_aload_n hx hb dX8_digest_143 rfl (lv_at hl 0 rfl) ?_
      refine lv_aload_n hx hb dX8_digest_144 rfl (lv_at hl 0 rfl) ?_
      refine lv_iconst (v := (1 : Int32)) hx hb dX8_digest_145 (by decide) ?_
      obtain ⟨v26, g26, h⟩ := ob h
      refine c_Vi (q := (RX8, TX8, 27)) (ci := 8) (b := 29) (As := [.int (1 : Int32)]) (rest := [.ref (ad 29)]) (A := AA ad) ⟨hx, hb, hml, hown, htb⟩ (c_X8_tellCover l D ad cI hd σ v24.2 v25 (1 : Int32) v26 g26) (cwV 1 htb (gdV (fun _ hh => hh) wML_RX8_186 wIM_yX8_tellCover wSE_yX8_tellCover wI_RX8 wC_yX8_tellCover) rfl rfl rfl hd_X8_tellCover ⟨by decide, by decide⟩) hK hP rfl w_29 (fun _ hh => hh) hS rfl hl.1 rfl (Nat.le_of_ble_eq_true rfl) dX8_digest_146 ⟨Nat.le_refl 0, Nat.le_refl 0⟩ (fun H locs hP hS => ?_)
      refine lv_i2l (v := ((v26.1).toInt64)) hx hb dX8_digest_149 rfl ?_
      obtain ⟨v27, g27, h⟩ := ol h
      refine c_Vv (q := (RX8, TX8, 27)) (ci := 8) (b := 29) (As := [.long ((v26.1).toInt64)]) (rest := []) (A := AA ad) ⟨hx, hb, hml, hown, htb⟩ (c_X8_say l D ad cI hd σ v26.2 v25 ((v26.1).toInt64) v27 g27) (cwV 1 htb (gdV (fun _ hh => hh) wML_RX8_243 wIM_yX8_say wSE_yX8_say wI_RX8 wC_yX8_say) rfl rfl rfl hd_X8_say ⟨by decide, by decide⟩) hK hP rfl w_29 (fun _ hh => hh) hS rfl hl.1 rfl (Nat.le_of_ble_eq_true rfl) dX8_digest_150 ⟨Nat.le_refl 0, Nat.le_refl 0⟩ (fun H locs hP hS => ?_)
      refine lv_iconst (v := (0 : Int32)) hx hb dX8_digest_153 (by decide) ?_
      refine lv_istore_n (lv' := [(1, .int (0 : Int32)), (0, .ref (ad 29))]) hx hb dX8_digest_154 rfl hl (by decide) rfl (fun ls hl => ?_)
      obtain ⟨v28, hj28, h⟩ := ob h
      have K5 : ∀ (H : Heap) (locs : List Loc) (ls : Array Slot), WP D ad cI σ v26.2 v28.2 H → va_S (AA ad) s.heap H locs → lv_has ls 3 [(0, .ref (ad 29))] → W p l e rmX8_digest s m args below meth c H locs 0 0 Q (F0 m 182 ls []) := by
        intro H locs ls hP hS hl
        refine lv_aload_n hx hb dX8_digest_182 rfl (lv_at hl 0 rfl) ?_
        refine lv_aload_n hx hb dX8_digest_183 rfl (lv_at hl 0 rfl) ?_
        refine lv_iconst (v := (0 : Int32)) hx hb dX8_digest_184 (by decide) ?_
        refine lv_iconst (v := (0 : Int32)) hx hb dX8_digest_185 (by decide) ?_
        obtain ⟨v32, g32, h⟩ := ob h
        refine c_Vl (q := (RX8, TX8, 27)) (ci := 8) (b := 29) (As := [.int (0 : Int32), .int (0 : Int32)]) (rest := [.ref (ad 29)]) (A := AA ad) ⟨hx, hb, hml, hown, htb⟩ (c_X8_tellBelief l D ad cI hd σ v26.2 v28.2 (0 : Int32) (0 : Int32) v32 g32) (cwV 2 htb (gdV (fun _ hh => hh) wML_RX8_202 wIM_yX8_tellBelief wSE_yX8_tellBelief wI_RX8 wC_yX8_tellBelief) rfl rfl rfl hd_X8_tellBelief ⟨by decide, by decide⟩) hK hP rfl w_29 (fun _ hh => hh) hS rfl hl.1 rfl (Nat.le_of_ble_eq_true rfl) dX8_digest_186 ⟨Nat.le_refl 0, Nat.le_refl 0⟩ (fun H locs hP hS => ?_)
        obtain ⟨v33, g33, h⟩ := ol h
        refine c_Vv (q := (RX8, TX8, 27)) (ci := 8) (b := 29) (As := [.long v32]) (rest := []) (A := AA ad) ⟨hx, hb, hml, hown, htb⟩ (c_X8_say l D ad cI hd σ v26.2 v28.2 v32 v33 g33) (cwV 1 htb (gdV (fun _ hh => hh) wML_RX8_243 wIM_yX8_say wSE_yX8_say wI_RX8 wC_yX8_say) rfl rfl rfl hd_X8_say ⟨by decide, by decide⟩) hK hP rfl w_29 (fun _ hh => hh) hS rfl hl.1 rfl (Nat.le_of_ble_eq_true rfl) dX8_digest_189 ⟨Nat.le_refl 0, Nat.le_refl 0⟩ (fun H locs hP hS => ?_)
        refine lv_aload_n hx hb dX8_digest_192 rfl (lv_at hl 0 rfl) ?_
        refine lv_aload_n hx hb dX8_digest_193 rfl (lv_at hl 0 rfl) ?_
        refine lv_iconst (v := (0 : Int32)) hx hb dX8_digest_194 (by decide) ?_
        refine lv_iconst (v := (1 : Int32)) hx hb dX8_digest_195 (by decide) ?_
        obtain ⟨v34, g34, h⟩ := ob h
        refine c_Vl (q := (RX8, TX8, 27)) (ci := 8) (b := 29) (As := [.int (0 : Int32), .int (1 : Int32)]) (rest := [.ref (ad 29)]) (A := AA ad) ⟨hx, hb, hml, hown, htb⟩ (c_X8_tellBelief l D ad cI hd σ v26.2 v33 (0 : Int32) (1 : Int32) v34 g34) (cwV 2 htb (gdV (fun _ hh => hh) wML_RX8_202 wIM_yX8_tellBelief wSE_yX8_tellBelief wI_RX8 wC_yX8_tellBelief) rfl rfl rfl hd_X8_tellBelief ⟨by decide, by decide⟩) hK hP rfl w_29 (fun _ hh => hh) hS rfl hl.1 rfl (Nat.le_of_ble_eq_true rfl) dX8_digest_196 ⟨Nat.le_refl 0, Nat.le_refl 0⟩ (fun H locs hP hS => ?_)
        obtain ⟨v35, g35, h⟩ := ol h
        refine c_Vv (q := (RX8, TX8, 27)) (ci := 8) (b := 29) (As := [.long v34]) (rest := []) (A := AA ad) ⟨hx, hb, hml, hown, htb⟩ (c_X8_say l D ad cI hd σ v26.2 v33 v34 v35 g35) (cwV 1 htb (gdV (fun _ hh => hh) wML_RX8_243 wIM_yX8_say wSE_yX8_say wI_RX8 wC_yX8_say) rfl rfl rfl hd_X8_say ⟨by decide, by decide⟩) hK hP rfl w_29 (fun _ hh => hh) hS rfl hl.1 rfl (Nat.le_of_ble_eq_true rfl) dX8_digest_199 ⟨Nat.le_refl 0, Nat.le_refl 0⟩ (fun H locs hP hS => ?_)
        refine lv_aload_n hx hb dX8_digest_202 rfl (lv_at hl 0 rfl) ?_
        refine lv_aload_n hx hb dX8_digest_203 rfl (lv_at hl 0 rfl) ?_
        obtain ⟨v36, g36, h⟩ := ob h
        refine c_Vi (q := (RX8, TX8, 27)) (ci := 8) (b := 29) (As := []) (rest := [.ref (ad 29)]) (A := AA ad) ⟨hx, hb, hml, hown, htb⟩ (c_X8_partingOf l D ad cI hd σ v26.2 v35  v36 g36) (cwV 0 htb (gdV (fun _ hh => hh) wML_RX8_210 wIM_yX8_partingOf wSE_yX8_partingOf wI_RX8 wC_yX8_partingOf) rfl rfl rfl hd_X8_partingOf ⟨by decide, by decide⟩) hK hP rfl w_29 (fun _ hh => hh) hS rfl hl.1 rfl (Nat.le_of_ble_eq_true rfl) dX8_digest_204 ⟨Nat.le_refl 0, Nat.le_refl 0⟩ (fun H locs hP hS => ?_)
        refine lv_i2l (v := ((v36).toInt64)) hx hb dX8_digest_207 rfl ?_
        obtain ⟨v37, g37, h⟩ := ol h
        refine c_Vv (q := (RX8, TX8, 27)) (ci := 8) (b := 29) (As := [.long ((v36).toInt64)]) (rest := []) (A := AA ad) ⟨hx, hb, hml, hown, htb⟩ (c_X8_say l D ad cI hd σ v26.2 v35 ((v36).toInt64) v37 g37) (cwV 1 htb (gdV (fun _ hh => hh) wML_RX8_243 wIM_yX8_say wSE_yX8_say wI_RX8 wC_yX8_say) rfl rfl rfl hd_X8_say ⟨by decide, by decide⟩) hK hP rfl w_29 (fun _ hh => hh) hS rfl hl.1 rfl (Nat.le_of_ble_eq_true rfl) dX8_digest_208 ⟨Nat.le_refl 0, Nat.le_refl 0⟩ (fun H locs hP hS => ?_)
        refine lv_iconst (v := (0 : Int32)) hx hb dX8_digest_211 (by decide) ?_
        refine lv_istore_n (lv' := [(1, .int (0 : Int32)), (0, .ref (ad 29))]) hx hb dX8_digest_212 rfl hl (by decide) rfl (fun ls hl => ?_)
        obtain ⟨v38, hj38, h⟩ := ob h
        have K6 : ∀ (H : Heap) (locs : List Loc) (ls : Array Slot), WP D ad cI σ v26.2 v38.2 H → va_S (AA ad) s.heap H locs → lv_has ls 3 [(0, .ref (ad 29))] → W p l e rmX8_digest s m args below meth c H locs 0 0 Q (F0 m 238 ls []) := by
          intro H locs ls hP hS hl
          refine lv_iconst (v := (0 : Int32)) hx hb dX8_digest_238 (by decide) ?_
          refine lv_istore_n (lv' := [(1, .int (0 : Int32)), (0, .ref (ad 29))]) hx hb dX8_digest_239 rfl hl (by decide) rfl (fun ls hl => ?_)
          obtain ⟨v42, hj42, h⟩ := ob h
          have K7 : ∀ (H : Heap) (locs : List Loc) (ls : Array Slot), WP D ad cI σ v42.2.1 v42.2.2 H → va_S (AA ad) s.heap H locs → lv_has ls 3 [(0, .ref (ad 29))] → W p l e rmX8_digest s m args below meth c H locs 0 0 Q (F0 m 262 ls []) := by
            intro H locs ls hP hS hl
            refine lv_aload_n hx hb dX8_digest_262 rfl (lv_at hl 0 rfl) ?_
            refine va_get (D := D) (ci := 8) (v := .long v42.2.2) (C := RX8) (T := TX8) (N := 27) hx hb htb wu_8 hown hK.1 hP 29 w_29 rfl 26 (by decide) (htb _ wFL_RX8_237) (fun _ h9 => h9) rfl dX8_digest_263 ?_
            obtain rfl := Option.some.inj h
            exact ret _ _ _ _ _ dX8_digest_266 hP hS rfl
          have L7 : ∀ (n : Nat) (τ_7 : St) (η_7 : Int64) (y7_1 : Int32) (H : Heap) (locs : List Loc) (ls : Array Slot), X8_digest_L7 n τ_7 η_7 y7_1 = some v42 → WP D ad cI σ τ_7 η_7 H → va_S (AA ad) s.heap H locs → lv_has ls 3 [(0, .ref (ad 29)), (1, .int y7_1)] → W p l e rmX8_digest s m args below meth c H locs 0 0 Q (F0 m 240 ls []) := by
            intro n
            induction n with
            | zero => intro τ_7 η_7 y7_1 H locs ls h; exact absurd h (by simp [X8_digest_L7])
            | succ n ih =>
              intro τ_7 η_7 y7_1 H locs ls h hP hS hl
              replace h := (X8_digest_L7_s n τ_7 η_7 y7_1).symm.trans h
              refine lv_iload_n hx hb dX8_digest_240 rfl (lv_at hl 1 rfl) ?_
              refine lv_bipush (v := (8 : Int32)) hx hb dX8_digest_241 (by decide) ?_
              refine lv_icmp_ge (tgt := 262) hx hb dX8_digest_243 (by decide) (fun c43 => ?_) (fun c43 => ?_)
              · replace h := ip c43 h
                obtain rfl := Option.some.inj h
                exact K7 _ _ _ hP hS (lv_sub hl [0] rfl)
              · replace h := iq c43 h
                refine lv_aload_n hx hb dX8_digest_246 rfl (lv_at hl 0 rfl) ?_
                refine lv_aload_n hx hb dX8_digest_247 rfl (lv_at hl 0 rfl) ?_
                refine lv_iload_n hx hb dX8_digest_248 rfl (lv_at hl 1 rfl) ?_
                obtain ⟨v44, g44, h⟩ := ob h
                refine c_Vi (q := (RX8, TX8, 27)) (ci := 8) (b := 29) (As := [.int y7_1]) (rest := [.ref (ad 29)]) (A := AA ad) ⟨hx, hb, hml, hown, htb⟩ (c_X8_countOf l D ad cI hd σ τ_7 η_7 y7_1 v44 g44) (cwV 1 htb (gdV (fun _ hh => hh) wML_RX8_232 wIM_yX8_countOf wSE_yX8_countOf wI_RX8 wC_yX8_countOf) rfl rfl rfl hd_X8_countOf ⟨by decide, by decide⟩) hK hP rfl w_29 (fun _ hh => hh) hS rfl hl.1 rfl (Nat.le_of_ble_eq_true rfl) dX8_digest_249 ⟨Nat.le_refl 0, Nat.le_refl 0⟩ (fun H locs hP hS => ?_)
                refine lv_i2l (v := ((v44.1).toInt64)) hx hb dX8_digest_252 rfl ?_
                obtain ⟨v45, g45, h⟩ := ol h
                refine c_Vv (q := (RX8, TX8, 27)) (ci := 8) (b := 29) (As := [.long ((v44.1).toInt64)]) (rest := []) (A := AA ad) ⟨hx, hb, hml, hown, htb⟩ (c_X8_say l D ad cI hd σ v44.2 η_7 ((v44.1).toInt64) v45 g45) (cwV 1 htb (gdV (fun _ hh => hh) wML_RX8_243 wIM_yX8_say wSE_yX8_say wI_RX8 wC_yX8_say) rfl rfl rfl hd_X8_say ⟨by decide, by decide⟩) hK hP rfl w_29 (fun _ hh => hh) hS rfl hl.1 rfl (Nat.le_of_ble_eq_true rfl) dX8_digest_253 ⟨Nat.le_refl 0, Nat.le_refl 0⟩ (fun H locs hP hS => ?_)
                refine lv_iinc (v := (y7_1 + (1 : Int32))) (lv' := [(1, .int (y7_1 + (1 : Int32))), (0, .ref (ad 29))]) hx hb dX8_digest_256 hl (k := 1) rfl rfl (by decide) rfl (fun ls hl => ?_)
                refine lv_goto (tgt := 240) hx hb dX8_digest_259 (by decide) ?_
                exact ih v44.2 v45 (y7_1 + (1 : Int32)) _ _ _ h hP hS (lv_sub hl [1, 0] rfl)
          exact L7 10000 v26.2 v38.2 (0 : Int32) _ _ _ hj42 hP hS (lv_sub hl [1, 0] rfl)
        have L6 : ∀ (n : Nat) (η_6 : Int64) (y6_1 : Int32) (H : Heap) (locs : List Loc) (ls : Array Slot), X8_digest_L6 n v26.2 η_6 y6_1 = some v38 → WP D ad cI σ v26.2 η_6 H → va_S (AA ad) s.heap H locs → lv_has ls 3 [(0, .ref (ad 29)), (1, .int y6_1)] → W p l e rmX8_digest s m args below meth c H locs 0 0 Q (F0 m 213 ls []) := by
          intro n
          induction n with
          | zero => intro η_6 y6_1 H locs ls h; exact absurd h (by simp [X8_digest_L6])
          | succ n ih =>
            intro η_6 y6_1 H locs ls h hP hS hl
            replace h := (X8_digest_L6_s n v26.2 η_6 y6_1).symm.trans h
            refine lv_iload_n hx hb dX8_digest_213 rfl (lv_at hl 1 rfl) ?_
            refine lv_aload_n hx hb dX8_digest_214 rfl (lv_at hl 0 rfl) ?_
            refine va_get (D := D) (ci := 8) (v := .int (v26.2 29 7)) (C := RX8) (T := TX8) (N := 27) hx hb htb wu_8 hown hK.1 hP 29 w_29 rfl 7 (by decide) (htb _ wFL_RX8_97) (fun _ h9 => h9) rfl dX8_digest_215 ?_
            refine lv_icmp_ge (tgt := 238) hx hb dX8_digest_218 (by decide) (fun c39 => ?_) (fun c39 => ?_)
            · replace h := ip c39 h
              obtain rfl := Option.some.inj h
              exact K6 _ _ _ hP hS (lv_sub hl [0] rfl)
            · replace h := iq c39 h
              refine lv_aload_n hx hb dX8_digest_221 rfl (lv_at hl 0 rfl) ?_
              refine lv_aload_n hx hb dX8_digest_222 rfl (lv_at hl 0 rfl) ?_
              refine va_get (D := D) (ci := 8) (v := .ref (ad 35)) (C := RX8) (T := TX8) (N := 27) hx hb htb wu_8 hown hK.1 hP 29 w_29 rfl 6 (by decide) (htb _ wFL_RX8_25) (fun _ h9 => h9) rfl dX8_digest_223 ?_
              refine lv_iload_n hx hb dX8_digest_226 rfl (lv_at hl 1 rfl) ?_
              obtain ⟨v40, g40, h⟩ := ob h
              refine r_ald hx hb hK hP 35 w_35 g40 dX8_digest_227 ?_
              refine lv_i2l (v := ((v40).toInt64)) hx hb dX8_digest_228 rfl ?_
              obtain ⟨v41, g41, h⟩ := ol h
              refine c_Vv (q := (RX8, TX8, 27)) (ci := 8) (b := 29) (As := [.long ((v40).toInt64)]) (rest := []) (A := AA ad) ⟨hx, hb, hml, hown, htb⟩ (c_X8_say l D ad cI hd σ v26.2 η_6 ((v40).toInt64) v41 g41) (cwV 1 htb (gdV (fun _ hh => hh) wML_RX8_243 wIM_yX8_say wSE_yX8_say wI_RX8 wC_yX8_say) rfl rfl rfl hd_X8_say ⟨by decide, by decide⟩) hK hP rfl w_29 (fun _ hh => hh) hS rfl hl.1 rfl (Nat.le_of_ble_eq_true rfl) dX8_digest_229 ⟨Nat.le_refl 0, Nat.le_refl 0⟩ (fun H locs hP hS => ?_)
              refine lv_iinc (v := (y6_1 + (1 : Int32))) (lv' := [(1, .int (y6_1 + (1 : Int32))), (0, .ref (ad 29))]) hx hb dX8_digest_232 hl (k := 1) rfl rfl (by decide) rfl (fun ls hl => ?_)
              refine lv_goto (tgt := 213) hx hb dX8_digest_235 (by decide) ?_
              exact ih v41 (y6_1 + (1 : Int32)) _ _ _ h hP hS (lv_sub hl [1, 0] rfl)
        exact L6 10000 v37 (0 : Int32) _ _ _ hj38 hP hS (lv_sub hl [1, 0] rfl)
      have L5 : ∀ (n : Nat) (η_5 : Int64) (y5_1 : Int32) (H : Heap) (locs : List Loc) (ls : Array Slot), X8_digest_L5 n v26.2 η_5 y5_1 = some v28 → WP D ad cI σ v26.2 η_5 H → va_S (AA ad) s.heap H locs → lv_has ls 3 [(0, .ref (ad 29)), (1, .int y5_1)] → W p l e rmX8_digest s m args below meth c H locs 0 0 Q (F0 m 155 ls []) := by
        intro n
        induction n with
        | zero => intro η_5 y5_1 H locs ls h; exact absurd h (by simp [X8_digest_L5])
        | succ n ih =>
          intro η_5 y5_1 H locs ls h hP hS hl
          replace h := (X8_digest_L5_s n v26.2 η_5 y5_1).symm.trans h
          refine lv_iload_n hx hb dX8_digest_155 rfl (lv_at hl 1 rfl) ?_
          refine lv_iconst (v := (3 : Int32)) hx hb dX8_digest_156 (by decide) ?_
          refine lv_aload_n hx hb dX8_digest_157 rfl (lv_at hl 0 rfl) ?_
          refine va_get (D := D) (ci := 8) (v := .int (v26.2 29 18)) (C := RX8) (T := TX8) (N := 27) hx hb htb wu_8 hown hK.1 hP 29 w_29 rfl 18 (by decide) (htb _ wFL_RX8_189) (fun _ h9 => h9) rfl dX8_digest_158 ?_
          refine lv_imul hx hb dX8_digest_161 ?_
          refine lv_icmp_ge (tgt := 182) hx hb dX8_digest_162 (by decide) (fun c29 => ?_) (fun c29 => ?_)
          · replace h := ip c29 h
            obtain rfl := Option.some.inj h
            exact K5 _ _ _ hP hS (lv_sub hl [0] rfl)
          · replace h := iq c29 h
            refine lv_aload_n hx hb dX8_digest_165 rfl (lv_at hl 0 rfl) ?_
            refine lv_aload_n hx hb dX8_digest_166 rfl (lv_at hl 0 rfl) ?_
            refine va_get (D := D) (ci := 8) (v := .ref (ad 42)) (C := RX8) (T := TX8) (N := 27) hx hb htb wu_8 hown hK.1 hP 29 w_29 rfl 19 (by decide) (htb _ wFL_RX8_46) (fun _ h9 => h9) rfl dX8_digest_167 ?_
            refine lv_iload_n hx hb dX8_digest_170 rfl (lv_at hl 1 rfl) ?_
            obtain ⟨v30, g30, h⟩ := ob h
            refine r_ald hx hb hK hP 42 w_42 g30 dX8_digest_171 ?_
            refine lv_i2l (v := ((v30).toInt64)) hx hb dX8_digest_172 rfl ?_
            obtain ⟨v31, g31, h⟩ := ol h
            refine c_Vv (q := (RX8, TX8, 27)) (ci := 8) (b := 29) (As := [.long ((v30).toInt64)]) (rest := []) (A := AA ad) ⟨hx, hb, hml, hown, htb⟩ (c_X8_say l D ad cI hd σ v26.2 η_5 ((v30).toInt64) v31 g31) (cwV 1 htb (gdV (fun _ hh => hh) wML_RX8_243 wIM_yX8_say wSE_yX8_say wI_RX8 wC_yX8_say) rfl rfl rfl hd_X8_say ⟨by decide, by decide⟩) hK hP rfl w_29 (fun _ hh => hh) hS rfl hl.1 rfl (Nat.le_of_ble_eq_true rfl) dX8_digest_173 ⟨Nat.le_refl 0, Nat.le_refl 0⟩ (fun H locs hP hS => ?_)
            refine lv_iinc (v := (y5_1 + (1 : Int32))) (lv' := [(1, .int (y5_1 + (1 : Int32))), (0, .ref (ad 29))]) hx hb dX8_digest_176 hl (k := 1) rfl rfl (by decide) rfl (fun ls hl => ?_)
            refine lv_goto (tgt := 155) hx hb dX8_digest_179 (by decide) ?_
            exact ih v31 (y5_1 + (1 : Int32)) _ _ _ h hP hS (lv_sub hl [1, 0] rfl)
      exact L5 10000 v27 (0 : Int32) _ _ _ hj28 hP hS (lv_sub hl [1, 0] rfl)
    have L3 : ∀ (n : Nat) (τ_3 : St) (η_3 : Int64) (y3_1 : Int32) (H : Heap) (locs : List Loc) (ls : Array Slot), X8_digest_L3 n τ_3 η_3 y3_1 = some v10 → WP D ad cI σ τ_3 η_3 H → va_S (AA ad) s.heap H locs → lv_has ls 3 [(0, .ref (ad 29)), (1, .int y3_1)] → W p l e rmX8_digest s m args below meth c H locs 0 0 Q (F0 m 59 ls []) := by
      intro n
      induction n with
      | zero => intro τ_3 η_3 y3_1 H locs ls h; exact absurd h (by simp [X8_digest_L3])
      | succ n ih =>
        intro τ_3 η_3 y3_1 H locs ls h hP hS hl
        replace h := (X8_digest_L3_s n τ_3 η_3 y3_1).symm.trans h
        refine lv_iload_n hx hb dX8_digest_59 rfl (lv_at hl 1 rfl) ?_
        refine lv_aload_n hx hb dX8_digest_60 rfl (lv_at hl 0 rfl) ?_
        refine va_get (D := D) (ci := 8) (v := .int (τ_3 29 8)) (C := RX8) (T := TX8) (N := 27) hx hb htb wu_8 hown hK.1 hP 29 w_29 rfl 8 (by decide) (htb _ wFL_RX8_109) (fun _ h9 => h9) rfl dX8_digest_61 ?_
        refine lv_icmp_ge (tgt := 97) hx hb dX8_digest_64 (by decide) (fun c11 => ?_) (fun c11 => ?_)
        · replace h := ip c11 h
          obtain rfl := Option.some.inj h
          exact K3 _ _ _ hP hS (lv_sub hl [0] rfl)
        · replace h := iq c11 h
          refine lv_iconst (v := (0 : Int32)) hx hb dX8_digest_67 (by decide) ?_
          refine lv_istore_n (lv' := [(2, .int (0 : Int32)), (0, .ref (ad 29)), (1, .int y3_1)]) hx hb dX8_digest_68 rfl hl (by decide) rfl (fun ls hl => ?_)
          obtain ⟨v12, hj12, h⟩ := ob h
          have K4 : ∀ (H : Heap) (locs : List Loc) (ls : Array Slot), WP D ad cI σ v12.2.1 v12.2.2 H → va_S (AA ad) s.heap H locs → lv_has ls 3 [(0, .ref (ad 29)), (1, .int y3_1)] → W p l e rmX8_digest s m args below meth c H locs 0 0 Q (F0 m 91 ls []) := by
            intro H locs ls hP hS hl
            refine lv_iinc (v := (y3_1 + (1 : Int32))) (lv' := [(1, .int (y3_1 + (1 : Int32))), (0, .ref (ad 29))]) hx hb dX8_digest_91 hl (k := 1) rfl rfl (by decide) rfl (fun ls hl => ?_)
            refine lv_goto (tgt := 59) hx hb dX8_digest_94 (by decide) ?_
            exact ih v12.2.1 v12.2.2 (y3_1 + (1 : Int32)) _ _ _ h hP hS (lv_sub hl [1, 0] rfl)
          have L4 : ∀ (n : Nat) (τ_4 : St) (η_4 : Int64) (y4_2 : Int32) (H : Heap) (locs : List Loc) (ls : Array Slot), X8_digest_L4 n τ_4 η_4 y3_1 y4_2 = some v12 → WP D ad cI σ τ_4 η_4 H → va_S (AA ad) s.heap H locs → lv_has ls 3 [(0, .ref (ad 29)), (1, .int y3_1), (2, .int y4_2)] → W p l e rmX8_digest s m args below meth c H locs 0 0 Q (F0 m 69 ls []) := by
            intro n
            induction n with
            | zero => intro τ_4 η_4 y4_2 H locs ls h; exact absurd h (by simp [X8_digest_L4])
            | succ n ih =>
              intro τ_4 η_4 y4_2 H locs ls h hP hS hl
              replace h := (X8_digest_L4_s n τ_4 η_4 y3_1 y4_2).symm.trans h
              refine lv_iload_n hx hb dX8_digest_69 rfl (lv_at hl 2 rfl) ?_
              refine lv_iconst (v := (4 : Int32)) hx hb dX8_digest_70 (by decide) ?_
              refine lv_icmp_ge (tgt := 91) hx hb dX8_digest_71 (by decide) (fun c13 => ?_) (fun c13 => ?_)
              · replace h := ip c13 h
                obtain rfl := Option.some.inj h
                exact K4 _ _ _ hP hS (lv_sub hl [0, 1] rfl)
              · replace h := iq c13 h
                refine lv_aload_n hx hb dX8_digest_74 rfl (lv_at hl 0 rfl) ?_
                refine lv_aload_n hx hb dX8_digest_75 rfl (lv_at hl 0 rfl) ?_
                refine lv_iload_n hx hb dX8_digest_76 rfl (lv_at hl 1 rfl) ?_
                refine lv_iload_n hx hb dX8_digest_77 rfl (lv_at hl 2 rfl) ?_
                obtain ⟨v14, g14, h⟩ := ob h
                refine c_Vi (q := (RX8, TX8, 27)) (ci := 8) (b := 29) (As := [.int y3_1, .int y4_2]) (rest := [.ref (ad 29)]) (A := AA ad) ⟨hx, hb, hml, hown, htb⟩ (c_X8_tellMeeting l D ad cI hd σ τ_4 η_4 y3_1 y4_2 v14 g14) (cwV 2 htb (gdV (fun _ hh => hh) wML_RX8_121 wIM_yX8_tellMeeting wSE_yX8_tellMeeting wI_RX8 wC_yX8_tellMeeting) rfl rfl rfl hd_X8_tellMeeting ⟨by decide, by decide⟩) hK hP rfl w_29 (fun _ hh => hh) hS rfl hl.1 rfl (Nat.le_of_ble_eq_true rfl) dX8_digest_78 ⟨Nat.le_refl 0, Nat.le_refl 0⟩ (fun H locs hP hS => ?_)
                refine lv_i2l (v := ((v14.1).toInt64)) hx hb dX8_digest_81 rfl ?_
                obtain ⟨v15, g15, h⟩ := ol h
                refine c_Vv (q := (RX8, TX8, 27)) (ci := 8) (b := 29) (As := [.long ((v14.1).toInt64)]) (rest := []) (A := AA ad) ⟨hx, hb, hml, hown, htb⟩ (c_X8_say l D ad cI hd σ v14.2 η_4 ((v14.1).toInt64) v15 g15) (cwV 1 htb (gdV (fun _ hh => hh) wML_RX8_243 wIM_yX8_say wSE_yX8_say wI_RX8 wC_yX8_say) rfl rfl rfl hd_X8_say ⟨by decide, by decide⟩) hK hP rfl w_29 (fun _ hh => hh) hS rfl hl.1 rfl (Nat.le_of_ble_eq_true rfl) dX8_digest_82 ⟨Nat.le_refl 0, Nat.le_refl 0⟩ (fun H locs hP hS => ?_)
                refine lv_iinc (v := (y4_2 + (1 : Int32))) (lv' := [(2, .int (y4_2 + (1 : Int32))), (0, .ref (ad 29)), (1, .int y3_1)]) hx hb dX8_digest_85 hl (k := 2) rfl rfl (by decide) rfl (fun ls hl => ?_)
                refine lv_goto (tgt := 69) hx hb dX8_digest_88 (by decide) ?_
                exact ih v14.2 v15 (y4_2 + (1 : Int32)) _ _ _ h hP hS (lv_sub hl [1, 2, 0] rfl)
          exact L4 10000 τ_3 η_3 (0 : Int32) _ _ _ hj12 hP hS (lv_sub hl [1, 2, 0] rfl)
    exact L3 10000 v2.2.1 v2.2.2 (0 : Int32) _ _ _ hj10 hP hS (lv_sub hl [1, 0] rfl)
  have L1 : ∀ (n : Nat) (τ_1 : St) (η_1 : Int64) (y1_1 : Int32) (H : Heap) (locs : List Loc) (ls : Array Slot), X8_digest_L1 n τ_1 η_1 y1_1 = some v2 → WP D ad cI σ τ_1 η_1 H → va_S (AA ad) s.heap H locs → lv_has ls 3 [(0, .ref (ad 29)), (1, .int y1_1)] → W p l e rmX8_digest s m args below meth c H locs 0 0 Q (F0 m 9 ls []) := by
    intro n
    induction n with
    | zero => intro τ_1 η_1 y1_1 H locs ls h; exact absurd h (by simp [X8_digest_L1])
    | succ n ih =>
      intro τ_1 η_1 y1_1 H locs ls h hP hS hl
      replace h := (X8_digest_L1_s n τ_1 η_1 y1_1).symm.trans h
      refine lv_iload_n hx hb dX8_digest_9 rfl (lv_at hl 1 rfl) ?_
      refine lv_aload_n hx hb dX8_digest_10 rfl (lv_at hl 0 rfl) ?_
      refine va_get (D := D) (ci := 8) (v := .int (τ_1 29 0)) (C := RX8) (T := TX8) (N := 27) hx hb htb wu_8 hown hK.1 hP 29 w_29 rfl 0 (by decide) (htb _ wFL_RX8_62) (fun _ h9 => h9) rfl dX8_digest_11 ?_
      refine lv_icmp_ge (tgt := 57) hx hb dX8_digest_14 (by decide) (fun c3 => ?_) (fun c3 => ?_)
      · replace h := ip c3 h
        obtain rfl := Option.some.inj h
        exact K1 _ _ _ hP hS (lv_sub hl [0] rfl)
      · replace h := iq c3 h
        refine lv_iconst (v := (0 : Int32)) hx hb dX8_digest_17 (by decide) ?_
        refine lv_istore_n (lv' := [(2, .int (0 : Int32)), (0, .ref (ad 29)), (1, .int y1_1)]) hx hb dX8_digest_18 rfl hl (by decide) rfl (fun ls hl => ?_)
        obtain ⟨v4, hj4, h⟩ := ob h
        have K2 : ∀ (H : Heap) (locs : List Loc) (ls : Array Slot), WP D ad cI σ v4.2.1 v4.2.2 H → va_S (AA ad) s.heap H locs → lv_has ls 3 [(0, .ref (ad 29)), (1, .int y1_1)] → W p l e rmX8_digest s m args below meth c H locs 0 0 Q (F0 m 41 ls []) := by
          intro H locs ls hP hS hl
          refine lv_aload_n hx hb dX8_digest_41 rfl (lv_at hl 0 rfl) ?_
          refine lv_aload_n hx hb dX8_digest_42 rfl (lv_at hl 0 rfl) ?_
          refine lv_iload_n hx hb dX8_digest_43 rfl (lv_at hl 1 rfl) ?_
          obtain ⟨v8, g8, h⟩ := ob h
          refine c_Vi (q := (RX8, TX8, 27)) (ci := 8) (b := 29) (As := [.int y1_1]) (rest := [.ref (ad 29)]) (A := AA ad) ⟨hx, hb, hml, hown, htb⟩ (c_X8_latestOf l D ad cI hd σ v4.2.1 v4.2.2 y1_1 v8 g8) (cwV 1 htb (gdV (fun _ hh => hh) wML_RX8_172 wIM_yX8_latestOf wSE_yX8_latestOf wI_RX8 wC_yX8_latestOf) rfl rfl rfl hd_X8_latestOf ⟨by decide, by decide⟩) hK hP rfl w_29 (fun _ hh => hh) hS rfl hl.1 rfl (Nat.le_of_ble_eq_true rfl) dX8_digest_44 ⟨Nat.le_refl 0, Nat.le_refl 0⟩ (fun H locs hP hS => ?_)
          refine lv_i2l (v := ((v8.1).toInt64)) hx hb dX8_digest_47 rfl ?_
          obtain ⟨v9, g9, h⟩ := ol h
          refine c_Vv (q := (RX8, TX8, 27)) (ci := 8) (b := 29) (As := [.long ((v8.1).toInt64)]) (rest := []) (A := AA ad) ⟨hx, hb, hml, hown, htb⟩ (c_X8_say l D ad cI hd σ v8.2 v4.2.2 ((v8.1).toInt64) v9 g9) (cwV 1 htb (gdV (fun _ hh => hh) wML_RX8_243 wIM_yX8_say wSE_yX8_say wI_RX8 wC_yX8_say) rfl rfl rfl hd_X8_say ⟨by decide, by decide⟩) hK hP rfl w_29 (fun _ hh => hh) hS rfl hl.1 rfl (Nat.le_of_ble_eq_true rfl) dX8_digest_48 ⟨Nat.le_refl 0, Nat.le_refl 0⟩ (fun H locs hP hS => ?_)
          refine lv_iinc (v := (y1_1 + (1 : Int32))) (lv' := [(1, .int (y1_1 + (1 : Int32))), (0, .ref (ad 29))]) hx hb dX8_digest_51 hl (k := 1) rfl rfl (by decide) rfl (fun ls hl => ?_)
          refine lv_goto (tgt := 9) hx hb dX8_digest_54 (by decide) ?_
          exact ih v8.2 v9 (y1_1 + (1 : Int32)) _ _ _ h hP hS (lv_sub hl [1, 0] rfl)
        have L2 : ∀ (n : Nat) (τ_2 : St) (η_2 : Int64) (y2_2 : Int32) (H : Heap) (locs : List Loc) (ls : Array Slot), X8_digest_L2 n τ_2 η_2 y1_1 y2_2 = some v4 → WP D ad cI σ τ_2 η_2 H → va_S (AA ad) s.heap H locs → lv_has ls 3 [(0, .ref (ad 29)), (1, .int y1_1), (2, .int y2_2)] → W p l e rmX8_digest s m args below meth c H locs 0 0 Q (F0 m 19 ls []) := by
          intro n
          induction n with
          | zero => intro τ_2 η_2 y2_2 H locs ls h; exact absurd h (by simp [X8_digest_L2])
          | succ n ih =>
            intro τ_2 η_2 y2_2 H locs ls h hP hS hl
            replace h := (X8_digest_L2_s n τ_2 η_2 y1_1 y2_2).symm.trans h
            refine lv_iload_n hx hb dX8_digest_19 rfl (lv_at hl 2 rfl) ?_
            refine lv_iconst (v := (4 : Int32)) hx hb dX8_digest_20 (by decide) ?_
            refine lv_icmp_ge (tgt := 41) hx hb dX8_digest_21 (by decide) (fun c5 => ?_) (fun c5 => ?_)
            · replace h := ip c5 h
              obtain rfl := Option.some.inj h
              exact K2 _ _ _ hP hS (lv_sub hl [0, 1] rfl)
            · replace h := iq c5 h
              refine lv_aload_n hx hb dX8_digest_24 rfl (lv_at hl 0 rfl) ?_
              refine lv_aload_n hx hb dX8_digest_25 rfl (lv_at hl 0 rfl) ?_
              refine lv_iload_n hx hb dX8_digest_26 rfl (lv_at hl 1 rfl) ?_
              refine lv_iload_n hx hb dX8_digest_27 rfl (lv_at hl 2 rfl) ?_
              obtain ⟨v6, g6, h⟩ := ob h
              refine c_Vi (q := (RX8, TX8, 27)) (ci := 8) (b := 29) (As := [.int y1_1, .int y2_2]) (rest := [.ref (ad 29)]) (A := AA ad) ⟨hx, hb, hml, hown, htb⟩ (c_X8_tellGuest l D ad cI hd σ τ_2 η_2 y1_1 y2_2 v6 g6) (cwV 2 htb (gdV (fun _ hh => hh) wML_RX8_91 wIM_yX8_tellGuest wSE_yX8_tellGuest wI_RX8 wC_yX8_tellGuest) rfl rfl rfl hd_X8_tellGuest ⟨by decide, by decide⟩) hK hP rfl w_29 (fun _ hh => hh) hS rfl hl.1 rfl (Nat.le_of_ble_eq_true rfl) dX8_digest_28 ⟨Nat.le_refl 0, Nat.le_refl 0⟩ (fun H locs hP hS => ?_)
              refine lv_i2l (v := ((v6.1).toInt64)) hx hb dX8_digest_31 rfl ?_
              obtain ⟨v7, g7, h⟩ := ol h
              refine c_Vv (q := (RX8, TX8, 27)) (ci := 8) (b := 29) (As := [.long ((v6.1).toInt64)]) (rest := []) (A := AA ad) ⟨hx, hb, hml, hown, htb⟩ (c_X8_say l D ad cI hd σ v6.2 η_2 ((v6.1).toInt64) v7 g7) (cwV 1 htb (gdV (fun _ hh => hh) wML_RX8_243 wIM_yX8_say wSE_yX8_say wI_RX8 wC_yX8_say) rfl rfl rfl hd_X8_say ⟨by decide, by decide⟩) hK hP rfl w_29 (fun _ hh => hh) hS rfl hl.1 rfl (Nat.le_of_ble_eq_true rfl) dX8_digest_32 ⟨Nat.le_refl 0, Nat.le_refl 0⟩ (fun H locs hP hS => ?_)
              refine lv_iinc (v := (y2_2 + (1 : Int32))) (lv' := [(2, .int (y2_2 + (1 : Int32))), (0, .ref (ad 29)), (1, .int y1_1)]) hx hb dX8_digest_35 hl (k := 2) rfl rfl (by decide) rfl (fun ls hl => ?_)
              refine lv_goto (tgt := 19) hx hb dX8_digest_38 (by decide) ?_
              exact ih v6.2 v7 (y2_2 + (1 : Int32)) _ _ _ h hP hS (lv_sub hl [1, 2, 0] rfl)
        exact L2 10000 τ_1 η_1 (0 : Int32) _ _ _ hj4 hP hS (lv_sub hl [1, 2, 0] rfl)
  exact L1 10000 τ η1 (0 : Int32) _ _ _ hj2 hP hS (lv_sub hl [1, 0] rfl)
