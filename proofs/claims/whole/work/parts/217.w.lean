def X8_count (τ : St) (x1 : Int32) : Option (Int32 × St) :=
  bd (X8_countOf τ x1) fun v1 =>
  some (v1.1, v1.2)
abbrev rmX8_count : Room := { frames := 5, cells := 0, slots := 0, locals := 111 }
set_option maxHeartbeats 4000000 in
set_option maxRecDepth 100000 in
theorem c_X8_count (l : Launch) (D : va_G) (ad : Nat → Nat) (cI : ClassId) (hd : HD ad) (σ τ : St) (η : Int64) (x1 : Int32) (rr : Int32 × St) (h : X8_count τ x1 = some rr) : MI l yX8_count (wy yX8_count cX8_count 2 (some .int)) rmX8_count D ad cI [.ref (ad 29), .int x1] σ τ η rr.1 σ rr.2 η := by
  refine mk_i (own := RX8) (lv := [(0, .ref (ad 29)), (1, .int x1)]) (plainFor_of_name (by decide)) rfl (Nat.le_of_ble_eq_true rfl) rfl ?_
  intro p e s m args below meth c Q ls hx hb hml hown htb hK ret hP hS hl
  unfold X8_count at h
  refine lv_aload_n hx hb dX8_count_0 rfl (lv_at hl 0 rfl) ?_
  refine lv_iload_n hx hb dX8_count_1 rfl (lv_at hl 1 rfl) ?_
  obtain ⟨v1, g1, h⟩ := ob h
  refine c_Vi (q := (RX8, TX8, 27)) (ci := 8) (b := 29) (As := [.int x1]) (rest := []) (A := AA ad) ⟨hx, hb, hml, hown, htb⟩ (c_X8_countOf l D ad cI hd σ τ η x1 v1 g1) (cwV 1 htb (gdV (fun _ hh => hh) wML_RX8_232 wIM_yX8_countOf wSE_yX8_countOf wI_RX8 wC_yX8_countOf) rfl rfl rfl hd_X8_countOf ⟨by decide, by decide⟩) hK hP rfl w_29 (fun _ hh => hh) hS rfl hl.1 rfl (Nat.le_of_ble_eq_true rfl) dX8_count_2 ⟨Nat.le_refl 0, Nat.le_refl 0⟩ (fun H locs hP hS => ?_)
  obtain rfl := Option.some.inj h
  exact ret _ _ _ _ _ dX8_count_5 hP hS rfl
def X7_mix  (x0 : Int64) (x2 : Int64) : Int64 :=
  (((31 : Int64) * x0) + x2)
abbrev rmX7_mix : Room := { frames := 0, cells := 0, slots := 0, locals := 0 }
set_option maxHeartbeats 4000000 in
set_option maxRecDepth 100000 in
theorem c_X7_mix (l : Launch) (D : va_G) (ad : Nat → Nat) (cI : ClassId) (hd : HD ad) (σ τ : St) (η : Int64) (x0 : Int64) (x2 : Int64) (rr : Int64) (h : X7_mix  x0 x2 = rr) : ML l yX7_mix (wy yX7_mix cX7_mix 4 (some .long)) rmX7_mix D ad cI [.long x0, .long x2] σ τ η rr σ τ η := by
  refine mk_l (own := RX7) (lv := [(0, .long x0), (2, .long x2)]) (plainFor_of_name (by decide)) rfl (Nat.le_of_ble_eq_true rfl) rfl ?_
  intro p e s m args below meth c Q ls hx hb hml hown htb hK ret hP hS hl
  unfold X7_mix at h
  refine lv_ldc2 (v := (31 : Int64)) hx hb hown (htb _ wKL_RX7_356) dX7_mix_0 ?_
  refine lv_lload_n hx hb dX7_mix_3 rfl (lv_at hl 0 rfl) ?_
  refine lv_lmul hx hb dX7_mix_4 ?_
  refine lv_lload_n hx hb dX7_mix_5 rfl (lv_at hl 1 rfl) ?_
  refine lv_ladd hx hb dX7_mix_6 ?_
  subst h
  exact ret _ _ _ _ _ dX7_mix_7 hP hS rfl
def X7_mixGuests_L2 (n : Nat) (σ_2 : St) (y2_3 : Int64) (u2_5 : Int32) (y2_6 : Int32) : Option (Int64 × Int32) := match n with
  | 0 => none
  | n + 1 =>
    if (3 : Int32) < y2_6 then (
      some (y2_3, y2_6))
    else (
      bd (X7_about σ_2 u2_5 y2_6) fun v6 =>
      lt (X7_mix  y2_3 ((v6).toInt64)) fun v7 =>
      X7_mixGuests_L2 n σ_2 v7 u2_5 (y2_6 + (1 : Int32)))
theorem X7_mixGuests_L2_s (n : Nat) (σ_2 : St) (y2_3 : Int64) (u2_5 : Int32) (y2_6 : Int32) : X7_mixGuests_L2 (n + 1) σ_2 y2_3 u2_5 y2_6 =
    if (3 : Int32) < y2_6 then (
      some (y2_3, y2_6))
    else (
      bd (X7_about σ_2 u2_5 y2_6) fun v6 =>
      lt (X7_mix  y2_3 ((v6).toInt64)) fun v7 =>
      X7_mixGuests_L2 n σ_2 v7 u2_5 (y2_6 + (1 : Int32))) := rfl
def X7_mixGuests_L1 (n : Nat) (σ_1 : St) (y1_3 : Int64) (y1_5 : Int32) : Option (Int64 × Int32) := match n with
  | 0 => none
  | n + 1 =>
    lt (X0_size σ_1 ) fun v2 =>
    if v2 ≤ y1_5 then (
      some (y1_3, y1_5))
    else (
      bd (X7_mixGuests_L2 10000 σ_1 y1_3 y1_5 (0 : Int32)) fun v4 =>
      bd (X7_latest σ_1 y1_5) fun v8 =>
      lt (X7_mix  v4.1 ((v8).toInt64)) fun v9 =>
      X7_mixGuests_L1 n σ_1 v9 (y1_5 + (1 : Int32)))
theorem X7_mixGuests_L1_s (n : Nat) (σ_1 : St) (y1_3 : Int64) (y1_5 : Int32) : X7_mixGuests_L1 (n + 1) σ_1 y1_3 y1_5 =
    lt (X0_size σ_1 ) fun v2 =>
    if v2 ≤ y1_5 then (
      some (y1_3, y1_5))
    else (
      bd (X7_mixGuests_L2 10000 σ_1 y1_3 y1_5 (0 : Int32)) fun v4 =>
      bd (X7_latest σ_1 y1_5) fun v8 =>
      lt (X7_mix  v4.1 ((v8).toInt64)) fun v9 =>
      X7_mixGuests_L1 n σ_1 v9 (y1_5 + (1 : Int32))) := rfl
def X7_mixGuests (σ : St) (x1 : Int64) : Option (Int64) :=
  bd (X7_mixGuests_L1 10000 σ x1 (0 : Int32)) fun v1 =>
  some v1.1
abbrev rmX7_mixGuests : Room := { frames := 3, cells := 0, slots := 0, locals := 70 }
set_option maxHeartbeats 4000000 in
set_option maxRecDepth 100000 in
theorem c_X7_mixGuests (l : Launch) (D : va_G) (ad : Nat → Nat) (cI : ClassId) (hd : HD ad) (σ τ : St) (η : Int64) (x1 : Int64) (rr : Int64) (h : X7_mixGuests σ x1 = some rr) : ML l yX7_mixGuests (wy yX7_mixGuests cX7_mixGuests 7 (some .long)) rmX7_mixGuests D ad cI [.ref (ad 0), .long x1] σ τ η rr σ τ η := by
  refine mk_l (own := RX7) (lv := [(0, .ref (ad 0)), (1, .long x1)]) (plainFor_of_name (by decide)) rfl (Nat.le_of_ble_eq_true rfl) rfl ?_
  intro p e s m args below meth c Q ls hx hb hml hown htb hK ret hP hS hl
  unfold X7_mixGuests at h
  refine lv_lload_n hx hb dX7_mixGuests_0 rfl (lv_at hl 1 rfl) ?_
  refine lv_lstore_n (lv' := [(3, .long x1), (0, .ref (ad 0)), (1, .long x1)]) hx hb dX7_mixGuests_1 rfl hl (by decide) rfl (fun ls hl => ?_)
  refine lv_iconst (v := (0 : Int32)) hx hb dX7_mixGuests_2 (by decide) ?_
  refine lv_istore (lv' := [(5, .int (0 : Int32)), (3, .long x1), (0, .ref (ad 0)), (1, .long x1)]) hx hb dX7_mixGuests_3 hl (by decide) rfl (fun ls hl => ?_)
  obtain ⟨v1, hj1, h⟩ := ob h
  have K1 : ∀ (H : Heap) (locs : List Loc) (ls : Array Slot), WP D ad cI σ τ η H → va_S (AA ad) s.heap H locs → lv_has ls 7 [(3, .long v1.1)] → W p l e rmX7_mixGuests s m args below meth c H locs 0 0 Q (F0 m 64 ls []) := by
    intro H locs ls hP hS hl
    refine lv_lload_n hx hb dX7_mixGuests_64 rfl (lv_at hl 0 rfl) ?_
    obtain rfl := Option.some.inj h
    exact ret _ _ _ _ _ dX7_mixGuests_65 hP hS rfl
  have L1 : ∀ (n : Nat) (y1_3 : Int64) (y1_5 : Int32) (H : Heap) (locs : List Loc) (ls : Array Slot), X7_mixGuests_L1 n σ y1_3 y1_5 = some v1 → WP D ad cI σ τ η H → va_S (AA ad) s.heap H locs → lv_has ls 7 [(0, .ref (ad 0)), (3, .long y1_3), (5, .int y1_5)] → W p l e rmX7_mixGuests s m args below meth c H locs 0 0 Q (F0 m 5 ls []) := by
    intro n
    induction n with
    | zero => intro y1_3 y1_5 H locs ls h; exact absurd h (by simp [X7_mixGuests_L1])
    | succ n ih =>
      intro y1_3 y1_5 H locs ls h hP hS hl
      replace h := (X7_mixGuests_L1_s n σ y1_3 y1_5).symm.trans h
      refine lv_iload hx hb dX7_mixGuests_5 (lv_at hl 2 rfl) ?_
      refine lv_aload_n hx hb dX7_mixGuests_7 rfl (lv_at hl 0 rfl) ?_
      refine va_get (D := D) (ci := 7) (v := .ref (ad 1)) (C := RX7) (T := TX7) (N := 11) hx hb htb wu_7 hown hK.1 hP 0 w_0 rfl 0 (by decide) (htb _ wFL_RX7_10) (fun _ h9 => h9) rfl dX7_mixGuests_8 ?_
      obtain ⟨v2, g2, h⟩ := ol h
      refine c_Vi (q := (RX0, TX0, 6)) (ci := 0) (b := 1) (As := []) (rest := [.int y1_5]) (A := AA ad) ⟨hx, hb, hml, hown, htb⟩ (c_X0_size l D ad cI hd σ τ η  v2 g2) (cwV 0 htb (gdV (fun _ hh => hh) wML_RX7_138 wIM_yX0_size wSE_yX0_size wI_RX0 wC_yX0_size) rfl rfl rfl hd_X0_size ⟨by decide, by decide⟩) hK hP rfl w_1 (fun _ hh => hh) hS rfl hl.1 rfl (Nat.le_of_ble_eq_true rfl) dX7_mixGuests_11 ⟨Nat.le_refl 0, Nat.le_refl 0⟩ (fun H locs hP hS => ?_)
      refine lv_icmp_ge (tgt := 64) hx hb dX7_mixGuests_14 (by decide) (fun c3 => ?_) (fun c3 => ?_)
      · replace h := ip c3 h
        obtain rfl := Option.some.inj h
        exact K1 _ _ _ hP hS (lv_sub hl [1] rfl)
      · replace h := iq c3 h
        refine lv_iconst (v := (0 : Int32)) hx hb dX7_mixGuests_17 (by decide) ?_
        refine lv_istore (lv' := [(6, .int (0 : Int32)), (0, .ref (ad 0)), (3, .long y1_3), (5, .int y1_5)]) hx hb dX7_mixGuests_18 hl (by decide) rfl (fun ls hl => ?_)
        obtain ⟨v4, hj4, h⟩ := ob h
        have K2 : ∀ (H : Heap) (locs : List Loc) (ls : Array Slot), WP D ad cI σ τ η H → va_S (AA ad) s.heap H locs → lv_has ls 7 [(0, .ref (ad 0)), (3, .long v4.1), (5, .int y1_5)] → W p l e rmX7_mixGuests s m args below meth c H locs 0 0 Q (F0 m 46 ls []) := by
          intro H locs ls hP hS hl
          refine lv_lload_n hx hb dX7_mixGuests_46 rfl (lv_at hl 1 rfl) ?_
          refine lv_aload_n hx hb dX7_mixGuests_47 rfl (lv_at hl 0 rfl) ?_
          refine lv_iload hx hb dX7_mixGuests_48 (lv_at hl 2 rfl) ?_
          obtain ⟨v8, g8, h⟩ := ob h
          refine c_Vi (q := (RX7, TX7, 11)) (ci := 7) (b := 0) (As := [.int y1_5]) (rest := [.long v4.1]) (A := AA ad) ⟨hx, hb, hml, hown, htb⟩ (c_X7_latest l D ad cI hd σ τ η y1_5 v8 g8) (cwV 1 htb (gdV (fun _ hh => hh) wML_RX7_341 wIM_yX7_latest wSE_yX7_latest wI_RX7 wC_yX7_latest) rfl rfl rfl hd_X7_latest ⟨by decide, by decide⟩) hK hP rfl w_0 (fun _ hh => hh) hS rfl hl.1 rfl (Nat.le_of_ble_eq_true rfl) dX7_mixGuests_50 ⟨Nat.le_refl 0, Nat.le_refl 0⟩ (fun H locs hP hS => ?_)
          refine lv_i2l (v := ((v8).toInt64)) hx hb dX7_mixGuests_53 rfl ?_
          obtain ⟨v9, g9, h⟩ := ol h
          refine c_Sl (As := [.long v4.1, .long ((v8).toInt64)]) (rest := []) (A := AA ad) ⟨hx, hb, hml, hown, htb⟩ (c_X7_mix l D ad cI hd σ τ η v4.1 ((v8).toInt64) v9 g9) (va_cwS 2 htb (gdS (fun _ hh => hh) wML_RX7_310 wST_yX7_mix wI_RX7 wC_yX7_mix) rfl rfl rfl hd_X7_mix.2 ⟨by decide, by decide⟩) hK hP (fun _ hh => hh) hS rfl hl.1 rfl (Nat.le_of_ble_eq_true rfl) dX7_mixGuests_54 ⟨Nat.le_refl 0, Nat.le_refl 0⟩ (fun H locs hP hS => ?_)
          refine lv_lstore_n (lv' := [(3, .long v9), (0, .ref (ad 0)), (5, .int y1_5)]) hx hb dX7_mixGuests_57 rfl hl (by decide) rfl (fun ls hl => ?_)
          refine lv_iinc (v := (y1_5 + (1 : Int32))) (lv' := [(5, .int (y1_5 + (1 : Int32))), (3, .long v9), (0, .ref (ad 0))]) hx hb dX7_mixGuests_58 hl (k := 2) rfl rfl (by decide) rfl (fun ls hl => ?_)
          refine lv_goto (tgt := 5) hx hb dX7_mixGuests_61 (by decide) ?_
          exact ih v9 (y1_5 + (1 : Int32)) _ _ _ h hP hS (lv_sub hl [2, 1, 0] rfl)
        have L2 : ∀ (n : Nat) (y2_3 : Int64) (y2_6 : Int32) (H : Heap) (locs : List Loc) (ls : Array Slot), X7_mixGuests_L2 n σ y2_3 y1_5 y2_6 = some v4 → WP D ad cI σ τ η H → va_S (AA ad) s.heap H locs → lv_has ls 7 [(0, .ref (ad 0)), (3, .long y2_3), (5, .int y1_5), (6, .int y2_6)] → W p l e rmX7_mixGuests s m args below meth c H locs 0 0 Q (F0 m 20 ls []) := by
          intro n
          induction n with
          | zero => intro y2_3 y2_6 H locs ls h; exact absurd h (by simp [X7_mixGuests_L2])
          | succ n ih =>
            intro y2_3 y2_6 H locs ls h hP hS hl
            replace h := (X7_mixGuests_L2_s n σ y2_3 y1_5 y2_6).symm.trans h
            refine lv_iload hx hb dX7_mixGuests_20 (lv_at hl 3 rfl) ?_
            refine lv_iconst (v := (3 : Int32)) hx hb dX7_mixGuests_22 (by decide) ?_
            refine lv_icmp_gt (tgt := 46) hx hb dX7_mixGuests_23 (by decide) (fun c5 => ?_) (fun c5 => ?_)
            · replace h := ip c5 h
              obtain rfl := Option.some.inj h
              exact K2 _ _ _ hP hS (lv_sub hl [0, 1, 2] rfl)
            · replace h := iq c5 h
              refine lv_lload_n hx hb dX7_mixGuests_26 rfl (lv_at hl 1 rfl) ?_
              refine lv_aload_n hx hb dX7_mixGuests_27 rfl (lv_at hl 0 rfl) ?_
              refine lv_iload hx hb dX7_mixGuests_28 (lv_at hl 2 rfl) ?_
              refine lv_iload hx hb dX7_mixGuests_30 (lv_at hl 3 rfl) ?_
              obtain ⟨v6, g6, h⟩ := ob h
              refine c_Vi (q := (RX7, TX7, 11)) (ci := 7) (b := 0) (As := [.int y1_5, .int y2_6]) (rest := [.long y2_3]) (A := AA ad) ⟨hx, hb, hml, hown, htb⟩ (c_X7_about l D ad cI hd σ τ η y1_5 y2_6 v6 g6) (cwV 2 htb (gdV (fun _ hh => hh) wML_RX7_338 wIM_yX7_about wSE_yX7_about wI_RX7 wC_yX7_about) rfl rfl rfl hd_X7_about ⟨by decide, by decide⟩) hK hP rfl w_0 (fun _ hh => hh) hS rfl hl.1 rfl (Nat.le_of_ble_eq_true rfl) dX7_mixGuests_32 ⟨Nat.le_refl 0, Nat.le_refl 0⟩ (fun H locs hP hS => ?_)
              refine lv_i2l (v := ((v6).toInt64)) hx hb dX7_mixGuests_35 rfl ?_
              obtain ⟨v7, g7, h⟩ := ol h
              refine c_Sl (As := [.long y2_3, .long ((v6).toInt64)]) (rest := []) (A := AA ad) ⟨hx, hb, hml, hown, htb⟩ (c_X7_mix l D ad cI hd σ τ η y2_3 ((v6).toInt64) v7 g7) (va_cwS 2 htb (gdS (fun _ hh => hh) wML_RX7_310 wST_yX7_mix wI_RX7 wC_yX7_mix) rfl rfl rfl hd_X7_mix.2 ⟨by decide, by decide⟩) hK hP (fun _ hh => hh) hS rfl hl.1 rfl (Nat.le_of_ble_eq_true rfl) dX7_mixGuests_36 ⟨Nat.le_refl 0, Nat.le_refl 0⟩ (fun H locs hP hS => ?_)
              refine lv_lstore_n (lv' := [(3, .long v7), (0, .ref (ad 0)), (5, .int y1_5), (6, .int y2_6)]) hx hb dX7_mixGuests_39 rfl hl (by decide) rfl (fun ls hl => ?_)
              refine lv_iinc (v := (y2_6 + (1 : Int32))) (lv' := [(6, .int (y2_6 + (1 : Int32))), (3, .long v7), (0, .ref (ad 0)), (5, .int y1_5)]) hx hb dX7_mixGuests_40 hl (k := 3) rfl rfl (by decide) rfl (fun ls hl => ?_)
              refine lv_goto (tgt := 20) hx hb dX7_mixGuests_43 (by decide) ?_
              exact ih v7 (y2_6 + (1 : Int32)) _ _ _ h hP hS (lv_sub hl [2, 1, 3, 0] rfl)
        exact L2 10000 y1_3 (0 : Int32) _ _ _ hj4 hP hS (lv_sub hl [1, 2, 3, 0] rfl)
  exact L1 10000 x1 (0 : Int32) _ _ _ hj1 hP hS (lv_sub hl [2, 1, 0] rfl)
def X7_mixMeetings_L2 (n : Nat) (σ_2 : St) (y2_3 : Int64) (u2_5 : Int32) (y2_6 : Int32) : Option (Int64 × Int32) := match n with
  | 0 => none
  | n + 1 =>
    if (3 : Int32) < y2_6 then (
      some (y2_3, y2_6))
    else (
      bd (X7_meeting σ_2 u2_5 y2_6) fun v6 =>
      lt (X7_mix  y2_3 ((v6).toInt64)) fun v7 =>
      X7_mixMeetings_L2 n σ_2 v7 u2_5 (y2_6 + (1 : Int32)))
theorem X7_mixMeetings_L2_s (n : Nat) (σ_2 : St) (y2_3 : Int64) (u2_5 : Int32) (y2_6 : Int32) : X7_mixMeetings_L2 (n + 1) σ_2 y2_3 u2_5 y2_6 =
    if (3 : Int32) < y2_6 then (
      some (y2_3, y2_6))
    else (
      bd (X7_meeting σ_2 u2_5 y2_6) fun v6 =>
      lt (X7_mix  y2_3 ((v6).toInt64)) fun v7 =>
      X7_mixMeetings_L2 n σ_2 v7 u2_5 (y2_6 + (1 : Int32))) := rfl
def X7_mixMeetings_L1 (n : Nat) (σ_1 : St) (y1_3 : Int64) (y1_5 : Int32) : Option (Int64 × Int32) := match n with
  | 0 => none
  | n + 1 =>
    lt (X2_size σ_1 ) fun v2 =>
    if v2 ≤ y1_5 then (
      some (y1_3, y1_5))
    else (
      bd (X7_mixMeetings_L2 10000 σ_1 y1_3 y1_5 (0 : Int32)) fun v4 =>
      X7_mixMeetings_L1 n σ_1 v4.1 (y1_5 + (1 : Int32)))
theorem X7_mixMeetings_L1_s (n : Nat) (σ_1 : St) (y1_3 : Int64) (y1_5 : Int32) : X7_mixMeetings_L1 (n + 1) σ_1 y1_3 y1_5 =
    lt (X2_size σ_1 ) fun v2 =>
    if v2 ≤ y1_5 then (
      some (y1_3, y1_5))
    else (
      bd (X7_mixMeetings_L2 10000 σ_1 y1_3 y1_5 (0 : Int32)) fun v4 =>
      X7_mixMeetings_L1 n σ_1 v4.1 (y1_5 + (1 : Int32))) := rfl
def X7_mixMeetings (σ : St) (x1 : Int64) : Option (Int64) :=
  bd (X7_mixMeetings_L1 10000 σ x1 (0 : Int32)) fun v1 =>
  some v1.1
abbrev rmX7_mixMeetings : Room := { frames := 3, cells := 0, slots := 0, locals := 66 }
set_option maxHeartbeats 4000000 in
set_option maxRecDepth 100000 in
theorem c_X7_mixMeetings (l : Launch) (D : va_G) (ad : Nat → Nat) (cI : ClassId) (hd : HD ad) (σ τ : St) (η : Int64) (x1 : Int64) (rr : Int64) (h : X7_mixMeetings σ x1 = some rr) : ML l yX7_mixMeetings (wy yX7_mixMeetings cX7_mixMeetings 7 (some .long)) rmX7_mixMeetings D ad cI [.ref (ad 0), .long x1] σ τ η rr σ τ η := by
  refine mk_l (own := RX7) (lv := [(0, .ref (ad 0)), (1, .long x1)]) (plainFor_of_name (by decide)) rfl (Nat.le_of_ble_eq_true rfl) rfl ?_
  intro p e s m args below meth c Q ls hx hb hml hown htb hK ret hP hS hl
  unfold X7_mixMeetings at h
  refine lv_lload_n hx hb dX7_mixMeetings_0 rfl (lv_at hl 1 rfl) ?_
  refine lv_lstore_n (lv' := [(3, .long x1), (0, .ref (ad 0)), (1, .long x1)]) hx hb dX7_mixMeetings_1 rfl hl (by decide) rfl (fun ls hl => ?_)
  refine lv_iconst (v := (0 : Int32)) hx hb dX7_mixMeetings_2 (by decide) ?_
  refine lv_istore (lv' := [(5, .int (0 : Int32)), (3, .long x1), (0, .ref (ad 0)), (1, .long x1)]) hx hb dX7_mixMeetings_3 hl (by decide) rfl (fun ls hl => ?_)
  obtain ⟨v1, hj1, h⟩ := ob h
  have K1 : ∀ (H : Heap) (locs : List Loc) (ls : Array Slot), WP D ad cI σ τ η H → va_S (AA ad) s.heap H locs → lv_has ls 7 [(3, .long v1.1)] → W p l e rmX7_mixMeetings s m args below meth c H locs 0 0 Q (F0 m 52 ls []) := by
    intro H locs ls hP hS hl
    refine lv_lload_n hx hb dX7_mixMeetings_52 rfl (lv_at hl 0 rfl) ?_
    obtain rfl := Option.some.inj h
    exact ret _ _ _ _ _ dX7_mixMeetings_53 hP hS rfl
  have L1 : ∀ (n : Nat) (y1_3 : Int64) (y1_5 : Int32) (H : Heap) (locs : List Loc) (ls : Array Slot), X7_mixMeetings_L1 n σ y1_3 y1_5 = some v1 → WP D ad cI σ τ η H → va_S (AA ad) s.heap H locs → lv_has ls 7 [(0, .ref (ad 0)), (3, .long y1_3), (5, .int y1_5)] → W p l e rmX7_mixMeetings s m args below meth c H locs 0 0 Q (F0 m 5 ls []) := by
    intro n
    induction n with
    | zero => intro y1_3 y1_5 H locs ls h; exact absurd h (by simp [X7_mixMeetings_L1])
    | succ n ih =>
      intro y1_3 y1_5 H locs ls h hP hS hl
      replace h := (X7_mixMeetings_L1_s n σ y1_3 y1_5).symm.trans h
      refine lv_iload hx hb dX7_mixMeetings_5 (lv_at hl 2 rfl) ?_
      refine lv_aload_n hx hb dX7_mixMeetings_7 rfl (lv_at hl 0 rfl) ?_
      refine va_get (D := D) (ci := 7) (v := .ref (ad 10)) (C := RX7) (T := TX7) (N := 11) hx hb htb wu_7 hown hK.1 hP 0 w_0 rfl 3 (by decide) (htb _ wFL_RX7_33) (fun _ h9 => h9) rfl dX7_mixMeetings_8 ?_
      obtain ⟨v2, g2, h⟩ := ol h
      refine c_Vi (q := (RX2, TX2, 5)) (ci := 2) (b := 10) (As := []) (rest := [.int y1_5]) (A := AA ad) ⟨hx, hb, hml, hown, htb⟩ (c_X2_size l D ad cI hd σ τ η  v2 g2) (cwV 0 htb (gdV (fun _ hh => hh) wML_RX7_155 wIM_yX2_size wSE_yX2_size wI_RX2 wC_yX2_size) rfl rfl rfl hd_X2_size ⟨by decide, by decide⟩) hK hP rfl w_10 (fun _ hh => hh) hS rfl hl.1 rfl (Nat.le_of_ble_eq_true rfl) dX7_mixMeetings_11 ⟨Nat.le_refl 0, Nat.le_refl 0⟩ (fun H locs hP hS => ?_)
      refine lv_icmp_ge (tgt := 52) hx hb dX7_mixMeetings_14 (by decide) (fun c3 => ?_) (fun c3 => ?_)
      · replace h := ip c3 h
        obtain rfl := Option.some.inj h
        exact K1 _ _ _ hP hS (lv_sub hl [1] rfl)
      · replace h := iq c3 h
        refine lv_iconst (v := (0 : Int32)) hx hb dX7_mixMeetings_17 (by decide) ?_
        refine lv_istore (lv' := [(6, .int (0 : Int32)), (0, .ref (ad 0)), (3, .long y1_3), (5, .int y1_5)]) hx hb dX7_mixMeetings_18 hl (by decide) rfl (fun ls hl => ?_)
        obtain ⟨v4, hj4, h⟩ := ob h
        have K2 : ∀ (H : Heap) (locs : List Loc) (ls : Array Slot), WP D ad cI σ τ η H → va_S (AA ad) s.heap H locs → lv_has ls 7 [(0, .ref (ad 0)), (3, .long v4.1), (5, .int y1_5)] → W p l e rmX7_mixMeetings s m args below meth c H locs 0 0 Q (F0 m 46 ls []) := by
          intro H locs ls hP hS hl
          refine lv_iinc (v := (y1_5 + (1 : Int32))) (lv' := [(5, .int (y1_5 + (1 : Int32))), (0, .ref (ad 0)), (3, .long v4.1)]) hx hb dX7_mixMeetings_46 hl (k := 2) rfl rfl (by decide) rfl (fun ls hl => ?_)
          refine lv_goto (tgt := 5) hx hb dX7_mixMeetings_49 (by decide) ?_
          exact ih v4.1 (y1_5 + (1 : Int32)) _ _ _ h hP hS (lv_sub hl [1, 2, 0] rfl)
        have L2 : ∀ (n : Nat) (y2_3 : Int64) (y2_6 : Int32) (H : Heap) (locs : List Loc) (ls : Array Slot), X7_mixMeetings_L2 n σ y2_3 y1_5 y2_6 = some v4 → WP D ad cI σ τ η H → va_S (AA ad) s.heap H locs → lv_has ls 7 [(0, .ref (ad 0)), (3, .long y2_3), (5, .int y1_5), (6, .int y2_6)] → W p l e rmX7_mixMeetings s m args below meth c H locs 0 0 Q (F0 m 20 ls []) := by
          intro n
          induction n with
          | zero => intro y2_3 y2_6 H locs ls h; exact absurd h (by simp [X7_mixMeetings_L2])
          | succ n ih =>
            intro y2_3 y2_6 H locs ls h hP hS hl
            replace h := (X7_mixMeetings_L2_s n σ y2_3 y1_5 y2_6).symm.trans h
            refine lv_iload hx hb dX7_mixMeetings_20 (lv_at hl 3 rfl) ?_
            refine lv_iconst (v := (3 : Int32)) hx hb dX7_mixMeetings_22 (by decide) ?_
            refine lv_icmp_gt (tgt := 46) hx hb dX7_mixMeetings_23 (by decide) (fun c5 => ?_) (fun c5 => ?_)
            · replace h := ip c5 h
              obtain rfl := Option.some.inj h
              exact K2 _ _ _ hP hS (lv_sub hl [0, 1, 2] rfl)
            · replace h := iq c5 h
              refine lv_lload_n hx hb dX7_mixMeetings_26 rfl (lv_at hl 1 rfl) ?_
              refine lv_aload_n hx hb dX7_mixMeetings_27 rfl (lv_at hl 0 rfl) ?_
              refine lv_iload hx hb dX7_mixMeetings_28 (lv_at hl 2 rfl) ?_
              refine lv_iload hx hb dX7_mixMeetings_30 (lv_at hl 3 rfl) ?_
              obtain ⟨v6, g6, h⟩ := ob h
              refine c_Vi (q := (RX7, TX7, 11)) (ci := 7) (b := 0) (As := [.int y1_5, .int y2_6]) (rest := [.long y2_3]) (A := AA ad) ⟨hx, hb, hml, hown, htb⟩ (c_X7_meeting l D ad cI hd σ τ η y1_5 y2_6 v6 g6) (cwV 2 htb (gdV (fun _ hh => hh) wML_RX7_344 wIM_yX7_meeting wSE_yX7_meeting wI_RX7 wC_yX7_meeting) rfl rfl rfl hd_X7_meeting ⟨by decide, by decide⟩) hK hP rfl w_0 (fun _ hh => hh) hS rfl hl.1 rfl (Nat.le_of_ble_eq_true rfl) dX7_mixMeetings_32 ⟨Nat.le_refl 0, Nat.le_refl 0⟩ (fun H locs hP hS => ?_)
              refine lv_i2l (v := ((v6).toInt64)) hx hb dX7_mixMeetings_35 rfl ?_
              obtain ⟨v7, g7, h⟩ := ol h
              refine c_Sl (As := [.long y2_3, .long ((v6).toInt64)]) (rest := []) (A := AA ad) ⟨hx, hb, hml, hown, htb⟩ (c_X7_mix l D ad cI hd σ τ η y2_3 ((v6).toInt64) v7 g7) (va_cwS 2 htb (gdS (fun _ hh => hh) wML_RX7_310 wST_yX7_mix wI_RX7 wC_yX7_mix) rfl rfl rfl hd_X7_mix.2 ⟨by decide, by decide⟩) hK hP (fun _ hh => hh) hS rfl hl.1 rfl (Nat.le_of_ble_eq_true rfl) dX7_mixMeetings_36 ⟨Nat.le_refl 0, Nat.le_refl 0⟩ (fun H locs hP hS => ?_)
              refine lv_lstore_n (lv' := [(3, .long v7), (0, .ref (ad 0)), (5, .int y1_5), (6, .int y2_6)]) hx hb dX7_mixMeetings_39 rfl hl (by decide) rfl (fun ls hl => ?_)
              refine lv_iinc (v := (y2_6 + (1 : Int32))) (lv' := [(6, .int (y2_6 + (1 : Int32))), (3, .long v7), (0, .ref (ad 0)), (5, .int y1_5)]) hx hb dX7_mixMeetings_40 hl (k := 3) rfl rfl (by decide) rfl (fun ls hl => ?_)
              refine lv_goto (tgt := 20) hx hb dX7_mixMeetings_43 (by decide) ?_
              exact ih v7 (y2_6 + (1 : Int32)) _ _ _ h hP hS (lv_sub hl [2, 1, 3, 0] rfl)
        exact L2 10000 y1_3 (0 : Int32) _ _ _ hj4 hP hS (lv_sub hl [1, 2, 3, 0] rfl)
  exact L1 10000 x1 (0 : Int32) _ _ _ hj1 hP hS (lv_sub hl [2, 1, 0] rfl)
def X4_withOf (σ : St) (x1 : Int32) : Option (Int32) :=
  lt (X4_has σ x1) fun v1 =>
  if v1 = 0 then (
    some (0 : Int32))
  else (
    bd (rd (σ 19) 8 x1) fun v3 =>
    some v3)
abbrev rmX4_withOf : Room := { frames := 1, cells := 0, slots := 0, locals := 21 }
set_option maxHeartbeats 4000000 in
set_option maxRecDepth 100000 in
theorem c_X4_withOf (l : Launch) (D : va_G) (ad : Nat → Nat) (cI : ClassId) (hd : HD ad) (σ τ : St) (η : Int64) (x1 : Int32) (rr : Int32) (h : X4_withOf σ x1 = some rr) : MI l yX4_withOf (wy yX4_withOf cX4_withOf 2 (some .int)) rmX4_withOf D ad cI [.ref (ad 18), .int x1] σ τ η rr σ τ η := by
  refine mk_i (own := RX4) (lv := [(0, .ref (ad 18)), (1, .int x1)]) (plainFor_of_name (by decide)) rfl (Nat.le_of_ble_eq_true rfl) rfl ?_
  intro p e s m args below meth c Q ls hx hb hml hown htb hK ret hP hS hl
  unfold X4_withOf at h
  refine lv_aload_n hx hb dX4_withOf_0 rfl (lv_at hl 0 rfl) ?_
  refine lv_iload_n hx hb dX4_withOf_1 rfl (lv_at hl 1 rfl) ?_
  obtain ⟨v1, g1, h⟩ := ol h
  refine c_Vz (q := (RX4, TX4, 4)) (ci := 4) (b := 18) (As := [.int x1]) (rest := []) (A := AA ad) ⟨hx, hb, hml, hown, htb⟩ (c_X4_has l D ad cI hd σ τ η x1 v1 g1) (cwV 1 htb (gdV (fun _ hh => hh) wML_RX4_25 wIM_yX4_has wSE_yX4_has wI_RX4 wC_yX4_has) rfl rfl rfl hd_X4_has ⟨by decide, by decide⟩) hK hP rfl w_18 (fun _ hh => hh) hS rfl hl.1 rfl (Nat.le_of_ble_eq_true rfl) dX4_withOf_2 ⟨Nat.le_refl 0, Nat.le_refl 0⟩ (fun H locs hz1 hP hS => ?_)
  refine lv_if_eq (tgt := 17) hx hb dX4_withOf_5 (by decide) (fun c2 => ?_) (fun c2 => ?_)
  · replace h := ip c2 h
    refine lv_iconst (v := (0 : Int32)) hx hb dX4_withOf_17 (by decide) ?_
    obtain rfl := Option.some.inj h
    exact ret _ _ _ _ _ dX4_withOf_18 hP hS rfl
  · replace h := iq c2 h
    refine lv_aload_n hx hb dX4_withOf_8 rfl (lv_at hl 0 rfl) ?_
    refine va_get (D := D) (ci := 4) (v := .ref (ad 19)) (C := RX4) (T := TX4) (N := 4) hx hb htb wu_4 hown hK.1 hP 18 w_18 rfl 0 (by decide) (htb _ wFL_RX4_11) (fun _ h9 => h9) rfl dX4_withOf_9 ?_
    refine lv_iload_n hx hb dX4_withOf_12 rfl (lv_at hl 1 rfl) ?_
    obtain ⟨v3, g3, h⟩ := ob h
    refine r_ald hx hb hK hP 19 w_19 g3 dX4_withOf_13 ?_
    refine lv_goto (tgt := 18) hx hb dX4_withOf_14 (by decide) ?_
    obtain rfl := Option.some.inj h
    exact ret _ _ _ _ _ dX4_withOf_18 hP hS rfl
def X4_withoutOf (σ : St) (x1 : Int32) : Option (Int32) :=
  lt (X4_has σ x1) fun v1 =>
  if v1 = 0 then (
    some (0 : Int32))
  else (
    bd (rd (σ 20) 8 x1) fun v3 =>
    some v3)
abbrev rmX4_withoutOf : Room := { frames := 1, cells := 0, slots := 0, locals := 21 }
set_option maxHeartbeats 4000000 in
set_option maxRecDepth 100000 in
theorem c_X4_withoutOf (l : Launch) (D : va_G) (ad : Nat → Nat) (cI : ClassId) (hd : HD ad) (σ τ : St) (η : Int64) (x1 : Int32) (rr : Int32) (h : X4_withoutOf σ x1 = some rr) : MI l yX4_withoutOf (wy yX4_withoutOf cX4_withoutOf 2 (some .int)) rmX4_withoutOf D ad cI [.ref (ad 18), .int x1] σ τ η rr σ τ η := by
  refine mk_i (own := RX4) (lv := [(0, .ref (ad 18)), (1, .int x1)]) (plainFor_of_name (by decide)) rfl (Nat.le_of_ble_eq_true rfl) rfl ?_
  intro p e s m args below meth c Q ls hx hb hml hown htb hK ret hP hS hl
  unfold X4_withoutOf at h
  refine lv_aload_n hx hb dX4_withoutOf_0 rfl (lv_at hl 0 rfl) ?_
  refine lv_iload_n hx hb dX4_withoutOf_1 rfl (lv_at hl 1 rfl) ?_
  obtain ⟨v1, g1, h⟩ := ol h
  refine c_Vz (q := (RX4, TX4, 4)) (ci := 4) (b := 18) (As := [.int x1]) (rest := []) (A := AA ad) ⟨hx, hb, hml, hown, htb⟩ (c_X4_has l D ad cI hd σ τ η x1 v1 g1) (cwV 1 htb (gdV (fun _ hh => hh) wML_RX4_25 wIM_yX4_has wSE_yX4_has wI_RX4 wC_yX4_has) rfl rfl rfl hd_X4_has ⟨by decide, by decide⟩) hK hP rfl w_18 (fun _ hh => hh) hS rfl hl.1 rfl (Nat.le_of_ble_eq_true rfl) dX4_withoutOf_2 ⟨Nat.le_refl 0, Nat.le_refl 0⟩ (fun H locs hz1 hP hS => ?_)
  refine lv_if_eq (tgt := 17) hx hb dX4_withoutOf_5 (by decide) (fun c2 => ?_) (fun c2 => ?_)
  · replace h := ip c2 h
    refine lv_iconst (v := (0 : Int32)) hx hb dX4_withoutOf_17 (by decide) ?_
    obtain rfl := Option.some.inj h
    exact ret _ _ _ _ _ dX4_withoutOf_18 hP hS rfl
  · replace h := iq c2 h
    refine lv_aload_n hx hb dX4_withoutOf_8 rfl (lv_at hl 0 rfl) ?_
    refine va_get (D := D) (ci := 4) (v := .ref (ad 20)) (C := RX4) (T := TX4) (N := 4) hx hb htb wu_4 hown hK.1 hP 18 w_18 rfl 1 (by decide) (htb _ wFL_RX4_15) (fun _ h9 => h9) rfl dX4_withoutOf_9 ?_
    refine lv_iload_n hx hb dX4_withoutOf_12 rfl (lv_at hl 1 rfl) ?_
    obtain ⟨v3, g3, h⟩ := ob h
    refine r_ald hx hb hK hP 20 w_20 g3 dX4_withoutOf_13 ?_
    refine lv_goto (tgt := 18) hx hb dX4_withoutOf_14 (by decide) ?_
    obtain rfl := Option.some.inj h
    exact ret _ _ _ _ _ dX4_withoutOf_18 hP hS rfl
def X7_mixSigns_L1 (n : Nat) (σ_1 : St) (y1_3 : Int64) (y1_5 : Int32) : Option (Int64 × Int32) := match n with
  | 0 => none
  | n + 1 =>
    lt (X4_size σ_1 ) fun v2 =>
    if v2 ≤ y1_5 then (
      some (y1_3, y1_5))
    else (
      bd (X4_withOf σ_1 y1_5) fun v4 =>
      lt (X7_mix  y1_3 ((v4).toInt64)) fun v5 =>
      bd (X4_withoutOf σ_1 y1_5) fun v6 =>
      lt (X7_mix  v5 ((v6).toInt64)) fun v7 =>
      bd (X4_howOf σ_1 y1_5) fun v8 =>
      lt (X7_mix  v7 ((v8).toInt64)) fun v9 =>
      X7_mixSigns_L1 n σ_1 v9 (y1_5 + (1 : Int32)))
theorem X7_mixSigns_L1_s (n : Nat) (σ_1 : St) (y1_3 : Int64) (y1_5 : Int32) : X7_mixSigns_L1 (n + 1) σ_1 y1_3 y1_5 =
    lt (X4_size σ_1 ) fun v2 =>
    if v2 ≤ y1_5 then (
      some (y1_3, y1_5))
    else (
      bd (X4_withOf σ_1 y1_5) fun v4 =>
      lt (X7_mix  y1_3 ((v4).toInt64)) fun v5 =>
      bd (X4_withoutOf σ_1 y1_5) fun v6 =>
      lt (X7_mix  v5 ((v6).toInt64)) fun v7 =>
      bd (X4_howOf σ_1 y1_5) fun v8 =>
      lt (X7_mix  v7 ((v8).toInt64)) fun v9 =>
      X7_mixSigns_L1 n σ_1 v9 (y1_5 + (1 : Int32))) := rfl
def X7_mixSigns (σ : St) (x1 : Int64) : Option (Int64) :=
  bd (X7_mixSigns_L1 10000 σ x1 (0 : Int32)) fun v1 =>
  some v1.1
abbrev rmX7_mixSigns : Room := { frames := 2, cells := 0, slots := 0, locals := 42 }
set_option maxHeartbeats 4000000 in
set_option maxRecDepth 100000 in
theorem c_X7_mixSigns (l : Launch) (D : va_G) (ad : Nat → Nat) (cI : ClassId) (hd : HD ad) (σ τ : St) (η : Int64) (x1 : Int64) (rr : Int64) (h : X7_mixSigns σ x1 = some rr) : ML l yX7_mixSigns (wy yX7_mixSigns cX7_mixSigns 6 (some .long)) rmX7_mixSigns D ad cI [.ref (ad 0), .long x1] σ τ η rr σ τ η := by
  refine mk_l (own := RX7) (lv := [(0, .ref (ad 0)), (1, .long x1)]) (plainFor_of_name (by decide)) rfl (Nat.le_of_ble_eq_true rfl) rfl ?_
  intro p e s m args below meth c Q ls hx hb hml hown htb hK ret hP hS hl
  unfold X7_mixSigns at h
  refine lv_lload_n hx hb dX7_mixSigns_0 rfl (lv_at hl 1 rfl) ?_
  refine lv_lstore_n (lv' := [(3, .long x1), (0, .ref (ad 0)), (1, .long x1)]) hx hb dX7_mixSigns_1 rfl hl (by decide) rfl (fun ls hl => ?_)
  refine lv_iconst (v := (0 : Int32)) hx hb dX7_mixSigns_2 (by decide) ?_
  refine lv_istore (lv' := [(5, .int (0 : Int32)), (3, .long x1), (0, .ref (ad 0)), (1, .long x1)]) hx hb dX7_mixSigns_3 hl (by decide) rfl (fun ls hl => ?_)
  obtain ⟨v1, hj1, h⟩ := ob h
  have K1 : ∀ (H : Heap) (locs : List Loc) (ls : Array Slot), WP D ad cI σ τ η H → va_S (AA ad) s.heap H locs → lv_has ls 6 [(3, .long v1.1)] → W p l e rmX7_mixSigns s m args below meth c H locs 0 0 Q (F0 m 64 ls []) := by
    intro H locs ls hP hS hl
    refine lv_lload_n hx hb dX7_mixSigns_64 rfl (lv_at hl 0 rfl) ?_
    obtain rfl := Option.some.inj h
    exact ret _ _ _ _ _ dX7_mixSigns_65 hP hS rfl
  have L1 : ∀ (n : Nat) (y1_3 : Int64) (y1_5 : Int32) (H : Heap) (locs : List Loc) (ls : Array Slot), X7_mixSigns_L1 n σ y1_3 y1_5 = some v1 → WP D ad cI σ τ η H → va_S (AA ad) s.heap H locs → lv_has ls 6 [(0, .ref (ad 0)), (3, .long y1_3), (5, .int y1_5)] → W p l e rmX7_mixSigns s m args below meth c H locs 0 0 Q (F0 m 5 ls []) := by
    intro n
    induction n with
    | zero => intro y1_3 y1_5 H locs ls h; exact absurd h (by simp [X7_mixSigns_L1])
    | succ n ih =>
      intro y1_3 y1_5 H locs ls h hP hS hl
      replace h := (X7_mixSigns_L1_s n σ y1_3 y1_5).symm.trans h
      refine lv_iload hx hb dX7_mixSigns_5 (lv_at hl 2 rfl) ?_
      refine lv_aload_n hx hb dX7_mixSigns_7 rfl (lv_at hl 0 rfl) ?_
      refine va_get (D := D) (ci := 7) (v := .ref (ad 18)) (C := RX7) (T := TX7) (N := 11) hx hb htb wu_7 hown hK.1 hP 0 w_0 rfl 5 (by decide) (htb _ wFL_RX7_47) (fun _ h9 => h9) rfl dX7_mixSigns_8 ?_
      obtain ⟨v2, g2, h⟩ := ol h
      refine c_Vi (q := (RX4, TX4, 4)) (ci := 4) (b := 18) (As := []) (rest := [.int y1_5]) (A := AA ad) ⟨hx, hb, hml, hown, htb⟩ (c_X4_size l D ad cI hd σ τ η  v2 g2) (cwV 0 htb (gdV (fun _ hh => hh) wML_RX7_297 wIM_yX4_size wSE_yX4_size wI_RX4 wC_yX4_size) rfl rfl rfl hd_X4_size ⟨by decide, by decide⟩) hK hP rfl w_18 (fun _ hh => hh) hS rfl hl.1 rfl (Nat.le_of_ble_eq_true rfl) dX7_mixSigns_11 ⟨Nat.le_refl 0, Nat.le_refl 0⟩ (fun H locs hP hS => ?_)
      refine lv_icmp_ge (tgt := 64) hx hb dX7_mixSigns_14 (by decide) (fun c3 => ?_) (fun c3 => ?_)
      · replace h := ip c3 h
        obtain rfl := Option.some.inj h
        exact K1 _ _ _ hP hS (lv_sub hl [1] rfl)
      · replace h := iq c3 h
        refine lv_lload_n hx hb dX7_mixSigns_17 rfl (lv_at hl 1 rfl) ?_
        refine lv_aload_n hx hb dX7_mixSigns_18 rfl (lv_at hl 0 rfl) ?_
        refine va_get (D := D) (ci := 7) (v := .ref (ad 18)) (C := RX7) (T := TX7) (N := 11) hx hb htb wu_7 hown hK.1 hP 0 w_0 rfl 5 (by decide) (htb _ wFL_RX7_47) (fun _ h9 => h9) rfl dX7_mixSigns_19 ?_
        refine lv_iload hx hb dX7_mixSigns_22 (lv_at hl 2 rfl) ?_
        obtain ⟨v4, g4, h⟩ := ob h
        refine c_Vi (q := (RX4, TX4, 4)) (ci := 4) (b := 18) (As := [.int y1_5]) (rest := [.long y1_3]) (A := AA ad) ⟨hx, hb, hml, hown, htb⟩ (c_X4_withOf l D ad cI hd σ τ η y1_5 v4 g4) (cwV 1 htb (gdV (fun _ hh => hh) wML_RX7_347 wIM_yX4_withOf wSE_yX4_withOf wI_RX4 wC_yX4_withOf) rfl rfl rfl hd_X4_withOf ⟨by decide, by decide⟩) hK hP rfl w_18 (fun _ hh => hh) hS rfl hl.1 rfl (Nat.le_of_ble_eq_true rfl) dX7_mixSigns_24 ⟨Nat.le_refl 0, Nat.le_refl 0⟩ (fun H locs hP hS => ?_)
        refine lv_i2l (v := ((v4).toInt64)) hx hb dX7_mixSigns_27 rfl ?_
        obtain ⟨v5, g5, h⟩ := ol h
        refine c_Sl (As := [.long y1_3, .long ((v4).toInt64)]) (rest := []) (A := AA ad) ⟨hx, hb, hml, hown, htb⟩ (c_X7_mix l D ad cI hd σ τ η y1_3 ((v4).toInt64) v5 g5) (va_cwS 2 htb (gdS (fun _ hh => hh) wML_RX7_310 wST_yX7_mix wI_RX7 wC_yX7_mix) rfl rfl rfl hd_X7_mix.2 ⟨by decide, by decide⟩) hK hP (fun _ hh => hh) hS rfl hl.1 rfl (Nat.le_of_ble_eq_true rfl) dX7_mixSigns_28 ⟨Nat.le_refl 0, Nat.le_refl 0⟩ (fun H locs hP hS => ?_)
        refine lv_aload_n hx hb dX7_mixSigns_31 rfl (lv_at hl 0 rfl) ?_
        refine va_get (D := D) (ci := 7) (v := .ref (ad 18)) (C := RX7) (T := TX7) (N := 11) hx hb htb wu_7 hown hK.1 hP 0 w_0 rfl 5 (by decide) (htb _ wFL_RX7_47) (fun _ h9 => h9) rfl dX7_mixSigns_32 ?_
        refine lv_iload hx hb dX7_mixSigns_35 (lv_at hl 2 rfl) ?_
        obtain ⟨v6, g6, h⟩ := ob h
        refine c_Vi (q := (RX4, TX4, 4)) (ci := 4) (b := 18) (As := [.int y1_5]) (rest := [.long v5]) (A := AA ad) ⟨hx, hb, hml, hown, htb⟩ (c_X4_withoutOf l D ad cI hd σ τ η y1_5 v6 g6) (cwV 1 htb (gdV (fun _ hh => hh) wML_RX7_350 wIM_yX4_withoutOf wSE_yX4_withoutOf wI_RX4 wC_yX4_withoutOf) rfl rfl rfl hd_X4_withoutOf ⟨by decide, by decide⟩) hK hP rfl w_18 (fun _ hh => hh) hS rfl hl.1 rfl (Nat.le_of_ble_eq_true rfl) dX7_mixSigns_37 ⟨Nat.le_refl 0, Nat.le_refl 0⟩ (fun H locs hP hS => ?_)
        refine lv_i2l (v := ((v6).toInt64)) hx hb dX7_mixSigns_40 rfl ?_
        obtain ⟨v7, g7, h⟩ := ol h
        refine c_Sl (As := [.long v5, .long ((v6).toInt64)]) (rest := []) (A := AA ad) ⟨hx, hb, hml, hown, htb⟩ (c_X7_mix l D ad cI hd σ τ η v5 ((v6).toInt64) v7 g7) (va_cwS 2 htb (gdS (fun _ hh => hh) wML_RX7_310 wST_yX7_mix wI_RX7 wC_yX7_mix) rfl rfl rfl hd_X7_mix.2 ⟨by decide, by decide⟩) hK hP (fun _ hh => hh) hS rfl hl.1 rfl (Nat.le_of_ble_eq_true rfl) dX7_mixSigns_41 ⟨Nat.le_refl 0, Nat.le_refl 0⟩ (fun H locs hP hS => ?_)
        refine lv_aload_n hx hb dX7_mixSigns_44 rfl (lv_at hl 0 rfl) ?_
        refine va_get (D := D) (ci := 7) (v := .ref (ad 18)) (C := RX7) (T := TX7) (N := 11) hx hb htb wu_7 hown hK.1 hP 0 w_0 rfl 5 (by decide) (htb _ wFL_RX7_47) (fun _ h9 => h9) rfl dX7_mixSigns_45 ?_
        refine lv_iload hx hb dX7_mixSigns_48 (lv_at hl 2 rfl) ?_
        obtain ⟨v8, g8, h⟩ := ob h
        refine c_Vi (q := (RX4, TX4, 4)) (ci := 4) (b := 18) (As := [.int y1_5]) (rest := [.long v7]) (A := AA ad) ⟨hx, hb, hml, hown, htb⟩ (c_X4_howOf l D ad cI hd σ τ η y1_5 v8 g8) (cwV 1 htb (gdV (fun _ hh => hh) wML_RX7_252 wIM_yX4_howOf wSE_yX4_howOf wI_RX4 wC_yX4_howOf) rfl rfl rfl hd_X4_howOf ⟨by decide, by decide⟩) hK hP rfl w_18 (fun _ hh => hh) hS rfl hl.1 rfl (Nat.le_of_ble_eq_true rfl) dX7_mixSigns_50 ⟨Nat.le_refl 0, Nat.le_refl 0⟩ (fun H locs hP hS => ?_)
        refine lv_i2l (v := ((v8).toInt64)) hx hb dX7_mixSigns_53 rfl ?_
        obtain ⟨v9, g9, h⟩ := ol h
        refine c_Sl (As := [.long v7, .long ((v8).toInt64)]) (rest := []) (A := AA ad) ⟨hx, hb, hml, hown, htb⟩ (c_X7_mix l D ad cI hd σ τ η v7 ((v8).toInt64) v9 g9) (va_cwS 2 htb (gdS (fun _ hh => hh) wML_RX7_310 wST_yX7_mix wI_RX7 wC_yX7_mix) rfl rfl rfl hd_X7_mix.2 ⟨by decide, by decide⟩) hK hP (fun _ hh => hh) hS rfl hl.1 rfl (Nat.le_of_ble_eq_true rfl) dX7_mixSigns_54 ⟨Nat.le_refl 0, Nat.le_refl 0⟩ (fun H locs hP hS => ?_)
        refine lv_lstore_n (lv' := [(3, .long v9), (0, .ref (ad 0)), (5, .int y1_5)]) hx hb dX7_mixSigns_57 rfl hl (by decide) rfl (fun ls hl => ?_)
        refine lv_iinc (v := (y1_5 + (1 : Int32))) (lv' := [(5, .int (y1_5 + (1 : Int32))), (3, .long v9), (0, .ref (ad 0))]) hx hb dX7_mixSigns_58 hl (k := 2) rfl rfl (by decide) rfl (fun ls hl => ?_)
        refine lv_goto (tgt := 5) hx hb dX7_mixSigns_61 (by decide) ?_
        exact ih v9 (y1_5 + (1 : Int32)) _ _ _ h hP hS (lv_sub hl [2, 1, 0] rfl)
  exact L1 10000 x1 (0 : Int32) _ _ _ hj1 hP hS (lv_sub hl [2, 1, 0] rfl)
def X7_mixLetters_L1 (n : Nat) (σ_1 : St) (y1_3 : Int64) (y1_5 : Int32) : Option (Int64 × Int32) := match n with
  | 0 => none
  | n + 1 =>
    lt (X3_size σ_1 ) fun v2 =>
    if v2 ≤ y1_5 then (
      some (y1_3, y1_5))
    else (
      bd (X3_codeAt σ_1 y1_5) fun v4 =>
      lt (X7_mix  y1_3 ((v4).toInt64)) fun v5 =>
      X7_mixLetters_L1 n σ_1 v5 (y1_5 + (1 : Int32)))
theorem X7_mixLetters_L1_s (n : Nat) (σ_1 : St) (y1_3 : Int64) (y1_5 : Int32) : X7_mixLetters_L1 (n + 1) σ_1 y1_3 y1_5 =
    lt (X3_size σ_1 ) fun v2 =>
    if v2 ≤ y1_5 then (
      some (y1_3, y1_5))
    else (
      bd (X3_codeAt σ_1 y1_5) fun v4 =>
      lt (X7_mix  y1_3 ((v4).toInt64)) fun v5 =>
      X7_mixLetters_L1 n σ_1 v5 (y1_5 + (1 : Int32))) := rfl
def X7_mixLetters (σ : St) (x1 : Int64) : Option (Int64) :=
  bd (X7_mixLetters_L1 10000 σ x1 (0 : Int32)) fun v1 =>
  some v1.1
abbrev rmX7_mixLetters : Room := { frames := 1, cells := 0, slots := 0, locals := 23 }
set_option maxHeartbeats 4000000 in
set_option maxRecDepth 100000 in
theorem c_X7_mixLetters (l : Launch) (D : va_G) (ad : Nat → Nat) (cI : ClassId) (hd : HD ad) (σ τ : St) (η : Int64) (x1 : Int64) (rr : Int64) (h : X7_mixLetters σ x1 = some rr) : ML l yX7_mixLetters (wy yX7_mixLetters cX7_mixLetters 6 (some .long)) rmX7_mixLetters D ad cI [.ref (ad 0), .long x1] σ τ η rr σ τ η := by
  refine mk_l (own := RX7) (lv := [(0, .ref (ad 0)), (1, .long x1)]) (plainFor_of_name (by decide)) rfl (Nat.le_of_ble_eq_true rfl) rfl ?_
  intro p e s m args below meth c Q ls hx hb hml hown htb hK ret hP hS hl
  unfold X7_mixLetters at h
  refine lv_lload_n hx hb dX7_mixLetters_0 rfl (lv_at hl 1 rfl) ?_
  refine lv_lstore_n (lv' := [(3, .long x1), (0, .ref (ad 0)), (1, .long x1)]) hx hb dX7_mixLetters_1 rfl hl (by decide) rfl (fun ls hl => ?_)
  refine lv_iconst (v := (0 : Int32)) hx hb dX7_mixLetters_2 (by decide) ?_
  refine lv_istore (lv' := [(5, .int (0 : Int32)), (3, .long x1), (0, .ref (ad 0)), (1, .long x1)]) hx hb dX7_mixLetters_3 hl (by decide) rfl (fun ls hl => ?_)
  obtain ⟨v1, hj1, h⟩ := ob h
  have K1 : ∀ (H : Heap) (locs : List Loc) (ls : Array Slot), WP D ad cI σ τ η H → va_S (AA ad) s.heap H locs → lv_has ls 6 [(3, .long v1.1)] → W p l e rmX7_mixLetters s m args below meth c H locs 0 0 Q (F0 m 38 ls []) := by
    intro H locs ls hP hS hl
    refine lv_lload_n hx hb dX7_mixLetters_38 rfl (lv_at hl 0 rfl) ?_
    obtain rfl := Option.some.inj h
    exact ret _ _ _ _ _ dX7_mixLetters_39 hP hS rfl
  have L1 : ∀ (n : Nat) (y1_3 : Int64) (y1_5 : Int32) (H : Heap) (locs : List Loc) (ls : Array Slot), X7_mixLetters_L1 n σ y1_3 y1_5 = some v1 → WP D ad cI σ τ η H → va_S (AA ad) s.heap H locs → lv_has ls 6 [(0, .ref (ad 0)), (3, .long y1_3), (5, .int y1_5)] → W p l e rmX7_mixLetters s m args below meth c H locs 0 0 Q (F0 m 5 ls []) := by
    intro n
    induction n with
    | zero => intro y1_3 y1_5 H locs ls h; exact absurd h (by simp [X7_mixLetters_L1])
    | succ n ih =>
      intro y1_3 y1_5 H locs ls h hP hS hl
      replace h := (X7_mixLetters_L1_s n σ y1_3 y1_5).symm.trans h
      refine lv_iload hx hb dX7_mixLetters_5 (lv_at hl 2 rfl) ?_
      refine lv_aload_n hx hb dX7_mixLetters_7 rfl (lv_at hl 0 rfl) ?_
      refine va_get (D := D) (ci := 7) (v := .ref (ad 8)) (C := RX7) (T := TX7) (N := 11) hx hb htb wu_7 hown hK.1 hP 0 w_0 rfl 2 (by decide) (htb _ wFL_RX7_26) (fun _ h9 => h9) rfl dX7_mixLetters_8 ?_
      obtain ⟨v2, g2, h⟩ := ol h
      refine c_Vi (q := (RX3, TX3, 2)) (ci := 3) (b := 8) (As := []) (rest := [.int y1_5]) (A := AA ad) ⟨hx, hb, hml, hown, htb⟩ (c_X3_size l D ad cI hd σ τ η  v2 g2) (cwV 0 htb (gdV (fun _ hh => hh) wML_RX7_127 wIM_yX3_size wSE_yX3_size wI_RX3 wC_yX3_size) rfl rfl rfl hd_X3_size ⟨by decide, by decide⟩) hK hP rfl w_8 (fun _ hh => hh) hS rfl hl.1 rfl (Nat.le_of_ble_eq_true rfl) dX7_mixLetters_11 ⟨Nat.le_refl 0, Nat.le_refl 0⟩ (fun H locs hP hS => ?_)
      refine lv_icmp_ge (tgt := 38) hx hb dX7_mixLetters_14 (by decide) (fun c3 => ?_) (fun c3 => ?_)
      · replace h := ip c3 h
        obtain rfl := Option.some.inj h
        exact K1 _ _ _ hP hS (lv_sub hl [1] rfl)
      · replace h := iq c3 h
        refine lv_lload_n hx hb dX7_mixLetters_17 rfl (lv_at hl 1 rfl) ?_
        refine lv_aload_n hx hb dX7_mixLetters_18 rfl (lv_at hl 0 rfl) ?_
        refine va_get (D := D) (ci := 7) (v := .ref (ad 8)) (C := RX7) (T := TX7) (N := 11) hx hb htb wu_7 hown hK.1 hP 0 w_0 rfl 2 (by decide) (htb _ wFL_RX7_26) (fun _ h9 => h9) rfl dX7_mixLetters_19 ?_
        refine lv_iload hx hb dX7_mixLetters_22 (lv_at hl 2 rfl) ?_
        obtain ⟨v4, g4, h⟩ := ob h
        refine c_Vi (q := (RX3, TX3, 2)) (ci := 3) (b := 8) (As := [.int y1_5]) (rest := [.long y1_3]) (A := AA ad) ⟨hx, hb, hml, hown, htb⟩ (c_X3_codeAt l D ad cI hd σ τ η y1_5 v4 g4) (cwV 1 htb (gdV (fun _ hh => hh) wML_RX7_353 wIM_yX3_codeAt wSE_yX3_codeAt wI_RX3 wC_yX3_codeAt) rfl rfl rfl hd_X3_codeAt ⟨by decide, by decide⟩) hK hP rfl w_8 (fun _ hh => hh) hS rfl hl.1 rfl (Nat.le_of_ble_eq_true rfl) dX7_mixLetters_24 ⟨Nat.le_refl 0, Nat.le_refl 0⟩ (fun H locs hP hS => ?_)
        refine lv_i2l (v := ((v4).toInt64)) hx hb dX7_mixLetters_27 rfl ?_
        obtain ⟨v5, g5, h⟩ := ol h
        refine c_Sl (As := [.long y1_3, .long ((v4).toInt64)]) (rest := []) (A := AA ad) ⟨hx, hb, hml, hown, htb⟩ (c_X7_mix l D ad cI hd σ τ η y1_3 ((v4).toInt64) v5 g5) (va_cwS 2 htb (gdS (fun _ hh => hh) wML_RX7_310 wST_yX7_mix wI_RX7 wC_yX7_mix) rfl rfl rfl hd_X7_mix.2 ⟨by decide, by decide⟩) hK hP (fun _ hh => hh) hS rfl hl.1 rfl (Nat.le_of_ble_eq_true rfl) dX7_mixLetters_28 ⟨Nat.le_refl 0, Nat.le_refl 0⟩ (fun H locs hP hS => ?_)
        refine lv_lstore_n (lv' := [(3, .long v5), (0, .ref (ad 0)), (5, .int y1_5)]) hx hb dX7_mixLetters_31 rfl hl (by decide) rfl (fun ls hl => ?_)
        refine lv_iinc (v := (y1_5 + (1 : Int32))) (lv' := [(5, .int (y1_5 + (1 : Int32))), (3, .long v5), (0, .ref (ad 0))]) hx hb dX7_mixLetters_32 hl (k := 2) rfl rfl (by decide) rfl (fun ls hl => ?_)
        refine lv_goto (tgt := 5) hx hb dX7_mixLetters_35 (by decide) ?_
        exact ih v5 (y1_5 + (1 : Int32)) _ _ _ h hP hS (lv_sub hl [2, 1, 0] rfl)
  exact L1 10000 x1 (0 : Int32) _ _ _ hj1 hP hS (lv_sub hl [2, 1, 0] rfl)
def X7_digest_L1 (n : Nat) (σ_1 : St) (y1_1 : Int64) (y1_3 : Int32) : Option (Int64 × Int32) := match n with
  | 0 => none
  | n + 1 =>
    if (7 : Int32) < y1_3 then (
      some (y1_1, y1_3))
    else (
      bd (X7_count σ_1 y1_3) fun v25 =>
      lt (X7_mix  y1_1 ((v25).toInt64)) fun v26 =>
      X7_digest_L1 n σ_1 v26 (y1_3 + (1 : Int32)))
theorem X7_digest_L1_s (n : Nat) (σ_1 : St) (y1_1 : Int64) (y1_3 : Int32) : X7_digest_L1 (n + 1) σ_1 y1_1 y1_3 =
    if (7 : Int32) < y1_3 then (
      some (y1_1, y1_3))
    else (
      bd (X7_count σ_1 y1_3) fun v25 =>
      lt (X7_mix  y1_1 ((v25).toInt64)) fun v26 =>
      X7_digest_L1 n σ_1 v26 (y1_3 + (1 : Int32))) := rfl
def X7_digest (σ : St)  : Option (Int64 × St) :=
  bd (X7_mixGuests σ (613 : Int64)) fun v1 =>
  bd (X7_mixMeetings σ v1) fun v2 =>
  bd (X7_known σ (0 : Int32)) fun v3 =>
  lt (X7_mix  v2 v3) fun v4 =>
  bd (X7_known σ (1 : Int32)) fun v5 =>
  lt (X7_mix  v4 v5) fun v6 =>
  bd (X7_right σ ) fun v7 =>
  lt (X7_mix  v6 ((v7).toInt64)) fun v8 =>
  bd (X7_hole σ ) fun v9 =>
  lt (X7_mix  v8 ((v9.1).toInt64)) fun v10 =>
  bd (X7_cover v9.2 (0 : Int32)) fun v11 =>
  lt (X7_mix  v10 ((v11).toInt64)) fun v12 =>
  bd (X7_cover v9.2 (1 : Int32)) fun v13 =>
  lt (X7_mix  v12 ((v13).toInt64)) fun v14 =>
  bd (X7_mixSigns v9.2 v14) fun v15 =>
  bd (X7_belief v9.2 (0 : Int32) (0 : Int32)) fun v16 =>
  lt (X7_mix  v15 v16) fun v17 =>
  bd (X7_belief v9.2 (0 : Int32) (1 : Int32)) fun v18 =>
  lt (X7_mix  v17 v18) fun v19 =>
  bd (X7_parting v9.2 ) fun v20 =>
  lt (X7_mix  v19 ((v20).toInt64)) fun v21 =>
  bd (X7_mixLetters v9.2 v21) fun v22 =>
  bd (X7_digest_L1 10000 v9.2 v22 (0 : Int32)) fun v23 =>
  some (v23.1, v9.2)
abbrev rmX7_digest : Room := { frames := 5, cells := 0, slots := 0, locals := 117 }
set_option maxHeartbeats 4000000 in
set_option maxRecDepth 100000 in
theorem c_X7_digest (l : Launch) (D : va_G) (ad : Nat → Nat) (cI : ClassId) (hd : HD ad) (σ τ : St) (η : Int64)  (rr : Int64 × St) (h : X7_digest σ  = some rr) : ML l yX7_digest (wy yX7_digest cX7_digest 4 (some .long)) rmX7_digest D ad cI [.ref (ad 0)] σ τ η rr.1 rr.2 τ η := by
  refine mk_l (own := RX7) (lv := [(0, .ref (ad 0))]) (plainFor_of_name (by decide)) rfl (Nat.le_of_ble_eq_true rfl) rfl ?_
  intro p e s m args below meth c Q ls hx hb hml hown htb hK ret hP hS hl
  unfold X7_digest at h
  refine lv_aload_n hx hb dX7_digest_0 rfl (lv_at hl 0 rfl) ?_
  refine lv_aload_n hx hb dX7_digest_1 rfl (lv_at hl 0 rfl) ?_
  refine lv_ldc2 (v := (613 : Int64)) hx hb hown (htb _ wKL_RX7_298) dX7_digest_2 ?_
  obtain ⟨v1, g1, h⟩ := ob h
  refine c_Vl (q := (RX7, TX7, 11)) (ci := 7) (b := 0) (As := [.long (613 : Int64)]) (rest := [.ref (ad 0)]) (A := AA ad) ⟨hx, hb, hml, hown, htb⟩ (c_X7_mixGuests l D ad cI hd σ τ η (613 : Int64) v1 g1) (cwV 1 htb (gdV (fun _ hh => hh) wML_RX7_300 wIM_yX7_mixGuests wSE_yX7_mixGuests wI_RX7 wC_yX7_mixGuests) rfl rfl rfl hd_X7_mixGuests ⟨by decide, by decide⟩) hK hP rfl w_0 (fun _ hh => hh) hS rfl hl.1 rfl (Nat.le_of_ble_eq_true rfl) dX7_digest_5 ⟨Nat.le_refl 0, Nat.le_refl 0⟩ (fun H locs hP hS => ?_)
  obtain ⟨v2, g2, h⟩ := ob h
  refine c_Vl (q := (RX7, TX7, 11)) (ci := 7) (b := 0) (As := [.long v1]) (rest := []) (A := AA ad) ⟨hx, hb, hml, hown, htb⟩ (c_X7_mixMeetings l D ad cI hd σ τ η v1 v2 g2) (cwV 1 htb (gdV (fun _ hh => hh) wML_RX7_304 wIM_yX7_mixMeetings wSE_yX7_mixMeetings wI_RX7 wC_yX7_mixMeetings) rfl rfl rfl hd_X7_mixMeetings ⟨by decide, by decide⟩) hK hP rfl w_0 (fun _ hh => hh) hS rfl hl.1 rfl (Nat.le_of_ble_eq_true rfl) dX7_digest_8 ⟨Nat.le_refl 0, Nat.le_refl 0⟩ (fun H locs hP hS => ?_)
  refine lv_lstore_n (lv' := [(1, .long v2), (0, .ref (ad 0))]) hx hb dX7_digest_11 rfl hl (by decide) rfl (fun ls hl => ?_)
  refine lv_lload_n hx hb dX7_digest_12 rfl (lv_at hl 0 rfl) ?_
  refine lv_aload_n hx hb dX7_digest_13 rfl (lv_at hl 1 rfl) ?_
  refine lv_iconst (v := (0 : Int32)) hx hb dX7_digest_14 (by decide) ?_
  obtain ⟨v3, g3, h⟩ := ob h
  refine c_Vl (q := (RX7, TX7, 11)) (ci := 7) (b := 0) (As := [.int (0 : Int32)]) (rest := [.long v2]) (A := AA ad) ⟨hx, hb, hml, hown, htb⟩ (c_X7_known l D ad cI hd σ τ η (0 : Int32) v3 g3) (cwV 1 htb (gdV (fun _ hh => hh) wML_RX7_307 wIM_yX7_known wSE_yX7_known wI_RX7 wC_yX7_known) rfl rfl rfl hd_X7_known ⟨by decide, by decide⟩) hK hP rfl w_0 (fun _ hh => hh) hS rfl hl.1 rfl (Nat.le_of_ble_eq_true rfl) dX7_digest_15 ⟨Nat.le_refl 0, Nat.le_refl 0⟩ (fun H locs hP hS => ?_)
  obtain ⟨v4, g4, h⟩ := ol h
  refine c_Sl (As := [.long v2, .long v3]) (rest := []) (A := AA ad) ⟨hx, hb, hml, hown, htb⟩ (c_X7_mix l D ad cI hd σ τ η v2 v3 v4 g4) (va_cwS 2 htb (gdS (fun _ hh => hh) wML_RX7_310 wST_yX7_mix wI_RX7 wC_yX7_mix) rfl rfl rfl hd_X7_mix.2 ⟨by decide, by decide⟩) hK hP (fun _ hh => hh) hS rfl hl.1 rfl (Nat.le_of_ble_eq_true rfl) dX7_digest_18 ⟨Nat.le_refl 0, Nat.le_refl 0⟩ (fun H locs hP hS => ?_)
  refine lv_aload_n hx hb dX7_digest_21 rfl (lv_at hl 1 rfl) ?_
  refine lv_iconst (v := (1 : Int32)) hx hb dX7_digest_22 (by decide) ?_
  obtain ⟨v5, g5, h⟩ := ob h
  refine c_Vl (q := (RX7, TX7, 11)) (ci := 7) (b := 0) (As := [.int (1 : Int32)]) (rest := [.long v4]) (A := AA ad) ⟨hx, hb, hml, hown, htb⟩ (c_X7_known l D ad cI hd σ τ η (1 : Int32) v5 g5) (cwV 1 htb (gdV (fun _ hh => hh) wML_RX7_307 wIM_yX7_known wSE_yX7_known wI_RX7 wC_yX7_known) rfl rfl rfl hd_X7_known ⟨by decide, by decide⟩) hK hP rfl w_0 (fun _ hh => hh) hS rfl hl.1 rfl (Nat.le_of_ble_eq_true rfl) dX7_digest_23 ⟨Nat.le_refl 0, Nat.le_refl 0⟩ (fun H locs hP hS => ?_)
  obtain ⟨v6, g6, h⟩ := ol h
  refine c_Sl (As := [.long v4, .long v5]) (rest := []) (A := AA ad) ⟨hx, hb, hml, hown, htb⟩ (c_X7_mix l D ad cI hd σ τ η v4 v5 v6 g6) (va_cwS 2 htb (gdS (fun _ hh => hh) wML_RX7_310 wST_yX7_mix wI_RX7 wC_yX7_mix) rfl rfl rfl hd_X7_mix.2 ⟨by decide, by decide⟩) hK hP (fun _ hh => hh) hS rfl hl.1 rfl (Nat.le_of_ble_eq_true rfl) dX7_digest_26 ⟨Nat.le_refl 0, Nat.le_refl 0⟩ (fun H locs hP hS => ?_)
  refine lv_lstore_n (lv' := [(1, .long v6), (0, .ref (ad 0))]) hx hb dX7_digest_29 rfl hl (by decide) rfl (fun ls hl => ?_)
  refine lv_lload_n hx hb dX7_digest_30 rfl (lv_at hl 0 rfl) ?_
  refine lv_aload_n hx hb dX7_digest_31 rfl (lv_at hl 1 rfl) ?_
  obtain ⟨v7, g7, h⟩ := ob h
  refine c_Vi (q := (RX7, TX7, 11)) (ci := 7) (b := 0) (As := []) (rest := [.long v6]) (A := AA ad) ⟨hx, hb, hml, hown, htb⟩ (c_X7_right l D ad cI hd σ τ η  v7 g7) (cwV 0 htb (gdV (fun _ hh => hh) wML_RX7_314 wIM_yX7_right wSE_yX7_right wI_RX7 wC_yX7_right) rfl rfl rfl hd_X7_right ⟨by decide, by decide⟩) hK hP rfl w_0 (fun _ hh => hh) hS rfl hl.1 rfl (Nat.le_of_ble_eq_true rfl) dX7_digest_32 ⟨Nat.le_refl 0, Nat.le_refl 0⟩ (fun H locs hP hS => ?_)
  refine lv_i2l (v := ((v7).toInt64)) hx hb dX7_digest_35 rfl ?_
  obtain ⟨v8, g8, h⟩ := ol h
  refine c_Sl (As := [.long v6, .long ((v7).toInt64)]) (rest := []) (A := AA ad) ⟨hx, hb, hml, hown, htb⟩ (c_X7_mix l D ad cI hd σ τ η v6 ((v7).toInt64) v8 g8) (va_cwS 2 htb (gdS (fun _ hh => hh) wML_RX7_310 wST_yX7_mix wI_RX7 wC_yX7_mix) rfl rfl rfl hd_X7_mix.2 ⟨by decide, by decide⟩) hK hP (fun _ hh => hh) hS rfl hl.1 rfl (Nat.le_of_ble_eq_true rfl) dX7_digest_36 ⟨Nat.le_refl 0, Nat.le_refl 0⟩ (fun H locs hP hS => ?_)
  refine lv_aload_n hx hb dX7_digest_39 rfl (lv_at hl 1 rfl) ?_
  obtain ⟨v9, g9, h⟩ := ob h
  refine c_Vi (q := (RX7, TX7, 11)) (ci := 7) (b := 0) (As := []) (rest := [.long v8]) (A := AA ad) ⟨hx, hb, hml, hown, htb⟩ (c_X7_hole l D ad cI hd σ τ η  v9 g9) (cwV 0 htb (gdV (fun _ hh => hh) wML_RX7_317 wIM_yX7_hole wSE_yX7_hole wI_RX7 wC_yX7_hole) rfl rfl rfl hd_X7_hole ⟨by decide, by decide⟩) hK hP rfl w_0 (fun _ hh => hh) hS rfl hl.1 rfl (Nat.le_of_ble_eq_true rfl) dX7_digest_40 ⟨Nat.le_refl 0, Nat.le_refl 0⟩ (fun H locs hP hS => ?_)
  refine lv_i2l (v := ((v9.1).toInt64)) hx hb dX7_digest_43 rfl ?_
  obtain ⟨v10, g10, h⟩ := ol h
  refine c_Sl (As := [.long v8, .long ((v9.1).toInt64)]) (rest := []) (A := AA ad) ⟨hx, hb, hml, hown, htb⟩ (c_X7_mix l D ad cI hd v9.2 τ η v8 ((v9.1).toInt64) v10 g10) (va_cwS 2 htb (gdS (fun _ hh => hh) wML_RX7_310 wST_yX7_mix wI_RX7 wC_yX7_mix) rfl rfl rfl hd_X7_mix.2 ⟨by decide, by decide⟩) hK hP (fun _ hh => hh) hS rfl hl.1 rfl (Nat.le_of_ble_eq_true rfl) dX7_digest_44 ⟨Nat.le_refl 0, Nat.le_refl 0⟩ (fun H locs hP hS => ?_)
  refine lv_lstore_n (lv' := [(1, .long v10), (0, .ref (ad 0))]) hx hb dX7_digest_47 rfl hl (by decide) rfl (fun ls hl => ?_)
  refine lv_lload_n hx hb dX7_digest_48 rfl (lv_at hl 0 rfl) ?_
  refine lv_aload_n hx hb dX7_digest_49 rfl (lv_at hl 1 rfl) ?_
  refine lv_iconst (v := (0 : Int32)) hx hb dX7_digest_50 (by decide) ?_
  obtain ⟨v11, g11, h⟩ := ob h
  refine c_Vi (q := (RX7, TX7, 11)) (ci := 7) (b := 0) (As := [.int (0 : Int32)]) (rest := [.long v10]) (A := AA ad) ⟨hx, hb, hml, hown, htb⟩ (c_X7_cover l D ad cI hd v9.2 τ η (0 : Int32) v11 g11) (cwV 1 htb (gdV (fun _ hh => hh) wML_RX7_320 wIM_yX7_cover wSE_yX7_cover wI_RX7 wC_yX7_cover) rfl rfl rfl hd_X7_cover ⟨by decide, by decide⟩) hK hP rfl w_0 (fun _ hh => hh) hS rfl hl.1 rfl (Nat.le_of_ble_eq_true rfl) dX7_digest_51 ⟨Nat.le_refl 0, Nat.le_refl 0⟩ (fun H locs hP hS => ?_)
  refine lv_i2l (v := ((v11).toInt64)) hx hb dX7_digest_54 rfl ?_
  obtain ⟨v12, g12, h⟩ := ol h
  refine c_Sl (As := [.long v10, .long ((v11).toInt64)]) (rest := []) (A := AA ad) ⟨hx, hb, hml, hown, htb⟩ (c_X7_mix l D ad cI hd v9.2 τ η v10 ((v11).toInt64) v12 g12) (va_cwS 2 htb (gdS (fun _ hh => hh) wML_RX7_310 wST_yX7_mix wI_RX7 wC_yX7_mix) rfl rfl rfl hd_X7_mix.2 ⟨by decide, by decide⟩) hK hP (fun _ hh => hh) hS rfl hl.1 rfl (Nat.le_of_ble_eq_true rfl) dX7_digest_55 ⟨Nat.le_refl 0, Nat.le_refl 0⟩ (fun H locs hP hS => ?_)
  refine lv_aload_n hx hb dX7_digest_58 rfl (lv_at hl 1 rfl) ?_
  refine lv_iconst (v := (1 : Int32)) hx hb dX7_digest_59 (by decide) ?_
  obtain ⟨v13, g13, h⟩ := ob h
  refine c_Vi (q := (RX7, TX7, 11)) (ci := 7) (b := 0) (As := [.int (1 : Int32)]) (rest := [.long v12]) (A := AA ad) ⟨hx, hb, hml, hown, htb⟩ (c_X7_cover l D ad cI hd v9.2 τ η (1 : Int32) v13 g13) (cwV 1 htb (gdV (fun _ hh => hh) wML_RX7_320 wIM_yX7_cover wSE_yX7_cover wI_RX7 wC_yX7_cover) rfl rfl rfl hd_X7_cover ⟨by decide, by decide⟩) hK hP rfl w_0 (fun _ hh => hh) hS rfl hl.1 rfl (Nat.le_of_ble_eq_true rfl) dX7_digest_60 ⟨Nat.le_refl 0, Nat.le_refl 0⟩ (fun H locs hP hS => ?_)
  refine lv_i2l (v := ((v13).toInt64)) hx hb dX7_digest_63 rfl ?_
  obtain ⟨v14, g14, h⟩ := ol h
  refine c_Sl (As := [.long v12, .long ((v13).toInt64)]) (rest := []) (A := AA ad) ⟨hx, hb, hml, hown, htb⟩ (c_X7_mix l D ad cI hd v9.2 τ η v12 ((v13).toInt64) v14 g14) (va_cwS 2 htb (gdS (fun _ hh => hh) wML_RX7_310 wST_yX7_mix wI_RX7 wC_yX7_mix) rfl rfl rfl hd_X7_mix.2 ⟨by decide, by decide⟩) hK hP (fun _ hh => hh) hS rfl hl.1 rfl (Nat.le_of_ble_eq_true rfl) dX7_digest_64 ⟨Nat.le_refl 0, Nat.le_refl 0⟩ (fun H locs hP hS => ?_)
  refine lv_lstore_n (lv' := [(1, .long v14), (0, .ref (ad 0))]) hx hb dX7_digest_67 rfl hl (by decide) rfl (fun ls hl => ?_)
  refine lv_aload_n hx hb dX7_digest_68 rfl (lv_at hl 1 rfl) ?_
  refine lv_lload_n hx hb dX7_digest_69 rfl (lv_at hl 0 rfl) ?_
  obtain ⟨v15, g15, h⟩ := ob h
  refine c_Vl (q := (RX7, TX7, 11)) (ci := 7) (b := 0) (As := [.long v14]) (rest := []) (A := AA ad) ⟨hx, hb, hml, hown, htb⟩ (c_X7_mixSigns l D ad cI hd v9.2 τ η v14 v15 g15) (cwV 1 htb (gdV (fun _ hh => hh) wML_RX7_323 wIM_yX7_mixSigns wSE_yX7_mixSigns wI_RX7 wC_yX7_mixSigns) rfl rfl rfl hd_X7_mixSigns ⟨by decide, by decide⟩) hK hP rfl w_0 (fun _ hh => hh) hS rfl hl.1 rfl (Nat.le_of_ble_eq_true rfl) dX7_digest_70 ⟨Nat.le_refl 0, Nat.le_refl 0⟩ (fun H locs hP hS => ?_)
  refine lv_lstore_n (lv' := [(1, .long v15), (0, .ref (ad 0))]) hx hb dX7_digest_73 rfl hl (by decide) rfl (fun ls hl => ?_)
  refine lv_lload_n hx hb dX7_digest_74 rfl (lv_at hl 0 rfl) ?_
  refine lv_aload_n hx hb dX7_digest_75 rfl (lv_at hl 1 rfl) ?_
  refine lv_iconst (v := (0 : Int32)) hx hb dX7_digest_76 (by decide) ?_
  refine lv_iconst (v := (0 : Int32)) hx hb dX7_digest_77 (by decide) ?_
  obtain ⟨v16, g16, h⟩ := ob h
  refine c_Vl (q := (RX7, TX7, 11)) (ci := 7) (b := 0) (As := [.int (0 : Int32), .int (0 : Int32)]) (rest := [.long v15]) (A := AA ad) ⟨hx, hb, hml, hown, htb⟩ (c_X7_belief l D ad cI hd v9.2 τ η (0 : Int32) (0 : Int32) v16 g16) (cwV 2 htb (gdV (fun _ hh => hh) wML_RX7_326 wIM_yX7_belief wSE_yX7_belief wI_RX7 wC_yX7_belief) rfl rfl rfl hd_X7_belief ⟨by decide, by decide⟩) hK hP rfl w_0 (fun _ hh => hh) hS rfl hl.1 rfl (Nat.le_of_ble_eq_true rfl) dX7_digest_78 ⟨Nat.le_refl 0, Nat.le_refl 0⟩ (fun H locs hP hS => ?_)
  obtain ⟨v17, g17, h⟩ := ol h
  refine c_Sl (As := [.long v15, .long v16]) (rest := []) (A := AA ad) ⟨hx, hb, hml, hown, htb⟩ (c_X7_mix l D ad cI hd v9.2 τ η v15 v16 v17 g17) (va_cwS 2 htb (gdS (fun _ hh => hh) wML_RX7_310 wST_yX7_mix wI_RX7 wC_yX7_mix) rfl rfl rfl hd_X7_mix.2 ⟨by decide, by decide⟩) hK hP (fun _ hh => hh) hS rfl hl.1 rfl (Nat.le_of_ble_eq_true rfl) dX7_digest_81 ⟨Nat.le_refl 0, Nat.le_refl 0⟩ (fun H locs hP hS => ?_)
  refine lv_aload_n hx hb dX7_digest_84 rfl (lv_at hl 1 rfl) ?_
  refine lv_iconst (v := (0 : Int32)) hx hb dX7_digest_85 (by decide) ?_
  refine lv_iconst (v := (1 : Int32)) hx hb dX7_digest_86 (by decide) ?_
  obtain ⟨v18, g18, h⟩ := ob h
  refine c_Vl (q := (RX7, TX7, 11)) (ci := 7) (b := 0) (As := [.int (0 : Int32), .int (1 : Int32)]) (rest := [.long v17]) (A := AA ad) ⟨hx, hb, hml, hown, htb⟩ (c_X7_belief l D ad cI hd v9.2 τ η (0 : Int32) (1 : Int32) v18 g18) (cwV 2 htb (gdV (fun _ hh => hh) wML_RX7_326 wIM_yX7_belief wSE_yX7_belief wI_RX7 wC_yX7_belief) rfl rfl rfl hd_X7_belief ⟨by decide, by decide⟩) hK hP rfl w_0 (fun _ hh => hh) hS rfl hl.1 rfl (Nat.le_of_ble_eq_true rfl) dX7_digest_87 ⟨Nat.le_refl 0, Nat.le_refl 0⟩ (fun H locs hP hS => ?_)
  obtain ⟨v19, g19, h⟩ := ol h
  refine c_Sl (As := [.long v17, .long v18]) (rest := []) (A := AA ad) ⟨hx, hb, hml, hown, htb⟩ (c_X7_mix l D ad cI hd v9.2 τ η v17 v18 v19 g19) (va_cwS 2 htb (gdS (fun _ hh => hh) wML_RX7_310 wST_yX7_mix wI_RX7 wC_yX7_mix) rfl rfl rfl hd_X7_mix.2 ⟨by decide, by decide⟩) hK hP (fun _ hh => hh) hS rfl hl.1 rfl (Nat.le_of_ble_eq_true rfl) dX7_digest_90 ⟨Nat.le_refl 0, Nat.le_refl 0⟩ (fun H locs hP hS => ?_)
  refine lv_lstore_n (lv' := [(1, .long v19), (0, .ref (ad 0))]) hx hb dX7_digest_93 rfl hl (by decide) rfl (fun ls hl => ?_)
  refine lv_aload_n hx hb dX7_digest_94 rfl (lv_at hl 1 rfl) ?_
  refine lv_lload_n hx hb dX7_digest_95 rfl (lv_at hl 0 rfl) ?_
  refine lv_aload_n hx hb dX7_digest_96 rfl (lv_at hl 1 rfl) ?_
  obtain ⟨v20, g20, h⟩ := ob h
  refine c_Vi (q := (RX7, TX7, 11)) (ci := 7) (b := 0) (As := []) (rest := [.long v19, .ref (ad 0)]) (A := AA ad) ⟨hx, hb, hml, hown, htb⟩ (c_X7_parting l D ad cI hd v9.2 τ η  v20 g20) (cwV 0 htb (gdV (fun _ hh => hh) wML_RX7_329 wIM_yX7_parting wSE_yX7_parting wI_RX7 wC_yX7_parting) rfl rfl rfl hd_X7_parting ⟨by decide, by decide⟩) hK hP rfl w_0 (fun _ hh => hh) hS rfl hl.1 rfl (Nat.le_of_ble_eq_true rfl) dX7_digest_97 ⟨Nat.le_refl 0, Nat.le_refl 0⟩ (fun H locs hP hS => ?_)
  refine lv_i2l (v := ((v20).toInt64)) hx hb dX7_digest_100 rfl ?_
  obtain ⟨v21, g21, h⟩ := ol h
  refine c_Sl (As := [.long v19, .long ((v20).toInt64)]) (rest := [.ref (ad 0)]) (A := AA ad) ⟨hx, hb, hml, hown, htb⟩ (c_X7_mix l D ad cI hd v9.2 τ η v19 ((v20).toInt64) v21 g21) (va_cwS 2 htb (gdS (fun _ hh => hh) wML_RX7_310 wST_yX7_mix wI_RX7 wC_yX7_mix) rfl rfl rfl hd_X7_mix.2 ⟨by decide, by decide⟩) hK hP (fun _ hh => hh) hS rfl hl.1 rfl (Nat.le_of_ble_eq_true rfl) dX7_digest_101 ⟨Nat.le_refl 0, Nat.le_refl 0⟩ (fun H locs hP hS => ?_)
  obtain ⟨v22, g22, h⟩ := ob h
  refine c_Vl (q := (RX7, TX7, 11)) (ci := 7) (b := 0) (As := [.long v21]) (rest := []) (A := AA ad) ⟨hx, hb, hml, hown, htb⟩ (c_X7_mixLetters l D ad cI hd v9.2 τ η v21 v22 g22) (cwV 1 htb (gdV (fun _ hh => hh) wML_RX7_332 wIM_yX7_mixLetters wSE_yX7_mixLetters wI_RX7 wC_yX7_mixLetters) rfl rfl rfl hd_X7_mixLetters ⟨by decide, by decide⟩) hK hP rfl w_0 (fun _ hh => hh) hS rfl hl.1 rfl (Nat.le_of_ble_eq_true rfl) dX7_digest_104 ⟨Nat.le_refl 0, Nat.le_refl 0⟩ (fun H locs hP hS => ?_)
  refine lv_lstore_n (lv' := [(1, .long v22), (0, .ref (ad 0))]) hx hb dX7_digest_107 rfl hl (by decide) rfl (fun ls hl => ?_)
  refine lv_iconst (v := (0 : Int32)) hx hb dX7_digest_108 (by decide) ?_
  refine lv_istore_n (lv' := [(3, .int (0 : Int32)), (1, .long v22), (0, .ref (ad 0))]) hx hb dX7_digest_109 rfl hl (by decide) rfl (fun ls hl => ?_)
  obtain ⟨v23, hj23, h⟩ := ob h
  have K1 : ∀ (H : Heap) (locs : List Loc) (ls : Array Slot), WP D ad cI v9.2 τ η H → va_S (AA ad) s.heap H locs → lv_has ls 4 [(1, .long v23.1)] → W p l e rmX7_digest s m args below meth c H locs 0 0 Q (F0 m 133 ls []) := by
    intro H locs ls hP hS hl
    refine lv_lload_n hx hb dX7_digest_133 rfl (lv_at hl 0 rfl) ?_
    obtain rfl := Option.some.inj h
    exact ret _ _ _ _ _ dX7_digest_134 hP hS rfl
  have L1 : ∀ (n : Nat) (y1_1 : Int64) (y1_3 : Int32) (H : Heap) (locs : List Loc) (ls : Array Slot), X7_digest_L1 n v9.2 y1_1 y1_3 = some v23 → WP D ad cI v9.2 τ η H → va_S (AA ad) s.heap H locs → lv_has ls 4 [(0, .ref (ad 0)), (1, .long y1_1), (3, .int y1_3)] → W p l e rmX7_digest s m args below meth c H locs 0 0 Q (F0 m 110 ls []) := by
    intro n
    induction n with
    | zero => intro y1_1 y1_3 H locs ls h; exact absurd h (by simp [X7_digest_L1])
    | succ n ih =>
      intro y1_1 y1_3 H locs ls h hP hS hl
      replace h := (X7_digest_L1_s n v9.2 y1_1 y1_3).symm.trans h
      refine lv_iload_n hx hb dX7_digest_110 rfl (lv_at hl 2 rfl) ?_
      refine lv_bipush (v := (7 : Int32)) hx hb dX7_digest_111 (by decide) ?_
      refine lv_icmp_gt (tgt := 133) hx hb dX7_digest_113 (by decide) (fun c24 => ?_) (fun c24 => ?_)
      · replace h := ip c24 h
        obtain rfl := Option.some.inj h
        exact K1 _ _ _ hP hS (lv_sub hl [1] rfl)
      · replace h := iq c24 h
        refine lv_lload_n hx hb dX7_digest_116 rfl (lv_at hl 1 rfl) ?_
        refine lv_aload_n hx hb dX7_digest_117 rfl (lv_at hl 0 rfl) ?_
        refine lv_iload_n hx hb dX7_digest_118 rfl (lv_at hl 2 rfl) ?_
        obtain ⟨v25, g25, h⟩ := ob h
        refine c_Vi (q := (RX7, TX7, 11)) (ci := 7) (b := 0) (As := [.int y1_3]) (rest := [.long y1_1]) (A := AA ad) ⟨hx, hb, hml, hown, htb⟩ (c_X7_count l D ad cI hd v9.2 τ η y1_3 v25 g25) (cwV 1 htb (gdV (fun _ hh => hh) wML_RX7_335 wIM_yX7_count wSE_yX7_count wI_RX7 wC_yX7_count) rfl rfl rfl hd_X7_count ⟨by decide, by decide⟩) hK hP rfl w_0 (fun _ hh => hh) hS rfl hl.1 rfl (Nat.le_of_ble_eq_true rfl) dX7_digest_119 ⟨Nat.le_refl 0, Nat.le_refl 0⟩ (fun H locs hP hS => ?_)
        refine lv_i2l (v := ((v25).toInt64)) hx hb dX7_digest_122 rfl ?_
        obtain ⟨v26, g26, h⟩ := ol h
        refine c_Sl (As := [.long y1_1, .long ((v25).toInt64)]) (rest := []) (A := AA ad) ⟨hx, hb, hml, hown, htb⟩ (c_X7_mix l D ad cI hd v9.2 τ η y1_1 ((v25).toInt64) v26 g26) (va_cwS 2 htb (gdS (fun _ hh => hh) wML_RX7_310 wST_yX7_mix wI_RX7 wC_yX7_mix) rfl rfl rfl hd_X7_mix.2 ⟨by decide, by decide⟩) hK hP (fun _ hh => hh) hS rfl hl.1 rfl (Nat.le_of_ble_eq_true rfl) dX7_digest_123 ⟨Nat.le_refl 0, Nat.le_refl 0⟩ (fun H locs hP hS => ?_)
        refine lv_lstore_n (lv' := [(1, .long v26), (0, .ref (ad 0)), (3, .int y1_3)]) hx hb dX7_digest_126 rfl hl (by decide) rfl (fun ls hl => ?_)
        refine lv_iinc (v := (y1_3 + (1 : Int32))) (lv' := [(3, .int (y1_3 + (1 : Int32))), (1, .long v26), (0, .ref (ad 0))]) hx hb dX7_digest_127 hl (k := 2) rfl rfl (by decide) rfl (fun ls hl => ?_)
        refine lv_goto (tgt := 110) hx hb dX7_digest_130 (by decide) ?_
        exact ih v26 (y1_3 + (1 : Int32)) _ _ _ h hP hS (lv_sub hl [2, 1, 0] rfl)
  exact L1 10000 v22 (0 : Int32) _ _ _ hj23 hP hS (lv_sub hl [2, 1, 0] rfl)
