def X8_layKnows_29_37_L1 (n : Nat) (τ_1 : St) (y1_2 : Int32) : Option (Int32 × St) := match n with
  | 0 => none
  | n + 1 =>
    if (τ_1 29 0) ≤ y1_2 then (
      some (y1_2, τ_1))
    else (
      bd (rd (τ_1 37) 9 y1_2) fun v3 =>
      bd ((
          if v3 = 0 then (
            some (10 : Int32))
          else (
            bd (rd (τ_1 37) 9 y1_2) fun v6 =>
            some v6)) : Option (Int32)) fun v5 =>
      bd (wa τ_1 34 9 y1_2 v5) fun τ7 =>
      X8_layKnows_29_37_L1 n τ7 (y1_2 + (1 : Int32)))
theorem X8_layKnows_29_37_L1_s (n : Nat) (τ_1 : St) (y1_2 : Int32) : X8_layKnows_29_37_L1 (n + 1) τ_1 y1_2 =
    if (τ_1 29 0) ≤ y1_2 then (
      some (y1_2, τ_1))
    else (
      bd (rd (τ_1 37) 9 y1_2) fun v3 =>
      bd ((
          if v3 = 0 then (
            some (10 : Int32))
          else (
            bd (rd (τ_1 37) 9 y1_2) fun v6 =>
            some v6)) : Option (Int32)) fun v5 =>
      bd (wa τ_1 34 9 y1_2 v5) fun τ7 =>
      X8_layKnows_29_37_L1 n τ7 (y1_2 + (1 : Int32))) := rfl
def X8_layKnows_29_37 (τ : St)  : Option (St) :=
  bd (X8_layKnows_29_37_L1 10000 τ (0 : Int32)) fun v1 =>
  bd (X8_spread v1.2 (0 : Int32)) fun v8 =>
  some v8
abbrev rmX8_layKnows_29_37 : Room := { frames := 1, cells := 0, slots := 0, locals := 26 }
set_option maxHeartbeats 4000000 in
set_option maxRecDepth 100000 in
theorem c_X8_layKnows_29_37 (l : Launch) (D : va_G) (ad : Nat → Nat) (cI : ClassId) (hd : HD ad) (σ τ : St) (η : Int64)  (rr : St) (h : X8_layKnows_29_37 τ  = some rr) : MV l yX8_layKnows (wy yX8_layKnows cX8_layKnows 3 none) rmX8_layKnows_29_37 D ad cI [.ref (ad 29), .ref (ad 37)] σ τ η σ rr η := by
  refine mk_v (own := RX8) (lv := [(0, .ref (ad 29)), (1, .ref (ad 37))]) (plainFor_of_name (by decide)) rfl (Nat.le_of_ble_eq_true rfl) rfl ?_
  intro p e s m args below meth c Q ls hx hb hml hown htb hK ret hP hS hl
  unfold X8_layKnows_29_37 at h
  refine lv_iconst (v := (0 : Int32)) hx hb dX8_layKnows_0 (by decide) ?_
  refine lv_istore_n (lv' := [(2, .int (0 : Int32)), (0, .ref (ad 29)), (1, .ref (ad 37))]) hx hb dX8_layKnows_1 rfl hl (by decide) rfl (fun ls hl => ?_)
  obtain ⟨v1, hj1, h⟩ := ob h
  have K1 : ∀ (H : Heap) (locs : List Loc) (ls : Array Slot), WP D ad cI σ v1.2 η H → va_S (AA ad) s.heap H locs → lv_has ls 3 [(0, .ref (ad 29))] → W p l e rmX8_layKnows_29_37 s m args below meth c H locs 0 0 Q (F0 m 36 ls []) := by
    intro H locs ls hP hS hl
    refine lv_aload_n hx hb dX8_layKnows_36 rfl (lv_at hl 0 rfl) ?_
    refine lv_iconst (v := (0 : Int32)) hx hb dX8_layKnows_37 (by decide) ?_
    obtain ⟨v8, g8, h⟩ := ob h
    refine c_Vv (q := (RX8, TX8, 27)) (ci := 8) (b := 29) (As := [.int (0 : Int32)]) (rest := []) (A := AA ad) ⟨hx, hb, hml, hown, htb⟩ (c_X8_spread l D ad cI hd σ v1.2 η (0 : Int32) v8 g8) (cwV 1 htb (gdV (fun _ hh => hh) wML_RX8_77 wIM_yX8_spread wSE_yX8_spread wI_RX8 wC_yX8_spread) rfl rfl rfl hd_X8_spread ⟨by decide, by decide⟩) hK hP rfl w_29 (fun _ hh => hh) hS rfl hl.1 rfl (Nat.le_of_ble_eq_true rfl) dX8_layKnows_38 ⟨Nat.le_refl 0, Nat.le_refl 0⟩ (fun H locs hP hS => ?_)
    obtain rfl := Option.some.inj h
    exact ret _ _ _ _ dX8_layKnows_41 hP hS
  have L1 : ∀ (n : Nat) (τ_1 : St) (y1_2 : Int32) (H : Heap) (locs : List Loc) (ls : Array Slot), X8_layKnows_29_37_L1 n τ_1 y1_2 = some v1 → WP D ad cI σ τ_1 η H → va_S (AA ad) s.heap H locs → lv_has ls 3 [(0, .ref (ad 29)), (1, .ref (ad 37)), (2, .int y1_2)] → W p l e rmX8_layKnows_29_37 s m args below meth c H locs 0 0 Q (F0 m 2 ls []) := by
    intro n
    induction n with
    | zero => intro τ_1 y1_2 H locs ls h; exact absurd h (by simp [X8_layKnows_29_37_L1])
    | succ n ih =>
      intro τ_1 y1_2 H locs ls h hP hS hl
      replace h := (X8_layKnows_29_37_L1_s n τ_1 y1_2).symm.trans h
      refine lv_iload_n hx hb dX8_layKnows_2 rfl (lv_at hl 2 rfl) ?_
      refine lv_aload_n hx hb dX8_layKnows_3 rfl (lv_at hl 0 rfl) ?_
      refine va_get (D := D) (ci := 8) (v := .int (τ_1 29 0)) (C := RX8) (T := TX8) (N := 27) hx hb htb wu_8 hown hK.1 hP 29 w_29 rfl 0 (by decide) (htb _ wFL_RX8_62) (fun _ h9 => h9) rfl dX8_layKnows_4 ?_
      refine lv_icmp_ge (tgt := 36) hx hb dX8_layKnows_7 (by decide) (fun c2 => ?_) (fun c2 => ?_)
      · replace h := ip c2 h
        obtain rfl := Option.some.inj h
        exact K1 _ _ _ hP hS (lv_sub hl [0] rfl)
      · replace h := iq c2 h
        refine lv_aload_n hx hb dX8_layKnows_10 rfl (lv_at hl 0 rfl) ?_
        refine va_get (D := D) (ci := 8) (v := .ref (ad 34)) (C := RX8) (T := TX8) (N := 27) hx hb htb wu_8 hown hK.1 hP 29 w_29 rfl 5 (by decide) (htb _ wFL_RX8_22) (fun _ h9 => h9) rfl dX8_layKnows_11 ?_
        refine lv_iload_n hx hb dX8_layKnows_14 rfl (lv_at hl 2 rfl) ?_
        refine lv_aload_n hx hb dX8_layKnows_15 rfl (lv_at hl 1 rfl) ?_
        refine lv_iload_n hx hb dX8_layKnows_16 rfl (lv_at hl 2 rfl) ?_
        obtain ⟨v3, g3, h⟩ := ob h
        refine r_ald hx hb hK hP 37 w_37 g3 dX8_layKnows_17 ?_
        obtain ⟨v5, hj5, h⟩ := ob h
        have J5 : ∀ (H : Heap) (locs : List Loc) (ls : Array Slot), WP D ad cI σ τ_1 η H → va_S (AA ad) s.heap H locs → lv_has ls 3 [(0, .ref (ad 29)), (1, .ref (ad 37)), (2, .int y1_2)] → W p l e rmX8_layKnows_29_37 s m args below meth c H locs 0 0 Q (F0 m 29 ls [.int v5, .int y1_2, .ref (ad 34)]) := by
          intro H locs ls hP hS hl
          obtain ⟨τ7, g7, h⟩ := ob h
          refine r_astM (A := AA ad) hx hb hK hd (fun _ hh => hh) hP hS 34 9 (by decide) (fun _ => rfl) g7 dX8_layKnows_29 (fun H locs hP hS => ?_)
          refine lv_iinc (v := (y1_2 + (1 : Int32))) (lv' := [(2, .int (y1_2 + (1 : Int32))), (0, .ref (ad 29)), (1, .ref (ad 37))]) hx hb dX8_layKnows_30 hl (k := 2) rfl rfl (by decide) rfl (fun ls hl => ?_)
          refine lv_goto (tgt := 2) hx hb dX8_layKnows_33 (by decide) ?_
          exact ih τ7 (y1_2 + (1 : Int32)) _ _ _ h hP hS (lv_sub hl [1, 2, 0] rfl)
        replace h := hj5
        refine lv_if_ne (tgt := 26) hx hb dX8_layKnows_18 (by decide) (fun c4 => ?_) (fun c4 => ?_)
        · replace h := iq c4 h
          refine lv_aload_n hx hb dX8_layKnows_26 rfl (lv_at hl 1 rfl) ?_
          refine lv_iload_n hx hb dX8_layKnows_27 rfl (lv_at hl 2 rfl) ?_
          obtain ⟨v6, g6, h⟩ := ob h
          refine r_ald hx hb hK hP 37 w_37 g6 dX8_layKnows_28 ?_
          obtain rfl := Option.some.inj h
          exact J5 _ _ _ hP hS (lv_sub hl [0, 1, 2] rfl)
        · replace h := ip c4 h
          refine lv_bipush (v := (10 : Int32)) hx hb dX8_layKnows_21 (by decide) ?_
          refine lv_goto (tgt := 29) hx hb dX8_layKnows_23 (by decide) ?_
          obtain rfl := Option.some.inj h
          exact J5 _ _ _ hP hS (lv_sub hl [0, 1, 2] rfl)
  exact L1 10000 τ (0 : Int32) _ _ _ hj1 hP hS (lv_sub hl [1, 2, 0] rfl)
def X8_layBest_L1 (n : Nat) (τ_1 : St) (u1_1 : Int32) (u1_2 : Int64) (y1_4 : Int32) : Option (Int32 × St) := match n with
  | 0 => none
  | n + 1 =>
    if (9 : Int32) ≤ y1_4 then (
      some (y1_4, τ_1))
    else (
      bd (wa τ_1 37 9 y1_4 (0 : Int32)) fun τ3 =>
      X8_layBest_L1 n τ3 u1_1 u1_2 (y1_4 + (1 : Int32)))
theorem X8_layBest_L1_s (n : Nat) (τ_1 : St) (u1_1 : Int32) (u1_2 : Int64) (y1_4 : Int32) : X8_layBest_L1 (n + 1) τ_1 u1_1 u1_2 y1_4 =
    if (9 : Int32) ≤ y1_4 then (
      some (y1_4, τ_1))
    else (
      bd (wa τ_1 37 9 y1_4 (0 : Int32)) fun τ3 =>
      X8_layBest_L1 n τ3 u1_1 u1_2 (y1_4 + (1 : Int32))) := rfl
def X8_layBest_L2 (n : Nat) (τ_2 : St) (u2_1 : Int32) (u2_2 : Int64) (y2_4 : Int32) (y2_5 : Int32) : Option (Int32 × Int32) := match n with
  | 0 => none
  | n + 1 =>
    if u2_1 ≤ y2_5 then (
      some (y2_4, y2_5))
    else (
      bd (rd (τ_2 39) 9 y2_5) fun v6 =>
      bd (rd (τ_2 31) 9 v6) fun v7 =>
      X8_layBest_L2 n τ_2 u2_1 u2_2 (y2_4 * v7) (y2_5 + (1 : Int32)))
theorem X8_layBest_L2_s (n : Nat) (τ_2 : St) (u2_1 : Int32) (u2_2 : Int64) (y2_4 : Int32) (y2_5 : Int32) : X8_layBest_L2 (n + 1) τ_2 u2_1 u2_2 y2_4 y2_5 =
    if u2_1 ≤ y2_5 then (
      some (y2_4, y2_5))
    else (
      bd (rd (τ_2 39) 9 y2_5) fun v6 =>
      bd (rd (τ_2 31) 9 v6) fun v7 =>
      X8_layBest_L2 n τ_2 u2_1 u2_2 (y2_4 * v7) (y2_5 + (1 : Int32))) := rfl
def X8_layBest_L4 (n : Nat) (τ_4 : St) (u4_1 : Int32) (u4_2 : Int64) (u4_4 : Int32) (u4_5 : Int32) (y4_6 : Int32) (y4_7 : Int32) : Option (Int32 × Int32 × St) := match n with
  | 0 => none
  | n + 1 =>
    if y4_7 < 0 then (
      some (y4_6, y4_7, τ_4))
    else (
      bd (rd (τ_4 39) 9 y4_7) fun v12 =>
      bd (rd (τ_4 39) 9 y4_7) fun v13 =>
      bd (rd (τ_4 31) 9 v13) fun v14 =>
      if v14 = 0 then none else
      bd (wa τ_4 37 9 v12 ((1 : Int32) + (irem y4_6 v14))) fun τ16 =>
      bd (rd (τ16 39) 9 y4_7) fun v17 =>
      bd (rd (τ16 31) 9 v17) fun v18 =>
      if v18 = 0 then none else
      X8_layBest_L4 n τ16 u4_1 u4_2 u4_4 u4_5 (y4_6 / v18) (y4_7 + (-1 : Int32)))
theorem X8_layBest_L4_s (n : Nat) (τ_4 : St) (u4_1 : Int32) (u4_2 : Int64) (u4_4 : Int32) (u4_5 : Int32) (y4_6 : Int32) (y4_7 : Int32) : X8_layBest_L4 (n + 1) τ_4 u4_1 u4_2 u4_4 u4_5 y4_6 y4_7 =
    if y4_7 < 0 then (
      some (y4_6, y4_7, τ_4))
    else (
      bd (rd (τ_4 39) 9 y4_7) fun v12 =>
      bd (rd (τ_4 39) 9 y4_7) fun v13 =>
      bd (rd (τ_4 31) 9 v13) fun v14 =>
      if v14 = 0 then none else
      bd (wa τ_4 37 9 v12 ((1 : Int32) + (irem y4_6 v14))) fun τ16 =>
      bd (rd (τ16 39) 9 y4_7) fun v17 =>
      bd (rd (τ16 31) 9 v17) fun v18 =>
      if v18 = 0 then none else
      X8_layBest_L4 n τ16 u4_1 u4_2 u4_4 u4_5 (y4_6 / v18) (y4_7 + (-1 : Int32))) := rfl
def X8_layBest_L5 (n : Nat) (τ_5 : St) (u5_1 : Int32) (u5_2 : Int64) (u5_4 : Int32) (u5_5 : Int32) (y5_7 : Int32) : Option (Int32 × St) := match n with
  | 0 => none
  | n + 1 =>
    if (9 : Int32) ≤ y5_7 then (
      some (y5_7, τ_5))
    else (
      bd (rd (τ_5 37) 9 y5_7) fun v27 =>
      bd (wa τ_5 38 9 y5_7 v27) fun τ28 =>
      X8_layBest_L5 n τ28 u5_1 u5_2 u5_4 u5_5 (y5_7 + (1 : Int32)))
theorem X8_layBest_L5_s (n : Nat) (τ_5 : St) (u5_1 : Int32) (u5_2 : Int64) (u5_4 : Int32) (u5_5 : Int32) (y5_7 : Int32) : X8_layBest_L5 (n + 1) τ_5 u5_1 u5_2 u5_4 u5_5 y5_7 =
    if (9 : Int32) ≤ y5_7 then (
      some (y5_7, τ_5))
    else (
      bd (rd (τ_5 37) 9 y5_7) fun v27 =>
      bd (wa τ_5 38 9 y5_7 v27) fun τ28 =>
      X8_layBest_L5 n τ28 u5_1 u5_2 u5_4 u5_5 (y5_7 + (1 : Int32))) := rfl
def X8_layBest_L3 (n : Nat) (τ_3 : St) (u3_1 : Int32) (y3_2 : Int64) (u3_4 : Int32) (y3_5 : Int32) : Option (Int64 × Int32 × St) := match n with
  | 0 => none
  | n + 1 =>
    if u3_4 ≤ y3_5 then (
      some (y3_2, y3_5, τ_3))
    else (
      bd (X8_layBest_L4 10000 τ_3 u3_1 y3_2 u3_4 y3_5 y3_5 (u3_1 - (1 : Int32))) fun v10 =>
      bd (X8_layKnows_29_37 v10.2.2 ) fun v20 =>
      bd (X8_silent v20 ) fun v21 =>
      bd ((
          if v21 ≤ y3_2 then (
            some (y3_2, v20))
          else (
            bd (X8_silent v20 ) fun v24 =>
            bd (X8_layBest_L5 10000 v20 u3_1 v24 u3_4 y3_5 (0 : Int32)) fun v25 =>
            some (v24, v25.2))) : Option (Int64 × St)) fun v23 =>
      X8_layBest_L3 n v23.2 u3_1 v23.1 u3_4 (y3_5 + (1 : Int32)))
theorem X8_layBest_L3_s (n : Nat) (τ_3 : St) (u3_1 : Int32) (y3_2 : Int64) (u3_4 : Int32) (y3_5 : Int32) : X8_layBest_L3 (n + 1) τ_3 u3_1 y3_2 u3_4 y3_5 =
    if u3_4 ≤ y3_5 then (
      some (y3_2, y3_5, τ_3))
    else (
      bd (X8_layBest_L4 10000 τ_3 u3_1 y3_2 u3_4 y3_5 y3_5 (u3_1 - (1 : Int32))) fun v10 =>
      bd (X8_layKnows_29_37 v10.2.2 ) fun v20 =>
      bd (X8_silent v20 ) fun v21 =>
      bd ((
          if v21 ≤ y3_2 then (
            some (y3_2, v20))
          else (
            bd (X8_silent v20 ) fun v24 =>
            bd (X8_layBest_L5 10000 v20 u3_1 v24 u3_4 y3_5 (0 : Int32)) fun v25 =>
            some (v24, v25.2))) : Option (Int64 × St)) fun v23 =>
      X8_layBest_L3 n v23.2 u3_1 v23.1 u3_4 (y3_5 + (1 : Int32))) := rfl
def X8_layBest (τ : St) (x1 : Int32) : Option (Int64 × St) :=
  bd (X8_layBest_L1 10000 τ x1 (-1 : Int64) (0 : Int32)) fun v1 =>
  bd (X8_layBest_L2 10000 v1.2 x1 (-1 : Int64) (1 : Int32) (0 : Int32)) fun v4 =>
  bd (X8_layBest_L3 10000 v1.2 x1 (-1 : Int64) v4.1 (0 : Int32)) fun v8 =>
  some (v8.1, v8.2.2)
abbrev rmX8_layBest : Room := { frames := 2, cells := 0, slots := 0, locals := 48 }
set_option maxHeartbeats 4000000 in
set_option maxRecDepth 100000 in
theorem c_X8_layBest (l : Launch) (D : va_G) (ad : Nat → Nat) (cI : ClassId) (hd : HD ad) (σ τ : St) (η : Int64) (x1 : Int32) (rr : Int64 × St) (h : X8_layBest τ x1 = some rr) : ML l yX8_layBest (wy yX8_layBest cX8_layBest 8 (some .long)) rmX8_layBest D ad cI [.ref (ad 29), .int x1] σ τ η rr.1 σ rr.2 η := by
  refine mk_l (own := RX8) (lv := [(0, .ref (ad 29)), (1, .int x1)]) (plainFor_of_name (by decide)) rfl (Nat.le_of_ble_eq_true rfl) rfl ?_
  intro p e s m args below meth c Q ls hx hb hml hown htb hK ret hP hS hl
  unfold X8_layBest at h
  refine lv_ldc2 (v := (-1 : Int64)) hx hb hown (htb _ wKL_RX8_148) dX8_layBest_0 ?_
  refine lv_lstore_n (lv' := [(2, .long (-1 : Int64)), (0, .ref (ad 29)), (1, .int x1)]) hx hb dX8_layBest_3 rfl hl (by decide) rfl (fun ls hl => ?_)
  refine lv_iconst (v := (0 : Int32)) hx hb dX8_layBest_4 (by decide) ?_
  refine lv_istore (lv' := [(4, .int (0 : Int32)), (2, .long (-1 : Int64)), (0, .ref (ad 29)), (1, .int x1)]) hx hb dX8_layBest_5 hl (by decide) rfl (fun ls hl => ?_)
  obtain ⟨v1, hj1, h⟩ := ob h
  have K1 : ∀ (H : Heap) (locs : List Loc) (ls : Array Slot), WP D ad cI σ v1.2 η H → va_S (AA ad) s.heap H locs → lv_has ls 8 [(0, .ref (ad 29)), (1, .int x1), (2, .long (-1 : Int64))] → W p l e rmX8_layBest s m args below meth c H locs 0 0 Q (F0 m 28 ls []) := by
    intro H locs ls hP hS hl
    refine lv_iconst (v := (1 : Int32)) hx hb dX8_layBest_28 (by decide) ?_
    refine lv_istore (lv' := [(4, .int (1 : Int32)), (0, .ref (ad 29)), (1, .int x1), (2, .long (-1 : Int64))]) hx hb dX8_layBest_29 hl (by decide) rfl (fun ls hl => ?_)
    refine lv_iconst (v := (0 : Int32)) hx hb dX8_layBest_31 (by decide) ?_
    refine lv_istore (lv' := [(5, .int (0 : Int32)), (4, .int (1 : Int32)), (0, .ref (ad 29)), (1, .int x1), (2, .long (-1 : Int64))]) hx hb dX8_layBest_32 hl (by decide) rfl (fun ls hl => ?_)
    obtain ⟨v4, hj4, h⟩ := ob h
    have K2 : ∀ (H : Heap) (locs : List Loc) (ls : Array Slot), WP D ad cI σ v1.2 η H → va_S (AA ad) s.heap H locs → lv_has ls 8 [(0, .ref (ad 29)), (1, .int x1), (2, .long (-1 : Int64)), (4, .int v4.1)] → W p l e rmX8_layBest s m args below meth c H locs 0 0 Q (F0 m 63 ls []) := by
      intro H locs ls hP hS hl
      refine lv_iconst (v := (0 : Int32)) hx hb dX8_layBest_63 (by decide) ?_
      refine lv_istore (lv' := [(5, .int (0 : Int32)), (0, .ref (ad 29)), (1, .int x1), (2, .long (-1 : Int64)), (4, .int v4.1)]) hx hb dX8_layBest_64 hl (by decide) rfl (fun ls hl => ?_)
      obtain ⟨v8, hj8, h⟩ := ob h
      have K3 : ∀ (H : Heap) (locs : List Loc) (ls : Array Slot), WP D ad cI σ v8.2.2 η H → va_S (AA ad) s.heap H locs → lv_has ls 8 [(2, .long v8.1)] → W p l e rmX8_layBest s m args below meth c H locs 0 0 Q (F0 m 197 ls []) := by
        intro H locs ls hP hS hl
        refine lv_lload_n hx hb dX8_layBest_197 rfl (lv_at hl 0 rfl) ?_
        obtain rfl := Option.some.inj h
        exact ret _ _ _ _ _ dX8_layBest_198 hP hS rfl
      have L3 : ∀ (n : Nat) (τ_3 : St) (y3_2 : Int64) (y3_5 : Int32) (H : Heap) (locs : List Loc) (ls : Array Slot), X8_layBest_L3 n τ_3 x1 y3_2 v4.1 y3_5 = some v8 → WP D ad cI σ τ_3 η H → va_S (AA ad) s.heap H locs → lv_has ls 8 [(0, .ref (ad 29)), (1, .int x1), (2, .long y3_2), (4, .int v4.1), (5, .int y3_5)] → W p l e rmX8_layBest s m args below meth c H locs 0 0 Q (F0 m 66 ls []) := by
        intro n
        induction n with
        | zero => intro τ_3 y3_2 y3_5 H locs ls h; exact absurd h (by simp [X8_layBest_L3])
        | succ n ih =>
          intro τ_3 y3_2 y3_5 H locs ls h hP hS hl
          replace h := (X8_layBest_L3_s n τ_3 x1 y3_2 v4.1 y3_5).symm.trans h
          refine lv_iload hx hb dX8_layBest_66 (lv_at hl 4 rfl) ?_
          refine lv_iload hx hb dX8_layBest_68 (lv_at hl 3 rfl) ?_
          refine lv_icmp_ge (tgt := 197) hx hb dX8_layBest_70 (by decide) (fun c9 => ?_) (fun c9 => ?_)
          · replace h := ip c9 h
            obtain rfl := Option.some.inj h
            exact K3 _ _ _ hP hS (lv_sub hl [2] rfl)
          · replace h := iq c9 h
            refine lv_iload hx hb dX8_layBest_73 (lv_at hl 4 rfl) ?_
            refine lv_istore (lv' := [(6, .int y3_5), (0, .ref (ad 29)), (1, .int x1), (2, .long y3_2), (4, .int v4.1), (5, .int y3_5)]) hx hb dX8_layBest_75 hl (by decide) rfl (fun ls hl => ?_)
            refine lv_iload_n hx hb dX8_layBest_77 rfl (lv_at hl 2 rfl) ?_
            refine lv_iconst (v := (1 : Int32)) hx hb dX8_layBest_78 (by decide) ?_
            refine lv_isub hx hb dX8_layBest_79 ?_
            refine lv_istore (lv' := [(7, .int (x1 - (1 : Int32))), (6, .int y3_5), (0, .ref (ad 29)), (1, .int x1), (2, .long y3_2), (4, .int v4.1), (5, .int y3_5)]) hx hb dX8_layBest_80 hl (by decide) rfl (fun ls hl => ?_)
            obtain ⟨v10, hj10, h⟩ := ob h
            have K4 : ∀ (H : Heap) (locs : List Loc) (ls : Array Slot), WP D ad cI σ v10.2.2 η H → va_S (AA ad) s.heap H locs → lv_has ls 8 [(0, .ref (ad 29)), (1, .int x1), (2, .long y3_2), (4, .int v4.1), (5, .int y3_5)] → W p l e rmX8_layBest s m args below meth c H locs 0 0 Q (F0 m 139 ls []) := by
              intro H locs ls hP hS hl
              refine lv_aload_n hx hb dX8_layBest_139 rfl (lv_at hl 0 rfl) ?_
              refine lv_aload_n hx hb dX8_layBest_140 rfl (lv_at hl 0 rfl) ?_
              refine va_get (D := D) (ci := 8) (v := .ref (ad 37)) (C := RX8) (T := TX8) (N := 27) hx hb htb wu_8 hown hK.1 hP 29 w_29 rfl 12 (by decide) (htb _ wFL_RX8_31) (fun _ h9 => h9) rfl dX8_layBest_141 ?_
              obtain ⟨v20, g20, h⟩ := ob h
              refine c_Vv (q := (RX8, TX8, 27)) (ci := 8) (b := 29) (As := [.ref (ad 37)]) (rest := []) (A := AA ad) ⟨hx, hb, hml, hown, htb⟩ (c_X8_layKnows_29_37 l D ad cI hd σ v10.2.2 η  v20 g20) (cwV 1 htb (gdV (fun _ hh => hh) wML_RX8_81 wIM_yX8_layKnows wSE_yX8_layKnows wI_RX8 wC_yX8_layKnows) rfl rfl rfl hd_X8_layKnows ⟨by decide, by decide⟩) hK hP rfl w_29 (fun _ hh => hh) hS rfl hl.1 rfl (Nat.le_of_ble_eq_true rfl) dX8_layBest_144 ⟨Nat.le_refl 0, Nat.le_refl 0⟩ (fun H locs hP hS => ?_)
              refine lv_aload_n hx hb dX8_layBest_147 rfl (lv_at hl 0 rfl) ?_
              obtain ⟨v21, g21, h⟩ := ob h
              refine c_Vl (q := (RX8, TX8, 27)) (ci := 8) (b := 29) (As := []) (rest := []) (A := AA ad) ⟨hx, hb, hml, hown, htb⟩ (c_X8_silent l D ad cI hd σ v20 η  v21 g21) (cwV 0 htb (gdV (fun _ hh => hh) wML_RX8_130 wIM_yX8_silent wSE_yX8_silent wI_RX8 wC_yX8_silent) rfl rfl rfl hd_X8_silent ⟨by decide, by decide⟩) hK hP rfl w_29 (fun _ hh => hh) hS rfl hl.1 rfl (Nat.le_of_ble_eq_true rfl) dX8_layBest_148 ⟨Nat.le_refl 0, Nat.le_refl 0⟩ (fun H locs hP hS => ?_)
              refine lv_lload_n hx hb dX8_layBest_151 rfl (lv_at hl 2 rfl) ?_
              refine W.lcmp hx hb dX8_layBest_152 ?_
              obtain ⟨v23, hj23, h⟩ := ob h
              have J23 : ∀ (H : Heap) (locs : List Loc) (ls : Array Slot), WP D ad cI σ v23.2 η H → va_S (AA ad) s.heap H locs → lv_has ls 8 [(0, .ref (ad 29)), (1, .int x1), (2, .long v23.1), (4, .int v4.1), (5, .int y3_5)] → W p l e rmX8_layBest s m args below meth c H locs 0 0 Q (F0 m 191 ls []) := by
                intro H locs ls hP hS hl
                refine lv_iinc (v := (y3_5 + (1 : Int32))) (lv' := [(5, .int (y3_5 + (1 : Int32))), (0, .ref (ad 29)), (1, .int x1), (2, .long v23.1), (4, .int v4.1)]) hx hb dX8_layBest_191 hl (k := 4) rfl rfl (by decide) rfl (fun ls hl => ?_)
                refine lv_goto (tgt := 66) hx hb dX8_layBest_194 (by decide) ?_
                exact ih v23.2 v23.1 (y3_5 + (1 : Int32)) _ _ _ h hP hS (lv_sub hl [1, 2, 3, 4, 0] rfl)
              replace h := hj23
              refine lv_if_le (tgt := 191) hx hb dX8_layBest_153 (by decide) (fun c22 => ?_) (fun c22 => ?_)
              · replace c22 := (lg_cmp_le _ _).mp c22
                replace h := ip c22 h
                obtain rfl := Option.some.inj h
                exact J23 _ _ _ hP hS (lv_sub hl [0, 1, 2, 3, 4] rfl)
              · replace c22 := (not_congr (lg_cmp_le _ _)).mp c22
                replace h := iq c22 h
                refine lv_aload_n hx hb dX8_layBest_156 rfl (lv_at hl 0 rfl) ?_
                obtain ⟨v24, g24, h⟩ := ob h
                refine c_Vl (q := (RX8, TX8, 27)) (ci := 8) (b := 29) (As := []) (rest := []) (A := AA ad) ⟨hx, hb, hml, hown, htb⟩ (c_X8_silent l D ad cI hd σ v20 η  v24 g24) (cwV 0 htb (gdV (fun _ hh => hh) wML_RX8_130 wIM_yX8_silent wSE_yX8_silent wI_RX8 wC_yX8_silent) rfl rfl rfl hd_X8_silent ⟨by decide, by decide⟩) hK hP rfl w_29 (fun _ hh => hh) hS rfl hl.1 rfl (Nat.le_of_ble_eq_true rfl) dX8_layBest_157 ⟨Nat.le_refl 0, Nat.le_refl 0⟩ (fun H locs hP hS => ?_)
                refine lv_lstore_n (lv' := [(2, .long v24), (0, .ref (ad 29)), (1, .int x1), (4, .int v4.1), (5, .int y3_5)]) hx hb dX8_layBest_160 rfl hl (by decide) rfl (fun ls hl => ?_)
                refine lv_iconst (v := (0 : Int32)) hx hb dX8_layBest_161 (by decide) ?_
                refine lv_istore (lv' := [(7, .int (0 : Int32)), (2, .long v24), (0, .ref (ad 29)), (1, .int x1), (4, .int v4.1), (5, .int y3_5)]) hx hb dX8_layBest_162 hl (by decide) rfl (fun ls hl => ?_)
                obtain ⟨v25, hj25, h⟩ := ob h
                have K5 : ∀ (H : Heap) (locs : List Loc) (ls : Array Slot), WP D ad cI σ v25.2 η H → va_S (AA ad) s.heap H locs → lv_has ls 8 [(0, .ref (ad 29)), (1, .int x1), (2, .long v24), (4, .int v4.1), (5, .int y3_5)] → W p l e rmX8_layBest s m args below meth c H locs 0 0 Q (F0 m 191 ls []) := by
                  intro H locs ls hP hS hl
                  obtain rfl := Option.some.inj h
                  exact J23 _ _ _ hP hS (lv_sub hl [0, 1, 2, 3, 4] rfl)
                have L5 : ∀ (n : Nat) (τ_5 : St) (y5_7 : Int32) (H : Heap) (locs : List Loc) (ls : Array Slot), X8_layBest_L5 n τ_5 x1 v24 v4.1 y3_5 y5_7 = some v25 → WP D ad cI σ τ_5 η H → va_S (AA ad) s.heap H locs → lv_has ls 8 [(0, .ref (ad 29)), (1, .int x1), (2, .long v24), (4, .int v4.1), (5, .int y3_5), (7, .int y5_7)] → W p l e rmX8_layBest s m args below meth c H locs 0 0 Q (F0 m 164 ls []) := by
                  intro n
                  induction n with
                  | zero => intro τ_5 y5_7 H locs ls h; exact absurd h (by simp [X8_layBest_L5])
                  | succ n ih =>
                    intro τ_5 y5_7 H locs ls h hP hS hl
                    replace h := (X8_layBest_L5_s n τ_5 x1 v24 v4.1 y3_5 y5_7).symm.trans h
                    refine lv_iload hx hb dX8_layBest_164 (lv_at hl 5 rfl) ?_
                    refine lv_bipush (v := (9 : Int32)) hx hb dX8_layBest_166 (by decide) ?_
                    refine lv_icmp_ge (tgt := 191) hx hb dX8_layBest_168 (by decide) (fun c26 => ?_) (fun c26 => ?_)
                    · replace h := ip c26 h
                      obtain rfl := Option.some.inj h
                      exact K5 _ _ _ hP hS (lv_sub hl [0, 1, 2, 3, 4] rfl)
                    · replace h := iq c26 h
                      refine lv_aload_n hx hb dX8_layBest_171 rfl (lv_at hl 0 rfl) ?_
                      refine va_get (D := D) (ci := 8) (v := .ref (ad 38)) (C := RX8) (T := TX8) (N := 27) hx hb htb wu_8 hown hK.1 hP 29 w_29 rfl 13 (by decide) (htb _ wFL_RX8_34) (fun _ h9 => h9) rfl dX8_layBest_172 ?_
                      refine lv_iload hx hb dX8_layBest_175 (lv_at hl 5 rfl) ?_
                      refine lv_aload_n hx hb dX8_layBest_177 rfl (lv_at hl 0 rfl) ?_
                      refine va_get (D := D) (ci := 8) (v := .ref (ad 37)) (C := RX8) (T := TX8) (N := 27) hx hb htb wu_8 hown hK.1 hP 29 w_29 rfl 12 (by decide) (htb _ wFL_RX8_31) (fun _ h9 => h9) rfl dX8_layBest_178 ?_
                      refine lv_iload hx hb dX8_layBest_181 (lv_at hl 5 rfl) ?_
                      obtain ⟨v27, g27, h⟩ := ob h
                      refine r_ald hx hb hK hP 37 w_37 g27 dX8_layBest_183 ?_
                      obtain ⟨τ28, g28, h⟩ := ob h
                      refine r_astM (A := AA ad) hx hb hK hd (fun _ hh => hh) hP hS 38 9 (by decide) (fun _ => rfl) g28 dX8_layBest_184 (fun H locs hP hS => ?_)
                      refine lv_iinc (v := (y5_7 + (1 : Int32))) (lv' := [(7, .int (y5_7 + (1 : Int32))), (0, .ref (ad 29)), (1, .int x1), (2, .long v24), (4, .int v4.1), (5, .int y3_5)]) hx hb dX8_layBest_185 hl (k := 5) rfl rfl (by decide) rfl (fun ls hl => ?_)
                      refine lv_goto (tgt := 164) hx hb dX8_layBest_188 (by decide) ?_
                      exact ih τ28 (y5_7 + (1 : Int32)) _ _ _ h hP hS (lv_sub hl [1, 2, 3, 4, 5, 0] rfl)
                exact L5 10000 v20 (0 : Int32) _ _ _ hj25 hP hS (lv_sub hl [2, 3, 1, 4, 5, 0] rfl)
            have L4 : ∀ (n : Nat) (τ_4 : St) (y4_6 : Int32) (y4_7 : Int32) (H : Heap) (locs : List Loc) (ls : Array Slot), X8_layBest_L4 n τ_4 x1 y3_2 v4.1 y3_5 y4_6 y4_7 = some v10 → WP D ad cI σ τ_4 η H → va_S (AA ad) s.heap H locs → lv_has ls 8 [(0, .ref (ad 29)), (1, .int x1), (2, .long y3_2), (4, .int v4.1), (5, .int y3_5), (6, .int y4_6), (7, .int y4_7)] → W p l e rmX8_layBest s m args below meth c H locs 0 0 Q (F0 m 82 ls []) := by
              intro n
              induction n with
              | zero => intro τ_4 y4_6 y4_7 H locs ls h; exact absurd h (by simp [X8_layBest_L4])
              | succ n ih =>
                intro τ_4 y4_6 y4_7 H locs ls h hP hS hl
                replace h := (X8_layBest_L4_s n τ_4 x1 y3_2 v4.1 y3_5 y4_6 y4_7).symm.trans h
                refine lv_iload hx hb dX8_layBest_82 (lv_at hl 6 rfl) ?_
                refine lv_if_lt (tgt := 139) hx hb dX8_layBest_84 (by decide) (fun c11 => ?_) (fun c11 => ?_)
                · replace h := ip c11 h
                  obtain rfl := Option.some.inj h
                  exact K4 _ _ _ hP hS (lv_sub hl [0, 1, 2, 3, 4] rfl)
                · replace h := iq c11 h
                  refine lv_aload_n hx hb dX8_layBest_87 rfl (lv_at hl 0 rfl) ?_
                  refine va_get (D := D) (ci := 8) (v := .ref (ad 37)) (C := RX8) (T := TX8) (N := 27) hx hb htb wu_8 hown hK.1 hP 29 w_29 rfl 12 (by decide) (htb _ wFL_RX8_31) (fun _ h9 => h9) rfl dX8_layBest_88 ?_
                  refine lv_aload_n hx hb dX8_layBest_91 rfl (lv_at hl 0 rfl) ?_
                  refine va_get (D := D) (ci := 8) (v := .ref (ad 39)) (C := RX8) (T := TX8) (N := 27) hx hb htb wu_8 hown hK.1 hP 29 w_29 rfl 14 (by decide) (htb _ wFL_RX8_37) (fun _ h9 => h9) rfl dX8_layBest_92 ?_
                  refine lv_iload hx hb dX8_layBest_95 (lv_at hl 6 rfl) ?_
                  obtain ⟨v12, g12, h⟩ := ob h
                  refine r_ald hx hb hK hP 39 w_39 g12 dX8_layBest_97 ?_
                  refine lv_iconst (v := (1 : Int32)) hx hb dX8_layBest_98 (by decide) ?_
                  refine lv_iload hx hb dX8_layBest_99 (lv_at hl 5 rfl) ?_
                  refine lv_aload_n hx hb dX8_layBest_101 rfl (lv_at hl 0 rfl) ?_
                  refine va_get (D := D) (ci := 8) (v := .ref (ad 31)) (C := RX8) (T := TX8) (N := 27) hx hb htb wu_8 hown hK.1 hP 29 w_29 rfl 2 (by decide) (htb _ wFL_RX8_13) (fun _ h9 => h9) rfl dX8_layBest_102 ?_
                  refine lv_aload_n hx hb dX8_layBest_105 rfl (lv_at hl 0 rfl) ?_
                  refine va_get (D := D) (ci := 8) (v := .ref (ad 39)) (C := RX8) (T := TX8) (N := 27) hx hb htb wu_8 hown hK.1 hP 29 w_29 rfl 14 (by decide) (htb _ wFL_RX8_37) (fun _ h9 => h9) rfl dX8_layBest_106 ?_
                  refine lv_iload hx hb dX8_layBest_109 (lv_at hl 6 rfl) ?_
                  obtain ⟨v13, g13, h⟩ := ob h
                  refine r_ald hx hb hK hP 39 w_39 g13 dX8_layBest_111 ?_
                  obtain ⟨v14, g14, h⟩ := ob h
                  refine r_ald hx hb hK hP 31 w_31 g14 dX8_layBest_112 ?_
                  obtain ⟨c15, h⟩ := inz h
                  refine lv_irem hx hb dX8_layBest_113 c15 ?_
                  refine lv_iadd hx hb dX8_layBest_114 ?_
                  obtain ⟨τ16, g16, h⟩ := ob h
                  refine r_astM (A := AA ad) hx hb hK hd (fun _ hh => hh) hP hS 37 9 (by decide) (fun _ => rfl) g16 dX8_layBest_115 (fun H locs hP hS => ?_)
                  refine lv_iload hx hb dX8_layBest_116 (lv_at hl 5 rfl) ?_
                  refine lv_aload_n hx hb dX8_layBest_118 rfl (lv_at hl 0 rfl) ?_
                  refine va_get (D := D) (ci := 8) (v := .ref (ad 31)) (C := RX8) (T := TX8) (N := 27) hx hb htb wu_8 hown hK.1 hP 29 w_29 rfl 2 (by decide) (htb _ wFL_RX8_13) (fun _ h9 => h9) rfl dX8_layBest_119 ?_
                  refine lv_aload_n hx hb dX8_layBest_122 rfl (lv_at hl 0 rfl) ?_
                  refine va_get (D := D) (ci := 8) (v := .ref (ad 39)) (C := RX8) (T := TX8) (N := 27) hx hb htb wu_8 hown hK.1 hP 29 w_29 rfl 14 (by decide) (htb _ wFL_RX8_37) (fun _ h9 => h9) rfl dX8_layBest_123 ?_
                  refine lv_iload hx hb dX8_layBest_126 (lv_at hl 6 rfl) ?_
                  obtain ⟨v17, g17, h⟩ := ob h
                  refine r_ald hx hb hK hP 39 w_39 g17 dX8_layBest_128 ?_
                  obtain ⟨v18, g18, h⟩ := ob h
                  refine r_ald hx hb hK hP 31 w_31 g18 dX8_layBest_129 ?_
                  obtain ⟨c19, h⟩ := inz h
                  refine lv_idiv hx hb dX8_layBest_130 c19 ?_
                  refine lv_istore (lv' := [(6, .int (y4_6 / v18)), (0, .ref (ad 29)), (1, .int x1), (2, .long y3_2), (4, .int v4.1), (5, .int y3_5), (7, .int y4_7)]) hx hb dX8_layBest_131 hl (by decide) rfl (fun ls hl => ?_)
                  refine lv_iinc (v := (y4_7 + (-1 : Int32))) (lv' := [(7, .int (y4_7 + (-1 : Int32))), (6, .int (y4_6 / v18)), (0, .ref (ad 29)), (1, .int x1), (2, .long y3_2), (4, .int v4.1), (5, .int y3_5)]) hx hb dX8_layBest_133 hl (k := 6) rfl rfl (by decide) rfl (fun ls hl => ?_)
                  refine lv_goto (tgt := 82) hx hb dX8_layBest_136 (by decide) ?_
                  exact ih τ16 (y4_6 / v18) (y4_7 + (-1 : Int32)) _ _ _ h hP hS (lv_sub hl [2, 3, 4, 5, 6, 1, 0] rfl)
            exact L4 10000 τ_3 y3_5 (x1 - (1 : Int32)) _ _ _ hj10 hP hS (lv_sub hl [2, 3, 4, 5, 6, 1, 0] rfl)
      exact L3 10000 v1.2 (-1 : Int64) (0 : Int32) _ _ _ hj8 hP hS (lv_sub hl [1, 2, 3, 4, 0] rfl)
    have L2 : ∀ (n : Nat) (y2_4 : Int32) (y2_5 : Int32) (H : Heap) (locs : List Loc) (ls : Array Slot), X8_layBest_L2 n v1.2 x1 (-1 : Int64) y2_4 y2_5 = some v4 → WP D ad cI σ v1.2 η H → va_S (AA ad) s.heap H locs → lv_has ls 8 [(0, .ref (ad 29)), (1, .int x1), (2, .long (-1 : Int64)), (4, .int y2_4), (5, .int y2_5)] → W p l e rmX8_layBest s m args below meth c H locs 0 0 Q (F0 m 34 ls []) := by
      intro n
      induction n with
      | zero => intro y2_4 y2_5 H locs ls h; exact absurd h (by simp [X8_layBest_L2])
      | succ n ih =>
        intro y2_4 y2_5 H locs ls h hP hS hl
        replace h := (X8_layBest_L2_s n v1.2 x1 (-1 : Int64) y2_4 y2_5).symm.trans h
        refine lv_iload hx hb dX8_layBest_34 (lv_at hl 4 rfl) ?_
        refine lv_iload_n hx hb dX8_layBest_36 rfl (lv_at hl 1 rfl) ?_
        refine lv_icmp_ge (tgt := 63) hx hb dX8_layBest_37 (by decide) (fun c5 => ?_) (fun c5 => ?_)
        · replace h := ip c5 h
          obtain rfl := Option.some.inj h
          exact K2 _ _ _ hP hS (lv_sub hl [0, 1, 2, 3] rfl)
        · replace h := iq c5 h
          refine lv_iload hx hb dX8_layBest_40 (lv_at hl 3 rfl) ?_
          refine lv_aload_n hx hb dX8_layBest_42 rfl (lv_at hl 0 rfl) ?_
          refine va_get (D := D) (ci := 8) (v := .ref (ad 31)) (C := RX8) (T := TX8) (N := 27) hx hb htb wu_8 hown hK.1 hP 29 w_29 rfl 2 (by decide) (htb _ wFL_RX8_13) (fun _ h9 => h9) rfl dX8_layBest_43 ?_
          refine lv_aload_n hx hb dX8_layBest_46 rfl (lv_at hl 0 rfl) ?_
          refine va_get (D := D) (ci := 8) (v := .ref (ad 39)) (C := RX8) (T := TX8) (N := 27) hx hb htb wu_8 hown hK.1 hP 29 w_29 rfl 14 (by decide) (htb _ wFL_RX8_37) (fun _ h9 => h9) rfl dX8_layBest_47 ?_
          refine lv_iload hx hb dX8_layBest_50 (lv_at hl 4 rfl) ?_
          obtain ⟨v6, g6, h⟩ := ob h
          refine r_ald hx hb hK hP 39 w_39 g6 dX8_layBest_52 ?_
          obtain ⟨v7, g7, h⟩ := ob h
          refine r_ald hx hb hK hP 31 w_31 g7 dX8_layBest_53 ?_
          refine lv_imul hx hb dX8_layBest_54 ?_
          refine lv_istore (lv' := [(4, .int (y2_4 * v7)), (0, .ref (ad 29)), (1, .int x1), (2, .long (-1 : Int64)), (5, .int y2_5)]) hx hb dX8_layBest_55 hl (by decide) rfl (fun ls hl => ?_)
          refine lv_iinc (v := (y2_5 + (1 : Int32))) (lv' := [(5, .int (y2_5 + (1 : Int32))), (4, .int (y2_4 * v7)), (0, .ref (ad 29)), (1, .int x1), (2, .long (-1 : Int64))]) hx hb dX8_layBest_57 hl (k := 4) rfl rfl (by decide) rfl (fun ls hl => ?_)
          refine lv_goto (tgt := 34) hx hb dX8_layBest_60 (by decide) ?_
          exact ih (y2_4 * v7) (y2_5 + (1 : Int32)) _ _ _ h hP hS (lv_sub hl [2, 3, 4, 1, 0] rfl)
    exact L2 10000 (1 : Int32) (0 : Int32) _ _ _ hj4 hP hS (lv_sub hl [2, 3, 4, 1, 0] rfl)
  have L1 : ∀ (n : Nat) (τ_1 : St) (y1_4 : Int32) (H : Heap) (locs : List Loc) (ls : Array Slot), X8_layBest_L1 n τ_1 x1 (-1 : Int64) y1_4 = some v1 → WP D ad cI σ τ_1 η H → va_S (AA ad) s.heap H locs → lv_has ls 8 [(0, .ref (ad 29)), (1, .int x1), (2, .long (-1 : Int64)), (4, .int y1_4)] → W p l e rmX8_layBest s m args below meth c H locs 0 0 Q (F0 m 7 ls []) := by
    intro n
    induction n with
    | zero => intro τ_1 y1_4 H locs ls h; exact absurd h (by simp [X8_layBest_L1])
    | succ n ih =>
      intro τ_1 y1_4 H locs ls h hP hS hl
      replace h := (X8_layBest_L1_s n τ_1 x1 (-1 : Int64) y1_4).symm.trans h
      refine lv_iload hx hb dX8_layBest_7 (lv_at hl 3 rfl) ?_
      refine lv_bipush (v := (9 : Int32)) hx hb dX8_layBest_9 (by decide) ?_
      refine lv_icmp_ge (tgt := 28) hx hb dX8_layBest_11 (by decide) (fun c2 => ?_) (fun c2 => ?_)
      · replace h := ip c2 h
        obtain rfl := Option.some.inj h
        exact K1 _ _ _ hP hS (lv_sub hl [0, 1, 2] rfl)
      · replace h := iq c2 h
        refine lv_aload_n hx hb dX8_layBest_14 rfl (lv_at hl 0 rfl) ?_
        refine va_get (D := D) (ci := 8) (v := .ref (ad 37)) (C := RX8) (T := TX8) (N := 27) hx hb htb wu_8 hown hK.1 hP 29 w_29 rfl 12 (by decide) (htb _ wFL_RX8_31) (fun _ h9 => h9) rfl dX8_layBest_15 ?_
        refine lv_iload hx hb dX8_layBest_18 (lv_at hl 3 rfl) ?_
        refine lv_iconst (v := (0 : Int32)) hx hb dX8_layBest_20 (by decide) ?_
        obtain ⟨τ3, g3, h⟩ := ob h
        refine r_astM (A := AA ad) hx hb hK hd (fun _ hh => hh) hP hS 37 9 (by decide) (fun _ => rfl) g3 dX8_layBest_21 (fun H locs hP hS => ?_)
        refine lv_iinc (v := (y1_4 + (1 : Int32))) (lv' := [(4, .int (y1_4 + (1 : Int32))), (0, .ref (ad 29)), (1, .int x1), (2, .long (-1 : Int64))]) hx hb dX8_layBest_22 hl (k := 3) rfl rfl (by decide) rfl (fun ls hl => ?_)
        refine lv_goto (tgt := 7) hx hb dX8_layBest_25 (by decide) ?_
        exact ih τ3 (y1_4 + (1 : Int32)) _ _ _ h hP hS (lv_sub hl [1, 2, 3, 0] rfl)
  exact L1 10000 τ (0 : Int32) _ _ _ hj1 hP hS (lv_sub hl [2, 3, 1, 0] rfl)
def X8_best (τ : St) (x1 : Int32) : Option (Int64 × St) :=
  lt (X8_isPart  x1) fun v1 =>
  if v1 = 0 then (
    lt (X8_in  ((x1).toInt64) (10 : Int64) (18 : Int64)) fun v15 =>
    if v15 = 0 then (
      some ((-102 : Int64), τ))
    else (
      bd (X8_neededMany τ ) fun v17 =>
      if (4 : Int32) < v17.1 then (
        some ((-103 : Int64), v17.2))
      else (
        if (v17.2 29 11) = (40 : Int32) then (
          some ((-103 : Int64), v17.2))
        else (
          lt (s2 v17.2 29 11 ((v17.2 29 11) + (1 : Int32))) fun τ20 =>
          bd (X8_layBest τ20 v17.1) fun v21 =>
          if (2 : Int32) ≤ x1 then (
            lt (X8_isGuest v21.2 (x1 - (10 : Int32))) fun v23 =>
            if v23 = 0 then (
              some ((-1 : Int64), v21.2))
            else (
              bd (rd (v21.2 38) 9 (x1 - (10 : Int32))) fun v25 =>
              some (((v25).toInt64), v21.2)))
          else (
            bd (X8_whole v21.2 ) fun v26 =>
            bd (X8_whole v21.2 ) fun v27 =>
            bd (X8_term  (v26 - v21.1) v27 x1) fun v28 =>
            some (v28, v21.2))))))
  else (
    bd (X8_neededMany τ ) fun v3 =>
    if (4 : Int32) < v3.1 then (
      some ((-103 : Int64), v3.2))
    else (
      if (v3.2 29 11) = (40 : Int32) then (
        some ((-103 : Int64), v3.2))
      else (
        lt (s2 v3.2 29 11 ((v3.2 29 11) + (1 : Int32))) fun τ6 =>
        bd (X8_layBest τ6 v3.1) fun v7 =>
        if (2 : Int32) ≤ x1 then (
          lt (X8_isGuest v7.2 (x1 - (10 : Int32))) fun v9 =>
          if v9 = 0 then (
            some ((-1 : Int64), v7.2))
          else (
            bd (rd (v7.2 38) 9 (x1 - (10 : Int32))) fun v11 =>
            some (((v11).toInt64), v7.2)))
        else (
          bd (X8_whole v7.2 ) fun v12 =>
          bd (X8_whole v7.2 ) fun v13 =>
          bd (X8_term  (v12 - v7.1) v13 x1) fun v14 =>
          some (v14, v7.2)))))
abbrev rmX8_best : Room := { frames := 3, cells := 0, slots := 0, locals := 75 }
set_option maxHeartbeats 4000000 in
set_option maxRecDepth 100000 in
theorem c_X8_best (l : Launch) (D : va_G) (ad : Nat → Nat) (cI : ClassId) (hd : HD ad) (σ τ : St) (η : Int64) (x1 : Int32) (rr : Int64 × St) (h : X8_best τ x1 = some rr) : ML l yX8_best (wy yX8_best cX8_best 5 (some .long)) rmX8_best D ad cI [.ref (ad 29), .int x1] σ τ η rr.1 σ rr.2 η := by
  refine mk_l (own := RX8) (lv := [(0, .ref (ad 29)), (1, .int x1)]) (plainFor_of_name (by decide)) rfl (Nat.le_of_ble_eq_true rfl) rfl ?_
  intro p e s m args below meth c Q ls hx hb hml hown htb hK ret hP hS hl
  unfold X8_best at h
  refine lv_iload_n hx hb dX8_best_0 rfl (lv_at hl 1 rfl) ?_
  obtain ⟨v1, g1, h⟩ := ol h
  refine c_Sz (As := [.int x1]) (rest := []) (A := AA ad) ⟨hx, hb, hml, hown, htb⟩ (c_X8_isPart l D ad cI hd σ τ η x1 v1 g1) (va_cwS 1 htb (gdS (fun _ hh => hh) wML_RX8_137 wST_yX8_isPart wI_RX8 wC_yX8_isPart) rfl rfl rfl hd_X8_isPart.2 ⟨by decide, by decide⟩) hK hP (fun _ hh => hh) hS rfl hl.1 rfl (Nat.le_of_ble_eq_true rfl) dX8_best_1 ⟨Nat.le_refl 0, Nat.le_refl 0⟩ (fun H locs hz1 hP hS => ?_)
  refine lv_if_ne (tgt := 25) hx hb dX8_best_4 (by decide) (fun c2 => ?_) (fun c2 => ?_)
  · replace h := iq c2 h
    refine lv_aload_n hx hb dX8_best_25 rfl (lv_at hl 0 rfl) ?_
    obtain ⟨v3, g3, h⟩ := ob h
    refine c_Vi (q := (RX8, TX8, 27)) (ci := 8) (b := 29) (As := []) (rest := []) (A := AA ad) ⟨hx, hb, hml, hown, htb⟩ (c_X8_neededMany l D ad cI hd σ τ η  v3 g3) (cwV 0 htb (gdV (fun _ hh => hh) wML_RX8_158 wIM_yX8_neededMany wSE_yX8_neededMany wI_RX8 wC_yX8_neededMany) rfl rfl rfl hd_X8_neededMany ⟨by decide, by decide⟩) hK hP rfl w_29 (fun _ hh => hh) hS rfl hl.1 rfl (Nat.le_of_ble_eq_true rfl) dX8_best_26 ⟨Nat.le_refl 0, Nat.le_refl 0⟩ (fun H locs hP hS => ?_)
    refine lv_istore_n (lv' := [(2, .int v3.1), (0, .ref (ad 29)), (1, .int x1)]) hx hb dX8_best_29 rfl hl (by decide) rfl (fun ls hl => ?_)
    refine lv_iload_n hx hb dX8_best_30 rfl (lv_at hl 0 rfl) ?_
    refine lv_iconst (v := (4 : Int32)) hx hb dX8_best_31 (by decide) ?_
    refine lv_icmp_gt (tgt := 44) hx hb dX8_best_32 (by decide) (fun c4 => ?_) (fun c4 => ?_)
    · replace h := ip c4 h
      refine lv_ldc2 (v := (-103 : Int64)) hx hb hown (htb _ wKL_RX8_164) dX8_best_44 ?_
      obtain rfl := Option.some.inj h
      exact ret _ _ _ _ _ dX8_best_47 hP hS rfl
    · replace h := iq c4 h
      refine lv_aload_n hx hb dX8_best_35 rfl (lv_at hl 1 rfl) ?_
      refine va_get (D := D) (ci := 8) (v := .int (v3.2 29 11)) (C := RX8) (T := TX8) (N := 27) hx hb htb wu_8 hown hK.1 hP 29 w_29 rfl 11 (by decide) (htb _ wFL_RX8_161) (fun _ h9 => h9) rfl dX8_best_36 ?_
      refine lv_bipush (v := (40 : Int32)) hx hb dX8_best_39 (by decide) ?_
      refine lv_icmp_ne (tgt := 48) hx hb dX8_best_41 (by decide) (fun c5 => ?_) (fun c5 => ?_)
      · replace h := iq c5 h
        refine lv_aload_n hx hb dX8_best_48 rfl (lv_at hl 1 rfl) ?_
        refine lv_dup hx hb dX8_best_49 rfl ?_
        refine va_get (D := D) (ci := 8) (v := .int (v3.2 29 11)) (C := RX8) (T := TX8) (N := 27) hx hb htb wu_8 hown hK.1 hP 29 w_29 rfl 11 (by decide) (htb _ wFL_RX8_161) (fun _ h9 => h9) rfl dX8_best_50 ?_
        refine lv_iconst (v := (1 : Int32)) hx hb dX8_best_53 (by decide) ?_
        refine lv_iadd hx hb dX8_best_54 ?_
        obtain ⟨τ6, g6, h⟩ := ol h
        refine r_putM (ci := 8) (C := RX8) (T := TX8) (N := 27) (A := AA ad) hx hb htb wu_8 tyX8 tyX8_ok nmX8 hown hK hd (fun _ hh => hh) hP hS 11 rfl rfl rfl (by decide) (htb _ wFL_RX8_161) rfl rfl (by decide +kernel) (Nat.le_of_ble_eq_true rfl) dX8_best_55 (fun H locs hP hS => ?_)
        rw [g6] at hP
        refine lv_aload_n hx hb dX8_best_58 rfl (lv_at hl 1 rfl) ?_
        refine lv_iload_n hx hb dX8_best_59 rfl (lv_at hl 0 rfl) ?_
        obtain ⟨v7, g7, h⟩ := ob h
        refine c_Vl (q := (RX8, TX8, 27)) (ci := 8) (b := 29) (As := [.int v3.1]) (rest := []) (A := AA ad) ⟨hx, hb, hml, hown, htb⟩ (c_X8_layBest l D ad cI hd σ τ6 η v3.1 v7 g7) (cwV 1 htb (gdV (fun _ hh => hh) wML_RX8_166 wIM_yX8_layBest wSE_yX8_layBest wI_RX8 wC_yX8_layBest) rfl rfl rfl hd_X8_layBest ⟨by decide, by decide⟩) hK hP rfl w_29 (fun _ hh => hh) hS rfl hl.1 rfl (Nat.le_of_ble_eq_true rfl) dX8_best_60 ⟨Nat.le_refl 0, Nat.le_refl 0⟩ (fun H locs hP hS => ?_)
        refine lv_lstore_n (lv' := [(3, .long v7.1), (2, .int v3.1), (0, .ref (ad 29)), (1, .int x1)]) hx hb dX8_best_63 rfl hl (by decide) rfl (fun ls hl => ?_)
        refine lv_iload_n hx hb dX8_best_64 rfl (lv_at hl 3 rfl) ?_
        refine lv_iconst (v := (2 : Int32)) hx hb dX8_best_65 (by decide) ?_
        refine lv_icmp_ge (tgt := 84) hx hb dX8_best_66 (by decide) (fun c8 => ?_) (fun c8 => ?_)
        · replace h := ip c8 h
          refine lv_aload_n hx hb dX8_best_84 rfl (lv_at hl 2 rfl) ?_
          refine lv_iload_n hx hb dX8_best_85 rfl (lv_at hl 3 rfl) ?_
          refine lv_bipush (v := (10 : Int32)) hx hb dX8_best_86 (by decide) ?_
          refine lv_isub hx hb dX8_best_88 ?_
          obtain ⟨v9, g9, h⟩ := ol h
          refine c_Vz (q := (RX8, TX8, 27)) (ci := 8) (b := 29) (As := [.int (x1 - (10 : Int32))]) (rest := []) (A := AA ad) ⟨hx, hb, hml, hown, htb⟩ (c_X8_isGuest l D ad cI hd σ v7.2 η (x1 - (10 : Int32)) v9 g9) (cwV 1 htb (gdV (fun _ hh => hh) wML_RX8_88 wIM_yX8_isGuest wSE_yX8_isGuest wI_RX8 wC_yX8_isGuest) rfl rfl rfl hd_X8_isGuest ⟨by decide, by decide⟩) hK hP rfl w_29 (fun _ hh => hh) hS rfl hl.1 rfl (Nat.le_of_ble_eq_true rfl) dX8_best_89 ⟨Nat.le_refl 0, Nat.le_refl 0⟩ (fun H locs hz9 hP hS => ?_)
          refine lv_if_eq (tgt := 108) hx hb dX8_best_92 (by decide) (fun c10 => ?_) (fun c10 => ?_)
          · replace h := ip c10 h
            refine lv_ldc2 (v := (-1 : Int64)) hx hb hown (htb _ wKL_RX8_148) dX8_best_108 ?_
            obtain rfl := Option.some.inj h
            exact ret _ _ _ _ _ dX8_best_111 hP hS rfl
          · replace h := iq c10 h
            refine lv_aload_n hx hb dX8_best_95 rfl (lv_at hl 2 rfl) ?_
            refine va_get (D := D) (ci := 8) (v := .ref (ad 38)) (C := RX8) (T := TX8) (N := 27) hx hb htb wu_8 hown hK.1 hP 29 w_29 rfl 13 (by decide) (htb _ wFL_RX8_34) (fun _ h9 => h9) rfl dX8_best_96 ?_
            refine lv_iload_n hx hb dX8_best_99 rfl (lv_at hl 3 rfl) ?_
            refine lv_bipush (v := (10 : Int32)) hx hb dX8_best_100 (by decide) ?_
            refine lv_isub hx hb dX8_best_102 ?_
            obtain ⟨v11, g11, h⟩ := ob h
            refine r_ald hx hb hK hP 38 w_38 g11 dX8_best_103 ?_
            refine lv_i2l (v := ((v11).toInt64)) hx hb dX8_best_104 rfl ?_
            refine lv_goto (tgt := 111) hx hb dX8_best_105 (by decide) ?_
            obtain rfl := Option.some.inj h
            exact ret _ _ _ _ _ dX8_best_111 hP hS rfl
        · replace h := iq c8 h
          refine lv_aload_n hx hb dX8_best_69 rfl (lv_at hl 2 rfl) ?_
          obtain ⟨v12, g12, h⟩ := ob h
          refine c_Vl (q := (RX8, TX8, 27)) (ci := 8) (b := 29) (As := []) (rest := []) (A := AA ad) ⟨hx, hb, hml, hown, htb⟩ (c_X8_whole l D ad cI hd σ v7.2 η  v12 g12) (cwV 0 htb (gdV (fun _ hh => hh) wML_RX8_126 wIM_yX8_whole wSE_yX8_whole wI_RX8 wC_yX8_whole) rfl rfl rfl hd_X8_whole ⟨by decide, by decide⟩) hK hP rfl w_29 (fun _ hh => hh) hS rfl hl.1 rfl (Nat.le_of_ble_eq_true rfl) dX8_best_70 ⟨Nat.le_refl 0, Nat.le_refl 0⟩ (fun H locs hP hS => ?_)
          refine lv_lload_n hx hb dX8_best_73 rfl (lv_at hl 0 rfl) ?_
          refine lv_lsub hx hb dX8_best_74 ?_
          refine lv_aload_n hx hb dX8_best_75 rfl (lv_at hl 2 rfl) ?_
          obtain ⟨v13, g13, h⟩ := ob h
          refine c_Vl (q := (RX8, TX8, 27)) (ci := 8) (b := 29) (As := []) (rest := [.long (v12 - v7.1)]) (A := AA ad) ⟨hx, hb, hml, hown, htb⟩ (c_X8_whole l D ad cI hd σ v7.2 η  v13 g13) (cwV 0 htb (gdV (fun _ hh => hh) wML_RX8_126 wIM_yX8_whole wSE_yX8_whole wI_RX8 wC_yX8_whole) rfl rfl rfl hd_X8_whole ⟨by decide, by decide⟩) hK hP rfl w_29 (fun _ hh => hh) hS rfl hl.1 rfl (Nat.le_of_ble_eq_true rfl) dX8_best_76 ⟨Nat.le_refl 0, Nat.le_refl 0⟩ (fun H locs hP hS => ?_)
          refine lv_iload_n hx hb dX8_best_79 rfl (lv_at hl 3 rfl) ?_
          obtain ⟨v14, g14, h⟩ := ob h
          refine c_Sl (As := [.long (v12 - v7.1), .long v13, .int x1]) (rest := []) (A := AA ad) ⟨hx, hb, hml, hown, htb⟩ (c_X8_term l D ad cI hd σ v7.2 η (v12 - v7.1) v13 x1 v14 g14) (va_cwS 3 htb (gdS (fun _ hh => hh) wML_RX8_133 wST_yX8_term wI_RX8 wC_yX8_term) rfl rfl rfl hd_X8_term.2 ⟨by decide, by decide⟩) hK hP (fun _ hh => hh) hS rfl hl.1 rfl (Nat.le_of_ble_eq_true rfl) dX8_best_80 ⟨Nat.le_refl 0, Nat.le_refl 0⟩ (fun H locs hP hS => ?_)
          obtain rfl := Option.some.inj h
          exact ret _ _ _ _ _ dX8_best_83 hP hS rfl
      · replace h := ip c5 h
        refine lv_ldc2 (v := (-103 : Int64)) hx hb hown (htb _ wKL_RX8_164) dX8_best_44 ?_
        obtain rfl := Option.some.inj h
        exact ret _ _ _ _ _ dX8_best_47 hP hS rfl
  · replace h := ip c2 h
    refine lv_iload_n hx hb dX8_best_7 rfl (lv_at hl 1 rfl) ?_
    refine lv_i2l (v := ((x1).toInt64)) hx hb dX8_best_8 rfl ?_
    refine lv_ldc2 (v := (10 : Int64)) hx hb hown (htb _ wKL_RX8_124) dX8_best_9 ?_
    refine lv_ldc2 (v := (18 : Int64)) hx hb hown (htb _ wKL_RX8_156) dX8_best_12 ?_
    obtain ⟨v15, g15, h⟩ := ol h
    refine c_Sz (As := [.long ((x1).toInt64), .long (10 : Int64), .long (18 : Int64)]) (rest := []) (A := AA ad) ⟨hx, hb, hml, hown, htb⟩ (c_X8_in l D ad cI hd σ τ η ((x1).toInt64) (10 : Int64) (18 : Int64) v15 g15) (va_cwS 3 htb (gdS (fun _ hh => hh) wML_RX8_65 wST_yX8_in wI_RX8 wC_yX8_in) rfl rfl rfl hd_X8_in.2 ⟨by decide, by decide⟩) hK hP (fun _ hh => hh) hS rfl hl.1 rfl (Nat.le_of_ble_eq_true rfl) dX8_best_15 ⟨Nat.le_refl 0, Nat.le_refl 0⟩ (fun H locs hz15 hP hS => ?_)
    refine lv_if_ne (tgt := 25) hx hb dX8_best_18 (by decide) (fun c16 => ?_) (fun c16 => ?_)
    · replace h := iq c16 h
      refine lv_aload_n hx hb dX8_best_25 rfl (lv_at hl 0 rfl) ?_
      obtain ⟨v17, g17, h⟩ := ob h
      refine c_Vi (q := (RX8, TX8, 27)) (ci := 8) (b := 29) (As := []) (rest := []) (A := AA ad) ⟨hx, hb, hml, hown, htb⟩ (c_X8_neededMany l D ad cI hd σ τ η  v17 g17) (cwV 0 htb (gdV (fun _ hh => hh) wML_RX8_158 wIM_yX8_neededMany wSE_yX8_neededMany wI_RX8 wC_yX8_neededMany) rfl rfl rfl hd_X8_neededMany ⟨by decide, by decide⟩) hK hP rfl w_29 (fun _ hh => hh) hS rfl hl.1 rfl (Nat.le_of_ble_eq_true rfl) dX8_best_26 ⟨Nat.le_refl 0, Nat.le_refl 0⟩ (fun H locs hP hS => ?_)
      refine lv_istore_n (lv' := [(2, .int v17.1), (0, .ref (ad 29)), (1, .int x1)]) hx hb dX8_best_29 rfl hl (by decide) rfl (fun ls hl => ?_)
      refine lv_iload_n hx hb dX8_best_30 rfl (lv_at hl 0 rfl) ?_
      refine lv_iconst (v := (4 : Int32)) hx hb dX8_best_31 (by decide) ?_
      refine lv_icmp_gt (tgt := 44) hx hb dX8_best_32 (by decide) (fun c18 => ?_) (fun c18 => ?_)
      · replace h := ip c18 h
        refine lv_ldc2 (v := (-103 : Int64)) hx hb hown (htb _ wKL_RX8_164) dX8_best_44 ?_
        obtain rfl := Option.some.inj h
        exact ret _ _ _ _ _ dX8_best_47 hP hS rfl
      · replace h := iq c18 h
        refine lv_aload_n hx hb dX8_best_35 rfl (lv_at hl 1 rfl) ?_
        refine va_get (D := D) (ci := 8) (v := .int (v17.2 29 11)) (C := RX8) (T := TX8) (N := 27) hx hb htb wu_8 hown hK.1 hP 29 w_29 rfl 11 (by decide) (htb _ wFL_RX8_161) (fun _ h9 => h9) rfl dX8_best_36 ?_
        refine lv_bipush (v := (40 : Int32)) hx hb dX8_best_39 (by decide) ?_
        refine lv_icmp_ne (tgt := 48) hx hb dX8_best_41 (by decide) (fun c19 => ?_) (fun c19 => ?_)
        · replace h := iq c19 h
          refine lv_aload_n hx hb dX8_best_48 rfl (lv_at hl 1 rfl) ?_
          refine lv_dup hx hb dX8_best_49 rfl ?_
          refine va_get (D := D) (ci := 8) (v := .int (v17.2 29 11)) (C := RX8) (T := TX8) (N := 27) hx hb htb wu_8 hown hK.1 hP 29 w_29 rfl 11 (by decide) (htb _ wFL_RX8_161) (fun _ h9 => h9) rfl dX8_best_50 ?_
          refine lv_iconst (v := (1 : Int32)) hx hb dX8_best_53 (by decide) ?_
          refine lv_iadd hx hb dX8_best_54 ?_
          obtain ⟨τ20, g20, h⟩ := ol h
          refine r_putM (ci := 8) (C := RX8) (T := TX8) (N := 27) (A := AA ad) hx hb htb wu_8 tyX8 tyX8_ok nmX8 hown hK hd (fun _ hh => hh) hP hS 11 rfl rfl rfl (by decide) (htb _ wFL_RX8_161) rfl rfl (by decide +kernel) (Nat.le_of_ble_eq_true rfl) dX8_best_55 (fun H locs hP hS => ?_)
          rw [g20] at hP
          refine lv_aload_n hx hb dX8_best_58 rfl (lv_at hl 1 rfl) ?_
          refine lv_iload_n hx hb dX8_best_59 rfl (lv_at hl 0 rfl) ?_
          obtain ⟨v21, g21, h⟩ := ob h
          refine c_Vl (q := (RX8, TX8, 27)) (ci := 8) (b := 29) (As := [.int v17.1]) (rest := []) (A := AA ad) ⟨hx, hb, hml, hown, htb⟩ (c_X8_layBest l D ad cI hd σ τ20 η v17.1 v21 g21) (cwV 1 htb (gdV (fun _ hh => hh) wML_RX8_166 wIM_yX8_layBest wSE_yX8_layBest wI_RX8 wC_yX8_layBest) rfl rfl rfl hd_X8_layBest ⟨by decide, by decide⟩) hK hP rfl w_29 (fun _ hh => hh) hS rfl hl.1 rfl (Nat.le_of_ble_eq_true rfl) dX8_best_60 ⟨Nat.le_refl 0, Nat.le_refl 0⟩ (fun H locs hP hS => ?_)
          refine lv_lstore_n (lv' := [(3, .long v21.1), (2, .int v17.1), (0, .ref (ad 29)), (1, .int x1)]) hx hb dX8_best_63 rfl hl (by decide) rfl (fun ls hl => ?_)
          refine lv_iload_n hx hb dX8_best_64 rfl (lv_at hl 3 rfl) ?_
          refine lv_iconst (v := (2 : Int32)) hx hb dX8_best_65 (by decide) ?_
          refine lv_icmp_ge (tgt := 84) hx hb dX8_best_66 (by decide) (fun c22 => ?_) (fun c22 => ?_)
          · replace h := ip c22 h
            refine lv_aload_n hx hb dX8_best_84 rfl (lv_at hl 2 rfl) ?_
            refine lv_iload_n hx hb dX8_best_85 rfl (lv_at hl 3 rfl) ?_
            refine lv_bipush (v := (10 : Int32)) hx hb dX8_best_86 (by decide) ?_
            refine lv_isub hx hb dX8_best_88 ?_
            obtain ⟨v23, g23, h⟩ := ol h
            refine c_Vz (q := (RX8, TX8, 27)) (ci := 8) (b := 29) (As := [.int (x1 - (10 : Int32))]) (rest := []) (A := AA ad) ⟨hx, hb, hml, hown, htb⟩ (c_X8_isGuest l D ad cI hd σ v21.2 η (x1 - (10 : Int32)) v23 g23) (cwV 1 htb (gdV (fun _ hh => hh) wML_RX8_88 wIM_yX8_isGuest wSE_yX8_isGuest wI_RX8 wC_yX8_isGuest) rfl rfl rfl hd_X8_isGuest ⟨by decide, by decide⟩) hK hP rfl w_29 (fun _ hh => hh) hS rfl hl.1 rfl (Nat.le_of_ble_eq_true rfl) dX8_best_89 ⟨Nat.le_refl 0, Nat.le_refl 0⟩ (fun H locs hz23 hP hS => ?_)
            refine lv_if_eq (tgt := 108) hx hb dX8_best_92 (by decide) (fun c24 => ?_) (fun c24 => ?_)
            · replace h := ip c24 h
              refine lv_ldc2 (v := (-1 : Int64)) hx hb hown (htb _ wKL_RX8_148) dX8_best_108 ?_
              obtain rfl := Option.some.inj h
              exact ret _ _ _ _ _ dX8_best_111 hP hS rfl
            · replace h := iq c24 h
              refine lv_aload_n hx hb dX8_best_95 rfl (lv_at hl 2 rfl) ?_
              refine va_get (D := D) (ci := 8) (v := .ref (ad 38)) (C := RX8) (T := TX8) (N := 27) hx hb htb wu_8 hown hK.1 hP 29 w_29 rfl 13 (by decide) (htb _ wFL_RX8_34) (fun _ h9 => h9) rfl dX8_best_96 ?_
              refine lv_iload_n hx hb dX8_best_99 rfl (lv_at hl 3 rfl) ?_
              refine lv_bipush (v := (10 : Int32)) hx hb dX8_best_100 (by decide) ?_
              refine lv_isub hx hb dX8_best_102 ?_
              obtain ⟨v25, g25, h⟩ := ob h
              refine r_ald hx hb hK hP 38 w_38 g25 dX8_best_103 ?_
              refine lv_i2l (v := ((v25).toInt64)) hx hb dX8_best_104 rfl ?_
              refine lv_goto (tgt := 111) hx hb dX8_best_105 (by decide) ?_
              obtain rfl := Option.some.inj h
              exact ret _ _ _ _ _ dX8_best_111 hP hS rfl
          · replace h := iq c22 h
            refine lv_aload_n hx hb dX8_best_69 rfl (lv_at hl 2 rfl) ?_
            obtain ⟨v26, g26, h⟩ := ob h
            refine c_Vl (q := (RX8, TX8, 27)) (ci := 8) (b := 29) (As := []) (rest := []) (A := AA ad) ⟨hx, hb, hml, hown, htb⟩ (c_X8_whole l D ad cI hd σ v21.2 η  v26 g26) (cwV 0 htb (gdV (fun _ hh => hh) wML_RX8_126 wIM_yX8_whole wSE_yX8_whole wI_RX8 wC_yX8_whole) rfl rfl rfl hd_X8_whole ⟨by decide, by decide⟩) hK hP rfl w_29 (fun _ hh => hh) hS rfl hl.1 rfl (Nat.le_of_ble_eq_true rfl) dX8_best_70 ⟨Nat.le_refl 0, Nat.le_refl 0⟩ (fun H locs hP hS => ?_)
            refine lv_lload_n hx hb dX8_best_73 rfl (lv_at hl 0 rfl) ?_
            refine lv_lsub hx hb dX8_best_74 ?_
            refine lv_aload_n hx hb dX8_best_75 rfl (lv_at hl 2 rfl) ?_
            obtain ⟨v27, g27, h⟩ := ob h
            refine c_Vl (q := (RX8, TX8, 27)) (ci := 8) (b := 29) (As := []) (rest := [.long (v26 - v21.1)]) (A := AA ad) ⟨hx, hb, hml, hown, htb⟩ (c_X8_whole l D ad cI hd σ v21.2 η  v27 g27) (cwV 0 htb (gdV (fun _ hh => hh) wML_RX8_126 wIM_yX8_whole wSE_yX8_whole wI_RX8 wC_yX8_whole) rfl rfl rfl hd_X8_whole ⟨by decide, by decide⟩) hK hP rfl w_29 (fun _ hh => hh) hS rfl hl.1 rfl (Nat.le_of_ble_eq_true rfl) dX8_best_76 ⟨Nat.le_refl 0, Nat.le_refl 0⟩ (fun H locs hP hS => ?_)
            refine lv_iload_n hx hb dX8_best_79 rfl (lv_at hl 3 rfl) ?_
            obtain ⟨v28, g28, h⟩ := ob h
            refine c_Sl (As := [.long (v26 - v21.1), .long v27, .int x1]) (rest := []) (A := AA ad) ⟨hx, hb, hml, hown, htb⟩ (c_X8_term l D ad cI hd σ v21.2 η (v26 - v21.1) v27 x1 v28 g28) (va_cwS 3 htb (gdS (fun _ hh => hh) wML_RX8_133 wST_yX8_term wI_RX8 wC_yX8_term) rfl rfl rfl hd_X8_term.2 ⟨by decide, by decide⟩) hK hP (fun _ hh => hh) hS rfl hl.1 rfl (Nat.le_of_ble_eq_true rfl) dX8_best_80 ⟨Nat.le_refl 0, Nat.le_refl 0⟩ (fun H locs hP hS => ?_)
            obtain rfl := Option.some.inj h
            exact ret _ _ _ _ _ dX8_best_83 hP hS rfl
        · replace h := ip c19 h
          refine lv_ldc2 (v := (-103 : Int64)) hx hb hown (htb _ wKL_RX8_164) dX8_best_44 ?_
          obtain rfl := Option.some.inj h
          exact ret _ _ _ _ _ dX8_best_47 hP hS rfl
    · replace h := ip c16 h
      refine lv_ldc2 (v := (-102 : Int64)) hx hb hown (htb _ wKL_RX8_144) dX8_best_21 ?_
      obtain rfl := Option.some.inj h
      exact ret _ _ _ _ _ dX8_best_24 hP hS rfl
def X7_hole_L1 (n : Nat) (σ_1 : St) (y1_1 : Int64) (y1_3 : Int32) (y1_4 : Int32) : Option (Int64 × Int32 × Int32 × St) := match n with
  | 0 => none
  | n + 1 =>
    lt (X0_size σ_1 ) fun v3 =>
    if v3 ≤ y1_4 then (
      some (y1_1, y1_3, y1_4, σ_1))
    else (
      bd (X0_toldOf σ_1 y1_4) fun v5 =>
      bd ((
          if v5 = 0 then (
            some (y1_1, y1_3, σ_1))
          else (
            bd (X0_copyTold σ_1 ) fun v8 =>
            bd (wa v8 26 9 y1_4 (0 : Int32)) fun σ9 =>
            bd (X7_planWays σ9 ) fun v10 =>
            if v10.1 ≤ y1_1 then (
              some (y1_1, y1_3, v10.2))
            else (
              some (v10.1, y1_4, v10.2)))) : Option (Int64 × Int32 × St)) fun v7 =>
      X7_hole_L1 n v7.2.2 v7.1 v7.2.1 (y1_4 + (1 : Int32)))
theorem X7_hole_L1_s (n : Nat) (σ_1 : St) (y1_1 : Int64) (y1_3 : Int32) (y1_4 : Int32) : X7_hole_L1 (n + 1) σ_1 y1_1 y1_3 y1_4 =
    lt (X0_size σ_1 ) fun v3 =>
    if v3 ≤ y1_4 then (
      some (y1_1, y1_3, y1_4, σ_1))
    else (
      bd (X0_toldOf σ_1 y1_4) fun v5 =>
      bd ((
          if v5 = 0 then (
            some (y1_1, y1_3, σ_1))
          else (
            bd (X0_copyTold σ_1 ) fun v8 =>
            bd (wa v8 26 9 y1_4 (0 : Int32)) fun σ9 =>
            bd (X7_planWays σ9 ) fun v10 =>
            if v10.1 ≤ y1_1 then (
              some (y1_1, y1_3, v10.2))
            else (
              some (v10.1, y1_4, v10.2)))) : Option (Int64 × Int32 × St)) fun v7 =>
      X7_hole_L1 n v7.2.2 v7.1 v7.2.1 (y1_4 + (1 : Int32))) := rfl
def X7_hole (σ : St)  : Option (Int32 × St) :=
  bd (X2_silentWays σ ) fun v1 =>
  bd (X7_hole_L1 10000 σ v1 (-1 : Int32) (0 : Int32)) fun v2 =>
  some (v2.2.1, v2.2.2.2)
abbrev rmX7_hole : Room := { frames := 4, cells := 0, slots := 0, locals := 91 }
set_option maxHeartbeats 4000000 in
set_option maxRecDepth 100000 in
theorem c_X7_hole (l : Launch) (D : va_G) (ad : Nat → Nat) (cI : ClassId) (hd : HD ad) (σ τ : St) (η : Int64)  (rr : Int32 × St) (h : X7_hole σ  = some rr) : MI l yX7_hole (wy yX7_hole cX7_hole 7 (some .int)) rmX7_hole D ad cI [.ref (ad 0)] σ τ η rr.1 rr.2 τ η := by
  refine mk_i (own := RX7) (lv := [(0, .ref (ad 0))]) (plainFor_of_name (by decide)) rfl (Nat.le_of_ble_eq_true rfl) rfl ?_
  intro p e s m args below meth c Q ls hx hb hml hown htb hK ret hP hS hl
  unfold X7_hole at h
  refine lv_aload_n hx hb dX7_hole_0 rfl (lv_at hl 0 rfl) ?_
  refine va_get (D := D) (ci := 7) (v := .ref (ad 10)) (C := RX7) (T := TX7) (N := 11) hx hb htb wu_7 hown hK.1 hP 0 w_0 rfl 3 (by decide) (htb _ wFL_RX7_33) (fun _ h9 => h9) rfl dX7_hole_1 ?_
  refine lv_aload_n hx hb dX7_hole_4 rfl (lv_at hl 0 rfl) ?_
  refine va_get (D := D) (ci := 7) (v := .ref (ad 6)) (C := RX7) (T := TX7) (N := 11) hx hb htb wu_7 hown hK.1 hP 0 w_0 rfl 1 (by decide) (htb _ wFL_RX7_19) (fun _ h9 => h9) rfl dX7_hole_5 ?_
  obtain ⟨v1, g1, h⟩ := ob h
  refine c_Vl (q := (RX2, TX2, 5)) (ci := 2) (b := 10) (As := [.ref (ad 6)]) (rest := []) (A := AA ad) ⟨hx, hb, hml, hown, htb⟩ (c_X2_silentWays l D ad cI hd σ τ η  v1 g1) (cwV 1 htb (gdV (fun _ hh => hh) wML_RX7_175 wIM_yX2_silentWays wSE_yX2_silentWays wI_RX2 wC_yX2_silentWays) rfl rfl rfl hd_X2_silentWays ⟨by decide, by decide⟩) hK hP rfl w_10 (fun _ hh => hh) hS rfl hl.1 rfl (Nat.le_of_ble_eq_true rfl) dX7_hole_8 ⟨Nat.le_refl 0, Nat.le_refl 0⟩ (fun H locs hP hS => ?_)
  refine lv_lstore_n (lv' := [(1, .long v1), (0, .ref (ad 0))]) hx hb dX7_hole_11 rfl hl (by decide) rfl (fun ls hl => ?_)
  refine lv_iconst (v := (-1 : Int32)) hx hb dX7_hole_12 (by decide) ?_
  refine lv_istore_n (lv' := [(3, .int (-1 : Int32)), (1, .long v1), (0, .ref (ad 0))]) hx hb dX7_hole_13 rfl hl (by decide) rfl (fun ls hl => ?_)
  refine lv_iconst (v := (0 : Int32)) hx hb dX7_hole_14 (by decide) ?_
  refine lv_istore (lv' := [(4, .int (0 : Int32)), (3, .int (-1 : Int32)), (1, .long v1), (0, .ref (ad 0))]) hx hb dX7_hole_15 hl (by decide) rfl (fun ls hl => ?_)
  obtain ⟨v2, hj2, h⟩ := ob h
  have K1 : ∀ (H : Heap) (locs : List Loc) (ls : Array Slot), WP D ad cI v2.2.2.2 τ η H → va_S (AA ad) s.heap H locs → lv_has ls 7 [(3, .int v2.2.1)] → W p l e rmX7_hole s m args below meth c H locs 0 0 Q (F0 m 85 ls []) := by
    intro H locs ls hP hS hl
    refine lv_iload_n hx hb dX7_hole_85 rfl (lv_at hl 0 rfl) ?_
    obtain rfl := Option.some.inj h
    exact ret _ _ _ _ _ dX7_hole_86 hP hS rfl
  have L1 : ∀ (n : Nat) (σ_1 : St) (y1_1 : Int64) (y1_3 : Int32) (y1_4 : Int32) (H : Heap) (locs : List Loc) (ls : Array Slot), X7_hole_L1 n σ_1 y1_1 y1_3 y1_4 = some v2 → WP D ad cI σ_1 τ η H → va_S (AA ad) s.heap H locs → lv_has ls 7 [(0, .ref (ad 0)), (1, .long y1_1), (3, .int y1_3), (4, .int y1_4)] → W p l e rmX7_hole s m args below meth c H locs 0 0 Q (F0 m 17 ls []) := by
    intro n
    induction n with
    | zero => intro σ_1 y1_1 y1_3 y1_4 H locs ls h; exact absurd h (by simp [X7_hole_L1])
    | succ n ih =>
      intro σ_1 y1_1 y1_3 y1_4 H locs ls h hP hS hl
      replace h := (X7_hole_L1_s n σ_1 y1_1 y1_3 y1_4).symm.trans h
      refine lv_iload hx hb dX7_hole_17 (lv_at hl 3 rfl) ?_
      refine lv_aload_n hx hb dX7_hole_19 rfl (lv_at hl 0 rfl) ?_
      refine va_get (D := D) (ci := 7) (v := .ref (ad 1)) (C := RX7) (T := TX7) (N := 11) hx hb htb wu_7 hown hK.1 hP 0 w_0 rfl 0 (by decide) (htb _ wFL_RX7_10) (fun _ h9 => h9) rfl dX7_hole_20 ?_
      obtain ⟨v3, g3, h⟩ := ol h
      refine c_Vi (q := (RX0, TX0, 6)) (ci := 0) (b := 1) (As := []) (rest := [.int y1_4]) (A := AA ad) ⟨hx, hb, hml, hown, htb⟩ (c_X0_size l D ad cI hd σ_1 τ η  v3 g3) (cwV 0 htb (gdV (fun _ hh => hh) wML_RX7_138 wIM_yX0_size wSE_yX0_size wI_RX0 wC_yX0_size) rfl rfl rfl hd_X0_size ⟨by decide, by decide⟩) hK hP rfl w_1 (fun _ hh => hh) hS rfl hl.1 rfl (Nat.le_of_ble_eq_true rfl) dX7_hole_23 ⟨Nat.le_refl 0, Nat.le_refl 0⟩ (fun H locs hP hS => ?_)
      refine lv_icmp_ge (tgt := 85) hx hb dX7_hole_26 (by decide) (fun c4 => ?_) (fun c4 => ?_)
      · replace h := ip c4 h
        obtain rfl := Option.some.inj h
        exact K1 _ _ _ hP hS (lv_sub hl [2] rfl)
      · replace h := iq c4 h
        refine lv_aload_n hx hb dX7_hole_29 rfl (lv_at hl 0 rfl) ?_
        refine va_get (D := D) (ci := 7) (v := .ref (ad 1)) (C := RX7) (T := TX7) (N := 11) hx hb htb wu_7 hown hK.1 hP 0 w_0 rfl 0 (by decide) (htb _ wFL_RX7_10) (fun _ h9 => h9) rfl dX7_hole_30 ?_
        refine lv_iload hx hb dX7_hole_33 (lv_at hl 3 rfl) ?_
        obtain ⟨v5, g5, h⟩ := ob h
        refine c_Vi (q := (RX0, TX0, 6)) (ci := 0) (b := 1) (As := [.int y1_4]) (rest := []) (A := AA ad) ⟨hx, hb, hml, hown, htb⟩ (c_X0_toldOf l D ad cI hd σ_1 τ η y1_4 v5 g5) (cwV 1 htb (gdV (fun _ hh => hh) wML_RX7_94 wIM_yX0_toldOf wSE_yX0_toldOf wI_RX0 wC_yX0_toldOf) rfl rfl rfl hd_X0_toldOf ⟨by decide, by decide⟩) hK hP rfl w_1 (fun _ hh => hh) hS rfl hl.1 rfl (Nat.le_of_ble_eq_true rfl) dX7_hole_35 ⟨Nat.le_refl 0, Nat.le_refl 0⟩ (fun H locs hP hS => ?_)
        obtain ⟨v7, hj7, h⟩ := ob h
        have J7 : ∀ (H : Heap) (locs : List Loc) (ls : Array Slot), WP D ad cI v7.2.2 τ η H → va_S (AA ad) s.heap H locs → lv_has ls 7 [(0, .ref (ad 0)), (1, .long v7.1), (3, .int v7.2.1), (4, .int y1_4)] → W p l e rmX7_hole s m args below meth c H locs 0 0 Q (F0 m 79 ls []) := by
          intro H locs ls hP hS hl
          refine lv_iinc (v := (y1_4 + (1 : Int32))) (lv' := [(4, .int (y1_4 + (1 : Int32))), (0, .ref (ad 0)), (1, .long v7.1), (3, .int v7.2.1)]) hx hb dX7_hole_79 hl (k := 3) rfl rfl (by decide) rfl (fun ls hl => ?_)
          refine lv_goto (tgt := 17) hx hb dX7_hole_82 (by decide) ?_
          exact ih v7.2.2 v7.1 v7.2.1 (y1_4 + (1 : Int32)) _ _ _ h hP hS (lv_sub hl [1, 2, 3, 0] rfl)
        replace h := hj7
        refine lv_if_eq (tgt := 79) hx hb dX7_hole_38 (by decide) (fun c6 => ?_) (fun c6 => ?_)
        · replace h := ip c6 h
          obtain rfl := Option.some.inj h
          exact J7 _ _ _ hP hS (lv_sub hl [0, 1, 2, 3] rfl)
        · replace h := iq c6 h
          refine lv_aload_n hx hb dX7_hole_41 rfl (lv_at hl 0 rfl) ?_
          refine va_get (D := D) (ci := 7) (v := .ref (ad 1)) (C := RX7) (T := TX7) (N := 11) hx hb htb wu_7 hown hK.1 hP 0 w_0 rfl 0 (by decide) (htb _ wFL_RX7_10) (fun _ h9 => h9) rfl dX7_hole_42 ?_
          refine lv_aload_n hx hb dX7_hole_45 rfl (lv_at hl 0 rfl) ?_
          refine va_get (D := D) (ci := 7) (v := .ref (ad 26)) (C := RX7) (T := TX7) (N := 11) hx hb htb wu_7 hown hK.1 hP 0 w_0 rfl 7 (by decide) (htb _ wFL_RX7_58) (fun _ h9 => h9) rfl dX7_hole_46 ?_
          obtain ⟨v8, g8, h⟩ := ob h
          refine c_Vv (q := (RX0, TX0, 6)) (ci := 0) (b := 1) (As := [.ref (ad 26)]) (rest := []) (A := AA ad) ⟨hx, hb, hml, hown, htb⟩ (c_X0_copyTold l D ad cI hd σ_1 τ η  v8 g8) (cwV 1 htb (gdV (fun _ hh => hh) wML_RX7_213 wIM_yX0_copyTold wSE_yX0_copyTold wI_RX0 wC_yX0_copyTold) rfl rfl rfl hd_X0_copyTold ⟨by decide, by decide⟩) hK hP rfl w_1 (fun _ hh => hh) hS rfl hl.1 rfl (Nat.le_of_ble_eq_true rfl) dX7_hole_49 ⟨Nat.le_refl 0, Nat.le_refl 0⟩ (fun H locs hP hS => ?_)
          refine lv_aload_n hx hb dX7_hole_52 rfl (lv_at hl 0 rfl) ?_
          refine va_get (D := D) (ci := 7) (v := .ref (ad 26)) (C := RX7) (T := TX7) (N := 11) hx hb htb wu_7 hown hK.1 hP 0 w_0 rfl 7 (by decide) (htb _ wFL_RX7_58) (fun _ h9 => h9) rfl dX7_hole_53 ?_
          refine lv_iload hx hb dX7_hole_56 (lv_at hl 3 rfl) ?_
          refine lv_iconst (v := (0 : Int32)) hx hb dX7_hole_58 (by decide) ?_
          obtain ⟨σ9, g9, h⟩ := ob h
          refine r_astC (A := AA ad) hx hb hK hd (fun _ hh => hh) hP hS 26 9 (by decide) (fun _ => rfl) g9 dX7_hole_59 (fun H locs hP hS => ?_)
          refine lv_aload_n hx hb dX7_hole_60 rfl (lv_at hl 0 rfl) ?_
          obtain ⟨v10, g10, h⟩ := ob h
          refine c_Vl (q := (RX7, TX7, 11)) (ci := 7) (b := 0) (As := []) (rest := []) (A := AA ad) ⟨hx, hb, hml, hown, htb⟩ (c_X7_planWays l D ad cI hd σ9 τ η  v10 g10) (cwV 0 htb (gdV (fun _ hh => hh) wML_RX7_210 wIM_yX7_planWays wSE_yX7_planWays wI_RX7 wC_yX7_planWays) rfl rfl rfl hd_X7_planWays ⟨by decide, by decide⟩) hK hP rfl w_0 (fun _ hh => hh) hS rfl hl.1 rfl (Nat.le_of_ble_eq_true rfl) dX7_hole_61 ⟨Nat.le_refl 0, Nat.le_refl 0⟩ (fun H locs hP hS => ?_)
          refine lv_lstore (lv' := [(5, .long v10.1), (0, .ref (ad 0)), (1, .long y1_1), (3, .int y1_3), (4, .int y1_4)]) hx hb dX7_hole_64 hl (by decide) rfl (fun ls hl => ?_)
          refine lv_lload hx hb dX7_hole_66 (lv_at hl 0 rfl) ?_
          refine lv_lload_n hx hb dX7_hole_68 rfl (lv_at hl 2 rfl) ?_
          refine W.lcmp hx hb dX7_hole_69 ?_
          refine lv_if_le (tgt := 79) hx hb dX7_hole_70 (by decide) (fun c11 => ?_) (fun c11 => ?_)
          · replace c11 := (lg_cmp_le _ _).mp c11
            replace h := ip c11 h
            obtain rfl := Option.some.inj h
            exact J7 _ _ _ hP hS (lv_sub hl [1, 2, 3, 4] rfl)
          · replace c11 := (not_congr (lg_cmp_le _ _)).mp c11
            replace h := iq c11 h
            refine lv_lload hx hb dX7_hole_73 (lv_at hl 0 rfl) ?_
            refine lv_lstore_n (lv' := [(1, .long v10.1), (5, .long v10.1), (0, .ref (ad 0)), (3, .int y1_3), (4, .int y1_4)]) hx hb dX7_hole_75 rfl hl (by decide) rfl (fun ls hl => ?_)
            refine lv_iload hx hb dX7_hole_76 (lv_at hl 4 rfl) ?_
            refine lv_istore_n (lv' := [(3, .int y1_4), (1, .long v10.1), (5, .long v10.1), (0, .ref (ad 0)), (4, .int y1_4)]) hx hb dX7_hole_78 rfl hl (by decide) rfl (fun ls hl => ?_)
            obtain rfl := Option.some.inj h
            exact J7 _ _ _ hP hS (lv_sub hl [3, 1, 0, 4] rfl)
  exact L1 10000 σ v1 (-1 : Int32) (0 : Int32) _ _ _ hj2 hP hS (lv_sub hl [3, 2, 1, 0] rfl)
