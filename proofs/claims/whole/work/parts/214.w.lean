def X8_belief (τ : St) (x1 : Int32) (x2 : Int32) : Option (Int64) :=
  lt (X8_in  ((x1).toInt64) (0 : Int64) (9 : Int64)) fun v1 =>
  if v1 = 0 then (
    some (-102 : Int64))
  else (
    lt (X8_isPart  x2) fun v3 =>
    if v3 = 0 then (
      some (-102 : Int64))
    else (
      bd (X8_tellBelief τ x1 x2) fun v5 =>
      some v5))
abbrev rmX8_belief : Room := { frames := 3, cells := 0, slots := 0, locals := 76 }
set_option maxHeartbeats 4000000 in
set_option maxRecDepth 100000 in
theorem c_X8_belief (l : Launch) (D : va_G) (ad : Nat → Nat) (cI : ClassId) (hd : HD ad) (σ τ : St) (η : Int64) (x1 : Int32) (x2 : Int32) (rr : Int64) (h : X8_belief τ x1 x2 = some rr) : ML l yX8_belief (wy yX8_belief cX8_belief 3 (some .long)) rmX8_belief D ad cI [.ref (ad 29), .int x1, .int x2] σ τ η rr σ τ η := by
  refine mk_l (own := RX8) (lv := [(0, .ref (ad 29)), (1, .int x1), (2, .int x2)]) (plainFor_of_name (by decide)) rfl (Nat.le_of_ble_eq_true rfl) rfl ?_
  intro p e s m args below meth c Q ls hx hb hml hown htb hK ret hP hS hl
  unfold X8_belief at h
  refine lv_iload_n hx hb dX8_belief_0 rfl (lv_at hl 1 rfl) ?_
  refine lv_i2l (v := ((x1).toInt64)) hx hb dX8_belief_1 rfl ?_
  refine lv_lconst (v := (0 : Int64)) hx hb dX8_belief_2 rfl ?_
  refine lv_ldc2 (v := (9 : Int64)) hx hb hown (htb _ wKL_RX8_100) dX8_belief_3 ?_
  obtain ⟨v1, g1, h⟩ := ol h
  refine c_Sz (As := [.long ((x1).toInt64), .long (0 : Int64), .long (9 : Int64)]) (rest := []) (A := AA ad) ⟨hx, hb, hml, hown, htb⟩ (c_X8_in l D ad cI hd σ τ η ((x1).toInt64) (0 : Int64) (9 : Int64) v1 g1) (va_cwS 3 htb (gdS (fun _ hh => hh) wML_RX8_65 wST_yX8_in wI_RX8 wC_yX8_in) rfl rfl rfl hd_X8_in.2 ⟨by decide, by decide⟩) hK hP (fun _ hh => hh) hS rfl hl.1 rfl (Nat.le_of_ble_eq_true rfl) dX8_belief_6 ⟨Nat.le_refl 0, Nat.le_refl 0⟩ (fun H locs hz1 hP hS => ?_)
  refine lv_if_eq (tgt := 28) hx hb dX8_belief_9 (by decide) (fun c2 => ?_) (fun c2 => ?_)
  · replace h := ip c2 h
    refine lv_ldc2 (v := (-102 : Int64)) hx hb hown (htb _ wKL_RX8_144) dX8_belief_28 ?_
    obtain rfl := Option.some.inj h
    exact ret _ _ _ _ _ dX8_belief_31 hP hS rfl
  · replace h := iq c2 h
    refine lv_iload_n hx hb dX8_belief_12 rfl (lv_at hl 2 rfl) ?_
    obtain ⟨v3, g3, h⟩ := ol h
    refine c_Sz (As := [.int x2]) (rest := []) (A := AA ad) ⟨hx, hb, hml, hown, htb⟩ (c_X8_isPart l D ad cI hd σ τ η x2 v3 g3) (va_cwS 1 htb (gdS (fun _ hh => hh) wML_RX8_137 wST_yX8_isPart wI_RX8 wC_yX8_isPart) rfl rfl rfl hd_X8_isPart.2 ⟨by decide, by decide⟩) hK hP (fun _ hh => hh) hS rfl hl.1 rfl (Nat.le_of_ble_eq_true rfl) dX8_belief_13 ⟨Nat.le_refl 0, Nat.le_refl 0⟩ (fun H locs hz3 hP hS => ?_)
    refine lv_if_eq (tgt := 28) hx hb dX8_belief_16 (by decide) (fun c4 => ?_) (fun c4 => ?_)
    · replace h := ip c4 h
      refine lv_ldc2 (v := (-102 : Int64)) hx hb hown (htb _ wKL_RX8_144) dX8_belief_28 ?_
      obtain rfl := Option.some.inj h
      exact ret _ _ _ _ _ dX8_belief_31 hP hS rfl
    · replace h := iq c4 h
      refine lv_aload_n hx hb dX8_belief_19 rfl (lv_at hl 0 rfl) ?_
      refine lv_iload_n hx hb dX8_belief_20 rfl (lv_at hl 1 rfl) ?_
      refine lv_iload_n hx hb dX8_belief_21 rfl (lv_at hl 2 rfl) ?_
      obtain ⟨v5, g5, h⟩ := ob h
      refine c_Vl (q := (RX8, TX8, 27)) (ci := 8) (b := 29) (As := [.int x1, .int x2]) (rest := []) (A := AA ad) ⟨hx, hb, hml, hown, htb⟩ (c_X8_tellBelief l D ad cI hd σ τ η x1 x2 v5 g5) (cwV 2 htb (gdV (fun _ hh => hh) wML_RX8_202 wIM_yX8_tellBelief wSE_yX8_tellBelief wI_RX8 wC_yX8_tellBelief) rfl rfl rfl hd_X8_tellBelief ⟨by decide, by decide⟩) hK hP rfl w_29 (fun _ hh => hh) hS rfl hl.1 rfl (Nat.le_of_ble_eq_true rfl) dX8_belief_22 ⟨Nat.le_refl 0, Nat.le_refl 0⟩ (fun H locs hP hS => ?_)
      refine lv_goto (tgt := 31) hx hb dX8_belief_25 (by decide) ?_
      obtain rfl := Option.some.inj h
      exact ret _ _ _ _ _ dX8_belief_31 hP hS rfl
def J9_min_f86c9  (x0 : Int64) (x2 : Int64) : Int64 :=
  if x2 < x0 then (
    x2)
  else (
    x0)
abbrev rmJ9_min_f86c9 : Room := { frames := 0, cells := 0, slots := 0, locals := 0 }
set_option maxHeartbeats 4000000 in
set_option maxRecDepth 100000 in
theorem c_J9_min_f86c9 (l : Launch) (D : va_G) (ad : Nat → Nat) (cI : ClassId) (hd : HD ad) (σ τ : St) (η : Int64) (x0 : Int64) (x2 : Int64) (rr : Int64) (h : J9_min_f86c9  x0 x2 = rr) : ML l yJ9_min_f86c9 (wy yJ9_min_f86c9 cJ9_min_f86c9 4 (some .long)) rmJ9_min_f86c9 D ad cI [.long x0, .long x2] σ τ η rr σ τ η := by
  refine mk_l (own := RJ9) (lv := [(0, .long x0), (2, .long x2)]) (by decide +kernel) rfl (Nat.le_of_ble_eq_true rfl) rfl ?_
  intro p e s m args below meth c Q ls hx hb hml hown htb hK ret hP hS hl
  unfold J9_min_f86c9 at h
  refine lv_lload_n hx hb dJ9_min_f86c9_0 rfl (lv_at hl 0 rfl) ?_
  refine lv_lload_n hx hb dJ9_min_f86c9_1 rfl (lv_at hl 1 rfl) ?_
  refine W.lcmp hx hb dJ9_min_f86c9_2 ?_
  refine lv_if_gt (tgt := 10) hx hb dJ9_min_f86c9_3 (by decide) (fun c1 => ?_) (fun c1 => ?_)
  · replace c1 := (lg_cmp_gt _ _).mp c1
    replace h := ip c1 h
    refine lv_lload_n hx hb dJ9_min_f86c9_10 rfl (lv_at hl 1 rfl) ?_
    subst h
    exact ret _ _ _ _ _ dJ9_min_f86c9_11 hP hS rfl
  · replace c1 := (not_congr (lg_cmp_gt _ _)).mp c1
    replace h := iq c1 h
    refine lv_lload_n hx hb dJ9_min_f86c9_6 rfl (lv_at hl 0 rfl) ?_
    refine lv_goto (tgt := 11) hx hb dJ9_min_f86c9_7 (by decide) ?_
    subst h
    exact ret _ _ _ _ _ dJ9_min_f86c9_11 hP hS rfl
def X4_bestParting_L1 (n : Nat) (σ_1 : St) (u1_1 : Int64) (u1_3 : Int64) (y1_5 : Int64) (y1_7 : Int32) (y1_8 : Int32) : Option (Int64 × Int32 × Int32) := match n with
  | 0 => none
  | n + 1 =>
    if (σ_1 18 3) ≤ y1_8 then (
      some (y1_5, y1_7, y1_8))
    else (
      bd (rd (σ_1 21) 8 y1_8) fun v5 =>
      bd ((
          if v5 = 0 then (
            bd (rd (σ_1 19) 8 y1_8) fun v8 =>
            bd (rd (σ_1 20) 8 y1_8) fun v9 =>
            lt (J9_min_f86c9  (u1_1 * ((v8).toInt64)) (u1_3 * ((v9).toInt64))) fun v10 =>
            bd (rd (σ_1 19) 8 y1_8) fun v11 =>
            bd (rd (σ_1 20) 8 y1_8) fun v12 =>
            lt (J9_min_f86c9  (u1_1 * ((((10 : Int32) - v11)).toInt64)) (u1_3 * ((((10 : Int32) - v12)).toInt64))) fun v13 =>
            if y1_7 = (-1 : Int32) then (
              some ((v10 + v13), y1_8))
            else (
              if y1_5 ≤ (v10 + v13) then (
                some (y1_5, y1_7))
              else (
                some ((v10 + v13), y1_8))))
          else (
            some (y1_5, y1_7))) : Option (Int64 × Int32)) fun v7 =>
      X4_bestParting_L1 n σ_1 u1_1 u1_3 v7.1 v7.2 (y1_8 + (1 : Int32)))
theorem X4_bestParting_L1_s (n : Nat) (σ_1 : St) (u1_1 : Int64) (u1_3 : Int64) (y1_5 : Int64) (y1_7 : Int32) (y1_8 : Int32) : X4_bestParting_L1 (n + 1) σ_1 u1_1 u1_3 y1_5 y1_7 y1_8 =
    if (σ_1 18 3) ≤ y1_8 then (
      some (y1_5, y1_7, y1_8))
    else (
      bd (rd (σ_1 21) 8 y1_8) fun v5 =>
      bd ((
          if v5 = 0 then (
            bd (rd (σ_1 19) 8 y1_8) fun v8 =>
            bd (rd (σ_1 20) 8 y1_8) fun v9 =>
            lt (J9_min_f86c9  (u1_1 * ((v8).toInt64)) (u1_3 * ((v9).toInt64))) fun v10 =>
            bd (rd (σ_1 19) 8 y1_8) fun v11 =>
            bd (rd (σ_1 20) 8 y1_8) fun v12 =>
            lt (J9_min_f86c9  (u1_1 * ((((10 : Int32) - v11)).toInt64)) (u1_3 * ((((10 : Int32) - v12)).toInt64))) fun v13 =>
            if y1_7 = (-1 : Int32) then (
              some ((v10 + v13), y1_8))
            else (
              if y1_5 ≤ (v10 + v13) then (
                some (y1_5, y1_7))
              else (
                some ((v10 + v13), y1_8))))
          else (
            some (y1_5, y1_7))) : Option (Int64 × Int32)) fun v7 =>
      X4_bestParting_L1 n σ_1 u1_1 u1_3 v7.1 v7.2 (y1_8 + (1 : Int32))) := rfl
def X4_bestParting (σ : St)  : Option (Int32) :=
  bd (X4_oddsIfThereIsOne σ (0 : Int32)) fun v1 =>
  bd (X4_oddsIfThereIsNone σ ) fun v2 =>
  bd (X4_bestParting_L1 10000 σ v1 v2 (0 : Int64) (-1 : Int32) (0 : Int32)) fun v3 =>
  some v3.2.1
abbrev rmX4_bestParting : Room := { frames := 3, cells := 0, slots := 0, locals := 67 }
set_option maxHeartbeats 4000000 in
set_option maxRecDepth 100000 in
theorem c_X4_bestParting (l : Launch) (D : va_G) (ad : Nat → Nat) (cI : ClassId) (hd : HD ad) (σ τ : St) (η : Int64)  (rr : Int32) (h : X4_bestParting σ  = some rr) : MI l yX4_bestParting (wy yX4_bestParting cX4_bestParting 11 (some .int)) rmX4_bestParting D ad cI [.ref (ad 18)] σ τ η rr σ τ η := by
  refine mk_i (own := RX4) (lv := [(0, .ref (ad 18))]) (plainFor_of_name (by decide)) rfl (Nat.le_of_ble_eq_true rfl) rfl ?_
  intro p e s m args below meth c Q ls hx hb hml hown htb hK ret hP hS hl
  unfold X4_bestParting at h
  refine lv_aload_n hx hb dX4_bestParting_0 rfl (lv_at hl 0 rfl) ?_
  refine lv_iconst (v := (0 : Int32)) hx hb dX4_bestParting_1 (by decide) ?_
  obtain ⟨v1, g1, h⟩ := ob h
  refine c_Vl (q := (RX4, TX4, 4)) (ci := 4) (b := 18) (As := [.int (0 : Int32)]) (rest := []) (A := AA ad) ⟨hx, hb, hml, hown, htb⟩ (c_X4_oddsIfThereIsOne l D ad cI hd σ τ η (0 : Int32) v1 g1) (cwV 1 htb (gdV (fun _ hh => hh) wML_RX4_39 wIM_yX4_oddsIfThereIsOne wSE_yX4_oddsIfThereIsOne wI_RX4 wC_yX4_oddsIfThereIsOne) rfl rfl rfl hd_X4_oddsIfThereIsOne ⟨by decide, by decide⟩) hK hP rfl w_18 (fun _ hh => hh) hS rfl hl.1 rfl (Nat.le_of_ble_eq_true rfl) dX4_bestParting_2 ⟨Nat.le_refl 0, Nat.le_refl 0⟩ (fun H locs hP hS => ?_)
  refine lv_lstore_n (lv' := [(1, .long v1), (0, .ref (ad 18))]) hx hb dX4_bestParting_5 rfl hl (by decide) rfl (fun ls hl => ?_)
  refine lv_aload_n hx hb dX4_bestParting_6 rfl (lv_at hl 1 rfl) ?_
  obtain ⟨v2, g2, h⟩ := ob h
  refine c_Vl (q := (RX4, TX4, 4)) (ci := 4) (b := 18) (As := []) (rest := []) (A := AA ad) ⟨hx, hb, hml, hown, htb⟩ (c_X4_oddsIfThereIsNone l D ad cI hd σ τ η  v2 g2) (cwV 0 htb (gdV (fun _ hh => hh) wML_RX4_43 wIM_yX4_oddsIfThereIsNone wSE_yX4_oddsIfThereIsNone wI_RX4 wC_yX4_oddsIfThereIsNone) rfl rfl rfl hd_X4_oddsIfThereIsNone ⟨by decide, by decide⟩) hK hP rfl w_18 (fun _ hh => hh) hS rfl hl.1 rfl (Nat.le_of_ble_eq_true rfl) dX4_bestParting_7 ⟨Nat.le_refl 0, Nat.le_refl 0⟩ (fun H locs hP hS => ?_)
  refine lv_lstore_n (lv' := [(3, .long v2), (1, .long v1), (0, .ref (ad 18))]) hx hb dX4_bestParting_10 rfl hl (by decide) rfl (fun ls hl => ?_)
  refine lv_lconst (v := (0 : Int64)) hx hb dX4_bestParting_11 rfl ?_
  refine lv_lstore (lv' := [(5, .long (0 : Int64)), (3, .long v2), (1, .long v1), (0, .ref (ad 18))]) hx hb dX4_bestParting_12 hl (by decide) rfl (fun ls hl => ?_)
  refine lv_iconst (v := (-1 : Int32)) hx hb dX4_bestParting_14 (by decide) ?_
  refine lv_istore (lv' := [(7, .int (-1 : Int32)), (5, .long (0 : Int64)), (3, .long v2), (1, .long v1), (0, .ref (ad 18))]) hx hb dX4_bestParting_15 hl (by decide) rfl (fun ls hl => ?_)
  refine lv_iconst (v := (0 : Int32)) hx hb dX4_bestParting_17 (by decide) ?_
  refine lv_istore (lv' := [(8, .int (0 : Int32)), (7, .int (-1 : Int32)), (5, .long (0 : Int64)), (3, .long v2), (1, .long v1), (0, .ref (ad 18))]) hx hb dX4_bestParting_18 hl (by decide) rfl (fun ls hl => ?_)
  obtain ⟨v3, hj3, h⟩ := ob h
  have K1 : ∀ (H : Heap) (locs : List Loc) (ls : Array Slot), WP D ad cI σ τ η H → va_S (AA ad) s.heap H locs → lv_has ls 11 [(7, .int v3.2.1)] → W p l e rmX4_bestParting s m args below meth c H locs 0 0 Q (F0 m 122 ls []) := by
    intro H locs ls hP hS hl
    refine lv_iload hx hb dX4_bestParting_122 (lv_at hl 0 rfl) ?_
    obtain rfl := Option.some.inj h
    exact ret _ _ _ _ _ dX4_bestParting_124 hP hS rfl
  have L1 : ∀ (n : Nat) (y1_5 : Int64) (y1_7 : Int32) (y1_8 : Int32) (H : Heap) (locs : List Loc) (ls : Array Slot), X4_bestParting_L1 n σ v1 v2 y1_5 y1_7 y1_8 = some v3 → WP D ad cI σ τ η H → va_S (AA ad) s.heap H locs → lv_has ls 11 [(0, .ref (ad 18)), (1, .long v1), (3, .long v2), (5, .long y1_5), (7, .int y1_7), (8, .int y1_8)] → W p l e rmX4_bestParting s m args below meth c H locs 0 0 Q (F0 m 20 ls []) := by
    intro n
    induction n with
    | zero => intro y1_5 y1_7 y1_8 H locs ls h; exact absurd h (by simp [X4_bestParting_L1])
    | succ n ih =>
      intro y1_5 y1_7 y1_8 H locs ls h hP hS hl
      replace h := (X4_bestParting_L1_s n σ v1 v2 y1_5 y1_7 y1_8).symm.trans h
      refine lv_iload hx hb dX4_bestParting_20 (lv_at hl 5 rfl) ?_
      refine lv_aload_n hx hb dX4_bestParting_22 rfl (lv_at hl 0 rfl) ?_
      refine va_get (D := D) (ci := 4) (v := .int (σ 18 3)) (C := RX4) (T := TX4) (N := 4) hx hb htb wu_4 hown hK.1 hP 18 w_18 rfl 3 (by decide) (htb _ wFL_RX4_21) (fun _ h9 => h9) rfl dX4_bestParting_23 ?_
      refine lv_icmp_ge (tgt := 122) hx hb dX4_bestParting_26 (by decide) (fun c4 => ?_) (fun c4 => ?_)
      · replace h := ip c4 h
        obtain rfl := Option.some.inj h
        exact K1 _ _ _ hP hS (lv_sub hl [4] rfl)
      · replace h := iq c4 h
        refine lv_aload_n hx hb dX4_bestParting_29 rfl (lv_at hl 0 rfl) ?_
        refine va_get (D := D) (ci := 4) (v := .ref (ad 21)) (C := RX4) (T := TX4) (N := 4) hx hb htb wu_4 hown hK.1 hP 18 w_18 rfl 2 (by decide) (htb _ wFL_RX4_18) (fun _ h9 => h9) rfl dX4_bestParting_30 ?_
        refine lv_iload hx hb dX4_bestParting_33 (lv_at hl 5 rfl) ?_
        obtain ⟨v5, g5, h⟩ := ob h
        refine r_ald hx hb hK hP 21 w_21 g5 dX4_bestParting_35 ?_
        obtain ⟨v7, hj7, h⟩ := ob h
        have J7 : ∀ (H : Heap) (locs : List Loc) (ls : Array Slot), WP D ad cI σ τ η H → va_S (AA ad) s.heap H locs → lv_has ls 11 [(0, .ref (ad 18)), (1, .long v1), (3, .long v2), (5, .long v7.1), (7, .int v7.2), (8, .int y1_8)] → W p l e rmX4_bestParting s m args below meth c H locs 0 0 Q (F0 m 116 ls []) := by
          intro H locs ls hP hS hl
          refine lv_iinc (v := (y1_8 + (1 : Int32))) (lv' := [(8, .int (y1_8 + (1 : Int32))), (0, .ref (ad 18)), (1, .long v1), (3, .long v2), (5, .long v7.1), (7, .int v7.2)]) hx hb dX4_bestParting_116 hl (k := 5) rfl rfl (by decide) rfl (fun ls hl => ?_)
          refine lv_goto (tgt := 20) hx hb dX4_bestParting_119 (by decide) ?_
          exact ih v7.1 v7.2 (y1_8 + (1 : Int32)) _ _ _ h hP hS (lv_sub hl [1, 2, 3, 4, 5, 0] rfl)
        replace h := hj7
        refine lv_if_ne (tgt := 116) hx hb dX4_bestParting_36 (by decide) (fun c6 => ?_) (fun c6 => ?_)
        · replace h := iq c6 h
          obtain rfl := Option.some.inj h
          exact J7 _ _ _ hP hS (lv_sub hl [0, 1, 2, 3, 4, 5] rfl)
        · replace h := ip c6 h
          refine lv_lload_n hx hb dX4_bestParting_39 rfl (lv_at hl 1 rfl) ?_
          refine lv_aload_n hx hb dX4_bestParting_40 rfl (lv_at hl 0 rfl) ?_
          refine va_get (D := D) (ci := 4) (v := .ref (ad 19)) (C := RX4) (T := TX4) (N := 4) hx hb htb wu_4 hown hK.1 hP 18 w_18 rfl 0 (by decide) (htb _ wFL_RX4_11) (fun _ h9 => h9) rfl dX4_bestParting_41 ?_
          refine lv_iload hx hb dX4_bestParting_44 (lv_at hl 5 rfl) ?_
          obtain ⟨v8, g8, h⟩ := ob h
          refine r_ald hx hb hK hP 19 w_19 g8 dX4_bestParting_46 ?_
          refine lv_i2l (v := ((v8).toInt64)) hx hb dX4_bestParting_47 rfl ?_
          refine lv_lmul hx hb dX4_bestParting_48 ?_
          refine lv_lload_n hx hb dX4_bestParting_49 rfl (lv_at hl 2 rfl) ?_
          refine lv_aload_n hx hb dX4_bestParting_50 rfl (lv_at hl 0 rfl) ?_
          refine va_get (D := D) (ci := 4) (v := .ref (ad 20)) (C := RX4) (T := TX4) (N := 4) hx hb htb wu_4 hown hK.1 hP 18 w_18 rfl 1 (by decide) (htb _ wFL_RX4_15) (fun _ h9 => h9) rfl dX4_bestParting_51 ?_
          refine lv_iload hx hb dX4_bestParting_54 (lv_at hl 5 rfl) ?_
          obtain ⟨v9, g9, h⟩ := ob h
          refine r_ald hx hb hK hP 20 w_20 g9 dX4_bestParting_56 ?_
          refine lv_i2l (v := ((v9).toInt64)) hx hb dX4_bestParting_57 rfl ?_
          refine lv_lmul hx hb dX4_bestParting_58 ?_
          obtain ⟨v10, g10, h⟩ := ol h
          refine c_Sl (As := [.long (v1 * ((v8).toInt64)), .long (v2 * ((v9).toInt64))]) (rest := []) (A := AA ad) ⟨hx, hb, hml, hown, htb⟩ (c_J9_min_f86c9 l D ad cI hd σ τ η (v1 * ((v8).toInt64)) (v2 * ((v9).toInt64)) v10 g10) (va_cwS 2 htb (gdS (fun _ hh => hh) wML_RX4_47 wST_yJ9_min_f86c9 wI_RJ9 wC_yJ9_min_f86c9) rfl rfl rfl hd_J9_min_f86c9.2 ⟨by decide, by decide⟩) hK hP (fun _ hh => hh) hS rfl hl.1 rfl (Nat.le_of_ble_eq_true rfl) dX4_bestParting_59 ⟨Nat.le_refl 0, Nat.le_refl 0⟩ (fun H locs hP hS => ?_)
          refine lv_lload_n hx hb dX4_bestParting_62 rfl (lv_at hl 1 rfl) ?_
          refine lv_bipush (v := (10 : Int32)) hx hb dX4_bestParting_63 (by decide) ?_
          refine lv_aload_n hx hb dX4_bestParting_65 rfl (lv_at hl 0 rfl) ?_
          refine va_get (D := D) (ci := 4) (v := .ref (ad 19)) (C := RX4) (T := TX4) (N := 4) hx hb htb wu_4 hown hK.1 hP 18 w_18 rfl 0 (by decide) (htb _ wFL_RX4_11) (fun _ h9 => h9) rfl dX4_bestParting_66 ?_
          refine lv_iload hx hb dX4_bestParting_69 (lv_at hl 5 rfl) ?_
          obtain ⟨v11, g11, h⟩ := ob h
          refine r_ald hx hb hK hP 19 w_19 g11 dX4_bestParting_71 ?_
          refine lv_isub hx hb dX4_bestParting_72 ?_
          refine lv_i2l (v := ((((10 : Int32) - v11)).toInt64)) hx hb dX4_bestParting_73 rfl ?_
          refine lv_lmul hx hb dX4_bestParting_74 ?_
          refine lv_lload_n hx hb dX4_bestParting_75 rfl (lv_at hl 2 rfl) ?_
          refine lv_bipush (v := (10 : Int32)) hx hb dX4_bestParting_76 (by decide) ?_
          refine lv_aload_n hx hb dX4_bestParting_78 rfl (lv_at hl 0 rfl) ?_
          refine va_get (D := D) (ci := 4) (v := .ref (ad 20)) (C := RX4) (T := TX4) (N := 4) hx hb htb wu_4 hown hK.1 hP 18 w_18 rfl 1 (by decide) (htb _ wFL_RX4_15) (fun _ h9 => h9) rfl dX4_bestParting_79 ?_
          refine lv_iload hx hb dX4_bestParting_82 (lv_at hl 5 rfl) ?_
          obtain ⟨v12, g12, h⟩ := ob h
          refine r_ald hx hb hK hP 20 w_20 g12 dX4_bestParting_84 ?_
          refine lv_isub hx hb dX4_bestParting_85 ?_
          refine lv_i2l (v := ((((10 : Int32) - v12)).toInt64)) hx hb dX4_bestParting_86 rfl ?_
          refine lv_lmul hx hb dX4_bestParting_87 ?_
          obtain ⟨v13, g13, h⟩ := ol h
          refine c_Sl (As := [.long (v1 * ((((10 : Int32) - v11)).toInt64)), .long (v2 * ((((10 : Int32) - v12)).toInt64))]) (rest := [.long v10]) (A := AA ad) ⟨hx, hb, hml, hown, htb⟩ (c_J9_min_f86c9 l D ad cI hd σ τ η (v1 * ((((10 : Int32) - v11)).toInt64)) (v2 * ((((10 : Int32) - v12)).toInt64)) v13 g13) (va_cwS 2 htb (gdS (fun _ hh => hh) wML_RX4_47 wST_yJ9_min_f86c9 wI_RJ9 wC_yJ9_min_f86c9) rfl rfl rfl hd_J9_min_f86c9.2 ⟨by decide, by decide⟩) hK hP (fun _ hh => hh) hS rfl hl.1 rfl (Nat.le_of_ble_eq_true rfl) dX4_bestParting_88 ⟨Nat.le_refl 0, Nat.le_refl 0⟩ (fun H locs hP hS => ?_)
          refine lv_ladd hx hb dX4_bestParting_91 ?_
          refine lv_lstore (lv' := [(9, .long (v10 + v13)), (0, .ref (ad 18)), (1, .long v1), (3, .long v2), (5, .long y1_5), (7, .int y1_7), (8, .int y1_8)]) hx hb dX4_bestParting_92 hl (by decide) rfl (fun ls hl => ?_)
          refine lv_iload hx hb dX4_bestParting_94 (lv_at hl 5 rfl) ?_
          refine lv_iconst (v := (-1 : Int32)) hx hb dX4_bestParting_96 (by decide) ?_
          refine lv_icmp_eq (tgt := 108) hx hb dX4_bestParting_97 (by decide) (fun c14 => ?_) (fun c14 => ?_)
          · replace h := ip c14 h
            refine lv_lload hx hb dX4_bestParting_108 (lv_at hl 0 rfl) ?_
            refine lv_lstore (lv' := [(5, .long (v10 + v13)), (9, .long (v10 + v13)), (0, .ref (ad 18)), (1, .long v1), (3, .long v2), (7, .int y1_7), (8, .int y1_8)]) hx hb dX4_bestParting_110 hl (by decide) rfl (fun ls hl => ?_)
            refine lv_iload hx hb dX4_bestParting_112 (lv_at hl 6 rfl) ?_
            refine lv_istore (lv' := [(7, .int y1_8), (5, .long (v10 + v13)), (9, .long (v10 + v13)), (0, .ref (ad 18)), (1, .long v1), (3, .long v2), (8, .int y1_8)]) hx hb dX4_bestParting_114 hl (by decide) rfl (fun ls hl => ?_)
            obtain rfl := Option.some.inj h
            exact J7 _ _ _ hP hS (lv_sub hl [3, 4, 5, 1, 0, 6] rfl)
          · replace h := iq c14 h
            refine lv_lload hx hb dX4_bestParting_100 (lv_at hl 0 rfl) ?_
            refine lv_lload hx hb dX4_bestParting_102 (lv_at hl 4 rfl) ?_
            refine W.lcmp hx hb dX4_bestParting_104 ?_
            refine lv_if_ge (tgt := 116) hx hb dX4_bestParting_105 (by decide) (fun c15 => ?_) (fun c15 => ?_)
            · replace c15 := (lg_cmp_ge _ _).mp c15
              replace h := ip c15 h
              obtain rfl := Option.some.inj h
              exact J7 _ _ _ hP hS (lv_sub hl [1, 2, 3, 4, 5, 6] rfl)
            · replace c15 := (not_congr (lg_cmp_ge _ _)).mp c15
              replace h := iq c15 h
              refine lv_lload hx hb dX4_bestParting_108 (lv_at hl 0 rfl) ?_
              refine lv_lstore (lv' := [(5, .long (v10 + v13)), (9, .long (v10 + v13)), (0, .ref (ad 18)), (1, .long v1), (3, .long v2), (7, .int y1_7), (8, .int y1_8)]) hx hb dX4_bestParting_110 hl (by decide) rfl (fun ls hl => ?_)
              refine lv_iload hx hb dX4_bestParting_112 (lv_at hl 6 rfl) ?_
              refine lv_istore (lv' := [(7, .int y1_8), (5, .long (v10 + v13)), (9, .long (v10 + v13)), (0, .ref (ad 18)), (1, .long v1), (3, .long v2), (8, .int y1_8)]) hx hb dX4_bestParting_114 hl (by decide) rfl (fun ls hl => ?_)
              obtain rfl := Option.some.inj h
              exact J7 _ _ _ hP hS (lv_sub hl [3, 4, 5, 1, 0, 6] rfl)
  exact L1 10000 (0 : Int64) (-1 : Int32) (0 : Int32) _ _ _ hj3 hP hS (lv_sub hl [5, 4, 3, 2, 1, 0] rfl)
def X7_parting (σ : St)  : Option (Int32) :=
  bd (X4_bestParting σ ) fun v1 =>
  some v1
abbrev rmX7_parting : Room := { frames := 4, cells := 0, slots := 0, locals := 97 }
set_option maxHeartbeats 4000000 in
set_option maxRecDepth 100000 in
theorem c_X7_parting (l : Launch) (D : va_G) (ad : Nat → Nat) (cI : ClassId) (hd : HD ad) (σ τ : St) (η : Int64)  (rr : Int32) (h : X7_parting σ  = some rr) : MI l yX7_parting (wy yX7_parting cX7_parting 1 (some .int)) rmX7_parting D ad cI [.ref (ad 0)] σ τ η rr σ τ η := by
  refine mk_i (own := RX7) (lv := [(0, .ref (ad 0))]) (plainFor_of_name (by decide)) rfl (Nat.le_of_ble_eq_true rfl) rfl ?_
  intro p e s m args below meth c Q ls hx hb hml hown htb hK ret hP hS hl
  unfold X7_parting at h
  refine lv_aload_n hx hb dX7_parting_0 rfl (lv_at hl 0 rfl) ?_
  refine va_get (D := D) (ci := 7) (v := .ref (ad 18)) (C := RX7) (T := TX7) (N := 11) hx hb htb wu_7 hown hK.1 hP 0 w_0 rfl 5 (by decide) (htb _ wFL_RX7_47) (fun _ h9 => h9) rfl dX7_parting_1 ?_
  obtain ⟨v1, g1, h⟩ := ob h
  refine c_Vi (q := (RX4, TX4, 4)) (ci := 4) (b := 18) (As := []) (rest := []) (A := AA ad) ⟨hx, hb, hml, hown, htb⟩ (c_X4_bestParting l D ad cI hd σ τ η  v1 g1) (cwV 0 htb (gdV (fun _ hh => hh) wML_RX7_265 wIM_yX4_bestParting wSE_yX4_bestParting wI_RX4 wC_yX4_bestParting) rfl rfl rfl hd_X4_bestParting ⟨by decide, by decide⟩) hK hP rfl w_18 (fun _ hh => hh) hS rfl hl.1 rfl (Nat.le_of_ble_eq_true rfl) dX7_parting_4 ⟨Nat.le_refl 0, Nat.le_refl 0⟩ (fun H locs hP hS => ?_)
  obtain rfl := Option.some.inj h
  exact ret _ _ _ _ _ dX7_parting_7 hP hS rfl
def X8_lesser  (x0 : Int64) (x2 : Int64) : Int64 :=
  if x2 ≤ x0 then (
    x2)
  else (
    x0)
abbrev rmX8_lesser : Room := { frames := 0, cells := 0, slots := 0, locals := 0 }
set_option maxHeartbeats 4000000 in
set_option maxRecDepth 100000 in
theorem c_X8_lesser (l : Launch) (D : va_G) (ad : Nat → Nat) (cI : ClassId) (hd : HD ad) (σ τ : St) (η : Int64) (x0 : Int64) (x2 : Int64) (rr : Int64) (h : X8_lesser  x0 x2 = rr) : ML l yX8_lesser (wy yX8_lesser cX8_lesser 4 (some .long)) rmX8_lesser D ad cI [.long x0, .long x2] σ τ η rr σ τ η := by
  refine mk_l (own := RX8) (lv := [(0, .long x0), (2, .long x2)]) (plainFor_of_name (by decide)) rfl (Nat.le_of_ble_eq_true rfl) rfl ?_
  intro p e s m args below meth c Q ls hx hb hml hown htb hK ret hP hS hl
  unfold X8_lesser at h
  refine lv_lload_n hx hb dX8_lesser_0 rfl (lv_at hl 0 rfl) ?_
  refine lv_lload_n hx hb dX8_lesser_1 rfl (lv_at hl 1 rfl) ?_
  refine W.lcmp hx hb dX8_lesser_2 ?_
  refine lv_if_ge (tgt := 10) hx hb dX8_lesser_3 (by decide) (fun c1 => ?_) (fun c1 => ?_)
  · replace c1 := (lg_cmp_ge _ _).mp c1
    replace h := ip c1 h
    refine lv_lload_n hx hb dX8_lesser_10 rfl (lv_at hl 1 rfl) ?_
    subst h
    exact ret _ _ _ _ _ dX8_lesser_11 hP hS rfl
  · replace c1 := (not_congr (lg_cmp_ge _ _)).mp c1
    replace h := iq c1 h
    refine lv_lload_n hx hb dX8_lesser_6 rfl (lv_at hl 0 rfl) ?_
    refine lv_goto (tgt := 11) hx hb dX8_lesser_7 (by decide) ?_
    subst h
    exact ret _ _ _ _ _ dX8_lesser_11 hP hS rfl
def X8_partingOf_L1 (n : Nat) (τ_1 : St) (u1_1 : Int64) (u1_3 : Int64) (y1_5 : Int32) (y1_6 : Int64) (y1_8 : Int32) : Option (Int32 × Int64 × Int32) := match n with
  | 0 => none
  | n + 1 =>
    if (τ_1 29 18) ≤ y1_8 then (
      some (y1_5, y1_6, y1_8))
    else (
      bd (rd (τ_1 42) 24 (((3 : Int32) * y1_8) + (2 : Int32))) fun v5 =>
      bd ((
          if v5 = 0 then (
            bd (rd (τ_1 42) 24 ((3 : Int32) * y1_8)) fun v8 =>
            bd (rd (τ_1 42) 24 (((3 : Int32) * y1_8) + (1 : Int32))) fun v9 =>
            lt (X8_lesser  (u1_1 * ((v8).toInt64)) (u1_3 * ((v9).toInt64))) fun v10 =>
            lt (X8_lesser  (u1_1 * ((10 : Int64) - ((v8).toInt64))) (u1_3 * ((10 : Int64) - ((v9).toInt64)))) fun v11 =>
            lt ((
                if y1_5 = (-1 : Int32) then (
                  y1_8)
                else (
                  if y1_6 ≤ (v10 + v11) then (
                    y1_5)
                  else (
                    y1_8))) : Int32) fun v13 =>
            lt ((
                if v13 = y1_8 then (
                  (v10 + v11))
                else (
                  y1_6)) : Int64) fun v16 =>
            some (v13, v16))
          else (
            some (y1_5, y1_6))) : Option (Int32 × Int64)) fun v7 =>
      X8_partingOf_L1 n τ_1 u1_1 u1_3 v7.1 v7.2 (y1_8 + (1 : Int32)))
theorem X8_partingOf_L1_s (n : Nat) (τ_1 : St) (u1_1 : Int64) (u1_3 : Int64) (y1_5 : Int32) (y1_6 : Int64) (y1_8 : Int32) : X8_partingOf_L1 (n + 1) τ_1 u1_1 u1_3 y1_5 y1_6 y1_8 =
    if (τ_1 29 18) ≤ y1_8 then (
      some (y1_5, y1_6, y1_8))
    else (
      bd (rd (τ_1 42) 24 (((3 : Int32) * y1_8) + (2 : Int32))) fun v5 =>
      bd ((
          if v5 = 0 then (
            bd (rd (τ_1 42) 24 ((3 : Int32) * y1_8)) fun v8 =>
            bd (rd (τ_1 42) 24 (((3 : Int32) * y1_8) + (1 : Int32))) fun v9 =>
            lt (X8_lesser  (u1_1 * ((v8).toInt64)) (u1_3 * ((v9).toInt64))) fun v10 =>
            lt (X8_lesser  (u1_1 * ((10 : Int64) - ((v8).toInt64))) (u1_3 * ((10 : Int64) - ((v9).toInt64)))) fun v11 =>
            lt ((
                if y1_5 = (-1 : Int32) then (
                  y1_8)
                else (
                  if y1_6 ≤ (v10 + v11) then (
                    y1_5)
                  else (
                    y1_8))) : Int32) fun v13 =>
            lt ((
                if v13 = y1_8 then (
                  (v10 + v11))
                else (
                  y1_6)) : Int64) fun v16 =>
            some (v13, v16))
          else (
            some (y1_5, y1_6))) : Option (Int32 × Int64)) fun v7 =>
      X8_partingOf_L1 n τ_1 u1_1 u1_3 v7.1 v7.2 (y1_8 + (1 : Int32))) := rfl
def X8_partingOf (τ : St)  : Option (Int32) :=
  bd (X8_weight τ (1 : Int32) (0 : Int32)) fun v1 =>
  bd (X8_weight τ (0 : Int32) (0 : Int32)) fun v2 =>
  bd (X8_partingOf_L1 10000 τ v1 v2 (-1 : Int32) (0 : Int64) (0 : Int32)) fun v3 =>
  some v3.1
abbrev rmX8_partingOf : Room := { frames := 2, cells := 0, slots := 0, locals := 52 }
set_option maxHeartbeats 4000000 in
set_option maxRecDepth 100000 in
theorem c_X8_partingOf (l : Launch) (D : va_G) (ad : Nat → Nat) (cI : ClassId) (hd : HD ad) (σ τ : St) (η : Int64)  (rr : Int32) (h : X8_partingOf τ  = some rr) : MI l yX8_partingOf (wy yX8_partingOf cX8_partingOf 15 (some .int)) rmX8_partingOf D ad cI [.ref (ad 29)] σ τ η rr σ τ η := by
  refine mk_i (own := RX8) (lv := [(0, .ref (ad 29))]) (plainFor_of_name (by decide)) rfl (Nat.le_of_ble_eq_true rfl) rfl ?_
  intro p e s m args below meth c Q ls hx hb hml hown htb hK ret hP hS hl
  unfold X8_partingOf at h
  refine lv_aload_n hx hb dX8_partingOf_0 rfl (lv_at hl 0 rfl) ?_
  refine lv_iconst (v := (1 : Int32)) hx hb dX8_partingOf_1 (by decide) ?_
  refine lv_iconst (v := (0 : Int32)) hx hb dX8_partingOf_2 (by decide) ?_
  obtain ⟨v1, g1, h⟩ := ob h
  refine c_Vl (q := (RX8, TX8, 27)) (ci := 8) (b := 29) (As := [.int (1 : Int32), .int (0 : Int32)]) (rest := []) (A := AA ad) ⟨hx, hb, hml, hown, htb⟩ (c_X8_weight l D ad cI hd σ τ η (1 : Int32) (0 : Int32) v1 g1) (cwV 2 htb (gdV (fun _ hh => hh) wML_RX8_198 wIM_yX8_weight wSE_yX8_weight wI_RX8 wC_yX8_weight) rfl rfl rfl hd_X8_weight ⟨by decide, by decide⟩) hK hP rfl w_29 (fun _ hh => hh) hS rfl hl.1 rfl (Nat.le_of_ble_eq_true rfl) dX8_partingOf_3 ⟨Nat.le_refl 0, Nat.le_refl 0⟩ (fun H locs hP hS => ?_)
  refine lv_lstore_n (lv' := [(1, .long v1), (0, .ref (ad 29))]) hx hb dX8_partingOf_6 rfl hl (by decide) rfl (fun ls hl => ?_)
  refine lv_aload_n hx hb dX8_partingOf_7 rfl (lv_at hl 1 rfl) ?_
  refine lv_iconst (v := (0 : Int32)) hx hb dX8_partingOf_8 (by decide) ?_
  refine lv_iconst (v := (0 : Int32)) hx hb dX8_partingOf_9 (by decide) ?_
  obtain ⟨v2, g2, h⟩ := ob h
  refine c_Vl (q := (RX8, TX8, 27)) (ci := 8) (b := 29) (As := [.int (0 : Int32), .int (0 : Int32)]) (rest := []) (A := AA ad) ⟨hx, hb, hml, hown, htb⟩ (c_X8_weight l D ad cI hd σ τ η (0 : Int32) (0 : Int32) v2 g2) (cwV 2 htb (gdV (fun _ hh => hh) wML_RX8_198 wIM_yX8_weight wSE_yX8_weight wI_RX8 wC_yX8_weight) rfl rfl rfl hd_X8_weight ⟨by decide, by decide⟩) hK hP rfl w_29 (fun _ hh => hh) hS rfl hl.1 rfl (Nat.le_of_ble_eq_true rfl) dX8_partingOf_10 ⟨Nat.le_refl 0, Nat.le_refl 0⟩ (fun H locs hP hS => ?_)
  refine lv_lstore_n (lv' := [(3, .long v2), (1, .long v1), (0, .ref (ad 29))]) hx hb dX8_partingOf_13 rfl hl (by decide) rfl (fun ls hl => ?_)
  refine lv_iconst (v := (-1 : Int32)) hx hb dX8_partingOf_14 (by decide) ?_
  refine lv_istore (lv' := [(5, .int (-1 : Int32)), (3, .long v2), (1, .long v1), (0, .ref (ad 29))]) hx hb dX8_partingOf_15 hl (by decide) rfl (fun ls hl => ?_)
  refine lv_lconst (v := (0 : Int64)) hx hb dX8_partingOf_17 rfl ?_
  refine lv_lstore (lv' := [(6, .long (0 : Int64)), (5, .int (-1 : Int32)), (3, .long v2), (1, .long v1), (0, .ref (ad 29))]) hx hb dX8_partingOf_18 hl (by decide) rfl (fun ls hl => ?_)
  refine lv_iconst (v := (0 : Int32)) hx hb dX8_partingOf_20 (by decide) ?_
  refine lv_istore (lv' := [(8, .int (0 : Int32)), (6, .long (0 : Int64)), (5, .int (-1 : Int32)), (3, .long v2), (1, .long v1), (0, .ref (ad 29))]) hx hb dX8_partingOf_21 hl (by decide) rfl (fun ls hl => ?_)
  obtain ⟨v3, hj3, h⟩ := ob h
  have K1 : ∀ (H : Heap) (locs : List Loc) (ls : Array Slot), WP D ad cI σ τ η H → va_S (AA ad) s.heap H locs → lv_has ls 15 [(5, .int v3.1)] → W p l e rmX8_partingOf s m args below meth c H locs 0 0 Q (F0 m 150 ls []) := by
    intro H locs ls hP hS hl
    refine lv_iload hx hb dX8_partingOf_150 (lv_at hl 0 rfl) ?_
    obtain rfl := Option.some.inj h
    exact ret _ _ _ _ _ dX8_partingOf_152 hP hS rfl
  have L1 : ∀ (n : Nat) (y1_5 : Int32) (y1_6 : Int64) (y1_8 : Int32) (H : Heap) (locs : List Loc) (ls : Array Slot), X8_partingOf_L1 n τ v1 v2 y1_5 y1_6 y1_8 = some v3 → WP D ad cI σ τ η H → va_S (AA ad) s.heap H locs → lv_has ls 15 [(0, .ref (ad 29)), (1, .long v1), (3, .long v2), (5, .int y1_5), (6, .long y1_6), (8, .int y1_8)] → W p l e rmX8_partingOf s m args below meth c H locs 0 0 Q (F0 m 23 ls []) := by
    intro n
    induction n with
    | zero => intro y1_5 y1_6 y1_8 H locs ls h; exact absurd h (by simp [X8_partingOf_L1])
    | succ n ih =>
      intro y1_5 y1_6 y1_8 H locs ls h hP hS hl
      replace h := (X8_partingOf_L1_s n τ v1 v2 y1_5 y1_6 y1_8).symm.trans h
      refine lv_iload hx hb dX8_partingOf_23 (lv_at hl 5 rfl) ?_
      refine lv_aload_n hx hb dX8_partingOf_25 rfl (lv_at hl 0 rfl) ?_
      refine va_get (D := D) (ci := 8) (v := .int (τ 29 18)) (C := RX8) (T := TX8) (N := 27) hx hb htb wu_8 hown hK.1 hP 29 w_29 rfl 18 (by decide) (htb _ wFL_RX8_189) (fun _ h9 => h9) rfl dX8_partingOf_26 ?_
      refine lv_icmp_ge (tgt := 150) hx hb dX8_partingOf_29 (by decide) (fun c4 => ?_) (fun c4 => ?_)
      · replace h := ip c4 h
        obtain rfl := Option.some.inj h
        exact K1 _ _ _ hP hS (lv_sub hl [3] rfl)
      · replace h := iq c4 h
        refine lv_aload_n hx hb dX8_partingOf_32 rfl (lv_at hl 0 rfl) ?_
        refine va_get (D := D) (ci := 8) (v := .ref (ad 42)) (C := RX8) (T := TX8) (N := 27) hx hb htb wu_8 hown hK.1 hP 29 w_29 rfl 19 (by decide) (htb _ wFL_RX8_46) (fun _ h9 => h9) rfl dX8_partingOf_33 ?_
        refine lv_iconst (v := (3 : Int32)) hx hb dX8_partingOf_36 (by decide) ?_
        refine lv_iload hx hb dX8_partingOf_37 (lv_at hl 5 rfl) ?_
        refine lv_imul hx hb dX8_partingOf_39 ?_
        refine lv_iconst (v := (2 : Int32)) hx hb dX8_partingOf_40 (by decide) ?_
        refine lv_iadd hx hb dX8_partingOf_41 ?_
        obtain ⟨v5, g5, h⟩ := ob h
        refine r_ald hx hb hK hP 42 w_42 g5 dX8_partingOf_42 ?_
        obtain ⟨v7, hj7, h⟩ := ob h
        have J7 : ∀ (H : Heap) (locs : List Loc) (ls : Array Slot), WP D ad cI σ τ η H → va_S (AA ad) s.heap H locs → lv_has ls 15 [(0, .ref (ad 29)), (1, .long v1), (3, .long v2), (5, .int v7.1), (6, .long v7.2), (8, .int y1_8)] → W p l e rmX8_partingOf s m args below meth c H locs 0 0 Q (F0 m 144 ls []) := by
          intro H locs ls hP hS hl
          refine lv_iinc (v := (y1_8 + (1 : Int32))) (lv' := [(8, .int (y1_8 + (1 : Int32))), (0, .ref (ad 29)), (1, .long v1), (3, .long v2), (5, .int v7.1), (6, .long v7.2)]) hx hb dX8_partingOf_144 hl (k := 5) rfl rfl (by decide) rfl (fun ls hl => ?_)
          refine lv_goto (tgt := 23) hx hb dX8_partingOf_147 (by decide) ?_
          exact ih v7.1 v7.2 (y1_8 + (1 : Int32)) _ _ _ h hP hS (lv_sub hl [1, 2, 3, 4, 5, 0] rfl)
        replace h := hj7
        refine lv_if_ne (tgt := 144) hx hb dX8_partingOf_43 (by decide) (fun c6 => ?_) (fun c6 => ?_)
        · replace h := iq c6 h
          obtain rfl := Option.some.inj h
          exact J7 _ _ _ hP hS (lv_sub hl [0, 1, 2, 3, 4, 5] rfl)
        · replace h := ip c6 h
          refine lv_aload_n hx hb dX8_partingOf_46 rfl (lv_at hl 0 rfl) ?_
          refine va_get (D := D) (ci := 8) (v := .ref (ad 42)) (C := RX8) (T := TX8) (N := 27) hx hb htb wu_8 hown hK.1 hP 29 w_29 rfl 19 (by decide) (htb _ wFL_RX8_46) (fun _ h9 => h9) rfl dX8_partingOf_47 ?_
          refine lv_iconst (v := (3 : Int32)) hx hb dX8_partingOf_50 (by decide) ?_
          refine lv_iload hx hb dX8_partingOf_51 (lv_at hl 5 rfl) ?_
          refine lv_imul hx hb dX8_partingOf_53 ?_
          obtain ⟨v8, g8, h⟩ := ob h
          refine r_ald hx hb hK hP 42 w_42 g8 dX8_partingOf_54 ?_
          refine lv_i2l (v := ((v8).toInt64)) hx hb dX8_partingOf_55 rfl ?_
          refine lv_lstore (lv' := [(9, .long ((v8).toInt64)), (0, .ref (ad 29)), (1, .long v1), (3, .long v2), (5, .int y1_5), (6, .long y1_6), (8, .int y1_8)]) hx hb dX8_partingOf_56 hl (by decide) rfl (fun ls hl => ?_)
          refine lv_aload_n hx hb dX8_partingOf_58 rfl (lv_at hl 1 rfl) ?_
          refine va_get (D := D) (ci := 8) (v := .ref (ad 42)) (C := RX8) (T := TX8) (N := 27) hx hb htb wu_8 hown hK.1 hP 29 w_29 rfl 19 (by decide) (htb _ wFL_RX8_46) (fun _ h9 => h9) rfl dX8_partingOf_59 ?_
          refine lv_iconst (v := (3 : Int32)) hx hb dX8_partingOf_62 (by decide) ?_
          refine lv_iload hx hb dX8_partingOf_63 (lv_at hl 6 rfl) ?_
          refine lv_imul hx hb dX8_partingOf_65 ?_
          refine lv_iconst (v := (1 : Int32)) hx hb dX8_partingOf_66 (by decide) ?_
          refine lv_iadd hx hb dX8_partingOf_67 ?_
          obtain ⟨v9, g9, h⟩ := ob h
          refine r_ald hx hb hK hP 42 w_42 g9 dX8_partingOf_68 ?_
          refine lv_i2l (v := ((v9).toInt64)) hx hb dX8_partingOf_69 rfl ?_
          refine lv_lstore (lv' := [(11, .long ((v9).toInt64)), (9, .long ((v8).toInt64)), (0, .ref (ad 29)), (1, .long v1), (3, .long v2), (5, .int y1_5), (6, .long y1_6), (8, .int y1_8)]) hx hb dX8_partingOf_70 hl (by decide) rfl (fun ls hl => ?_)
          refine lv_lload_n hx hb dX8_partingOf_72 rfl (lv_at hl 3 rfl) ?_
          refine lv_lload hx hb dX8_partingOf_73 (lv_at hl 1 rfl) ?_
          refine lv_lmul hx hb dX8_partingOf_75 ?_
          refine lv_lload_n hx hb dX8_partingOf_76 rfl (lv_at hl 4 rfl) ?_
          refine lv_lload hx hb dX8_partingOf_77 (lv_at hl 0 rfl) ?_
          refine lv_lmul hx hb dX8_partingOf_79 ?_
          obtain ⟨v10, g10, h⟩ := ol h
          refine c_Sl (As := [.long (v1 * ((v8).toInt64)), .long (v2 * ((v9).toInt64))]) (rest := []) (A := AA ad) ⟨hx, hb, hml, hown, htb⟩ (c_X8_lesser l D ad cI hd σ τ η (v1 * ((v8).toInt64)) (v2 * ((v9).toInt64)) v10 g10) (va_cwS 2 htb (gdS (fun _ hh => hh) wML_RX8_206 wST_yX8_lesser wI_RX8 wC_yX8_lesser) rfl rfl rfl hd_X8_lesser.2 ⟨by decide, by decide⟩) hK hP (fun _ hh => hh) hS rfl hl.1 rfl (Nat.le_of_ble_eq_true rfl) dX8_partingOf_80 ⟨Nat.le_refl 0, Nat.le_refl 0⟩ (fun H locs hP hS => ?_)
          refine lv_lload_n hx hb dX8_partingOf_83 rfl (lv_at hl 3 rfl) ?_
          refine lv_ldc2 (v := (10 : Int64)) hx hb hown (htb _ wKL_RX8_124) dX8_partingOf_84 ?_
          refine lv_lload hx hb dX8_partingOf_87 (lv_at hl 1 rfl) ?_
          refine lv_lsub hx hb dX8_partingOf_89 ?_
          refine lv_lmul hx hb dX8_partingOf_90 ?_
          refine lv_lload_n hx hb dX8_partingOf_91 rfl (lv_at hl 4 rfl) ?_
          refine lv_ldc2 (v := (10 : Int64)) hx hb hown (htb _ wKL_RX8_124) dX8_partingOf_92 ?_
          refine lv_lload hx hb dX8_partingOf_95 (lv_at hl 0 rfl) ?_
          refine lv_lsub hx hb dX8_partingOf_97 ?_
          refine lv_lmul hx hb dX8_partingOf_98 ?_
          obtain ⟨v11, g11, h⟩ := ol h
          refine c_Sl (As := [.long (v1 * ((10 : Int64) - ((v8).toInt64))), .long (v2 * ((10 : Int64) - ((v9).toInt64)))]) (rest := [.long v10]) (A := AA ad) ⟨hx, hb, hml, hown, htb⟩ (c_X8_lesser l D ad cI hd σ τ η (v1 * ((10 : Int64) - ((v8).toInt64))) (v2 * ((10 : Int64) - ((v9).toInt64))) v11 g11) (va_cwS 2 htb (gdS (fun _ hh => hh) wML_RX8_206 wST_yX8_lesser wI_RX8 wC_yX8_lesser) rfl rfl rfl hd_X8_lesser.2 ⟨by decide, by decide⟩) hK hP (fun _ hh => hh) hS rfl hl.1 rfl (Nat.le_of_ble_eq_true rfl) dX8_partingOf_99 ⟨Nat.le_refl 0, Nat.le_refl 0⟩ (fun H locs hP hS => ?_)
          refine lv_ladd hx hb dX8_partingOf_102 ?_
          refine lv_lstore (lv' := [(13, .long (v10 + v11)), (11, .long ((v9).toInt64)), (9, .long ((v8).toInt64)), (0, .ref (ad 29)), (1, .long v1), (3, .long v2), (5, .int y1_5), (6, .long y1_6), (8, .int y1_8)]) hx hb dX8_partingOf_103 hl (by decide) rfl (fun ls hl => ?_)
          refine lv_iload hx hb dX8_partingOf_105 (lv_at hl 6 rfl) ?_
          refine lv_iconst (v := (-1 : Int32)) hx hb dX8_partingOf_107 (by decide) ?_
          obtain ⟨v13, hj13, h⟩ := ol h
          have J13 : ∀ (H : Heap) (locs : List Loc) (ls : Array Slot), WP D ad cI σ τ η H → va_S (AA ad) s.heap H locs → lv_has ls 15 [(0, .ref (ad 29)), (1, .long v1), (3, .long v2), (6, .long y1_6), (8, .int y1_8), (13, .long (v10 + v11))] → W p l e rmX8_partingOf s m args below meth c H locs 0 0 Q (F0 m 126 ls [.int v13]) := by
            intro H locs ls hP hS hl
            refine lv_istore (lv' := [(5, .int v13), (0, .ref (ad 29)), (1, .long v1), (3, .long v2), (6, .long y1_6), (8, .int y1_8), (13, .long (v10 + v11))]) hx hb dX8_partingOf_126 hl (by decide) rfl (fun ls hl => ?_)
            refine lv_iload hx hb dX8_partingOf_128 (lv_at hl 0 rfl) ?_
            refine lv_iload hx hb dX8_partingOf_130 (lv_at hl 5 rfl) ?_
            obtain ⟨v16, hj16, h⟩ := ol h
            have J16 : ∀ (H : Heap) (locs : List Loc) (ls : Array Slot), WP D ad cI σ τ η H → va_S (AA ad) s.heap H locs → lv_has ls 15 [(0, .ref (ad 29)), (1, .long v1), (3, .long v2), (5, .int v13), (8, .int y1_8)] → W p l e rmX8_partingOf s m args below meth c H locs 0 0 Q (F0 m 142 ls [.long v16]) := by
              intro H locs ls hP hS hl
              refine lv_lstore (lv' := [(6, .long v16), (0, .ref (ad 29)), (1, .long v1), (3, .long v2), (5, .int v13), (8, .int y1_8)]) hx hb dX8_partingOf_142 hl (by decide) rfl (fun ls hl => ?_)
              obtain rfl := Option.some.inj h
              exact J7 _ _ _ hP hS (lv_sub hl [1, 2, 3, 4, 0, 5] rfl)
            replace h := hj16
            refine lv_icmp_ne (tgt := 140) hx hb dX8_partingOf_132 (by decide) (fun c15 => ?_) (fun c15 => ?_)
            · replace h := iq c15 h
              refine lv_lload hx hb dX8_partingOf_140 (lv_at hl 4 rfl) ?_
              subst h
              exact J16 _ _ _ hP hS (lv_sub hl [1, 2, 3, 0, 5] rfl)
            · replace h := ip c15 h
              refine lv_lload hx hb dX8_partingOf_135 (lv_at hl 6 rfl) ?_
              refine lv_goto (tgt := 142) hx hb dX8_partingOf_137 (by decide) ?_
              subst h
              exact J16 _ _ _ hP hS (lv_sub hl [1, 2, 3, 0, 5] rfl)
          replace h := hj13
          refine lv_icmp_eq (tgt := 119) hx hb dX8_partingOf_108 (by decide) (fun c12 => ?_) (fun c12 => ?_)
          · replace h := ip c12 h
            refine lv_iload hx hb dX8_partingOf_119 (lv_at hl 8 rfl) ?_
            refine lv_goto (tgt := 126) hx hb dX8_partingOf_121 (by decide) ?_
            subst h
            exact J13 _ _ _ hP hS (lv_sub hl [3, 4, 5, 7, 8, 0] rfl)
          · replace h := iq c12 h
            refine lv_lload hx hb dX8_partingOf_111 (lv_at hl 0 rfl) ?_
            refine lv_lload hx hb dX8_partingOf_113 (lv_at hl 7 rfl) ?_
            refine W.lcmp hx hb dX8_partingOf_115 ?_
            refine lv_if_ge (tgt := 124) hx hb dX8_partingOf_116 (by decide) (fun c14 => ?_) (fun c14 => ?_)
            · replace c14 := (lg_cmp_ge _ _).mp c14
              replace h := ip c14 h
              refine lv_iload hx hb dX8_partingOf_124 (lv_at hl 6 rfl) ?_
              subst h
              exact J13 _ _ _ hP hS (lv_sub hl [3, 4, 5, 7, 8, 0] rfl)
            · replace c14 := (not_congr (lg_cmp_ge _ _)).mp c14
              replace h := iq c14 h
              refine lv_iload hx hb dX8_partingOf_119 (lv_at hl 8 rfl) ?_
              refine lv_goto (tgt := 126) hx hb dX8_partingOf_121 (by decide) ?_
              subst h
              exact J13 _ _ _ hP hS (lv_sub hl [3, 4, 5, 7, 8, 0] rfl)
  exact L1 10000 (-1 : Int32) (0 : Int64) (0 : Int32) _ _ _ hj3 hP hS (lv_sub hl [5, 4, 3, 2, 1, 0] rfl)
def X8_parting (τ : St)  : Option (Int32) :=
  bd (X8_partingOf τ ) fun v1 =>
  some v1
abbrev rmX8_parting : Room := { frames := 3, cells := 0, slots := 0, locals := 86 }
set_option maxHeartbeats 4000000 in
set_option maxRecDepth 100000 in
theorem c_X8_parting (l : Launch) (D : va_G) (ad : Nat → Nat) (cI : ClassId) (hd : HD ad) (σ τ : St) (η : Int64)  (rr : Int32) (h : X8_parting τ  = some rr) : MI l yX8_parting (wy yX8_parting cX8_parting 1 (some .int)) rmX8_parting D ad cI [.ref (ad 29)] σ τ η rr σ τ η := by
  refine mk_i (own := RX8) (lv := [(0, .ref (ad 29))]) (plainFor_of_name (by decide)) rfl (Nat.le_of_ble_eq_true rfl) rfl ?_
  intro p e s m args below meth c Q ls hx hb hml hown htb hK ret hP hS hl
  unfold X8_parting at h
  refine lv_aload_n hx hb dX8_parting_0 rfl (lv_at hl 0 rfl) ?_
  obtain ⟨v1, g1, h⟩ := ob h
  refine c_Vi (q := (RX8, TX8, 27)) (ci := 8) (b := 29) (As := []) (rest := []) (A := AA ad) ⟨hx, hb, hml, hown, htb⟩ (c_X8_partingOf l D ad cI hd σ τ η  v1 g1) (cwV 0 htb (gdV (fun _ hh => hh) wML_RX8_210 wIM_yX8_partingOf wSE_yX8_partingOf wI_RX8 wC_yX8_partingOf) rfl rfl rfl hd_X8_partingOf ⟨by decide, by decide⟩) hK hP rfl w_29 (fun _ hh => hh) hS rfl hl.1 rfl (Nat.le_of_ble_eq_true rfl) dX8_parting_1 ⟨Nat.le_refl 0, Nat.le_refl 0⟩ (fun H locs hP hS => ?_)
  obtain rfl := Option.some.inj h
  exact ret _ _ _ _ _ dX8_parting_4 hP hS rfl
def X7_quiet  (x1 : Int32) (x2 : Int32) (x3 : Int32) (x4 : Int32) : Option (Int64) :=
  if x1 < (1 : Int32) then (
    some (-102 : Int64))
  else (
    if (9 : Int32) < x1 then (
      some (-102 : Int64))
    else (
      if x2 < 0 then (
        some (-102 : Int64))
      else (
        if (9 : Int32) < x2 then (
          some (-102 : Int64))
        else (
          lt (X7_isPart  x4) fun v5 =>
          if v5 = 0 then (
            some (-102 : Int64))
          else (
            if x3 < (1 : Int32) then (
              some (-102 : Int64))
            else (
              if (18 : Int32) < x3 then (
                some (-102 : Int64))
              else (
                if (x1 * x3) ≤ (18 : Int32) then (
                  bd (X7_power  ((10 : Int32) - x2) (x1 * x3)) fun v10 =>
                  bd (X7_power  (10 : Int32) (x1 * x3)) fun v11 =>
                  bd (X7_lowest  v10 v11 x4) fun v12 =>
                  some v12)
                else (
                  some (-102 : Int64)))))))))
abbrev rmX7_quiet : Room := { frames := 2, cells := 0, slots := 0, locals := 56 }
set_option maxHeartbeats 4000000 in
set_option maxRecDepth 100000 in
theorem c_X7_quiet (l : Launch) (D : va_G) (ad : Nat → Nat) (cI : ClassId) (hd : HD ad) (σ τ : St) (η : Int64) (x1 : Int32) (x2 : Int32) (x3 : Int32) (x4 : Int32) (rr : Int64) (h : X7_quiet  x1 x2 x3 x4 = some rr) : ML l yX7_quiet (wy yX7_quiet cX7_quiet 5 (some .long)) rmX7_quiet D ad cI [.ref (ad 0), .int x1, .int x2, .int x3, .int x4] σ τ η rr σ τ η := by
  refine mk_l (own := RX7) (lv := [(0, .ref (ad 0)), (1, .int x1), (2, .int x2), (3, .int x3), (4, .int x4)]) (plainFor_of_name (by decide)) rfl (Nat.le_of_ble_eq_true rfl) rfl ?_
  intro p e s m args below meth c Q ls hx hb hml hown htb hK ret hP hS hl
  unfold X7_quiet at h
  refine lv_iload_n hx hb dX7_quiet_0 rfl (lv_at hl 1 rfl) ?_
  refine lv_iconst (v := (1 : Int32)) hx hb dX7_quiet_1 (by decide) ?_
  refine lv_icmp_lt (tgt := 29) hx hb dX7_quiet_2 (by decide) (fun c1 => ?_) (fun c1 => ?_)
  · replace h := ip c1 h
    refine lv_ldc2 (v := (-102 : Int64)) hx hb hown (htb _ wKL_RX7_173) dX7_quiet_29 ?_
    obtain rfl := Option.some.inj h
    exact ret _ _ _ _ _ dX7_quiet_32 hP hS rfl
  · replace h := iq c1 h
    refine lv_iload_n hx hb dX7_quiet_5 rfl (lv_at hl 1 rfl) ?_
    refine lv_bipush (v := (9 : Int32)) hx hb dX7_quiet_6 (by decide) ?_
    refine lv_icmp_gt (tgt := 29) hx hb dX7_quiet_8 (by decide) (fun c2 => ?_) (fun c2 => ?_)
    · replace h := ip c2 h
      refine lv_ldc2 (v := (-102 : Int64)) hx hb hown (htb _ wKL_RX7_173) dX7_quiet_29 ?_
      obtain rfl := Option.some.inj h
      exact ret _ _ _ _ _ dX7_quiet_32 hP hS rfl
    · replace h := iq c2 h
      refine lv_iload_n hx hb dX7_quiet_11 rfl (lv_at hl 2 rfl) ?_
      refine lv_if_lt (tgt := 29) hx hb dX7_quiet_12 (by decide) (fun c3 => ?_) (fun c3 => ?_)
      · replace h := ip c3 h
        refine lv_ldc2 (v := (-102 : Int64)) hx hb hown (htb _ wKL_RX7_173) dX7_quiet_29 ?_
        obtain rfl := Option.some.inj h
        exact ret _ _ _ _ _ dX7_quiet_32 hP hS rfl
      · replace h := iq c3 h
        refine lv_iload_n hx hb dX7_quiet_15 rfl (lv_at hl 2 rfl) ?_
        refine lv_bipush (v := (9 : Int32)) hx hb dX7_quiet_16 (by decide) ?_
        refine lv_icmp_gt (tgt := 29) hx hb dX7_quiet_18 (by decide) (fun c4 => ?_) (fun c4 => ?_)
        · replace h := ip c4 h
          refine lv_ldc2 (v := (-102 : Int64)) hx hb hown (htb _ wKL_RX7_173) dX7_quiet_29 ?_
          obtain rfl := Option.some.inj h
          exact ret _ _ _ _ _ dX7_quiet_32 hP hS rfl
        · replace h := iq c4 h
          refine lv_iload hx hb dX7_quiet_21 (lv_at hl 4 rfl) ?_
          obtain ⟨v5, g5, h⟩ := ol h
          refine c_Sz (As := [.int x4]) (rest := []) (A := AA ad) ⟨hx, hb, hml, hown, htb⟩ (c_X7_isPart l D ad cI hd σ τ η x4 v5 g5) (va_cwS 1 htb (gdS (fun _ hh => hh) wML_RX7_170 wST_yX7_isPart wI_RX7 wC_yX7_isPart) rfl rfl rfl hd_X7_isPart.2 ⟨by decide, by decide⟩) hK hP (fun _ hh => hh) hS rfl hl.1 rfl (Nat.le_of_ble_eq_true rfl) dX7_quiet_23 ⟨Nat.le_refl 0, Nat.le_refl 0⟩ (fun H locs hz5 hP hS => ?_)
          refine lv_if_ne (tgt := 33) hx hb dX7_quiet_26 (by decide) (fun c6 => ?_) (fun c6 => ?_)
          · replace h := iq c6 h
            refine lv_iload_n hx hb dX7_quiet_33 rfl (lv_at hl 3 rfl) ?_
            refine lv_iconst (v := (1 : Int32)) hx hb dX7_quiet_34 (by decide) ?_
            refine lv_icmp_lt (tgt := 52) hx hb dX7_quiet_35 (by decide) (fun c7 => ?_) (fun c7 => ?_)
            · replace h := ip c7 h
              refine lv_ldc2 (v := (-102 : Int64)) hx hb hown (htb _ wKL_RX7_173) dX7_quiet_52 ?_
              obtain rfl := Option.some.inj h
              exact ret _ _ _ _ _ dX7_quiet_55 hP hS rfl
            · replace h := iq c7 h
              refine lv_iload_n hx hb dX7_quiet_38 rfl (lv_at hl 3 rfl) ?_
              refine lv_bipush (v := (18 : Int32)) hx hb dX7_quiet_39 (by decide) ?_
              refine lv_icmp_gt (tgt := 52) hx hb dX7_quiet_41 (by decide) (fun c8 => ?_) (fun c8 => ?_)
              · replace h := ip c8 h
                refine lv_ldc2 (v := (-102 : Int64)) hx hb hown (htb _ wKL_RX7_173) dX7_quiet_52 ?_
                obtain rfl := Option.some.inj h
                exact ret _ _ _ _ _ dX7_quiet_55 hP hS rfl
              · replace h := iq c8 h
                refine lv_iload_n hx hb dX7_quiet_44 rfl (lv_at hl 1 rfl) ?_
                refine lv_iload_n hx hb dX7_quiet_45 rfl (lv_at hl 3 rfl) ?_
                refine lv_imul hx hb dX7_quiet_46 ?_
                refine lv_bipush (v := (18 : Int32)) hx hb dX7_quiet_47 (by decide) ?_
                refine lv_icmp_le (tgt := 56) hx hb dX7_quiet_49 (by decide) (fun c9 => ?_) (fun c9 => ?_)
                · replace h := ip c9 h
                  refine lv_bipush (v := (10 : Int32)) hx hb dX7_quiet_56 (by decide) ?_
                  refine lv_iload_n hx hb dX7_quiet_58 rfl (lv_at hl 2 rfl) ?_
                  refine lv_isub hx hb dX7_quiet_59 ?_
                  refine lv_iload_n hx hb dX7_quiet_60 rfl (lv_at hl 1 rfl) ?_
                  refine lv_iload_n hx hb dX7_quiet_61 rfl (lv_at hl 3 rfl) ?_
                  refine lv_imul hx hb dX7_quiet_62 ?_
                  obtain ⟨v10, g10, h⟩ := ob h
                  refine c_Sl (As := [.int ((10 : Int32) - x2), .int (x1 * x3)]) (rest := []) (A := AA ad) ⟨hx, hb, hml, hown, htb⟩ (c_X7_power l D ad cI hd σ τ η ((10 : Int32) - x2) (x1 * x3) v10 g10) (va_cwS 2 htb (gdS (fun _ hh => hh) wML_RX7_268 wST_yX7_power wI_RX7 wC_yX7_power) rfl rfl rfl hd_X7_power.2 ⟨by decide, by decide⟩) hK hP (fun _ hh => hh) hS rfl hl.1 rfl (Nat.le_of_ble_eq_true rfl) dX7_quiet_63 ⟨Nat.le_refl 0, Nat.le_refl 0⟩ (fun H locs hP hS => ?_)
                  refine lv_bipush (v := (10 : Int32)) hx hb dX7_quiet_66 (by decide) ?_
                  refine lv_iload_n hx hb dX7_quiet_68 rfl (lv_at hl 1 rfl) ?_
                  refine lv_iload_n hx hb dX7_quiet_69 rfl (lv_at hl 3 rfl) ?_
                  refine lv_imul hx hb dX7_quiet_70 ?_
                  obtain ⟨v11, g11, h⟩ := ob h
                  refine c_Sl (As := [.int (10 : Int32), .int (x1 * x3)]) (rest := [.long v10]) (A := AA ad) ⟨hx, hb, hml, hown, htb⟩ (c_X7_power l D ad cI hd σ τ η (10 : Int32) (x1 * x3) v11 g11) (va_cwS 2 htb (gdS (fun _ hh => hh) wML_RX7_268 wST_yX7_power wI_RX7 wC_yX7_power) rfl rfl rfl hd_X7_power.2 ⟨by decide, by decide⟩) hK hP (fun _ hh => hh) hS rfl hl.1 rfl (Nat.le_of_ble_eq_true rfl) dX7_quiet_71 ⟨Nat.le_refl 0, Nat.le_refl 0⟩ (fun H locs hP hS => ?_)
                  refine lv_iload hx hb dX7_quiet_74 (lv_at hl 4 rfl) ?_
                  obtain ⟨v12, g12, h⟩ := ob h
                  refine c_Sl (As := [.long v10, .long v11, .int x4]) (rest := []) (A := AA ad) ⟨hx, hb, hml, hown, htb⟩ (c_X7_lowest l D ad cI hd σ τ η v10 v11 x4 v12 g12) (va_cwS 3 htb (gdS (fun _ hh => hh) wML_RX7_195 wST_yX7_lowest wI_RX7 wC_yX7_lowest) rfl rfl rfl hd_X7_lowest.2 ⟨by decide, by decide⟩) hK hP (fun _ hh => hh) hS rfl hl.1 rfl (Nat.le_of_ble_eq_true rfl) dX7_quiet_76 ⟨Nat.le_refl 0, Nat.le_refl 0⟩ (fun H locs hP hS => ?_)
                  obtain rfl := Option.some.inj h
                  exact ret _ _ _ _ _ dX7_quiet_79 hP hS rfl
                · replace h := iq c9 h
                  refine lv_ldc2 (v := (-102 : Int64)) hx hb hown (htb _ wKL_RX7_173) dX7_quiet_52 ?_
                  obtain rfl := Option.some.inj h
                  exact ret _ _ _ _ _ dX7_quiet_55 hP hS rfl
          · replace h := ip c6 h
            refine lv_ldc2 (v := (-102 : Int64)) hx hb hown (htb _ wKL_RX7_173) dX7_quiet_29 ?_
            obtain rfl := Option.some.inj h
            exact ret _ _ _ _ _ dX7_quiet_32 hP hS rfl
def X8_quiet_L1 (n : Nat) (u1_1 : Int32) (u1_2 : Int32) (u1_3 : Int32) (u1_4 : Int32) (y1_6 : Int64) (y1_8 : Int64) (y1_10 : Int32) : Option (Int64 × Int64 × Int32) := match n with
  | 0 => none
  | n + 1 =>
    if (u1_1 * u1_3) ≤ y1_10 then (
      some (y1_6, y1_8, y1_10))
    else (
      X8_quiet_L1 n u1_1 u1_2 u1_3 u1_4 (y1_6 * ((((10 : Int32) - u1_2)).toInt64)) (y1_8 * (10 : Int64)) (y1_10 + (1 : Int32)))
theorem X8_quiet_L1_s (n : Nat) (u1_1 : Int32) (u1_2 : Int32) (u1_3 : Int32) (u1_4 : Int32) (y1_6 : Int64) (y1_8 : Int64) (y1_10 : Int32) : X8_quiet_L1 (n + 1) u1_1 u1_2 u1_3 u1_4 y1_6 y1_8 y1_10 =
    if (u1_1 * u1_3) ≤ y1_10 then (
      some (y1_6, y1_8, y1_10))
    else (
      X8_quiet_L1 n u1_1 u1_2 u1_3 u1_4 (y1_6 * ((((10 : Int32) - u1_2)).toInt64)) (y1_8 * (10 : Int64)) (y1_10 + (1 : Int32))) := rfl
def X8_quiet  (x1 : Int32) (x2 : Int32) (x3 : Int32) (x4 : Int32) : Option (Int64) :=
  lt (X8_in  ((x1).toInt64) (1 : Int64) (9 : Int64)) fun v1 =>
  lt ((
      if v1 = 0 then (
        (0 : Int32))
      else (
        lt (X8_in  ((x2).toInt64) (0 : Int64) (9 : Int64)) fun v4 =>
        if v4 = 0 then (
          (0 : Int32))
        else (
          lt (X8_in  ((x3).toInt64) (1 : Int64) (18 : Int64)) fun v6 =>
          if v6 = 0 then (
            (0 : Int32))
          else (
            if (18 : Int32) < (x1 * x3) then (
              (0 : Int32))
            else (
              (1 : Int32)))))) : Int32) fun v3 =>
  if v3 = 0 then (
    some (-102 : Int64))
  else (
    lt (X8_isPart  x4) fun v10 =>
    if v10 = 0 then (
      some (-102 : Int64))
    else (
      bd (X8_quiet_L1 10000 x1 x2 x3 x4 (1 : Int64) (1 : Int64) (0 : Int32)) fun v12 =>
      bd (X8_term  v12.1 v12.2.1 x4) fun v14 =>
      some v14))
abbrev rmX8_quiet : Room := { frames := 2, cells := 0, slots := 0, locals := 45 }
set_option maxHeartbeats 4000000 in
set_option maxRecDepth 100000 in
theorem c_X8_quiet (l : Launch) (D : va_G) (ad : Nat → Nat) (cI : ClassId) (hd : HD ad) (σ τ : St) (η : Int64) (x1 : Int32) (x2 : Int32) (x3 : Int32) (x4 : Int32) (rr : Int64) (h : X8_quiet  x1 x2 x3 x4 = some rr) : ML l yX8_quiet (wy yX8_quiet cX8_quiet 11 (some .long)) rmX8_quiet D ad cI [.ref (ad 29), .int x1, .int x2, .int x3, .int x4] σ τ η rr σ τ η := by
  refine mk_l (own := RX8) (lv := [(0, .ref (ad 29)), (1, .int x1), (2, .int x2), (3, .int x3), (4, .int x4)]) (plainFor_of_name (by decide)) rfl (Nat.le_of_ble_eq_true rfl) rfl ?_
  intro p e s m args below meth c Q ls hx hb hml hown htb hK ret hP hS hl
  unfold X8_quiet at h
  refine lv_iload_n hx hb dX8_quiet_0 rfl (lv_at hl 1 rfl) ?_
  refine lv_i2l (v := ((x1).toInt64)) hx hb dX8_quiet_1 rfl ?_
  refine lv_lconst (v := (1 : Int64)) hx hb dX8_quiet_2 rfl ?_
  refine lv_ldc2 (v := (9 : Int64)) hx hb hown (htb _ wKL_RX8_100) dX8_quiet_3 ?_
  obtain ⟨v1, g1, h⟩ := ol h
  refine c_Sz (As := [.long ((x1).toInt64), .long (1 : Int64), .long (9 : Int64)]) (rest := []) (A := AA ad) ⟨hx, hb, hml, hown, htb⟩ (c_X8_in l D ad cI hd σ τ η ((x1).toInt64) (1 : Int64) (9 : Int64) v1 g1) (va_cwS 3 htb (gdS (fun _ hh => hh) wML_RX8_65 wST_yX8_in wI_RX8 wC_yX8_in) rfl rfl rfl hd_X8_in.2 ⟨by decide, by decide⟩) hK hP (fun _ hh => hh) hS rfl hl.1 rfl (Nat.le_of_ble_eq_true rfl) dX8_quiet_6 ⟨Nat.le_refl 0, Nat.le_refl 0⟩ (fun H locs hz1 hP hS => ?_)
  obtain ⟨v3, hj3, h⟩ := ol h
  have J3 : ∀ (H : Heap) (locs : List Loc) (ls : Array Slot), WP D ad cI σ τ η H → va_S (AA ad) s.heap H locs → lv_has ls 11 [(1, .int x1), (2, .int x2), (3, .int x3), (4, .int x4)] → W p l e rmX8_quiet s m args below meth c H locs 0 0 Q (F0 m 49 ls [.int v3]) := by
    intro H locs ls hP hS hl
    refine lv_istore (lv' := [(5, .int v3), (1, .int x1), (2, .int x2), (3, .int x3), (4, .int x4)]) hx hb dX8_quiet_49 hl (by decide) rfl (fun ls hl => ?_)
    refine lv_iload hx hb dX8_quiet_51 (lv_at hl 0 rfl) ?_
    refine lv_if_eq (tgt := 64) hx hb dX8_quiet_53 (by decide) (fun c9 => ?_) (fun c9 => ?_)
    · replace h := ip c9 h
      refine lv_ldc2 (v := (-102 : Int64)) hx hb hown (htb _ wKL_RX8_144) dX8_quiet_64 ?_
      obtain rfl := Option.some.inj h
      exact ret _ _ _ _ _ dX8_quiet_67 hP hS rfl
    · replace h := iq c9 h
      refine lv_iload hx hb dX8_quiet_56 (lv_at hl 4 rfl) ?_
      obtain ⟨v10, g10, h⟩ := ol h
      refine c_Sz (As := [.int x4]) (rest := []) (A := AA ad) ⟨hx, hb, hml, hown, htb⟩ (c_X8_isPart l D ad cI hd σ τ η x4 v10 g10) (va_cwS 1 htb (gdS (fun _ hh => hh) wML_RX8_137 wST_yX8_isPart wI_RX8 wC_yX8_isPart) rfl rfl rfl hd_X8_isPart.2 ⟨by decide, by decide⟩) hK hP (fun _ hh => hh) hS rfl hl.1 rfl (Nat.le_of_ble_eq_true rfl) dX8_quiet_58 ⟨Nat.le_refl 0, Nat.le_refl 0⟩ (fun H locs hz10 hP hS => ?_)
      refine lv_if_ne (tgt := 68) hx hb dX8_quiet_61 (by decide) (fun c11 => ?_) (fun c11 => ?_)
      · replace h := iq c11 h
        refine lv_lconst (v := (1 : Int64)) hx hb dX8_quiet_68 rfl ?_
        refine lv_lstore (lv' := [(6, .long (1 : Int64)), (5, .int v3), (1, .int x1), (2, .int x2), (3, .int x3), (4, .int x4)]) hx hb dX8_quiet_69 hl (by decide) rfl (fun ls hl => ?_)
        refine lv_lconst (v := (1 : Int64)) hx hb dX8_quiet_71 rfl ?_
        refine lv_lstore (lv' := [(8, .long (1 : Int64)), (6, .long (1 : Int64)), (5, .int v3), (1, .int x1), (2, .int x2), (3, .int x3), (4, .int x4)]) hx hb dX8_quiet_72 hl (by decide) rfl (fun ls hl => ?_)
        refine lv_iconst (v := (0 : Int32)) hx hb dX8_quiet_74 (by decide) ?_
        refine lv_istore (lv' := [(10, .int (0 : Int32)), (8, .long (1 : Int64)), (6, .long (1 : Int64)), (5, .int v3), (1, .int x1), (2, .int x2), (3, .int x3), (4, .int x4)]) hx hb dX8_quiet_75 hl (by decide) rfl (fun ls hl => ?_)
        obtain ⟨v12, hj12, h⟩ := ob h
        have K1 : ∀ (H : Heap) (locs : List Loc) (ls : Array Slot), WP D ad cI σ τ η H → va_S (AA ad) s.heap H locs → lv_has ls 11 [(4, .int x4), (6, .long v12.1), (8, .long v12.2.1)] → W p l e rmX8_quiet s m args below meth c H locs 0 0 Q (F0 m 109 ls []) := by
          intro H locs ls hP hS hl
          refine lv_lload hx hb dX8_quiet_109 (lv_at hl 1 rfl) ?_
          refine lv_lload hx hb dX8_quiet_111 (lv_at hl 2 rfl) ?_
          refine lv_iload hx hb dX8_quiet_113 (lv_at hl 0 rfl) ?_
          obtain ⟨v14, g14, h⟩ := ob h
          refine c_Sl (As := [.long v12.1, .long v12.2.1, .int x4]) (rest := []) (A := AA ad) ⟨hx, hb, hml, hown, htb⟩ (c_X8_term l D ad cI hd σ τ η v12.1 v12.2.1 x4 v14 g14) (va_cwS 3 htb (gdS (fun _ hh => hh) wML_RX8_133 wST_yX8_term wI_RX8 wC_yX8_term) rfl rfl rfl hd_X8_term.2 ⟨by decide, by decide⟩) hK hP (fun _ hh => hh) hS rfl hl.1 rfl (Nat.le_of_ble_eq_true rfl) dX8_quiet_115 ⟨Nat.le_refl 0, Nat.le_refl 0⟩ (fun H locs hP hS => ?_)
          obtain rfl := Option.some.inj h
          exact ret _ _ _ _ _ dX8_quiet_118 hP hS rfl
        have L1 : ∀ (n : Nat) (y1_6 : Int64) (y1_8 : Int64) (y1_10 : Int32) (H : Heap) (locs : List Loc) (ls : Array Slot), X8_quiet_L1 n x1 x2 x3 x4 y1_6 y1_8 y1_10 = some v12 → WP D ad cI σ τ η H → va_S (AA ad) s.heap H locs → lv_has ls 11 [(1, .int x1), (2, .int x2), (3, .int x3), (4, .int x4), (6, .long y1_6), (8, .long y1_8), (10, .int y1_10)] → W p l e rmX8_quiet s m args below meth c H locs 0 0 Q (F0 m 77 ls []) := by
          intro n
          induction n with
          | zero => intro y1_6 y1_8 y1_10 H locs ls h; exact absurd h (by simp [X8_quiet_L1])
          | succ n ih =>
            intro y1_6 y1_8 y1_10 H locs ls h hP hS hl
            replace h := (X8_quiet_L1_s n x1 x2 x3 x4 y1_6 y1_8 y1_10).symm.trans h
            refine lv_iload hx hb dX8_quiet_77 (lv_at hl 6 rfl) ?_
            refine lv_iload_n hx hb dX8_quiet_79 rfl (lv_at hl 0 rfl) ?_
            refine lv_iload_n hx hb dX8_quiet_80 rfl (lv_at hl 2 rfl) ?_
            refine lv_imul hx hb dX8_quiet_81 ?_
            refine lv_icmp_ge (tgt := 109) hx hb dX8_quiet_82 (by decide) (fun c13 => ?_) (fun c13 => ?_)
            · replace h := ip c13 h
              obtain rfl := Option.some.inj h
              exact K1 _ _ _ hP hS (lv_sub hl [3, 4, 5] rfl)
            · replace h := iq c13 h
              refine lv_lload hx hb dX8_quiet_85 (lv_at hl 4 rfl) ?_
              refine lv_bipush (v := (10 : Int32)) hx hb dX8_quiet_87 (by decide) ?_
              refine lv_iload_n hx hb dX8_quiet_89 rfl (lv_at hl 1 rfl) ?_
              refine lv_isub hx hb dX8_quiet_90 ?_
              refine lv_i2l (v := ((((10 : Int32) - x2)).toInt64)) hx hb dX8_quiet_91 rfl ?_
              refine lv_lmul hx hb dX8_quiet_92 ?_
              refine lv_lstore (lv' := [(6, .long (y1_6 * ((((10 : Int32) - x2)).toInt64))), (1, .int x1), (2, .int x2), (3, .int x3), (4, .int x4), (8, .long y1_8), (10, .int y1_10)]) hx hb dX8_quiet_93 hl (by decide) rfl (fun ls hl => ?_)
              refine lv_lload hx hb dX8_quiet_95 (lv_at hl 5 rfl) ?_
              refine lv_ldc2 (v := (10 : Int64)) hx hb hown (htb _ wKL_RX8_124) dX8_quiet_97 ?_
              refine lv_lmul hx hb dX8_quiet_100 ?_
              refine lv_lstore (lv' := [(8, .long (y1_8 * (10 : Int64))), (6, .long (y1_6 * ((((10 : Int32) - x2)).toInt64))), (1, .int x1), (2, .int x2), (3, .int x3), (4, .int x4), (10, .int y1_10)]) hx hb dX8_quiet_101 hl (by decide) rfl (fun ls hl => ?_)
              refine lv_iinc (v := (y1_10 + (1 : Int32))) (lv' := [(10, .int (y1_10 + (1 : Int32))), (8, .long (y1_8 * (10 : Int64))), (6, .long (y1_6 * ((((10 : Int32) - x2)).toInt64))), (1, .int x1), (2, .int x2), (3, .int x3), (4, .int x4)]) hx hb dX8_quiet_103 hl (k := 6) rfl rfl (by decide) rfl (fun ls hl => ?_)
              refine lv_goto (tgt := 77) hx hb dX8_quiet_106 (by decide) ?_
              exact ih (y1_6 * ((((10 : Int32) - x2)).toInt64)) (y1_8 * (10 : Int64)) (y1_10 + (1 : Int32)) _ _ _ h hP hS (lv_sub hl [3, 4, 5, 6, 2, 1, 0] rfl)
        exact L1 10000 (1 : Int64) (1 : Int64) (0 : Int32) _ _ _ hj12 hP hS (lv_sub hl [4, 5, 6, 7, 2, 1, 0] rfl)
      · replace h := ip c11 h
        refine lv_ldc2 (v := (-102 : Int64)) hx hb hown (htb _ wKL_RX8_144) dX8_quiet_64 ?_
        obtain rfl := Option.some.inj h
        exact ret _ _ _ _ _ dX8_quiet_67 hP hS rfl
  replace h := hj3
  refine lv_if_eq (tgt := 48) hx hb dX8_quiet_9 (by decide) (fun c2 => ?_) (fun c2 => ?_)
  · replace h := ip c2 h
    refine lv_iconst (v := (0 : Int32)) hx hb dX8_quiet_48 (by decide) ?_
    subst h
    exact J3 _ _ _ hP hS (lv_sub hl [1, 2, 3, 4] rfl)
  · replace h := iq c2 h
    refine lv_iload_n hx hb dX8_quiet_12 rfl (lv_at hl 2 rfl) ?_
    refine lv_i2l (v := ((x2).toInt64)) hx hb dX8_quiet_13 rfl ?_
    refine lv_lconst (v := (0 : Int64)) hx hb dX8_quiet_14 rfl ?_
    refine lv_ldc2 (v := (9 : Int64)) hx hb hown (htb _ wKL_RX8_100) dX8_quiet_15 ?_
    obtain ⟨v4, g4, h⟩ := ol h
    refine c_Sz (As := [.long ((x2).toInt64), .long (0 : Int64), .long (9 : Int64)]) (rest := []) (A := AA ad) ⟨hx, hb, hml, hown, htb⟩ (c_X8_in l D ad cI hd σ τ η ((x2).toInt64) (0 : Int64) (9 : Int64) v4 g4) (va_cwS 3 htb (gdS (fun _ hh => hh) wML_RX8_65 wST_yX8_in wI_RX8 wC_yX8_in) rfl rfl rfl hd_X8_in.2 ⟨by decide, by decide⟩) hK hP (fun _ hh => hh) hS rfl hl.1 rfl (Nat.le_of_ble_eq_true rfl) dX8_quiet_18 ⟨Nat.le_refl 0, Nat.le_refl 0⟩ (fun H locs hz4 hP hS => ?_)
    refine lv_if_eq (tgt := 48) hx hb dX8_quiet_21 (by decide) (fun c5 => ?_) (fun c5 => ?_)
    · replace h := ip c5 h
      refine lv_iconst (v := (0 : Int32)) hx hb dX8_quiet_48 (by decide) ?_
      subst h
      exact J3 _ _ _ hP hS (lv_sub hl [1, 2, 3, 4] rfl)
    · replace h := iq c5 h
      refine lv_iload_n hx hb dX8_quiet_24 rfl (lv_at hl 3 rfl) ?_
      refine lv_i2l (v := ((x3).toInt64)) hx hb dX8_quiet_25 rfl ?_
      refine lv_lconst (v := (1 : Int64)) hx hb dX8_quiet_26 rfl ?_
      refine lv_ldc2 (v := (18 : Int64)) hx hb hown (htb _ wKL_RX8_156) dX8_quiet_27 ?_
      obtain ⟨v6, g6, h⟩ := ol h
      refine c_Sz (As := [.long ((x3).toInt64), .long (1 : Int64), .long (18 : Int64)]) (rest := []) (A := AA ad) ⟨hx, hb, hml, hown, htb⟩ (c_X8_in l D ad cI hd σ τ η ((x3).toInt64) (1 : Int64) (18 : Int64) v6 g6) (va_cwS 3 htb (gdS (fun _ hh => hh) wML_RX8_65 wST_yX8_in wI_RX8 wC_yX8_in) rfl rfl rfl hd_X8_in.2 ⟨by decide, by decide⟩) hK hP (fun _ hh => hh) hS rfl hl.1 rfl (Nat.le_of_ble_eq_true rfl) dX8_quiet_30 ⟨Nat.le_refl 0, Nat.le_refl 0⟩ (fun H locs hz6 hP hS => ?_)
      refine lv_if_eq (tgt := 48) hx hb dX8_quiet_33 (by decide) (fun c7 => ?_) (fun c7 => ?_)
      · replace h := ip c7 h
        refine lv_iconst (v := (0 : Int32)) hx hb dX8_quiet_48 (by decide) ?_
        subst h
        exact J3 _ _ _ hP hS (lv_sub hl [1, 2, 3, 4] rfl)
      · replace h := iq c7 h
        refine lv_iload_n hx hb dX8_quiet_36 rfl (lv_at hl 1 rfl) ?_
        refine lv_iload_n hx hb dX8_quiet_37 rfl (lv_at hl 3 rfl) ?_
        refine lv_imul hx hb dX8_quiet_38 ?_
        refine lv_bipush (v := (18 : Int32)) hx hb dX8_quiet_39 (by decide) ?_
        refine lv_icmp_gt (tgt := 48) hx hb dX8_quiet_41 (by decide) (fun c8 => ?_) (fun c8 => ?_)
        · replace h := ip c8 h
          refine lv_iconst (v := (0 : Int32)) hx hb dX8_quiet_48 (by decide) ?_
          subst h
          exact J3 _ _ _ hP hS (lv_sub hl [1, 2, 3, 4] rfl)
        · replace h := iq c8 h
          refine lv_iconst (v := (1 : Int32)) hx hb dX8_quiet_44 (by decide) ?_
          refine lv_goto (tgt := 49) hx hb dX8_quiet_45 (by decide) ?_
          subst h
          exact J3 _ _ _ hP hS (lv_sub hl [1, 2, 3, 4] rfl)
