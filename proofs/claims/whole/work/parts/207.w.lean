def X7_whose (σ : St) (x1 : Int32) (x2 : Int32) : Option (Int64) :=
  lt (X0_has σ x1) fun v1 =>
  if v1 = 0 then (
    some (-101 : Int64))
  else (
    lt (X7_isPart  x2) fun v3 =>
    if v3 = 0 then (
      some (-102 : Int64))
    else (
      bd (X2_allWays σ ) fun v5 =>
      bd (X2_silentWays σ ) fun v6 =>
      if (v5 - v6) = (0 : Int64) then (
        some (-1 : Int64))
      else (
        bd (X2_firstSlipWays σ x1) fun v8 =>
        bd (X7_lowest  v8 (v5 - v6) x2) fun v9 =>
        some v9)))
abbrev rmX7_whose : Room := { frames := 3, cells := 0, slots := 0, locals := 72 }
set_option maxHeartbeats 4000000 in
set_option maxRecDepth 100000 in
theorem c_X7_whose (l : Launch) (D : va_G) (ad : Nat → Nat) (cI : ClassId) (hd : HD ad) (σ τ : St) (η : Int64) (x1 : Int32) (x2 : Int32) (rr : Int64) (h : X7_whose σ x1 x2 = some rr) : ML l yX7_whose (wy yX7_whose cX7_whose 5 (some .long)) rmX7_whose D ad cI [.ref (ad 0), .int x1, .int x2] σ τ η rr σ τ η := by
  refine mk_l (own := RX7) (lv := [(0, .ref (ad 0)), (1, .int x1), (2, .int x2)]) (plainFor_of_name (by decide)) rfl (Nat.le_of_ble_eq_true rfl) rfl ?_
  intro p e s m args below meth c Q ls hx hb hml hown htb hK ret hP hS hl
  unfold X7_whose at h
  refine lv_aload_n hx hb dX7_whose_0 rfl (lv_at hl 0 rfl) ?_
  refine va_get (D := D) (ci := 7) (v := .ref (ad 1)) (C := RX7) (T := TX7) (N := 11) hx hb htb wu_7 hown hK.1 hP 0 w_0 rfl 0 (by decide) (htb _ wFL_RX7_10) (fun _ h9 => h9) rfl dX7_whose_1 ?_
  refine lv_iload_n hx hb dX7_whose_4 rfl (lv_at hl 1 rfl) ?_
  obtain ⟨v1, g1, h⟩ := ol h
  refine c_Vz (q := (RX0, TX0, 6)) (ci := 0) (b := 1) (As := [.int x1]) (rest := []) (A := AA ad) ⟨hx, hb, hml, hown, htb⟩ (c_X0_has l D ad cI hd σ τ η x1 v1 g1) (cwV 1 htb (gdV (fun _ hh => hh) wML_RX7_84 wIM_yX0_has wSE_yX0_has wI_RX0 wC_yX0_has) rfl rfl rfl hd_X0_has ⟨by decide, by decide⟩) hK hP rfl w_1 (fun _ hh => hh) hS rfl hl.1 rfl (Nat.le_of_ble_eq_true rfl) dX7_whose_5 ⟨Nat.le_refl 0, Nat.le_refl 0⟩ (fun H locs hz1 hP hS => ?_)
  refine lv_if_ne (tgt := 15) hx hb dX7_whose_8 (by decide) (fun c2 => ?_) (fun c2 => ?_)
  · replace h := iq c2 h
    refine lv_iload_n hx hb dX7_whose_15 rfl (lv_at hl 2 rfl) ?_
    obtain ⟨v3, g3, h⟩ := ol h
    refine c_Sz (As := [.int x2]) (rest := []) (A := AA ad) ⟨hx, hb, hml, hown, htb⟩ (c_X7_isPart l D ad cI hd σ τ η x2 v3 g3) (va_cwS 1 htb (gdS (fun _ hh => hh) wML_RX7_170 wST_yX7_isPart wI_RX7 wC_yX7_isPart) rfl rfl rfl hd_X7_isPart.2 ⟨by decide, by decide⟩) hK hP (fun _ hh => hh) hS rfl hl.1 rfl (Nat.le_of_ble_eq_true rfl) dX7_whose_16 ⟨Nat.le_refl 0, Nat.le_refl 0⟩ (fun H locs hz3 hP hS => ?_)
    refine lv_if_ne (tgt := 26) hx hb dX7_whose_19 (by decide) (fun c4 => ?_) (fun c4 => ?_)
    · replace h := iq c4 h
      refine lv_aload_n hx hb dX7_whose_26 rfl (lv_at hl 0 rfl) ?_
      refine va_get (D := D) (ci := 7) (v := .ref (ad 10)) (C := RX7) (T := TX7) (N := 11) hx hb htb wu_7 hown hK.1 hP 0 w_0 rfl 3 (by decide) (htb _ wFL_RX7_33) (fun _ h9 => h9) rfl dX7_whose_27 ?_
      obtain ⟨v5, g5, h⟩ := ob h
      refine c_Vl (q := (RX2, TX2, 5)) (ci := 2) (b := 10) (As := []) (rest := []) (A := AA ad) ⟨hx, hb, hml, hown, htb⟩ (c_X2_allWays l D ad cI hd σ τ η  v5 g5) (cwV 0 htb (gdV (fun _ hh => hh) wML_RX7_185 wIM_yX2_allWays wSE_yX2_allWays wI_RX2 wC_yX2_allWays) rfl rfl rfl hd_X2_allWays ⟨by decide, by decide⟩) hK hP rfl w_10 (fun _ hh => hh) hS rfl hl.1 rfl (Nat.le_of_ble_eq_true rfl) dX7_whose_30 ⟨Nat.le_refl 0, Nat.le_refl 0⟩ (fun H locs hP hS => ?_)
      refine lv_aload_n hx hb dX7_whose_33 rfl (lv_at hl 0 rfl) ?_
      refine va_get (D := D) (ci := 7) (v := .ref (ad 10)) (C := RX7) (T := TX7) (N := 11) hx hb htb wu_7 hown hK.1 hP 0 w_0 rfl 3 (by decide) (htb _ wFL_RX7_33) (fun _ h9 => h9) rfl dX7_whose_34 ?_
      refine lv_aload_n hx hb dX7_whose_37 rfl (lv_at hl 0 rfl) ?_
      refine va_get (D := D) (ci := 7) (v := .ref (ad 6)) (C := RX7) (T := TX7) (N := 11) hx hb htb wu_7 hown hK.1 hP 0 w_0 rfl 1 (by decide) (htb _ wFL_RX7_19) (fun _ h9 => h9) rfl dX7_whose_38 ?_
      obtain ⟨v6, g6, h⟩ := ob h
      refine c_Vl (q := (RX2, TX2, 5)) (ci := 2) (b := 10) (As := [.ref (ad 6)]) (rest := [.long v5]) (A := AA ad) ⟨hx, hb, hml, hown, htb⟩ (c_X2_silentWays l D ad cI hd σ τ η  v6 g6) (cwV 1 htb (gdV (fun _ hh => hh) wML_RX7_175 wIM_yX2_silentWays wSE_yX2_silentWays wI_RX2 wC_yX2_silentWays) rfl rfl rfl hd_X2_silentWays ⟨by decide, by decide⟩) hK hP rfl w_10 (fun _ hh => hh) hS rfl hl.1 rfl (Nat.le_of_ble_eq_true rfl) dX7_whose_41 ⟨Nat.le_refl 0, Nat.le_refl 0⟩ (fun H locs hP hS => ?_)
      refine lv_lsub hx hb dX7_whose_44 ?_
      refine lv_lstore_n (lv' := [(3, .long (v5 - v6)), (0, .ref (ad 0)), (1, .int x1), (2, .int x2)]) hx hb dX7_whose_45 rfl hl (by decide) rfl (fun ls hl => ?_)
      refine lv_lload_n hx hb dX7_whose_46 rfl (lv_at hl 0 rfl) ?_
      refine lv_lconst (v := (0 : Int64)) hx hb dX7_whose_47 rfl ?_
      refine W.lcmp hx hb dX7_whose_48 ?_
      refine lv_if_ne (tgt := 56) hx hb dX7_whose_49 (by decide) (fun c7 => ?_) (fun c7 => ?_)
      · replace c7 := (not_congr (lg_cmp_eq _ _)).mp c7
        replace h := iq c7 h
        refine lv_aload_n hx hb dX7_whose_56 rfl (lv_at hl 1 rfl) ?_
        refine va_get (D := D) (ci := 7) (v := .ref (ad 10)) (C := RX7) (T := TX7) (N := 11) hx hb htb wu_7 hown hK.1 hP 0 w_0 rfl 3 (by decide) (htb _ wFL_RX7_33) (fun _ h9 => h9) rfl dX7_whose_57 ?_
        refine lv_iload_n hx hb dX7_whose_60 rfl (lv_at hl 2 rfl) ?_
        refine lv_aload_n hx hb dX7_whose_61 rfl (lv_at hl 1 rfl) ?_
        refine va_get (D := D) (ci := 7) (v := .ref (ad 6)) (C := RX7) (T := TX7) (N := 11) hx hb htb wu_7 hown hK.1 hP 0 w_0 rfl 1 (by decide) (htb _ wFL_RX7_19) (fun _ h9 => h9) rfl dX7_whose_62 ?_
        obtain ⟨v8, g8, h⟩ := ob h
        refine c_Vl (q := (RX2, TX2, 5)) (ci := 2) (b := 10) (As := [.int x1, .ref (ad 6)]) (rest := []) (A := AA ad) ⟨hx, hb, hml, hown, htb⟩ (c_X2_firstSlipWays l D ad cI hd σ τ η x1 v8 g8) (cwV 2 htb (gdV (fun _ hh => hh) wML_RX7_191 wIM_yX2_firstSlipWays wSE_yX2_firstSlipWays wI_RX2 wC_yX2_firstSlipWays) rfl rfl rfl hd_X2_firstSlipWays ⟨by decide, by decide⟩) hK hP rfl w_10 (fun _ hh => hh) hS rfl hl.1 rfl (Nat.le_of_ble_eq_true rfl) dX7_whose_65 ⟨Nat.le_refl 0, Nat.le_refl 0⟩ (fun H locs hP hS => ?_)
        refine lv_lload_n hx hb dX7_whose_68 rfl (lv_at hl 0 rfl) ?_
        refine lv_iload_n hx hb dX7_whose_69 rfl (lv_at hl 3 rfl) ?_
        obtain ⟨v9, g9, h⟩ := ob h
        refine c_Sl (As := [.long v8, .long (v5 - v6), .int x2]) (rest := []) (A := AA ad) ⟨hx, hb, hml, hown, htb⟩ (c_X7_lowest l D ad cI hd σ τ η v8 (v5 - v6) x2 v9 g9) (va_cwS 3 htb (gdS (fun _ hh => hh) wML_RX7_195 wST_yX7_lowest wI_RX7 wC_yX7_lowest) rfl rfl rfl hd_X7_lowest.2 ⟨by decide, by decide⟩) hK hP (fun _ hh => hh) hS rfl hl.1 rfl (Nat.le_of_ble_eq_true rfl) dX7_whose_70 ⟨Nat.le_refl 0, Nat.le_refl 0⟩ (fun H locs hP hS => ?_)
        obtain rfl := Option.some.inj h
        exact ret _ _ _ _ _ dX7_whose_73 hP hS rfl
      · replace c7 := (lg_cmp_eq _ _).mp c7
        replace h := ip c7 h
        refine lv_ldc2 (v := (-1 : Int64)) hx hb hown (htb _ wKL_RX7_189) dX7_whose_52 ?_
        obtain rfl := Option.some.inj h
        exact ret _ _ _ _ _ dX7_whose_55 hP hS rfl
    · replace h := ip c4 h
      refine lv_ldc2 (v := (-102 : Int64)) hx hb hown (htb _ wKL_RX7_173) dX7_whose_22 ?_
      obtain rfl := Option.some.inj h
      exact ret _ _ _ _ _ dX7_whose_25 hP hS rfl
  · replace h := ip c2 h
    refine lv_ldc2 (v := (-101 : Int64)) hx hb hown (htb _ wKL_RX7_183) dX7_whose_11 ?_
    obtain rfl := Option.some.inj h
    exact ret _ _ _ _ _ dX7_whose_14 hP hS rfl
def X8_firstOf_L2 (n : Nat) (τ_2 : St) (u2_1 : Int32) (u2_2 : Int64) (u2_4 : Int32) (y2_5 : Int64) (y2_7 : Int32) : Option (Int64 × Int32) := match n with
  | 0 => none
  | n + 1 =>
    if (τ_2 29 8) ≤ y2_7 then (
      some (y2_5, y2_7))
    else (
      bd ((
          if u2_4 ≤ y2_7 then (
            if y2_7 = u2_4 then (
              bd (X8_slips τ_2 y2_7) fun v11 =>
              some ((v11).toInt64))
            else (
              some (10 : Int64)))
          else (
            bd (X8_slips τ_2 y2_7) fun v12 =>
            some ((((10 : Int32) - v12)).toInt64))) : Option (Int64)) fun v9 =>
      X8_firstOf_L2 n τ_2 u2_1 u2_2 u2_4 (y2_5 * v9) (y2_7 + (1 : Int32)))
theorem X8_firstOf_L2_s (n : Nat) (τ_2 : St) (u2_1 : Int32) (u2_2 : Int64) (u2_4 : Int32) (y2_5 : Int64) (y2_7 : Int32) : X8_firstOf_L2 (n + 1) τ_2 u2_1 u2_2 u2_4 y2_5 y2_7 =
    if (τ_2 29 8) ≤ y2_7 then (
      some (y2_5, y2_7))
    else (
      bd ((
          if u2_4 ≤ y2_7 then (
            if y2_7 = u2_4 then (
              bd (X8_slips τ_2 y2_7) fun v11 =>
              some ((v11).toInt64))
            else (
              some (10 : Int64)))
          else (
            bd (X8_slips τ_2 y2_7) fun v12 =>
            some ((((10 : Int32) - v12)).toInt64))) : Option (Int64)) fun v9 =>
      X8_firstOf_L2 n τ_2 u2_1 u2_2 u2_4 (y2_5 * v9) (y2_7 + (1 : Int32))) := rfl
def X8_firstOf_L1 (n : Nat) (τ_1 : St) (u1_1 : Int32) (y1_2 : Int64) (y1_4 : Int32) : Option (Int64 × Int32) := match n with
  | 0 => none
  | n + 1 =>
    if (τ_1 29 8) ≤ y1_4 then (
      some (y1_2, y1_4))
    else (
      bd (rd (τ_1 36) 45 ((3 : Int32) * y1_4)) fun v3 =>
      bd ((
          if v3 = u1_1 then (
            bd (X8_firstOf_L2 10000 τ_1 u1_1 y1_2 y1_4 (1 : Int64) (0 : Int32)) fun v6 =>
            some (y1_2 + v6.1))
          else (
            some y1_2)) : Option (Int64)) fun v5 =>
      X8_firstOf_L1 n τ_1 u1_1 v5 (y1_4 + (1 : Int32)))
theorem X8_firstOf_L1_s (n : Nat) (τ_1 : St) (u1_1 : Int32) (y1_2 : Int64) (y1_4 : Int32) : X8_firstOf_L1 (n + 1) τ_1 u1_1 y1_2 y1_4 =
    if (τ_1 29 8) ≤ y1_4 then (
      some (y1_2, y1_4))
    else (
      bd (rd (τ_1 36) 45 ((3 : Int32) * y1_4)) fun v3 =>
      bd ((
          if v3 = u1_1 then (
            bd (X8_firstOf_L2 10000 τ_1 u1_1 y1_2 y1_4 (1 : Int64) (0 : Int32)) fun v6 =>
            some (y1_2 + v6.1))
          else (
            some y1_2)) : Option (Int64)) fun v5 =>
      X8_firstOf_L1 n τ_1 u1_1 v5 (y1_4 + (1 : Int32))) := rfl
def X8_firstOf (τ : St) (x1 : Int32) : Option (Int64) :=
  bd (X8_firstOf_L1 10000 τ x1 (0 : Int64) (0 : Int32)) fun v1 =>
  some v1.1
abbrev rmX8_firstOf : Room := { frames := 1, cells := 0, slots := 0, locals := 23 }
set_option maxHeartbeats 4000000 in
set_option maxRecDepth 100000 in
theorem c_X8_firstOf (l : Launch) (D : va_G) (ad : Nat → Nat) (cI : ClassId) (hd : HD ad) (σ τ : St) (η : Int64) (x1 : Int32) (rr : Int64) (h : X8_firstOf τ x1 = some rr) : ML l yX8_firstOf (wy yX8_firstOf cX8_firstOf 8 (some .long)) rmX8_firstOf D ad cI [.ref (ad 29), .int x1] σ τ η rr σ τ η := by
  refine mk_l (own := RX8) (lv := [(0, .ref (ad 29)), (1, .int x1)]) (plainFor_of_name (by decide)) rfl (Nat.le_of_ble_eq_true rfl) rfl ?_
  intro p e s m args below meth c Q ls hx hb hml hown htb hK ret hP hS hl
  unfold X8_firstOf at h
  refine lv_lconst (v := (0 : Int64)) hx hb dX8_firstOf_0 rfl ?_
  refine lv_lstore_n (lv' := [(2, .long (0 : Int64)), (0, .ref (ad 29)), (1, .int x1)]) hx hb dX8_firstOf_1 rfl hl (by decide) rfl (fun ls hl => ?_)
  refine lv_iconst (v := (0 : Int32)) hx hb dX8_firstOf_2 (by decide) ?_
  refine lv_istore (lv' := [(4, .int (0 : Int32)), (2, .long (0 : Int64)), (0, .ref (ad 29)), (1, .int x1)]) hx hb dX8_firstOf_3 hl (by decide) rfl (fun ls hl => ?_)
  obtain ⟨v1, hj1, h⟩ := ob h
  have K1 : ∀ (H : Heap) (locs : List Loc) (ls : Array Slot), WP D ad cI σ τ η H → va_S (AA ad) s.heap H locs → lv_has ls 8 [(2, .long v1.1)] → W p l e rmX8_firstOf s m args below meth c H locs 0 0 Q (F0 m 104 ls []) := by
    intro H locs ls hP hS hl
    refine lv_lload_n hx hb dX8_firstOf_104 rfl (lv_at hl 0 rfl) ?_
    obtain rfl := Option.some.inj h
    exact ret _ _ _ _ _ dX8_firstOf_105 hP hS rfl
  have L1 : ∀ (n : Nat) (y1_2 : Int64) (y1_4 : Int32) (H : Heap) (locs : List Loc) (ls : Array Slot), X8_firstOf_L1 n τ x1 y1_2 y1_4 = some v1 → WP D ad cI σ τ η H → va_S (AA ad) s.heap H locs → lv_has ls 8 [(0, .ref (ad 29)), (1, .int x1), (2, .long y1_2), (4, .int y1_4)] → W p l e rmX8_firstOf s m args below meth c H locs 0 0 Q (F0 m 5 ls []) := by
    intro n
    induction n with
    | zero => intro y1_2 y1_4 H locs ls h; exact absurd h (by simp [X8_firstOf_L1])
    | succ n ih =>
      intro y1_2 y1_4 H locs ls h hP hS hl
      replace h := (X8_firstOf_L1_s n τ x1 y1_2 y1_4).symm.trans h
      refine lv_iload hx hb dX8_firstOf_5 (lv_at hl 3 rfl) ?_
      refine lv_aload_n hx hb dX8_firstOf_7 rfl (lv_at hl 0 rfl) ?_
      refine va_get (D := D) (ci := 8) (v := .int (τ 29 8)) (C := RX8) (T := TX8) (N := 27) hx hb htb wu_8 hown hK.1 hP 29 w_29 rfl 8 (by decide) (htb _ wFL_RX8_109) (fun _ h9 => h9) rfl dX8_firstOf_8 ?_
      refine lv_icmp_ge (tgt := 104) hx hb dX8_firstOf_11 (by decide) (fun c2 => ?_) (fun c2 => ?_)
      · replace h := ip c2 h
        obtain rfl := Option.some.inj h
        exact K1 _ _ _ hP hS (lv_sub hl [2] rfl)
      · replace h := iq c2 h
        refine lv_aload_n hx hb dX8_firstOf_14 rfl (lv_at hl 0 rfl) ?_
        refine va_get (D := D) (ci := 8) (v := .ref (ad 36)) (C := RX8) (T := TX8) (N := 27) hx hb htb wu_8 hown hK.1 hP 29 w_29 rfl 10 (by decide) (htb _ wFL_RX8_28) (fun _ h9 => h9) rfl dX8_firstOf_15 ?_
        refine lv_iconst (v := (3 : Int32)) hx hb dX8_firstOf_18 (by decide) ?_
        refine lv_iload hx hb dX8_firstOf_19 (lv_at hl 3 rfl) ?_
        refine lv_imul hx hb dX8_firstOf_21 ?_
        obtain ⟨v3, g3, h⟩ := ob h
        refine r_ald hx hb hK hP 36 w_36 g3 dX8_firstOf_22 ?_
        refine lv_iload_n hx hb dX8_firstOf_23 rfl (lv_at hl 1 rfl) ?_
        obtain ⟨v5, hj5, h⟩ := ob h
        have J5 : ∀ (H : Heap) (locs : List Loc) (ls : Array Slot), WP D ad cI σ τ η H → va_S (AA ad) s.heap H locs → lv_has ls 8 [(0, .ref (ad 29)), (1, .int x1), (2, .long v5), (4, .int y1_4)] → W p l e rmX8_firstOf s m args below meth c H locs 0 0 Q (F0 m 98 ls []) := by
          intro H locs ls hP hS hl
          refine lv_iinc (v := (y1_4 + (1 : Int32))) (lv' := [(4, .int (y1_4 + (1 : Int32))), (0, .ref (ad 29)), (1, .int x1), (2, .long v5)]) hx hb dX8_firstOf_98 hl (k := 3) rfl rfl (by decide) rfl (fun ls hl => ?_)
          refine lv_goto (tgt := 5) hx hb dX8_firstOf_101 (by decide) ?_
          exact ih v5 (y1_4 + (1 : Int32)) _ _ _ h hP hS (lv_sub hl [1, 2, 3, 0] rfl)
        replace h := hj5
        refine lv_icmp_ne (tgt := 98) hx hb dX8_firstOf_24 (by decide) (fun c4 => ?_) (fun c4 => ?_)
        · replace h := iq c4 h
          obtain rfl := Option.some.inj h
          exact J5 _ _ _ hP hS (lv_sub hl [0, 1, 2, 3] rfl)
        · replace h := ip c4 h
          refine lv_lconst (v := (1 : Int64)) hx hb dX8_firstOf_27 rfl ?_
          refine lv_lstore (lv' := [(5, .long (1 : Int64)), (0, .ref (ad 29)), (1, .int x1), (2, .long y1_2), (4, .int y1_4)]) hx hb dX8_firstOf_28 hl (by decide) rfl (fun ls hl => ?_)
          refine lv_iconst (v := (0 : Int32)) hx hb dX8_firstOf_30 (by decide) ?_
          refine lv_istore (lv' := [(7, .int (0 : Int32)), (5, .long (1 : Int64)), (0, .ref (ad 29)), (1, .int x1), (2, .long y1_2), (4, .int y1_4)]) hx hb dX8_firstOf_31 hl (by decide) rfl (fun ls hl => ?_)
          obtain ⟨v6, hj6, h⟩ := ob h
          have K2 : ∀ (H : Heap) (locs : List Loc) (ls : Array Slot), WP D ad cI σ τ η H → va_S (AA ad) s.heap H locs → lv_has ls 8 [(0, .ref (ad 29)), (1, .int x1), (2, .long y1_2), (4, .int y1_4), (5, .long v6.1)] → W p l e rmX8_firstOf s m args below meth c H locs 0 0 Q (F0 m 93 ls []) := by
            intro H locs ls hP hS hl
            refine lv_lload_n hx hb dX8_firstOf_93 rfl (lv_at hl 2 rfl) ?_
            refine lv_lload hx hb dX8_firstOf_94 (lv_at hl 4 rfl) ?_
            refine lv_ladd hx hb dX8_firstOf_96 ?_
            refine lv_lstore_n (lv' := [(2, .long (y1_2 + v6.1)), (0, .ref (ad 29)), (1, .int x1), (4, .int y1_4), (5, .long v6.1)]) hx hb dX8_firstOf_97 rfl hl (by decide) rfl (fun ls hl => ?_)
            obtain rfl := Option.some.inj h
            exact J5 _ _ _ hP hS (lv_sub hl [1, 2, 0, 3] rfl)
          have L2 : ∀ (n : Nat) (y2_5 : Int64) (y2_7 : Int32) (H : Heap) (locs : List Loc) (ls : Array Slot), X8_firstOf_L2 n τ x1 y1_2 y1_4 y2_5 y2_7 = some v6 → WP D ad cI σ τ η H → va_S (AA ad) s.heap H locs → lv_has ls 8 [(0, .ref (ad 29)), (1, .int x1), (2, .long y1_2), (4, .int y1_4), (5, .long y2_5), (7, .int y2_7)] → W p l e rmX8_firstOf s m args below meth c H locs 0 0 Q (F0 m 33 ls []) := by
            intro n
            induction n with
            | zero => intro y2_5 y2_7 H locs ls h; exact absurd h (by simp [X8_firstOf_L2])
            | succ n ih =>
              intro y2_5 y2_7 H locs ls h hP hS hl
              replace h := (X8_firstOf_L2_s n τ x1 y1_2 y1_4 y2_5 y2_7).symm.trans h
              refine lv_iload hx hb dX8_firstOf_33 (lv_at hl 5 rfl) ?_
              refine lv_aload_n hx hb dX8_firstOf_35 rfl (lv_at hl 0 rfl) ?_
              refine va_get (D := D) (ci := 8) (v := .int (τ 29 8)) (C := RX8) (T := TX8) (N := 27) hx hb htb wu_8 hown hK.1 hP 29 w_29 rfl 8 (by decide) (htb _ wFL_RX8_109) (fun _ h9 => h9) rfl dX8_firstOf_36 ?_
              refine lv_icmp_ge (tgt := 93) hx hb dX8_firstOf_39 (by decide) (fun c7 => ?_) (fun c7 => ?_)
              · replace h := ip c7 h
                obtain rfl := Option.some.inj h
                exact K2 _ _ _ hP hS (lv_sub hl [0, 1, 2, 3, 4] rfl)
              · replace h := iq c7 h
                refine lv_lload hx hb dX8_firstOf_42 (lv_at hl 4 rfl) ?_
                refine lv_iload hx hb dX8_firstOf_44 (lv_at hl 5 rfl) ?_
                refine lv_iload hx hb dX8_firstOf_46 (lv_at hl 3 rfl) ?_
                obtain ⟨v9, hj9, h⟩ := ob h
                have J9 : ∀ (H : Heap) (locs : List Loc) (ls : Array Slot), WP D ad cI σ τ η H → va_S (AA ad) s.heap H locs → lv_has ls 8 [(0, .ref (ad 29)), (1, .int x1), (2, .long y1_2), (4, .int y1_4), (7, .int y2_7)] → W p l e rmX8_firstOf s m args below meth c H locs 0 0 Q (F0 m 84 ls [.long v9, .long y2_5]) := by
                  intro H locs ls hP hS hl
                  refine lv_lmul hx hb dX8_firstOf_84 ?_
                  refine lv_lstore (lv' := [(5, .long (y2_5 * v9)), (0, .ref (ad 29)), (1, .int x1), (2, .long y1_2), (4, .int y1_4), (7, .int y2_7)]) hx hb dX8_firstOf_85 hl (by decide) rfl (fun ls hl => ?_)
                  refine lv_iinc (v := (y2_7 + (1 : Int32))) (lv' := [(7, .int (y2_7 + (1 : Int32))), (5, .long (y2_5 * v9)), (0, .ref (ad 29)), (1, .int x1), (2, .long y1_2), (4, .int y1_4)]) hx hb dX8_firstOf_87 hl (k := 5) rfl rfl (by decide) rfl (fun ls hl => ?_)
                  refine lv_goto (tgt := 33) hx hb dX8_firstOf_90 (by decide) ?_
                  exact ih (y2_5 * v9) (y2_7 + (1 : Int32)) _ _ _ h hP hS (lv_sub hl [2, 3, 4, 5, 1, 0] rfl)
                replace h := hj9
                refine lv_icmp_ge (tgt := 64) hx hb dX8_firstOf_48 (by decide) (fun c8 => ?_) (fun c8 => ?_)
                · replace h := ip c8 h
                  refine lv_iload hx hb dX8_firstOf_64 (lv_at hl 5 rfl) ?_
                  refine lv_iload hx hb dX8_firstOf_66 (lv_at hl 3 rfl) ?_
                  refine lv_icmp_ne (tgt := 81) hx hb dX8_firstOf_68 (by decide) (fun c10 => ?_) (fun c10 => ?_)
                  · replace h := iq c10 h
                    refine lv_ldc2 (v := (10 : Int64)) hx hb hown (htb _ wKL_RX8_124) dX8_firstOf_81 ?_
                    obtain rfl := Option.some.inj h
                    exact J9 _ _ _ hP hS (lv_sub hl [0, 1, 2, 3, 5] rfl)
                  · replace h := ip c10 h
                    refine lv_aload_n hx hb dX8_firstOf_71 rfl (lv_at hl 0 rfl) ?_
                    refine lv_iload hx hb dX8_firstOf_72 (lv_at hl 5 rfl) ?_
                    obtain ⟨v11, g11, h⟩ := ob h
                    refine c_Vi (q := (RX8, TX8, 27)) (ci := 8) (b := 29) (As := [.int y2_7]) (rest := [.long y2_5]) (A := AA ad) ⟨hx, hb, hml, hown, htb⟩ (c_X8_slips l D ad cI hd σ τ η y2_7 v11 g11) (cwV 1 htb (gdV (fun _ hh => hh) wML_RX8_115 wIM_yX8_slips wSE_yX8_slips wI_RX8 wC_yX8_slips) rfl rfl rfl hd_X8_slips ⟨by decide, by decide⟩) hK hP rfl w_29 (fun _ hh => hh) hS rfl hl.1 rfl (Nat.le_of_ble_eq_true rfl) dX8_firstOf_74 ⟨Nat.le_refl 0, Nat.le_refl 0⟩ (fun H locs hP hS => ?_)
                    refine lv_i2l (v := ((v11).toInt64)) hx hb dX8_firstOf_77 rfl ?_
                    refine lv_goto (tgt := 84) hx hb dX8_firstOf_78 (by decide) ?_
                    obtain rfl := Option.some.inj h
                    exact J9 _ _ _ hP hS (lv_sub hl [0, 1, 2, 3, 5] rfl)
                · replace h := iq c8 h
                  refine lv_bipush (v := (10 : Int32)) hx hb dX8_firstOf_51 (by decide) ?_
                  refine lv_aload_n hx hb dX8_firstOf_53 rfl (lv_at hl 0 rfl) ?_
                  refine lv_iload hx hb dX8_firstOf_54 (lv_at hl 5 rfl) ?_
                  obtain ⟨v12, g12, h⟩ := ob h
                  refine c_Vi (q := (RX8, TX8, 27)) (ci := 8) (b := 29) (As := [.int y2_7]) (rest := [.int (10 : Int32), .long y2_5]) (A := AA ad) ⟨hx, hb, hml, hown, htb⟩ (c_X8_slips l D ad cI hd σ τ η y2_7 v12 g12) (cwV 1 htb (gdV (fun _ hh => hh) wML_RX8_115 wIM_yX8_slips wSE_yX8_slips wI_RX8 wC_yX8_slips) rfl rfl rfl hd_X8_slips ⟨by decide, by decide⟩) hK hP rfl w_29 (fun _ hh => hh) hS rfl hl.1 rfl (Nat.le_of_ble_eq_true rfl) dX8_firstOf_56 ⟨Nat.le_refl 0, Nat.le_refl 0⟩ (fun H locs hP hS => ?_)
                  refine lv_isub hx hb dX8_firstOf_59 ?_
                  refine lv_i2l (v := ((((10 : Int32) - v12)).toInt64)) hx hb dX8_firstOf_60 rfl ?_
                  refine lv_goto (tgt := 84) hx hb dX8_firstOf_61 (by decide) ?_
                  obtain rfl := Option.some.inj h
                  exact J9 _ _ _ hP hS (lv_sub hl [0, 1, 2, 3, 5] rfl)
          exact L2 10000 (1 : Int64) (0 : Int32) _ _ _ hj6 hP hS (lv_sub hl [2, 3, 4, 5, 1, 0] rfl)
  exact L1 10000 (0 : Int64) (0 : Int32) _ _ _ hj1 hP hS (lv_sub hl [2, 3, 1, 0] rfl)
def X8_whose (τ : St) (x1 : Int32) (x2 : Int32) : Option (Int64 × St) :=
  lt (X8_isGuest τ x1) fun v1 =>
  if v1 = 0 then (
    some ((-101 : Int64), τ))
  else (
    lt (X8_isPart  x2) fun v3 =>
    if v3 = 0 then (
      some ((-102 : Int64), τ))
    else (
      bd (X8_reckon τ ) fun v5 =>
      bd (X8_whole v5 ) fun v6 =>
      bd (X8_silent v5 ) fun v7 =>
      if (v6 - v7) = (0 : Int64) then (
        some ((-1 : Int64), v5))
      else (
        bd (X8_firstOf v5 x1) fun v9 =>
        bd (X8_term  v9 (v6 - v7) x2) fun v10 =>
        some (v10, v5))))
abbrev rmX8_whose : Room := { frames := 3, cells := 0, slots := 0, locals := 68 }
set_option maxHeartbeats 4000000 in
set_option maxRecDepth 100000 in
theorem c_X8_whose (l : Launch) (D : va_G) (ad : Nat → Nat) (cI : ClassId) (hd : HD ad) (σ τ : St) (η : Int64) (x1 : Int32) (x2 : Int32) (rr : Int64 × St) (h : X8_whose τ x1 x2 = some rr) : ML l yX8_whose (wy yX8_whose cX8_whose 5 (some .long)) rmX8_whose D ad cI [.ref (ad 29), .int x1, .int x2] σ τ η rr.1 σ rr.2 η := by
  refine mk_l (own := RX8) (lv := [(0, .ref (ad 29)), (1, .int x1), (2, .int x2)]) (plainFor_of_name (by decide)) rfl (Nat.le_of_ble_eq_true rfl) rfl ?_
  intro p e s m args below meth c Q ls hx hb hml hown htb hK ret hP hS hl
  unfold X8_whose at h
  refine lv_aload_n hx hb dX8_whose_0 rfl (lv_at hl 0 rfl) ?_
  refine lv_iload_n hx hb dX8_whose_1 rfl (lv_at hl 1 rfl) ?_
  obtain ⟨v1, g1, h⟩ := ol h
  refine c_Vz (q := (RX8, TX8, 27)) (ci := 8) (b := 29) (As := [.int x1]) (rest := []) (A := AA ad) ⟨hx, hb, hml, hown, htb⟩ (c_X8_isGuest l D ad cI hd σ τ η x1 v1 g1) (cwV 1 htb (gdV (fun _ hh => hh) wML_RX8_88 wIM_yX8_isGuest wSE_yX8_isGuest wI_RX8 wC_yX8_isGuest) rfl rfl rfl hd_X8_isGuest ⟨by decide, by decide⟩) hK hP rfl w_29 (fun _ hh => hh) hS rfl hl.1 rfl (Nat.le_of_ble_eq_true rfl) dX8_whose_2 ⟨Nat.le_refl 0, Nat.le_refl 0⟩ (fun H locs hz1 hP hS => ?_)
  refine lv_if_ne (tgt := 12) hx hb dX8_whose_5 (by decide) (fun c2 => ?_) (fun c2 => ?_)
  · replace h := iq c2 h
    refine lv_iload_n hx hb dX8_whose_12 rfl (lv_at hl 2 rfl) ?_
    obtain ⟨v3, g3, h⟩ := ol h
    refine c_Sz (As := [.int x2]) (rest := []) (A := AA ad) ⟨hx, hb, hml, hown, htb⟩ (c_X8_isPart l D ad cI hd σ τ η x2 v3 g3) (va_cwS 1 htb (gdS (fun _ hh => hh) wML_RX8_137 wST_yX8_isPart wI_RX8 wC_yX8_isPart) rfl rfl rfl hd_X8_isPart.2 ⟨by decide, by decide⟩) hK hP (fun _ hh => hh) hS rfl hl.1 rfl (Nat.le_of_ble_eq_true rfl) dX8_whose_13 ⟨Nat.le_refl 0, Nat.le_refl 0⟩ (fun H locs hz3 hP hS => ?_)
    refine lv_if_ne (tgt := 23) hx hb dX8_whose_16 (by decide) (fun c4 => ?_) (fun c4 => ?_)
    · replace h := iq c4 h
      refine lv_aload_n hx hb dX8_whose_23 rfl (lv_at hl 0 rfl) ?_
      obtain ⟨v5, g5, h⟩ := ob h
      refine c_Vv (q := (RX8, TX8, 27)) (ci := 8) (b := 29) (As := []) (rest := []) (A := AA ad) ⟨hx, hb, hml, hown, htb⟩ (c_X8_reckon l D ad cI hd σ τ η  v5 g5) (cwV 0 htb (gdV (fun _ hh => hh) wML_RX8_85 wIM_yX8_reckon wSE_yX8_reckon wI_RX8 wC_yX8_reckon) rfl rfl rfl hd_X8_reckon ⟨by decide, by decide⟩) hK hP rfl w_29 (fun _ hh => hh) hS rfl hl.1 rfl (Nat.le_of_ble_eq_true rfl) dX8_whose_24 ⟨Nat.le_refl 0, Nat.le_refl 0⟩ (fun H locs hP hS => ?_)
      refine lv_aload_n hx hb dX8_whose_27 rfl (lv_at hl 0 rfl) ?_
      obtain ⟨v6, g6, h⟩ := ob h
      refine c_Vl (q := (RX8, TX8, 27)) (ci := 8) (b := 29) (As := []) (rest := []) (A := AA ad) ⟨hx, hb, hml, hown, htb⟩ (c_X8_whole l D ad cI hd σ v5 η  v6 g6) (cwV 0 htb (gdV (fun _ hh => hh) wML_RX8_126 wIM_yX8_whole wSE_yX8_whole wI_RX8 wC_yX8_whole) rfl rfl rfl hd_X8_whole ⟨by decide, by decide⟩) hK hP rfl w_29 (fun _ hh => hh) hS rfl hl.1 rfl (Nat.le_of_ble_eq_true rfl) dX8_whose_28 ⟨Nat.le_refl 0, Nat.le_refl 0⟩ (fun H locs hP hS => ?_)
      refine lv_aload_n hx hb dX8_whose_31 rfl (lv_at hl 0 rfl) ?_
      obtain ⟨v7, g7, h⟩ := ob h
      refine c_Vl (q := (RX8, TX8, 27)) (ci := 8) (b := 29) (As := []) (rest := [.long v6]) (A := AA ad) ⟨hx, hb, hml, hown, htb⟩ (c_X8_silent l D ad cI hd σ v5 η  v7 g7) (cwV 0 htb (gdV (fun _ hh => hh) wML_RX8_130 wIM_yX8_silent wSE_yX8_silent wI_RX8 wC_yX8_silent) rfl rfl rfl hd_X8_silent ⟨by decide, by decide⟩) hK hP rfl w_29 (fun _ hh => hh) hS rfl hl.1 rfl (Nat.le_of_ble_eq_true rfl) dX8_whose_32 ⟨Nat.le_refl 0, Nat.le_refl 0⟩ (fun H locs hP hS => ?_)
      refine lv_lsub hx hb dX8_whose_35 ?_
      refine lv_lstore_n (lv' := [(3, .long (v6 - v7)), (0, .ref (ad 29)), (1, .int x1), (2, .int x2)]) hx hb dX8_whose_36 rfl hl (by decide) rfl (fun ls hl => ?_)
      refine lv_lload_n hx hb dX8_whose_37 rfl (lv_at hl 0 rfl) ?_
      refine lv_lconst (v := (0 : Int64)) hx hb dX8_whose_38 rfl ?_
      refine W.lcmp hx hb dX8_whose_39 ?_
      refine lv_if_ne (tgt := 49) hx hb dX8_whose_40 (by decide) (fun c8 => ?_) (fun c8 => ?_)
      · replace c8 := (not_congr (lg_cmp_eq _ _)).mp c8
        replace h := iq c8 h
        refine lv_aload_n hx hb dX8_whose_49 rfl (lv_at hl 1 rfl) ?_
        refine lv_iload_n hx hb dX8_whose_50 rfl (lv_at hl 2 rfl) ?_
        obtain ⟨v9, g9, h⟩ := ob h
        refine c_Vl (q := (RX8, TX8, 27)) (ci := 8) (b := 29) (As := [.int x1]) (rest := []) (A := AA ad) ⟨hx, hb, hml, hown, htb⟩ (c_X8_firstOf l D ad cI hd σ v5 η x1 v9 g9) (cwV 1 htb (gdV (fun _ hh => hh) wML_RX8_150 wIM_yX8_firstOf wSE_yX8_firstOf wI_RX8 wC_yX8_firstOf) rfl rfl rfl hd_X8_firstOf ⟨by decide, by decide⟩) hK hP rfl w_29 (fun _ hh => hh) hS rfl hl.1 rfl (Nat.le_of_ble_eq_true rfl) dX8_whose_51 ⟨Nat.le_refl 0, Nat.le_refl 0⟩ (fun H locs hP hS => ?_)
        refine lv_lload_n hx hb dX8_whose_54 rfl (lv_at hl 0 rfl) ?_
        refine lv_iload_n hx hb dX8_whose_55 rfl (lv_at hl 3 rfl) ?_
        obtain ⟨v10, g10, h⟩ := ob h
        refine c_Sl (As := [.long v9, .long (v6 - v7), .int x2]) (rest := []) (A := AA ad) ⟨hx, hb, hml, hown, htb⟩ (c_X8_term l D ad cI hd σ v5 η v9 (v6 - v7) x2 v10 g10) (va_cwS 3 htb (gdS (fun _ hh => hh) wML_RX8_133 wST_yX8_term wI_RX8 wC_yX8_term) rfl rfl rfl hd_X8_term.2 ⟨by decide, by decide⟩) hK hP (fun _ hh => hh) hS rfl hl.1 rfl (Nat.le_of_ble_eq_true rfl) dX8_whose_56 ⟨Nat.le_refl 0, Nat.le_refl 0⟩ (fun H locs hP hS => ?_)
        obtain rfl := Option.some.inj h
        exact ret _ _ _ _ _ dX8_whose_59 hP hS rfl
      · replace c8 := (lg_cmp_eq _ _).mp c8
        replace h := ip c8 h
        refine lv_ldc2 (v := (-1 : Int64)) hx hb hown (htb _ wKL_RX8_148) dX8_whose_43 ?_
        refine lv_goto (tgt := 59) hx hb dX8_whose_46 (by decide) ?_
        obtain rfl := Option.some.inj h
        exact ret _ _ _ _ _ dX8_whose_59 hP hS rfl
    · replace h := ip c4 h
      refine lv_ldc2 (v := (-102 : Int64)) hx hb hown (htb _ wKL_RX8_144) dX8_whose_19 ?_
      obtain rfl := Option.some.inj h
      exact ret _ _ _ _ _ dX8_whose_22 hP hS rfl
  · replace h := ip c2 h
    refine lv_ldc2 (v := (-101 : Int64)) hx hb hown (htb _ wKL_RX8_146) dX8_whose_8 ?_
    obtain rfl := Option.some.inj h
    exact ret _ _ _ _ _ dX8_whose_11 hP hS rfl
def X7_right_L1 (n : Nat) (σ_1 : St) (y1_1 : Int32) : Option ((Int32) ⊕ (Int32)) := match n with
  | 0 => none
  | n + 1 =>
    lt (X0_size σ_1 ) fun v2 =>
    if v2 ≤ y1_1 then (
      some (Sum.inr y1_1))
    else (
      bd (X0_isA σ_1 y1_1 (2 : Int32)) fun v4 =>
      if v4 = 0 then (
        X7_right_L1 n σ_1 (y1_1 + (1 : Int32)))
      else (
        bd (X0_byOf σ_1 y1_1) fun v6 =>
        bd (X6_knows σ_1 y1_1 v6) fun v7 =>
        if v7 = 0 then (
          some (Sum.inl (0 : Int32)))
        else (
          X7_right_L1 n σ_1 (y1_1 + (1 : Int32)))))
theorem X7_right_L1_s (n : Nat) (σ_1 : St) (y1_1 : Int32) : X7_right_L1 (n + 1) σ_1 y1_1 =
    lt (X0_size σ_1 ) fun v2 =>
    if v2 ≤ y1_1 then (
      some (Sum.inr y1_1))
    else (
      bd (X0_isA σ_1 y1_1 (2 : Int32)) fun v4 =>
      if v4 = 0 then (
        X7_right_L1 n σ_1 (y1_1 + (1 : Int32)))
      else (
        bd (X0_byOf σ_1 y1_1) fun v6 =>
        bd (X6_knows σ_1 y1_1 v6) fun v7 =>
        if v7 = 0 then (
          some (Sum.inl (0 : Int32)))
        else (
          X7_right_L1 n σ_1 (y1_1 + (1 : Int32))))) := rfl
def X7_right (σ : St)  : Option (Int32) :=
  bd (X7_right_L1 10000 σ (0 : Int32)) fun v1 => Sum.elim (fun q => some q) (fun w9 =>
    some (1 : Int32)) v1
abbrev rmX7_right : Room := { frames := 3, cells := 0, slots := 0, locals := 65 }
set_option maxHeartbeats 4000000 in
set_option maxRecDepth 100000 in
theorem c_X7_right (l : Launch) (D : va_G) (ad : Nat → Nat) (cI : ClassId) (hd : HD ad) (σ τ : St) (η : Int64)  (rr : Int32) (h : X7_right σ  = some rr) : MI l yX7_right (wy yX7_right cX7_right 2 (some .int)) rmX7_right D ad cI [.ref (ad 0)] σ τ η rr σ τ η := by
  refine mk_i (own := RX7) (lv := [(0, .ref (ad 0))]) (plainFor_of_name (by decide)) rfl (Nat.le_of_ble_eq_true rfl) rfl ?_
  intro p e s m args below meth c Q ls hx hb hml hown htb hK ret hP hS hl
  unfold X7_right at h
  refine lv_iconst (v := (0 : Int32)) hx hb dX7_right_0 (by decide) ?_
  refine lv_istore_n (lv' := [(1, .int (0 : Int32)), (0, .ref (ad 0))]) hx hb dX7_right_1 rfl hl (by decide) rfl (fun ls hl => ?_)
  obtain ⟨v1, hj1, h⟩ := ob h
  have KR1 : ∀ q, v1 = Sum.inl q → rr = q := fun q e8 => by
    rw [e8] at h
    exact (Option.some.inj h).symm
  have K1 : ∀ w9, v1 = Sum.inr w9 → ∀ (H : Heap) (locs : List Loc) (ls : Array Slot), WP D ad cI σ τ η H → va_S (AA ad) s.heap H locs → lv_has ls 2 [] → W p l e rmX7_right s m args below meth c H locs 0 0 Q (F0 m 52 ls []) := by
    intro w9 e8 H locs ls hP hS hl
    rw [e8] at h
    replace h : (    some (1 : Int32)) = some rr := h
    refine lv_iconst (v := (1 : Int32)) hx hb dX7_right_52 (by decide) ?_
    obtain rfl := Option.some.inj h
    exact ret _ _ _ _ _ dX7_right_53 hP hS rfl
  have L1 : ∀ (n : Nat) (y1_1 : Int32) (H : Heap) (locs : List Loc) (ls : Array Slot), X7_right_L1 n σ y1_1 = some v1 → WP D ad cI σ τ η H → va_S (AA ad) s.heap H locs → lv_has ls 2 [(0, .ref (ad 0)), (1, .int y1_1)] → W p l e rmX7_right s m args below meth c H locs 0 0 Q (F0 m 2 ls []) := by
    intro n
    induction n with
    | zero => intro y1_1 H locs ls h; exact absurd h (by simp [X7_right_L1])
    | succ n ih =>
      intro y1_1 H locs ls h hP hS hl
      replace h := (X7_right_L1_s n σ y1_1).symm.trans h
      refine lv_iload_n hx hb dX7_right_2 rfl (lv_at hl 1 rfl) ?_
      refine lv_aload_n hx hb dX7_right_3 rfl (lv_at hl 0 rfl) ?_
      refine va_get (D := D) (ci := 7) (v := .ref (ad 1)) (C := RX7) (T := TX7) (N := 11) hx hb htb wu_7 hown hK.1 hP 0 w_0 rfl 0 (by decide) (htb _ wFL_RX7_10) (fun _ h9 => h9) rfl dX7_right_4 ?_
      obtain ⟨v2, g2, h⟩ := ol h
      refine c_Vi (q := (RX0, TX0, 6)) (ci := 0) (b := 1) (As := []) (rest := [.int y1_1]) (A := AA ad) ⟨hx, hb, hml, hown, htb⟩ (c_X0_size l D ad cI hd σ τ η  v2 g2) (cwV 0 htb (gdV (fun _ hh => hh) wML_RX7_138 wIM_yX0_size wSE_yX0_size wI_RX0 wC_yX0_size) rfl rfl rfl hd_X0_size ⟨by decide, by decide⟩) hK hP rfl w_1 (fun _ hh => hh) hS rfl hl.1 rfl (Nat.le_of_ble_eq_true rfl) dX7_right_7 ⟨Nat.le_refl 0, Nat.le_refl 0⟩ (fun H locs hP hS => ?_)
      refine lv_icmp_ge (tgt := 52) hx hb dX7_right_10 (by decide) (fun c3 => ?_) (fun c3 => ?_)
      · replace h := ip c3 h
        exact K1 _ (Option.some.inj h).symm _ _ _ hP hS (lv_sub hl [] rfl)
      · replace h := iq c3 h
        refine lv_aload_n hx hb dX7_right_13 rfl (lv_at hl 0 rfl) ?_
        refine va_get (D := D) (ci := 7) (v := .ref (ad 1)) (C := RX7) (T := TX7) (N := 11) hx hb htb wu_7 hown hK.1 hP 0 w_0 rfl 0 (by decide) (htb _ wFL_RX7_10) (fun _ h9 => h9) rfl dX7_right_14 ?_
        refine lv_iload_n hx hb dX7_right_17 rfl (lv_at hl 1 rfl) ?_
        refine lv_iconst (v := (2 : Int32)) hx hb dX7_right_18 (by decide) ?_
        obtain ⟨v4, g4, h⟩ := ob h
        refine c_Vz (q := (RX0, TX0, 6)) (ci := 0) (b := 1) (As := [.int y1_1, .int (2 : Int32)]) (rest := []) (A := AA ad) ⟨hx, hb, hml, hown, htb⟩ (c_X0_isA l D ad cI hd σ τ η y1_1 (2 : Int32) v4 g4) (cwV 2 htb (gdV (fun _ hh => hh) wML_RX7_100 wIM_yX0_isA wSE_yX0_isA wI_RX0 wC_yX0_isA) rfl rfl rfl hd_X0_isA ⟨by decide, by decide⟩) hK hP rfl w_1 (fun _ hh => hh) hS rfl hl.1 rfl (Nat.le_of_ble_eq_true rfl) dX7_right_19 ⟨Nat.le_refl 0, Nat.le_refl 0⟩ (fun H locs hz4 hP hS => ?_)
        refine lv_if_eq (tgt := 46) hx hb dX7_right_22 (by decide) (fun c5 => ?_) (fun c5 => ?_)
        · replace h := ip c5 h
          refine lv_iinc (v := (y1_1 + (1 : Int32))) (lv' := [(1, .int (y1_1 + (1 : Int32))), (0, .ref (ad 0))]) hx hb dX7_right_46 hl (k := 1) rfl rfl (by decide) rfl (fun ls hl => ?_)
          refine lv_goto (tgt := 2) hx hb dX7_right_49 (by decide) ?_
          exact ih (y1_1 + (1 : Int32)) _ _ _ h hP hS (lv_sub hl [1, 0] rfl)
        · replace h := iq c5 h
          refine lv_aload_n hx hb dX7_right_25 rfl (lv_at hl 0 rfl) ?_
          refine va_get (D := D) (ci := 7) (v := .ref (ad 6)) (C := RX7) (T := TX7) (N := 11) hx hb htb wu_7 hown hK.1 hP 0 w_0 rfl 1 (by decide) (htb _ wFL_RX7_19) (fun _ h9 => h9) rfl dX7_right_26 ?_
          refine lv_iload_n hx hb dX7_right_29 rfl (lv_at hl 1 rfl) ?_
          refine lv_aload_n hx hb dX7_right_30 rfl (lv_at hl 0 rfl) ?_
          refine va_get (D := D) (ci := 7) (v := .ref (ad 1)) (C := RX7) (T := TX7) (N := 11) hx hb htb wu_7 hown hK.1 hP 0 w_0 rfl 0 (by decide) (htb _ wFL_RX7_10) (fun _ h9 => h9) rfl dX7_right_31 ?_
          refine lv_iload_n hx hb dX7_right_34 rfl (lv_at hl 1 rfl) ?_
          obtain ⟨v6, g6, h⟩ := ob h
          refine c_Vi (q := (RX0, TX0, 6)) (ci := 0) (b := 1) (As := [.int y1_1]) (rest := [.int y1_1, .ref (ad 6)]) (A := AA ad) ⟨hx, hb, hml, hown, htb⟩ (c_X0_byOf l D ad cI hd σ τ η y1_1 v6 g6) (cwV 1 htb (gdV (fun _ hh => hh) wML_RX7_91 wIM_yX0_byOf wSE_yX0_byOf wI_RX0 wC_yX0_byOf) rfl rfl rfl hd_X0_byOf ⟨by decide, by decide⟩) hK hP rfl w_1 (fun _ hh => hh) hS rfl hl.1 rfl (Nat.le_of_ble_eq_true rfl) dX7_right_35 ⟨Nat.le_refl 0, Nat.le_refl 0⟩ (fun H locs hP hS => ?_)
          obtain ⟨v7, g7, h⟩ := ob h
          refine c_Vz (q := (RX6, TX6, 1)) (ci := 6) (b := 6) (As := [.int y1_1, .int v6]) (rest := []) (A := AA ad) ⟨hx, hb, hml, hown, htb⟩ (c_X6_knows l D ad cI hd σ τ η y1_1 v6 v7 g7) (cwV 2 htb (gdV (fun _ hh => hh) wML_RX7_199 wIM_yX6_knows wSE_yX6_knows wI_RX6 wC_yX6_knows) rfl rfl rfl hd_X6_knows ⟨by decide, by decide⟩) hK hP rfl w_6 (fun _ hh => hh) hS rfl hl.1 rfl (Nat.le_of_ble_eq_true rfl) dX7_right_38 ⟨Nat.le_refl 0, Nat.le_refl 0⟩ (fun H locs hz7 hP hS => ?_)
          refine lv_if_ne (tgt := 46) hx hb dX7_right_41 (by decide) (fun c8 => ?_) (fun c8 => ?_)
          · replace h := iq c8 h
            refine lv_iinc (v := (y1_1 + (1 : Int32))) (lv' := [(1, .int (y1_1 + (1 : Int32))), (0, .ref (ad 0))]) hx hb dX7_right_46 hl (k := 1) rfl rfl (by decide) rfl (fun ls hl => ?_)
            refine lv_goto (tgt := 2) hx hb dX7_right_49 (by decide) ?_
            exact ih (y1_1 + (1 : Int32)) _ _ _ h hP hS (lv_sub hl [1, 0] rfl)
          · replace h := ip c8 h
            refine lv_iconst (v := (0 : Int32)) hx hb dX7_right_44 (by decide) ?_
            have e9 := KR1 _ (Option.some.inj h).symm
            subst e9
            exact ret _ _ _ _ _ dX7_right_45 hP hS rfl
  exact L1 10000 (0 : Int32) _ _ _ hj1 hP hS (lv_sub hl [1, 0] rfl)
def X8_rightNow_L1 (n : Nat) (τ_1 : St) (y1_1 : Int32) (y1_2 : Int32) : Option (Int32 × Int32) := match n with
  | 0 => none
  | n + 1 =>
    if (τ_1 29 0) ≤ y1_2 then (
      some (y1_1, y1_2))
    else (
      bd ((
          if y1_1 = 0 then (
            some (0 : Int32))
          else (
            bd (rd (τ_1 30) 9 y1_2) fun v6 =>
            lt (X8_isNeeded  v6) fun v7 =>
            if v7 = 0 then (
              some (1 : Int32))
            else (
              bd (rd (τ_1 34) 9 y1_2) fun v9 =>
              bd (rd (τ_1 31) 9 y1_2) fun v10 =>
              if v10 < v9 then (
                some (0 : Int32))
              else (
                some (1 : Int32))))) : Option (Int32)) fun v5 =>
      X8_rightNow_L1 n τ_1 v5 (y1_2 + (1 : Int32)))
theorem X8_rightNow_L1_s (n : Nat) (τ_1 : St) (y1_1 : Int32) (y1_2 : Int32) : X8_rightNow_L1 (n + 1) τ_1 y1_1 y1_2 =
    if (τ_1 29 0) ≤ y1_2 then (
      some (y1_1, y1_2))
    else (
      bd ((
          if y1_1 = 0 then (
            some (0 : Int32))
          else (
            bd (rd (τ_1 30) 9 y1_2) fun v6 =>
            lt (X8_isNeeded  v6) fun v7 =>
            if v7 = 0 then (
              some (1 : Int32))
            else (
              bd (rd (τ_1 34) 9 y1_2) fun v9 =>
              bd (rd (τ_1 31) 9 y1_2) fun v10 =>
              if v10 < v9 then (
                some (0 : Int32))
              else (
                some (1 : Int32))))) : Option (Int32)) fun v5 =>
      X8_rightNow_L1 n τ_1 v5 (y1_2 + (1 : Int32))) := rfl
def X8_rightNow (τ : St)  : Option (Int32 × St) :=
  bd (X8_reckon τ ) fun v1 =>
  bd (X8_rightNow_L1 10000 v1 (1 : Int32) (0 : Int32)) fun v2 =>
  if v2.1 = 0 then (
    some ((0 : Int32), v1))
  else (
    some ((1 : Int32), v1))
abbrev rmX8_rightNow : Room := { frames := 3, cells := 0, slots := 0, locals := 68 }
set_option maxHeartbeats 4000000 in
set_option maxRecDepth 100000 in
theorem c_X8_rightNow (l : Launch) (D : va_G) (ad : Nat → Nat) (cI : ClassId) (hd : HD ad) (σ τ : St) (η : Int64)  (rr : Int32 × St) (h : X8_rightNow τ  = some rr) : MI l yX8_rightNow (wy yX8_rightNow cX8_rightNow 3 (some .int)) rmX8_rightNow D ad cI [.ref (ad 29)] σ τ η rr.1 σ rr.2 η := by
  refine mk_i (own := RX8) (lv := [(0, .ref (ad 29))]) (plainFor_of_name (by decide)) rfl (Nat.le_of_ble_eq_true rfl) rfl ?_
  intro p e s m args below meth c Q ls hx hb hml hown htb hK ret hP hS hl
  unfold X8_rightNow at h
  refine lv_aload_n hx hb dX8_rightNow_0 rfl (lv_at hl 0 rfl) ?_
  obtain ⟨v1, g1, h⟩ := ob h
  refine c_Vv (q := (RX8, TX8, 27)) (ci := 8) (b := 29) (As := []) (rest := []) (A := AA ad) ⟨hx, hb, hml, hown, htb⟩ (c_X8_reckon l D ad cI hd σ τ η  v1 g1) (cwV 0 htb (gdV (fun _ hh => hh) wML_RX8_85 wIM_yX8_reckon wSE_yX8_reckon wI_RX8 wC_yX8_reckon) rfl rfl rfl hd_X8_reckon ⟨by decide, by decide⟩) hK hP rfl w_29 (fun _ hh => hh) hS rfl hl.1 rfl (Nat.le_of_ble_eq_true rfl) dX8_rightNow_1 ⟨Nat.le_refl 0, Nat.le_refl 0⟩ (fun H locs hP hS => ?_)
  refine lv_iconst (v := (1 : Int32)) hx hb dX8_rightNow_4 (by decide) ?_
  refine lv_istore_n (lv' := [(1, .int (1 : Int32)), (0, .ref (ad 29))]) hx hb dX8_rightNow_5 rfl hl (by decide) rfl (fun ls hl => ?_)
  refine lv_iconst (v := (0 : Int32)) hx hb dX8_rightNow_6 (by decide) ?_
  refine lv_istore_n (lv' := [(2, .int (0 : Int32)), (1, .int (1 : Int32)), (0, .ref (ad 29))]) hx hb dX8_rightNow_7 rfl hl (by decide) rfl (fun ls hl => ?_)
  obtain ⟨v2, hj2, h⟩ := ob h
  have K1 : ∀ (H : Heap) (locs : List Loc) (ls : Array Slot), WP D ad cI σ v1 η H → va_S (AA ad) s.heap H locs → lv_has ls 3 [(1, .int v2.1)] → W p l e rmX8_rightNow s m args below meth c H locs 0 0 Q (F0 m 59 ls []) := by
    intro H locs ls hP hS hl
    refine lv_iload_n hx hb dX8_rightNow_59 rfl (lv_at hl 0 rfl) ?_
    refine lv_if_eq (tgt := 67) hx hb dX8_rightNow_60 (by decide) (fun c12 => ?_) (fun c12 => ?_)
    · replace h := ip c12 h
      refine lv_iconst (v := (0 : Int32)) hx hb dX8_rightNow_67 (by decide) ?_
      obtain rfl := Option.some.inj h
      exact ret _ _ _ _ _ dX8_rightNow_68 hP hS rfl
    · replace h := iq c12 h
      refine lv_iconst (v := (1 : Int32)) hx hb dX8_rightNow_63 (by decide) ?_
      refine lv_goto (tgt := 68) hx hb dX8_rightNow_64 (by decide) ?_
      obtain rfl := Option.some.inj h
      exact ret _ _ _ _ _ dX8_rightNow_68 hP hS rfl
  have L1 : ∀ (n : Nat) (y1_1 : Int32) (y1_2 : Int32) (H : Heap) (locs : List Loc) (ls : Array Slot), X8_rightNow_L1 n v1 y1_1 y1_2 = some v2 → WP D ad cI σ v1 η H → va_S (AA ad) s.heap H locs → lv_has ls 3 [(0, .ref (ad 29)), (1, .int y1_1), (2, .int y1_2)] → W p l e rmX8_rightNow s m args below meth c H locs 0 0 Q (F0 m 8 ls []) := by
    intro n
    induction n with
    | zero => intro y1_1 y1_2 H locs ls h; exact absurd h (by simp [X8_rightNow_L1])
    | succ n ih =>
      intro y1_1 y1_2 H locs ls h hP hS hl
      replace h := (X8_rightNow_L1_s n v1 y1_1 y1_2).symm.trans h
      refine lv_iload_n hx hb dX8_rightNow_8 rfl (lv_at hl 2 rfl) ?_
      refine lv_aload_n hx hb dX8_rightNow_9 rfl (lv_at hl 0 rfl) ?_
      refine va_get (D := D) (ci := 8) (v := .int (v1 29 0)) (C := RX8) (T := TX8) (N := 27) hx hb htb wu_8 hown hK.1 hP 29 w_29 rfl 0 (by decide) (htb _ wFL_RX8_62) (fun _ h9 => h9) rfl dX8_rightNow_10 ?_
      refine lv_icmp_ge (tgt := 59) hx hb dX8_rightNow_13 (by decide) (fun c3 => ?_) (fun c3 => ?_)
      · replace h := ip c3 h
        obtain rfl := Option.some.inj h
        exact K1 _ _ _ hP hS (lv_sub hl [1] rfl)
      · replace h := iq c3 h
        refine lv_iload_n hx hb dX8_rightNow_16 rfl (lv_at hl 1 rfl) ?_
        obtain ⟨v5, hj5, h⟩ := ob h
        have J5 : ∀ (H : Heap) (locs : List Loc) (ls : Array Slot), WP D ad cI σ v1 η H → va_S (AA ad) s.heap H locs → lv_has ls 3 [(0, .ref (ad 29)), (2, .int y1_2)] → W p l e rmX8_rightNow s m args below meth c H locs 0 0 Q (F0 m 52 ls [.int v5]) := by
          intro H locs ls hP hS hl
          refine lv_istore_n (lv' := [(1, .int v5), (0, .ref (ad 29)), (2, .int y1_2)]) hx hb dX8_rightNow_52 rfl hl (by decide) rfl (fun ls hl => ?_)
          refine lv_iinc (v := (y1_2 + (1 : Int32))) (lv' := [(2, .int (y1_2 + (1 : Int32))), (1, .int v5), (0, .ref (ad 29))]) hx hb dX8_rightNow_53 hl (k := 2) rfl rfl (by decide) rfl (fun ls hl => ?_)
          refine lv_goto (tgt := 8) hx hb dX8_rightNow_56 (by decide) ?_
          exact ih v5 (y1_2 + (1 : Int32)) _ _ _ h hP hS (lv_sub hl [2, 1, 0] rfl)
        replace h := hj5
        refine lv_if_eq (tgt := 51) hx hb dX8_rightNow_17 (by decide) (fun c4 => ?_) (fun c4 => ?_)
        · replace h := ip c4 h
          refine lv_iconst (v := (0 : Int32)) hx hb dX8_rightNow_51 (by decide) ?_
          obtain rfl := Option.some.inj h
          exact J5 _ _ _ hP hS (lv_sub hl [0, 2] rfl)
        · replace h := iq c4 h
          refine lv_aload_n hx hb dX8_rightNow_20 rfl (lv_at hl 0 rfl) ?_
          refine va_get (D := D) (ci := 8) (v := .ref (ad 30)) (C := RX8) (T := TX8) (N := 27) hx hb htb wu_8 hown hK.1 hP 29 w_29 rfl 1 (by decide) (htb _ wFL_RX8_7) (fun _ h9 => h9) rfl dX8_rightNow_21 ?_
          refine lv_iload_n hx hb dX8_rightNow_24 rfl (lv_at hl 2 rfl) ?_
          obtain ⟨v6, g6, h⟩ := ob h
          refine r_ald hx hb hK hP 30 w_30 g6 dX8_rightNow_25 ?_
          obtain ⟨v7, g7, h⟩ := ol h
          refine c_Sz (As := [.int v6]) (rest := []) (A := AA ad) ⟨hx, hb, hml, hown, htb⟩ (c_X8_isNeeded l D ad cI hd σ v1 η v6 v7 g7) (va_cwS 1 htb (gdS (fun _ hh => hh) wML_RX8_71 wST_yX8_isNeeded wI_RX8 wC_yX8_isNeeded) rfl rfl rfl hd_X8_isNeeded.2 ⟨by decide, by decide⟩) hK hP (fun _ hh => hh) hS rfl hl.1 rfl (Nat.le_of_ble_eq_true rfl) dX8_rightNow_26 ⟨Nat.le_refl 0, Nat.le_refl 0⟩ (fun H locs hz7 hP hS => ?_)
          refine lv_if_eq (tgt := 47) hx hb dX8_rightNow_29 (by decide) (fun c8 => ?_) (fun c8 => ?_)
          · replace h := ip c8 h
            refine lv_iconst (v := (1 : Int32)) hx hb dX8_rightNow_47 (by decide) ?_
            refine lv_goto (tgt := 52) hx hb dX8_rightNow_48 (by decide) ?_
            obtain rfl := Option.some.inj h
            exact J5 _ _ _ hP hS (lv_sub hl [0, 2] rfl)
          · replace h := iq c8 h
            refine lv_aload_n hx hb dX8_rightNow_32 rfl (lv_at hl 0 rfl) ?_
            refine va_get (D := D) (ci := 8) (v := .ref (ad 34)) (C := RX8) (T := TX8) (N := 27) hx hb htb wu_8 hown hK.1 hP 29 w_29 rfl 5 (by decide) (htb _ wFL_RX8_22) (fun _ h9 => h9) rfl dX8_rightNow_33 ?_
            refine lv_iload_n hx hb dX8_rightNow_36 rfl (lv_at hl 2 rfl) ?_
            obtain ⟨v9, g9, h⟩ := ob h
            refine r_ald hx hb hK hP 34 w_34 g9 dX8_rightNow_37 ?_
            refine lv_aload_n hx hb dX8_rightNow_38 rfl (lv_at hl 0 rfl) ?_
            refine va_get (D := D) (ci := 8) (v := .ref (ad 31)) (C := RX8) (T := TX8) (N := 27) hx hb htb wu_8 hown hK.1 hP 29 w_29 rfl 2 (by decide) (htb _ wFL_RX8_13) (fun _ h9 => h9) rfl dX8_rightNow_39 ?_
            refine lv_iload_n hx hb dX8_rightNow_42 rfl (lv_at hl 2 rfl) ?_
            obtain ⟨v10, g10, h⟩ := ob h
            refine r_ald hx hb hK hP 31 w_31 g10 dX8_rightNow_43 ?_
            refine lv_icmp_gt (tgt := 51) hx hb dX8_rightNow_44 (by decide) (fun c11 => ?_) (fun c11 => ?_)
            · replace h := ip c11 h
              refine lv_iconst (v := (0 : Int32)) hx hb dX8_rightNow_51 (by decide) ?_
              obtain rfl := Option.some.inj h
              exact J5 _ _ _ hP hS (lv_sub hl [0, 2] rfl)
            · replace h := iq c11 h
              refine lv_iconst (v := (1 : Int32)) hx hb dX8_rightNow_47 (by decide) ?_
              refine lv_goto (tgt := 52) hx hb dX8_rightNow_48 (by decide) ?_
              obtain rfl := Option.some.inj h
              exact J5 _ _ _ hP hS (lv_sub hl [0, 2] rfl)
  exact L1 10000 (1 : Int32) (0 : Int32) _ _ _ hj2 hP hS (lv_sub hl [2, 1, 0] rfl)
def X8_right (τ : St)  : Option (Int32 × St) :=
  bd (X8_rightNow τ ) fun v1 =>
  some (v1.1, v1.2)
abbrev rmX8_right : Room := { frames := 4, cells := 0, slots := 0, locals := 90 }
set_option maxHeartbeats 4000000 in
set_option maxRecDepth 100000 in
theorem c_X8_right (l : Launch) (D : va_G) (ad : Nat → Nat) (cI : ClassId) (hd : HD ad) (σ τ : St) (η : Int64)  (rr : Int32 × St) (h : X8_right τ  = some rr) : MI l yX8_right (wy yX8_right cX8_right 1 (some .int)) rmX8_right D ad cI [.ref (ad 29)] σ τ η rr.1 σ rr.2 η := by
  refine mk_i (own := RX8) (lv := [(0, .ref (ad 29))]) (plainFor_of_name (by decide)) rfl (Nat.le_of_ble_eq_true rfl) rfl ?_
  intro p e s m args below meth c Q ls hx hb hml hown htb hK ret hP hS hl
  unfold X8_right at h
  refine lv_aload_n hx hb dX8_right_0 rfl (lv_at hl 0 rfl) ?_
  obtain ⟨v1, g1, h⟩ := ob h
  refine c_Vi (q := (RX8, TX8, 27)) (ci := 8) (b := 29) (As := []) (rest := []) (A := AA ad) ⟨hx, hb, hml, hown, htb⟩ (c_X8_rightNow l D ad cI hd σ τ η  v1 g1) (cwV 0 htb (gdV (fun _ hh => hh) wML_RX8_153 wIM_yX8_rightNow wSE_yX8_rightNow wI_RX8 wC_yX8_rightNow) rfl rfl rfl hd_X8_rightNow ⟨by decide, by decide⟩) hK hP rfl w_29 (fun _ hh => hh) hS rfl hl.1 rfl (Nat.le_of_ble_eq_true rfl) dX8_right_1 ⟨Nat.le_refl 0, Nat.le_refl 0⟩ (fun H locs hP hS => ?_)
  obtain rfl := Option.some.inj h
  exact ret _ _ _ _ _ dX8_right_4 hP hS rfl
def X0_howMany_L1 (n : Nat) (σ_1 : St) (u1_1 : Int32) (y1_2 : Int32) (y1_3 : Int32) : Option (Int32 × Int32) := match n with
  | 0 => none
  | n + 1 =>
    if (σ_1 1 5) ≤ y1_3 then (
      some (y1_2, y1_3))
    else (
      bd (X0_isA σ_1 y1_3 u1_1) fun v3 =>
      lt ((
          if v3 = 0 then (
            y1_2)
          else (
            (y1_2 + (1 : Int32)))) : Int32) fun v5 =>
      X0_howMany_L1 n σ_1 u1_1 v5 (y1_3 + (1 : Int32)))
theorem X0_howMany_L1_s (n : Nat) (σ_1 : St) (u1_1 : Int32) (y1_2 : Int32) (y1_3 : Int32) : X0_howMany_L1 (n + 1) σ_1 u1_1 y1_2 y1_3 =
    if (σ_1 1 5) ≤ y1_3 then (
      some (y1_2, y1_3))
    else (
      bd (X0_isA σ_1 y1_3 u1_1) fun v3 =>
      lt ((
          if v3 = 0 then (
            y1_2)
          else (
            (y1_2 + (1 : Int32)))) : Int32) fun v5 =>
      X0_howMany_L1 n σ_1 u1_1 v5 (y1_3 + (1 : Int32))) := rfl
def X0_howMany (σ : St) (x1 : Int32) : Option (Int32) :=
  bd (X0_howMany_L1 10000 σ x1 (0 : Int32) (0 : Int32)) fun v1 =>
  some v1.1
abbrev rmX0_howMany : Room := { frames := 3, cells := 0, slots := 0, locals := 65 }
set_option maxHeartbeats 4000000 in
set_option maxRecDepth 100000 in
theorem c_X0_howMany (l : Launch) (D : va_G) (ad : Nat → Nat) (cI : ClassId) (hd : HD ad) (σ τ : St) (η : Int64) (x1 : Int32) (rr : Int32) (h : X0_howMany σ x1 = some rr) : MI l yX0_howMany (wy yX0_howMany cX0_howMany 4 (some .int)) rmX0_howMany D ad cI [.ref (ad 1), .int x1] σ τ η rr σ τ η := by
  refine mk_i (own := RX0) (lv := [(0, .ref (ad 1)), (1, .int x1)]) (plainFor_of_name (by decide)) rfl (Nat.le_of_ble_eq_true rfl) rfl ?_
  intro p e s m args below meth c Q ls hx hb hml hown htb hK ret hP hS hl
  unfold X0_howMany at h
  refine lv_iconst (v := (0 : Int32)) hx hb dX0_howMany_0 (by decide) ?_
  refine lv_istore_n (lv' := [(2, .int (0 : Int32)), (0, .ref (ad 1)), (1, .int x1)]) hx hb dX0_howMany_1 rfl hl (by decide) rfl (fun ls hl => ?_)
  refine lv_iconst (v := (0 : Int32)) hx hb dX0_howMany_2 (by decide) ?_
  refine lv_istore_n (lv' := [(3, .int (0 : Int32)), (2, .int (0 : Int32)), (0, .ref (ad 1)), (1, .int x1)]) hx hb dX0_howMany_3 rfl hl (by decide) rfl (fun ls hl => ?_)
  obtain ⟨v1, hj1, h⟩ := ob h
  have K1 : ∀ (H : Heap) (locs : List Loc) (ls : Array Slot), WP D ad cI σ τ η H → va_S (AA ad) s.heap H locs → lv_has ls 4 [(2, .int v1.1)] → W p l e rmX0_howMany s m args below meth c H locs 0 0 Q (F0 m 30 ls []) := by
    intro H locs ls hP hS hl
    refine lv_iload_n hx hb dX0_howMany_30 rfl (lv_at hl 0 rfl) ?_
    obtain rfl := Option.some.inj h
    exact ret _ _ _ _ _ dX0_howMany_31 hP hS rfl
  have L1 : ∀ (n : Nat) (y1_2 : Int32) (y1_3 : Int32) (H : Heap) (locs : List Loc) (ls : Array Slot), X0_howMany_L1 n σ x1 y1_2 y1_3 = some v1 → WP D ad cI σ τ η H → va_S (AA ad) s.heap H locs → lv_has ls 4 [(0, .ref (ad 1)), (1, .int x1), (2, .int y1_2), (3, .int y1_3)] → W p l e rmX0_howMany s m args below meth c H locs 0 0 Q (F0 m 4 ls []) := by
    intro n
    induction n with
    | zero => intro y1_2 y1_3 H locs ls h; exact absurd h (by simp [X0_howMany_L1])
    | succ n ih =>
      intro y1_2 y1_3 H locs ls h hP hS hl
      replace h := (X0_howMany_L1_s n σ x1 y1_2 y1_3).symm.trans h
      refine lv_iload_n hx hb dX0_howMany_4 rfl (lv_at hl 3 rfl) ?_
      refine lv_aload_n hx hb dX0_howMany_5 rfl (lv_at hl 0 rfl) ?_
      refine va_get (D := D) (ci := 0) (v := .int (σ 1 5)) (C := RX0) (T := TX0) (N := 6) hx hb htb wu_0 hown hK.1 hP 1 w_1 rfl 5 (by decide) (htb _ wFL_RX0_28) (fun _ h9 => h9) rfl dX0_howMany_6 ?_
      refine lv_icmp_ge (tgt := 30) hx hb dX0_howMany_9 (by decide) (fun c2 => ?_) (fun c2 => ?_)
      · replace h := ip c2 h
        obtain rfl := Option.some.inj h
        exact K1 _ _ _ hP hS (lv_sub hl [2] rfl)
      · replace h := iq c2 h
        refine lv_aload_n hx hb dX0_howMany_12 rfl (lv_at hl 0 rfl) ?_
        refine lv_iload_n hx hb dX0_howMany_13 rfl (lv_at hl 3 rfl) ?_
        refine lv_iload_n hx hb dX0_howMany_14 rfl (lv_at hl 1 rfl) ?_
        obtain ⟨v3, g3, h⟩ := ob h
        refine c_Vz (q := (RX0, TX0, 6)) (ci := 0) (b := 1) (As := [.int y1_3, .int x1]) (rest := []) (A := AA ad) ⟨hx, hb, hml, hown, htb⟩ (c_X0_isA l D ad cI hd σ τ η y1_3 x1 v3 g3) (cwV 2 htb (gdV (fun _ hh => hh) wML_RX0_46 wIM_yX0_isA wSE_yX0_isA wI_RX0 wC_yX0_isA) rfl rfl rfl hd_X0_isA ⟨by decide, by decide⟩) hK hP rfl w_1 (fun _ hh => hh) hS rfl hl.1 rfl (Nat.le_of_ble_eq_true rfl) dX0_howMany_15 ⟨Nat.le_refl 0, Nat.le_refl 0⟩ (fun H locs hz3 hP hS => ?_)
        obtain ⟨v5, hj5, h⟩ := ol h
        have J5 : ∀ (H : Heap) (locs : List Loc) (ls : Array Slot), WP D ad cI σ τ η H → va_S (AA ad) s.heap H locs → lv_has ls 4 [(0, .ref (ad 1)), (1, .int x1), (2, .int v5), (3, .int y1_3)] → W p l e rmX0_howMany s m args below meth c H locs 0 0 Q (F0 m 24 ls []) := by
          intro H locs ls hP hS hl
          refine lv_iinc (v := (y1_3 + (1 : Int32))) (lv' := [(3, .int (y1_3 + (1 : Int32))), (0, .ref (ad 1)), (1, .int x1), (2, .int v5)]) hx hb dX0_howMany_24 hl (k := 3) rfl rfl (by decide) rfl (fun ls hl => ?_)
          refine lv_goto (tgt := 4) hx hb dX0_howMany_27 (by decide) ?_
          exact ih v5 (y1_3 + (1 : Int32)) _ _ _ h hP hS (lv_sub hl [1, 2, 3, 0] rfl)
        replace h := hj5
        refine lv_if_eq (tgt := 24) hx hb dX0_howMany_18 (by decide) (fun c4 => ?_) (fun c4 => ?_)
        · replace h := ip c4 h
          subst h
          exact J5 _ _ _ hP hS (lv_sub hl [0, 1, 2, 3] rfl)
        · replace h := iq c4 h
          refine lv_iinc (v := (y1_2 + (1 : Int32))) (lv' := [(2, .int (y1_2 + (1 : Int32))), (0, .ref (ad 1)), (1, .int x1), (3, .int y1_3)]) hx hb dX0_howMany_21 hl (k := 2) rfl rfl (by decide) rfl (fun ls hl => ?_)
          subst h
          exact J5 _ _ _ hP hS (lv_sub hl [1, 2, 0, 3] rfl)
  exact L1 10000 (0 : Int32) (0 : Int32) _ _ _ hj1 hP hS (lv_sub hl [2, 3, 1, 0] rfl)
def J7_fill_53178_L1 (n : Nat) (σ_1 : St) (u1_1 : Int32) (y1_2 : Int32) (u1_3 : Int32) : Option (Int32 × St) := match n with
  | 0 => none
  | n + 1 =>
    if u1_3 ≤ y1_2 then (
      some (y1_2, σ_1))
    else (
      bd (wa σ_1 26 9 y1_2 u1_1) fun σ3 =>
      J7_fill_53178_L1 n σ3 u1_1 (y1_2 + (1 : Int32)) u1_3)
theorem J7_fill_53178_L1_s (n : Nat) (σ_1 : St) (u1_1 : Int32) (y1_2 : Int32) (u1_3 : Int32) : J7_fill_53178_L1 (n + 1) σ_1 u1_1 y1_2 u1_3 =
    if u1_3 ≤ y1_2 then (
      some (y1_2, σ_1))
    else (
      bd (wa σ_1 26 9 y1_2 u1_1) fun σ3 =>
      J7_fill_53178_L1 n σ3 u1_1 (y1_2 + (1 : Int32)) u1_3) := rfl
def J7_fill_53178 (σ : St) (x1 : Int32) : Option (St) :=
  bd (J7_fill_53178_L1 10000 σ x1 (0 : Int32) (9 : Int32)) fun v1 =>
  some v1.2
abbrev rmJ7_fill_53178 : Room := { frames := 0, cells := 0, slots := 0, locals := 0 }
set_option maxHeartbeats 4000000 in
set_option maxRecDepth 100000 in
theorem c_J7_fill_53178 (l : Launch) (D : va_G) (ad : Nat → Nat) (cI : ClassId) (hd : HD ad) (σ τ : St) (η : Int64) (x1 : Int32) (rr : St) (h : J7_fill_53178 σ x1 = some rr) : MV l yJ7_fill_53178 (wy yJ7_fill_53178 cJ7_fill_53178 4 none) rmJ7_fill_53178 D ad cI [.ref (ad 26), .int x1] σ τ η rr τ η := by
  refine mk_v (own := RJ7) (lv := [(0, .ref (ad 26)), (1, .int x1)]) (by decide +kernel) rfl (Nat.le_of_ble_eq_true rfl) rfl ?_
  intro p e s m args below meth c Q ls hx hb hml hown htb hK ret hP hS hl
  unfold J7_fill_53178 at h
  refine lv_iconst (v := (0 : Int32)) hx hb dJ7_fill_53178_0 (by decide) ?_
  refine lv_istore_n (lv' := [(2, .int (0 : Int32)), (0, .ref (ad 26)), (1, .int x1)]) hx hb dJ7_fill_53178_1 rfl hl (by decide) rfl (fun ls hl => ?_)
  refine lv_aload_n hx hb dJ7_fill_53178_2 rfl (lv_at hl 1 rfl) ?_
  refine r_len (v := (9 : Int32)) hx hb hK hP 26 w_26 (by decide) dJ7_fill_53178_3 ?_
  refine lv_istore_n (lv' := [(3, .int (9 : Int32)), (2, .int (0 : Int32)), (0, .ref (ad 26)), (1, .int x1)]) hx hb dJ7_fill_53178_4 rfl hl (by decide) rfl (fun ls hl => ?_)
  obtain ⟨v1, hj1, h⟩ := ob h
  have K1 : ∀ (H : Heap) (locs : List Loc) (ls : Array Slot), WP D ad cI v1.2 τ η H → va_S (AA ad) s.heap H locs → lv_has ls 4 [] → W p l e rmJ7_fill_53178 s m args below meth c H locs 0 0 Q (F0 m 20 ls []) := by
    intro H locs ls hP hS hl
    obtain rfl := Option.some.inj h
    exact ret _ _ _ _ dJ7_fill_53178_20 hP hS
  have L1 : ∀ (n : Nat) (σ_1 : St) (y1_2 : Int32) (H : Heap) (locs : List Loc) (ls : Array Slot), J7_fill_53178_L1 n σ_1 x1 y1_2 (9 : Int32) = some v1 → WP D ad cI σ_1 τ η H → va_S (AA ad) s.heap H locs → lv_has ls 4 [(0, .ref (ad 26)), (1, .int x1), (2, .int y1_2), (3, .int (9 : Int32))] → W p l e rmJ7_fill_53178 s m args below meth c H locs 0 0 Q (F0 m 5 ls []) := by
    intro n
    induction n with
    | zero => intro σ_1 y1_2 H locs ls h; exact absurd h (by simp [J7_fill_53178_L1])
    | succ n ih =>
      intro σ_1 y1_2 H locs ls h hP hS hl
      replace h := (J7_fill_53178_L1_s n σ_1 x1 y1_2 (9 : Int32)).symm.trans h
      refine lv_iload_n hx hb dJ7_fill_53178_5 rfl (lv_at hl 2 rfl) ?_
      refine lv_iload_n hx hb dJ7_fill_53178_6 rfl (lv_at hl 3 rfl) ?_
      refine lv_icmp_ge (tgt := 20) hx hb dJ7_fill_53178_7 (by decide) (fun c2 => ?_) (fun c2 => ?_)
      · replace h := ip c2 h
        obtain rfl := Option.some.inj h
        exact K1 _ _ _ hP hS (lv_sub hl [] rfl)
      · replace h := iq c2 h
        refine lv_aload_n hx hb dJ7_fill_53178_10 rfl (lv_at hl 0 rfl) ?_
        refine lv_iload_n hx hb dJ7_fill_53178_11 rfl (lv_at hl 2 rfl) ?_
        refine lv_iload_n hx hb dJ7_fill_53178_12 rfl (lv_at hl 1 rfl) ?_
        obtain ⟨σ3, g3, h⟩ := ob h
        refine r_astC (A := AA ad) hx hb hK hd (fun _ hh => hh) hP hS 26 9 (by decide) (fun _ => rfl) g3 dJ7_fill_53178_13 (fun H locs hP hS => ?_)
        refine lv_iinc (v := (y1_2 + (1 : Int32))) (lv' := [(2, .int (y1_2 + (1 : Int32))), (0, .ref (ad 26)), (1, .int x1), (3, .int (9 : Int32))]) hx hb dJ7_fill_53178_14 hl (k := 2) rfl rfl (by decide) rfl (fun ls hl => ?_)
        refine lv_goto (tgt := 5) hx hb dJ7_fill_53178_17 (by decide) ?_
        exact ih σ3 (y1_2 + (1 : Int32)) _ _ _ h hP hS (lv_sub hl [1, 2, 0, 3] rfl)
  exact L1 10000 σ (0 : Int32) _ _ _ hj1 hP hS (lv_sub hl [2, 3, 1, 0] rfl)
def X6_follow_27_1_26_L2 (n : Nat) (σ_2 : St) (y2_3 : Int32) (u2_4 : Int32) (y2_5 : Int32) : Option (Int32 × Int32) := match n with
  | 0 => none
  | n + 1 =>
    lt (X0_size σ_2 ) fun v4 =>
    if v4 ≤ y2_5 then (
      some (y2_3, y2_5))
    else (
      if (9 : Int32) ≤ y2_5 then (
        some (y2_3, y2_5))
      else (
        bd (rd (σ_2 26) 9 y2_5) fun v7 =>
        lt ((
            if v7 = u2_4 then (
              lt (X7_withBit  y2_3 y2_5 (1 : Int32)) fun v10 =>
              v10)
            else (
              y2_3)) : Int32) fun v9 =>
        X6_follow_27_1_26_L2 n σ_2 v9 u2_4 (y2_5 + (1 : Int32))))
theorem X6_follow_27_1_26_L2_s (n : Nat) (σ_2 : St) (y2_3 : Int32) (u2_4 : Int32) (y2_5 : Int32) : X6_follow_27_1_26_L2 (n + 1) σ_2 y2_3 u2_4 y2_5 =
    lt (X0_size σ_2 ) fun v4 =>
    if v4 ≤ y2_5 then (
      some (y2_3, y2_5))
    else (
      if (9 : Int32) ≤ y2_5 then (
        some (y2_3, y2_5))
      else (
        bd (rd (σ_2 26) 9 y2_5) fun v7 =>
        lt ((
            if v7 = u2_4 then (
              lt (X7_withBit  y2_3 y2_5 (1 : Int32)) fun v10 =>
              v10)
            else (
              y2_3)) : Int32) fun v9 =>
        X6_follow_27_1_26_L2 n σ_2 v9 u2_4 (y2_5 + (1 : Int32)))) := rfl
def X6_follow_27_1_26_L1 (n : Nat) (σ_1 : St) (y1_3 : Int32) (y1_4 : Int32) : Option (Int32 × Int32 × St) := match n with
  | 0 => none
  | n + 1 =>
    if (8 : Int32) < y1_4 then (
      some (y1_3, y1_4, σ_1))
    else (
      bd (X6_follow_27_1_26_L2 10000 σ_1 y1_3 y1_4 (0 : Int32)) fun v3 =>
      bd (wa σ_1 28 10 y1_4 v3.1) fun σ11 =>
      lt (X0_aunts σ11 ) fun v12 =>
      bd (X0_seenByAny σ11 (v3.1 &&& v12) y1_4) fun v13 =>
      X6_follow_27_1_26_L1 n σ11 (v3.1 ||| v13) (y1_4 + (1 : Int32)))
theorem X6_follow_27_1_26_L1_s (n : Nat) (σ_1 : St) (y1_3 : Int32) (y1_4 : Int32) : X6_follow_27_1_26_L1 (n + 1) σ_1 y1_3 y1_4 =
    if (8 : Int32) < y1_4 then (
      some (y1_3, y1_4, σ_1))
    else (
      bd (X6_follow_27_1_26_L2 10000 σ_1 y1_3 y1_4 (0 : Int32)) fun v3 =>
      bd (wa σ_1 28 10 y1_4 v3.1) fun σ11 =>
      lt (X0_aunts σ11 ) fun v12 =>
      bd (X0_seenByAny σ11 (v3.1 &&& v12) y1_4) fun v13 =>
      X6_follow_27_1_26_L1 n σ11 (v3.1 ||| v13) (y1_4 + (1 : Int32))) := rfl
def X6_follow_27_1_26 (σ : St)  : Option (St) :=
  bd (X6_follow_27_1_26_L1 10000 σ (0 : Int32) (1 : Int32)) fun v1 =>
  bd (wa v1.2.2 28 10 (9 : Int32) v1.1) fun σ14 =>
  some σ14
abbrev rmX6_follow_27_1_26 : Room := { frames := 2, cells := 0, slots := 0, locals := 46 }
set_option maxHeartbeats 4000000 in
set_option maxRecDepth 100000 in
theorem c_X6_follow_27_1_26 (l : Launch) (D : va_G) (ad : Nat → Nat) (cI : ClassId) (hd : HD ad) (σ τ : St) (η : Int64)  (rr : St) (h : X6_follow_27_1_26 σ  = some rr) : MV l yX6_follow (wy yX6_follow cX6_follow 6 none) rmX6_follow_27_1_26 D ad cI [.ref (ad 27), .ref (ad 1), .ref (ad 26)] σ τ η rr τ η := by
  refine mk_v (own := RX6) (lv := [(0, .ref (ad 27)), (1, .ref (ad 1)), (2, .ref (ad 26))]) (plainFor_of_name (by decide)) rfl (Nat.le_of_ble_eq_true rfl) rfl ?_
  intro p e s m args below meth c Q ls hx hb hml hown htb hK ret hP hS hl
  unfold X6_follow_27_1_26 at h
  refine lv_iconst (v := (0 : Int32)) hx hb dX6_follow_0 (by decide) ?_
  refine lv_istore_n (lv' := [(3, .int (0 : Int32)), (0, .ref (ad 27)), (1, .ref (ad 1)), (2, .ref (ad 26))]) hx hb dX6_follow_1 rfl hl (by decide) rfl (fun ls hl => ?_)
  refine lv_iconst (v := (1 : Int32)) hx hb dX6_follow_2 (by decide) ?_
  refine lv_istore (lv' := [(4, .int (1 : Int32)), (3, .int (0 : Int32)), (0, .ref (ad 27)), (1, .ref (ad 1)), (2, .ref (ad 26))]) hx hb dX6_follow_3 hl (by decide) rfl (fun ls hl => ?_)
  obtain ⟨v1, hj1, h⟩ := ob h
  have K1 : ∀ (H : Heap) (locs : List Loc) (ls : Array Slot), WP D ad cI v1.2.2 τ η H → va_S (AA ad) s.heap H locs → lv_has ls 6 [(0, .ref (ad 27)), (3, .int v1.1)] → W p l e rmX6_follow_27_1_26 s m args below meth c H locs 0 0 Q (F0 m 83 ls []) := by
    intro H locs ls hP hS hl
    refine lv_aload_n hx hb dX6_follow_83 rfl (lv_at hl 0 rfl) ?_
    refine va_get (D := D) (ci := 6) (v := .ref (ad 28)) (C := RX6) (T := TX6) (N := 1) hx hb htb wu_6 hown hK.1 hP 27 w_27 rfl 0 (by decide) (htb _ wFL_RX6_9) (fun _ h9 => h9) rfl dX6_follow_84 ?_
    refine lv_bipush (v := (9 : Int32)) hx hb dX6_follow_87 (by decide) ?_
    refine lv_iload_n hx hb dX6_follow_89 rfl (lv_at hl 1 rfl) ?_
    obtain ⟨σ14, g14, h⟩ := ob h
    refine r_astC (A := AA ad) hx hb hK hd (fun _ hh => hh) hP hS 28 10 (by decide) (fun _ => rfl) g14 dX6_follow_90 (fun H locs hP hS => ?_)
    obtain rfl := Option.some.inj h
    exact ret _ _ _ _ dX6_follow_91 hP hS
  have L1 : ∀ (n : Nat) (σ_1 : St) (y1_3 : Int32) (y1_4 : Int32) (H : Heap) (locs : List Loc) (ls : Array Slot), X6_follow_27_1_26_L1 n σ_1 y1_3 y1_4 = some v1 → WP D ad cI σ_1 τ η H → va_S (AA ad) s.heap H locs → lv_has ls 6 [(0, .ref (ad 27)), (1, .ref (ad 1)), (2, .ref (ad 26)), (3, .int y1_3), (4, .int y1_4)] → W p l e rmX6_follow_27_1_26 s m args below meth c H locs 0 0 Q (F0 m 5 ls []) := by
    intro n
    induction n with
    | zero => intro σ_1 y1_3 y1_4 H locs ls h; exact absurd h (by simp [X6_follow_27_1_26_L1])
    | succ n ih =>
      intro σ_1 y1_3 y1_4 H locs ls h hP hS hl
      replace h := (X6_follow_27_1_26_L1_s n σ_1 y1_3 y1_4).symm.trans h
      refine lv_iload hx hb dX6_follow_5 (lv_at hl 4 rfl) ?_
      refine lv_bipush (v := (8 : Int32)) hx hb dX6_follow_7 (by decide) ?_
      refine lv_icmp_gt (tgt := 83) hx hb dX6_follow_9 (by decide) (fun c2 => ?_) (fun c2 => ?_)
      · replace h := ip c2 h
        obtain rfl := Option.some.inj h
        exact K1 _ _ _ hP hS (lv_sub hl [0, 3] rfl)
      · replace h := iq c2 h
        refine lv_iconst (v := (0 : Int32)) hx hb dX6_follow_12 (by decide) ?_
        refine lv_istore (lv' := [(5, .int (0 : Int32)), (0, .ref (ad 27)), (1, .ref (ad 1)), (2, .ref (ad 26)), (3, .int y1_3), (4, .int y1_4)]) hx hb dX6_follow_13 hl (by decide) rfl (fun ls hl => ?_)
        obtain ⟨v3, hj3, h⟩ := ob h
        have K2 : ∀ (H : Heap) (locs : List Loc) (ls : Array Slot), WP D ad cI σ_1 τ η H → va_S (AA ad) s.heap H locs → lv_has ls 6 [(0, .ref (ad 27)), (1, .ref (ad 1)), (2, .ref (ad 26)), (3, .int v3.1), (4, .int y1_4)] → W p l e rmX6_follow_27_1_26 s m args below meth c H locs 0 0 Q (F0 m 54 ls []) := by
          intro H locs ls hP hS hl
          refine lv_aload_n hx hb dX6_follow_54 rfl (lv_at hl 0 rfl) ?_
          refine va_get (D := D) (ci := 6) (v := .ref (ad 28)) (C := RX6) (T := TX6) (N := 1) hx hb htb wu_6 hown hK.1 hP 27 w_27 rfl 0 (by decide) (htb _ wFL_RX6_9) (fun _ h9 => h9) rfl dX6_follow_55 ?_
          refine lv_iload hx hb dX6_follow_58 (lv_at hl 4 rfl) ?_
          refine lv_iload_n hx hb dX6_follow_60 rfl (lv_at hl 3 rfl) ?_
          obtain ⟨σ11, g11, h⟩ := ob h
          refine r_astC (A := AA ad) hx hb hK hd (fun _ hh => hh) hP hS 28 10 (by decide) (fun _ => rfl) g11 dX6_follow_61 (fun H locs hP hS => ?_)
          refine lv_iload_n hx hb dX6_follow_62 rfl (lv_at hl 3 rfl) ?_
          refine lv_aload_n hx hb dX6_follow_63 rfl (lv_at hl 1 rfl) ?_
          refine lv_iload_n hx hb dX6_follow_64 rfl (lv_at hl 3 rfl) ?_
          refine lv_aload_n hx hb dX6_follow_65 rfl (lv_at hl 1 rfl) ?_
          obtain ⟨v12, g12, h⟩ := ol h
          refine c_Vi (q := (RX0, TX0, 6)) (ci := 0) (b := 1) (As := []) (rest := [.int v3.1, .ref (ad 1), .int v3.1]) (A := AA ad) ⟨hx, hb, hml, hown, htb⟩ (c_X0_aunts l D ad cI hd σ11 τ η  v12 g12) (cwV 0 htb (gdV (fun _ hh => hh) wML_RX6_25 wIM_yX0_aunts wSE_yX0_aunts wI_RX0 wC_yX0_aunts) rfl rfl rfl hd_X0_aunts ⟨by decide, by decide⟩) hK hP rfl w_1 (fun _ hh => hh) hS rfl hl.1 rfl (Nat.le_of_ble_eq_true rfl) dX6_follow_66 ⟨Nat.le_refl 0, Nat.le_refl 0⟩ (fun H locs hP hS => ?_)
          refine lv_iand hx hb dX6_follow_69 ?_
          refine lv_iload hx hb dX6_follow_70 (lv_at hl 4 rfl) ?_
          obtain ⟨v13, g13, h⟩ := ob h
          refine c_Vi (q := (RX0, TX0, 6)) (ci := 0) (b := 1) (As := [.int (v3.1 &&& v12), .int y1_4]) (rest := [.int v3.1]) (A := AA ad) ⟨hx, hb, hml, hown, htb⟩ (c_X0_seenByAny l D ad cI hd σ11 τ η (v3.1 &&& v12) y1_4 v13 g13) (cwV 2 htb (gdV (fun _ hh => hh) wML_RX6_28 wIM_yX0_seenByAny wSE_yX0_seenByAny wI_RX0 wC_yX0_seenByAny) rfl rfl rfl hd_X0_seenByAny ⟨by decide, by decide⟩) hK hP rfl w_1 (fun _ hh => hh) hS rfl hl.1 rfl (Nat.le_of_ble_eq_true rfl) dX6_follow_72 ⟨Nat.le_refl 0, Nat.le_refl 0⟩ (fun H locs hP hS => ?_)
          refine lv_ior hx hb dX6_follow_75 ?_
          refine lv_istore_n (lv' := [(3, .int (v3.1 ||| v13)), (0, .ref (ad 27)), (1, .ref (ad 1)), (2, .ref (ad 26)), (4, .int y1_4)]) hx hb dX6_follow_76 rfl hl (by decide) rfl (fun ls hl => ?_)
          refine lv_iinc (v := (y1_4 + (1 : Int32))) (lv' := [(4, .int (y1_4 + (1 : Int32))), (3, .int (v3.1 ||| v13)), (0, .ref (ad 27)), (1, .ref (ad 1)), (2, .ref (ad 26))]) hx hb dX6_follow_77 hl (k := 4) rfl rfl (by decide) rfl (fun ls hl => ?_)
          refine lv_goto (tgt := 5) hx hb dX6_follow_80 (by decide) ?_
          exact ih σ11 (v3.1 ||| v13) (y1_4 + (1 : Int32)) _ _ _ h hP hS (lv_sub hl [2, 3, 4, 1, 0] rfl)
        have L2 : ∀ (n : Nat) (y2_3 : Int32) (y2_5 : Int32) (H : Heap) (locs : List Loc) (ls : Array Slot), X6_follow_27_1_26_L2 n σ_1 y2_3 y1_4 y2_5 = some v3 → WP D ad cI σ_1 τ η H → va_S (AA ad) s.heap H locs → lv_has ls 6 [(0, .ref (ad 27)), (1, .ref (ad 1)), (2, .ref (ad 26)), (3, .int y2_3), (4, .int y1_4), (5, .int y2_5)] → W p l e rmX6_follow_27_1_26 s m args below meth c H locs 0 0 Q (F0 m 15 ls []) := by
          intro n
          induction n with
          | zero => intro y2_3 y2_5 H locs ls h; exact absurd h (by simp [X6_follow_27_1_26_L2])
          | succ n ih =>
            intro y2_3 y2_5 H locs ls h hP hS hl
            replace h := (X6_follow_27_1_26_L2_s n σ_1 y2_3 y1_4 y2_5).symm.trans h
            refine lv_iload hx hb dX6_follow_15 (lv_at hl 5 rfl) ?_
            refine lv_aload_n hx hb dX6_follow_17 rfl (lv_at hl 1 rfl) ?_
            obtain ⟨v4, g4, h⟩ := ol h
            refine c_Vi (q := (RX0, TX0, 6)) (ci := 0) (b := 1) (As := []) (rest := [.int y2_5]) (A := AA ad) ⟨hx, hb, hml, hown, htb⟩ (c_X0_size l D ad cI hd σ_1 τ η  v4 g4) (cwV 0 htb (gdV (fun _ hh => hh) wML_RX6_15 wIM_yX0_size wSE_yX0_size wI_RX0 wC_yX0_size) rfl rfl rfl hd_X0_size ⟨by decide, by decide⟩) hK hP rfl w_1 (fun _ hh => hh) hS rfl hl.1 rfl (Nat.le_of_ble_eq_true rfl) dX6_follow_18 ⟨Nat.le_refl 0, Nat.le_refl 0⟩ (fun H locs hP hS => ?_)
            refine lv_icmp_ge (tgt := 54) hx hb dX6_follow_21 (by decide) (fun c5 => ?_) (fun c5 => ?_)
            · replace h := ip c5 h
              obtain rfl := Option.some.inj h
              exact K2 _ _ _ hP hS (lv_sub hl [0, 1, 2, 3, 4] rfl)
            · replace h := iq c5 h
              refine lv_iload hx hb dX6_follow_24 (lv_at hl 5 rfl) ?_
              refine lv_aload_n hx hb dX6_follow_26 rfl (lv_at hl 2 rfl) ?_
              refine r_len (v := (9 : Int32)) hx hb hK hP 26 w_26 (by decide) dX6_follow_27 ?_
              refine lv_icmp_ge (tgt := 54) hx hb dX6_follow_28 (by decide) (fun c6 => ?_) (fun c6 => ?_)
              · replace h := ip c6 h
                obtain rfl := Option.some.inj h
                exact K2 _ _ _ hP hS (lv_sub hl [0, 1, 2, 3, 4] rfl)
              · replace h := iq c6 h
                refine lv_aload_n hx hb dX6_follow_31 rfl (lv_at hl 2 rfl) ?_
                refine lv_iload hx hb dX6_follow_32 (lv_at hl 5 rfl) ?_
                obtain ⟨v7, g7, h⟩ := ob h
                refine r_ald hx hb hK hP 26 w_26 g7 dX6_follow_34 ?_
                refine lv_iload hx hb dX6_follow_35 (lv_at hl 4 rfl) ?_
                obtain ⟨v9, hj9, h⟩ := ol h
                have J9 : ∀ (H : Heap) (locs : List Loc) (ls : Array Slot), WP D ad cI σ_1 τ η H → va_S (AA ad) s.heap H locs → lv_has ls 6 [(0, .ref (ad 27)), (1, .ref (ad 1)), (2, .ref (ad 26)), (3, .int v9), (4, .int y1_4), (5, .int y2_5)] → W p l e rmX6_follow_27_1_26 s m args below meth c H locs 0 0 Q (F0 m 48 ls []) := by
                  intro H locs ls hP hS hl
                  refine lv_iinc (v := (y2_5 + (1 : Int32))) (lv' := [(5, .int (y2_5 + (1 : Int32))), (0, .ref (ad 27)), (1, .ref (ad 1)), (2, .ref (ad 26)), (3, .int v9), (4, .int y1_4)]) hx hb dX6_follow_48 hl (k := 5) rfl rfl (by decide) rfl (fun ls hl => ?_)
                  refine lv_goto (tgt := 15) hx hb dX6_follow_51 (by decide) ?_
                  exact ih v9 (y2_5 + (1 : Int32)) _ _ _ h hP hS (lv_sub hl [1, 2, 3, 4, 5, 0] rfl)
                replace h := hj9
                refine lv_icmp_ne (tgt := 48) hx hb dX6_follow_37 (by decide) (fun c8 => ?_) (fun c8 => ?_)
                · replace h := iq c8 h
                  subst h
                  exact J9 _ _ _ hP hS (lv_sub hl [0, 1, 2, 3, 4, 5] rfl)
                · replace h := ip c8 h
                  refine lv_iload_n hx hb dX6_follow_40 rfl (lv_at hl 3 rfl) ?_
                  refine lv_iload hx hb dX6_follow_41 (lv_at hl 5 rfl) ?_
                  refine lv_iconst (v := (1 : Int32)) hx hb dX6_follow_43 (by decide) ?_
                  obtain ⟨v10, g10, h⟩ := ol h
                  refine c_Ni (As := [.int y2_3, .int y2_5, .int (1 : Int32)]) (rest := []) (A := AA ad) ⟨hx, hb, hml, hown, htb⟩ (c_X7_withBit l D ad cI hd σ_1 τ η y2_3 y2_5 (1 : Int32) v10 g10) ⟨va_cnB 3 htb (gdW (fun _ hh => hh) wC_yX7_withBit) rfl rfl rfl (hK.2 _ wMN_RX6_21 rfl) (htb _ wI_RX7) hd_X7_withBit.2 ⟨by decide, by decide⟩, htb _ wST_yX7_withBit, trivial⟩ hK hP (fun _ hh => hh) hS rfl hl.1 rfl (Nat.le_of_ble_eq_true rfl) dX6_follow_44 ⟨Nat.le_refl 0, Nat.le_refl 0⟩ (fun H locs hP hS => ?_)
                  refine lv_istore_n (lv' := [(3, .int v10), (0, .ref (ad 27)), (1, .ref (ad 1)), (2, .ref (ad 26)), (4, .int y1_4), (5, .int y2_5)]) hx hb dX6_follow_47 rfl hl (by decide) rfl (fun ls hl => ?_)
                  subst h
                  exact J9 _ _ _ hP hS (lv_sub hl [1, 2, 3, 0, 4, 5] rfl)
        exact L2 10000 y1_3 (0 : Int32) _ _ _ hj3 hP hS (lv_sub hl [1, 2, 3, 4, 5, 0] rfl)
  exact L1 10000 σ (0 : Int32) (1 : Int32) _ _ _ hj1 hP hS (lv_sub hl [2, 3, 4, 1, 0] rfl)
