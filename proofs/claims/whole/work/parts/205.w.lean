def X2_size (σ : St)  : Int32 :=
  (σ 10 4)
abbrev rmX2_size : Room := { frames := 0, cells := 0, slots := 0, locals := 0 }
set_option maxHeartbeats 4000000 in
set_option maxRecDepth 100000 in
theorem c_X2_size (l : Launch) (D : va_G) (ad : Nat → Nat) (cI : ClassId) (hd : HD ad) (σ τ : St) (η : Int64)  (rr : Int32) (h : X2_size σ  = rr) : MI l yX2_size (wy yX2_size cX2_size 1 (some .int)) rmX2_size D ad cI [.ref (ad 10)] σ τ η rr σ τ η := by
  refine mk_i (own := RX2) (lv := [(0, .ref (ad 10))]) (plainFor_of_name (by decide)) rfl (Nat.le_of_ble_eq_true rfl) rfl ?_
  intro p e s m args below meth c Q ls hx hb hml hown htb hK ret hP hS hl
  unfold X2_size at h
  refine lv_aload_n hx hb dX2_size_0 rfl (lv_at hl 0 rfl) ?_
  refine va_get (D := D) (ci := 2) (v := .int (σ 10 4)) (C := RX2) (T := TX2) (N := 5) hx hb htb wu_2 hown hK.1 hP 10 w_10 rfl 4 (by decide) (htb _ wFL_RX2_24) (fun _ h9 => h9) rfl dX2_size_1 ?_
  subst h
  exact ret _ _ _ _ _ dX2_size_4 hP hS rfl
def X7_list_L1 (n : Nat) (σ_1 : St) (y1_1 : Int32) : Option (Int32 × St) := match n with
  | 0 => none
  | n + 1 =>
    lt (X3_size σ_1 ) fun v6 =>
    if v6 ≤ y1_1 then (
      some (y1_1, σ_1))
    else (
      bd (X3_digitAt σ_1 y1_1) fun v8 =>
      bd (X3_digitAt σ_1 (y1_1 + (2 : Int32))) fun v9 =>
      bd (X0_isSoftSpoken σ_1 v8) fun v10 =>
      lt ((
          if v10 = 0 then (
            v9)
          else (
            (v9 / (2 : Int32)))) : Int32) fun v12 =>
      bd (X3_digitAt σ_1 (y1_1 + (1 : Int32))) fun v13 =>
      bd (X2_add σ_1 v8 v13 v9 v12) fun v14 =>
      X7_list_L1 n v14 (y1_1 + (4 : Int32)))
theorem X7_list_L1_s (n : Nat) (σ_1 : St) (y1_1 : Int32) : X7_list_L1 (n + 1) σ_1 y1_1 =
    lt (X3_size σ_1 ) fun v6 =>
    if v6 ≤ y1_1 then (
      some (y1_1, σ_1))
    else (
      bd (X3_digitAt σ_1 y1_1) fun v8 =>
      bd (X3_digitAt σ_1 (y1_1 + (2 : Int32))) fun v9 =>
      bd (X0_isSoftSpoken σ_1 v8) fun v10 =>
      lt ((
          if v10 = 0 then (
            v9)
          else (
            (v9 / (2 : Int32)))) : Int32) fun v12 =>
      bd (X3_digitAt σ_1 (y1_1 + (1 : Int32))) fun v13 =>
      bd (X2_add σ_1 v8 v13 v9 v12) fun v14 =>
      X7_list_L1 n v14 (y1_1 + (4 : Int32))) := rfl
def X7_list (σ : St)  : Option (Int32 × St) :=
  lt (X0_size σ ) fun v1 =>
  bd (X3_isList σ v1) fun v2 =>
  if v2 = 0 then (
    some ((-103 : Int32), σ))
  else (
    lt (X2_clear σ ) fun v4 =>
    bd (X7_list_L1 10000 v4 (0 : Int32)) fun v5 =>
    lt (X3_clear v5.2 ) fun v15 =>
    lt (s2 v15 0 9 ((v15 0 9) + (1 : Int32))) fun σ16 =>
    lt (X2_size σ16 ) fun v17 =>
    some (v17, σ16))
abbrev rmX7_list : Room := { frames := 5, cells := 0, slots := 0, locals := 108 }
set_option maxHeartbeats 4000000 in
set_option maxRecDepth 100000 in
theorem c_X7_list (l : Launch) (D : va_G) (ad : Nat → Nat) (cI : ClassId) (hd : HD ad) (σ τ : St) (η : Int64)  (rr : Int32 × St) (h : X7_list σ  = some rr) : MI l yX7_list (wy yX7_list cX7_list 5 (some .int)) rmX7_list D ad cI [.ref (ad 0)] σ τ η rr.1 rr.2 τ η := by
  refine mk_i (own := RX7) (lv := [(0, .ref (ad 0))]) (plainFor_of_name (by decide)) rfl (Nat.le_of_ble_eq_true rfl) rfl ?_
  intro p e s m args below meth c Q ls hx hb hml hown htb hK ret hP hS hl
  unfold X7_list at h
  refine lv_aload_n hx hb dX7_list_0 rfl (lv_at hl 0 rfl) ?_
  refine va_get (D := D) (ci := 7) (v := .ref (ad 8)) (C := RX7) (T := TX7) (N := 11) hx hb htb wu_7 hown hK.1 hP 0 w_0 rfl 2 (by decide) (htb _ wFL_RX7_26) (fun _ h9 => h9) rfl dX7_list_1 ?_
  refine lv_aload_n hx hb dX7_list_4 rfl (lv_at hl 0 rfl) ?_
  refine va_get (D := D) (ci := 7) (v := .ref (ad 1)) (C := RX7) (T := TX7) (N := 11) hx hb htb wu_7 hown hK.1 hP 0 w_0 rfl 0 (by decide) (htb _ wFL_RX7_10) (fun _ h9 => h9) rfl dX7_list_5 ?_
  obtain ⟨v1, g1, h⟩ := ol h
  refine c_Vi (q := (RX0, TX0, 6)) (ci := 0) (b := 1) (As := []) (rest := [.ref (ad 8)]) (A := AA ad) ⟨hx, hb, hml, hown, htb⟩ (c_X0_size l D ad cI hd σ τ η  v1 g1) (cwV 0 htb (gdV (fun _ hh => hh) wML_RX7_138 wIM_yX0_size wSE_yX0_size wI_RX0 wC_yX0_size) rfl rfl rfl hd_X0_size ⟨by decide, by decide⟩) hK hP rfl w_1 (fun _ hh => hh) hS rfl hl.1 rfl (Nat.le_of_ble_eq_true rfl) dX7_list_8 ⟨Nat.le_refl 0, Nat.le_refl 0⟩ (fun H locs hP hS => ?_)
  obtain ⟨v2, g2, h⟩ := ob h
  refine c_Vz (q := (RX3, TX3, 2)) (ci := 3) (b := 8) (As := [.int v1]) (rest := []) (A := AA ad) ⟨hx, hb, hml, hown, htb⟩ (c_X3_isList l D ad cI hd σ τ η v1 v2 g2) (cwV 1 htb (gdV (fun _ hh => hh) wML_RX7_142 wIM_yX3_isList wSE_yX3_isList wI_RX3 wC_yX3_isList) rfl rfl rfl hd_X3_isList ⟨by decide, by decide⟩) hK hP rfl w_8 (fun _ hh => hh) hS rfl hl.1 rfl (Nat.le_of_ble_eq_true rfl) dX7_list_11 ⟨Nat.le_refl 0, Nat.le_refl 0⟩ (fun H locs hz2 hP hS => ?_)
  refine lv_if_ne (tgt := 20) hx hb dX7_list_14 (by decide) (fun c3 => ?_) (fun c3 => ?_)
  · replace h := iq c3 h
    refine lv_aload_n hx hb dX7_list_20 rfl (lv_at hl 0 rfl) ?_
    refine va_get (D := D) (ci := 7) (v := .ref (ad 10)) (C := RX7) (T := TX7) (N := 11) hx hb htb wu_7 hown hK.1 hP 0 w_0 rfl 3 (by decide) (htb _ wFL_RX7_33) (fun _ h9 => h9) rfl dX7_list_21 ?_
    obtain ⟨v4, g4, h⟩ := ol h
    refine c_Vv (q := (RX2, TX2, 5)) (ci := 2) (b := 10) (As := []) (rest := []) (A := AA ad) ⟨hx, hb, hml, hown, htb⟩ (c_X2_clear l D ad cI hd σ τ η  v4 g4) (cwV 0 htb (gdV (fun _ hh => hh) wML_RX7_145 wIM_yX2_clear wSE_yX2_clear wI_RX2 wC_yX2_clear) rfl rfl rfl hd_X2_clear ⟨by decide, by decide⟩) hK hP rfl w_10 (fun _ hh => hh) hS rfl hl.1 rfl (Nat.le_of_ble_eq_true rfl) dX7_list_24 ⟨Nat.le_refl 0, Nat.le_refl 0⟩ (fun H locs hP hS => ?_)
    refine lv_iconst (v := (0 : Int32)) hx hb dX7_list_27 (by decide) ?_
    refine lv_istore_n (lv' := [(1, .int (0 : Int32)), (0, .ref (ad 0))]) hx hb dX7_list_28 rfl hl (by decide) rfl (fun ls hl => ?_)
    obtain ⟨v5, hj5, h⟩ := ob h
    have K1 : ∀ (H : Heap) (locs : List Loc) (ls : Array Slot), WP D ad cI v5.2 τ η H → va_S (AA ad) s.heap H locs → lv_has ls 5 [(0, .ref (ad 0))] → W p l e rmX7_list s m args below meth c H locs 0 0 Q (F0 m 107 ls []) := by
      intro H locs ls hP hS hl
      refine lv_aload_n hx hb dX7_list_107 rfl (lv_at hl 0 rfl) ?_
      refine va_get (D := D) (ci := 7) (v := .ref (ad 8)) (C := RX7) (T := TX7) (N := 11) hx hb htb wu_7 hown hK.1 hP 0 w_0 rfl 2 (by decide) (htb _ wFL_RX7_26) (fun _ h9 => h9) rfl dX7_list_108 ?_
      obtain ⟨v15, g15, h⟩ := ol h
      refine c_Vv (q := (RX3, TX3, 2)) (ci := 3) (b := 8) (As := []) (rest := []) (A := AA ad) ⟨hx, hb, hml, hown, htb⟩ (c_X3_clear l D ad cI hd v5.2 τ η  v15 g15) (cwV 0 htb (gdV (fun _ hh => hh) wML_RX7_135 wIM_yX3_clear wSE_yX3_clear wI_RX3 wC_yX3_clear) rfl rfl rfl hd_X3_clear ⟨by decide, by decide⟩) hK hP rfl w_8 (fun _ hh => hh) hS rfl hl.1 rfl (Nat.le_of_ble_eq_true rfl) dX7_list_111 ⟨Nat.le_refl 0, Nat.le_refl 0⟩ (fun H locs hP hS => ?_)
      refine lv_aload_n hx hb dX7_list_114 rfl (lv_at hl 0 rfl) ?_
      refine lv_dup hx hb dX7_list_115 rfl ?_
      refine va_get (D := D) (ci := 7) (v := .int (v15 0 9)) (C := RX7) (T := TX7) (N := 11) hx hb htb wu_7 hown hK.1 hP 0 w_0 rfl 9 (by decide) (htb _ wFL_RX7_65) (fun _ h9 => h9) rfl dX7_list_116 ?_
      refine lv_iconst (v := (1 : Int32)) hx hb dX7_list_119 (by decide) ?_
      refine lv_iadd hx hb dX7_list_120 ?_
      obtain ⟨σ16, g16, h⟩ := ol h
      refine r_putC (ci := 7) (C := RX7) (T := TX7) (N := 11) (A := AA ad) hx hb htb wu_7 tyX7 tyX7_ok nmX7 hown hK hd (fun _ hh => hh) hP hS 0 (by decide) 9 rfl rfl rfl (by decide) (htb _ wFL_RX7_65) rfl rfl (by decide +kernel) (Nat.le_of_ble_eq_true rfl) dX7_list_121 (fun H locs hP hS => ?_)
      rw [g16] at hP
      refine lv_aload_n hx hb dX7_list_124 rfl (lv_at hl 0 rfl) ?_
      refine va_get (D := D) (ci := 7) (v := .ref (ad 10)) (C := RX7) (T := TX7) (N := 11) hx hb htb wu_7 hown hK.1 hP 0 w_0 rfl 3 (by decide) (htb _ wFL_RX7_33) (fun _ h9 => h9) rfl dX7_list_125 ?_
      obtain ⟨v17, g17, h⟩ := ol h
      refine c_Vi (q := (RX2, TX2, 5)) (ci := 2) (b := 10) (As := []) (rest := []) (A := AA ad) ⟨hx, hb, hml, hown, htb⟩ (c_X2_size l D ad cI hd σ16 τ η  v17 g17) (cwV 0 htb (gdV (fun _ hh => hh) wML_RX7_155 wIM_yX2_size wSE_yX2_size wI_RX2 wC_yX2_size) rfl rfl rfl hd_X2_size ⟨by decide, by decide⟩) hK hP rfl w_10 (fun _ hh => hh) hS rfl hl.1 rfl (Nat.le_of_ble_eq_true rfl) dX7_list_128 ⟨Nat.le_refl 0, Nat.le_refl 0⟩ (fun H locs hP hS => ?_)
      obtain rfl := Option.some.inj h
      exact ret _ _ _ _ _ dX7_list_131 hP hS rfl
    have L1 : ∀ (n : Nat) (σ_1 : St) (y1_1 : Int32) (H : Heap) (locs : List Loc) (ls : Array Slot), X7_list_L1 n σ_1 y1_1 = some v5 → WP D ad cI σ_1 τ η H → va_S (AA ad) s.heap H locs → lv_has ls 5 [(0, .ref (ad 0)), (1, .int y1_1)] → W p l e rmX7_list s m args below meth c H locs 0 0 Q (F0 m 29 ls []) := by
      intro n
      induction n with
      | zero => intro σ_1 y1_1 H locs ls h; exact absurd h (by simp [X7_list_L1])
      | succ n ih =>
        intro σ_1 y1_1 H locs ls h hP hS hl
        replace h := (X7_list_L1_s n σ_1 y1_1).symm.trans h
        refine lv_iload_n hx hb dX7_list_29 rfl (lv_at hl 1 rfl) ?_
        refine lv_aload_n hx hb dX7_list_30 rfl (lv_at hl 0 rfl) ?_
        refine va_get (D := D) (ci := 7) (v := .ref (ad 8)) (C := RX7) (T := TX7) (N := 11) hx hb htb wu_7 hown hK.1 hP 0 w_0 rfl 2 (by decide) (htb _ wFL_RX7_26) (fun _ h9 => h9) rfl dX7_list_31 ?_
        obtain ⟨v6, g6, h⟩ := ol h
        refine c_Vi (q := (RX3, TX3, 2)) (ci := 3) (b := 8) (As := []) (rest := [.int y1_1]) (A := AA ad) ⟨hx, hb, hml, hown, htb⟩ (c_X3_size l D ad cI hd σ_1 τ η  v6 g6) (cwV 0 htb (gdV (fun _ hh => hh) wML_RX7_127 wIM_yX3_size wSE_yX3_size wI_RX3 wC_yX3_size) rfl rfl rfl hd_X3_size ⟨by decide, by decide⟩) hK hP rfl w_8 (fun _ hh => hh) hS rfl hl.1 rfl (Nat.le_of_ble_eq_true rfl) dX7_list_34 ⟨Nat.le_refl 0, Nat.le_refl 0⟩ (fun H locs hP hS => ?_)
        refine lv_icmp_ge (tgt := 107) hx hb dX7_list_37 (by decide) (fun c7 => ?_) (fun c7 => ?_)
        · replace h := ip c7 h
          obtain rfl := Option.some.inj h
          exact K1 _ _ _ hP hS (lv_sub hl [0] rfl)
        · replace h := iq c7 h
          refine lv_aload_n hx hb dX7_list_40 rfl (lv_at hl 0 rfl) ?_
          refine va_get (D := D) (ci := 7) (v := .ref (ad 8)) (C := RX7) (T := TX7) (N := 11) hx hb htb wu_7 hown hK.1 hP 0 w_0 rfl 2 (by decide) (htb _ wFL_RX7_26) (fun _ h9 => h9) rfl dX7_list_41 ?_
          refine lv_iload_n hx hb dX7_list_44 rfl (lv_at hl 1 rfl) ?_
          obtain ⟨v8, g8, h⟩ := ob h
          refine c_Vi (q := (RX3, TX3, 2)) (ci := 3) (b := 8) (As := [.int y1_1]) (rest := []) (A := AA ad) ⟨hx, hb, hml, hown, htb⟩ (c_X3_digitAt l D ad cI hd σ_1 τ η y1_1 v8 g8) (cwV 1 htb (gdV (fun _ hh => hh) wML_RX7_146 wIM_yX3_digitAt wSE_yX3_digitAt wI_RX3 wC_yX3_digitAt) rfl rfl rfl hd_X3_digitAt ⟨by decide, by decide⟩) hK hP rfl w_8 (fun _ hh => hh) hS rfl hl.1 rfl (Nat.le_of_ble_eq_true rfl) dX7_list_45 ⟨Nat.le_refl 0, Nat.le_refl 0⟩ (fun H locs hP hS => ?_)
          refine lv_istore_n (lv' := [(2, .int v8), (0, .ref (ad 0)), (1, .int y1_1)]) hx hb dX7_list_48 rfl hl (by decide) rfl (fun ls hl => ?_)
          refine lv_aload_n hx hb dX7_list_49 rfl (lv_at hl 1 rfl) ?_
          refine va_get (D := D) (ci := 7) (v := .ref (ad 8)) (C := RX7) (T := TX7) (N := 11) hx hb htb wu_7 hown hK.1 hP 0 w_0 rfl 2 (by decide) (htb _ wFL_RX7_26) (fun _ h9 => h9) rfl dX7_list_50 ?_
          refine lv_iload_n hx hb dX7_list_53 rfl (lv_at hl 2 rfl) ?_
          refine lv_iconst (v := (2 : Int32)) hx hb dX7_list_54 (by decide) ?_
          refine lv_iadd hx hb dX7_list_55 ?_
          obtain ⟨v9, g9, h⟩ := ob h
          refine c_Vi (q := (RX3, TX3, 2)) (ci := 3) (b := 8) (As := [.int (y1_1 + (2 : Int32))]) (rest := []) (A := AA ad) ⟨hx, hb, hml, hown, htb⟩ (c_X3_digitAt l D ad cI hd σ_1 τ η (y1_1 + (2 : Int32)) v9 g9) (cwV 1 htb (gdV (fun _ hh => hh) wML_RX7_146 wIM_yX3_digitAt wSE_yX3_digitAt wI_RX3 wC_yX3_digitAt) rfl rfl rfl hd_X3_digitAt ⟨by decide, by decide⟩) hK hP rfl w_8 (fun _ hh => hh) hS rfl hl.1 rfl (Nat.le_of_ble_eq_true rfl) dX7_list_56 ⟨Nat.le_refl 0, Nat.le_refl 0⟩ (fun H locs hP hS => ?_)
          refine lv_istore_n (lv' := [(3, .int v9), (2, .int v8), (0, .ref (ad 0)), (1, .int y1_1)]) hx hb dX7_list_59 rfl hl (by decide) rfl (fun ls hl => ?_)
          refine lv_aload_n hx hb dX7_list_60 rfl (lv_at hl 2 rfl) ?_
          refine va_get (D := D) (ci := 7) (v := .ref (ad 1)) (C := RX7) (T := TX7) (N := 11) hx hb htb wu_7 hown hK.1 hP 0 w_0 rfl 0 (by decide) (htb _ wFL_RX7_10) (fun _ h9 => h9) rfl dX7_list_61 ?_
          refine lv_iload_n hx hb dX7_list_64 rfl (lv_at hl 1 rfl) ?_
          obtain ⟨v10, g10, h⟩ := ob h
          refine c_Vz (q := (RX0, TX0, 6)) (ci := 0) (b := 1) (As := [.int v8]) (rest := []) (A := AA ad) ⟨hx, hb, hml, hown, htb⟩ (c_X0_isSoftSpoken l D ad cI hd σ_1 τ η v8 v10 g10) (cwV 1 htb (gdV (fun _ hh => hh) wML_RX7_149 wIM_yX0_isSoftSpoken wSE_yX0_isSoftSpoken wI_RX0 wC_yX0_isSoftSpoken) rfl rfl rfl hd_X0_isSoftSpoken ⟨by decide, by decide⟩) hK hP rfl w_1 (fun _ hh => hh) hS rfl hl.1 rfl (Nat.le_of_ble_eq_true rfl) dX7_list_65 ⟨Nat.le_refl 0, Nat.le_refl 0⟩ (fun H locs hz10 hP hS => ?_)
          obtain ⟨v12, hj12, h⟩ := ol h
          have J12 : ∀ (H : Heap) (locs : List Loc) (ls : Array Slot), WP D ad cI σ_1 τ η H → va_S (AA ad) s.heap H locs → lv_has ls 5 [(0, .ref (ad 0)), (1, .int y1_1), (2, .int v8), (3, .int v9)] → W p l e rmX7_list s m args below meth c H locs 0 0 Q (F0 m 78 ls [.int v12]) := by
            intro H locs ls hP hS hl
            refine lv_istore (lv' := [(4, .int v12), (0, .ref (ad 0)), (1, .int y1_1), (2, .int v8), (3, .int v9)]) hx hb dX7_list_78 hl (by decide) rfl (fun ls hl => ?_)
            refine lv_aload_n hx hb dX7_list_80 rfl (lv_at hl 1 rfl) ?_
            refine va_get (D := D) (ci := 7) (v := .ref (ad 10)) (C := RX7) (T := TX7) (N := 11) hx hb htb wu_7 hown hK.1 hP 0 w_0 rfl 3 (by decide) (htb _ wFL_RX7_33) (fun _ h9 => h9) rfl dX7_list_81 ?_
            refine lv_iload_n hx hb dX7_list_84 rfl (lv_at hl 3 rfl) ?_
            refine lv_aload_n hx hb dX7_list_85 rfl (lv_at hl 1 rfl) ?_
            refine va_get (D := D) (ci := 7) (v := .ref (ad 8)) (C := RX7) (T := TX7) (N := 11) hx hb htb wu_7 hown hK.1 hP 0 w_0 rfl 2 (by decide) (htb _ wFL_RX7_26) (fun _ h9 => h9) rfl dX7_list_86 ?_
            refine lv_iload_n hx hb dX7_list_89 rfl (lv_at hl 2 rfl) ?_
            refine lv_iconst (v := (1 : Int32)) hx hb dX7_list_90 (by decide) ?_
            refine lv_iadd hx hb dX7_list_91 ?_
            obtain ⟨v13, g13, h⟩ := ob h
            refine c_Vi (q := (RX3, TX3, 2)) (ci := 3) (b := 8) (As := [.int (y1_1 + (1 : Int32))]) (rest := [.int v8, .ref (ad 10)]) (A := AA ad) ⟨hx, hb, hml, hown, htb⟩ (c_X3_digitAt l D ad cI hd σ_1 τ η (y1_1 + (1 : Int32)) v13 g13) (cwV 1 htb (gdV (fun _ hh => hh) wML_RX7_146 wIM_yX3_digitAt wSE_yX3_digitAt wI_RX3 wC_yX3_digitAt) rfl rfl rfl hd_X3_digitAt ⟨by decide, by decide⟩) hK hP rfl w_8 (fun _ hh => hh) hS rfl hl.1 rfl (Nat.le_of_ble_eq_true rfl) dX7_list_92 ⟨Nat.le_refl 0, Nat.le_refl 0⟩ (fun H locs hP hS => ?_)
            refine lv_iload_n hx hb dX7_list_95 rfl (lv_at hl 4 rfl) ?_
            refine lv_iload hx hb dX7_list_96 (lv_at hl 0 rfl) ?_
            obtain ⟨v14, g14, h⟩ := ob h
            refine c_Vv (q := (RX2, TX2, 5)) (ci := 2) (b := 10) (As := [.int v8, .int v13, .int v9, .int v12]) (rest := []) (A := AA ad) ⟨hx, hb, hml, hown, htb⟩ (c_X2_add l D ad cI hd σ_1 τ η v8 v13 v9 v12 v14 g14) (cwV 4 htb (gdV (fun _ hh => hh) wML_RX7_152 wIM_yX2_add wSE_yX2_add wI_RX2 wC_yX2_add) rfl rfl rfl hd_X2_add ⟨by decide, by decide⟩) hK hP rfl w_10 (fun _ hh => hh) hS rfl hl.1 rfl (Nat.le_of_ble_eq_true rfl) dX7_list_98 ⟨Nat.le_refl 0, Nat.le_refl 0⟩ (fun H locs hP hS => ?_)
            refine lv_iinc (v := (y1_1 + (4 : Int32))) (lv' := [(1, .int (y1_1 + (4 : Int32))), (4, .int v12), (0, .ref (ad 0)), (2, .int v8), (3, .int v9)]) hx hb dX7_list_101 hl (k := 2) rfl rfl (by decide) rfl (fun ls hl => ?_)
            refine lv_goto (tgt := 29) hx hb dX7_list_104 (by decide) ?_
            exact ih v14 (y1_1 + (4 : Int32)) _ _ _ h hP hS (lv_sub hl [2, 0] rfl)
          replace h := hj12
          refine lv_if_eq (tgt := 77) hx hb dX7_list_68 (by decide) (fun c11 => ?_) (fun c11 => ?_)
          · replace h := ip c11 h
            refine lv_iload_n hx hb dX7_list_77 rfl (lv_at hl 0 rfl) ?_
            subst h
            exact J12 _ _ _ hP hS (lv_sub hl [2, 3, 1, 0] rfl)
          · replace h := iq c11 h
            refine lv_iload_n hx hb dX7_list_71 rfl (lv_at hl 0 rfl) ?_
            refine lv_iconst (v := (2 : Int32)) hx hb dX7_list_72 (by decide) ?_
            refine lv_idiv hx hb dX7_list_73 (by decide) ?_
            refine lv_goto (tgt := 78) hx hb dX7_list_74 (by decide) ?_
            subst h
            exact J12 _ _ _ hP hS (lv_sub hl [2, 3, 1, 0] rfl)
    exact L1 10000 v4 (0 : Int32) _ _ _ hj5 hP hS (lv_sub hl [1, 0] rfl)
  · replace h := ip c3 h
    refine lv_bipush (v := (-103 : Int32)) hx hb dX7_list_17 (by decide) ?_
    obtain rfl := Option.some.inj h
    exact ret _ _ _ _ _ dX7_list_19 hP hS rfl
def X8_list_L2 (n : Nat) (τ_2 : St) (u2_1 : Int32) (y2_2 : Int32) : Option (Int32 × St) := match n with
  | 0 => none
  | n + 1 =>
    if (τ_2 29 7) ≤ y2_2 then (
      some (y2_2, τ_2))
    else (
      bd (rd (τ_2 35) 60 (y2_2 + (1 : Int32))) fun v9 =>
      bd ((
          if (v9 - (48 : Int32)) = u2_1 then (
            bd (rd (τ_2 35) 60 y2_2) fun v12 =>
            bd (wa τ_2 36 45 ((3 : Int32) * (τ_2 29 8)) (v12 - (48 : Int32))) fun τ13 =>
            bd (wa τ13 36 45 (((3 : Int32) * (τ13 29 8)) + (1 : Int32)) u2_1) fun τ14 =>
            bd (rd (τ14 35) 60 (y2_2 + (2 : Int32))) fun v15 =>
            bd (wa τ14 36 45 (((3 : Int32) * (τ14 29 8)) + (2 : Int32)) (v15 - (48 : Int32))) fun τ16 =>
            lt (s2 τ16 29 8 ((τ16 29 8) + (1 : Int32))) fun τ17 =>
            some τ17)
          else (
            some τ_2)) : Option (St)) fun v11 =>
      X8_list_L2 n v11 u2_1 (y2_2 + (4 : Int32)))
theorem X8_list_L2_s (n : Nat) (τ_2 : St) (u2_1 : Int32) (y2_2 : Int32) : X8_list_L2 (n + 1) τ_2 u2_1 y2_2 =
    if (τ_2 29 7) ≤ y2_2 then (
      some (y2_2, τ_2))
    else (
      bd (rd (τ_2 35) 60 (y2_2 + (1 : Int32))) fun v9 =>
      bd ((
          if (v9 - (48 : Int32)) = u2_1 then (
            bd (rd (τ_2 35) 60 y2_2) fun v12 =>
            bd (wa τ_2 36 45 ((3 : Int32) * (τ_2 29 8)) (v12 - (48 : Int32))) fun τ13 =>
            bd (wa τ13 36 45 (((3 : Int32) * (τ13 29 8)) + (1 : Int32)) u2_1) fun τ14 =>
            bd (rd (τ14 35) 60 (y2_2 + (2 : Int32))) fun v15 =>
            bd (wa τ14 36 45 (((3 : Int32) * (τ14 29 8)) + (2 : Int32)) (v15 - (48 : Int32))) fun τ16 =>
            lt (s2 τ16 29 8 ((τ16 29 8) + (1 : Int32))) fun τ17 =>
            some τ17)
          else (
            some τ_2)) : Option (St)) fun v11 =>
      X8_list_L2 n v11 u2_1 (y2_2 + (4 : Int32))) := rfl
def X8_list_L1 (n : Nat) (τ_1 : St) (y1_1 : Int32) : Option (Int32 × St) := match n with
  | 0 => none
  | n + 1 =>
    if (9 : Int32) ≤ y1_1 then (
      some (y1_1, τ_1))
    else (
      bd (X8_list_L2 10000 τ_1 y1_1 (0 : Int32)) fun v7 =>
      X8_list_L1 n v7.2 (y1_1 + (1 : Int32)))
theorem X8_list_L1_s (n : Nat) (τ_1 : St) (y1_1 : Int32) : X8_list_L1 (n + 1) τ_1 y1_1 =
    if (9 : Int32) ≤ y1_1 then (
      some (y1_1, τ_1))
    else (
      bd (X8_list_L2 10000 τ_1 y1_1 (0 : Int32)) fun v7 =>
      X8_list_L1 n v7.2 (y1_1 + (1 : Int32))) := rfl
def X8_list (τ : St)  : Option (Int32 × St) :=
  bd (X8_faultOf τ ) fun v1 =>
  if v1 < (τ 29 7) then (
    some ((-103 : Int32), τ))
  else (
    if (irem (τ 29 7) (4 : Int32)) = (3 : Int32) then (
      lt (s2 τ 29 8 (0 : Int32)) fun τ4 =>
      bd (X8_list_L1 10000 τ4 (1 : Int32)) fun v5 =>
      lt (s2 v5.2 29 9 ((v5.2 29 9) + (1 : Int32))) fun τ18 =>
      lt (s2 τ18 29 7 (0 : Int32)) fun τ19 =>
      some ((τ19 29 8), τ19))
    else (
      some ((-103 : Int32), τ)))
abbrev rmX8_list : Room := { frames := 4, cells := 0, slots := 0, locals := 89 }
set_option maxHeartbeats 4000000 in
set_option maxRecDepth 100000 in
theorem c_X8_list (l : Launch) (D : va_G) (ad : Nat → Nat) (cI : ClassId) (hd : HD ad) (σ τ : St) (η : Int64)  (rr : Int32 × St) (h : X8_list τ  = some rr) : MI l yX8_list (wy yX8_list cX8_list 3 (some .int)) rmX8_list D ad cI [.ref (ad 29)] σ τ η rr.1 σ rr.2 η := by
  refine mk_i (own := RX8) (lv := [(0, .ref (ad 29))]) (plainFor_of_name (by decide)) rfl (Nat.le_of_ble_eq_true rfl) rfl ?_
  intro p e s m args below meth c Q ls hx hb hml hown htb hK ret hP hS hl
  unfold X8_list at h
  refine lv_aload_n hx hb dX8_list_0 rfl (lv_at hl 0 rfl) ?_
  obtain ⟨v1, g1, h⟩ := ob h
  refine c_Vi (q := (RX8, TX8, 27)) (ci := 8) (b := 29) (As := []) (rest := []) (A := AA ad) ⟨hx, hb, hml, hown, htb⟩ (c_X8_faultOf l D ad cI hd σ τ η  v1 g1) (cwV 0 htb (gdV (fun _ hh => hh) wML_RX8_105 wIM_yX8_faultOf wSE_yX8_faultOf wI_RX8 wC_yX8_faultOf) rfl rfl rfl hd_X8_faultOf ⟨by decide, by decide⟩) hK hP rfl w_29 (fun _ hh => hh) hS rfl hl.1 rfl (Nat.le_of_ble_eq_true rfl) dX8_list_1 ⟨Nat.le_refl 0, Nat.le_refl 0⟩ (fun H locs hP hS => ?_)
  refine lv_aload_n hx hb dX8_list_4 rfl (lv_at hl 0 rfl) ?_
  refine va_get (D := D) (ci := 8) (v := .int (τ 29 7)) (C := RX8) (T := TX8) (N := 27) hx hb htb wu_8 hown hK.1 hP 29 w_29 rfl 7 (by decide) (htb _ wFL_RX8_97) (fun _ h9 => h9) rfl dX8_list_5 ?_
  refine lv_icmp_lt (tgt := 21) hx hb dX8_list_8 (by decide) (fun c2 => ?_) (fun c2 => ?_)
  · replace h := ip c2 h
    refine lv_bipush (v := (-103 : Int32)) hx hb dX8_list_21 (by decide) ?_
    obtain rfl := Option.some.inj h
    exact ret _ _ _ _ _ dX8_list_23 hP hS rfl
  · replace h := iq c2 h
    refine lv_aload_n hx hb dX8_list_11 rfl (lv_at hl 0 rfl) ?_
    refine va_get (D := D) (ci := 8) (v := .int (τ 29 7)) (C := RX8) (T := TX8) (N := 27) hx hb htb wu_8 hown hK.1 hP 29 w_29 rfl 7 (by decide) (htb _ wFL_RX8_97) (fun _ h9 => h9) rfl dX8_list_12 ?_
    refine lv_iconst (v := (4 : Int32)) hx hb dX8_list_15 (by decide) ?_
    refine lv_irem hx hb dX8_list_16 (by decide) ?_
    refine lv_iconst (v := (3 : Int32)) hx hb dX8_list_17 (by decide) ?_
    refine lv_icmp_eq (tgt := 24) hx hb dX8_list_18 (by decide) (fun c3 => ?_) (fun c3 => ?_)
    · replace h := ip c3 h
      refine lv_aload_n hx hb dX8_list_24 rfl (lv_at hl 0 rfl) ?_
      refine lv_iconst (v := (0 : Int32)) hx hb dX8_list_25 (by decide) ?_
      obtain ⟨τ4, g4, h⟩ := ol h
      refine r_putM (ci := 8) (C := RX8) (T := TX8) (N := 27) (A := AA ad) hx hb htb wu_8 tyX8 tyX8_ok nmX8 hown hK hd (fun _ hh => hh) hP hS 8 rfl rfl rfl (by decide) (htb _ wFL_RX8_109) rfl rfl (by decide +kernel) (Nat.le_of_ble_eq_true rfl) dX8_list_26 (fun H locs hP hS => ?_)
      rw [g4] at hP
      refine lv_iconst (v := (1 : Int32)) hx hb dX8_list_29 (by decide) ?_
      refine lv_istore_n (lv' := [(1, .int (1 : Int32)), (0, .ref (ad 29))]) hx hb dX8_list_30 rfl hl (by decide) rfl (fun ls hl => ?_)
      obtain ⟨v5, hj5, h⟩ := ob h
      have K1 : ∀ (H : Heap) (locs : List Loc) (ls : Array Slot), WP D ad cI σ v5.2 η H → va_S (AA ad) s.heap H locs → lv_has ls 3 [(0, .ref (ad 29))] → W p l e rmX8_list s m args below meth c H locs 0 0 Q (F0 m 142 ls []) := by
        intro H locs ls hP hS hl
        refine lv_aload_n hx hb dX8_list_142 rfl (lv_at hl 0 rfl) ?_
        refine lv_dup hx hb dX8_list_143 rfl ?_
        refine va_get (D := D) (ci := 8) (v := .int (v5.2 29 9)) (C := RX8) (T := TX8) (N := 27) hx hb htb wu_8 hown hK.1 hP 29 w_29 rfl 9 (by decide) (htb _ wFL_RX8_112) (fun _ h9 => h9) rfl dX8_list_144 ?_
        refine lv_iconst (v := (1 : Int32)) hx hb dX8_list_147 (by decide) ?_
        refine lv_iadd hx hb dX8_list_148 ?_
        obtain ⟨τ18, g18, h⟩ := ol h
        refine r_putM (ci := 8) (C := RX8) (T := TX8) (N := 27) (A := AA ad) hx hb htb wu_8 tyX8 tyX8_ok nmX8 hown hK hd (fun _ hh => hh) hP hS 9 rfl rfl rfl (by decide) (htb _ wFL_RX8_112) rfl rfl (by decide +kernel) (Nat.le_of_ble_eq_true rfl) dX8_list_149 (fun H locs hP hS => ?_)
        rw [g18] at hP
        refine lv_aload_n hx hb dX8_list_152 rfl (lv_at hl 0 rfl) ?_
        refine lv_iconst (v := (0 : Int32)) hx hb dX8_list_153 (by decide) ?_
        obtain ⟨τ19, g19, h⟩ := ol h
        refine r_putM (ci := 8) (C := RX8) (T := TX8) (N := 27) (A := AA ad) hx hb htb wu_8 tyX8 tyX8_ok nmX8 hown hK hd (fun _ hh => hh) hP hS 7 rfl rfl rfl (by decide) (htb _ wFL_RX8_97) rfl rfl (by decide +kernel) (Nat.le_of_ble_eq_true rfl) dX8_list_154 (fun H locs hP hS => ?_)
        rw [g19] at hP
        refine lv_aload_n hx hb dX8_list_157 rfl (lv_at hl 0 rfl) ?_
        refine va_get (D := D) (ci := 8) (v := .int (τ19 29 8)) (C := RX8) (T := TX8) (N := 27) hx hb htb wu_8 hown hK.1 hP 29 w_29 rfl 8 (by decide) (htb _ wFL_RX8_109) (fun _ h9 => h9) rfl dX8_list_158 ?_
        obtain rfl := Option.some.inj h
        exact ret _ _ _ _ _ dX8_list_161 hP hS rfl
      have L1 : ∀ (n : Nat) (τ_1 : St) (y1_1 : Int32) (H : Heap) (locs : List Loc) (ls : Array Slot), X8_list_L1 n τ_1 y1_1 = some v5 → WP D ad cI σ τ_1 η H → va_S (AA ad) s.heap H locs → lv_has ls 3 [(0, .ref (ad 29)), (1, .int y1_1)] → W p l e rmX8_list s m args below meth c H locs 0 0 Q (F0 m 31 ls []) := by
        intro n
        induction n with
        | zero => intro τ_1 y1_1 H locs ls h; exact absurd h (by simp [X8_list_L1])
        | succ n ih =>
          intro τ_1 y1_1 H locs ls h hP hS hl
          replace h := (X8_list_L1_s n τ_1 y1_1).symm.trans h
          refine lv_iload_n hx hb dX8_list_31 rfl (lv_at hl 1 rfl) ?_
          refine lv_bipush (v := (9 : Int32)) hx hb dX8_list_32 (by decide) ?_
          refine lv_icmp_ge (tgt := 142) hx hb dX8_list_34 (by decide) (fun c6 => ?_) (fun c6 => ?_)
          · replace h := ip c6 h
            obtain rfl := Option.some.inj h
            exact K1 _ _ _ hP hS (lv_sub hl [0] rfl)
          · replace h := iq c6 h
            refine lv_iconst (v := (0 : Int32)) hx hb dX8_list_37 (by decide) ?_
            refine lv_istore_n (lv' := [(2, .int (0 : Int32)), (0, .ref (ad 29)), (1, .int y1_1)]) hx hb dX8_list_38 rfl hl (by decide) rfl (fun ls hl => ?_)
            obtain ⟨v7, hj7, h⟩ := ob h
            have K2 : ∀ (H : Heap) (locs : List Loc) (ls : Array Slot), WP D ad cI σ v7.2 η H → va_S (AA ad) s.heap H locs → lv_has ls 3 [(0, .ref (ad 29)), (1, .int y1_1)] → W p l e rmX8_list s m args below meth c H locs 0 0 Q (F0 m 136 ls []) := by
              intro H locs ls hP hS hl
              refine lv_iinc (v := (y1_1 + (1 : Int32))) (lv' := [(1, .int (y1_1 + (1 : Int32))), (0, .ref (ad 29))]) hx hb dX8_list_136 hl (k := 1) rfl rfl (by decide) rfl (fun ls hl => ?_)
              refine lv_goto (tgt := 31) hx hb dX8_list_139 (by decide) ?_
              exact ih v7.2 (y1_1 + (1 : Int32)) _ _ _ h hP hS (lv_sub hl [1, 0] rfl)
            have L2 : ∀ (n : Nat) (τ_2 : St) (y2_2 : Int32) (H : Heap) (locs : List Loc) (ls : Array Slot), X8_list_L2 n τ_2 y1_1 y2_2 = some v7 → WP D ad cI σ τ_2 η H → va_S (AA ad) s.heap H locs → lv_has ls 3 [(0, .ref (ad 29)), (1, .int y1_1), (2, .int y2_2)] → W p l e rmX8_list s m args below meth c H locs 0 0 Q (F0 m 39 ls []) := by
              intro n
              induction n with
              | zero => intro τ_2 y2_2 H locs ls h; exact absurd h (by simp [X8_list_L2])
              | succ n ih =>
                intro τ_2 y2_2 H locs ls h hP hS hl
                replace h := (X8_list_L2_s n τ_2 y1_1 y2_2).symm.trans h
                refine lv_iload_n hx hb dX8_list_39 rfl (lv_at hl 2 rfl) ?_
                refine lv_aload_n hx hb dX8_list_40 rfl (lv_at hl 0 rfl) ?_
                refine va_get (D := D) (ci := 8) (v := .int (τ_2 29 7)) (C := RX8) (T := TX8) (N := 27) hx hb htb wu_8 hown hK.1 hP 29 w_29 rfl 7 (by decide) (htb _ wFL_RX8_97) (fun _ h9 => h9) rfl dX8_list_41 ?_
                refine lv_icmp_ge (tgt := 136) hx hb dX8_list_44 (by decide) (fun c8 => ?_) (fun c8 => ?_)
                · replace h := ip c8 h
                  obtain rfl := Option.some.inj h
                  exact K2 _ _ _ hP hS (lv_sub hl [0, 1] rfl)
                · replace h := iq c8 h
                  refine lv_aload_n hx hb dX8_list_47 rfl (lv_at hl 0 rfl) ?_
                  refine va_get (D := D) (ci := 8) (v := .ref (ad 35)) (C := RX8) (T := TX8) (N := 27) hx hb htb wu_8 hown hK.1 hP 29 w_29 rfl 6 (by decide) (htb _ wFL_RX8_25) (fun _ h9 => h9) rfl dX8_list_48 ?_
                  refine lv_iload_n hx hb dX8_list_51 rfl (lv_at hl 2 rfl) ?_
                  refine lv_iconst (v := (1 : Int32)) hx hb dX8_list_52 (by decide) ?_
                  refine lv_iadd hx hb dX8_list_53 ?_
                  obtain ⟨v9, g9, h⟩ := ob h
                  refine r_ald hx hb hK hP 35 w_35 g9 dX8_list_54 ?_
                  refine lv_bipush (v := (48 : Int32)) hx hb dX8_list_55 (by decide) ?_
                  refine lv_isub hx hb dX8_list_57 ?_
                  refine lv_iload_n hx hb dX8_list_58 rfl (lv_at hl 1 rfl) ?_
                  obtain ⟨v11, hj11, h⟩ := ob h
                  have J11 : ∀ (H : Heap) (locs : List Loc) (ls : Array Slot), WP D ad cI σ v11 η H → va_S (AA ad) s.heap H locs → lv_has ls 3 [(0, .ref (ad 29)), (1, .int y1_1), (2, .int y2_2)] → W p l e rmX8_list s m args below meth c H locs 0 0 Q (F0 m 130 ls []) := by
                    intro H locs ls hP hS hl
                    refine lv_iinc (v := (y2_2 + (4 : Int32))) (lv' := [(2, .int (y2_2 + (4 : Int32))), (0, .ref (ad 29)), (1, .int y1_1)]) hx hb dX8_list_130 hl (k := 2) rfl rfl (by decide) rfl (fun ls hl => ?_)
                    refine lv_goto (tgt := 39) hx hb dX8_list_133 (by decide) ?_
                    exact ih v11 (y2_2 + (4 : Int32)) _ _ _ h hP hS (lv_sub hl [1, 2, 0] rfl)
                  replace h := hj11
                  refine lv_icmp_ne (tgt := 130) hx hb dX8_list_59 (by decide) (fun c10 => ?_) (fun c10 => ?_)
                  · replace h := iq c10 h
                    obtain rfl := Option.some.inj h
                    exact J11 _ _ _ hP hS (lv_sub hl [0, 1, 2] rfl)
                  · replace h := ip c10 h
                    refine lv_aload_n hx hb dX8_list_62 rfl (lv_at hl 0 rfl) ?_
                    refine va_get (D := D) (ci := 8) (v := .ref (ad 36)) (C := RX8) (T := TX8) (N := 27) hx hb htb wu_8 hown hK.1 hP 29 w_29 rfl 10 (by decide) (htb _ wFL_RX8_28) (fun _ h9 => h9) rfl dX8_list_63 ?_
                    refine lv_iconst (v := (3 : Int32)) hx hb dX8_list_66 (by decide) ?_
                    refine lv_aload_n hx hb dX8_list_67 rfl (lv_at hl 0 rfl) ?_
                    refine va_get (D := D) (ci := 8) (v := .int (τ_2 29 8)) (C := RX8) (T := TX8) (N := 27) hx hb htb wu_8 hown hK.1 hP 29 w_29 rfl 8 (by decide) (htb _ wFL_RX8_109) (fun _ h9 => h9) rfl dX8_list_68 ?_
                    refine lv_imul hx hb dX8_list_71 ?_
                    refine lv_aload_n hx hb dX8_list_72 rfl (lv_at hl 0 rfl) ?_
                    refine va_get (D := D) (ci := 8) (v := .ref (ad 35)) (C := RX8) (T := TX8) (N := 27) hx hb htb wu_8 hown hK.1 hP 29 w_29 rfl 6 (by decide) (htb _ wFL_RX8_25) (fun _ h9 => h9) rfl dX8_list_73 ?_
                    refine lv_iload_n hx hb dX8_list_76 rfl (lv_at hl 2 rfl) ?_
                    obtain ⟨v12, g12, h⟩ := ob h
                    refine r_ald hx hb hK hP 35 w_35 g12 dX8_list_77 ?_
                    refine lv_bipush (v := (48 : Int32)) hx hb dX8_list_78 (by decide) ?_
                    refine lv_isub hx hb dX8_list_80 ?_
                    obtain ⟨τ13, g13, h⟩ := ob h
                    refine r_astM (A := AA ad) hx hb hK hd (fun _ hh => hh) hP hS 36 45 (by decide) (fun _ => rfl) g13 dX8_list_81 (fun H locs hP hS => ?_)
                    refine lv_aload_n hx hb dX8_list_82 rfl (lv_at hl 0 rfl) ?_
                    refine va_get (D := D) (ci := 8) (v := .ref (ad 36)) (C := RX8) (T := TX8) (N := 27) hx hb htb wu_8 hown hK.1 hP 29 w_29 rfl 10 (by decide) (htb _ wFL_RX8_28) (fun _ h9 => h9) rfl dX8_list_83 ?_
                    refine lv_iconst (v := (3 : Int32)) hx hb dX8_list_86 (by decide) ?_
                    refine lv_aload_n hx hb dX8_list_87 rfl (lv_at hl 0 rfl) ?_
                    refine va_get (D := D) (ci := 8) (v := .int (τ13 29 8)) (C := RX8) (T := TX8) (N := 27) hx hb htb wu_8 hown hK.1 hP 29 w_29 rfl 8 (by decide) (htb _ wFL_RX8_109) (fun _ h9 => h9) rfl dX8_list_88 ?_
                    refine lv_imul hx hb dX8_list_91 ?_
                    refine lv_iconst (v := (1 : Int32)) hx hb dX8_list_92 (by decide) ?_
                    refine lv_iadd hx hb dX8_list_93 ?_
                    refine lv_iload_n hx hb dX8_list_94 rfl (lv_at hl 1 rfl) ?_
                    obtain ⟨τ14, g14, h⟩ := ob h
                    refine r_astM (A := AA ad) hx hb hK hd (fun _ hh => hh) hP hS 36 45 (by decide) (fun _ => rfl) g14 dX8_list_95 (fun H locs hP hS => ?_)
                    refine lv_aload_n hx hb dX8_list_96 rfl (lv_at hl 0 rfl) ?_
                    refine va_get (D := D) (ci := 8) (v := .ref (ad 36)) (C := RX8) (T := TX8) (N := 27) hx hb htb wu_8 hown hK.1 hP 29 w_29 rfl 10 (by decide) (htb _ wFL_RX8_28) (fun _ h9 => h9) rfl dX8_list_97 ?_
                    refine lv_iconst (v := (3 : Int32)) hx hb dX8_list_100 (by decide) ?_
                    refine lv_aload_n hx hb dX8_list_101 rfl (lv_at hl 0 rfl) ?_
                    refine va_get (D := D) (ci := 8) (v := .int (τ14 29 8)) (C := RX8) (T := TX8) (N := 27) hx hb htb wu_8 hown hK.1 hP 29 w_29 rfl 8 (by decide) (htb _ wFL_RX8_109) (fun _ h9 => h9) rfl dX8_list_102 ?_
                    refine lv_imul hx hb dX8_list_105 ?_
                    refine lv_iconst (v := (2 : Int32)) hx hb dX8_list_106 (by decide) ?_
                    refine lv_iadd hx hb dX8_list_107 ?_
                    refine lv_aload_n hx hb dX8_list_108 rfl (lv_at hl 0 rfl) ?_
                    refine va_get (D := D) (ci := 8) (v := .ref (ad 35)) (C := RX8) (T := TX8) (N := 27) hx hb htb wu_8 hown hK.1 hP 29 w_29 rfl 6 (by decide) (htb _ wFL_RX8_25) (fun _ h9 => h9) rfl dX8_list_109 ?_
                    refine lv_iload_n hx hb dX8_list_112 rfl (lv_at hl 2 rfl) ?_
                    refine lv_iconst (v := (2 : Int32)) hx hb dX8_list_113 (by decide) ?_
                    refine lv_iadd hx hb dX8_list_114 ?_
                    obtain ⟨v15, g15, h⟩ := ob h
                    refine r_ald hx hb hK hP 35 w_35 g15 dX8_list_115 ?_
                    refine lv_bipush (v := (48 : Int32)) hx hb dX8_list_116 (by decide) ?_
                    refine lv_isub hx hb dX8_list_118 ?_
                    obtain ⟨τ16, g16, h⟩ := ob h
                    refine r_astM (A := AA ad) hx hb hK hd (fun _ hh => hh) hP hS 36 45 (by decide) (fun _ => rfl) g16 dX8_list_119 (fun H locs hP hS => ?_)
                    refine lv_aload_n hx hb dX8_list_120 rfl (lv_at hl 0 rfl) ?_
                    refine lv_dup hx hb dX8_list_121 rfl ?_
                    refine va_get (D := D) (ci := 8) (v := .int (τ16 29 8)) (C := RX8) (T := TX8) (N := 27) hx hb htb wu_8 hown hK.1 hP 29 w_29 rfl 8 (by decide) (htb _ wFL_RX8_109) (fun _ h9 => h9) rfl dX8_list_122 ?_
                    refine lv_iconst (v := (1 : Int32)) hx hb dX8_list_125 (by decide) ?_
                    refine lv_iadd hx hb dX8_list_126 ?_
                    obtain ⟨τ17, g17, h⟩ := ol h
                    refine r_putM (ci := 8) (C := RX8) (T := TX8) (N := 27) (A := AA ad) hx hb htb wu_8 tyX8 tyX8_ok nmX8 hown hK hd (fun _ hh => hh) hP hS 8 rfl rfl rfl (by decide) (htb _ wFL_RX8_109) rfl rfl (by decide +kernel) (Nat.le_of_ble_eq_true rfl) dX8_list_127 (fun H locs hP hS => ?_)
                    rw [g17] at hP
                    obtain rfl := Option.some.inj h
                    exact J11 _ _ _ hP hS (lv_sub hl [0, 1, 2] rfl)
            exact L2 10000 τ_1 (0 : Int32) _ _ _ hj7 hP hS (lv_sub hl [1, 2, 0] rfl)
      exact L1 10000 τ4 (1 : Int32) _ _ _ hj5 hP hS (lv_sub hl [1, 0] rfl)
    · replace h := iq c3 h
      refine lv_bipush (v := (-103 : Int32)) hx hb dX8_list_21 (by decide) ?_
      obtain rfl := Option.some.inj h
      exact ret _ _ _ _ _ dX8_list_23 hP hS rfl
def X2_has (σ : St) (x1 : Int32) : Int32 :=
  if x1 < 0 then (
    (0 : Int32))
  else (
    if (σ 10 4) ≤ x1 then (
      (0 : Int32))
    else (
      (1 : Int32)))
abbrev rmX2_has : Room := { frames := 0, cells := 0, slots := 0, locals := 0 }
set_option maxHeartbeats 4000000 in
set_option maxRecDepth 100000 in
theorem c_X2_has (l : Launch) (D : va_G) (ad : Nat → Nat) (cI : ClassId) (hd : HD ad) (σ τ : St) (η : Int64) (x1 : Int32) (rr : Int32) (h : X2_has σ x1 = rr) : MZ l yX2_has (wy yX2_has cX2_has 2 (some .boolean)) rmX2_has D ad cI [.ref (ad 10), .int x1] σ τ η rr σ τ η := by
  refine mk_z (own := RX2) (lv := [(0, .ref (ad 10)), (1, .int x1)]) (plainFor_of_name (by decide)) rfl (Nat.le_of_ble_eq_true rfl) rfl ?_
  intro p e s m args below meth c Q ls hx hb hml hown htb hK ret hP hS hl
  unfold X2_has at h
  refine lv_iload_n hx hb dX2_has_0 rfl (lv_at hl 1 rfl) ?_
  refine lv_if_lt (tgt := 16) hx hb dX2_has_1 (by decide) (fun c1 => ?_) (fun c1 => ?_)
  · replace h := ip c1 h
    refine lv_iconst (v := (0 : Int32)) hx hb dX2_has_16 (by decide) ?_
    subst h
    exact ret _ _ _ _ _ dX2_has_17 hP hS rfl (by first | exact Or.inl rfl | exact Or.inr rfl | assumption)
  · replace h := iq c1 h
    refine lv_iload_n hx hb dX2_has_4 rfl (lv_at hl 1 rfl) ?_
    refine lv_aload_n hx hb dX2_has_5 rfl (lv_at hl 0 rfl) ?_
    refine va_get (D := D) (ci := 2) (v := .int (σ 10 4)) (C := RX2) (T := TX2) (N := 5) hx hb htb wu_2 hown hK.1 hP 10 w_10 rfl 4 (by decide) (htb _ wFL_RX2_24) (fun _ h9 => h9) rfl dX2_has_6 ?_
    refine lv_icmp_ge (tgt := 16) hx hb dX2_has_9 (by decide) (fun c2 => ?_) (fun c2 => ?_)
    · replace h := ip c2 h
      refine lv_iconst (v := (0 : Int32)) hx hb dX2_has_16 (by decide) ?_
      subst h
      exact ret _ _ _ _ _ dX2_has_17 hP hS rfl (by first | exact Or.inl rfl | exact Or.inr rfl | assumption)
    · replace h := iq c2 h
      refine lv_iconst (v := (1 : Int32)) hx hb dX2_has_12 (by decide) ?_
      refine lv_goto (tgt := 17) hx hb dX2_has_13 (by decide) ?_
      subst h
      exact ret _ _ _ _ _ dX2_has_17 hP hS rfl (by first | exact Or.inl rfl | exact Or.inr rfl | assumption)
def X2_guestOf (σ : St) (x1 : Int32) : Option (Int32) :=
  lt (X2_has σ x1) fun v1 =>
  if v1 = 0 then (
    some (-1 : Int32))
  else (
    bd (rd (σ 11) 15 x1) fun v3 =>
    some v3)
abbrev rmX2_guestOf : Room := { frames := 1, cells := 0, slots := 0, locals := 21 }
set_option maxHeartbeats 4000000 in
set_option maxRecDepth 100000 in
theorem c_X2_guestOf (l : Launch) (D : va_G) (ad : Nat → Nat) (cI : ClassId) (hd : HD ad) (σ τ : St) (η : Int64) (x1 : Int32) (rr : Int32) (h : X2_guestOf σ x1 = some rr) : MI l yX2_guestOf (wy yX2_guestOf cX2_guestOf 2 (some .int)) rmX2_guestOf D ad cI [.ref (ad 10), .int x1] σ τ η rr σ τ η := by
  refine mk_i (own := RX2) (lv := [(0, .ref (ad 10)), (1, .int x1)]) (plainFor_of_name (by decide)) rfl (Nat.le_of_ble_eq_true rfl) rfl ?_
  intro p e s m args below meth c Q ls hx hb hml hown htb hK ret hP hS hl
  unfold X2_guestOf at h
  refine lv_aload_n hx hb dX2_guestOf_0 rfl (lv_at hl 0 rfl) ?_
  refine lv_iload_n hx hb dX2_guestOf_1 rfl (lv_at hl 1 rfl) ?_
  obtain ⟨v1, g1, h⟩ := ol h
  refine c_Vz (q := (RX2, TX2, 5)) (ci := 2) (b := 10) (As := [.int x1]) (rest := []) (A := AA ad) ⟨hx, hb, hml, hown, htb⟩ (c_X2_has l D ad cI hd σ τ η x1 v1 g1) (cwV 1 htb (gdV (fun _ hh => hh) wML_RX2_28 wIM_yX2_has wSE_yX2_has wI_RX2 wC_yX2_has) rfl rfl rfl hd_X2_has ⟨by decide, by decide⟩) hK hP rfl w_10 (fun _ hh => hh) hS rfl hl.1 rfl (Nat.le_of_ble_eq_true rfl) dX2_guestOf_2 ⟨Nat.le_refl 0, Nat.le_refl 0⟩ (fun H locs hz1 hP hS => ?_)
  refine lv_if_eq (tgt := 17) hx hb dX2_guestOf_5 (by decide) (fun c2 => ?_) (fun c2 => ?_)
  · replace h := ip c2 h
    refine lv_iconst (v := (-1 : Int32)) hx hb dX2_guestOf_17 (by decide) ?_
    obtain rfl := Option.some.inj h
    exact ret _ _ _ _ _ dX2_guestOf_18 hP hS rfl
  · replace h := iq c2 h
    refine lv_aload_n hx hb dX2_guestOf_8 rfl (lv_at hl 0 rfl) ?_
    refine va_get (D := D) (ci := 2) (v := .ref (ad 11)) (C := RX2) (T := TX2) (N := 5) hx hb htb wu_2 hown hK.1 hP 10 w_10 rfl 0 (by decide) (htb _ wFL_RX2_11) (fun _ h9 => h9) rfl dX2_guestOf_9 ?_
    refine lv_iload_n hx hb dX2_guestOf_12 rfl (lv_at hl 1 rfl) ?_
    obtain ⟨v3, g3, h⟩ := ob h
    refine r_ald hx hb hK hP 11 w_11 g3 dX2_guestOf_13 ?_
    refine lv_goto (tgt := 18) hx hb dX2_guestOf_14 (by decide) ?_
    obtain rfl := Option.some.inj h
    exact ret _ _ _ _ _ dX2_guestOf_18 hP hS rfl
def X2_dayOf (σ : St) (x1 : Int32) : Option (Int32) :=
  lt (X2_has σ x1) fun v1 =>
  if v1 = 0 then (
    some (0 : Int32))
  else (
    bd (rd (σ 12) 15 x1) fun v3 =>
    some v3)
abbrev rmX2_dayOf : Room := { frames := 1, cells := 0, slots := 0, locals := 21 }
set_option maxHeartbeats 4000000 in
set_option maxRecDepth 100000 in
theorem c_X2_dayOf (l : Launch) (D : va_G) (ad : Nat → Nat) (cI : ClassId) (hd : HD ad) (σ τ : St) (η : Int64) (x1 : Int32) (rr : Int32) (h : X2_dayOf σ x1 = some rr) : MI l yX2_dayOf (wy yX2_dayOf cX2_dayOf 2 (some .int)) rmX2_dayOf D ad cI [.ref (ad 10), .int x1] σ τ η rr σ τ η := by
  refine mk_i (own := RX2) (lv := [(0, .ref (ad 10)), (1, .int x1)]) (plainFor_of_name (by decide)) rfl (Nat.le_of_ble_eq_true rfl) rfl ?_
  intro p e s m args below meth c Q ls hx hb hml hown htb hK ret hP hS hl
  unfold X2_dayOf at h
  refine lv_aload_n hx hb dX2_dayOf_0 rfl (lv_at hl 0 rfl) ?_
  refine lv_iload_n hx hb dX2_dayOf_1 rfl (lv_at hl 1 rfl) ?_
  obtain ⟨v1, g1, h⟩ := ol h
  refine c_Vz (q := (RX2, TX2, 5)) (ci := 2) (b := 10) (As := [.int x1]) (rest := []) (A := AA ad) ⟨hx, hb, hml, hown, htb⟩ (c_X2_has l D ad cI hd σ τ η x1 v1 g1) (cwV 1 htb (gdV (fun _ hh => hh) wML_RX2_28 wIM_yX2_has wSE_yX2_has wI_RX2 wC_yX2_has) rfl rfl rfl hd_X2_has ⟨by decide, by decide⟩) hK hP rfl w_10 (fun _ hh => hh) hS rfl hl.1 rfl (Nat.le_of_ble_eq_true rfl) dX2_dayOf_2 ⟨Nat.le_refl 0, Nat.le_refl 0⟩ (fun H locs hz1 hP hS => ?_)
  refine lv_if_eq (tgt := 17) hx hb dX2_dayOf_5 (by decide) (fun c2 => ?_) (fun c2 => ?_)
  · replace h := ip c2 h
    refine lv_iconst (v := (0 : Int32)) hx hb dX2_dayOf_17 (by decide) ?_
    obtain rfl := Option.some.inj h
    exact ret _ _ _ _ _ dX2_dayOf_18 hP hS rfl
  · replace h := iq c2 h
    refine lv_aload_n hx hb dX2_dayOf_8 rfl (lv_at hl 0 rfl) ?_
    refine va_get (D := D) (ci := 2) (v := .ref (ad 12)) (C := RX2) (T := TX2) (N := 5) hx hb htb wu_2 hown hK.1 hP 10 w_10 rfl 1 (by decide) (htb _ wFL_RX2_15) (fun _ h9 => h9) rfl dX2_dayOf_9 ?_
    refine lv_iload_n hx hb dX2_dayOf_12 rfl (lv_at hl 1 rfl) ?_
    obtain ⟨v3, g3, h⟩ := ob h
    refine r_ald hx hb hK hP 12 w_12 g3 dX2_dayOf_13 ?_
    refine lv_goto (tgt := 18) hx hb dX2_dayOf_14 (by decide) ?_
    obtain rfl := Option.some.inj h
    exact ret _ _ _ _ _ dX2_dayOf_18 hP hS rfl
def X2_tenthsOf (σ : St) (x1 : Int32) : Option (Int32) :=
  lt (X2_has σ x1) fun v1 =>
  if v1 = 0 then (
    some (0 : Int32))
  else (
    bd (rd (σ 13) 15 x1) fun v3 =>
    some v3)
abbrev rmX2_tenthsOf : Room := { frames := 1, cells := 0, slots := 0, locals := 21 }
set_option maxHeartbeats 4000000 in
set_option maxRecDepth 100000 in
theorem c_X2_tenthsOf (l : Launch) (D : va_G) (ad : Nat → Nat) (cI : ClassId) (hd : HD ad) (σ τ : St) (η : Int64) (x1 : Int32) (rr : Int32) (h : X2_tenthsOf σ x1 = some rr) : MI l yX2_tenthsOf (wy yX2_tenthsOf cX2_tenthsOf 2 (some .int)) rmX2_tenthsOf D ad cI [.ref (ad 10), .int x1] σ τ η rr σ τ η := by
  refine mk_i (own := RX2) (lv := [(0, .ref (ad 10)), (1, .int x1)]) (plainFor_of_name (by decide)) rfl (Nat.le_of_ble_eq_true rfl) rfl ?_
  intro p e s m args below meth c Q ls hx hb hml hown htb hK ret hP hS hl
  unfold X2_tenthsOf at h
  refine lv_aload_n hx hb dX2_tenthsOf_0 rfl (lv_at hl 0 rfl) ?_
  refine lv_iload_n hx hb dX2_tenthsOf_1 rfl (lv_at hl 1 rfl) ?_
  obtain ⟨v1, g1, h⟩ := ol h
  refine c_Vz (q := (RX2, TX2, 5)) (ci := 2) (b := 10) (As := [.int x1]) (rest := []) (A := AA ad) ⟨hx, hb, hml, hown, htb⟩ (c_X2_has l D ad cI hd σ τ η x1 v1 g1) (cwV 1 htb (gdV (fun _ hh => hh) wML_RX2_28 wIM_yX2_has wSE_yX2_has wI_RX2 wC_yX2_has) rfl rfl rfl hd_X2_has ⟨by decide, by decide⟩) hK hP rfl w_10 (fun _ hh => hh) hS rfl hl.1 rfl (Nat.le_of_ble_eq_true rfl) dX2_tenthsOf_2 ⟨Nat.le_refl 0, Nat.le_refl 0⟩ (fun H locs hz1 hP hS => ?_)
  refine lv_if_eq (tgt := 17) hx hb dX2_tenthsOf_5 (by decide) (fun c2 => ?_) (fun c2 => ?_)
  · replace h := ip c2 h
    refine lv_iconst (v := (0 : Int32)) hx hb dX2_tenthsOf_17 (by decide) ?_
    obtain rfl := Option.some.inj h
    exact ret _ _ _ _ _ dX2_tenthsOf_18 hP hS rfl
  · replace h := iq c2 h
    refine lv_aload_n hx hb dX2_tenthsOf_8 rfl (lv_at hl 0 rfl) ?_
    refine va_get (D := D) (ci := 2) (v := .ref (ad 13)) (C := RX2) (T := TX2) (N := 5) hx hb htb wu_2 hown hK.1 hP 10 w_10 rfl 2 (by decide) (htb _ wFL_RX2_18) (fun _ h9 => h9) rfl dX2_tenthsOf_9 ?_
    refine lv_iload_n hx hb dX2_tenthsOf_12 rfl (lv_at hl 1 rfl) ?_
    obtain ⟨v3, g3, h⟩ := ob h
    refine r_ald hx hb hK hP 13 w_13 g3 dX2_tenthsOf_13 ?_
    refine lv_goto (tgt := 18) hx hb dX2_tenthsOf_14 (by decide) ?_
    obtain rfl := Option.some.inj h
    exact ret _ _ _ _ _ dX2_tenthsOf_18 hP hS rfl
def X2_slipOf (σ : St) (x1 : Int32) : Option (Int32) :=
  lt (X2_has σ x1) fun v1 =>
  if v1 = 0 then (
    some (0 : Int32))
  else (
    bd (rd (σ 11) 15 x1) fun v3 =>
    bd (rd (σ 12) 15 x1) fun v4 =>
    bd (X6_knows σ v3 v4) fun v5 =>
    if v5 = 0 then (
      some (0 : Int32))
    else (
      bd (rd (σ 14) 15 x1) fun v7 =>
      some v7))
abbrev rmX2_slipOf : Room := { frames := 1, cells := 0, slots := 0, locals := 22 }
set_option maxHeartbeats 4000000 in
set_option maxRecDepth 100000 in
theorem c_X2_slipOf (l : Launch) (D : va_G) (ad : Nat → Nat) (cI : ClassId) (hd : HD ad) (σ τ : St) (η : Int64) (x1 : Int32) (rr : Int32) (h : X2_slipOf σ x1 = some rr) : MI l yX2_slipOf (wy yX2_slipOf cX2_slipOf 3 (some .int)) rmX2_slipOf D ad cI [.ref (ad 10), .int x1, .ref (ad 6)] σ τ η rr σ τ η := by
  refine mk_i (own := RX2) (lv := [(0, .ref (ad 10)), (1, .int x1), (2, .ref (ad 6))]) (plainFor_of_name (by decide)) rfl (Nat.le_of_ble_eq_true rfl) rfl ?_
  intro p e s m args below meth c Q ls hx hb hml hown htb hK ret hP hS hl
  unfold X2_slipOf at h
  refine lv_aload_n hx hb dX2_slipOf_0 rfl (lv_at hl 0 rfl) ?_
  refine lv_iload_n hx hb dX2_slipOf_1 rfl (lv_at hl 1 rfl) ?_
  obtain ⟨v1, g1, h⟩ := ol h
  refine c_Vz (q := (RX2, TX2, 5)) (ci := 2) (b := 10) (As := [.int x1]) (rest := []) (A := AA ad) ⟨hx, hb, hml, hown, htb⟩ (c_X2_has l D ad cI hd σ τ η x1 v1 g1) (cwV 1 htb (gdV (fun _ hh => hh) wML_RX2_28 wIM_yX2_has wSE_yX2_has wI_RX2 wC_yX2_has) rfl rfl rfl hd_X2_has ⟨by decide, by decide⟩) hK hP rfl w_10 (fun _ hh => hh) hS rfl hl.1 rfl (Nat.le_of_ble_eq_true rfl) dX2_slipOf_2 ⟨Nat.le_refl 0, Nat.le_refl 0⟩ (fun H locs hz1 hP hS => ?_)
  refine lv_if_eq (tgt := 27) hx hb dX2_slipOf_5 (by decide) (fun c2 => ?_) (fun c2 => ?_)
  · replace h := ip c2 h
    refine lv_iconst (v := (0 : Int32)) hx hb dX2_slipOf_27 (by decide) ?_
    obtain rfl := Option.some.inj h
    exact ret _ _ _ _ _ dX2_slipOf_28 hP hS rfl
  · replace h := iq c2 h
    refine lv_aload_n hx hb dX2_slipOf_8 rfl (lv_at hl 2 rfl) ?_
    refine lv_aload_n hx hb dX2_slipOf_9 rfl (lv_at hl 0 rfl) ?_
    refine va_get (D := D) (ci := 2) (v := .ref (ad 11)) (C := RX2) (T := TX2) (N := 5) hx hb htb wu_2 hown hK.1 hP 10 w_10 rfl 0 (by decide) (htb _ wFL_RX2_11) (fun _ h9 => h9) rfl dX2_slipOf_10 ?_
    refine lv_iload_n hx hb dX2_slipOf_13 rfl (lv_at hl 1 rfl) ?_
    obtain ⟨v3, g3, h⟩ := ob h
    refine r_ald hx hb hK hP 11 w_11 g3 dX2_slipOf_14 ?_
    refine lv_aload_n hx hb dX2_slipOf_15 rfl (lv_at hl 0 rfl) ?_
    refine va_get (D := D) (ci := 2) (v := .ref (ad 12)) (C := RX2) (T := TX2) (N := 5) hx hb htb wu_2 hown hK.1 hP 10 w_10 rfl 1 (by decide) (htb _ wFL_RX2_15) (fun _ h9 => h9) rfl dX2_slipOf_16 ?_
    refine lv_iload_n hx hb dX2_slipOf_19 rfl (lv_at hl 1 rfl) ?_
    obtain ⟨v4, g4, h⟩ := ob h
    refine r_ald hx hb hK hP 12 w_12 g4 dX2_slipOf_20 ?_
    obtain ⟨v5, g5, h⟩ := ob h
    refine c_Vz (q := (RX6, TX6, 1)) (ci := 6) (b := 6) (As := [.int v3, .int v4]) (rest := []) (A := AA ad) ⟨hx, hb, hml, hown, htb⟩ (c_X6_knows l D ad cI hd σ τ η v3 v4 v5 g5) (cwV 2 htb (gdV (fun _ hh => hh) wML_RX2_32 wIM_yX6_knows wSE_yX6_knows wI_RX6 wC_yX6_knows) rfl rfl rfl hd_X6_knows ⟨by decide, by decide⟩) hK hP rfl w_6 (fun _ hh => hh) hS rfl hl.1 rfl (Nat.le_of_ble_eq_true rfl) dX2_slipOf_21 ⟨Nat.le_refl 0, Nat.le_refl 0⟩ (fun H locs hz5 hP hS => ?_)
    refine lv_if_ne (tgt := 29) hx hb dX2_slipOf_24 (by decide) (fun c6 => ?_) (fun c6 => ?_)
    · replace h := iq c6 h
      refine lv_aload_n hx hb dX2_slipOf_29 rfl (lv_at hl 0 rfl) ?_
      refine va_get (D := D) (ci := 2) (v := .ref (ad 14)) (C := RX2) (T := TX2) (N := 5) hx hb htb wu_2 hown hK.1 hP 10 w_10 rfl 3 (by decide) (htb _ wFL_RX2_21) (fun _ h9 => h9) rfl dX2_slipOf_30 ?_
      refine lv_iload_n hx hb dX2_slipOf_33 rfl (lv_at hl 1 rfl) ?_
      obtain ⟨v7, g7, h⟩ := ob h
      refine r_ald hx hb hK hP 14 w_14 g7 dX2_slipOf_34 ?_
      obtain rfl := Option.some.inj h
      exact ret _ _ _ _ _ dX2_slipOf_35 hP hS rfl
    · replace h := ip c6 h
      refine lv_iconst (v := (0 : Int32)) hx hb dX2_slipOf_27 (by decide) ?_
      obtain rfl := Option.some.inj h
      exact ret _ _ _ _ _ dX2_slipOf_28 hP hS rfl
def X7_meeting (σ : St) (x1 : Int32) (x2 : Int32) : Option (Int32) :=
  lt (X2_has σ x1) fun v1 =>
  if v1 = 0 then (
    some (-101 : Int32))
  else (
    if x2 = (0 : Int32) then (
      bd (X2_guestOf σ x1) fun v4 =>
      some v4)
    else (
      if x2 = (1 : Int32) then (
        bd (X2_dayOf σ x1) fun v6 =>
        some v6)
      else (
        if x2 = (2 : Int32) then (
          bd (X2_tenthsOf σ x1) fun v8 =>
          some v8)
        else (
          if x2 = (3 : Int32) then (
            bd (X2_slipOf σ x1) fun v10 =>
            some v10)
          else (
            some (-102 : Int32))))))
abbrev rmX7_meeting : Room := { frames := 2, cells := 0, slots := 0, locals := 44 }
set_option maxHeartbeats 4000000 in
set_option maxRecDepth 100000 in
theorem c_X7_meeting (l : Launch) (D : va_G) (ad : Nat → Nat) (cI : ClassId) (hd : HD ad) (σ τ : St) (η : Int64) (x1 : Int32) (x2 : Int32) (rr : Int32) (h : X7_meeting σ x1 x2 = some rr) : MI l yX7_meeting (wy yX7_meeting cX7_meeting 3 (some .int)) rmX7_meeting D ad cI [.ref (ad 0), .int x1, .int x2] σ τ η rr σ τ η := by
  refine mk_i (own := RX7) (lv := [(0, .ref (ad 0)), (1, .int x1), (2, .int x2)]) (plainFor_of_name (by decide)) rfl (Nat.le_of_ble_eq_true rfl) rfl ?_
  intro p e s m args below meth c Q ls hx hb hml hown htb hK ret hP hS hl
  unfold X7_meeting at h
  refine lv_aload_n hx hb dX7_meeting_0 rfl (lv_at hl 0 rfl) ?_
  refine va_get (D := D) (ci := 7) (v := .ref (ad 10)) (C := RX7) (T := TX7) (N := 11) hx hb htb wu_7 hown hK.1 hP 0 w_0 rfl 3 (by decide) (htb _ wFL_RX7_33) (fun _ h9 => h9) rfl dX7_meeting_1 ?_
  refine lv_iload_n hx hb dX7_meeting_4 rfl (lv_at hl 1 rfl) ?_
  obtain ⟨v1, g1, h⟩ := ol h
  refine c_Vz (q := (RX2, TX2, 5)) (ci := 2) (b := 10) (As := [.int x1]) (rest := []) (A := AA ad) ⟨hx, hb, hml, hown, htb⟩ (c_X2_has l D ad cI hd σ τ η x1 v1 g1) (cwV 1 htb (gdV (fun _ hh => hh) wML_RX7_156 wIM_yX2_has wSE_yX2_has wI_RX2 wC_yX2_has) rfl rfl rfl hd_X2_has ⟨by decide, by decide⟩) hK hP rfl w_10 (fun _ hh => hh) hS rfl hl.1 rfl (Nat.le_of_ble_eq_true rfl) dX7_meeting_5 ⟨Nat.le_refl 0, Nat.le_refl 0⟩ (fun H locs hz1 hP hS => ?_)
  refine lv_if_ne (tgt := 14) hx hb dX7_meeting_8 (by decide) (fun c2 => ?_) (fun c2 => ?_)
  · replace h := iq c2 h
    refine lv_iload_n hx hb dX7_meeting_14 rfl (lv_at hl 2 rfl) ?_
    by_cases c3 : x2 = (0 : Int32)
    · replace h := ip c3 h
      refine lv_tableIn (x := x2) (off := 29) (tgt := 44) hx hb dX7_meeting_15 (by rw [c3]; decide) (by rw [c3]; decide) (by rw [c3]; rfl) (by decide) ?_
      refine lv_aload_n hx hb dX7_meeting_44 rfl (lv_at hl 0 rfl) ?_
      refine va_get (D := D) (ci := 7) (v := .ref (ad 10)) (C := RX7) (T := TX7) (N := 11) hx hb htb wu_7 hown hK.1 hP 0 w_0 rfl 3 (by decide) (htb _ wFL_RX7_33) (fun _ h9 => h9) rfl dX7_meeting_45 ?_
      refine lv_iload_n hx hb dX7_meeting_48 rfl (lv_at hl 1 rfl) ?_
      obtain ⟨v4, g4, h⟩ := ob h
      refine c_Vi (q := (RX2, TX2, 5)) (ci := 2) (b := 10) (As := [.int x1]) (rest := []) (A := AA ad) ⟨hx, hb, hml, hown, htb⟩ (c_X2_guestOf l D ad cI hd σ τ η x1 v4 g4) (cwV 1 htb (gdV (fun _ hh => hh) wML_RX7_157 wIM_yX2_guestOf wSE_yX2_guestOf wI_RX2 wC_yX2_guestOf) rfl rfl rfl hd_X2_guestOf ⟨by decide, by decide⟩) hK hP rfl w_10 (fun _ hh => hh) hS rfl hl.1 rfl (Nat.le_of_ble_eq_true rfl) dX7_meeting_49 ⟨Nat.le_refl 0, Nat.le_refl 0⟩ (fun H locs hP hS => ?_)
      obtain rfl := Option.some.inj h
      exact ret _ _ _ _ _ dX7_meeting_52 hP hS rfl
    · replace h := iq c3 h
      by_cases c5 : x2 = (1 : Int32)
      · replace h := ip c5 h
        refine lv_tableIn (x := x2) (off := 38) (tgt := 53) hx hb dX7_meeting_15 (by rw [c5]; decide) (by rw [c5]; decide) (by rw [c5]; rfl) (by decide) ?_
        refine lv_aload_n hx hb dX7_meeting_53 rfl (lv_at hl 0 rfl) ?_
        refine va_get (D := D) (ci := 7) (v := .ref (ad 10)) (C := RX7) (T := TX7) (N := 11) hx hb htb wu_7 hown hK.1 hP 0 w_0 rfl 3 (by decide) (htb _ wFL_RX7_33) (fun _ h9 => h9) rfl dX7_meeting_54 ?_
        refine lv_iload_n hx hb dX7_meeting_57 rfl (lv_at hl 1 rfl) ?_
        obtain ⟨v6, g6, h⟩ := ob h
        refine c_Vi (q := (RX2, TX2, 5)) (ci := 2) (b := 10) (As := [.int x1]) (rest := []) (A := AA ad) ⟨hx, hb, hml, hown, htb⟩ (c_X2_dayOf l D ad cI hd σ τ η x1 v6 g6) (cwV 1 htb (gdV (fun _ hh => hh) wML_RX7_160 wIM_yX2_dayOf wSE_yX2_dayOf wI_RX2 wC_yX2_dayOf) rfl rfl rfl hd_X2_dayOf ⟨by decide, by decide⟩) hK hP rfl w_10 (fun _ hh => hh) hS rfl hl.1 rfl (Nat.le_of_ble_eq_true rfl) dX7_meeting_58 ⟨Nat.le_refl 0, Nat.le_refl 0⟩ (fun H locs hP hS => ?_)
        obtain rfl := Option.some.inj h
        exact ret _ _ _ _ _ dX7_meeting_61 hP hS rfl
      · replace h := iq c5 h
        by_cases c7 : x2 = (2 : Int32)
        · replace h := ip c7 h
          refine lv_tableIn (x := x2) (off := 47) (tgt := 62) hx hb dX7_meeting_15 (by rw [c7]; decide) (by rw [c7]; decide) (by rw [c7]; rfl) (by decide) ?_
          refine lv_aload_n hx hb dX7_meeting_62 rfl (lv_at hl 0 rfl) ?_
          refine va_get (D := D) (ci := 7) (v := .ref (ad 10)) (C := RX7) (T := TX7) (N := 11) hx hb htb wu_7 hown hK.1 hP 0 w_0 rfl 3 (by decide) (htb _ wFL_RX7_33) (fun _ h9 => h9) rfl dX7_meeting_63 ?_
          refine lv_iload_n hx hb dX7_meeting_66 rfl (lv_at hl 1 rfl) ?_
          obtain ⟨v8, g8, h⟩ := ob h
          refine c_Vi (q := (RX2, TX2, 5)) (ci := 2) (b := 10) (As := [.int x1]) (rest := []) (A := AA ad) ⟨hx, hb, hml, hown, htb⟩ (c_X2_tenthsOf l D ad cI hd σ τ η x1 v8 g8) (cwV 1 htb (gdV (fun _ hh => hh) wML_RX7_163 wIM_yX2_tenthsOf wSE_yX2_tenthsOf wI_RX2 wC_yX2_tenthsOf) rfl rfl rfl hd_X2_tenthsOf ⟨by decide, by decide⟩) hK hP rfl w_10 (fun _ hh => hh) hS rfl hl.1 rfl (Nat.le_of_ble_eq_true rfl) dX7_meeting_67 ⟨Nat.le_refl 0, Nat.le_refl 0⟩ (fun H locs hP hS => ?_)
          obtain rfl := Option.some.inj h
          exact ret _ _ _ _ _ dX7_meeting_70 hP hS rfl
        · replace h := iq c7 h
          by_cases c9 : x2 = (3 : Int32)
          · replace h := ip c9 h
            refine lv_tableIn (x := x2) (off := 56) (tgt := 71) hx hb dX7_meeting_15 (by rw [c9]; decide) (by rw [c9]; decide) (by rw [c9]; rfl) (by decide) ?_
            refine lv_aload_n hx hb dX7_meeting_71 rfl (lv_at hl 0 rfl) ?_
            refine va_get (D := D) (ci := 7) (v := .ref (ad 10)) (C := RX7) (T := TX7) (N := 11) hx hb htb wu_7 hown hK.1 hP 0 w_0 rfl 3 (by decide) (htb _ wFL_RX7_33) (fun _ h9 => h9) rfl dX7_meeting_72 ?_
            refine lv_iload_n hx hb dX7_meeting_75 rfl (lv_at hl 1 rfl) ?_
            refine lv_aload_n hx hb dX7_meeting_76 rfl (lv_at hl 0 rfl) ?_
            refine va_get (D := D) (ci := 7) (v := .ref (ad 6)) (C := RX7) (T := TX7) (N := 11) hx hb htb wu_7 hown hK.1 hP 0 w_0 rfl 1 (by decide) (htb _ wFL_RX7_19) (fun _ h9 => h9) rfl dX7_meeting_77 ?_
            obtain ⟨v10, g10, h⟩ := ob h
            refine c_Vi (q := (RX2, TX2, 5)) (ci := 2) (b := 10) (As := [.int x1, .ref (ad 6)]) (rest := []) (A := AA ad) ⟨hx, hb, hml, hown, htb⟩ (c_X2_slipOf l D ad cI hd σ τ η x1 v10 g10) (cwV 2 htb (gdV (fun _ hh => hh) wML_RX7_166 wIM_yX2_slipOf wSE_yX2_slipOf wI_RX2 wC_yX2_slipOf) rfl rfl rfl hd_X2_slipOf ⟨by decide, by decide⟩) hK hP rfl w_10 (fun _ hh => hh) hS rfl hl.1 rfl (Nat.le_of_ble_eq_true rfl) dX7_meeting_80 ⟨Nat.le_refl 0, Nat.le_refl 0⟩ (fun H locs hP hS => ?_)
            obtain rfl := Option.some.inj h
            exact ret _ _ _ _ _ dX7_meeting_83 hP hS rfl
          · replace h := iq c9 h
            have zc3 := lv_neT c3 (show ((0 : Int32)).toInt = 0 by decide)
            have zc5 := lv_neT c5 (show ((1 : Int32)).toInt = 1 by decide)
            have zc7 := lv_neT c7 (show ((2 : Int32)).toInt = 2 by decide)
            have zc9 := lv_neT c9 (show ((3 : Int32)).toInt = 3 by decide)
            refine lv_tableOut (x := x2) (tgt := 84) hx hb dX7_meeting_15 (by omega) (by decide) ?_
            refine lv_bipush (v := (-102 : Int32)) hx hb dX7_meeting_84 (by decide) ?_
            obtain rfl := Option.some.inj h
            exact ret _ _ _ _ _ dX7_meeting_86 hP hS rfl
  · replace h := ip c2 h
    refine lv_bipush (v := (-101 : Int32)) hx hb dX7_meeting_11 (by decide) ?_
    obtain rfl := Option.some.inj h
    exact ret _ _ _ _ _ dX7_meeting_13 hP hS rfl
def X8_slips (τ : St) (x1 : Int32) : Option (Int32) :=
  bd (rd (τ 36) 45 ((3 : Int32) * x1)) fun v1 =>
  bd (rd (τ 34) 9 v1) fun v2 =>
  bd (rd (τ 36) 45 (((3 : Int32) * x1) + (1 : Int32))) fun v3 =>
  bd ((
      if v3 < v2 then (
        some (0 : Int32))
      else (
        bd (rd (τ 36) 45 (((3 : Int32) * x1) + (2 : Int32))) fun v6 =>
        some v6)) : Option (Int32)) fun v5 =>
  bd (rd (τ 30) 9 v1) fun v7 =>
  if v7 ≤ (2 : Int32) then (
    some v5)
  else (
    some (v5 / (2 : Int32)))
abbrev rmX8_slips : Room := { frames := 0, cells := 0, slots := 0, locals := 0 }
set_option maxHeartbeats 4000000 in
set_option maxRecDepth 100000 in
theorem c_X8_slips (l : Launch) (D : va_G) (ad : Nat → Nat) (cI : ClassId) (hd : HD ad) (σ τ : St) (η : Int64) (x1 : Int32) (rr : Int32) (h : X8_slips τ x1 = some rr) : MI l yX8_slips (wy yX8_slips cX8_slips 4 (some .int)) rmX8_slips D ad cI [.ref (ad 29), .int x1] σ τ η rr σ τ η := by
  refine mk_i (own := RX8) (lv := [(0, .ref (ad 29)), (1, .int x1)]) (plainFor_of_name (by decide)) rfl (Nat.le_of_ble_eq_true rfl) rfl ?_
  intro p e s m args below meth c Q ls hx hb hml hown htb hK ret hP hS hl
  unfold X8_slips at h
  refine lv_aload_n hx hb dX8_slips_0 rfl (lv_at hl 0 rfl) ?_
  refine va_get (D := D) (ci := 8) (v := .ref (ad 36)) (C := RX8) (T := TX8) (N := 27) hx hb htb wu_8 hown hK.1 hP 29 w_29 rfl 10 (by decide) (htb _ wFL_RX8_28) (fun _ h9 => h9) rfl dX8_slips_1 ?_
  refine lv_iconst (v := (3 : Int32)) hx hb dX8_slips_4 (by decide) ?_
  refine lv_iload_n hx hb dX8_slips_5 rfl (lv_at hl 1 rfl) ?_
  refine lv_imul hx hb dX8_slips_6 ?_
  obtain ⟨v1, g1, h⟩ := ob h
  refine r_ald hx hb hK hP 36 w_36 g1 dX8_slips_7 ?_
  refine lv_istore_n (lv' := [(2, .int v1), (0, .ref (ad 29)), (1, .int x1)]) hx hb dX8_slips_8 rfl hl (by decide) rfl (fun ls hl => ?_)
  refine lv_aload_n hx hb dX8_slips_9 rfl (lv_at hl 1 rfl) ?_
  refine va_get (D := D) (ci := 8) (v := .ref (ad 34)) (C := RX8) (T := TX8) (N := 27) hx hb htb wu_8 hown hK.1 hP 29 w_29 rfl 5 (by decide) (htb _ wFL_RX8_22) (fun _ h9 => h9) rfl dX8_slips_10 ?_
  refine lv_iload_n hx hb dX8_slips_13 rfl (lv_at hl 0 rfl) ?_
  obtain ⟨v2, g2, h⟩ := ob h
  refine r_ald hx hb hK hP 34 w_34 g2 dX8_slips_14 ?_
  refine lv_aload_n hx hb dX8_slips_15 rfl (lv_at hl 1 rfl) ?_
  refine va_get (D := D) (ci := 8) (v := .ref (ad 36)) (C := RX8) (T := TX8) (N := 27) hx hb htb wu_8 hown hK.1 hP 29 w_29 rfl 10 (by decide) (htb _ wFL_RX8_28) (fun _ h9 => h9) rfl dX8_slips_16 ?_
  refine lv_iconst (v := (3 : Int32)) hx hb dX8_slips_19 (by decide) ?_
  refine lv_iload_n hx hb dX8_slips_20 rfl (lv_at hl 2 rfl) ?_
  refine lv_imul hx hb dX8_slips_21 ?_
  refine lv_iconst (v := (1 : Int32)) hx hb dX8_slips_22 (by decide) ?_
  refine lv_iadd hx hb dX8_slips_23 ?_
  obtain ⟨v3, g3, h⟩ := ob h
  refine r_ald hx hb hK hP 36 w_36 g3 dX8_slips_24 ?_
  obtain ⟨v5, hj5, h⟩ := ob h
  have J5 : ∀ (H : Heap) (locs : List Loc) (ls : Array Slot), WP D ad cI σ τ η H → va_S (AA ad) s.heap H locs → lv_has ls 4 [(0, .ref (ad 29)), (2, .int v1)] → W p l e rmX8_slips s m args below meth c H locs 0 0 Q (F0 m 42 ls [.int v5]) := by
    intro H locs ls hP hS hl
    refine lv_istore_n (lv' := [(3, .int v5), (0, .ref (ad 29)), (2, .int v1)]) hx hb dX8_slips_42 rfl hl (by decide) rfl (fun ls hl => ?_)
    refine lv_aload_n hx hb dX8_slips_43 rfl (lv_at hl 1 rfl) ?_
    refine va_get (D := D) (ci := 8) (v := .ref (ad 30)) (C := RX8) (T := TX8) (N := 27) hx hb htb wu_8 hown hK.1 hP 29 w_29 rfl 1 (by decide) (htb _ wFL_RX8_7) (fun _ h9 => h9) rfl dX8_slips_44 ?_
    refine lv_iload_n hx hb dX8_slips_47 rfl (lv_at hl 2 rfl) ?_
    obtain ⟨v7, g7, h⟩ := ob h
    refine r_ald hx hb hK hP 30 w_30 g7 dX8_slips_48 ?_
    refine lv_iconst (v := (2 : Int32)) hx hb dX8_slips_49 (by decide) ?_
    refine lv_icmp_le (tgt := 59) hx hb dX8_slips_50 (by decide) (fun c8 => ?_) (fun c8 => ?_)
    · replace h := ip c8 h
      refine lv_iload_n hx hb dX8_slips_59 rfl (lv_at hl 0 rfl) ?_
      obtain rfl := Option.some.inj h
      exact ret _ _ _ _ _ dX8_slips_60 hP hS rfl
    · replace h := iq c8 h
      refine lv_iload_n hx hb dX8_slips_53 rfl (lv_at hl 0 rfl) ?_
      refine lv_iconst (v := (2 : Int32)) hx hb dX8_slips_54 (by decide) ?_
      refine lv_idiv hx hb dX8_slips_55 (by decide) ?_
      refine lv_goto (tgt := 60) hx hb dX8_slips_56 (by decide) ?_
      obtain rfl := Option.some.inj h
      exact ret _ _ _ _ _ dX8_slips_60 hP hS rfl
  replace h := hj5
  refine lv_icmp_gt (tgt := 41) hx hb dX8_slips_25 (by decide) (fun c4 => ?_) (fun c4 => ?_)
  · replace h := ip c4 h
    refine lv_iconst (v := (0 : Int32)) hx hb dX8_slips_41 (by decide) ?_
    obtain rfl := Option.some.inj h
    exact J5 _ _ _ hP hS (lv_sub hl [1, 0] rfl)
  · replace h := iq c4 h
    refine lv_aload_n hx hb dX8_slips_28 rfl (lv_at hl 1 rfl) ?_
    refine va_get (D := D) (ci := 8) (v := .ref (ad 36)) (C := RX8) (T := TX8) (N := 27) hx hb htb wu_8 hown hK.1 hP 29 w_29 rfl 10 (by decide) (htb _ wFL_RX8_28) (fun _ h9 => h9) rfl dX8_slips_29 ?_
    refine lv_iconst (v := (3 : Int32)) hx hb dX8_slips_32 (by decide) ?_
    refine lv_iload_n hx hb dX8_slips_33 rfl (lv_at hl 2 rfl) ?_
    refine lv_imul hx hb dX8_slips_34 ?_
    refine lv_iconst (v := (2 : Int32)) hx hb dX8_slips_35 (by decide) ?_
    refine lv_iadd hx hb dX8_slips_36 ?_
    obtain ⟨v6, g6, h⟩ := ob h
    refine r_ald hx hb hK hP 36 w_36 g6 dX8_slips_37 ?_
    refine lv_goto (tgt := 42) hx hb dX8_slips_38 (by decide) ?_
    obtain rfl := Option.some.inj h
    exact J5 _ _ _ hP hS (lv_sub hl [1, 0] rfl)
