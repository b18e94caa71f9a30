def X2_isOfKnowing (σ : St) (x1 : Int32) : Option (Int32) :=
  lt (X2_has σ x1) fun v1 =>
  if v1 = 0 then (
    some (0 : Int32))
  else (
    bd (rd (σ 11) 15 x1) fun v3 =>
    bd (rd (σ 12) 15 x1) fun v4 =>
    bd (X6_knows σ v3 v4) fun v5 =>
    if v5 = 0 then (
      some (0 : Int32))
    else (
      some (1 : Int32)))
abbrev rmX2_isOfKnowing : Room := { frames := 1, cells := 0, slots := 0, locals := 22 }
set_option maxHeartbeats 4000000 in
set_option maxRecDepth 100000 in
theorem c_X2_isOfKnowing (l : Launch) (D : va_G) (ad : Nat → Nat) (cI : ClassId) (hd : HD ad) (σ τ : St) (η : Int64) (x1 : Int32) (rr : Int32) (h : X2_isOfKnowing σ x1 = some rr) : MZ l yX2_isOfKnowing (wy yX2_isOfKnowing cX2_isOfKnowing 3 (some .boolean)) rmX2_isOfKnowing D ad cI [.ref (ad 10), .int x1, .ref (ad 6)] σ τ η rr σ τ η := by
  refine mk_z (own := RX2) (lv := [(0, .ref (ad 10)), (1, .int x1), (2, .ref (ad 6))]) (plainFor_of_name (by decide)) rfl (Nat.le_of_ble_eq_true rfl) rfl ?_
  intro p e s m args below meth c Q ls hx hb hml hown htb hK ret hP hS hl
  unfold X2_isOfKnowing at h
  refine lv_aload_n hx hb dX2_isOfKnowing_0 rfl (lv_at hl 0 rfl) ?_
  refine lv_iload_n hx hb dX2_isOfKnowing_1 rfl (lv_at hl 1 rfl) ?_
  obtain ⟨v1, g1, h⟩ := ol h
  refine c_Vz (q := (RX2, TX2, 5)) (ci := 2) (b := 10) (As := [.int x1]) (rest := []) (A := AA ad) ⟨hx, hb, hml, hown, htb⟩ (c_X2_has l D ad cI hd σ τ η x1 v1 g1) (cwV 1 htb (gdV (fun _ hh => hh) wML_RX2_28 wIM_yX2_has wSE_yX2_has wI_RX2 wC_yX2_has) rfl rfl rfl hd_X2_has ⟨by decide, by decide⟩) hK hP rfl w_10 (fun _ hh => hh) hS rfl hl.1 rfl (Nat.le_of_ble_eq_true rfl) dX2_isOfKnowing_2 ⟨Nat.le_refl 0, Nat.le_refl 0⟩ (fun H locs hz1 hP hS => ?_)
  refine lv_if_eq (tgt := 31) hx hb dX2_isOfKnowing_5 (by decide) (fun c2 => ?_) (fun c2 => ?_)
  · replace h := ip c2 h
    refine lv_iconst (v := (0 : Int32)) hx hb dX2_isOfKnowing_31 (by decide) ?_
    obtain rfl := Option.some.inj h
    exact ret _ _ _ _ _ dX2_isOfKnowing_32 hP hS rfl (by first | exact Or.inl rfl | exact Or.inr rfl | assumption)
  · replace h := iq c2 h
    refine lv_aload_n hx hb dX2_isOfKnowing_8 rfl (lv_at hl 2 rfl) ?_
    refine lv_aload_n hx hb dX2_isOfKnowing_9 rfl (lv_at hl 0 rfl) ?_
    refine va_get (D := D) (ci := 2) (v := .ref (ad 11)) (C := RX2) (T := TX2) (N := 5) hx hb htb wu_2 hown hK.1 hP 10 w_10 rfl 0 (by decide) (htb _ wFL_RX2_11) (fun _ h9 => h9) rfl dX2_isOfKnowing_10 ?_
    refine lv_iload_n hx hb dX2_isOfKnowing_13 rfl (lv_at hl 1 rfl) ?_
    obtain ⟨v3, g3, h⟩ := ob h
    refine r_ald hx hb hK hP 11 w_11 g3 dX2_isOfKnowing_14 ?_
    refine lv_aload_n hx hb dX2_isOfKnowing_15 rfl (lv_at hl 0 rfl) ?_
    refine va_get (D := D) (ci := 2) (v := .ref (ad 12)) (C := RX2) (T := TX2) (N := 5) hx hb htb wu_2 hown hK.1 hP 10 w_10 rfl 1 (by decide) (htb _ wFL_RX2_15) (fun _ h9 => h9) rfl dX2_isOfKnowing_16 ?_
    refine lv_iload_n hx hb dX2_isOfKnowing_19 rfl (lv_at hl 1 rfl) ?_
    obtain ⟨v4, g4, h⟩ := ob h
    refine r_ald hx hb hK hP 12 w_12 g4 dX2_isOfKnowing_20 ?_
    obtain ⟨v5, g5, h⟩ := ob h
    refine c_Vz (q := (RX6, TX6, 1)) (ci := 6) (b := 6) (As := [.int v3, .int v4]) (rest := []) (A := AA ad) ⟨hx, hb, hml, hown, htb⟩ (c_X6_knows l D ad cI hd σ τ η v3 v4 v5 g5) (cwV 2 htb (gdV (fun _ hh => hh) wML_RX2_32 wIM_yX6_knows wSE_yX6_knows wI_RX6 wC_yX6_knows) rfl rfl rfl hd_X6_knows ⟨by decide, by decide⟩) hK hP rfl w_6 (fun _ hh => hh) hS rfl hl.1 rfl (Nat.le_of_ble_eq_true rfl) dX2_isOfKnowing_21 ⟨Nat.le_refl 0, Nat.le_refl 0⟩ (fun H locs hz5 hP hS => ?_)
    refine lv_if_eq (tgt := 31) hx hb dX2_isOfKnowing_24 (by decide) (fun c6 => ?_) (fun c6 => ?_)
    · replace h := ip c6 h
      refine lv_iconst (v := (0 : Int32)) hx hb dX2_isOfKnowing_31 (by decide) ?_
      obtain rfl := Option.some.inj h
      exact ret _ _ _ _ _ dX2_isOfKnowing_32 hP hS rfl (by first | exact Or.inl rfl | exact Or.inr rfl | assumption)
    · replace h := iq c6 h
      refine lv_iconst (v := (1 : Int32)) hx hb dX2_isOfKnowing_27 (by decide) ?_
      refine lv_goto (tgt := 32) hx hb dX2_isOfKnowing_28 (by decide) ?_
      obtain rfl := Option.some.inj h
      exact ret _ _ _ _ _ dX2_isOfKnowing_32 hP hS rfl (by first | exact Or.inl rfl | exact Or.inr rfl | assumption)
def X7_nextSeed  (x0 : Int32) : Int32 :=
  ((((((1103515245 : Int64) * ((x0).toInt64)) + (12345 : Int64)) &&& (2147483647 : Int64))).toInt32)
abbrev rmX7_nextSeed : Room := { frames := 0, cells := 0, slots := 0, locals := 0 }
set_option maxHeartbeats 4000000 in
set_option maxRecDepth 100000 in
theorem c_X7_nextSeed (l : Launch) (D : va_G) (ad : Nat → Nat) (cI : ClassId) (hd : HD ad) (σ τ : St) (η : Int64) (x0 : Int32) (rr : Int32) (h : X7_nextSeed  x0 = rr) : MI l yX7_nextSeed (wy yX7_nextSeed cX7_nextSeed 1 (some .int)) rmX7_nextSeed D ad cI [.int x0] σ τ η rr σ τ η := by
  refine mk_i (own := RX7) (lv := [(0, .int x0)]) (plainFor_of_name (by decide)) rfl (Nat.le_of_ble_eq_true rfl) rfl ?_
  intro p e s m args below meth c Q ls hx hb hml hown htb hK ret hP hS hl
  unfold X7_nextSeed at h
  refine lv_ldc2 (v := (1103515245 : Int64)) hx hb hown (htb _ wKL_RX7_374) dX7_nextSeed_0 ?_
  refine lv_iload_n hx hb dX7_nextSeed_3 rfl (lv_at hl 0 rfl) ?_
  refine lv_i2l (v := ((x0).toInt64)) hx hb dX7_nextSeed_4 rfl ?_
  refine lv_lmul hx hb dX7_nextSeed_5 ?_
  refine lv_ldc2 (v := (12345 : Int64)) hx hb hown (htb _ wKL_RX7_376) dX7_nextSeed_6 ?_
  refine lv_ladd hx hb dX7_nextSeed_9 ?_
  refine lv_ldc2 (v := (2147483647 : Int64)) hx hb hown (htb _ wKL_RX7_378) dX7_nextSeed_10 ?_
  refine lv_land hx hb dX7_nextSeed_13 ?_
  refine lv_l2i (v := ((((((1103515245 : Int64) * ((x0).toInt64)) + (12345 : Int64)) &&& (2147483647 : Int64))).toInt32)) hx hb dX7_nextSeed_14 rfl ?_
  subst h
  exact ret _ _ _ _ _ dX7_nextSeed_15 hP hS rfl
def X7_drawOf  (x0 : Int32) : Option (Int32) :=
  some (irem (x0 / (65536 : Int32)) (10 : Int32))
abbrev rmX7_drawOf : Room := { frames := 0, cells := 0, slots := 0, locals := 0 }
set_option maxHeartbeats 4000000 in
set_option maxRecDepth 100000 in
theorem c_X7_drawOf (l : Launch) (D : va_G) (ad : Nat → Nat) (cI : ClassId) (hd : HD ad) (σ τ : St) (η : Int64) (x0 : Int32) (rr : Int32) (h : X7_drawOf  x0 = some rr) : MI l yX7_drawOf (wy yX7_drawOf cX7_drawOf 1 (some .int)) rmX7_drawOf D ad cI [.int x0] σ τ η rr σ τ η := by
  refine mk_i (own := RX7) (lv := [(0, .int x0)]) (plainFor_of_name (by decide)) rfl (Nat.le_of_ble_eq_true rfl) rfl ?_
  intro p e s m args below meth c Q ls hx hb hml hown htb hK ret hP hS hl
  unfold X7_drawOf at h
  refine lv_iload_n hx hb dX7_drawOf_0 rfl (lv_at hl 0 rfl) ?_
  refine lv_ldcw (v := (65536 : Int32)) hx hb hown (htb _ wK_RX7_380) dX7_drawOf_1 ?_
  refine lv_idiv hx hb dX7_drawOf_4 (by decide) ?_
  refine lv_bipush (v := (10 : Int32)) hx hb dX7_drawOf_5 (by decide) ?_
  refine lv_irem hx hb dX7_drawOf_7 (by decide) ?_
  obtain rfl := Option.some.inj h
  exact ret _ _ _ _ _ dX7_drawOf_8 hP hS rfl
def X7_weeks_L1 (n : Nat) (σ_1 : St) (u1_2 : Int32) (y1_3 : Int32) (y1_4 : Int32) (y1_5 : Int32) : Option (Int32 × Int32 × Int32) := match n with
  | 0 => none
  | n + 1 =>
    lt (X2_size σ_1 ) fun v5 =>
    if v5 ≤ y1_5 then (
      some (y1_3, y1_4, y1_5))
    else (
      if y1_4 = (-1 : Int32) then (
        bd (X2_isOfKnowing σ_1 y1_5) fun v8 =>
        bd ((
            if v8 = 0 then (
              some (y1_3, y1_4))
            else (
              lt (X7_nextSeed  y1_3) fun v11 =>
              bd (X7_drawOf  v11) fun v12 =>
              bd (X2_slipOf σ_1 y1_5) fun v13 =>
              if v13 ≤ v12 then (
                some (v11, y1_4))
              else (
                some (v11, y1_5)))) : Option (Int32 × Int32)) fun v10 =>
        X7_weeks_L1 n σ_1 u1_2 v10.1 v10.2 (y1_5 + (1 : Int32)))
      else (
        some (y1_3, y1_4, y1_5)))
theorem X7_weeks_L1_s (n : Nat) (σ_1 : St) (u1_2 : Int32) (y1_3 : Int32) (y1_4 : Int32) (y1_5 : Int32) : X7_weeks_L1 (n + 1) σ_1 u1_2 y1_3 y1_4 y1_5 =
    lt (X2_size σ_1 ) fun v5 =>
    if v5 ≤ y1_5 then (
      some (y1_3, y1_4, y1_5))
    else (
      if y1_4 = (-1 : Int32) then (
        bd (X2_isOfKnowing σ_1 y1_5) fun v8 =>
        bd ((
            if v8 = 0 then (
              some (y1_3, y1_4))
            else (
              lt (X7_nextSeed  y1_3) fun v11 =>
              bd (X7_drawOf  v11) fun v12 =>
              bd (X2_slipOf σ_1 y1_5) fun v13 =>
              if v13 ≤ v12 then (
                some (v11, y1_4))
              else (
                some (v11, y1_5)))) : Option (Int32 × Int32)) fun v10 =>
        X7_weeks_L1 n σ_1 u1_2 v10.1 v10.2 (y1_5 + (1 : Int32)))
      else (
        some (y1_3, y1_4, y1_5))) := rfl
def X7_weeks (σ : St) (x1 : Int32) (x2 : Int32) : Option (Int32) :=
  if x1 < 0 then (
    some (-102 : Int32))
  else (
    if x2 < 0 then (
      some (-102 : Int32))
    else (
      if x2 ≤ (2 : Int32) then (
        bd (X7_weeks_L1 10000 σ x2 x1 (-1 : Int32) (0 : Int32)) fun v4 =>
        if x2 = (2 : Int32) then (
          some v4.1)
        else (
          if x2 = 0 then (
            some v4.2.1)
          else (
            if v4.2.1 = (-1 : Int32) then (
              some v4.2.1)
            else (
              bd (X2_guestOf σ v4.2.1) fun v18 =>
              some v18))))
      else (
        some (-102 : Int32))))
abbrev rmX7_weeks : Room := { frames := 2, cells := 0, slots := 0, locals := 44 }
set_option maxHeartbeats 4000000 in
set_option maxRecDepth 100000 in
theorem c_X7_weeks (l : Launch) (D : va_G) (ad : Nat → Nat) (cI : ClassId) (hd : HD ad) (σ τ : St) (η : Int64) (x1 : Int32) (x2 : Int32) (rr : Int32) (h : X7_weeks σ x1 x2 = some rr) : MI l yX7_weeks (wy yX7_weeks cX7_weeks 6 (some .int)) rmX7_weeks D ad cI [.ref (ad 0), .int x1, .int x2] σ τ η rr σ τ η := by
  refine mk_i (own := RX7) (lv := [(0, .ref (ad 0)), (1, .int x1), (2, .int x2)]) (plainFor_of_name (by decide)) rfl (Nat.le_of_ble_eq_true rfl) rfl ?_
  intro p e s m args below meth c Q ls hx hb hml hown htb hK ret hP hS hl
  unfold X7_weeks at h
  refine lv_iload_n hx hb dX7_weeks_0 rfl (lv_at hl 1 rfl) ?_
  refine lv_if_lt (tgt := 13) hx hb dX7_weeks_1 (by decide) (fun c1 => ?_) (fun c1 => ?_)
  · replace h := ip c1 h
    refine lv_bipush (v := (-102 : Int32)) hx hb dX7_weeks_13 (by decide) ?_
    obtain rfl := Option.some.inj h
    exact ret _ _ _ _ _ dX7_weeks_15 hP hS rfl
  · replace h := iq c1 h
    refine lv_iload_n hx hb dX7_weeks_4 rfl (lv_at hl 2 rfl) ?_
    refine lv_if_lt (tgt := 13) hx hb dX7_weeks_5 (by decide) (fun c2 => ?_) (fun c2 => ?_)
    · replace h := ip c2 h
      refine lv_bipush (v := (-102 : Int32)) hx hb dX7_weeks_13 (by decide) ?_
      obtain rfl := Option.some.inj h
      exact ret _ _ _ _ _ dX7_weeks_15 hP hS rfl
    · replace h := iq c2 h
      refine lv_iload_n hx hb dX7_weeks_8 rfl (lv_at hl 2 rfl) ?_
      refine lv_iconst (v := (2 : Int32)) hx hb dX7_weeks_9 (by decide) ?_
      refine lv_icmp_le (tgt := 16) hx hb dX7_weeks_10 (by decide) (fun c3 => ?_) (fun c3 => ?_)
      · replace h := ip c3 h
        refine lv_iload_n hx hb dX7_weeks_16 rfl (lv_at hl 1 rfl) ?_
        refine lv_istore_n (lv' := [(3, .int x1), (0, .ref (ad 0)), (1, .int x1), (2, .int x2)]) hx hb dX7_weeks_17 rfl hl (by decide) rfl (fun ls hl => ?_)
        refine lv_iconst (v := (-1 : Int32)) hx hb dX7_weeks_18 (by decide) ?_
        refine lv_istore (lv' := [(4, .int (-1 : Int32)), (3, .int x1), (0, .ref (ad 0)), (1, .int x1), (2, .int x2)]) hx hb dX7_weeks_19 hl (by decide) rfl (fun ls hl => ?_)
        refine lv_iconst (v := (0 : Int32)) hx hb dX7_weeks_21 (by decide) ?_
        refine lv_istore (lv' := [(5, .int (0 : Int32)), (4, .int (-1 : Int32)), (3, .int x1), (0, .ref (ad 0)), (1, .int x1), (2, .int x2)]) hx hb dX7_weeks_22 hl (by decide) rfl (fun ls hl => ?_)
        obtain ⟨v4, hj4, h⟩ := ob h
        have K1 : ∀ (H : Heap) (locs : List Loc) (ls : Array Slot), WP D ad cI σ τ η H → va_S (AA ad) s.heap H locs → lv_has ls 6 [(0, .ref (ad 0)), (2, .int x2), (3, .int v4.1), (4, .int v4.2.1)] → W p l e rmX7_weeks s m args below meth c H locs 0 0 Q (F0 m 93 ls []) := by
          intro H locs ls hP hS hl
          refine lv_iload_n hx hb dX7_weeks_93 rfl (lv_at hl 1 rfl) ?_
          refine lv_iconst (v := (2 : Int32)) hx hb dX7_weeks_94 (by decide) ?_
          refine lv_icmp_ne (tgt := 100) hx hb dX7_weeks_95 (by decide) (fun c15 => ?_) (fun c15 => ?_)
          · replace h := iq c15 h
            refine lv_iload_n hx hb dX7_weeks_100 rfl (lv_at hl 1 rfl) ?_
            refine lv_if_eq (tgt := 110) hx hb dX7_weeks_101 (by decide) (fun c16 => ?_) (fun c16 => ?_)
            · replace h := ip c16 h
              refine lv_iload hx hb dX7_weeks_110 (lv_at hl 3 rfl) ?_
              refine lv_goto (tgt := 124) hx hb dX7_weeks_112 (by decide) ?_
              obtain rfl := Option.some.inj h
              exact ret _ _ _ _ _ dX7_weeks_124 hP hS rfl
            · replace h := iq c16 h
              refine lv_iload hx hb dX7_weeks_104 (lv_at hl 3 rfl) ?_
              refine lv_iconst (v := (-1 : Int32)) hx hb dX7_weeks_106 (by decide) ?_
              refine lv_icmp_ne (tgt := 115) hx hb dX7_weeks_107 (by decide) (fun c17 => ?_) (fun c17 => ?_)
              · replace h := iq c17 h
                refine lv_aload_n hx hb dX7_weeks_115 rfl (lv_at hl 0 rfl) ?_
                refine va_get (D := D) (ci := 7) (v := .ref (ad 10)) (C := RX7) (T := TX7) (N := 11) hx hb htb wu_7 hown hK.1 hP 0 w_0 rfl 3 (by decide) (htb _ wFL_RX7_33) (fun _ h9 => h9) rfl dX7_weeks_116 ?_
                refine lv_iload hx hb dX7_weeks_119 (lv_at hl 3 rfl) ?_
                obtain ⟨v18, g18, h⟩ := ob h
                refine c_Vi (q := (RX2, TX2, 5)) (ci := 2) (b := 10) (As := [.int v4.2.1]) (rest := []) (A := AA ad) ⟨hx, hb, hml, hown, htb⟩ (c_X2_guestOf l D ad cI hd σ τ η v4.2.1 v18 g18) (cwV 1 htb (gdV (fun _ hh => hh) wML_RX7_157 wIM_yX2_guestOf wSE_yX2_guestOf wI_RX2 wC_yX2_guestOf) rfl rfl rfl hd_X2_guestOf ⟨by decide, by decide⟩) hK hP rfl w_10 (fun _ hh => hh) hS rfl hl.1 rfl (Nat.le_of_ble_eq_true rfl) dX7_weeks_121 ⟨Nat.le_refl 0, Nat.le_refl 0⟩ (fun H locs hP hS => ?_)
                obtain rfl := Option.some.inj h
                exact ret _ _ _ _ _ dX7_weeks_124 hP hS rfl
              · replace h := ip c17 h
                refine lv_iload hx hb dX7_weeks_110 (lv_at hl 3 rfl) ?_
                refine lv_goto (tgt := 124) hx hb dX7_weeks_112 (by decide) ?_
                obtain rfl := Option.some.inj h
                exact ret _ _ _ _ _ dX7_weeks_124 hP hS rfl
          · replace h := ip c15 h
            refine lv_iload_n hx hb dX7_weeks_98 rfl (lv_at hl 2 rfl) ?_
            obtain rfl := Option.some.inj h
            exact ret _ _ _ _ _ dX7_weeks_99 hP hS rfl
        have L1 : ∀ (n : Nat) (y1_3 : Int32) (y1_4 : Int32) (y1_5 : Int32) (H : Heap) (locs : List Loc) (ls : Array Slot), X7_weeks_L1 n σ x2 y1_3 y1_4 y1_5 = some v4 → WP D ad cI σ τ η H → va_S (AA ad) s.heap H locs → lv_has ls 6 [(0, .ref (ad 0)), (2, .int x2), (3, .int y1_3), (4, .int y1_4), (5, .int y1_5)] → W p l e rmX7_weeks s m args below meth c H locs 0 0 Q (F0 m 24 ls []) := by
          intro n
          induction n with
          | zero => intro y1_3 y1_4 y1_5 H locs ls h; exact absurd h (by simp [X7_weeks_L1])
          | succ n ih =>
            intro y1_3 y1_4 y1_5 H locs ls h hP hS hl
            replace h := (X7_weeks_L1_s n σ x2 y1_3 y1_4 y1_5).symm.trans h
            refine lv_iload hx hb dX7_weeks_24 (lv_at hl 4 rfl) ?_
            refine lv_aload_n hx hb dX7_weeks_26 rfl (lv_at hl 0 rfl) ?_
            refine va_get (D := D) (ci := 7) (v := .ref (ad 10)) (C := RX7) (T := TX7) (N := 11) hx hb htb wu_7 hown hK.1 hP 0 w_0 rfl 3 (by decide) (htb _ wFL_RX7_33) (fun _ h9 => h9) rfl dX7_weeks_27 ?_
            obtain ⟨v5, g5, h⟩ := ol h
            refine c_Vi (q := (RX2, TX2, 5)) (ci := 2) (b := 10) (As := []) (rest := [.int y1_5]) (A := AA ad) ⟨hx, hb, hml, hown, htb⟩ (c_X2_size l D ad cI hd σ τ η  v5 g5) (cwV 0 htb (gdV (fun _ hh => hh) wML_RX7_155 wIM_yX2_size wSE_yX2_size wI_RX2 wC_yX2_size) rfl rfl rfl hd_X2_size ⟨by decide, by decide⟩) hK hP rfl w_10 (fun _ hh => hh) hS rfl hl.1 rfl (Nat.le_of_ble_eq_true rfl) dX7_weeks_30 ⟨Nat.le_refl 0, Nat.le_refl 0⟩ (fun H locs hP hS => ?_)
            refine lv_icmp_ge (tgt := 93) hx hb dX7_weeks_33 (by decide) (fun c6 => ?_) (fun c6 => ?_)
            · replace h := ip c6 h
              obtain rfl := Option.some.inj h
              exact K1 _ _ _ hP hS (lv_sub hl [0, 1, 2, 3] rfl)
            · replace h := iq c6 h
              refine lv_iload hx hb dX7_weeks_36 (lv_at hl 3 rfl) ?_
              refine lv_iconst (v := (-1 : Int32)) hx hb dX7_weeks_38 (by decide) ?_
              refine lv_icmp_ne (tgt := 93) hx hb dX7_weeks_39 (by decide) (fun c7 => ?_) (fun c7 => ?_)
              · replace h := iq c7 h
                obtain rfl := Option.some.inj h
                exact K1 _ _ _ hP hS (lv_sub hl [0, 1, 2, 3] rfl)
              · replace h := ip c7 h
                refine lv_aload_n hx hb dX7_weeks_42 rfl (lv_at hl 0 rfl) ?_
                refine va_get (D := D) (ci := 7) (v := .ref (ad 10)) (C := RX7) (T := TX7) (N := 11) hx hb htb wu_7 hown hK.1 hP 0 w_0 rfl 3 (by decide) (htb _ wFL_RX7_33) (fun _ h9 => h9) rfl dX7_weeks_43 ?_
                refine lv_iload hx hb dX7_weeks_46 (lv_at hl 4 rfl) ?_
                refine lv_aload_n hx hb dX7_weeks_48 rfl (lv_at hl 0 rfl) ?_
                refine va_get (D := D) (ci := 7) (v := .ref (ad 6)) (C := RX7) (T := TX7) (N := 11) hx hb htb wu_7 hown hK.1 hP 0 w_0 rfl 1 (by decide) (htb _ wFL_RX7_19) (fun _ h9 => h9) rfl dX7_weeks_49 ?_
                obtain ⟨v8, g8, h⟩ := ob h
                refine c_Vz (q := (RX2, TX2, 5)) (ci := 2) (b := 10) (As := [.int y1_5, .ref (ad 6)]) (rest := []) (A := AA ad) ⟨hx, hb, hml, hown, htb⟩ (c_X2_isOfKnowing l D ad cI hd σ τ η y1_5 v8 g8) (cwV 2 htb (gdV (fun _ hh => hh) wML_RX7_272 wIM_yX2_isOfKnowing wSE_yX2_isOfKnowing wI_RX2 wC_yX2_isOfKnowing) rfl rfl rfl hd_X2_isOfKnowing ⟨by decide, by decide⟩) hK hP rfl w_10 (fun _ hh => hh) hS rfl hl.1 rfl (Nat.le_of_ble_eq_true rfl) dX7_weeks_52 ⟨Nat.le_refl 0, Nat.le_refl 0⟩ (fun H locs hz8 hP hS => ?_)
                obtain ⟨v10, hj10, h⟩ := ob h
                have J10 : ∀ (H : Heap) (locs : List Loc) (ls : Array Slot), WP D ad cI σ τ η H → va_S (AA ad) s.heap H locs → lv_has ls 6 [(0, .ref (ad 0)), (2, .int x2), (3, .int v10.1), (4, .int v10.2), (5, .int y1_5)] → W p l e rmX7_weeks s m args below meth c H locs 0 0 Q (F0 m 87 ls []) := by
                  intro H locs ls hP hS hl
                  refine lv_iinc (v := (y1_5 + (1 : Int32))) (lv' := [(5, .int (y1_5 + (1 : Int32))), (0, .ref (ad 0)), (2, .int x2), (3, .int v10.1), (4, .int v10.2)]) hx hb dX7_weeks_87 hl (k := 4) rfl rfl (by decide) rfl (fun ls hl => ?_)
                  refine lv_goto (tgt := 24) hx hb dX7_weeks_90 (by decide) ?_
                  exact ih v10.1 v10.2 (y1_5 + (1 : Int32)) _ _ _ h hP hS (lv_sub hl [1, 2, 3, 4, 0] rfl)
                replace h := hj10
                refine lv_if_eq (tgt := 87) hx hb dX7_weeks_55 (by decide) (fun c9 => ?_) (fun c9 => ?_)
                · replace h := ip c9 h
                  obtain rfl := Option.some.inj h
                  exact J10 _ _ _ hP hS (lv_sub hl [0, 1, 2, 3, 4] rfl)
                · replace h := iq c9 h
                  refine lv_iload_n hx hb dX7_weeks_58 rfl (lv_at hl 2 rfl) ?_
                  obtain ⟨v11, g11, h⟩ := ol h
                  refine c_Si (As := [.int y1_3]) (rest := []) (A := AA ad) ⟨hx, hb, hml, hown, htb⟩ (c_X7_nextSeed l D ad cI hd σ τ η y1_3 v11 g11) (va_cwS 1 htb (gdS (fun _ hh => hh) wML_RX7_276 wST_yX7_nextSeed wI_RX7 wC_yX7_nextSeed) rfl rfl rfl hd_X7_nextSeed.2 ⟨by decide, by decide⟩) hK hP (fun _ hh => hh) hS rfl hl.1 rfl (Nat.le_of_ble_eq_true rfl) dX7_weeks_59 ⟨Nat.le_refl 0, Nat.le_refl 0⟩ (fun H locs hP hS => ?_)
                  refine lv_istore_n (lv' := [(3, .int v11), (0, .ref (ad 0)), (2, .int x2), (4, .int y1_4), (5, .int y1_5)]) hx hb dX7_weeks_62 rfl hl (by decide) rfl (fun ls hl => ?_)
                  refine lv_iload_n hx hb dX7_weeks_63 rfl (lv_at hl 0 rfl) ?_
                  obtain ⟨v12, g12, h⟩ := ob h
                  refine c_Si (As := [.int v11]) (rest := []) (A := AA ad) ⟨hx, hb, hml, hown, htb⟩ (c_X7_drawOf l D ad cI hd σ τ η v11 v12 g12) (va_cwS 1 htb (gdS (fun _ hh => hh) wML_RX7_279 wST_yX7_drawOf wI_RX7 wC_yX7_drawOf) rfl rfl rfl hd_X7_drawOf.2 ⟨by decide, by decide⟩) hK hP (fun _ hh => hh) hS rfl hl.1 rfl (Nat.le_of_ble_eq_true rfl) dX7_weeks_64 ⟨Nat.le_refl 0, Nat.le_refl 0⟩ (fun H locs hP hS => ?_)
                  refine lv_aload_n hx hb dX7_weeks_67 rfl (lv_at hl 1 rfl) ?_
                  refine va_get (D := D) (ci := 7) (v := .ref (ad 10)) (C := RX7) (T := TX7) (N := 11) hx hb htb wu_7 hown hK.1 hP 0 w_0 rfl 3 (by decide) (htb _ wFL_RX7_33) (fun _ h9 => h9) rfl dX7_weeks_68 ?_
                  refine lv_iload hx hb dX7_weeks_71 (lv_at hl 4 rfl) ?_
                  refine lv_aload_n hx hb dX7_weeks_73 rfl (lv_at hl 1 rfl) ?_
                  refine va_get (D := D) (ci := 7) (v := .ref (ad 6)) (C := RX7) (T := TX7) (N := 11) hx hb htb wu_7 hown hK.1 hP 0 w_0 rfl 1 (by decide) (htb _ wFL_RX7_19) (fun _ h9 => h9) rfl dX7_weeks_74 ?_
                  obtain ⟨v13, g13, h⟩ := ob h
                  refine c_Vi (q := (RX2, TX2, 5)) (ci := 2) (b := 10) (As := [.int y1_5, .ref (ad 6)]) (rest := [.int v12]) (A := AA ad) ⟨hx, hb, hml, hown, htb⟩ (c_X2_slipOf l D ad cI hd σ τ η y1_5 v13 g13) (cwV 2 htb (gdV (fun _ hh => hh) wML_RX7_166 wIM_yX2_slipOf wSE_yX2_slipOf wI_RX2 wC_yX2_slipOf) rfl rfl rfl hd_X2_slipOf ⟨by decide, by decide⟩) hK hP rfl w_10 (fun _ hh => hh) hS rfl hl.1 rfl (Nat.le_of_ble_eq_true rfl) dX7_weeks_77 ⟨Nat.le_refl 0, Nat.le_refl 0⟩ (fun H locs hP hS => ?_)
                  refine lv_icmp_ge (tgt := 87) hx hb dX7_weeks_80 (by decide) (fun c14 => ?_) (fun c14 => ?_)
                  · replace h := ip c14 h
                    obtain rfl := Option.some.inj h
                    exact J10 _ _ _ hP hS (lv_sub hl [1, 2, 0, 3, 4] rfl)
                  · replace h := iq c14 h
                    refine lv_iload hx hb dX7_weeks_83 (lv_at hl 4 rfl) ?_
                    refine lv_istore (lv' := [(4, .int y1_5), (3, .int v11), (0, .ref (ad 0)), (2, .int x2), (5, .int y1_5)]) hx hb dX7_weeks_85 hl (by decide) rfl (fun ls hl => ?_)
                    obtain rfl := Option.some.inj h
                    exact J10 _ _ _ hP hS (lv_sub hl [2, 3, 1, 0, 4] rfl)
        exact L1 10000 x1 (-1 : Int32) (0 : Int32) _ _ _ hj4 hP hS (lv_sub hl [3, 5, 2, 1, 0] rfl)
      · replace h := iq c3 h
        refine lv_bipush (v := (-102 : Int32)) hx hb dX7_weeks_13 (by decide) ?_
        obtain rfl := Option.some.inj h
        exact ret _ _ _ _ _ dX7_weeks_15 hP hS rfl
def X8_draw (τ : St) (x1 : Int32) : Option (Int32 × St) :=
  lt (s2 τ 29 20 ((((((1103515245 : Int64) * (((τ 29 20)).toInt64)) + (12345 : Int64)) &&& (2147483647 : Int64))).toInt32)) fun τ1 =>
  if x1 = 0 then none else
  some ((irem ((τ1 29 20) / (65536 : Int32)) x1), τ1)
abbrev rmX8_draw : Room := { frames := 0, cells := 0, slots := 0, locals := 0 }
set_option maxHeartbeats 4000000 in
set_option maxRecDepth 100000 in
theorem c_X8_draw (l : Launch) (D : va_G) (ad : Nat → Nat) (cI : ClassId) (hd : HD ad) (σ τ : St) (η : Int64) (x1 : Int32) (rr : Int32 × St) (h : X8_draw τ x1 = some rr) : MI l yX8_draw (wy yX8_draw cX8_draw 2 (some .int)) rmX8_draw D ad cI [.ref (ad 29), .int x1] σ τ η rr.1 σ rr.2 η := by
  refine mk_i (own := RX8) (lv := [(0, .ref (ad 29)), (1, .int x1)]) (plainFor_of_name (by decide)) rfl (Nat.le_of_ble_eq_true rfl) rfl ?_
  intro p e s m args below meth c Q ls hx hb hml hown htb hK ret hP hS hl
  unfold X8_draw at h
  refine lv_aload_n hx hb dX8_draw_0 rfl (lv_at hl 0 rfl) ?_
  refine lv_ldc2 (v := (1103515245 : Int64)) hx hb hown (htb _ wKL_RX8_213) dX8_draw_1 ?_
  refine lv_aload_n hx hb dX8_draw_4 rfl (lv_at hl 0 rfl) ?_
  refine va_get (D := D) (ci := 8) (v := .int (τ 29 20)) (C := RX8) (T := TX8) (N := 27) hx hb htb wu_8 hown hK.1 hP 29 w_29 rfl 20 (by decide) (htb _ wFL_RX8_215) (fun _ h9 => h9) rfl dX8_draw_5 ?_
  refine lv_i2l (v := (((τ 29 20)).toInt64)) hx hb dX8_draw_8 rfl ?_
  refine lv_lmul hx hb dX8_draw_9 ?_
  refine lv_ldc2 (v := (12345 : Int64)) hx hb hown (htb _ wKL_RX8_218) dX8_draw_10 ?_
  refine lv_ladd hx hb dX8_draw_13 ?_
  refine lv_ldc2 (v := (2147483647 : Int64)) hx hb hown (htb _ wKL_RX8_220) dX8_draw_14 ?_
  refine lv_land hx hb dX8_draw_17 ?_
  refine lv_l2i (v := ((((((1103515245 : Int64) * (((τ 29 20)).toInt64)) + (12345 : Int64)) &&& (2147483647 : Int64))).toInt32)) hx hb dX8_draw_18 rfl ?_
  obtain ⟨τ1, g1, h⟩ := ol h
  refine r_putM (ci := 8) (C := RX8) (T := TX8) (N := 27) (A := AA ad) hx hb htb wu_8 tyX8 tyX8_ok nmX8 hown hK hd (fun _ hh => hh) hP hS 20 rfl rfl rfl (by decide) (htb _ wFL_RX8_215) rfl rfl (by decide +kernel) (Nat.le_of_ble_eq_true rfl) dX8_draw_19 (fun H locs hP hS => ?_)
  rw [g1] at hP
  refine lv_aload_n hx hb dX8_draw_22 rfl (lv_at hl 0 rfl) ?_
  refine va_get (D := D) (ci := 8) (v := .int (τ1 29 20)) (C := RX8) (T := TX8) (N := 27) hx hb htb wu_8 hown hK.1 hP 29 w_29 rfl 20 (by decide) (htb _ wFL_RX8_215) (fun _ h9 => h9) rfl dX8_draw_23 ?_
  refine lv_ldc (v := (65536 : Int32)) hx hb hown (htb _ wK_RX8_222) dX8_draw_26 ?_
  refine lv_idiv hx hb dX8_draw_28 (by decide) ?_
  refine lv_iload_n hx hb dX8_draw_29 rfl (lv_at hl 1 rfl) ?_
  obtain ⟨c2, h⟩ := inz h
  refine lv_irem hx hb dX8_draw_30 c2 ?_
  obtain rfl := Option.some.inj h
  exact ret _ _ _ _ _ dX8_draw_31 hP hS rfl
def X8_weeks_L1 (n : Nat) (τ_1 : St) (u1_2 : Int32) (y1_3 : Int32) (y1_4 : Int32) : Option (Int32 × Int32 × St) := match n with
  | 0 => none
  | n + 1 =>
    if (τ_1 29 8) ≤ y1_4 then (
      some (y1_3, y1_4, τ_1))
    else (
      if y1_3 = (-1 : Int32) then (
        bd (rd (τ_1 36) 45 ((3 : Int32) * y1_4)) fun v9 =>
        bd (rd (τ_1 34) 9 v9) fun v10 =>
        bd (rd (τ_1 36) 45 (((3 : Int32) * y1_4) + (1 : Int32))) fun v11 =>
        lt ((
            if v11 < v10 then (
              (0 : Int32))
            else (
              (1 : Int32))) : Int32) fun v13 =>
        bd ((
            if v13 = 0 then (
              some ((-1 : Int32), τ_1))
            else (
              bd (X8_draw τ_1 (10 : Int32)) fun v16 =>
              bd (X8_slips v16.2 y1_4) fun v17 =>
              if v17 ≤ v16.1 then (
                some ((-1 : Int32), v16.2))
              else (
                some (y1_4, v16.2)))) : Option (Int32 × St)) fun v15 =>
        X8_weeks_L1 n v15.2 u1_2 v15.1 (y1_4 + (1 : Int32)))
      else (
        some (y1_3, y1_4, τ_1)))
theorem X8_weeks_L1_s (n : Nat) (τ_1 : St) (u1_2 : Int32) (y1_3 : Int32) (y1_4 : Int32) : X8_weeks_L1 (n + 1) τ_1 u1_2 y1_3 y1_4 =
    if (τ_1 29 8) ≤ y1_4 then (
      some (y1_3, y1_4, τ_1))
    else (
      if y1_3 = (-1 : Int32) then (
        bd (rd (τ_1 36) 45 ((3 : Int32) * y1_4)) fun v9 =>
        bd (rd (τ_1 34) 9 v9) fun v10 =>
        bd (rd (τ_1 36) 45 (((3 : Int32) * y1_4) + (1 : Int32))) fun v11 =>
        lt ((
            if v11 < v10 then (
              (0 : Int32))
            else (
              (1 : Int32))) : Int32) fun v13 =>
        bd ((
            if v13 = 0 then (
              some ((-1 : Int32), τ_1))
            else (
              bd (X8_draw τ_1 (10 : Int32)) fun v16 =>
              bd (X8_slips v16.2 y1_4) fun v17 =>
              if v17 ≤ v16.1 then (
                some ((-1 : Int32), v16.2))
              else (
                some (y1_4, v16.2)))) : Option (Int32 × St)) fun v15 =>
        X8_weeks_L1 n v15.2 u1_2 v15.1 (y1_4 + (1 : Int32)))
      else (
        some (y1_3, y1_4, τ_1))) := rfl
def X8_weeks (τ : St) (x1 : Int32) (x2 : Int32) : Option (Int32 × St) :=
  if x1 < 0 then (
    some ((-102 : Int32), τ))
  else (
    lt (X8_in  ((x2).toInt64) (0 : Int64) (2 : Int64)) fun v2 =>
    if v2 = 0 then (
      some ((-102 : Int32), τ))
    else (
      bd (X8_reckon τ ) fun v4 =>
      lt (s2 v4 29 20 x1) fun τ5 =>
      bd (X8_weeks_L1 10000 τ5 x2 (-1 : Int32) (0 : Int32)) fun v6 =>
      if x2 = (2 : Int32) then (
        some ((v6.2.2 29 20), v6.2.2))
      else (
        if x2 = 0 then (
          some (v6.1, v6.2.2))
        else (
          if v6.1 = (-1 : Int32) then (
            some (v6.1, v6.2.2))
          else (
            bd (rd (v6.2.2 36) 45 ((3 : Int32) * v6.1)) fun v22 =>
            some (v22, v6.2.2))))))
abbrev rmX8_weeks : Room := { frames := 3, cells := 0, slots := 0, locals := 68 }
set_option maxHeartbeats 4000000 in
set_option maxRecDepth 100000 in
theorem c_X8_weeks (l : Launch) (D : va_G) (ad : Nat → Nat) (cI : ClassId) (hd : HD ad) (σ τ : St) (η : Int64) (x1 : Int32) (x2 : Int32) (rr : Int32 × St) (h : X8_weeks τ x1 x2 = some rr) : MI l yX8_weeks (wy yX8_weeks cX8_weeks 6 (some .int)) rmX8_weeks D ad cI [.ref (ad 29), .int x1, .int x2] σ τ η rr.1 σ rr.2 η := by
  refine mk_i (own := RX8) (lv := [(0, .ref (ad 29)), (1, .int x1), (2, .int x2)]) (plainFor_of_name (by decide)) rfl (Nat.le_of_ble_eq_true rfl) rfl ?_
  intro p e s m args below meth c Q ls hx hb hml hown htb hK ret hP hS hl
  unfold X8_weeks at h
  refine lv_iload_n hx hb dX8_weeks_0 rfl (lv_at hl 1 rfl) ?_
  refine lv_if_lt (tgt := 16) hx hb dX8_weeks_1 (by decide) (fun c1 => ?_) (fun c1 => ?_)
  · replace h := ip c1 h
    refine lv_bipush (v := (-102 : Int32)) hx hb dX8_weeks_16 (by decide) ?_
    obtain rfl := Option.some.inj h
    exact ret _ _ _ _ _ dX8_weeks_18 hP hS rfl
  · replace h := iq c1 h
    refine lv_iload_n hx hb dX8_weeks_4 rfl (lv_at hl 2 rfl) ?_
    refine lv_i2l (v := ((x2).toInt64)) hx hb dX8_weeks_5 rfl ?_
    refine lv_lconst (v := (0 : Int64)) hx hb dX8_weeks_6 rfl ?_
    refine lv_ldc2 (v := (2 : Int64)) hx hb hown (htb _ wKL_RX8_119) dX8_weeks_7 ?_
    obtain ⟨v2, g2, h⟩ := ol h
    refine c_Sz (As := [.long ((x2).toInt64), .long (0 : Int64), .long (2 : Int64)]) (rest := []) (A := AA ad) ⟨hx, hb, hml, hown, htb⟩ (c_X8_in l D ad cI hd σ τ η ((x2).toInt64) (0 : Int64) (2 : Int64) v2 g2) (va_cwS 3 htb (gdS (fun _ hh => hh) wML_RX8_65 wST_yX8_in wI_RX8 wC_yX8_in) rfl rfl rfl hd_X8_in.2 ⟨by decide, by decide⟩) hK hP (fun _ hh => hh) hS rfl hl.1 rfl (Nat.le_of_ble_eq_true rfl) dX8_weeks_10 ⟨Nat.le_refl 0, Nat.le_refl 0⟩ (fun H locs hz2 hP hS => ?_)
    refine lv_if_ne (tgt := 19) hx hb dX8_weeks_13 (by decide) (fun c3 => ?_) (fun c3 => ?_)
    · replace h := iq c3 h
      refine lv_aload_n hx hb dX8_weeks_19 rfl (lv_at hl 0 rfl) ?_
      obtain ⟨v4, g4, h⟩ := ob h
      refine c_Vv (q := (RX8, TX8, 27)) (ci := 8) (b := 29) (As := []) (rest := []) (A := AA ad) ⟨hx, hb, hml, hown, htb⟩ (c_X8_reckon l D ad cI hd σ τ η  v4 g4) (cwV 0 htb (gdV (fun _ hh => hh) wML_RX8_85 wIM_yX8_reckon wSE_yX8_reckon wI_RX8 wC_yX8_reckon) rfl rfl rfl hd_X8_reckon ⟨by decide, by decide⟩) hK hP rfl w_29 (fun _ hh => hh) hS rfl hl.1 rfl (Nat.le_of_ble_eq_true rfl) dX8_weeks_20 ⟨Nat.le_refl 0, Nat.le_refl 0⟩ (fun H locs hP hS => ?_)
      refine lv_aload_n hx hb dX8_weeks_23 rfl (lv_at hl 0 rfl) ?_
      refine lv_iload_n hx hb dX8_weeks_24 rfl (lv_at hl 1 rfl) ?_
      obtain ⟨τ5, g5, h⟩ := ol h
      refine r_putM (ci := 8) (C := RX8) (T := TX8) (N := 27) (A := AA ad) hx hb htb wu_8 tyX8 tyX8_ok nmX8 hown hK hd (fun _ hh => hh) hP hS 20 rfl rfl rfl (by decide) (htb _ wFL_RX8_215) rfl rfl (by decide +kernel) (Nat.le_of_ble_eq_true rfl) dX8_weeks_25 (fun H locs hP hS => ?_)
      rw [g5] at hP
      refine lv_iconst (v := (-1 : Int32)) hx hb dX8_weeks_28 (by decide) ?_
      refine lv_istore_n (lv' := [(3, .int (-1 : Int32)), (0, .ref (ad 29)), (1, .int x1), (2, .int x2)]) hx hb dX8_weeks_29 rfl hl (by decide) rfl (fun ls hl => ?_)
      refine lv_iconst (v := (0 : Int32)) hx hb dX8_weeks_30 (by decide) ?_
      refine lv_istore (lv' := [(4, .int (0 : Int32)), (3, .int (-1 : Int32)), (0, .ref (ad 29)), (1, .int x1), (2, .int x2)]) hx hb dX8_weeks_31 hl (by decide) rfl (fun ls hl => ?_)
      obtain ⟨v6, hj6, h⟩ := ob h
      have K1 : ∀ (H : Heap) (locs : List Loc) (ls : Array Slot), WP D ad cI σ v6.2.2 η H → va_S (AA ad) s.heap H locs → lv_has ls 6 [(0, .ref (ad 29)), (2, .int x2), (3, .int v6.1)] → W p l e rmX8_weeks s m args below meth c H locs 0 0 Q (F0 m 115 ls []) := by
        intro H locs ls hP hS hl
        refine lv_iload_n hx hb dX8_weeks_115 rfl (lv_at hl 1 rfl) ?_
        refine lv_iconst (v := (2 : Int32)) hx hb dX8_weeks_116 (by decide) ?_
        refine lv_icmp_ne (tgt := 127) hx hb dX8_weeks_117 (by decide) (fun c19 => ?_) (fun c19 => ?_)
        · replace h := iq c19 h
          refine lv_iload_n hx hb dX8_weeks_127 rfl (lv_at hl 1 rfl) ?_
          refine lv_if_eq (tgt := 136) hx hb dX8_weeks_128 (by decide) (fun c20 => ?_) (fun c20 => ?_)
          · replace h := ip c20 h
            refine lv_iload_n hx hb dX8_weeks_136 rfl (lv_at hl 2 rfl) ?_
            refine lv_goto (tgt := 148) hx hb dX8_weeks_137 (by decide) ?_
            obtain rfl := Option.some.inj h
            exact ret _ _ _ _ _ dX8_weeks_148 hP hS rfl
          · replace h := iq c20 h
            refine lv_iload_n hx hb dX8_weeks_131 rfl (lv_at hl 2 rfl) ?_
            refine lv_iconst (v := (-1 : Int32)) hx hb dX8_weeks_132 (by decide) ?_
            refine lv_icmp_ne (tgt := 140) hx hb dX8_weeks_133 (by decide) (fun c21 => ?_) (fun c21 => ?_)
            · replace h := iq c21 h
              refine lv_aload_n hx hb dX8_weeks_140 rfl (lv_at hl 0 rfl) ?_
              refine va_get (D := D) (ci := 8) (v := .ref (ad 36)) (C := RX8) (T := TX8) (N := 27) hx hb htb wu_8 hown hK.1 hP 29 w_29 rfl 10 (by decide) (htb _ wFL_RX8_28) (fun _ h9 => h9) rfl dX8_weeks_141 ?_
              refine lv_iconst (v := (3 : Int32)) hx hb dX8_weeks_144 (by decide) ?_
              refine lv_iload_n hx hb dX8_weeks_145 rfl (lv_at hl 2 rfl) ?_
              refine lv_imul hx hb dX8_weeks_146 ?_
              obtain ⟨v22, g22, h⟩ := ob h
              refine r_ald hx hb hK hP 36 w_36 g22 dX8_weeks_147 ?_
              obtain rfl := Option.some.inj h
              exact ret _ _ _ _ _ dX8_weeks_148 hP hS rfl
            · replace h := ip c21 h
              refine lv_iload_n hx hb dX8_weeks_136 rfl (lv_at hl 2 rfl) ?_
              refine lv_goto (tgt := 148) hx hb dX8_weeks_137 (by decide) ?_
              obtain rfl := Option.some.inj h
              exact ret _ _ _ _ _ dX8_weeks_148 hP hS rfl
        · replace h := ip c19 h
          refine lv_aload_n hx hb dX8_weeks_120 rfl (lv_at hl 0 rfl) ?_
          refine va_get (D := D) (ci := 8) (v := .int (v6.2.2 29 20)) (C := RX8) (T := TX8) (N := 27) hx hb htb wu_8 hown hK.1 hP 29 w_29 rfl 20 (by decide) (htb _ wFL_RX8_215) (fun _ h9 => h9) rfl dX8_weeks_121 ?_
          refine lv_goto (tgt := 148) hx hb dX8_weeks_124 (by decide) ?_
          obtain rfl := Option.some.inj h
          exact ret _ _ _ _ _ dX8_weeks_148 hP hS rfl
      have L1 : ∀ (n : Nat) (τ_1 : St) (y1_3 : Int32) (y1_4 : Int32) (H : Heap) (locs : List Loc) (ls : Array Slot), X8_weeks_L1 n τ_1 x2 y1_3 y1_4 = some v6 → WP D ad cI σ τ_1 η H → va_S (AA ad) s.heap H locs → lv_has ls 6 [(0, .ref (ad 29)), (2, .int x2), (3, .int y1_3), (4, .int y1_4)] → W p l e rmX8_weeks s m args below meth c H locs 0 0 Q (F0 m 33 ls []) := by
        intro n
        induction n with
        | zero => intro τ_1 y1_3 y1_4 H locs ls h; exact absurd h (by simp [X8_weeks_L1])
        | succ n ih =>
          intro τ_1 y1_3 y1_4 H locs ls h hP hS hl
          replace h := (X8_weeks_L1_s n τ_1 x2 y1_3 y1_4).symm.trans h
          refine lv_iload hx hb dX8_weeks_33 (lv_at hl 3 rfl) ?_
          refine lv_aload_n hx hb dX8_weeks_35 rfl (lv_at hl 0 rfl) ?_
          refine va_get (D := D) (ci := 8) (v := .int (τ_1 29 8)) (C := RX8) (T := TX8) (N := 27) hx hb htb wu_8 hown hK.1 hP 29 w_29 rfl 8 (by decide) (htb _ wFL_RX8_109) (fun _ h9 => h9) rfl dX8_weeks_36 ?_
          refine lv_icmp_ge (tgt := 115) hx hb dX8_weeks_39 (by decide) (fun c7 => ?_) (fun c7 => ?_)
          · replace h := ip c7 h
            obtain rfl := Option.some.inj h
            exact K1 _ _ _ hP hS (lv_sub hl [0, 1, 2] rfl)
          · replace h := iq c7 h
            refine lv_iload_n hx hb dX8_weeks_42 rfl (lv_at hl 2 rfl) ?_
            refine lv_iconst (v := (-1 : Int32)) hx hb dX8_weeks_43 (by decide) ?_
            refine lv_icmp_ne (tgt := 115) hx hb dX8_weeks_44 (by decide) (fun c8 => ?_) (fun c8 => ?_)
            · replace h := iq c8 h
              obtain rfl := Option.some.inj h
              exact K1 _ _ _ hP hS (lv_sub hl [0, 1, 2] rfl)
            · replace h := ip c8 h
              refine lv_aload_n hx hb dX8_weeks_47 rfl (lv_at hl 0 rfl) ?_
              refine va_get (D := D) (ci := 8) (v := .ref (ad 34)) (C := RX8) (T := TX8) (N := 27) hx hb htb wu_8 hown hK.1 hP 29 w_29 rfl 5 (by decide) (htb _ wFL_RX8_22) (fun _ h9 => h9) rfl dX8_weeks_48 ?_
              refine lv_aload_n hx hb dX8_weeks_51 rfl (lv_at hl 0 rfl) ?_
              refine va_get (D := D) (ci := 8) (v := .ref (ad 36)) (C := RX8) (T := TX8) (N := 27) hx hb htb wu_8 hown hK.1 hP 29 w_29 rfl 10 (by decide) (htb _ wFL_RX8_28) (fun _ h9 => h9) rfl dX8_weeks_52 ?_
              refine lv_iconst (v := (3 : Int32)) hx hb dX8_weeks_55 (by decide) ?_
              refine lv_iload hx hb dX8_weeks_56 (lv_at hl 3 rfl) ?_
              refine lv_imul hx hb dX8_weeks_58 ?_
              obtain ⟨v9, g9, h⟩ := ob h
              refine r_ald hx hb hK hP 36 w_36 g9 dX8_weeks_59 ?_
              obtain ⟨v10, g10, h⟩ := ob h
              refine r_ald hx hb hK hP 34 w_34 g10 dX8_weeks_60 ?_
              refine lv_aload_n hx hb dX8_weeks_61 rfl (lv_at hl 0 rfl) ?_
              refine va_get (D := D) (ci := 8) (v := .ref (ad 36)) (C := RX8) (T := TX8) (N := 27) hx hb htb wu_8 hown hK.1 hP 29 w_29 rfl 10 (by decide) (htb _ wFL_RX8_28) (fun _ h9 => h9) rfl dX8_weeks_62 ?_
              refine lv_iconst (v := (3 : Int32)) hx hb dX8_weeks_65 (by decide) ?_
              refine lv_iload hx hb dX8_weeks_66 (lv_at hl 3 rfl) ?_
              refine lv_imul hx hb dX8_weeks_68 ?_
              refine lv_iconst (v := (1 : Int32)) hx hb dX8_weeks_69 (by decide) ?_
              refine lv_iadd hx hb dX8_weeks_70 ?_
              obtain ⟨v11, g11, h⟩ := ob h
              refine r_ald hx hb hK hP 36 w_36 g11 dX8_weeks_71 ?_
              obtain ⟨v13, hj13, h⟩ := ol h
              have J13 : ∀ (H : Heap) (locs : List Loc) (ls : Array Slot), WP D ad cI σ τ_1 η H → va_S (AA ad) s.heap H locs → lv_has ls 6 [(0, .ref (ad 29)), (2, .int x2), (4, .int y1_4)] → W p l e rmX8_weeks s m args below meth c H locs 0 0 Q (F0 m 80 ls [.int v13]) := by
                intro H locs ls hP hS hl
                refine lv_istore (lv' := [(5, .int v13), (0, .ref (ad 29)), (2, .int x2), (4, .int y1_4)]) hx hb dX8_weeks_80 hl (by decide) rfl (fun ls hl => ?_)
                refine lv_iload hx hb dX8_weeks_82 (lv_at hl 0 rfl) ?_
                obtain ⟨v15, hj15, h⟩ := ob h
                have J15 : ∀ (H : Heap) (locs : List Loc) (ls : Array Slot), WP D ad cI σ v15.2 η H → va_S (AA ad) s.heap H locs → lv_has ls 6 [(0, .ref (ad 29)), (2, .int x2), (4, .int y1_4)] → W p l e rmX8_weeks s m args below meth c H locs 0 0 Q (F0 m 108 ls [.int v15.1]) := by
                  intro H locs ls hP hS hl
                  refine lv_istore_n (lv' := [(3, .int v15.1), (0, .ref (ad 29)), (2, .int x2), (4, .int y1_4)]) hx hb dX8_weeks_108 rfl hl (by decide) rfl (fun ls hl => ?_)
                  refine lv_iinc (v := (y1_4 + (1 : Int32))) (lv' := [(4, .int (y1_4 + (1 : Int32))), (3, .int v15.1), (0, .ref (ad 29)), (2, .int x2)]) hx hb dX8_weeks_109 hl (k := 3) rfl rfl (by decide) rfl (fun ls hl => ?_)
                  refine lv_goto (tgt := 33) hx hb dX8_weeks_112 (by decide) ?_
                  exact ih v15.2 v15.1 (y1_4 + (1 : Int32)) _ _ _ h hP hS (lv_sub hl [2, 3, 1, 0] rfl)
                replace h := hj15
                refine lv_if_eq (tgt := 107) hx hb dX8_weeks_84 (by decide) (fun c14 => ?_) (fun c14 => ?_)
                · replace h := ip c14 h
                  refine lv_iconst (v := (-1 : Int32)) hx hb dX8_weeks_107 (by decide) ?_
                  obtain rfl := Option.some.inj h
                  exact J15 _ _ _ hP hS (lv_sub hl [1, 2, 3] rfl)
                · replace h := iq c14 h
                  refine lv_aload_n hx hb dX8_weeks_87 rfl (lv_at hl 1 rfl) ?_
                  refine lv_bipush (v := (10 : Int32)) hx hb dX8_weeks_88 (by decide) ?_
                  obtain ⟨v16, g16, h⟩ := ob h
                  refine c_Vi (q := (RX8, TX8, 27)) (ci := 8) (b := 29) (As := [.int (10 : Int32)]) (rest := []) (A := AA ad) ⟨hx, hb, hml, hown, htb⟩ (c_X8_draw l D ad cI hd σ τ_1 η (10 : Int32) v16 g16) (cwV 1 htb (gdV (fun _ hh => hh) wML_RX8_223 wIM_yX8_draw wSE_yX8_draw wI_RX8 wC_yX8_draw) rfl rfl rfl hd_X8_draw ⟨by decide, by decide⟩) hK hP rfl w_29 (fun _ hh => hh) hS rfl hl.1 rfl (Nat.le_of_ble_eq_true rfl) dX8_weeks_90 ⟨Nat.le_refl 0, Nat.le_refl 0⟩ (fun H locs hP hS => ?_)
                  refine lv_aload_n hx hb dX8_weeks_93 rfl (lv_at hl 1 rfl) ?_
                  refine lv_iload hx hb dX8_weeks_94 (lv_at hl 3 rfl) ?_
                  obtain ⟨v17, g17, h⟩ := ob h
                  refine c_Vi (q := (RX8, TX8, 27)) (ci := 8) (b := 29) (As := [.int y1_4]) (rest := [.int v16.1]) (A := AA ad) ⟨hx, hb, hml, hown, htb⟩ (c_X8_slips l D ad cI hd σ v16.2 η y1_4 v17 g17) (cwV 1 htb (gdV (fun _ hh => hh) wML_RX8_115 wIM_yX8_slips wSE_yX8_slips wI_RX8 wC_yX8_slips) rfl rfl rfl hd_X8_slips ⟨by decide, by decide⟩) hK hP rfl w_29 (fun _ hh => hh) hS rfl hl.1 rfl (Nat.le_of_ble_eq_true rfl) dX8_weeks_96 ⟨Nat.le_refl 0, Nat.le_refl 0⟩ (fun H locs hP hS => ?_)
                  refine lv_icmp_ge (tgt := 107) hx hb dX8_weeks_99 (by decide) (fun c18 => ?_) (fun c18 => ?_)
                  · replace h := ip c18 h
                    refine lv_iconst (v := (-1 : Int32)) hx hb dX8_weeks_107 (by decide) ?_
                    obtain rfl := Option.some.inj h
                    exact J15 _ _ _ hP hS (lv_sub hl [1, 2, 3] rfl)
                  · replace h := iq c18 h
                    refine lv_iload hx hb dX8_weeks_102 (lv_at hl 3 rfl) ?_
                    refine lv_goto (tgt := 108) hx hb dX8_weeks_104 (by decide) ?_
                    obtain rfl := Option.some.inj h
                    exact J15 _ _ _ hP hS (lv_sub hl [1, 2, 3] rfl)
              replace h := hj13
              refine lv_icmp_gt (tgt := 79) hx hb dX8_weeks_72 (by decide) (fun c12 => ?_) (fun c12 => ?_)
              · replace h := ip c12 h
                refine lv_iconst (v := (0 : Int32)) hx hb dX8_weeks_79 (by decide) ?_
                subst h
                exact J13 _ _ _ hP hS (lv_sub hl [0, 1, 3] rfl)
              · replace h := iq c12 h
                refine lv_iconst (v := (1 : Int32)) hx hb dX8_weeks_75 (by decide) ?_
                refine lv_goto (tgt := 80) hx hb dX8_weeks_76 (by decide) ?_
                subst h
                exact J13 _ _ _ hP hS (lv_sub hl [0, 1, 3] rfl)
      exact L1 10000 τ5 (-1 : Int32) (0 : Int32) _ _ _ hj6 hP hS (lv_sub hl [2, 4, 1, 0] rfl)
    · replace h := ip c3 h
      refine lv_bipush (v := (-102 : Int32)) hx hb dX8_weeks_16 (by decide) ?_
      obtain rfl := Option.some.inj h
      exact ret _ _ _ _ _ dX8_weeks_18 hP hS rfl
def X4_size (σ : St)  : Int32 :=
  (σ 18 3)
abbrev rmX4_size : Room := { frames := 0, cells := 0, slots := 0, locals := 0 }
set_option maxHeartbeats 4000000 in
set_option maxRecDepth 100000 in
theorem c_X4_size (l : Launch) (D : va_G) (ad : Nat → Nat) (cI : ClassId) (hd : HD ad) (σ τ : St) (η : Int64)  (rr : Int32) (h : X4_size σ  = rr) : MI l yX4_size (wy yX4_size cX4_size 1 (some .int)) rmX4_size D ad cI [.ref (ad 18)] σ τ η rr σ τ η := by
  refine mk_i (own := RX4) (lv := [(0, .ref (ad 18))]) (plainFor_of_name (by decide)) rfl (Nat.le_of_ble_eq_true rfl) rfl ?_
  intro p e s m args below meth c Q ls hx hb hml hown htb hK ret hP hS hl
  unfold X4_size at h
  refine lv_aload_n hx hb dX4_size_0 rfl (lv_at hl 0 rfl) ?_
  refine va_get (D := D) (ci := 4) (v := .int (σ 18 3)) (C := RX4) (T := TX4) (N := 4) hx hb htb wu_4 hown hK.1 hP 18 w_18 rfl 3 (by decide) (htb _ wFL_RX4_21) (fun _ h9 => h9) rfl dX4_size_1 ?_
  subst h
  exact ret _ _ _ _ _ dX4_size_4 hP hS rfl
def X1_keep (σ : St)  : St :=
  lt (sc σ 4 23 9) fun σ1 =>
  lt (sc σ1 5 24 72) fun σ2 =>
  lt (sc σ2 21 25 8) fun σ3 =>
  lt (X0_size σ3 ) fun v4 =>
  lt (s2 σ3 22 3 v4) fun σ5 =>
  lt (X4_size σ5 ) fun v6 =>
  lt (s2 σ5 22 4 v6) fun σ7 =>
  σ7
abbrev rmX1_keep : Room := { frames := 1, cells := 0, slots := 0, locals := 60 }
set_option maxHeartbeats 4000000 in
set_option maxRecDepth 100000 in
theorem c_X1_keep (l : Launch) (D : va_G) (ad : Nat → Nat) (cI : ClassId) (hd : HD ad) (σ τ : St) (η : Int64)  (rr : St) (h : X1_keep σ  = rr) : MV l yX1_keep (wy yX1_keep cX1_keep 3 none) rmX1_keep D ad cI [.ref (ad 22), .ref (ad 1), .ref (ad 18)] σ τ η rr τ η := by
  refine mk_v (own := RX1) (lv := [(0, .ref (ad 22)), (1, .ref (ad 1)), (2, .ref (ad 18))]) (plainFor_of_name (by decide)) rfl (Nat.le_of_ble_eq_true rfl) rfl ?_
  intro p e s m args below meth c Q ls hx hb hml hown htb hK ret hP hS hl
  unfold X1_keep at h
  refine lv_aload_n hx hb dX1_keep_0 rfl (lv_at hl 1 rfl) ?_
  refine va_getN (D := D) (ci := 0) (v := .ref (ad 4)) (C := RX0) (T := TX0) (N := 6) hx hb htb wu_0 hown hK.1 hP 1 w_1 rfl 2 (by decide) (va_Nw.use rfl (hK.2 _ wFN_RX1_32 rfl)) (fun _ h9 => h9) rfl dX1_keep_1 ?_
  refine lv_iconst (v := (0 : Int32)) hx hb dX1_keep_4 (by decide) ?_
  refine lv_aload_n hx hb dX1_keep_5 rfl (lv_at hl 0 rfl) ?_
  refine va_get (D := D) (ci := 1) (v := .ref (ad 23)) (C := RX1) (T := TX1) (N := 5) hx hb htb wu_1 hown hK.1 hP 22 w_22 rfl 0 (by decide) (htb _ wFL_RX1_11) (fun _ h9 => h9) rfl dX1_keep_6 ?_
  refine lv_iconst (v := (0 : Int32)) hx hb dX1_keep_9 (by decide) ?_
  refine lv_aload_n hx hb dX1_keep_10 rfl (lv_at hl 0 rfl) ?_
  refine va_get (D := D) (ci := 1) (v := .ref (ad 23)) (C := RX1) (T := TX1) (N := 5) hx hb htb wu_1 hown hK.1 hP 22 w_22 rfl 0 (by decide) (htb _ wFL_RX1_11) (fun _ h9 => h9) rfl dX1_keep_11 ?_
  refine r_len (v := (9 : Int32)) hx hb hK hP 23 w_23 (by decide) dX1_keep_14 ?_
  obtain ⟨σ1, g1, h⟩ := ol h
  refine r_cpyC (A := AA ad) hx hb (hml.trans hl.1.symm) hown (htb _ wML_RX1_33) (htb _ wNA_arraycopyName) (htb _ wST_arraycopyName) (htb _ wI_RJ10) hK hd (fun _ hh => hh) hP hS 4 23 9 (by decide) (by decide) (fun _ => rfl) (fun _ => rfl) (by decide) (by decide) (by decide) (by decide) dX1_keep_15 (fun H locs hP hS => ?_)
  rw [g1] at hP
  refine lv_aload_n hx hb dX1_keep_18 rfl (lv_at hl 1 rfl) ?_
  refine va_getN (D := D) (ci := 0) (v := .ref (ad 5)) (C := RX0) (T := TX0) (N := 6) hx hb htb wu_0 hown hK.1 hP 1 w_1 rfl 3 (by decide) (va_Nw.use rfl (hK.2 _ wFN_RX1_39 rfl)) (fun _ h9 => h9) rfl dX1_keep_19 ?_
  refine lv_iconst (v := (0 : Int32)) hx hb dX1_keep_22 (by decide) ?_
  refine lv_aload_n hx hb dX1_keep_23 rfl (lv_at hl 0 rfl) ?_
  refine va_get (D := D) (ci := 1) (v := .ref (ad 24)) (C := RX1) (T := TX1) (N := 5) hx hb htb wu_1 hown hK.1 hP 22 w_22 rfl 1 (by decide) (htb _ wFL_RX1_17) (fun _ h9 => h9) rfl dX1_keep_24 ?_
  refine lv_iconst (v := (0 : Int32)) hx hb dX1_keep_27 (by decide) ?_
  refine lv_aload_n hx hb dX1_keep_28 rfl (lv_at hl 0 rfl) ?_
  refine va_get (D := D) (ci := 1) (v := .ref (ad 24)) (C := RX1) (T := TX1) (N := 5) hx hb htb wu_1 hown hK.1 hP 22 w_22 rfl 1 (by decide) (htb _ wFL_RX1_17) (fun _ h9 => h9) rfl dX1_keep_29 ?_
  refine r_len (v := (72 : Int32)) hx hb hK hP 24 w_24 (by decide) dX1_keep_32 ?_
  obtain ⟨σ2, g2, h⟩ := ol h
  refine r_cpyC (A := AA ad) hx hb (hml.trans hl.1.symm) hown (htb _ wML_RX1_33) (htb _ wNA_arraycopyName) (htb _ wST_arraycopyName) (htb _ wI_RJ10) hK hd (fun _ hh => hh) hP hS 5 24 72 (by decide) (by decide) (fun _ => rfl) (fun _ => rfl) (by decide) (by decide) (by decide) (by decide) dX1_keep_33 (fun H locs hP hS => ?_)
  rw [g2] at hP
  refine lv_aload_n hx hb dX1_keep_36 rfl (lv_at hl 2 rfl) ?_
  refine va_getN (D := D) (ci := 4) (v := .ref (ad 21)) (C := RX4) (T := TX4) (N := 4) hx hb htb wu_4 hown hK.1 hP 18 w_18 rfl 2 (by decide) (va_Nw.use rfl (hK.2 _ wFN_RX1_40 rfl)) (fun _ h9 => h9) rfl dX1_keep_37 ?_
  refine lv_iconst (v := (0 : Int32)) hx hb dX1_keep_40 (by decide) ?_
  refine lv_aload_n hx hb dX1_keep_41 rfl (lv_at hl 0 rfl) ?_
  refine va_get (D := D) (ci := 1) (v := .ref (ad 25)) (C := RX1) (T := TX1) (N := 5) hx hb htb wu_1 hown hK.1 hP 22 w_22 rfl 2 (by decide) (htb _ wFL_RX1_22) (fun _ h9 => h9) rfl dX1_keep_42 ?_
  refine lv_iconst (v := (0 : Int32)) hx hb dX1_keep_45 (by decide) ?_
  refine lv_aload_n hx hb dX1_keep_46 rfl (lv_at hl 0 rfl) ?_
  refine va_get (D := D) (ci := 1) (v := .ref (ad 25)) (C := RX1) (T := TX1) (N := 5) hx hb htb wu_1 hown hK.1 hP 22 w_22 rfl 2 (by decide) (htb _ wFL_RX1_22) (fun _ h9 => h9) rfl dX1_keep_47 ?_
  refine r_len (v := (8 : Int32)) hx hb hK hP 25 w_25 (by decide) dX1_keep_50 ?_
  obtain ⟨σ3, g3, h⟩ := ol h
  refine r_cpyC (A := AA ad) hx hb (hml.trans hl.1.symm) hown (htb _ wML_RX1_33) (htb _ wNA_arraycopyName) (htb _ wST_arraycopyName) (htb _ wI_RJ10) hK hd (fun _ hh => hh) hP hS 21 25 8 (by decide) (by decide) (fun _ => rfl) (fun _ => rfl) (by decide) (by decide) (by decide) (by decide) dX1_keep_51 (fun H locs hP hS => ?_)
  rw [g3] at hP
  refine lv_aload_n hx hb dX1_keep_54 rfl (lv_at hl 0 rfl) ?_
  refine lv_aload_n hx hb dX1_keep_55 rfl (lv_at hl 1 rfl) ?_
  obtain ⟨v4, g4, h⟩ := ol h
  refine c_Vi (q := (RX0, TX0, 6)) (ci := 0) (b := 1) (As := []) (rest := [.ref (ad 22)]) (A := AA ad) ⟨hx, hb, hml, hown, htb⟩ (c_X0_size l D ad cI hd σ3 τ η  v4 g4) (cwV 0 htb (gdV (fun _ hh => hh) wML_RX1_41 wIM_yX0_size wSE_yX0_size wI_RX0 wC_yX0_size) rfl rfl rfl hd_X0_size ⟨by decide, by decide⟩) hK hP rfl w_1 (fun _ hh => hh) hS rfl hl.1 rfl (Nat.le_of_ble_eq_true rfl) dX1_keep_56 ⟨Nat.le_refl 0, Nat.le_refl 0⟩ (fun H locs hP hS => ?_)
  obtain ⟨σ5, g5, h⟩ := ol h
  refine r_putC (ci := 1) (C := RX1) (T := TX1) (N := 5) (A := AA ad) hx hb htb wu_1 tyX1 tyX1_ok nmX1 hown hK hd (fun _ hh => hh) hP hS 22 (by decide) 3 rfl rfl rfl (by decide) (htb _ wFL_RX1_25) rfl rfl (by decide +kernel) (Nat.le_of_ble_eq_true rfl) dX1_keep_59 (fun H locs hP hS => ?_)
  rw [g5] at hP
  refine lv_aload_n hx hb dX1_keep_62 rfl (lv_at hl 0 rfl) ?_
  refine lv_aload_n hx hb dX1_keep_63 rfl (lv_at hl 2 rfl) ?_
  obtain ⟨v6, g6, h⟩ := ol h
  refine c_Vi (q := (RX4, TX4, 4)) (ci := 4) (b := 18) (As := []) (rest := [.ref (ad 22)]) (A := AA ad) ⟨hx, hb, hml, hown, htb⟩ (c_X4_size l D ad cI hd σ5 τ η  v6 g6) (cwV 0 htb (gdV (fun _ hh => hh) wML_RX1_45 wIM_yX4_size wSE_yX4_size wI_RX4 wC_yX4_size) rfl rfl rfl hd_X4_size ⟨by decide, by decide⟩) hK hP rfl w_18 (fun _ hh => hh) hS rfl hl.1 rfl (Nat.le_of_ble_eq_true rfl) dX1_keep_64 ⟨Nat.le_refl 0, Nat.le_refl 0⟩ (fun H locs hP hS => ?_)
  obtain ⟨σ7, g7, h⟩ := ol h
  refine r_putC (ci := 1) (C := RX1) (T := TX1) (N := 5) (A := AA ad) hx hb htb wu_1 tyX1 tyX1_ok nmX1 hown hK hd (fun _ hh => hh) hP hS 22 (by decide) 4 rfl rfl rfl (by decide) (htb _ wFL_RX1_29) rfl rfl (by decide +kernel) (Nat.le_of_ble_eq_true rfl) dX1_keep_67 (fun H locs hP hS => ?_)
  rw [g7] at hP
  subst h
  exact ret _ _ _ _ dX1_keep_70 hP hS
def X6_howManyOn (σ : St) (x1 : Int32) : Option (Int32) :=
  bd (X6_on σ x1) fun v1 =>
  lt (J6_bitCount_0f7a4  v1) fun v2 =>
  some v2
abbrev rmX6_howManyOn : Room := { frames := 1, cells := 0, slots := 0, locals := 21 }
set_option maxHeartbeats 4000000 in
set_option maxRecDepth 100000 in
theorem c_X6_howManyOn (l : Launch) (D : va_G) (ad : Nat → Nat) (cI : ClassId) (hd : HD ad) (σ τ : St) (η : Int64) (x1 : Int32) (rr : Int32) (h : X6_howManyOn σ x1 = some rr) : MI l yX6_howManyOn (wy yX6_howManyOn cX6_howManyOn 2 (some .int)) rmX6_howManyOn D ad cI [.ref (ad 6), .int x1] σ τ η rr σ τ η := by
  refine mk_i (own := RX6) (lv := [(0, .ref (ad 6)), (1, .int x1)]) (plainFor_of_name (by decide)) rfl (Nat.le_of_ble_eq_true rfl) rfl ?_
  intro p e s m args below meth c Q ls hx hb hml hown htb hK ret hP hS hl
  unfold X6_howManyOn at h
  refine lv_aload_n hx hb dX6_howManyOn_0 rfl (lv_at hl 0 rfl) ?_
  refine lv_iload_n hx hb dX6_howManyOn_1 rfl (lv_at hl 1 rfl) ?_
  obtain ⟨v1, g1, h⟩ := ob h
  refine c_Vi (q := (RX6, TX6, 1)) (ci := 6) (b := 6) (As := [.int x1]) (rest := []) (A := AA ad) ⟨hx, hb, hml, hown, htb⟩ (c_X6_on l D ad cI hd σ τ η x1 v1 g1) (cwV 1 htb (gdV (fun _ hh => hh) wML_RX6_36 wIM_yX6_on wSE_yX6_on wI_RX6 wC_yX6_on) rfl rfl rfl hd_X6_on ⟨by decide, by decide⟩) hK hP rfl w_6 (fun _ hh => hh) hS rfl hl.1 rfl (Nat.le_of_ble_eq_true rfl) dX6_howManyOn_2 ⟨Nat.le_refl 0, Nat.le_refl 0⟩ (fun H locs hP hS => ?_)
  obtain ⟨v2, g2, h⟩ := ol h
  refine c_Si (As := [.int v1]) (rest := []) (A := AA ad) ⟨hx, hb, hml, hown, htb⟩ (c_J6_bitCount_0f7a4 l D ad cI hd σ τ η v1 v2 g2) (va_cwS 1 htb (gdS (fun _ hh => hh) wML_RX6_40 wST_yJ6_bitCount_0f7a4 wI_RJ6 wC_yJ6_bitCount_0f7a4) rfl rfl rfl hd_J6_bitCount_0f7a4.2 ⟨by decide, by decide⟩) hK hP (fun _ hh => hh) hS rfl hl.1 rfl (Nat.le_of_ble_eq_true rfl) dX6_howManyOn_5 ⟨Nat.le_refl 0, Nat.le_refl 0⟩ (fun H locs hP hS => ?_)
  obtain rfl := Option.some.inj h
  exact ret _ _ _ _ _ dX6_howManyOn_8 hP hS rfl
def X7_image (σ : St)  : Option (Int32 × St) :=
  lt (X1_keep σ ) fun v1 =>
  bd (X6_howManyOn v1 (9 : Int32)) fun v2 =>
  some (v2, v1)
abbrev rmX7_image : Room := { frames := 2, cells := 0, slots := 0, locals := 82 }
set_option maxHeartbeats 4000000 in
set_option maxRecDepth 100000 in
theorem c_X7_image (l : Launch) (D : va_G) (ad : Nat → Nat) (cI : ClassId) (hd : HD ad) (σ τ : St) (η : Int64)  (rr : Int32 × St) (h : X7_image σ  = some rr) : MI l yX7_image (wy yX7_image cX7_image 1 (some .int)) rmX7_image D ad cI [.ref (ad 0)] σ τ η rr.1 rr.2 τ η := by
  refine mk_i (own := RX7) (lv := [(0, .ref (ad 0))]) (plainFor_of_name (by decide)) rfl (Nat.le_of_ble_eq_true rfl) rfl ?_
  intro p e s m args below meth c Q ls hx hb hml hown htb hK ret hP hS hl
  unfold X7_image at h
  refine lv_aload_n hx hb dX7_image_0 rfl (lv_at hl 0 rfl) ?_
  refine va_get (D := D) (ci := 7) (v := .ref (ad 22)) (C := RX7) (T := TX7) (N := 11) hx hb htb wu_7 hown hK.1 hP 0 w_0 rfl 6 (by decide) (htb _ wFL_RX7_54) (fun _ h9 => h9) rfl dX7_image_1 ?_
  refine lv_aload_n hx hb dX7_image_4 rfl (lv_at hl 0 rfl) ?_
  refine va_get (D := D) (ci := 7) (v := .ref (ad 1)) (C := RX7) (T := TX7) (N := 11) hx hb htb wu_7 hown hK.1 hP 0 w_0 rfl 0 (by decide) (htb _ wFL_RX7_10) (fun _ h9 => h9) rfl dX7_image_5 ?_
  refine lv_aload_n hx hb dX7_image_8 rfl (lv_at hl 0 rfl) ?_
  refine va_get (D := D) (ci := 7) (v := .ref (ad 18)) (C := RX7) (T := TX7) (N := 11) hx hb htb wu_7 hown hK.1 hP 0 w_0 rfl 5 (by decide) (htb _ wFL_RX7_47) (fun _ h9 => h9) rfl dX7_image_9 ?_
  obtain ⟨v1, g1, h⟩ := ol h
  refine c_Vv (q := (RX1, TX1, 5)) (ci := 1) (b := 22) (As := [.ref (ad 1), .ref (ad 18)]) (rest := []) (A := AA ad) ⟨hx, hb, hml, hown, htb⟩ (c_X1_keep l D ad cI hd σ τ η  v1 g1) (cwV 2 htb (gdV (fun _ hh => hh) wML_RX7_282 wIM_yX1_keep wSE_yX1_keep wI_RX1 wC_yX1_keep) rfl rfl rfl hd_X1_keep ⟨by decide, by decide⟩) hK hP rfl w_22 (fun _ hh => hh) hS rfl hl.1 rfl (Nat.le_of_ble_eq_true rfl) dX7_image_12 ⟨Nat.le_refl 0, Nat.le_refl 0⟩ (fun H locs hP hS => ?_)
  refine lv_aload_n hx hb dX7_image_15 rfl (lv_at hl 0 rfl) ?_
  refine va_get (D := D) (ci := 7) (v := .ref (ad 6)) (C := RX7) (T := TX7) (N := 11) hx hb htb wu_7 hown hK.1 hP 0 w_0 rfl 1 (by decide) (htb _ wFL_RX7_19) (fun _ h9 => h9) rfl dX7_image_16 ?_
  refine lv_bipush (v := (9 : Int32)) hx hb dX7_image_19 (by decide) ?_
  obtain ⟨v2, g2, h⟩ := ob h
  refine c_Vi (q := (RX6, TX6, 1)) (ci := 6) (b := 6) (As := [.int (9 : Int32)]) (rest := []) (A := AA ad) ⟨hx, hb, hml, hown, htb⟩ (c_X6_howManyOn l D ad cI hd v1 τ η (9 : Int32) v2 g2) (cwV 1 htb (gdV (fun _ hh => hh) wML_RX7_286 wIM_yX6_howManyOn wSE_yX6_howManyOn wI_RX6 wC_yX6_howManyOn) rfl rfl rfl hd_X6_howManyOn ⟨by decide, by decide⟩) hK hP rfl w_6 (fun _ hh => hh) hS rfl hl.1 rfl (Nat.le_of_ble_eq_true rfl) dX7_image_21 ⟨Nat.le_refl 0, Nat.le_refl 0⟩ (fun H locs hP hS => ?_)
  obtain rfl := Option.some.inj h
  exact ret _ _ _ _ _ dX7_image_24 hP hS rfl
def X8_knowMany_L1 (n : Nat) (τ_1 : St) (y1_1 : Int32) (y1_2 : Int32) : Option (Int32 × Int32) := match n with
  | 0 => none
  | n + 1 =>
    if (τ_1 29 0) ≤ y1_2 then (
      some (y1_1, y1_2))
    else (
      bd (rd (τ_1 34) 9 y1_2) fun v4 =>
      lt ((
          if (10 : Int32) ≤ v4 then (
            (0 : Int32))
          else (
            (1 : Int32))) : Int32) fun v6 =>
      X8_knowMany_L1 n τ_1 (y1_1 + v6) (y1_2 + (1 : Int32)))
theorem X8_knowMany_L1_s (n : Nat) (τ_1 : St) (y1_1 : Int32) (y1_2 : Int32) : X8_knowMany_L1 (n + 1) τ_1 y1_1 y1_2 =
    if (τ_1 29 0) ≤ y1_2 then (
      some (y1_1, y1_2))
    else (
      bd (rd (τ_1 34) 9 y1_2) fun v4 =>
      lt ((
          if (10 : Int32) ≤ v4 then (
            (0 : Int32))
          else (
            (1 : Int32))) : Int32) fun v6 =>
      X8_knowMany_L1 n τ_1 (y1_1 + v6) (y1_2 + (1 : Int32))) := rfl
def X8_knowMany (τ : St)  : Option (Int32 × St) :=
  bd (X8_reckon τ ) fun v1 =>
  bd (X8_knowMany_L1 10000 v1 (0 : Int32) (0 : Int32)) fun v2 =>
  some (v2.1, v1)
abbrev rmX8_knowMany : Room := { frames := 3, cells := 0, slots := 0, locals := 68 }
set_option maxHeartbeats 4000000 in
set_option maxRecDepth 100000 in
theorem c_X8_knowMany (l : Launch) (D : va_G) (ad : Nat → Nat) (cI : ClassId) (hd : HD ad) (σ τ : St) (η : Int64)  (rr : Int32 × St) (h : X8_knowMany τ  = some rr) : MI l yX8_knowMany (wy yX8_knowMany cX8_knowMany 3 (some .int)) rmX8_knowMany D ad cI [.ref (ad 29)] σ τ η rr.1 σ rr.2 η := by
  refine mk_i (own := RX8) (lv := [(0, .ref (ad 29))]) (plainFor_of_name (by decide)) rfl (Nat.le_of_ble_eq_true rfl) rfl ?_
  intro p e s m args below meth c Q ls hx hb hml hown htb hK ret hP hS hl
  unfold X8_knowMany at h
  refine lv_aload_n hx hb dX8_knowMany_0 rfl (lv_at hl 0 rfl) ?_
  obtain ⟨v1, g1, h⟩ := ob h
  refine c_Vv (q := (RX8, TX8, 27)) (ci := 8) (b := 29) (As := []) (rest := []) (A := AA ad) ⟨hx, hb, hml, hown, htb⟩ (c_X8_reckon l D ad cI hd σ τ η  v1 g1) (cwV 0 htb (gdV (fun _ hh => hh) wML_RX8_85 wIM_yX8_reckon wSE_yX8_reckon wI_RX8 wC_yX8_reckon) rfl rfl rfl hd_X8_reckon ⟨by decide, by decide⟩) hK hP rfl w_29 (fun _ hh => hh) hS rfl hl.1 rfl (Nat.le_of_ble_eq_true rfl) dX8_knowMany_1 ⟨Nat.le_refl 0, Nat.le_refl 0⟩ (fun H locs hP hS => ?_)
  refine lv_iconst (v := (0 : Int32)) hx hb dX8_knowMany_4 (by decide) ?_
  refine lv_istore_n (lv' := [(1, .int (0 : Int32)), (0, .ref (ad 29))]) hx hb dX8_knowMany_5 rfl hl (by decide) rfl (fun ls hl => ?_)
  refine lv_iconst (v := (0 : Int32)) hx hb dX8_knowMany_6 (by decide) ?_
  refine lv_istore_n (lv' := [(2, .int (0 : Int32)), (1, .int (0 : Int32)), (0, .ref (ad 29))]) hx hb dX8_knowMany_7 rfl hl (by decide) rfl (fun ls hl => ?_)
  obtain ⟨v2, hj2, h⟩ := ob h
  have K1 : ∀ (H : Heap) (locs : List Loc) (ls : Array Slot), WP D ad cI σ v1 η H → va_S (AA ad) s.heap H locs → lv_has ls 3 [(1, .int v2.1)] → W p l e rmX8_knowMany s m args below meth c H locs 0 0 Q (F0 m 41 ls []) := by
    intro H locs ls hP hS hl
    refine lv_iload_n hx hb dX8_knowMany_41 rfl (lv_at hl 0 rfl) ?_
    obtain rfl := Option.some.inj h
    exact ret _ _ _ _ _ dX8_knowMany_42 hP hS rfl
  have L1 : ∀ (n : Nat) (y1_1 : Int32) (y1_2 : Int32) (H : Heap) (locs : List Loc) (ls : Array Slot), X8_knowMany_L1 n v1 y1_1 y1_2 = some v2 → WP D ad cI σ v1 η H → va_S (AA ad) s.heap H locs → lv_has ls 3 [(0, .ref (ad 29)), (1, .int y1_1), (2, .int y1_2)] → W p l e rmX8_knowMany s m args below meth c H locs 0 0 Q (F0 m 8 ls []) := by
    intro n
    induction n with
    | zero => intro y1_1 y1_2 H locs ls h; exact absurd h (by simp [X8_knowMany_L1])
    | succ n ih =>
      intro y1_1 y1_2 H locs ls h hP hS hl
      replace h := (X8_knowMany_L1_s n v1 y1_1 y1_2).symm.trans h
      refine lv_iload_n hx hb dX8_knowMany_8 rfl (lv_at hl 2 rfl) ?_
      refine lv_aload_n hx hb dX8_knowMany_9 rfl (lv_at hl 0 rfl) ?_
      refine va_get (D := D) (ci := 8) (v := .int (v1 29 0)) (C := RX8) (T := TX8) (N := 27) hx hb htb wu_8 hown hK.1 hP 29 w_29 rfl 0 (by decide) (htb _ wFL_RX8_62) (fun _ h9 => h9) rfl dX8_knowMany_10 ?_
      refine lv_icmp_ge (tgt := 41) hx hb dX8_knowMany_13 (by decide) (fun c3 => ?_) (fun c3 => ?_)
      · replace h := ip c3 h
        obtain rfl := Option.some.inj h
        exact K1 _ _ _ hP hS (lv_sub hl [1] rfl)
      · replace h := iq c3 h
        refine lv_iload_n hx hb dX8_knowMany_16 rfl (lv_at hl 1 rfl) ?_
        refine lv_aload_n hx hb dX8_knowMany_17 rfl (lv_at hl 0 rfl) ?_
        refine va_get (D := D) (ci := 8) (v := .ref (ad 34)) (C := RX8) (T := TX8) (N := 27) hx hb htb wu_8 hown hK.1 hP 29 w_29 rfl 5 (by decide) (htb _ wFL_RX8_22) (fun _ h9 => h9) rfl dX8_knowMany_18 ?_
        refine lv_iload_n hx hb dX8_knowMany_21 rfl (lv_at hl 2 rfl) ?_
        obtain ⟨v4, g4, h⟩ := ob h
        refine r_ald hx hb hK hP 34 w_34 g4 dX8_knowMany_22 ?_
        refine lv_bipush (v := (10 : Int32)) hx hb dX8_knowMany_23 (by decide) ?_
        obtain ⟨v6, hj6, h⟩ := ol h
        have J6 : ∀ (H : Heap) (locs : List Loc) (ls : Array Slot), WP D ad cI σ v1 η H → va_S (AA ad) s.heap H locs → lv_has ls 3 [(0, .ref (ad 29)), (2, .int y1_2)] → W p l e rmX8_knowMany s m args below meth c H locs 0 0 Q (F0 m 33 ls [.int v6, .int y1_1]) := by
          intro H locs ls hP hS hl
          refine lv_iadd hx hb dX8_knowMany_33 ?_
          refine lv_istore_n (lv' := [(1, .int (y1_1 + v6)), (0, .ref (ad 29)), (2, .int y1_2)]) hx hb dX8_knowMany_34 rfl hl (by decide) rfl (fun ls hl => ?_)
          refine lv_iinc (v := (y1_2 + (1 : Int32))) (lv' := [(2, .int (y1_2 + (1 : Int32))), (1, .int (y1_1 + v6)), (0, .ref (ad 29))]) hx hb dX8_knowMany_35 hl (k := 2) rfl rfl (by decide) rfl (fun ls hl => ?_)
          refine lv_goto (tgt := 8) hx hb dX8_knowMany_38 (by decide) ?_
          exact ih (y1_1 + v6) (y1_2 + (1 : Int32)) _ _ _ h hP hS (lv_sub hl [2, 1, 0] rfl)
        replace h := hj6
        refine lv_icmp_ge (tgt := 32) hx hb dX8_knowMany_25 (by decide) (fun c5 => ?_) (fun c5 => ?_)
        · replace h := ip c5 h
          refine lv_iconst (v := (0 : Int32)) hx hb dX8_knowMany_32 (by decide) ?_
          subst h
          exact J6 _ _ _ hP hS (lv_sub hl [0, 2] rfl)
        · replace h := iq c5 h
          refine lv_iconst (v := (1 : Int32)) hx hb dX8_knowMany_28 (by decide) ?_
          refine lv_goto (tgt := 33) hx hb dX8_knowMany_29 (by decide) ?_
          subst h
          exact J6 _ _ _ hP hS (lv_sub hl [0, 2] rfl)
  exact L1 10000 (0 : Int32) (0 : Int32) _ _ _ hj2 hP hS (lv_sub hl [2, 1, 0] rfl)
