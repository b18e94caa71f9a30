def X8_isGuest (τ : St) (x1 : Int32) : Int32 :=
  lt (X8_in  ((x1).toInt64) (0 : Int64) ((((τ 29 0) - (1 : Int32))).toInt64)) fun v1 =>
  v1
abbrev rmX8_isGuest : Room := { frames := 1, cells := 0, slots := 0, locals := 25 }
set_option maxHeartbeats 4000000 in
set_option maxRecDepth 100000 in
theorem c_X8_isGuest (l : Launch) (D : va_G) (ad : Nat → Nat) (cI : ClassId) (hd : HD ad) (σ τ : St) (η : Int64) (x1 : Int32) (rr : Int32) (h : X8_isGuest τ x1 = rr) : MZ l yX8_isGuest (wy yX8_isGuest cX8_isGuest 2 (some .boolean)) rmX8_isGuest D ad cI [.ref (ad 29), .int x1] σ τ η rr σ τ η := by
  refine mk_z (own := RX8) (lv := [(0, .ref (ad 29)), (1, .int x1)]) (plainFor_of_name (by decide)) rfl (Nat.le_of_ble_eq_true rfl) rfl ?_
  intro p e s m args below meth c Q ls hx hb hml hown htb hK ret hP hS hl
  unfold X8_isGuest at h
  refine lv_iload_n hx hb dX8_isGuest_0 rfl (lv_at hl 1 rfl) ?_
  refine lv_i2l (v := ((x1).toInt64)) hx hb dX8_isGuest_1 rfl ?_
  refine lv_lconst (v := (0 : Int64)) hx hb dX8_isGuest_2 rfl ?_
  refine lv_aload_n hx hb dX8_isGuest_3 rfl (lv_at hl 0 rfl) ?_
  refine va_get (D := D) (ci := 8) (v := .int (τ 29 0)) (C := RX8) (T := TX8) (N := 27) hx hb htb wu_8 hown hK.1 hP 29 w_29 rfl 0 (by decide) (htb _ wFL_RX8_62) (fun _ h9 => h9) rfl dX8_isGuest_4 ?_
  refine lv_iconst (v := (1 : Int32)) hx hb dX8_isGuest_7 (by decide) ?_
  refine lv_isub hx hb dX8_isGuest_8 ?_
  refine lv_i2l (v := ((((τ 29 0) - (1 : Int32))).toInt64)) hx hb dX8_isGuest_9 rfl ?_
  obtain ⟨v1, g1, h⟩ := ol h
  refine c_Sz (As := [.long ((x1).toInt64), .long (0 : Int64), .long ((((τ 29 0) - (1 : Int32))).toInt64)]) (rest := []) (A := AA ad) ⟨hx, hb, hml, hown, htb⟩ (c_X8_in l D ad cI hd σ τ η ((x1).toInt64) (0 : Int64) ((((τ 29 0) - (1 : Int32))).toInt64) v1 g1) (va_cwS 3 htb (gdS (fun _ hh => hh) wML_RX8_65 wST_yX8_in wI_RX8 wC_yX8_in) rfl rfl rfl hd_X8_in.2 ⟨by decide, by decide⟩) hK hP (fun _ hh => hh) hS rfl hl.1 rfl (Nat.le_of_ble_eq_true rfl) dX8_isGuest_10 ⟨Nat.le_refl 0, Nat.le_refl 0⟩ (fun H locs hz1 hP hS => ?_)
  subst h
  exact ret _ _ _ _ _ dX8_isGuest_13 hP hS rfl (by first | exact Or.inl rfl | exact Or.inr rfl | assumption)
def X8_spread_L3 (n : Nat) (τ_3 : St) (u3_1 : Int32) (u3_2 : Int32) (u3_3 : Int32) (u3_4 : Int32) (y3_5 : Int32) : Option (Int32 × St) := match n with
  | 0 => none
  | n + 1 =>
    if (τ_3 29 0) ≤ y3_5 then (
      some (y3_5, τ_3))
    else (
      if u3_4 = 0 then (
        some (y3_5, τ_3))
      else (
        bd (rd (τ_3 33) 81 (((9 : Int32) * u3_3) + y3_5)) fun v14 =>
        lt ((
            if ((ishr v14 u3_2) &&& (1 : Int32)) = (1 : Int32) then (
              (1 : Int32))
            else (
              (0 : Int32))) : Int32) fun v16 =>
        bd ((
            if v16 = 0 then (
              bd (rd (τ_3 34) 9 y3_5) fun v19 =>
              some v19)
            else (
              bd (rd (τ_3 34) 9 y3_5) fun v20 =>
              if v20 ≤ (u3_2 + (1 : Int32)) then (
                bd (rd (τ_3 34) 9 y3_5) fun v22 =>
                some v22)
              else (
                some (u3_2 + (1 : Int32))))) : Option (Int32)) fun v18 =>
        bd (wa τ_3 34 9 y3_5 v18) fun τ23 =>
        X8_spread_L3 n τ23 u3_1 u3_2 u3_3 u3_4 (y3_5 + (1 : Int32))))
theorem X8_spread_L3_s (n : Nat) (τ_3 : St) (u3_1 : Int32) (u3_2 : Int32) (u3_3 : Int32) (u3_4 : Int32) (y3_5 : Int32) : X8_spread_L3 (n + 1) τ_3 u3_1 u3_2 u3_3 u3_4 y3_5 =
    if (τ_3 29 0) ≤ y3_5 then (
      some (y3_5, τ_3))
    else (
      if u3_4 = 0 then (
        some (y3_5, τ_3))
      else (
        bd (rd (τ_3 33) 81 (((9 : Int32) * u3_3) + y3_5)) fun v14 =>
        lt ((
            if ((ishr v14 u3_2) &&& (1 : Int32)) = (1 : Int32) then (
              (1 : Int32))
            else (
              (0 : Int32))) : Int32) fun v16 =>
        bd ((
            if v16 = 0 then (
              bd (rd (τ_3 34) 9 y3_5) fun v19 =>
              some v19)
            else (
              bd (rd (τ_3 34) 9 y3_5) fun v20 =>
              if v20 ≤ (u3_2 + (1 : Int32)) then (
                bd (rd (τ_3 34) 9 y3_5) fun v22 =>
                some v22)
              else (
                some (u3_2 + (1 : Int32))))) : Option (Int32)) fun v18 =>
        bd (wa τ_3 34 9 y3_5 v18) fun τ23 =>
        X8_spread_L3 n τ23 u3_1 u3_2 u3_3 u3_4 (y3_5 + (1 : Int32)))) := rfl
def X8_spread_L2 (n : Nat) (τ_2 : St) (u2_1 : Int32) (u2_2 : Int32) (y2_3 : Int32) : Option (Int32 × St) := match n with
  | 0 => none
  | n + 1 =>
    if (τ_2 29 0) ≤ y2_3 then (
      some (y2_3, τ_2))
    else (
      bd (rd (τ_2 34) 9 y2_3) fun v5 =>
      bd ((
          if u2_2 < v5 then (
            some (0 : Int32))
          else (
            if u2_1 = 0 then (
              bd (rd (τ_2 30) 9 y2_3) fun v9 =>
              if v9 = (1 : Int32) then (
                some (1 : Int32))
              else (
                some (0 : Int32)))
            else (
              some (1 : Int32)))) : Option (Int32)) fun v7 =>
      bd (X8_spread_L3 10000 τ_2 u2_1 u2_2 y2_3 v7 (0 : Int32)) fun v11 =>
      X8_spread_L2 n v11.2 u2_1 u2_2 (y2_3 + (1 : Int32)))
theorem X8_spread_L2_s (n : Nat) (τ_2 : St) (u2_1 : Int32) (u2_2 : Int32) (y2_3 : Int32) : X8_spread_L2 (n + 1) τ_2 u2_1 u2_2 y2_3 =
    if (τ_2 29 0) ≤ y2_3 then (
      some (y2_3, τ_2))
    else (
      bd (rd (τ_2 34) 9 y2_3) fun v5 =>
      bd ((
          if u2_2 < v5 then (
            some (0 : Int32))
          else (
            if u2_1 = 0 then (
              bd (rd (τ_2 30) 9 y2_3) fun v9 =>
              if v9 = (1 : Int32) then (
                some (1 : Int32))
              else (
                some (0 : Int32)))
            else (
              some (1 : Int32)))) : Option (Int32)) fun v7 =>
      bd (X8_spread_L3 10000 τ_2 u2_1 u2_2 y2_3 v7 (0 : Int32)) fun v11 =>
      X8_spread_L2 n v11.2 u2_1 u2_2 (y2_3 + (1 : Int32))) := rfl
def X8_spread_L1 (n : Nat) (τ_1 : St) (u1_1 : Int32) (y1_2 : Int32) : Option (Int32 × St) := match n with
  | 0 => none
  | n + 1 =>
    if (9 : Int32) ≤ y1_2 then (
      some (y1_2, τ_1))
    else (
      bd (X8_spread_L2 10000 τ_1 u1_1 y1_2 (0 : Int32)) fun v3 =>
      X8_spread_L1 n v3.2 u1_1 (y1_2 + (1 : Int32)))
theorem X8_spread_L1_s (n : Nat) (τ_1 : St) (u1_1 : Int32) (y1_2 : Int32) : X8_spread_L1 (n + 1) τ_1 u1_1 y1_2 =
    if (9 : Int32) ≤ y1_2 then (
      some (y1_2, τ_1))
    else (
      bd (X8_spread_L2 10000 τ_1 u1_1 y1_2 (0 : Int32)) fun v3 =>
      X8_spread_L1 n v3.2 u1_1 (y1_2 + (1 : Int32))) := rfl
def X8_spread (τ : St) (x1 : Int32) : Option (St) :=
  bd (X8_spread_L1 10000 τ x1 (1 : Int32)) fun v1 =>
  some v1.2
abbrev rmX8_spread : Room := { frames := 0, cells := 0, slots := 0, locals := 0 }
set_option maxHeartbeats 4000000 in
set_option maxRecDepth 100000 in
theorem c_X8_spread (l : Launch) (D : va_G) (ad : Nat → Nat) (cI : ClassId) (hd : HD ad) (σ τ : St) (η : Int64) (x1 : Int32) (rr : St) (h : X8_spread τ x1 = some rr) : MV l yX8_spread (wy yX8_spread cX8_spread 7 none) rmX8_spread D ad cI [.ref (ad 29), .int x1] σ τ η σ rr η := by
  refine mk_v (own := RX8) (lv := [(0, .ref (ad 29)), (1, .int x1)]) (plainFor_of_name (by decide)) rfl (Nat.le_of_ble_eq_true rfl) rfl ?_
  intro p e s m args below meth c Q ls hx hb hml hown htb hK ret hP hS hl
  unfold X8_spread at h
  refine lv_iconst (v := (1 : Int32)) hx hb dX8_spread_0 (by decide) ?_
  refine lv_istore_n (lv' := [(2, .int (1 : Int32)), (0, .ref (ad 29)), (1, .int x1)]) hx hb dX8_spread_1 rfl hl (by decide) rfl (fun ls hl => ?_)
  obtain ⟨v1, hj1, h⟩ := ob h
  have K1 : ∀ (H : Heap) (locs : List Loc) (ls : Array Slot), WP D ad cI σ v1.2 η H → va_S (AA ad) s.heap H locs → lv_has ls 7 [] → W p l e rmX8_spread s m args below meth c H locs 0 0 Q (F0 m 149 ls []) := by
    intro H locs ls hP hS hl
    obtain rfl := Option.some.inj h
    exact ret _ _ _ _ dX8_spread_149 hP hS
  have L1 : ∀ (n : Nat) (τ_1 : St) (y1_2 : Int32) (H : Heap) (locs : List Loc) (ls : Array Slot), X8_spread_L1 n τ_1 x1 y1_2 = some v1 → WP D ad cI σ τ_1 η H → va_S (AA ad) s.heap H locs → lv_has ls 7 [(0, .ref (ad 29)), (1, .int x1), (2, .int y1_2)] → W p l e rmX8_spread s m args below meth c H locs 0 0 Q (F0 m 2 ls []) := by
    intro n
    induction n with
    | zero => intro τ_1 y1_2 H locs ls h; exact absurd h (by simp [X8_spread_L1])
    | succ n ih =>
      intro τ_1 y1_2 H locs ls h hP hS hl
      replace h := (X8_spread_L1_s n τ_1 x1 y1_2).symm.trans h
      refine lv_iload_n hx hb dX8_spread_2 rfl (lv_at hl 2 rfl) ?_
      refine lv_bipush (v := (9 : Int32)) hx hb dX8_spread_3 (by decide) ?_
      refine lv_icmp_ge (tgt := 149) hx hb dX8_spread_5 (by decide) (fun c2 => ?_) (fun c2 => ?_)
      · replace h := ip c2 h
        obtain rfl := Option.some.inj h
        exact K1 _ _ _ hP hS (lv_sub hl [] rfl)
      · replace h := iq c2 h
        refine lv_iconst (v := (0 : Int32)) hx hb dX8_spread_8 (by decide) ?_
        refine lv_istore_n (lv' := [(3, .int (0 : Int32)), (0, .ref (ad 29)), (1, .int x1), (2, .int y1_2)]) hx hb dX8_spread_9 rfl hl (by decide) rfl (fun ls hl => ?_)
        obtain ⟨v3, hj3, h⟩ := ob h
        have K2 : ∀ (H : Heap) (locs : List Loc) (ls : Array Slot), WP D ad cI σ v3.2 η H → va_S (AA ad) s.heap H locs → lv_has ls 7 [(0, .ref (ad 29)), (1, .int x1), (2, .int y1_2)] → W p l e rmX8_spread s m args below meth c H locs 0 0 Q (F0 m 143 ls []) := by
          intro H locs ls hP hS hl
          refine lv_iinc (v := (y1_2 + (1 : Int32))) (lv' := [(2, .int (y1_2 + (1 : Int32))), (0, .ref (ad 29)), (1, .int x1)]) hx hb dX8_spread_143 hl (k := 2) rfl rfl (by decide) rfl (fun ls hl => ?_)
          refine lv_goto (tgt := 2) hx hb dX8_spread_146 (by decide) ?_
          exact ih v3.2 (y1_2 + (1 : Int32)) _ _ _ h hP hS (lv_sub hl [1, 2, 0] rfl)
        have L2 : ∀ (n : Nat) (τ_2 : St) (y2_3 : Int32) (H : Heap) (locs : List Loc) (ls : Array Slot), X8_spread_L2 n τ_2 x1 y1_2 y2_3 = some v3 → WP D ad cI σ τ_2 η H → va_S (AA ad) s.heap H locs → lv_has ls 7 [(0, .ref (ad 29)), (1, .int x1), (2, .int y1_2), (3, .int y2_3)] → W p l e rmX8_spread s m args below meth c H locs 0 0 Q (F0 m 10 ls []) := by
          intro n
          induction n with
          | zero => intro τ_2 y2_3 H locs ls h; exact absurd h (by simp [X8_spread_L2])
          | succ n ih =>
            intro τ_2 y2_3 H locs ls h hP hS hl
            replace h := (X8_spread_L2_s n τ_2 x1 y1_2 y2_3).symm.trans h
            refine lv_iload_n hx hb dX8_spread_10 rfl (lv_at hl 3 rfl) ?_
            refine lv_aload_n hx hb dX8_spread_11 rfl (lv_at hl 0 rfl) ?_
            refine va_get (D := D) (ci := 8) (v := .int (τ_2 29 0)) (C := RX8) (T := TX8) (N := 27) hx hb htb wu_8 hown hK.1 hP 29 w_29 rfl 0 (by decide) (htb _ wFL_RX8_62) (fun _ h9 => h9) rfl dX8_spread_12 ?_
            refine lv_icmp_ge (tgt := 143) hx hb dX8_spread_15 (by decide) (fun c4 => ?_) (fun c4 => ?_)
            · replace h := ip c4 h
              obtain rfl := Option.some.inj h
              exact K2 _ _ _ hP hS (lv_sub hl [0, 1, 2] rfl)
            · replace h := iq c4 h
              refine lv_aload_n hx hb dX8_spread_18 rfl (lv_at hl 0 rfl) ?_
              refine va_get (D := D) (ci := 8) (v := .ref (ad 34)) (C := RX8) (T := TX8) (N := 27) hx hb htb wu_8 hown hK.1 hP 29 w_29 rfl 5 (by decide) (htb _ wFL_RX8_22) (fun _ h9 => h9) rfl dX8_spread_19 ?_
              refine lv_iload_n hx hb dX8_spread_22 rfl (lv_at hl 3 rfl) ?_
              obtain ⟨v5, g5, h⟩ := ob h
              refine r_ald hx hb hK hP 34 w_34 g5 dX8_spread_23 ?_
              refine lv_iload_n hx hb dX8_spread_24 rfl (lv_at hl 2 rfl) ?_
              obtain ⟨v7, hj7, h⟩ := ob h
              have J7 : ∀ (H : Heap) (locs : List Loc) (ls : Array Slot), WP D ad cI σ τ_2 η H → va_S (AA ad) s.heap H locs → lv_has ls 7 [(0, .ref (ad 29)), (1, .int x1), (2, .int y1_2), (3, .int y2_3)] → W p l e rmX8_spread s m args below meth c H locs 0 0 Q (F0 m 47 ls [.int v7]) := by
                intro H locs ls hP hS hl
                refine lv_istore (lv' := [(4, .int v7), (0, .ref (ad 29)), (1, .int x1), (2, .int y1_2), (3, .int y2_3)]) hx hb dX8_spread_47 hl (by decide) rfl (fun ls hl => ?_)
                refine lv_iconst (v := (0 : Int32)) hx hb dX8_spread_49 (by decide) ?_
                refine lv_istore (lv' := [(5, .int (0 : Int32)), (4, .int v7), (0, .ref (ad 29)), (1, .int x1), (2, .int y1_2), (3, .int y2_3)]) hx hb dX8_spread_50 hl (by decide) rfl (fun ls hl => ?_)
                obtain ⟨v11, hj11, h⟩ := ob h
                have K3 : ∀ (H : Heap) (locs : List Loc) (ls : Array Slot), WP D ad cI σ v11.2 η H → va_S (AA ad) s.heap H locs → lv_has ls 7 [(0, .ref (ad 29)), (1, .int x1), (2, .int y1_2), (3, .int y2_3)] → W p l e rmX8_spread s m args below meth c H locs 0 0 Q (F0 m 137 ls []) := by
                  intro H locs ls hP hS hl
                  refine lv_iinc (v := (y2_3 + (1 : Int32))) (lv' := [(3, .int (y2_3 + (1 : Int32))), (0, .ref (ad 29)), (1, .int x1), (2, .int y1_2)]) hx hb dX8_spread_137 hl (k := 3) rfl rfl (by decide) rfl (fun ls hl => ?_)
                  refine lv_goto (tgt := 10) hx hb dX8_spread_140 (by decide) ?_
                  exact ih v11.2 (y2_3 + (1 : Int32)) _ _ _ h hP hS (lv_sub hl [1, 2, 3, 0] rfl)
                have L3 : ∀ (n : Nat) (τ_3 : St) (y3_5 : Int32) (H : Heap) (locs : List Loc) (ls : Array Slot), X8_spread_L3 n τ_3 x1 y1_2 y2_3 v7 y3_5 = some v11 → WP D ad cI σ τ_3 η H → va_S (AA ad) s.heap H locs → lv_has ls 7 [(0, .ref (ad 29)), (1, .int x1), (2, .int y1_2), (3, .int y2_3), (4, .int v7), (5, .int y3_5)] → W p l e rmX8_spread s m args below meth c H locs 0 0 Q (F0 m 52 ls []) := by
                  intro n
                  induction n with
                  | zero => intro τ_3 y3_5 H locs ls h; exact absurd h (by simp [X8_spread_L3])
                  | succ n ih =>
                    intro τ_3 y3_5 H locs ls h hP hS hl
                    replace h := (X8_spread_L3_s n τ_3 x1 y1_2 y2_3 v7 y3_5).symm.trans h
                    refine lv_iload hx hb dX8_spread_52 (lv_at hl 5 rfl) ?_
                    refine lv_aload_n hx hb dX8_spread_54 rfl (lv_at hl 0 rfl) ?_
                    refine va_get (D := D) (ci := 8) (v := .int (τ_3 29 0)) (C := RX8) (T := TX8) (N := 27) hx hb htb wu_8 hown hK.1 hP 29 w_29 rfl 0 (by decide) (htb _ wFL_RX8_62) (fun _ h9 => h9) rfl dX8_spread_55 ?_
                    refine lv_icmp_ge (tgt := 137) hx hb dX8_spread_58 (by decide) (fun c12 => ?_) (fun c12 => ?_)
                    · replace h := ip c12 h
                      obtain rfl := Option.some.inj h
                      exact K3 _ _ _ hP hS (lv_sub hl [0, 1, 2, 3] rfl)
                    · replace h := iq c12 h
                      refine lv_iload hx hb dX8_spread_61 (lv_at hl 4 rfl) ?_
                      refine lv_if_eq (tgt := 137) hx hb dX8_spread_63 (by decide) (fun c13 => ?_) (fun c13 => ?_)
                      · replace h := ip c13 h
                        obtain rfl := Option.some.inj h
                        exact K3 _ _ _ hP hS (lv_sub hl [0, 1, 2, 3] rfl)
                      · replace h := iq c13 h
                        refine lv_aload_n hx hb dX8_spread_66 rfl (lv_at hl 0 rfl) ?_
                        refine va_get (D := D) (ci := 8) (v := .ref (ad 33)) (C := RX8) (T := TX8) (N := 27) hx hb htb wu_8 hown hK.1 hP 29 w_29 rfl 4 (by decide) (htb _ wFL_RX8_19) (fun _ h9 => h9) rfl dX8_spread_67 ?_
                        refine lv_bipush (v := (9 : Int32)) hx hb dX8_spread_70 (by decide) ?_
                        refine lv_iload_n hx hb dX8_spread_72 rfl (lv_at hl 3 rfl) ?_
                        refine lv_imul hx hb dX8_spread_73 ?_
                        refine lv_iload hx hb dX8_spread_74 (lv_at hl 5 rfl) ?_
                        refine lv_iadd hx hb dX8_spread_76 ?_
                        obtain ⟨v14, g14, h⟩ := ob h
                        refine r_ald hx hb hK hP 33 w_33 g14 dX8_spread_77 ?_
                        refine lv_iload_n hx hb dX8_spread_78 rfl (lv_at hl 2 rfl) ?_
                        refine lv_ishr hx hb dX8_spread_79 ?_
                        refine lv_iconst (v := (1 : Int32)) hx hb dX8_spread_80 (by decide) ?_
                        refine lv_iand hx hb dX8_spread_81 ?_
                        refine lv_iconst (v := (1 : Int32)) hx hb dX8_spread_82 (by decide) ?_
                        obtain ⟨v16, hj16, h⟩ := ol h
                        have J16 : ∀ (H : Heap) (locs : List Loc) (ls : Array Slot), WP D ad cI σ τ_3 η H → va_S (AA ad) s.heap H locs → lv_has ls 7 [(0, .ref (ad 29)), (1, .int x1), (2, .int y1_2), (3, .int y2_3), (4, .int v7), (5, .int y3_5)] → W p l e rmX8_spread s m args below meth c H locs 0 0 Q (F0 m 91 ls [.int v16]) := by
                          intro H locs ls hP hS hl
                          refine lv_istore (lv' := [(6, .int v16), (0, .ref (ad 29)), (1, .int x1), (2, .int y1_2), (3, .int y2_3), (4, .int v7), (5, .int y3_5)]) hx hb dX8_spread_91 hl (by decide) rfl (fun ls hl => ?_)
                          refine lv_aload_n hx hb dX8_spread_93 rfl (lv_at hl 1 rfl) ?_
                          refine va_get (D := D) (ci := 8) (v := .ref (ad 34)) (C := RX8) (T := TX8) (N := 27) hx hb htb wu_8 hown hK.1 hP 29 w_29 rfl 5 (by decide) (htb _ wFL_RX8_22) (fun _ h9 => h9) rfl dX8_spread_94 ?_
                          refine lv_iload hx hb dX8_spread_97 (lv_at hl 6 rfl) ?_
                          refine lv_iload hx hb dX8_spread_99 (lv_at hl 0 rfl) ?_
                          obtain ⟨v18, hj18, h⟩ := ob h
                          have J18 : ∀ (H : Heap) (locs : List Loc) (ls : Array Slot), WP D ad cI σ τ_3 η H → va_S (AA ad) s.heap H locs → lv_has ls 7 [(0, .ref (ad 29)), (1, .int x1), (2, .int y1_2), (3, .int y2_3), (4, .int v7), (5, .int y3_5)] → W p l e rmX8_spread s m args below meth c H locs 0 0 Q (F0 m 130 ls [.int v18, .int y3_5, .ref (ad 34)]) := by
                            intro H locs ls hP hS hl
                            obtain ⟨τ23, g23, h⟩ := ob h
                            refine r_astM (A := AA ad) hx hb hK hd (fun _ hh => hh) hP hS 34 9 (by decide) (fun _ => rfl) g23 dX8_spread_130 (fun H locs hP hS => ?_)
                            refine lv_iinc (v := (y3_5 + (1 : Int32))) (lv' := [(5, .int (y3_5 + (1 : Int32))), (0, .ref (ad 29)), (1, .int x1), (2, .int y1_2), (3, .int y2_3), (4, .int v7)]) hx hb dX8_spread_131 hl (k := 5) rfl rfl (by decide) rfl (fun ls hl => ?_)
                            refine lv_goto (tgt := 52) hx hb dX8_spread_134 (by decide) ?_
                            exact ih τ23 (y3_5 + (1 : Int32)) _ _ _ h hP hS (lv_sub hl [1, 2, 3, 4, 5, 0] rfl)
                          replace h := hj18
                          refine lv_if_eq (tgt := 123) hx hb dX8_spread_101 (by decide) (fun c17 => ?_) (fun c17 => ?_)
                          · replace h := ip c17 h
                            refine lv_aload_n hx hb dX8_spread_123 rfl (lv_at hl 1 rfl) ?_
                            refine va_get (D := D) (ci := 8) (v := .ref (ad 34)) (C := RX8) (T := TX8) (N := 27) hx hb htb wu_8 hown hK.1 hP 29 w_29 rfl 5 (by decide) (htb _ wFL_RX8_22) (fun _ h9 => h9) rfl dX8_spread_124 ?_
                            refine lv_iload hx hb dX8_spread_127 (lv_at hl 6 rfl) ?_
                            obtain ⟨v19, g19, h⟩ := ob h
                            refine r_ald hx hb hK hP 34 w_34 g19 dX8_spread_129 ?_
                            obtain rfl := Option.some.inj h
                            exact J18 _ _ _ hP hS (lv_sub hl [1, 2, 3, 4, 5, 6] rfl)
                          · replace h := iq c17 h
                            refine lv_iload_n hx hb dX8_spread_104 rfl (lv_at hl 3 rfl) ?_
                            refine lv_iconst (v := (1 : Int32)) hx hb dX8_spread_105 (by decide) ?_
                            refine lv_iadd hx hb dX8_spread_106 ?_
                            refine lv_aload_n hx hb dX8_spread_107 rfl (lv_at hl 1 rfl) ?_
                            refine va_get (D := D) (ci := 8) (v := .ref (ad 34)) (C := RX8) (T := TX8) (N := 27) hx hb htb wu_8 hown hK.1 hP 29 w_29 rfl 5 (by decide) (htb _ wFL_RX8_22) (fun _ h9 => h9) rfl dX8_spread_108 ?_
                            refine lv_iload hx hb dX8_spread_111 (lv_at hl 6 rfl) ?_
                            obtain ⟨v20, g20, h⟩ := ob h
                            refine r_ald hx hb hK hP 34 w_34 g20 dX8_spread_113 ?_
                            refine lv_icmp_ge (tgt := 123) hx hb dX8_spread_114 (by decide) (fun c21 => ?_) (fun c21 => ?_)
                            · replace h := ip c21 h
                              refine lv_aload_n hx hb dX8_spread_123 rfl (lv_at hl 1 rfl) ?_
                              refine va_get (D := D) (ci := 8) (v := .ref (ad 34)) (C := RX8) (T := TX8) (N := 27) hx hb htb wu_8 hown hK.1 hP 29 w_29 rfl 5 (by decide) (htb _ wFL_RX8_22) (fun _ h9 => h9) rfl dX8_spread_124 ?_
                              refine lv_iload hx hb dX8_spread_127 (lv_at hl 6 rfl) ?_
                              obtain ⟨v22, g22, h⟩ := ob h
                              refine r_ald hx hb hK hP 34 w_34 g22 dX8_spread_129 ?_
                              obtain rfl := Option.some.inj h
                              exact J18 _ _ _ hP hS (lv_sub hl [1, 2, 3, 4, 5, 6] rfl)
                            · replace h := iq c21 h
                              refine lv_iload_n hx hb dX8_spread_117 rfl (lv_at hl 3 rfl) ?_
                              refine lv_iconst (v := (1 : Int32)) hx hb dX8_spread_118 (by decide) ?_
                              refine lv_iadd hx hb dX8_spread_119 ?_
                              refine lv_goto (tgt := 130) hx hb dX8_spread_120 (by decide) ?_
                              obtain rfl := Option.some.inj h
                              exact J18 _ _ _ hP hS (lv_sub hl [1, 2, 3, 4, 5, 6] rfl)
                        replace h := hj16
                        refine lv_icmp_ne (tgt := 90) hx hb dX8_spread_83 (by decide) (fun c15 => ?_) (fun c15 => ?_)
                        · replace h := iq c15 h
                          refine lv_iconst (v := (0 : Int32)) hx hb dX8_spread_90 (by decide) ?_
                          subst h
                          exact J16 _ _ _ hP hS (lv_sub hl [0, 1, 2, 3, 4, 5] rfl)
                        · replace h := ip c15 h
                          refine lv_iconst (v := (1 : Int32)) hx hb dX8_spread_86 (by decide) ?_
                          refine lv_goto (tgt := 91) hx hb dX8_spread_87 (by decide) ?_
                          subst h
                          exact J16 _ _ _ hP hS (lv_sub hl [0, 1, 2, 3, 4, 5] rfl)
                exact L3 10000 τ_2 (0 : Int32) _ _ _ hj11 hP hS (lv_sub hl [2, 3, 4, 5, 1, 0] rfl)
              replace h := hj7
              refine lv_icmp_gt (tgt := 46) hx hb dX8_spread_25 (by decide) (fun c6 => ?_) (fun c6 => ?_)
              · replace h := ip c6 h
                refine lv_iconst (v := (0 : Int32)) hx hb dX8_spread_46 (by decide) ?_
                obtain rfl := Option.some.inj h
                exact J7 _ _ _ hP hS (lv_sub hl [0, 1, 2, 3] rfl)
              · replace h := iq c6 h
                refine lv_iload_n hx hb dX8_spread_28 rfl (lv_at hl 1 rfl) ?_
                refine lv_if_ne (tgt := 42) hx hb dX8_spread_29 (by decide) (fun c8 => ?_) (fun c8 => ?_)
                · replace h := iq c8 h
                  refine lv_iconst (v := (1 : Int32)) hx hb dX8_spread_42 (by decide) ?_
                  refine lv_goto (tgt := 47) hx hb dX8_spread_43 (by decide) ?_
                  obtain rfl := Option.some.inj h
                  exact J7 _ _ _ hP hS (lv_sub hl [0, 1, 2, 3] rfl)
                · replace h := ip c8 h
                  refine lv_aload_n hx hb dX8_spread_32 rfl (lv_at hl 0 rfl) ?_
                  refine va_get (D := D) (ci := 8) (v := .ref (ad 30)) (C := RX8) (T := TX8) (N := 27) hx hb htb wu_8 hown hK.1 hP 29 w_29 rfl 1 (by decide) (htb _ wFL_RX8_7) (fun _ h9 => h9) rfl dX8_spread_33 ?_
                  refine lv_iload_n hx hb dX8_spread_36 rfl (lv_at hl 3 rfl) ?_
                  obtain ⟨v9, g9, h⟩ := ob h
                  refine r_ald hx hb hK hP 30 w_30 g9 dX8_spread_37 ?_
                  refine lv_iconst (v := (1 : Int32)) hx hb dX8_spread_38 (by decide) ?_
                  refine lv_icmp_ne (tgt := 46) hx hb dX8_spread_39 (by decide) (fun c10 => ?_) (fun c10 => ?_)
                  · replace h := iq c10 h
                    refine lv_iconst (v := (0 : Int32)) hx hb dX8_spread_46 (by decide) ?_
                    obtain rfl := Option.some.inj h
                    exact J7 _ _ _ hP hS (lv_sub hl [0, 1, 2, 3] rfl)
                  · replace h := ip c10 h
                    refine lv_iconst (v := (1 : Int32)) hx hb dX8_spread_42 (by decide) ?_
                    refine lv_goto (tgt := 47) hx hb dX8_spread_43 (by decide) ?_
                    obtain rfl := Option.some.inj h
                    exact J7 _ _ _ hP hS (lv_sub hl [0, 1, 2, 3] rfl)
        exact L2 10000 τ_1 (0 : Int32) _ _ _ hj3 hP hS (lv_sub hl [1, 2, 3, 0] rfl)
  exact L1 10000 τ (1 : Int32) _ _ _ hj1 hP hS (lv_sub hl [1, 2, 0] rfl)
def X8_layKnows_L1 (n : Nat) (τ_1 : St) (y1_2 : Int32) : Option (Int32 × St) := match n with
  | 0 => none
  | n + 1 =>
    if (τ_1 29 0) ≤ y1_2 then (
      some (y1_2, τ_1))
    else (
      bd (rd (τ_1 32) 9 y1_2) fun v3 =>
      bd ((
          if v3 = 0 then (
            some (10 : Int32))
          else (
            bd (rd (τ_1 32) 9 y1_2) fun v6 =>
            some v6)) : Option (Int32)) fun v5 =>
      bd (wa τ_1 34 9 y1_2 v5) fun τ7 =>
      X8_layKnows_L1 n τ7 (y1_2 + (1 : Int32)))
theorem X8_layKnows_L1_s (n : Nat) (τ_1 : St) (y1_2 : Int32) : X8_layKnows_L1 (n + 1) τ_1 y1_2 =
    if (τ_1 29 0) ≤ y1_2 then (
      some (y1_2, τ_1))
    else (
      bd (rd (τ_1 32) 9 y1_2) fun v3 =>
      bd ((
          if v3 = 0 then (
            some (10 : Int32))
          else (
            bd (rd (τ_1 32) 9 y1_2) fun v6 =>
            some v6)) : Option (Int32)) fun v5 =>
      bd (wa τ_1 34 9 y1_2 v5) fun τ7 =>
      X8_layKnows_L1 n τ7 (y1_2 + (1 : Int32))) := rfl
def X8_layKnows (τ : St)  : Option (St) :=
  bd (X8_layKnows_L1 10000 τ (0 : Int32)) fun v1 =>
  bd (X8_spread v1.2 (0 : Int32)) fun v8 =>
  some v8
abbrev rmX8_layKnows : Room := { frames := 1, cells := 0, slots := 0, locals := 26 }
set_option maxHeartbeats 4000000 in
set_option maxRecDepth 100000 in
theorem c_X8_layKnows (l : Launch) (D : va_G) (ad : Nat → Nat) (cI : ClassId) (hd : HD ad) (σ τ : St) (η : Int64)  (rr : St) (h : X8_layKnows τ  = some rr) : MV l yX8_layKnows (wy yX8_layKnows cX8_layKnows 3 none) rmX8_layKnows D ad cI [.ref (ad 29), .ref (ad 32)] σ τ η σ rr η := by
  refine mk_v (own := RX8) (lv := [(0, .ref (ad 29)), (1, .ref (ad 32))]) (plainFor_of_name (by decide)) rfl (Nat.le_of_ble_eq_true rfl) rfl ?_
  intro p e s m args below meth c Q ls hx hb hml hown htb hK ret hP hS hl
  unfold X8_layKnows at h
  refine lv_iconst (v := (0 : Int32)) hx hb dX8_layKnows_0 (by decide) ?_
  refine lv_istore_n (lv' := [(2, .int (0 : Int32)), (0, .ref (ad 29)), (1, .ref (ad 32))]) hx hb dX8_layKnows_1 rfl hl (by decide) rfl (fun ls hl => ?_)
  obtain ⟨v1, hj1, h⟩ := ob h
  have K1 : ∀ (H : Heap) (locs : List Loc) (ls : Array Slot), WP D ad cI σ v1.2 η H → va_S (AA ad) s.heap H locs → lv_has ls 3 [(0, .ref (ad 29))] → W p l e rmX8_layKnows s m args below meth c H locs 0 0 Q (F0 m 36 ls []) := by
    intro H locs ls hP hS hl
    refine lv_aload_n hx hb dX8_layKnows_36 rfl (lv_at hl 0 rfl) ?_
    refine lv_iconst (v := (0 : Int32)) hx hb dX8_layKnows_37 (by decide) ?_
    obtain ⟨v8, g8, h⟩ := ob h
    refine c_Vv (q := (RX8, TX8, 27)) (ci := 8) (b := 29) (As := [.int (0 : Int32)]) (rest := []) (A := AA ad) ⟨hx, hb, hml, hown, htb⟩ (c_X8_spread l D ad cI hd σ v1.2 η (0 : Int32) v8 g8) (cwV 1 htb (gdV (fun _ hh => hh) wML_RX8_77 wIM_yX8_spread wSE_yX8_spread wI_RX8 wC_yX8_spread) rfl rfl rfl hd_X8_spread ⟨by decide, by decide⟩) hK hP rfl w_29 (fun _ hh => hh) hS rfl hl.1 rfl (Nat.le_of_ble_eq_true rfl) dX8_layKnows_38 ⟨Nat.le_refl 0, Nat.le_refl 0⟩ (fun H locs hP hS => ?_)
    obtain rfl := Option.some.inj h
    exact ret _ _ _ _ dX8_layKnows_41 hP hS
  have L1 : ∀ (n : Nat) (τ_1 : St) (y1_2 : Int32) (H : Heap) (locs : List Loc) (ls : Array Slot), X8_layKnows_L1 n τ_1 y1_2 = some v1 → WP D ad cI σ τ_1 η H → va_S (AA ad) s.heap H locs → lv_has ls 3 [(0, .ref (ad 29)), (1, .ref (ad 32)), (2, .int y1_2)] → W p l e rmX8_layKnows s m args below meth c H locs 0 0 Q (F0 m 2 ls []) := by
    intro n
    induction n with
    | zero => intro τ_1 y1_2 H locs ls h; exact absurd h (by simp [X8_layKnows_L1])
    | succ n ih =>
      intro τ_1 y1_2 H locs ls h hP hS hl
      replace h := (X8_layKnows_L1_s n τ_1 y1_2).symm.trans h
      refine lv_iload_n hx hb dX8_layKnows_2 rfl (lv_at hl 2 rfl) ?_
      refine lv_aload_n hx hb dX8_layKnows_3 rfl (lv_at hl 0 rfl) ?_
      refine va_get (D := D) (ci := 8) (v := .int (τ_1 29 0)) (C := RX8) (T := TX8) (N := 27) hx hb htb wu_8 hown hK.1 hP 29 w_29 rfl 0 (by decide) (htb _ wFL_RX8_62) (fun _ h9 => h9) rfl dX8_layKnows_4 ?_
      refine lv_icmp_ge (tgt := 36) hx hb dX8_layKnows_7 (by decide) (fun c2 => ?_) (fun c2 => ?_)
      · replace h := ip c2 h
        obtain rfl := Option.some.inj h
        exact K1 _ _ _ hP hS (lv_sub hl [0] rfl)
      · replace h := iq c2 h
        refine lv_aload_n hx hb dX8_layKnows_10 rfl (lv_at hl 0 rfl) ?_
        refine va_get (D := D) (ci := 8) (v := .ref (ad 34)) (C := RX8) (T := TX8) (N := 27) hx hb htb wu_8 hown hK.1 hP 29 w_29 rfl 5 (by decide) (htb _ wFL_RX8_22) (fun _ h9 => h9) rfl dX8_layKnows_11 ?_
        refine lv_iload_n hx hb dX8_layKnows_14 rfl (lv_at hl 2 rfl) ?_
        refine lv_aload_n hx hb dX8_layKnows_15 rfl (lv_at hl 1 rfl) ?_
        refine lv_iload_n hx hb dX8_layKnows_16 rfl (lv_at hl 2 rfl) ?_
        obtain ⟨v3, g3, h⟩ := ob h
        refine r_ald hx hb hK hP 32 w_32 g3 dX8_layKnows_17 ?_
        obtain ⟨v5, hj5, h⟩ := ob h
        have J5 : ∀ (H : Heap) (locs : List Loc) (ls : Array Slot), WP D ad cI σ τ_1 η H → va_S (AA ad) s.heap H locs → lv_has ls 3 [(0, .ref (ad 29)), (1, .ref (ad 32)), (2, .int y1_2)] → W p l e rmX8_layKnows s m args below meth c H locs 0 0 Q (F0 m 29 ls [.int v5, .int y1_2, .ref (ad 34)]) := by
          intro H locs ls hP hS hl
          obtain ⟨τ7, g7, h⟩ := ob h
          refine r_astM (A := AA ad) hx hb hK hd (fun _ hh => hh) hP hS 34 9 (by decide) (fun _ => rfl) g7 dX8_layKnows_29 (fun H locs hP hS => ?_)
          refine lv_iinc (v := (y1_2 + (1 : Int32))) (lv' := [(2, .int (y1_2 + (1 : Int32))), (0, .ref (ad 29)), (1, .ref (ad 32))]) hx hb dX8_layKnows_30 hl (k := 2) rfl rfl (by decide) rfl (fun ls hl => ?_)
          refine lv_goto (tgt := 2) hx hb dX8_layKnows_33 (by decide) ?_
          exact ih τ7 (y1_2 + (1 : Int32)) _ _ _ h hP hS (lv_sub hl [1, 2, 0] rfl)
        replace h := hj5
        refine lv_if_ne (tgt := 26) hx hb dX8_layKnows_18 (by decide) (fun c4 => ?_) (fun c4 => ?_)
        · replace h := iq c4 h
          refine lv_aload_n hx hb dX8_layKnows_26 rfl (lv_at hl 1 rfl) ?_
          refine lv_iload_n hx hb dX8_layKnows_27 rfl (lv_at hl 2 rfl) ?_
          obtain ⟨v6, g6, h⟩ := ob h
          refine r_ald hx hb hK hP 32 w_32 g6 dX8_layKnows_28 ?_
          obtain rfl := Option.some.inj h
          exact J5 _ _ _ hP hS (lv_sub hl [0, 1, 2] rfl)
        · replace h := ip c4 h
          refine lv_bipush (v := (10 : Int32)) hx hb dX8_layKnows_21 (by decide) ?_
          refine lv_goto (tgt := 29) hx hb dX8_layKnows_23 (by decide) ?_
          obtain rfl := Option.some.inj h
          exact J5 _ _ _ hP hS (lv_sub hl [0, 1, 2] rfl)
  exact L1 10000 τ (0 : Int32) _ _ _ hj1 hP hS (lv_sub hl [1, 2, 0] rfl)
def X8_reckon (τ : St)  : Option (St) :=
  bd (X8_layKnows τ ) fun v1 =>
  some v1
abbrev rmX8_reckon : Room := { frames := 2, cells := 0, slots := 0, locals := 48 }
set_option maxHeartbeats 4000000 in
set_option maxRecDepth 100000 in
theorem c_X8_reckon (l : Launch) (D : va_G) (ad : Nat → Nat) (cI : ClassId) (hd : HD ad) (σ τ : St) (η : Int64)  (rr : St) (h : X8_reckon τ  = some rr) : MV l yX8_reckon (wy yX8_reckon cX8_reckon 1 none) rmX8_reckon D ad cI [.ref (ad 29)] σ τ η σ rr η := by
  refine mk_v (own := RX8) (lv := [(0, .ref (ad 29))]) (plainFor_of_name (by decide)) rfl (Nat.le_of_ble_eq_true rfl) rfl ?_
  intro p e s m args below meth c Q ls hx hb hml hown htb hK ret hP hS hl
  unfold X8_reckon at h
  refine lv_aload_n hx hb dX8_reckon_0 rfl (lv_at hl 0 rfl) ?_
  refine lv_aload_n hx hb dX8_reckon_1 rfl (lv_at hl 0 rfl) ?_
  refine va_get (D := D) (ci := 8) (v := .ref (ad 32)) (C := RX8) (T := TX8) (N := 27) hx hb htb wu_8 hown hK.1 hP 29 w_29 rfl 3 (by decide) (htb _ wFL_RX8_16) (fun _ h9 => h9) rfl dX8_reckon_2 ?_
  obtain ⟨v1, g1, h⟩ := ob h
  refine c_Vv (q := (RX8, TX8, 27)) (ci := 8) (b := 29) (As := [.ref (ad 32)]) (rest := []) (A := AA ad) ⟨hx, hb, hml, hown, htb⟩ (c_X8_layKnows l D ad cI hd σ τ η  v1 g1) (cwV 1 htb (gdV (fun _ hh => hh) wML_RX8_81 wIM_yX8_layKnows wSE_yX8_layKnows wI_RX8 wC_yX8_layKnows) rfl rfl rfl hd_X8_layKnows ⟨by decide, by decide⟩) hK hP rfl w_29 (fun _ hh => hh) hS rfl hl.1 rfl (Nat.le_of_ble_eq_true rfl) dX8_reckon_5 ⟨Nat.le_refl 0, Nat.le_refl 0⟩ (fun H locs hP hS => ?_)
  obtain rfl := Option.some.inj h
  exact ret _ _ _ _ dX8_reckon_8 hP hS
def X8_tellGuest (τ : St) (x1 : Int32) (x2 : Int32) : Option (Int32 × St) :=
  if x2 = (0 : Int32) then (
    bd (rd (τ 30) 9 x1) fun v2 =>
    some (v2, τ))
  else (
    if x2 = (1 : Int32) then (
      bd (rd (τ 31) 9 x1) fun v4 =>
      some (v4, τ))
    else (
      if x2 = (2 : Int32) then (
        bd (rd (τ 32) 9 x1) fun v6 =>
        some (v6, τ))
      else (
        if x2 = (3 : Int32) then (
          bd (X8_reckon τ ) fun v8 =>
          bd (rd (v8 34) 9 x1) fun v9 =>
          if v9 = (10 : Int32) then (
            some ((-1 : Int32), v8))
          else (
            bd (rd (v8 34) 9 x1) fun v11 =>
            some (v11, v8)))
        else (
          some ((-102 : Int32), τ)))))
abbrev rmX8_tellGuest : Room := { frames := 3, cells := 0, slots := 0, locals := 68 }
set_option maxHeartbeats 4000000 in
set_option maxRecDepth 100000 in
theorem c_X8_tellGuest (l : Launch) (D : va_G) (ad : Nat → Nat) (cI : ClassId) (hd : HD ad) (σ τ : St) (η : Int64) (x1 : Int32) (x2 : Int32) (rr : Int32 × St) (h : X8_tellGuest τ x1 x2 = some rr) : MI l yX8_tellGuest (wy yX8_tellGuest cX8_tellGuest 3 (some .int)) rmX8_tellGuest D ad cI [.ref (ad 29), .int x1, .int x2] σ τ η rr.1 σ rr.2 η := by
  refine mk_i (own := RX8) (lv := [(0, .ref (ad 29)), (1, .int x1), (2, .int x2)]) (plainFor_of_name (by decide)) rfl (Nat.le_of_ble_eq_true rfl) rfl ?_
  intro p e s m args below meth c Q ls hx hb hml hown htb hK ret hP hS hl
  unfold X8_tellGuest at h
  refine lv_iload_n hx hb dX8_tellGuest_0 rfl (lv_at hl 2 rfl) ?_
  by_cases c1 : x2 = (0 : Int32)
  · replace h := ip c1 h
    refine lv_tableIn (x := x2) (off := 31) (tgt := 32) hx hb dX8_tellGuest_1 (by rw [c1]; decide) (by rw [c1]; decide) (by rw [c1]; rfl) (by decide) ?_
    refine lv_aload_n hx hb dX8_tellGuest_32 rfl (lv_at hl 0 rfl) ?_
    refine va_get (D := D) (ci := 8) (v := .ref (ad 30)) (C := RX8) (T := TX8) (N := 27) hx hb htb wu_8 hown hK.1 hP 29 w_29 rfl 1 (by decide) (htb _ wFL_RX8_7) (fun _ h9 => h9) rfl dX8_tellGuest_33 ?_
    refine lv_iload_n hx hb dX8_tellGuest_36 rfl (lv_at hl 1 rfl) ?_
    obtain ⟨v2, g2, h⟩ := ob h
    refine r_ald hx hb hK hP 30 w_30 g2 dX8_tellGuest_37 ?_
    obtain rfl := Option.some.inj h
    exact ret _ _ _ _ _ dX8_tellGuest_38 hP hS rfl
  · replace h := iq c1 h
    by_cases c3 : x2 = (1 : Int32)
    · replace h := ip c3 h
      refine lv_tableIn (x := x2) (off := 38) (tgt := 39) hx hb dX8_tellGuest_1 (by rw [c3]; decide) (by rw [c3]; decide) (by rw [c3]; rfl) (by decide) ?_
      refine lv_aload_n hx hb dX8_tellGuest_39 rfl (lv_at hl 0 rfl) ?_
      refine va_get (D := D) (ci := 8) (v := .ref (ad 31)) (C := RX8) (T := TX8) (N := 27) hx hb htb wu_8 hown hK.1 hP 29 w_29 rfl 2 (by decide) (htb _ wFL_RX8_13) (fun _ h9 => h9) rfl dX8_tellGuest_40 ?_
      refine lv_iload_n hx hb dX8_tellGuest_43 rfl (lv_at hl 1 rfl) ?_
      obtain ⟨v4, g4, h⟩ := ob h
      refine r_ald hx hb hK hP 31 w_31 g4 dX8_tellGuest_44 ?_
      obtain rfl := Option.some.inj h
      exact ret _ _ _ _ _ dX8_tellGuest_45 hP hS rfl
    · replace h := iq c3 h
      by_cases c5 : x2 = (2 : Int32)
      · replace h := ip c5 h
        refine lv_tableIn (x := x2) (off := 45) (tgt := 46) hx hb dX8_tellGuest_1 (by rw [c5]; decide) (by rw [c5]; decide) (by rw [c5]; rfl) (by decide) ?_
        refine lv_aload_n hx hb dX8_tellGuest_46 rfl (lv_at hl 0 rfl) ?_
        refine va_get (D := D) (ci := 8) (v := .ref (ad 32)) (C := RX8) (T := TX8) (N := 27) hx hb htb wu_8 hown hK.1 hP 29 w_29 rfl 3 (by decide) (htb _ wFL_RX8_16) (fun _ h9 => h9) rfl dX8_tellGuest_47 ?_
        refine lv_iload_n hx hb dX8_tellGuest_50 rfl (lv_at hl 1 rfl) ?_
        obtain ⟨v6, g6, h⟩ := ob h
        refine r_ald hx hb hK hP 32 w_32 g6 dX8_tellGuest_51 ?_
        obtain rfl := Option.some.inj h
        exact ret _ _ _ _ _ dX8_tellGuest_52 hP hS rfl
      · replace h := iq c5 h
        by_cases c7 : x2 = (3 : Int32)
        · replace h := ip c7 h
          refine lv_tableIn (x := x2) (off := 52) (tgt := 53) hx hb dX8_tellGuest_1 (by rw [c7]; decide) (by rw [c7]; decide) (by rw [c7]; rfl) (by decide) ?_
          refine lv_aload_n hx hb dX8_tellGuest_53 rfl (lv_at hl 0 rfl) ?_
          obtain ⟨v8, g8, h⟩ := ob h
          refine c_Vv (q := (RX8, TX8, 27)) (ci := 8) (b := 29) (As := []) (rest := []) (A := AA ad) ⟨hx, hb, hml, hown, htb⟩ (c_X8_reckon l D ad cI hd σ τ η  v8 g8) (cwV 0 htb (gdV (fun _ hh => hh) wML_RX8_85 wIM_yX8_reckon wSE_yX8_reckon wI_RX8 wC_yX8_reckon) rfl rfl rfl hd_X8_reckon ⟨by decide, by decide⟩) hK hP rfl w_29 (fun _ hh => hh) hS rfl hl.1 rfl (Nat.le_of_ble_eq_true rfl) dX8_tellGuest_54 ⟨Nat.le_refl 0, Nat.le_refl 0⟩ (fun H locs hP hS => ?_)
          refine lv_aload_n hx hb dX8_tellGuest_57 rfl (lv_at hl 0 rfl) ?_
          refine va_get (D := D) (ci := 8) (v := .ref (ad 34)) (C := RX8) (T := TX8) (N := 27) hx hb htb wu_8 hown hK.1 hP 29 w_29 rfl 5 (by decide) (htb _ wFL_RX8_22) (fun _ h9 => h9) rfl dX8_tellGuest_58 ?_
          refine lv_iload_n hx hb dX8_tellGuest_61 rfl (lv_at hl 1 rfl) ?_
          obtain ⟨v9, g9, h⟩ := ob h
          refine r_ald hx hb hK hP 34 w_34 g9 dX8_tellGuest_62 ?_
          refine lv_bipush (v := (10 : Int32)) hx hb dX8_tellGuest_63 (by decide) ?_
          refine lv_icmp_ne (tgt := 72) hx hb dX8_tellGuest_65 (by decide) (fun c10 => ?_) (fun c10 => ?_)
          · replace h := iq c10 h
            refine lv_aload_n hx hb dX8_tellGuest_72 rfl (lv_at hl 0 rfl) ?_
            refine va_get (D := D) (ci := 8) (v := .ref (ad 34)) (C := RX8) (T := TX8) (N := 27) hx hb htb wu_8 hown hK.1 hP 29 w_29 rfl 5 (by decide) (htb _ wFL_RX8_22) (fun _ h9 => h9) rfl dX8_tellGuest_73 ?_
            refine lv_iload_n hx hb dX8_tellGuest_76 rfl (lv_at hl 1 rfl) ?_
            obtain ⟨v11, g11, h⟩ := ob h
            refine r_ald hx hb hK hP 34 w_34 g11 dX8_tellGuest_77 ?_
            obtain rfl := Option.some.inj h
            exact ret _ _ _ _ _ dX8_tellGuest_78 hP hS rfl
          · replace h := ip c10 h
            refine lv_iconst (v := (-1 : Int32)) hx hb dX8_tellGuest_68 (by decide) ?_
            refine lv_goto (tgt := 78) hx hb dX8_tellGuest_69 (by decide) ?_
            obtain rfl := Option.some.inj h
            exact ret _ _ _ _ _ dX8_tellGuest_78 hP hS rfl
        · replace h := iq c7 h
          have zc1 := lv_neT c1 (show ((0 : Int32)).toInt = 0 by decide)
          have zc3 := lv_neT c3 (show ((1 : Int32)).toInt = 1 by decide)
          have zc5 := lv_neT c5 (show ((2 : Int32)).toInt = 2 by decide)
          have zc7 := lv_neT c7 (show ((3 : Int32)).toInt = 3 by decide)
          refine lv_tableOut (x := x2) (tgt := 79) hx hb dX8_tellGuest_1 (by omega) (by decide) ?_
          refine lv_bipush (v := (-102 : Int32)) hx hb dX8_tellGuest_79 (by decide) ?_
          obtain rfl := Option.some.inj h
          exact ret _ _ _ _ _ dX8_tellGuest_81 hP hS rfl
def X8_about (τ : St) (x1 : Int32) (x2 : Int32) : Option (Int32 × St) :=
  lt (X8_isGuest τ x1) fun v1 =>
  if v1 = 0 then (
    some ((-101 : Int32), τ))
  else (
    bd (X8_tellGuest τ x1 x2) fun v3 =>
    some (v3.1, v3.2))
abbrev rmX8_about : Room := { frames := 4, cells := 0, slots := 0, locals := 90 }
set_option maxHeartbeats 4000000 in
set_option maxRecDepth 100000 in
theorem c_X8_about (l : Launch) (D : va_G) (ad : Nat → Nat) (cI : ClassId) (hd : HD ad) (σ τ : St) (η : Int64) (x1 : Int32) (x2 : Int32) (rr : Int32 × St) (h : X8_about τ x1 x2 = some rr) : MI l yX8_about (wy yX8_about cX8_about 3 (some .int)) rmX8_about D ad cI [.ref (ad 29), .int x1, .int x2] σ τ η rr.1 σ rr.2 η := by
  refine mk_i (own := RX8) (lv := [(0, .ref (ad 29)), (1, .int x1), (2, .int x2)]) (plainFor_of_name (by decide)) rfl (Nat.le_of_ble_eq_true rfl) rfl ?_
  intro p e s m args below meth c Q ls hx hb hml hown htb hK ret hP hS hl
  unfold X8_about at h
  refine lv_aload_n hx hb dX8_about_0 rfl (lv_at hl 0 rfl) ?_
  refine lv_iload_n hx hb dX8_about_1 rfl (lv_at hl 1 rfl) ?_
  obtain ⟨v1, g1, h⟩ := ol h
  refine c_Vz (q := (RX8, TX8, 27)) (ci := 8) (b := 29) (As := [.int x1]) (rest := []) (A := AA ad) ⟨hx, hb, hml, hown, htb⟩ (c_X8_isGuest l D ad cI hd σ τ η x1 v1 g1) (cwV 1 htb (gdV (fun _ hh => hh) wML_RX8_88 wIM_yX8_isGuest wSE_yX8_isGuest wI_RX8 wC_yX8_isGuest) rfl rfl rfl hd_X8_isGuest ⟨by decide, by decide⟩) hK hP rfl w_29 (fun _ hh => hh) hS rfl hl.1 rfl (Nat.le_of_ble_eq_true rfl) dX8_about_2 ⟨Nat.le_refl 0, Nat.le_refl 0⟩ (fun H locs hz1 hP hS => ?_)
  refine lv_if_eq (tgt := 17) hx hb dX8_about_5 (by decide) (fun c2 => ?_) (fun c2 => ?_)
  · replace h := ip c2 h
    refine lv_bipush (v := (-101 : Int32)) hx hb dX8_about_17 (by decide) ?_
    obtain rfl := Option.some.inj h
    exact ret _ _ _ _ _ dX8_about_19 hP hS rfl
  · replace h := iq c2 h
    refine lv_aload_n hx hb dX8_about_8 rfl (lv_at hl 0 rfl) ?_
    refine lv_iload_n hx hb dX8_about_9 rfl (lv_at hl 1 rfl) ?_
    refine lv_iload_n hx hb dX8_about_10 rfl (lv_at hl 2 rfl) ?_
    obtain ⟨v3, g3, h⟩ := ob h
    refine c_Vi (q := (RX8, TX8, 27)) (ci := 8) (b := 29) (As := [.int x1, .int x2]) (rest := []) (A := AA ad) ⟨hx, hb, hml, hown, htb⟩ (c_X8_tellGuest l D ad cI hd σ τ η x1 x2 v3 g3) (cwV 2 htb (gdV (fun _ hh => hh) wML_RX8_91 wIM_yX8_tellGuest wSE_yX8_tellGuest wI_RX8 wC_yX8_tellGuest) rfl rfl rfl hd_X8_tellGuest ⟨by decide, by decide⟩) hK hP rfl w_29 (fun _ hh => hh) hS rfl hl.1 rfl (Nat.le_of_ble_eq_true rfl) dX8_about_11 ⟨Nat.le_refl 0, Nat.le_refl 0⟩ (fun H locs hP hS => ?_)
    refine lv_goto (tgt := 19) hx hb dX8_about_14 (by decide) ?_
    obtain rfl := Option.some.inj h
    exact ret _ _ _ _ _ dX8_about_19 hP hS rfl
def X0_isA (σ : St) (x1 : Int32) (x2 : Int32) : Option (Int32) :=
  bd (X0_kindOf σ x1) fun v1 =>
  if v1 = (-1 : Int32) then (
    some (0 : Int32))
  else (
    if x2 = 0 then (
      some (1 : Int32))
    else (
      if x2 = v1 then (
        some (1 : Int32))
      else (
        if x2 = (2 : Int32) then (
          if v1 = (4 : Int32) then (
            some (1 : Int32))
          else (
            some (0 : Int32)))
        else (
          some (0 : Int32)))))
abbrev rmX0_isA : Room := { frames := 2, cells := 0, slots := 0, locals := 42 }
set_option maxHeartbeats 4000000 in
set_option maxRecDepth 100000 in
theorem c_X0_isA (l : Launch) (D : va_G) (ad : Nat → Nat) (cI : ClassId) (hd : HD ad) (σ τ : St) (η : Int64) (x1 : Int32) (x2 : Int32) (rr : Int32) (h : X0_isA σ x1 x2 = some rr) : MZ l yX0_isA (wy yX0_isA cX0_isA 4 (some .boolean)) rmX0_isA D ad cI [.ref (ad 1), .int x1, .int x2] σ τ η rr σ τ η := by
  refine mk_z (own := RX0) (lv := [(0, .ref (ad 1)), (1, .int x1), (2, .int x2)]) (plainFor_of_name (by decide)) rfl (Nat.le_of_ble_eq_true rfl) rfl ?_
  intro p e s m args below meth c Q ls hx hb hml hown htb hK ret hP hS hl
  unfold X0_isA at h
  refine lv_aload_n hx hb dX0_isA_0 rfl (lv_at hl 0 rfl) ?_
  refine lv_iload_n hx hb dX0_isA_1 rfl (lv_at hl 1 rfl) ?_
  obtain ⟨v1, g1, h⟩ := ob h
  refine c_Vi (q := (RX0, TX0, 6)) (ci := 0) (b := 1) (As := [.int x1]) (rest := []) (A := AA ad) ⟨hx, hb, hml, hown, htb⟩ (c_X0_kindOf l D ad cI hd σ τ η x1 v1 g1) (cwV 1 htb (gdV (fun _ hh => hh) wML_RX0_42 wIM_yX0_kindOf wSE_yX0_kindOf wI_RX0 wC_yX0_kindOf) rfl rfl rfl hd_X0_kindOf ⟨by decide, by decide⟩) hK hP rfl w_1 (fun _ hh => hh) hS rfl hl.1 rfl (Nat.le_of_ble_eq_true rfl) dX0_isA_2 ⟨Nat.le_refl 0, Nat.le_refl 0⟩ (fun H locs hP hS => ?_)
  refine lv_istore_n (lv' := [(3, .int v1), (0, .ref (ad 1)), (1, .int x1), (2, .int x2)]) hx hb dX0_isA_5 rfl hl (by decide) rfl (fun ls hl => ?_)
  refine lv_iload_n hx hb dX0_isA_6 rfl (lv_at hl 0 rfl) ?_
  refine lv_iconst (v := (-1 : Int32)) hx hb dX0_isA_7 (by decide) ?_
  refine lv_icmp_eq (tgt := 34) hx hb dX0_isA_8 (by decide) (fun c2 => ?_) (fun c2 => ?_)
  · replace h := ip c2 h
    refine lv_iconst (v := (0 : Int32)) hx hb dX0_isA_34 (by decide) ?_
    obtain rfl := Option.some.inj h
    exact ret _ _ _ _ _ dX0_isA_35 hP hS rfl (by first | exact Or.inl rfl | exact Or.inr rfl | assumption)
  · replace h := iq c2 h
    refine lv_iload_n hx hb dX0_isA_11 rfl (lv_at hl 3 rfl) ?_
    refine lv_if_eq (tgt := 30) hx hb dX0_isA_12 (by decide) (fun c3 => ?_) (fun c3 => ?_)
    · replace h := ip c3 h
      refine lv_iconst (v := (1 : Int32)) hx hb dX0_isA_30 (by decide) ?_
      refine lv_goto (tgt := 35) hx hb dX0_isA_31 (by decide) ?_
      obtain rfl := Option.some.inj h
      exact ret _ _ _ _ _ dX0_isA_35 hP hS rfl (by first | exact Or.inl rfl | exact Or.inr rfl | assumption)
    · replace h := iq c3 h
      refine lv_iload_n hx hb dX0_isA_15 rfl (lv_at hl 3 rfl) ?_
      refine lv_iload_n hx hb dX0_isA_16 rfl (lv_at hl 0 rfl) ?_
      refine lv_icmp_eq (tgt := 30) hx hb dX0_isA_17 (by decide) (fun c4 => ?_) (fun c4 => ?_)
      · replace h := ip c4 h
        refine lv_iconst (v := (1 : Int32)) hx hb dX0_isA_30 (by decide) ?_
        refine lv_goto (tgt := 35) hx hb dX0_isA_31 (by decide) ?_
        obtain rfl := Option.some.inj h
        exact ret _ _ _ _ _ dX0_isA_35 hP hS rfl (by first | exact Or.inl rfl | exact Or.inr rfl | assumption)
      · replace h := iq c4 h
        refine lv_iload_n hx hb dX0_isA_20 rfl (lv_at hl 3 rfl) ?_
        refine lv_iconst (v := (2 : Int32)) hx hb dX0_isA_21 (by decide) ?_
        refine lv_icmp_ne (tgt := 34) hx hb dX0_isA_22 (by decide) (fun c5 => ?_) (fun c5 => ?_)
        · replace h := iq c5 h
          refine lv_iconst (v := (0 : Int32)) hx hb dX0_isA_34 (by decide) ?_
          obtain rfl := Option.some.inj h
          exact ret _ _ _ _ _ dX0_isA_35 hP hS rfl (by first | exact Or.inl rfl | exact Or.inr rfl | assumption)
        · replace h := ip c5 h
          refine lv_iload_n hx hb dX0_isA_25 rfl (lv_at hl 0 rfl) ?_
          refine lv_iconst (v := (4 : Int32)) hx hb dX0_isA_26 (by decide) ?_
          refine lv_icmp_ne (tgt := 34) hx hb dX0_isA_27 (by decide) (fun c6 => ?_) (fun c6 => ?_)
          · replace h := iq c6 h
            refine lv_iconst (v := (0 : Int32)) hx hb dX0_isA_34 (by decide) ?_
            obtain rfl := Option.some.inj h
            exact ret _ _ _ _ _ dX0_isA_35 hP hS rfl (by first | exact Or.inl rfl | exact Or.inr rfl | assumption)
          · replace h := ip c6 h
            refine lv_iconst (v := (1 : Int32)) hx hb dX0_isA_30 (by decide) ?_
            refine lv_goto (tgt := 35) hx hb dX0_isA_31 (by decide) ?_
            obtain rfl := Option.some.inj h
            exact ret _ _ _ _ _ dX0_isA_35 hP hS rfl (by first | exact Or.inl rfl | exact Or.inr rfl | assumption)
def X7_as (σ : St) (x1 : Int32) (x2 : Int32) : Option (Int32) :=
  lt (X0_has σ x1) fun v1 =>
  if v1 = 0 then (
    some (-101 : Int32))
  else (
    lt (X0_isKind  x2) fun v3 =>
    if v3 = 0 then (
      some (-102 : Int32))
    else (
      bd (X0_isA σ x1 x2) fun v5 =>
      if v5 = 0 then (
        some (-1 : Int32))
      else (
        some x1)))
abbrev rmX7_as : Room := { frames := 3, cells := 0, slots := 0, locals := 65 }
set_option maxHeartbeats 4000000 in
set_option maxRecDepth 100000 in
theorem c_X7_as (l : Launch) (D : va_G) (ad : Nat → Nat) (cI : ClassId) (hd : HD ad) (σ τ : St) (η : Int64) (x1 : Int32) (x2 : Int32) (rr : Int32) (h : X7_as σ x1 x2 = some rr) : MI l yX7_as (wy yX7_as cX7_as 3 (some .int)) rmX7_as D ad cI [.ref (ad 0), .int x1, .int x2] σ τ η rr σ τ η := by
  refine mk_i (own := RX7) (lv := [(0, .ref (ad 0)), (1, .int x1), (2, .int x2)]) (plainFor_of_name (by decide)) rfl (Nat.le_of_ble_eq_true rfl) rfl ?_
  intro p e s m args below meth c Q ls hx hb hml hown htb hK ret hP hS hl
  unfold X7_as at h
  refine lv_aload_n hx hb dX7_as_0 rfl (lv_at hl 0 rfl) ?_
  refine va_get (D := D) (ci := 7) (v := .ref (ad 1)) (C := RX7) (T := TX7) (N := 11) hx hb htb wu_7 hown hK.1 hP 0 w_0 rfl 0 (by decide) (htb _ wFL_RX7_10) (fun _ h9 => h9) rfl dX7_as_1 ?_
  refine lv_iload_n hx hb dX7_as_4 rfl (lv_at hl 1 rfl) ?_
  obtain ⟨v1, g1, h⟩ := ol h
  refine c_Vz (q := (RX0, TX0, 6)) (ci := 0) (b := 1) (As := [.int x1]) (rest := []) (A := AA ad) ⟨hx, hb, hml, hown, htb⟩ (c_X0_has l D ad cI hd σ τ η x1 v1 g1) (cwV 1 htb (gdV (fun _ hh => hh) wML_RX7_84 wIM_yX0_has wSE_yX0_has wI_RX0 wC_yX0_has) rfl rfl rfl hd_X0_has ⟨by decide, by decide⟩) hK hP rfl w_1 (fun _ hh => hh) hS rfl hl.1 rfl (Nat.le_of_ble_eq_true rfl) dX7_as_5 ⟨Nat.le_refl 0, Nat.le_refl 0⟩ (fun H locs hz1 hP hS => ?_)
  refine lv_if_ne (tgt := 14) hx hb dX7_as_8 (by decide) (fun c2 => ?_) (fun c2 => ?_)
  · replace h := iq c2 h
    refine lv_iload_n hx hb dX7_as_14 rfl (lv_at hl 2 rfl) ?_
    obtain ⟨v3, g3, h⟩ := ol h
    refine c_Sz (As := [.int x2]) (rest := []) (A := AA ad) ⟨hx, hb, hml, hown, htb⟩ (c_X0_isKind l D ad cI hd σ τ η x2 v3 g3) (va_cwS 1 htb (gdS (fun _ hh => hh) wML_RX7_72 wST_yX0_isKind wI_RX0 wC_yX0_isKind) rfl rfl rfl hd_X0_isKind.2 ⟨by decide, by decide⟩) hK hP (fun _ hh => hh) hS rfl hl.1 rfl (Nat.le_of_ble_eq_true rfl) dX7_as_15 ⟨Nat.le_refl 0, Nat.le_refl 0⟩ (fun H locs hz3 hP hS => ?_)
    refine lv_if_ne (tgt := 24) hx hb dX7_as_18 (by decide) (fun c4 => ?_) (fun c4 => ?_)
    · replace h := iq c4 h
      refine lv_aload_n hx hb dX7_as_24 rfl (lv_at hl 0 rfl) ?_
      refine va_get (D := D) (ci := 7) (v := .ref (ad 1)) (C := RX7) (T := TX7) (N := 11) hx hb htb wu_7 hown hK.1 hP 0 w_0 rfl 0 (by decide) (htb _ wFL_RX7_10) (fun _ h9 => h9) rfl dX7_as_25 ?_
      refine lv_iload_n hx hb dX7_as_28 rfl (lv_at hl 1 rfl) ?_
      refine lv_iload_n hx hb dX7_as_29 rfl (lv_at hl 2 rfl) ?_
      obtain ⟨v5, g5, h⟩ := ob h
      refine c_Vz (q := (RX0, TX0, 6)) (ci := 0) (b := 1) (As := [.int x1, .int x2]) (rest := []) (A := AA ad) ⟨hx, hb, hml, hown, htb⟩ (c_X0_isA l D ad cI hd σ τ η x1 x2 v5 g5) (cwV 2 htb (gdV (fun _ hh => hh) wML_RX7_100 wIM_yX0_isA wSE_yX0_isA wI_RX0 wC_yX0_isA) rfl rfl rfl hd_X0_isA ⟨by decide, by decide⟩) hK hP rfl w_1 (fun _ hh => hh) hS rfl hl.1 rfl (Nat.le_of_ble_eq_true rfl) dX7_as_30 ⟨Nat.le_refl 0, Nat.le_refl 0⟩ (fun H locs hz5 hP hS => ?_)
      refine lv_if_eq (tgt := 40) hx hb dX7_as_33 (by decide) (fun c6 => ?_) (fun c6 => ?_)
      · replace h := ip c6 h
        refine lv_iconst (v := (-1 : Int32)) hx hb dX7_as_40 (by decide) ?_
        obtain rfl := Option.some.inj h
        exact ret _ _ _ _ _ dX7_as_41 hP hS rfl
      · replace h := iq c6 h
        refine lv_iload_n hx hb dX7_as_36 rfl (lv_at hl 1 rfl) ?_
        refine lv_goto (tgt := 41) hx hb dX7_as_37 (by decide) ?_
        obtain rfl := Option.some.inj h
        exact ret _ _ _ _ _ dX7_as_41 hP hS rfl
    · replace h := ip c4 h
      refine lv_bipush (v := (-102 : Int32)) hx hb dX7_as_21 (by decide) ?_
      obtain rfl := Option.some.inj h
      exact ret _ _ _ _ _ dX7_as_23 hP hS rfl
  · replace h := ip c2 h
    refine lv_bipush (v := (-101 : Int32)) hx hb dX7_as_11 (by decide) ?_
    obtain rfl := Option.some.inj h
    exact ret _ _ _ _ _ dX7_as_13 hP hS rfl
def X8_as (τ : St) (x1 : Int32) (x2 : Int32) : Option (Int32) :=
  lt (X8_isGuest τ x1) fun v1 =>
  if v1 = 0 then (
    some (-101 : Int32))
  else (
    lt (X8_in  ((x2).toInt64) (0 : Int64) (4 : Int64)) fun v3 =>
    if v3 = 0 then (
      some (-102 : Int32))
    else (
      bd ((
          if x2 = 0 then (
            some (1 : Int32))
          else (
            bd (rd (τ 30) 9 x1) fun v7 =>
            if x2 = v7 then (
              some (1 : Int32))
            else (
              if x2 = (2 : Int32) then (
                bd (rd (τ 30) 9 x1) fun v10 =>
                if v10 = (4 : Int32) then (
                  some (1 : Int32))
                else (
                  some (0 : Int32)))
              else (
                some (0 : Int32))))) : Option (Int32)) fun v6 =>
      if v6 = 0 then (
        some (-1 : Int32))
      else (
        some x1)))
abbrev rmX8_as : Room := { frames := 2, cells := 0, slots := 0, locals := 46 }
set_option maxHeartbeats 4000000 in
set_option maxRecDepth 100000 in
theorem c_X8_as (l : Launch) (D : va_G) (ad : Nat → Nat) (cI : ClassId) (hd : HD ad) (σ τ : St) (η : Int64) (x1 : Int32) (x2 : Int32) (rr : Int32) (h : X8_as τ x1 x2 = some rr) : MI l yX8_as (wy yX8_as cX8_as 4 (some .int)) rmX8_as D ad cI [.ref (ad 29), .int x1, .int x2] σ τ η rr σ τ η := by
  refine mk_i (own := RX8) (lv := [(0, .ref (ad 29)), (1, .int x1), (2, .int x2)]) (plainFor_of_name (by decide)) rfl (Nat.le_of_ble_eq_true rfl) rfl ?_
  intro p e s m args below meth c Q ls hx hb hml hown htb hK ret hP hS hl
  unfold X8_as at h
  refine lv_aload_n hx hb dX8_as_0 rfl (lv_at hl 0 rfl) ?_
  refine lv_iload_n hx hb dX8_as_1 rfl (lv_at hl 1 rfl) ?_
  obtain ⟨v1, g1, h⟩ := ol h
  refine c_Vz (q := (RX8, TX8, 27)) (ci := 8) (b := 29) (As := [.int x1]) (rest := []) (A := AA ad) ⟨hx, hb, hml, hown, htb⟩ (c_X8_isGuest l D ad cI hd σ τ η x1 v1 g1) (cwV 1 htb (gdV (fun _ hh => hh) wML_RX8_88 wIM_yX8_isGuest wSE_yX8_isGuest wI_RX8 wC_yX8_isGuest) rfl rfl rfl hd_X8_isGuest ⟨by decide, by decide⟩) hK hP rfl w_29 (fun _ hh => hh) hS rfl hl.1 rfl (Nat.le_of_ble_eq_true rfl) dX8_as_2 ⟨Nat.le_refl 0, Nat.le_refl 0⟩ (fun H locs hz1 hP hS => ?_)
  refine lv_if_ne (tgt := 11) hx hb dX8_as_5 (by decide) (fun c2 => ?_) (fun c2 => ?_)
  · replace h := iq c2 h
    refine lv_iload_n hx hb dX8_as_11 rfl (lv_at hl 2 rfl) ?_
    refine lv_i2l (v := ((x2).toInt64)) hx hb dX8_as_12 rfl ?_
    refine lv_lconst (v := (0 : Int64)) hx hb dX8_as_13 rfl ?_
    refine lv_ldc2 (v := (4 : Int64)) hx hb hown (htb _ wKL_RX8_69) dX8_as_14 ?_
    obtain ⟨v3, g3, h⟩ := ol h
    refine c_Sz (As := [.long ((x2).toInt64), .long (0 : Int64), .long (4 : Int64)]) (rest := []) (A := AA ad) ⟨hx, hb, hml, hown, htb⟩ (c_X8_in l D ad cI hd σ τ η ((x2).toInt64) (0 : Int64) (4 : Int64) v3 g3) (va_cwS 3 htb (gdS (fun _ hh => hh) wML_RX8_65 wST_yX8_in wI_RX8 wC_yX8_in) rfl rfl rfl hd_X8_in.2 ⟨by decide, by decide⟩) hK hP (fun _ hh => hh) hS rfl hl.1 rfl (Nat.le_of_ble_eq_true rfl) dX8_as_17 ⟨Nat.le_refl 0, Nat.le_refl 0⟩ (fun H locs hz3 hP hS => ?_)
    refine lv_if_ne (tgt := 26) hx hb dX8_as_20 (by decide) (fun c4 => ?_) (fun c4 => ?_)
    · replace h := iq c4 h
      refine lv_iload_n hx hb dX8_as_26 rfl (lv_at hl 2 rfl) ?_
      obtain ⟨v6, hj6, h⟩ := ob h
      have J6 : ∀ (H : Heap) (locs : List Loc) (ls : Array Slot), WP D ad cI σ τ η H → va_S (AA ad) s.heap H locs → lv_has ls 4 [(1, .int x1)] → W p l e rmX8_as s m args below meth c H locs 0 0 Q (F0 m 60 ls [.int v6]) := by
        intro H locs ls hP hS hl
        refine lv_istore_n (lv' := [(3, .int v6), (1, .int x1)]) hx hb dX8_as_60 rfl hl (by decide) rfl (fun ls hl => ?_)
        refine lv_iload_n hx hb dX8_as_61 rfl (lv_at hl 0 rfl) ?_
        refine lv_if_eq (tgt := 69) hx hb dX8_as_62 (by decide) (fun c12 => ?_) (fun c12 => ?_)
        · replace h := ip c12 h
          refine lv_iconst (v := (-1 : Int32)) hx hb dX8_as_69 (by decide) ?_
          obtain rfl := Option.some.inj h
          exact ret _ _ _ _ _ dX8_as_70 hP hS rfl
        · replace h := iq c12 h
          refine lv_iload_n hx hb dX8_as_65 rfl (lv_at hl 1 rfl) ?_
          refine lv_goto (tgt := 70) hx hb dX8_as_66 (by decide) ?_
          obtain rfl := Option.some.inj h
          exact ret _ _ _ _ _ dX8_as_70 hP hS rfl
      replace h := hj6
      refine lv_if_eq (tgt := 55) hx hb dX8_as_27 (by decide) (fun c5 => ?_) (fun c5 => ?_)
      · replace h := ip c5 h
        refine lv_iconst (v := (1 : Int32)) hx hb dX8_as_55 (by decide) ?_
        refine lv_goto (tgt := 60) hx hb dX8_as_56 (by decide) ?_
        obtain rfl := Option.some.inj h
        exact J6 _ _ _ hP hS (lv_sub hl [1] rfl)
      · replace h := iq c5 h
        refine lv_iload_n hx hb dX8_as_30 rfl (lv_at hl 2 rfl) ?_
        refine lv_aload_n hx hb dX8_as_31 rfl (lv_at hl 0 rfl) ?_
        refine va_get (D := D) (ci := 8) (v := .ref (ad 30)) (C := RX8) (T := TX8) (N := 27) hx hb htb wu_8 hown hK.1 hP 29 w_29 rfl 1 (by decide) (htb _ wFL_RX8_7) (fun _ h9 => h9) rfl dX8_as_32 ?_
        refine lv_iload_n hx hb dX8_as_35 rfl (lv_at hl 1 rfl) ?_
        obtain ⟨v7, g7, h⟩ := ob h
        refine r_ald hx hb hK hP 30 w_30 g7 dX8_as_36 ?_
        refine lv_icmp_eq (tgt := 55) hx hb dX8_as_37 (by decide) (fun c8 => ?_) (fun c8 => ?_)
        · replace h := ip c8 h
          refine lv_iconst (v := (1 : Int32)) hx hb dX8_as_55 (by decide) ?_
          refine lv_goto (tgt := 60) hx hb dX8_as_56 (by decide) ?_
          obtain rfl := Option.some.inj h
          exact J6 _ _ _ hP hS (lv_sub hl [1] rfl)
        · replace h := iq c8 h
          refine lv_iload_n hx hb dX8_as_40 rfl (lv_at hl 2 rfl) ?_
          refine lv_iconst (v := (2 : Int32)) hx hb dX8_as_41 (by decide) ?_
          refine lv_icmp_ne (tgt := 59) hx hb dX8_as_42 (by decide) (fun c9 => ?_) (fun c9 => ?_)
          · replace h := iq c9 h
            refine lv_iconst (v := (0 : Int32)) hx hb dX8_as_59 (by decide) ?_
            obtain rfl := Option.some.inj h
            exact J6 _ _ _ hP hS (lv_sub hl [1] rfl)
          · replace h := ip c9 h
            refine lv_aload_n hx hb dX8_as_45 rfl (lv_at hl 0 rfl) ?_
            refine va_get (D := D) (ci := 8) (v := .ref (ad 30)) (C := RX8) (T := TX8) (N := 27) hx hb htb wu_8 hown hK.1 hP 29 w_29 rfl 1 (by decide) (htb _ wFL_RX8_7) (fun _ h9 => h9) rfl dX8_as_46 ?_
            refine lv_iload_n hx hb dX8_as_49 rfl (lv_at hl 1 rfl) ?_
            obtain ⟨v10, g10, h⟩ := ob h
            refine r_ald hx hb hK hP 30 w_30 g10 dX8_as_50 ?_
            refine lv_iconst (v := (4 : Int32)) hx hb dX8_as_51 (by decide) ?_
            refine lv_icmp_ne (tgt := 59) hx hb dX8_as_52 (by decide) (fun c11 => ?_) (fun c11 => ?_)
            · replace h := iq c11 h
              refine lv_iconst (v := (0 : Int32)) hx hb dX8_as_59 (by decide) ?_
              obtain rfl := Option.some.inj h
              exact J6 _ _ _ hP hS (lv_sub hl [1] rfl)
            · replace h := ip c11 h
              refine lv_iconst (v := (1 : Int32)) hx hb dX8_as_55 (by decide) ?_
              refine lv_goto (tgt := 60) hx hb dX8_as_56 (by decide) ?_
              obtain rfl := Option.some.inj h
              exact J6 _ _ _ hP hS (lv_sub hl [1] rfl)
    · replace h := ip c4 h
      refine lv_bipush (v := (-102 : Int32)) hx hb dX8_as_23 (by decide) ?_
      obtain rfl := Option.some.inj h
      exact ret _ _ _ _ _ dX8_as_25 hP hS rfl
  · replace h := ip c2 h
    refine lv_bipush (v := (-101 : Int32)) hx hb dX8_as_8 (by decide) ?_
    obtain rfl := Option.some.inj h
    exact ret _ _ _ _ _ dX8_as_10 hP hS rfl
def X0_seenBy (σ : St) (x1 : Int32) (x2 : Int32) : Option (Int32) :=
  lt (X0_has σ x1) fun v1 =>
  if v1 = 0 then (
    some (0 : Int32))
  else (
    lt (X7_isDay  x2) fun v3 =>
    if v3 = 0 then (
      some (0 : Int32))
    else (
      bd (rd (σ 5) 72 (((x2 - (1 : Int32)) * (9 : Int32)) + x1)) fun v5 =>
      some v5))
abbrev rmX0_seenBy : Room := { frames := 1, cells := 0, slots := 0, locals := 21 }
set_option maxHeartbeats 4000000 in
set_option maxRecDepth 100000 in
theorem c_X0_seenBy (l : Launch) (D : va_G) (ad : Nat → Nat) (cI : ClassId) (hd : HD ad) (σ τ : St) (η : Int64) (x1 : Int32) (x2 : Int32) (rr : Int32) (h : X0_seenBy σ x1 x2 = some rr) : MI l yX0_seenBy (wy yX0_seenBy cX0_seenBy 3 (some .int)) rmX0_seenBy D ad cI [.ref (ad 1), .int x1, .int x2] σ τ η rr σ τ η := by
  refine mk_i (own := RX0) (lv := [(0, .ref (ad 1)), (1, .int x1), (2, .int x2)]) (plainFor_of_name (by decide)) rfl (Nat.le_of_ble_eq_true rfl) rfl ?_
  intro p e s m args below meth c Q ls hx hb hml hown htb hK ret hP hS hl
  unfold X0_seenBy at h
  refine lv_aload_n hx hb dX0_seenBy_0 rfl (lv_at hl 0 rfl) ?_
  refine lv_iload_n hx hb dX0_seenBy_1 rfl (lv_at hl 1 rfl) ?_
  obtain ⟨v1, g1, h⟩ := ol h
  refine c_Vz (q := (RX0, TX0, 6)) (ci := 0) (b := 1) (As := [.int x1]) (rest := []) (A := AA ad) ⟨hx, hb, hml, hown, htb⟩ (c_X0_has l D ad cI hd σ τ η x1 v1 g1) (cwV 1 htb (gdV (fun _ hh => hh) wML_RX0_39 wIM_yX0_has wSE_yX0_has wI_RX0 wC_yX0_has) rfl rfl rfl hd_X0_has ⟨by decide, by decide⟩) hK hP rfl w_1 (fun _ hh => hh) hS rfl hl.1 rfl (Nat.le_of_ble_eq_true rfl) dX0_seenBy_2 ⟨Nat.le_refl 0, Nat.le_refl 0⟩ (fun H locs hz1 hP hS => ?_)
  refine lv_if_eq (tgt := 31) hx hb dX0_seenBy_5 (by decide) (fun c2 => ?_) (fun c2 => ?_)
  · replace h := ip c2 h
    refine lv_iconst (v := (0 : Int32)) hx hb dX0_seenBy_31 (by decide) ?_
    obtain rfl := Option.some.inj h
    exact ret _ _ _ _ _ dX0_seenBy_32 hP hS rfl
  · replace h := iq c2 h
    refine lv_iload_n hx hb dX0_seenBy_8 rfl (lv_at hl 2 rfl) ?_
    obtain ⟨v3, g3, h⟩ := ol h
    refine c_Nz (As := [.int x2]) (rest := []) (A := AA ad) ⟨hx, hb, hml, hown, htb⟩ (c_X7_isDay l D ad cI hd σ τ η x2 v3 g3) ⟨va_cnB 1 htb (gdW (fun _ hh => hh) wC_yX7_isDay) rfl rfl rfl (hK.2 _ wMN_RX0_31 rfl) (htb _ wI_RX7) hd_X7_isDay.2 ⟨by decide, by decide⟩, htb _ wST_yX7_isDay, trivial⟩ hK hP (fun _ hh => hh) hS rfl hl.1 rfl (Nat.le_of_ble_eq_true rfl) dX0_seenBy_9 ⟨Nat.le_refl 0, Nat.le_refl 0⟩ (fun H locs hz3 hP hS => ?_)
    refine lv_if_eq (tgt := 31) hx hb dX0_seenBy_12 (by decide) (fun c4 => ?_) (fun c4 => ?_)
    · replace h := ip c4 h
      refine lv_iconst (v := (0 : Int32)) hx hb dX0_seenBy_31 (by decide) ?_
      obtain rfl := Option.some.inj h
      exact ret _ _ _ _ _ dX0_seenBy_32 hP hS rfl
    · replace h := iq c4 h
      refine lv_aload_n hx hb dX0_seenBy_15 rfl (lv_at hl 0 rfl) ?_
      refine va_get (D := D) (ci := 0) (v := .ref (ad 5)) (C := RX0) (T := TX0) (N := 6) hx hb htb wu_0 hown hK.1 hP 1 w_1 rfl 3 (by decide) (htb _ wFL_RX0_21) (fun _ h9 => h9) rfl dX0_seenBy_16 ?_
      refine lv_iload_n hx hb dX0_seenBy_19 rfl (lv_at hl 2 rfl) ?_
      refine lv_iconst (v := (1 : Int32)) hx hb dX0_seenBy_20 (by decide) ?_
      refine lv_isub hx hb dX0_seenBy_21 ?_
      refine lv_bipush (v := (9 : Int32)) hx hb dX0_seenBy_22 (by decide) ?_
      refine lv_imul hx hb dX0_seenBy_24 ?_
      refine lv_iload_n hx hb dX0_seenBy_25 rfl (lv_at hl 1 rfl) ?_
      refine lv_iadd hx hb dX0_seenBy_26 ?_
      obtain ⟨v5, g5, h⟩ := ob h
      refine r_ald hx hb hK hP 5 w_5 g5 dX0_seenBy_27 ?_
      refine lv_goto (tgt := 32) hx hb dX0_seenBy_28 (by decide) ?_
      obtain rfl := Option.some.inj h
      exact ret _ _ _ _ _ dX0_seenBy_32 hP hS rfl
