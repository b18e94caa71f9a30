def X7_bit  (x0 : Int32) (x1 : Int32) : Int32 :=
  ((ishr x0 x1) &&& (1 : Int32))
abbrev rmX7_bit : Room := { frames := 0, cells := 0, slots := 0, locals := 0 }
set_option maxHeartbeats 4000000 in
set_option maxRecDepth 100000 in
theorem c_X7_bit (l : Launch) (D : va_G) (ad : Nat → Nat) (cI : ClassId) (hd : HD ad) (σ τ : St) (η : Int64) (x0 : Int32) (x1 : Int32) (rr : Int32) (h : X7_bit  x0 x1 = rr) : MI l yX7_bit (wy yX7_bit cX7_bit 2 (some .int)) rmX7_bit D ad cI [.int x0, .int x1] σ τ η rr σ τ η := by
  refine mk_i (own := RX7) (lv := [(0, .int x0), (1, .int x1)]) (plainFor_of_name (by decide)) rfl (Nat.le_of_ble_eq_true rfl) rfl ?_
  intro p e s m args below meth c Q ls hx hb hml hown htb hK ret hP hS hl
  unfold X7_bit at h
  refine lv_iload_n hx hb dX7_bit_0 rfl (lv_at hl 0 rfl) ?_
  refine lv_iload_n hx hb dX7_bit_1 rfl (lv_at hl 1 rfl) ?_
  refine lv_ishr hx hb dX7_bit_2 ?_
  refine lv_iconst (v := (1 : Int32)) hx hb dX7_bit_3 (by decide) ?_
  refine lv_iand hx hb dX7_bit_4 ?_
  subst h
  exact ret _ _ _ _ _ dX7_bit_5 hP hS rfl
def X0_putSeen (σ : St) (x1 : Int32) (x2 : Int32) (x3 : Int32) (x4 : Int32) : Option (St) :=
  lt (X0_has σ x1) fun v1 =>
  if v1 = 0 then (
    some σ)
  else (
    lt (X0_has σ x2) fun v3 =>
    if v3 = 0 then (
      some σ)
    else (
      lt (X7_isDay  x3) fun v5 =>
      if v5 = 0 then (
        some σ)
      else (
        bd (X0_seenBy σ x1 x3) fun v7 =>
        lt (X7_withBit  v7 x2 x4) fun v8 =>
        bd (wa σ 5 72 (((x3 - (1 : Int32)) * (9 : Int32)) + x1) v8) fun σ9 =>
        some σ9)))
abbrev rmX0_putSeen : Room := { frames := 2, cells := 0, slots := 0, locals := 43 }
set_option maxHeartbeats 4000000 in
set_option maxRecDepth 100000 in
theorem c_X0_putSeen (l : Launch) (D : va_G) (ad : Nat → Nat) (cI : ClassId) (hd : HD ad) (σ τ : St) (η : Int64) (x1 : Int32) (x2 : Int32) (x3 : Int32) (x4 : Int32) (rr : St) (h : X0_putSeen σ x1 x2 x3 x4 = some rr) : MV l yX0_putSeen (wy yX0_putSeen cX0_putSeen 5 none) rmX0_putSeen D ad cI [.ref (ad 1), .int x1, .int x2, .int x3, .int x4] σ τ η rr τ η := by
  refine mk_v (own := RX0) (lv := [(0, .ref (ad 1)), (1, .int x1), (2, .int x2), (3, .int x3), (4, .int x4)]) (plainFor_of_name (by decide)) rfl (Nat.le_of_ble_eq_true rfl) rfl ?_
  intro p e s m args below meth c Q ls hx hb hml hown htb hK ret hP hS hl
  unfold X0_putSeen at h
  refine lv_aload_n hx hb dX0_putSeen_0 rfl (lv_at hl 0 rfl) ?_
  refine lv_iload_n hx hb dX0_putSeen_1 rfl (lv_at hl 1 rfl) ?_
  obtain ⟨v1, g1, h⟩ := ol h
  refine c_Vz (q := (RX0, TX0, 6)) (ci := 0) (b := 1) (As := [.int x1]) (rest := []) (A := AA ad) ⟨hx, hb, hml, hown, htb⟩ (c_X0_has l D ad cI hd σ τ η x1 v1 g1) (cwV 1 htb (gdV (fun _ hh => hh) wML_RX0_39 wIM_yX0_has wSE_yX0_has wI_RX0 wC_yX0_has) rfl rfl rfl hd_X0_has ⟨by decide, by decide⟩) hK hP rfl w_1 (fun _ hh => hh) hS rfl hl.1 rfl (Nat.le_of_ble_eq_true rfl) dX0_putSeen_2 ⟨Nat.le_refl 0, Nat.le_refl 0⟩ (fun H locs hz1 hP hS => ?_)
  refine lv_if_eq (tgt := 48) hx hb dX0_putSeen_5 (by decide) (fun c2 => ?_) (fun c2 => ?_)
  · replace h := ip c2 h
    obtain rfl := Option.some.inj h
    exact ret _ _ _ _ dX0_putSeen_48 hP hS
  · replace h := iq c2 h
    refine lv_aload_n hx hb dX0_putSeen_8 rfl (lv_at hl 0 rfl) ?_
    refine lv_iload_n hx hb dX0_putSeen_9 rfl (lv_at hl 2 rfl) ?_
    obtain ⟨v3, g3, h⟩ := ol h
    refine c_Vz (q := (RX0, TX0, 6)) (ci := 0) (b := 1) (As := [.int x2]) (rest := []) (A := AA ad) ⟨hx, hb, hml, hown, htb⟩ (c_X0_has l D ad cI hd σ τ η x2 v3 g3) (cwV 1 htb (gdV (fun _ hh => hh) wML_RX0_39 wIM_yX0_has wSE_yX0_has wI_RX0 wC_yX0_has) rfl rfl rfl hd_X0_has ⟨by decide, by decide⟩) hK hP rfl w_1 (fun _ hh => hh) hS rfl hl.1 rfl (Nat.le_of_ble_eq_true rfl) dX0_putSeen_10 ⟨Nat.le_refl 0, Nat.le_refl 0⟩ (fun H locs hz3 hP hS => ?_)
    refine lv_if_eq (tgt := 48) hx hb dX0_putSeen_13 (by decide) (fun c4 => ?_) (fun c4 => ?_)
    · replace h := ip c4 h
      obtain rfl := Option.some.inj h
      exact ret _ _ _ _ dX0_putSeen_48 hP hS
    · replace h := iq c4 h
      refine lv_iload_n hx hb dX0_putSeen_16 rfl (lv_at hl 3 rfl) ?_
      obtain ⟨v5, g5, h⟩ := ol h
      refine c_Nz (As := [.int x3]) (rest := []) (A := AA ad) ⟨hx, hb, hml, hown, htb⟩ (c_X7_isDay l D ad cI hd σ τ η x3 v5 g5) ⟨va_cnB 1 htb (gdW (fun _ hh => hh) wC_yX7_isDay) rfl rfl rfl (hK.2 _ wMN_RX0_31 rfl) (htb _ wI_RX7) hd_X7_isDay.2 ⟨by decide, by decide⟩, htb _ wST_yX7_isDay, trivial⟩ hK hP (fun _ hh => hh) hS rfl hl.1 rfl (Nat.le_of_ble_eq_true rfl) dX0_putSeen_17 ⟨Nat.le_refl 0, Nat.le_refl 0⟩ (fun H locs hz5 hP hS => ?_)
      refine lv_if_eq (tgt := 48) hx hb dX0_putSeen_20 (by decide) (fun c6 => ?_) (fun c6 => ?_)
      · replace h := ip c6 h
        obtain rfl := Option.some.inj h
        exact ret _ _ _ _ dX0_putSeen_48 hP hS
      · replace h := iq c6 h
        refine lv_aload_n hx hb dX0_putSeen_23 rfl (lv_at hl 0 rfl) ?_
        refine va_get (D := D) (ci := 0) (v := .ref (ad 5)) (C := RX0) (T := TX0) (N := 6) hx hb htb wu_0 hown hK.1 hP 1 w_1 rfl 3 (by decide) (htb _ wFL_RX0_21) (fun _ h9 => h9) rfl dX0_putSeen_24 ?_
        refine lv_iload_n hx hb dX0_putSeen_27 rfl (lv_at hl 3 rfl) ?_
        refine lv_iconst (v := (1 : Int32)) hx hb dX0_putSeen_28 (by decide) ?_
        refine lv_isub hx hb dX0_putSeen_29 ?_
        refine lv_bipush (v := (9 : Int32)) hx hb dX0_putSeen_30 (by decide) ?_
        refine lv_imul hx hb dX0_putSeen_32 ?_
        refine lv_iload_n hx hb dX0_putSeen_33 rfl (lv_at hl 1 rfl) ?_
        refine lv_iadd hx hb dX0_putSeen_34 ?_
        refine lv_aload_n hx hb dX0_putSeen_35 rfl (lv_at hl 0 rfl) ?_
        refine lv_iload_n hx hb dX0_putSeen_36 rfl (lv_at hl 1 rfl) ?_
        refine lv_iload_n hx hb dX0_putSeen_37 rfl (lv_at hl 3 rfl) ?_
        obtain ⟨v7, g7, h⟩ := ob h
        refine c_Vi (q := (RX0, TX0, 6)) (ci := 0) (b := 1) (As := [.int x1, .int x3]) (rest := [.int (((x3 - (1 : Int32)) * (9 : Int32)) + x1), .ref (ad 5)]) (A := AA ad) ⟨hx, hb, hml, hown, htb⟩ (c_X0_seenBy l D ad cI hd σ τ η x1 x3 v7 g7) (cwV 2 htb (gdV (fun _ hh => hh) wML_RX0_50 wIM_yX0_seenBy wSE_yX0_seenBy wI_RX0 wC_yX0_seenBy) rfl rfl rfl hd_X0_seenBy ⟨by decide, by decide⟩) hK hP rfl w_1 (fun _ hh => hh) hS rfl hl.1 rfl (Nat.le_of_ble_eq_true rfl) dX0_putSeen_38 ⟨Nat.le_refl 0, Nat.le_refl 0⟩ (fun H locs hP hS => ?_)
        refine lv_iload_n hx hb dX0_putSeen_41 rfl (lv_at hl 2 rfl) ?_
        refine lv_iload hx hb dX0_putSeen_42 (lv_at hl 4 rfl) ?_
        obtain ⟨v8, g8, h⟩ := ol h
        refine c_Ni (As := [.int v7, .int x2, .int x4]) (rest := [.int (((x3 - (1 : Int32)) * (9 : Int32)) + x1), .ref (ad 5)]) (A := AA ad) ⟨hx, hb, hml, hown, htb⟩ (c_X7_withBit l D ad cI hd σ τ η v7 x2 x4 v8 g8) ⟨va_cnB 3 htb (gdW (fun _ hh => hh) wC_yX7_withBit) rfl rfl rfl (hK.2 _ wMN_RX0_35 rfl) (htb _ wI_RX7) hd_X7_withBit.2 ⟨by decide, by decide⟩, htb _ wST_yX7_withBit, trivial⟩ hK hP (fun _ hh => hh) hS rfl hl.1 rfl (Nat.le_of_ble_eq_true rfl) dX0_putSeen_44 ⟨Nat.le_refl 0, Nat.le_refl 0⟩ (fun H locs hP hS => ?_)
        obtain ⟨σ9, g9, h⟩ := ob h
        refine r_astC (A := AA ad) hx hb hK hd (fun _ hh => hh) hP hS 5 72 (by decide) (fun _ => rfl) g9 dX0_putSeen_47 (fun H locs hP hS => ?_)
        obtain rfl := Option.some.inj h
        exact ret _ _ _ _ dX0_putSeen_48 hP hS
def X0_copyTold_L1 (n : Nat) (σ_1 : St) (y1_2 : Int32) : Option (Int32 × St) := match n with
  | 0 => none
  | n + 1 =>
    if (9 : Int32) ≤ y1_2 then (
      some (y1_2, σ_1))
    else (
      if (9 : Int32) ≤ y1_2 then (
        some (y1_2, σ_1))
      else (
        bd (rd (σ_1 4) 9 y1_2) fun v4 =>
        bd (wa σ_1 26 9 y1_2 v4) fun σ5 =>
        X0_copyTold_L1 n σ5 (y1_2 + (1 : Int32))))
theorem X0_copyTold_L1_s (n : Nat) (σ_1 : St) (y1_2 : Int32) : X0_copyTold_L1 (n + 1) σ_1 y1_2 =
    if (9 : Int32) ≤ y1_2 then (
      some (y1_2, σ_1))
    else (
      if (9 : Int32) ≤ y1_2 then (
        some (y1_2, σ_1))
      else (
        bd (rd (σ_1 4) 9 y1_2) fun v4 =>
        bd (wa σ_1 26 9 y1_2 v4) fun σ5 =>
        X0_copyTold_L1 n σ5 (y1_2 + (1 : Int32)))) := rfl
def X0_copyTold (σ : St)  : Option (St) :=
  bd (X0_copyTold_L1 10000 σ (0 : Int32)) fun v1 =>
  some v1.2
abbrev rmX0_copyTold : Room := { frames := 0, cells := 0, slots := 0, locals := 0 }
set_option maxHeartbeats 4000000 in
set_option maxRecDepth 100000 in
theorem c_X0_copyTold (l : Launch) (D : va_G) (ad : Nat → Nat) (cI : ClassId) (hd : HD ad) (σ τ : St) (η : Int64)  (rr : St) (h : X0_copyTold σ  = some rr) : MV l yX0_copyTold (wy yX0_copyTold cX0_copyTold 3 none) rmX0_copyTold D ad cI [.ref (ad 1), .ref (ad 26)] σ τ η rr τ η := by
  refine mk_v (own := RX0) (lv := [(0, .ref (ad 1)), (1, .ref (ad 26))]) (plainFor_of_name (by decide)) rfl (Nat.le_of_ble_eq_true rfl) rfl ?_
  intro p e s m args below meth c Q ls hx hb hml hown htb hK ret hP hS hl
  unfold X0_copyTold at h
  refine lv_iconst (v := (0 : Int32)) hx hb dX0_copyTold_0 (by decide) ?_
  refine lv_istore_n (lv' := [(2, .int (0 : Int32)), (0, .ref (ad 1)), (1, .ref (ad 26))]) hx hb dX0_copyTold_1 rfl hl (by decide) rfl (fun ls hl => ?_)
  obtain ⟨v1, hj1, h⟩ := ob h
  have K1 : ∀ (H : Heap) (locs : List Loc) (ls : Array Slot), WP D ad cI v1.2 τ η H → va_S (AA ad) s.heap H locs → lv_has ls 3 [] → W p l e rmX0_copyTold s m args below meth c H locs 0 0 Q (F0 m 29 ls []) := by
    intro H locs ls hP hS hl
    obtain rfl := Option.some.inj h
    exact ret _ _ _ _ dX0_copyTold_29 hP hS
  have L1 : ∀ (n : Nat) (σ_1 : St) (y1_2 : Int32) (H : Heap) (locs : List Loc) (ls : Array Slot), X0_copyTold_L1 n σ_1 y1_2 = some v1 → WP D ad cI σ_1 τ η H → va_S (AA ad) s.heap H locs → lv_has ls 3 [(0, .ref (ad 1)), (1, .ref (ad 26)), (2, .int y1_2)] → W p l e rmX0_copyTold s m args below meth c H locs 0 0 Q (F0 m 2 ls []) := by
    intro n
    induction n with
    | zero => intro σ_1 y1_2 H locs ls h; exact absurd h (by simp [X0_copyTold_L1])
    | succ n ih =>
      intro σ_1 y1_2 H locs ls h hP hS hl
      replace h := (X0_copyTold_L1_s n σ_1 y1_2).symm.trans h
      refine lv_iload_n hx hb dX0_copyTold_2 rfl (lv_at hl 2 rfl) ?_
      refine lv_bipush (v := (9 : Int32)) hx hb dX0_copyTold_3 (by decide) ?_
      refine lv_icmp_ge (tgt := 29) hx hb dX0_copyTold_5 (by decide) (fun c2 => ?_) (fun c2 => ?_)
      · replace h := ip c2 h
        obtain rfl := Option.some.inj h
        exact K1 _ _ _ hP hS (lv_sub hl [] rfl)
      · replace h := iq c2 h
        refine lv_iload_n hx hb dX0_copyTold_8 rfl (lv_at hl 2 rfl) ?_
        refine lv_aload_n hx hb dX0_copyTold_9 rfl (lv_at hl 1 rfl) ?_
        refine r_len (v := (9 : Int32)) hx hb hK hP 26 w_26 (by decide) dX0_copyTold_10 ?_
        refine lv_icmp_ge (tgt := 29) hx hb dX0_copyTold_11 (by decide) (fun c3 => ?_) (fun c3 => ?_)
        · replace h := ip c3 h
          obtain rfl := Option.some.inj h
          exact K1 _ _ _ hP hS (lv_sub hl [] rfl)
        · replace h := iq c3 h
          refine lv_aload_n hx hb dX0_copyTold_14 rfl (lv_at hl 1 rfl) ?_
          refine lv_iload_n hx hb dX0_copyTold_15 rfl (lv_at hl 2 rfl) ?_
          refine lv_aload_n hx hb dX0_copyTold_16 rfl (lv_at hl 0 rfl) ?_
          refine va_get (D := D) (ci := 0) (v := .ref (ad 4)) (C := RX0) (T := TX0) (N := 6) hx hb htb wu_0 hown hK.1 hP 1 w_1 rfl 2 (by decide) (htb _ wFL_RX0_18) (fun _ h9 => h9) rfl dX0_copyTold_17 ?_
          refine lv_iload_n hx hb dX0_copyTold_20 rfl (lv_at hl 2 rfl) ?_
          obtain ⟨v4, g4, h⟩ := ob h
          refine r_ald hx hb hK hP 4 w_4 g4 dX0_copyTold_21 ?_
          obtain ⟨σ5, g5, h⟩ := ob h
          refine r_astC (A := AA ad) hx hb hK hd (fun _ hh => hh) hP hS 26 9 (by decide) (fun _ => rfl) g5 dX0_copyTold_22 (fun H locs hP hS => ?_)
          refine lv_iinc (v := (y1_2 + (1 : Int32))) (lv' := [(2, .int (y1_2 + (1 : Int32))), (0, .ref (ad 1)), (1, .ref (ad 26))]) hx hb dX0_copyTold_23 hl (k := 2) rfl rfl (by decide) rfl (fun ls hl => ?_)
          refine lv_goto (tgt := 2) hx hb dX0_copyTold_26 (by decide) ?_
          exact ih σ5 (y1_2 + (1 : Int32)) _ _ _ h hP hS (lv_sub hl [1, 2, 0] rfl)
  exact L1 10000 σ (0 : Int32) _ _ _ hj1 hP hS (lv_sub hl [1, 2, 0] rfl)
def X0_size (σ : St)  : Int32 :=
  (σ 1 5)
abbrev rmX0_size : Room := { frames := 0, cells := 0, slots := 0, locals := 0 }
set_option maxHeartbeats 4000000 in
set_option maxRecDepth 100000 in
theorem c_X0_size (l : Launch) (D : va_G) (ad : Nat → Nat) (cI : ClassId) (hd : HD ad) (σ τ : St) (η : Int64)  (rr : Int32) (h : X0_size σ  = rr) : MI l yX0_size (wy yX0_size cX0_size 1 (some .int)) rmX0_size D ad cI [.ref (ad 1)] σ τ η rr σ τ η := by
  refine mk_i (own := RX0) (lv := [(0, .ref (ad 1))]) (plainFor_of_name (by decide)) rfl (Nat.le_of_ble_eq_true rfl) rfl ?_
  intro p e s m args below meth c Q ls hx hb hml hown htb hK ret hP hS hl
  unfold X0_size at h
  refine lv_aload_n hx hb dX0_size_0 rfl (lv_at hl 0 rfl) ?_
  refine va_get (D := D) (ci := 0) (v := .int (σ 1 5)) (C := RX0) (T := TX0) (N := 6) hx hb htb wu_0 hown hK.1 hP 1 w_1 rfl 5 (by decide) (htb _ wFL_RX0_28) (fun _ h9 => h9) rfl dX0_size_1 ?_
  subst h
  exact ret _ _ _ _ _ dX0_size_4 hP hS rfl
def X0_aunts (σ : St)  : Int32 :=
  (σ 1 4)
abbrev rmX0_aunts : Room := { frames := 0, cells := 0, slots := 0, locals := 0 }
set_option maxHeartbeats 4000000 in
set_option maxRecDepth 100000 in
theorem c_X0_aunts (l : Launch) (D : va_G) (ad : Nat → Nat) (cI : ClassId) (hd : HD ad) (σ τ : St) (η : Int64)  (rr : Int32) (h : X0_aunts σ  = rr) : MI l yX0_aunts (wy yX0_aunts cX0_aunts 1 (some .int)) rmX0_aunts D ad cI [.ref (ad 1)] σ τ η rr σ τ η := by
  refine mk_i (own := RX0) (lv := [(0, .ref (ad 1))]) (plainFor_of_name (by decide)) rfl (Nat.le_of_ble_eq_true rfl) rfl ?_
  intro p e s m args below meth c Q ls hx hb hml hown htb hK ret hP hS hl
  unfold X0_aunts at h
  refine lv_aload_n hx hb dX0_aunts_0 rfl (lv_at hl 0 rfl) ?_
  refine va_get (D := D) (ci := 0) (v := .int (σ 1 4)) (C := RX0) (T := TX0) (N := 6) hx hb htb wu_0 hown hK.1 hP 1 w_1 rfl 4 (by decide) (htb _ wFL_RX0_24) (fun _ h9 => h9) rfl dX0_aunts_1 ?_
  subst h
  exact ret _ _ _ _ _ dX0_aunts_4 hP hS rfl
def X0_seenByAny_L1 (n : Nat) (σ_1 : St) (u1_1 : Int32) (u1_3 : Int32) (y1_4 : Int32) (y1_5 : Int32) : Option (Int32 × Int32) := match n with
  | 0 => none
  | n + 1 =>
    if (σ_1 1 5) ≤ y1_5 then (
      some (y1_4, y1_5))
    else (
      lt (X7_bit  u1_1 y1_5) fun v5 =>
      bd ((
          if v5 = (1 : Int32) then (
            bd (rd (σ_1 5) 72 (u1_3 + y1_5)) fun v8 =>
            some (y1_4 ||| v8))
          else (
            some y1_4)) : Option (Int32)) fun v7 =>
      X0_seenByAny_L1 n σ_1 u1_1 u1_3 v7 (y1_5 + (1 : Int32)))
theorem X0_seenByAny_L1_s (n : Nat) (σ_1 : St) (u1_1 : Int32) (u1_3 : Int32) (y1_4 : Int32) (y1_5 : Int32) : X0_seenByAny_L1 (n + 1) σ_1 u1_1 u1_3 y1_4 y1_5 =
    if (σ_1 1 5) ≤ y1_5 then (
      some (y1_4, y1_5))
    else (
      lt (X7_bit  u1_1 y1_5) fun v5 =>
      bd ((
          if v5 = (1 : Int32) then (
            bd (rd (σ_1 5) 72 (u1_3 + y1_5)) fun v8 =>
            some (y1_4 ||| v8))
          else (
            some y1_4)) : Option (Int32)) fun v7 =>
      X0_seenByAny_L1 n σ_1 u1_1 u1_3 v7 (y1_5 + (1 : Int32))) := rfl
def X0_seenByAny (σ : St) (x1 : Int32) (x2 : Int32) : Option (Int32) :=
  lt (X7_isDay  x2) fun v1 =>
  if v1 = 0 then (
    some (0 : Int32))
  else (
    bd (X0_seenByAny_L1 10000 σ x1 ((x2 - (1 : Int32)) * (9 : Int32)) (0 : Int32) (0 : Int32)) fun v3 =>
    some v3.1)
abbrev rmX0_seenByAny : Room := { frames := 1, cells := 0, slots := 0, locals := 21 }
set_option maxHeartbeats 4000000 in
set_option maxRecDepth 100000 in
theorem c_X0_seenByAny (l : Launch) (D : va_G) (ad : Nat → Nat) (cI : ClassId) (hd : HD ad) (σ τ : St) (η : Int64) (x1 : Int32) (x2 : Int32) (rr : Int32) (h : X0_seenByAny σ x1 x2 = some rr) : MI l yX0_seenByAny (wy yX0_seenByAny cX0_seenByAny 6 (some .int)) rmX0_seenByAny D ad cI [.ref (ad 1), .int x1, .int x2] σ τ η rr σ τ η := by
  refine mk_i (own := RX0) (lv := [(0, .ref (ad 1)), (1, .int x1), (2, .int x2)]) (plainFor_of_name (by decide)) rfl (Nat.le_of_ble_eq_true rfl) rfl ?_
  intro p e s m args below meth c Q ls hx hb hml hown htb hK ret hP hS hl
  unfold X0_seenByAny at h
  refine lv_iload_n hx hb dX0_seenByAny_0 rfl (lv_at hl 2 rfl) ?_
  obtain ⟨v1, g1, h⟩ := ol h
  refine c_Nz (As := [.int x2]) (rest := []) (A := AA ad) ⟨hx, hb, hml, hown, htb⟩ (c_X7_isDay l D ad cI hd σ τ η x2 v1 g1) ⟨va_cnB 1 htb (gdW (fun _ hh => hh) wC_yX7_isDay) rfl rfl rfl (hK.2 _ wMN_RX0_31 rfl) (htb _ wI_RX7) hd_X7_isDay.2 ⟨by decide, by decide⟩, htb _ wST_yX7_isDay, trivial⟩ hK hP (fun _ hh => hh) hS rfl hl.1 rfl (Nat.le_of_ble_eq_true rfl) dX0_seenByAny_1 ⟨Nat.le_refl 0, Nat.le_refl 0⟩ (fun H locs hz1 hP hS => ?_)
  refine lv_if_ne (tgt := 9) hx hb dX0_seenByAny_4 (by decide) (fun c2 => ?_) (fun c2 => ?_)
  · replace h := iq c2 h
    refine lv_iload_n hx hb dX0_seenByAny_9 rfl (lv_at hl 2 rfl) ?_
    refine lv_iconst (v := (1 : Int32)) hx hb dX0_seenByAny_10 (by decide) ?_
    refine lv_isub hx hb dX0_seenByAny_11 ?_
    refine lv_bipush (v := (9 : Int32)) hx hb dX0_seenByAny_12 (by decide) ?_
    refine lv_imul hx hb dX0_seenByAny_14 ?_
    refine lv_istore_n (lv' := [(3, .int ((x2 - (1 : Int32)) * (9 : Int32))), (0, .ref (ad 1)), (1, .int x1), (2, .int x2)]) hx hb dX0_seenByAny_15 rfl hl (by decide) rfl (fun ls hl => ?_)
    refine lv_iconst (v := (0 : Int32)) hx hb dX0_seenByAny_16 (by decide) ?_
    refine lv_istore (lv' := [(4, .int (0 : Int32)), (3, .int ((x2 - (1 : Int32)) * (9 : Int32))), (0, .ref (ad 1)), (1, .int x1), (2, .int x2)]) hx hb dX0_seenByAny_17 hl (by decide) rfl (fun ls hl => ?_)
    refine lv_iconst (v := (0 : Int32)) hx hb dX0_seenByAny_19 (by decide) ?_
    refine lv_istore (lv' := [(5, .int (0 : Int32)), (4, .int (0 : Int32)), (3, .int ((x2 - (1 : Int32)) * (9 : Int32))), (0, .ref (ad 1)), (1, .int x1), (2, .int x2)]) hx hb dX0_seenByAny_20 hl (by decide) rfl (fun ls hl => ?_)
    obtain ⟨v3, hj3, h⟩ := ob h
    have K1 : ∀ (H : Heap) (locs : List Loc) (ls : Array Slot), WP D ad cI σ τ η H → va_S (AA ad) s.heap H locs → lv_has ls 6 [(4, .int v3.1)] → W p l e rmX0_seenByAny s m args below meth c H locs 0 0 Q (F0 m 61 ls []) := by
      intro H locs ls hP hS hl
      refine lv_iload hx hb dX0_seenByAny_61 (lv_at hl 0 rfl) ?_
      obtain rfl := Option.some.inj h
      exact ret _ _ _ _ _ dX0_seenByAny_63 hP hS rfl
    have L1 : ∀ (n : Nat) (y1_4 : Int32) (y1_5 : Int32) (H : Heap) (locs : List Loc) (ls : Array Slot), X0_seenByAny_L1 n σ x1 ((x2 - (1 : Int32)) * (9 : Int32)) y1_4 y1_5 = some v3 → WP D ad cI σ τ η H → va_S (AA ad) s.heap H locs → lv_has ls 6 [(0, .ref (ad 1)), (1, .int x1), (3, .int ((x2 - (1 : Int32)) * (9 : Int32))), (4, .int y1_4), (5, .int y1_5)] → W p l e rmX0_seenByAny s m args below meth c H locs 0 0 Q (F0 m 22 ls []) := by
      intro n
      induction n with
      | zero => intro y1_4 y1_5 H locs ls h; exact absurd h (by simp [X0_seenByAny_L1])
      | succ n ih =>
        intro y1_4 y1_5 H locs ls h hP hS hl
        replace h := (X0_seenByAny_L1_s n σ x1 ((x2 - (1 : Int32)) * (9 : Int32)) y1_4 y1_5).symm.trans h
        refine lv_iload hx hb dX0_seenByAny_22 (lv_at hl 4 rfl) ?_
        refine lv_aload_n hx hb dX0_seenByAny_24 rfl (lv_at hl 0 rfl) ?_
        refine va_get (D := D) (ci := 0) (v := .int (σ 1 5)) (C := RX0) (T := TX0) (N := 6) hx hb htb wu_0 hown hK.1 hP 1 w_1 rfl 5 (by decide) (htb _ wFL_RX0_28) (fun _ h9 => h9) rfl dX0_seenByAny_25 ?_
        refine lv_icmp_ge (tgt := 61) hx hb dX0_seenByAny_28 (by decide) (fun c4 => ?_) (fun c4 => ?_)
        · replace h := ip c4 h
          obtain rfl := Option.some.inj h
          exact K1 _ _ _ hP hS (lv_sub hl [3] rfl)
        · replace h := iq c4 h
          refine lv_iload_n hx hb dX0_seenByAny_31 rfl (lv_at hl 1 rfl) ?_
          refine lv_iload hx hb dX0_seenByAny_32 (lv_at hl 4 rfl) ?_
          obtain ⟨v5, g5, h⟩ := ol h
          refine c_Ni (As := [.int x1, .int y1_5]) (rest := []) (A := AA ad) ⟨hx, hb, hml, hown, htb⟩ (c_X7_bit l D ad cI hd σ τ η x1 y1_5 v5 g5) ⟨va_cnB 2 htb (gdW (fun _ hh => hh) wC_yX7_bit) rfl rfl rfl (hK.2 _ wMN_RX0_54 rfl) (htb _ wI_RX7) hd_X7_bit.2 ⟨by decide, by decide⟩, htb _ wST_yX7_bit, trivial⟩ hK hP (fun _ hh => hh) hS rfl hl.1 rfl (Nat.le_of_ble_eq_true rfl) dX0_seenByAny_34 ⟨Nat.le_refl 0, Nat.le_refl 0⟩ (fun H locs hP hS => ?_)
          refine lv_iconst (v := (1 : Int32)) hx hb dX0_seenByAny_37 (by decide) ?_
          obtain ⟨v7, hj7, h⟩ := ob h
          have J7 : ∀ (H : Heap) (locs : List Loc) (ls : Array Slot), WP D ad cI σ τ η H → va_S (AA ad) s.heap H locs → lv_has ls 6 [(0, .ref (ad 1)), (1, .int x1), (3, .int ((x2 - (1 : Int32)) * (9 : Int32))), (4, .int v7), (5, .int y1_5)] → W p l e rmX0_seenByAny s m args below meth c H locs 0 0 Q (F0 m 55 ls []) := by
            intro H locs ls hP hS hl
            refine lv_iinc (v := (y1_5 + (1 : Int32))) (lv' := [(5, .int (y1_5 + (1 : Int32))), (0, .ref (ad 1)), (1, .int x1), (3, .int ((x2 - (1 : Int32)) * (9 : Int32))), (4, .int v7)]) hx hb dX0_seenByAny_55 hl (k := 4) rfl rfl (by decide) rfl (fun ls hl => ?_)
            refine lv_goto (tgt := 22) hx hb dX0_seenByAny_58 (by decide) ?_
            exact ih v7 (y1_5 + (1 : Int32)) _ _ _ h hP hS (lv_sub hl [1, 2, 3, 4, 0] rfl)
          replace h := hj7
          refine lv_icmp_ne (tgt := 55) hx hb dX0_seenByAny_38 (by decide) (fun c6 => ?_) (fun c6 => ?_)
          · replace h := iq c6 h
            obtain rfl := Option.some.inj h
            exact J7 _ _ _ hP hS (lv_sub hl [0, 1, 2, 3, 4] rfl)
          · replace h := ip c6 h
            refine lv_iload hx hb dX0_seenByAny_41 (lv_at hl 3 rfl) ?_
            refine lv_aload_n hx hb dX0_seenByAny_43 rfl (lv_at hl 0 rfl) ?_
            refine va_get (D := D) (ci := 0) (v := .ref (ad 5)) (C := RX0) (T := TX0) (N := 6) hx hb htb wu_0 hown hK.1 hP 1 w_1 rfl 3 (by decide) (htb _ wFL_RX0_21) (fun _ h9 => h9) rfl dX0_seenByAny_44 ?_
            refine lv_iload_n hx hb dX0_seenByAny_47 rfl (lv_at hl 2 rfl) ?_
            refine lv_iload hx hb dX0_seenByAny_48 (lv_at hl 4 rfl) ?_
            refine lv_iadd hx hb dX0_seenByAny_50 ?_
            obtain ⟨v8, g8, h⟩ := ob h
            refine r_ald hx hb hK hP 5 w_5 g8 dX0_seenByAny_51 ?_
            refine lv_ior hx hb dX0_seenByAny_52 ?_
            refine lv_istore (lv' := [(4, .int (y1_4 ||| v8)), (0, .ref (ad 1)), (1, .int x1), (3, .int ((x2 - (1 : Int32)) * (9 : Int32))), (5, .int y1_5)]) hx hb dX0_seenByAny_53 hl (by decide) rfl (fun ls hl => ?_)
            obtain rfl := Option.some.inj h
            exact J7 _ _ _ hP hS (lv_sub hl [1, 2, 3, 0, 4] rfl)
    exact L1 10000 (0 : Int32) (0 : Int32) _ _ _ hj3 hP hS (lv_sub hl [3, 4, 2, 1, 0] rfl)
  · replace h := ip c2 h
    refine lv_iconst (v := (0 : Int32)) hx hb dX0_seenByAny_7 (by decide) ?_
    obtain rfl := Option.some.inj h
    exact ret _ _ _ _ _ dX0_seenByAny_8 hP hS rfl
def X6_follow_L2 (n : Nat) (σ_2 : St) (y2_3 : Int32) (u2_4 : Int32) (y2_5 : Int32) : Option (Int32 × Int32) := match n with
  | 0 => none
  | n + 1 =>
    lt (X0_size σ_2 ) fun v4 =>
    if v4 ≤ y2_5 then (
      some (y2_3, y2_5))
    else (
      if (9 : Int32) ≤ y2_5 then (
        some (y2_3, y2_5))
      else (
        bd (rd (σ_2 26) 9 y2_5) fun v7 =>
        lt ((
            if v7 = u2_4 then (
              lt (X7_withBit  y2_3 y2_5 (1 : Int32)) fun v10 =>
              v10)
            else (
              y2_3)) : Int32) fun v9 =>
        X6_follow_L2 n σ_2 v9 u2_4 (y2_5 + (1 : Int32))))
theorem X6_follow_L2_s (n : Nat) (σ_2 : St) (y2_3 : Int32) (u2_4 : Int32) (y2_5 : Int32) : X6_follow_L2 (n + 1) σ_2 y2_3 u2_4 y2_5 =
    lt (X0_size σ_2 ) fun v4 =>
    if v4 ≤ y2_5 then (
      some (y2_3, y2_5))
    else (
      if (9 : Int32) ≤ y2_5 then (
        some (y2_3, y2_5))
      else (
        bd (rd (σ_2 26) 9 y2_5) fun v7 =>
        lt ((
            if v7 = u2_4 then (
              lt (X7_withBit  y2_3 y2_5 (1 : Int32)) fun v10 =>
              v10)
            else (
              y2_3)) : Int32) fun v9 =>
        X6_follow_L2 n σ_2 v9 u2_4 (y2_5 + (1 : Int32)))) := rfl
def X6_follow_L1 (n : Nat) (σ_1 : St) (y1_3 : Int32) (y1_4 : Int32) : Option (Int32 × Int32 × St) := match n with
  | 0 => none
  | n + 1 =>
    if (8 : Int32) < y1_4 then (
      some (y1_3, y1_4, σ_1))
    else (
      bd (X6_follow_L2 10000 σ_1 y1_3 y1_4 (0 : Int32)) fun v3 =>
      bd (wa σ_1 7 10 y1_4 v3.1) fun σ11 =>
      lt (X0_aunts σ11 ) fun v12 =>
      bd (X0_seenByAny σ11 (v3.1 &&& v12) y1_4) fun v13 =>
      X6_follow_L1 n σ11 (v3.1 ||| v13) (y1_4 + (1 : Int32)))
theorem X6_follow_L1_s (n : Nat) (σ_1 : St) (y1_3 : Int32) (y1_4 : Int32) : X6_follow_L1 (n + 1) σ_1 y1_3 y1_4 =
    if (8 : Int32) < y1_4 then (
      some (y1_3, y1_4, σ_1))
    else (
      bd (X6_follow_L2 10000 σ_1 y1_3 y1_4 (0 : Int32)) fun v3 =>
      bd (wa σ_1 7 10 y1_4 v3.1) fun σ11 =>
      lt (X0_aunts σ11 ) fun v12 =>
      bd (X0_seenByAny σ11 (v3.1 &&& v12) y1_4) fun v13 =>
      X6_follow_L1 n σ11 (v3.1 ||| v13) (y1_4 + (1 : Int32))) := rfl
def X6_follow (σ : St)  : Option (St) :=
  bd (X6_follow_L1 10000 σ (0 : Int32) (1 : Int32)) fun v1 =>
  bd (wa v1.2.2 7 10 (9 : Int32) v1.1) fun σ14 =>
  some σ14
abbrev rmX6_follow : Room := { frames := 2, cells := 0, slots := 0, locals := 46 }
set_option maxHeartbeats 4000000 in
set_option maxRecDepth 100000 in
theorem c_X6_follow (l : Launch) (D : va_G) (ad : Nat → Nat) (cI : ClassId) (hd : HD ad) (σ τ : St) (η : Int64)  (rr : St) (h : X6_follow σ  = some rr) : MV l yX6_follow (wy yX6_follow cX6_follow 6 none) rmX6_follow D ad cI [.ref (ad 6), .ref (ad 1), .ref (ad 26)] σ τ η rr τ η := by
  refine mk_v (own := RX6) (lv := [(0, .ref (ad 6)), (1, .ref (ad 1)), (2, .ref (ad 26))]) (plainFor_of_name (by decide)) rfl (Nat.le_of_ble_eq_true rfl) rfl ?_
  intro p e s m args below meth c Q ls hx hb hml hown htb hK ret hP hS hl
  unfold X6_follow at h
  refine lv_iconst (v := (0 : Int32)) hx hb dX6_follow_0 (by decide) ?_
  refine lv_istore_n (lv' := [(3, .int (0 : Int32)), (0, .ref (ad 6)), (1, .ref (ad 1)), (2, .ref (ad 26))]) hx hb dX6_follow_1 rfl hl (by decide) rfl (fun ls hl => ?_)
  refine lv_iconst (v := (1 : Int32)) hx hb dX6_follow_2 (by decide) ?_
  refine lv_istore (lv' := [(4, .int (1 : Int32)), (3, .int (0 : Int32)), (0, .ref (ad 6)), (1, .ref (ad 1)), (2, .ref (ad 26))]) hx hb dX6_follow_3 hl (by decide) rfl (fun ls hl => ?_)
  obtain ⟨v1, hj1, h⟩ := ob h
  have K1 : ∀ (H : Heap) (locs : List Loc) (ls : Array Slot), WP D ad cI v1.2.2 τ η H → va_S (AA ad) s.heap H locs → lv_has ls 6 [(0, .ref (ad 6)), (3, .int v1.1)] → W p l e rmX6_follow s m args below meth c H locs 0 0 Q (F0 m 83 ls []) := by
    intro H locs ls hP hS hl
    refine lv_aload_n hx hb dX6_follow_83 rfl (lv_at hl 0 rfl) ?_
    refine va_get (D := D) (ci := 6) (v := .ref (ad 7)) (C := RX6) (T := TX6) (N := 1) hx hb htb wu_6 hown hK.1 hP 6 w_6 rfl 0 (by decide) (htb _ wFL_RX6_9) (fun _ h9 => h9) rfl dX6_follow_84 ?_
    refine lv_bipush (v := (9 : Int32)) hx hb dX6_follow_87 (by decide) ?_
    refine lv_iload_n hx hb dX6_follow_89 rfl (lv_at hl 1 rfl) ?_
    obtain ⟨σ14, g14, h⟩ := ob h
    refine r_astC (A := AA ad) hx hb hK hd (fun _ hh => hh) hP hS 7 10 (by decide) (fun _ => rfl) g14 dX6_follow_90 (fun H locs hP hS => ?_)
    obtain rfl := Option.some.inj h
    exact ret _ _ _ _ dX6_follow_91 hP hS
  have L1 : ∀ (n : Nat) (σ_1 : St) (y1_3 : Int32) (y1_4 : Int32) (H : Heap) (locs : List Loc) (ls : Array Slot), X6_follow_L1 n σ_1 y1_3 y1_4 = some v1 → WP D ad cI σ_1 τ η H → va_S (AA ad) s.heap H locs → lv_has ls 6 [(0, .ref (ad 6)), (1, .ref (ad 1)), (2, .ref (ad 26)), (3, .int y1_3), (4, .int y1_4)] → W p l e rmX6_follow s m args below meth c H locs 0 0 Q (F0 m 5 ls []) := by
    intro n
    induction n with
    | zero => intro σ_1 y1_3 y1_4 H locs ls h; exact absurd h (by simp [X6_follow_L1])
    | succ n ih =>
      intro σ_1 y1_3 y1_4 H locs ls h hP hS hl
      replace h := (X6_follow_L1_s n σ_1 y1_3 y1_4).symm.trans h
      refine lv_iload hx hb dX6_follow_5 (lv_at hl 4 rfl) ?_
      refine lv_bipush (v := (8 : Int32)) hx hb dX6_follow_7 (by decide) ?_
      refine lv_icmp_gt (tgt := 83) hx hb dX6_follow_9 (by decide) (fun c2 => ?_) (fun c2 => ?_)
      · replace h := ip c2 h
        obtain rfl := Option.some.inj h
        exact K1 _ _ _ hP hS (lv_sub hl [0, 3] rfl)
      · replace h := iq c2 h
        refine lv_iconst (v := (0 : Int32)) hx hb dX6_follow_12 (by decide) ?_
        refine lv_istore (lv' := [(5, .int (0 : Int32)), (0, .ref (ad 6)), (1, .ref (ad 1)), (2, .ref (ad 26)), (3, .int y1_3), (4, .int y1_4)]) hx hb dX6_follow_13 hl (by decide) rfl (fun ls hl => ?_)
        obtain ⟨v3, hj3, h⟩ := ob h
        have K2 : ∀ (H : Heap) (locs : List Loc) (ls : Array Slot), WP D ad cI σ_1 τ η H → va_S (AA ad) s.heap H locs → lv_has ls 6 [(0, .ref (ad 6)), (1, .ref (ad 1)), (2, .ref (ad 26)), (3, .int v3.1), (4, .int y1_4)] → W p l e rmX6_follow s m args below meth c H locs 0 0 Q (F0 m 54 ls []) := by
          intro H locs ls hP hS hl
          refine lv_aload_n hx hb dX6_follow_54 rfl (lv_at hl 0 rfl) ?_
          refine va_get (D := D) (ci := 6) (v := .ref (ad 7)) (C := RX6) (T := TX6) (N := 1) hx hb htb wu_6 hown hK.1 hP 6 w_6 rfl 0 (by decide) (htb _ wFL_RX6_9) (fun _ h9 => h9) rfl dX6_follow_55 ?_
          refine lv_iload hx hb dX6_follow_58 (lv_at hl 4 rfl) ?_
          refine lv_iload_n hx hb dX6_follow_60 rfl (lv_at hl 3 rfl) ?_
          obtain ⟨σ11, g11, h⟩ := ob h
          refine r_astC (A := AA ad) hx hb hK hd (fun _ hh => hh) hP hS 7 10 (by decide) (fun _ => rfl) g11 dX6_follow_61 (fun H locs hP hS => ?_)
          refine lv_iload_n hx hb dX6_follow_62 rfl (lv_at hl 3 rfl) ?_
          refine lv_aload_n hx hb dX6_follow_63 rfl (lv_at hl 1 rfl) ?_
          refine lv_iload_n hx hb dX6_follow_64 rfl (lv_at hl 3 rfl) ?_
          refine lv_aload_n hx hb dX6_follow_65 rfl (lv_at hl 1 rfl) ?_
          obtain ⟨v12, g12, h⟩ := ol h
          refine c_Vi (q := (RX0, TX0, 6)) (ci := 0) (b := 1) (As := []) (rest := [.int v3.1, .ref (ad 1), .int v3.1]) (A := AA ad) ⟨hx, hb, hml, hown, htb⟩ (c_X0_aunts l D ad cI hd σ11 τ η  v12 g12) (cwV 0 htb (gdV (fun _ hh => hh) wML_RX6_25 wIM_yX0_aunts wSE_yX0_aunts wI_RX0 wC_yX0_aunts) rfl rfl rfl hd_X0_aunts ⟨by decide, by decide⟩) hK hP rfl w_1 (fun _ hh => hh) hS rfl hl.1 rfl (Nat.le_of_ble_eq_true rfl) dX6_follow_66 ⟨Nat.le_refl 0, Nat.le_refl 0⟩ (fun H locs hP hS => ?_)
          refine lv_iand hx hb dX6_follow_69 ?_
          refine lv_iload hx hb dX6_follow_70 (lv_at hl 4 rfl) ?_
          obtain ⟨v13, g13, h⟩ := ob h
          refine c_Vi (q := (RX0, TX0, 6)) (ci := 0) (b := 1) (As := [.int (v3.1 &&& v12), .int y1_4]) (rest := [.int v3.1]) (A := AA ad) ⟨hx, hb, hml, hown, htb⟩ (c_X0_seenByAny l D ad cI hd σ11 τ η (v3.1 &&& v12) y1_4 v13 g13) (cwV 2 htb (gdV (fun _ hh => hh) wML_RX6_28 wIM_yX0_seenByAny wSE_yX0_seenByAny wI_RX0 wC_yX0_seenByAny) rfl rfl rfl hd_X0_seenByAny ⟨by decide, by decide⟩) hK hP rfl w_1 (fun _ hh => hh) hS rfl hl.1 rfl (Nat.le_of_ble_eq_true rfl) dX6_follow_72 ⟨Nat.le_refl 0, Nat.le_refl 0⟩ (fun H locs hP hS => ?_)
          refine lv_ior hx hb dX6_follow_75 ?_
          refine lv_istore_n (lv' := [(3, .int (v3.1 ||| v13)), (0, .ref (ad 6)), (1, .ref (ad 1)), (2, .ref (ad 26)), (4, .int y1_4)]) hx hb dX6_follow_76 rfl hl (by decide) rfl (fun ls hl => ?_)
          refine lv_iinc (v := (y1_4 + (1 : Int32))) (lv' := [(4, .int (y1_4 + (1 : Int32))), (3, .int (v3.1 ||| v13)), (0, .ref (ad 6)), (1, .ref (ad 1)), (2, .ref (ad 26))]) hx hb dX6_follow_77 hl (k := 4) rfl rfl (by decide) rfl (fun ls hl => ?_)
          refine lv_goto (tgt := 5) hx hb dX6_follow_80 (by decide) ?_
          exact ih σ11 (v3.1 ||| v13) (y1_4 + (1 : Int32)) _ _ _ h hP hS (lv_sub hl [2, 3, 4, 1, 0] rfl)
        have L2 : ∀ (n : Nat) (y2_3 : Int32) (y2_5 : Int32) (H : Heap) (locs : List Loc) (ls : Array Slot), X6_follow_L2 n σ_1 y2_3 y1_4 y2_5 = some v3 → WP D ad cI σ_1 τ η H → va_S (AA ad) s.heap H locs → lv_has ls 6 [(0, .ref (ad 6)), (1, .ref (ad 1)), (2, .ref (ad 26)), (3, .int y2_3), (4, .int y1_4), (5, .int y2_5)] → W p l e rmX6_follow s m args below meth c H locs 0 0 Q (F0 m 15 ls []) := by
          intro n
          induction n with
          | zero => intro y2_3 y2_5 H locs ls h; exact absurd h (by simp [X6_follow_L2])
          | succ n ih =>
            intro y2_3 y2_5 H locs ls h hP hS hl
            replace h := (X6_follow_L2_s n σ_1 y2_3 y1_4 y2_5).symm.trans h
            refine lv_iload hx hb dX6_follow_15 (lv_at hl 5 rfl) ?_
            refine lv_aload_n hx hb dX6_follow_17 rfl (lv_at hl 1 rfl) ?_
            obtain ⟨v4, g4, h⟩ := ol h
            refine c_Vi (q := (RX0, TX0, 6)) (ci := 0) (b := 1) (As := []) (rest := [.int y2_5]) (A := AA ad) ⟨hx, hb, hml, hown, htb⟩ (c_X0_size l D ad cI hd σ_1 τ η  v4 g4) (cwV 0 htb (gdV (fun _ hh => hh) wML_RX6_15 wIM_yX0_size wSE_yX0_size wI_RX0 wC_yX0_size) rfl rfl rfl hd_X0_size ⟨by decide, by decide⟩) hK hP rfl w_1 (fun _ hh => hh) hS rfl hl.1 rfl (Nat.le_of_ble_eq_true rfl) dX6_follow_18 ⟨Nat.le_refl 0, Nat.le_refl 0⟩ (fun H locs hP hS => ?_)
            refine lv_icmp_ge (tgt := 54) hx hb dX6_follow_21 (by decide) (fun c5 => ?_) (fun c5 => ?_)
            · replace h := ip c5 h
              obtain rfl := Option.some.inj h
              exact K2 _ _ _ hP hS (lv_sub hl [0, 1, 2, 3, 4] rfl)
            · replace h := iq c5 h
              refine lv_iload hx hb dX6_follow_24 (lv_at hl 5 rfl) ?_
              refine lv_aload_n hx hb dX6_follow_26 rfl (lv_at hl 2 rfl) ?_
              refine r_len (v := (9 : Int32)) hx hb hK hP 26 w_26 (by decide) dX6_follow_27 ?_
              refine lv_icmp_ge (tgt := 54) hx hb dX6_follow_28 (by decide) (fun c6 => ?_) (fun c6 => ?_)
              · replace h := ip c6 h
                obtain rfl := Option.some.inj h
                exact K2 _ _ _ hP hS (lv_sub hl [0, 1, 2, 3, 4] rfl)
              · replace h := iq c6 h
                refine lv_aload_n hx hb dX6_follow_31 rfl (lv_at hl 2 rfl) ?_
                refine lv_iload hx hb dX6_follow_32 (lv_at hl 5 rfl) ?_
                obtain ⟨v7, g7, h⟩ := ob h
                refine r_ald hx hb hK hP 26 w_26 g7 dX6_follow_34 ?_
                refine lv_iload hx hb dX6_follow_35 (lv_at hl 4 rfl) ?_
                obtain ⟨v9, hj9, h⟩ := ol h
                have J9 : ∀ (H : Heap) (locs : List Loc) (ls : Array Slot), WP D ad cI σ_1 τ η H → va_S (AA ad) s.heap H locs → lv_has ls 6 [(0, .ref (ad 6)), (1, .ref (ad 1)), (2, .ref (ad 26)), (3, .int v9), (4, .int y1_4), (5, .int y2_5)] → W p l e rmX6_follow s m args below meth c H locs 0 0 Q (F0 m 48 ls []) := by
                  intro H locs ls hP hS hl
                  refine lv_iinc (v := (y2_5 + (1 : Int32))) (lv' := [(5, .int (y2_5 + (1 : Int32))), (0, .ref (ad 6)), (1, .ref (ad 1)), (2, .ref (ad 26)), (3, .int v9), (4, .int y1_4)]) hx hb dX6_follow_48 hl (k := 5) rfl rfl (by decide) rfl (fun ls hl => ?_)
                  refine lv_goto (tgt := 15) hx hb dX6_follow_51 (by decide) ?_
                  exact ih v9 (y2_5 + (1 : Int32)) _ _ _ h hP hS (lv_sub hl [1, 2, 3, 4, 5, 0] rfl)
                replace h := hj9
                refine lv_icmp_ne (tgt := 48) hx hb dX6_follow_37 (by decide) (fun c8 => ?_) (fun c8 => ?_)
                · replace h := iq c8 h
                  subst h
                  exact J9 _ _ _ hP hS (lv_sub hl [0, 1, 2, 3, 4, 5] rfl)
                · replace h := ip c8 h
                  refine lv_iload_n hx hb dX6_follow_40 rfl (lv_at hl 3 rfl) ?_
                  refine lv_iload hx hb dX6_follow_41 (lv_at hl 5 rfl) ?_
                  refine lv_iconst (v := (1 : Int32)) hx hb dX6_follow_43 (by decide) ?_
                  obtain ⟨v10, g10, h⟩ := ol h
                  refine c_Ni (As := [.int y2_3, .int y2_5, .int (1 : Int32)]) (rest := []) (A := AA ad) ⟨hx, hb, hml, hown, htb⟩ (c_X7_withBit l D ad cI hd σ_1 τ η y2_3 y2_5 (1 : Int32) v10 g10) ⟨va_cnB 3 htb (gdW (fun _ hh => hh) wC_yX7_withBit) rfl rfl rfl (hK.2 _ wMN_RX6_21 rfl) (htb _ wI_RX7) hd_X7_withBit.2 ⟨by decide, by decide⟩, htb _ wST_yX7_withBit, trivial⟩ hK hP (fun _ hh => hh) hS rfl hl.1 rfl (Nat.le_of_ble_eq_true rfl) dX6_follow_44 ⟨Nat.le_refl 0, Nat.le_refl 0⟩ (fun H locs hP hS => ?_)
                  refine lv_istore_n (lv' := [(3, .int v10), (0, .ref (ad 6)), (1, .ref (ad 1)), (2, .ref (ad 26)), (4, .int y1_4), (5, .int y2_5)]) hx hb dX6_follow_47 rfl hl (by decide) rfl (fun ls hl => ?_)
                  subst h
                  exact J9 _ _ _ hP hS (lv_sub hl [1, 2, 3, 0, 4, 5] rfl)
        exact L2 10000 y1_3 (0 : Int32) _ _ _ hj3 hP hS (lv_sub hl [1, 2, 3, 4, 5, 0] rfl)
  exact L1 10000 σ (0 : Int32) (1 : Int32) _ _ _ hj1 hP hS (lv_sub hl [2, 3, 4, 1, 0] rfl)
def X7_followWord (σ : St)  : Option (St) :=
  bd (X0_copyTold σ ) fun v1 =>
  bd (X6_follow v1 ) fun v2 =>
  some v2
abbrev rmX7_followWord : Room := { frames := 3, cells := 0, slots := 0, locals := 71 }
set_option maxHeartbeats 4000000 in
set_option maxRecDepth 100000 in
theorem c_X7_followWord (l : Launch) (D : va_G) (ad : Nat → Nat) (cI : ClassId) (hd : HD ad) (σ τ : St) (η : Int64)  (rr : St) (h : X7_followWord σ  = some rr) : MV l yX7_followWord (wy yX7_followWord cX7_followWord 1 none) rmX7_followWord D ad cI [.ref (ad 0)] σ τ η rr τ η := by
  refine mk_v (own := RX7) (lv := [(0, .ref (ad 0))]) (plainFor_of_name (by decide)) rfl (Nat.le_of_ble_eq_true rfl) rfl ?_
  intro p e s m args below meth c Q ls hx hb hml hown htb hK ret hP hS hl
  unfold X7_followWord at h
  refine lv_aload_n hx hb dX7_followWord_0 rfl (lv_at hl 0 rfl) ?_
  refine va_get (D := D) (ci := 7) (v := .ref (ad 1)) (C := RX7) (T := TX7) (N := 11) hx hb htb wu_7 hown hK.1 hP 0 w_0 rfl 0 (by decide) (htb _ wFL_RX7_10) (fun _ h9 => h9) rfl dX7_followWord_1 ?_
  refine lv_aload_n hx hb dX7_followWord_4 rfl (lv_at hl 0 rfl) ?_
  refine va_get (D := D) (ci := 7) (v := .ref (ad 26)) (C := RX7) (T := TX7) (N := 11) hx hb htb wu_7 hown hK.1 hP 0 w_0 rfl 7 (by decide) (htb _ wFL_RX7_58) (fun _ h9 => h9) rfl dX7_followWord_5 ?_
  obtain ⟨v1, g1, h⟩ := ob h
  refine c_Vv (q := (RX0, TX0, 6)) (ci := 0) (b := 1) (As := [.ref (ad 26)]) (rest := []) (A := AA ad) ⟨hx, hb, hml, hown, htb⟩ (c_X0_copyTold l D ad cI hd σ τ η  v1 g1) (cwV 1 htb (gdV (fun _ hh => hh) wML_RX7_213 wIM_yX0_copyTold wSE_yX0_copyTold wI_RX0 wC_yX0_copyTold) rfl rfl rfl hd_X0_copyTold ⟨by decide, by decide⟩) hK hP rfl w_1 (fun _ hh => hh) hS rfl hl.1 rfl (Nat.le_of_ble_eq_true rfl) dX7_followWord_8 ⟨Nat.le_refl 0, Nat.le_refl 0⟩ (fun H locs hP hS => ?_)
  refine lv_aload_n hx hb dX7_followWord_11 rfl (lv_at hl 0 rfl) ?_
  refine va_get (D := D) (ci := 7) (v := .ref (ad 6)) (C := RX7) (T := TX7) (N := 11) hx hb htb wu_7 hown hK.1 hP 0 w_0 rfl 1 (by decide) (htb _ wFL_RX7_19) (fun _ h9 => h9) rfl dX7_followWord_12 ?_
  refine lv_aload_n hx hb dX7_followWord_15 rfl (lv_at hl 0 rfl) ?_
  refine va_get (D := D) (ci := 7) (v := .ref (ad 1)) (C := RX7) (T := TX7) (N := 11) hx hb htb wu_7 hown hK.1 hP 0 w_0 rfl 0 (by decide) (htb _ wFL_RX7_10) (fun _ h9 => h9) rfl dX7_followWord_16 ?_
  refine lv_aload_n hx hb dX7_followWord_19 rfl (lv_at hl 0 rfl) ?_
  refine va_get (D := D) (ci := 7) (v := .ref (ad 26)) (C := RX7) (T := TX7) (N := 11) hx hb htb wu_7 hown hK.1 hP 0 w_0 rfl 7 (by decide) (htb _ wFL_RX7_58) (fun _ h9 => h9) rfl dX7_followWord_20 ?_
  obtain ⟨v2, g2, h⟩ := ob h
  refine c_Vv (q := (RX6, TX6, 1)) (ci := 6) (b := 6) (As := [.ref (ad 1), .ref (ad 26)]) (rest := []) (A := AA ad) ⟨hx, hb, hml, hown, htb⟩ (c_X6_follow l D ad cI hd v1 τ η  v2 g2) (cwV 2 htb (gdV (fun _ hh => hh) wML_RX7_358 wIM_yX6_follow wSE_yX6_follow wI_RX6 wC_yX6_follow) rfl rfl rfl hd_X6_follow ⟨by decide, by decide⟩) hK hP rfl w_6 (fun _ hh => hh) hS rfl hl.1 rfl (Nat.le_of_ble_eq_true rfl) dX7_followWord_23 ⟨Nat.le_refl 0, Nat.le_refl 0⟩ (fun H locs hP hS => ?_)
  obtain rfl := Option.some.inj h
  exact ret _ _ _ _ dX7_followWord_26 hP hS
def X7_sees (σ : St) (x1 : Int32) (x2 : Int32) (x3 : Int32) (x4 : Int32) : Option (Int32 × St) :=
  lt (X0_has σ x1) fun v1 =>
  if v1 = 0 then (
    some ((-101 : Int32), σ))
  else (
    lt (X0_has σ x2) fun v3 =>
    if v3 = 0 then (
      some ((-101 : Int32), σ))
    else (
      if x1 = x2 then (
        some ((-101 : Int32), σ))
      else (
        lt (X7_isDay  x3) fun v6 =>
        if v6 = 0 then (
          some ((-102 : Int32), σ))
        else (
          bd (X0_seenBy σ x1 x3) fun v8 =>
          lt (X7_bit  v8 x2) fun v9 =>
          bd (X0_putSeen σ x1 x2 x3 x4) fun v10 =>
          bd (X0_putSeen v10 x2 x1 x3 x4) fun v11 =>
          bd (X7_followWord v11 ) fun v12 =>
          some (v9, v12)))))
abbrev rmX7_sees : Room := { frames := 4, cells := 0, slots := 0, locals := 91 }
set_option maxHeartbeats 4000000 in
set_option maxRecDepth 100000 in
theorem c_X7_sees (l : Launch) (D : va_G) (ad : Nat → Nat) (cI : ClassId) (hd : HD ad) (σ τ : St) (η : Int64) (x1 : Int32) (x2 : Int32) (x3 : Int32) (x4 : Int32) (rr : Int32 × St) (h : X7_sees σ x1 x2 x3 x4 = some rr) : MI l yX7_sees (wy yX7_sees cX7_sees 6 (some .int)) rmX7_sees D ad cI [.ref (ad 0), .int x1, .int x2, .int x3, .int x4] σ τ η rr.1 rr.2 τ η := by
  refine mk_i (own := RX7) (lv := [(0, .ref (ad 0)), (1, .int x1), (2, .int x2), (3, .int x3), (4, .int x4)]) (plainFor_of_name (by decide)) rfl (Nat.le_of_ble_eq_true rfl) rfl ?_
  intro p e s m args below meth c Q ls hx hb hml hown htb hK ret hP hS hl
  unfold X7_sees at h
  refine lv_aload_n hx hb dX7_sees_0 rfl (lv_at hl 0 rfl) ?_
  refine va_get (D := D) (ci := 7) (v := .ref (ad 1)) (C := RX7) (T := TX7) (N := 11) hx hb htb wu_7 hown hK.1 hP 0 w_0 rfl 0 (by decide) (htb _ wFL_RX7_10) (fun _ h9 => h9) rfl dX7_sees_1 ?_
  refine lv_iload_n hx hb dX7_sees_4 rfl (lv_at hl 1 rfl) ?_
  obtain ⟨v1, g1, h⟩ := ol h
  refine c_Vz (q := (RX0, TX0, 6)) (ci := 0) (b := 1) (As := [.int x1]) (rest := []) (A := AA ad) ⟨hx, hb, hml, hown, htb⟩ (c_X0_has l D ad cI hd σ τ η x1 v1 g1) (cwV 1 htb (gdV (fun _ hh => hh) wML_RX7_84 wIM_yX0_has wSE_yX0_has wI_RX0 wC_yX0_has) rfl rfl rfl hd_X0_has ⟨by decide, by decide⟩) hK hP rfl w_1 (fun _ hh => hh) hS rfl hl.1 rfl (Nat.le_of_ble_eq_true rfl) dX7_sees_5 ⟨Nat.le_refl 0, Nat.le_refl 0⟩ (fun H locs hz1 hP hS => ?_)
  refine lv_if_eq (tgt := 27) hx hb dX7_sees_8 (by decide) (fun c2 => ?_) (fun c2 => ?_)
  · replace h := ip c2 h
    refine lv_bipush (v := (-101 : Int32)) hx hb dX7_sees_27 (by decide) ?_
    obtain rfl := Option.some.inj h
    exact ret _ _ _ _ _ dX7_sees_29 hP hS rfl
  · replace h := iq c2 h
    refine lv_aload_n hx hb dX7_sees_11 rfl (lv_at hl 0 rfl) ?_
    refine va_get (D := D) (ci := 7) (v := .ref (ad 1)) (C := RX7) (T := TX7) (N := 11) hx hb htb wu_7 hown hK.1 hP 0 w_0 rfl 0 (by decide) (htb _ wFL_RX7_10) (fun _ h9 => h9) rfl dX7_sees_12 ?_
    refine lv_iload_n hx hb dX7_sees_15 rfl (lv_at hl 2 rfl) ?_
    obtain ⟨v3, g3, h⟩ := ol h
    refine c_Vz (q := (RX0, TX0, 6)) (ci := 0) (b := 1) (As := [.int x2]) (rest := []) (A := AA ad) ⟨hx, hb, hml, hown, htb⟩ (c_X0_has l D ad cI hd σ τ η x2 v3 g3) (cwV 1 htb (gdV (fun _ hh => hh) wML_RX7_84 wIM_yX0_has wSE_yX0_has wI_RX0 wC_yX0_has) rfl rfl rfl hd_X0_has ⟨by decide, by decide⟩) hK hP rfl w_1 (fun _ hh => hh) hS rfl hl.1 rfl (Nat.le_of_ble_eq_true rfl) dX7_sees_16 ⟨Nat.le_refl 0, Nat.le_refl 0⟩ (fun H locs hz3 hP hS => ?_)
    refine lv_if_eq (tgt := 27) hx hb dX7_sees_19 (by decide) (fun c4 => ?_) (fun c4 => ?_)
    · replace h := ip c4 h
      refine lv_bipush (v := (-101 : Int32)) hx hb dX7_sees_27 (by decide) ?_
      obtain rfl := Option.some.inj h
      exact ret _ _ _ _ _ dX7_sees_29 hP hS rfl
    · replace h := iq c4 h
      refine lv_iload_n hx hb dX7_sees_22 rfl (lv_at hl 1 rfl) ?_
      refine lv_iload_n hx hb dX7_sees_23 rfl (lv_at hl 2 rfl) ?_
      refine lv_icmp_ne (tgt := 30) hx hb dX7_sees_24 (by decide) (fun c5 => ?_) (fun c5 => ?_)
      · replace h := iq c5 h
        refine lv_iload_n hx hb dX7_sees_30 rfl (lv_at hl 3 rfl) ?_
        obtain ⟨v6, g6, h⟩ := ol h
        refine c_Sz (As := [.int x3]) (rest := []) (A := AA ad) ⟨hx, hb, hml, hown, htb⟩ (c_X7_isDay l D ad cI hd σ τ η x3 v6 g6) (va_cwS 1 htb (gdS (fun _ hh => hh) wML_RX7_103 wST_yX7_isDay wI_RX7 wC_yX7_isDay) rfl rfl rfl hd_X7_isDay.2 ⟨by decide, by decide⟩) hK hP (fun _ hh => hh) hS rfl hl.1 rfl (Nat.le_of_ble_eq_true rfl) dX7_sees_31 ⟨Nat.le_refl 0, Nat.le_refl 0⟩ (fun H locs hz6 hP hS => ?_)
        refine lv_if_ne (tgt := 40) hx hb dX7_sees_34 (by decide) (fun c7 => ?_) (fun c7 => ?_)
        · replace h := iq c7 h
          refine lv_aload_n hx hb dX7_sees_40 rfl (lv_at hl 0 rfl) ?_
          refine va_get (D := D) (ci := 7) (v := .ref (ad 1)) (C := RX7) (T := TX7) (N := 11) hx hb htb wu_7 hown hK.1 hP 0 w_0 rfl 0 (by decide) (htb _ wFL_RX7_10) (fun _ h9 => h9) rfl dX7_sees_41 ?_
          refine lv_iload_n hx hb dX7_sees_44 rfl (lv_at hl 1 rfl) ?_
          refine lv_iload_n hx hb dX7_sees_45 rfl (lv_at hl 3 rfl) ?_
          obtain ⟨v8, g8, h⟩ := ob h
          refine c_Vi (q := (RX0, TX0, 6)) (ci := 0) (b := 1) (As := [.int x1, .int x3]) (rest := []) (A := AA ad) ⟨hx, hb, hml, hown, htb⟩ (c_X0_seenBy l D ad cI hd σ τ η x1 x3 v8 g8) (cwV 2 htb (gdV (fun _ hh => hh) wML_RX7_106 wIM_yX0_seenBy wSE_yX0_seenBy wI_RX0 wC_yX0_seenBy) rfl rfl rfl hd_X0_seenBy ⟨by decide, by decide⟩) hK hP rfl w_1 (fun _ hh => hh) hS rfl hl.1 rfl (Nat.le_of_ble_eq_true rfl) dX7_sees_46 ⟨Nat.le_refl 0, Nat.le_refl 0⟩ (fun H locs hP hS => ?_)
          refine lv_iload_n hx hb dX7_sees_49 rfl (lv_at hl 2 rfl) ?_
          obtain ⟨v9, g9, h⟩ := ol h
          refine c_Si (As := [.int v8, .int x2]) (rest := []) (A := AA ad) ⟨hx, hb, hml, hown, htb⟩ (c_X7_bit l D ad cI hd σ τ η v8 x2 v9 g9) (va_cwS 2 htb (gdS (fun _ hh => hh) wML_RX7_109 wST_yX7_bit wI_RX7 wC_yX7_bit) rfl rfl rfl hd_X7_bit.2 ⟨by decide, by decide⟩) hK hP (fun _ hh => hh) hS rfl hl.1 rfl (Nat.le_of_ble_eq_true rfl) dX7_sees_50 ⟨Nat.le_refl 0, Nat.le_refl 0⟩ (fun H locs hP hS => ?_)
          refine lv_istore (lv' := [(5, .int v9), (0, .ref (ad 0)), (1, .int x1), (2, .int x2), (3, .int x3), (4, .int x4)]) hx hb dX7_sees_53 hl (by decide) rfl (fun ls hl => ?_)
          refine lv_aload_n hx hb dX7_sees_55 rfl (lv_at hl 1 rfl) ?_
          refine va_get (D := D) (ci := 7) (v := .ref (ad 1)) (C := RX7) (T := TX7) (N := 11) hx hb htb wu_7 hown hK.1 hP 0 w_0 rfl 0 (by decide) (htb _ wFL_RX7_10) (fun _ h9 => h9) rfl dX7_sees_56 ?_
          refine lv_iload_n hx hb dX7_sees_59 rfl (lv_at hl 2 rfl) ?_
          refine lv_iload_n hx hb dX7_sees_60 rfl (lv_at hl 3 rfl) ?_
          refine lv_iload_n hx hb dX7_sees_61 rfl (lv_at hl 4 rfl) ?_
          refine lv_iload hx hb dX7_sees_62 (lv_at hl 5 rfl) ?_
          obtain ⟨v10, g10, h⟩ := ob h
          refine c_Vv (q := (RX0, TX0, 6)) (ci := 0) (b := 1) (As := [.int x1, .int x2, .int x3, .int x4]) (rest := []) (A := AA ad) ⟨hx, hb, hml, hown, htb⟩ (c_X0_putSeen l D ad cI hd σ τ η x1 x2 x3 x4 v10 g10) (cwV 4 htb (gdV (fun _ hh => hh) wML_RX7_112 wIM_yX0_putSeen wSE_yX0_putSeen wI_RX0 wC_yX0_putSeen) rfl rfl rfl hd_X0_putSeen ⟨by decide, by decide⟩) hK hP rfl w_1 (fun _ hh => hh) hS rfl hl.1 rfl (Nat.le_of_ble_eq_true rfl) dX7_sees_64 ⟨Nat.le_refl 0, Nat.le_refl 0⟩ (fun H locs hP hS => ?_)
          refine lv_aload_n hx hb dX7_sees_67 rfl (lv_at hl 1 rfl) ?_
          refine va_get (D := D) (ci := 7) (v := .ref (ad 1)) (C := RX7) (T := TX7) (N := 11) hx hb htb wu_7 hown hK.1 hP 0 w_0 rfl 0 (by decide) (htb _ wFL_RX7_10) (fun _ h9 => h9) rfl dX7_sees_68 ?_
          refine lv_iload_n hx hb dX7_sees_71 rfl (lv_at hl 3 rfl) ?_
          refine lv_iload_n hx hb dX7_sees_72 rfl (lv_at hl 2 rfl) ?_
          refine lv_iload_n hx hb dX7_sees_73 rfl (lv_at hl 4 rfl) ?_
          refine lv_iload hx hb dX7_sees_74 (lv_at hl 5 rfl) ?_
          obtain ⟨v11, g11, h⟩ := ob h
          refine c_Vv (q := (RX0, TX0, 6)) (ci := 0) (b := 1) (As := [.int x2, .int x1, .int x3, .int x4]) (rest := []) (A := AA ad) ⟨hx, hb, hml, hown, htb⟩ (c_X0_putSeen l D ad cI hd v10 τ η x2 x1 x3 x4 v11 g11) (cwV 4 htb (gdV (fun _ hh => hh) wML_RX7_112 wIM_yX0_putSeen wSE_yX0_putSeen wI_RX0 wC_yX0_putSeen) rfl rfl rfl hd_X0_putSeen ⟨by decide, by decide⟩) hK hP rfl w_1 (fun _ hh => hh) hS rfl hl.1 rfl (Nat.le_of_ble_eq_true rfl) dX7_sees_76 ⟨Nat.le_refl 0, Nat.le_refl 0⟩ (fun H locs hP hS => ?_)
          refine lv_aload_n hx hb dX7_sees_79 rfl (lv_at hl 1 rfl) ?_
          obtain ⟨v12, g12, h⟩ := ob h
          refine c_Vv (q := (RX7, TX7, 11)) (ci := 7) (b := 0) (As := []) (rest := []) (A := AA ad) ⟨hx, hb, hml, hown, htb⟩ (c_X7_followWord l D ad cI hd v11 τ η  v12 g12) (cwV 0 htb (gdV (fun _ hh => hh) wML_RX7_116 wIM_yX7_followWord wSE_yX7_followWord wI_RX7 wC_yX7_followWord) rfl rfl rfl hd_X7_followWord ⟨by decide, by decide⟩) hK hP rfl w_0 (fun _ hh => hh) hS rfl hl.1 rfl (Nat.le_of_ble_eq_true rfl) dX7_sees_80 ⟨Nat.le_refl 0, Nat.le_refl 0⟩ (fun H locs hP hS => ?_)
          refine lv_iload hx hb dX7_sees_83 (lv_at hl 0 rfl) ?_
          obtain rfl := Option.some.inj h
          exact ret _ _ _ _ _ dX7_sees_85 hP hS rfl
        · replace h := ip c7 h
          refine lv_bipush (v := (-102 : Int32)) hx hb dX7_sees_37 (by decide) ?_
          obtain rfl := Option.some.inj h
          exact ret _ _ _ _ _ dX7_sees_39 hP hS rfl
      · replace h := ip c5 h
        refine lv_bipush (v := (-101 : Int32)) hx hb dX7_sees_27 (by decide) ?_
        obtain rfl := Option.some.inj h
        exact ret _ _ _ _ _ dX7_sees_29 hP hS rfl
def X8_sees (τ : St) (x1 : Int32) (x2 : Int32) (x3 : Int32) (x4 : Int32) : Option (Int32 × St) :=
  lt (X8_isGuest τ x1) fun v1 =>
  if v1 = 0 then (
    some ((-101 : Int32), τ))
  else (
    lt (X8_isGuest τ x2) fun v3 =>
    if v3 = 0 then (
      some ((-101 : Int32), τ))
    else (
      if x1 = x2 then (
        some ((-101 : Int32), τ))
      else (
        lt (X8_in  ((x3).toInt64) (1 : Int64) (8 : Int64)) fun v6 =>
        if v6 = 0 then (
          some ((-102 : Int32), τ))
        else (
          bd (rd (τ 33) 81 (((9 : Int32) * x1) + x2)) fun v8 =>
          lt ((
              if x4 = 0 then (
                (0 : Int32))
              else (
                (ishl (1 : Int32) x3))) : Int32) fun v10 =>
          bd (rd (τ 33) 81 (((9 : Int32) * x1) + x2)) fun v11 =>
          bd (wa τ 33 81 (((9 : Int32) * x1) + x2) ((v11 &&& ((ishl (1 : Int32) x3) ^^^ (-1 : Int32))) ||| v10)) fun τ12 =>
          bd (rd (τ12 33) 81 (((9 : Int32) * x1) + x2)) fun v13 =>
          bd (wa τ12 33 81 (((9 : Int32) * x2) + x1) v13) fun τ14 =>
          some (((ishr v8 x3) &&& (1 : Int32)), τ14)))))
abbrev rmX8_sees : Room := { frames := 2, cells := 0, slots := 0, locals := 46 }
set_option maxHeartbeats 4000000 in
set_option maxRecDepth 100000 in
theorem c_X8_sees (l : Launch) (D : va_G) (ad : Nat → Nat) (cI : ClassId) (hd : HD ad) (σ τ : St) (η : Int64) (x1 : Int32) (x2 : Int32) (x3 : Int32) (x4 : Int32) (rr : Int32 × St) (h : X8_sees τ x1 x2 x3 x4 = some rr) : MI l yX8_sees (wy yX8_sees cX8_sees 7 (some .int)) rmX8_sees D ad cI [.ref (ad 29), .int x1, .int x2, .int x3, .int x4] σ τ η rr.1 σ rr.2 η := by
  refine mk_i (own := RX8) (lv := [(0, .ref (ad 29)), (1, .int x1), (2, .int x2), (3, .int x3), (4, .int x4)]) (plainFor_of_name (by decide)) rfl (Nat.le_of_ble_eq_true rfl) rfl ?_
  intro p e s m args below meth c Q ls hx hb hml hown htb hK ret hP hS hl
  unfold X8_sees at h
  refine lv_aload_n hx hb dX8_sees_0 rfl (lv_at hl 0 rfl) ?_
  refine lv_iload_n hx hb dX8_sees_1 rfl (lv_at hl 1 rfl) ?_
  obtain ⟨v1, g1, h⟩ := ol h
  refine c_Vz (q := (RX8, TX8, 27)) (ci := 8) (b := 29) (As := [.int x1]) (rest := []) (A := AA ad) ⟨hx, hb, hml, hown, htb⟩ (c_X8_isGuest l D ad cI hd σ τ η x1 v1 g1) (cwV 1 htb (gdV (fun _ hh => hh) wML_RX8_88 wIM_yX8_isGuest wSE_yX8_isGuest wI_RX8 wC_yX8_isGuest) rfl rfl rfl hd_X8_isGuest ⟨by decide, by decide⟩) hK hP rfl w_29 (fun _ hh => hh) hS rfl hl.1 rfl (Nat.le_of_ble_eq_true rfl) dX8_sees_2 ⟨Nat.le_refl 0, Nat.le_refl 0⟩ (fun H locs hz1 hP hS => ?_)
  refine lv_if_eq (tgt := 21) hx hb dX8_sees_5 (by decide) (fun c2 => ?_) (fun c2 => ?_)
  · replace h := ip c2 h
    refine lv_bipush (v := (-101 : Int32)) hx hb dX8_sees_21 (by decide) ?_
    obtain rfl := Option.some.inj h
    exact ret _ _ _ _ _ dX8_sees_23 hP hS rfl
  · replace h := iq c2 h
    refine lv_aload_n hx hb dX8_sees_8 rfl (lv_at hl 0 rfl) ?_
    refine lv_iload_n hx hb dX8_sees_9 rfl (lv_at hl 2 rfl) ?_
    obtain ⟨v3, g3, h⟩ := ol h
    refine c_Vz (q := (RX8, TX8, 27)) (ci := 8) (b := 29) (As := [.int x2]) (rest := []) (A := AA ad) ⟨hx, hb, hml, hown, htb⟩ (c_X8_isGuest l D ad cI hd σ τ η x2 v3 g3) (cwV 1 htb (gdV (fun _ hh => hh) wML_RX8_88 wIM_yX8_isGuest wSE_yX8_isGuest wI_RX8 wC_yX8_isGuest) rfl rfl rfl hd_X8_isGuest ⟨by decide, by decide⟩) hK hP rfl w_29 (fun _ hh => hh) hS rfl hl.1 rfl (Nat.le_of_ble_eq_true rfl) dX8_sees_10 ⟨Nat.le_refl 0, Nat.le_refl 0⟩ (fun H locs hz3 hP hS => ?_)
    refine lv_if_eq (tgt := 21) hx hb dX8_sees_13 (by decide) (fun c4 => ?_) (fun c4 => ?_)
    · replace h := ip c4 h
      refine lv_bipush (v := (-101 : Int32)) hx hb dX8_sees_21 (by decide) ?_
      obtain rfl := Option.some.inj h
      exact ret _ _ _ _ _ dX8_sees_23 hP hS rfl
    · replace h := iq c4 h
      refine lv_iload_n hx hb dX8_sees_16 rfl (lv_at hl 1 rfl) ?_
      refine lv_iload_n hx hb dX8_sees_17 rfl (lv_at hl 2 rfl) ?_
      refine lv_icmp_ne (tgt := 24) hx hb dX8_sees_18 (by decide) (fun c5 => ?_) (fun c5 => ?_)
      · replace h := iq c5 h
        refine lv_iload_n hx hb dX8_sees_24 rfl (lv_at hl 3 rfl) ?_
        refine lv_i2l (v := ((x3).toInt64)) hx hb dX8_sees_25 rfl ?_
        refine lv_lconst (v := (1 : Int64)) hx hb dX8_sees_26 rfl ?_
        refine lv_ldc2 (v := (8 : Int64)) hx hb hown (htb _ wKL_RX8_75) dX8_sees_27 ?_
        obtain ⟨v6, g6, h⟩ := ol h
        refine c_Sz (As := [.long ((x3).toInt64), .long (1 : Int64), .long (8 : Int64)]) (rest := []) (A := AA ad) ⟨hx, hb, hml, hown, htb⟩ (c_X8_in l D ad cI hd σ τ η ((x3).toInt64) (1 : Int64) (8 : Int64) v6 g6) (va_cwS 3 htb (gdS (fun _ hh => hh) wML_RX8_65 wST_yX8_in wI_RX8 wC_yX8_in) rfl rfl rfl hd_X8_in.2 ⟨by decide, by decide⟩) hK hP (fun _ hh => hh) hS rfl hl.1 rfl (Nat.le_of_ble_eq_true rfl) dX8_sees_30 ⟨Nat.le_refl 0, Nat.le_refl 0⟩ (fun H locs hz6 hP hS => ?_)
        refine lv_if_ne (tgt := 39) hx hb dX8_sees_33 (by decide) (fun c7 => ?_) (fun c7 => ?_)
        · replace h := iq c7 h
          refine lv_aload_n hx hb dX8_sees_39 rfl (lv_at hl 0 rfl) ?_
          refine va_get (D := D) (ci := 8) (v := .ref (ad 33)) (C := RX8) (T := TX8) (N := 27) hx hb htb wu_8 hown hK.1 hP 29 w_29 rfl 4 (by decide) (htb _ wFL_RX8_19) (fun _ h9 => h9) rfl dX8_sees_40 ?_
          refine lv_bipush (v := (9 : Int32)) hx hb dX8_sees_43 (by decide) ?_
          refine lv_iload_n hx hb dX8_sees_45 rfl (lv_at hl 1 rfl) ?_
          refine lv_imul hx hb dX8_sees_46 ?_
          refine lv_iload_n hx hb dX8_sees_47 rfl (lv_at hl 2 rfl) ?_
          refine lv_iadd hx hb dX8_sees_48 ?_
          obtain ⟨v8, g8, h⟩ := ob h
          refine r_ald hx hb hK hP 33 w_33 g8 dX8_sees_49 ?_
          refine lv_iload_n hx hb dX8_sees_50 rfl (lv_at hl 3 rfl) ?_
          refine lv_ishr hx hb dX8_sees_51 ?_
          refine lv_iconst (v := (1 : Int32)) hx hb dX8_sees_52 (by decide) ?_
          refine lv_iand hx hb dX8_sees_53 ?_
          refine lv_istore (lv' := [(5, .int ((ishr v8 x3) &&& (1 : Int32))), (0, .ref (ad 29)), (1, .int x1), (2, .int x2), (3, .int x3), (4, .int x4)]) hx hb dX8_sees_54 hl (by decide) rfl (fun ls hl => ?_)
          refine lv_iload hx hb dX8_sees_56 (lv_at hl 5 rfl) ?_
          obtain ⟨v10, hj10, h⟩ := ol h
          have J10 : ∀ (H : Heap) (locs : List Loc) (ls : Array Slot), WP D ad cI σ τ η H → va_S (AA ad) s.heap H locs → lv_has ls 7 [(0, .ref (ad 29)), (1, .int x1), (2, .int x2), (3, .int x3), (5, .int ((ishr v8 x3) &&& (1 : Int32)))] → W p l e rmX8_sees s m args below meth c H locs 0 0 Q (F0 m 68 ls [.int v10]) := by
            intro H locs ls hP hS hl
            refine lv_istore (lv' := [(6, .int v10), (0, .ref (ad 29)), (1, .int x1), (2, .int x2), (3, .int x3), (5, .int ((ishr v8 x3) &&& (1 : Int32)))]) hx hb dX8_sees_68 hl (by decide) rfl (fun ls hl => ?_)
            refine lv_aload_n hx hb dX8_sees_70 rfl (lv_at hl 1 rfl) ?_
            refine va_get (D := D) (ci := 8) (v := .ref (ad 33)) (C := RX8) (T := TX8) (N := 27) hx hb htb wu_8 hown hK.1 hP 29 w_29 rfl 4 (by decide) (htb _ wFL_RX8_19) (fun _ h9 => h9) rfl dX8_sees_71 ?_
            refine lv_bipush (v := (9 : Int32)) hx hb dX8_sees_74 (by decide) ?_
            refine lv_iload_n hx hb dX8_sees_76 rfl (lv_at hl 2 rfl) ?_
            refine lv_imul hx hb dX8_sees_77 ?_
            refine lv_iload_n hx hb dX8_sees_78 rfl (lv_at hl 3 rfl) ?_
            refine lv_iadd hx hb dX8_sees_79 ?_
            refine lv_aload_n hx hb dX8_sees_80 rfl (lv_at hl 1 rfl) ?_
            refine va_get (D := D) (ci := 8) (v := .ref (ad 33)) (C := RX8) (T := TX8) (N := 27) hx hb htb wu_8 hown hK.1 hP 29 w_29 rfl 4 (by decide) (htb _ wFL_RX8_19) (fun _ h9 => h9) rfl dX8_sees_81 ?_
            refine lv_bipush (v := (9 : Int32)) hx hb dX8_sees_84 (by decide) ?_
            refine lv_iload_n hx hb dX8_sees_86 rfl (lv_at hl 2 rfl) ?_
            refine lv_imul hx hb dX8_sees_87 ?_
            refine lv_iload_n hx hb dX8_sees_88 rfl (lv_at hl 3 rfl) ?_
            refine lv_iadd hx hb dX8_sees_89 ?_
            obtain ⟨v11, g11, h⟩ := ob h
            refine r_ald hx hb hK hP 33 w_33 g11 dX8_sees_90 ?_
            refine lv_iconst (v := (1 : Int32)) hx hb dX8_sees_91 (by decide) ?_
            refine lv_iload_n hx hb dX8_sees_92 rfl (lv_at hl 4 rfl) ?_
            refine lv_ishl hx hb dX8_sees_93 ?_
            refine lv_iconst (v := (-1 : Int32)) hx hb dX8_sees_94 (by decide) ?_
            refine lv_ixor hx hb dX8_sees_95 ?_
            refine lv_iand hx hb dX8_sees_96 ?_
            refine lv_iload hx hb dX8_sees_97 (lv_at hl 0 rfl) ?_
            refine lv_ior hx hb dX8_sees_99 ?_
            obtain ⟨τ12, g12, h⟩ := ob h
            refine r_astM (A := AA ad) hx hb hK hd (fun _ hh => hh) hP hS 33 81 (by decide) (fun _ => rfl) g12 dX8_sees_100 (fun H locs hP hS => ?_)
            refine lv_aload_n hx hb dX8_sees_101 rfl (lv_at hl 1 rfl) ?_
            refine va_get (D := D) (ci := 8) (v := .ref (ad 33)) (C := RX8) (T := TX8) (N := 27) hx hb htb wu_8 hown hK.1 hP 29 w_29 rfl 4 (by decide) (htb _ wFL_RX8_19) (fun _ h9 => h9) rfl dX8_sees_102 ?_
            refine lv_bipush (v := (9 : Int32)) hx hb dX8_sees_105 (by decide) ?_
            refine lv_iload_n hx hb dX8_sees_107 rfl (lv_at hl 3 rfl) ?_
            refine lv_imul hx hb dX8_sees_108 ?_
            refine lv_iload_n hx hb dX8_sees_109 rfl (lv_at hl 2 rfl) ?_
            refine lv_iadd hx hb dX8_sees_110 ?_
            refine lv_aload_n hx hb dX8_sees_111 rfl (lv_at hl 1 rfl) ?_
            refine va_get (D := D) (ci := 8) (v := .ref (ad 33)) (C := RX8) (T := TX8) (N := 27) hx hb htb wu_8 hown hK.1 hP 29 w_29 rfl 4 (by decide) (htb _ wFL_RX8_19) (fun _ h9 => h9) rfl dX8_sees_112 ?_
            refine lv_bipush (v := (9 : Int32)) hx hb dX8_sees_115 (by decide) ?_
            refine lv_iload_n hx hb dX8_sees_117 rfl (lv_at hl 2 rfl) ?_
            refine lv_imul hx hb dX8_sees_118 ?_
            refine lv_iload_n hx hb dX8_sees_119 rfl (lv_at hl 3 rfl) ?_
            refine lv_iadd hx hb dX8_sees_120 ?_
            obtain ⟨v13, g13, h⟩ := ob h
            refine r_ald hx hb hK hP 33 w_33 g13 dX8_sees_121 ?_
            obtain ⟨τ14, g14, h⟩ := ob h
            refine r_astM (A := AA ad) hx hb hK hd (fun _ hh => hh) hP hS 33 81 (by decide) (fun _ => rfl) g14 dX8_sees_122 (fun H locs hP hS => ?_)
            refine lv_iload hx hb dX8_sees_123 (lv_at hl 5 rfl) ?_
            obtain rfl := Option.some.inj h
            exact ret _ _ _ _ _ dX8_sees_125 hP hS rfl
          replace h := hj10
          refine lv_if_eq (tgt := 67) hx hb dX8_sees_58 (by decide) (fun c9 => ?_) (fun c9 => ?_)
          · replace h := ip c9 h
            refine lv_iconst (v := (0 : Int32)) hx hb dX8_sees_67 (by decide) ?_
            subst h
            exact J10 _ _ _ hP hS (lv_sub hl [1, 2, 3, 4, 0] rfl)
          · replace h := iq c9 h
            refine lv_iconst (v := (1 : Int32)) hx hb dX8_sees_61 (by decide) ?_
            refine lv_iload_n hx hb dX8_sees_62 rfl (lv_at hl 4 rfl) ?_
            refine lv_ishl hx hb dX8_sees_63 ?_
            refine lv_goto (tgt := 68) hx hb dX8_sees_64 (by decide) ?_
            subst h
            exact J10 _ _ _ hP hS (lv_sub hl [1, 2, 3, 4, 0] rfl)
        · replace h := ip c7 h
          refine lv_bipush (v := (-102 : Int32)) hx hb dX8_sees_36 (by decide) ?_
          obtain rfl := Option.some.inj h
          exact ret _ _ _ _ _ dX8_sees_38 hP hS rfl
      · replace h := ip c5 h
        refine lv_bipush (v := (-101 : Int32)) hx hb dX8_sees_21 (by decide) ?_
        obtain rfl := Option.some.inj h
        exact ret _ _ _ _ _ dX8_sees_23 hP hS rfl
