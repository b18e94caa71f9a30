def X0_isKind  (x0 : Int32) : Int32 :=
  if x0 < 0 then (
    (0 : Int32))
  else (
    if (4 : Int32) < x0 then (
      (0 : Int32))
    else (
      (1 : Int32)))
abbrev rmX0_isKind : Room := { frames := 0, cells := 0, slots := 0, locals := 0 }
set_option maxHeartbeats 4000000 in
set_option maxRecDepth 100000 in
theorem c_X0_isKind (l : Launch) (D : va_G) (ad : Nat → Nat) (cI : ClassId) (hd : HD ad) (σ τ : St) (η : Int64) (x0 : Int32) (rr : Int32) (h : X0_isKind  x0 = rr) : MZ l yX0_isKind (wy yX0_isKind cX0_isKind 1 (some .boolean)) rmX0_isKind D ad cI [.int x0] σ τ η rr σ τ η := by
  refine mk_z (own := RX0) (lv := [(0, .int x0)]) (plainFor_of_name (by decide)) rfl (Nat.le_of_ble_eq_true rfl) rfl ?_
  intro p e s m args below meth c Q ls hx hb hml hown htb hK ret hP hS hl
  unfold X0_isKind at h
  refine lv_iload_n hx hb dX0_isKind_0 rfl (lv_at hl 0 rfl) ?_
  refine lv_if_lt (tgt := 13) hx hb dX0_isKind_1 (by decide) (fun c1 => ?_) (fun c1 => ?_)
  · replace h := ip c1 h
    refine lv_iconst (v := (0 : Int32)) hx hb dX0_isKind_13 (by decide) ?_
    subst h
    exact ret _ _ _ _ _ dX0_isKind_14 hP hS rfl (by first | exact Or.inl rfl | exact Or.inr rfl | assumption)
  · replace h := iq c1 h
    refine lv_iload_n hx hb dX0_isKind_4 rfl (lv_at hl 0 rfl) ?_
    refine lv_iconst (v := (4 : Int32)) hx hb dX0_isKind_5 (by decide) ?_
    refine lv_icmp_gt (tgt := 13) hx hb dX0_isKind_6 (by decide) (fun c2 => ?_) (fun c2 => ?_)
    · replace h := ip c2 h
      refine lv_iconst (v := (0 : Int32)) hx hb dX0_isKind_13 (by decide) ?_
      subst h
      exact ret _ _ _ _ _ dX0_isKind_14 hP hS rfl (by first | exact Or.inl rfl | exact Or.inr rfl | assumption)
    · replace h := iq c2 h
      refine lv_iconst (v := (1 : Int32)) hx hb dX0_isKind_9 (by decide) ?_
      refine lv_goto (tgt := 14) hx hb dX0_isKind_10 (by decide) ?_
      subst h
      exact ret _ _ _ _ _ dX0_isKind_14 hP hS rfl (by first | exact Or.inl rfl | exact Or.inr rfl | assumption)
def X7_isDay  (x0 : Int32) : Int32 :=
  if x0 < (1 : Int32) then (
    (0 : Int32))
  else (
    if (8 : Int32) < x0 then (
      (0 : Int32))
    else (
      (1 : Int32)))
abbrev rmX7_isDay : Room := { frames := 0, cells := 0, slots := 0, locals := 0 }
set_option maxHeartbeats 4000000 in
set_option maxRecDepth 100000 in
theorem c_X7_isDay (l : Launch) (D : va_G) (ad : Nat → Nat) (cI : ClassId) (hd : HD ad) (σ τ : St) (η : Int64) (x0 : Int32) (rr : Int32) (h : X7_isDay  x0 = rr) : MZ l yX7_isDay (wy yX7_isDay cX7_isDay 1 (some .boolean)) rmX7_isDay D ad cI [.int x0] σ τ η rr σ τ η := by
  refine mk_z (own := RX7) (lv := [(0, .int x0)]) (plainFor_of_name (by decide)) rfl (Nat.le_of_ble_eq_true rfl) rfl ?_
  intro p e s m args below meth c Q ls hx hb hml hown htb hK ret hP hS hl
  unfold X7_isDay at h
  refine lv_iload_n hx hb dX7_isDay_0 rfl (lv_at hl 0 rfl) ?_
  refine lv_iconst (v := (1 : Int32)) hx hb dX7_isDay_1 (by decide) ?_
  refine lv_icmp_lt (tgt := 15) hx hb dX7_isDay_2 (by decide) (fun c1 => ?_) (fun c1 => ?_)
  · replace h := ip c1 h
    refine lv_iconst (v := (0 : Int32)) hx hb dX7_isDay_15 (by decide) ?_
    subst h
    exact ret _ _ _ _ _ dX7_isDay_16 hP hS rfl (by first | exact Or.inl rfl | exact Or.inr rfl | assumption)
  · replace h := iq c1 h
    refine lv_iload_n hx hb dX7_isDay_5 rfl (lv_at hl 0 rfl) ?_
    refine lv_bipush (v := (8 : Int32)) hx hb dX7_isDay_6 (by decide) ?_
    refine lv_icmp_gt (tgt := 15) hx hb dX7_isDay_8 (by decide) (fun c2 => ?_) (fun c2 => ?_)
    · replace h := ip c2 h
      refine lv_iconst (v := (0 : Int32)) hx hb dX7_isDay_15 (by decide) ?_
      subst h
      exact ret _ _ _ _ _ dX7_isDay_16 hP hS rfl (by first | exact Or.inl rfl | exact Or.inr rfl | assumption)
    · replace h := iq c2 h
      refine lv_iconst (v := (1 : Int32)) hx hb dX7_isDay_11 (by decide) ?_
      refine lv_goto (tgt := 16) hx hb dX7_isDay_12 (by decide) ?_
      subst h
      exact ret _ _ _ _ _ dX7_isDay_16 hP hS rfl (by first | exact Or.inl rfl | exact Or.inr rfl | assumption)
def X0_suits  (x0 : Int32) (x1 : Int32) : Int32 :=
  if x0 = (2 : Int32) then (
    lt (X7_isDay  x1) fun v2 =>
    v2)
  else (
    if x0 = (4 : Int32) then (
      lt (X7_isDay  x1) fun v5 =>
      v5)
    else (
      if x1 = 0 then (
        (1 : Int32))
      else (
        (0 : Int32))))
abbrev rmX0_suits : Room := { frames := 1, cells := 0, slots := 0, locals := 20 }
set_option maxHeartbeats 4000000 in
set_option maxRecDepth 100000 in
theorem c_X0_suits (l : Launch) (D : va_G) (ad : Nat → Nat) (cI : ClassId) (hd : HD ad) (σ τ : St) (η : Int64) (x0 : Int32) (x1 : Int32) (rr : Int32) (h : X0_suits  x0 x1 = rr) : MZ l yX0_suits (wy yX0_suits cX0_suits 2 (some .boolean)) rmX0_suits D ad cI [.int x0, .int x1] σ τ η rr σ τ η := by
  refine mk_z (own := RX0) (lv := [(0, .int x0), (1, .int x1)]) (plainFor_of_name (by decide)) rfl (Nat.le_of_ble_eq_true rfl) rfl ?_
  intro p e s m args below meth c Q ls hx hb hml hown htb hK ret hP hS hl
  unfold X0_suits at h
  refine lv_iload_n hx hb dX0_suits_0 rfl (lv_at hl 0 rfl) ?_
  refine lv_iconst (v := (2 : Int32)) hx hb dX0_suits_1 (by decide) ?_
  refine lv_icmp_eq (tgt := 10) hx hb dX0_suits_2 (by decide) (fun c1 => ?_) (fun c1 => ?_)
  · replace h := ip c1 h
    refine lv_iload_n hx hb dX0_suits_10 rfl (lv_at hl 1 rfl) ?_
    obtain ⟨v2, g2, h⟩ := ol h
    refine c_Nz (As := [.int x1]) (rest := []) (A := AA ad) ⟨hx, hb, hml, hown, htb⟩ (c_X7_isDay l D ad cI hd σ τ η x1 v2 g2) ⟨va_cnB 1 htb (gdW (fun _ hh => hh) wC_yX7_isDay) rfl rfl rfl (hK.2 _ wMN_RX0_31 rfl) (htb _ wI_RX7) hd_X7_isDay.2 ⟨by decide, by decide⟩, htb _ wST_yX7_isDay, trivial⟩ hK hP (fun _ hh => hh) hS rfl hl.1 rfl (Nat.le_of_ble_eq_true rfl) dX0_suits_11 ⟨Nat.le_refl 0, Nat.le_refl 0⟩ (fun H locs hz2 hP hS => ?_)
    refine lv_goto (tgt := 26) hx hb dX0_suits_14 (by decide) ?_
    subst h
    exact ret _ _ _ _ _ dX0_suits_26 hP hS rfl (by first | exact Or.inl rfl | exact Or.inr rfl | assumption)
  · replace h := iq c1 h
    refine lv_iload_n hx hb dX0_suits_5 rfl (lv_at hl 0 rfl) ?_
    refine lv_iconst (v := (4 : Int32)) hx hb dX0_suits_6 (by decide) ?_
    refine lv_icmp_ne (tgt := 17) hx hb dX0_suits_7 (by decide) (fun c3 => ?_) (fun c3 => ?_)
    · replace h := iq c3 h
      refine lv_iload_n hx hb dX0_suits_17 rfl (lv_at hl 1 rfl) ?_
      refine lv_if_ne (tgt := 25) hx hb dX0_suits_18 (by decide) (fun c4 => ?_) (fun c4 => ?_)
      · replace h := iq c4 h
        refine lv_iconst (v := (0 : Int32)) hx hb dX0_suits_25 (by decide) ?_
        subst h
        exact ret _ _ _ _ _ dX0_suits_26 hP hS rfl (by first | exact Or.inl rfl | exact Or.inr rfl | assumption)
      · replace h := ip c4 h
        refine lv_iconst (v := (1 : Int32)) hx hb dX0_suits_21 (by decide) ?_
        refine lv_goto (tgt := 26) hx hb dX0_suits_22 (by decide) ?_
        subst h
        exact ret _ _ _ _ _ dX0_suits_26 hP hS rfl (by first | exact Or.inl rfl | exact Or.inr rfl | assumption)
    · replace h := ip c3 h
      refine lv_iload_n hx hb dX0_suits_10 rfl (lv_at hl 1 rfl) ?_
      obtain ⟨v5, g5, h⟩ := ol h
      refine c_Nz (As := [.int x1]) (rest := []) (A := AA ad) ⟨hx, hb, hml, hown, htb⟩ (c_X7_isDay l D ad cI hd σ τ η x1 v5 g5) ⟨va_cnB 1 htb (gdW (fun _ hh => hh) wC_yX7_isDay) rfl rfl rfl (hK.2 _ wMN_RX0_31 rfl) (htb _ wI_RX7) hd_X7_isDay.2 ⟨by decide, by decide⟩, htb _ wST_yX7_isDay, trivial⟩ hK hP (fun _ hh => hh) hS rfl hl.1 rfl (Nat.le_of_ble_eq_true rfl) dX0_suits_11 ⟨Nat.le_refl 0, Nat.le_refl 0⟩ (fun H locs hz5 hP hS => ?_)
      refine lv_goto (tgt := 26) hx hb dX0_suits_14 (by decide) ?_
      subst h
      exact ret _ _ _ _ _ dX0_suits_26 hP hS rfl (by first | exact Or.inl rfl | exact Or.inr rfl | assumption)
def X7_withBit  (x0 : Int32) (x1 : Int32) (x2 : Int32) : Int32 :=
  if x2 = 0 then (
    (x0 &&& ((ishl (1 : Int32) x1) ^^^ (-1 : Int32))))
  else (
    (x0 ||| (ishl (1 : Int32) x1)))
abbrev rmX7_withBit : Room := { frames := 0, cells := 0, slots := 0, locals := 0 }
set_option maxHeartbeats 4000000 in
set_option maxRecDepth 100000 in
theorem c_X7_withBit (l : Launch) (D : va_G) (ad : Nat → Nat) (cI : ClassId) (hd : HD ad) (σ τ : St) (η : Int64) (x0 : Int32) (x1 : Int32) (x2 : Int32) (rr : Int32) (h : X7_withBit  x0 x1 x2 = rr) : MI l yX7_withBit (wy yX7_withBit cX7_withBit 3 (some .int)) rmX7_withBit D ad cI [.int x0, .int x1, .int x2] σ τ η rr σ τ η := by
  refine mk_i (own := RX7) (lv := [(0, .int x0), (1, .int x1), (2, .int x2)]) (plainFor_of_name (by decide)) rfl (Nat.le_of_ble_eq_true rfl) rfl ?_
  intro p e s m args below meth c Q ls hx hb hml hown htb hK ret hP hS hl
  unfold X7_withBit at h
  refine lv_iload_n hx hb dX7_withBit_0 rfl (lv_at hl 2 rfl) ?_
  refine lv_if_eq (tgt := 12) hx hb dX7_withBit_1 (by decide) (fun c1 => ?_) (fun c1 => ?_)
  · replace h := ip c1 h
    refine lv_iload_n hx hb dX7_withBit_12 rfl (lv_at hl 0 rfl) ?_
    refine lv_iconst (v := (1 : Int32)) hx hb dX7_withBit_13 (by decide) ?_
    refine lv_iload_n hx hb dX7_withBit_14 rfl (lv_at hl 1 rfl) ?_
    refine lv_ishl hx hb dX7_withBit_15 ?_
    refine lv_iconst (v := (-1 : Int32)) hx hb dX7_withBit_16 (by decide) ?_
    refine lv_ixor hx hb dX7_withBit_17 ?_
    refine lv_iand hx hb dX7_withBit_18 ?_
    subst h
    exact ret _ _ _ _ _ dX7_withBit_19 hP hS rfl
  · replace h := iq c1 h
    refine lv_iload_n hx hb dX7_withBit_4 rfl (lv_at hl 0 rfl) ?_
    refine lv_iconst (v := (1 : Int32)) hx hb dX7_withBit_5 (by decide) ?_
    refine lv_iload_n hx hb dX7_withBit_6 rfl (lv_at hl 1 rfl) ?_
    refine lv_ishl hx hb dX7_withBit_7 ?_
    refine lv_ior hx hb dX7_withBit_8 ?_
    refine lv_goto (tgt := 19) hx hb dX7_withBit_9 (by decide) ?_
    subst h
    exact ret _ _ _ _ _ dX7_withBit_19 hP hS rfl
def X0_add (σ : St) (x1 : Int32) (x2 : Int32) : Option (Int32 × St) :=
  if (σ 1 5) < (9 : Int32) then (
    bd (wa σ 2 9 (σ 1 5) x1) fun σ2 =>
    bd (wa σ2 3 9 (σ2 1 5) x2) fun σ3 =>
    lt ((
        if x1 = (1 : Int32) then (
          (1 : Int32))
        else (
          (0 : Int32))) : Int32) fun v5 =>
    lt (X7_withBit  (σ3 1 4) (σ3 1 5) v5) fun v6 =>
    lt (s2 σ3 1 4 v6) fun σ7 =>
    lt (s2 σ7 1 5 ((σ7 1 5) + (1 : Int32))) fun σ8 =>
    some (((σ8 1 5) - (1 : Int32)), σ8))
  else (
    some ((-104 : Int32), σ))
abbrev rmX0_add : Room := { frames := 1, cells := 0, slots := 0, locals := 22 }
set_option maxHeartbeats 4000000 in
set_option maxRecDepth 100000 in
theorem c_X0_add (l : Launch) (D : va_G) (ad : Nat → Nat) (cI : ClassId) (hd : HD ad) (σ τ : St) (η : Int64) (x1 : Int32) (x2 : Int32) (rr : Int32 × St) (h : X0_add σ x1 x2 = some rr) : MI l yX0_add (wy yX0_add cX0_add 3 (some .int)) rmX0_add D ad cI [.ref (ad 1), .int x1, .int x2] σ τ η rr.1 rr.2 τ η := by
  refine mk_i (own := RX0) (lv := [(0, .ref (ad 1)), (1, .int x1), (2, .int x2)]) (plainFor_of_name (by decide)) rfl (Nat.le_of_ble_eq_true rfl) rfl ?_
  intro p e s m args below meth c Q ls hx hb hml hown htb hK ret hP hS hl
  unfold X0_add at h
  refine lv_aload_n hx hb dX0_add_0 rfl (lv_at hl 0 rfl) ?_
  refine va_get (D := D) (ci := 0) (v := .int (σ 1 5)) (C := RX0) (T := TX0) (N := 6) hx hb htb wu_0 hown hK.1 hP 1 w_1 rfl 5 (by decide) (htb _ wFL_RX0_28) (fun _ h9 => h9) rfl dX0_add_1 ?_
  refine lv_bipush (v := (9 : Int32)) hx hb dX0_add_4 (by decide) ?_
  refine lv_icmp_lt (tgt := 12) hx hb dX0_add_6 (by decide) (fun c1 => ?_) (fun c1 => ?_)
  · replace h := ip c1 h
    refine lv_aload_n hx hb dX0_add_12 rfl (lv_at hl 0 rfl) ?_
    refine va_get (D := D) (ci := 0) (v := .ref (ad 2)) (C := RX0) (T := TX0) (N := 6) hx hb htb wu_0 hown hK.1 hP 1 w_1 rfl 0 (by decide) (htb _ wFL_RX0_11) (fun _ h9 => h9) rfl dX0_add_13 ?_
    refine lv_aload_n hx hb dX0_add_16 rfl (lv_at hl 0 rfl) ?_
    refine va_get (D := D) (ci := 0) (v := .int (σ 1 5)) (C := RX0) (T := TX0) (N := 6) hx hb htb wu_0 hown hK.1 hP 1 w_1 rfl 5 (by decide) (htb _ wFL_RX0_28) (fun _ h9 => h9) rfl dX0_add_17 ?_
    refine lv_iload_n hx hb dX0_add_20 rfl (lv_at hl 1 rfl) ?_
    obtain ⟨σ2, g2, h⟩ := ob h
    refine r_astC (A := AA ad) hx hb hK hd (fun _ hh => hh) hP hS 2 9 (by decide) (fun _ => rfl) g2 dX0_add_21 (fun H locs hP hS => ?_)
    refine lv_aload_n hx hb dX0_add_22 rfl (lv_at hl 0 rfl) ?_
    refine va_get (D := D) (ci := 0) (v := .ref (ad 3)) (C := RX0) (T := TX0) (N := 6) hx hb htb wu_0 hown hK.1 hP 1 w_1 rfl 1 (by decide) (htb _ wFL_RX0_15) (fun _ h9 => h9) rfl dX0_add_23 ?_
    refine lv_aload_n hx hb dX0_add_26 rfl (lv_at hl 0 rfl) ?_
    refine va_get (D := D) (ci := 0) (v := .int (σ2 1 5)) (C := RX0) (T := TX0) (N := 6) hx hb htb wu_0 hown hK.1 hP 1 w_1 rfl 5 (by decide) (htb _ wFL_RX0_28) (fun _ h9 => h9) rfl dX0_add_27 ?_
    refine lv_iload_n hx hb dX0_add_30 rfl (lv_at hl 2 rfl) ?_
    obtain ⟨σ3, g3, h⟩ := ob h
    refine r_astC (A := AA ad) hx hb hK hd (fun _ hh => hh) hP hS 3 9 (by decide) (fun _ => rfl) g3 dX0_add_31 (fun H locs hP hS => ?_)
    refine lv_aload_n hx hb dX0_add_32 rfl (lv_at hl 0 rfl) ?_
    refine lv_aload_n hx hb dX0_add_33 rfl (lv_at hl 0 rfl) ?_
    refine va_get (D := D) (ci := 0) (v := .int (σ3 1 4)) (C := RX0) (T := TX0) (N := 6) hx hb htb wu_0 hown hK.1 hP 1 w_1 rfl 4 (by decide) (htb _ wFL_RX0_24) (fun _ h9 => h9) rfl dX0_add_34 ?_
    refine lv_aload_n hx hb dX0_add_37 rfl (lv_at hl 0 rfl) ?_
    refine va_get (D := D) (ci := 0) (v := .int (σ3 1 5)) (C := RX0) (T := TX0) (N := 6) hx hb htb wu_0 hown hK.1 hP 1 w_1 rfl 5 (by decide) (htb _ wFL_RX0_28) (fun _ h9 => h9) rfl dX0_add_38 ?_
    refine lv_iload_n hx hb dX0_add_41 rfl (lv_at hl 1 rfl) ?_
    refine lv_iconst (v := (1 : Int32)) hx hb dX0_add_42 (by decide) ?_
    obtain ⟨v5, hj5, h⟩ := ol h
    have J5 : ∀ (H : Heap) (locs : List Loc) (ls : Array Slot), WP D ad cI σ3 τ η H → va_S (AA ad) s.heap H locs → lv_has ls 3 [(0, .ref (ad 1))] → W p l e rmX0_add s m args below meth c H locs 0 0 Q (F0 m 51 ls [.int v5, .int (σ3 1 5), .int (σ3 1 4), .ref (ad 1)]) := by
      intro H locs ls hP hS hl
      obtain ⟨v6, g6, h⟩ := ol h
      refine c_Ni (As := [.int (σ3 1 4), .int (σ3 1 5), .int v5]) (rest := [.ref (ad 1)]) (A := AA ad) ⟨hx, hb, hml, hown, htb⟩ (c_X7_withBit l D ad cI hd σ3 τ η (σ3 1 4) (σ3 1 5) v5 v6 g6) ⟨va_cnB 3 htb (gdW (fun _ hh => hh) wC_yX7_withBit) rfl rfl rfl (hK.2 _ wMN_RX0_35 rfl) (htb _ wI_RX7) hd_X7_withBit.2 ⟨by decide, by decide⟩, htb _ wST_yX7_withBit, trivial⟩ hK hP (fun _ hh => hh) hS rfl hl.1 rfl (Nat.le_of_ble_eq_true rfl) dX0_add_51 ⟨Nat.le_refl 0, Nat.le_refl 0⟩ (fun H locs hP hS => ?_)
      obtain ⟨σ7, g7, h⟩ := ol h
      refine r_putC (ci := 0) (C := RX0) (T := TX0) (N := 6) (A := AA ad) hx hb htb wu_0 tyX0 tyX0_ok nmX0 hown hK hd (fun _ hh => hh) hP hS 1 (by decide) 4 rfl rfl rfl (by decide) (htb _ wFL_RX0_24) rfl rfl (by decide +kernel) (Nat.le_of_ble_eq_true rfl) dX0_add_54 (fun H locs hP hS => ?_)
      rw [g7] at hP
      refine lv_aload_n hx hb dX0_add_57 rfl (lv_at hl 0 rfl) ?_
      refine lv_dup hx hb dX0_add_58 rfl ?_
      refine va_get (D := D) (ci := 0) (v := .int (σ7 1 5)) (C := RX0) (T := TX0) (N := 6) hx hb htb wu_0 hown hK.1 hP 1 w_1 rfl 5 (by decide) (htb _ wFL_RX0_28) (fun _ h9 => h9) rfl dX0_add_59 ?_
      refine lv_iconst (v := (1 : Int32)) hx hb dX0_add_62 (by decide) ?_
      refine lv_iadd hx hb dX0_add_63 ?_
      obtain ⟨σ8, g8, h⟩ := ol h
      refine r_putC (ci := 0) (C := RX0) (T := TX0) (N := 6) (A := AA ad) hx hb htb wu_0 tyX0 tyX0_ok nmX0 hown hK hd (fun _ hh => hh) hP hS 1 (by decide) 5 rfl rfl rfl (by decide) (htb _ wFL_RX0_28) rfl rfl (by decide +kernel) (Nat.le_of_ble_eq_true rfl) dX0_add_64 (fun H locs hP hS => ?_)
      rw [g8] at hP
      refine lv_aload_n hx hb dX0_add_67 rfl (lv_at hl 0 rfl) ?_
      refine va_get (D := D) (ci := 0) (v := .int (σ8 1 5)) (C := RX0) (T := TX0) (N := 6) hx hb htb wu_0 hown hK.1 hP 1 w_1 rfl 5 (by decide) (htb _ wFL_RX0_28) (fun _ h9 => h9) rfl dX0_add_68 ?_
      refine lv_iconst (v := (1 : Int32)) hx hb dX0_add_71 (by decide) ?_
      refine lv_isub hx hb dX0_add_72 ?_
      obtain rfl := Option.some.inj h
      exact ret _ _ _ _ _ dX0_add_73 hP hS rfl
    replace h := hj5
    refine lv_icmp_ne (tgt := 50) hx hb dX0_add_43 (by decide) (fun c4 => ?_) (fun c4 => ?_)
    · replace h := iq c4 h
      refine lv_iconst (v := (0 : Int32)) hx hb dX0_add_50 (by decide) ?_
      subst h
      exact J5 _ _ _ hP hS (lv_sub hl [0] rfl)
    · replace h := ip c4 h
      refine lv_iconst (v := (1 : Int32)) hx hb dX0_add_46 (by decide) ?_
      refine lv_goto (tgt := 51) hx hb dX0_add_47 (by decide) ?_
      subst h
      exact J5 _ _ _ hP hS (lv_sub hl [0] rfl)
  · replace h := iq c1 h
    refine lv_bipush (v := (-104 : Int32)) hx hb dX0_add_9 (by decide) ?_
    obtain rfl := Option.some.inj h
    exact ret _ _ _ _ _ dX0_add_11 hP hS rfl
def X7_guest (σ : St) (x1 : Int32) (x2 : Int32) : Option (Int32 × St) :=
  lt (X0_isKind  x1) fun v1 =>
  if v1 = 0 then (
    some ((-102 : Int32), σ))
  else (
    lt (X0_suits  x1 x2) fun v3 =>
    if v3 = 0 then (
      some ((-102 : Int32), σ))
    else (
      bd (X0_add σ x1 x2) fun v5 =>
      some (v5.1, v5.2)))
abbrev rmX7_guest : Room := { frames := 2, cells := 0, slots := 0, locals := 44 }
set_option maxHeartbeats 4000000 in
set_option maxRecDepth 100000 in
theorem c_X7_guest (l : Launch) (D : va_G) (ad : Nat → Nat) (cI : ClassId) (hd : HD ad) (σ τ : St) (η : Int64) (x1 : Int32) (x2 : Int32) (rr : Int32 × St) (h : X7_guest σ x1 x2 = some rr) : MI l yX7_guest (wy yX7_guest cX7_guest 3 (some .int)) rmX7_guest D ad cI [.ref (ad 0), .int x1, .int x2] σ τ η rr.1 rr.2 τ η := by
  refine mk_i (own := RX7) (lv := [(0, .ref (ad 0)), (1, .int x1), (2, .int x2)]) (plainFor_of_name (by decide)) rfl (Nat.le_of_ble_eq_true rfl) rfl ?_
  intro p e s m args below meth c Q ls hx hb hml hown htb hK ret hP hS hl
  unfold X7_guest at h
  refine lv_iload_n hx hb dX7_guest_0 rfl (lv_at hl 1 rfl) ?_
  obtain ⟨v1, g1, h⟩ := ol h
  refine c_Sz (As := [.int x1]) (rest := []) (A := AA ad) ⟨hx, hb, hml, hown, htb⟩ (c_X0_isKind l D ad cI hd σ τ η x1 v1 g1) (va_cwS 1 htb (gdS (fun _ hh => hh) wML_RX7_72 wST_yX0_isKind wI_RX0 wC_yX0_isKind) rfl rfl rfl hd_X0_isKind.2 ⟨by decide, by decide⟩) hK hP (fun _ hh => hh) hS rfl hl.1 rfl (Nat.le_of_ble_eq_true rfl) dX7_guest_1 ⟨Nat.le_refl 0, Nat.le_refl 0⟩ (fun H locs hz1 hP hS => ?_)
  refine lv_if_eq (tgt := 15) hx hb dX7_guest_4 (by decide) (fun c2 => ?_) (fun c2 => ?_)
  · replace h := ip c2 h
    refine lv_bipush (v := (-102 : Int32)) hx hb dX7_guest_15 (by decide) ?_
    obtain rfl := Option.some.inj h
    exact ret _ _ _ _ _ dX7_guest_17 hP hS rfl
  · replace h := iq c2 h
    refine lv_iload_n hx hb dX7_guest_7 rfl (lv_at hl 1 rfl) ?_
    refine lv_iload_n hx hb dX7_guest_8 rfl (lv_at hl 2 rfl) ?_
    obtain ⟨v3, g3, h⟩ := ol h
    refine c_Sz (As := [.int x1, .int x2]) (rest := []) (A := AA ad) ⟨hx, hb, hml, hown, htb⟩ (c_X0_suits l D ad cI hd σ τ η x1 x2 v3 g3) (va_cwS 2 htb (gdS (fun _ hh => hh) wML_RX7_76 wST_yX0_suits wI_RX0 wC_yX0_suits) rfl rfl rfl hd_X0_suits.2 ⟨by decide, by decide⟩) hK hP (fun _ hh => hh) hS rfl hl.1 rfl (Nat.le_of_ble_eq_true rfl) dX7_guest_9 ⟨Nat.le_refl 0, Nat.le_refl 0⟩ (fun H locs hz3 hP hS => ?_)
    refine lv_if_ne (tgt := 18) hx hb dX7_guest_12 (by decide) (fun c4 => ?_) (fun c4 => ?_)
    · replace h := iq c4 h
      refine lv_aload_n hx hb dX7_guest_18 rfl (lv_at hl 0 rfl) ?_
      refine va_get (D := D) (ci := 7) (v := .ref (ad 1)) (C := RX7) (T := TX7) (N := 11) hx hb htb wu_7 hown hK.1 hP 0 w_0 rfl 0 (by decide) (htb _ wFL_RX7_10) (fun _ h9 => h9) rfl dX7_guest_19 ?_
      refine lv_iload_n hx hb dX7_guest_22 rfl (lv_at hl 1 rfl) ?_
      refine lv_iload_n hx hb dX7_guest_23 rfl (lv_at hl 2 rfl) ?_
      obtain ⟨v5, g5, h⟩ := ob h
      refine c_Vi (q := (RX0, TX0, 6)) (ci := 0) (b := 1) (As := [.int x1, .int x2]) (rest := []) (A := AA ad) ⟨hx, hb, hml, hown, htb⟩ (c_X0_add l D ad cI hd σ τ η x1 x2 v5 g5) (cwV 2 htb (gdV (fun _ hh => hh) wML_RX7_80 wIM_yX0_add wSE_yX0_add wI_RX0 wC_yX0_add) rfl rfl rfl hd_X0_add ⟨by decide, by decide⟩) hK hP rfl w_1 (fun _ hh => hh) hS rfl hl.1 rfl (Nat.le_of_ble_eq_true rfl) dX7_guest_24 ⟨Nat.le_refl 0, Nat.le_refl 0⟩ (fun H locs hP hS => ?_)
      obtain rfl := Option.some.inj h
      exact ret _ _ _ _ _ dX7_guest_27 hP hS rfl
    · replace h := ip c4 h
      refine lv_bipush (v := (-102 : Int32)) hx hb dX7_guest_15 (by decide) ?_
      obtain rfl := Option.some.inj h
      exact ret _ _ _ _ _ dX7_guest_17 hP hS rfl
def X8_in  (x0 : Int64) (x2 : Int64) (x4 : Int64) : Int32 :=
  if x0 < x2 then (
    (0 : Int32))
  else (
    if x4 < x0 then (
      (0 : Int32))
    else (
      (1 : Int32)))
abbrev rmX8_in : Room := { frames := 0, cells := 0, slots := 0, locals := 0 }
set_option maxHeartbeats 4000000 in
set_option maxRecDepth 100000 in
theorem c_X8_in (l : Launch) (D : va_G) (ad : Nat → Nat) (cI : ClassId) (hd : HD ad) (σ τ : St) (η : Int64) (x0 : Int64) (x2 : Int64) (x4 : Int64) (rr : Int32) (h : X8_in  x0 x2 x4 = rr) : MZ l yX8_in (wy yX8_in cX8_in 6 (some .boolean)) rmX8_in D ad cI [.long x0, .long x2, .long x4] σ τ η rr σ τ η := by
  refine mk_z (own := RX8) (lv := [(0, .long x0), (2, .long x2), (4, .long x4)]) (plainFor_of_name (by decide)) rfl (Nat.le_of_ble_eq_true rfl) rfl ?_
  intro p e s m args below meth c Q ls hx hb hml hown htb hK ret hP hS hl
  unfold X8_in at h
  refine lv_lload_n hx hb dX8_in_0 rfl (lv_at hl 0 rfl) ?_
  refine lv_lload_n hx hb dX8_in_1 rfl (lv_at hl 1 rfl) ?_
  refine W.lcmp hx hb dX8_in_2 ?_
  refine lv_if_lt (tgt := 17) hx hb dX8_in_3 (by decide) (fun c1 => ?_) (fun c1 => ?_)
  · replace c1 := (lg_cmp_lt _ _).mp c1
    replace h := ip c1 h
    refine lv_iconst (v := (0 : Int32)) hx hb dX8_in_17 (by decide) ?_
    subst h
    exact ret _ _ _ _ _ dX8_in_18 hP hS rfl (by first | exact Or.inl rfl | exact Or.inr rfl | assumption)
  · replace c1 := (not_congr (lg_cmp_lt _ _)).mp c1
    replace h := iq c1 h
    refine lv_lload_n hx hb dX8_in_6 rfl (lv_at hl 0 rfl) ?_
    refine lv_lload hx hb dX8_in_7 (lv_at hl 2 rfl) ?_
    refine W.lcmp hx hb dX8_in_9 ?_
    refine lv_if_gt (tgt := 17) hx hb dX8_in_10 (by decide) (fun c2 => ?_) (fun c2 => ?_)
    · replace c2 := (lg_cmp_gt _ _).mp c2
      replace h := ip c2 h
      refine lv_iconst (v := (0 : Int32)) hx hb dX8_in_17 (by decide) ?_
      subst h
      exact ret _ _ _ _ _ dX8_in_18 hP hS rfl (by first | exact Or.inl rfl | exact Or.inr rfl | assumption)
    · replace c2 := (not_congr (lg_cmp_gt _ _)).mp c2
      replace h := iq c2 h
      refine lv_iconst (v := (1 : Int32)) hx hb dX8_in_13 (by decide) ?_
      refine lv_goto (tgt := 18) hx hb dX8_in_14 (by decide) ?_
      subst h
      exact ret _ _ _ _ _ dX8_in_18 hP hS rfl (by first | exact Or.inl rfl | exact Or.inr rfl | assumption)
def X8_isNeeded  (x0 : Int32) : Int32 :=
  if x0 = (2 : Int32) then (
    (1 : Int32))
  else (
    if x0 = (4 : Int32) then (
      (1 : Int32))
    else (
      (0 : Int32)))
abbrev rmX8_isNeeded : Room := { frames := 0, cells := 0, slots := 0, locals := 0 }
set_option maxHeartbeats 4000000 in
set_option maxRecDepth 100000 in
theorem c_X8_isNeeded (l : Launch) (D : va_G) (ad : Nat → Nat) (cI : ClassId) (hd : HD ad) (σ τ : St) (η : Int64) (x0 : Int32) (rr : Int32) (h : X8_isNeeded  x0 = rr) : MZ l yX8_isNeeded (wy yX8_isNeeded cX8_isNeeded 1 (some .boolean)) rmX8_isNeeded D ad cI [.int x0] σ τ η rr σ τ η := by
  refine mk_z (own := RX8) (lv := [(0, .int x0)]) (plainFor_of_name (by decide)) rfl (Nat.le_of_ble_eq_true rfl) rfl ?_
  intro p e s m args below meth c Q ls hx hb hml hown htb hK ret hP hS hl
  unfold X8_isNeeded at h
  refine lv_iload_n hx hb dX8_isNeeded_0 rfl (lv_at hl 0 rfl) ?_
  refine lv_iconst (v := (2 : Int32)) hx hb dX8_isNeeded_1 (by decide) ?_
  refine lv_icmp_eq (tgt := 10) hx hb dX8_isNeeded_2 (by decide) (fun c1 => ?_) (fun c1 => ?_)
  · replace h := ip c1 h
    refine lv_iconst (v := (1 : Int32)) hx hb dX8_isNeeded_10 (by decide) ?_
    refine lv_goto (tgt := 15) hx hb dX8_isNeeded_11 (by decide) ?_
    subst h
    exact ret _ _ _ _ _ dX8_isNeeded_15 hP hS rfl (by first | exact Or.inl rfl | exact Or.inr rfl | assumption)
  · replace h := iq c1 h
    refine lv_iload_n hx hb dX8_isNeeded_5 rfl (lv_at hl 0 rfl) ?_
    refine lv_iconst (v := (4 : Int32)) hx hb dX8_isNeeded_6 (by decide) ?_
    refine lv_icmp_ne (tgt := 14) hx hb dX8_isNeeded_7 (by decide) (fun c2 => ?_) (fun c2 => ?_)
    · replace h := iq c2 h
      refine lv_iconst (v := (0 : Int32)) hx hb dX8_isNeeded_14 (by decide) ?_
      subst h
      exact ret _ _ _ _ _ dX8_isNeeded_15 hP hS rfl (by first | exact Or.inl rfl | exact Or.inr rfl | assumption)
    · replace h := ip c2 h
      refine lv_iconst (v := (1 : Int32)) hx hb dX8_isNeeded_10 (by decide) ?_
      refine lv_goto (tgt := 15) hx hb dX8_isNeeded_11 (by decide) ?_
      subst h
      exact ret _ _ _ _ _ dX8_isNeeded_15 hP hS rfl (by first | exact Or.inl rfl | exact Or.inr rfl | assumption)
def X8_guest (τ : St) (x1 : Int32) (x2 : Int32) : Option (Int32 × St) :=
  lt (X8_in  ((x1).toInt64) (0 : Int64) (4 : Int64)) fun v1 =>
  if v1 = 0 then (
    some ((-102 : Int32), τ))
  else (
    lt (X8_isNeeded  x1) fun v3 =>
    if v3 = 0 then (
      if x2 = 0 then (
        if (τ 29 0) = (9 : Int32) then (
          some ((-104 : Int32), τ))
        else (
          bd (wa τ 30 9 (τ 29 0) x1) fun τ7 =>
          bd (wa τ7 31 9 (τ7 29 0) x2) fun τ8 =>
          bd (wa τ8 32 9 (τ8 29 0) (0 : Int32)) fun τ9 =>
          lt (s2 τ9 29 0 ((τ9 29 0) + (1 : Int32))) fun τ10 =>
          some (((τ10 29 0) - (1 : Int32)), τ10)))
      else (
        some ((-102 : Int32), τ)))
    else (
      lt (X8_in  ((x2).toInt64) (1 : Int64) (8 : Int64)) fun v11 =>
      if v11 = 0 then (
        some ((-102 : Int32), τ))
      else (
        if (τ 29 0) = (9 : Int32) then (
          some ((-104 : Int32), τ))
        else (
          bd (wa τ 30 9 (τ 29 0) x1) fun τ14 =>
          bd (wa τ14 31 9 (τ14 29 0) x2) fun τ15 =>
          bd (wa τ15 32 9 (τ15 29 0) (0 : Int32)) fun τ16 =>
          lt (s2 τ16 29 0 ((τ16 29 0) + (1 : Int32))) fun τ17 =>
          some (((τ17 29 0) - (1 : Int32)), τ17)))))
abbrev rmX8_guest : Room := { frames := 1, cells := 0, slots := 0, locals := 25 }
set_option maxHeartbeats 4000000 in
set_option maxRecDepth 100000 in
theorem c_X8_guest (l : Launch) (D : va_G) (ad : Nat → Nat) (cI : ClassId) (hd : HD ad) (σ τ : St) (η : Int64) (x1 : Int32) (x2 : Int32) (rr : Int32 × St) (h : X8_guest τ x1 x2 = some rr) : MI l yX8_guest (wy yX8_guest cX8_guest 3 (some .int)) rmX8_guest D ad cI [.ref (ad 29), .int x1, .int x2] σ τ η rr.1 σ rr.2 η := by
  refine mk_i (own := RX8) (lv := [(0, .ref (ad 29)), (1, .int x1), (2, .int x2)]) (plainFor_of_name (by decide)) rfl (Nat.le_of_ble_eq_true rfl) rfl ?_
  intro p e s m args below meth c Q ls hx hb hml hown htb hK ret hP hS hl
  unfold X8_guest at h
  refine lv_iload_n hx hb dX8_guest_0 rfl (lv_at hl 1 rfl) ?_
  refine lv_i2l (v := ((x1).toInt64)) hx hb dX8_guest_1 rfl ?_
  refine lv_lconst (v := (0 : Int64)) hx hb dX8_guest_2 rfl ?_
  refine lv_ldc2 (v := (4 : Int64)) hx hb hown (htb _ wKL_RX8_69) dX8_guest_3 ?_
  obtain ⟨v1, g1, h⟩ := ol h
  refine c_Sz (As := [.long ((x1).toInt64), .long (0 : Int64), .long (4 : Int64)]) (rest := []) (A := AA ad) ⟨hx, hb, hml, hown, htb⟩ (c_X8_in l D ad cI hd σ τ η ((x1).toInt64) (0 : Int64) (4 : Int64) v1 g1) (va_cwS 3 htb (gdS (fun _ hh => hh) wML_RX8_65 wST_yX8_in wI_RX8 wC_yX8_in) rfl rfl rfl hd_X8_in.2 ⟨by decide, by decide⟩) hK hP (fun _ hh => hh) hS rfl hl.1 rfl (Nat.le_of_ble_eq_true rfl) dX8_guest_6 ⟨Nat.le_refl 0, Nat.le_refl 0⟩ (fun H locs hz1 hP hS => ?_)
  refine lv_if_eq (tgt := 38) hx hb dX8_guest_9 (by decide) (fun c2 => ?_) (fun c2 => ?_)
  · replace h := ip c2 h
    refine lv_bipush (v := (-102 : Int32)) hx hb dX8_guest_38 (by decide) ?_
    obtain rfl := Option.some.inj h
    exact ret _ _ _ _ _ dX8_guest_40 hP hS rfl
  · replace h := iq c2 h
    refine lv_iload_n hx hb dX8_guest_12 rfl (lv_at hl 1 rfl) ?_
    obtain ⟨v3, g3, h⟩ := ol h
    refine c_Sz (As := [.int x1]) (rest := []) (A := AA ad) ⟨hx, hb, hml, hown, htb⟩ (c_X8_isNeeded l D ad cI hd σ τ η x1 v3 g3) (va_cwS 1 htb (gdS (fun _ hh => hh) wML_RX8_71 wST_yX8_isNeeded wI_RX8 wC_yX8_isNeeded) rfl rfl rfl hd_X8_isNeeded.2 ⟨by decide, by decide⟩) hK hP (fun _ hh => hh) hS rfl hl.1 rfl (Nat.le_of_ble_eq_true rfl) dX8_guest_13 ⟨Nat.le_refl 0, Nat.le_refl 0⟩ (fun H locs hz3 hP hS => ?_)
    refine lv_if_eq (tgt := 34) hx hb dX8_guest_16 (by decide) (fun c4 => ?_) (fun c4 => ?_)
    · replace h := ip c4 h
      refine lv_iload_n hx hb dX8_guest_34 rfl (lv_at hl 2 rfl) ?_
      refine lv_if_eq (tgt := 41) hx hb dX8_guest_35 (by decide) (fun c5 => ?_) (fun c5 => ?_)
      · replace h := ip c5 h
        refine lv_aload_n hx hb dX8_guest_41 rfl (lv_at hl 0 rfl) ?_
        refine va_get (D := D) (ci := 8) (v := .int (τ 29 0)) (C := RX8) (T := TX8) (N := 27) hx hb htb wu_8 hown hK.1 hP 29 w_29 rfl 0 (by decide) (htb _ wFL_RX8_62) (fun _ h9 => h9) rfl dX8_guest_42 ?_
        refine lv_bipush (v := (9 : Int32)) hx hb dX8_guest_45 (by decide) ?_
        refine lv_icmp_ne (tgt := 53) hx hb dX8_guest_47 (by decide) (fun c6 => ?_) (fun c6 => ?_)
        · replace h := iq c6 h
          refine lv_aload_n hx hb dX8_guest_53 rfl (lv_at hl 0 rfl) ?_
          refine va_get (D := D) (ci := 8) (v := .ref (ad 30)) (C := RX8) (T := TX8) (N := 27) hx hb htb wu_8 hown hK.1 hP 29 w_29 rfl 1 (by decide) (htb _ wFL_RX8_7) (fun _ h9 => h9) rfl dX8_guest_54 ?_
          refine lv_aload_n hx hb dX8_guest_57 rfl (lv_at hl 0 rfl) ?_
          refine va_get (D := D) (ci := 8) (v := .int (τ 29 0)) (C := RX8) (T := TX8) (N := 27) hx hb htb wu_8 hown hK.1 hP 29 w_29 rfl 0 (by decide) (htb _ wFL_RX8_62) (fun _ h9 => h9) rfl dX8_guest_58 ?_
          refine lv_iload_n hx hb dX8_guest_61 rfl (lv_at hl 1 rfl) ?_
          obtain ⟨τ7, g7, h⟩ := ob h
          refine r_astM (A := AA ad) hx hb hK hd (fun _ hh => hh) hP hS 30 9 (by decide) (fun _ => rfl) g7 dX8_guest_62 (fun H locs hP hS => ?_)
          refine lv_aload_n hx hb dX8_guest_63 rfl (lv_at hl 0 rfl) ?_
          refine va_get (D := D) (ci := 8) (v := .ref (ad 31)) (C := RX8) (T := TX8) (N := 27) hx hb htb wu_8 hown hK.1 hP 29 w_29 rfl 2 (by decide) (htb _ wFL_RX8_13) (fun _ h9 => h9) rfl dX8_guest_64 ?_
          refine lv_aload_n hx hb dX8_guest_67 rfl (lv_at hl 0 rfl) ?_
          refine va_get (D := D) (ci := 8) (v := .int (τ7 29 0)) (C := RX8) (T := TX8) (N := 27) hx hb htb wu_8 hown hK.1 hP 29 w_29 rfl 0 (by decide) (htb _ wFL_RX8_62) (fun _ h9 => h9) rfl dX8_guest_68 ?_
          refine lv_iload_n hx hb dX8_guest_71 rfl (lv_at hl 2 rfl) ?_
          obtain ⟨τ8, g8, h⟩ := ob h
          refine r_astM (A := AA ad) hx hb hK hd (fun _ hh => hh) hP hS 31 9 (by decide) (fun _ => rfl) g8 dX8_guest_72 (fun H locs hP hS => ?_)
          refine lv_aload_n hx hb dX8_guest_73 rfl (lv_at hl 0 rfl) ?_
          refine va_get (D := D) (ci := 8) (v := .ref (ad 32)) (C := RX8) (T := TX8) (N := 27) hx hb htb wu_8 hown hK.1 hP 29 w_29 rfl 3 (by decide) (htb _ wFL_RX8_16) (fun _ h9 => h9) rfl dX8_guest_74 ?_
          refine lv_aload_n hx hb dX8_guest_77 rfl (lv_at hl 0 rfl) ?_
          refine va_get (D := D) (ci := 8) (v := .int (τ8 29 0)) (C := RX8) (T := TX8) (N := 27) hx hb htb wu_8 hown hK.1 hP 29 w_29 rfl 0 (by decide) (htb _ wFL_RX8_62) (fun _ h9 => h9) rfl dX8_guest_78 ?_
          refine lv_iconst (v := (0 : Int32)) hx hb dX8_guest_81 (by decide) ?_
          obtain ⟨τ9, g9, h⟩ := ob h
          refine r_astM (A := AA ad) hx hb hK hd (fun _ hh => hh) hP hS 32 9 (by decide) (fun _ => rfl) g9 dX8_guest_82 (fun H locs hP hS => ?_)
          refine lv_aload_n hx hb dX8_guest_83 rfl (lv_at hl 0 rfl) ?_
          refine lv_dup hx hb dX8_guest_84 rfl ?_
          refine va_get (D := D) (ci := 8) (v := .int (τ9 29 0)) (C := RX8) (T := TX8) (N := 27) hx hb htb wu_8 hown hK.1 hP 29 w_29 rfl 0 (by decide) (htb _ wFL_RX8_62) (fun _ h9 => h9) rfl dX8_guest_85 ?_
          refine lv_iconst (v := (1 : Int32)) hx hb dX8_guest_88 (by decide) ?_
          refine lv_iadd hx hb dX8_guest_89 ?_
          obtain ⟨τ10, g10, h⟩ := ol h
          refine r_putM (ci := 8) (C := RX8) (T := TX8) (N := 27) (A := AA ad) hx hb htb wu_8 tyX8 tyX8_ok nmX8 hown hK hd (fun _ hh => hh) hP hS 0 rfl rfl rfl (by decide) (htb _ wFL_RX8_62) rfl rfl (by decide +kernel) (Nat.le_of_ble_eq_true rfl) dX8_guest_90 (fun H locs hP hS => ?_)
          rw [g10] at hP
          refine lv_aload_n hx hb dX8_guest_93 rfl (lv_at hl 0 rfl) ?_
          refine va_get (D := D) (ci := 8) (v := .int (τ10 29 0)) (C := RX8) (T := TX8) (N := 27) hx hb htb wu_8 hown hK.1 hP 29 w_29 rfl 0 (by decide) (htb _ wFL_RX8_62) (fun _ h9 => h9) rfl dX8_guest_94 ?_
          refine lv_iconst (v := (1 : Int32)) hx hb dX8_guest_97 (by decide) ?_
          refine lv_isub hx hb dX8_guest_98 ?_
          obtain rfl := Option.some.inj h
          exact ret _ _ _ _ _ dX8_guest_99 hP hS rfl
        · replace h := ip c6 h
          refine lv_bipush (v := (-104 : Int32)) hx hb dX8_guest_50 (by decide) ?_
          obtain rfl := Option.some.inj h
          exact ret _ _ _ _ _ dX8_guest_52 hP hS rfl
      · replace h := iq c5 h
        refine lv_bipush (v := (-102 : Int32)) hx hb dX8_guest_38 (by decide) ?_
        obtain rfl := Option.some.inj h
        exact ret _ _ _ _ _ dX8_guest_40 hP hS rfl
    · replace h := iq c4 h
      refine lv_iload_n hx hb dX8_guest_19 rfl (lv_at hl 2 rfl) ?_
      refine lv_i2l (v := ((x2).toInt64)) hx hb dX8_guest_20 rfl ?_
      refine lv_lconst (v := (1 : Int64)) hx hb dX8_guest_21 rfl ?_
      refine lv_ldc2 (v := (8 : Int64)) hx hb hown (htb _ wKL_RX8_75) dX8_guest_22 ?_
      obtain ⟨v11, g11, h⟩ := ol h
      refine c_Sz (As := [.long ((x2).toInt64), .long (1 : Int64), .long (8 : Int64)]) (rest := []) (A := AA ad) ⟨hx, hb, hml, hown, htb⟩ (c_X8_in l D ad cI hd σ τ η ((x2).toInt64) (1 : Int64) (8 : Int64) v11 g11) (va_cwS 3 htb (gdS (fun _ hh => hh) wML_RX8_65 wST_yX8_in wI_RX8 wC_yX8_in) rfl rfl rfl hd_X8_in.2 ⟨by decide, by decide⟩) hK hP (fun _ hh => hh) hS rfl hl.1 rfl (Nat.le_of_ble_eq_true rfl) dX8_guest_25 ⟨Nat.le_refl 0, Nat.le_refl 0⟩ (fun H locs hz11 hP hS => ?_)
      refine lv_if_ne (tgt := 41) hx hb dX8_guest_28 (by decide) (fun c12 => ?_) (fun c12 => ?_)
      · replace h := iq c12 h
        refine lv_aload_n hx hb dX8_guest_41 rfl (lv_at hl 0 rfl) ?_
        refine va_get (D := D) (ci := 8) (v := .int (τ 29 0)) (C := RX8) (T := TX8) (N := 27) hx hb htb wu_8 hown hK.1 hP 29 w_29 rfl 0 (by decide) (htb _ wFL_RX8_62) (fun _ h9 => h9) rfl dX8_guest_42 ?_
        refine lv_bipush (v := (9 : Int32)) hx hb dX8_guest_45 (by decide) ?_
        refine lv_icmp_ne (tgt := 53) hx hb dX8_guest_47 (by decide) (fun c13 => ?_) (fun c13 => ?_)
        · replace h := iq c13 h
          refine lv_aload_n hx hb dX8_guest_53 rfl (lv_at hl 0 rfl) ?_
          refine va_get (D := D) (ci := 8) (v := .ref (ad 30)) (C := RX8) (T := TX8) (N := 27) hx hb htb wu_8 hown hK.1 hP 29 w_29 rfl 1 (by decide) (htb _ wFL_RX8_7) (fun _ h9 => h9) rfl dX8_guest_54 ?_
          refine lv_aload_n hx hb dX8_guest_57 rfl (lv_at hl 0 rfl) ?_
          refine va_get (D := D) (ci := 8) (v := .int (τ 29 0)) (C := RX8) (T := TX8) (N := 27) hx hb htb wu_8 hown hK.1 hP 29 w_29 rfl 0 (by decide) (htb _ wFL_RX8_62) (fun _ h9 => h9) rfl dX8_guest_58 ?_
          refine lv_iload_n hx hb dX8_guest_61 rfl (lv_at hl 1 rfl) ?_
          obtain ⟨τ14, g14, h⟩ := ob h
          refine r_astM (A := AA ad) hx hb hK hd (fun _ hh => hh) hP hS 30 9 (by decide) (fun _ => rfl) g14 dX8_guest_62 (fun H locs hP hS => ?_)
          refine lv_aload_n hx hb dX8_guest_63 rfl (lv_at hl 0 rfl) ?_
          refine va_get (D := D) (ci := 8) (v := .ref (ad 31)) (C := RX8) (T := TX8) (N := 27) hx hb htb wu_8 hown hK.1 hP 29 w_29 rfl 2 (by decide) (htb _ wFL_RX8_13) (fun _ h9 => h9) rfl dX8_guest_64 ?_
          refine lv_aload_n hx hb dX8_guest_67 rfl (lv_at hl 0 rfl) ?_
          refine va_get (D := D) (ci := 8) (v := .int (τ14 29 0)) (C := RX8) (T := TX8) (N := 27) hx hb htb wu_8 hown hK.1 hP 29 w_29 rfl 0 (by decide) (htb _ wFL_RX8_62) (fun _ h9 => h9) rfl dX8_guest_68 ?_
          refine lv_iload_n hx hb dX8_guest_71 rfl (lv_at hl 2 rfl) ?_
          obtain ⟨τ15, g15, h⟩ := ob h
          refine r_astM (A := AA ad) hx hb hK hd (fun _ hh => hh) hP hS 31 9 (by decide) (fun _ => rfl) g15 dX8_guest_72 (fun H locs hP hS => ?_)
          refine lv_aload_n hx hb dX8_guest_73 rfl (lv_at hl 0 rfl) ?_
          refine va_get (D := D) (ci := 8) (v := .ref (ad 32)) (C := RX8) (T := TX8) (N := 27) hx hb htb wu_8 hown hK.1 hP 29 w_29 rfl 3 (by decide) (htb _ wFL_RX8_16) (fun _ h9 => h9) rfl dX8_guest_74 ?_
          refine lv_aload_n hx hb dX8_guest_77 rfl (lv_at hl 0 rfl) ?_
          refine va_get (D := D) (ci := 8) (v := .int (τ15 29 0)) (C := RX8) (T := TX8) (N := 27) hx hb htb wu_8 hown hK.1 hP 29 w_29 rfl 0 (by decide) (htb _ wFL_RX8_62) (fun _ h9 => h9) rfl dX8_guest_78 ?_
          refine lv_iconst (v := (0 : Int32)) hx hb dX8_guest_81 (by decide) ?_
          obtain ⟨τ16, g16, h⟩ := ob h
          refine r_astM (A := AA ad) hx hb hK hd (fun _ hh => hh) hP hS 32 9 (by decide) (fun _ => rfl) g16 dX8_guest_82 (fun H locs hP hS => ?_)
          refine lv_aload_n hx hb dX8_guest_83 rfl (lv_at hl 0 rfl) ?_
          refine lv_dup hx hb dX8_guest_84 rfl ?_
          refine va_get (D := D) (ci := 8) (v := .int (τ16 29 0)) (C := RX8) (T := TX8) (N := 27) hx hb htb wu_8 hown hK.1 hP 29 w_29 rfl 0 (by decide) (htb _ wFL_RX8_62) (fun _ h9 => h9) rfl dX8_guest_85 ?_
          refine lv_iconst (v := (1 : Int32)) hx hb dX8_guest_88 (by decide) ?_
          refine lv_iadd hx hb dX8_guest_89 ?_
          obtain ⟨τ17, g17, h⟩ := ol h
          refine r_putM (ci := 8) (C := RX8) (T := TX8) (N := 27) (A := AA ad) hx hb htb wu_8 tyX8 tyX8_ok nmX8 hown hK hd (fun _ hh => hh) hP hS 0 rfl rfl rfl (by decide) (htb _ wFL_RX8_62) rfl rfl (by decide +kernel) (Nat.le_of_ble_eq_true rfl) dX8_guest_90 (fun H locs hP hS => ?_)
          rw [g17] at hP
          refine lv_aload_n hx hb dX8_guest_93 rfl (lv_at hl 0 rfl) ?_
          refine va_get (D := D) (ci := 8) (v := .int (τ17 29 0)) (C := RX8) (T := TX8) (N := 27) hx hb htb wu_8 hown hK.1 hP 29 w_29 rfl 0 (by decide) (htb _ wFL_RX8_62) (fun _ h9 => h9) rfl dX8_guest_94 ?_
          refine lv_iconst (v := (1 : Int32)) hx hb dX8_guest_97 (by decide) ?_
          refine lv_isub hx hb dX8_guest_98 ?_
          obtain rfl := Option.some.inj h
          exact ret _ _ _ _ _ dX8_guest_99 hP hS rfl
        · replace h := ip c13 h
          refine lv_bipush (v := (-104 : Int32)) hx hb dX8_guest_50 (by decide) ?_
          obtain rfl := Option.some.inj h
          exact ret _ _ _ _ _ dX8_guest_52 hP hS rfl
      · replace h := ip c12 h
        refine lv_goto (tgt := 38) hx hb dX8_guest_31 (by decide) ?_
        refine lv_bipush (v := (-102 : Int32)) hx hb dX8_guest_38 (by decide) ?_
        obtain rfl := Option.some.inj h
        exact ret _ _ _ _ _ dX8_guest_40 hP hS rfl
def X0_has (σ : St) (x1 : Int32) : Int32 :=
  if x1 < 0 then (
    (0 : Int32))
  else (
    if (σ 1 5) ≤ x1 then (
      (0 : Int32))
    else (
      (1 : Int32)))
abbrev rmX0_has : Room := { frames := 0, cells := 0, slots := 0, locals := 0 }
set_option maxHeartbeats 4000000 in
set_option maxRecDepth 100000 in
theorem c_X0_has (l : Launch) (D : va_G) (ad : Nat → Nat) (cI : ClassId) (hd : HD ad) (σ τ : St) (η : Int64) (x1 : Int32) (rr : Int32) (h : X0_has σ x1 = rr) : MZ l yX0_has (wy yX0_has cX0_has 2 (some .boolean)) rmX0_has D ad cI [.ref (ad 1), .int x1] σ τ η rr σ τ η := by
  refine mk_z (own := RX0) (lv := [(0, .ref (ad 1)), (1, .int x1)]) (plainFor_of_name (by decide)) rfl (Nat.le_of_ble_eq_true rfl) rfl ?_
  intro p e s m args below meth c Q ls hx hb hml hown htb hK ret hP hS hl
  unfold X0_has at h
  refine lv_iload_n hx hb dX0_has_0 rfl (lv_at hl 1 rfl) ?_
  refine lv_if_lt (tgt := 16) hx hb dX0_has_1 (by decide) (fun c1 => ?_) (fun c1 => ?_)
  · replace h := ip c1 h
    refine lv_iconst (v := (0 : Int32)) hx hb dX0_has_16 (by decide) ?_
    subst h
    exact ret _ _ _ _ _ dX0_has_17 hP hS rfl (by first | exact Or.inl rfl | exact Or.inr rfl | assumption)
  · replace h := iq c1 h
    refine lv_iload_n hx hb dX0_has_4 rfl (lv_at hl 1 rfl) ?_
    refine lv_aload_n hx hb dX0_has_5 rfl (lv_at hl 0 rfl) ?_
    refine va_get (D := D) (ci := 0) (v := .int (σ 1 5)) (C := RX0) (T := TX0) (N := 6) hx hb htb wu_0 hown hK.1 hP 1 w_1 rfl 5 (by decide) (htb _ wFL_RX0_28) (fun _ h9 => h9) rfl dX0_has_6 ?_
    refine lv_icmp_ge (tgt := 16) hx hb dX0_has_9 (by decide) (fun c2 => ?_) (fun c2 => ?_)
    · replace h := ip c2 h
      refine lv_iconst (v := (0 : Int32)) hx hb dX0_has_16 (by decide) ?_
      subst h
      exact ret _ _ _ _ _ dX0_has_17 hP hS rfl (by first | exact Or.inl rfl | exact Or.inr rfl | assumption)
    · replace h := iq c2 h
      refine lv_iconst (v := (1 : Int32)) hx hb dX0_has_12 (by decide) ?_
      refine lv_goto (tgt := 17) hx hb dX0_has_13 (by decide) ?_
      subst h
      exact ret _ _ _ _ _ dX0_has_17 hP hS rfl (by first | exact Or.inl rfl | exact Or.inr rfl | assumption)
def X0_kindOf (σ : St) (x1 : Int32) : Option (Int32) :=
  lt (X0_has σ x1) fun v1 =>
  if v1 = 0 then (
    some (-1 : Int32))
  else (
    bd (rd (σ 2) 9 x1) fun v3 =>
    some v3)
abbrev rmX0_kindOf : Room := { frames := 1, cells := 0, slots := 0, locals := 21 }
set_option maxHeartbeats 4000000 in
set_option maxRecDepth 100000 in
theorem c_X0_kindOf (l : Launch) (D : va_G) (ad : Nat → Nat) (cI : ClassId) (hd : HD ad) (σ τ : St) (η : Int64) (x1 : Int32) (rr : Int32) (h : X0_kindOf σ x1 = some rr) : MI l yX0_kindOf (wy yX0_kindOf cX0_kindOf 2 (some .int)) rmX0_kindOf D ad cI [.ref (ad 1), .int x1] σ τ η rr σ τ η := by
  refine mk_i (own := RX0) (lv := [(0, .ref (ad 1)), (1, .int x1)]) (plainFor_of_name (by decide)) rfl (Nat.le_of_ble_eq_true rfl) rfl ?_
  intro p e s m args below meth c Q ls hx hb hml hown htb hK ret hP hS hl
  unfold X0_kindOf at h
  refine lv_aload_n hx hb dX0_kindOf_0 rfl (lv_at hl 0 rfl) ?_
  refine lv_iload_n hx hb dX0_kindOf_1 rfl (lv_at hl 1 rfl) ?_
  obtain ⟨v1, g1, h⟩ := ol h
  refine c_Vz (q := (RX0, TX0, 6)) (ci := 0) (b := 1) (As := [.int x1]) (rest := []) (A := AA ad) ⟨hx, hb, hml, hown, htb⟩ (c_X0_has l D ad cI hd σ τ η x1 v1 g1) (cwV 1 htb (gdV (fun _ hh => hh) wML_RX0_39 wIM_yX0_has wSE_yX0_has wI_RX0 wC_yX0_has) rfl rfl rfl hd_X0_has ⟨by decide, by decide⟩) hK hP rfl w_1 (fun _ hh => hh) hS rfl hl.1 rfl (Nat.le_of_ble_eq_true rfl) dX0_kindOf_2 ⟨Nat.le_refl 0, Nat.le_refl 0⟩ (fun H locs hz1 hP hS => ?_)
  refine lv_if_eq (tgt := 17) hx hb dX0_kindOf_5 (by decide) (fun c2 => ?_) (fun c2 => ?_)
  · replace h := ip c2 h
    refine lv_iconst (v := (-1 : Int32)) hx hb dX0_kindOf_17 (by decide) ?_
    obtain rfl := Option.some.inj h
    exact ret _ _ _ _ _ dX0_kindOf_18 hP hS rfl
  · replace h := iq c2 h
    refine lv_aload_n hx hb dX0_kindOf_8 rfl (lv_at hl 0 rfl) ?_
    refine va_get (D := D) (ci := 0) (v := .ref (ad 2)) (C := RX0) (T := TX0) (N := 6) hx hb htb wu_0 hown hK.1 hP 1 w_1 rfl 0 (by decide) (htb _ wFL_RX0_11) (fun _ h9 => h9) rfl dX0_kindOf_9 ?_
    refine lv_iload_n hx hb dX0_kindOf_12 rfl (lv_at hl 1 rfl) ?_
    obtain ⟨v3, g3, h⟩ := ob h
    refine r_ald hx hb hK hP 2 w_2 g3 dX0_kindOf_13 ?_
    refine lv_goto (tgt := 18) hx hb dX0_kindOf_14 (by decide) ?_
    obtain rfl := Option.some.inj h
    exact ret _ _ _ _ _ dX0_kindOf_18 hP hS rfl
def X0_byOf (σ : St) (x1 : Int32) : Option (Int32) :=
  lt (X0_has σ x1) fun v1 =>
  if v1 = 0 then (
    some (0 : Int32))
  else (
    bd (rd (σ 3) 9 x1) fun v3 =>
    some v3)
abbrev rmX0_byOf : Room := { frames := 1, cells := 0, slots := 0, locals := 21 }
set_option maxHeartbeats 4000000 in
set_option maxRecDepth 100000 in
theorem c_X0_byOf (l : Launch) (D : va_G) (ad : Nat → Nat) (cI : ClassId) (hd : HD ad) (σ τ : St) (η : Int64) (x1 : Int32) (rr : Int32) (h : X0_byOf σ x1 = some rr) : MI l yX0_byOf (wy yX0_byOf cX0_byOf 2 (some .int)) rmX0_byOf D ad cI [.ref (ad 1), .int x1] σ τ η rr σ τ η := by
  refine mk_i (own := RX0) (lv := [(0, .ref (ad 1)), (1, .int x1)]) (plainFor_of_name (by decide)) rfl (Nat.le_of_ble_eq_true rfl) rfl ?_
  intro p e s m args below meth c Q ls hx hb hml hown htb hK ret hP hS hl
  unfold X0_byOf at h
  refine lv_aload_n hx hb dX0_byOf_0 rfl (lv_at hl 0 rfl) ?_
  refine lv_iload_n hx hb dX0_byOf_1 rfl (lv_at hl 1 rfl) ?_
  obtain ⟨v1, g1, h⟩ := ol h
  refine c_Vz (q := (RX0, TX0, 6)) (ci := 0) (b := 1) (As := [.int x1]) (rest := []) (A := AA ad) ⟨hx, hb, hml, hown, htb⟩ (c_X0_has l D ad cI hd σ τ η x1 v1 g1) (cwV 1 htb (gdV (fun _ hh => hh) wML_RX0_39 wIM_yX0_has wSE_yX0_has wI_RX0 wC_yX0_has) rfl rfl rfl hd_X0_has ⟨by decide, by decide⟩) hK hP rfl w_1 (fun _ hh => hh) hS rfl hl.1 rfl (Nat.le_of_ble_eq_true rfl) dX0_byOf_2 ⟨Nat.le_refl 0, Nat.le_refl 0⟩ (fun H locs hz1 hP hS => ?_)
  refine lv_if_eq (tgt := 17) hx hb dX0_byOf_5 (by decide) (fun c2 => ?_) (fun c2 => ?_)
  · replace h := ip c2 h
    refine lv_iconst (v := (0 : Int32)) hx hb dX0_byOf_17 (by decide) ?_
    obtain rfl := Option.some.inj h
    exact ret _ _ _ _ _ dX0_byOf_18 hP hS rfl
  · replace h := iq c2 h
    refine lv_aload_n hx hb dX0_byOf_8 rfl (lv_at hl 0 rfl) ?_
    refine va_get (D := D) (ci := 0) (v := .ref (ad 3)) (C := RX0) (T := TX0) (N := 6) hx hb htb wu_0 hown hK.1 hP 1 w_1 rfl 1 (by decide) (htb _ wFL_RX0_15) (fun _ h9 => h9) rfl dX0_byOf_9 ?_
    refine lv_iload_n hx hb dX0_byOf_12 rfl (lv_at hl 1 rfl) ?_
    obtain ⟨v3, g3, h⟩ := ob h
    refine r_ald hx hb hK hP 3 w_3 g3 dX0_byOf_13 ?_
    refine lv_goto (tgt := 18) hx hb dX0_byOf_14 (by decide) ?_
    obtain rfl := Option.some.inj h
    exact ret _ _ _ _ _ dX0_byOf_18 hP hS rfl
def X0_toldOf (σ : St) (x1 : Int32) : Option (Int32) :=
  lt (X0_has σ x1) fun v1 =>
  if v1 = 0 then (
    some (0 : Int32))
  else (
    bd (rd (σ 4) 9 x1) fun v3 =>
    some v3)
abbrev rmX0_toldOf : Room := { frames := 1, cells := 0, slots := 0, locals := 21 }
set_option maxHeartbeats 4000000 in
set_option maxRecDepth 100000 in
theorem c_X0_toldOf (l : Launch) (D : va_G) (ad : Nat → Nat) (cI : ClassId) (hd : HD ad) (σ τ : St) (η : Int64) (x1 : Int32) (rr : Int32) (h : X0_toldOf σ x1 = some rr) : MI l yX0_toldOf (wy yX0_toldOf cX0_toldOf 2 (some .int)) rmX0_toldOf D ad cI [.ref (ad 1), .int x1] σ τ η rr σ τ η := by
  refine mk_i (own := RX0) (lv := [(0, .ref (ad 1)), (1, .int x1)]) (plainFor_of_name (by decide)) rfl (Nat.le_of_ble_eq_true rfl) rfl ?_
  intro p e s m args below meth c Q ls hx hb hml hown htb hK ret hP hS hl
  unfold X0_toldOf at h
  refine lv_aload_n hx hb dX0_toldOf_0 rfl (lv_at hl 0 rfl) ?_
  refine lv_iload_n hx hb dX0_toldOf_1 rfl (lv_at hl 1 rfl) ?_
  obtain ⟨v1, g1, h⟩ := ol h
  refine c_Vz (q := (RX0, TX0, 6)) (ci := 0) (b := 1) (As := [.int x1]) (rest := []) (A := AA ad) ⟨hx, hb, hml, hown, htb⟩ (c_X0_has l D ad cI hd σ τ η x1 v1 g1) (cwV 1 htb (gdV (fun _ hh => hh) wML_RX0_39 wIM_yX0_has wSE_yX0_has wI_RX0 wC_yX0_has) rfl rfl rfl hd_X0_has ⟨by decide, by decide⟩) hK hP rfl w_1 (fun _ hh => hh) hS rfl hl.1 rfl (Nat.le_of_ble_eq_true rfl) dX0_toldOf_2 ⟨Nat.le_refl 0, Nat.le_refl 0⟩ (fun H locs hz1 hP hS => ?_)
  refine lv_if_eq (tgt := 17) hx hb dX0_toldOf_5 (by decide) (fun c2 => ?_) (fun c2 => ?_)
  · replace h := ip c2 h
    refine lv_iconst (v := (0 : Int32)) hx hb dX0_toldOf_17 (by decide) ?_
    obtain rfl := Option.some.inj h
    exact ret _ _ _ _ _ dX0_toldOf_18 hP hS rfl
  · replace h := iq c2 h
    refine lv_aload_n hx hb dX0_toldOf_8 rfl (lv_at hl 0 rfl) ?_
    refine va_get (D := D) (ci := 0) (v := .ref (ad 4)) (C := RX0) (T := TX0) (N := 6) hx hb htb wu_0 hown hK.1 hP 1 w_1 rfl 2 (by decide) (htb _ wFL_RX0_18) (fun _ h9 => h9) rfl dX0_toldOf_9 ?_
    refine lv_iload_n hx hb dX0_toldOf_12 rfl (lv_at hl 1 rfl) ?_
    obtain ⟨v3, g3, h⟩ := ob h
    refine r_ald hx hb hK hP 4 w_4 g3 dX0_toldOf_13 ?_
    refine lv_goto (tgt := 18) hx hb dX0_toldOf_14 (by decide) ?_
    obtain rfl := Option.some.inj h
    exact ret _ _ _ _ _ dX0_toldOf_18 hP hS rfl
def X6_knows (σ : St) (x1 : Int32) (x2 : Int32) : Option (Int32) :=
  if x2 < (1 : Int32) then (
    some (0 : Int32))
  else (
    if (9 : Int32) < x2 then (
      some (0 : Int32))
    else (
      bd (rd (σ 7) 10 x2) fun v3 =>
      if ((ishr v3 x1) &&& (1 : Int32)) = (1 : Int32) then (
        some (1 : Int32))
      else (
        some (0 : Int32))))
abbrev rmX6_knows : Room := { frames := 0, cells := 0, slots := 0, locals := 0 }
set_option maxHeartbeats 4000000 in
set_option maxRecDepth 100000 in
theorem c_X6_knows (l : Launch) (D : va_G) (ad : Nat → Nat) (cI : ClassId) (hd : HD ad) (σ τ : St) (η : Int64) (x1 : Int32) (x2 : Int32) (rr : Int32) (h : X6_knows σ x1 x2 = some rr) : MZ l yX6_knows (wy yX6_knows cX6_knows 3 (some .boolean)) rmX6_knows D ad cI [.ref (ad 6), .int x1, .int x2] σ τ η rr σ τ η := by
  refine mk_z (own := RX6) (lv := [(0, .ref (ad 6)), (1, .int x1), (2, .int x2)]) (plainFor_of_name (by decide)) rfl (Nat.le_of_ble_eq_true rfl) rfl ?_
  intro p e s m args below meth c Q ls hx hb hml hown htb hK ret hP hS hl
  unfold X6_knows at h
  refine lv_iload_n hx hb dX6_knows_0 rfl (lv_at hl 2 rfl) ?_
  refine lv_iconst (v := (1 : Int32)) hx hb dX6_knows_1 (by decide) ?_
  refine lv_icmp_lt (tgt := 29) hx hb dX6_knows_2 (by decide) (fun c1 => ?_) (fun c1 => ?_)
  · replace h := ip c1 h
    refine lv_iconst (v := (0 : Int32)) hx hb dX6_knows_29 (by decide) ?_
    obtain rfl := Option.some.inj h
    exact ret _ _ _ _ _ dX6_knows_30 hP hS rfl (by first | exact Or.inl rfl | exact Or.inr rfl | assumption)
  · replace h := iq c1 h
    refine lv_iload_n hx hb dX6_knows_5 rfl (lv_at hl 2 rfl) ?_
    refine lv_bipush (v := (9 : Int32)) hx hb dX6_knows_6 (by decide) ?_
    refine lv_icmp_gt (tgt := 29) hx hb dX6_knows_8 (by decide) (fun c2 => ?_) (fun c2 => ?_)
    · replace h := ip c2 h
      refine lv_iconst (v := (0 : Int32)) hx hb dX6_knows_29 (by decide) ?_
      obtain rfl := Option.some.inj h
      exact ret _ _ _ _ _ dX6_knows_30 hP hS rfl (by first | exact Or.inl rfl | exact Or.inr rfl | assumption)
    · replace h := iq c2 h
      refine lv_aload_n hx hb dX6_knows_11 rfl (lv_at hl 0 rfl) ?_
      refine va_get (D := D) (ci := 6) (v := .ref (ad 7)) (C := RX6) (T := TX6) (N := 1) hx hb htb wu_6 hown hK.1 hP 6 w_6 rfl 0 (by decide) (htb _ wFL_RX6_9) (fun _ h9 => h9) rfl dX6_knows_12 ?_
      refine lv_iload_n hx hb dX6_knows_15 rfl (lv_at hl 2 rfl) ?_
      obtain ⟨v3, g3, h⟩ := ob h
      refine r_ald hx hb hK hP 7 w_7 g3 dX6_knows_16 ?_
      refine lv_iload_n hx hb dX6_knows_17 rfl (lv_at hl 1 rfl) ?_
      refine lv_ishr hx hb dX6_knows_18 ?_
      refine lv_iconst (v := (1 : Int32)) hx hb dX6_knows_19 (by decide) ?_
      refine lv_iand hx hb dX6_knows_20 ?_
      refine lv_iconst (v := (1 : Int32)) hx hb dX6_knows_21 (by decide) ?_
      refine lv_icmp_ne (tgt := 29) hx hb dX6_knows_22 (by decide) (fun c4 => ?_) (fun c4 => ?_)
      · replace h := iq c4 h
        refine lv_iconst (v := (0 : Int32)) hx hb dX6_knows_29 (by decide) ?_
        obtain rfl := Option.some.inj h
        exact ret _ _ _ _ _ dX6_knows_30 hP hS rfl (by first | exact Or.inl rfl | exact Or.inr rfl | assumption)
      · replace h := ip c4 h
        refine lv_iconst (v := (1 : Int32)) hx hb dX6_knows_25 (by decide) ?_
        refine lv_goto (tgt := 30) hx hb dX6_knows_26 (by decide) ?_
        obtain rfl := Option.some.inj h
        exact ret _ _ _ _ _ dX6_knows_30 hP hS rfl (by first | exact Or.inl rfl | exact Or.inr rfl | assumption)
def X6_since_L1 (n : Nat) (σ_1 : St) (u1_1 : Int32) (y1_2 : Int32) : Option ((Int32) ⊕ (Int32)) := match n with
  | 0 => none
  | n + 1 =>
    if (9 : Int32) < y1_2 then (
      some (Sum.inr y1_2))
    else (
      bd (X6_knows σ_1 u1_1 y1_2) fun v3 =>
      if v3 = 0 then (
        X6_since_L1 n σ_1 u1_1 (y1_2 + (1 : Int32)))
      else (
        some (Sum.inl y1_2)))
theorem X6_since_L1_s (n : Nat) (σ_1 : St) (u1_1 : Int32) (y1_2 : Int32) : X6_since_L1 (n + 1) σ_1 u1_1 y1_2 =
    if (9 : Int32) < y1_2 then (
      some (Sum.inr y1_2))
    else (
      bd (X6_knows σ_1 u1_1 y1_2) fun v3 =>
      if v3 = 0 then (
        X6_since_L1 n σ_1 u1_1 (y1_2 + (1 : Int32)))
      else (
        some (Sum.inl y1_2))) := rfl
def X6_since (σ : St) (x1 : Int32) : Option (Int32) :=
  bd (X6_since_L1 10000 σ x1 (1 : Int32)) fun v1 => Sum.elim (fun q => some q) (fun w5 =>
    some (-1 : Int32)) v1
abbrev rmX6_since : Room := { frames := 1, cells := 0, slots := 0, locals := 22 }
set_option maxHeartbeats 4000000 in
set_option maxRecDepth 100000 in
theorem c_X6_since (l : Launch) (D : va_G) (ad : Nat → Nat) (cI : ClassId) (hd : HD ad) (σ τ : St) (η : Int64) (x1 : Int32) (rr : Int32) (h : X6_since σ x1 = some rr) : MI l yX6_since (wy yX6_since cX6_since 3 (some .int)) rmX6_since D ad cI [.ref (ad 6), .int x1] σ τ η rr σ τ η := by
  refine mk_i (own := RX6) (lv := [(0, .ref (ad 6)), (1, .int x1)]) (plainFor_of_name (by decide)) rfl (Nat.le_of_ble_eq_true rfl) rfl ?_
  intro p e s m args below meth c Q ls hx hb hml hown htb hK ret hP hS hl
  unfold X6_since at h
  refine lv_iconst (v := (1 : Int32)) hx hb dX6_since_0 (by decide) ?_
  refine lv_istore_n (lv' := [(2, .int (1 : Int32)), (0, .ref (ad 6)), (1, .int x1)]) hx hb dX6_since_1 rfl hl (by decide) rfl (fun ls hl => ?_)
  obtain ⟨v1, hj1, h⟩ := ob h
  have KR1 : ∀ q, v1 = Sum.inl q → rr = q := fun q e8 => by
    rw [e8] at h
    exact (Option.some.inj h).symm
  have K1 : ∀ w5, v1 = Sum.inr w5 → ∀ (H : Heap) (locs : List Loc) (ls : Array Slot), WP D ad cI σ τ η H → va_S (AA ad) s.heap H locs → lv_has ls 3 [] → W p l e rmX6_since s m args below meth c H locs 0 0 Q (F0 m 25 ls []) := by
    intro w5 e8 H locs ls hP hS hl
    rw [e8] at h
    replace h : (    some (-1 : Int32)) = some rr := h
    refine lv_iconst (v := (-1 : Int32)) hx hb dX6_since_25 (by decide) ?_
    obtain rfl := Option.some.inj h
    exact ret _ _ _ _ _ dX6_since_26 hP hS rfl
  have L1 : ∀ (n : Nat) (y1_2 : Int32) (H : Heap) (locs : List Loc) (ls : Array Slot), X6_since_L1 n σ x1 y1_2 = some v1 → WP D ad cI σ τ η H → va_S (AA ad) s.heap H locs → lv_has ls 3 [(0, .ref (ad 6)), (1, .int x1), (2, .int y1_2)] → W p l e rmX6_since s m args below meth c H locs 0 0 Q (F0 m 2 ls []) := by
    intro n
    induction n with
    | zero => intro y1_2 H locs ls h; exact absurd h (by simp [X6_since_L1])
    | succ n ih =>
      intro y1_2 H locs ls h hP hS hl
      replace h := (X6_since_L1_s n σ x1 y1_2).symm.trans h
      refine lv_iload_n hx hb dX6_since_2 rfl (lv_at hl 2 rfl) ?_
      refine lv_bipush (v := (9 : Int32)) hx hb dX6_since_3 (by decide) ?_
      refine lv_icmp_gt (tgt := 25) hx hb dX6_since_5 (by decide) (fun c2 => ?_) (fun c2 => ?_)
      · replace h := ip c2 h
        exact K1 _ (Option.some.inj h).symm _ _ _ hP hS (lv_sub hl [] rfl)
      · replace h := iq c2 h
        refine lv_aload_n hx hb dX6_since_8 rfl (lv_at hl 0 rfl) ?_
        refine lv_iload_n hx hb dX6_since_9 rfl (lv_at hl 1 rfl) ?_
        refine lv_iload_n hx hb dX6_since_10 rfl (lv_at hl 2 rfl) ?_
        obtain ⟨v3, g3, h⟩ := ob h
        refine c_Vz (q := (RX6, TX6, 1)) (ci := 6) (b := 6) (As := [.int x1, .int y1_2]) (rest := []) (A := AA ad) ⟨hx, hb, hml, hown, htb⟩ (c_X6_knows l D ad cI hd σ τ η x1 y1_2 v3 g3) (cwV 2 htb (gdV (fun _ hh => hh) wML_RX6_32 wIM_yX6_knows wSE_yX6_knows wI_RX6 wC_yX6_knows) rfl rfl rfl hd_X6_knows ⟨by decide, by decide⟩) hK hP rfl w_6 (fun _ hh => hh) hS rfl hl.1 rfl (Nat.le_of_ble_eq_true rfl) dX6_since_11 ⟨Nat.le_refl 0, Nat.le_refl 0⟩ (fun H locs hz3 hP hS => ?_)
        refine lv_if_eq (tgt := 19) hx hb dX6_since_14 (by decide) (fun c4 => ?_) (fun c4 => ?_)
        · replace h := ip c4 h
          refine lv_iinc (v := (y1_2 + (1 : Int32))) (lv' := [(2, .int (y1_2 + (1 : Int32))), (0, .ref (ad 6)), (1, .int x1)]) hx hb dX6_since_19 hl (k := 2) rfl rfl (by decide) rfl (fun ls hl => ?_)
          refine lv_goto (tgt := 2) hx hb dX6_since_22 (by decide) ?_
          exact ih (y1_2 + (1 : Int32)) _ _ _ h hP hS (lv_sub hl [1, 2, 0] rfl)
        · replace h := iq c4 h
          refine lv_iload_n hx hb dX6_since_17 rfl (lv_at hl 2 rfl) ?_
          have e9 := KR1 _ (Option.some.inj h).symm
          subst e9
          exact ret _ _ _ _ _ dX6_since_18 hP hS rfl
  exact L1 10000 (1 : Int32) _ _ _ hj1 hP hS (lv_sub hl [1, 2, 0] rfl)
def X7_about (σ : St) (x1 : Int32) (x2 : Int32) : Option (Int32) :=
  lt (X0_has σ x1) fun v1 =>
  if v1 = 0 then (
    some (-101 : Int32))
  else (
    if x2 = (0 : Int32) then (
      bd (X0_kindOf σ x1) fun v4 =>
      some v4)
    else (
      if x2 = (1 : Int32) then (
        bd (X0_byOf σ x1) fun v6 =>
        some v6)
      else (
        if x2 = (2 : Int32) then (
          bd (X0_toldOf σ x1) fun v8 =>
          some v8)
        else (
          if x2 = (3 : Int32) then (
            bd (X6_since σ x1) fun v10 =>
            some v10)
          else (
            some (-102 : Int32))))))
abbrev rmX7_about : Room := { frames := 2, cells := 0, slots := 0, locals := 44 }
set_option maxHeartbeats 4000000 in
set_option maxRecDepth 100000 in
theorem c_X7_about (l : Launch) (D : va_G) (ad : Nat → Nat) (cI : ClassId) (hd : HD ad) (σ τ : St) (η : Int64) (x1 : Int32) (x2 : Int32) (rr : Int32) (h : X7_about σ x1 x2 = some rr) : MI l yX7_about (wy yX7_about cX7_about 3 (some .int)) rmX7_about D ad cI [.ref (ad 0), .int x1, .int x2] σ τ η rr σ τ η := by
  refine mk_i (own := RX7) (lv := [(0, .ref (ad 0)), (1, .int x1), (2, .int x2)]) (plainFor_of_name (by decide)) rfl (Nat.le_of_ble_eq_true rfl) rfl ?_
  intro p e s m args below meth c Q ls hx hb hml hown htb hK ret hP hS hl
  unfold X7_about at h
  refine lv_aload_n hx hb dX7_about_0 rfl (lv_at hl 0 rfl) ?_
  refine va_get (D := D) (ci := 7) (v := .ref (ad 1)) (C := RX7) (T := TX7) (N := 11) hx hb htb wu_7 hown hK.1 hP 0 w_0 rfl 0 (by decide) (htb _ wFL_RX7_10) (fun _ h9 => h9) rfl dX7_about_1 ?_
  refine lv_iload_n hx hb dX7_about_4 rfl (lv_at hl 1 rfl) ?_
  obtain ⟨v1, g1, h⟩ := ol h
  refine c_Vz (q := (RX0, TX0, 6)) (ci := 0) (b := 1) (As := [.int x1]) (rest := []) (A := AA ad) ⟨hx, hb, hml, hown, htb⟩ (c_X0_has l D ad cI hd σ τ η x1 v1 g1) (cwV 1 htb (gdV (fun _ hh => hh) wML_RX7_84 wIM_yX0_has wSE_yX0_has wI_RX0 wC_yX0_has) rfl rfl rfl hd_X0_has ⟨by decide, by decide⟩) hK hP rfl w_1 (fun _ hh => hh) hS rfl hl.1 rfl (Nat.le_of_ble_eq_true rfl) dX7_about_5 ⟨Nat.le_refl 0, Nat.le_refl 0⟩ (fun H locs hz1 hP hS => ?_)
  refine lv_if_ne (tgt := 14) hx hb dX7_about_8 (by decide) (fun c2 => ?_) (fun c2 => ?_)
  · replace h := iq c2 h
    refine lv_iload_n hx hb dX7_about_14 rfl (lv_at hl 2 rfl) ?_
    by_cases c3 : x2 = (0 : Int32)
    · replace h := ip c3 h
      refine lv_tableIn (x := x2) (off := 29) (tgt := 44) hx hb dX7_about_15 (by rw [c3]; decide) (by rw [c3]; decide) (by rw [c3]; rfl) (by decide) ?_
      refine lv_aload_n hx hb dX7_about_44 rfl (lv_at hl 0 rfl) ?_
      refine va_get (D := D) (ci := 7) (v := .ref (ad 1)) (C := RX7) (T := TX7) (N := 11) hx hb htb wu_7 hown hK.1 hP 0 w_0 rfl 0 (by decide) (htb _ wFL_RX7_10) (fun _ h9 => h9) rfl dX7_about_45 ?_
      refine lv_iload_n hx hb dX7_about_48 rfl (lv_at hl 1 rfl) ?_
      obtain ⟨v4, g4, h⟩ := ob h
      refine c_Vi (q := (RX0, TX0, 6)) (ci := 0) (b := 1) (As := [.int x1]) (rest := []) (A := AA ad) ⟨hx, hb, hml, hown, htb⟩ (c_X0_kindOf l D ad cI hd σ τ η x1 v4 g4) (cwV 1 htb (gdV (fun _ hh => hh) wML_RX7_87 wIM_yX0_kindOf wSE_yX0_kindOf wI_RX0 wC_yX0_kindOf) rfl rfl rfl hd_X0_kindOf ⟨by decide, by decide⟩) hK hP rfl w_1 (fun _ hh => hh) hS rfl hl.1 rfl (Nat.le_of_ble_eq_true rfl) dX7_about_49 ⟨Nat.le_refl 0, Nat.le_refl 0⟩ (fun H locs hP hS => ?_)
      obtain rfl := Option.some.inj h
      exact ret _ _ _ _ _ dX7_about_52 hP hS rfl
    · replace h := iq c3 h
      by_cases c5 : x2 = (1 : Int32)
      · replace h := ip c5 h
        refine lv_tableIn (x := x2) (off := 38) (tgt := 53) hx hb dX7_about_15 (by rw [c5]; decide) (by rw [c5]; decide) (by rw [c5]; rfl) (by decide) ?_
        refine lv_aload_n hx hb dX7_about_53 rfl (lv_at hl 0 rfl) ?_
        refine va_get (D := D) (ci := 7) (v := .ref (ad 1)) (C := RX7) (T := TX7) (N := 11) hx hb htb wu_7 hown hK.1 hP 0 w_0 rfl 0 (by decide) (htb _ wFL_RX7_10) (fun _ h9 => h9) rfl dX7_about_54 ?_
        refine lv_iload_n hx hb dX7_about_57 rfl (lv_at hl 1 rfl) ?_
        obtain ⟨v6, g6, h⟩ := ob h
        refine c_Vi (q := (RX0, TX0, 6)) (ci := 0) (b := 1) (As := [.int x1]) (rest := []) (A := AA ad) ⟨hx, hb, hml, hown, htb⟩ (c_X0_byOf l D ad cI hd σ τ η x1 v6 g6) (cwV 1 htb (gdV (fun _ hh => hh) wML_RX7_91 wIM_yX0_byOf wSE_yX0_byOf wI_RX0 wC_yX0_byOf) rfl rfl rfl hd_X0_byOf ⟨by decide, by decide⟩) hK hP rfl w_1 (fun _ hh => hh) hS rfl hl.1 rfl (Nat.le_of_ble_eq_true rfl) dX7_about_58 ⟨Nat.le_refl 0, Nat.le_refl 0⟩ (fun H locs hP hS => ?_)
        obtain rfl := Option.some.inj h
        exact ret _ _ _ _ _ dX7_about_61 hP hS rfl
      · replace h := iq c5 h
        by_cases c7 : x2 = (2 : Int32)
        · replace h := ip c7 h
          refine lv_tableIn (x := x2) (off := 47) (tgt := 62) hx hb dX7_about_15 (by rw [c7]; decide) (by rw [c7]; decide) (by rw [c7]; rfl) (by decide) ?_
          refine lv_aload_n hx hb dX7_about_62 rfl (lv_at hl 0 rfl) ?_
          refine va_get (D := D) (ci := 7) (v := .ref (ad 1)) (C := RX7) (T := TX7) (N := 11) hx hb htb wu_7 hown hK.1 hP 0 w_0 rfl 0 (by decide) (htb _ wFL_RX7_10) (fun _ h9 => h9) rfl dX7_about_63 ?_
          refine lv_iload_n hx hb dX7_about_66 rfl (lv_at hl 1 rfl) ?_
          obtain ⟨v8, g8, h⟩ := ob h
          refine c_Vi (q := (RX0, TX0, 6)) (ci := 0) (b := 1) (As := [.int x1]) (rest := []) (A := AA ad) ⟨hx, hb, hml, hown, htb⟩ (c_X0_toldOf l D ad cI hd σ τ η x1 v8 g8) (cwV 1 htb (gdV (fun _ hh => hh) wML_RX7_94 wIM_yX0_toldOf wSE_yX0_toldOf wI_RX0 wC_yX0_toldOf) rfl rfl rfl hd_X0_toldOf ⟨by decide, by decide⟩) hK hP rfl w_1 (fun _ hh => hh) hS rfl hl.1 rfl (Nat.le_of_ble_eq_true rfl) dX7_about_67 ⟨Nat.le_refl 0, Nat.le_refl 0⟩ (fun H locs hP hS => ?_)
          obtain rfl := Option.some.inj h
          exact ret _ _ _ _ _ dX7_about_70 hP hS rfl
        · replace h := iq c7 h
          by_cases c9 : x2 = (3 : Int32)
          · replace h := ip c9 h
            refine lv_tableIn (x := x2) (off := 56) (tgt := 71) hx hb dX7_about_15 (by rw [c9]; decide) (by rw [c9]; decide) (by rw [c9]; rfl) (by decide) ?_
            refine lv_aload_n hx hb dX7_about_71 rfl (lv_at hl 0 rfl) ?_
            refine va_get (D := D) (ci := 7) (v := .ref (ad 6)) (C := RX7) (T := TX7) (N := 11) hx hb htb wu_7 hown hK.1 hP 0 w_0 rfl 1 (by decide) (htb _ wFL_RX7_19) (fun _ h9 => h9) rfl dX7_about_72 ?_
            refine lv_iload_n hx hb dX7_about_75 rfl (lv_at hl 1 rfl) ?_
            obtain ⟨v10, g10, h⟩ := ob h
            refine c_Vi (q := (RX6, TX6, 1)) (ci := 6) (b := 6) (As := [.int x1]) (rest := []) (A := AA ad) ⟨hx, hb, hml, hown, htb⟩ (c_X6_since l D ad cI hd σ τ η x1 v10 g10) (cwV 1 htb (gdV (fun _ hh => hh) wML_RX7_97 wIM_yX6_since wSE_yX6_since wI_RX6 wC_yX6_since) rfl rfl rfl hd_X6_since ⟨by decide, by decide⟩) hK hP rfl w_6 (fun _ hh => hh) hS rfl hl.1 rfl (Nat.le_of_ble_eq_true rfl) dX7_about_76 ⟨Nat.le_refl 0, Nat.le_refl 0⟩ (fun H locs hP hS => ?_)
            obtain rfl := Option.some.inj h
            exact ret _ _ _ _ _ dX7_about_79 hP hS rfl
          · replace h := iq c9 h
            have zc3 := lv_neT c3 (show ((0 : Int32)).toInt = 0 by decide)
            have zc5 := lv_neT c5 (show ((1 : Int32)).toInt = 1 by decide)
            have zc7 := lv_neT c7 (show ((2 : Int32)).toInt = 2 by decide)
            have zc9 := lv_neT c9 (show ((3 : Int32)).toInt = 3 by decide)
            refine lv_tableOut (x := x2) (tgt := 80) hx hb dX7_about_15 (by omega) (by decide) ?_
            refine lv_bipush (v := (-102 : Int32)) hx hb dX7_about_80 (by decide) ?_
            obtain rfl := Option.some.inj h
            exact ret _ _ _ _ _ dX7_about_82 hP hS rfl
  · replace h := ip c2 h
    refine lv_bipush (v := (-101 : Int32)) hx hb dX7_about_11 (by decide) ?_
    obtain rfl := Option.some.inj h
    exact ret _ _ _ _ _ dX7_about_13 hP hS rfl
