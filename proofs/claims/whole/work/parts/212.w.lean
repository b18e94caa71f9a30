def X8_ones_L1 (n : Nat) (u1_0 : Int32) (y1_1 : Int32) (y1_2 : Int32) : Option (Int32 × Int32) := match n with
  | 0 => none
  | n + 1 =>
    if (9 : Int32) ≤ y1_2 then (
      some (y1_1, y1_2))
    else (
      X8_ones_L1 n u1_0 (y1_1 + ((ishr u1_0 y1_2) &&& (1 : Int32))) (y1_2 + (1 : Int32)))
theorem X8_ones_L1_s (n : Nat) (u1_0 : Int32) (y1_1 : Int32) (y1_2 : Int32) : X8_ones_L1 (n + 1) u1_0 y1_1 y1_2 =
    if (9 : Int32) ≤ y1_2 then (
      some (y1_1, y1_2))
    else (
      X8_ones_L1 n u1_0 (y1_1 + ((ishr u1_0 y1_2) &&& (1 : Int32))) (y1_2 + (1 : Int32))) := rfl
def X8_ones  (x0 : Int32) : Option (Int32) :=
  bd (X8_ones_L1 10000 x0 (0 : Int32) (0 : Int32)) fun v1 =>
  some v1.1
abbrev rmX8_ones : Room := { frames := 0, cells := 0, slots := 0, locals := 0 }
set_option maxHeartbeats 4000000 in
set_option maxRecDepth 100000 in
theorem c_X8_ones (l : Launch) (D : va_G) (ad : Nat → Nat) (cI : ClassId) (hd : HD ad) (σ τ : St) (η : Int64) (x0 : Int32) (rr : Int32) (h : X8_ones  x0 = some rr) : MI l yX8_ones (wy yX8_ones cX8_ones 3 (some .int)) rmX8_ones D ad cI [.int x0] σ τ η rr σ τ η := by
  refine mk_i (own := RX8) (lv := [(0, .int x0)]) (plainFor_of_name (by decide)) rfl (Nat.le_of_ble_eq_true rfl) rfl ?_
  intro p e s m args below meth c Q ls hx hb hml hown htb hK ret hP hS hl
  unfold X8_ones at h
  refine lv_iconst (v := (0 : Int32)) hx hb dX8_ones_0 (by decide) ?_
  refine lv_istore_n (lv' := [(1, .int (0 : Int32)), (0, .int x0)]) hx hb dX8_ones_1 rfl hl (by decide) rfl (fun ls hl => ?_)
  refine lv_iconst (v := (0 : Int32)) hx hb dX8_ones_2 (by decide) ?_
  refine lv_istore_n (lv' := [(2, .int (0 : Int32)), (1, .int (0 : Int32)), (0, .int x0)]) hx hb dX8_ones_3 rfl hl (by decide) rfl (fun ls hl => ?_)
  obtain ⟨v1, hj1, h⟩ := ob h
  have K1 : ∀ (H : Heap) (locs : List Loc) (ls : Array Slot), WP D ad cI σ τ η H → va_S (AA ad) s.heap H locs → lv_has ls 3 [(1, .int v1.1)] → W p l e rmX8_ones s m args below meth c H locs 0 0 Q (F0 m 24 ls []) := by
    intro H locs ls hP hS hl
    refine lv_iload_n hx hb dX8_ones_24 rfl (lv_at hl 0 rfl) ?_
    obtain rfl := Option.some.inj h
    exact ret _ _ _ _ _ dX8_ones_25 hP hS rfl
  have L1 : ∀ (n : Nat) (y1_1 : Int32) (y1_2 : Int32) (H : Heap) (locs : List Loc) (ls : Array Slot), X8_ones_L1 n x0 y1_1 y1_2 = some v1 → WP D ad cI σ τ η H → va_S (AA ad) s.heap H locs → lv_has ls 3 [(0, .int x0), (1, .int y1_1), (2, .int y1_2)] → W p l e rmX8_ones s m args below meth c H locs 0 0 Q (F0 m 4 ls []) := by
    intro n
    induction n with
    | zero => intro y1_1 y1_2 H locs ls h; exact absurd h (by simp [X8_ones_L1])
    | succ n ih =>
      intro y1_1 y1_2 H locs ls h hP hS hl
      replace h := (X8_ones_L1_s n x0 y1_1 y1_2).symm.trans h
      refine lv_iload_n hx hb dX8_ones_4 rfl (lv_at hl 2 rfl) ?_
      refine lv_bipush (v := (9 : Int32)) hx hb dX8_ones_5 (by decide) ?_
      refine lv_icmp_ge (tgt := 24) hx hb dX8_ones_7 (by decide) (fun c2 => ?_) (fun c2 => ?_)
      · replace h := ip c2 h
        obtain rfl := Option.some.inj h
        exact K1 _ _ _ hP hS (lv_sub hl [1] rfl)
      · replace h := iq c2 h
        refine lv_iload_n hx hb dX8_ones_10 rfl (lv_at hl 1 rfl) ?_
        refine lv_iload_n hx hb dX8_ones_11 rfl (lv_at hl 0 rfl) ?_
        refine lv_iload_n hx hb dX8_ones_12 rfl (lv_at hl 2 rfl) ?_
        refine lv_ishr hx hb dX8_ones_13 ?_
        refine lv_iconst (v := (1 : Int32)) hx hb dX8_ones_14 (by decide) ?_
        refine lv_iand hx hb dX8_ones_15 ?_
        refine lv_iadd hx hb dX8_ones_16 ?_
        refine lv_istore_n (lv' := [(1, .int (y1_1 + ((ishr x0 y1_2) &&& (1 : Int32)))), (0, .int x0), (2, .int y1_2)]) hx hb dX8_ones_17 rfl hl (by decide) rfl (fun ls hl => ?_)
        refine lv_iinc (v := (y1_2 + (1 : Int32))) (lv' := [(2, .int (y1_2 + (1 : Int32))), (1, .int (y1_1 + ((ishr x0 y1_2) &&& (1 : Int32)))), (0, .int x0)]) hx hb dX8_ones_18 hl (k := 2) rfl rfl (by decide) rfl (fun ls hl => ?_)
        refine lv_goto (tgt := 4) hx hb dX8_ones_21 (by decide) ?_
        exact ih (y1_1 + ((ishr x0 y1_2) &&& (1 : Int32))) (y1_2 + (1 : Int32)) _ _ _ h hP hS (lv_sub hl [2, 1, 0] rfl)
  exact L1 10000 (0 : Int32) (0 : Int32) _ _ _ hj1 hP hS (lv_sub hl [2, 1, 0] rfl)
def X8_tellCover_L1 (n : Nat) (τ_1 : St) (u1_1 : Int32) (y1_2 : Int32) (y1_3 : Int32) : Option (Int32 × Int32) := match n with
  | 0 => none
  | n + 1 =>
    if (τ_1 29 0) ≤ y1_3 then (
      some (y1_2, y1_3))
    else (
      bd (rd (τ_1 34) 9 y1_3) fun v4 =>
      lt ((
          if (10 : Int32) ≤ v4 then (
            (0 : Int32))
          else (
            (ishl (1 : Int32) y1_3))) : Int32) fun v6 =>
      X8_tellCover_L1 n τ_1 u1_1 (y1_2 ||| v6) (y1_3 + (1 : Int32)))
theorem X8_tellCover_L1_s (n : Nat) (τ_1 : St) (u1_1 : Int32) (y1_2 : Int32) (y1_3 : Int32) : X8_tellCover_L1 (n + 1) τ_1 u1_1 y1_2 y1_3 =
    if (τ_1 29 0) ≤ y1_3 then (
      some (y1_2, y1_3))
    else (
      bd (rd (τ_1 34) 9 y1_3) fun v4 =>
      lt ((
          if (10 : Int32) ≤ v4 then (
            (0 : Int32))
          else (
            (ishl (1 : Int32) y1_3))) : Int32) fun v6 =>
      X8_tellCover_L1 n τ_1 u1_1 (y1_2 ||| v6) (y1_3 + (1 : Int32))) := rfl
def X8_tellCover_L3 (n : Nat) (τ_3 : St) (u3_1 : Int32) (u3_2 : Int32) (u3_3 : Int32) (u3_4 : Int32) (y3_5 : Int32) (y3_6 : Int32) (y3_7 : Int32) : Option (Int32 × Int32 × Int32) := match n with
  | 0 => none
  | n + 1 =>
    if (τ_3 29 15) ≤ y3_7 then (
      some (y3_5, y3_6, y3_7))
    else (
      if y3_6 = 0 then (
        some (y3_5, y3_6, y3_7))
      else (
        bd ((
            if ((ishr u3_4 y3_7) &&& (1 : Int32)) = (1 : Int32) then (
              bd (rd (τ_3 40) 8 y3_7) fun v19 =>
              bd (rd (τ_3 41) 8 y3_7) fun v20 =>
              lt ((
                  if (v20 &&& u3_4) = 0 then (
                    (1 : Int32))
                  else (
                    (0 : Int32))) : Int32) fun v22 =>
              some ((y3_5 ||| v19), v22))
            else (
              some (y3_5, y3_6))) : Option (Int32 × Int32)) fun v18 =>
        X8_tellCover_L3 n τ_3 u3_1 u3_2 u3_3 u3_4 v18.1 v18.2 (y3_7 + (1 : Int32))))
theorem X8_tellCover_L3_s (n : Nat) (τ_3 : St) (u3_1 : Int32) (u3_2 : Int32) (u3_3 : Int32) (u3_4 : Int32) (y3_5 : Int32) (y3_6 : Int32) (y3_7 : Int32) : X8_tellCover_L3 (n + 1) τ_3 u3_1 u3_2 u3_3 u3_4 y3_5 y3_6 y3_7 =
    if (τ_3 29 15) ≤ y3_7 then (
      some (y3_5, y3_6, y3_7))
    else (
      if y3_6 = 0 then (
        some (y3_5, y3_6, y3_7))
      else (
        bd ((
            if ((ishr u3_4 y3_7) &&& (1 : Int32)) = (1 : Int32) then (
              bd (rd (τ_3 40) 8 y3_7) fun v19 =>
              bd (rd (τ_3 41) 8 y3_7) fun v20 =>
              lt ((
                  if (v20 &&& u3_4) = 0 then (
                    (1 : Int32))
                  else (
                    (0 : Int32))) : Int32) fun v22 =>
              some ((y3_5 ||| v19), v22))
            else (
              some (y3_5, y3_6))) : Option (Int32 × Int32)) fun v18 =>
        X8_tellCover_L3 n τ_3 u3_1 u3_2 u3_3 u3_4 v18.1 v18.2 (y3_7 + (1 : Int32)))) := rfl
def X8_tellCover_L2 (n : Nat) (τ_2 : St) (u2_1 : Int32) (u2_2 : Int32) (y2_3 : Int32) (y2_4 : Int32) : Option (Int32 × Int32) := match n with
  | 0 => none
  | n + 1 =>
    if (ishl (1 : Int32) (τ_2 29 15)) ≤ y2_4 then (
      some (y2_3, y2_4))
    else (
      bd ((
          if y2_3 = (-1 : Int32) then (
            some (1 : Int32))
          else (
            bd (X8_ones  y2_4) fun v11 =>
            bd (X8_ones  y2_3) fun v12 =>
            if v12 ≤ v11 then (
              some (0 : Int32))
            else (
              some (1 : Int32)))) : Option (Int32)) fun v10 =>
      bd (X8_tellCover_L3 10000 τ_2 u2_1 u2_2 y2_3 y2_4 (0 : Int32) v10 (0 : Int32)) fun v14 =>
      lt ((
          if v14.2.1 = 0 then (
            y2_3)
          else (
            if (u2_2 &&& (v14.1 ^^^ (-1 : Int32))) = 0 then (
              y2_4)
            else (
              y2_3))) : Int32) fun v24 =>
      X8_tellCover_L2 n τ_2 u2_1 u2_2 v24 (y2_4 + (1 : Int32)))
theorem X8_tellCover_L2_s (n : Nat) (τ_2 : St) (u2_1 : Int32) (u2_2 : Int32) (y2_3 : Int32) (y2_4 : Int32) : X8_tellCover_L2 (n + 1) τ_2 u2_1 u2_2 y2_3 y2_4 =
    if (ishl (1 : Int32) (τ_2 29 15)) ≤ y2_4 then (
      some (y2_3, y2_4))
    else (
      bd ((
          if y2_3 = (-1 : Int32) then (
            some (1 : Int32))
          else (
            bd (X8_ones  y2_4) fun v11 =>
            bd (X8_ones  y2_3) fun v12 =>
            if v12 ≤ v11 then (
              some (0 : Int32))
            else (
              some (1 : Int32)))) : Option (Int32)) fun v10 =>
      bd (X8_tellCover_L3 10000 τ_2 u2_1 u2_2 y2_3 y2_4 (0 : Int32) v10 (0 : Int32)) fun v14 =>
      lt ((
          if v14.2.1 = 0 then (
            y2_3)
          else (
            if (u2_2 &&& (v14.1 ^^^ (-1 : Int32))) = 0 then (
              y2_4)
            else (
              y2_3))) : Int32) fun v24 =>
      X8_tellCover_L2 n τ_2 u2_1 u2_2 v24 (y2_4 + (1 : Int32))) := rfl
def X8_tellCover (τ : St) (x1 : Int32) : Option (Int32 × St) :=
  bd (X8_reckon τ ) fun v1 =>
  bd (X8_tellCover_L1 10000 v1 x1 (0 : Int32) (0 : Int32)) fun v2 =>
  bd (X8_tellCover_L2 10000 v1 x1 v2.1 (-1 : Int32) (0 : Int32)) fun v7 =>
  if v7.1 = (-1 : Int32) then (
    some (v7.1, v1))
  else (
    if x1 = (1 : Int32) then (
      some (v7.1, v1))
    else (
      bd (X8_ones  v7.1) fun v28 =>
      some (v28, v1)))
abbrev rmX8_tellCover : Room := { frames := 3, cells := 0, slots := 0, locals := 68 }
set_option maxHeartbeats 4000000 in
set_option maxRecDepth 100000 in
theorem c_X8_tellCover (l : Launch) (D : va_G) (ad : Nat → Nat) (cI : ClassId) (hd : HD ad) (σ τ : St) (η : Int64) (x1 : Int32) (rr : Int32 × St) (h : X8_tellCover τ x1 = some rr) : MI l yX8_tellCover (wy yX8_tellCover cX8_tellCover 8 (some .int)) rmX8_tellCover D ad cI [.ref (ad 29), .int x1] σ τ η rr.1 σ rr.2 η := by
  refine mk_i (own := RX8) (lv := [(0, .ref (ad 29)), (1, .int x1)]) (plainFor_of_name (by decide)) rfl (Nat.le_of_ble_eq_true rfl) rfl ?_
  intro p e s m args below meth c Q ls hx hb hml hown htb hK ret hP hS hl
  unfold X8_tellCover at h
  refine lv_aload_n hx hb dX8_tellCover_0 rfl (lv_at hl 0 rfl) ?_
  obtain ⟨v1, g1, h⟩ := ob h
  refine c_Vv (q := (RX8, TX8, 27)) (ci := 8) (b := 29) (As := []) (rest := []) (A := AA ad) ⟨hx, hb, hml, hown, htb⟩ (c_X8_reckon l D ad cI hd σ τ η  v1 g1) (cwV 0 htb (gdV (fun _ hh => hh) wML_RX8_85 wIM_yX8_reckon wSE_yX8_reckon wI_RX8 wC_yX8_reckon) rfl rfl rfl hd_X8_reckon ⟨by decide, by decide⟩) hK hP rfl w_29 (fun _ hh => hh) hS rfl hl.1 rfl (Nat.le_of_ble_eq_true rfl) dX8_tellCover_1 ⟨Nat.le_refl 0, Nat.le_refl 0⟩ (fun H locs hP hS => ?_)
  refine lv_iconst (v := (0 : Int32)) hx hb dX8_tellCover_4 (by decide) ?_
  refine lv_istore_n (lv' := [(2, .int (0 : Int32)), (0, .ref (ad 29)), (1, .int x1)]) hx hb dX8_tellCover_5 rfl hl (by decide) rfl (fun ls hl => ?_)
  refine lv_iconst (v := (0 : Int32)) hx hb dX8_tellCover_6 (by decide) ?_
  refine lv_istore_n (lv' := [(3, .int (0 : Int32)), (2, .int (0 : Int32)), (0, .ref (ad 29)), (1, .int x1)]) hx hb dX8_tellCover_7 rfl hl (by decide) rfl (fun ls hl => ?_)
  obtain ⟨v2, hj2, h⟩ := ob h
  have K1 : ∀ (H : Heap) (locs : List Loc) (ls : Array Slot), WP D ad cI σ v1 η H → va_S (AA ad) s.heap H locs → lv_has ls 8 [(0, .ref (ad 29)), (1, .int x1), (2, .int v2.1)] → W p l e rmX8_tellCover s m args below meth c H locs 0 0 Q (F0 m 43 ls []) := by
    intro H locs ls hP hS hl
    refine lv_iconst (v := (-1 : Int32)) hx hb dX8_tellCover_43 (by decide) ?_
    refine lv_istore_n (lv' := [(3, .int (-1 : Int32)), (0, .ref (ad 29)), (1, .int x1), (2, .int v2.1)]) hx hb dX8_tellCover_44 rfl hl (by decide) rfl (fun ls hl => ?_)
    refine lv_iconst (v := (0 : Int32)) hx hb dX8_tellCover_45 (by decide) ?_
    refine lv_istore (lv' := [(4, .int (0 : Int32)), (3, .int (-1 : Int32)), (0, .ref (ad 29)), (1, .int x1), (2, .int v2.1)]) hx hb dX8_tellCover_46 hl (by decide) rfl (fun ls hl => ?_)
    obtain ⟨v7, hj7, h⟩ := ob h
    have K2 : ∀ (H : Heap) (locs : List Loc) (ls : Array Slot), WP D ad cI σ v1 η H → va_S (AA ad) s.heap H locs → lv_has ls 8 [(1, .int x1), (3, .int v7.1)] → W p l e rmX8_tellCover s m args below meth c H locs 0 0 Q (F0 m 179 ls []) := by
      intro H locs ls hP hS hl
      refine lv_iload_n hx hb dX8_tellCover_179 rfl (lv_at hl 1 rfl) ?_
      refine lv_iconst (v := (-1 : Int32)) hx hb dX8_tellCover_180 (by decide) ?_
      refine lv_icmp_eq (tgt := 189) hx hb dX8_tellCover_181 (by decide) (fun c26 => ?_) (fun c26 => ?_)
      · replace h := ip c26 h
        refine lv_iload_n hx hb dX8_tellCover_189 rfl (lv_at hl 1 rfl) ?_
        refine lv_goto (tgt := 197) hx hb dX8_tellCover_190 (by decide) ?_
        obtain rfl := Option.some.inj h
        exact ret _ _ _ _ _ dX8_tellCover_197 hP hS rfl
      · replace h := iq c26 h
        refine lv_iload_n hx hb dX8_tellCover_184 rfl (lv_at hl 0 rfl) ?_
        refine lv_iconst (v := (1 : Int32)) hx hb dX8_tellCover_185 (by decide) ?_
        refine lv_icmp_ne (tgt := 193) hx hb dX8_tellCover_186 (by decide) (fun c27 => ?_) (fun c27 => ?_)
        · replace h := iq c27 h
          refine lv_iload_n hx hb dX8_tellCover_193 rfl (lv_at hl 1 rfl) ?_
          obtain ⟨v28, g28, h⟩ := ob h
          refine c_Si (As := [.int v7.1]) (rest := []) (A := AA ad) ⟨hx, hb, hml, hown, htb⟩ (c_X8_ones l D ad cI hd σ v1 η v7.1 v28 g28) (va_cwS 1 htb (gdS (fun _ hh => hh) wML_RX8_183 wST_yX8_ones wI_RX8 wC_yX8_ones) rfl rfl rfl hd_X8_ones.2 ⟨by decide, by decide⟩) hK hP (fun _ hh => hh) hS rfl hl.1 rfl (Nat.le_of_ble_eq_true rfl) dX8_tellCover_194 ⟨Nat.le_refl 0, Nat.le_refl 0⟩ (fun H locs hP hS => ?_)
          obtain rfl := Option.some.inj h
          exact ret _ _ _ _ _ dX8_tellCover_197 hP hS rfl
        · replace h := ip c27 h
          refine lv_iload_n hx hb dX8_tellCover_189 rfl (lv_at hl 1 rfl) ?_
          refine lv_goto (tgt := 197) hx hb dX8_tellCover_190 (by decide) ?_
          obtain rfl := Option.some.inj h
          exact ret _ _ _ _ _ dX8_tellCover_197 hP hS rfl
    have L2 : ∀ (n : Nat) (y2_3 : Int32) (y2_4 : Int32) (H : Heap) (locs : List Loc) (ls : Array Slot), X8_tellCover_L2 n v1 x1 v2.1 y2_3 y2_4 = some v7 → WP D ad cI σ v1 η H → va_S (AA ad) s.heap H locs → lv_has ls 8 [(0, .ref (ad 29)), (1, .int x1), (2, .int v2.1), (3, .int y2_3), (4, .int y2_4)] → W p l e rmX8_tellCover s m args below meth c H locs 0 0 Q (F0 m 48 ls []) := by
      intro n
      induction n with
      | zero => intro y2_3 y2_4 H locs ls h; exact absurd h (by simp [X8_tellCover_L2])
      | succ n ih =>
        intro y2_3 y2_4 H locs ls h hP hS hl
        replace h := (X8_tellCover_L2_s n v1 x1 v2.1 y2_3 y2_4).symm.trans h
        refine lv_iload hx hb dX8_tellCover_48 (lv_at hl 4 rfl) ?_
        refine lv_iconst (v := (1 : Int32)) hx hb dX8_tellCover_50 (by decide) ?_
        refine lv_aload_n hx hb dX8_tellCover_51 rfl (lv_at hl 0 rfl) ?_
        refine va_get (D := D) (ci := 8) (v := .int (v1 29 15)) (C := RX8) (T := TX8) (N := 27) hx hb htb wu_8 hown hK.1 hP 29 w_29 rfl 15 (by decide) (htb _ wFL_RX8_177) (fun _ h9 => h9) rfl dX8_tellCover_52 ?_
        refine lv_ishl hx hb dX8_tellCover_55 ?_
        refine lv_icmp_ge (tgt := 179) hx hb dX8_tellCover_56 (by decide) (fun c8 => ?_) (fun c8 => ?_)
        · replace h := ip c8 h
          obtain rfl := Option.some.inj h
          exact K2 _ _ _ hP hS (lv_sub hl [1, 3] rfl)
        · replace h := iq c8 h
          refine lv_iconst (v := (0 : Int32)) hx hb dX8_tellCover_59 (by decide) ?_
          refine lv_istore (lv' := [(5, .int (0 : Int32)), (0, .ref (ad 29)), (1, .int x1), (2, .int v2.1), (3, .int y2_3), (4, .int y2_4)]) hx hb dX8_tellCover_60 hl (by decide) rfl (fun ls hl => ?_)
          refine lv_iload_n hx hb dX8_tellCover_62 rfl (lv_at hl 4 rfl) ?_
          refine lv_iconst (v := (-1 : Int32)) hx hb dX8_tellCover_63 (by decide) ?_
          obtain ⟨v10, hj10, h⟩ := ob h
          have J10 : ∀ (H : Heap) (locs : List Loc) (ls : Array Slot), WP D ad cI σ v1 η H → va_S (AA ad) s.heap H locs → lv_has ls 8 [(0, .ref (ad 29)), (1, .int x1), (2, .int v2.1), (3, .int y2_3), (4, .int y2_4), (5, .int (0 : Int32))] → W p l e rmX8_tellCover s m args below meth c H locs 0 0 Q (F0 m 84 ls [.int v10]) := by
            intro H locs ls hP hS hl
            refine lv_istore (lv' := [(6, .int v10), (0, .ref (ad 29)), (1, .int x1), (2, .int v2.1), (3, .int y2_3), (4, .int y2_4), (5, .int (0 : Int32))]) hx hb dX8_tellCover_84 hl (by decide) rfl (fun ls hl => ?_)
            refine lv_iconst (v := (0 : Int32)) hx hb dX8_tellCover_86 (by decide) ?_
            refine lv_istore (lv' := [(7, .int (0 : Int32)), (6, .int v10), (0, .ref (ad 29)), (1, .int x1), (2, .int v2.1), (3, .int y2_3), (4, .int y2_4), (5, .int (0 : Int32))]) hx hb dX8_tellCover_87 hl (by decide) rfl (fun ls hl => ?_)
            obtain ⟨v14, hj14, h⟩ := ob h
            have K3 : ∀ (H : Heap) (locs : List Loc) (ls : Array Slot), WP D ad cI σ v1 η H → va_S (AA ad) s.heap H locs → lv_has ls 8 [(0, .ref (ad 29)), (1, .int x1), (2, .int v2.1), (3, .int y2_3), (4, .int y2_4), (5, .int v14.1), (6, .int v14.2.1)] → W p l e rmX8_tellCover s m args below meth c H locs 0 0 Q (F0 m 152 ls []) := by
              intro H locs ls hP hS hl
              refine lv_iload hx hb dX8_tellCover_152 (lv_at hl 6 rfl) ?_
              obtain ⟨v24, hj24, h⟩ := ol h
              have J24 : ∀ (H : Heap) (locs : List Loc) (ls : Array Slot), WP D ad cI σ v1 η H → va_S (AA ad) s.heap H locs → lv_has ls 8 [(0, .ref (ad 29)), (1, .int x1), (2, .int v2.1), (4, .int y2_4)] → W p l e rmX8_tellCover s m args below meth c H locs 0 0 Q (F0 m 172 ls [.int v24]) := by
                intro H locs ls hP hS hl
                refine lv_istore_n (lv' := [(3, .int v24), (0, .ref (ad 29)), (1, .int x1), (2, .int v2.1), (4, .int y2_4)]) hx hb dX8_tellCover_172 rfl hl (by decide) rfl (fun ls hl => ?_)
                refine lv_iinc (v := (y2_4 + (1 : Int32))) (lv' := [(4, .int (y2_4 + (1 : Int32))), (3, .int v24), (0, .ref (ad 29)), (1, .int x1), (2, .int v2.1)]) hx hb dX8_tellCover_173 hl (k := 4) rfl rfl (by decide) rfl (fun ls hl => ?_)
                refine lv_goto (tgt := 48) hx hb dX8_tellCover_176 (by decide) ?_
                exact ih v24 (y2_4 + (1 : Int32)) _ _ _ h hP hS (lv_sub hl [2, 3, 4, 1, 0] rfl)
              replace h := hj24
              refine lv_if_eq (tgt := 171) hx hb dX8_tellCover_154 (by decide) (fun c23 => ?_) (fun c23 => ?_)
              · replace h := ip c23 h
                refine lv_iload_n hx hb dX8_tellCover_171 rfl (lv_at hl 3 rfl) ?_
                subst h
                exact J24 _ _ _ hP hS (lv_sub hl [0, 1, 2, 4] rfl)
              · replace h := iq c23 h
                refine lv_iload_n hx hb dX8_tellCover_157 rfl (lv_at hl 2 rfl) ?_
                refine lv_iload hx hb dX8_tellCover_158 (lv_at hl 5 rfl) ?_
                refine lv_iconst (v := (-1 : Int32)) hx hb dX8_tellCover_160 (by decide) ?_
                refine lv_ixor hx hb dX8_tellCover_161 ?_
                refine lv_iand hx hb dX8_tellCover_162 ?_
                refine lv_if_ne (tgt := 171) hx hb dX8_tellCover_163 (by decide) (fun c25 => ?_) (fun c25 => ?_)
                · replace h := iq c25 h
                  refine lv_iload_n hx hb dX8_tellCover_171 rfl (lv_at hl 3 rfl) ?_
                  subst h
                  exact J24 _ _ _ hP hS (lv_sub hl [0, 1, 2, 4] rfl)
                · replace h := ip c25 h
                  refine lv_iload hx hb dX8_tellCover_166 (lv_at hl 4 rfl) ?_
                  refine lv_goto (tgt := 172) hx hb dX8_tellCover_168 (by decide) ?_
                  subst h
                  exact J24 _ _ _ hP hS (lv_sub hl [0, 1, 2, 4] rfl)
            have L3 : ∀ (n : Nat) (y3_5 : Int32) (y3_6 : Int32) (y3_7 : Int32) (H : Heap) (locs : List Loc) (ls : Array Slot), X8_tellCover_L3 n v1 x1 v2.1 y2_3 y2_4 y3_5 y3_6 y3_7 = some v14 → WP D ad cI σ v1 η H → va_S (AA ad) s.heap H locs → lv_has ls 8 [(0, .ref (ad 29)), (1, .int x1), (2, .int v2.1), (3, .int y2_3), (4, .int y2_4), (5, .int y3_5), (6, .int y3_6), (7, .int y3_7)] → W p l e rmX8_tellCover s m args below meth c H locs 0 0 Q (F0 m 89 ls []) := by
              intro n
              induction n with
              | zero => intro y3_5 y3_6 y3_7 H locs ls h; exact absurd h (by simp [X8_tellCover_L3])
              | succ n ih =>
                intro y3_5 y3_6 y3_7 H locs ls h hP hS hl
                replace h := (X8_tellCover_L3_s n v1 x1 v2.1 y2_3 y2_4 y3_5 y3_6 y3_7).symm.trans h
                refine lv_iload hx hb dX8_tellCover_89 (lv_at hl 7 rfl) ?_
                refine lv_aload_n hx hb dX8_tellCover_91 rfl (lv_at hl 0 rfl) ?_
                refine va_get (D := D) (ci := 8) (v := .int (v1 29 15)) (C := RX8) (T := TX8) (N := 27) hx hb htb wu_8 hown hK.1 hP 29 w_29 rfl 15 (by decide) (htb _ wFL_RX8_177) (fun _ h9 => h9) rfl dX8_tellCover_92 ?_
                refine lv_icmp_ge (tgt := 152) hx hb dX8_tellCover_95 (by decide) (fun c15 => ?_) (fun c15 => ?_)
                · replace h := ip c15 h
                  obtain rfl := Option.some.inj h
                  exact K3 _ _ _ hP hS (lv_sub hl [0, 1, 2, 3, 4, 5, 6] rfl)
                · replace h := iq c15 h
                  refine lv_iload hx hb dX8_tellCover_98 (lv_at hl 6 rfl) ?_
                  refine lv_if_eq (tgt := 152) hx hb dX8_tellCover_100 (by decide) (fun c16 => ?_) (fun c16 => ?_)
                  · replace h := ip c16 h
                    obtain rfl := Option.some.inj h
                    exact K3 _ _ _ hP hS (lv_sub hl [0, 1, 2, 3, 4, 5, 6] rfl)
                  · replace h := iq c16 h
                    refine lv_iload hx hb dX8_tellCover_103 (lv_at hl 4 rfl) ?_
                    refine lv_iload hx hb dX8_tellCover_105 (lv_at hl 7 rfl) ?_
                    refine lv_ishr hx hb dX8_tellCover_107 ?_
                    refine lv_iconst (v := (1 : Int32)) hx hb dX8_tellCover_108 (by decide) ?_
                    refine lv_iand hx hb dX8_tellCover_109 ?_
                    refine lv_iconst (v := (1 : Int32)) hx hb dX8_tellCover_110 (by decide) ?_
                    obtain ⟨v18, hj18, h⟩ := ob h
                    have J18 : ∀ (H : Heap) (locs : List Loc) (ls : Array Slot), WP D ad cI σ v1 η H → va_S (AA ad) s.heap H locs → lv_has ls 8 [(0, .ref (ad 29)), (1, .int x1), (2, .int v2.1), (3, .int y2_3), (4, .int y2_4), (5, .int v18.1), (6, .int v18.2), (7, .int y3_7)] → W p l e rmX8_tellCover s m args below meth c H locs 0 0 Q (F0 m 146 ls []) := by
                      intro H locs ls hP hS hl
                      refine lv_iinc (v := (y3_7 + (1 : Int32))) (lv' := [(7, .int (y3_7 + (1 : Int32))), (0, .ref (ad 29)), (1, .int x1), (2, .int v2.1), (3, .int y2_3), (4, .int y2_4), (5, .int v18.1), (6, .int v18.2)]) hx hb dX8_tellCover_146 hl (k := 7) rfl rfl (by decide) rfl (fun ls hl => ?_)
                      refine lv_goto (tgt := 89) hx hb dX8_tellCover_149 (by decide) ?_
                      exact ih v18.1 v18.2 (y3_7 + (1 : Int32)) _ _ _ h hP hS (lv_sub hl [1, 2, 3, 4, 5, 6, 7, 0] rfl)
                    replace h := hj18
                    refine lv_icmp_ne (tgt := 146) hx hb dX8_tellCover_111 (by decide) (fun c17 => ?_) (fun c17 => ?_)
                    · replace h := iq c17 h
                      obtain rfl := Option.some.inj h
                      exact J18 _ _ _ hP hS (lv_sub hl [0, 1, 2, 3, 4, 5, 6, 7] rfl)
                    · replace h := ip c17 h
                      refine lv_iload hx hb dX8_tellCover_114 (lv_at hl 5 rfl) ?_
                      refine lv_aload_n hx hb dX8_tellCover_116 rfl (lv_at hl 0 rfl) ?_
                      refine va_get (D := D) (ci := 8) (v := .ref (ad 40)) (C := RX8) (T := TX8) (N := 27) hx hb htb wu_8 hown hK.1 hP 29 w_29 rfl 16 (by decide) (htb _ wFL_RX8_40) (fun _ h9 => h9) rfl dX8_tellCover_117 ?_
                      refine lv_iload hx hb dX8_tellCover_120 (lv_at hl 7 rfl) ?_
                      obtain ⟨v19, g19, h⟩ := ob h
                      refine r_ald hx hb hK hP 40 w_40 g19 dX8_tellCover_122 ?_
                      refine lv_ior hx hb dX8_tellCover_123 ?_
                      refine lv_istore (lv' := [(5, .int (y3_5 ||| v19)), (0, .ref (ad 29)), (1, .int x1), (2, .int v2.1), (3, .int y2_3), (4, .int y2_4), (6, .int y3_6), (7, .int y3_7)]) hx hb dX8_tellCover_124 hl (by decide) rfl (fun ls hl => ?_)
                      refine lv_aload_n hx hb dX8_tellCover_126 rfl (lv_at hl 1 rfl) ?_
                      refine va_get (D := D) (ci := 8) (v := .ref (ad 41)) (C := RX8) (T := TX8) (N := 27) hx hb htb wu_8 hown hK.1 hP 29 w_29 rfl 17 (by decide) (htb _ wFL_RX8_43) (fun _ h9 => h9) rfl dX8_tellCover_127 ?_
                      refine lv_iload hx hb dX8_tellCover_130 (lv_at hl 7 rfl) ?_
                      obtain ⟨v20, g20, h⟩ := ob h
                      refine r_ald hx hb hK hP 41 w_41 g20 dX8_tellCover_132 ?_
                      refine lv_iload hx hb dX8_tellCover_133 (lv_at hl 5 rfl) ?_
                      refine lv_iand hx hb dX8_tellCover_135 ?_
                      obtain ⟨v22, hj22, h⟩ := ol h
                      have J22 : ∀ (H : Heap) (locs : List Loc) (ls : Array Slot), WP D ad cI σ v1 η H → va_S (AA ad) s.heap H locs → lv_has ls 8 [(0, .ref (ad 29)), (1, .int x1), (2, .int v2.1), (3, .int y2_3), (4, .int y2_4), (5, .int (y3_5 ||| v19)), (7, .int y3_7)] → W p l e rmX8_tellCover s m args below meth c H locs 0 0 Q (F0 m 144 ls [.int v22]) := by
                        intro H locs ls hP hS hl
                        refine lv_istore (lv' := [(6, .int v22), (0, .ref (ad 29)), (1, .int x1), (2, .int v2.1), (3, .int y2_3), (4, .int y2_4), (5, .int (y3_5 ||| v19)), (7, .int y3_7)]) hx hb dX8_tellCover_144 hl (by decide) rfl (fun ls hl => ?_)
                        obtain rfl := Option.some.inj h
                        exact J18 _ _ _ hP hS (lv_sub hl [1, 2, 3, 4, 5, 6, 0, 7] rfl)
                      replace h := hj22
                      refine lv_if_ne (tgt := 143) hx hb dX8_tellCover_136 (by decide) (fun c21 => ?_) (fun c21 => ?_)
                      · replace h := iq c21 h
                        refine lv_iconst (v := (0 : Int32)) hx hb dX8_tellCover_143 (by decide) ?_
                        subst h
                        exact J22 _ _ _ hP hS (lv_sub hl [1, 2, 3, 4, 5, 0, 7] rfl)
                      · replace h := ip c21 h
                        refine lv_iconst (v := (1 : Int32)) hx hb dX8_tellCover_139 (by decide) ?_
                        refine lv_goto (tgt := 144) hx hb dX8_tellCover_140 (by decide) ?_
                        subst h
                        exact J22 _ _ _ hP hS (lv_sub hl [1, 2, 3, 4, 5, 0, 7] rfl)
            exact L3 10000 (0 : Int32) v10 (0 : Int32) _ _ _ hj14 hP hS (lv_sub hl [2, 3, 4, 5, 6, 7, 1, 0] rfl)
          replace h := hj10
          refine lv_icmp_eq (tgt := 79) hx hb dX8_tellCover_64 (by decide) (fun c9 => ?_) (fun c9 => ?_)
          · replace h := ip c9 h
            refine lv_iconst (v := (1 : Int32)) hx hb dX8_tellCover_79 (by decide) ?_
            refine lv_goto (tgt := 84) hx hb dX8_tellCover_80 (by decide) ?_
            obtain rfl := Option.some.inj h
            exact J10 _ _ _ hP hS (lv_sub hl [1, 2, 3, 4, 5, 0] rfl)
          · replace h := iq c9 h
            refine lv_iload hx hb dX8_tellCover_67 (lv_at hl 5 rfl) ?_
            obtain ⟨v11, g11, h⟩ := ob h
            refine c_Si (As := [.int y2_4]) (rest := []) (A := AA ad) ⟨hx, hb, hml, hown, htb⟩ (c_X8_ones l D ad cI hd σ v1 η y2_4 v11 g11) (va_cwS 1 htb (gdS (fun _ hh => hh) wML_RX8_183 wST_yX8_ones wI_RX8 wC_yX8_ones) rfl rfl rfl hd_X8_ones.2 ⟨by decide, by decide⟩) hK hP (fun _ hh => hh) hS rfl hl.1 rfl (Nat.le_of_ble_eq_true rfl) dX8_tellCover_69 ⟨Nat.le_refl 0, Nat.le_refl 0⟩ (fun H locs hP hS => ?_)
            refine lv_iload_n hx hb dX8_tellCover_72 rfl (lv_at hl 4 rfl) ?_
            obtain ⟨v12, g12, h⟩ := ob h
            refine c_Si (As := [.int y2_3]) (rest := [.int v11]) (A := AA ad) ⟨hx, hb, hml, hown, htb⟩ (c_X8_ones l D ad cI hd σ v1 η y2_3 v12 g12) (va_cwS 1 htb (gdS (fun _ hh => hh) wML_RX8_183 wST_yX8_ones wI_RX8 wC_yX8_ones) rfl rfl rfl hd_X8_ones.2 ⟨by decide, by decide⟩) hK hP (fun _ hh => hh) hS rfl hl.1 rfl (Nat.le_of_ble_eq_true rfl) dX8_tellCover_73 ⟨Nat.le_refl 0, Nat.le_refl 0⟩ (fun H locs hP hS => ?_)
            refine lv_icmp_ge (tgt := 83) hx hb dX8_tellCover_76 (by decide) (fun c13 => ?_) (fun c13 => ?_)
            · replace h := ip c13 h
              refine lv_iconst (v := (0 : Int32)) hx hb dX8_tellCover_83 (by decide) ?_
              obtain rfl := Option.some.inj h
              exact J10 _ _ _ hP hS (lv_sub hl [1, 2, 3, 4, 5, 0] rfl)
            · replace h := iq c13 h
              refine lv_iconst (v := (1 : Int32)) hx hb dX8_tellCover_79 (by decide) ?_
              refine lv_goto (tgt := 84) hx hb dX8_tellCover_80 (by decide) ?_
              obtain rfl := Option.some.inj h
              exact J10 _ _ _ hP hS (lv_sub hl [1, 2, 3, 4, 5, 0] rfl)
    exact L2 10000 (-1 : Int32) (0 : Int32) _ _ _ hj7 hP hS (lv_sub hl [2, 3, 4, 1, 0] rfl)
  have L1 : ∀ (n : Nat) (y1_2 : Int32) (y1_3 : Int32) (H : Heap) (locs : List Loc) (ls : Array Slot), X8_tellCover_L1 n v1 x1 y1_2 y1_3 = some v2 → WP D ad cI σ v1 η H → va_S (AA ad) s.heap H locs → lv_has ls 8 [(0, .ref (ad 29)), (1, .int x1), (2, .int y1_2), (3, .int y1_3)] → W p l e rmX8_tellCover s m args below meth c H locs 0 0 Q (F0 m 8 ls []) := by
    intro n
    induction n with
    | zero => intro y1_2 y1_3 H locs ls h; exact absurd h (by simp [X8_tellCover_L1])
    | succ n ih =>
      intro y1_2 y1_3 H locs ls h hP hS hl
      replace h := (X8_tellCover_L1_s n v1 x1 y1_2 y1_3).symm.trans h
      refine lv_iload_n hx hb dX8_tellCover_8 rfl (lv_at hl 3 rfl) ?_
      refine lv_aload_n hx hb dX8_tellCover_9 rfl (lv_at hl 0 rfl) ?_
      refine va_get (D := D) (ci := 8) (v := .int (v1 29 0)) (C := RX8) (T := TX8) (N := 27) hx hb htb wu_8 hown hK.1 hP 29 w_29 rfl 0 (by decide) (htb _ wFL_RX8_62) (fun _ h9 => h9) rfl dX8_tellCover_10 ?_
      refine lv_icmp_ge (tgt := 43) hx hb dX8_tellCover_13 (by decide) (fun c3 => ?_) (fun c3 => ?_)
      · replace h := ip c3 h
        obtain rfl := Option.some.inj h
        exact K1 _ _ _ hP hS (lv_sub hl [0, 1, 2] rfl)
      · replace h := iq c3 h
        refine lv_iload_n hx hb dX8_tellCover_16 rfl (lv_at hl 2 rfl) ?_
        refine lv_aload_n hx hb dX8_tellCover_17 rfl (lv_at hl 0 rfl) ?_
        refine va_get (D := D) (ci := 8) (v := .ref (ad 34)) (C := RX8) (T := TX8) (N := 27) hx hb htb wu_8 hown hK.1 hP 29 w_29 rfl 5 (by decide) (htb _ wFL_RX8_22) (fun _ h9 => h9) rfl dX8_tellCover_18 ?_
        refine lv_iload_n hx hb dX8_tellCover_21 rfl (lv_at hl 3 rfl) ?_
        obtain ⟨v4, g4, h⟩ := ob h
        refine r_ald hx hb hK hP 34 w_34 g4 dX8_tellCover_22 ?_
        refine lv_bipush (v := (10 : Int32)) hx hb dX8_tellCover_23 (by decide) ?_
        obtain ⟨v6, hj6, h⟩ := ol h
        have J6 : ∀ (H : Heap) (locs : List Loc) (ls : Array Slot), WP D ad cI σ v1 η H → va_S (AA ad) s.heap H locs → lv_has ls 8 [(0, .ref (ad 29)), (1, .int x1), (3, .int y1_3)] → W p l e rmX8_tellCover s m args below meth c H locs 0 0 Q (F0 m 35 ls [.int v6, .int y1_2]) := by
          intro H locs ls hP hS hl
          refine lv_ior hx hb dX8_tellCover_35 ?_
          refine lv_istore_n (lv' := [(2, .int (y1_2 ||| v6)), (0, .ref (ad 29)), (1, .int x1), (3, .int y1_3)]) hx hb dX8_tellCover_36 rfl hl (by decide) rfl (fun ls hl => ?_)
          refine lv_iinc (v := (y1_3 + (1 : Int32))) (lv' := [(3, .int (y1_3 + (1 : Int32))), (2, .int (y1_2 ||| v6)), (0, .ref (ad 29)), (1, .int x1)]) hx hb dX8_tellCover_37 hl (k := 3) rfl rfl (by decide) rfl (fun ls hl => ?_)
          refine lv_goto (tgt := 8) hx hb dX8_tellCover_40 (by decide) ?_
          exact ih (y1_2 ||| v6) (y1_3 + (1 : Int32)) _ _ _ h hP hS (lv_sub hl [2, 3, 1, 0] rfl)
        replace h := hj6
        refine lv_icmp_ge (tgt := 34) hx hb dX8_tellCover_25 (by decide) (fun c5 => ?_) (fun c5 => ?_)
        · replace h := ip c5 h
          refine lv_iconst (v := (0 : Int32)) hx hb dX8_tellCover_34 (by decide) ?_
          subst h
          exact J6 _ _ _ hP hS (lv_sub hl [0, 1, 3] rfl)
        · replace h := iq c5 h
          refine lv_iconst (v := (1 : Int32)) hx hb dX8_tellCover_28 (by decide) ?_
          refine lv_iload_n hx hb dX8_tellCover_29 rfl (lv_at hl 3 rfl) ?_
          refine lv_ishl hx hb dX8_tellCover_30 ?_
          refine lv_goto (tgt := 35) hx hb dX8_tellCover_31 (by decide) ?_
          subst h
          exact J6 _ _ _ hP hS (lv_sub hl [0, 1, 3] rfl)
  exact L1 10000 (0 : Int32) (0 : Int32) _ _ _ hj2 hP hS (lv_sub hl [2, 3, 1, 0] rfl)
def X8_cover (τ : St) (x1 : Int32) : Option (Int32 × St) :=
  lt (X8_isPart  x1) fun v1 =>
  if v1 = 0 then (
    some ((-102 : Int32), τ))
  else (
    bd (X8_tellCover τ x1) fun v3 =>
    some (v3.1, v3.2))
abbrev rmX8_cover : Room := { frames := 4, cells := 0, slots := 0, locals := 95 }
set_option maxHeartbeats 4000000 in
set_option maxRecDepth 100000 in
theorem c_X8_cover (l : Launch) (D : va_G) (ad : Nat → Nat) (cI : ClassId) (hd : HD ad) (σ τ : St) (η : Int64) (x1 : Int32) (rr : Int32 × St) (h : X8_cover τ x1 = some rr) : MI l yX8_cover (wy yX8_cover cX8_cover 2 (some .int)) rmX8_cover D ad cI [.ref (ad 29), .int x1] σ τ η rr.1 σ rr.2 η := by
  refine mk_i (own := RX8) (lv := [(0, .ref (ad 29)), (1, .int x1)]) (plainFor_of_name (by decide)) rfl (Nat.le_of_ble_eq_true rfl) rfl ?_
  intro p e s m args below meth c Q ls hx hb hml hown htb hK ret hP hS hl
  unfold X8_cover at h
  refine lv_iload_n hx hb dX8_cover_0 rfl (lv_at hl 1 rfl) ?_
  obtain ⟨v1, g1, h⟩ := ol h
  refine c_Sz (As := [.int x1]) (rest := []) (A := AA ad) ⟨hx, hb, hml, hown, htb⟩ (c_X8_isPart l D ad cI hd σ τ η x1 v1 g1) (va_cwS 1 htb (gdS (fun _ hh => hh) wML_RX8_137 wST_yX8_isPart wI_RX8 wC_yX8_isPart) rfl rfl rfl hd_X8_isPart.2 ⟨by decide, by decide⟩) hK hP (fun _ hh => hh) hS rfl hl.1 rfl (Nat.le_of_ble_eq_true rfl) dX8_cover_1 ⟨Nat.le_refl 0, Nat.le_refl 0⟩ (fun H locs hz1 hP hS => ?_)
  refine lv_if_eq (tgt := 15) hx hb dX8_cover_4 (by decide) (fun c2 => ?_) (fun c2 => ?_)
  · replace h := ip c2 h
    refine lv_bipush (v := (-102 : Int32)) hx hb dX8_cover_15 (by decide) ?_
    obtain rfl := Option.some.inj h
    exact ret _ _ _ _ _ dX8_cover_17 hP hS rfl
  · replace h := iq c2 h
    refine lv_aload_n hx hb dX8_cover_7 rfl (lv_at hl 0 rfl) ?_
    refine lv_iload_n hx hb dX8_cover_8 rfl (lv_at hl 1 rfl) ?_
    obtain ⟨v3, g3, h⟩ := ob h
    refine c_Vi (q := (RX8, TX8, 27)) (ci := 8) (b := 29) (As := [.int x1]) (rest := []) (A := AA ad) ⟨hx, hb, hml, hown, htb⟩ (c_X8_tellCover l D ad cI hd σ τ η x1 v3 g3) (cwV 1 htb (gdV (fun _ hh => hh) wML_RX8_186 wIM_yX8_tellCover wSE_yX8_tellCover wI_RX8 wC_yX8_tellCover) rfl rfl rfl hd_X8_tellCover ⟨by decide, by decide⟩) hK hP rfl w_29 (fun _ hh => hh) hS rfl hl.1 rfl (Nat.le_of_ble_eq_true rfl) dX8_cover_9 ⟨Nat.le_refl 0, Nat.le_refl 0⟩ (fun H locs hP hS => ?_)
    refine lv_goto (tgt := 17) hx hb dX8_cover_12 (by decide) ?_
    obtain rfl := Option.some.inj h
    exact ret _ _ _ _ _ dX8_cover_17 hP hS rfl
def X4_add (σ : St) (x1 : Int32) (x2 : Int32) : Option (Int32 × St) :=
  if (σ 18 3) < (8 : Int32) then (
    bd (wa σ 19 8 (σ 18 3) x1) fun σ2 =>
    bd (wa σ2 20 8 (σ2 18 3) x2) fun σ3 =>
    lt (s2 σ3 18 3 ((σ3 18 3) + (1 : Int32))) fun σ4 =>
    some (((σ4 18 3) - (1 : Int32)), σ4))
  else (
    some ((-104 : Int32), σ))
abbrev rmX4_add : Room := { frames := 0, cells := 0, slots := 0, locals := 0 }
set_option maxHeartbeats 4000000 in
set_option maxRecDepth 100000 in
theorem c_X4_add (l : Launch) (D : va_G) (ad : Nat → Nat) (cI : ClassId) (hd : HD ad) (σ τ : St) (η : Int64) (x1 : Int32) (x2 : Int32) (rr : Int32 × St) (h : X4_add σ x1 x2 = some rr) : MI l yX4_add (wy yX4_add cX4_add 3 (some .int)) rmX4_add D ad cI [.ref (ad 18), .int x1, .int x2] σ τ η rr.1 rr.2 τ η := by
  refine mk_i (own := RX4) (lv := [(0, .ref (ad 18)), (1, .int x1), (2, .int x2)]) (plainFor_of_name (by decide)) rfl (Nat.le_of_ble_eq_true rfl) rfl ?_
  intro p e s m args below meth c Q ls hx hb hml hown htb hK ret hP hS hl
  unfold X4_add at h
  refine lv_aload_n hx hb dX4_add_0 rfl (lv_at hl 0 rfl) ?_
  refine va_get (D := D) (ci := 4) (v := .int (σ 18 3)) (C := RX4) (T := TX4) (N := 4) hx hb htb wu_4 hown hK.1 hP 18 w_18 rfl 3 (by decide) (htb _ wFL_RX4_21) (fun _ h9 => h9) rfl dX4_add_1 ?_
  refine lv_bipush (v := (8 : Int32)) hx hb dX4_add_4 (by decide) ?_
  refine lv_icmp_lt (tgt := 12) hx hb dX4_add_6 (by decide) (fun c1 => ?_) (fun c1 => ?_)
  · replace h := ip c1 h
    refine lv_aload_n hx hb dX4_add_12 rfl (lv_at hl 0 rfl) ?_
    refine va_get (D := D) (ci := 4) (v := .ref (ad 19)) (C := RX4) (T := TX4) (N := 4) hx hb htb wu_4 hown hK.1 hP 18 w_18 rfl 0 (by decide) (htb _ wFL_RX4_11) (fun _ h9 => h9) rfl dX4_add_13 ?_
    refine lv_aload_n hx hb dX4_add_16 rfl (lv_at hl 0 rfl) ?_
    refine va_get (D := D) (ci := 4) (v := .int (σ 18 3)) (C := RX4) (T := TX4) (N := 4) hx hb htb wu_4 hown hK.1 hP 18 w_18 rfl 3 (by decide) (htb _ wFL_RX4_21) (fun _ h9 => h9) rfl dX4_add_17 ?_
    refine lv_iload_n hx hb dX4_add_20 rfl (lv_at hl 1 rfl) ?_
    obtain ⟨σ2, g2, h⟩ := ob h
    refine r_astC (A := AA ad) hx hb hK hd (fun _ hh => hh) hP hS 19 8 (by decide) (fun _ => rfl) g2 dX4_add_21 (fun H locs hP hS => ?_)
    refine lv_aload_n hx hb dX4_add_22 rfl (lv_at hl 0 rfl) ?_
    refine va_get (D := D) (ci := 4) (v := .ref (ad 20)) (C := RX4) (T := TX4) (N := 4) hx hb htb wu_4 hown hK.1 hP 18 w_18 rfl 1 (by decide) (htb _ wFL_RX4_15) (fun _ h9 => h9) rfl dX4_add_23 ?_
    refine lv_aload_n hx hb dX4_add_26 rfl (lv_at hl 0 rfl) ?_
    refine va_get (D := D) (ci := 4) (v := .int (σ2 18 3)) (C := RX4) (T := TX4) (N := 4) hx hb htb wu_4 hown hK.1 hP 18 w_18 rfl 3 (by decide) (htb _ wFL_RX4_21) (fun _ h9 => h9) rfl dX4_add_27 ?_
    refine lv_iload_n hx hb dX4_add_30 rfl (lv_at hl 2 rfl) ?_
    obtain ⟨σ3, g3, h⟩ := ob h
    refine r_astC (A := AA ad) hx hb hK hd (fun _ hh => hh) hP hS 20 8 (by decide) (fun _ => rfl) g3 dX4_add_31 (fun H locs hP hS => ?_)
    refine lv_aload_n hx hb dX4_add_32 rfl (lv_at hl 0 rfl) ?_
    refine lv_dup hx hb dX4_add_33 rfl ?_
    refine va_get (D := D) (ci := 4) (v := .int (σ3 18 3)) (C := RX4) (T := TX4) (N := 4) hx hb htb wu_4 hown hK.1 hP 18 w_18 rfl 3 (by decide) (htb _ wFL_RX4_21) (fun _ h9 => h9) rfl dX4_add_34 ?_
    refine lv_iconst (v := (1 : Int32)) hx hb dX4_add_37 (by decide) ?_
    refine lv_iadd hx hb dX4_add_38 ?_
    obtain ⟨σ4, g4, h⟩ := ol h
    refine r_putC (ci := 4) (C := RX4) (T := TX4) (N := 4) (A := AA ad) hx hb htb wu_4 tyX4 tyX4_ok nmX4 hown hK hd (fun _ hh => hh) hP hS 18 (by decide) 3 rfl rfl rfl (by decide) (htb _ wFL_RX4_21) rfl rfl (by decide +kernel) (Nat.le_of_ble_eq_true rfl) dX4_add_39 (fun H locs hP hS => ?_)
    rw [g4] at hP
    refine lv_aload_n hx hb dX4_add_42 rfl (lv_at hl 0 rfl) ?_
    refine va_get (D := D) (ci := 4) (v := .int (σ4 18 3)) (C := RX4) (T := TX4) (N := 4) hx hb htb wu_4 hown hK.1 hP 18 w_18 rfl 3 (by decide) (htb _ wFL_RX4_21) (fun _ h9 => h9) rfl dX4_add_43 ?_
    refine lv_iconst (v := (1 : Int32)) hx hb dX4_add_46 (by decide) ?_
    refine lv_isub hx hb dX4_add_47 ?_
    obtain rfl := Option.some.inj h
    exact ret _ _ _ _ _ dX4_add_48 hP hS rfl
  · replace h := iq c1 h
    refine lv_bipush (v := (-104 : Int32)) hx hb dX4_add_9 (by decide) ?_
    obtain rfl := Option.some.inj h
    exact ret _ _ _ _ _ dX4_add_11 hP hS rfl
def X7_sign (σ : St) (x1 : Int32) (x2 : Int32) : Option (Int32 × St) :=
  lt (X7_isTenths  x1) fun v1 =>
  if v1 = 0 then (
    some ((-102 : Int32), σ))
  else (
    lt (X7_isTenths  x2) fun v3 =>
    if v3 = 0 then (
      some ((-102 : Int32), σ))
    else (
      bd (X4_add σ x1 x2) fun v5 =>
      some (v5.1, v5.2)))
abbrev rmX7_sign : Room := { frames := 1, cells := 0, slots := 0, locals := 22 }
set_option maxHeartbeats 4000000 in
set_option maxRecDepth 100000 in
theorem c_X7_sign (l : Launch) (D : va_G) (ad : Nat → Nat) (cI : ClassId) (hd : HD ad) (σ τ : St) (η : Int64) (x1 : Int32) (x2 : Int32) (rr : Int32 × St) (h : X7_sign σ x1 x2 = some rr) : MI l yX7_sign (wy yX7_sign cX7_sign 3 (some .int)) rmX7_sign D ad cI [.ref (ad 0), .int x1, .int x2] σ τ η rr.1 rr.2 τ η := by
  refine mk_i (own := RX7) (lv := [(0, .ref (ad 0)), (1, .int x1), (2, .int x2)]) (plainFor_of_name (by decide)) rfl (Nat.le_of_ble_eq_true rfl) rfl ?_
  intro p e s m args below meth c Q ls hx hb hml hown htb hK ret hP hS hl
  unfold X7_sign at h
  refine lv_iload_n hx hb dX7_sign_0 rfl (lv_at hl 1 rfl) ?_
  obtain ⟨v1, g1, h⟩ := ol h
  refine c_Sz (As := [.int x1]) (rest := []) (A := AA ad) ⟨hx, hb, hml, hown, htb⟩ (c_X7_isTenths l D ad cI hd σ τ η x1 v1 g1) (va_cwS 1 htb (gdS (fun _ hh => hh) wML_RX7_244 wST_yX7_isTenths wI_RX7 wC_yX7_isTenths) rfl rfl rfl hd_X7_isTenths.2 ⟨by decide, by decide⟩) hK hP (fun _ hh => hh) hS rfl hl.1 rfl (Nat.le_of_ble_eq_true rfl) dX7_sign_1 ⟨Nat.le_refl 0, Nat.le_refl 0⟩ (fun H locs hz1 hP hS => ?_)
  refine lv_if_eq (tgt := 14) hx hb dX7_sign_4 (by decide) (fun c2 => ?_) (fun c2 => ?_)
  · replace h := ip c2 h
    refine lv_bipush (v := (-102 : Int32)) hx hb dX7_sign_14 (by decide) ?_
    obtain rfl := Option.some.inj h
    exact ret _ _ _ _ _ dX7_sign_16 hP hS rfl
  · replace h := iq c2 h
    refine lv_iload_n hx hb dX7_sign_7 rfl (lv_at hl 2 rfl) ?_
    obtain ⟨v3, g3, h⟩ := ol h
    refine c_Sz (As := [.int x2]) (rest := []) (A := AA ad) ⟨hx, hb, hml, hown, htb⟩ (c_X7_isTenths l D ad cI hd σ τ η x2 v3 g3) (va_cwS 1 htb (gdS (fun _ hh => hh) wML_RX7_244 wST_yX7_isTenths wI_RX7 wC_yX7_isTenths) rfl rfl rfl hd_X7_isTenths.2 ⟨by decide, by decide⟩) hK hP (fun _ hh => hh) hS rfl hl.1 rfl (Nat.le_of_ble_eq_true rfl) dX7_sign_8 ⟨Nat.le_refl 0, Nat.le_refl 0⟩ (fun H locs hz3 hP hS => ?_)
    refine lv_if_ne (tgt := 17) hx hb dX7_sign_11 (by decide) (fun c4 => ?_) (fun c4 => ?_)
    · replace h := iq c4 h
      refine lv_aload_n hx hb dX7_sign_17 rfl (lv_at hl 0 rfl) ?_
      refine va_get (D := D) (ci := 7) (v := .ref (ad 18)) (C := RX7) (T := TX7) (N := 11) hx hb htb wu_7 hown hK.1 hP 0 w_0 rfl 5 (by decide) (htb _ wFL_RX7_47) (fun _ h9 => h9) rfl dX7_sign_18 ?_
      refine lv_iload_n hx hb dX7_sign_21 rfl (lv_at hl 1 rfl) ?_
      refine lv_iload_n hx hb dX7_sign_22 rfl (lv_at hl 2 rfl) ?_
      obtain ⟨v5, g5, h⟩ := ob h
      refine c_Vi (q := (RX4, TX4, 4)) (ci := 4) (b := 18) (As := [.int x1, .int x2]) (rest := []) (A := AA ad) ⟨hx, hb, hml, hown, htb⟩ (c_X4_add l D ad cI hd σ τ η x1 x2 v5 g5) (cwV 2 htb (gdV (fun _ hh => hh) wML_RX7_247 wIM_yX4_add wSE_yX4_add wI_RX4 wC_yX4_add) rfl rfl rfl hd_X4_add ⟨by decide, by decide⟩) hK hP rfl w_18 (fun _ hh => hh) hS rfl hl.1 rfl (Nat.le_of_ble_eq_true rfl) dX7_sign_23 ⟨Nat.le_refl 0, Nat.le_refl 0⟩ (fun H locs hP hS => ?_)
      obtain rfl := Option.some.inj h
      exact ret _ _ _ _ _ dX7_sign_26 hP hS rfl
    · replace h := ip c4 h
      refine lv_bipush (v := (-102 : Int32)) hx hb dX7_sign_14 (by decide) ?_
      obtain rfl := Option.some.inj h
      exact ret _ _ _ _ _ dX7_sign_16 hP hS rfl
def X8_sign (τ : St) (x1 : Int32) (x2 : Int32) : Option (Int32 × St) :=
  lt (X8_in  ((x1).toInt64) (1 : Int64) (9 : Int64)) fun v1 =>
  if v1 = 0 then (
    some ((-102 : Int32), τ))
  else (
    lt (X8_in  ((x2).toInt64) (1 : Int64) (9 : Int64)) fun v3 =>
    if v3 = 0 then (
      some ((-102 : Int32), τ))
    else (
      if (τ 29 18) = (8 : Int32) then (
        some ((-104 : Int32), τ))
      else (
        bd (wa τ 42 24 ((3 : Int32) * (τ 29 18)) x1) fun τ6 =>
        bd (wa τ6 42 24 (((3 : Int32) * (τ6 29 18)) + (1 : Int32)) x2) fun τ7 =>
        bd (wa τ7 42 24 (((3 : Int32) * (τ7 29 18)) + (2 : Int32)) (0 : Int32)) fun τ8 =>
        lt (s2 τ8 29 18 ((τ8 29 18) + (1 : Int32))) fun τ9 =>
        some (((τ9 29 18) - (1 : Int32)), τ9))))
abbrev rmX8_sign : Room := { frames := 1, cells := 0, slots := 0, locals := 25 }
set_option maxHeartbeats 4000000 in
set_option maxRecDepth 100000 in
theorem c_X8_sign (l : Launch) (D : va_G) (ad : Nat → Nat) (cI : ClassId) (hd : HD ad) (σ τ : St) (η : Int64) (x1 : Int32) (x2 : Int32) (rr : Int32 × St) (h : X8_sign τ x1 x2 = some rr) : MI l yX8_sign (wy yX8_sign cX8_sign 3 (some .int)) rmX8_sign D ad cI [.ref (ad 29), .int x1, .int x2] σ τ η rr.1 σ rr.2 η := by
  refine mk_i (own := RX8) (lv := [(0, .ref (ad 29)), (1, .int x1), (2, .int x2)]) (plainFor_of_name (by decide)) rfl (Nat.le_of_ble_eq_true rfl) rfl ?_
  intro p e s m args below meth c Q ls hx hb hml hown htb hK ret hP hS hl
  unfold X8_sign at h
  refine lv_iload_n hx hb dX8_sign_0 rfl (lv_at hl 1 rfl) ?_
  refine lv_i2l (v := ((x1).toInt64)) hx hb dX8_sign_1 rfl ?_
  refine lv_lconst (v := (1 : Int64)) hx hb dX8_sign_2 rfl ?_
  refine lv_ldc2 (v := (9 : Int64)) hx hb hown (htb _ wKL_RX8_100) dX8_sign_3 ?_
  obtain ⟨v1, g1, h⟩ := ol h
  refine c_Sz (As := [.long ((x1).toInt64), .long (1 : Int64), .long (9 : Int64)]) (rest := []) (A := AA ad) ⟨hx, hb, hml, hown, htb⟩ (c_X8_in l D ad cI hd σ τ η ((x1).toInt64) (1 : Int64) (9 : Int64) v1 g1) (va_cwS 3 htb (gdS (fun _ hh => hh) wML_RX8_65 wST_yX8_in wI_RX8 wC_yX8_in) rfl rfl rfl hd_X8_in.2 ⟨by decide, by decide⟩) hK hP (fun _ hh => hh) hS rfl hl.1 rfl (Nat.le_of_ble_eq_true rfl) dX8_sign_6 ⟨Nat.le_refl 0, Nat.le_refl 0⟩ (fun H locs hz1 hP hS => ?_)
  refine lv_if_eq (tgt := 24) hx hb dX8_sign_9 (by decide) (fun c2 => ?_) (fun c2 => ?_)
  · replace h := ip c2 h
    refine lv_bipush (v := (-102 : Int32)) hx hb dX8_sign_24 (by decide) ?_
    obtain rfl := Option.some.inj h
    exact ret _ _ _ _ _ dX8_sign_26 hP hS rfl
  · replace h := iq c2 h
    refine lv_iload_n hx hb dX8_sign_12 rfl (lv_at hl 2 rfl) ?_
    refine lv_i2l (v := ((x2).toInt64)) hx hb dX8_sign_13 rfl ?_
    refine lv_lconst (v := (1 : Int64)) hx hb dX8_sign_14 rfl ?_
    refine lv_ldc2 (v := (9 : Int64)) hx hb hown (htb _ wKL_RX8_100) dX8_sign_15 ?_
    obtain ⟨v3, g3, h⟩ := ol h
    refine c_Sz (As := [.long ((x2).toInt64), .long (1 : Int64), .long (9 : Int64)]) (rest := []) (A := AA ad) ⟨hx, hb, hml, hown, htb⟩ (c_X8_in l D ad cI hd σ τ η ((x2).toInt64) (1 : Int64) (9 : Int64) v3 g3) (va_cwS 3 htb (gdS (fun _ hh => hh) wML_RX8_65 wST_yX8_in wI_RX8 wC_yX8_in) rfl rfl rfl hd_X8_in.2 ⟨by decide, by decide⟩) hK hP (fun _ hh => hh) hS rfl hl.1 rfl (Nat.le_of_ble_eq_true rfl) dX8_sign_18 ⟨Nat.le_refl 0, Nat.le_refl 0⟩ (fun H locs hz3 hP hS => ?_)
    refine lv_if_ne (tgt := 27) hx hb dX8_sign_21 (by decide) (fun c4 => ?_) (fun c4 => ?_)
    · replace h := iq c4 h
      refine lv_aload_n hx hb dX8_sign_27 rfl (lv_at hl 0 rfl) ?_
      refine va_get (D := D) (ci := 8) (v := .int (τ 29 18)) (C := RX8) (T := TX8) (N := 27) hx hb htb wu_8 hown hK.1 hP 29 w_29 rfl 18 (by decide) (htb _ wFL_RX8_189) (fun _ h9 => h9) rfl dX8_sign_28 ?_
      refine lv_bipush (v := (8 : Int32)) hx hb dX8_sign_31 (by decide) ?_
      refine lv_icmp_ne (tgt := 39) hx hb dX8_sign_33 (by decide) (fun c5 => ?_) (fun c5 => ?_)
      · replace h := iq c5 h
        refine lv_aload_n hx hb dX8_sign_39 rfl (lv_at hl 0 rfl) ?_
        refine va_get (D := D) (ci := 8) (v := .ref (ad 42)) (C := RX8) (T := TX8) (N := 27) hx hb htb wu_8 hown hK.1 hP 29 w_29 rfl 19 (by decide) (htb _ wFL_RX8_46) (fun _ h9 => h9) rfl dX8_sign_40 ?_
        refine lv_iconst (v := (3 : Int32)) hx hb dX8_sign_43 (by decide) ?_
        refine lv_aload_n hx hb dX8_sign_44 rfl (lv_at hl 0 rfl) ?_
        refine va_get (D := D) (ci := 8) (v := .int (τ 29 18)) (C := RX8) (T := TX8) (N := 27) hx hb htb wu_8 hown hK.1 hP 29 w_29 rfl 18 (by decide) (htb _ wFL_RX8_189) (fun _ h9 => h9) rfl dX8_sign_45 ?_
        refine lv_imul hx hb dX8_sign_48 ?_
        refine lv_iload_n hx hb dX8_sign_49 rfl (lv_at hl 1 rfl) ?_
        obtain ⟨τ6, g6, h⟩ := ob h
        refine r_astM (A := AA ad) hx hb hK hd (fun _ hh => hh) hP hS 42 24 (by decide) (fun _ => rfl) g6 dX8_sign_50 (fun H locs hP hS => ?_)
        refine lv_aload_n hx hb dX8_sign_51 rfl (lv_at hl 0 rfl) ?_
        refine va_get (D := D) (ci := 8) (v := .ref (ad 42)) (C := RX8) (T := TX8) (N := 27) hx hb htb wu_8 hown hK.1 hP 29 w_29 rfl 19 (by decide) (htb _ wFL_RX8_46) (fun _ h9 => h9) rfl dX8_sign_52 ?_
        refine lv_iconst (v := (3 : Int32)) hx hb dX8_sign_55 (by decide) ?_
        refine lv_aload_n hx hb dX8_sign_56 rfl (lv_at hl 0 rfl) ?_
        refine va_get (D := D) (ci := 8) (v := .int (τ6 29 18)) (C := RX8) (T := TX8) (N := 27) hx hb htb wu_8 hown hK.1 hP 29 w_29 rfl 18 (by decide) (htb _ wFL_RX8_189) (fun _ h9 => h9) rfl dX8_sign_57 ?_
        refine lv_imul hx hb dX8_sign_60 ?_
        refine lv_iconst (v := (1 : Int32)) hx hb dX8_sign_61 (by decide) ?_
        refine lv_iadd hx hb dX8_sign_62 ?_
        refine lv_iload_n hx hb dX8_sign_63 rfl (lv_at hl 2 rfl) ?_
        obtain ⟨τ7, g7, h⟩ := ob h
        refine r_astM (A := AA ad) hx hb hK hd (fun _ hh => hh) hP hS 42 24 (by decide) (fun _ => rfl) g7 dX8_sign_64 (fun H locs hP hS => ?_)
        refine lv_aload_n hx hb dX8_sign_65 rfl (lv_at hl 0 rfl) ?_
        refine va_get (D := D) (ci := 8) (v := .ref (ad 42)) (C := RX8) (T := TX8) (N := 27) hx hb htb wu_8 hown hK.1 hP 29 w_29 rfl 19 (by decide) (htb _ wFL_RX8_46) (fun _ h9 => h9) rfl dX8_sign_66 ?_
        refine lv_iconst (v := (3 : Int32)) hx hb dX8_sign_69 (by decide) ?_
        refine lv_aload_n hx hb dX8_sign_70 rfl (lv_at hl 0 rfl) ?_
        refine va_get (D := D) (ci := 8) (v := .int (τ7 29 18)) (C := RX8) (T := TX8) (N := 27) hx hb htb wu_8 hown hK.1 hP 29 w_29 rfl 18 (by decide) (htb _ wFL_RX8_189) (fun _ h9 => h9) rfl dX8_sign_71 ?_
        refine lv_imul hx hb dX8_sign_74 ?_
        refine lv_iconst (v := (2 : Int32)) hx hb dX8_sign_75 (by decide) ?_
        refine lv_iadd hx hb dX8_sign_76 ?_
        refine lv_iconst (v := (0 : Int32)) hx hb dX8_sign_77 (by decide) ?_
        obtain ⟨τ8, g8, h⟩ := ob h
        refine r_astM (A := AA ad) hx hb hK hd (fun _ hh => hh) hP hS 42 24 (by decide) (fun _ => rfl) g8 dX8_sign_78 (fun H locs hP hS => ?_)
        refine lv_aload_n hx hb dX8_sign_79 rfl (lv_at hl 0 rfl) ?_
        refine lv_dup hx hb dX8_sign_80 rfl ?_
        refine va_get (D := D) (ci := 8) (v := .int (τ8 29 18)) (C := RX8) (T := TX8) (N := 27) hx hb htb wu_8 hown hK.1 hP 29 w_29 rfl 18 (by decide) (htb _ wFL_RX8_189) (fun _ h9 => h9) rfl dX8_sign_81 ?_
        refine lv_iconst (v := (1 : Int32)) hx hb dX8_sign_84 (by decide) ?_
        refine lv_iadd hx hb dX8_sign_85 ?_
        obtain ⟨τ9, g9, h⟩ := ol h
        refine r_putM (ci := 8) (C := RX8) (T := TX8) (N := 27) (A := AA ad) hx hb htb wu_8 tyX8 tyX8_ok nmX8 hown hK hd (fun _ hh => hh) hP hS 18 rfl rfl rfl (by decide) (htb _ wFL_RX8_189) rfl rfl (by decide +kernel) (Nat.le_of_ble_eq_true rfl) dX8_sign_86 (fun H locs hP hS => ?_)
        rw [g9] at hP
        refine lv_aload_n hx hb dX8_sign_89 rfl (lv_at hl 0 rfl) ?_
        refine va_get (D := D) (ci := 8) (v := .int (τ9 29 18)) (C := RX8) (T := TX8) (N := 27) hx hb htb wu_8 hown hK.1 hP 29 w_29 rfl 18 (by decide) (htb _ wFL_RX8_189) (fun _ h9 => h9) rfl dX8_sign_90 ?_
        refine lv_iconst (v := (1 : Int32)) hx hb dX8_sign_93 (by decide) ?_
        refine lv_isub hx hb dX8_sign_94 ?_
        obtain rfl := Option.some.inj h
        exact ret _ _ _ _ _ dX8_sign_95 hP hS rfl
      · replace h := ip c5 h
        refine lv_bipush (v := (-104 : Int32)) hx hb dX8_sign_36 (by decide) ?_
        obtain rfl := Option.some.inj h
        exact ret _ _ _ _ _ dX8_sign_38 hP hS rfl
    · replace h := ip c4 h
      refine lv_bipush (v := (-102 : Int32)) hx hb dX8_sign_24 (by decide) ?_
      obtain rfl := Option.some.inj h
      exact ret _ _ _ _ _ dX8_sign_26 hP hS rfl
def X4_has (σ : St) (x1 : Int32) : Int32 :=
  if x1 < 0 then (
    (0 : Int32))
  else (
    if (σ 18 3) ≤ x1 then (
      (0 : Int32))
    else (
      (1 : Int32)))
abbrev rmX4_has : Room := { frames := 0, cells := 0, slots := 0, locals := 0 }
set_option maxHeartbeats 4000000 in
set_option maxRecDepth 100000 in
theorem c_X4_has (l : Launch) (D : va_G) (ad : Nat → Nat) (cI : ClassId) (hd : HD ad) (σ τ : St) (η : Int64) (x1 : Int32) (rr : Int32) (h : X4_has σ x1 = rr) : MZ l yX4_has (wy yX4_has cX4_has 2 (some .boolean)) rmX4_has D ad cI [.ref (ad 18), .int x1] σ τ η rr σ τ η := by
  refine mk_z (own := RX4) (lv := [(0, .ref (ad 18)), (1, .int x1)]) (plainFor_of_name (by decide)) rfl (Nat.le_of_ble_eq_true rfl) rfl ?_
  intro p e s m args below meth c Q ls hx hb hml hown htb hK ret hP hS hl
  unfold X4_has at h
  refine lv_iload_n hx hb dX4_has_0 rfl (lv_at hl 1 rfl) ?_
  refine lv_if_lt (tgt := 16) hx hb dX4_has_1 (by decide) (fun c1 => ?_) (fun c1 => ?_)
  · replace h := ip c1 h
    refine lv_iconst (v := (0 : Int32)) hx hb dX4_has_16 (by decide) ?_
    subst h
    exact ret _ _ _ _ _ dX4_has_17 hP hS rfl (by first | exact Or.inl rfl | exact Or.inr rfl | assumption)
  · replace h := iq c1 h
    refine lv_iload_n hx hb dX4_has_4 rfl (lv_at hl 1 rfl) ?_
    refine lv_aload_n hx hb dX4_has_5 rfl (lv_at hl 0 rfl) ?_
    refine va_get (D := D) (ci := 4) (v := .int (σ 18 3)) (C := RX4) (T := TX4) (N := 4) hx hb htb wu_4 hown hK.1 hP 18 w_18 rfl 3 (by decide) (htb _ wFL_RX4_21) (fun _ h9 => h9) rfl dX4_has_6 ?_
    refine lv_icmp_ge (tgt := 16) hx hb dX4_has_9 (by decide) (fun c2 => ?_) (fun c2 => ?_)
    · replace h := ip c2 h
      refine lv_iconst (v := (0 : Int32)) hx hb dX4_has_16 (by decide) ?_
      subst h
      exact ret _ _ _ _ _ dX4_has_17 hP hS rfl (by first | exact Or.inl rfl | exact Or.inr rfl | assumption)
    · replace h := iq c2 h
      refine lv_iconst (v := (1 : Int32)) hx hb dX4_has_12 (by decide) ?_
      refine lv_goto (tgt := 17) hx hb dX4_has_13 (by decide) ?_
      subst h
      exact ret _ _ _ _ _ dX4_has_17 hP hS rfl (by first | exact Or.inl rfl | exact Or.inr rfl | assumption)
def X4_isHow  (x0 : Int32) : Int32 :=
  if x0 < 0 then (
    (0 : Int32))
  else (
    if (2 : Int32) < x0 then (
      (0 : Int32))
    else (
      (1 : Int32)))
abbrev rmX4_isHow : Room := { frames := 0, cells := 0, slots := 0, locals := 0 }
set_option maxHeartbeats 4000000 in
set_option maxRecDepth 100000 in
theorem c_X4_isHow (l : Launch) (D : va_G) (ad : Nat → Nat) (cI : ClassId) (hd : HD ad) (σ τ : St) (η : Int64) (x0 : Int32) (rr : Int32) (h : X4_isHow  x0 = rr) : MZ l yX4_isHow (wy yX4_isHow cX4_isHow 1 (some .boolean)) rmX4_isHow D ad cI [.int x0] σ τ η rr σ τ η := by
  refine mk_z (own := RX4) (lv := [(0, .int x0)]) (plainFor_of_name (by decide)) rfl (Nat.le_of_ble_eq_true rfl) rfl ?_
  intro p e s m args below meth c Q ls hx hb hml hown htb hK ret hP hS hl
  unfold X4_isHow at h
  refine lv_iload_n hx hb dX4_isHow_0 rfl (lv_at hl 0 rfl) ?_
  refine lv_if_lt (tgt := 13) hx hb dX4_isHow_1 (by decide) (fun c1 => ?_) (fun c1 => ?_)
  · replace h := ip c1 h
    refine lv_iconst (v := (0 : Int32)) hx hb dX4_isHow_13 (by decide) ?_
    subst h
    exact ret _ _ _ _ _ dX4_isHow_14 hP hS rfl (by first | exact Or.inl rfl | exact Or.inr rfl | assumption)
  · replace h := iq c1 h
    refine lv_iload_n hx hb dX4_isHow_4 rfl (lv_at hl 0 rfl) ?_
    refine lv_iconst (v := (2 : Int32)) hx hb dX4_isHow_5 (by decide) ?_
    refine lv_icmp_gt (tgt := 13) hx hb dX4_isHow_6 (by decide) (fun c2 => ?_) (fun c2 => ?_)
    · replace h := ip c2 h
      refine lv_iconst (v := (0 : Int32)) hx hb dX4_isHow_13 (by decide) ?_
      subst h
      exact ret _ _ _ _ _ dX4_isHow_14 hP hS rfl (by first | exact Or.inl rfl | exact Or.inr rfl | assumption)
    · replace h := iq c2 h
      refine lv_iconst (v := (1 : Int32)) hx hb dX4_isHow_9 (by decide) ?_
      refine lv_goto (tgt := 14) hx hb dX4_isHow_10 (by decide) ?_
      subst h
      exact ret _ _ _ _ _ dX4_isHow_14 hP hS rfl (by first | exact Or.inl rfl | exact Or.inr rfl | assumption)
def X4_howOf (σ : St) (x1 : Int32) : Option (Int32) :=
  lt (X4_has σ x1) fun v1 =>
  if v1 = 0 then (
    some (0 : Int32))
  else (
    bd (rd (σ 21) 8 x1) fun v3 =>
    some v3)
abbrev rmX4_howOf : Room := { frames := 1, cells := 0, slots := 0, locals := 21 }
set_option maxHeartbeats 4000000 in
set_option maxRecDepth 100000 in
theorem c_X4_howOf (l : Launch) (D : va_G) (ad : Nat → Nat) (cI : ClassId) (hd : HD ad) (σ τ : St) (η : Int64) (x1 : Int32) (rr : Int32) (h : X4_howOf σ x1 = some rr) : MI l yX4_howOf (wy yX4_howOf cX4_howOf 2 (some .int)) rmX4_howOf D ad cI [.ref (ad 18), .int x1] σ τ η rr σ τ η := by
  refine mk_i (own := RX4) (lv := [(0, .ref (ad 18)), (1, .int x1)]) (plainFor_of_name (by decide)) rfl (Nat.le_of_ble_eq_true rfl) rfl ?_
  intro p e s m args below meth c Q ls hx hb hml hown htb hK ret hP hS hl
  unfold X4_howOf at h
  refine lv_aload_n hx hb dX4_howOf_0 rfl (lv_at hl 0 rfl) ?_
  refine lv_iload_n hx hb dX4_howOf_1 rfl (lv_at hl 1 rfl) ?_
  obtain ⟨v1, g1, h⟩ := ol h
  refine c_Vz (q := (RX4, TX4, 4)) (ci := 4) (b := 18) (As := [.int x1]) (rest := []) (A := AA ad) ⟨hx, hb, hml, hown, htb⟩ (c_X4_has l D ad cI hd σ τ η x1 v1 g1) (cwV 1 htb (gdV (fun _ hh => hh) wML_RX4_25 wIM_yX4_has wSE_yX4_has wI_RX4 wC_yX4_has) rfl rfl rfl hd_X4_has ⟨by decide, by decide⟩) hK hP rfl w_18 (fun _ hh => hh) hS rfl hl.1 rfl (Nat.le_of_ble_eq_true rfl) dX4_howOf_2 ⟨Nat.le_refl 0, Nat.le_refl 0⟩ (fun H locs hz1 hP hS => ?_)
  refine lv_if_eq (tgt := 17) hx hb dX4_howOf_5 (by decide) (fun c2 => ?_) (fun c2 => ?_)
  · replace h := ip c2 h
    refine lv_iconst (v := (0 : Int32)) hx hb dX4_howOf_17 (by decide) ?_
    obtain rfl := Option.some.inj h
    exact ret _ _ _ _ _ dX4_howOf_18 hP hS rfl
  · replace h := iq c2 h
    refine lv_aload_n hx hb dX4_howOf_8 rfl (lv_at hl 0 rfl) ?_
    refine va_get (D := D) (ci := 4) (v := .ref (ad 21)) (C := RX4) (T := TX4) (N := 4) hx hb htb wu_4 hown hK.1 hP 18 w_18 rfl 2 (by decide) (htb _ wFL_RX4_18) (fun _ h9 => h9) rfl dX4_howOf_9 ?_
    refine lv_iload_n hx hb dX4_howOf_12 rfl (lv_at hl 1 rfl) ?_
    obtain ⟨v3, g3, h⟩ := ob h
    refine r_ald hx hb hK hP 21 w_21 g3 dX4_howOf_13 ?_
    refine lv_goto (tgt := 18) hx hb dX4_howOf_14 (by decide) ?_
    obtain rfl := Option.some.inj h
    exact ret _ _ _ _ _ dX4_howOf_18 hP hS rfl
def X4_putHow (σ : St) (x1 : Int32) (x2 : Int32) : Option (St) :=
  lt (X4_has σ x1) fun v1 =>
  if v1 = 0 then (
    some σ)
  else (
    bd (wa σ 21 8 x1 x2) fun σ3 =>
    some σ3)
abbrev rmX4_putHow : Room := { frames := 1, cells := 0, slots := 0, locals := 21 }
set_option maxHeartbeats 4000000 in
set_option maxRecDepth 100000 in
theorem c_X4_putHow (l : Launch) (D : va_G) (ad : Nat → Nat) (cI : ClassId) (hd : HD ad) (σ τ : St) (η : Int64) (x1 : Int32) (x2 : Int32) (rr : St) (h : X4_putHow σ x1 x2 = some rr) : MV l yX4_putHow (wy yX4_putHow cX4_putHow 3 none) rmX4_putHow D ad cI [.ref (ad 18), .int x1, .int x2] σ τ η rr τ η := by
  refine mk_v (own := RX4) (lv := [(0, .ref (ad 18)), (1, .int x1), (2, .int x2)]) (plainFor_of_name (by decide)) rfl (Nat.le_of_ble_eq_true rfl) rfl ?_
  intro p e s m args below meth c Q ls hx hb hml hown htb hK ret hP hS hl
  unfold X4_putHow at h
  refine lv_aload_n hx hb dX4_putHow_0 rfl (lv_at hl 0 rfl) ?_
  refine lv_iload_n hx hb dX4_putHow_1 rfl (lv_at hl 1 rfl) ?_
  obtain ⟨v1, g1, h⟩ := ol h
  refine c_Vz (q := (RX4, TX4, 4)) (ci := 4) (b := 18) (As := [.int x1]) (rest := []) (A := AA ad) ⟨hx, hb, hml, hown, htb⟩ (c_X4_has l D ad cI hd σ τ η x1 v1 g1) (cwV 1 htb (gdV (fun _ hh => hh) wML_RX4_25 wIM_yX4_has wSE_yX4_has wI_RX4 wC_yX4_has) rfl rfl rfl hd_X4_has ⟨by decide, by decide⟩) hK hP rfl w_18 (fun _ hh => hh) hS rfl hl.1 rfl (Nat.le_of_ble_eq_true rfl) dX4_putHow_2 ⟨Nat.le_refl 0, Nat.le_refl 0⟩ (fun H locs hz1 hP hS => ?_)
  refine lv_if_eq (tgt := 15) hx hb dX4_putHow_5 (by decide) (fun c2 => ?_) (fun c2 => ?_)
  · replace h := ip c2 h
    obtain rfl := Option.some.inj h
    exact ret _ _ _ _ dX4_putHow_15 hP hS
  · replace h := iq c2 h
    refine lv_aload_n hx hb dX4_putHow_8 rfl (lv_at hl 0 rfl) ?_
    refine va_get (D := D) (ci := 4) (v := .ref (ad 21)) (C := RX4) (T := TX4) (N := 4) hx hb htb wu_4 hown hK.1 hP 18 w_18 rfl 2 (by decide) (htb _ wFL_RX4_18) (fun _ h9 => h9) rfl dX4_putHow_9 ?_
    refine lv_iload_n hx hb dX4_putHow_12 rfl (lv_at hl 1 rfl) ?_
    refine lv_iload_n hx hb dX4_putHow_13 rfl (lv_at hl 2 rfl) ?_
    obtain ⟨σ3, g3, h⟩ := ob h
    refine r_astC (A := AA ad) hx hb hK hd (fun _ hh => hh) hP hS 21 8 (by decide) (fun _ => rfl) g3 dX4_putHow_14 (fun H locs hP hS => ?_)
    obtain rfl := Option.some.inj h
    exact ret _ _ _ _ dX4_putHow_15 hP hS
