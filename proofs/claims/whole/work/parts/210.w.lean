def X8_holeOf_L2 (n : Nat) (τ_2 : St) (u2_1 : Int64) (u2_3 : Int32) (u2_4 : Int32) (y2_5 : Int32) : Option (Int32 × St) := match n with
  | 0 => none
  | n + 1 =>
    if (9 : Int32) ≤ y2_5 then (
      some (y2_5, τ_2))
    else (
      bd ((
          if y2_5 = u2_4 then (
            some (0 : Int32))
          else (
            bd (rd (τ_2 32) 9 y2_5) fun v12 =>
            some v12)) : Option (Int32)) fun v11 =>
      bd (wa τ_2 37 9 y2_5 v11) fun τ13 =>
      X8_holeOf_L2 n τ13 u2_1 u2_3 u2_4 (y2_5 + (1 : Int32)))
theorem X8_holeOf_L2_s (n : Nat) (τ_2 : St) (u2_1 : Int64) (u2_3 : Int32) (u2_4 : Int32) (y2_5 : Int32) : X8_holeOf_L2 (n + 1) τ_2 u2_1 u2_3 u2_4 y2_5 =
    if (9 : Int32) ≤ y2_5 then (
      some (y2_5, τ_2))
    else (
      bd ((
          if y2_5 = u2_4 then (
            some (0 : Int32))
          else (
            bd (rd (τ_2 32) 9 y2_5) fun v12 =>
            some v12)) : Option (Int32)) fun v11 =>
      bd (wa τ_2 37 9 y2_5 v11) fun τ13 =>
      X8_holeOf_L2 n τ13 u2_1 u2_3 u2_4 (y2_5 + (1 : Int32))) := rfl
def X8_holeOf_L1 (n : Nat) (τ_1 : St) (y1_1 : Int64) (y1_3 : Int32) (y1_4 : Int32) : Option (Int64 × Int32 × Int32 × St) := match n with
  | 0 => none
  | n + 1 =>
    if (τ_1 29 0) ≤ y1_4 then (
      some (y1_1, y1_3, y1_4, τ_1))
    else (
      bd (rd (τ_1 32) 9 y1_4) fun v5 =>
      bd ((
          if v5 ≤ 0 then (
            some (y1_1, y1_3, τ_1))
          else (
            bd (X8_holeOf_L2 10000 τ_1 y1_1 y1_3 y1_4 (0 : Int32)) fun v8 =>
            bd (X8_layKnows_29_37 v8.2 ) fun v14 =>
            bd (X8_silent v14 ) fun v15 =>
            lt ((
                if v15 ≤ y1_1 then (
                  y1_3)
                else (
                  y1_4)) : Int32) fun v17 =>
            lt ((
                if v15 ≤ y1_1 then (
                  y1_1)
                else (
                  v15)) : Int64) fun v19 =>
            some (v19, v17, v14))) : Option (Int64 × Int32 × St)) fun v7 =>
      X8_holeOf_L1 n v7.2.2 v7.1 v7.2.1 (y1_4 + (1 : Int32)))
theorem X8_holeOf_L1_s (n : Nat) (τ_1 : St) (y1_1 : Int64) (y1_3 : Int32) (y1_4 : Int32) : X8_holeOf_L1 (n + 1) τ_1 y1_1 y1_3 y1_4 =
    if (τ_1 29 0) ≤ y1_4 then (
      some (y1_1, y1_3, y1_4, τ_1))
    else (
      bd (rd (τ_1 32) 9 y1_4) fun v5 =>
      bd ((
          if v5 ≤ 0 then (
            some (y1_1, y1_3, τ_1))
          else (
            bd (X8_holeOf_L2 10000 τ_1 y1_1 y1_3 y1_4 (0 : Int32)) fun v8 =>
            bd (X8_layKnows_29_37 v8.2 ) fun v14 =>
            bd (X8_silent v14 ) fun v15 =>
            lt ((
                if v15 ≤ y1_1 then (
                  y1_3)
                else (
                  y1_4)) : Int32) fun v17 =>
            lt ((
                if v15 ≤ y1_1 then (
                  y1_1)
                else (
                  v15)) : Int64) fun v19 =>
            some (v19, v17, v14))) : Option (Int64 × Int32 × St)) fun v7 =>
      X8_holeOf_L1 n v7.2.2 v7.1 v7.2.1 (y1_4 + (1 : Int32))) := rfl
def X8_holeOf (τ : St)  : Option (Int32 × St) :=
  bd (X8_reckon τ ) fun v1 =>
  bd (X8_silent v1 ) fun v2 =>
  bd (X8_holeOf_L1 10000 v1 v2 (-1 : Int32) (0 : Int32)) fun v3 =>
  some (v3.2.1, v3.2.2.2)
abbrev rmX8_holeOf : Room := { frames := 3, cells := 0, slots := 0, locals := 68 }
set_option maxHeartbeats 4000000 in
set_option maxRecDepth 100000 in
theorem c_X8_holeOf (l : Launch) (D : va_G) (ad : Nat → Nat) (cI : ClassId) (hd : HD ad) (σ τ : St) (η : Int64)  (rr : Int32 × St) (h : X8_holeOf τ  = some rr) : MI l yX8_holeOf (wy yX8_holeOf cX8_holeOf 7 (some .int)) rmX8_holeOf D ad cI [.ref (ad 29)] σ τ η rr.1 σ rr.2 η := by
  refine mk_i (own := RX8) (lv := [(0, .ref (ad 29))]) (plainFor_of_name (by decide)) rfl (Nat.le_of_ble_eq_true rfl) rfl ?_
  intro p e s m args below meth c Q ls hx hb hml hown htb hK ret hP hS hl
  unfold X8_holeOf at h
  refine lv_aload_n hx hb dX8_holeOf_0 rfl (lv_at hl 0 rfl) ?_
  obtain ⟨v1, g1, h⟩ := ob h
  refine c_Vv (q := (RX8, TX8, 27)) (ci := 8) (b := 29) (As := []) (rest := []) (A := AA ad) ⟨hx, hb, hml, hown, htb⟩ (c_X8_reckon l D ad cI hd σ τ η  v1 g1) (cwV 0 htb (gdV (fun _ hh => hh) wML_RX8_85 wIM_yX8_reckon wSE_yX8_reckon wI_RX8 wC_yX8_reckon) rfl rfl rfl hd_X8_reckon ⟨by decide, by decide⟩) hK hP rfl w_29 (fun _ hh => hh) hS rfl hl.1 rfl (Nat.le_of_ble_eq_true rfl) dX8_holeOf_1 ⟨Nat.le_refl 0, Nat.le_refl 0⟩ (fun H locs hP hS => ?_)
  refine lv_aload_n hx hb dX8_holeOf_4 rfl (lv_at hl 0 rfl) ?_
  obtain ⟨v2, g2, h⟩ := ob h
  refine c_Vl (q := (RX8, TX8, 27)) (ci := 8) (b := 29) (As := []) (rest := []) (A := AA ad) ⟨hx, hb, hml, hown, htb⟩ (c_X8_silent l D ad cI hd σ v1 η  v2 g2) (cwV 0 htb (gdV (fun _ hh => hh) wML_RX8_130 wIM_yX8_silent wSE_yX8_silent wI_RX8 wC_yX8_silent) rfl rfl rfl hd_X8_silent ⟨by decide, by decide⟩) hK hP rfl w_29 (fun _ hh => hh) hS rfl hl.1 rfl (Nat.le_of_ble_eq_true rfl) dX8_holeOf_5 ⟨Nat.le_refl 0, Nat.le_refl 0⟩ (fun H locs hP hS => ?_)
  refine lv_lstore_n (lv' := [(1, .long v2), (0, .ref (ad 29))]) hx hb dX8_holeOf_8 rfl hl (by decide) rfl (fun ls hl => ?_)
  refine lv_iconst (v := (-1 : Int32)) hx hb dX8_holeOf_9 (by decide) ?_
  refine lv_istore_n (lv' := [(3, .int (-1 : Int32)), (1, .long v2), (0, .ref (ad 29))]) hx hb dX8_holeOf_10 rfl hl (by decide) rfl (fun ls hl => ?_)
  refine lv_iconst (v := (0 : Int32)) hx hb dX8_holeOf_11 (by decide) ?_
  refine lv_istore (lv' := [(4, .int (0 : Int32)), (3, .int (-1 : Int32)), (1, .long v2), (0, .ref (ad 29))]) hx hb dX8_holeOf_12 hl (by decide) rfl (fun ls hl => ?_)
  obtain ⟨v3, hj3, h⟩ := ob h
  have K1 : ∀ (H : Heap) (locs : List Loc) (ls : Array Slot), WP D ad cI σ v3.2.2.2 η H → va_S (AA ad) s.heap H locs → lv_has ls 7 [(3, .int v3.2.1)] → W p l e rmX8_holeOf s m args below meth c H locs 0 0 Q (F0 m 122 ls []) := by
    intro H locs ls hP hS hl
    refine lv_iload_n hx hb dX8_holeOf_122 rfl (lv_at hl 0 rfl) ?_
    obtain rfl := Option.some.inj h
    exact ret _ _ _ _ _ dX8_holeOf_123 hP hS rfl
  have L1 : ∀ (n : Nat) (τ_1 : St) (y1_1 : Int64) (y1_3 : Int32) (y1_4 : Int32) (H : Heap) (locs : List Loc) (ls : Array Slot), X8_holeOf_L1 n τ_1 y1_1 y1_3 y1_4 = some v3 → WP D ad cI σ τ_1 η H → va_S (AA ad) s.heap H locs → lv_has ls 7 [(0, .ref (ad 29)), (1, .long y1_1), (3, .int y1_3), (4, .int y1_4)] → W p l e rmX8_holeOf s m args below meth c H locs 0 0 Q (F0 m 14 ls []) := by
    intro n
    induction n with
    | zero => intro τ_1 y1_1 y1_3 y1_4 H locs ls h; exact absurd h (by simp [X8_holeOf_L1])
    | succ n ih =>
      intro τ_1 y1_1 y1_3 y1_4 H locs ls h hP hS hl
      replace h := (X8_holeOf_L1_s n τ_1 y1_1 y1_3 y1_4).symm.trans h
      refine lv_iload hx hb dX8_holeOf_14 (lv_at hl 3 rfl) ?_
      refine lv_aload_n hx hb dX8_holeOf_16 rfl (lv_at hl 0 rfl) ?_
      refine va_get (D := D) (ci := 8) (v := .int (τ_1 29 0)) (C := RX8) (T := TX8) (N := 27) hx hb htb wu_8 hown hK.1 hP 29 w_29 rfl 0 (by decide) (htb _ wFL_RX8_62) (fun _ h9 => h9) rfl dX8_holeOf_17 ?_
      refine lv_icmp_ge (tgt := 122) hx hb dX8_holeOf_20 (by decide) (fun c4 => ?_) (fun c4 => ?_)
      · replace h := ip c4 h
        obtain rfl := Option.some.inj h
        exact K1 _ _ _ hP hS (lv_sub hl [2] rfl)
      · replace h := iq c4 h
        refine lv_aload_n hx hb dX8_holeOf_23 rfl (lv_at hl 0 rfl) ?_
        refine va_get (D := D) (ci := 8) (v := .ref (ad 32)) (C := RX8) (T := TX8) (N := 27) hx hb htb wu_8 hown hK.1 hP 29 w_29 rfl 3 (by decide) (htb _ wFL_RX8_16) (fun _ h9 => h9) rfl dX8_holeOf_24 ?_
        refine lv_iload hx hb dX8_holeOf_27 (lv_at hl 3 rfl) ?_
        obtain ⟨v5, g5, h⟩ := ob h
        refine r_ald hx hb hK hP 32 w_32 g5 dX8_holeOf_29 ?_
        obtain ⟨v7, hj7, h⟩ := ob h
        have J7 : ∀ (H : Heap) (locs : List Loc) (ls : Array Slot), WP D ad cI σ v7.2.2 η H → va_S (AA ad) s.heap H locs → lv_has ls 7 [(0, .ref (ad 29)), (1, .long v7.1), (3, .int v7.2.1), (4, .int y1_4)] → W p l e rmX8_holeOf s m args below meth c H locs 0 0 Q (F0 m 116 ls []) := by
          intro H locs ls hP hS hl
          refine lv_iinc (v := (y1_4 + (1 : Int32))) (lv' := [(4, .int (y1_4 + (1 : Int32))), (0, .ref (ad 29)), (1, .long v7.1), (3, .int v7.2.1)]) hx hb dX8_holeOf_116 hl (k := 3) rfl rfl (by decide) rfl (fun ls hl => ?_)
          refine lv_goto (tgt := 14) hx hb dX8_holeOf_119 (by decide) ?_
          exact ih v7.2.2 v7.1 v7.2.1 (y1_4 + (1 : Int32)) _ _ _ h hP hS (lv_sub hl [1, 2, 3, 0] rfl)
        replace h := hj7
        refine lv_if_le (tgt := 116) hx hb dX8_holeOf_30 (by decide) (fun c6 => ?_) (fun c6 => ?_)
        · replace h := ip c6 h
          obtain rfl := Option.some.inj h
          exact J7 _ _ _ hP hS (lv_sub hl [0, 1, 2, 3] rfl)
        · replace h := iq c6 h
          refine lv_iconst (v := (0 : Int32)) hx hb dX8_holeOf_33 (by decide) ?_
          refine lv_istore (lv' := [(5, .int (0 : Int32)), (0, .ref (ad 29)), (1, .long y1_1), (3, .int y1_3), (4, .int y1_4)]) hx hb dX8_holeOf_34 hl (by decide) rfl (fun ls hl => ?_)
          obtain ⟨v8, hj8, h⟩ := ob h
          have K2 : ∀ (H : Heap) (locs : List Loc) (ls : Array Slot), WP D ad cI σ v8.2 η H → va_S (AA ad) s.heap H locs → lv_has ls 7 [(0, .ref (ad 29)), (1, .long y1_1), (3, .int y1_3), (4, .int y1_4)] → W p l e rmX8_holeOf s m args below meth c H locs 0 0 Q (F0 m 74 ls []) := by
            intro H locs ls hP hS hl
            refine lv_aload_n hx hb dX8_holeOf_74 rfl (lv_at hl 0 rfl) ?_
            refine lv_aload_n hx hb dX8_holeOf_75 rfl (lv_at hl 0 rfl) ?_
            refine va_get (D := D) (ci := 8) (v := .ref (ad 37)) (C := RX8) (T := TX8) (N := 27) hx hb htb wu_8 hown hK.1 hP 29 w_29 rfl 12 (by decide) (htb _ wFL_RX8_31) (fun _ h9 => h9) rfl dX8_holeOf_76 ?_
            obtain ⟨v14, g14, h⟩ := ob h
            refine c_Vv (q := (RX8, TX8, 27)) (ci := 8) (b := 29) (As := [.ref (ad 37)]) (rest := []) (A := AA ad) ⟨hx, hb, hml, hown, htb⟩ (c_X8_layKnows_29_37 l D ad cI hd σ v8.2 η  v14 g14) (cwV 1 htb (gdV (fun _ hh => hh) wML_RX8_81 wIM_yX8_layKnows wSE_yX8_layKnows wI_RX8 wC_yX8_layKnows) rfl rfl rfl hd_X8_layKnows ⟨by decide, by decide⟩) hK hP rfl w_29 (fun _ hh => hh) hS rfl hl.1 rfl (Nat.le_of_ble_eq_true rfl) dX8_holeOf_79 ⟨Nat.le_refl 0, Nat.le_refl 0⟩ (fun H locs hP hS => ?_)
            refine lv_aload_n hx hb dX8_holeOf_82 rfl (lv_at hl 0 rfl) ?_
            obtain ⟨v15, g15, h⟩ := ob h
            refine c_Vl (q := (RX8, TX8, 27)) (ci := 8) (b := 29) (As := []) (rest := []) (A := AA ad) ⟨hx, hb, hml, hown, htb⟩ (c_X8_silent l D ad cI hd σ v14 η  v15 g15) (cwV 0 htb (gdV (fun _ hh => hh) wML_RX8_130 wIM_yX8_silent wSE_yX8_silent wI_RX8 wC_yX8_silent) rfl rfl rfl hd_X8_silent ⟨by decide, by decide⟩) hK hP rfl w_29 (fun _ hh => hh) hS rfl hl.1 rfl (Nat.le_of_ble_eq_true rfl) dX8_holeOf_83 ⟨Nat.le_refl 0, Nat.le_refl 0⟩ (fun H locs hP hS => ?_)
            refine lv_lstore (lv' := [(5, .long v15), (0, .ref (ad 29)), (1, .long y1_1), (3, .int y1_3), (4, .int y1_4)]) hx hb dX8_holeOf_86 hl (by decide) rfl (fun ls hl => ?_)
            refine lv_lload hx hb dX8_holeOf_88 (lv_at hl 0 rfl) ?_
            refine lv_lload_n hx hb dX8_holeOf_90 rfl (lv_at hl 2 rfl) ?_
            refine W.lcmp hx hb dX8_holeOf_91 ?_
            obtain ⟨v17, hj17, h⟩ := ol h
            have J17 : ∀ (H : Heap) (locs : List Loc) (ls : Array Slot), WP D ad cI σ v14 η H → va_S (AA ad) s.heap H locs → lv_has ls 7 [(0, .ref (ad 29)), (1, .long y1_1), (4, .int y1_4), (5, .long v15)] → W p l e rmX8_holeOf s m args below meth c H locs 0 0 Q (F0 m 101 ls [.int v17]) := by
              intro H locs ls hP hS hl
              refine lv_istore_n (lv' := [(3, .int v17), (0, .ref (ad 29)), (1, .long y1_1), (4, .int y1_4), (5, .long v15)]) hx hb dX8_holeOf_101 rfl hl (by decide) rfl (fun ls hl => ?_)
              refine lv_lload hx hb dX8_holeOf_102 (lv_at hl 4 rfl) ?_
              refine lv_lload_n hx hb dX8_holeOf_104 rfl (lv_at hl 2 rfl) ?_
              refine W.lcmp hx hb dX8_holeOf_105 ?_
              obtain ⟨v19, hj19, h⟩ := ol h
              have J19 : ∀ (H : Heap) (locs : List Loc) (ls : Array Slot), WP D ad cI σ v14 η H → va_S (AA ad) s.heap H locs → lv_has ls 7 [(0, .ref (ad 29)), (3, .int v17), (4, .int y1_4)] → W p l e rmX8_holeOf s m args below meth c H locs 0 0 Q (F0 m 115 ls [.long v19]) := by
                intro H locs ls hP hS hl
                refine lv_lstore_n (lv' := [(1, .long v19), (0, .ref (ad 29)), (3, .int v17), (4, .int y1_4)]) hx hb dX8_holeOf_115 rfl hl (by decide) rfl (fun ls hl => ?_)
                obtain rfl := Option.some.inj h
                exact J7 _ _ _ hP hS (lv_sub hl [1, 0, 2, 3] rfl)
              replace h := hj19
              refine lv_if_le (tgt := 114) hx hb dX8_holeOf_106 (by decide) (fun c18 => ?_) (fun c18 => ?_)
              · replace c18 := (lg_cmp_le _ _).mp c18
                replace h := ip c18 h
                refine lv_lload_n hx hb dX8_holeOf_114 rfl (lv_at hl 2 rfl) ?_
                subst h
                exact J19 _ _ _ hP hS (lv_sub hl [1, 0, 3] rfl)
              · replace c18 := (not_congr (lg_cmp_le _ _)).mp c18
                replace h := iq c18 h
                refine lv_lload hx hb dX8_holeOf_109 (lv_at hl 4 rfl) ?_
                refine lv_goto (tgt := 115) hx hb dX8_holeOf_111 (by decide) ?_
                subst h
                exact J19 _ _ _ hP hS (lv_sub hl [1, 0, 3] rfl)
            replace h := hj17
            refine lv_if_le (tgt := 100) hx hb dX8_holeOf_92 (by decide) (fun c16 => ?_) (fun c16 => ?_)
            · replace c16 := (lg_cmp_le _ _).mp c16
              replace h := ip c16 h
              refine lv_iload_n hx hb dX8_holeOf_100 rfl (lv_at hl 3 rfl) ?_
              subst h
              exact J17 _ _ _ hP hS (lv_sub hl [1, 2, 4, 0] rfl)
            · replace c16 := (not_congr (lg_cmp_le _ _)).mp c16
              replace h := iq c16 h
              refine lv_iload hx hb dX8_holeOf_95 (lv_at hl 4 rfl) ?_
              refine lv_goto (tgt := 101) hx hb dX8_holeOf_97 (by decide) ?_
              subst h
              exact J17 _ _ _ hP hS (lv_sub hl [1, 2, 4, 0] rfl)
          have L2 : ∀ (n : Nat) (τ_2 : St) (y2_5 : Int32) (H : Heap) (locs : List Loc) (ls : Array Slot), X8_holeOf_L2 n τ_2 y1_1 y1_3 y1_4 y2_5 = some v8 → WP D ad cI σ τ_2 η H → va_S (AA ad) s.heap H locs → lv_has ls 7 [(0, .ref (ad 29)), (1, .long y1_1), (3, .int y1_3), (4, .int y1_4), (5, .int y2_5)] → W p l e rmX8_holeOf s m args below meth c H locs 0 0 Q (F0 m 36 ls []) := by
            intro n
            induction n with
            | zero => intro τ_2 y2_5 H locs ls h; exact absurd h (by simp [X8_holeOf_L2])
            | succ n ih =>
              intro τ_2 y2_5 H locs ls h hP hS hl
              replace h := (X8_holeOf_L2_s n τ_2 y1_1 y1_3 y1_4 y2_5).symm.trans h
              refine lv_iload hx hb dX8_holeOf_36 (lv_at hl 4 rfl) ?_
              refine lv_bipush (v := (9 : Int32)) hx hb dX8_holeOf_38 (by decide) ?_
              refine lv_icmp_ge (tgt := 74) hx hb dX8_holeOf_40 (by decide) (fun c9 => ?_) (fun c9 => ?_)
              · replace h := ip c9 h
                obtain rfl := Option.some.inj h
                exact K2 _ _ _ hP hS (lv_sub hl [0, 1, 2, 3] rfl)
              · replace h := iq c9 h
                refine lv_aload_n hx hb dX8_holeOf_43 rfl (lv_at hl 0 rfl) ?_
                refine va_get (D := D) (ci := 8) (v := .ref (ad 37)) (C := RX8) (T := TX8) (N := 27) hx hb htb wu_8 hown hK.1 hP 29 w_29 rfl 12 (by decide) (htb _ wFL_RX8_31) (fun _ h9 => h9) rfl dX8_holeOf_44 ?_
                refine lv_iload hx hb dX8_holeOf_47 (lv_at hl 4 rfl) ?_
                refine lv_iload hx hb dX8_holeOf_49 (lv_at hl 4 rfl) ?_
                refine lv_iload hx hb dX8_holeOf_51 (lv_at hl 3 rfl) ?_
                obtain ⟨v11, hj11, h⟩ := ob h
                have J11 : ∀ (H : Heap) (locs : List Loc) (ls : Array Slot), WP D ad cI σ τ_2 η H → va_S (AA ad) s.heap H locs → lv_has ls 7 [(0, .ref (ad 29)), (1, .long y1_1), (3, .int y1_3), (4, .int y1_4), (5, .int y2_5)] → W p l e rmX8_holeOf s m args below meth c H locs 0 0 Q (F0 m 67 ls [.int v11, .int y2_5, .ref (ad 37)]) := by
                  intro H locs ls hP hS hl
                  obtain ⟨τ13, g13, h⟩ := ob h
                  refine r_astM (A := AA ad) hx hb hK hd (fun _ hh => hh) hP hS 37 9 (by decide) (fun _ => rfl) g13 dX8_holeOf_67 (fun H locs hP hS => ?_)
                  refine lv_iinc (v := (y2_5 + (1 : Int32))) (lv' := [(5, .int (y2_5 + (1 : Int32))), (0, .ref (ad 29)), (1, .long y1_1), (3, .int y1_3), (4, .int y1_4)]) hx hb dX8_holeOf_68 hl (k := 4) rfl rfl (by decide) rfl (fun ls hl => ?_)
                  refine lv_goto (tgt := 36) hx hb dX8_holeOf_71 (by decide) ?_
                  exact ih τ13 (y2_5 + (1 : Int32)) _ _ _ h hP hS (lv_sub hl [1, 2, 3, 4, 0] rfl)
                replace h := hj11
                refine lv_icmp_ne (tgt := 60) hx hb dX8_holeOf_53 (by decide) (fun c10 => ?_) (fun c10 => ?_)
                · replace h := iq c10 h
                  refine lv_aload_n hx hb dX8_holeOf_60 rfl (lv_at hl 0 rfl) ?_
                  refine va_get (D := D) (ci := 8) (v := .ref (ad 32)) (C := RX8) (T := TX8) (N := 27) hx hb htb wu_8 hown hK.1 hP 29 w_29 rfl 3 (by decide) (htb _ wFL_RX8_16) (fun _ h9 => h9) rfl dX8_holeOf_61 ?_
                  refine lv_iload hx hb dX8_holeOf_64 (lv_at hl 4 rfl) ?_
                  obtain ⟨v12, g12, h⟩ := ob h
                  refine r_ald hx hb hK hP 32 w_32 g12 dX8_holeOf_66 ?_
                  obtain rfl := Option.some.inj h
                  exact J11 _ _ _ hP hS (lv_sub hl [0, 1, 2, 3, 4] rfl)
                · replace h := ip c10 h
                  refine lv_iconst (v := (0 : Int32)) hx hb dX8_holeOf_56 (by decide) ?_
                  refine lv_goto (tgt := 67) hx hb dX8_holeOf_57 (by decide) ?_
                  obtain rfl := Option.some.inj h
                  exact J11 _ _ _ hP hS (lv_sub hl [0, 1, 2, 3, 4] rfl)
          exact L2 10000 τ_1 (0 : Int32) _ _ _ hj8 hP hS (lv_sub hl [1, 2, 3, 4, 0] rfl)
  exact L1 10000 v1 v2 (-1 : Int32) (0 : Int32) _ _ _ hj3 hP hS (lv_sub hl [3, 2, 1, 0] rfl)
def X8_hole (τ : St)  : Option (Int32 × St) :=
  bd (X8_holeOf τ ) fun v1 =>
  some (v1.1, v1.2)
abbrev rmX8_hole : Room := { frames := 4, cells := 0, slots := 0, locals := 94 }
set_option maxHeartbeats 4000000 in
set_option maxRecDepth 100000 in
theorem c_X8_hole (l : Launch) (D : va_G) (ad : Nat → Nat) (cI : ClassId) (hd : HD ad) (σ τ : St) (η : Int64)  (rr : Int32 × St) (h : X8_hole τ  = some rr) : MI l yX8_hole (wy yX8_hole cX8_hole 1 (some .int)) rmX8_hole D ad cI [.ref (ad 29)] σ τ η rr.1 σ rr.2 η := by
  refine mk_i (own := RX8) (lv := [(0, .ref (ad 29))]) (plainFor_of_name (by decide)) rfl (Nat.le_of_ble_eq_true rfl) rfl ?_
  intro p e s m args below meth c Q ls hx hb hml hown htb hK ret hP hS hl
  unfold X8_hole at h
  refine lv_aload_n hx hb dX8_hole_0 rfl (lv_at hl 0 rfl) ?_
  obtain ⟨v1, g1, h⟩ := ob h
  refine c_Vi (q := (RX8, TX8, 27)) (ci := 8) (b := 29) (As := []) (rest := []) (A := AA ad) ⟨hx, hb, hml, hown, htb⟩ (c_X8_holeOf l D ad cI hd σ τ η  v1 g1) (cwV 0 htb (gdV (fun _ hh => hh) wML_RX8_169 wIM_yX8_holeOf wSE_yX8_holeOf wI_RX8 wC_yX8_holeOf) rfl rfl rfl hd_X8_holeOf ⟨by decide, by decide⟩) hK hP rfl w_29 (fun _ hh => hh) hS rfl hl.1 rfl (Nat.le_of_ble_eq_true rfl) dX8_hole_1 ⟨Nat.le_refl 0, Nat.le_refl 0⟩ (fun H locs hP hS => ?_)
  obtain rfl := Option.some.inj h
  exact ret _ _ _ _ _ dX8_hole_4 hP hS rfl
def X7_latest_L2 (n : Nat) (σ_2 : St) (u2_1 : Int32) (u2_2 : Int32) (y2_3 : Int32) (y2_4 : Int32) : Option (Int32 × Int32) := match n with
  | 0 => none
  | n + 1 =>
    if (8 : Int32) < y2_4 then (
      some (y2_3, y2_4))
    else (
      bd (X0_seenByAny σ_2 y2_3 y2_4) fun v7 =>
      X7_latest_L2 n σ_2 u2_1 u2_2 (y2_3 ||| v7) (y2_4 + (1 : Int32)))
theorem X7_latest_L2_s (n : Nat) (σ_2 : St) (u2_1 : Int32) (u2_2 : Int32) (y2_3 : Int32) (y2_4 : Int32) : X7_latest_L2 (n + 1) σ_2 u2_1 u2_2 y2_3 y2_4 =
    if (8 : Int32) < y2_4 then (
      some (y2_3, y2_4))
    else (
      bd (X0_seenByAny σ_2 y2_3 y2_4) fun v7 =>
      X7_latest_L2 n σ_2 u2_1 u2_2 (y2_3 ||| v7) (y2_4 + (1 : Int32))) := rfl
def X7_latest_L1 (n : Nat) (σ_1 : St) (u1_1 : Int32) (y1_2 : Int32) : Option ((Int32) ⊕ (Int32)) := match n with
  | 0 => none
  | n + 1 =>
    if y1_2 < (1 : Int32) then (
      some (Sum.inr y1_2))
    else (
      bd (X7_latest_L2 10000 σ_1 u1_1 y1_2 (1 : Int32) y1_2) fun v5 =>
      lt (X7_bit  v5.1 u1_1) fun v8 =>
      if v8 = (1 : Int32) then (
        some (Sum.inl y1_2))
      else (
        X7_latest_L1 n σ_1 u1_1 (y1_2 + (-1 : Int32))))
theorem X7_latest_L1_s (n : Nat) (σ_1 : St) (u1_1 : Int32) (y1_2 : Int32) : X7_latest_L1 (n + 1) σ_1 u1_1 y1_2 =
    if y1_2 < (1 : Int32) then (
      some (Sum.inr y1_2))
    else (
      bd (X7_latest_L2 10000 σ_1 u1_1 y1_2 (1 : Int32) y1_2) fun v5 =>
      lt (X7_bit  v5.1 u1_1) fun v8 =>
      if v8 = (1 : Int32) then (
        some (Sum.inl y1_2))
      else (
        X7_latest_L1 n σ_1 u1_1 (y1_2 + (-1 : Int32)))) := rfl
def X7_latest (σ : St) (x1 : Int32) : Option (Int32) :=
  lt (X0_has σ x1) fun v1 =>
  if v1 = 0 then (
    some (-101 : Int32))
  else (
    bd (X7_latest_L1 10000 σ x1 (8 : Int32)) fun v3 => Sum.elim (fun q => some q) (fun w10 =>
      some (-1 : Int32)) v3)
abbrev rmX7_latest : Room := { frames := 2, cells := 0, slots := 0, locals := 46 }
set_option maxHeartbeats 4000000 in
set_option maxRecDepth 100000 in
theorem c_X7_latest (l : Launch) (D : va_G) (ad : Nat → Nat) (cI : ClassId) (hd : HD ad) (σ τ : St) (η : Int64) (x1 : Int32) (rr : Int32) (h : X7_latest σ x1 = some rr) : MI l yX7_latest (wy yX7_latest cX7_latest 5 (some .int)) rmX7_latest D ad cI [.ref (ad 0), .int x1] σ τ η rr σ τ η := by
  refine mk_i (own := RX7) (lv := [(0, .ref (ad 0)), (1, .int x1)]) (plainFor_of_name (by decide)) rfl (Nat.le_of_ble_eq_true rfl) rfl ?_
  intro p e s m args below meth c Q ls hx hb hml hown htb hK ret hP hS hl
  unfold X7_latest at h
  refine lv_aload_n hx hb dX7_latest_0 rfl (lv_at hl 0 rfl) ?_
  refine va_get (D := D) (ci := 7) (v := .ref (ad 1)) (C := RX7) (T := TX7) (N := 11) hx hb htb wu_7 hown hK.1 hP 0 w_0 rfl 0 (by decide) (htb _ wFL_RX7_10) (fun _ h9 => h9) rfl dX7_latest_1 ?_
  refine lv_iload_n hx hb dX7_latest_4 rfl (lv_at hl 1 rfl) ?_
  obtain ⟨v1, g1, h⟩ := ol h
  refine c_Vz (q := (RX0, TX0, 6)) (ci := 0) (b := 1) (As := [.int x1]) (rest := []) (A := AA ad) ⟨hx, hb, hml, hown, htb⟩ (c_X0_has l D ad cI hd σ τ η x1 v1 g1) (cwV 1 htb (gdV (fun _ hh => hh) wML_RX7_84 wIM_yX0_has wSE_yX0_has wI_RX0 wC_yX0_has) rfl rfl rfl hd_X0_has ⟨by decide, by decide⟩) hK hP rfl w_1 (fun _ hh => hh) hS rfl hl.1 rfl (Nat.le_of_ble_eq_true rfl) dX7_latest_5 ⟨Nat.le_refl 0, Nat.le_refl 0⟩ (fun H locs hz1 hP hS => ?_)
  refine lv_if_ne (tgt := 14) hx hb dX7_latest_8 (by decide) (fun c2 => ?_) (fun c2 => ?_)
  · replace h := iq c2 h
    refine lv_bipush (v := (8 : Int32)) hx hb dX7_latest_14 (by decide) ?_
    refine lv_istore_n (lv' := [(2, .int (8 : Int32)), (0, .ref (ad 0)), (1, .int x1)]) hx hb dX7_latest_16 rfl hl (by decide) rfl (fun ls hl => ?_)
    obtain ⟨v3, hj3, h⟩ := ob h
    have KR1 : ∀ q, v3 = Sum.inl q → rr = q := fun q e8 => by
      rw [e8] at h
      exact (Option.some.inj h).symm
    have K1 : ∀ w10, v3 = Sum.inr w10 → ∀ (H : Heap) (locs : List Loc) (ls : Array Slot), WP D ad cI σ τ η H → va_S (AA ad) s.heap H locs → lv_has ls 5 [] → W p l e rmX7_latest s m args below meth c H locs 0 0 Q (F0 m 70 ls []) := by
      intro w10 e8 H locs ls hP hS hl
      rw [e8] at h
      replace h : (    some (-1 : Int32)) = some rr := h
      refine lv_iconst (v := (-1 : Int32)) hx hb dX7_latest_70 (by decide) ?_
      obtain rfl := Option.some.inj h
      exact ret _ _ _ _ _ dX7_latest_71 hP hS rfl
    have L1 : ∀ (n : Nat) (y1_2 : Int32) (H : Heap) (locs : List Loc) (ls : Array Slot), X7_latest_L1 n σ x1 y1_2 = some v3 → WP D ad cI σ τ η H → va_S (AA ad) s.heap H locs → lv_has ls 5 [(0, .ref (ad 0)), (1, .int x1), (2, .int y1_2)] → W p l e rmX7_latest s m args below meth c H locs 0 0 Q (F0 m 17 ls []) := by
      intro n
      induction n with
      | zero => intro y1_2 H locs ls h; exact absurd h (by simp [X7_latest_L1])
      | succ n ih =>
        intro y1_2 H locs ls h hP hS hl
        replace h := (X7_latest_L1_s n σ x1 y1_2).symm.trans h
        refine lv_iload_n hx hb dX7_latest_17 rfl (lv_at hl 2 rfl) ?_
        refine lv_iconst (v := (1 : Int32)) hx hb dX7_latest_18 (by decide) ?_
        refine lv_icmp_lt (tgt := 70) hx hb dX7_latest_19 (by decide) (fun c4 => ?_) (fun c4 => ?_)
        · replace h := ip c4 h
          exact K1 _ (Option.some.inj h).symm _ _ _ hP hS (lv_sub hl [] rfl)
        · replace h := iq c4 h
          refine lv_iconst (v := (1 : Int32)) hx hb dX7_latest_22 (by decide) ?_
          refine lv_istore_n (lv' := [(3, .int (1 : Int32)), (0, .ref (ad 0)), (1, .int x1), (2, .int y1_2)]) hx hb dX7_latest_23 rfl hl (by decide) rfl (fun ls hl => ?_)
          refine lv_iload_n hx hb dX7_latest_24 rfl (lv_at hl 3 rfl) ?_
          refine lv_istore (lv' := [(4, .int y1_2), (3, .int (1 : Int32)), (0, .ref (ad 0)), (1, .int x1), (2, .int y1_2)]) hx hb dX7_latest_25 hl (by decide) rfl (fun ls hl => ?_)
          obtain ⟨v5, hj5, h⟩ := ob h
          have K2 : ∀ (H : Heap) (locs : List Loc) (ls : Array Slot), WP D ad cI σ τ η H → va_S (AA ad) s.heap H locs → lv_has ls 5 [(0, .ref (ad 0)), (1, .int x1), (2, .int y1_2), (3, .int v5.1)] → W p l e rmX7_latest s m args below meth c H locs 0 0 Q (F0 m 53 ls []) := by
            intro H locs ls hP hS hl
            refine lv_iload_n hx hb dX7_latest_53 rfl (lv_at hl 3 rfl) ?_
            refine lv_iload_n hx hb dX7_latest_54 rfl (lv_at hl 1 rfl) ?_
            obtain ⟨v8, g8, h⟩ := ol h
            refine c_Si (As := [.int v5.1, .int x1]) (rest := []) (A := AA ad) ⟨hx, hb, hml, hown, htb⟩ (c_X7_bit l D ad cI hd σ τ η v5.1 x1 v8 g8) (va_cwS 2 htb (gdS (fun _ hh => hh) wML_RX7_109 wST_yX7_bit wI_RX7 wC_yX7_bit) rfl rfl rfl hd_X7_bit.2 ⟨by decide, by decide⟩) hK hP (fun _ hh => hh) hS rfl hl.1 rfl (Nat.le_of_ble_eq_true rfl) dX7_latest_55 ⟨Nat.le_refl 0, Nat.le_refl 0⟩ (fun H locs hP hS => ?_)
            refine lv_iconst (v := (1 : Int32)) hx hb dX7_latest_58 (by decide) ?_
            refine lv_icmp_ne (tgt := 64) hx hb dX7_latest_59 (by decide) (fun c9 => ?_) (fun c9 => ?_)
            · replace h := iq c9 h
              refine lv_iinc (v := (y1_2 + (-1 : Int32))) (lv' := [(2, .int (y1_2 + (-1 : Int32))), (0, .ref (ad 0)), (1, .int x1), (3, .int v5.1)]) hx hb dX7_latest_64 hl (k := 2) rfl rfl (by decide) rfl (fun ls hl => ?_)
              refine lv_goto (tgt := 17) hx hb dX7_latest_67 (by decide) ?_
              exact ih (y1_2 + (-1 : Int32)) _ _ _ h hP hS (lv_sub hl [1, 2, 0] rfl)
            · replace h := ip c9 h
              refine lv_iload_n hx hb dX7_latest_62 rfl (lv_at hl 2 rfl) ?_
              have e9 := KR1 _ (Option.some.inj h).symm
              subst e9
              exact ret _ _ _ _ _ dX7_latest_63 hP hS rfl
          have L2 : ∀ (n : Nat) (y2_3 : Int32) (y2_4 : Int32) (H : Heap) (locs : List Loc) (ls : Array Slot), X7_latest_L2 n σ x1 y1_2 y2_3 y2_4 = some v5 → WP D ad cI σ τ η H → va_S (AA ad) s.heap H locs → lv_has ls 5 [(0, .ref (ad 0)), (1, .int x1), (2, .int y1_2), (3, .int y2_3), (4, .int y2_4)] → W p l e rmX7_latest s m args below meth c H locs 0 0 Q (F0 m 27 ls []) := by
            intro n
            induction n with
            | zero => intro y2_3 y2_4 H locs ls h; exact absurd h (by simp [X7_latest_L2])
            | succ n ih =>
              intro y2_3 y2_4 H locs ls h hP hS hl
              replace h := (X7_latest_L2_s n σ x1 y1_2 y2_3 y2_4).symm.trans h
              refine lv_iload hx hb dX7_latest_27 (lv_at hl 4 rfl) ?_
              refine lv_bipush (v := (8 : Int32)) hx hb dX7_latest_29 (by decide) ?_
              refine lv_icmp_gt (tgt := 53) hx hb dX7_latest_31 (by decide) (fun c6 => ?_) (fun c6 => ?_)
              · replace h := ip c6 h
                obtain rfl := Option.some.inj h
                exact K2 _ _ _ hP hS (lv_sub hl [0, 1, 2, 3] rfl)
              · replace h := iq c6 h
                refine lv_iload_n hx hb dX7_latest_34 rfl (lv_at hl 3 rfl) ?_
                refine lv_aload_n hx hb dX7_latest_35 rfl (lv_at hl 0 rfl) ?_
                refine va_get (D := D) (ci := 7) (v := .ref (ad 1)) (C := RX7) (T := TX7) (N := 11) hx hb htb wu_7 hown hK.1 hP 0 w_0 rfl 0 (by decide) (htb _ wFL_RX7_10) (fun _ h9 => h9) rfl dX7_latest_36 ?_
                refine lv_iload_n hx hb dX7_latest_39 rfl (lv_at hl 3 rfl) ?_
                refine lv_iload hx hb dX7_latest_40 (lv_at hl 4 rfl) ?_
                obtain ⟨v7, g7, h⟩ := ob h
                refine c_Vi (q := (RX0, TX0, 6)) (ci := 0) (b := 1) (As := [.int y2_3, .int y2_4]) (rest := [.int y2_3]) (A := AA ad) ⟨hx, hb, hml, hown, htb⟩ (c_X0_seenByAny l D ad cI hd σ τ η y2_3 y2_4 v7 g7) (cwV 2 htb (gdV (fun _ hh => hh) wML_RX7_217 wIM_yX0_seenByAny wSE_yX0_seenByAny wI_RX0 wC_yX0_seenByAny) rfl rfl rfl hd_X0_seenByAny ⟨by decide, by decide⟩) hK hP rfl w_1 (fun _ hh => hh) hS rfl hl.1 rfl (Nat.le_of_ble_eq_true rfl) dX7_latest_42 ⟨Nat.le_refl 0, Nat.le_refl 0⟩ (fun H locs hP hS => ?_)
                refine lv_ior hx hb dX7_latest_45 ?_
                refine lv_istore_n (lv' := [(3, .int (y2_3 ||| v7)), (0, .ref (ad 0)), (1, .int x1), (2, .int y1_2), (4, .int y2_4)]) hx hb dX7_latest_46 rfl hl (by decide) rfl (fun ls hl => ?_)
                refine lv_iinc (v := (y2_4 + (1 : Int32))) (lv' := [(4, .int (y2_4 + (1 : Int32))), (3, .int (y2_3 ||| v7)), (0, .ref (ad 0)), (1, .int x1), (2, .int y1_2)]) hx hb dX7_latest_47 hl (k := 4) rfl rfl (by decide) rfl (fun ls hl => ?_)
                refine lv_goto (tgt := 27) hx hb dX7_latest_50 (by decide) ?_
                exact ih (y2_3 ||| v7) (y2_4 + (1 : Int32)) _ _ _ h hP hS (lv_sub hl [2, 3, 4, 1, 0] rfl)
          exact L2 10000 (1 : Int32) y1_2 _ _ _ hj5 hP hS (lv_sub hl [2, 3, 4, 1, 0] rfl)
    exact L1 10000 (8 : Int32) _ _ _ hj3 hP hS (lv_sub hl [1, 2, 0] rfl)
  · replace h := ip c2 h
    refine lv_bipush (v := (-101 : Int32)) hx hb dX7_latest_11 (by decide) ?_
    obtain rfl := Option.some.inj h
    exact ret _ _ _ _ _ dX7_latest_13 hP hS rfl
def X8_latestOf_L2 (n : Nat) (τ_2 : St) (u2_1 : Int32) (u2_2 : Int32) (y2_3 : Int32) : Option (Int32 × St) := match n with
  | 0 => none
  | n + 1 =>
    if (τ_2 29 0) ≤ y2_3 then (
      some (y2_3, τ_2))
    else (
      lt ((
          if y2_3 = 0 then (
            u2_2)
          else (
            (10 : Int32))) : Int32) fun v6 =>
      bd (wa τ_2 34 9 y2_3 v6) fun τ7 =>
      X8_latestOf_L2 n τ7 u2_1 u2_2 (y2_3 + (1 : Int32)))
theorem X8_latestOf_L2_s (n : Nat) (τ_2 : St) (u2_1 : Int32) (u2_2 : Int32) (y2_3 : Int32) : X8_latestOf_L2 (n + 1) τ_2 u2_1 u2_2 y2_3 =
    if (τ_2 29 0) ≤ y2_3 then (
      some (y2_3, τ_2))
    else (
      lt ((
          if y2_3 = 0 then (
            u2_2)
          else (
            (10 : Int32))) : Int32) fun v6 =>
      bd (wa τ_2 34 9 y2_3 v6) fun τ7 =>
      X8_latestOf_L2 n τ7 u2_1 u2_2 (y2_3 + (1 : Int32))) := rfl
def X8_latestOf_L1 (n : Nat) (τ_1 : St) (u1_1 : Int32) (y1_2 : Int32) : Option ((Int32 × St) ⊕ (Int32 × St)) := match n with
  | 0 => none
  | n + 1 =>
    if y1_2 ≤ 0 then (
      some (Sum.inr (y1_2, τ_1)))
    else (
      bd (X8_latestOf_L2 10000 τ_1 u1_1 y1_2 (0 : Int32)) fun v3 =>
      bd (X8_spread v3.2 (1 : Int32)) fun v8 =>
      bd (rd (v8 34) 9 u1_1) fun v9 =>
      if (10 : Int32) ≤ v9 then (
        X8_latestOf_L1 n v8 u1_1 (y1_2 + (-1 : Int32)))
      else (
        some (Sum.inl (y1_2, v8))))
theorem X8_latestOf_L1_s (n : Nat) (τ_1 : St) (u1_1 : Int32) (y1_2 : Int32) : X8_latestOf_L1 (n + 1) τ_1 u1_1 y1_2 =
    if y1_2 ≤ 0 then (
      some (Sum.inr (y1_2, τ_1)))
    else (
      bd (X8_latestOf_L2 10000 τ_1 u1_1 y1_2 (0 : Int32)) fun v3 =>
      bd (X8_spread v3.2 (1 : Int32)) fun v8 =>
      bd (rd (v8 34) 9 u1_1) fun v9 =>
      if (10 : Int32) ≤ v9 then (
        X8_latestOf_L1 n v8 u1_1 (y1_2 + (-1 : Int32)))
      else (
        some (Sum.inl (y1_2, v8)))) := rfl
def X8_latestOf (τ : St) (x1 : Int32) : Option (Int32 × St) :=
  bd (X8_latestOf_L1 10000 τ x1 (8 : Int32)) fun v1 => Sum.elim (fun q => some q) (fun w11 =>
    some ((-1 : Int32), w11.2)) v1
abbrev rmX8_latestOf : Room := { frames := 1, cells := 0, slots := 0, locals := 26 }
set_option maxHeartbeats 4000000 in
set_option maxRecDepth 100000 in
theorem c_X8_latestOf (l : Launch) (D : va_G) (ad : Nat → Nat) (cI : ClassId) (hd : HD ad) (σ τ : St) (η : Int64) (x1 : Int32) (rr : Int32 × St) (h : X8_latestOf τ x1 = some rr) : MI l yX8_latestOf (wy yX8_latestOf cX8_latestOf 4 (some .int)) rmX8_latestOf D ad cI [.ref (ad 29), .int x1] σ τ η rr.1 σ rr.2 η := by
  refine mk_i (own := RX8) (lv := [(0, .ref (ad 29)), (1, .int x1)]) (plainFor_of_name (by decide)) rfl (Nat.le_of_ble_eq_true rfl) rfl ?_
  intro p e s m args below meth c Q ls hx hb hml hown htb hK ret hP hS hl
  unfold X8_latestOf at h
  refine lv_bipush (v := (8 : Int32)) hx hb dX8_latestOf_0 (by decide) ?_
  refine lv_istore_n (lv' := [(2, .int (8 : Int32)), (0, .ref (ad 29)), (1, .int x1)]) hx hb dX8_latestOf_2 rfl hl (by decide) rfl (fun ls hl => ?_)
  obtain ⟨v1, hj1, h⟩ := ob h
  have KR1 : ∀ q, v1 = Sum.inl q → rr = q := fun q e8 => by
    rw [e8] at h
    exact (Option.some.inj h).symm
  have K1 : ∀ w11, v1 = Sum.inr w11 → ∀ (H : Heap) (locs : List Loc) (ls : Array Slot), WP D ad cI σ w11.2 η H → va_S (AA ad) s.heap H locs → lv_has ls 4 [] → W p l e rmX8_latestOf s m args below meth c H locs 0 0 Q (F0 m 63 ls []) := by
    intro w11 e8 H locs ls hP hS hl
    rw [e8] at h
    replace h : (    some ((-1 : Int32), w11.2)) = some rr := h
    refine lv_iconst (v := (-1 : Int32)) hx hb dX8_latestOf_63 (by decide) ?_
    obtain rfl := Option.some.inj h
    exact ret _ _ _ _ _ dX8_latestOf_64 hP hS rfl
  have L1 : ∀ (n : Nat) (τ_1 : St) (y1_2 : Int32) (H : Heap) (locs : List Loc) (ls : Array Slot), X8_latestOf_L1 n τ_1 x1 y1_2 = some v1 → WP D ad cI σ τ_1 η H → va_S (AA ad) s.heap H locs → lv_has ls 4 [(0, .ref (ad 29)), (1, .int x1), (2, .int y1_2)] → W p l e rmX8_latestOf s m args below meth c H locs 0 0 Q (F0 m 3 ls []) := by
    intro n
    induction n with
    | zero => intro τ_1 y1_2 H locs ls h; exact absurd h (by simp [X8_latestOf_L1])
    | succ n ih =>
      intro τ_1 y1_2 H locs ls h hP hS hl
      replace h := (X8_latestOf_L1_s n τ_1 x1 y1_2).symm.trans h
      refine lv_iload_n hx hb dX8_latestOf_3 rfl (lv_at hl 2 rfl) ?_
      refine lv_if_le (tgt := 63) hx hb dX8_latestOf_4 (by decide) (fun c2 => ?_) (fun c2 => ?_)
      · replace h := ip c2 h
        exact K1 _ (Option.some.inj h).symm _ _ _ hP hS (lv_sub hl [] rfl)
      · replace h := iq c2 h
        refine lv_iconst (v := (0 : Int32)) hx hb dX8_latestOf_7 (by decide) ?_
        refine lv_istore_n (lv' := [(3, .int (0 : Int32)), (0, .ref (ad 29)), (1, .int x1), (2, .int y1_2)]) hx hb dX8_latestOf_8 rfl hl (by decide) rfl (fun ls hl => ?_)
        obtain ⟨v3, hj3, h⟩ := ob h
        have K2 : ∀ (H : Heap) (locs : List Loc) (ls : Array Slot), WP D ad cI σ v3.2 η H → va_S (AA ad) s.heap H locs → lv_has ls 4 [(0, .ref (ad 29)), (1, .int x1), (2, .int y1_2)] → W p l e rmX8_latestOf s m args below meth c H locs 0 0 Q (F0 m 39 ls []) := by
          intro H locs ls hP hS hl
          refine lv_aload_n hx hb dX8_latestOf_39 rfl (lv_at hl 0 rfl) ?_
          refine lv_iconst (v := (1 : Int32)) hx hb dX8_latestOf_40 (by decide) ?_
          obtain ⟨v8, g8, h⟩ := ob h
          refine c_Vv (q := (RX8, TX8, 27)) (ci := 8) (b := 29) (As := [.int (1 : Int32)]) (rest := []) (A := AA ad) ⟨hx, hb, hml, hown, htb⟩ (c_X8_spread l D ad cI hd σ v3.2 η (1 : Int32) v8 g8) (cwV 1 htb (gdV (fun _ hh => hh) wML_RX8_77 wIM_yX8_spread wSE_yX8_spread wI_RX8 wC_yX8_spread) rfl rfl rfl hd_X8_spread ⟨by decide, by decide⟩) hK hP rfl w_29 (fun _ hh => hh) hS rfl hl.1 rfl (Nat.le_of_ble_eq_true rfl) dX8_latestOf_41 ⟨Nat.le_refl 0, Nat.le_refl 0⟩ (fun H locs hP hS => ?_)
          refine lv_aload_n hx hb dX8_latestOf_44 rfl (lv_at hl 0 rfl) ?_
          refine va_get (D := D) (ci := 8) (v := .ref (ad 34)) (C := RX8) (T := TX8) (N := 27) hx hb htb wu_8 hown hK.1 hP 29 w_29 rfl 5 (by decide) (htb _ wFL_RX8_22) (fun _ h9 => h9) rfl dX8_latestOf_45 ?_
          refine lv_iload_n hx hb dX8_latestOf_48 rfl (lv_at hl 1 rfl) ?_
          obtain ⟨v9, g9, h⟩ := ob h
          refine r_ald hx hb hK hP 34 w_34 g9 dX8_latestOf_49 ?_
          refine lv_bipush (v := (10 : Int32)) hx hb dX8_latestOf_50 (by decide) ?_
          refine lv_icmp_ge (tgt := 57) hx hb dX8_latestOf_52 (by decide) (fun c10 => ?_) (fun c10 => ?_)
          · replace h := ip c10 h
            refine lv_iinc (v := (y1_2 + (-1 : Int32))) (lv' := [(2, .int (y1_2 + (-1 : Int32))), (0, .ref (ad 29)), (1, .int x1)]) hx hb dX8_latestOf_57 hl (k := 2) rfl rfl (by decide) rfl (fun ls hl => ?_)
            refine lv_goto (tgt := 3) hx hb dX8_latestOf_60 (by decide) ?_
            exact ih v8 (y1_2 + (-1 : Int32)) _ _ _ h hP hS (lv_sub hl [1, 2, 0] rfl)
          · replace h := iq c10 h
            refine lv_iload_n hx hb dX8_latestOf_55 rfl (lv_at hl 2 rfl) ?_
            have e9 := KR1 _ (Option.some.inj h).symm
            subst e9
            exact ret _ _ _ _ _ dX8_latestOf_56 hP hS rfl
        have L2 : ∀ (n : Nat) (τ_2 : St) (y2_3 : Int32) (H : Heap) (locs : List Loc) (ls : Array Slot), X8_latestOf_L2 n τ_2 x1 y1_2 y2_3 = some v3 → WP D ad cI σ τ_2 η H → va_S (AA ad) s.heap H locs → lv_has ls 4 [(0, .ref (ad 29)), (1, .int x1), (2, .int y1_2), (3, .int y2_3)] → W p l e rmX8_latestOf s m args below meth c H locs 0 0 Q (F0 m 9 ls []) := by
          intro n
          induction n with
          | zero => intro τ_2 y2_3 H locs ls h; exact absurd h (by simp [X8_latestOf_L2])
          | succ n ih =>
            intro τ_2 y2_3 H locs ls h hP hS hl
            replace h := (X8_latestOf_L2_s n τ_2 x1 y1_2 y2_3).symm.trans h
            refine lv_iload_n hx hb dX8_latestOf_9 rfl (lv_at hl 3 rfl) ?_
            refine lv_aload_n hx hb dX8_latestOf_10 rfl (lv_at hl 0 rfl) ?_
            refine va_get (D := D) (ci := 8) (v := .int (τ_2 29 0)) (C := RX8) (T := TX8) (N := 27) hx hb htb wu_8 hown hK.1 hP 29 w_29 rfl 0 (by decide) (htb _ wFL_RX8_62) (fun _ h9 => h9) rfl dX8_latestOf_11 ?_
            refine lv_icmp_ge (tgt := 39) hx hb dX8_latestOf_14 (by decide) (fun c4 => ?_) (fun c4 => ?_)
            · replace h := ip c4 h
              obtain rfl := Option.some.inj h
              exact K2 _ _ _ hP hS (lv_sub hl [0, 1, 2] rfl)
            · replace h := iq c4 h
              refine lv_aload_n hx hb dX8_latestOf_17 rfl (lv_at hl 0 rfl) ?_
              refine va_get (D := D) (ci := 8) (v := .ref (ad 34)) (C := RX8) (T := TX8) (N := 27) hx hb htb wu_8 hown hK.1 hP 29 w_29 rfl 5 (by decide) (htb _ wFL_RX8_22) (fun _ h9 => h9) rfl dX8_latestOf_18 ?_
              refine lv_iload_n hx hb dX8_latestOf_21 rfl (lv_at hl 3 rfl) ?_
              refine lv_iload_n hx hb dX8_latestOf_22 rfl (lv_at hl 3 rfl) ?_
              obtain ⟨v6, hj6, h⟩ := ol h
              have J6 : ∀ (H : Heap) (locs : List Loc) (ls : Array Slot), WP D ad cI σ τ_2 η H → va_S (AA ad) s.heap H locs → lv_has ls 4 [(0, .ref (ad 29)), (1, .int x1), (2, .int y1_2), (3, .int y2_3)] → W p l e rmX8_latestOf s m args below meth c H locs 0 0 Q (F0 m 32 ls [.int v6, .int y2_3, .ref (ad 34)]) := by
                intro H locs ls hP hS hl
                obtain ⟨τ7, g7, h⟩ := ob h
                refine r_astM (A := AA ad) hx hb hK hd (fun _ hh => hh) hP hS 34 9 (by decide) (fun _ => rfl) g7 dX8_latestOf_32 (fun H locs hP hS => ?_)
                refine lv_iinc (v := (y2_3 + (1 : Int32))) (lv' := [(3, .int (y2_3 + (1 : Int32))), (0, .ref (ad 29)), (1, .int x1), (2, .int y1_2)]) hx hb dX8_latestOf_33 hl (k := 3) rfl rfl (by decide) rfl (fun ls hl => ?_)
                refine lv_goto (tgt := 9) hx hb dX8_latestOf_36 (by decide) ?_
                exact ih τ7 (y2_3 + (1 : Int32)) _ _ _ h hP hS (lv_sub hl [1, 2, 3, 0] rfl)
              replace h := hj6
              refine lv_if_ne (tgt := 30) hx hb dX8_latestOf_23 (by decide) (fun c5 => ?_) (fun c5 => ?_)
              · replace h := iq c5 h
                refine lv_bipush (v := (10 : Int32)) hx hb dX8_latestOf_30 (by decide) ?_
                subst h
                exact J6 _ _ _ hP hS (lv_sub hl [0, 1, 2, 3] rfl)
              · replace h := ip c5 h
                refine lv_iload_n hx hb dX8_latestOf_26 rfl (lv_at hl 2 rfl) ?_
                refine lv_goto (tgt := 32) hx hb dX8_latestOf_27 (by decide) ?_
                subst h
                exact J6 _ _ _ hP hS (lv_sub hl [0, 1, 2, 3] rfl)
        exact L2 10000 τ_1 (0 : Int32) _ _ _ hj3 hP hS (lv_sub hl [1, 2, 3, 0] rfl)
  exact L1 10000 τ (8 : Int32) _ _ _ hj1 hP hS (lv_sub hl [1, 2, 0] rfl)
def X8_latest (τ : St) (x1 : Int32) : Option (Int32 × St) :=
  lt (X8_isGuest τ x1) fun v1 =>
  if v1 = 0 then (
    some ((-101 : Int32), τ))
  else (
    bd (X8_latestOf τ x1) fun v3 =>
    some (v3.1, v3.2))
abbrev rmX8_latest : Room := { frames := 2, cells := 0, slots := 0, locals := 49 }
set_option maxHeartbeats 4000000 in
set_option maxRecDepth 100000 in
theorem c_X8_latest (l : Launch) (D : va_G) (ad : Nat → Nat) (cI : ClassId) (hd : HD ad) (σ τ : St) (η : Int64) (x1 : Int32) (rr : Int32 × St) (h : X8_latest τ x1 = some rr) : MI l yX8_latest (wy yX8_latest cX8_latest 2 (some .int)) rmX8_latest D ad cI [.ref (ad 29), .int x1] σ τ η rr.1 σ rr.2 η := by
  refine mk_i (own := RX8) (lv := [(0, .ref (ad 29)), (1, .int x1)]) (plainFor_of_name (by decide)) rfl (Nat.le_of_ble_eq_true rfl) rfl ?_
  intro p e s m args below meth c Q ls hx hb hml hown htb hK ret hP hS hl
  unfold X8_latest at h
  refine lv_aload_n hx hb dX8_latest_0 rfl (lv_at hl 0 rfl) ?_
  refine lv_iload_n hx hb dX8_latest_1 rfl (lv_at hl 1 rfl) ?_
  obtain ⟨v1, g1, h⟩ := ol h
  refine c_Vz (q := (RX8, TX8, 27)) (ci := 8) (b := 29) (As := [.int x1]) (rest := []) (A := AA ad) ⟨hx, hb, hml, hown, htb⟩ (c_X8_isGuest l D ad cI hd σ τ η x1 v1 g1) (cwV 1 htb (gdV (fun _ hh => hh) wML_RX8_88 wIM_yX8_isGuest wSE_yX8_isGuest wI_RX8 wC_yX8_isGuest) rfl rfl rfl hd_X8_isGuest ⟨by decide, by decide⟩) hK hP rfl w_29 (fun _ hh => hh) hS rfl hl.1 rfl (Nat.le_of_ble_eq_true rfl) dX8_latest_2 ⟨Nat.le_refl 0, Nat.le_refl 0⟩ (fun H locs hz1 hP hS => ?_)
  refine lv_if_eq (tgt := 16) hx hb dX8_latest_5 (by decide) (fun c2 => ?_) (fun c2 => ?_)
  · replace h := ip c2 h
    refine lv_bipush (v := (-101 : Int32)) hx hb dX8_latest_16 (by decide) ?_
    obtain rfl := Option.some.inj h
    exact ret _ _ _ _ _ dX8_latest_18 hP hS rfl
  · replace h := iq c2 h
    refine lv_aload_n hx hb dX8_latest_8 rfl (lv_at hl 0 rfl) ?_
    refine lv_iload_n hx hb dX8_latest_9 rfl (lv_at hl 1 rfl) ?_
    obtain ⟨v3, g3, h⟩ := ob h
    refine c_Vi (q := (RX8, TX8, 27)) (ci := 8) (b := 29) (As := [.int x1]) (rest := []) (A := AA ad) ⟨hx, hb, hml, hown, htb⟩ (c_X8_latestOf l D ad cI hd σ τ η x1 v3 g3) (cwV 1 htb (gdV (fun _ hh => hh) wML_RX8_172 wIM_yX8_latestOf wSE_yX8_latestOf wI_RX8 wC_yX8_latestOf) rfl rfl rfl hd_X8_latestOf ⟨by decide, by decide⟩) hK hP rfl w_29 (fun _ hh => hh) hS rfl hl.1 rfl (Nat.le_of_ble_eq_true rfl) dX8_latest_10 ⟨Nat.le_refl 0, Nat.le_refl 0⟩ (fun H locs hP hS => ?_)
    refine lv_goto (tgt := 18) hx hb dX8_latest_13 (by decide) ?_
    obtain rfl := Option.some.inj h
    exact ret _ _ _ _ _ dX8_latest_18 hP hS rfl
def X5_isSet  (x0 : Int32) : Int32 :=
  if x0 < 0 then (
    (0 : Int32))
  else (
    if (512 : Int32) ≤ x0 then (
      (0 : Int32))
    else (
      (1 : Int32)))
abbrev rmX5_isSet : Room := { frames := 0, cells := 0, slots := 0, locals := 0 }
set_option maxHeartbeats 4000000 in
set_option maxRecDepth 100000 in
theorem c_X5_isSet (l : Launch) (D : va_G) (ad : Nat → Nat) (cI : ClassId) (hd : HD ad) (σ τ : St) (η : Int64) (x0 : Int32) (rr : Int32) (h : X5_isSet  x0 = rr) : MZ l yX5_isSet (wy yX5_isSet cX5_isSet 1 (some .boolean)) rmX5_isSet D ad cI [.int x0] σ τ η rr σ τ η := by
  refine mk_z (own := RX5) (lv := [(0, .int x0)]) (plainFor_of_name (by decide)) rfl (Nat.le_of_ble_eq_true rfl) rfl ?_
  intro p e s m args below meth c Q ls hx hb hml hown htb hK ret hP hS hl
  unfold X5_isSet at h
  refine lv_iload_n hx hb dX5_isSet_0 rfl (lv_at hl 0 rfl) ?_
  refine lv_if_lt (tgt := 15) hx hb dX5_isSet_1 (by decide) (fun c1 => ?_) (fun c1 => ?_)
  · replace h := ip c1 h
    refine lv_iconst (v := (0 : Int32)) hx hb dX5_isSet_15 (by decide) ?_
    subst h
    exact ret _ _ _ _ _ dX5_isSet_16 hP hS rfl (by first | exact Or.inl rfl | exact Or.inr rfl | assumption)
  · replace h := iq c1 h
    refine lv_iload_n hx hb dX5_isSet_4 rfl (lv_at hl 0 rfl) ?_
    refine lv_sipush (v := (512 : Int32)) hx hb dX5_isSet_5 (by decide) ?_
    refine lv_icmp_ge (tgt := 15) hx hb dX5_isSet_8 (by decide) (fun c2 => ?_) (fun c2 => ?_)
    · replace h := ip c2 h
      refine lv_iconst (v := (0 : Int32)) hx hb dX5_isSet_15 (by decide) ?_
      subst h
      exact ret _ _ _ _ _ dX5_isSet_16 hP hS rfl (by first | exact Or.inl rfl | exact Or.inr rfl | assumption)
    · replace h := iq c2 h
      refine lv_iconst (v := (1 : Int32)) hx hb dX5_isSet_11 (by decide) ?_
      refine lv_goto (tgt := 16) hx hb dX5_isSet_12 (by decide) ?_
      subst h
      exact ret _ _ _ _ _ dX5_isSet_16 hP hS rfl (by first | exact Or.inl rfl | exact Or.inr rfl | assumption)
def X5_add (σ : St) (x1 : Int32) : Option (Int32 × St) :=
  if (σ 15 2) < (8 : Int32) then (
    bd (wa σ 16 8 (σ 15 2) x1) fun σ2 =>
    lt (s2 σ2 15 2 ((σ2 15 2) + (1 : Int32))) fun σ3 =>
    some (((σ3 15 2) - (1 : Int32)), σ3))
  else (
    some ((-104 : Int32), σ))
abbrev rmX5_add : Room := { frames := 0, cells := 0, slots := 0, locals := 0 }
set_option maxHeartbeats 4000000 in
set_option maxRecDepth 100000 in
theorem c_X5_add (l : Launch) (D : va_G) (ad : Nat → Nat) (cI : ClassId) (hd : HD ad) (σ τ : St) (η : Int64) (x1 : Int32) (rr : Int32 × St) (h : X5_add σ x1 = some rr) : MI l yX5_add (wy yX5_add cX5_add 2 (some .int)) rmX5_add D ad cI [.ref (ad 15), .int x1] σ τ η rr.1 rr.2 τ η := by
  refine mk_i (own := RX5) (lv := [(0, .ref (ad 15)), (1, .int x1)]) (plainFor_of_name (by decide)) rfl (Nat.le_of_ble_eq_true rfl) rfl ?_
  intro p e s m args below meth c Q ls hx hb hml hown htb hK ret hP hS hl
  unfold X5_add at h
  refine lv_aload_n hx hb dX5_add_0 rfl (lv_at hl 0 rfl) ?_
  refine va_get (D := D) (ci := 5) (v := .int (σ 15 2)) (C := RX5) (T := TX5) (N := 3) hx hb htb wu_5 hown hK.1 hP 15 w_15 rfl 2 (by decide) (htb _ wFL_RX5_18) (fun _ h9 => h9) rfl dX5_add_1 ?_
  refine lv_bipush (v := (8 : Int32)) hx hb dX5_add_4 (by decide) ?_
  refine lv_icmp_lt (tgt := 12) hx hb dX5_add_6 (by decide) (fun c1 => ?_) (fun c1 => ?_)
  · replace h := ip c1 h
    refine lv_aload_n hx hb dX5_add_12 rfl (lv_at hl 0 rfl) ?_
    refine va_get (D := D) (ci := 5) (v := .ref (ad 16)) (C := RX5) (T := TX5) (N := 3) hx hb htb wu_5 hown hK.1 hP 15 w_15 rfl 0 (by decide) (htb _ wFL_RX5_11) (fun _ h9 => h9) rfl dX5_add_13 ?_
    refine lv_aload_n hx hb dX5_add_16 rfl (lv_at hl 0 rfl) ?_
    refine va_get (D := D) (ci := 5) (v := .int (σ 15 2)) (C := RX5) (T := TX5) (N := 3) hx hb htb wu_5 hown hK.1 hP 15 w_15 rfl 2 (by decide) (htb _ wFL_RX5_18) (fun _ h9 => h9) rfl dX5_add_17 ?_
    refine lv_iload_n hx hb dX5_add_20 rfl (lv_at hl 1 rfl) ?_
    obtain ⟨σ2, g2, h⟩ := ob h
    refine r_astC (A := AA ad) hx hb hK hd (fun _ hh => hh) hP hS 16 8 (by decide) (fun _ => rfl) g2 dX5_add_21 (fun H locs hP hS => ?_)
    refine lv_aload_n hx hb dX5_add_22 rfl (lv_at hl 0 rfl) ?_
    refine lv_dup hx hb dX5_add_23 rfl ?_
    refine va_get (D := D) (ci := 5) (v := .int (σ2 15 2)) (C := RX5) (T := TX5) (N := 3) hx hb htb wu_5 hown hK.1 hP 15 w_15 rfl 2 (by decide) (htb _ wFL_RX5_18) (fun _ h9 => h9) rfl dX5_add_24 ?_
    refine lv_iconst (v := (1 : Int32)) hx hb dX5_add_27 (by decide) ?_
    refine lv_iadd hx hb dX5_add_28 ?_
    obtain ⟨σ3, g3, h⟩ := ol h
    refine r_putC (ci := 5) (C := RX5) (T := TX5) (N := 3) (A := AA ad) hx hb htb wu_5 tyX5 tyX5_ok nmX5 hown hK hd (fun _ hh => hh) hP hS 15 (by decide) 2 rfl rfl rfl (by decide) (htb _ wFL_RX5_18) rfl rfl (by decide +kernel) (Nat.le_of_ble_eq_true rfl) dX5_add_29 (fun H locs hP hS => ?_)
    rw [g3] at hP
    refine lv_aload_n hx hb dX5_add_32 rfl (lv_at hl 0 rfl) ?_
    refine va_get (D := D) (ci := 5) (v := .int (σ3 15 2)) (C := RX5) (T := TX5) (N := 3) hx hb htb wu_5 hown hK.1 hP 15 w_15 rfl 2 (by decide) (htb _ wFL_RX5_18) (fun _ h9 => h9) rfl dX5_add_33 ?_
    refine lv_iconst (v := (1 : Int32)) hx hb dX5_add_36 (by decide) ?_
    refine lv_isub hx hb dX5_add_37 ?_
    obtain rfl := Option.some.inj h
    exact ret _ _ _ _ _ dX5_add_38 hP hS rfl
  · replace h := iq c1 h
    refine lv_bipush (v := (-104 : Int32)) hx hb dX5_add_9 (by decide) ?_
    obtain rfl := Option.some.inj h
    exact ret _ _ _ _ _ dX5_add_11 hP hS rfl
def X7_story (σ : St) (x1 : Int32) : Option (Int32 × St) :=
  lt (X5_isSet  x1) fun v1 =>
  if v1 = 0 then (
    some ((-102 : Int32), σ))
  else (
    bd (X5_add σ x1) fun v3 =>
    some (v3.1, v3.2))
abbrev rmX7_story : Room := { frames := 1, cells := 0, slots := 0, locals := 21 }
set_option maxHeartbeats 4000000 in
set_option maxRecDepth 100000 in
theorem c_X7_story (l : Launch) (D : va_G) (ad : Nat → Nat) (cI : ClassId) (hd : HD ad) (σ τ : St) (η : Int64) (x1 : Int32) (rr : Int32 × St) (h : X7_story σ x1 = some rr) : MI l yX7_story (wy yX7_story cX7_story 2 (some .int)) rmX7_story D ad cI [.ref (ad 0), .int x1] σ τ η rr.1 rr.2 τ η := by
  refine mk_i (own := RX7) (lv := [(0, .ref (ad 0)), (1, .int x1)]) (plainFor_of_name (by decide)) rfl (Nat.le_of_ble_eq_true rfl) rfl ?_
  intro p e s m args below meth c Q ls hx hb hml hown htb hK ret hP hS hl
  unfold X7_story at h
  refine lv_iload_n hx hb dX7_story_0 rfl (lv_at hl 1 rfl) ?_
  obtain ⟨v1, g1, h⟩ := ol h
  refine c_Sz (As := [.int x1]) (rest := []) (A := AA ad) ⟨hx, hb, hml, hown, htb⟩ (c_X5_isSet l D ad cI hd σ τ η x1 v1 g1) (va_cwS 1 htb (gdS (fun _ hh => hh) wML_RX7_220 wST_yX5_isSet wI_RX5 wC_yX5_isSet) rfl rfl rfl hd_X5_isSet.2 ⟨by decide, by decide⟩) hK hP (fun _ hh => hh) hS rfl hl.1 rfl (Nat.le_of_ble_eq_true rfl) dX7_story_1 ⟨Nat.le_refl 0, Nat.le_refl 0⟩ (fun H locs hz1 hP hS => ?_)
  refine lv_if_ne (tgt := 10) hx hb dX7_story_4 (by decide) (fun c2 => ?_) (fun c2 => ?_)
  · replace h := iq c2 h
    refine lv_aload_n hx hb dX7_story_10 rfl (lv_at hl 0 rfl) ?_
    refine va_get (D := D) (ci := 7) (v := .ref (ad 15)) (C := RX7) (T := TX7) (N := 11) hx hb htb wu_7 hown hK.1 hP 0 w_0 rfl 4 (by decide) (htb _ wFL_RX7_40) (fun _ h9 => h9) rfl dX7_story_11 ?_
    refine lv_iload_n hx hb dX7_story_14 rfl (lv_at hl 1 rfl) ?_
    obtain ⟨v3, g3, h⟩ := ob h
    refine c_Vi (q := (RX5, TX5, 3)) (ci := 5) (b := 15) (As := [.int x1]) (rest := []) (A := AA ad) ⟨hx, hb, hml, hown, htb⟩ (c_X5_add l D ad cI hd σ τ η x1 v3 g3) (cwV 1 htb (gdV (fun _ hh => hh) wML_RX7_223 wIM_yX5_add wSE_yX5_add wI_RX5 wC_yX5_add) rfl rfl rfl hd_X5_add ⟨by decide, by decide⟩) hK hP rfl w_15 (fun _ hh => hh) hS rfl hl.1 rfl (Nat.le_of_ble_eq_true rfl) dX7_story_15 ⟨Nat.le_refl 0, Nat.le_refl 0⟩ (fun H locs hP hS => ?_)
    obtain rfl := Option.some.inj h
    exact ret _ _ _ _ _ dX7_story_18 hP hS rfl
  · replace h := ip c2 h
    refine lv_bipush (v := (-102 : Int32)) hx hb dX7_story_7 (by decide) ?_
    obtain rfl := Option.some.inj h
    exact ret _ _ _ _ _ dX7_story_9 hP hS rfl
def X8_story (τ : St) (x1 : Int32) : Option (Int32 × St) :=
  lt (X8_in  ((x1).toInt64) (0 : Int64) (511 : Int64)) fun v1 =>
  if v1 = 0 then (
    some ((-102 : Int32), τ))
  else (
    if (τ 29 15) = (8 : Int32) then (
      some ((-104 : Int32), τ))
    else (
      bd (wa τ 40 8 (τ 29 15) x1) fun τ4 =>
      lt (s2 τ4 29 15 ((τ4 29 15) + (1 : Int32))) fun τ5 =>
      some (((τ5 29 15) - (1 : Int32)), τ5)))
abbrev rmX8_story : Room := { frames := 1, cells := 0, slots := 0, locals := 25 }
set_option maxHeartbeats 4000000 in
set_option maxRecDepth 100000 in
theorem c_X8_story (l : Launch) (D : va_G) (ad : Nat → Nat) (cI : ClassId) (hd : HD ad) (σ τ : St) (η : Int64) (x1 : Int32) (rr : Int32 × St) (h : X8_story τ x1 = some rr) : MI l yX8_story (wy yX8_story cX8_story 2 (some .int)) rmX8_story D ad cI [.ref (ad 29), .int x1] σ τ η rr.1 σ rr.2 η := by
  refine mk_i (own := RX8) (lv := [(0, .ref (ad 29)), (1, .int x1)]) (plainFor_of_name (by decide)) rfl (Nat.le_of_ble_eq_true rfl) rfl ?_
  intro p e s m args below meth c Q ls hx hb hml hown htb hK ret hP hS hl
  unfold X8_story at h
  refine lv_iload_n hx hb dX8_story_0 rfl (lv_at hl 1 rfl) ?_
  refine lv_i2l (v := ((x1).toInt64)) hx hb dX8_story_1 rfl ?_
  refine lv_lconst (v := (0 : Int64)) hx hb dX8_story_2 rfl ?_
  refine lv_ldc2 (v := (511 : Int64)) hx hb hown (htb _ wKL_RX8_175) dX8_story_3 ?_
  obtain ⟨v1, g1, h⟩ := ol h
  refine c_Sz (As := [.long ((x1).toInt64), .long (0 : Int64), .long (511 : Int64)]) (rest := []) (A := AA ad) ⟨hx, hb, hml, hown, htb⟩ (c_X8_in l D ad cI hd σ τ η ((x1).toInt64) (0 : Int64) (511 : Int64) v1 g1) (va_cwS 3 htb (gdS (fun _ hh => hh) wML_RX8_65 wST_yX8_in wI_RX8 wC_yX8_in) rfl rfl rfl hd_X8_in.2 ⟨by decide, by decide⟩) hK hP (fun _ hh => hh) hS rfl hl.1 rfl (Nat.le_of_ble_eq_true rfl) dX8_story_6 ⟨Nat.le_refl 0, Nat.le_refl 0⟩ (fun H locs hz1 hP hS => ?_)
  refine lv_if_ne (tgt := 15) hx hb dX8_story_9 (by decide) (fun c2 => ?_) (fun c2 => ?_)
  · replace h := iq c2 h
    refine lv_aload_n hx hb dX8_story_15 rfl (lv_at hl 0 rfl) ?_
    refine va_get (D := D) (ci := 8) (v := .int (τ 29 15)) (C := RX8) (T := TX8) (N := 27) hx hb htb wu_8 hown hK.1 hP 29 w_29 rfl 15 (by decide) (htb _ wFL_RX8_177) (fun _ h9 => h9) rfl dX8_story_16 ?_
    refine lv_bipush (v := (8 : Int32)) hx hb dX8_story_19 (by decide) ?_
    refine lv_icmp_ne (tgt := 27) hx hb dX8_story_21 (by decide) (fun c3 => ?_) (fun c3 => ?_)
    · replace h := iq c3 h
      refine lv_aload_n hx hb dX8_story_27 rfl (lv_at hl 0 rfl) ?_
      refine va_get (D := D) (ci := 8) (v := .ref (ad 40)) (C := RX8) (T := TX8) (N := 27) hx hb htb wu_8 hown hK.1 hP 29 w_29 rfl 16 (by decide) (htb _ wFL_RX8_40) (fun _ h9 => h9) rfl dX8_story_28 ?_
      refine lv_aload_n hx hb dX8_story_31 rfl (lv_at hl 0 rfl) ?_
      refine va_get (D := D) (ci := 8) (v := .int (τ 29 15)) (C := RX8) (T := TX8) (N := 27) hx hb htb wu_8 hown hK.1 hP 29 w_29 rfl 15 (by decide) (htb _ wFL_RX8_177) (fun _ h9 => h9) rfl dX8_story_32 ?_
      refine lv_iload_n hx hb dX8_story_35 rfl (lv_at hl 1 rfl) ?_
      obtain ⟨τ4, g4, h⟩ := ob h
      refine r_astM (A := AA ad) hx hb hK hd (fun _ hh => hh) hP hS 40 8 (by decide) (fun _ => rfl) g4 dX8_story_36 (fun H locs hP hS => ?_)
      refine lv_aload_n hx hb dX8_story_37 rfl (lv_at hl 0 rfl) ?_
      refine lv_dup hx hb dX8_story_38 rfl ?_
      refine va_get (D := D) (ci := 8) (v := .int (τ4 29 15)) (C := RX8) (T := TX8) (N := 27) hx hb htb wu_8 hown hK.1 hP 29 w_29 rfl 15 (by decide) (htb _ wFL_RX8_177) (fun _ h9 => h9) rfl dX8_story_39 ?_
      refine lv_iconst (v := (1 : Int32)) hx hb dX8_story_42 (by decide) ?_
      refine lv_iadd hx hb dX8_story_43 ?_
      obtain ⟨τ5, g5, h⟩ := ol h
      refine r_putM (ci := 8) (C := RX8) (T := TX8) (N := 27) (A := AA ad) hx hb htb wu_8 tyX8 tyX8_ok nmX8 hown hK hd (fun _ hh => hh) hP hS 15 rfl rfl rfl (by decide) (htb _ wFL_RX8_177) rfl rfl (by decide +kernel) (Nat.le_of_ble_eq_true rfl) dX8_story_44 (fun H locs hP hS => ?_)
      rw [g5] at hP
      refine lv_aload_n hx hb dX8_story_47 rfl (lv_at hl 0 rfl) ?_
      refine va_get (D := D) (ci := 8) (v := .int (τ5 29 15)) (C := RX8) (T := TX8) (N := 27) hx hb htb wu_8 hown hK.1 hP 29 w_29 rfl 15 (by decide) (htb _ wFL_RX8_177) (fun _ h9 => h9) rfl dX8_story_48 ?_
      refine lv_iconst (v := (1 : Int32)) hx hb dX8_story_51 (by decide) ?_
      refine lv_isub hx hb dX8_story_52 ?_
      obtain rfl := Option.some.inj h
      exact ret _ _ _ _ _ dX8_story_53 hP hS rfl
    · replace h := ip c3 h
      refine lv_bipush (v := (-104 : Int32)) hx hb dX8_story_24 (by decide) ?_
      obtain rfl := Option.some.inj h
      exact ret _ _ _ _ _ dX8_story_26 hP hS rfl
  · replace h := ip c2 h
    refine lv_bipush (v := (-102 : Int32)) hx hb dX8_story_12 (by decide) ?_
    obtain rfl := Option.some.inj h
    exact ret _ _ _ _ _ dX8_story_14 hP hS rfl
def X5_has (σ : St) (x1 : Int32) : Int32 :=
  if x1 < 0 then (
    (0 : Int32))
  else (
    if (σ 15 2) ≤ x1 then (
      (0 : Int32))
    else (
      (1 : Int32)))
abbrev rmX5_has : Room := { frames := 0, cells := 0, slots := 0, locals := 0 }
set_option maxHeartbeats 4000000 in
set_option maxRecDepth 100000 in
theorem c_X5_has (l : Launch) (D : va_G) (ad : Nat → Nat) (cI : ClassId) (hd : HD ad) (σ τ : St) (η : Int64) (x1 : Int32) (rr : Int32) (h : X5_has σ x1 = rr) : MZ l yX5_has (wy yX5_has cX5_has 2 (some .boolean)) rmX5_has D ad cI [.ref (ad 15), .int x1] σ τ η rr σ τ η := by
  refine mk_z (own := RX5) (lv := [(0, .ref (ad 15)), (1, .int x1)]) (plainFor_of_name (by decide)) rfl (Nat.le_of_ble_eq_true rfl) rfl ?_
  intro p e s m args below meth c Q ls hx hb hml hown htb hK ret hP hS hl
  unfold X5_has at h
  refine lv_iload_n hx hb dX5_has_0 rfl (lv_at hl 1 rfl) ?_
  refine lv_if_lt (tgt := 16) hx hb dX5_has_1 (by decide) (fun c1 => ?_) (fun c1 => ?_)
  · replace h := ip c1 h
    refine lv_iconst (v := (0 : Int32)) hx hb dX5_has_16 (by decide) ?_
    subst h
    exact ret _ _ _ _ _ dX5_has_17 hP hS rfl (by first | exact Or.inl rfl | exact Or.inr rfl | assumption)
  · replace h := iq c1 h
    refine lv_iload_n hx hb dX5_has_4 rfl (lv_at hl 1 rfl) ?_
    refine lv_aload_n hx hb dX5_has_5 rfl (lv_at hl 0 rfl) ?_
    refine va_get (D := D) (ci := 5) (v := .int (σ 15 2)) (C := RX5) (T := TX5) (N := 3) hx hb htb wu_5 hown hK.1 hP 15 w_15 rfl 2 (by decide) (htb _ wFL_RX5_18) (fun _ h9 => h9) rfl dX5_has_6 ?_
    refine lv_icmp_ge (tgt := 16) hx hb dX5_has_9 (by decide) (fun c2 => ?_) (fun c2 => ?_)
    · replace h := ip c2 h
      refine lv_iconst (v := (0 : Int32)) hx hb dX5_has_16 (by decide) ?_
      subst h
      exact ret _ _ _ _ _ dX5_has_17 hP hS rfl (by first | exact Or.inl rfl | exact Or.inr rfl | assumption)
    · replace h := iq c2 h
      refine lv_iconst (v := (1 : Int32)) hx hb dX5_has_12 (by decide) ?_
      refine lv_goto (tgt := 17) hx hb dX5_has_13 (by decide) ?_
      subst h
      exact ret _ _ _ _ _ dX5_has_17 hP hS rfl (by first | exact Or.inl rfl | exact Or.inr rfl | assumption)
def X5_clashesOf (σ : St) (x1 : Int32) : Option (Int32) :=
  lt (X5_has σ x1) fun v1 =>
  if v1 = 0 then (
    some (0 : Int32))
  else (
    bd (rd (σ 17) 8 x1) fun v3 =>
    some v3)
abbrev rmX5_clashesOf : Room := { frames := 1, cells := 0, slots := 0, locals := 21 }
set_option maxHeartbeats 4000000 in
set_option maxRecDepth 100000 in
theorem c_X5_clashesOf (l : Launch) (D : va_G) (ad : Nat → Nat) (cI : ClassId) (hd : HD ad) (σ τ : St) (η : Int64) (x1 : Int32) (rr : Int32) (h : X5_clashesOf σ x1 = some rr) : MI l yX5_clashesOf (wy yX5_clashesOf cX5_clashesOf 2 (some .int)) rmX5_clashesOf D ad cI [.ref (ad 15), .int x1] σ τ η rr σ τ η := by
  refine mk_i (own := RX5) (lv := [(0, .ref (ad 15)), (1, .int x1)]) (plainFor_of_name (by decide)) rfl (Nat.le_of_ble_eq_true rfl) rfl ?_
  intro p e s m args below meth c Q ls hx hb hml hown htb hK ret hP hS hl
  unfold X5_clashesOf at h
  refine lv_aload_n hx hb dX5_clashesOf_0 rfl (lv_at hl 0 rfl) ?_
  refine lv_iload_n hx hb dX5_clashesOf_1 rfl (lv_at hl 1 rfl) ?_
  obtain ⟨v1, g1, h⟩ := ol h
  refine c_Vz (q := (RX5, TX5, 3)) (ci := 5) (b := 15) (As := [.int x1]) (rest := []) (A := AA ad) ⟨hx, hb, hml, hown, htb⟩ (c_X5_has l D ad cI hd σ τ η x1 v1 g1) (cwV 1 htb (gdV (fun _ hh => hh) wML_RX5_24 wIM_yX5_has wSE_yX5_has wI_RX5 wC_yX5_has) rfl rfl rfl hd_X5_has ⟨by decide, by decide⟩) hK hP rfl w_15 (fun _ hh => hh) hS rfl hl.1 rfl (Nat.le_of_ble_eq_true rfl) dX5_clashesOf_2 ⟨Nat.le_refl 0, Nat.le_refl 0⟩ (fun H locs hz1 hP hS => ?_)
  refine lv_if_eq (tgt := 17) hx hb dX5_clashesOf_5 (by decide) (fun c2 => ?_) (fun c2 => ?_)
  · replace h := ip c2 h
    refine lv_iconst (v := (0 : Int32)) hx hb dX5_clashesOf_17 (by decide) ?_
    obtain rfl := Option.some.inj h
    exact ret _ _ _ _ _ dX5_clashesOf_18 hP hS rfl
  · replace h := iq c2 h
    refine lv_aload_n hx hb dX5_clashesOf_8 rfl (lv_at hl 0 rfl) ?_
    refine va_get (D := D) (ci := 5) (v := .ref (ad 17)) (C := RX5) (T := TX5) (N := 3) hx hb htb wu_5 hown hK.1 hP 15 w_15 rfl 1 (by decide) (htb _ wFL_RX5_15) (fun _ h9 => h9) rfl dX5_clashesOf_9 ?_
    refine lv_iload_n hx hb dX5_clashesOf_12 rfl (lv_at hl 1 rfl) ?_
    obtain ⟨v3, g3, h⟩ := ob h
    refine r_ald hx hb hK hP 17 w_17 g3 dX5_clashesOf_13 ?_
    refine lv_goto (tgt := 18) hx hb dX5_clashesOf_14 (by decide) ?_
    obtain rfl := Option.some.inj h
    exact ret _ _ _ _ _ dX5_clashesOf_18 hP hS rfl
