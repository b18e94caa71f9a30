/-! best -/
theorem sim_best : Sim_best Inv := by
  intro σ τ x1 I
  obtain ⟨n, kd, by_, td, S, J⟩ := id I
  obtain ⟨hQ, hC, hG, hW, hP, ⟨mt, mg, md, me, m15, z1, z2, hM⟩, hS, hZ, hK, h09, ⟨k, k40, k1, k2⟩⟩ := id J
  have h9 := hQ.1
  have hh := hm_e hC.1 h9 hC.2.2.1 hQ.2.1
  obtain ⟨w, n1, n2⟩ := nmy_e hG.1 h9 hG.2.1 hQ.2.1
  have hle := ct_le (nd n kd) n
  have J1 : IA σ (va_up τ 39 w) n kd by_ td S := IA_M (fun c _ _ _ _ a5 => vu_c a5) (fun k _ => by rw [vu_c (by decide)]) J
  have c0 : X7_isPart x1 = X8_isPart x1 := (part_e x1).trans (partM_e x1).symm
  have hv2 : (if x1 < (10 : Int32) then (0 : Int32) else if (19 : Int32) ≤ x1 then 0 else 1) = if 10 ≤ x1.toInt ∧ x1.toInt ≤ 18 then 1 else 0 := by
    have h := two_e x1 10 18
    rw [← show (if (10 : Int32).toInt ≤ x1.toInt ∧ x1.toInt ≤ (18 : Int32).toInt then (1 : Int32) else 0) = (if 10 ≤ x1.toInt ∧ x1.toInt ≤ 18 then 1 else 0) from rfl, ← h]
    have e : ((19 : Int32) ≤ x1) = ((18 : Int32) < x1) := by
      rw [Int32.lt_iff_toInt_lt, Int32.le_iff_toInt_le]
      apply propext
      show (19 : Int) ≤ _ ↔ (18 : Int) < _
      omega
    simp only [e]
  unfold X7_best X8_best
  simp only [lt_e]
  rw [hv2, c0, partM_e, in_e, l10, l18, hh, n1, bd_s, bd_s]
  -- what both do when a plan is laid
  have main : ct (nd n kd) n ≤ 4 → k < 40 → ∃ σ1 τ1, X7_planBest (s2 σ 0 10 (σ 0 10 + 1)) = some σ1 ∧ X8_layBest (s2 (va_up τ 39 w) 29 11 (va_up τ 39 w 29 11 + 1)) (nI (ct (nd n kd) n)) = some (lN (Wm n kd S mg md me mt (ps n kd by_ mg md me mt n)), τ1) ∧ IA σ1 τ1 n kd by_ td S ∧ σ1 1 5 = nI n ∧ τ1 29 0 = nI n ∧ τ1 29 8 = nI mt ∧ (∀ j, j < n → σ1 26 j = nI (ps n kd by_ mg md me mt n j)) ∧ (∀ j, j < 9 → τ1 38 j = nI (ps n kd by_ mg md me mt n j)) ∧ EC σ1 (s2 σ 0 10 (σ 0 10 + 1)) := fun h4 hk => by
    obtain ⟨σ1, e1, e2, e3⟩ := pb_e (σ := s2 σ 0 10 (σ 0 10 + 1)) (τ := τ) hQ hC m15 z1 hM
    obtain ⟨τ1, e4, e5, e6⟩ := lb_e (τ := s2 (va_up τ 39 w) 29 11 (va_up τ 39 w 29 11 + 1)) (K := ct (nd n kd) n) (c1 := σ 11) (c2 := σ 12) (c3 := σ 13) (c4 := σ 14) hQ hG m15 z2 hM h4 rfl n2
    have K0 : IA (s2 σ 0 10 (σ 0 10 + 1)) (s2 (va_up τ 39 w) 29 11 (va_up τ 39 w 29 11 + 1)) n kd by_ td S := by
      refine ⟨hQ, hC, hG, hW, hP, ⟨mt, mg, md, me, m15, z1, z2, hM⟩, hS, hZ, hK, h09, ⟨k + 1, by omega, ?_, ?_⟩⟩
      · show σ 0 10 + 1 = _
        rw [k1]
        exact nI_1 k
      · show τ 29 11 + 1 = _
        rw [k2]
        exact nI_1 k
    have K1 : IA σ1 τ1 n kd by_ td S := IA_C e2 (IA_M (fun c _ a2 a3 a4 _ => e5 c a2 a3 a4) (fun j _ => by rw [e5 29 (by decide) (by decide) (by decide)]) K0)
    refine ⟨σ1, τ1, e1, e4, K1, ?_, ?_, ?_, e3, e6, e2⟩
    · rw [e2 1 (by decide) (by decide)]; exact hC.1
    · rw [e5 29 (by decide) (by decide) (by decide)]; exact hG.1
    · rw [e5 29 (by decide) (by decide) (by decide)]; exact z2
  have b1 : (σ 0 10 < (40 : Int32)) ↔ k < 40 := by rw [k1]; exact nI_ltI (b := 40) (by omega) (by omega)
  have b2 : (va_up τ 39 w 29 11 = (40 : Int32)) ↔ k = 40 := by
    show (τ 29 11 = (40 : Int32)) ↔ _
    rw [k2]
    exact nI_eq (b := 40) (by omega) (by omega)
  have b3 : ((4 : Int32) < nI (ct (nd n kd) n)) ↔ 4 < ct (nd n kd) n := nI_ltI (a := 4) (by omega) (by omega)
  by_cases p1 : 0 ≤ x1.toInt ∧ x1.toInt ≤ 1
  · rw [if_pos p1, if_neg one0, if_neg one0, if_neg (show ¬ (10 ≤ x1.toInt ∧ x1.toInt ≤ 18) by omega)]
    by_cases h4 : 4 < ct (nd n kd) n
    · rw [if_pos (b3.mpr h4), if_pos (b3.mpr h4)]
      exact ⟨-103, σ, va_up τ 39 w, rfl, rfl, n, kd, by_, td, S, J1⟩
    · rw [if_neg (fun z => h4 (b3.mp z)), if_neg (fun z => h4 (b3.mp z))]
      by_cases hk : k < 40
      · obtain ⟨σ1, τ1, e1, e2, e3, y1, y2, y3, y4, y5, y6⟩ := main (by omega) hk
        have hx2 : ¬ (2 : Int32) ≤ x1 := fun z => by
          have := Int32.le_iff_toInt_le.mp z
          rw [show (2 : Int32).toInt = 2 from rfl] at this
          omega
        obtain ⟨u, e4⟩ := planEC (σ' := σ1) (σ := s2 σ 0 10 (σ 0 10 + 1)) (τ := τ) (p := ps n kd by_ mg md me mt n) hQ hC m15 z1 hM y6 y4 (fun j => ps_8 hQ j) (fun j hj => ps_0 (nd_out hj))
        have hle2 := wm_le n kd S mg md me mt (ps n kd by_ mg md me mt n)
        have h15 := ten15 m15
        have hp : 0 < 10 ^ mt := Nat.pow_pos (by decide)
        obtain ⟨r, t1, t2⟩ := low_e (a := 10 ^ mt - Wm n kd S mg md me mt (ps n kd by_ mg md me mt n)) (b := 10 ^ mt) (by omega) hp (by omega) x1
        have e5 : X7_knownPart (va_up σ1 28 u) (lN (Wm n kd S mg md me mt (ps n kd by_ mg md me mt n))) x1 = some r := by
          unfold X7_knownPart
          rw [all_e (σ := va_up σ1 28 u) m15 (by rw [vu_c (by decide), y6 10 (by decide) (by decide)]; exact z1), bd_s, lN_sub hle2, t1, bd_s]
        rw [if_pos (b1.mpr hk), if_neg (fun z => by have := b2.mp z; omega), e1, e2, bd_s, bd_s, if_pos rfl, if_neg hx2, e4, bd_s]
        dsimp only
        rw [e5, bd_s, wh_e m15 y3, bd_s, bd_s, lN_sub hle2, t2, bd_s]
        exact ⟨r, va_up σ1 28 u, τ1, rfl, rfl, n, kd, by_, td, S, IA_C (fun c _ a2 => vu_c a2) e3⟩
      · rw [if_neg (fun z => hk (b1.mp z)), if_pos (b2.mpr (by omega))]
        exact ⟨-103, σ, va_up τ 39 w, rfl, rfl, n, kd, by_, td, S, J1⟩
  · rw [if_neg p1, if_pos rfl, if_pos rfl]
    by_cases p2 : 10 ≤ x1.toInt ∧ x1.toInt ≤ 18
    · rw [if_pos p2, if_neg one0, if_neg one0]
      by_cases h4 : 4 < ct (nd n kd) n
      · rw [if_pos (b3.mpr h4), if_pos (b3.mpr h4)]
        exact ⟨-103, σ, va_up τ 39 w, rfl, rfl, n, kd, by_, td, S, J1⟩
      · rw [if_neg (fun z => h4 (b3.mp z)), if_neg (fun z => h4 (b3.mp z))]
        by_cases hk : k < 40
        · obtain ⟨σ1, τ1, e1, e2, e3, y1, y2, y3, y4, y5, y6⟩ := main (by omega) hk
          have hx2 : (2 : Int32) ≤ x1 := Int32.le_iff_toInt_le.mpr (by rw [show (2 : Int32).toInt = 2 from rfl]; omega)
          obtain ⟨t, t1, t2, t3⟩ := of_rng (x := x1) (lo := 10) (hi := 18) (by omega) p2.1 p2.2
          have hx3 : x1 - (10 : Int32) = nI (t - 10) := by
            rw [t3]
            exact pk_sub (b := 10) t1
          rw [if_pos (b1.mpr hk), if_neg (fun z => by have := b2.mp z; omega), e1, e2, bd_s, bd_s, if_neg one0, if_pos hx2, hx3]
          dsimp only
          rw [hasC y1 h9, hasM y2 h9, toI_n (by omega)]
          by_cases c : t - 10 < n
          · rw [if_pos (show (0 : Int) ≤ ((t - 10 : Nat) : Int) ∧ ((t - 10 : Nat) : Int) < n by omega), if_neg one0, if_neg one0, rd_n (by omega) (by omega), bd_s, rd_n (by omega) (by omega), bd_s, y4 _ c, y5 _ (by omega)]
            exact ⟨_, σ1, τ1, rfl, rfl, n, kd, by_, td, S, e3⟩
          · rw [if_neg (show ¬ ((0 : Int) ≤ ((t - 10 : Nat) : Int) ∧ ((t - 10 : Nat) : Int) < n) by omega), if_pos rfl, if_pos rfl]
            exact ⟨-1, σ1, τ1, rfl, rfl, n, kd, by_, td, S, e3⟩
        · rw [if_neg (fun z => hk (b1.mp z)), if_pos (b2.mpr (by omega))]
          exact ⟨-103, σ, va_up τ 39 w, rfl, rfl, n, kd, by_, td, S, J1⟩
    · rw [if_neg p2, if_pos rfl, if_pos rfl]
      exact ⟨-102, σ, τ, rfl, rfl, I⟩
