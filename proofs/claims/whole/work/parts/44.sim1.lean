/-! class beside reference: the calls that keep no word -/
theorem hasC {σ : St} {x : Int32} {n : Nat} (hn : σ 1 5 = nI n) (h9 : n ≤ 9) : X0_has σ x = if 0 ≤ x.toInt ∧ x.toInt < n then 1 else 0 := has_e (by omega) hn
theorem hasM {τ : St} {x : Int32} {n : Nat} (hn : τ 29 0 = nI n) (h9 : n ≤ 9) : X8_isGuest τ x = if 0 ≤ x.toInt ∧ x.toInt < n then 1 else 0 := hasM_e (by omega) hn
theorem of_has {x : Int32} {n : Nat} (hn : n ≤ 60) (c : 0 ≤ x.toInt ∧ x.toInt < n) : ∃ g, g < n ∧ x = nI g := by
  obtain ⟨g, -, h2, h3⟩ := of_rng (x := x) (lo := 0) (hi := n - 1) (by omega) (by omega) (by omega)
  exact ⟨g, by omega, h3⟩
theorem sim_blank : Sim_blank Inv := by
  intro σ τ I
  obtain ⟨n, kd, by_, td, S, hQ, hC, hM, hW, ⟨pm, h1, h2, h3, h4⟩, hMt, hS, hZ, hK, h9, h10⟩ := I
  refine ⟨σ 8 1, s2 σ 8 1 0, s2 τ 29 7 0, rfl, ?_, n, kd, by_, td, S, hQ, hC, hM, hW, ⟨0, by omega, rfl, rfl, fun i hi => by omega⟩, hMt, hS, hZ, hK, h9, h10⟩
  rw [h2, ← h3]
  rfl
theorem sim_story : Sim_story Inv := by
  intro σ τ x1 I
  obtain ⟨n, kd, by_, td, S, hQ, hC, hM, hW, hP, hMt, ⟨st, h8, ea, eb, e1, e2⟩, hZ, hK, h9, h10⟩ := id I
  unfold X7_story X8_story
  rw [lt_e, lt_e, isSet_e, in_e, l0, l511]
  by_cases c : 0 ≤ x1.toInt ∧ x1.toInt ≤ 511
  · obtain ⟨q, -, hq, rfl⟩ := of_rng (lo := 0) (hi := 511) (by decide) c.1 c.2
    rw [if_pos c, if_neg one0, if_neg one0]
    unfold X5_add
    by_cases c8 : st = 8
    · refine ⟨-104, σ, τ, ?_, ?_, I⟩
      · rw [if_neg (by rw [ea, c8]; decide)]; rfl
      · rw [if_pos (by rw [eb, c8]; rfl)]
    · have hs : st < 8 := by omega
      refine ⟨σ 15 2 + 1 - 1, s2 (s2 σ 16 st (nI q)) 15 2 (σ 15 2 + 1), s2 (s2 τ 40 st (nI q)) 29 15 (τ 29 15 + 1), ?_, ?_, n, kd, by_, td, S, hQ, hC, hM, hW, hP, hMt, ⟨st + 1, by omega, ?_, ?_, fun i hi => ?_, e2⟩, hZ, hK, h9, h10⟩
      · rw [if_pos (by rw [ea]; exact nI_lt (b := 8) hs (by omega)), show wa σ 16 8 (σ 15 2) (nI q) = _ from by rw [ea, wa_n (by omega) (by omega)]]
        rfl
      · rw [if_neg (by rw [eb]; exact fun z => c8 ((nI_eq (b := 8) (by omega) (by omega)).mp z)), show wa τ 40 8 (τ 29 15) (nI q) = _ from by rw [eb, wa_n (by omega) (by omega)], ea, ← eb]
        rfl
      · show σ 15 2 + 1 = _
        rw [ea]; exact nI_1 st
      · show τ 29 15 + 1 = _
        rw [eb]; exact nI_1 st
      · show ∃ p, p < 512 ∧ upd (σ 16) st (nI q) i = nI p ∧ upd (τ 40) st (nI q) i = nI p
        by_cases ei : i = st
        · subst ei
          exact ⟨q, by omega, up_s, up_s⟩
        · rw [up_n ei, up_n ei]
          exact e1 i (by omega)
  · rw [if_neg c, if_pos rfl, if_pos rfl]
    exact ⟨-102, σ, τ, rfl, rfl, I⟩
theorem sim_sign : Sim_sign Inv := by
  intro σ τ x1 x2 I
  obtain ⟨n, kd, by_, td, S, hQ, hC, hM, hW, hP, hMt, hS, ⟨sg, h8, ea, eb, e1, e2⟩, hK, h9, h10⟩ := id I
  unfold X7_sign X8_sign
  simp only [lt_e, isTenths_e, in_e, l1, l9]
  by_cases c : 1 ≤ x1.toInt ∧ x1.toInt ≤ 9
  · obtain ⟨q, hq1, hq, rfl⟩ := of_rng (lo := 1) (hi := 9) (by decide) c.1 c.2
    rw [if_pos c, if_neg one0, if_neg one0]
    by_cases c2 : 1 ≤ x2.toInt ∧ x2.toInt ≤ 9
    · obtain ⟨q2, hr1, hr, rfl⟩ := of_rng (lo := 1) (hi := 9) (by decide) c2.1 c2.2
      rw [if_pos c2, if_neg one0, if_neg one0]
      unfold X4_add
      by_cases c8 : sg = 8
      · refine ⟨-104, σ, τ, ?_, ?_, I⟩
        · rw [if_neg (by rw [ea, c8]; decide)]; rfl
        · rw [if_pos (by rw [eb, c8]; rfl)]
      · have hs : sg < 8 := by omega
        have i0 : (3 : Int32) * τ 29 18 = nI (3 * sg) := by rw [eb, show (3 : Int32) = nI 3 from rfl, pk_mul]
        have i1 : (3 : Int32) * τ 29 18 + 1 = nI (3 * sg + 1) := by rw [i0]; exact nI_1 _
        have i2 : (3 : Int32) * τ 29 18 + 2 = nI (3 * sg + 2) := by rw [i0]; exact nI_add _ 2
        refine ⟨σ 18 3 + 1 - 1, s2 (s2 (s2 σ 19 sg (nI q)) 20 sg (nI q2)) 18 3 (σ 18 3 + 1), s2 (s2 (s2 (s2 τ 42 (3 * sg) (nI q)) 42 (3 * sg + 1) (nI q2)) 42 (3 * sg + 2) 0) 29 18 (τ 29 18 + 1), ?_, ?_, n, kd, by_, td, S, hQ, hC, hM, hW, hP, hMt, hS, ⟨sg + 1, by omega, ?_, ?_, fun i hi => ?_, fun i hi => ?_⟩, hK, h9, h10⟩
        · rw [if_pos (by rw [ea]; exact nI_lt (b := 8) hs (by omega)), show wa σ 19 8 (σ 18 3) (nI q) = _ from by rw [ea, wa_n (by omega) (by omega)], bd_s, show wa (s2 σ 19 sg (nI q)) 20 8 (s2 σ 19 sg (nI q) 18 3) (nI q2) = _ from by rw [show s2 σ 19 sg (nI q) 18 3 = nI sg from ea, wa_n (by omega) (by omega)]]
          rfl
        · rw [if_neg (by rw [eb]; exact fun z => c8 ((nI_eq (b := 8) (by omega) (by omega)).mp z)), i0, wa_n (by omega) (by omega), bd_s, show (3 : Int32) * s2 τ 42 (3 * sg) (nI q) 29 18 + 1 = nI (3 * sg + 1) from i1, wa_n (by omega) (by omega), bd_s, show (3 : Int32) * s2 (s2 τ 42 (3 * sg) (nI q)) 42 (3 * sg + 1) (nI q2) 29 18 + 2 = nI (3 * sg + 2) from i2, wa_n (by omega) (by omega), bd_s, ea, ← eb]
          rfl
        · show σ 18 3 + 1 = _
          rw [ea]; exact nI_1 sg
        · show τ 29 18 + 1 = _
          rw [eb]; exact nI_1 sg
        · show ∃ p p2, 1 ≤ p ∧ p ≤ 9 ∧ 1 ≤ p2 ∧ p2 ≤ 9 ∧ upd (σ 19) sg (nI q) i = nI p ∧ upd (σ 20) sg (nI q2) i = nI p2 ∧ upd (upd (upd (τ 42) (3 * sg) (nI q)) (3 * sg + 1) (nI q2)) (3 * sg + 2) 0 (3 * i) = nI p ∧ upd (upd (upd (τ 42) (3 * sg) (nI q)) (3 * sg + 1) (nI q2)) (3 * sg + 2) 0 (3 * i + 1) = nI p2
          by_cases ei : i = sg
          · subst ei
            exact ⟨q, q2, hq1, hq, hr1, hr, up_s, up_s, by rw [up_n (by omega), up_n (by omega), up_s], by rw [up_n (by omega), up_s]⟩
          · obtain ⟨p, p2, a1, a2, a3, a4, a5, a6, a7, a8⟩ := e1 i (by omega)
            refine ⟨p, p2, a1, a2, a3, a4, by rw [up_n ei]; exact a5, by rw [up_n ei]; exact a6, ?_, ?_⟩
            · rw [up_n (by omega), up_n (by omega), up_n (by omega)]; exact a7
            · rw [up_n (by omega), up_n (by omega), up_n (by omega)]; exact a8
        · show ∃ p, p ≤ 2 ∧ σ 21 i = nI p ∧ (i < sg + 1 → upd (upd (upd (τ 42) (3 * sg) (nI q)) (3 * sg + 1) (nI q2)) (3 * sg + 2) 0 (3 * i + 2) = nI p) ∧ (sg + 1 ≤ i → p = 0)
          obtain ⟨p, a1, a2, a3, a4⟩ := e2 i hi
          refine ⟨p, a1, a2, fun hi2 => ?_, fun hi2 => a4 (by omega)⟩
          by_cases ei : i = sg
          · subst ei
            rw [up_s, a4 (Nat.le_refl _)]
            rfl
          · rw [up_n (by omega), up_n (by omega), up_n (by omega)]
            exact a3 (by omega)
    · rw [if_neg c2, if_pos rfl, if_pos rfl]
      exact ⟨-102, σ, τ, rfl, rfl, I⟩
  · rw [if_neg c, if_pos rfl, if_pos rfl]
    exact ⟨-102, σ, τ, rfl, rfl, I⟩
theorem sim_look : Sim_look Inv := by
  intro σ τ x1 x2 I
  obtain ⟨n, kd, by_, td, S, hQ, hC, hM, hW, hP, hMt, hS, ⟨sg, h8, ea, eb, e1, e2⟩, hK, h9, h10⟩ := id I
  have hh : X4_has σ x1 = if 0 ≤ x1.toInt ∧ x1.toInt < sg then 1 else 0 := has_e (by omega) ea
  have hm : X8_isSign τ x1 = if 0 ≤ x1.toInt ∧ x1.toInt < sg then 1 else 0 := hasM_e (by omega) eb
  unfold X7_look X8_look X4_howOf X4_putHow
  simp only [lt_e, isHow_e, in_e, l0, l2, hh, hm]
  by_cases c : 0 ≤ x1.toInt ∧ x1.toInt < sg
  · obtain ⟨g, hg, rfl⟩ := of_has (by omega) c
    rw [if_pos c, if_neg one0, if_neg one0]
    by_cases c2 : 0 ≤ x2.toInt ∧ x2.toInt ≤ 2
    · obtain ⟨q, -, hq, rfl⟩ := of_rng (lo := 0) (hi := 2) (by decide) c2.1 c2.2
      have i2 : (3 : Int32) * nI g + 2 = nI (3 * g + 2) := by rw [show (3 : Int32) = nI 3 from rfl, pk_mul]; exact nI_add _ 2
      obtain ⟨p, a1, a2, a3, a4⟩ := e2 g (by omega)
      rw [if_pos c2, if_neg one0, if_neg one0, i2]
      simp only [if_neg one0]
      refine ⟨nI p, s2 σ 21 g (nI q), s2 τ 42 (3 * g + 2) (nI q), ?_, ?_, n, kd, by_, td, S, hQ, hC, hM, hW, hP, hMt, hS, ⟨sg, h8, ea, eb, fun i hi => ?_, fun i hi => ?_⟩, hK, h9, h10⟩
      · rw [rd_n (by omega) (by omega), bd_s, bd_s, wa_n (by omega) (by omega), bd_s, bd_s, a2]
      · rw [rd_n (by omega) (by omega), bd_s, wa_n (by omega) (by omega), bd_s, a3 hg]
      · obtain ⟨p, p2, b1, b2, b3, b4, b5, b6, b7, b8⟩ := e1 i hi
        refine ⟨p, p2, b1, b2, b3, b4, b5, b6, ?_, ?_⟩
        · show upd (τ 42) (3 * g + 2) (nI q) (3 * i) = _
          rw [up_n (by omega)]; exact b7
        · show upd (τ 42) (3 * g + 2) (nI q) (3 * i + 1) = _
          rw [up_n (by omega)]; exact b8
      · show ∃ p, p ≤ 2 ∧ upd (σ 21) g (nI q) i = nI p ∧ (i < sg → upd (τ 42) (3 * g + 2) (nI q) (3 * i + 2) = nI p) ∧ (sg ≤ i → p = 0)
        by_cases ei : i = g
        · subst ei
          exact ⟨q, hq, up_s, fun _ => up_s, fun z => by omega⟩
        · obtain ⟨p, b1, b2, b3, b4⟩ := e2 i hi
          exact ⟨p, b1, by rw [up_n ei]; exact b2, fun z => by rw [up_n (by omega)]; exact b3 z, b4⟩
    · rw [if_neg c2, if_pos rfl, if_pos rfl]
      exact ⟨-102, σ, τ, rfl, rfl, I⟩
  · rw [if_neg c, if_pos rfl, if_pos rfl]
    exact ⟨-101, σ, τ, rfl, rfl, I⟩
theorem sim_clash : Sim_clash Inv := by
  intro σ τ x1 x2 x3 I
  obtain ⟨n, kd, by_, td, S, hQ, hC, hM, hW, hP, hMt, ⟨st, h8, ea, eb, e1, e2⟩, hZ, hK, h9, h10⟩ := id I
  have hh : ∀ x, X5_has σ x = if 0 ≤ x.toInt ∧ x.toInt < st then 1 else 0 := fun x => has_e (by omega) ea
  have hm : ∀ x, X8_isStory τ x = if 0 ≤ x.toInt ∧ x.toInt < st then 1 else 0 := fun x => hasM_e (by omega) eb
  unfold X7_clash X8_clash
  simp only [lt_e, hh, hm]
  by_cases c : 0 ≤ x1.toInt ∧ x1.toInt < st
  · obtain ⟨a, hga, rfl⟩ := of_has (by omega) c
    rw [if_pos c, if_neg one0, if_neg one0]
    by_cases c2 : 0 ≤ x2.toInt ∧ x2.toInt < st
    · obtain ⟨b, hgb, rfl⟩ := of_has (by omega) c2
      rw [if_pos c2, if_neg one0, if_neg one0]
      by_cases c3 : nI a = nI b
      · rw [if_pos c3, if_pos c3]
        exact ⟨-101, σ, τ, rfl, rfl, I⟩
      · have hab : a ≠ b := fun z => c3 (by rw [z])
        obtain ⟨ga, ra, ra'⟩ := e2 a (by omega)
        obtain ⟨gb, rb, rb'⟩ := e2 b (by omega)
        rw [if_neg c3, if_neg c3]
        have hh2 : ∀ x k v, X5_has (s2 σ 17 k v) x = if 0 ≤ x.toInt ∧ x.toInt < st then 1 else 0 := fun x k v => has_e (by omega) ea
        unfold X5_clashesOf X5_putClash
        simp only [lt_e, hh, if_pos c, if_pos c2, if_neg one0]
        refine ⟨if ga b then 1 else 0, s2 (s2 σ 17 a (nI (bs (fun i => if i = b then decide (x3 ≠ 0) else ga i) 8))) 17 b (nI (bs (fun i => if i = a then decide (x3 ≠ 0) else gb i) 8)), s2 (s2 τ 41 a (nI (bs (fun i => if i = b then decide (x3 ≠ 0) else ga i) 8))) 41 b (nI (bs (fun i => if i = a then decide (x3 ≠ 0) else gb i) 8)), ?_, ?_, n, kd, by_, td, S, hQ, hC, hM, hW, hP, hMt, ⟨st, h8, ea, eb, e1, fun i hi => ?_⟩, hZ, hK, h9, h10⟩
        · rw [rd_n (by omega) (by omega), bd_s, bd_s, bd_s, ra, wb_e (by omega) (by omega), wa_n (by omega) (by omega), bd_s, bd_s]
          simp only [hh2, if_pos c, if_pos c2, if_neg one0]
          rw [rd_n (by omega) (by omega), bd_s, s2_q, up_n (fun z => hab z.symm), rb, wb_e (by omega) (by omega), wa_n (by omega) (by omega), bd_s, bd_s]
          unfold X7_bit
          rw [bit_bs (by omega) (by omega)]
        · rw [rd_n (by omega) (by omega), bd_s, bd_s, ra', mb_e (by omega) (by omega), wa_n (by omega) (by omega), bd_s, rd_n (by omega) (by omega), bd_s, s2_q, up_n (fun z => hab z.symm), rb', mb_e (by omega) (by omega), wa_n (by omega) (by omega), bd_s, bit_bs (by omega) (by omega)]
        · rw [s2_q, s2_q, s2_q, s2_q]
          by_cases ib : i = b
          · subst ib
            exact ⟨_, up_s, up_s⟩
          · rw [up_n ib, up_n ib]
            by_cases ia : i = a
            · subst ia
              exact ⟨_, up_s, up_s⟩
            · rw [up_n ia, up_n ia]
              exact e2 i hi
    · rw [if_neg c2, if_pos rfl, if_pos rfl]
      exact ⟨-101, σ, τ, rfl, rfl, I⟩
  · rw [if_neg c, if_pos rfl, if_pos rfl]
    exact ⟨-101, σ, τ, rfl, rfl, I⟩
