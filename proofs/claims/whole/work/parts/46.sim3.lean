/-! class beside reference: tell, sees, about, right, latest -/
theorem sim_tell : Sim_tell Inv := by
  intro σ τ x1 x2 I
  obtain ⟨n, kd, by_, td, S, hQ, hC, hM, hW, hP, hMt, hS, hZ, hK, h9, h10⟩ := id I
  obtain ⟨q9, q1, q2, q3, q4, q5, q6⟩ := id hQ
  obtain ⟨hn, ha, hkk, hbb, htt, hss⟩ := id hC
  obtain ⟨hn', hk', hb', ht', hs'⟩ := id hM
  unfold X7_tell X8_tell
  simp only [lt_e, hasC hn q9, hasM hn' q9, isDay_e, in_e, l0, l8]
  by_cases c : 0 ≤ x1.toInt ∧ x1.toInt < n
  · obtain ⟨g, hg, rfl⟩ := of_has (by omega) c
    rw [if_pos c, if_neg one0, if_neg one0]
    by_cases c2 : 0 ≤ x2.toInt ∧ x2.toInt ≤ 8
    · obtain ⟨d, -, hd, rfl⟩ := of_rng (lo := 0) (hi := 8) (by decide) c2.1 c2.2
      rw [if_pos c2, if_neg one0]
      have hQ' : GQ n kd by_ (fun i => if i = g then d else td i) S := by
        refine ⟨q9, q1, q2, fun i hi => ?_, fun i hi => ?_, q5, q6⟩
        · by_cases ei : i = g
          · simp only [ei, if_true]; exact hd
          · simp only [ei, if_false]; exact q3 i hi
        · have ei : ¬ i = g := by omega
          simp only [ei, if_false]; exact q4 i hi
      have hC' : GC ((s2 σ 4 g (nI d)) 1) ((s2 σ 4 g (nI d)) 2) ((s2 σ 4 g (nI d)) 3) ((s2 σ 4 g (nI d)) 4) ((s2 σ 4 g (nI d)) 5) n kd by_ (fun i => if i = g then d else td i) S := by
        refine ⟨hn, ha, hkk, hbb, fun i hi => ?_, hss⟩
        rw [s2_q]
        show upd (σ 4) g (nI d) i = nI (if i = g then d else td i)
        by_cases ei : i = g
        · rw [ei, up_s, if_pos rfl]
        · rw [up_n ei, if_neg ei]; exact htt i hi
      obtain ⟨σ', f1, f2, f3⟩ := fwd_e hQ' hC'
      have hA : (bd (X0_toldOf σ (nI g)) fun v4 => bd (X0_putTold σ (nI g) (nI d)) fun v5 => bd (X7_followWord v5) fun v6 => some (v4, v6)) = some (nI (td g), σ') := by
        unfold X0_toldOf X0_putTold
        simp only [lt_e, hasC hn q9, if_pos c, if_neg one0]
        rw [rd_n (by omega) (by omega), bd_s, bd_s, wa_n (by omega) (by omega), bd_s, bd_s, f1, bd_s, htt g (by omega)]
      have hres : (if nI d = 0 then (bd (X0_toldOf σ (nI g)) fun v4 => bd (X0_putTold σ (nI g) (nI d)) fun v5 => bd (X7_followWord v5) fun v6 => some (v4, v6)) else if (if 1 ≤ (nI d).toInt ∧ (nI d).toInt ≤ 8 then (1 : Int32) else 0) = 0 then some ((-102 : Int32), σ) else (bd (X0_toldOf σ (nI g)) fun v9 => bd (X0_putTold σ (nI g) (nI d)) fun v10 => bd (X7_followWord v10) fun v11 => some (v9, v11))) = some (nI (td g), σ') := by
        by_cases e0 : d = 0
        · rw [if_pos (by rw [e0]; rfl)]
          exact hA
        · rw [if_neg (show ¬ nI d = (0 : Int32) from fun z => e0 ((nI_eq (b := 0) (by omega) (by omega)).mp z)), toI_n (by omega), if_pos (show (1 : Int) ≤ (d : Int) ∧ (d : Int) ≤ 8 by omega), if_neg one0]
          exact hA
      refine ⟨nI (td g), σ', s2 τ 32 g (nI d), hres, ?_, n, kd, by_, (fun i => if i = g then d else td i), S, hQ', ?_, ?_, f3, ?_, ?_, ?_, ?_, ?_, ?_, ?_⟩
      · rw [rd_n (by omega) (by omega), bd_s, wa_n (by omega) (by omega), bd_s, ht' g (by omega)]
      · rw [f2 1 (by decide) (by decide), f2 2 (by decide) (by decide), f2 3 (by decide) (by decide), f2 4 (by decide) (by decide), f2 5 (by decide) (by decide)]
        exact hC'
      · refine ⟨hn', hk', hb', fun i hi => ?_, hs'⟩
        rw [s2_q]
        show upd (τ 32) g (nI d) i = nI (if i = g then d else td i)
        by_cases ei : i = g
        · rw [ei, up_s, if_pos rfl]
        · rw [up_n ei, if_neg ei]; exact ht' i hi
      · rw [f2 8 (by decide) (by decide), f2 9 (by decide) (by decide)]; exact hP
      · rw [f2 10 (by decide) (by decide), f2 11 (by decide) (by decide), f2 12 (by decide) (by decide), f2 13 (by decide) (by decide), f2 14 (by decide) (by decide)]; exact hMt
      · rw [f2 15 (by decide) (by decide), f2 16 (by decide) (by decide), f2 17 (by decide) (by decide)]; exact hS
      · rw [f2 18 (by decide) (by decide), f2 19 (by decide) (by decide), f2 20 (by decide) (by decide), f2 21 (by decide) (by decide)]; exact hZ
      · rw [f2 22 (by decide) (by decide), f2 23 (by decide) (by decide), f2 24 (by decide) (by decide), f2 25 (by decide) (by decide)]; exact hK
      · rw [f2 0 (by decide) (by decide)]; exact h9
      · rw [f2 0 (by decide) (by decide)]; exact h10
    · have e0 : ¬ x2 = 0 := fun z => c2 (by rw [z]; decide)
      have c3 : ¬ (1 ≤ x2.toInt ∧ x2.toInt ≤ 8) := by omega
      rw [if_neg e0, if_neg c2, if_neg c3, if_pos rfl, if_pos rfl]
      exact ⟨-102, σ, τ, rfl, rfl, I⟩
  · rw [if_neg c, if_pos rfl, if_pos rfl]
    exact ⟨-101, σ, τ, rfl, rfl, I⟩
def S1 (S : Nat → Nat → Nat → Bool) (d a b : Nat) (q : Bool) : Nat → Nat → Nat → Bool := fun e x y => if e = d ∧ ((x = a ∧ y = b) ∨ (x = b ∧ y = a)) then q else S e x y
theorem seenBy_e {σ : St} {n d g : Nat} {S : Nat → Nat → Nat → Bool} (hn : σ 1 5 = nI n) (h9 : n ≤ 9) (hs : ∀ d a, 1 ≤ d → d ≤ 8 → a < 9 → σ 5 ((d - 1) * 9 + a) = nI (bs (S d a) 9)) (hg : g < n) (h1 : 1 ≤ d) (h2 : d ≤ 8) : X0_seenBy σ (nI g) (nI d) = some (nI (bs (S d g) 9)) := by
  unfold X0_seenBy
  have hx : (nI d - (1 : Int32)) * (9 : Int32) + nI g = nI ((d - 1) * 9 + g) := by
    rw [show nI d - (1 : Int32) = nI (d - 1) from pk_sub (b := 1) h1, show (9 : Int32) = nI 9 from rfl, pk_mul, nI_add]
  rw [lt_e, hasC hn h9, toI_n (by omega), if_pos (show (0 : Int) ≤ (g : Int) ∧ (g : Int) < n by omega), if_neg one0, lt_e, isDay_e, toI_n (by omega), if_pos (show (1 : Int) ≤ (d : Int) ∧ (d : Int) ≤ 8 by omega), if_neg one0, hx, rd_n (by omega) (by omega), bd_s, hs d g h1 h2 (by omega)]
theorem putSeen_e {σ : St} {n d a b : Nat} {S : Nat → Nat → Nat → Bool} {x : Int32} (hn : σ 1 5 = nI n) (h9 : n ≤ 9) (hs : ∀ d a, 1 ≤ d → d ≤ 8 → a < 9 → σ 5 ((d - 1) * 9 + a) = nI (bs (S d a) 9)) (ha : a < n) (hb : b < n) (h1 : 1 ≤ d) (h2 : d ≤ 8) : X0_putSeen σ (nI a) (nI b) (nI d) x = some (s2 σ 5 ((d - 1) * 9 + a) (nI (bs (fun i => if i = b then decide (x ≠ 0) else S d a i) 9))) := by
  unfold X0_putSeen
  have hx : (nI d - (1 : Int32)) * (9 : Int32) + nI a = nI ((d - 1) * 9 + a) := by
    rw [show nI d - (1 : Int32) = nI (d - 1) from pk_sub (b := 1) h1, show (9 : Int32) = nI 9 from rfl, pk_mul, nI_add]
  rw [lt_e, hasC hn h9, toI_n (by omega), if_pos (show (0 : Int) ≤ (a : Int) ∧ (a : Int) < n by omega), if_neg one0, lt_e, hasC hn h9, toI_n (by omega), if_pos (show (0 : Int) ≤ (b : Int) ∧ (b : Int) < n by omega), if_neg one0, lt_e, isDay_e, toI_n (by omega), if_pos (show (1 : Int) ≤ (d : Int) ∧ (d : Int) ≤ 8 by omega), if_neg one0, seenBy_e hn h9 hs ha h1 h2, bd_s, lt_e, wb_e (by omega) (by omega), hx, wa_n (by omega) (by omega), bd_s]
theorem sim_sees : Sim_sees Inv := by
  intro σ τ x1 x2 x3 x4 I
  obtain ⟨n, kd, by_, td, S, hQ, hC, hM, hW, hP, hMt, hS, hZ, hK, h9, h10⟩ := id I
  obtain ⟨q9, q1, q2, q3, q4, q5, q6⟩ := id hQ
  obtain ⟨hn, ha, hkk, hbb, htt, hss⟩ := id hC
  obtain ⟨hn', hk', hb', ht', hs'⟩ := id hM
  unfold X7_sees X8_sees
  simp only [lt_e, hasC hn q9, hasM hn' q9, isDay_e, in_e, l1, l8]
  by_cases c : 0 ≤ x1.toInt ∧ x1.toInt < n
  · obtain ⟨a, hga, rfl⟩ := of_has (by omega) c
    rw [if_pos c, if_neg one0, if_neg one0]
    by_cases c2 : 0 ≤ x2.toInt ∧ x2.toInt < n
    · obtain ⟨b, hgb, rfl⟩ := of_has (by omega) c2
      rw [if_pos c2, if_neg one0, if_neg one0]
      by_cases c3 : nI a = nI b
      · rw [if_pos c3, if_pos c3]
        exact ⟨-101, σ, τ, rfl, rfl, I⟩
      · have hab : a ≠ b := fun z => c3 (by rw [z])
        rw [if_neg c3, if_neg c3]
        by_cases c4 : 1 ≤ x3.toInt ∧ x3.toInt ≤ 8
        · obtain ⟨d, hd1, hd, rfl⟩ := of_rng (lo := 1) (hi := 8) (by decide) c4.1 c4.2
          rw [if_pos c4, if_neg one0, if_neg one0]
          have s1 : ∀ e x y, S1 S d a b (decide (x4 ≠ 0)) e x y = if e = d ∧ ((x = a ∧ y = b) ∨ (x = b ∧ y = a)) then decide (x4 ≠ 0) else S e x y := fun _ _ _ => rfl
          have hQ' : GQ n kd by_ td (S1 S d a b (decide (x4 ≠ 0))) := by
            refine ⟨q9, q1, q2, q3, q4, fun e x y h => ?_, fun e x y => ?_⟩
            · rw [s1] at h
              by_cases z : e = d ∧ ((x = a ∧ y = b) ∨ (x = b ∧ y = a))
              · omega
              · rw [if_neg z] at h
                exact q5 e x y h
            · rw [s1, s1, q6 e x y]
              by_cases z : e = d ∧ ((x = a ∧ y = b) ∨ (x = b ∧ y = a))
              · rw [if_pos z, if_pos (by omega)]
              · rw [if_neg z, if_neg (by omega)]
          have ra : bs (fun i => if i = b then decide (x4 ≠ 0) else S d a i) 9 = bs (S1 S d a b (decide (x4 ≠ 0)) d a) 9 := by
            apply bs_cong
            intro i hi
            rw [s1]
            by_cases z : i = b
            · rw [if_pos z, if_pos (by omega)]
            · rw [if_neg z, if_neg (by omega)]
          have rb : bs (fun i => if i = a then decide (x4 ≠ 0) else S d b i) 9 = bs (S1 S d a b (decide (x4 ≠ 0)) d b) 9 := by
            apply bs_cong
            intro i hi
            rw [s1]
            by_cases z : i = a
            · rw [if_pos z, if_pos (by omega)]
            · rw [if_neg z, if_neg (by omega)]
          -- the class's cells
          have hss1 : ∀ e x, 1 ≤ e → e ≤ 8 → x < 9 → (s2 σ 5 ((d - 1) * 9 + a) (nI (bs (S1 S d a b (decide (x4 ≠ 0)) d a) 9))) 5 ((e - 1) * 9 + x) = nI (bs (if e = d ∧ x = a then S1 S d a b (decide (x4 ≠ 0)) d a else S e x) 9) := by
            intro e x he1 he2 hx
            rw [s2_q]
            by_cases z : e = d ∧ x = a
            · rw [if_pos z, z.1, z.2, up_s]
            · rw [if_neg z, up_n (by omega)]
              exact hss e x he1 he2 hx
          have hp2 := putSeen_e (σ := s2 σ 5 ((d - 1) * 9 + a) (nI (bs (S1 S d a b (decide (x4 ≠ 0)) d a) 9))) (S := fun e x => if e = d ∧ x = a then S1 S d a b (decide (x4 ≠ 0)) d a else S e x) (x := x4) hn q9 hss1 hgb hga hd1 hd
          have hba : ¬ b = a := fun z => hab z.symm
          simp only [hba, and_false, if_false] at hp2
          rw [rb] at hp2
          have hC' : GC ((s2 (s2 σ 5 ((d - 1) * 9 + a) (nI (bs (S1 S d a b (decide (x4 ≠ 0)) d a) 9))) 5 ((d - 1) * 9 + b) (nI (bs (S1 S d a b (decide (x4 ≠ 0)) d b) 9))) 1) ((s2 (s2 σ 5 ((d - 1) * 9 + a) (nI (bs (S1 S d a b (decide (x4 ≠ 0)) d a) 9))) 5 ((d - 1) * 9 + b) (nI (bs (S1 S d a b (decide (x4 ≠ 0)) d b) 9))) 2) ((s2 (s2 σ 5 ((d - 1) * 9 + a) (nI (bs (S1 S d a b (decide (x4 ≠ 0)) d a) 9))) 5 ((d - 1) * 9 + b) (nI (bs (S1 S d a b (decide (x4 ≠ 0)) d b) 9))) 3) ((s2 (s2 σ 5 ((d - 1) * 9 + a) (nI (bs (S1 S d a b (decide (x4 ≠ 0)) d a) 9))) 5 ((d - 1) * 9 + b) (nI (bs (S1 S d a b (decide (x4 ≠ 0)) d b) 9))) 4) ((s2 (s2 σ 5 ((d - 1) * 9 + a) (nI (bs (S1 S d a b (decide (x4 ≠ 0)) d a) 9))) 5 ((d - 1) * 9 + b) (nI (bs (S1 S d a b (decide (x4 ≠ 0)) d b) 9))) 5) n kd by_ td (S1 S d a b (decide (x4 ≠ 0))) := by
            refine ⟨hn, ha, hkk, hbb, htt, fun e x he1 he2 hx => ?_⟩
            rw [s2_q]
            by_cases z : e = d ∧ x = b
            · rw [z.1, z.2, up_s]
            · rw [up_n (by omega), hss1 e x he1 he2 hx]
              congr 1
              by_cases z2 : e = d ∧ x = a
              · rw [if_pos z2, z2.1, z2.2]
              · rw [if_neg z2]
                apply bs_cong
                intro i hi
                rw [s1, if_neg (by omega)]
          obtain ⟨σ', f1, f2, f3⟩ := fwd_e hQ' hC'
          have i1 : (9 : Int32) * nI a + nI b = nI (9 * a + b) := by rw [show (9 : Int32) = nI 9 from rfl, pk_mul, nI_add]
          have i2 : (9 : Int32) * nI b + nI a = nI (9 * b + a) := by rw [show (9 : Int32) = nI 9 from rfl, pk_mul, nI_add]
          have sv : bs (fun i => if i = d then decide (x4 ≠ 0) else S i a b) 9 = bs (fun i => S1 S d a b (decide (x4 ≠ 0)) i a b) 9 := by
            apply bs_cong
            intro i hi
            rw [s1]
            by_cases z : i = d
            · rw [if_pos z, if_pos (by omega)]
            · rw [if_neg z, if_neg (by omega)]
          refine ⟨if S d a b then 1 else 0, σ', s2 (s2 τ 33 (9 * a + b) (nI (bs (fun i => S1 S d a b (decide (x4 ≠ 0)) i a b) 9))) 33 (9 * b + a) (nI (bs (fun i => S1 S d a b (decide (x4 ≠ 0)) i a b) 9)), ?_, ?_, n, kd, by_, td, S1 S d a b (decide (x4 ≠ 0)), hQ', ?_, ?_, f3, ?_, ?_, ?_, ?_, ?_, ?_, ?_⟩
          · rw [seenBy_e hn q9 hss hga hd1 hd, bd_s, putSeen_e hn q9 hss hga hgb hd1 hd, bd_s, ra, hp2, bd_s, f1, bd_s]
            unfold X7_bit
            rw [bit_bs (by omega) (by omega)]
          · rw [i1, i2, rd_n (by omega) (by omega), bd_s, bd_s, hs' a b (by omega) (by omega), mb_e (by omega) (by omega), wa_n (by omega) (by omega), bd_s, rd_n (by omega) (by omega), bd_s, s2_q, up_s, sv, wa_n (by omega) (by omega), bd_s, bit_bs (by omega) (by omega)]
          · rw [f2 1 (by decide) (by decide), f2 2 (by decide) (by decide), f2 3 (by decide) (by decide), f2 4 (by decide) (by decide), f2 5 (by decide) (by decide)]
            exact hC'
          · refine ⟨hn', hk', hb', ht', fun x y hx hy => ?_⟩
            rw [s2_q, s2_q]
            by_cases z : x = b ∧ y = a
            · rw [z.1, z.2, up_s]
              congr 1
              apply bs_cong
              intro i hi
              exact hQ'.2.2.2.2.2.2 i a b
            · rw [up_n (by omega)]
              by_cases z2 : x = a ∧ y = b
              · rw [z2.1, z2.2, up_s]
              · rw [up_n (by omega), hs' x y hx hy]
                congr 1
                apply bs_cong
                intro i hi
                rw [s1, if_neg (by omega)]
          · rw [f2 8 (by decide) (by decide), f2 9 (by decide) (by decide)]; exact hP
          · rw [f2 10 (by decide) (by decide), f2 11 (by decide) (by decide), f2 12 (by decide) (by decide), f2 13 (by decide) (by decide), f2 14 (by decide) (by decide)]; exact hMt
          · rw [f2 15 (by decide) (by decide), f2 16 (by decide) (by decide), f2 17 (by decide) (by decide)]; exact hS
          · rw [f2 18 (by decide) (by decide), f2 19 (by decide) (by decide), f2 20 (by decide) (by decide), f2 21 (by decide) (by decide)]; exact hZ
          · rw [f2 22 (by decide) (by decide), f2 23 (by decide) (by decide), f2 24 (by decide) (by decide), f2 25 (by decide) (by decide)]; exact hK
          · rw [f2 0 (by decide) (by decide)]; exact h9
          · rw [f2 0 (by decide) (by decide)]; exact h10
        · rw [if_neg c4, if_pos rfl, if_pos rfl]
          exact ⟨-102, σ, τ, rfl, rfl, I⟩
    · rw [if_neg c2, if_pos rfl, if_pos rfl]
      exact ⟨-101, σ, τ, rfl, rfl, I⟩
  · rw [if_neg c, if_pos rfl, if_pos rfl]
    exact ⟨-101, σ, τ, rfl, rfl, I⟩
