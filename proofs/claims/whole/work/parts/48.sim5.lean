theorem imL1 {τ : St} : ∀ (f i : Nat) (w : Nat → Int32), i ≤ 81 → 81 < f + i → ∃ (w' : Nat → Int32) (k : Int32), X8_image_L1 f (va_up τ 44 w) (nI i) = some (k, va_up τ 44 w') ∧ (∀ j, j < i → w' j = w j) ∧ ∀ j, i ≤ j → j < 81 → w' j = τ 33 j := by
  intro f
  induction f with
  | zero => intro i w h1 h2; omega
  | succ f ih =>
    intro i w h1 h2
    rw [X8_image_L1_s]
    by_cases e : i = 81
    · subst e
      rw [if_pos (show (81 : Int32) ≤ nI 81 by decide)]
      exact ⟨w, _, rfl, fun _ _ => rfl, fun j h3 h4 => by omega⟩
    · rw [if_neg (show ¬ (81 : Int32) ≤ nI i from nI_ge (b := 81) (by omega) (by omega)), vu_c (by decide), rd_n (by omega) (by omega), bd_s, wa_u (by omega) (by omega), bd_s, show nI i + (1 : Int32) = nI (i + 1) from nI_1 i]
      obtain ⟨w', k, e1, e2, e3⟩ := ih (i + 1) (upd w i (τ 33 i)) (by omega) (by omega)
      refine ⟨w', k, e1, fun j hj => ?_, fun j h3 h4 => ?_⟩
      · rw [e2 j (by omega), up_n (by omega)]
      · by_cases e4 : j = i
        · rw [e4, e2 i (by omega), up_s]
        · exact e3 j (by omega) h4

theorem imL2 {τ : St} : ∀ (f i : Nat) (w : Nat → Int32), i ≤ 9 → 9 < f + i → ∃ (w' : Nat → Int32) (k : Int32), X8_image_L2 f (va_up τ 43 w) (nI i) = some (k, va_up τ 43 w') ∧ (∀ j, j < i → w' j = w j) ∧ ∀ j, i ≤ j → j < 9 → w' j = τ 32 j := by
  intro f
  induction f with
  | zero => intro i w h1 h2; omega
  | succ f ih =>
    intro i w h1 h2
    rw [X8_image_L2_s]
    by_cases e : i = 9
    · subst e
      rw [if_pos (show (9 : Int32) ≤ nI 9 by decide)]
      exact ⟨w, _, rfl, fun _ _ => rfl, fun j h3 h4 => by omega⟩
    · rw [if_neg (show ¬ (9 : Int32) ≤ nI i from nI_ge (b := 9) (by omega) (by omega)), vu_c (by decide), rd_n (by omega) (by omega), bd_s, wa_u (by omega) (by omega), bd_s, show nI i + (1 : Int32) = nI (i + 1) from nI_1 i]
      obtain ⟨w', k, e1, e2, e3⟩ := ih (i + 1) (upd w i (τ 32 i)) (by omega) (by omega)
      refine ⟨w', k, e1, fun j hj => ?_, fun j h3 h4 => ?_⟩
      · rw [e2 j (by omega), up_n (by omega)]
      · by_cases e4 : j = i
        · rw [e4, e2 i (by omega), up_s]
        · exact e3 j (by omega) h4

theorem reL1 {τ : St} : ∀ (f i : Nat) (w : Nat → Int32), i ≤ 81 → 81 < f + i → ∃ (w' : Nat → Int32) (k : Int32), X8_restore_L1 f (va_up τ 33 w) (nI i) = some (k, va_up τ 33 w') ∧ (∀ j, j < i → w' j = w j) ∧ ∀ j, i ≤ j → j < 81 → w' j = τ 44 j := by
  intro f
  induction f with
  | zero => intro i w h1 h2; omega
  | succ f ih =>
    intro i w h1 h2
    rw [X8_restore_L1_s]
    by_cases e : i = 81
    · subst e
      rw [if_pos (show (81 : Int32) ≤ nI 81 by decide)]
      exact ⟨w, _, rfl, fun _ _ => rfl, fun j h3 h4 => by omega⟩
    · rw [if_neg (show ¬ (81 : Int32) ≤ nI i from nI_ge (b := 81) (by omega) (by omega)), vu_c (by decide), rd_n (by omega) (by omega), bd_s, wa_u (by omega) (by omega), bd_s, show nI i + (1 : Int32) = nI (i + 1) from nI_1 i]
      obtain ⟨w', k, e1, e2, e3⟩ := ih (i + 1) (upd w i (τ 44 i)) (by omega) (by omega)
      refine ⟨w', k, e1, fun j hj => ?_, fun j h3 h4 => ?_⟩
      · rw [e2 j (by omega), up_n (by omega)]
      · by_cases e4 : j = i
        · rw [e4, e2 i (by omega), up_s]
        · exact e3 j (by omega) h4

theorem reL2 {τ : St} : ∀ (f i : Nat) (w : Nat → Int32), i ≤ 9 → 9 < f + i → ∃ (w' : Nat → Int32) (k : Int32), X8_restore_L2 f (va_up τ 32 w) (nI i) = some (k, va_up τ 32 w') ∧ (∀ j, j < i → w' j = w j) ∧ ∀ j, i ≤ j → j < 9 → w' j = τ 43 j := by
  intro f
  induction f with
  | zero => intro i w h1 h2; omega
  | succ f ih =>
    intro i w h1 h2
    rw [X8_restore_L2_s]
    by_cases e : i = 9
    · subst e
      rw [if_pos (show (9 : Int32) ≤ nI 9 by decide)]
      exact ⟨w, _, rfl, fun _ _ => rfl, fun j h3 h4 => by omega⟩
    · rw [if_neg (show ¬ (9 : Int32) ≤ nI i from nI_ge (b := 9) (by omega) (by omega)), vu_c (by decide), rd_n (by omega) (by omega), bd_s, wa_u (by omega) (by omega), bd_s, show nI i + (1 : Int32) = nI (i + 1) from nI_1 i]
      obtain ⟨w', k, e1, e2, e3⟩ := ih (i + 1) (upd w i (τ 43 i)) (by omega) (by omega)
      refine ⟨w', k, e1, fun j hj => ?_, fun j h3 h4 => ?_⟩
      · rw [e2 j (by omega), up_n (by omega)]
      · by_cases e4 : j = i
        · rw [e4, e2 i (by omega), up_s]
        · exact e3 j (by omega) h4

theorem imL3 {τ : St} : ∀ (f i : Nat) (w : Nat → Int32), i ≤ 8 → 8 < f + i → ∃ (w' : Nat → Int32) (k : Int32), X8_image_L3 f (va_up τ 45 w) (nI i) = some (k, va_up τ 45 w') ∧ (∀ j, j < i → w' j = w j) ∧ ∀ j, i ≤ j → j < 8 → w' j = τ 42 (3 * j + 2) := by
  intro f
  induction f with
  | zero => intro i w h1 h2; omega
  | succ f ih =>
    intro i w h1 h2
    rw [X8_image_L3_s]
    by_cases e : i = 8
    · subst e
      rw [if_pos (show (8 : Int32) ≤ nI 8 by decide)]
      exact ⟨w, _, rfl, fun _ _ => rfl, fun j h3 h4 => by omega⟩
    · have i2 : (3 : Int32) * nI i + 2 = nI (3 * i + 2) := by rw [show (3 : Int32) = nI 3 from rfl, pk_mul]; exact nI_add _ 2
      rw [if_neg (show ¬ (8 : Int32) ≤ nI i from nI_ge (b := 8) (by omega) (by omega)), vu_c (by decide), i2, rd_n (by omega) (by omega), bd_s, wa_u (by omega) (by omega), bd_s, show nI i + (1 : Int32) = nI (i + 1) from nI_1 i]
      obtain ⟨w', k, e1, e2, e3⟩ := ih (i + 1) (upd w i (τ 42 (3 * i + 2))) (by omega) (by omega)
      refine ⟨w', k, e1, fun j hj => ?_, fun j h3 h4 => ?_⟩
      · rw [e2 j (by omega), up_n (by omega)]
      · by_cases e4 : j = i
        · rw [e4, e2 i (by omega), up_s]
        · exact e3 j (by omega) h4
theorem reL3 {τ : St} : ∀ (f i : Nat) (w : Nat → Int32), i ≤ 8 → 8 < f + i → ∃ (w' : Nat → Int32) (k : Int32), X8_restore_L3 f (va_up τ 42 w) (nI i) = some (k, va_up τ 42 w') ∧ (∀ q, (∀ j, i ≤ j → j < 8 → q ≠ 3 * j + 2) → w' q = w q) ∧ ∀ j, i ≤ j → j < 8 → w' (3 * j + 2) = τ 45 j := by
  intro f
  induction f with
  | zero => intro i w h1 h2; omega
  | succ f ih =>
    intro i w h1 h2
    rw [X8_restore_L3_s]
    by_cases e : i = 8
    · subst e
      rw [if_pos (show (8 : Int32) ≤ nI 8 by decide)]
      exact ⟨w, _, rfl, fun _ _ => rfl, fun j h3 h4 => by omega⟩
    · have i2 : (3 : Int32) * nI i + 2 = nI (3 * i + 2) := by rw [show (3 : Int32) = nI 3 from rfl, pk_mul]; exact nI_add _ 2
      rw [if_neg (show ¬ (8 : Int32) ≤ nI i from nI_ge (b := 8) (by omega) (by omega)), vu_c (by decide), rd_n (by omega) (by omega), bd_s, i2, wa_u (by omega) (by omega), bd_s, show nI i + (1 : Int32) = nI (i + 1) from nI_1 i]
      obtain ⟨w', k, e1, e2, e3⟩ := ih (i + 1) (upd w (3 * i + 2) (τ 45 i)) (by omega) (by omega)
      refine ⟨w', k, e1, fun q hq => ?_, fun j h3 h4 => ?_⟩
      · rw [e2 q (fun j h5 h6 => hq j (by omega) h6), up_n (hq i (Nat.le_refl _) (by omega))]
      · by_cases e4 : j = i
        · rw [e4, e2 _ (fun j h5 h6 => by omega), up_s]
        · exact e3 j (by omega) h4
theorem cpy0 {f g : Nat → Int32} {n j : Nat} (h : j < n) : va_cpy f g 0 0 n j = f j := by
  unfold va_cpy
  rw [if_pos (by omega)]
  simp
theorem sim_image : Sim_image Inv := by
  intro σ τ I
  obtain ⟨n, kd, by_, td, S, hQ, hC, hM, hW, hP, hMt, hS, ⟨sg, z1, z2, z3, z4, z5⟩, hK, h9, h10⟩ := id I
  obtain ⟨q9, q1, q2, q3, q4, q5, q6⟩ := id hQ
  obtain ⟨hn, ha, hkk, hbb, htt, hss⟩ := id hC
  obtain ⟨hn', hk', hb', ht', hs'⟩ := id hM
  obtain ⟨w1, k1, e1, -, f1⟩ := imL1 (τ := τ) 10000 0 (τ 44) (by omega) (by omega)
  rw [vu_self] at e1
  change X8_image_L1 10000 τ 0 = _ at e1
  obtain ⟨w2, k2, e2, -, f2⟩ := imL2 (τ := va_up τ 44 w1) 10000 0 (τ 43) (by omega) (by omega)
  rw [show va_up (va_up τ 44 w1) 43 (τ 43) = va_up τ 44 w1 from vu_self (σ := va_up τ 44 w1)] at e2
  change X8_image_L2 10000 _ 0 = _ at e2
  obtain ⟨w3, k3, e3, -, f3⟩ := imL3 (τ := va_up (va_up τ 44 w1) 43 w2) 10000 0 (τ 45) (by omega) (by omega)
  rw [show va_up (va_up (va_up τ 44 w1) 43 w2) 45 (τ 45) = va_up (va_up τ 44 w1) 43 w2 from vu_self (σ := va_up (va_up τ 44 w1) 43 w2)] at e3
  change X8_image_L3 10000 _ 0 = _ at e3
  obtain ⟨τ3, hτ3⟩ : ∃ x, x = va_up (va_up (va_up τ 44 w1) 43 w2) 45 w3 := ⟨_, rfl⟩
  have J : IA (X1_keep σ) (s2 (s2 τ3 29 21 (τ3 29 0)) 29 22 (s2 τ3 29 21 (τ3 29 0) 29 18)) n kd by_ td S := by
    subst hτ3
    refine ⟨hQ, hC, hM, hW, hP, hMt, hS, ⟨sg, z1, z2, z3, z4, z5⟩, Or.inr ⟨n, sg, td, S, fun i => (σ 21 i).toNatClampNeg, q9, z1, hn, hn', z2, z3, fun i hi => ⟨q3 i hi, ?_, ?_⟩, q4, fun d a d1 d2 d3 => ?_, fun a b a1 a2 => ?_, q5, q6, fun i hi => ?_⟩, h9, h10⟩
    · show va_cpy (σ 4) (σ 23) 0 0 9 i = _
      rw [cpy0 hi]; exact htt i hi
    · show w2 i = _
      rw [f2 i (Nat.zero_le _) hi]; exact ht' i hi
    · show va_cpy (σ 5) (σ 24) 0 0 72 _ = _
      rw [cpy0 (by omega)]; exact hss d a d1 d2 d3
    · show w1 _ = _
      rw [f1 _ (Nat.zero_le _) (by omega)]; exact hs' a b a1 a2
    · obtain ⟨q, b1, b2, b3, b4⟩ := z5 i hi
      have hc : (σ 21 i).toNatClampNeg = q := by rw [b2]; exact nI_clamp (by omega)
      show (σ 21 i).toNatClampNeg ≤ 2 ∧ va_cpy (σ 21) (σ 25) 0 0 8 i = nI (σ 21 i).toNatClampNeg ∧ (i < sg → w3 i = nI (σ 21 i).toNatClampNeg) ∧ (sg ≤ i → (σ 21 i).toNatClampNeg = 0)
      rw [hc, cpy0 hi]
      refine ⟨b1, b2, fun h => ?_, b4⟩
      rw [f3 i (Nat.zero_le _) hi]
      exact b3 h
  obtain ⟨τ', e4, e5⟩ := km_e J
  refine ⟨nI (ct (KN n kd td S 9) n), X1_keep σ, τ', ?_, ?_, n, kd, by_, td, S, e5⟩
  · unfold X7_image
    rw [lt_e, hmo_e (σ := X1_keep σ) hQ hW, bd_s]
  · unfold X8_image
    rw [e1, bd_s, e2, bd_s, e3, bd_s, ← hτ3, lt_e, lt_e, e4, bd_s]
theorem sim_restore : Sim_restore Inv := by
  intro σ τ I
  obtain ⟨n, kd, by_, td, S, hQ, hC, hM, hW, hP, hMt, hS, ⟨sg, z1, z2, z3, z4, z5⟩, hK, h9, h10⟩ := id I
  obtain ⟨q9, q1, q2, q3, q4, q5, q6⟩ := id hQ
  obtain ⟨hn, ha, hkk, hbb, htt, hss⟩ := id hC
  obtain ⟨hn', hk', hb', ht', hs'⟩ := id hM
  unfold X7_restore X8_restore X1_fits
  simp only [lt_e]
  have no : ((if σ 22 3 = X0_size σ then (if σ 22 4 = X4_size σ then (1 : Int32) else 0) else 0) = 0) → (¬ τ 29 21 = τ 29 0 ∨ (τ 29 21 = τ 29 0 ∧ ¬ τ 29 22 = τ 29 18)) → ∃ (r : Int32) (σ' τ' : St), (if (if σ 22 3 = X0_size σ then (if σ 22 4 = X4_size σ then (1 : Int32) else 0) else 0) = 0 then some ((-103 : Int32), σ) else bd (X7_followWord (X1_giveBack σ)) fun v4 => bd (X6_howManyOn v4 (9 : Int32)) fun v5 => some (v5, v4)) = some (r, σ') ∧ (if τ 29 21 = τ 29 0 then (if τ 29 22 = τ 29 18 then (bd (X8_restore_L1 10000 τ (0 : Int32)) fun v3 => bd (X8_restore_L2 10000 v3.2 (0 : Int32)) fun v7 => bd (X8_restore_L3 10000 v7.2 (0 : Int32)) fun v11 => bd (X8_knowMany v11.2) fun v15 => some (v15.1, v15.2)) else some ((-103 : Int32), τ)) else some ((-103 : Int32), τ)) = some (r, τ') ∧ Inv σ' τ' := by
    intro a b
    refine ⟨-103, σ, τ, by rw [if_pos a], ?_, I⟩
    rcases b with b | ⟨b1, b2⟩
    · rw [if_neg b]
    · rw [if_pos b1, if_neg b2]
  rcases id hK with ⟨g1, g2⟩ | ⟨n', z', td', S', hh, j1, j2, j3, j4, j5, j6, j7, j8, j9, j10, j11, j12, j13⟩
  · have ne : ∀ m, m ≤ 9 → ¬ (-1 : Int32) = nI m := by decide +kernel
    apply no
    · rw [if_neg (show ¬ σ 22 3 = X0_size σ from by rw [g1, show X0_size σ = nI n from hn]; exact ne n q9)]
    · left
      rw [g2, hn']
      exact ne n q9
  · by_cases c1 : n' = n
    · by_cases c2 : z' = sg
      · subst c1
        subst c2
        have fit : (if σ 22 3 = X0_size σ then (if σ 22 4 = X4_size σ then (1 : Int32) else 0) else 0) = 1 := by
          rw [if_pos (show σ 22 3 = X0_size σ from j3.trans hn.symm), if_pos (show σ 22 4 = X4_size σ from j5.trans z2.symm)]
        rw [fit, if_neg one0, if_pos (j4.trans hn'.symm), if_pos (j6.trans z3.symm)]
        have hQ' : GQ n' kd by_ td' S' := ⟨j1, q1, q2, fun i hi => (j7 i hi).1, j8, j11, j12⟩
        have hC' : GC ((X1_giveBack σ) 1) ((X1_giveBack σ) 2) ((X1_giveBack σ) 3) ((X1_giveBack σ) 4) ((X1_giveBack σ) 5) n' kd by_ td' S' := by
          refine ⟨hn, ha, hkk, hbb, fun i hi => ?_, fun d a d1 d2 d3 => ?_⟩
          · show va_cpy (σ 23) (σ 4) 0 0 9 i = _
            rw [cpy0 hi]; exact (j7 i hi).2.1
          · show va_cpy (σ 24) (σ 5) 0 0 72 _ = _
            rw [cpy0 (by omega)]; exact j9 d a d1 d2 d3
        obtain ⟨σ', s1, s2', s3⟩ := fwd_e hQ' hC'
        obtain ⟨w1, k1, e1, -, f1⟩ := reL1 (τ := τ) 10000 0 (τ 33) (by omega) (by omega)
        rw [vu_self] at e1
        change X8_restore_L1 10000 τ 0 = _ at e1
        obtain ⟨w2, k2, e2, -, f2⟩ := reL2 (τ := va_up τ 33 w1) 10000 0 (τ 32) (by omega) (by omega)
        rw [show va_up (va_up τ 33 w1) 32 (τ 32) = va_up τ 33 w1 from vu_self (σ := va_up τ 33 w1)] at e2
        change X8_restore_L2 10000 _ 0 = _ at e2
        obtain ⟨w3, k3, e3, f4, f3⟩ := reL3 (τ := va_up (va_up τ 33 w1) 32 w2) 10000 0 (τ 42) (by omega) (by omega)
        rw [show va_up (va_up (va_up τ 33 w1) 32 w2) 42 (τ 42) = va_up (va_up τ 33 w1) 32 w2 from vu_self (σ := va_up (va_up τ 33 w1) 32 w2)] at e3
        change X8_restore_L3 10000 _ 0 = _ at e3
        obtain ⟨τ3, hτ3⟩ : ∃ x, x = va_up (va_up (va_up τ 33 w1) 32 w2) 42 w3 := ⟨_, rfl⟩
        have J : IA σ' τ3 n' kd by_ td' S' := by
          subst hτ3
          refine ⟨hQ', ?_, ?_, s3, ?_, ?_, ?_, ⟨z', z1, ?_, z3, fun i hi => ?_, fun i hi => ?_⟩, ?_, ?_, ?_⟩
          · rw [s2' 1 (by decide) (by decide), s2' 2 (by decide) (by decide), s2' 3 (by decide) (by decide), s2' 4 (by decide) (by decide), s2' 5 (by decide) (by decide)]
            exact hC'
          · refine ⟨hn', hk', hb', fun i hi => ?_, fun a b a1 a2 => ?_⟩
            · show w2 i = _
              rw [f2 i (Nat.zero_le _) hi]; exact (j7 i hi).2.2
            · show w1 _ = _
              rw [f1 _ (Nat.zero_le _) (by omega)]; exact j10 a b a1 a2
          · rw [s2' 8 (by decide) (by decide), s2' 9 (by decide) (by decide)]; exact hP
          · rw [s2' 10 (by decide) (by decide), s2' 11 (by decide) (by decide), s2' 12 (by decide) (by decide), s2' 13 (by decide) (by decide), s2' 14 (by decide) (by decide)]; exact hMt
          · rw [s2' 15 (by decide) (by decide), s2' 16 (by decide) (by decide), s2' 17 (by decide) (by decide)]; exact hS
          · rw [s2' 18 (by decide) (by decide)]; exact z2
          · rw [s2' 19 (by decide) (by decide), s2' 20 (by decide) (by decide)]
            obtain ⟨p, p2, b1, b2, b3, b4, b5, b6, b7, b8⟩ := z4 i hi
            refine ⟨p, p2, b1, b2, b3, b4, b5, b6, ?_, ?_⟩
            · show w3 _ = _
              rw [f4 _ (fun j _ h => by omega)]; exact b7
            · show w3 _ = _
              rw [f4 _ (fun j _ h => by omega)]; exact b8
          · rw [s2' 21 (by decide) (by decide)]
            obtain ⟨b1, b2, b3, b4⟩ := j13 i hi
            refine ⟨hh i, b1, ?_, fun h => ?_, b4⟩
            · show va_cpy (σ 25) (σ 21) 0 0 8 i = _
              rw [cpy0 hi]; exact b2
            · show w3 _ = _
              rw [f3 i (Nat.zero_le _) hi]; exact b3 h
          · rw [s2' 22 (by decide) (by decide), s2' 23 (by decide) (by decide), s2' 24 (by decide) (by decide), s2' 25 (by decide) (by decide)]; exact hK
          · rw [s2' 0 (by decide) (by decide)]; exact h9
          · rw [s2' 0 (by decide) (by decide)]; exact h10
        obtain ⟨τ', e4, e5⟩ := km_e J
        refine ⟨nI (ct (KN n' kd td' S' 9) n'), σ', τ', ?_, ?_, n', kd, by_, td', S', e5⟩
        · rw [s1, bd_s, hmo_e hQ' s3, bd_s]
        · rw [e1, bd_s, e2, bd_s, e3, bd_s, ← hτ3, e4, bd_s]
      · have c3 : ¬ nI z' = nI sg := fun h => c2 ((nI_eq (by omega) (by omega)).mp h)
        apply no
        · rw [if_neg (show ¬ σ 22 4 = X4_size σ from by rw [j5, show X4_size σ = nI sg from z2]; exact c3)]
          split <;> rfl
        · right
          refine ⟨by rw [j4, hn', c1], ?_⟩
          rw [j6, z3]
          exact c3
    · have c3 : ¬ nI n' = nI n := fun h => c1 ((nI_eq (by omega) (by omega)).mp h)
      apply no
      · rw [if_neg (show ¬ σ 22 3 = X0_size σ from by rw [j3, show X0_size σ = nI n from hn]; exact c3)]
      · left
        rw [j4, hn']
        exact c3
/-! latest -/
def t1 (d g : Nat) : Nat := if g = 0 then d else 0
theorem kn_early {n : Nat} {au : Nat → Bool} {S : Nat → Nat → Nat → Bool} {a : Nat} : ∀ d g, d < a → kn n au (t1 a) S d g = false
  | 0, _, _ => rfl
  | d + 1, g, h => by
    unfold kn
    rw [kn_early d g (by omega), ex_no (fun b _ => by rw [kn_early d b (by omega)]; simp)]
    have : ¬ t1 a g = d + 1 := by unfold t1; split <;> omega
    simp [this]
theorem latL2 {σ : St} {n a : Nat} {S : Nat → Nat → Nat → Bool} {g fi : Int32} (hn : σ 1 5 = nI n) (h9 : n ≤ 9) (hs : ∀ d a, 1 ≤ d → d ≤ 8 → a < 9 → σ 5 ((d - 1) * 9 + a) = nI (bs (S d a) 9)) (ha : 1 ≤ a) : ∀ (f d : Nat), a ≤ d → d ≤ 9 → 9 < f + d → X7_latest_L2 f σ g fi (nI (bs (kn n (fun _ => true) (t1 a) S d) 9)) (nI d) = some (nI (bs (kn n (fun _ => true) (t1 a) S 9) 9), nI 9) := by
  intro f
  induction f with
  | zero => intro d h1 h2 h3; omega
  | succ f ih =>
    intro d h1 h2 h3
    rw [X7_latest_L2_s]
    by_cases e : d = 9
    · subst e
      rw [if_pos (by decide)]
    · rw [if_neg (show ¬ (8 : Int32) < nI d from nI_nlt (a := 8) (by omega) (by omega)), seenAny_e hn h9 hs _ (by omega) (by omega), bd_s, or_n, bs_or, show nI d + (1 : Int32) = nI (d + 1) from nI_1 d, ← ih (d + 1) (by omega) (by omega) (by omega)]
      congr 2
      apply bs_cong
      intro i hi
      show _ = ((kn n (fun _ => true) (t1 a) S d i || decide (t1 a i = d + 1)) || _)
      have : ¬ t1 a i = d + 1 := by unfold t1; split <;> omega
      simp [this]
theorem lofL2 {τ : St} {n a : Nat} {g : Int32} (hn : τ 29 0 = nI n) (h9 : n ≤ 9) (ha : 1 ≤ a) : ∀ (f i : Nat) (w : Nat → Int32), i ≤ n → n < f + i → ∃ (w' : Nat → Int32) (k : Int32), X8_latestOf_L2 f (va_up τ 34 w) g (nI a) (nI i) = some (k, va_up τ 34 w') ∧ (∀ j, j < i → w' j = w j) ∧ ∀ j, i ≤ j → j < n → w' j = nI (if t1 a j = 0 then 10 else t1 a j) := by
  intro f
  induction f with
  | zero => intro i w h1 h2; omega
  | succ f ih =>
    intro i w h1 h2
    rw [X8_latestOf_L2_s, vu_c (by decide), hn]
    by_cases e : i = n
    · subst e
      rw [if_pos (nI_le (Nat.le_refl _) (by omega))]
      exact ⟨w, _, rfl, fun _ _ => rfl, fun j h3 h4 => by omega⟩
    · have hi : i < n := by omega
      have hv : (if nI i = 0 then nI a else (10 : Int32)) = nI (if t1 a i = 0 then 10 else t1 a i) := by
        have hz : (nI i = (0 : Int32)) ↔ i = 0 := nI_eq (b := 0) (by omega) (by omega)
        unfold t1
        by_cases c : i = 0
        · rw [if_pos (hz.mpr c), if_pos c, if_neg (by omega)]
        · rw [if_neg (fun z => c (hz.mp z)), if_neg c, if_pos rfl]
          rfl
      rw [if_neg (nI_ge hi (by omega)), lt_e, hv, wa_u (by omega) (by omega), bd_s, show nI i + (1 : Int32) = nI (i + 1) from nI_1 i]
      obtain ⟨w', k, e1, e2, e3⟩ := ih (i + 1) (upd w i (nI (if t1 a i = 0 then 10 else t1 a i))) (by omega) (by omega)
      refine ⟨w', k, e1, fun j hj => ?_, fun j h3 h4 => ?_⟩
      · rw [e2 j (by omega), up_n (by omega)]
      · by_cases e4 : j = i
        · rw [e4, e2 i (by omega), up_s]
        · exact e3 j (by omega) h4
theorem lat_t {σ τ : St} {n g : Nat} {kd by_ td : Nat → Nat} {S : Nat → Nat → Nat → Bool} (I : IA σ τ n kd by_ td S) (hg : g < n) : ∀ (f d : Nat) (w : Nat → Int32), d ≤ 8 → d < f → ∃ (w' : Nat → Int32), (∃ r : Nat, X7_latest_L1 f σ (nI g) (nI d) = some (Sum.inl (nI r)) ∧ X8_latestOf_L1 f (va_up τ 34 w) (nI g) (nI d) = some (Sum.inl (nI r, va_up τ 34 w'))) ∨ (∃ k k', X7_latest_L1 f σ (nI g) (nI d) = some (Sum.inr k) ∧ X8_latestOf_L1 f (va_up τ 34 w) (nI g) (nI d) = some (Sum.inr (k', va_up τ 34 w'))) := by
  obtain ⟨⟨h9, q1, -⟩, ⟨hn, -, -, -, -, hss⟩, ⟨hn', hk', -, -, hs'⟩, -⟩ := I
  intro f
  induction f with
  | zero => intro d w h1 h2; omega
  | succ f ih =>
    intro d w h1 h2
    rw [X7_latest_L1_s, X8_latestOf_L1_s]
    by_cases e : d = 0
    · subst e
      rw [if_pos (by decide), if_pos (by decide)]
      exact ⟨w, Or.inr ⟨_, _, rfl, rfl⟩⟩
    · rw [if_neg (show ¬ nI d < (1 : Int32) from nI_nlt (b := 1) (by omega) (by omega)), if_neg (nI_nle (by omega) (by omega))]
      have hst : (1 : Int32) = nI (bs (kn n (fun _ => true) (t1 d) S d) 9) := by
        have : bs (kn n (fun _ => true) (t1 d) S d) 9 = 1 := by
          have h1 : (1 : Nat) = bs (fun i => decide (i = 0)) 9 := by decide
          rw [h1]
          apply bs_cong
          intro i hi
          rw [kn_un _ _ _ _ d i (by omega)]
          unfold un
          rw [kn_early (d - 1) i (by omega), ex_no (fun b _ => by rw [kn_early (d - 1) b (by omega)]; simp)]
          unfold t1
          by_cases c : i = 0
          · simp [c]
          · simp [c]; omega
        rw [this]
        rfl
      have l2 := latL2 (g := nI g) (fi := nI d) hn h9 hss (show 1 ≤ d by omega) 10000 d (Nat.le_refl _) (by omega) (by omega)
      rw [← hst] at l2
      obtain ⟨w1, k1, e1, -, e3⟩ := lofL2 (τ := τ) (g := nI g) hn' h9 (show 1 ≤ d by omega) 10000 0 w (Nat.zero_le _) (by omega)
      change X8_latestOf_L2 10000 _ _ _ 0 = _ at e1
      obtain ⟨w2, v, s1, s2'⟩ := sp_e (τ := τ) (kd := kd) (td := t1 d) (S := S) (x1 := 1) (au := fun _ => true) hn' h9 hk' q1 hs' (fun i hi => by simp [one0]) (fun i hi => by unfold t1; split <;> omega) w1 (fun j hj => e3 j (Nat.zero_le _) hj)
      obtain ⟨a1, a2, a3⟩ := s2' g hg
      have hd := kn_of a3 (d := 9) (by omega)
      rw [l2, bd_s, lt_e, e1, bd_s, s1, bd_s, vu_q, rd_n (by omega) (by omega), bd_s, a1]
      unfold X7_bit
      rw [bit_bs (by omega) (by omega)]
      by_cases c : v g ≤ 9
      · rw [if_neg (show ¬ (10 : Int32) ≤ nI (v g) from nI_ge (b := 10) (by omega) (by omega)), hd.mp c, if_pos (show (if true = true then (1 : Int32) else 0) = 1 by decide)]
        exact ⟨w2, Or.inl ⟨d, rfl, rfl⟩⟩
      · have hk : kn n (fun _ => true) (t1 d) S 9 g = false := by
          cases h : kn n (fun _ => true) (t1 d) S 9 g
          · rfl
          · exact absurd (hd.mpr h) c
        rw [if_pos (show (10 : Int32) ≤ nI (v g) from nI_le (a := 10) (by omega) (by omega)), hk, if_neg (show ¬ (if false = true then (1 : Int32) else 0) = 1 by decide)]
        obtain ⟨d', rfl⟩ : ∃ d', d = d' + 1 := ⟨d - 1, by omega⟩
        rw [pk_m1]
        exact ih d' w2 (by omega) (by omega)
theorem latest_t {σ τ : St} {n g : Nat} {kd by_ td : Nat → Nat} {S : Nat → Nat → Nat → Bool} (I : IA σ τ n kd by_ td S) (hg : g < n) : ∃ (r : Int32) (τ' : St), X7_latest σ (nI g) = some r ∧ X8_latestOf τ (nI g) = some (r, τ') ∧ IA σ τ' n kd by_ td S := by
  have hn := I.2.1.1
  have h9 := I.1.1
  obtain ⟨w, h⟩ := lat_t I hg 10000 8 (τ 34) (by omega) (by omega)
  rw [vu_self] at h
  unfold X7_latest X8_latestOf
  rw [lt_e, hasC hn h9, toI_n (by omega), if_pos (show (0 : Int) ≤ (g : Int) ∧ (g : Int) < n by omega), if_neg one0]
  rcases h with ⟨r, e1, e2⟩ | ⟨k, k', e1, e2⟩
  · change X7_latest_L1 10000 σ (nI g) 8 = _ at e1
    change X8_latestOf_L1 10000 τ (nI g) 8 = _ at e2
    rw [e1, e2, bd_s, bd_s]
    exact ⟨_, _, rfl, rfl, IA_34 I⟩
  · change X7_latest_L1 10000 σ (nI g) 8 = _ at e1
    change X8_latestOf_L1 10000 τ (nI g) 8 = _ at e2
    rw [e1, e2, bd_s, bd_s]
    exact ⟨_, _, rfl, rfl, IA_34 I⟩
theorem sim_latest : Sim_latest Inv := by
  intro σ τ x1 I
  obtain ⟨n, kd, by_, td, S, J⟩ := id I
  obtain ⟨hQ, ⟨hn, -⟩, ⟨hn', -⟩, -⟩ := id J
  have h9 := hQ.1
  by_cases c : 0 ≤ x1.toInt ∧ x1.toInt < n
  · obtain ⟨g, hg, rfl⟩ := of_has (by omega) c
    obtain ⟨r, τ', e1, e2, e3⟩ := latest_t J hg
    refine ⟨r, τ', e1, ?_, n, kd, by_, td, S, e3⟩
    unfold X8_latest
    rw [lt_e, hasM hn' h9, if_pos c, if_neg one0, e2, bd_s]
  · refine ⟨-101, τ, ?_, ?_, I⟩
    · unfold X7_latest
      rw [lt_e, hasC hn h9, if_neg c, if_pos rfl]
    · unfold X8_latest
      rw [lt_e, hasM hn' h9, if_neg c, if_pos rfl]
