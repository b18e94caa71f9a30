/-! digest -/
theorem mix_say (h v : Int64) : X7_mix h v = X8_say h v := rfl
theorem dgG2 {σ : St} {n g : Nat} {kd by_ td : Nat → Nat} {S : Nat → Nat → Nat → Bool} (hg : g < n) : ∀ (f y : Nat) (h : Int64) (τ : St), IA σ τ n kd by_ td S → y ≤ 4 → 4 < f + y → ∃ h' k k' τ', X7_mixGuests_L2 f σ h (nI g) (nI y) = some (h', k) ∧ X8_digest_L2 f τ h (nI g) (nI y) = some (k', τ', h') ∧ IA σ τ' n kd by_ td S := by
  intro f
  induction f with
  | zero => intro y h τ I h1 h2; omega
  | succ f ih =>
    intro y h τ I h1 h2
    rw [X7_mixGuests_L2_s, X8_digest_L2_s]
    by_cases e : y = 4
    · subst e
      rw [if_pos (show (3 : Int32) < nI 4 by decide), if_pos (show (4 : Int32) ≤ nI 4 by decide)]
      exact ⟨h, _, _, τ, rfl, rfl, I⟩
    · obtain ⟨r, τ', e1, e2, e3⟩ := about_t I hg (nI y)
      rw [if_neg (show ¬ (3 : Int32) < nI y from nI_nlt (a := 3) (by omega) (by omega)), if_neg (show ¬ (4 : Int32) ≤ nI y from nI_ge (b := 4) (by omega) (by omega)), e1, bd_s, e2, bd_s, lt_e, lt_e, mix_say, show nI y + (1 : Int32) = nI (y + 1) from nI_1 y]
      exact ih (y + 1) _ τ' e3 (by omega) (by omega)
theorem dgG1 {σ : St} {n : Nat} {kd by_ td : Nat → Nat} {S : Nat → Nat → Nat → Bool} : ∀ (f i : Nat) (h : Int64) (τ : St), IA σ τ n kd by_ td S → i ≤ n → n < f + i → ∃ h' k k' τ', X7_mixGuests_L1 f σ h (nI i) = some (h', k) ∧ X8_digest_L1 f τ h (nI i) = some (k', τ', h') ∧ IA σ τ' n kd by_ td S := by
  intro f
  induction f with
  | zero => intro i h τ I h1 h2; omega
  | succ f ih =>
    intro i h τ I h1 h2
    obtain ⟨hQ, hC, hG, -⟩ := id I
    have h9 := hQ.1
    rw [X7_mixGuests_L1_s, X8_digest_L1_s, lt_e, hG.1]
    unfold X0_size
    rw [hC.1]
    by_cases e : i = n
    · subst e
      rw [if_pos (nI_le (Nat.le_refl _) (by omega)), if_pos (nI_le (Nat.le_refl _) (by omega))]
      exact ⟨h, _, _, τ, rfl, rfl, I⟩
    · have hi : i < n := by omega
      obtain ⟨h1', k, k', τ1, e1, e2, e3⟩ := dgG2 hi 10000 0 h τ I (by omega) (by omega)
      change X7_mixGuests_L2 10000 σ h (nI i) 0 = _ at e1
      change X8_digest_L2 10000 τ h (nI i) 0 = _ at e2
      obtain ⟨r, τ2, f1, f2, f3⟩ := latest_t e3 hi
      rw [if_neg (nI_ge hi (by omega)), if_neg (nI_ge hi (by omega)), e1, bd_s, e2, bd_s, f1, bd_s]
      dsimp only
      rw [f2, bd_s, lt_e, lt_e, mix_say, show nI i + (1 : Int32) = nI (i + 1) from nI_1 i]
      exact ih (i + 1) _ τ2 f3 (by omega) (by omega)
theorem dgM2 {σ : St} {n i mt : Nat} {kd by_ td : Nat → Nat} {S : Nat → Nat → Nat → Bool} (h15 : mt ≤ 15) (hz : σ 10 4 = nI mt) (hi : i < mt) : ∀ (f y : Nat) (h : Int64) (τ : St), IA σ τ n kd by_ td S → y ≤ 4 → 4 < f + y → ∃ h' k k' τ', X7_mixMeetings_L2 f σ h (nI i) (nI y) = some (h', k) ∧ X8_digest_L4 f τ h (nI i) (nI y) = some (k', τ', h') ∧ IA σ τ' n kd by_ td S := by
  intro f
  induction f with
  | zero => intro y h τ I h1 h2; omega
  | succ f ih =>
    intro y h τ I h1 h2
    rw [X7_mixMeetings_L2_s, X8_digest_L4_s]
    by_cases e : y = 4
    · subst e
      rw [if_pos (show (3 : Int32) < nI 4 by decide), if_pos (show (4 : Int32) ≤ nI 4 by decide)]
      exact ⟨h, _, _, τ, rfl, rfl, I⟩
    · obtain ⟨r, τ', e1, e2, e3⟩ := meeting_t I h15 hz hi (nI y)
      rw [if_neg (show ¬ (3 : Int32) < nI y from nI_nlt (a := 3) (by omega) (by omega)), if_neg (show ¬ (4 : Int32) ≤ nI y from nI_ge (b := 4) (by omega) (by omega)), e1, bd_s, e2, bd_s, lt_e, lt_e, mix_say, show nI y + (1 : Int32) = nI (y + 1) from nI_1 y]
      exact ih (y + 1) _ τ' e3 (by omega) (by omega)
theorem dgM1 {σ : St} {n mt : Nat} {kd by_ td : Nat → Nat} {S : Nat → Nat → Nat → Bool} (h15 : mt ≤ 15) (hz : σ 10 4 = nI mt) : ∀ (f i : Nat) (h : Int64) (τ : St), IA σ τ n kd by_ td S → i ≤ mt → mt < f + i → ∃ h' k k' τ', X7_mixMeetings_L1 f σ h (nI i) = some (h', k) ∧ X8_digest_L3 f τ h (nI i) = some (k', τ', h') ∧ IA σ τ' n kd by_ td S := by
  intro f
  induction f with
  | zero => intro i h τ I h1 h2; omega
  | succ f ih =>
    intro i h τ I h1 h2
    obtain ⟨-, -, -, -, -, ⟨mt', mg, md, me, m15, z1, z2, hM⟩, -⟩ := id I
    have hmt : mt' = mt := (nI_eq (by omega) (by omega)).mp (z1.symm.trans hz)
    subst hmt
    rw [X7_mixMeetings_L1_s, X8_digest_L3_s, lt_e, z2]
    unfold X2_size
    rw [z1]
    by_cases e : i = mt'
    · subst e
      rw [if_pos (nI_le (Nat.le_refl _) (by omega)), if_pos (nI_le (Nat.le_refl _) (by omega))]
      exact ⟨h, _, _, τ, rfl, rfl, I⟩
    · have hi : i < mt' := by omega
      obtain ⟨h1', k, k', τ1, e1, e2, e3⟩ := dgM2 h15 hz hi 10000 0 h τ I (by omega) (by omega)
      change X7_mixMeetings_L2 10000 σ h (nI i) 0 = _ at e1
      change X8_digest_L4 10000 τ h (nI i) 0 = _ at e2
      rw [if_neg (nI_ge hi (by omega)), if_neg (nI_ge hi (by omega)), e1, bd_s, e2, bd_s, show nI i + (1 : Int32) = nI (i + 1) from nI_1 i]
      exact ih (i + 1) _ τ1 e3 (by omega) (by omega)
theorem dgS {σ τ : St} {sg : Nat} (h8 : sg ≤ 8) (z1 : σ 18 3 = nI sg) (z2 : τ 29 18 = nI sg) (hz : ∀ i, i < sg → ∃ p q, 1 ≤ p ∧ p ≤ 9 ∧ 1 ≤ q ∧ q ≤ 9 ∧ σ 19 i = nI p ∧ σ 20 i = nI q ∧ τ 42 (3 * i) = nI p ∧ τ 42 (3 * i + 1) = nI q) (hh : ∀ i, i < 8 → ∃ q, q ≤ 2 ∧ σ 21 i = nI q ∧ (i < sg → τ 42 (3 * i + 2) = nI q) ∧ (sg ≤ i → q = 0)) : ∀ (f i : Nat) (h : Int64), i ≤ sg → sg < f + i → ∃ h' k, X7_mixSigns_L1 f σ h (nI i) = some (h', k) ∧ ∀ f', 3 * (sg - i) < f' → X8_digest_L5 f' τ h (nI (3 * i)) = some (nI (3 * sg), h') := by
  intro f
  induction f with
  | zero => intro i h h1 h2; omega
  | succ f ih =>
    intro i h h1 h2
    have e18 : (3 : Int32) * τ 29 18 = nI (3 * sg) := by rw [z2, tri0]
    rw [X7_mixSigns_L1_s, lt_e]
    unfold X4_size
    rw [z1]
    by_cases e : i = sg
    · subst e
      rw [if_pos (nI_le (Nat.le_refl _) (by omega))]
      refine ⟨h, _, rfl, fun f' hf => ?_⟩
      obtain ⟨m, rfl⟩ : ∃ m, f' = m + 1 := ⟨f' - 1, by omega⟩
      rw [X8_digest_L5_s, e18, if_pos (nI_le (Nat.le_refl _) (by omega))]
    · have hi : i < sg := by omega
      obtain ⟨p, q, -, -, -, -, a1, a2, a3, a4⟩ := hz i hi
      obtain ⟨k, k1, k2, k3, -⟩ := hh i (by omega)
      have hs : X4_has σ (nI i) = 1 := by
        have : X4_has σ (nI i) = if 0 ≤ (nI i).toInt ∧ (nI i).toInt < sg then 1 else 0 := has_e (by omega) z1
        rw [this, toI_n (by omega), if_pos (show (0 : Int) ≤ (i : Int) ∧ (i : Int) < sg by omega)]
      have w1 : X4_withOf σ (nI i) = some (nI p) := by
        unfold X4_withOf
        rw [lt_e, hs, if_neg one0, rd_n (by omega) (by omega), bd_s, a1]
      have w2 : X4_withoutOf σ (nI i) = some (nI q) := by
        unfold X4_withoutOf
        rw [lt_e, hs, if_neg one0, rd_n (by omega) (by omega), bd_s, a2]
      have w3 : X4_howOf σ (nI i) = some (nI k) := by
        unfold X4_howOf
        rw [lt_e, hs, if_neg one0, rd_n (by omega) (by omega), bd_s, k2]
      rw [if_neg (nI_ge hi (by omega)), w1, bd_s, lt_e, w2, bd_s, lt_e, w3, bd_s, lt_e, mix_say, mix_say, mix_say, show nI i + (1 : Int32) = nI (i + 1) from nI_1 i]
      obtain ⟨h', k', e1, e2⟩ := ih (i + 1) (X8_say (X8_say (X8_say h (nI p).toInt64) (nI q).toInt64) (nI k).toInt64) (by omega) (by omega)
      refine ⟨h', k', e1, fun f' hf => ?_⟩
      obtain ⟨m, rfl⟩ : ∃ m, f' = m + 1 + 1 + 1 := ⟨f' - 3, by omega⟩
      have s1 : nI (3 * i) + (1 : Int32) = nI (3 * i + 1) := nI_1 _
      have s2 : nI (3 * i + 1) + (1 : Int32) = nI (3 * i + 2) := nI_1 _
      have s3 : nI (3 * i + 2) + (1 : Int32) = nI (3 * (i + 1)) := nI_1 _
      rw [X8_digest_L5_s, e18, if_neg (nI_ge (by omega) (by omega)), rd_n (by omega) (by omega), bd_s, a3, lt_e, s1, X8_digest_L5_s, e18, if_neg (nI_ge (by omega) (by omega)), rd_n (by omega) (by omega), bd_s, a4, lt_e, s2, X8_digest_L5_s, e18, if_neg (nI_ge (by omega) (by omega)), rd_n (by omega) (by omega), bd_s, k3 hi, lt_e, s3]
      exact e2 m (by omega)
theorem dgL {σ τ : St} {pm : Nat} (p1 : pm ≤ 60) (p2 : σ 8 1 = nI pm) (p3 : τ 29 7 = nI pm) (p4 : ∀ i, i < pm → ∃ q, 1 ≤ q ∧ q ≤ 126 ∧ σ 9 i = nI q ∧ τ 35 i = nI q) : ∀ (f i : Nat) (h : Int64), i ≤ pm → pm < f + i → ∃ h' k k', X7_mixLetters_L1 f σ h (nI i) = some (h', k) ∧ X8_digest_L6 f τ h (nI i) = some (k', h') := by
  intro f
  induction f with
  | zero => intro i h h1 h2; omega
  | succ f ih =>
    intro i h h1 h2
    rw [X7_mixLetters_L1_s, X8_digest_L6_s, lt_e, p3]
    unfold X3_size
    rw [p2]
    by_cases e : i = pm
    · subst e
      rw [if_pos (nI_le (Nat.le_refl _) (by omega)), if_pos (nI_le (Nat.le_refl _) (by omega))]
      exact ⟨h, _, _, rfl, rfl⟩
    · have hi : i < pm := by omega
      obtain ⟨q, -, -, q1, q2⟩ := p4 i hi
      have hc : X3_codeAt σ (nI i) = some (nI q) := by
        unfold X3_codeAt
        rw [if_neg (nI_pos (by omega)), p2, if_neg (nI_ge hi (by omega)), rd_n (by omega) (by omega), bd_s, q1]
      rw [if_neg (nI_ge hi (by omega)), if_neg (nI_ge hi (by omega)), hc, bd_s, rd_n (by omega) (by omega), bd_s, q2, lt_e, lt_e, mix_say, show nI i + (1 : Int32) = nI (i + 1) from nI_1 i]
      exact ih (i + 1) _ (by omega) (by omega)
theorem dgC {σ : St} {n : Nat} {kd by_ td : Nat → Nat} {S : Nat → Nat → Nat → Bool} : ∀ (f y : Nat) (h : Int64) (τ : St), IA σ τ n kd by_ td S → y ≤ 8 → 8 < f + y → ∃ h' k k' τ', X7_digest_L1 f σ h (nI y) = some (h', k) ∧ X8_digest_L7 f τ h (nI y) = some (k', τ', h') ∧ IA σ τ' n kd by_ td S := by
  intro f
  induction f with
  | zero => intro y h τ I h1 h2; omega
  | succ f ih =>
    intro y h τ I h1 h2
    rw [X7_digest_L1_s, X8_digest_L7_s]
    by_cases e : y = 8
    · subst e
      rw [if_pos (show (7 : Int32) < nI 8 by decide), if_pos (show (8 : Int32) ≤ nI 8 by decide)]
      exact ⟨h, _, _, τ, rfl, rfl, I⟩
    · obtain ⟨r, τ', e1, e2, e3⟩ := count_t I (nI y)
      rw [if_neg (show ¬ (7 : Int32) < nI y from nI_nlt (a := 7) (by omega) (by omega)), if_neg (show ¬ (8 : Int32) ≤ nI y from nI_ge (b := 8) (by omega) (by omega)), e1, bd_s, e2, bd_s, lt_e, lt_e, mix_say, show nI y + (1 : Int32) = nI (y + 1) from nI_1 y]
      exact ih (y + 1) _ τ' e3 (by omega) (by omega)
theorem sim_digest : Sim_digest Inv := by
  intro σ τ η I
  obtain ⟨n, kd, by_, td, S, J⟩ := id I
  have h9 := J.1.1
  have t0 : 0 ≤ (0 : Int32).toInt ∧ (0 : Int32).toInt ≤ 1 := by decide
  have t1 : 0 ≤ (1 : Int32).toInt ∧ (1 : Int32).toInt ≤ 1 := by decide
  obtain ⟨a1, k1, k1', τ1, A1, A2, J1⟩ := dgG1 10000 0 613 τ J (Nat.zero_le _) (by omega)
  change X7_mixGuests_L1 10000 σ 613 0 = _ at A1
  change X8_digest_L1 10000 τ 613 0 = _ at A2
  obtain ⟨-, -, -, -, -, ⟨mt, mg, md, me, m15, z1, z2, hM⟩, -⟩ := id J1
  obtain ⟨a2, k2, k2', τ2, B1, B2, J2⟩ := dgM1 m15 z1 10000 0 a1 τ1 J1 (Nat.zero_le _) (by omega)
  change X7_mixMeetings_L1 10000 σ a1 0 = _ at B1
  change X8_digest_L3 10000 τ1 a1 0 = _ at B2
  obtain ⟨r3, τ3, C1, C2, J3⟩ := known_t J2 t0
  obtain ⟨r4, τ4, D1, D2, J4⟩ := known_t J3 t1
  obtain ⟨r5, τ5, E1, E2, J5⟩ := right_t J4
  obtain ⟨r6, σ6, τ6, F1, F2, J6⟩ := hole_t J5
  obtain ⟨r7, τ7, G1, G2, J7⟩ := cover_t J6 t0
  obtain ⟨r8, τ8, H1, H2, J8⟩ := cover_t J7 t1
  obtain ⟨-, -, -, -, ⟨pm, p1, p2, p3, p4⟩, -, -, hZ, -⟩ := id J8
  obtain ⟨sg, s8, s1, s2, s3, s4⟩ := id hZ
  obtain ⟨a9, k9, L1, L2⟩ := dgS s8 s1 s2 s3 s4 10000 0 (X8_say (X8_say (X8_say (X8_say (X8_say (X8_say a2 r3) r4) r5.toInt64) r6.toInt64) r7.toInt64) r8.toInt64) (Nat.zero_le _) (by omega)
  have L2 := L2 10000 (by omega)
  change X7_mixSigns_L1 10000 σ6 _ 0 = _ at L1
  change X8_digest_L5 10000 τ8 _ 0 = _ at L2
  obtain ⟨r10, M1, M2⟩ := belief_t hZ (show 0 < 10 by omega) t0
  obtain ⟨r11, N1, N2⟩ := belief_t hZ (show 0 < 10 by omega) t1
  change X7_belief σ6 0 0 = _ at M1
  change X8_tellBelief τ8 0 0 = _ at M2
  change X7_belief σ6 0 1 = _ at N1
  change X8_tellBelief τ8 0 1 = _ at N2
  obtain ⟨r12, O1, O2⟩ := parting_t hZ
  obtain ⟨a13, k13, k13', P1, P2⟩ := dgL p1 p2 p3 p4 10000 0 (X8_say (X8_say (X8_say a9 r10) r11) r12.toInt64) (Nat.zero_le _) (by omega)
  change X7_mixLetters_L1 10000 σ6 _ 0 = _ at P1
  change X8_digest_L6 10000 τ8 _ 0 = _ at P2
  obtain ⟨a14, k14, k14', τ14, Q1, Q2, J14⟩ := dgC 10000 0 a13 τ8 J8 (by omega) (by omega)
  change X7_digest_L1 10000 σ6 _ 0 = _ at Q1
  change X8_digest_L7 10000 τ8 _ 0 = _ at Q2
  refine ⟨a14, σ6, τ14, a14, ?_, ?_, n, kd, by_, td, S, J14⟩
  · unfold X7_digest X7_mixGuests X7_mixMeetings X7_mixSigns X7_mixLetters
    simp only [lt_e, mix_say, A1, B1, C1, D1, E1, F1, G1, H1, L1, M1, N1, O1, P1, Q1, bd_s]
  · unfold X8_digest
    simp only [lt_e, A2, B2, C2, D2, E2, F2, G2, H2, L2, M2, N2, O2, P2, Q2, bd_s]
