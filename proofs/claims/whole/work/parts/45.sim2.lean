/-! class beside reference: guests and the word -/
theorem kind_e {σ : St} {n g : Nat} {kd : Nat → Nat} (hn : σ 1 5 = nI n) (h9 : n ≤ 9) (hk : ∀ i, i < n → σ 2 i = nI (kd i)) (hg : g < n) : X0_kindOf σ (nI g) = some (nI (kd g)) := by
  unfold X0_kindOf
  rw [lt_e, hasC hn h9, toI_n (by omega), if_pos (show (0 : Int) ≤ (g : Int) ∧ (g : Int) < n by omega), if_neg one0, rd_n (by omega) (by omega), bd_s, hk g hg]
theorem isA_e {σ : St} {n g k : Nat} {kd : Nat → Nat} (hn : σ 1 5 = nI n) (h9 : n ≤ 9) (hk : ∀ i, i < n → σ 2 i = nI (kd i)) (h4 : ∀ i, i < n → kd i ≤ 4) (hg : g < n) (hk4 : k ≤ 4) : X0_isA σ (nI g) (nI k) = some (if k = 0 ∨ k = kd g ∨ (k = 2 ∧ kd g = 4) then 1 else 0) := by
  unfold X0_isA
  rw [kind_e hn h9 hk hg, bd_s]
  have h5 := h4 g hg
  generalize kd g = q at h5
  have key : ∀ k, k < 5 → ∀ q, q < 5 → (if nI q = (-1 : Int32) then some (0 : Int32) else if nI k = 0 then some (1 : Int32) else if nI k = nI q then some (1 : Int32) else if nI k = (2 : Int32) then (if nI q = (4 : Int32) then some (1 : Int32) else some (0 : Int32)) else some (0 : Int32)) = some (if k = 0 ∨ k = q ∨ (k = 2 ∧ q = 4) then 1 else 0) := by decide +kernel
  exact key k (by omega) q (by omega)
theorem sim_as : Sim_as Inv := by
  intro σ τ x1 x2 I
  obtain ⟨n, kd, by_, td, S, ⟨h9, hk4, -⟩, ⟨hn, -, hk, -⟩, ⟨hn', hk', -⟩, -⟩ := id I
  unfold X7_as X8_as
  simp only [lt_e, hasC hn h9, hasM hn' h9, isKind_e, in_e, l0, l4]
  by_cases c : 0 ≤ x1.toInt ∧ x1.toInt < n
  · obtain ⟨g, hg, rfl⟩ := of_has (by omega) c
    rw [if_pos c, if_neg one0, if_neg one0]
    by_cases c2 : 0 ≤ x2.toInt ∧ x2.toInt ≤ 4
    · obtain ⟨k, -, hq, rfl⟩ := of_rng (lo := 0) (hi := 4) (by decide) c2.1 c2.2
      rw [if_pos c2, if_neg one0, if_neg one0, isA_e hn h9 hk hk4 hg hq, bd_s, rd_n (by omega) (by omega), hk' g hg]
      have h5 := hk4 g hg
      generalize kd g = q at h5
      have key : ∀ k, k < 5 → ∀ q, q < 5 → (if nI k = 0 then some (1 : Int32) else bd (some (nI q)) fun v7 => if nI k = v7 then some (1 : Int32) else if nI k = (2 : Int32) then bd (some (nI q)) fun v10 => if v10 = (4 : Int32) then some (1 : Int32) else some (0 : Int32) else some (0 : Int32)) = some (if k = 0 ∨ k = q ∨ (k = 2 ∧ q = 4) then 1 else 0) := by decide +kernel
      rw [key k (by omega) q (by omega), bd_s]
      split
      · exact ⟨_, rfl, rfl, I⟩
      · exact ⟨_, rfl, rfl, I⟩
    · rw [if_neg c2, if_pos rfl, if_pos rfl]
      exact ⟨-102, rfl, rfl, I⟩
  · rw [if_neg c, if_pos rfl, if_pos rfl]
    exact ⟨-101, rfl, rfl, I⟩
theorem kn_none {n : Nat} {au : Nat → Bool} {td : Nat → Nat} {S : Nat → Nat → Nat → Bool} {g : Nat} (ht : td g = 0) (hS : ∀ d a, S d a g = false) : ∀ d, kn n au td S d g = false
  | 0 => rfl
  | d + 1 => by
    unfold kn
    rw [kn_none ht hS d, ht, ex_no (fun a _ => by rw [hS d a]; simp)]
    simp
theorem kn_out {n : Nat} {kd by_ td : Nat → Nat} {S : Nat → Nat → Nat → Bool} (hQ : GQ n kd by_ td S) {g : Nat} (hg : n ≤ g) (au : Nat → Bool) (d : Nat) : kn n au td S d g = false := by
  obtain ⟨-, -, -, -, ht0, hS, -⟩ := hQ
  refine kn_none (ht0 g hg) (fun d a => ?_) d
  cases h : S d a g
  · rfl
  · have := hS d a g h
    omega
theorem kn_grow {n : Nat} {au au' : Nat → Bool} {td : Nat → Nat} {S : Nat → Nat → Nat → Bool} (ha : ∀ i, i < n → au' i = au i) (hS : ∀ d b, S d n b = false) : ∀ d g, kn (n + 1) au' td S d g = kn n au td S d g
  | 0, _ => rfl
  | d + 1, g => by
    unfold kn
    rw [kn_grow ha hS d g]
    have e1 : ex (fun a => (kn (n + 1) au' td S d a && au' a) && S d a g) (n + 1) = ex (fun a => (kn n au td S d a && au a) && S d a g) n := by
      show (ex _ n || ((kn (n + 1) au' td S d n && au' n) && S d n g)) = _
      rw [hS d g, Bool.and_false, Bool.or_false]
      apply ex_cong
      intro a h
      rw [kn_grow ha hS d a, ha a h]
    rw [e1]
theorem suits_e (k : Nat) (hk : k ≤ 4) (x : Int32) : X0_suits (nI k) x = if k = 2 ∨ k = 4 then X7_isDay x else if x = 0 then 1 else 0 := by
  unfold X0_suits
  rcases (by omega : k = 0 ∨ k = 1 ∨ k = 2 ∨ k = 3 ∨ k = 4) with rfl | rfl | rfl | rfl | rfl
  · rw [if_neg (by decide), if_neg (by decide), if_neg (show ¬ ((0 : Nat) = 2 ∨ (0 : Nat) = 4) by decide)]
  · rw [if_neg (by decide), if_neg (by decide), if_neg (show ¬ ((1 : Nat) = 2 ∨ (1 : Nat) = 4) by decide)]
  · rw [if_pos (by decide), if_pos (by decide), lt_e]
  · rw [if_neg (by decide), if_neg (by decide), if_neg (show ¬ ((3 : Nat) = 2 ∨ (3 : Nat) = 4) by decide)]
  · rw [if_neg (by decide), if_pos (by decide), if_pos (by decide), lt_e]
theorem need_e (k : Nat) (hk : k ≤ 4) : X8_isNeeded (nI k) = if k = 2 ∨ k = 4 then 1 else 0 := by
  have key : ∀ k, k < 5 → X8_isNeeded (nI k) = if k = 2 ∨ k = 4 then 1 else 0 := by decide +kernel
  exact key k (by omega)
/-- a guest comes -/
theorem guest_in {σ τ : St} {k b : Nat} (I : Inv σ τ) (hk : k ≤ 4) (hb : b ≤ 8) (hkb : (k = 2 ∨ k = 4) → 1 ≤ b) : ∃ (r : Int32) (σ' τ' : St), X0_add σ (nI k) (nI b) = some (r, σ') ∧ (if τ 29 0 = (9 : Int32) then some ((-104 : Int32), τ) else bd (wa τ 30 9 (τ 29 0) (nI k)) fun τ7 => bd (wa τ7 31 9 (τ7 29 0) (nI b)) fun τ8 => bd (wa τ8 32 9 (τ8 29 0) (0 : Int32)) fun τ9 => lt (s2 τ9 29 0 (τ9 29 0 + (1 : Int32))) fun τ10 => some (τ10 29 0 - (1 : Int32), τ10)) = some (r, τ') ∧ Inv σ' τ' := by
  obtain ⟨n, kd, by_, td, S, hQ, ⟨hn, ha, hkk, hbb, htt, hss⟩, ⟨hn', hk', hb', ht', hs'⟩, hW, hP, ⟨mt, mg, md, me, m1, m2, m3, m4⟩, hS, hZ, hK, h9, h10⟩ := id I
  obtain ⟨q9, q1, q2, q3, q4, q5, q6⟩ := id hQ
  unfold X0_add
  by_cases c : n = 9
  · refine ⟨-104, σ, τ, ?_, ?_, I⟩
    · rw [if_neg (by rw [hn, c]; decide)]
    · rw [if_pos (by rw [hn', c]; rfl)]
  · have hl : n < 9 := by omega
    have e5 : (if nI k = (1 : Int32) then (1 : Int32) else 0) = if k = 1 then 1 else 0 := by
      have : (nI k = (1 : Int32)) ↔ k = 1 := nI_eq (b := 1) (by omega) (by omega)
      by_cases h : k = 1
      · rw [if_pos h, if_pos (this.mpr h)]
      · rw [if_neg h, if_neg (fun z => h (this.mp z))]
    refine ⟨σ 1 5 + 1 - 1, s2 (s2 (s2 (s2 σ 2 n (nI k)) 3 n (nI b)) 1 4 (nI (bs (auN (n + 1) (fun i => if i = n then k else kd i)) 9))) 1 5 (σ 1 5 + 1), s2 (s2 (s2 (s2 τ 30 n (nI k)) 31 n (nI b)) 32 n 0) 29 0 (τ 29 0 + 1), ?_, ?_, n + 1, (fun i => if i = n then k else kd i), (fun i => if i = n then b else by_ i), td, S, ?_, ?_, ?_, ?_, hP, ⟨mt, mg, md, me, m1, m2, m3, fun i hi => ?_⟩, hS, hZ, hK, h9, h10⟩
    · rw [if_pos (by rw [hn]; exact nI_lt (b := 9) hl (by omega)), show wa σ 2 9 (σ 1 5) (nI k) = _ from by rw [hn, wa_n (by omega) (by omega)], bd_s, show wa (s2 σ 2 n (nI k)) 3 9 (s2 σ 2 n (nI k) 1 5) (nI b) = _ from by rw [show s2 σ 2 n (nI k) 1 5 = nI n from hn, wa_n (by omega) (by omega)], bd_s, lt_e, lt_e]
      have e6 : X7_withBit (s2 (s2 σ 2 n (nI k)) 3 n (nI b) 1 4) (s2 (s2 σ 2 n (nI k)) 3 n (nI b) 1 5) (if nI k = (1 : Int32) then (1 : Int32) else 0) = nI (bs (auN (n + 1) (fun i => if i = n then k else kd i)) 9) := by
        rw [show s2 (s2 σ 2 n (nI k)) 3 n (nI b) 1 4 = nI (bs (auN n kd) 9) from ha, show s2 (s2 σ 2 n (nI k)) 3 n (nI b) 1 5 = nI n from hn, e5, wb_e (by omega) (by omega)]
        congr 1
        apply bs_cong
        intro i hi
        unfold auN
        by_cases ei : i = n
        · subst ei
          by_cases h : k = 1 <;> simp [h]
        · have e7 : i < n + 1 ↔ i < n := by omega
          simp [ei, e7]
      rw [e6]
      rfl
    · rw [if_neg (by rw [hn']; exact fun z => c ((nI_eq (b := 9) (by omega) (by omega)).mp z)), show wa τ 30 9 (τ 29 0) (nI k) = _ from by rw [hn', wa_n (by omega) (by omega)], bd_s, show wa (s2 τ 30 n (nI k)) 31 9 (s2 τ 30 n (nI k) 29 0) (nI b) = _ from by rw [show s2 τ 30 n (nI k) 29 0 = nI n from hn', wa_n (by omega) (by omega)], bd_s, show wa (s2 (s2 τ 30 n (nI k)) 31 n (nI b)) 32 9 (s2 (s2 τ 30 n (nI k)) 31 n (nI b) 29 0) 0 = _ from by rw [show s2 (s2 τ 30 n (nI k)) 31 n (nI b) 29 0 = nI n from hn', wa_n (by omega) (by omega)], bd_s, hn, ← hn']
      rfl
    · refine ⟨by omega, fun i hi => ?_, fun i hi => ?_, q3, fun i hi => q4 i (by omega), fun d a b h => ?_, q6⟩
      · by_cases ei : i = n
        · simp only [ei, if_true]; exact hk
        · simp only [ei, if_false]; exact q1 i (by omega)
      · by_cases ei : i = n
        · simp only [ei, if_true]; exact ⟨hb, hkb⟩
        · simp only [ei, if_false]; exact q2 i (by omega)
      · have := q5 d a b h
        omega
    · refine ⟨?_, rfl, fun i hi => ?_, fun i hi => ?_, htt, hss⟩
      · show σ 1 5 + 1 = _
        rw [hn]; exact nI_1 n
      · show upd (σ 2) n (nI k) i = nI (if i = n then k else kd i)
        by_cases ei : i = n
        · rw [ei, up_s, if_pos rfl]
        · rw [up_n ei, if_neg ei]; exact hkk i (by omega)
      · show upd (σ 3) n (nI b) i = nI (if i = n then b else by_ i)
        by_cases ei : i = n
        · rw [ei, up_s, if_pos rfl]
        · rw [up_n ei, if_neg ei]; exact hbb i (by omega)
    · refine ⟨?_, fun i hi => ?_, fun i hi => ?_, fun i hi => ?_, hs'⟩
      · show τ 29 0 + 1 = _
        rw [hn']; exact nI_1 n
      · show upd (τ 30) n (nI k) i = nI (if i = n then k else kd i)
        by_cases ei : i = n
        · rw [ei, up_s, if_pos rfl]
        · rw [up_n ei, if_neg ei]; exact hk' i (by omega)
      · show upd (τ 31) n (nI b) i = nI (if i = n then b else by_ i)
        by_cases ei : i = n
        · rw [ei, up_s, if_pos rfl]
        · rw [up_n ei, if_neg ei]; exact hb' i (by omega)
      · show upd (τ 32) n 0 i = nI (td i)
        by_cases ei : i = n
        · rw [ei, up_s, q4 n (Nat.le_refl _)]; rfl
        · rw [up_n ei]; exact ht' i hi
    · intro d h1 h2
      show σ 7 d = _
      rw [hW d h1 h2]
      congr 1
      apply bs_cong
      intro i hi
      refine (kn_grow (au := auN n kd) (au' := auN (n + 1) (fun i => if i = n then k else kd i)) (fun i hi => ?_) (fun d b => ?_) d i).symm
      · unfold auN
        have e1 : i < n + 1 := by omega
        have e2 : ¬ i = n := by omega
        simp [e1, e2, hi]
      · cases h : S d n b
        · rfl
        · have := q5 d n b h
          omega
    · obtain ⟨a1, a2, a3, a4, a5, a6⟩ := m4 i hi
      refine ⟨⟨by omega, a1.2⟩, a2, a3, a4, ?_, a6⟩
      show σ 14 i = nI (if 3 ≤ (if mg i = n then k else kd (mg i)) then me i / 2 else me i)
      rw [if_neg (show ¬ mg i = n by omega)]
      exact a5
theorem sim_guest : Sim_guest Inv := by
  intro σ τ x1 x2 I
  unfold X7_guest X8_guest
  simp only [lt_e, isKind_e, in_e, l0, l1, l4, l8]
  by_cases c : 0 ≤ x1.toInt ∧ x1.toInt ≤ 4
  · obtain ⟨k, -, hk, rfl⟩ := of_rng (lo := 0) (hi := 4) (by decide) c.1 c.2
    rw [if_pos c, if_neg one0, if_neg one0, suits_e k hk, need_e k hk]
    by_cases ck : k = 2 ∨ k = 4
    · rw [if_pos ck, if_pos ck, if_neg one0, isDay_e]
      by_cases c2 : 1 ≤ x2.toInt ∧ x2.toInt ≤ 8
      · obtain ⟨b, hb1, hb, rfl⟩ := of_rng (lo := 1) (hi := 8) (by decide) c2.1 c2.2
        rw [if_pos c2, if_neg one0, if_neg one0]
        obtain ⟨r, σ', τ', e1, e2, e3⟩ := guest_in I hk hb (fun _ => hb1)
        exact ⟨r, σ', τ', by rw [e1, bd_s], e2, e3⟩
      · rw [if_neg c2, if_pos rfl, if_pos rfl]
        exact ⟨-102, σ, τ, rfl, rfl, I⟩
    · rw [if_neg ck, if_neg ck, if_pos rfl]
      by_cases c2 : x2 = 0
      · subst c2
        rw [if_pos rfl, if_neg one0, if_pos rfl]
        obtain ⟨r, σ', τ', e1, e2, e3⟩ := guest_in (b := 0) I hk (by omega) (fun h => absurd h ck)
        exact ⟨r, σ', τ', by rw [show X0_add σ (nI k) 0 = some (r, σ') from e1, bd_s], e2, e3⟩
      · rw [if_neg c2, if_pos rfl, if_neg c2]
        exact ⟨-102, σ, τ, rfl, rfl, I⟩
  · rw [if_neg c, if_pos rfl, if_pos rfl]
    exact ⟨-102, σ, τ, rfl, rfl, I⟩
