/-! class beside reference: fault, meeting, weeks -/
theorem irem4 {k : Nat} (hk : k < 2 ^ 31) : irem (nI k) (4 : Int32) = nI (k % 4) := pk_rem (d := 4) hk (by omega) (by omega)
theorem fit_e {σ τ : St} {n pm k : Nat} (h9 : n ≤ 9) (hn' : τ 29 0 = nI n) (hp : pm ≤ 60) (ha : σ 8 1 = nI pm) (hc : ∀ i, i < pm → ∃ q, 1 ≤ q ∧ q ≤ 126 ∧ σ 9 i = nI q ∧ τ 35 i = nI q) (hk : k < pm) : ∃ b : Bool, X3_fits σ (nI k) (nI n) = some (if b then 1 else 0) ∧ X8_mayStand τ (nI k) = some (if b then 1 else 0) ∧ (b = true → k < 59 ∧ ∃ q, σ 9 k = nI q ∧ τ 35 k = nI q ∧ (k % 4 = 0 → 48 ≤ q ∧ q < 48 + n) ∧ (k % 4 = 1 → 49 ≤ q ∧ q ≤ 56) ∧ (k % 4 = 2 → 49 ≤ q ∧ q ≤ 57)) := by
  obtain ⟨q, q1, q2, q3, q4⟩ := hc k hk
  have hcode : X3_codeAt σ (nI k) = some (nI q) := by
    unfold X3_codeAt
    rw [if_neg (nI_pos (by omega)), ha, if_neg (nI_ge hk (by omega)), rd_n (by omega) (by omega), bd_s, q3]
  have hdig : X3_digitAt σ (nI k) = some (nI q - 48) := by
    unfold X3_digitAt
    rw [hcode, bd_s]
  have hint : (nI q - (48 : Int32)).toInt = (q : Int) - 48 := pk_sub_toInt (b := 48) (by omega) (by omega)
  unfold X3_fits X8_mayStand
  rw [hdig, bd_s, rd_n (by omega) (by omega), bd_s, q4, irem4 (by omega)]
  have ite1 : ∀ (P : Prop) [Decidable P], (if P then (1 : Int32) else 0) = if (decide P) = true then 1 else 0 := fun P _ => by by_cases h : P <;> simp [h]
  rcases (by omega : k % 4 = 0 ∨ k % 4 = 1 ∨ k % 4 = 2 ∨ k % 4 = 3) with e | e | e | e
  · have hl : k < 59 := by omega
    refine ⟨decide (0 ≤ (q : Int) - 48 ∧ (q : Int) - 48 < n), ?_, ?_, fun h => ⟨hl, q, q3, rfl, fun _ => ?_, fun z => by omega, fun z => by omega⟩⟩
    · rw [if_pos (show nI k < (59 : Int32) from nI_lt (b := 59) hl (by omega)), e, if_pos (show nI 0 = (0 : Int32) from rfl), ← ite1]
      have := has_e (v := nI n) (x := nI q - 48) (n := n) (by omega) rfl
      rw [hint] at this
      rw [← this]
      split
      · rfl
      · split <;> rfl
    · rw [e, if_pos (show nI 0 = (0 : Int32) from rfl), lt_e, hasM hn' h9, hint, ← ite1]
    · simp at h
      omega
  · have hl : k < 59 := by omega
    refine ⟨decide (1 ≤ (q : Int) - 48 ∧ (q : Int) - 48 ≤ 8), ?_, ?_, fun h => ⟨hl, q, q3, rfl, fun z => by omega, fun _ => ?_, fun z => by omega⟩⟩
    · rw [if_pos (show nI k < (59 : Int32) from nI_lt (b := 59) hl (by omega)), e, if_neg (show ¬ nI 1 = (0 : Int32) by decide), if_pos (show nI 1 = (1 : Int32) from rfl), lt_e, isDay_e, hint, ← ite1]
    · rw [e, if_neg (show ¬ nI 1 = (0 : Int32) by decide), if_pos (show nI 1 = (1 : Int32) from rfl), lt_e, in_e, l1, l8, hint, ← ite1]
    · simp at h
      omega
  · have hl : k < 59 := by omega
    refine ⟨decide (1 ≤ (q : Int) - 48 ∧ (q : Int) - 48 ≤ 9), ?_, ?_, fun h => ⟨hl, q, q3, rfl, fun z => by omega, fun z => by omega, fun _ => ?_⟩⟩
    · rw [if_pos (show nI k < (59 : Int32) from nI_lt (b := 59) hl (by omega)), e, if_neg (show ¬ nI 2 = (0 : Int32) by decide), if_neg (show ¬ nI 2 = (1 : Int32) by decide), if_pos (show nI 2 = (2 : Int32) from rfl), lt_e, isTenths_e, hint, ← ite1]
    · rw [e, if_neg (show ¬ nI 2 = (0 : Int32) by decide), if_neg (show ¬ nI 2 = (1 : Int32) by decide), if_pos (show nI 2 = (2 : Int32) from rfl), lt_e, in_e, l1, l9, hint, ← ite1]
    · simp at h
      omega
  · refine ⟨decide (q = 44 ∧ k < 59), ?_, ?_, fun h => ⟨?_, q, q3, rfl, fun z => by omega, fun z => by omega, fun z => by omega⟩⟩
    · by_cases hl : k < 59
      · rw [if_pos (show nI k < (59 : Int32) from nI_lt (b := 59) hl (by omega)), e, if_neg (show ¬ nI 3 = (0 : Int32) by decide), if_neg (show ¬ nI 3 = (1 : Int32) by decide), if_neg (show ¬ nI 3 = (2 : Int32) by decide), hcode, bd_s]
        have : (nI q = (44 : Int32)) ↔ q = 44 := nI_eq (b := 44) (by omega) (by omega)
        by_cases c : q = 44
        · rw [if_pos (this.mpr c)]; simp [c, hl]
        · rw [if_neg (fun z => c (this.mp z))]; simp [c]
      · rw [if_neg (show ¬ nI k < (59 : Int32) from nI_nlt (b := 59) (by omega) (by omega))]
        simp [hl]
    · rw [e, if_neg (show ¬ nI 3 = (0 : Int32) by decide), if_neg (show ¬ nI 3 = (1 : Int32) by decide), if_neg (show ¬ nI 3 = (2 : Int32) by decide), bd_s]
      have : (nI q = (44 : Int32)) ↔ q = 44 := nI_eq (b := 44) (by omega) (by omega)
      by_cases c : q = 44
      · rw [if_pos (this.mpr c)]
        by_cases hl : k < 56
        · rw [if_neg (show ¬ (56 : Int32) ≤ nI k from nI_ge (b := 56) hl (by omega))]
          have : k < 59 := by omega
          simp [c, this]
        · rw [if_pos (show (56 : Int32) ≤ nI k from nI_le (a := 56) (by omega) (by omega))]
          have : ¬ k < 59 := by omega
          simp [this]
      · rw [if_neg (fun z => c (this.mp z))]; simp [c]
    · simp at h
      exact h.2
theorem faultL {σ τ : St} {n pm : Nat} (h9 : n ≤ 9) (hn' : τ 29 0 = nI n) (hp : pm ≤ 60) (ha : σ 8 1 = nI pm) (hb : τ 29 7 = nI pm) (hc : ∀ i, i < pm → ∃ q, 1 ≤ q ∧ q ≤ 126 ∧ σ 9 i = nI q ∧ τ 35 i = nI q) : ∀ (f i : Nat), i ≤ pm → pm < f + i → ∃ r, i ≤ r ∧ r ≤ pm ∧ X3_firstWrong_L1 f σ (nI n) (nI i) = some (if r < pm then Sum.inl (nI r) else Sum.inr (nI pm)) ∧ X8_faultOf_L1 f τ (nI i) = some (nI r) ∧ ∀ k, i ≤ k → k < r → k < 59 ∧ ∃ q, σ 9 k = nI q ∧ τ 35 k = nI q ∧ (k % 4 = 0 → 48 ≤ q ∧ q < 48 + n) ∧ (k % 4 = 1 → 49 ≤ q ∧ q ≤ 56) ∧ (k % 4 = 2 → 49 ≤ q ∧ q ≤ 57) := by
  intro f
  induction f with
  | zero => intro i h1 h2; omega
  | succ f ih =>
    intro i h1 h2
    rw [X3_firstWrong_L1_s, X8_faultOf_L1_s, ha, hb]
    by_cases e : i = pm
    · subst e
      rw [if_pos (nI_le (Nat.le_refl _) (by omega)), if_pos (nI_le (Nat.le_refl _) (by omega))]
      exact ⟨i, Nat.le_refl _, Nat.le_refl _, by rw [if_neg (by omega)], rfl, fun k h3 h4 => by omega⟩
    · have hi : i < pm := by omega
      obtain ⟨b, b1, b2, b3⟩ := fit_e h9 hn' hp ha hc hi
      rw [if_neg (nI_ge hi (by omega)), if_neg (nI_ge hi (by omega)), b1, b2, bd_s, bd_s]
      cases b
      · rw [if_pos (show (if false = true then (1 : Int32) else 0) = 0 by decide), if_pos (show (if false = true then (1 : Int32) else 0) = 0 by decide)]
        exact ⟨i, Nat.le_refl _, h1, by rw [if_pos hi], rfl, fun k h3 h4 => by omega⟩
      · rw [if_neg (show ¬ (if true = true then (1 : Int32) else 0) = 0 by decide), if_neg (show ¬ (if true = true then (1 : Int32) else 0) = 0 by decide), show nI i + (1 : Int32) = nI (i + 1) from nI_1 i]
        obtain ⟨r, r1, r2, r3, r4, r5⟩ := ih (i + 1) (by omega) (by omega)
        refine ⟨r, by omega, r2, r3, r4, fun k h3 h4 => ?_⟩
        by_cases ek : k = i
        · rw [ek]; exact b3 rfl
        · exact r5 k (by omega) h4
theorem fault_t {σ τ : St} {n pm : Nat} (h9 : n ≤ 9) (hn : σ 1 5 = nI n) (hn' : τ 29 0 = nI n) (hp : pm ≤ 60) (ha : σ 8 1 = nI pm) (hb : τ 29 7 = nI pm) (hc : ∀ i, i < pm → ∃ q, 1 ≤ q ∧ q ≤ 126 ∧ σ 9 i = nI q ∧ τ 35 i = nI q) : ∃ r, r ≤ pm ∧ X3_firstWrong σ (nI n) = some (nI r) ∧ X8_faultOf τ = some (nI r) ∧ ∀ k, k < r → k < 59 ∧ ∃ q, σ 9 k = nI q ∧ τ 35 k = nI q ∧ (k % 4 = 0 → 48 ≤ q ∧ q < 48 + n) ∧ (k % 4 = 1 → 49 ≤ q ∧ q ≤ 56) ∧ (k % 4 = 2 → 49 ≤ q ∧ q ≤ 57) := by
  obtain ⟨r, r1, r2, r3, r4, r5⟩ := faultL h9 hn' hp ha hb hc 10000 0 (Nat.zero_le _) (by omega)
  change X3_firstWrong_L1 10000 σ (nI n) 0 = _ at r3
  change X8_faultOf_L1 10000 τ 0 = _ at r4
  refine ⟨r, r2, ?_, ?_, fun k hk => r5 k (Nat.zero_le _) hk⟩
  · unfold X3_firstWrong
    rw [r3, bd_s]
    by_cases c : r < pm
    · rw [if_pos c]; rfl
    · rw [if_neg c, show r = pm by omega]
      show some (σ 8 1) = _
      rw [ha]
  · unfold X8_faultOf
    rw [r4, bd_s]
theorem sim_fault : Sim_fault Inv := by
  intro σ τ I
  obtain ⟨n, kd, by_, td, S, hQ, ⟨hn, -⟩, ⟨hn', -⟩, hW, ⟨pm, p1, p2, p3, p4⟩, -⟩ := id I
  obtain ⟨r, r1, r2, r3, -⟩ := fault_t hQ.1 hn hn' p1 p2 p3 p4
  refine ⟨nI r, ?_, ?_, I⟩
  · unfold X7_fault X0_size
    rw [lt_e, hn, r2, bd_s]
  · unfold X8_fault
    rw [r3, bd_s]
/-! slips -/
def slp (kd : Nat → Nat) (K : Nat → Nat → Bool) (mg md me : Nat → Nat) (i : Nat) : Nat := if K (md i) (mg i) then (if 3 ≤ kd (mg i) then me i / 2 else me i) else 0
theorem slp_le {n mt : Nat} {kd : Nat → Nat} {K : Nat → Nat → Bool} {g d t s ms : Nat → Int32} {mg md me : Nat → Nat} (h : MT n kd g d t s ms mt mg md me) {i : Nat} (hi : i < mt) : slp kd K mg md me i ≤ 9 := by
  obtain ⟨⟨-, -, -, -, h5⟩, -⟩ := h i hi
  unfold slp
  split
  · split <;> omega
  · omega
theorem slipsM {τ : St} {n mt : Nat} {kd td : Nat → Nat} {S : Nat → Nat → Nat → Bool} {au : Nat → Bool} {c1 c2 c3 c4 : Nat → Int32} {w : Nat → Int32} {v mg md me : Nat → Nat} (h9 : n ≤ 9) (h15 : mt ≤ 15) (hk' : ∀ i, i < n → τ 30 i = nI (kd i)) (hk4 : ∀ i, i < n → kd i ≤ 4) (hM : MT n kd c1 c2 c3 c4 (τ 36) mt mg md me) (hw : ∀ j, j < n → w j = nI (v j) ∧ v j ≤ 10 ∧ kv n au td S 9 j (v j)) {i : Nat} (hi : i < mt) : X8_slips (va_up τ 34 w) (nI i) = some (nI (slp kd (kn n au td S) mg md me i)) := by
  obtain ⟨⟨m1, m2, m3, m4, m5⟩, -, -, -, -, m6, m7, m8⟩ := hM i hi
  obtain ⟨a1, a2, a3⟩ := hw (mg i) m1
  have hd := kn_of a3 (d := md i) (by omega)
  have i0 : (3 : Int32) * nI i = nI (3 * i) := by rw [show (3 : Int32) = nI 3 from rfl, pk_mul]
  have i1 : nI (3 * i) + (1 : Int32) = nI (3 * i + 1) := nI_1 _
  have i2 : nI (3 * i) + (2 : Int32) = nI (3 * i + 2) := nI_add _ 2
  unfold X8_slips
  rw [i0, i1, i2, vu_c (show (36 : Nat) ≠ 34 by decide), vu_q, vu_c (show (30 : Nat) ≠ 34 by decide), rd_n (by omega) (by omega), rd_n (by omega) (by omega), rd_n (by omega) (by omega), bd_s, m6, rd_n (by omega) (by omega), bd_s, rd_n (by omega) (by omega), bd_s, a1, m7, bd_s, m8, hk' _ m1]
  unfold slp
  have h3 : (nI (kd (mg i)) ≤ (2 : Int32)) ↔ kd (mg i) ≤ 2 := nI_leI (b := 2) (by have := hk4 _ m1; omega) (by omega)
  have hdiv : nI (me i) / (2 : Int32) = nI (me i / 2) := pk_div (d := 2) (by omega) (by omega) (by omega)
  by_cases c : v (mg i) ≤ md i
  · rw [if_neg (nI_nlt c (by omega)), bd_s, bd_s, hd.mp c, if_pos rfl]
    by_cases c3 : kd (mg i) ≤ 2
    · rw [if_pos (h3.mpr c3), if_neg (by omega)]
    · rw [if_neg (fun z => c3 (h3.mp z)), if_pos (by omega), hdiv]
  · have hk : kn n au td S (md i) (mg i) = false := by
      cases h : kn n au td S (md i) (mg i)
      · rfl
      · exact absurd (hd.mpr h) c
    rw [if_pos (nI_lt (by omega) (by omega)), bd_s, bd_s, hk, if_neg (show ¬ (false = true) by decide)]
    by_cases c3 : kd (mg i) ≤ 2
    · rw [if_pos (h3.mpr c3)]; rfl
    · rw [if_neg (fun z => c3 (h3.mp z))]
      rfl
