/-! lowest terms -/
theorem fib_s (m : Nat) : fib m ≤ fib (m + 1) := by
  cases m with
  | zero => decide
  | succ m => show fib (m + 1) ≤ fib (m + 1) + fib m; omega
theorem fib_m {m k : Nat} (h : m ≤ k) : fib m ≤ fib k := by
  induction k with
  | zero => rw [show m = 0 by omega]; exact Nat.le_refl _
  | succ k ih =>
    by_cases e : m = k + 1
    · rw [e]; exact Nat.le_refl _
    · exact Nat.le_trans (ih (by omega)) (fib_s k)
def fpr : Nat → Nat → Nat → Nat
  | 0, a, _ => a
  | k + 1, a, b => fpr k b (a + b)
theorem fpr_e : ∀ (k m : Nat), fpr k (fib m) (fib (m + 1)) = fib (m + k)
  | 0, m => rfl
  | k + 1, m => by
    have := fpr_e k (m + 1)
    rw [show m + 1 + k = m + (k + 1) by omega] at this
    rw [← this]
    show fpr k (fib (m + 1)) (fib m + fib (m + 1)) = fpr k (fib (m + 1)) (fib (m + 1) + fib m)
    rw [Nat.add_comm (fib m)]
theorem fib93 : 2 ^ 63 ≤ fib 93 := by
  have h := fpr_e 93 0
  rw [Nat.zero_add] at h
  rw [← h]
  show 2 ^ 63 ≤ fpr 93 0 1
  decide +kernel
theorem gs_b {f a b : Nat} (hb : b < 2 ^ 63) : gs f a b ≤ 92 := by
  cases f with
  | zero => unfold gs; omega
  | succ f =>
    unfold gs
    by_cases h0 : b = 0
    · rw [if_pos h0]; omega
    · rw [if_neg h0]
      cases hk : gs f b (a % b) with
      | zero => omega
      | succ k =>
        obtain ⟨-, g2⟩ := gs_fib f b (a % b) (Nat.mod_lt _ (by omega)) k hk
        rcases Nat.lt_or_ge (k + 3) 93 with q | q
        · omega
        · have := fib_m q
          have := fib93
          omega
theorem gcd_st (a b : Nat) : Nat.gcd b (a % b) = Nat.gcd a b := by
  rw [Nat.gcd_comm a b, Nat.gcd_rec b a, Nat.gcd_comm]
theorem cdM : ∀ (f a b s : Nat), a < 2 ^ 63 → b < 2 ^ 63 → s + gs f a b < 100 → gs f a b < f → X7_commonDivisor_L1 f (lN a) (lN b) (nI s) = some (lN (Nat.gcd a b), 0, nI (s + gs f a b)) := by
  intro f
  induction f with
  | zero => intro a b s h1 h2 h3 h4; omega
  | succ f ih =>
    intro a b s h1 h2 h3 h4
    rw [X7_commonDivisor_L1_s]
    unfold gs at h3 h4 ⊢
    by_cases hb : b = 0
    · subst hb
      rw [if_pos rfl] at h3
      rw [if_neg (show ¬ (100 : Int32) ≤ nI s from nI_ge (b := 100) (by omega) (by omega)), if_pos (show lN 0 = (0 : Int64) from rfl), if_pos rfl, Nat.gcd_zero_right]
      rfl
    · rw [if_neg hb] at h3 h4 ⊢
      have hz : ¬ lN b = (0 : Int64) := fun z => hb ((pk_lEQ (b := 0) h2 (by omega)).mp z)
      have hlt : a % b < b := Nat.mod_lt _ (by omega)
      rw [if_neg (show ¬ (100 : Int32) ≤ nI s from nI_ge (b := 100) (by omega) (by omega)), if_neg hz, if_neg hz, show lrem (lN a) (lN b) = lN (a % b) from pk_lRem h1 (by omega) h2, show nI s + (1 : Int32) = nI (s + 1) from nI_1 s, ih b (a % b) (s + 1) h2 (by omega) (by omega) (by omega), gcd_st, Nat.add_assoc]
theorem tmL {x0 x2 : Int64} {x4 : Int32} : ∀ (f a b : Nat), a < 2 ^ 63 → b < 2 ^ 63 → gs f a b < f → X8_term_L1 f x0 x2 x4 (lN b) (lN a) = some (0, lN (Nat.gcd a b)) := by
  intro f
  induction f with
  | zero => intro a b h1 h2 h4; omega
  | succ f ih =>
    intro a b h1 h2 h4
    rw [X8_term_L1_s]
    unfold gs at h4
    by_cases hb : b = 0
    · subst hb
      rw [if_pos (show lN 0 = (0 : Int64) from rfl), Nat.gcd_zero_right]
      rfl
    · rw [if_neg hb] at h4
      have hz : ¬ lN b = (0 : Int64) := fun z => hb ((pk_lEQ (b := 0) h2 (by omega)).mp z)
      have hlt : a % b < b := Nat.mod_lt _ (by omega)
      rw [if_neg hz, if_neg hz, show lrem (lN a) (lN b) = lN (a % b) from pk_lRem h1 (by omega) h2, ih b (a % b) h2 (by omega) (by omega), gcd_st]
theorem low_e {a b : Nat} (ha : a < 2 ^ 63) (h0 : 0 < b) (hb : b < 2 ^ 63) (x : Int32) : ∃ r, X7_lowest (lN a) (lN b) x = some r ∧ X8_term (lN a) (lN b) x = some r := by
  have g1 : gs 10000 a b ≤ 92 := gs_b hb
  have g2 : gs 10000 b a ≤ 92 := gs_b ha
  have c := cdM 10000 a b 0 ha hb (by omega) (by omega)
  have t := tmL (x0 := lN a) (x2 := lN b) (x4 := x) 10000 b a hb ha (by omega)
  rw [Nat.gcd_comm b a] at t
  change X7_commonDivisor_L1 10000 (lN a) (lN b) 0 = _ at c
  have p0 : 0 < Nat.gcd a b := Nat.gcd_pos_of_pos_right a h0
  have p1 : Nat.gcd a b < 2 ^ 63 := Nat.lt_of_le_of_lt (Nat.gcd_le_right a h0) hb
  have hz : ¬ lN (Nat.gcd a b) = (0 : Int64) := fun z => by
    have := (pk_lEQ (b := 0) p1 (by omega)).mp z
    omega
  refine ⟨if x = 0 then lN (a / Nat.gcd a b) else lN (b / Nat.gcd a b), ?_, ?_⟩
  · unfold X7_lowest X7_commonDivisor
    rw [c, bd_s, bd_s, if_neg hz, if_neg hz, if_neg hz, pk_lDiv ha p0 p1, pk_lDiv hb p0 p1]
    split <;> rfl
  · unfold X8_term
    rw [t, bd_s, if_neg hz, if_neg hz, pk_lDiv ha p0 p1, pk_lDiv hb p0 p1]
    split <;> rfl
/-! meeting -/
theorem tri0 (i : Nat) : (3 : Int32) * nI i = nI (3 * i) := by rw [show (3 : Int32) = nI 3 from rfl, pk_mul]
theorem tri1 (i : Nat) : nI (3 * i) + (1 : Int32) = nI (3 * i + 1) := nI_1 _
theorem tri2 (i : Nat) : nI (3 * i) + (2 : Int32) = nI (3 * i + 2) := nI_add _ 2
theorem tri3 (i : Nat) : nI (3 * i) + (0 : Int32) = nI (3 * i) := nI_add _ 0
theorem meeting_t {σ τ : St} {n mt i : Nat} {kd by_ td : Nat → Nat} {S : Nat → Nat → Nat → Bool} (I : IA σ τ n kd by_ td S) (h15 : mt ≤ 15) (hz : σ 10 4 = nI mt) (hi : i < mt) (x : Int32) : ∃ (r : Int32) (τ' : St), X7_meeting σ (nI i) x = some r ∧ X8_tellMeeting τ (nI i) x = some (r, τ') ∧ IA σ τ' n kd by_ td S := by
  obtain ⟨hQ, -, ⟨hn', hk', -⟩, hW, -, ⟨mt', mg, md, me, m15, z1, z2, hM⟩, -⟩ := id I
  have hmt : mt' = mt := (nI_eq (by omega) (by omega)).mp (z1.symm.trans hz)
  subst hmt
  obtain ⟨w, v, e1, e2⟩ := rk_e I
  have hs1 := slC hQ.1 m15 z1 hM hW hi
  have hs2 := slipsM hQ.1 m15 hk' hQ.2.1 hM e2 hi
  obtain ⟨-, m6, m7, m8, -, m10, m11, m12⟩ := hM i hi
  have hh : X2_has σ (nI i) = 1 := by
    have : X2_has σ (nI i) = if 0 ≤ (nI i).toInt ∧ (nI i).toInt < mt' then 1 else 0 := has_e (by omega) z1
    rw [this, toI_n (by omega), if_pos (show (0 : Int) ≤ (i : Int) ∧ (i : Int) < mt' by omega)]
  unfold X7_meeting X8_tellMeeting
  rw [lt_e, hh, if_neg one0, e1, bd_s, vu_c (show (36 : Nat) ≠ 34 by decide), tri0]
  by_cases c0 : x = (0 : Int32)
  · subst c0
    unfold X2_guestOf
    rw [if_pos rfl, lt_e, hh, if_neg one0, rd_n (by omega) (by omega), bd_s, bd_s, m6, if_neg (show ¬ (0 : Int32) = 3 by decide), lt_e, if_neg (show ¬ X8_in ((0 : Int32).toInt64) 0 2 = 0 by decide), tri3, rd_n (by omega) (by omega), bd_s, m10]
    exact ⟨_, _, rfl, rfl, IA_34 I⟩
  · rw [if_neg c0]
    by_cases c1 : x = (1 : Int32)
    · subst c1
      unfold X2_dayOf
      rw [if_pos rfl, lt_e, hh, if_neg one0, rd_n (by omega) (by omega), bd_s, bd_s, m7, if_neg (show ¬ (1 : Int32) = 3 by decide), lt_e, if_neg (show ¬ X8_in ((1 : Int32).toInt64) 0 2 = 0 by decide), tri1, rd_n (by omega) (by omega), bd_s, m11]
      exact ⟨_, _, rfl, rfl, IA_34 I⟩
    · rw [if_neg c1]
      by_cases c2 : x = (2 : Int32)
      · subst c2
        unfold X2_tenthsOf
        rw [if_pos rfl, lt_e, hh, if_neg one0, rd_n (by omega) (by omega), bd_s, bd_s, m8, if_neg (show ¬ (2 : Int32) = 3 by decide), lt_e, if_neg (show ¬ X8_in ((2 : Int32).toInt64) 0 2 = 0 by decide), tri2, rd_n (by omega) (by omega), bd_s, m12]
        exact ⟨_, _, rfl, rfl, IA_34 I⟩
      · rw [if_neg c2]
        by_cases c3 : x = (3 : Int32)
        · rw [if_pos c3, if_pos c3, hs1, hs2, bd_s, bd_s]
          exact ⟨_, _, rfl, rfl, IA_34 I⟩
        · have hx : ¬ ((0 : Int) ≤ x.toInt ∧ x.toInt ≤ 2) := fun hc => by
            obtain ⟨k, k1, k2, k3⟩ := of_rng (lo := 0) (hi := 2) (by omega) (by omega) (by omega : x.toInt ≤ ((2 : Nat) : Int))
            rcases (by omega : k = 0 ∨ k = 1 ∨ k = 2) with q | q | q <;> subst q
            · exact c0 k3
            · exact c1 k3
            · exact c2 k3
          rw [if_neg c3, if_neg c3, lt_e, in_e, l0, l2, if_neg hx, if_pos rfl]
          exact ⟨_, _, rfl, rfl, IA_34 I⟩
theorem sim_meeting : Sim_meeting Inv := by
  intro σ τ x1 x2 I
  obtain ⟨n, kd, by_, td, S, J⟩ := id I
  obtain ⟨hQ, -, -, -, -, ⟨mt, mg, md, me, m15, z1, z2, hM⟩, -⟩ := id J
  by_cases c : 0 ≤ x1.toInt ∧ x1.toInt < mt
  · obtain ⟨g, hg, rfl⟩ := of_has (by omega) c
    obtain ⟨r, τ', e1, e2, e3⟩ := meeting_t J m15 z1 hg x2
    refine ⟨r, τ', e1, ?_, n, kd, by_, td, S, e3⟩
    unfold X8_meeting
    rw [lt_e, hasM_e (by omega) z2, if_pos c, if_neg one0, e2, bd_s]
  · refine ⟨-101, τ, ?_, ?_, I⟩
    · unfold X7_meeting
      have : X2_has σ x1 = if 0 ≤ x1.toInt ∧ x1.toInt < mt then 1 else 0 := has_e (by omega) z1
      rw [lt_e, this, if_neg c, if_pos rfl]
    · unfold X8_meeting
      rw [lt_e, hasM_e (by omega) z2, if_neg c, if_pos rfl]
/-! known -/
theorem ten15 {k : Nat} (h : k ≤ 15) : 10 ^ k ≤ 1000000000000000 := Nat.pow_le_pow_right (n := 10) (j := 15) (by decide) h
theorem known_t {σ τ : St} {n : Nat} {kd by_ td : Nat → Nat} {S : Nat → Nat → Nat → Bool} (I : IA σ τ n kd by_ td S) {x : Int32} (hx : 0 ≤ x.toInt ∧ x.toInt ≤ 1) : ∃ (r : Int64) (τ' : St), X7_known σ x = some r ∧ X8_tellKnown τ x = some (r, τ') ∧ IA σ τ' n kd by_ td S := by
  obtain ⟨hQ, -, ⟨hn', hk', -⟩, hW, -, ⟨mt, mg, md, me, m15, z1, z2, hM⟩, -⟩ := id I
  obtain ⟨w, v, e1, e2⟩ := rk_e I
  have hle : pw (fun i => 10 - slp kd (KN n kd td S) mg md me i) mt ≤ 10 ^ mt := pw_le (fun i _ => by omega)
  have h15 := ten15 m15
  have hp : 0 < 10 ^ mt := Nat.pow_pos (by decide)
  obtain ⟨r, t1, t2⟩ := low_e (a := 10 ^ mt - pw (fun i => 10 - slp kd (KN n kd td S) mg md me i) mt) (b := 10 ^ mt) (by omega) hp (by omega) x
  refine ⟨r, va_up τ 34 w, ?_, ?_, IA_34 I⟩
  · unfold X7_known X7_knownPart
    rw [lt_e, part_e, if_pos hx, if_neg one0, sw_e hQ.1 m15 z1 hM hW, bd_s, all_e m15 z1, bd_s, lN_sub hle, t1, bd_s, bd_s]
  · unfold X8_tellKnown
    rw [e1, bd_s, wh_e m15 (by rw [vu_c (by decide)]; exact z2), bd_s, sil_e hQ.1 m15 z2 hk' hQ.2.1 hM e2, bd_s, bd_s, lN_sub hle, t2, bd_s]
theorem sim_known : Sim_known Inv := by
  intro σ τ x1 I
  obtain ⟨n, kd, by_, td, S, J⟩ := id I
  by_cases c : 0 ≤ x1.toInt ∧ x1.toInt ≤ 1
  · obtain ⟨r, τ', e1, e2, e3⟩ := known_t J c
    refine ⟨r, τ', e1, ?_, n, kd, by_, td, S, e3⟩
    unfold X8_known
    rw [lt_e, partM_e, if_pos c, if_neg one0, e2, bd_s]
  · refine ⟨-102, τ, ?_, ?_, I⟩
    · unfold X7_known
      rw [lt_e, part_e, if_neg c, if_pos rfl]
    · unfold X8_known
      rw [lt_e, partM_e, if_neg c, if_pos rfl]
/-! quiet -/
theorem quL {a b c : Nat} {x4 : Int32} (hb : b ≤ 9) (hm : a * c ≤ 18) : ∀ (f i : Nat), i ≤ a * c → a * c < f + i → X8_quiet_L1 f (nI a) (nI b) (nI c) x4 (lN ((10 - b) ^ i)) (lN (10 ^ i)) (nI i) = some (lN ((10 - b) ^ (a * c)), lN (10 ^ (a * c)), nI (a * c)) := by
  intro f
  induction f with
  | zero => intro i h1 h2; omega
  | succ f ih =>
    intro i h1 h2
    rw [X8_quiet_L1_s, pk_mul]
    by_cases e : i = a * c
    · rw [← e, if_pos (nI_le (Nat.le_refl _) (by omega))]
    · have hi : i < a * c := by omega
      rw [if_neg (nI_ge hi (by omega)), ten_sub hb, show (10 : Int64) = lN 10 from rfl, lN_mul, lN_mul, show nI i + (1 : Int32) = nI (i + 1) from nI_1 i, ← Nat.pow_succ, ← Nat.pow_succ]
      exact ih (i + 1) (by omega) (by omega)
theorem sim_quiet : Sim_quiet Inv := by
  intro σ τ x1 x2 x3 x4 I
  by_cases c1 : 1 ≤ x1.toInt ∧ x1.toInt ≤ 9
  · by_cases c2 : 0 ≤ x2.toInt ∧ x2.toInt ≤ 9
    · by_cases c3 : 1 ≤ x3.toInt ∧ x3.toInt ≤ 18
      · obtain ⟨a, a1, a2, rfl⟩ := of_rng (lo := 1) (hi := 9) (by omega) c1.1 c1.2
        obtain ⟨b, b1, b2, rfl⟩ := of_rng (lo := 0) (hi := 9) (by omega) c2.1 c2.2
        obtain ⟨c, d1, d2, rfl⟩ := of_rng (lo := 1) (hi := 18) (by omega) c3.1 c3.2
        have hac : a * c ≤ 9 * 18 := Nat.mul_le_mul a2 d2
        by_cases c5 : a * c ≤ 18
        · by_cases c4 : 0 ≤ x4.toInt ∧ x4.toInt ≤ 1
          · have q := quL (x4 := x4) b2 c5 10000 0 (Nat.zero_le _) (by omega)
            rw [Nat.pow_zero, Nat.pow_zero] at q
            change X8_quiet_L1 10000 _ _ _ _ 1 1 0 = _ at q
            have hp : 0 < 10 ^ (a * c) := Nat.pow_pos (by decide)
            have h18 : 10 ^ (a * c) ≤ 10 ^ 18 := Nat.pow_le_pow_right (by decide) c5
            have hbl : (10 - b) ^ (a * c) ≤ 10 ^ (a * c) := Nat.pow_le_pow_left (by omega) _
            obtain ⟨r, t1, t2⟩ := low_e (a := (10 - b) ^ (a * c)) (b := 10 ^ (a * c)) (by omega) hp (by omega) x4
            refine ⟨r, ?_, ?_, I⟩
            · unfold X7_quiet
              rw [if_neg (show ¬ nI a < (1 : Int32) from nI_nlt (b := 1) a1 (by omega)), if_neg (show ¬ (9 : Int32) < nI a from nI_nlt (a := 9) a2 (by omega)), if_neg (show ¬ nI b < 0 from nI_nlt (b := 0) b1 (by omega)), if_neg (show ¬ (9 : Int32) < nI b from nI_nlt (a := 9) b2 (by omega)), lt_e, part_e, if_pos c4, if_neg one0, if_neg (show ¬ nI c < (1 : Int32) from nI_nlt (b := 1) d1 (by omega)), if_neg (show ¬ (18 : Int32) < nI c from nI_nlt (a := 18) d2 (by omega)), pk_mul, if_pos (show nI (a * c) ≤ (18 : Int32) from nI_le (b := 18) c5 (by omega)), show (10 : Int32) - nI b = nI (10 - b) from pk_sub (a := 10) (by omega), pow_e (by omega) c5, bd_s, show (10 : Int32) = nI 10 from rfl, pow_e (by omega) c5, bd_s, t1, bd_s]
            · unfold X8_quiet
              rw [lt_e, lt_e, in_e, l1, l9, if_pos c1, if_neg one0, lt_e, in_e, l0, l9, if_pos c2, if_neg one0, lt_e, in_e, l1, l18, if_pos c3, if_neg one0, pk_mul, if_neg (show ¬ (18 : Int32) < nI (a * c) from nI_nlt (a := 18) c5 (by omega)), if_neg one0, lt_e, partM_e, if_pos c4, if_neg one0, q, bd_s]
              dsimp only
              rw [t2, bd_s]
          · refine ⟨-102, ?_, ?_, I⟩
            · unfold X7_quiet
              simp only [lt_e, part_e, if_neg c4, if_true, ite_self]
            · unfold X8_quiet
              simp only [lt_e, partM_e, if_neg c4, if_true, ite_self]
        · refine ⟨-102, ?_, ?_, I⟩
          · unfold X7_quiet
            rw [pk_mul, if_neg (show ¬ nI (a * c) ≤ (18 : Int32) from nI_ge (b := a * c) (a := 18) (by omega) (by omega))]
            simp only [lt_e, ite_self]
          · unfold X8_quiet
            rw [pk_mul, if_pos (show (18 : Int32) < nI (a * c) from nI_lt (a := 18) (by omega) (by omega))]
            simp only [lt_e, ite_self, if_true]
      · refine ⟨-102, ?_, ?_, I⟩
        · have := two_e x3 1 18
          rw [show (1 : Int32).toInt = 1 from rfl, show (18 : Int32).toInt = 18 from rfl, if_neg c3] at this
          unfold X7_quiet
          by_cases y : x3 < 1
          · simp only [if_pos y, lt_e, ite_self]
          · rw [if_neg y] at this
            have y2 : 18 < x3 := by
              by_cases z : 18 < x3
              · exact z
              · rw [if_neg z] at this; exact absurd this one0
            simp only [if_pos y2, lt_e, ite_self]
        · unfold X8_quiet
          simp only [lt_e, in_e, l1, l18, if_neg c3, if_true, ite_self]
    · refine ⟨-102, ?_, ?_, I⟩
      · have := two_e x2 0 9
        rw [show (0 : Int32).toInt = 0 from rfl, show (9 : Int32).toInt = 9 from rfl, if_neg c2] at this
        unfold X7_quiet
        by_cases y : x2 < 0
        · simp only [if_pos y, ite_self]
        · rw [if_neg y] at this
          have y2 : 9 < x2 := by
            by_cases z : 9 < x2
            · exact z
            · rw [if_neg z] at this; exact absurd this one0
          simp only [if_pos y2, ite_self]
      · unfold X8_quiet
        simp only [lt_e, in_e, l0, l9, if_neg c2, if_true, ite_self]
  · refine ⟨-102, ?_, ?_, I⟩
    · have := two_e x1 1 9
      rw [show (1 : Int32).toInt = 1 from rfl, show (9 : Int32).toInt = 9 from rfl, if_neg c1] at this
      unfold X7_quiet
      by_cases y : x1 < 1
      · rw [if_pos y]
      · rw [if_neg y] at this ⊢
        have y2 : 9 < x1 := by
          by_cases z : 9 < x1
          · exact z
          · rw [if_neg z] at this; exact absurd this one0
        rw [if_pos y2]
    · unfold X8_quiet
      simp only [lt_e, in_e, l1, l9, if_neg c1, if_true]
