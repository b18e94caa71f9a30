/-! signs: belief, parting -/
def trl (p q t : Nat) : Nat := if q ≤ p then p - ((p - q) * t + 9) / 10 else p + ((q - p) * t + 9) / 10
def wbp (v1 v2 x2 : Int32) : Int32 :=
  lt ((if 0 ≤ (v2 - v1) then ((((v2 - v1) * x2) + (9 : Int32)) / (10 : Int32)) else ((((-(v2 - v1)) * x2) + (9 : Int32)) / (10 : Int32))) : Int32) fun v4 =>
  if 0 ≤ (v2 - v1) then (v1 + v4) else (v1 - v4)
def trc (p q t : Nat) : Bool := decide (X4_onTrail (nI p) (nI q) (nI t) = nI (trl p q t)) && (decide (wbp (nI p) (nI q) (nI t) = nI (trl p q t)) && (decide (1 ≤ trl p q t) && decide (trl p q t ≤ 9)))
theorem trc_e : ∀ p, p < 9 → ∀ q, q < 9 → ∀ t, t < 10 → trc (p + 1) (q + 1) t = true := by decide +kernel
theorem tr_e (p : Nat) (hp : p < 10) (q : Nat) (hq : q < 10) (t : Nat) (ht : t < 10) (p1 : 1 ≤ p) (q1 : 1 ≤ q) : X4_onTrail (nI p) (nI q) (nI t) = nI (trl p q t) ∧ wbp (nI p) (nI q) (nI t) = nI (trl p q t) ∧ 1 ≤ trl p q t ∧ trl p q t ≤ 9 := by
  have h := trc_e (p - 1) (by omega) (q - 1) (by omega) t ht
  rw [show p - 1 + 1 = p by omega, show q - 1 + 1 = q by omega] at h
  simpa [trc] using h
theorem withBy_e {τ : St} {i p q t : Nat} (hi : i < 8) (h1 : τ 42 (3 * i) = nI p) (h2 : τ 42 (3 * i + 1) = nI q) : X8_withBy τ (nI i) (nI t) = some (wbp (nI p) (nI q) (nI t)) := by
  unfold X8_withBy wbp
  rw [tri0, tri1, rd_n (by omega) (by omega), bd_s, rd_n (by omega) (by omega), bd_s, h1, h2, lt_e, lt_e]
  split <;> rfl
theorem nine8 {k : Nat} (h : k ≤ 8) : 9 ^ k ≤ 43046721 := Nat.pow_le_pow_right (n := 9) (j := 8) (by decide) h
theorem oneL {σ τ : St} {sg t : Nat} (h8 : sg ≤ 8) (ht : t < 10) (z1 : σ 18 3 = nI sg) (z2 : τ 29 18 = nI sg) (hz : ∀ i, i < sg → ∃ p q, 1 ≤ p ∧ p ≤ 9 ∧ 1 ≤ q ∧ q ≤ 9 ∧ σ 19 i = nI p ∧ σ 20 i = nI q ∧ τ 42 (3 * i) = nI p ∧ τ 42 (3 * i + 1) = nI q) (hh : ∀ i, i < 8 → ∃ q, q ≤ 2 ∧ σ 21 i = nI q ∧ (i < sg → τ 42 (3 * i + 2) = nI q) ∧ (sg ≤ i → q = 0)) : ∀ (f i P : Nat), i ≤ sg → sg < f + i → 1 ≤ P → P ≤ 9 ^ i → ∃ R, 1 ≤ R ∧ R ≤ 9 ^ sg ∧ X4_oddsIfThereIsOne_L1 f σ (nI t) (lN P) (nI i) = some (lN R, nI sg) ∧ X8_weight_L1 f τ 1 (nI t) (lN P) (nI i) = some (lN R, nI sg) := by
  intro f
  induction f with
  | zero => intro i P h1 h2; omega
  | succ f ih =>
    intro i P h1 h2 hP1 hP2
    rw [X4_oddsIfThereIsOne_L1_s, X8_weight_L1_s, z1, z2]
    by_cases e : i = sg
    · subst e
      rw [if_pos (nI_le (Nat.le_refl _) (by omega)), if_pos (nI_le (Nat.le_refl _) (by omega))]
      exact ⟨P, hP1, hP2, rfl, rfl⟩
    · have hi : i < sg := by omega
      obtain ⟨p, q, p1, p2, q1, q2, a1, a2, a3, a4⟩ := hz i hi
      obtain ⟨k, k1, k2, k3, -⟩ := hh i (by omega)
      obtain ⟨b1, b2, b3, b4⟩ := tr_e p (by omega) q (by omega) t ht p1 q1
      have fin : ∀ F : Nat, 1 ≤ F → F ≤ 9 → ∃ R, 1 ≤ R ∧ R ≤ 9 ^ sg ∧ X4_oddsIfThereIsOne_L1 f σ (nI t) (lN (P * F)) (nI (i + 1)) = some (lN R, nI sg) ∧ X8_weight_L1 f τ 1 (nI t) (lN (P * F)) (nI (i + 1)) = some (lN R, nI sg) := fun F f1 f2 => by
        refine ih (i + 1) (P * F) (by omega) (by omega) (Nat.mul_pos hP1 f1) ?_
        rw [Nat.pow_succ]
        exact Nat.mul_le_mul hP2 f2
      have r0 : rd (τ 42) 24 (nI (3 * i)) = some (nI p) := by rw [rd_n (by omega) (by omega), a3]
      have r1 : rd (τ 42) 24 (nI (3 * i + 1)) = some (nI q) := by rw [rd_n (by omega) (by omega), a4]
      have r2 : rd (τ 42) 24 (nI (3 * i + 2)) = some (nI k) := by rw [rd_n (by omega) (by omega), k3 hi]
      have r3 : rd (σ 19) 8 (nI i) = some (nI p) := by rw [rd_n (by omega) (by omega), a1]
      have r4 : rd (σ 20) 8 (nI i) = some (nI q) := by rw [rd_n (by omega) (by omega), a2]
      have r5 : rd (σ 21) 8 (nI i) = some (nI k) := by rw [rd_n (by omega) (by omega), k2]
      have r6 : nI i + (1 : Int32) = nI (i + 1) := nI_1 i
      have r7 := withBy_e (t := t) (show i < 8 by omega) a3 a4
      rw [if_neg (nI_ge hi (by omega)), if_neg (nI_ge hi (by omega)), tri0, tri1, tri2]
      simp only [r0, r1, r2, r3, r4, r5, r6, r7, b1, b2, bd_s, lt_e, if_neg (show ¬ (1 : Int32) = 0 by decide)]
      rcases (by omega : k = 0 ∨ k = 1 ∨ k = 2) with c | c | c <;> subst c
      · have := fin 1 (by omega) (by omega)
        rw [Nat.mul_one] at this
        rw [if_neg (show ¬ nI 0 = (1 : Int32) by decide), if_neg (show ¬ nI 0 = (1 : Int32) by decide), if_neg (show ¬ nI 0 = (2 : Int32) by decide), bd_s, bd_s, if_pos (show nI 0 = (0 : Int32) from rfl), show (1 : Int64) = lN 1 from rfl, lN_mul, Nat.mul_one]
        exact this
      · rw [if_pos (show nI 1 = (1 : Int32) from rfl), if_pos (show nI 1 = (1 : Int32) from rfl), bd_s, bd_s, if_neg (show ¬ nI 1 = (0 : Int32) by decide), if_pos (show nI 1 = (1 : Int32) from rfl), nI_l (by omega), lN_mul]
        exact fin _ b3 b4
      · rw [if_neg (show ¬ nI 2 = (1 : Int32) by decide), if_neg (show ¬ nI 2 = (1 : Int32) by decide), if_pos (show nI 2 = (2 : Int32) from rfl), bd_s, bd_s, if_neg (show ¬ nI 2 = (0 : Int32) by decide), if_neg (show ¬ nI 2 = (1 : Int32) by decide), ten_sub p2, lN_mul]
        exact fin _ (by omega) (by omega)
theorem noneL {σ τ : St} {sg : Nat} {x : Int32} (h8 : sg ≤ 8) (z1 : σ 18 3 = nI sg) (z2 : τ 29 18 = nI sg) (hz : ∀ i, i < sg → ∃ p q, 1 ≤ p ∧ p ≤ 9 ∧ 1 ≤ q ∧ q ≤ 9 ∧ σ 19 i = nI p ∧ σ 20 i = nI q ∧ τ 42 (3 * i) = nI p ∧ τ 42 (3 * i + 1) = nI q) (hh : ∀ i, i < 8 → ∃ q, q ≤ 2 ∧ σ 21 i = nI q ∧ (i < sg → τ 42 (3 * i + 2) = nI q) ∧ (sg ≤ i → q = 0)) : ∀ (f i P : Nat), i ≤ sg → sg < f + i → 1 ≤ P → P ≤ 9 ^ i → ∃ R, 1 ≤ R ∧ R ≤ 9 ^ sg ∧ X4_oddsIfThereIsNone_L1 f σ (lN P) (nI i) = some (lN R, nI sg) ∧ X8_weight_L1 f τ 0 x (lN P) (nI i) = some (lN R, nI sg) := by
  intro f
  induction f with
  | zero => intro i P h1 h2; omega
  | succ f ih =>
    intro i P h1 h2 hP1 hP2
    rw [X4_oddsIfThereIsNone_L1_s, X8_weight_L1_s, z1, z2]
    by_cases e : i = sg
    · subst e
      rw [if_pos (nI_le (Nat.le_refl _) (by omega)), if_pos (nI_le (Nat.le_refl _) (by omega))]
      exact ⟨P, hP1, hP2, rfl, rfl⟩
    · have hi : i < sg := by omega
      obtain ⟨p, q, p1, p2, q1, q2, a1, a2, a3, a4⟩ := hz i hi
      obtain ⟨k, k1, k2, k3, -⟩ := hh i (by omega)
      have fin : ∀ F : Nat, 1 ≤ F → F ≤ 9 → ∃ R, 1 ≤ R ∧ R ≤ 9 ^ sg ∧ X4_oddsIfThereIsNone_L1 f σ (lN (P * F)) (nI (i + 1)) = some (lN R, nI sg) ∧ X8_weight_L1 f τ 0 x (lN (P * F)) (nI (i + 1)) = some (lN R, nI sg) := fun F f1 f2 => by
        refine ih (i + 1) (P * F) (by omega) (by omega) (Nat.mul_pos hP1 f1) ?_
        rw [Nat.pow_succ]
        exact Nat.mul_le_mul hP2 f2
      have r0 : rd (τ 42) 24 (nI (3 * i)) = some (nI p) := by rw [rd_n (by omega) (by omega), a3]
      have r1 : rd (τ 42) 24 (nI (3 * i + 1)) = some (nI q) := by rw [rd_n (by omega) (by omega), a4]
      have r2 : rd (τ 42) 24 (nI (3 * i + 2)) = some (nI k) := by rw [rd_n (by omega) (by omega), k3 hi]
      have r3 : rd (σ 19) 8 (nI i) = some (nI p) := by rw [rd_n (by omega) (by omega), a1]
      have r4 : rd (σ 20) 8 (nI i) = some (nI q) := by rw [rd_n (by omega) (by omega), a2]
      have r5 : rd (σ 21) 8 (nI i) = some (nI k) := by rw [rd_n (by omega) (by omega), k2]
      have r6 : nI i + (1 : Int32) = nI (i + 1) := nI_1 i
      rw [if_neg (nI_ge hi (by omega)), if_neg (nI_ge hi (by omega)), tri0, tri1, tri2]
      simp only [r0, r1, r2, r3, r4, r5, r6, bd_s, lt_e, if_true]
      rcases (by omega : k = 0 ∨ k = 1 ∨ k = 2) with c | c | c <;> subst c
      · have := fin 1 (by omega) (by omega)
        rw [Nat.mul_one] at this
        rw [if_neg (show ¬ nI 0 = (1 : Int32) by decide), if_neg (show ¬ nI 0 = (2 : Int32) by decide), bd_s, if_pos (show nI 0 = (0 : Int32) from rfl), show (1 : Int64) = lN 1 from rfl, lN_mul, Nat.mul_one]
        exact this
      · rw [if_pos (show nI 1 = (1 : Int32) from rfl), bd_s, if_neg (show ¬ nI 1 = (0 : Int32) by decide), if_pos (show nI 1 = (1 : Int32) from rfl), nI_l (by omega), lN_mul]
        exact fin _ q1 q2
      · rw [if_neg (show ¬ nI 2 = (1 : Int32) by decide), if_pos (show nI 2 = (2 : Int32) from rfl), bd_s, if_neg (show ¬ nI 2 = (0 : Int32) by decide), if_neg (show ¬ nI 2 = (1 : Int32) by decide), ten_sub q2, lN_mul]
        exact fin _ (by omega) (by omega)
theorem odds_e {σ τ : St} (hZ : ZR (σ 18 3) (σ 19) (σ 20) (σ 21) (τ 29 18) (τ 42)) {t : Nat} (ht : t < 10) : ∃ A B, 1 ≤ A ∧ A ≤ 43046721 ∧ 1 ≤ B ∧ B ≤ 43046721 ∧ X4_oddsIfThereIsOne σ (nI t) = some (lN A) ∧ X8_weight τ 1 (nI t) = some (lN A) ∧ X4_oddsIfThereIsNone σ = some (lN B) ∧ X8_weight τ 0 (nI t) = some (lN B) := by
  obtain ⟨sg, h8, z1, z2, hz, hh⟩ := hZ
  obtain ⟨A, a1, a2, a3, a4⟩ := oneL h8 ht z1 z2 hz hh 10000 0 1 (Nat.zero_le _) (by omega) (by omega) (by omega)
  obtain ⟨B, b1, b2, b3, b4⟩ := noneL (x := nI t) h8 z1 z2 hz hh 10000 0 1 (Nat.zero_le _) (by omega) (by omega) (by omega)
  change X4_oddsIfThereIsOne_L1 10000 σ (nI t) 1 0 = _ at a3
  change X8_weight_L1 10000 τ 1 (nI t) 1 0 = _ at a4
  change X4_oddsIfThereIsNone_L1 10000 σ 1 0 = _ at b3
  change X8_weight_L1 10000 τ 0 (nI t) 1 0 = _ at b4
  have := nine8 h8
  refine ⟨A, B, a1, by omega, b1, by omega, ?_, ?_, ?_, ?_⟩
  · unfold X4_oddsIfThereIsOne
    rw [a3, bd_s]
  · unfold X8_weight
    rw [a4, bd_s]
  · unfold X4_oddsIfThereIsNone
    rw [b3, bd_s]
  · unfold X8_weight
    rw [b4, bd_s]
theorem belief_t {σ τ : St} (hZ : ZR (σ 18 3) (σ 19) (σ 20) (σ 21) (τ 29 18) (τ 42)) {t : Nat} (ht : t < 10) {x : Int32} (hx : 0 ≤ x.toInt ∧ x.toInt ≤ 1) : ∃ r, X7_belief σ (nI t) x = some r ∧ X8_tellBelief τ (nI t) x = some r := by
  obtain ⟨A, B, a1, a2, b1, b2, o1, o2, o3, o4⟩ := odds_e hZ ht
  obtain ⟨r, t1, t2⟩ := low_e (a := A) (b := A + B) (by omega) (by omega) (by omega) x
  refine ⟨r, ?_, ?_⟩
  · unfold X7_belief
    rw [if_neg (show ¬ nI t < 0 from nI_nlt (b := 0) (by omega) (by omega)), if_neg (show ¬ (9 : Int32) < nI t from nI_nlt (a := 9) (by omega) (by omega)), lt_e, part_e, if_pos hx, if_neg one0, o1, bd_s, o3, bd_s, lN_add, t1, bd_s]
  · unfold X8_tellBelief
    rw [o2, bd_s, o4, bd_s, lN_add, t2, bd_s]
theorem sim_belief : Sim_belief Inv := by
  intro σ τ x1 x2 I
  obtain ⟨n, kd, by_, td, S, -, -, -, -, -, -, -, hZ, -⟩ := id I
  by_cases c1 : 0 ≤ x1.toInt ∧ x1.toInt ≤ 9
  · by_cases c2 : 0 ≤ x2.toInt ∧ x2.toInt ≤ 1
    · obtain ⟨t, -, b2, rfl⟩ := of_rng (lo := 0) (hi := 9) (by omega) c1.1 c1.2
      obtain ⟨r, t1, t2⟩ := belief_t hZ (show t < 10 by omega) c2
      refine ⟨r, t1, ?_, I⟩
      unfold X8_belief
      rw [lt_e, in_e, l0, l9, if_pos c1, if_neg one0, lt_e, partM_e, if_pos c2, if_neg one0, t2, bd_s]
    · refine ⟨-102, ?_, ?_, I⟩
      · unfold X7_belief
        simp only [lt_e, part_e, if_neg c2, if_true, ite_self]
      · unfold X8_belief
        simp only [lt_e, partM_e, if_neg c2, if_true, ite_self]
  · refine ⟨-102, ?_, ?_, I⟩
    · have := two_e x1 0 9
      rw [show (0 : Int32).toInt = 0 from rfl, show (9 : Int32).toInt = 9 from rfl, if_neg c1] at this
      unfold X7_belief
      by_cases y : x1 < 0
      · rw [if_pos y]
      · rw [if_neg y] at this ⊢
        have y2 : 9 < x1 := by
          by_cases z : 9 < x1
          · exact z
          · rw [if_neg z] at this; exact absurd this one0
        rw [if_pos y2]
    · unfold X8_belief
      simp only [lt_e, in_e, l0, l9, if_neg c1, if_true]
theorem n1_ne {j : Nat} (h : j < 2 ^ 31) : ¬ nI j = (-1 : Int32) := fun z => by
  have h2 := congrArg Int32.toInt z
  rw [toI_n h, show (-1 : Int32).toInt = -1 from rfl] at h2
  omega
/-! parting -/
theorem min_C {a b : Nat} (ha : a < 2 ^ 63) (hb : b < 2 ^ 63) : J9_min_f86c9 (lN a) (lN b) = lN (min a b) := by
  unfold J9_min_f86c9
  by_cases c : b < a
  · rw [if_pos ((pk_lLT hb ha).mpr c), Nat.min_eq_right (by omega)]
  · rw [if_neg (fun z => c ((pk_lLT hb ha).mp z)), Nat.min_eq_left (by omega)]
theorem min_M {a b : Nat} (ha : a < 2 ^ 63) (hb : b < 2 ^ 63) : X8_lesser (lN a) (lN b) = lN (min a b) := by
  unfold X8_lesser
  by_cases c : b ≤ a
  · rw [if_pos ((pk_lLE hb ha).mpr c), Nat.min_eq_right (by omega)]
  · rw [if_neg (fun z => c ((pk_lLE hb ha).mp z)), Nat.min_eq_left (by omega)]
theorem partL {σ τ : St} {sg A B : Nat} (h8 : sg ≤ 8) (z1 : σ 18 3 = nI sg) (z2 : τ 29 18 = nI sg) (hA : A ≤ 43046721) (hB : B ≤ 43046721) (hz : ∀ i, i < sg → ∃ p q, 1 ≤ p ∧ p ≤ 9 ∧ 1 ≤ q ∧ q ≤ 9 ∧ σ 19 i = nI p ∧ σ 20 i = nI q ∧ τ 42 (3 * i) = nI p ∧ τ 42 (3 * i + 1) = nI q) (hh : ∀ i, i < 8 → ∃ q, q ≤ 2 ∧ σ 21 i = nI q ∧ (i < sg → τ 42 (3 * i + 2) = nI q) ∧ (sg ≤ i → q = 0)) : ∀ (f i : Nat) (b b' : Int64) (k : Int32), i ≤ sg → sg < f + i → (k = -1 ∨ ∃ j m : Nat, j < i ∧ k = nI j ∧ m ≤ 1000000000 ∧ b = lN m ∧ b' = lN m) → ∃ r c c', X4_bestParting_L1 f σ (lN A) (lN B) b k (nI i) = some (c, r, nI sg) ∧ X8_partingOf_L1 f τ (lN A) (lN B) k b' (nI i) = some (r, c', nI sg) := by
  intro f
  induction f with
  | zero => intro i b b' k h1 h2; omega
  | succ f ih =>
    intro i b b' k h1 h2 hk
    rw [X4_bestParting_L1_s, X8_partingOf_L1_s, z1, z2]
    by_cases e : i = sg
    · subst e
      rw [if_pos (nI_le (Nat.le_refl _) (by omega)), if_pos (nI_le (Nat.le_refl _) (by omega))]
      exact ⟨k, b, b', rfl, rfl⟩
    · have hi : i < sg := by omega
      obtain ⟨p, q, p1, p2, q1, q2, a1, a2, a3, a4⟩ := hz i hi
      obtain ⟨h, k1, k2, k3, -⟩ := hh i (by omega)
      have hAp : A * p ≤ 43046721 * 9 := Nat.mul_le_mul hA p2
      have hBq : B * q ≤ 43046721 * 9 := Nat.mul_le_mul hB q2
      have hAp' : A * (10 - p) ≤ 43046721 * 9 := Nat.mul_le_mul hA (by omega)
      have hBq' : B * (10 - q) ≤ 43046721 * 9 := Nat.mul_le_mul hB (by omega)
      have hm1 : min (A * p) (B * q) ≤ A * p := Nat.min_le_left _ _
      have hm2 : min (A * (10 - p)) (B * (10 - q)) ≤ A * (10 - p) := Nat.min_le_left _ _
      have s1 : (10 : Int64) - lN p = lN (10 - p) := lN_sub (a := 10) (by omega)
      have s2 : (10 : Int64) - lN q = lN (10 - q) := lN_sub (a := 10) (by omega)
      have r0 : rd (τ 42) 24 (nI (3 * i)) = some (nI p) := by rw [rd_n (by omega) (by omega), a3]
      have r1 : rd (τ 42) 24 (nI (3 * i + 1)) = some (nI q) := by rw [rd_n (by omega) (by omega), a4]
      have r2 : rd (τ 42) 24 (nI (3 * i + 2)) = some (nI h) := by rw [rd_n (by omega) (by omega), k3 hi]
      have r3 : rd (σ 19) 8 (nI i) = some (nI p) := by rw [rd_n (by omega) (by omega), a1]
      have r4 : rd (σ 20) 8 (nI i) = some (nI q) := by rw [rd_n (by omega) (by omega), a2]
      have r5 : rd (σ 21) 8 (nI i) = some (nI h) := by rw [rd_n (by omega) (by omega), k2]
      have r6 : nI i + (1 : Int32) = nI (i + 1) := nI_1 i
      have r8 : (nI p).toInt64 = lN p := nI_l (by omega)
      have r9 : (nI q).toInt64 = lN q := nI_l (by omega)
      rw [if_neg (nI_ge hi (by omega)), if_neg (nI_ge hi (by omega)), tri0, tri1, tri2]
      simp only [r0, r1, r2, r3, r4, r5, r6, r8, r9, bd_s, lt_e, ten_sub p2, ten_sub q2, s1, s2, lN_mul, lN_add, min_C (show A * p < 2 ^ 63 by omega) (show B * q < 2 ^ 63 by omega), min_C (show A * (10 - p) < 2 ^ 63 by omega) (show B * (10 - q) < 2 ^ 63 by omega), min_M (show A * p < 2 ^ 63 by omega) (show B * q < 2 ^ 63 by omega), min_M (show A * (10 - p) < 2 ^ 63 by omega) (show B * (10 - q) < 2 ^ 63 by omega)]
      by_cases c : h = 0
      · subst c
        rw [if_pos (show nI 0 = (0 : Int32) from rfl), if_pos (show nI 0 = (0 : Int32) from rfl)]
        rcases hk with rfl | ⟨j, m, j1, rfl, j2, rfl, rfl⟩
        · rw [if_pos rfl, if_pos rfl, if_pos rfl, bd_s, bd_s]
          exact ih (i + 1) _ _ (nI i) (by omega) (by omega) (Or.inr ⟨i, _, by omega, rfl, by omega, rfl, rfl⟩)
        · have hj : ¬ nI j = (-1 : Int32) := n1_ne (by omega)
          rw [if_neg hj, if_neg hj]
          by_cases d : m ≤ min (A * p) (B * q) + min (A * (10 - p)) (B * (10 - q))
          · rw [if_pos ((pk_lLE (by omega) (by omega)).mpr d), if_pos ((pk_lLE (by omega) (by omega)).mpr d), if_neg (fun z => by have := (nI_eq (by omega) (by omega)).mp z; omega), bd_s, bd_s]
            exact ih (i + 1) _ _ (nI j) (by omega) (by omega) (Or.inr ⟨j, m, by omega, rfl, j2, rfl, rfl⟩)
          · rw [if_neg (fun z => d ((pk_lLE (by omega) (by omega)).mp z)), if_neg (fun z => d ((pk_lLE (by omega) (by omega)).mp z)), if_pos rfl, bd_s, bd_s]
            exact ih (i + 1) _ _ (nI i) (by omega) (by omega) (Or.inr ⟨i, _, by omega, rfl, by omega, rfl, rfl⟩)
      · have hc : ¬ nI h = (0 : Int32) := fun z => c ((nI_eq (b := 0) (by omega) (by omega)).mp z)
        rw [if_neg hc, if_neg hc, bd_s, bd_s]
        refine ih (i + 1) _ _ _ (by omega) (by omega) ?_
        rcases hk with q | ⟨j, m, j1, j3, j2, j4⟩
        · exact Or.inl q
        · exact Or.inr ⟨j, m, by omega, j3, j2, j4⟩
theorem parting_t {σ τ : St} (hZ : ZR (σ 18 3) (σ 19) (σ 20) (σ 21) (τ 29 18) (τ 42)) : ∃ r, X7_parting σ = some r ∧ X8_partingOf τ = some r := by
  obtain ⟨A, B, a1, a2, b1, b2, o1, o2, o3, o4⟩ := odds_e hZ (show 0 < 10 by omega)
  obtain ⟨sg, h8, z1, z2, hz, hh⟩ := hZ
  obtain ⟨r, c, c', e1, e2⟩ := partL h8 z1 z2 a2 b2 hz hh 10000 0 0 0 (-1) (Nat.zero_le _) (by omega) (Or.inl rfl)
  change X4_bestParting_L1 10000 σ (lN A) (lN B) _ (-1) 0 = _ at e1
  change X8_partingOf_L1 10000 τ (lN A) (lN B) (-1) _ 0 = _ at e2
  change X4_oddsIfThereIsOne σ 0 = _ at o1
  change X8_weight τ 1 0 = _ at o2
  change X8_weight τ 0 0 = _ at o4
  refine ⟨r, ?_, ?_⟩
  · unfold X7_parting X4_bestParting
    rw [o1, bd_s, o3, bd_s, e1, bd_s, bd_s]
  · unfold X8_partingOf
    rw [o2, bd_s, o4, bd_s, e2, bd_s]
theorem sim_parting : Sim_parting Inv := by
  intro σ τ I
  obtain ⟨n, kd, by_, td, S, -, -, -, -, -, -, -, hZ, -⟩ := id I
  obtain ⟨r, t1, t2⟩ := parting_t hZ
  refine ⟨r, t1, ?_, I⟩
  unfold X8_parting
  rw [t2, bd_s]
