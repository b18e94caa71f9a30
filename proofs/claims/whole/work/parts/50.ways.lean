/-! ways -/
def pw (f : Nat → Nat) : Nat → Nat
  | 0 => 1
  | k + 1 => pw f k * f k
theorem pw_cong {f g : Nat → Nat} : ∀ {k : Nat}, (∀ i, i < k → f i = g i) → pw f k = pw g k
  | 0, _ => rfl
  | k + 1, h => by unfold pw; rw [pw_cong (fun i hi => h i (by omega)), h k (by omega)]
theorem pw_le {f : Nat → Nat} : ∀ {k : Nat}, (∀ i, i < k → f i ≤ 10) → pw f k ≤ 10 ^ k
  | 0, _ => Nat.le_refl _
  | k + 1, h => by
    unfold pw
    rw [Nat.pow_succ]
    exact Nat.mul_le_mul (pw_le (fun i hi => h i (by omega))) (h k (by omega))
theorem pw_pos {f : Nat → Nat} : ∀ {k : Nat}, (∀ i, i < k → 0 < f i) → 0 < pw f k
  | 0, _ => Nat.one_pos
  | k + 1, h => Nat.mul_pos (pw_pos (fun i hi => h i (by omega))) (h k (by omega))
theorem pw_ten (k : Nat) : pw (fun _ => 10) k = 10 ^ k := by
  induction k with
  | zero => rfl
  | succ k ih => unfold pw; rw [ih, Nat.pow_succ]
theorem ten_sub {q : Nat} (h : q ≤ 9) : (((10 : Int32) - nI q).toInt64) = lN (10 - q) := by
  rw [show (10 : Int32) - nI q = nI (10 - q) from pk_sub (a := 10) (by omega), nI_l (by omega)]
theorem silM {τ : St} {n mt : Nat} {kd td : Nat → Nat} {S : Nat → Nat → Nat → Bool} {au : Nat → Bool} {c1 c2 c3 c4 : Nat → Int32} {w : Nat → Int32} {v mg md me : Nat → Nat} (h9 : n ≤ 9) (h15 : mt ≤ 15) (hz : τ 29 8 = nI mt) (hk' : ∀ i, i < n → τ 30 i = nI (kd i)) (hk4 : ∀ i, i < n → kd i ≤ 4) (hM : MT n kd c1 c2 c3 c4 (τ 36) mt mg md me) (hw : ∀ j, j < n → w j = nI (v j) ∧ v j ≤ 10 ∧ kv n au td S 9 j (v j)) : ∀ (f i : Nat), i ≤ mt → mt < f + i → X8_silent_L1 f (va_up τ 34 w) (lN (pw (fun i => 10 - slp kd (kn n au td S) mg md me i) i)) (nI i) = some (lN (pw (fun i => 10 - slp kd (kn n au td S) mg md me i) mt), nI mt) := by
  intro f
  induction f with
  | zero => intro i h1 h2; omega
  | succ f ih =>
    intro i h1 h2
    rw [X8_silent_L1_s, vu_c (by decide), hz]
    by_cases e : i = mt
    · subst e
      rw [if_pos (nI_le (Nat.le_refl _) (by omega))]
    · have hi : i < mt := by omega
      rw [if_neg (nI_ge hi (by omega)), slipsM h9 h15 hk' hk4 hM hw hi, bd_s, ten_sub (slp_le hM hi), lN_mul, show nI i + (1 : Int32) = nI (i + 1) from nI_1 i]
      exact ih (i + 1) (by omega) (by omega)
theorem sil_e {τ : St} {n mt : Nat} {kd td : Nat → Nat} {S : Nat → Nat → Nat → Bool} {au : Nat → Bool} {c1 c2 c3 c4 : Nat → Int32} {w : Nat → Int32} {v mg md me : Nat → Nat} (h9 : n ≤ 9) (h15 : mt ≤ 15) (hz : τ 29 8 = nI mt) (hk' : ∀ i, i < n → τ 30 i = nI (kd i)) (hk4 : ∀ i, i < n → kd i ≤ 4) (hM : MT n kd c1 c2 c3 c4 (τ 36) mt mg md me) (hw : ∀ j, j < n → w j = nI (v j) ∧ v j ≤ 10 ∧ kv n au td S 9 j (v j)) : X8_silent (va_up τ 34 w) = some (lN (pw (fun i => 10 - slp kd (kn n au td S) mg md me i) mt)) := by
  have h := silM h9 h15 hz hk' hk4 hM hw 10000 0 (Nat.zero_le _) (by omega)
  change X8_silent_L1 10000 _ 1 0 = _ at h
  unfold X8_silent
  rw [h, bd_s]
theorem whM {τ : St} {mt : Nat} (h15 : mt ≤ 15) (hz : τ 29 8 = nI mt) : ∀ (f i : Nat), i ≤ mt → mt < f + i → X8_whole_L1 f τ (lN (10 ^ i)) (nI i) = some (lN (10 ^ mt), nI mt) := by
  intro f
  induction f with
  | zero => intro i h1 h2; omega
  | succ f ih =>
    intro i h1 h2
    rw [X8_whole_L1_s, hz]
    by_cases e : i = mt
    · subst e
      rw [if_pos (nI_le (Nat.le_refl _) (by omega))]
    · have hi : i < mt := by omega
      rw [if_neg (nI_ge hi (by omega)), show (10 : Int64) = lN 10 from rfl, lN_mul, show nI i + (1 : Int32) = nI (i + 1) from nI_1 i, ← Nat.pow_succ]
      exact ih (i + 1) (by omega) (by omega)
theorem wh_e {τ : St} {mt : Nat} (h15 : mt ≤ 15) (hz : τ 29 8 = nI mt) : X8_whole τ = some (lN (10 ^ mt)) := by
  have h := whM h15 hz 10000 0 (Nat.zero_le _) (by omega)
  change X8_whole_L1 10000 _ 1 0 = _ at h
  unfold X8_whole
  rw [h, bd_s]
theorem powL {b m : Nat} (hb : b ≤ 10) (hm : m ≤ 18) : ∀ (f i : Nat), i ≤ m → m < f + i → X7_power_L1 f (nI b) (nI m) (lN (b ^ i)) (nI i) = some (lN (b ^ m), nI m) := by
  intro f
  induction f with
  | zero => intro i h1 h2; omega
  | succ f ih =>
    intro i h1 h2
    rw [X7_power_L1_s]
    by_cases e : i = m
    · subst e
      rw [if_pos (nI_le (Nat.le_refl _) (by omega))]
    · have hi : i < m := by omega
      rw [if_neg (nI_ge hi (by omega)), nI_l (by omega), lN_mul, show nI i + (1 : Int32) = nI (i + 1) from nI_1 i, ← Nat.pow_succ]
      exact ih (i + 1) (by omega) (by omega)
theorem pow_e {b m : Nat} (hb : b ≤ 10) (hm : m ≤ 18) : X7_power (nI b) (nI m) = some (lN (b ^ m)) := by
  have h := powL hb hm 10000 0 (Nat.zero_le _) (by omega)
  rw [Nat.pow_zero] at h
  change X7_power_L1 10000 (nI b) (nI m) 1 0 = _ at h
  unfold X7_power
  rw [h, bd_s]
theorem all_e {σ : St} {mt : Nat} (h15 : mt ≤ 15) (hz : σ 10 4 = nI mt) : X2_allWays σ = some (lN (10 ^ mt)) := by
  unfold X2_allWays
  rw [hz, show (10 : Int32) = nI 10 from rfl, pow_e (by omega) (by omega), bd_s]
/-! the greatest common divisor -/
def fib : Nat → Nat
  | 0 => 0
  | 1 => 1
  | k + 2 => fib (k + 1) + fib k
def gs : Nat → Nat → Nat → Nat
  | 0, _, _ => 0
  | f + 1, a, b => if b = 0 then 0 else 1 + gs f b (a % b)
theorem gs_fib : ∀ (f a b : Nat), b < a → ∀ k, gs f a b = k + 1 → fib (k + 2) ≤ b ∧ fib (k + 3) ≤ a
  | 0, a, b, _, k, h => by simp [gs] at h
  | f + 1, a, b, hab, k, h => by
    unfold gs at h
    by_cases hb : b = 0
    · rw [if_pos hb] at h; omega
    · rw [if_neg hb] at h
      have hk : gs f b (a % b) = k := by omega
      have hlt : a % b < b := Nat.mod_lt _ (by omega)
      have hdm : b + a % b ≤ a := by
        have h1 := Nat.div_add_mod a b
        have h2 : 1 ≤ a / b := Nat.div_pos (by omega) (by omega)
        have h3 : b * 1 ≤ b * (a / b) := Nat.mul_le_mul_left b h2
        omega
      cases k with
      | zero =>
        refine ⟨?_, ?_⟩
        · show 1 ≤ b; omega
        · show 2 ≤ a; omega
      | succ k =>
        obtain ⟨g1, g2⟩ := gs_fib f b (a % b) hlt k hk
        refine ⟨g2, ?_⟩
        show fib (k + 3) + fib (k + 2) ≤ a
        omega
theorem cdL : ∀ (f a b s : Nat), a < 2 ^ 63 → b < 2 ^ 63 → s + gs f a b < 100 → a + b < f + a → X7_commonDivisor_L1 f (lN a) (lN b) (nI s) = some (lN (Nat.gcd a b), 0, nI (s + gs f a b)) := by
  intro f
  induction f with
  | zero => intro a b s h1 h2 h3 h4; omega
  | succ f ih =>
    intro a b s h1 h2 h3 h4
    rw [X7_commonDivisor_L1_s]
    unfold gs at h3 ⊢
    by_cases hb : b = 0
    · subst hb
      rw [if_pos rfl] at h3
      rw [if_neg (show ¬ (100 : Int32) ≤ nI s from nI_ge (b := 100) (by omega) (by omega)), if_pos (show lN 0 = (0 : Int64) from rfl), if_pos rfl, Nat.gcd_zero_right]
      rfl
    · rw [if_neg hb] at h3 ⊢
      have hz : ¬ lN b = (0 : Int64) := fun z => hb ((pk_lEQ (b := 0) h2 (by omega)).mp z)
      have hlt : a % b < b := Nat.mod_lt _ (by omega)
      rw [if_neg (show ¬ (100 : Int32) ≤ nI s from nI_ge (b := 100) (by omega) (by omega)), if_neg hz, if_neg hz, show lrem (lN a) (lN b) = lN (a % b) from pk_lRem h1 (by omega) h2, show nI s + (1 : Int32) = nI (s + 1) from nI_1 s, ih b (a % b) (s + 1) h2 (by omega) (by omega) (by omega)]
      rw [show Nat.gcd b (a % b) = Nat.gcd a b from by rw [Nat.gcd_comm a b, Nat.gcd_rec b a, Nat.gcd_comm], Nat.add_assoc]

theorem slC {σ : St} {n mt : Nat} {kd td : Nat → Nat} {S : Nat → Nat → Nat → Bool} {ms : Nat → Int32} {mg md me : Nat → Nat} (h9 : n ≤ 9) (h15 : mt ≤ 15) (hz : σ 10 4 = nI mt) (hM : MT n kd (σ 11) (σ 12) (σ 13) (σ 14) ms mt mg md me) (hW : WC (σ 7) n kd td S) {i : Nat} (hi : i < mt) : X2_slipOf σ (nI i) = some (nI (slp kd (KN n kd td S) mg md me i)) := by
  obtain ⟨⟨m1, m2, m3, m4, m5⟩, m6, m7, m8, m9, -⟩ := hM i hi
  unfold X2_slipOf
  have hh : X2_has σ (nI i) = if 0 ≤ (nI i).toInt ∧ (nI i).toInt < mt then 1 else 0 := has_e (by omega) hz
  rw [lt_e, hh, toI_n (by omega), if_pos (show (0 : Int) ≤ (i : Int) ∧ (i : Int) < mt by omega), if_neg one0, rd_n (by omega) (by omega), bd_s, rd_n (by omega) (by omega), bd_s, m6, m7, knC hW (by omega) m2 (by omega), bd_s, rd_n (by omega) (by omega), bd_s, m9]
  unfold slp
  cases KN n kd td S (md i) (mg i) <;> rfl
theorem swL {σ : St} {n mt : Nat} {kd td : Nat → Nat} {S : Nat → Nat → Nat → Bool} {ms : Nat → Int32} {mg md me : Nat → Nat} (h9 : n ≤ 9) (h15 : mt ≤ 15) (hz : σ 10 4 = nI mt) (hM : MT n kd (σ 11) (σ 12) (σ 13) (σ 14) ms mt mg md me) (hW : WC (σ 7) n kd td S) : ∀ (f i : Nat), i ≤ mt → mt < f + i → X2_silentWays_L1 f σ (lN (pw (fun i => 10 - slp kd (KN n kd td S) mg md me i) i)) (nI i) = some (lN (pw (fun i => 10 - slp kd (KN n kd td S) mg md me i) mt), nI mt) := by
  intro f
  induction f with
  | zero => intro i h1 h2; omega
  | succ f ih =>
    intro i h1 h2
    rw [X2_silentWays_L1_s, hz]
    by_cases e : i = mt
    · subst e
      rw [if_pos (nI_le (Nat.le_refl _) (by omega))]
    · have hi : i < mt := by omega
      rw [if_neg (nI_ge hi (by omega)), slC h9 h15 hz hM hW hi, bd_s, ten_sub (slp_le hM hi), lN_mul, show nI i + (1 : Int32) = nI (i + 1) from nI_1 i]
      exact ih (i + 1) (by omega) (by omega)
theorem sw_e {σ : St} {n mt : Nat} {kd td : Nat → Nat} {S : Nat → Nat → Nat → Bool} {ms : Nat → Int32} {mg md me : Nat → Nat} (h9 : n ≤ 9) (h15 : mt ≤ 15) (hz : σ 10 4 = nI mt) (hM : MT n kd (σ 11) (σ 12) (σ 13) (σ 14) ms mt mg md me) (hW : WC (σ 7) n kd td S) : X2_silentWays σ = some (lN (pw (fun i => 10 - slp kd (KN n kd td S) mg md me i) mt)) := by
  have h := swL h9 h15 hz hM hW 10000 0 (Nat.zero_le _) (by omega)
  change X2_silentWays_L1 10000 σ 1 0 = _ at h
  unfold X2_silentWays
  rw [h, bd_s]

theorem slP {σ : St} {n mt : Nat} {kd td : Nat → Nat} {S : Nat → Nat → Nat → Bool} {ms : Nat → Int32} {mg md me : Nat → Nat} (h9 : n ≤ 9) (h15 : mt ≤ 15) (hz : σ 10 4 = nI mt) (hM : MT n kd (σ 11) (σ 12) (σ 13) (σ 14) ms mt mg md me) (hW : WC (σ 28) n kd td S) {i : Nat} (hi : i < mt) : X2_slipOf_10_27 σ (nI i) = some (nI (slp kd (KN n kd td S) mg md me i)) := by
  obtain ⟨⟨m1, m2, m3, m4, m5⟩, m6, m7, m8, m9, -⟩ := hM i hi
  unfold X2_slipOf_10_27
  have hh : X2_has σ (nI i) = if 0 ≤ (nI i).toInt ∧ (nI i).toInt < mt then 1 else 0 := has_e (by omega) hz
  rw [lt_e, hh, toI_n (by omega), if_pos (show (0 : Int) ≤ (i : Int) ∧ (i : Int) < mt by omega), if_neg one0, rd_n (by omega) (by omega), bd_s, rd_n (by omega) (by omega), bd_s, m6, m7, knP hW (by omega) m2 (by omega), bd_s, rd_n (by omega) (by omega), bd_s, m9]
  unfold slp
  cases KN n kd td S (md i) (mg i) <;> rfl
theorem spwL {σ : St} {n mt : Nat} {kd td : Nat → Nat} {S : Nat → Nat → Nat → Bool} {ms : Nat → Int32} {mg md me : Nat → Nat} (h9 : n ≤ 9) (h15 : mt ≤ 15) (hz : σ 10 4 = nI mt) (hM : MT n kd (σ 11) (σ 12) (σ 13) (σ 14) ms mt mg md me) (hW : WC (σ 28) n kd td S) : ∀ (f i : Nat), i ≤ mt → mt < f + i → X2_silentWays_10_27_L1 f σ (lN (pw (fun i => 10 - slp kd (KN n kd td S) mg md me i) i)) (nI i) = some (lN (pw (fun i => 10 - slp kd (KN n kd td S) mg md me i) mt), nI mt) := by
  intro f
  induction f with
  | zero => intro i h1 h2; omega
  | succ f ih =>
    intro i h1 h2
    rw [X2_silentWays_10_27_L1_s, hz]
    by_cases e : i = mt
    · subst e
      rw [if_pos (nI_le (Nat.le_refl _) (by omega))]
    · have hi : i < mt := by omega
      rw [if_neg (nI_ge hi (by omega)), slP h9 h15 hz hM hW hi, bd_s, ten_sub (slp_le hM hi), lN_mul, show nI i + (1 : Int32) = nI (i + 1) from nI_1 i]
      exact ih (i + 1) (by omega) (by omega)
theorem spw_e {σ : St} {n mt : Nat} {kd td : Nat → Nat} {S : Nat → Nat → Nat → Bool} {ms : Nat → Int32} {mg md me : Nat → Nat} (h9 : n ≤ 9) (h15 : mt ≤ 15) (hz : σ 10 4 = nI mt) (hM : MT n kd (σ 11) (σ 12) (σ 13) (σ 14) ms mt mg md me) (hW : WC (σ 28) n kd td S) : X2_silentWays_10_27 σ = some (lN (pw (fun i => 10 - slp kd (KN n kd td S) mg md me i) mt)) := by
  have h := spwL h9 h15 hz hM hW 10000 0 (Nat.zero_le _) (by omega)
  change X2_silentWays_10_27_L1 10000 σ 1 0 = _ at h
  unfold X2_silentWays_10_27
  rw [h, bd_s]
