/-! the best plan: numbers -/
theorem kn_plan {n : Nat} {kd p : Nat → Nat} {S : Nat → Nat → Nat → Bool} (h : ∀ a, auN n kd a = true → p a = 0) : ∀ d g, KN n kd p S d g = decide (1 ≤ p g ∧ p g ≤ d)
  | 0, g => by
    show false = _
    have : ¬ (1 ≤ p g ∧ p g ≤ 0) := by omega
    rw [decide_eq_false this]
  | d + 1, g => by
    have h1 := kn_plan (S := S) h d g
    have h2 : ex (fun a => (kn n (auN n kd) p S d a && auN n kd a) && S d a g) n = false := ex_no (fun a ha => by
      cases hx : auN n kd a
      · simp
      · have h3 : kn n (auN n kd) p S d a = decide (1 ≤ p a ∧ p a ≤ d) := kn_plan (S := S) h d a
        rw [h3, h a hx]
        simp)
    show ((kn n (auN n kd) p S d g || decide (p g = d + 1)) || ex _ n) = _
    rw [h2, Bool.or_false, show kn n (auN n kd) p S d g = decide (1 ≤ p g ∧ p g ≤ d) from h1]
    rw [Bool.eq_iff_iff]
    simp
    omega
theorem pw_one : ∀ n, pw (fun _ => 1) n = 1
  | 0 => rfl
  | n + 1 => by unfold pw; rw [pw_one n]
theorem pw_ins {A c : Nat → Nat} {g0 : Nat} : ∀ {n : Nat}, g0 < n → pw (fun g => A g * (if g0 = g then c g else 1)) n = pw A n * c g0
  | 0, h => by omega
  | n + 1, h => by
    unfold pw
    by_cases e : g0 = n
    · subst e
      rw [if_pos rfl, pw_cong (g := A) (fun i hi => by rw [if_neg (by omega), Nat.mul_one]), Nat.mul_assoc]
    · rw [pw_ins (n := n) (by omega), if_neg e, Nat.mul_one, Nat.mul_assoc, Nat.mul_comm (c g0), Nat.mul_assoc]
theorem pw_swap {F : Nat → Nat → Nat} {mg p : Nat → Nat} {n : Nat} : ∀ {m : Nat}, (∀ i, i < m → mg i < n) → pw (fun i => F i (p (mg i))) m = pw (fun g => pw (fun i => if mg i = g then F i (p g) else 1) m) n
  | 0, _ => by
    show 1 = pw (fun _ => 1) n
    rw [pw_one]
  | m + 1, h => by
    have ih := pw_swap (F := F) (p := p) (m := m) (fun i hi => h i (by omega))
    show pw (fun i => F i (p (mg i))) m * F m (p (mg m)) = pw (fun g => pw (fun i => if mg i = g then F i (p g) else 1) m * (if mg m = g then F m (p g) else 1)) n
    rw [pw_ins (c := fun g => F m (p g)) (h m (by omega)), ih]
theorem pw_mono {f g : Nat → Nat} : ∀ {k : Nat}, (∀ i, i < k → f i ≤ g i) → pw f k ≤ pw g k
  | 0, _ => Nat.le_refl _
  | k + 1, h => by
    unfold pw
    exact Nat.mul_le_mul (pw_mono (fun i hi => h i (by omega))) (h k (by omega))
theorem pw_str {f g : Nat → Nat} : ∀ {k : Nat}, (∀ i, i < k → f i ≤ g i) → (∀ i, i < k → 0 < f i) → (∃ i, i < k ∧ f i < g i) → pw f k < pw g k
  | 0, _, _, ⟨i, h, _⟩ => by omega
  | k + 1, h, hp, ⟨i, hi, hs⟩ => by
    unfold pw
    have hm := pw_mono (f := f) (g := g) (k := k) (fun i hi => h i (by omega))
    have hpf := pw_pos (f := f) (k := k) (fun i hi => hp i (by omega))
    by_cases e : i = k
    · subst e
      exact Nat.lt_of_lt_of_le (Nat.mul_lt_mul_of_pos_left hs hpf) (Nat.mul_le_mul_right _ hm)
    · have h2 := pw_str (f := f) (g := g) (k := k) (fun i hi => h i (by omega)) (fun i hi => hp i (by omega)) ⟨i, by omega, hs⟩
      exact Nat.lt_of_lt_of_le (Nat.mul_lt_mul_of_pos_right h2 (hp k (by omega))) (Nat.mul_le_mul_left _ (h k (by omega)))
theorem pw_split {f : Nat → Nat} {g : Nat} : ∀ {n : Nat}, g < n → pw f n = f g * pw (fun j => if j = g then 1 else f j) n
  | 0, h => by omega
  | n + 1, h => by
    unfold pw
    by_cases e : g = n
    · subst e
      rw [if_pos rfl, Nat.mul_one, pw_cong (f := fun j => if j = g then 1 else f j) (g := f) (fun i hi => by rw [if_neg (by omega)]), Nat.mul_comm]
    · rw [pw_split (f := f) (g := g) (n := n) (by omega), if_neg (show ¬ n = g by omega), Nat.mul_assoc]
def Phi (kd mg md me : Nat → Nat) (mt g y : Nat) : Nat := pw (fun i => if mg i = g then 10 - (if 1 ≤ y ∧ y ≤ md i then (if 3 ≤ kd (mg i) then me i / 2 else me i) else 0) else 1) mt
abbrev Wm (n : Nat) (kd : Nat → Nat) (S : Nat → Nat → Nat → Bool) (mg md me : Nat → Nat) (mt : Nat) (p : Nat → Nat) : Nat := pw (fun i => 10 - slp kd (KN n kd p S) mg md me i) mt
theorem wm_e {n mt : Nat} {kd p mg md me : Nat → Nat} {S : Nat → Nat → Nat → Bool} (h : ∀ a, auN n kd a = true → p a = 0) (hm : ∀ i, i < mt → mg i < n) : Wm n kd S mg md me mt p = pw (fun g => Phi kd mg md me mt g (p g)) n := by
  have := pw_swap (F := fun i y => 10 - (if 1 ≤ y ∧ y ≤ md i then (if 3 ≤ kd (mg i) then me i / 2 else me i) else 0)) (p := p) hm
  unfold Phi
  rw [← this]
  apply pw_cong
  intro i hi
  unfold slp
  rw [kn_plan h]
  simp only [decide_eq_true_eq]
theorem wm_le (n : Nat) (kd : Nat → Nat) (S : Nat → Nat → Nat → Bool) (mg md me : Nat → Nat) (mt : Nat) (p : Nat → Nat) : Wm n kd S mg md me mt p ≤ 10 ^ mt := pw_le (fun i _ => by omega)
theorem phi_pos {kd mg md me : Nat → Nat} {mt : Nat} (h : ∀ i, i < mt → me i ≤ 9) (g y : Nat) : 0 < Phi kd mg md me mt g y := by
  apply pw_pos
  intro i hi
  have := h i hi
  split
  · split
    · split <;> omega
    · omega
  · omega
/-- first greatest, from one on -/
def sca (f : Nat → Nat) : Nat → Nat × Nat
  | 0 => (0, 0)
  | k + 1 => if f (k + 1) ≤ (sca f k).1 then sca f k else (f (k + 1), k + 1)
theorem sca_mul {f : Nat → Nat} {R : Nat} (hR : 0 < R) : ∀ k, sca (fun y => f y * R) k = ((sca f k).1 * R, (sca f k).2)
  | 0 => by simp [sca]
  | k + 1 => by
    have ih := sca_mul (f := f) hR k
    unfold sca
    rw [ih]
    by_cases c : f (k + 1) ≤ (sca f k).1
    · rw [if_pos c, if_pos (Nat.mul_le_mul_right R c)]
    · rw [if_neg c, if_neg (fun z => c (Nat.le_of_mul_le_mul_right z hR))]
theorem sca_cong {f g : Nat → Nat} : ∀ {k : Nat}, (∀ y, 1 ≤ y → y ≤ k → f y = g y) → sca f k = sca g k
  | 0, _ => rfl
  | k + 1, h => by unfold sca; rw [sca_cong (k := k) (fun y h1 h2 => h y h1 (by omega)), h (k + 1) (by omega) (by omega)]
theorem sca_le {f : Nat → Nat} {B : Nat} (h : ∀ y, f y ≤ B) : ∀ k, (sca f k).1 ≤ B
  | 0 => Nat.zero_le _
  | k + 1 => by
    unfold sca
    split
    · exact sca_le h k
    · exact h _
theorem sca_d {f : Nat → Nat} : ∀ k, (sca f k).2 ≤ k
  | 0 => Nat.le_refl _
  | k + 1 => by
    have := sca_d (f := f) k
    unfold sca
    split
    · omega
    · exact Nat.le_refl _
theorem sca_v {f : Nat → Nat} (hf : ∀ y, 0 < f y) : ∀ {k : Nat}, 1 ≤ k → 1 ≤ (sca f k).2 ∧ f (sca f k).2 = (sca f k).1 ∧ (∀ y, 1 ≤ y → y ≤ k → f y ≤ (sca f k).1) ∧ ∀ y, 1 ≤ y → y < (sca f k).2 → f y < (sca f k).1
  | 0, h => by omega
  | k + 1, h => by
    cases k with
    | zero =>
      have h0 := hf 1
      have e : sca f 1 = (f 1, 1) := by
        show (if f (0 + 1) ≤ 0 then sca f 0 else (f (0 + 1), 0 + 1)) = _
        rw [if_neg (show ¬ f (0 + 1) ≤ 0 by show ¬ f 1 ≤ 0; omega)]
      rw [e]
      refine ⟨Nat.le_refl _, rfl, fun y h1 h2 => ?_, fun y h1 h2 => ?_⟩
      · rw [show y = 1 by omega]; exact Nat.le_refl _
      · exact absurd h2 (show ¬ y < 1 by omega)
    | succ k =>
      obtain ⟨i1, i2, i3, i4⟩ := sca_v hf (k := k + 1) (by omega)
      have e : sca f (k + 1 + 1) = if f (k + 1 + 1) ≤ (sca f (k + 1)).1 then sca f (k + 1) else (f (k + 1 + 1), k + 1 + 1) := rfl
      by_cases c : f (k + 1 + 1) ≤ (sca f (k + 1)).1
      · rw [e, if_pos c]
        refine ⟨i1, i2, fun y h1 h2 => ?_, i4⟩
        by_cases ey : y = k + 1 + 1
        · rw [ey]; exact c
        · exact i3 y h1 (by omega)
      · rw [e, if_neg c]
        refine ⟨by show 1 ≤ k + 1 + 1; omega, rfl, fun y h1 h2 => ?_, fun y h1 h2 => ?_⟩
        · by_cases ey : y = k + 1 + 1
          · rw [ey]; exact Nat.le_refl _
          · have := i3 y h1 (by omega)
            show f y ≤ f (k + 1 + 1)
            omega
        · have h3 : y < k + 1 + 1 := h2
          have := i3 y h1 (by omega)
          show f y < f (k + 1 + 1)
          omega
/-- digits of a plan's number -/
def dg (b : Nat → Nat) : Nat → Nat → Nat → Nat
  | 0, _, _ => 0
  | k + 1, c, t => if t = k then c % b k else dg b k (c / b k) t
theorem dg_lt {b : Nat → Nat} : ∀ {k : Nat} (c : Nat) {t : Nat}, (∀ t, t < k → 0 < b t) → t < k → dg b k c t < b t
  | 0, _, _, _, h => by omega
  | k + 1, c, t, hb, h => by
    unfold dg
    by_cases e : t = k
    · rw [if_pos e, e]; exact Nat.mod_lt _ (hb k (by omega))
    · rw [if_neg e]; exact dg_lt _ (fun t ht => hb t (by omega)) (by omega)
theorem dg_st {b : Nat → Nat} : ∀ {k c c' : Nat}, (∀ t, t < k → 0 < b t) → c < c' → c' < pw b k → ∃ t, t < k ∧ dg b k c t < dg b k c' t
  | 0, c, c', _, h, h2 => by
    have : c' < 1 := h2
    omega
  | k + 1, c, c', hb, h, h2 => by
    have h2' : c' < pw b k * b k := h2
    have hbk := hb k (by omega)
    have hdiv : c' / b k < pw b k := Nat.div_lt_of_lt_mul (by rw [Nat.mul_comm]; exact h2')
    have hle : c / b k ≤ c' / b k := Nat.div_le_div_right (by omega)
    by_cases e : c / b k < c' / b k
    · obtain ⟨t, t1, t2⟩ := dg_st (k := k) (fun t ht => hb t (by omega)) e hdiv
      refine ⟨t, by omega, ?_⟩
      show (if t = k then c % b k else dg b k (c / b k) t) < (if t = k then c' % b k else dg b k (c' / b k) t)
      rw [if_neg (by omega), if_neg (by omega)]
      exact t2
    · refine ⟨k, by omega, ?_⟩
      show (if k = k then c % b k else dg b k (c / b k) k) < (if k = k then c' % b k else dg b k (c' / b k) k)
      rw [if_pos rfl, if_pos rfl]
      have e2 : c / b k = c' / b k := by omega
      have a1 := Nat.div_add_mod c (b k)
      have a2 := Nat.div_add_mod c' (b k)
      rw [e2] at a1
      omega
theorem dg_ex {b y : Nat → Nat} : ∀ {k : Nat}, (∀ t, t < k → y t < b t) → ∃ c, c < pw b k ∧ ∀ t, t < k → dg b k c t = y t
  | 0, _ => ⟨0, Nat.one_pos, fun t h => by omega⟩
  | k + 1, h => by
    obtain ⟨c, c1, c2⟩ := dg_ex (b := b) (y := y) (k := k) (fun t ht => h t (by omega))
    have hk := h k (by omega)
    have e1 : (c * b k + y k) / b k = c := by
      rw [Nat.mul_comm, Nat.mul_add_div (by omega), Nat.div_eq_of_lt hk, Nat.add_zero]
    have e2 : (c * b k + y k) % b k = y k := by
      rw [Nat.mul_comm, Nat.mul_add_mod, Nat.mod_eq_of_lt hk]
    refine ⟨c * b k + y k, ?_, fun t ht => ?_⟩
    · show c * b k + y k < pw b k * b k
      have : (c + 1) * b k ≤ pw b k * b k := Nat.mul_le_mul_right _ c1
      rw [Nat.add_mul, Nat.one_mul] at this
      omega
    · show (if t = k then (c * b k + y k) % b k else dg b k ((c * b k + y k) / b k) t) = y t
      by_cases e : t = k
      · rw [if_pos e, e2, e]
      · rw [if_neg e, e1]
        exact c2 t (by omega)
