/-! list: counting places -/
theorem ct_sub {p q : Nat → Bool} : ∀ {k : Nat}, (∀ i, i < k → p i = true → q i = true) → ct p k ≤ ct q k
  | 0, _ => Nat.le_refl _
  | k + 1, h => by
    have h1 := ct_sub (p := p) (q := q) (k := k) (fun i hi => h i (by omega))
    have h2 := h k (by omega)
    unfold ct
    cases hp : p k
    · rw [if_neg (by decide)]; omega
    · rw [h2 hp]; simp; exact h1
theorem ct_st {p : Nat → Bool} {i : Nat} (hp : p i = true) : ∀ {k : Nat}, i < k → ct p i < ct p k
  | 0, h => by omega
  | k + 1, h => by
    unfold ct
    by_cases e : i = k
    · subst e
      conv => rhs; rw [hp]
      cases i with
      | zero => simp [ct]
      | succ i => show ct p (i + 1) < ct p (i + 1) + 1; omega
    · have := ct_st hp (k := k) (by omega)
      cases i with
      | zero => simp only [ct] at this ⊢; omega
      | succ i => show ct p (i + 1) < ct p k + _; omega
theorem ct_3 (D : Nat → Nat) (d : Nat) : ∀ k, ct (fun x => decide (D x < d)) k + ct (fun x => decide (D x = d)) k = ct (fun x => decide (D x ≤ d)) k
  | 0 => rfl
  | k + 1 => by
    have := ct_3 D d k
    unfold ct
    by_cases h1 : D k < d
    · have h2 : ¬ D k = d := by omega
      have h3 : D k ≤ d := by omega
      simp [h1, h2, h3]; omega
    · by_cases h2 : D k = d
      · have h3 : D k ≤ d := by omega
        have h1' : ¬ D k < d := h1
        simp [h2]; rw [h2] at h1'; omega
      · have h3 : ¬ D k ≤ d := by omega
        simp [h1, h2, h3]; omega
def pos (D : Nat → Nat) (j i : Nat) : Nat := ct (fun x => decide (D x < D i)) j + ct (fun x => decide (D x = D i)) i
def ipl (D : Nat → Nat) (j : Nat) : Nat := ct (fun x => decide (D x ≤ D j)) j
theorem ipl_le (D : Nat → Nat) (j : Nat) : ipl D j ≤ j := ct_le _ _
theorem pos_lt {D : Nat → Nat} {j i : Nat} (hi : i < j) : pos D j i < ct (fun x => decide (D x ≤ D i)) j := by
  have h1 := ct_st (p := fun x => decide (D x = D i)) (i := i) (by simp) hi
  have h2 := ct_3 D (D i) j
  unfold pos
  omega
theorem pos_b {D : Nat → Nat} {j i : Nat} (hi : i < j) : pos D j i < j := Nat.lt_of_lt_of_le (pos_lt hi) (ct_le _ _)
theorem pos_lo {D : Nat → Nat} {j i : Nat} (hi : i < j) (h : D i ≤ D j) : pos D j i < ipl D j := Nat.lt_of_lt_of_le (pos_lt hi) (ct_sub (fun x _ hx => by simp at hx ⊢; omega))
theorem pos_hi {D : Nat → Nat} {j i : Nat} (h : D j < D i) : ipl D j ≤ pos D j i := Nat.le_trans (ct_sub (q := fun x => decide (D x < D i)) (fun x _ hx => by simp at hx ⊢; omega)) (Nat.le_add_right _ _)
theorem pos_iff {D : Nat → Nat} {j i : Nat} (hi : i < j) : (D i ≤ D j) ↔ pos D j i < ipl D j := by
  constructor
  · exact pos_lo hi
  · intro h
    rcases Nat.lt_or_ge (D j) (D i) with q | q
    · have := pos_hi q; omega
    · exact q
theorem pos_s (D : Nat → Nat) (j i : Nat) : pos D (j + 1) i = pos D j i + (if D j < D i then 1 else 0) := by
  show ct (fun x => decide (D x < D i)) j + (if decide (D j < D i) = true then 1 else 0) + _ = ct (fun x => decide (D x < D i)) j + _ + _
  simp only [decide_eq_true_eq]
  omega
theorem pos_n (D : Nat → Nat) (j : Nat) : pos D (j + 1) j = ipl D j := by
  rw [pos_s, if_neg (by omega)]
  exact ct_3 D (D j) j
theorem pos_sur (D : Nat → Nat) : ∀ j k, k < j → ∃ i, i < j ∧ pos D j i = k
  | 0, k, h => by omega
  | j + 1, k, h => by
    have hp := ipl_le D j
    rcases Nat.lt_trichotomy k (ipl D j) with q | q | q
    · obtain ⟨i, i1, i2⟩ := pos_sur D j k (by omega)
      refine ⟨i, by omega, ?_⟩
      have := (pos_iff (D := D) i1).mpr (by omega)
      rw [pos_s, if_neg (by omega), i2, Nat.add_zero]
    · exact ⟨j, by omega, by rw [pos_n, q]⟩
    · obtain ⟨i, i1, i2⟩ := pos_sur D j (k - 1) (by omega)
      refine ⟨i, by omega, ?_⟩
      have h3 : ¬ D i ≤ D j := fun z => by have := (pos_iff (D := D) i1).mp z; omega
      rw [pos_s, if_pos (by omega), i2]
      omega
/-! the class: meetings put in by day -/
def mst (σ : St) (z : Int32) (A B C E : Nat → Int32) : St := fun c => if c = 10 then upd (σ 10) 4 z else if c = 11 then A else if c = 12 then B else if c = 13 then C else if c = 14 then E else σ c
theorem ms_11 {σ : St} {z x : Int32} {A B C E : Nat → Int32} {k : Nat} (hk : k < 15) : wa (mst σ z A B C E) 11 15 (nI k) x = some (mst σ z (upd A k x) B C E) := by
  rw [wa_n hk (by omega)]
  congr 1
  funext c
  by_cases h : c = 11
  · subst h; rfl
  · rw [s2_c h]
    simp only [mst, if_neg h]
theorem ms_12 {σ : St} {z x : Int32} {A B C E : Nat → Int32} {k : Nat} (hk : k < 15) : wa (mst σ z A B C E) 12 15 (nI k) x = some (mst σ z A (upd B k x) C E) := by
  rw [wa_n hk (by omega)]
  congr 1
  funext c
  by_cases h : c = 12
  · subst h; rfl
  · rw [s2_c h]
    simp only [mst, if_neg h]
theorem ms_13 {σ : St} {z x : Int32} {A B C E : Nat → Int32} {k : Nat} (hk : k < 15) : wa (mst σ z A B C E) 13 15 (nI k) x = some (mst σ z A B (upd C k x) E) := by
  rw [wa_n hk (by omega)]
  congr 1
  funext c
  by_cases h : c = 13
  · subst h; rfl
  · rw [s2_c h]
    simp only [mst, if_neg h]
theorem ms_14 {σ : St} {z x : Int32} {A B C E : Nat → Int32} {k : Nat} (hk : k < 15) : wa (mst σ z A B C E) 14 15 (nI k) x = some (mst σ z A B C (upd E k x)) := by
  rw [wa_n hk (by omega)]
  congr 1
  funext c
  by_cases h : c = 14
  · subst h; rfl
  · rw [s2_c h]
    simp only [mst, if_neg h]
theorem up_up {f : Nat → Int32} {k : Nat} {x y : Int32} : upd (upd f k x) k y = upd f k y := by
  funext j
  by_cases e : j = k
  · rw [e, up_s, up_s]
  · rw [up_n e, up_n e, up_n e]
theorem ms_10 {σ : St} {z x : Int32} {A B C E : Nat → Int32} : s2 (mst σ z A B C E) 10 4 x = mst σ x A B C E := by
  funext c
  by_cases h : c = 10
  · subst h
    show upd (upd (σ 10) 4 z) 4 x = upd (σ 10) 4 x
    exact up_up
  · rw [s2_c h]
    simp only [mst, if_neg h]
def sh (A : Nat → Int32) (y j k : Nat) : Int32 := if y < k ∧ k ≤ j then A (k - 1) else A k
theorem sh_j (A : Nat → Int32) (j : Nat) : sh A j j = A := by
  funext k
  unfold sh
  rw [if_neg (by omega)]
theorem sh_g {A : Nat → Int32} {y j : Nat} : sh A y j (y - 1) = A (y - 1) := by
  unfold sh
  rw [if_neg (by omega)]
theorem sh_s {A : Nat → Int32} {y j : Nat} (h1 : 1 ≤ y) (h2 : y ≤ j) : upd (sh A y j) y (A (y - 1)) = sh A (y - 1) j := by
  funext k
  by_cases e : k = y
  · subst e
    rw [up_s]
    unfold sh
    rw [if_pos (by omega)]
  · rw [up_n e]
    unfold sh
    by_cases c : y < k ∧ k ≤ j
    · rw [if_pos c, if_pos (by omega)]
    · rw [if_neg c, if_neg (by omega)]
theorem addL {σ : St} {z x1 x3 x4 : Int32} {A B C E : Nat → Int32} {j p d : Nat} (hj : j < 15) (hd : d < 2 ^ 31) (hB : ∀ k, k < j → ∃ b, b < 2 ^ 31 ∧ B k = nI b ∧ (b ≤ d ↔ k < p)) : ∀ (f y : Nat), p ≤ y → y ≤ j → y < f → X2_add_L1 f (mst σ z (sh A y j) (sh B y j) (sh C y j) (sh E y j)) x1 (nI d) x3 x4 (nI y) = some (nI p, mst σ z (sh A p j) (sh B p j) (sh C p j) (sh E p j)) := by
  intro f
  induction f with
  | zero => intro y h1 h2 h3; omega
  | succ f ih =>
    intro y h1 h2 h3
    rw [X2_add_L1_s]
    by_cases e : y = 0
    · have : p = 0 := by omega
      subst e
      subst this
      rw [if_pos (show nI 0 ≤ 0 by decide)]
    · obtain ⟨b, b1, b2, b3⟩ := hB (y - 1) (by omega)
      have e1 : nI y - (1 : Int32) = nI (y - 1) := pk_sub (b := 1) (by omega)
      rw [if_neg (show ¬ nI y ≤ 0 from nI_ge (a := 0) (by omega) (by omega)), e1]
      show bd (rd (sh B y j) 15 (nI (y - 1))) _ = _
      rw [rd_n (by omega) (by omega), bd_s, sh_g, b2]
      by_cases c : b ≤ d
      · have : y = p := by have := b3.mp c; omega
        rw [if_pos (nI_le c (by omega)), this]
      · have hyp : ¬ y - 1 < p := fun q => c (b3.mpr q)
        rw [if_neg (nI_ge (by omega) (by omega))]
        show bd (rd (sh A y j) 15 (nI (y - 1))) _ = _
        rw [rd_n (by omega) (by omega), bd_s, sh_g, ms_11 (by omega), bd_s, sh_s (by omega) h2]
        show bd (rd (sh B y j) 15 (nI (y - 1))) _ = _
        rw [rd_n (by omega) (by omega), bd_s, sh_g, ms_12 (by omega), bd_s, sh_s (by omega) h2]
        show bd (rd (sh C y j) 15 (nI (y - 1))) _ = _
        rw [rd_n (by omega) (by omega), bd_s, sh_g, ms_13 (by omega), bd_s, sh_s (by omega) h2]
        show bd (rd (sh E y j) 15 (nI (y - 1))) _ = _
        rw [rd_n (by omega) (by omega), bd_s, sh_g, ms_14 (by omega), bd_s, sh_s (by omega) h2]
        have e2 : nI y + (-1 : Int32) = nI (y - 1) := by
          have := pk_m1 (y - 1)
          rw [show y - 1 + 1 = y by omega] at this
          exact this
        rw [e2]
        exact ih (y - 1) (by omega) (by omega) (by omega)
theorem add_e {σ : St} {x1 x3 x4 : Int32} {A B C E : Nat → Int32} {j p d : Nat} (hj : j < 15) (hp : p ≤ j) (hd : d < 2 ^ 31) (hB : ∀ k, k < j → ∃ b, b < 2 ^ 31 ∧ B k = nI b ∧ (b ≤ d ↔ k < p)) : X2_add (mst σ (nI j) A B C E) x1 (nI d) x3 x4 = some (mst σ (nI (j + 1)) (upd (sh A p j) p x1) (upd (sh B p j) p (nI d)) (upd (sh C p j) p x3) (upd (sh E p j) p x4)) := by
  have h := addL (σ := σ) (z := nI j) (x1 := x1) (x3 := x3) (x4 := x4) (A := A) (C := C) (E := E) hj hd hB 10000 j hp (Nat.le_refl _) (by omega)
  rw [sh_j, sh_j, sh_j, sh_j] at h
  unfold X2_add
  show (if nI j < (15 : Int32) then bd (X2_add_L1 10000 _ x1 (nI d) x3 x4 (nI j)) _ else _) = _
  rw [if_pos (show nI j < (15 : Int32) from nI_lt (b := 15) hj (by omega)), h, bd_s]
  dsimp only
  rw [ms_11 (by omega), bd_s, ms_12 (by omega), bd_s, ms_13 (by omega), bd_s, ms_14 (by omega), bd_s, lt_e]
  have : mst σ (nI j) (upd (sh A p j) p x1) (upd (sh B p j) p (nI d)) (upd (sh C p j) p x3) (upd (sh E p j) p x4) 10 4 + (1 : Int32) = nI (j + 1) := nI_1 j
  rw [this, ms_10]
theorem sh_pos {A : Nat → Int32} {D : Nat → Nat} {j i : Nat} {x : Int32} (hi : i < j) : upd (sh A (ipl D j) j) (ipl D j) x (pos D (j + 1) i) = A (pos D j i) := by
  have hb := pos_b (D := D) hi
  rw [pos_s]
  by_cases c : D j < D i
  · have := pos_hi c
    rw [if_pos c, up_n (by omega)]
    unfold sh
    rw [if_pos (by omega)]
    rfl
  · have := pos_lo hi (by omega : D i ≤ D j)
    rw [if_neg c, Nat.add_zero, up_n (by omega)]
    unfold sh
    rw [if_neg (by omega)]
theorem soft_e {σ : St} {n g : Nat} {kd : Nat → Nat} (hn : σ 1 5 = nI n) (h9 : n ≤ 9) (hk : ∀ i, i < n → σ 2 i = nI (kd i)) (h4 : ∀ i, i < n → kd i ≤ 4) (hg : g < n) : X0_isSoftSpoken σ (nI g) = some (if 3 ≤ kd g then 1 else 0) := by
  have := h4 g hg
  unfold X0_isSoftSpoken
  rw [show (3 : Int32) = nI 3 from rfl, show (4 : Int32) = nI 4 from rfl, isA_e hn h9 hk h4 hg (by omega), isA_e hn h9 hk h4 hg (by omega), bd_s, bd_s]
  have key : ∀ t, t < 5 → (if (if 3 = 0 ∨ 3 = t ∨ (3 = 2 ∧ t = 4) then (1 : Int32) else 0) = 0 then (if (if 4 = 0 ∨ 4 = t ∨ (4 = 2 ∧ t = 4) then (1 : Int32) else 0) = 0 then some (0 : Int32) else some 1) else some 1) = some (if 3 ≤ t then (1 : Int32) else 0) := by decide
  exact key _ (by omega)
def HA (D : Nat → Nat) (g e s : Nat → Nat) (j : Nat) (A B C E : Nat → Int32) : Prop := ∀ i, i < j → A (pos D j i) = nI (g i) ∧ B (pos D j i) = nI (D i) ∧ C (pos D j i) = nI (e i) ∧ E (pos D j i) = nI (s i)
theorem liC {σ : St} {n M pm : Nat} {kd D g e : Nat → Nat} (hn : σ 1 5 = nI n) (h9 : n ≤ 9) (hk : ∀ i, i < n → σ 2 i = nI (kd i)) (h4 : ∀ i, i < n → kd i ≤ 4) (hM : M ≤ 15) (hpm : pm + 1 = 4 * M) (ha : σ 8 1 = nI pm) (hq : ∀ j, j < M → X3_digitAt σ (nI (4 * j)) = some (nI (g j)) ∧ X3_digitAt σ (nI (4 * j + 1)) = some (nI (D j)) ∧ X3_digitAt σ (nI (4 * j + 2)) = some (nI (e j)) ∧ g j < n ∧ D j ≤ 8 ∧ e j ≤ 9) : ∀ (f j : Nat) (A B C E : Nat → Int32), j ≤ M → M < f + j → HA D g e (fun i => if 3 ≤ kd (g i) then e i / 2 else e i) j A B C E → ∃ k A' B' C' E', X7_list_L1 f (mst σ (nI j) A B C E) (nI (4 * j)) = some (k, mst σ (nI M) A' B' C' E') ∧ HA D g e (fun i => if 3 ≤ kd (g i) then e i / 2 else e i) M A' B' C' E' := by
  intro f
  induction f with
  | zero => intro j A B C E h1 h2; omega
  | succ f ih =>
    intro j A B C E h1 h2 hA
    rw [X7_list_L1_s, lt_e]
    show ∃ k A' B' C' E', (if σ 8 1 ≤ nI (4 * j) then _ else _) = _ ∧ _
    rw [ha]
    by_cases c : j = M
    · subst c
      rw [if_pos (nI_le (by omega) (by omega))]
      exact ⟨_, A, B, C, E, rfl, hA⟩
    · have hj : j < M := by omega
      obtain ⟨q1, q2, q3, q4, q5, q6⟩ := hq j hj
      have d1 : X3_digitAt (mst σ (nI j) A B C E) (nI (4 * j)) = some (nI (g j)) := q1
      have d2 : X3_digitAt (mst σ (nI j) A B C E) (nI (4 * j + 1)) = some (nI (D j)) := q2
      have d3 : X3_digitAt (mst σ (nI j) A B C E) (nI (4 * j + 2)) = some (nI (e j)) := q3
      have d4 : X0_isSoftSpoken (mst σ (nI j) A B C E) (nI (g j)) = some (if 3 ≤ kd (g j) then 1 else 0) := soft_e (σ := mst σ (nI j) A B C E) hn h9 hk h4 q4
      have t1 : nI (4 * j) + (1 : Int32) = nI (4 * j + 1) := nI_1 _
      have t2 : nI (4 * j) + (2 : Int32) = nI (4 * j + 2) := nI_add _ 2
      have t4 : nI (4 * j) + (4 : Int32) = nI (4 * (j + 1)) := nI_add _ 4
      rw [if_neg (nI_ge (by omega) (by omega)), t1, t2, t4, d1, bd_s, d3, bd_s, d4, bd_s, d2, lt_e, bd_s]
      have hs : (if (if 3 ≤ kd (g j) then (1 : Int32) else 0) = 0 then nI (e j) else nI (e j) / (2 : Int32)) = nI (if 3 ≤ kd (g j) then e j / 2 else e j) := by
        by_cases c3 : 3 ≤ kd (g j)
        · rw [if_pos c3, if_pos c3, if_neg one0]
          exact pk_div (d := 2) (by omega) (by omega) (by omega)
        · rw [if_neg c3, if_neg c3, if_pos rfl]
      rw [hs, add_e (p := ipl D j) (by omega) (ipl_le D j) (by omega) (fun k hk => by
        obtain ⟨i, i1, i2⟩ := pos_sur D j k hk
        obtain ⟨-, z2, -, -⟩ := hA i i1
        obtain ⟨-, -, -, -, z5, -⟩ := hq i (by omega)
        rw [i2] at z2
        refine ⟨D i, by omega, z2, ?_⟩
        rw [← i2]
        exact pos_iff i1), bd_s]
      refine ih (j + 1) _ _ _ _ (by omega) (by omega) (fun i hi => ?_)
      by_cases ei : i = j
      · subst ei
        rw [pos_n, up_s, up_s, up_s, up_s]
        exact ⟨rfl, rfl, rfl, rfl⟩
      · rw [sh_pos (by omega), sh_pos (by omega), sh_pos (by omega), sh_pos (by omega)]
        exact hA i (by omega)
/-! the reference: day by day -/
def rst (τ : St) (z : Int32) (W : Nat → Int32) : St := fun c => if c = 29 then upd (τ 29) 8 z else if c = 36 then W else τ c
theorem rs_36 {τ : St} {z x : Int32} {W : Nat → Int32} {k : Nat} (hk : k < 45) : wa (rst τ z W) 36 45 (nI k) x = some (rst τ z (upd W k x)) := by
  rw [wa_n hk (by omega)]
  congr 1
  funext c
  by_cases h : c = 36
  · subst h; rfl
  · rw [s2_c h]
    simp only [rst, if_neg h]
theorem rs_29 {τ : St} {z x : Int32} {W : Nat → Int32} : s2 (rst τ z W) 29 8 x = rst τ x W := by
  funext c
  by_cases h : c = 29
  · subst h
    show upd (upd (τ 29) 8 z) 8 x = upd (τ 29) 8 x
    exact up_up
  · rw [s2_c h]
    simp only [rst, if_neg h]
def zz (D : Nat → Nat) (M d i : Nat) : Nat := ct (fun x => decide (D x < d)) M + ct (fun x => decide (D x = d)) i
def HW (D g e : Nat → Nat) (M d i : Nat) (W : Nat → Int32) : Prop := ∀ x, x < M → (D x < d ∨ (D x = d ∧ x < i)) → W (3 * pos D M x) = nI (g x) ∧ W (3 * pos D M x + 1) = nI (D x) ∧ W (3 * pos D M x + 2) = nI (e x)
theorem liM2 {τ : St} {M pm d : Nat} {D g e : Nat → Nat} (hM : M ≤ 15) (hpm : pm + 1 = 4 * M) (hd : d ≤ 8) (hb : τ 29 7 = nI pm) (hq : ∀ j, j < M → (τ 35 (4 * j) - (48 : Int32) = nI (g j)) ∧ (τ 35 (4 * j + 1) - (48 : Int32) = nI (D j)) ∧ (τ 35 (4 * j + 2) - (48 : Int32) = nI (e j)) ∧ D j ≤ 8) : ∀ (f i : Nat) (W : Nat → Int32), i ≤ M → M < f + i → HW D g e M d i W → ∃ k W', X8_list_L2 f (rst τ (nI (zz D M d i)) W) (nI d) (nI (4 * i)) = some (k, rst τ (nI (zz D M d M)) W') ∧ HW D g e M d M W' := by
  intro f
  induction f with
  | zero => intro i W h1 h2; omega
  | succ f ih =>
    intro i W h1 h2 hW
    rw [X8_list_L2_s]
    show ∃ k W', (if τ 29 7 ≤ nI (4 * i) then _ else _) = _ ∧ _
    rw [hb]
    by_cases c : i = M
    · subst c
      rw [if_pos (nI_le (by omega) (by omega))]
      exact ⟨_, W, rfl, hW⟩
    · have hi : i < M := by omega
      obtain ⟨q1, q2, q3, q4⟩ := hq i hi
      have t1 : nI (4 * i) + (1 : Int32) = nI (4 * i + 1) := nI_1 _
      have t2 : nI (4 * i) + (2 : Int32) = nI (4 * i + 2) := nI_add _ 2
      have t4 : nI (4 * i) + (4 : Int32) = nI (4 * (i + 1)) := nI_add _ 4
      have hzs : zz D M d (i + 1) = zz D M d i + (if D i = d then 1 else 0) := by
        show _ + (ct (fun x => decide (D x = d)) i + (if decide (D i = d) = true then 1 else 0)) = _
        simp only [decide_eq_true_eq]
        unfold zz
        omega
      rw [if_neg (nI_ge (by omega) (by omega)), t1, t2, t4]
      show ∃ k W', bd (rd (τ 35) 60 (nI (4 * i + 1))) _ = _ ∧ _
      rw [rd_n (by omega) (by omega), bd_s, q2]
      by_cases cd : D i = d
      · have hz : zz D M d i = pos D M i := by
          unfold zz pos
          rw [cd]
        have hzb := pos_b (D := D) hi
        have c36 : rst τ (nI (zz D M d i)) W 29 8 = nI (pos D M i) := by
          show nI (zz D M d i) = _
          rw [hz]
        rw [if_pos (by rw [cd])]
        show ∃ k W', bd (bd (rd (τ 35) 60 (nI (4 * i))) _) _ = _ ∧ _
        rw [rd_n (by omega) (by omega), bd_s, q1, c36, tri0, rs_36 (by omega), bd_s]
        have c37 : rst τ (nI (zz D M d i)) (upd W (3 * pos D M i) (nI (g i))) 29 8 = nI (pos D M i) := c36
        rw [c37, tri0, tri1, rs_36 (by omega), bd_s]
        show ∃ k W', bd (bd (rd (τ 35) 60 (nI (4 * i + 2))) _) _ = _ ∧ _
        have c38 : ∀ V, rst τ (nI (zz D M d i)) V 29 8 = nI (pos D M i) := fun V => c36
        rw [rd_n (by omega) (by omega), bd_s, q3, c38, tri0, tri2, rs_36 (by omega), bd_s, lt_e, c38, show nI (pos D M i) + (1 : Int32) = nI (pos D M i + 1) from nI_1 _, rs_29, bd_s]
        rw [if_pos cd, hz] at hzs
        rw [← hzs]
        refine ih (i + 1) _ (by omega) (by omega) (fun x hx hxx => ?_)
        by_cases ex : x = i
        · subst ex
          refine ⟨?_, ?_, ?_⟩
          · rw [up_n (by omega), up_n (by omega), up_s]
          · rw [up_n (by omega), up_s, cd]
          · rw [up_s]
        · have hlt : pos D M x < pos D M i := by
            rcases hxx with q | ⟨q, r⟩
            · have h1 := pos_lt (D := D) hx
              have h2 : ct (fun y => decide (D y ≤ D x)) M ≤ ct (fun y => decide (D y < D i)) M := ct_sub (fun y _ hy => by simp at hy ⊢; omega)
              have h3 : pos D M i = ct (fun y => decide (D y < D i)) M + ct (fun y => decide (D y = D i)) i := rfl
              omega
            · have h1 : ct (fun y => decide (D y = D i)) x < ct (fun y => decide (D y = D i)) i := ct_st (p := fun y => decide (D y = D i)) (i := x) (by simp; omega) (by omega)
              have h3 : pos D M i = ct (fun y => decide (D y < D i)) M + ct (fun y => decide (D y = D i)) i := rfl
              have h4 : pos D M x = ct (fun y => decide (D y < D i)) M + ct (fun y => decide (D y = D i)) x := by
                unfold pos
                rw [show D x = D i by omega]
              omega
          rw [up_n (by omega), up_n (by omega), up_n (by omega), up_n (by omega), up_n (by omega), up_n (by omega), up_n (by omega), up_n (by omega), up_n (by omega)]
          exact hW x hx (by omega)
      · rw [if_neg (fun z => cd ((nI_eq (by omega) (by omega)).mp z)), bd_s]
        have hz' : zz D M d (i + 1) = zz D M d i := by
          rw [if_neg cd] at hzs
          omega
        rw [← hz']
        refine ih (i + 1) _ (by omega) (by omega) (fun x hx hxx => hW x hx ?_)
        rcases hxx with q | ⟨q, r⟩
        · exact Or.inl q
        · by_cases ex : x = i
          · subst ex; exact absurd q cd
          · exact Or.inr ⟨q, by omega⟩
theorem zz_s (D : Nat → Nat) (M d : Nat) : zz D M d M = zz D M (d + 1) 0 := by
  show ct (fun x => decide (D x < d)) M + ct (fun x => decide (D x = d)) M = ct (fun x => decide (D x < d + 1)) M + 0
  rw [ct_3, Nat.add_zero]
  exact ct_cong (fun i _ => by rw [Bool.eq_iff_iff]; simp; omega)
theorem liM1 {τ : St} {M pm : Nat} {D g e : Nat → Nat} (hM : M ≤ 15) (hpm : pm + 1 = 4 * M) (hb : τ 29 7 = nI pm) (hq : ∀ j, j < M → (τ 35 (4 * j) - (48 : Int32) = nI (g j)) ∧ (τ 35 (4 * j + 1) - (48 : Int32) = nI (D j)) ∧ (τ 35 (4 * j + 2) - (48 : Int32) = nI (e j)) ∧ D j ≤ 8) : ∀ (f d : Nat) (W : Nat → Int32), d ≤ 9 → 9 < f + d → HW D g e M d 0 W → ∃ k W', X8_list_L1 f (rst τ (nI (zz D M d 0)) W) (nI d) = some (k, rst τ (nI (zz D M 9 0)) W') ∧ HW D g e M 9 0 W' := by
  intro f
  induction f with
  | zero => intro d W h1 h2; omega
  | succ f ih =>
    intro d W h1 h2 hW
    rw [X8_list_L1_s]
    by_cases c : d = 9
    · subst c
      rw [if_pos (show (9 : Int32) ≤ nI 9 by decide)]
      exact ⟨_, W, rfl, hW⟩
    · obtain ⟨k, W', e1, e2⟩ := liM2 (d := d) hM hpm (by omega) hb hq 10000 0 W (Nat.zero_le _) (by omega) hW
      change X8_list_L2 10000 _ (nI d) 0 = _ at e1
      rw [if_neg (show ¬ (9 : Int32) ≤ nI d from nI_ge (b := 9) (by omega) (by omega)), e1, bd_s, show nI d + (1 : Int32) = nI (d + 1) from nI_1 d, zz_s]
      exact ih (d + 1) W' (by omega) (by omega) (fun x hx hxx => e2 x hx (by omega))
theorem ct_all {p : Nat → Bool} : ∀ {k : Nat}, (∀ i, i < k → p i = true) → ct p k = k
  | 0, _ => rfl
  | k + 1, h => by unfold ct; rw [ct_all (fun i hi => h i (by omega)), h k (by omega)]; rfl
theorem ct_none {p : Nat → Bool} : ∀ {k : Nat}, (∀ i, i < k → p i = false) → ct p k = 0
  | 0, _ => rfl
  | k + 1, h => by unfold ct; rw [ct_none (fun i hi => h i (by omega)), h k (by omega)]; rfl
theorem sim_list : Sim_list Inv := by
  intro σ τ I
  obtain ⟨n, kd, by_, td, S, J⟩ := id I
  obtain ⟨hQ, hC, hG, hW, ⟨pm, p1, p2, p3, p4⟩, hMR, hS, hZ, hK, h09, h10⟩ := id J
  obtain ⟨hn, ha, hkk, -⟩ := id hC
  obtain ⟨hn', hk', -⟩ := id hG
  have h9 := hQ.1
  obtain ⟨r, r1, r2, r3, r4⟩ := fault_t h9 hn hn' p1 p2 p3 p4
  have hmod : irem (nI pm) (4 : Int32) = nI (pm % 4) := irem4 (by omega)
  have hm3 : (nI (pm % 4) = (3 : Int32)) ↔ pm % 4 = 3 := nI_eq (b := 3) (by omega) (by omega)
  unfold X7_list X3_isList X8_list X0_size
  simp only [lt_e]
  rw [hn, p2, p3, hmod, r2, r3, bd_s, bd_s]
  by_cases c : r = pm ∧ pm % 4 = 3
  · obtain ⟨c1, c2⟩ := c
    subst c1
    rw [if_pos (hm3.mpr c2), if_pos (hm3.mpr c2), if_pos rfl, bd_s, if_neg one0, if_neg (nI_nlt (Nat.le_refl _) (by omega))]
    have hr59 : r ≤ 59 := by omega
    obtain ⟨M, hM⟩ : ∃ M, r + 1 = 4 * M := ⟨(r + 1) / 4, by omega⟩
    have qf : ∀ k, k < r → ∃ q, q = (σ 9 k).toNatClampNeg ∧ σ 9 k = nI q ∧ τ 35 k = nI q ∧ (k % 4 = 0 → 48 ≤ q ∧ q < 48 + n) ∧ (k % 4 = 1 → 49 ≤ q ∧ q ≤ 56) ∧ (k % 4 = 2 → 49 ≤ q ∧ q ≤ 57) := fun k hk => by
      obtain ⟨-, q, q1, q2, q3⟩ := r4 k hk
      obtain ⟨q', q1', q2', q3', -⟩ := p4 k hk
      have e : q' = (σ 9 k).toNatClampNeg := by rw [q3', nI_clamp (by omega)]
      by_cases c4 : k % 4 = 3
      · exact ⟨q', e, q3', by rw [q2, ← q1, q3'], by omega, by omega, by omega⟩
      · refine ⟨q, ?_, q1, q2, q3⟩
        rw [q1, nI_clamp (by omega)]
    have dig : ∀ k q, k < r → σ 9 k = nI q → 48 ≤ q → X3_digitAt σ (nI k) = some (nI (q - 48)) := fun k q hk hq h48 => by
      unfold X3_digitAt X3_codeAt
      rw [if_neg (show ¬ nI k < 0 from nI_nlt (b := 0) (by omega) (by omega)), p2, if_neg (nI_ge hk (by omega)), rd_n (by omega) (by omega), bd_s, bd_s, hq]
      congr 1
      exact pk_sub (b := 48) h48
    have hq : ∀ j, j < M → X3_digitAt σ (nI (4 * j)) = some (nI ((σ 9 (4 * j)).toNatClampNeg - 48)) ∧ X3_digitAt σ (nI (4 * j + 1)) = some (nI ((σ 9 (4 * j + 1)).toNatClampNeg - 48)) ∧ X3_digitAt σ (nI (4 * j + 2)) = some (nI ((σ 9 (4 * j + 2)).toNatClampNeg - 48)) ∧ (σ 9 (4 * j)).toNatClampNeg - 48 < n ∧ (σ 9 (4 * j + 1)).toNatClampNeg - 48 ≤ 8 ∧ (σ 9 (4 * j + 2)).toNatClampNeg - 48 ≤ 9 := fun j hj => by
      obtain ⟨a, a1, a2, a3, a4, -, -⟩ := qf (4 * j) (by omega)
      obtain ⟨b, b1, b2, b3, -, b4, -⟩ := qf (4 * j + 1) (by omega)
      obtain ⟨d, d1, d2, d3, -, -, d4⟩ := qf (4 * j + 2) (by omega)
      have a4 := a4 (by omega)
      have b4 := b4 (by omega)
      have d4 := d4 (by omega)
      rw [← a1, ← b1, ← d1]
      exact ⟨dig _ _ (by omega) a2 (by omega), dig _ _ (by omega) b2 (by omega), dig _ _ (by omega) d2 (by omega), by omega, by omega, by omega⟩
    have hqM : ∀ j, j < M → (τ 35 (4 * j) - (48 : Int32) = nI ((σ 9 (4 * j)).toNatClampNeg - 48)) ∧ (τ 35 (4 * j + 1) - (48 : Int32) = nI ((σ 9 (4 * j + 1)).toNatClampNeg - 48)) ∧ (τ 35 (4 * j + 2) - (48 : Int32) = nI ((σ 9 (4 * j + 2)).toNatClampNeg - 48)) ∧ (σ 9 (4 * j + 1)).toNatClampNeg - 48 ≤ 8 := fun j hj => by
      obtain ⟨a, a1, a2, a3, a4, -, -⟩ := qf (4 * j) (by omega)
      obtain ⟨b, b1, b2, b3, -, b4, -⟩ := qf (4 * j + 1) (by omega)
      obtain ⟨d, d1, d2, d3, -, -, d4⟩ := qf (4 * j + 2) (by omega)
      have a4 := a4 (by omega)
      have b4 := b4 (by omega)
      have d4 := d4 (by omega)
      rw [← a1, ← b1, ← d1, a3, b3, d3]
      exact ⟨pk_sub (b := 48) (by omega), pk_sub (b := 48) (by omega), pk_sub (b := 48) (by omega), by omega⟩
    have hD1 : ∀ j, j < M → 1 ≤ (σ 9 (4 * j + 1)).toNatClampNeg - 48 ∧ (σ 9 (4 * j + 1)).toNatClampNeg - 48 ≤ 8 ∧ 1 ≤ (σ 9 (4 * j + 2)).toNatClampNeg - 48 ∧ (σ 9 (4 * j + 2)).toNatClampNeg - 48 ≤ 9 := fun j hj => by
      obtain ⟨b, b1, b2, b3, -, b4, -⟩ := qf (4 * j + 1) (by omega)
      obtain ⟨d, d1, d2, d3, -, -, d4⟩ := qf (4 * j + 2) (by omega)
      have b4 := b4 (by omega)
      have d4 := d4 (by omega)
      rw [← b1, ← d1]
      omega
    generalize hDD : (fun j => (σ 9 (4 * j + 1)).toNatClampNeg - 48) = D at *
    generalize hgg : (fun j => (σ 9 (4 * j)).toNatClampNeg - 48) = g at *
    generalize hee : (fun j => (σ 9 (4 * j + 2)).toNatClampNeg - 48) = e at *
    have fD : ∀ j, (σ 9 (4 * j + 1)).toNatClampNeg - 48 = D j := fun j => by rw [← hDD]
    have fg : ∀ j, (σ 9 (4 * j)).toNatClampNeg - 48 = g j := fun j => by rw [← hgg]
    have fe : ∀ j, (σ 9 (4 * j + 2)).toNatClampNeg - 48 = e j := fun j => by rw [← hee]
    simp only [fD, fg, fe] at hq hqM hD1
    obtain ⟨k, A, B, C, E, l1, l2⟩ := liC hn h9 hkk hQ.2.1 (show M ≤ 15 by omega) hM p2 hq 10000 0 (σ 11) (σ 12) (σ 13) (σ 14) (Nat.zero_le _) (by omega) (fun i hi => by omega)
    obtain ⟨k', W, l3, l4⟩ := liM1 (τ := τ) (show M ≤ 15 by omega) hM p3 hqM 10000 1 (τ 36) (by omega) (by omega) (fun x hx hxx => by have := hD1 x hx; omega)
    have z1 : zz D M 1 0 = 0 := by
      show ct _ M + 0 = 0
      rw [ct_none (fun i hi => by have := hD1 i hi; simp; omega)]
    have z9 : zz D M 9 0 = M := by
      show ct _ M + 0 = M
      rw [ct_all (fun i hi => by have := hD1 i hi; simp; omega)]
      rfl
    rw [z1, z9] at l3
    have s1 : X2_clear σ = mst σ (nI 0) (σ 11) (σ 12) (σ 13) (σ 14) := by
      unfold X2_clear
      rw [lt_e]
      funext c
      by_cases h : c = 10
      · subst h; rfl
      · rw [s2_c h]
        unfold mst
        rw [if_neg h]
        by_cases h1 : c = 11
        · rw [if_pos h1, h1]
        · rw [if_neg h1]
          by_cases h2 : c = 12
          · rw [if_pos h2, h2]
          · rw [if_neg h2]
            by_cases h3 : c = 13
            · rw [if_pos h3, h3]
            · rw [if_neg h3]
              by_cases h4 : c = 14
              · rw [if_pos h4, h4]
              · rw [if_neg h4]
    have s2' : s2 τ 29 8 (0 : Int32) = rst τ (nI 0) (τ 36) := by
      funext c
      by_cases h : c = 29
      · subst h; rfl
      · rw [s2_c h]
        unfold rst
        rw [if_neg h]
        by_cases h1 : c = 36
        · rw [if_pos h1, h1]
        · rw [if_neg h1]
    change X7_list_L1 10000 _ 0 = _ at l1
    change X8_list_L1 10000 _ 1 = _ at l3
    rw [s1, l1, bd_s, s2', l3, bd_s]
    unfold X3_clear X2_size
    simp only [lt_e]
    refine ⟨nI M, _, _, rfl, rfl, n, kd, by_, td, S, hQ, hC, hG, hW, ⟨0, by omega, rfl, rfl, fun i hi => by omega⟩, ⟨M, fun k => (A k).toNatClampNeg, fun k => (B k).toNatClampNeg, fun k => (C k).toNatClampNeg, by omega, rfl, rfl, fun k hk => ?_⟩, hS, hZ, hK, ?_, h10⟩
    · obtain ⟨i, i1, i2⟩ := pos_sur D M k hk
      obtain ⟨y1, y2, y3, y4⟩ := l2 i i1
      obtain ⟨x1, x2, x3⟩ := l4 i i1 (Or.inl (by have := hD1 i i1; omega))
      obtain ⟨-, -, -, g1, -, -⟩ := hq i i1
      have hd1 := hD1 i i1
      rw [i2] at y1 y2 y3 y4 x1 x2 x3
      have f1 : (A k).toNatClampNeg = g i := by rw [y1, nI_clamp (by omega)]
      have f2 : (B k).toNatClampNeg = D i := by rw [y2, nI_clamp (by omega)]
      have f3 : (C k).toNatClampNeg = e i := by rw [y3, nI_clamp (by omega)]
      simp only [f1, f2, f3]
      exact ⟨⟨g1, by omega, by omega, by omega, by omega⟩, y1, y2, y3, y4, x1, x2, x3⟩
    · show σ 0 9 + (1 : Int32) = τ 29 9 + 1
      rw [h09]
  · have hL : (bd (if nI (pm % 4) = 3 then if nI r = nI pm then some (1 : Int32) else some 0 else some 0) fun v2 => if v2 = 0 then some ((-103 : Int32), σ) else bd (X7_list_L1 10000 (X2_clear σ) 0) fun v5 => some (X2_size (s2 (X3_clear v5.2) 0 9 (X3_clear v5.2 0 9 + 1)), s2 (X3_clear v5.2) 0 9 (X3_clear v5.2 0 9 + 1))) = some (-103, σ) := by
      by_cases d : pm % 4 = 3
      · rw [if_pos (hm3.mpr d), if_neg (fun z => c ⟨(nI_eq (by omega) (by omega)).mp z, d⟩), bd_s, if_pos rfl]
      · rw [if_neg (fun z => d (hm3.mp z)), bd_s, if_pos rfl]
    refine ⟨-103, σ, τ, hL, ?_, I⟩
    by_cases d : r < pm
    · rw [if_pos (nI_lt d (by omega))]
    · have : ¬ pm % 4 = 3 := fun z => c ⟨by omega, z⟩
      rw [if_neg (nI_nlt (by omega) (by omega)), if_neg (fun z => this (hm3.mp z))]
