/-! who knows on which day -/
def ex (p : Nat → Bool) : Nat → Bool
  | 0 => false
  | k + 1 => ex p k || p k
theorem ex_iff {p : Nat → Bool} : ∀ {k : Nat}, ex p k = true ↔ ∃ a, a < k ∧ p a = true
  | 0 => by simp [ex]
  | k + 1 => by
    unfold ex
    rw [Bool.or_eq_true, ex_iff]
    constructor
    · rintro (⟨a, h1, h2⟩ | h)
      · exact ⟨a, by omega, h2⟩
      · exact ⟨k, by omega, h⟩
    · rintro ⟨a, h1, h2⟩
      by_cases e : a = k
      · subst e; exact Or.inr h2
      · exact Or.inl ⟨a, by omega, h2⟩
theorem ex_cong {p q : Nat → Bool} : ∀ {k : Nat}, (∀ a, a < k → p a = q a) → ex p k = ex q k
  | 0, _ => rfl
  | k + 1, h => by unfold ex; rw [ex_cong (fun a ha => h a (by omega)), h k (by omega)]
theorem ex_no {p : Nat → Bool} {k : Nat} (h : ∀ a, a < k → p a = false) : ex p k = false := by
  cases hc : ex p k
  · rfl
  · obtain ⟨a, h1, h2⟩ := ex_iff.mp hc
    rw [h a h1] at h2
    cases h2
def kn (n : Nat) (au : Nat → Bool) (td : Nat → Nat) (S : Nat → Nat → Nat → Bool) : Nat → Nat → Bool
  | 0, _ => false
  | d + 1, g => (kn n au td S d g || decide (td g = d + 1)) || ex (fun a => (kn n au td S d a && au a) && S d a g) n
/-- at the morning of a day, ahead of who is told on it -/
def un (n : Nat) (au : Nat → Bool) (td : Nat → Nat) (S : Nat → Nat → Nat → Bool) (d g : Nat) : Bool := kn n au td S (d - 1) g || ex (fun a => (kn n au td S (d - 1) a && au a) && S (d - 1) a g) n
theorem un_1 (n : Nat) (au : Nat → Bool) (td : Nat → Nat) (S : Nat → Nat → Nat → Bool) (g : Nat) : un n au td S 1 g = false := by
  show (kn n au td S 0 g || ex (fun a => (kn n au td S 0 a && au a) && S 0 a g) n) = false
  rw [ex_no (fun a _ => by simp [kn])]
  simp [kn]
theorem kn_un (n : Nat) (au : Nat → Bool) (td : Nat → Nat) (S : Nat → Nat → Nat → Bool) (d g : Nat) (h : 1 ≤ d) : kn n au td S d g = (un n au td S d g || decide (td g = d)) := by
  obtain ⟨k, rfl⟩ : ∃ k, d = k + 1 := ⟨d - 1, by omega⟩
  show ((kn n au td S k g || decide (td g = k + 1)) || _) = ((kn n au td S k g || _) || _)
  rw [Bool.or_right_comm]
  rfl
theorem kn_cong {n : Nat} {au au' : Nat → Bool} {td td' : Nat → Nat} {S S' : Nat → Nat → Nat → Bool} (h1 : ∀ a, a < n → au a = au' a) (h2 : ∀ a, td a = td' a) (h3 : ∀ d a b, a < n → S d a b = S' d a b) : ∀ d g, kn n au td S d g = kn n au' td' S' d g
  | 0, _ => rfl
  | d + 1, g => by
    unfold kn
    rw [kn_cong h1 h2 h3 d g, h2 g, ex_cong (fun a ha => by rw [kn_cong h1 h2 h3 d a, h1 a ha, h3 d a g ha])]
/-! the class: seenByAny, follow -/
theorem seenAnyL {σ : St} {n d : Nat} {T : Nat → Bool} {S : Nat → Nat → Nat → Bool} (hn : σ 1 5 = nI n) (h9 : n ≤ 9) (hs : ∀ d a, 1 ≤ d → d ≤ 8 → a < 9 → σ 5 ((d - 1) * 9 + a) = nI (bs (S d a) 9)) (h1 : 1 ≤ d) (h2 : d ≤ 8) : ∀ (f i : Nat), i ≤ n → n < f + i →
    X0_seenByAny_L1 f σ (nI (bs T 9)) (nI ((d - 1) * 9)) (nI (bs (fun b => ex (fun a => T a && S d a b) i) 9)) (nI i) = some (nI (bs (fun b => ex (fun a => T a && S d a b) n) 9), nI n) := by
  intro f
  induction f with
  | zero => intro i q1 q2; omega
  | succ f ih =>
    intro i q1 q2
    rw [X0_seenByAny_L1_s, hn]
    by_cases e : i = n
    · subst e
      rw [if_pos (nI_le (Nat.le_refl _) (by omega))]
    · have hi : i < n := by omega
      rw [if_neg (nI_ge hi (by omega)), lt_e]
      unfold X7_bit
      rw [bit_bs (by omega) (by omega)]
      have key : bs (fun b => ex (fun a => T a && S d a b) (i + 1)) 9 = bs (fun b => ex (fun a => T a && S d a b) i || (T i && S d i b)) 9 := rfl
      by_cases c : T i = true
      · have hx : nI ((d - 1) * 9) + nI i = nI ((d - 1) * 9 + i) := nI_add _ _
        rw [if_pos (by rw [c]; rfl), hx, rd_n (by omega) (by omega), bd_s, bd_s, hs d i h1 h2 (by omega), or_n, bs_or, show nI i + (1 : Int32) = nI (i + 1) from nI_1 i, ← ih (i + 1) (by omega) (by omega), key]
        simp [c]
      · have c' : T i = false := by simpa using c
        rw [if_neg (by rw [c']; decide), bd_s, show nI i + (1 : Int32) = nI (i + 1) from nI_1 i, ← ih (i + 1) (by omega) (by omega), key]
        simp [c']
theorem seenAny_e {σ : St} {n d : Nat} {S : Nat → Nat → Nat → Bool} (hn : σ 1 5 = nI n) (h9 : n ≤ 9) (hs : ∀ d a, 1 ≤ d → d ≤ 8 → a < 9 → σ 5 ((d - 1) * 9 + a) = nI (bs (S d a) 9)) (T : Nat → Bool) (h1 : 1 ≤ d) (h2 : d ≤ 8) :
    X0_seenByAny σ (nI (bs T 9)) (nI d) = some (nI (bs (fun b => ex (fun a => T a && S d a b) n) 9)) := by
  unfold X0_seenByAny
  rw [lt_e, isDay_e, toI_n (by omega), if_pos (show (1 : Int) ≤ (d : Int) ∧ (d : Int) ≤ 8 by omega), if_neg one0]
  have hx : (nI d - (1 : Int32)) * (9 : Int32) = nI ((d - 1) * 9) := by
    rw [show nI d - (1 : Int32) = nI (d - 1) from pk_sub (b := 1) h1, show (9 : Int32) = nI 9 from rfl, pk_mul]
  have h0 : (0 : Int32) = nI (bs (fun b => ex (fun a => T a && S d a b) 0) 9) := by
    rw [bs_zero (f := fun b => ex (fun a => T a && S d a b) 0) (fun i _ => rfl)]
    rfl
  have := seenAnyL (T := T) hn h9 hs h1 h2 10000 0 (Nat.zero_le _) (by omega)
  rw [← h0] at this
  rw [hx, show (X0_seenByAny_L1 10000 σ (nI (bs T 9)) (nI ((d - 1) * 9)) 0 0) = _ from this, bd_s]

theorem fwL2 {σ : St} {n d : Nat} {td : Nat → Nat} (hn : σ 1 5 = nI n) (h9 : n ≤ 9) (hp : ∀ i, i < n → σ 26 i = nI (td i)) (ht : ∀ i, i < n → td i ≤ 8) (hd : d ≤ 8) : ∀ (f i : Nat) (u : Nat → Bool), i ≤ n → n < f + i →
    X6_follow_L2 f σ (nI (bs u 9)) (nI d) (nI i) = some (nI (bs (fun g => u g || (decide (i ≤ g ∧ g < n) && decide (td g = d))) 9), nI n) := by
  intro f
  induction f with
  | zero => intro i u h1 h2; omega
  | succ f ih =>
    intro i u h1 h2
    rw [X6_follow_L2_s]
    show (if X0_size σ ≤ nI i then _ else _) = _
    unfold X0_size
    rw [hn]
    by_cases e : i = n
    · subst e
      rw [if_pos (nI_le (Nat.le_refl _) (by omega))]
      congr 2
      congr 1
      apply bs_cong
      intro g hg
      have : ¬ (i ≤ g ∧ g < i) := by omega
      simp [this]
    · have hi : i < n := by omega
      rw [if_neg (nI_ge hi (by omega)), if_neg (show ¬ (9 : Int32) ≤ nI i from nI_ge (b := 9) (by omega) (by omega)), rd_n (by omega) (by omega), bd_s, hp i hi, lt_e]
      by_cases c : td i = d
      · rw [if_pos (by rw [c]), lt_e, wb_e (by omega) (by omega), show nI i + (1 : Int32) = nI (i + 1) from nI_1 i, ih (i + 1) _ (by omega) (by omega)]
        congr 2
        congr 1
        apply bs_cong
        intro g hg
        by_cases e2 : g = i
        · subst e2
          simp [c, hi, one0]
        · have h3 : (i + 1 ≤ g ∧ g < n) ↔ (i ≤ g ∧ g < n) := by omega
          simp [e2, h3]
      · have c2 : ¬ nI (td i) = nI d := by
          rw [nI_eq (by have := ht i hi; omega) (by omega)]
          exact c
        rw [if_neg c2, show nI i + (1 : Int32) = nI (i + 1) from nI_1 i, ih (i + 1) _ (by omega) (by omega)]
        congr 2
        congr 1
        apply bs_cong
        intro g hg
        by_cases e2 : g = i
        · subst e2
          simp [c]
        · have h3 : (i + 1 ≤ g ∧ g < n) ↔ (i ≤ g ∧ g < n) := by omega
          simp [h3]
theorem fwL1 {σ : St} {n : Nat} {au : Nat → Bool} {td : Nat → Nat} {S : Nat → Nat → Nat → Bool} (hn : σ 1 5 = nI n) (h9 : n ≤ 9) (hp : ∀ i, i < n → σ 26 i = nI (td i)) (ht : ∀ i, i < 9 → td i ≤ 8) (ht0 : ∀ i, n ≤ i → td i = 0)
    (hs : ∀ d a, 1 ≤ d → d ≤ 8 → a < 9 → σ 5 ((d - 1) * 9 + a) = nI (bs (S d a) 9)) (ha : σ 1 4 = nI (bs au 9)) : ∀ (f d : Nat) (w : Nat → Int32), 1 ≤ d → d ≤ 9 → 9 < f + d →
    ∃ w', X6_follow_L1 f (va_up σ 7 w) (nI (bs (un n au td S d) 9)) (nI d) = some (nI (bs (un n au td S 9) 9), nI 9, va_up σ 7 w') ∧ (∀ e, e < d → w' e = w e) ∧ ∀ e, d ≤ e → e ≤ 8 → w' e = nI (bs (kn n au td S e) 9) := by
  intro f
  induction f with
  | zero => intro d w h1 h2 h3; omega
  | succ f ih =>
    intro d w h1 h2 h3
    rw [X6_follow_L1_s]
    by_cases e : d = 9
    · subst e
      rw [if_pos (show (8 : Int32) < nI 9 by decide)]
      exact ⟨w, rfl, fun _ _ => rfl, fun e h4 h5 => by omega⟩
    · have hd : d ≤ 8 := by omega
      rw [if_neg (show ¬ (8 : Int32) < nI d from nI_nlt (a := 8) hd (by omega))]
      have hn1 : (va_up σ 7 w) 1 5 = nI n := by rw [vu_c (by decide)]; exact hn
      have q := fwL2 (σ := va_up σ 7 w) (td := td) hn1 h9 (fun i hi => by rw [vu_c (by decide)]; exact hp i hi) (fun i hi => ht i (by omega)) hd 10000 0 (un n au td S d) (Nat.zero_le _) (by omega)
      change X6_follow_L2 10000 _ _ _ 0 = _ at q
      rw [q, bd_s]
      have hk : bs (fun g => un n au td S d g || (decide (0 ≤ g ∧ g < n) && decide (td g = d))) 9 = bs (kn n au td S d) 9 := by
        apply bs_cong
        intro g hg
        rw [kn_un n au td S d g h1]
        by_cases hgn : g < n
        · simp [hgn]
        · have : ¬ td g = d := by rw [ht0 g (by omega)]; omega
          simp [this]
      dsimp only
      rw [hk, wa_u (by omega) (by omega), bd_s]
      unfold X0_aunts
      rw [lt_e, vu_c (by decide), ha, and_n, bs_and]
      rw [seenAny_e (σ := va_up σ 7 (upd w d (nI (bs (kn n au td S d) 9)))) (S := S) (by rw [vu_c (by decide)]; exact hn) h9 (fun d a q1 q2 q3 => by rw [vu_c (by decide)]; exact hs d a q1 q2 q3) _ h1 hd, bd_s, or_n, bs_or, show nI d + (1 : Int32) = nI (d + 1) from nI_1 d]
      obtain ⟨w', e1, e2, e3⟩ := ih (d + 1) (upd w d (nI (bs (kn n au td S d) 9))) (by omega) (by omega) (by omega)
      refine ⟨w', e1, fun k he => ?_, fun k h4 h5 => ?_⟩
      · rw [e2 k (by omega), up_n (by omega)]
      · by_cases e4 : k = d
        · rw [e4, e2 d (by omega), up_s]
        · exact e3 k (by omega) h5
theorem fw_e {σ : St} {n : Nat} {au : Nat → Bool} {td : Nat → Nat} {S : Nat → Nat → Nat → Bool} (hn : σ 1 5 = nI n) (h9 : n ≤ 9) (hp : ∀ i, i < n → σ 26 i = nI (td i)) (ht : ∀ i, i < 9 → td i ≤ 8) (ht0 : ∀ i, n ≤ i → td i = 0)
    (hs : ∀ d a, 1 ≤ d → d ≤ 8 → a < 9 → σ 5 ((d - 1) * 9 + a) = nI (bs (S d a) 9)) (ha : σ 1 4 = nI (bs au 9)) : ∃ w, X6_follow σ = some (va_up σ 7 w) ∧ ∀ d, 1 ≤ d → d ≤ 9 → w d = nI (bs (kn n au td S d) 9) := by
  unfold X6_follow
  have h0 : (0 : Int32) = nI (bs (un n au td S 1) 9) := by
    rw [bs_zero (fun i _ => un_1 n au td S i)]
    rfl
  obtain ⟨w, e1, e2, e3⟩ := fwL1 (σ := σ) hn h9 hp ht ht0 hs ha 10000 1 (σ 7) (by omega) (by omega) (by omega)
  rw [vu_self] at e1
  rw [h0, show (1 : Int32) = nI 1 from rfl, e1, bd_s]
  dsimp only
  rw [show (9 : Int32) = nI 9 from rfl, wa_u (by omega) (by omega), bd_s]
  refine ⟨_, rfl, fun d h1 h2 => ?_⟩
  by_cases e : d = 9
  · subst e
    rw [up_s]
    congr 1
    apply bs_cong
    intro g hg
    rw [kn_un n au td S 9 g (by omega)]
    have : ¬ td g = 9 := by have := ht g hg; omega
    simp [this]
  · rw [up_n e]
    exact e3 d h1 (by omega)

theorem fpL2 {σ : St} {n d : Nat} {td : Nat → Nat} (hn : σ 1 5 = nI n) (h9 : n ≤ 9) (hp : ∀ i, i < n → σ 26 i = nI (td i)) (ht : ∀ i, i < n → td i ≤ 8) (hd : d ≤ 8) : ∀ (f i : Nat) (u : Nat → Bool), i ≤ n → n < f + i →
    X6_follow_27_1_26_L2 f σ (nI (bs u 9)) (nI d) (nI i) = some (nI (bs (fun g => u g || (decide (i ≤ g ∧ g < n) && decide (td g = d))) 9), nI n) := by
  intro f
  induction f with
  | zero => intro i u h1 h2; omega
  | succ f ih =>
    intro i u h1 h2
    rw [X6_follow_27_1_26_L2_s]
    show (if X0_size σ ≤ nI i then _ else _) = _
    unfold X0_size
    rw [hn]
    by_cases e : i = n
    · subst e
      rw [if_pos (nI_le (Nat.le_refl _) (by omega))]
      congr 2
      congr 1
      apply bs_cong
      intro g hg
      have : ¬ (i ≤ g ∧ g < i) := by omega
      simp [this]
    · have hi : i < n := by omega
      rw [if_neg (nI_ge hi (by omega)), if_neg (show ¬ (9 : Int32) ≤ nI i from nI_ge (b := 9) (by omega) (by omega)), rd_n (by omega) (by omega), bd_s, hp i hi, lt_e]
      by_cases c : td i = d
      · rw [if_pos (by rw [c]), lt_e, wb_e (by omega) (by omega), show nI i + (1 : Int32) = nI (i + 1) from nI_1 i, ih (i + 1) _ (by omega) (by omega)]
        congr 2
        congr 1
        apply bs_cong
        intro g hg
        by_cases e2 : g = i
        · subst e2
          simp [c, hi, one0]
        · have h3 : (i + 1 ≤ g ∧ g < n) ↔ (i ≤ g ∧ g < n) := by omega
          simp [e2, h3]
      · have c2 : ¬ nI (td i) = nI d := by
          rw [nI_eq (by have := ht i hi; omega) (by omega)]
          exact c
        rw [if_neg c2, show nI i + (1 : Int32) = nI (i + 1) from nI_1 i, ih (i + 1) _ (by omega) (by omega)]
        congr 2
        congr 1
        apply bs_cong
        intro g hg
        by_cases e2 : g = i
        · subst e2
          simp [c]
        · have h3 : (i + 1 ≤ g ∧ g < n) ↔ (i ≤ g ∧ g < n) := by omega
          simp [h3]
theorem fpL1 {σ : St} {n : Nat} {au : Nat → Bool} {td : Nat → Nat} {S : Nat → Nat → Nat → Bool} (hn : σ 1 5 = nI n) (h9 : n ≤ 9) (hp : ∀ i, i < n → σ 26 i = nI (td i)) (ht : ∀ i, i < 9 → td i ≤ 8) (ht0 : ∀ i, n ≤ i → td i = 0)
    (hs : ∀ d a, 1 ≤ d → d ≤ 8 → a < 9 → σ 5 ((d - 1) * 9 + a) = nI (bs (S d a) 9)) (ha : σ 1 4 = nI (bs au 9)) : ∀ (f d : Nat) (w : Nat → Int32), 1 ≤ d → d ≤ 9 → 9 < f + d →
    ∃ w', X6_follow_27_1_26_L1 f (va_up σ 28 w) (nI (bs (un n au td S d) 9)) (nI d) = some (nI (bs (un n au td S 9) 9), nI 9, va_up σ 28 w') ∧ (∀ e, e < d → w' e = w e) ∧ ∀ e, d ≤ e → e ≤ 8 → w' e = nI (bs (kn n au td S e) 9) := by
  intro f
  induction f with
  | zero => intro d w h1 h2 h3; omega
  | succ f ih =>
    intro d w h1 h2 h3
    rw [X6_follow_27_1_26_L1_s]
    by_cases e : d = 9
    · subst e
      rw [if_pos (show (8 : Int32) < nI 9 by decide)]
      exact ⟨w, rfl, fun _ _ => rfl, fun e h4 h5 => by omega⟩
    · have hd : d ≤ 8 := by omega
      rw [if_neg (show ¬ (8 : Int32) < nI d from nI_nlt (a := 8) hd (by omega))]
      have hn1 : (va_up σ 28 w) 1 5 = nI n := by rw [vu_c (by decide)]; exact hn
      have q := fpL2 (σ := va_up σ 28 w) (td := td) hn1 h9 (fun i hi => by rw [vu_c (by decide)]; exact hp i hi) (fun i hi => ht i (by omega)) hd 10000 0 (un n au td S d) (Nat.zero_le _) (by omega)
      change X6_follow_27_1_26_L2 10000 _ _ _ 0 = _ at q
      rw [q, bd_s]
      have hk : bs (fun g => un n au td S d g || (decide (0 ≤ g ∧ g < n) && decide (td g = d))) 9 = bs (kn n au td S d) 9 := by
        apply bs_cong
        intro g hg
        rw [kn_un n au td S d g h1]
        by_cases hgn : g < n
        · simp [hgn]
        · have : ¬ td g = d := by rw [ht0 g (by omega)]; omega
          simp [this]
      dsimp only
      rw [hk, wa_u (by omega) (by omega), bd_s]
      unfold X0_aunts
      rw [lt_e, vu_c (by decide), ha, and_n, bs_and]
      rw [seenAny_e (σ := va_up σ 28 (upd w d (nI (bs (kn n au td S d) 9)))) (S := S) (by rw [vu_c (by decide)]; exact hn) h9 (fun d a q1 q2 q3 => by rw [vu_c (by decide)]; exact hs d a q1 q2 q3) _ h1 hd, bd_s, or_n, bs_or, show nI d + (1 : Int32) = nI (d + 1) from nI_1 d]
      obtain ⟨w', e1, e2, e3⟩ := ih (d + 1) (upd w d (nI (bs (kn n au td S d) 9))) (by omega) (by omega) (by omega)
      refine ⟨w', e1, fun k he => ?_, fun k h4 h5 => ?_⟩
      · rw [e2 k (by omega), up_n (by omega)]
      · by_cases e4 : k = d
        · rw [e4, e2 d (by omega), up_s]
        · exact e3 k (by omega) h5
theorem fp_e {σ : St} {n : Nat} {au : Nat → Bool} {td : Nat → Nat} {S : Nat → Nat → Nat → Bool} (hn : σ 1 5 = nI n) (h9 : n ≤ 9) (hp : ∀ i, i < n → σ 26 i = nI (td i)) (ht : ∀ i, i < 9 → td i ≤ 8) (ht0 : ∀ i, n ≤ i → td i = 0)
    (hs : ∀ d a, 1 ≤ d → d ≤ 8 → a < 9 → σ 5 ((d - 1) * 9 + a) = nI (bs (S d a) 9)) (ha : σ 1 4 = nI (bs au 9)) : ∃ w, X6_follow_27_1_26 σ = some (va_up σ 28 w) ∧ ∀ d, 1 ≤ d → d ≤ 9 → w d = nI (bs (kn n au td S d) 9) := by
  unfold X6_follow_27_1_26
  have h0 : (0 : Int32) = nI (bs (un n au td S 1) 9) := by
    rw [bs_zero (fun i _ => un_1 n au td S i)]
    rfl
  obtain ⟨w, e1, e2, e3⟩ := fpL1 (σ := σ) hn h9 hp ht ht0 hs ha 10000 1 (σ 28) (by omega) (by omega) (by omega)
  rw [vu_self] at e1
  rw [h0, show (1 : Int32) = nI 1 from rfl, e1, bd_s]
  dsimp only
  rw [show (9 : Int32) = nI 9 from rfl, wa_u (by omega) (by omega), bd_s]
  refine ⟨_, rfl, fun d h1 h2 => ?_⟩
  by_cases e : d = 9
  · subst e
    rw [up_s]
    congr 1
    apply bs_cong
    intro g hg
    rw [kn_un n au td S 9 g (by omega)]
    have : ¬ td g = 9 := by have := ht g hg; omega
    simp [this]
  · rw [up_n e]
    exact e3 d h1 (by omega)
