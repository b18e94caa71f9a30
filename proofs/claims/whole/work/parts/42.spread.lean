/-! the reference: spread, over any start -/
def mn (c : Bool) (v e : Nat) : Nat := if c && decide (e < v) then e else v
theorem spL3 {τ : St} {n d a : Nat} {S : Nat → Nat → Nat → Bool} {x1 : Int32} (hn : τ 29 0 = nI n) (h9 : n ≤ 9) (hs : ∀ a b, a < 9 → b < 9 → τ 33 (9 * a + b) = nI (bs (fun d => S d a b) 9)) (hd : d ≤ 8) (ha : a < 9) : ∀ (f b : Nat) (w : Nat → Int32) (v : Nat → Nat), b ≤ n → n < f + b → (∀ j, j < n → w j = nI (v j) ∧ v j ≤ 10) →
    ∃ w' k, X8_spread_L3 f (va_up τ 34 w) x1 (nI d) (nI a) (1 : Int32) (nI b) = some (k, va_up τ 34 w') ∧ ∀ j, j < n → w' j = nI (if b ≤ j then mn (S d a j) (v j) (d + 1) else v j) := by
  intro f
  induction f with
  | zero => intro b w v h1 h2; omega
  | succ f ih =>
    intro b w v h1 h2 hw
    rw [X8_spread_L3_s, vu_c (by decide), hn]
    by_cases e : b = n
    · subst e
      rw [if_pos (nI_le (Nat.le_refl _) (by omega))]
      refine ⟨w, _, rfl, fun j hj => ?_⟩
      rw [if_neg (by omega)]
      exact (hw j hj).1
    · have hb : b < n := by omega
      obtain ⟨hw1, hw2⟩ := hw b hb
      have hx : (9 : Int32) * nI a + nI b = nI (9 * a + b) := by rw [show (9 : Int32) = nI 9 from rfl, pk_mul, nI_add]
      rw [if_neg (nI_ge hb (by omega)), if_neg one0, hx, vu_c (by decide), rd_n (by omega) (by omega), bd_s, hs a b ha (by omega), lt_e, bit_bs (by omega) (by omega), vu_q, rd_n (by omega) (by omega)]
      have main : ∀ (x : Nat), x = mn (S d a b) (v b) (d + 1) → ∃ w' k, (bd (some (nI x)) fun v18 => bd (wa (va_up τ 34 w) 34 9 (nI b) v18) fun τ23 => X8_spread_L3 f τ23 x1 (nI d) (nI a) (1 : Int32) (nI b + (1 : Int32))) = some (k, va_up τ 34 w') ∧ ∀ j, j < n → w' j = nI (if b ≤ j then mn (S d a j) (v j) (d + 1) else v j) := by
        intro x hxe
        rw [bd_s, wa_u (by omega) (by omega), bd_s, show nI b + (1 : Int32) = nI (b + 1) from nI_1 b]
        have hx10 : x ≤ 10 := by
          rw [hxe]
          unfold mn
          split <;> omega
        obtain ⟨w', k, e1, e2⟩ := ih (b + 1) (upd w b (nI x)) (fun j => if j = b then x else v j) (by omega) (by omega) (fun j hj => by
          by_cases ej : j = b
          · subst ej
            rw [up_s, if_pos rfl]
            exact ⟨rfl, hx10⟩
          · rw [up_n ej, if_neg ej]
            exact hw j hj)
        refine ⟨w', k, e1, fun j hj => ?_⟩
        rw [e2 j hj]
        by_cases ej : j = b
        · subst ej
          rw [if_neg (by omega), if_pos rfl, if_pos (Nat.le_refl _), hxe]
        · rw [if_neg ej]
          by_cases hbj : b ≤ j
          · rw [if_pos (by omega), if_pos hbj]
          · rw [if_neg (by omega), if_neg hbj]
      by_cases c : S d a b = true
      · rw [c, show (if (if true = true then (1 : Int32) else 0) = 1 then (1 : Int32) else 0) = 1 from by decide, if_neg one0, bd_s, hw1, show nI d + (1 : Int32) = nI (d + 1) from nI_1 d]
        by_cases c2 : v b ≤ d + 1
        · rw [if_pos (nI_le c2 (by omega)), bd_s]
          exact main (v b) (by unfold mn; rw [if_neg (by simp; omega)])
        · rw [if_neg (nI_ge (by omega) (by omega))]
          exact main (d + 1) (by unfold mn; rw [if_pos (by simp [c]; omega)])
      · have c' : S d a b = false := by simpa using c
        rw [c', show (if (if false = true then (1 : Int32) else 0) = 1 then (1 : Int32) else 0) = 0 from by decide, if_pos rfl, bd_s, hw1]
        exact main (v b) (by unfold mn; rw [if_neg (by simp [c'])])
theorem spL2 {τ : St} {n d : Nat} {kd : Nat → Nat} {S : Nat → Nat → Nat → Bool} {x1 : Int32} {au : Nat → Bool} (hn : τ 29 0 = nI n) (h9 : n ≤ 9) (hk : ∀ i, i < n → τ 30 i = nI (kd i)) (hk4 : ∀ i, i < n → kd i ≤ 4) (hs : ∀ a b, a < 9 → b < 9 → τ 33 (9 * a + b) = nI (bs (fun d => S d a b) 9)) (hau : ∀ i, i < n → au i = (decide (x1 ≠ 0) || decide (kd i = 1))) (hd : d ≤ 8) (v : Nat → Nat) (hv : ∀ j, j < n → v j ≤ 10) : ∀ (f i : Nat) (w : Nat → Int32), i ≤ n → n < f + i → (∀ j, j < n → w j = nI (mn (ex (fun a => (decide (v a ≤ d) && au a) && S d a j) i) (v j) (d + 1))) →
    ∃ w' k, X8_spread_L2 f (va_up τ 34 w) x1 (nI d) (nI i) = some (k, va_up τ 34 w') ∧ ∀ j, j < n → w' j = nI (mn (ex (fun a => (decide (v a ≤ d) && au a) && S d a j) n) (v j) (d + 1)) := by
  intro f
  induction f with
  | zero => intro i w h1 h2; omega
  | succ f ih =>
    intro i w h1 h2 hw
    rw [X8_spread_L2_s, vu_c (by decide), hn]
    by_cases e : i = n
    · subst e
      rw [if_pos (nI_le (Nat.le_refl _) (by omega))]
      exact ⟨w, _, rfl, hw⟩
    · have hi : i < n := by omega
      have hm10 : ∀ c j, j < n → mn c (v j) (d + 1) ≤ 10 := fun c j hj => by
        have := hv j hj
        unfold mn
        split <;> omega
      have hmd : ∀ c j, (mn c (v j) (d + 1) ≤ d ↔ v j ≤ d) := fun c j => by
        unfold mn
        split <;> simp_all <;> omega
      rw [if_neg (nI_ge hi (by omega)), vu_q, rd_n (by omega) (by omega), bd_s, hw i hi]
      have tells : (if nI d < nI (mn (ex (fun a => (decide (v a ≤ d) && au a) && S d a i) i) (v i) (d + 1)) then some (0 : Int32) else if x1 = 0 then bd (rd (va_up τ 34 w 30) 9 (nI i)) fun v9 => if v9 = (1 : Int32) then some (1 : Int32) else some (0 : Int32) else some (1 : Int32)) = some (if decide (v i ≤ d) && au i then (1 : Int32) else 0) := by
        have h10 := hm10 (ex (fun a => (decide (v a ≤ d) && au a) && S d a i) i) i hi
        have hd' := hmd (ex (fun a => (decide (v a ≤ d) && au a) && S d a i) i) i
        generalize mn (ex (fun a => (decide (v a ≤ d) && au a) && S d a i) i) (v i) (d + 1) = q at h10 hd' ⊢
        by_cases c : v i ≤ d
        · rw [if_neg (nI_nlt (hd'.mpr c) (by omega))]
          by_cases cx : x1 = 0
          · rw [if_pos cx, vu_c (by decide), rd_n (by omega) (by omega), bd_s, hk i hi]
            have hk1 : (nI (kd i) = (1 : Int32)) ↔ kd i = 1 := nI_eq (b := 1) (by have := hk4 i hi; omega) (by omega)
            by_cases ck : kd i = 1
            · rw [if_pos (hk1.mpr ck)]
              simp [c, hau i hi, ck]
            · rw [if_neg (fun z => ck (hk1.mp z))]
              simp [hau i hi, ck, cx]
          · rw [if_neg cx]
            simp [c, hau i hi, cx]
        · have hdq : d < q := by
            rcases Nat.lt_or_ge d q with z | z
            · exact z
            · exact absurd (hd'.mp z) c
          rw [if_pos (nI_lt hdq (by omega))]
          simp [c]
      rw [tells, bd_s]
      by_cases ct : (decide (v i ≤ d) && au i) = true
      · rw [if_pos ct]
        obtain ⟨w', k, e1, e2⟩ := spL3 (S := S) (x1 := x1) hn h9 hs hd (show i < 9 by omega) 10000 0 w (fun j => mn (ex (fun a => (decide (v a ≤ d) && au a) && S d a j) i) (v j) (d + 1)) (Nat.zero_le _) (by omega) (fun j hj => ⟨hw j hj, hm10 _ j hj⟩)
        change X8_spread_L3 10000 _ _ _ _ _ 0 = _ at e1
        rw [e1, bd_s, show nI i + (1 : Int32) = nI (i + 1) from nI_1 i]
        apply ih (i + 1) w' (by omega) (by omega)
        intro j hj
        rw [e2 j hj, if_pos (Nat.zero_le _)]
        congr 1
        show _ = mn (ex _ i || ((decide (v i ≤ d) && au i) && S d i j)) _ _
        rw [ct]
        cases ex (fun a => (decide (v a ≤ d) && au a) && S d a j) i <;> cases S d i j <;> simp [mn] <;> split <;> simp_all <;> omega
      · have ct' : (decide (v i ≤ d) && au i) = false := by simpa using ct
        rw [ct', if_neg (by decide)]
        have e1 : X8_spread_L3 10000 (va_up τ 34 w) x1 (nI d) (nI i) (0 : Int32) (0 : Int32) = some (0, va_up τ 34 w) := by
          rw [show (10000 : Nat) = 9999 + 1 from rfl, X8_spread_L3_s]
          split
          · rfl
          · rfl
        rw [e1, bd_s, show nI i + (1 : Int32) = nI (i + 1) from nI_1 i]
        apply ih (i + 1) w (by omega) (by omega)
        intro j hj
        rw [hw j hj]
        congr 1
        show _ = mn (ex _ i || ((decide (v i ≤ d) && au i) && S d i j)) _ _
        rw [ct']
        simp
/-- what a row of first days says, behind the days up to d -/
def kv (n : Nat) (au : Nat → Bool) (td : Nat → Nat) (S : Nat → Nat → Nat → Bool) (d j v : Nat) : Prop := (∀ e, e ≤ d → (v ≤ e ↔ kn n au td S e j = true)) ∧ (d < v → v = if td j = 0 then 10 else td j)
theorem kv_0 {n : Nat} {au : Nat → Bool} {td : Nat → Nat} {S : Nat → Nat → Nat → Bool} {j : Nat} : kv n au td S 0 j (if td j = 0 then 10 else td j) := by
  refine ⟨fun e he => ?_, fun _ => rfl⟩
  have : e = 0 := by omega
  subst this
  constructor
  · intro h
    split at h <;> omega
  · intro h
    cases h
theorem kv_s {n : Nat} {au : Nat → Bool} {td : Nat → Nat} {S : Nat → Nat → Nat → Bool} {d : Nat} {v : Nat → Nat} (hd : d ≤ 8) (h : ∀ j, j < n → kv n au td S d j (v j)) : ∀ j, j < n → kv n au td S (d + 1) j (mn (ex (fun a => (decide (v a ≤ d) && au a) && S d a j) n) (v j) (d + 1)) := by
  intro j hj
  have hex : ex (fun a => (decide (v a ≤ d) && au a) && S d a j) n = ex (fun a => (kn n au td S d a && au a) && S d a j) n := by
    apply ex_cong
    intro a ha
    have := (h a ha).1 d (Nat.le_refl _)
    by_cases c : v a ≤ d
    · simp [c, this.mp c]
    · have : kn n au td S d a = false := by
        cases hc : kn n au td S d a
        · rfl
        · exact absurd (this.mpr hc) c
      simp [c, this]
  rw [hex]
  obtain ⟨h1, h2⟩ := h j hj
  have hkd : kn n au td S (d + 1) j = ((kn n au td S d j || decide (td j = d + 1)) || ex (fun a => (kn n au td S d a && au a) && S d a j) n) := rfl
  generalize ex (fun a => (kn n au td S d a && au a) && S d a j) n = E at hkd ⊢
  have hm : mn E (v j) (d + 1) = if E = true ∧ d + 1 < v j then d + 1 else v j := by
    unfold mn
    cases E <;> simp
  rw [hm]
  refine ⟨fun e he => ?_, fun hlt => ?_⟩
  · by_cases e1 : e ≤ d
    · rw [← h1 e e1]
      split <;> omega
    · have e2 : e = d + 1 := by omega
      subst e2
      rw [hkd]
      have hd1 := h1 d (Nat.le_refl _)
      cases hE : E
      · simp only [hE, Bool.false_eq_true, false_and, if_false, Bool.or_false, Bool.or_eq_true, decide_eq_true_eq]
        rw [← hd1]
        constructor
        · intro h3
          by_cases c : v j ≤ d
          · exact Or.inl c
          · have := h2 (by omega)
            right
            split at this <;> omega
        · rintro (h3 | h3)
          · omega
          · by_cases c : v j ≤ d
            · omega
            · have := h2 (by omega)
              rw [if_neg (by omega)] at this
              omega
      · simp only [hE, true_and, Bool.or_true, iff_true]
        split <;> omega
  · by_cases c : E = true ∧ d + 1 < v j
    · rw [if_pos c] at hlt
      omega
    · rw [if_neg c] at hlt ⊢
      exact h2 (by omega)
theorem spL1 {τ : St} {n : Nat} {kd td : Nat → Nat} {S : Nat → Nat → Nat → Bool} {x1 : Int32} {au : Nat → Bool} (hn : τ 29 0 = nI n) (h9 : n ≤ 9) (hk : ∀ i, i < n → τ 30 i = nI (kd i)) (hk4 : ∀ i, i < n → kd i ≤ 4) (hs : ∀ a b, a < 9 → b < 9 → τ 33 (9 * a + b) = nI (bs (fun d => S d a b) 9)) (hau : ∀ i, i < n → au i = (decide (x1 ≠ 0) || decide (kd i = 1))) : ∀ (f d : Nat) (w : Nat → Int32) (v : Nat → Nat), 1 ≤ d → d ≤ 9 → 9 < f + d → (∀ j, j < n → w j = nI (v j) ∧ v j ≤ 10 ∧ kv n au td S d j (v j)) →
    ∃ (w' : Nat → Int32) (k : Int32) (v' : Nat → Nat), X8_spread_L1 f (va_up τ 34 w) x1 (nI d) = some (k, va_up τ 34 w') ∧ ∀ j, j < n → w' j = nI (v' j) ∧ v' j ≤ 10 ∧ kv n au td S 9 j (v' j) := by
  intro f
  induction f with
  | zero => intro d w v h1 h2 h3; omega
  | succ f ih =>
    intro d w v h1 h2 h3 hw
    rw [X8_spread_L1_s]
    by_cases e : d = 9
    · subst e
      rw [if_pos (show (9 : Int32) ≤ nI 9 by decide)]
      exact ⟨w, _, v, rfl, hw⟩
    · have hd : d ≤ 8 := by omega
      rw [if_neg (show ¬ (9 : Int32) ≤ nI d from nI_ge (b := 9) (by omega) (by omega))]
      obtain ⟨w', k, e1, e2⟩ := spL2 (kd := kd) (S := S) (x1 := x1) (au := au) hn h9 hk hk4 hs hau hd v (fun j hj => (hw j hj).2.1) 10000 0 w (Nat.zero_le _) (by omega) (fun j hj => by
        rw [(hw j hj).1]
        simp [ex, mn])
      change X8_spread_L2 10000 _ _ _ 0 = _ at e1
      rw [e1, bd_s, show nI d + (1 : Int32) = nI (d + 1) from nI_1 d]
      refine ih (d + 1) w' _ (by omega) (by omega) (by omega) (fun j hj => ⟨e2 j hj, ?_, kv_s hd (fun j hj => (hw j hj).2.2) j hj⟩)
      have := (hw j hj).2.1
      unfold mn
      split <;> omega
/-- spread, from who is told on which day -/
theorem sp_e {τ : St} {n : Nat} {kd td : Nat → Nat} {S : Nat → Nat → Nat → Bool} {x1 : Int32} {au : Nat → Bool} (hn : τ 29 0 = nI n) (h9 : n ≤ 9) (hk : ∀ i, i < n → τ 30 i = nI (kd i)) (hk4 : ∀ i, i < n → kd i ≤ 4) (hs : ∀ a b, a < 9 → b < 9 → τ 33 (9 * a + b) = nI (bs (fun d => S d a b) 9)) (hau : ∀ i, i < n → au i = (decide (x1 ≠ 0) || decide (kd i = 1))) (ht : ∀ i, i < n → td i ≤ 8) (w : Nat → Int32) (hw : ∀ j, j < n → w j = nI (if td j = 0 then 10 else td j)) :
    ∃ (w' : Nat → Int32) (v' : Nat → Nat), X8_spread (va_up τ 34 w) x1 = some (va_up τ 34 w') ∧ ∀ j, j < n → w' j = nI (v' j) ∧ v' j ≤ 10 ∧ kv n au td S 9 j (v' j) := by
  have h1 : ∀ j, j < n → kv n au td S 1 j (if td j = 0 then 10 else td j) := by
    intro j hj
    have := kv_s (n := n) (au := au) (td := td) (S := S) (d := 0) (v := fun j => if td j = 0 then 10 else td j) (by omega) (fun j _ => kv_0) j hj
    rw [ex_no (fun a _ => by
      have : ¬ (if td a = 0 then 10 else td a) ≤ 0 := by split <;> omega
      simp [this])] at this
    simpa [mn] using this
  obtain ⟨w', k, v', e1, e2⟩ := spL1 (kd := kd) (td := td) (S := S) (x1 := x1) (au := au) hn h9 hk hk4 hs hau 10000 1 w (fun j => if td j = 0 then 10 else td j) (by omega) (by omega) (by omega) (fun j hj => ⟨hw j hj, by have := ht j hj; split <;> omega, h1 j hj⟩)
  refine ⟨w', v', ?_, e2⟩
  unfold X8_spread
  change X8_spread_L1 10000 _ _ 1 = _ at e1
  rw [e1, bd_s]
