def auN (n : Nat) (kd : Nat → Nat) (i : Nat) : Bool := decide (i < n ∧ kd i = 1)
abbrev KN (n : Nat) (kd td : Nat → Nat) (S : Nat → Nat → Nat → Bool) : Nat → Nat → Bool := kn n (auN n kd) td S

theorem lt_LKL {τ : St} {n : Nat} {td : Nat → Nat} (hn : τ 29 0 = nI n) (h9 : n ≤ 9) (hp : ∀ i, i < n → τ 32 i = nI (td i)) (ht : ∀ i, i < n → td i ≤ 8) : ∀ (f i : Nat) (w : Nat → Int32), i ≤ n → n < f + i →
    ∃ (w' : Nat → Int32) (k : Int32), X8_layKnows_L1 f (va_up τ 34 w) (nI i) = some (k, va_up τ 34 w') ∧ (∀ j, j < i → w' j = w j) ∧ ∀ j, i ≤ j → j < n → w' j = nI (if td j = 0 then 10 else td j) := by
  intro f
  induction f with
  | zero => intro i w h1 h2; omega
  | succ f ih =>
    intro i w h1 h2
    rw [X8_layKnows_L1_s, vu_c (by decide), hn]
    by_cases e : i = n
    · subst e
      rw [if_pos (nI_le (Nat.le_refl _) (by omega))]
      exact ⟨w, _, rfl, fun _ _ => rfl, fun j h3 h4 => by omega⟩
    · have hi : i < n := by omega
      have h8 := ht i hi
      have hz : (nI (td i) = (0 : Int32)) ↔ td i = 0 := nI_eq (b := 0) (by omega) (by omega)
      rw [if_neg (nI_ge hi (by omega)), vu_c (by decide), rd_n (by omega) (by omega), bd_s, hp i hi]
      have e5 : (if nI (td i) = 0 then some (10 : Int32) else bd (some (nI (td i))) fun v6 => some v6) = some (nI (if td i = 0 then 10 else td i)) := by
        by_cases c : td i = 0
        · rw [if_pos (hz.mpr c), if_pos c]; rfl
        · rw [if_neg (fun z => c (hz.mp z)), if_neg c]; rfl
      rw [e5, bd_s, wa_u (by omega) (by omega), bd_s, show nI i + (1 : Int32) = nI (i + 1) from nI_1 i]
      obtain ⟨w', k, e1, e2, e3⟩ := ih (i + 1) (upd w i (nI (if td i = 0 then 10 else td i))) (by omega) (by omega)
      refine ⟨w', k, e1, fun j hj => ?_, fun j h3 h4 => ?_⟩
      · rw [e2 j (by omega), up_n (by omega)]
      · by_cases e4 : j = i
        · rw [e4, e2 i (by omega), up_s]
        · exact e3 j (by omega) h4
theorem lt_LK {τ : St} {n : Nat} {kd td : Nat → Nat} {S : Nat → Nat → Nat → Bool} (hn : τ 29 0 = nI n) (h9 : n ≤ 9) (hk : ∀ i, i < n → τ 30 i = nI (kd i)) (hk4 : ∀ i, i < n → kd i ≤ 4) (hs : ∀ a b, a < 9 → b < 9 → τ 33 (9 * a + b) = nI (bs (fun d => S d a b) 9)) (hp : ∀ i, i < n → τ 32 i = nI (td i)) (ht : ∀ i, i < n → td i ≤ 8) :
    ∃ (w : Nat → Int32) (v : Nat → Nat), X8_layKnows τ = some (va_up τ 34 w) ∧ ∀ j, j < n → w j = nI (v j) ∧ v j ≤ 10 ∧ kv n (auN n kd) td S 9 j (v j) := by
  obtain ⟨w, k, e1, -, e3⟩ := lt_LKL (td := td) hn h9 hp ht 10000 0 (τ 34) (Nat.zero_le _) (by omega)
  rw [vu_self] at e1
  obtain ⟨w', v', e4, e5⟩ := sp_e (τ := τ) (kd := kd) (td := td) (S := S) (x1 := 0) (au := auN n kd) hn h9 hk hk4 hs (fun i hi => by simp [auN, hi]) ht w (fun j hj => e3 j (Nat.zero_le _) hj)
  refine ⟨w', v', ?_, e5⟩
  unfold X8_layKnows
  change X8_layKnows_L1 10000 _ 0 = _ at e1
  rw [e1, bd_s, e4, bd_s]

theorem lp_LKL {τ : St} {n : Nat} {td : Nat → Nat} (hn : τ 29 0 = nI n) (h9 : n ≤ 9) (hp : ∀ i, i < n → τ 37 i = nI (td i)) (ht : ∀ i, i < n → td i ≤ 8) : ∀ (f i : Nat) (w : Nat → Int32), i ≤ n → n < f + i →
    ∃ (w' : Nat → Int32) (k : Int32), X8_layKnows_29_37_L1 f (va_up τ 34 w) (nI i) = some (k, va_up τ 34 w') ∧ (∀ j, j < i → w' j = w j) ∧ ∀ j, i ≤ j → j < n → w' j = nI (if td j = 0 then 10 else td j) := by
  intro f
  induction f with
  | zero => intro i w h1 h2; omega
  | succ f ih =>
    intro i w h1 h2
    rw [X8_layKnows_29_37_L1_s, vu_c (by decide), hn]
    by_cases e : i = n
    · subst e
      rw [if_pos (nI_le (Nat.le_refl _) (by omega))]
      exact ⟨w, _, rfl, fun _ _ => rfl, fun j h3 h4 => by omega⟩
    · have hi : i < n := by omega
      have h8 := ht i hi
      have hz : (nI (td i) = (0 : Int32)) ↔ td i = 0 := nI_eq (b := 0) (by omega) (by omega)
      rw [if_neg (nI_ge hi (by omega)), vu_c (by decide), rd_n (by omega) (by omega), bd_s, hp i hi]
      have e5 : (if nI (td i) = 0 then some (10 : Int32) else bd (some (nI (td i))) fun v6 => some v6) = some (nI (if td i = 0 then 10 else td i)) := by
        by_cases c : td i = 0
        · rw [if_pos (hz.mpr c), if_pos c]; rfl
        · rw [if_neg (fun z => c (hz.mp z)), if_neg c]; rfl
      rw [e5, bd_s, wa_u (by omega) (by omega), bd_s, show nI i + (1 : Int32) = nI (i + 1) from nI_1 i]
      obtain ⟨w', k, e1, e2, e3⟩ := ih (i + 1) (upd w i (nI (if td i = 0 then 10 else td i))) (by omega) (by omega)
      refine ⟨w', k, e1, fun j hj => ?_, fun j h3 h4 => ?_⟩
      · rw [e2 j (by omega), up_n (by omega)]
      · by_cases e4 : j = i
        · rw [e4, e2 i (by omega), up_s]
        · exact e3 j (by omega) h4
theorem lp_LK {τ : St} {n : Nat} {kd td : Nat → Nat} {S : Nat → Nat → Nat → Bool} (hn : τ 29 0 = nI n) (h9 : n ≤ 9) (hk : ∀ i, i < n → τ 30 i = nI (kd i)) (hk4 : ∀ i, i < n → kd i ≤ 4) (hs : ∀ a b, a < 9 → b < 9 → τ 33 (9 * a + b) = nI (bs (fun d => S d a b) 9)) (hp : ∀ i, i < n → τ 37 i = nI (td i)) (ht : ∀ i, i < n → td i ≤ 8) :
    ∃ (w : Nat → Int32) (v : Nat → Nat), X8_layKnows_29_37 τ = some (va_up τ 34 w) ∧ ∀ j, j < n → w j = nI (v j) ∧ v j ≤ 10 ∧ kv n (auN n kd) td S 9 j (v j) := by
  obtain ⟨w, k, e1, -, e3⟩ := lp_LKL (td := td) hn h9 hp ht 10000 0 (τ 34) (Nat.zero_le _) (by omega)
  rw [vu_self] at e1
  obtain ⟨w', v', e4, e5⟩ := sp_e (τ := τ) (kd := kd) (td := td) (S := S) (x1 := 0) (au := auN n kd) hn h9 hk hk4 hs (fun i hi => by simp [auN, hi]) ht w (fun j hj => e3 j (Nat.zero_le _) hj)
  refine ⟨w', v', ?_, e5⟩
  unfold X8_layKnows_29_37
  change X8_layKnows_29_37_L1 10000 _ 0 = _ at e1
  rw [e1, bd_s, e4, bd_s]

theorem ctL {σ : St} : ∀ (f i : Nat) (w : Nat → Int32), i ≤ 9 → 9 < f + i → ∃ (w' : Nat → Int32) (k : Int32), X0_copyTold_L1 f (va_up σ 26 w) (nI i) = some (k, va_up σ 26 w') ∧ (∀ j, j < i → w' j = w j) ∧ ∀ j, i ≤ j → j < 9 → w' j = σ 4 j := by
  intro f
  induction f with
  | zero => intro i w h1 h2; omega
  | succ f ih =>
    intro i w h1 h2
    rw [X0_copyTold_L1_s]
    by_cases e : i = 9
    · subst e
      rw [if_pos (show (9 : Int32) ≤ nI 9 by decide)]
      exact ⟨w, _, rfl, fun _ _ => rfl, fun j h3 h4 => by omega⟩
    · have hi : ¬ (9 : Int32) ≤ nI i := nI_ge (b := 9) (by omega) (by omega)
      rw [if_neg hi, if_neg hi, vu_c (by decide), rd_n (by omega) (by omega), bd_s, wa_u (by omega) (by omega), bd_s, show nI i + (1 : Int32) = nI (i + 1) from nI_1 i]
      obtain ⟨w', k, e1, e2, e3⟩ := ih (i + 1) (upd w i (σ 4 i)) (by omega) (by omega)
      refine ⟨w', k, e1, fun j hj => ?_, fun j h3 h4 => ?_⟩
      · rw [e2 j (by omega), up_n (by omega)]
      · by_cases e4 : j = i
        · rw [e4, e2 i (by omega), up_s]
        · exact e3 j (by omega) h4
theorem ct_e {σ : St} : ∃ (w : Nat → Int32), X0_copyTold σ = some (va_up σ 26 w) ∧ ∀ j, j < 9 → w j = σ 4 j := by
  obtain ⟨w, k, e1, -, e3⟩ := ctL (σ := σ) 10000 0 (σ 26) (by omega) (by omega)
  rw [vu_self] at e1
  refine ⟨w, ?_, fun j hj => e3 j (Nat.zero_le _) hj⟩
  unfold X0_copyTold
  change X0_copyTold_L1 10000 _ 0 = _ at e1
  rw [e1, bd_s]
/-! what class and reference hold -/
def GQ (n : Nat) (kd by_ td : Nat → Nat) (S : Nat → Nat → Nat → Bool) : Prop := n ≤ 9 ∧ (∀ i, i < n → kd i ≤ 4) ∧ (∀ i, i < n → by_ i ≤ 8 ∧ ((kd i = 2 ∨ kd i = 4) → 1 ≤ by_ i)) ∧ (∀ i, i < 9 → td i ≤ 8) ∧ (∀ i, n ≤ i → td i = 0) ∧ (∀ d a b, S d a b = true → 1 ≤ d ∧ d ≤ 8 ∧ a < n ∧ b < n) ∧ ∀ d a b, S d a b = S d b a
def GC (c1 c2 c3 c4 c5 : Nat → Int32) (n : Nat) (kd by_ td : Nat → Nat) (S : Nat → Nat → Nat → Bool) : Prop := c1 5 = nI n ∧ c1 4 = nI (bs (auN n kd) 9) ∧ (∀ i, i < n → c2 i = nI (kd i)) ∧ (∀ i, i < n → c3 i = nI (by_ i)) ∧ (∀ i, i < 9 → c4 i = nI (td i)) ∧ ∀ d a, 1 ≤ d → d ≤ 8 → a < 9 → c5 ((d - 1) * 9 + a) = nI (bs (S d a) 9)
def GM (m0 : Int32) (c30 c31 c32 c33 : Nat → Int32) (n : Nat) (kd by_ td : Nat → Nat) (S : Nat → Nat → Nat → Bool) : Prop := m0 = nI n ∧ (∀ i, i < n → c30 i = nI (kd i)) ∧ (∀ i, i < n → c31 i = nI (by_ i)) ∧ (∀ i, i < 9 → c32 i = nI (td i)) ∧ ∀ a b, a < 9 → b < 9 → c33 (9 * a + b) = nI (bs (fun d => S d a b) 9)
def WC (c7 : Nat → Int32) (n : Nat) (kd td : Nat → Nat) (S : Nat → Nat → Nat → Bool) : Prop := ∀ d, 1 ≤ d → d ≤ 9 → c7 d = nI (bs (KN n kd td S d) 9)
def PR (a : Int32) (c : Nat → Int32) (b : Int32) (d : Nat → Int32) : Prop := ∃ pm : Nat, pm ≤ 60 ∧ a = nI pm ∧ b = nI pm ∧ ∀ i, i < pm → ∃ q, 1 ≤ q ∧ q ≤ 126 ∧ c i = nI q ∧ d i = nI q
def MT (n : Nat) (kd : Nat → Nat) (g d t s ms : Nat → Int32) (mt : Nat) (mg md me : Nat → Nat) : Prop := ∀ i, i < mt → (mg i < n ∧ 1 ≤ md i ∧ md i ≤ 8 ∧ 1 ≤ me i ∧ me i ≤ 9) ∧ g i = nI (mg i) ∧ d i = nI (md i) ∧ t i = nI (me i) ∧ s i = nI (if 3 ≤ kd (mg i) then me i / 2 else me i) ∧ ms (3 * i) = nI (mg i) ∧ ms (3 * i + 1) = nI (md i) ∧ ms (3 * i + 2) = nI (me i)
def MR (n : Nat) (kd : Nat → Nat) (sz : Int32) (g d t s : Nat → Int32) (mz : Int32) (ms : Nat → Int32) : Prop := ∃ (mt : Nat) (mg md me : Nat → Nat), mt ≤ 15 ∧ sz = nI mt ∧ mz = nI mt ∧ MT n kd g d t s ms mt mg md me
def SR (a : Int32) (c e : Nat → Int32) (b : Int32) (d f : Nat → Int32) : Prop := ∃ st : Nat, st ≤ 8 ∧ a = nI st ∧ b = nI st ∧ (∀ i, i < st → ∃ q, q < 512 ∧ c i = nI q ∧ d i = nI q) ∧ ∀ i, i < 8 → ∃ g : Nat → Bool, e i = nI (bs g 8) ∧ f i = nI (bs g 8)
def ZR (a : Int32) (wi wo ho : Nat → Int32) (b : Int32) (r : Nat → Int32) : Prop := ∃ sg : Nat, sg ≤ 8 ∧ a = nI sg ∧ b = nI sg ∧ (∀ i, i < sg → ∃ p q, 1 ≤ p ∧ p ≤ 9 ∧ 1 ≤ q ∧ q ≤ 9 ∧ wi i = nI p ∧ wo i = nI q ∧ r (3 * i) = nI p ∧ r (3 * i + 1) = nI q) ∧ ∀ i, i < 8 → ∃ q, q ≤ 2 ∧ ho i = nI q ∧ (i < sg → r (3 * i + 2) = nI q) ∧ (sg ≤ i → q = 0)
def KR (g s : Int32) (kt ks kh : Nat → Int32) (g' s' : Int32) (kt' ks' kh' : Nat → Int32) : Prop := (g = -1 ∧ g' = -1) ∨ ∃ (n z : Nat) (td : Nat → Nat) (S : Nat → Nat → Nat → Bool) (hh : Nat → Nat), n ≤ 9 ∧ z ≤ 8 ∧ g = nI n ∧ g' = nI n ∧ s = nI z ∧ s' = nI z ∧ (∀ i, i < 9 → td i ≤ 8 ∧ kt i = nI (td i) ∧ kt' i = nI (td i)) ∧ (∀ i, n ≤ i → td i = 0) ∧ (∀ d a, 1 ≤ d → d ≤ 8 → a < 9 → ks ((d - 1) * 9 + a) = nI (bs (S d a) 9)) ∧ (∀ a b, a < 9 → b < 9 → ks' (9 * a + b) = nI (bs (fun d => S d a b) 9)) ∧ (∀ d a b, S d a b = true → 1 ≤ d ∧ d ≤ 8 ∧ a < n ∧ b < n) ∧ (∀ d a b, S d a b = S d b a) ∧ ∀ i, i < 8 → hh i ≤ 2 ∧ kh i = nI (hh i) ∧ (i < z → kh' i = nI (hh i)) ∧ (z ≤ i → hh i = 0)
def IA (σ τ : St) (n : Nat) (kd by_ td : Nat → Nat) (S : Nat → Nat → Nat → Bool) : Prop :=
  GQ n kd by_ td S ∧ GC (σ 1) (σ 2) (σ 3) (σ 4) (σ 5) n kd by_ td S ∧ GM (τ 29 0) (τ 30) (τ 31) (τ 32) (τ 33) n kd by_ td S ∧ WC (σ 7) n kd td S ∧ PR (σ 8 1) (σ 9) (τ 29 7) (τ 35) ∧ MR n kd (σ 10 4) (σ 11) (σ 12) (σ 13) (σ 14) (τ 29 8) (τ 36) ∧ SR (σ 15 2) (σ 16) (σ 17) (τ 29 15) (τ 40) (τ 41) ∧ ZR (σ 18 3) (σ 19) (σ 20) (σ 21) (τ 29 18) (τ 42) ∧ KR (σ 22 3) (σ 22 4) (σ 23) (σ 24) (σ 25) (τ 29 21) (τ 29 22) (τ 43) (τ 44) (τ 45) ∧ σ 0 9 = τ 29 9 ∧ ∃ k, k ≤ 40 ∧ σ 0 10 = nI k ∧ τ 29 11 = nI k
def Inv (σ τ : St) : Prop := ∃ (n : Nat) (kd by_ td : Nat → Nat) (S : Nat → Nat → Nat → Bool), IA σ τ n kd by_ td S
theorem IA_C {σ σ' τ : St} {n : Nat} {kd by_ td : Nat → Nat} {S : Nat → Nat → Nat → Bool} (h : ∀ c, c ≠ 26 → c ≠ 28 → σ' c = σ c) (I : IA σ τ n kd by_ td S) : IA σ' τ n kd by_ td S := by
  unfold IA at *
  simp only [h 0 (by decide) (by decide), h 1 (by decide) (by decide), h 2 (by decide) (by decide), h 3 (by decide) (by decide), h 4 (by decide) (by decide), h 5 (by decide) (by decide), h 7 (by decide) (by decide), h 8 (by decide) (by decide), h 9 (by decide) (by decide), h 10 (by decide) (by decide), h 11 (by decide) (by decide), h 12 (by decide) (by decide), h 13 (by decide) (by decide), h 14 (by decide) (by decide), h 15 (by decide) (by decide), h 16 (by decide) (by decide), h 17 (by decide) (by decide), h 18 (by decide) (by decide), h 19 (by decide) (by decide), h 20 (by decide) (by decide), h 21 (by decide) (by decide), h 22 (by decide) (by decide), h 23 (by decide) (by decide), h 24 (by decide) (by decide), h 25 (by decide) (by decide)]
  exact I
theorem IA_M {σ τ τ' : St} {n : Nat} {kd by_ td : Nat → Nat} {S : Nat → Nat → Nat → Bool} (h : ∀ c, c ≠ 29 → c ≠ 34 → c ≠ 37 → c ≠ 38 → c ≠ 39 → τ' c = τ c) (h29 : ∀ k, k ≠ 20 → τ' 29 k = τ 29 k) (I : IA σ τ n kd by_ td S) : IA σ τ' n kd by_ td S := by
  unfold IA at *
  simp only [h29 0 (by decide), h29 7 (by decide), h29 8 (by decide), h29 9 (by decide), h29 11 (by decide), h29 15 (by decide), h29 18 (by decide), h29 21 (by decide), h29 22 (by decide), h 30 (by decide) (by decide) (by decide) (by decide) (by decide), h 31 (by decide) (by decide) (by decide) (by decide) (by decide), h 32 (by decide) (by decide) (by decide) (by decide) (by decide), h 33 (by decide) (by decide) (by decide) (by decide) (by decide), h 35 (by decide) (by decide) (by decide) (by decide) (by decide), h 36 (by decide) (by decide) (by decide) (by decide) (by decide), h 40 (by decide) (by decide) (by decide) (by decide) (by decide), h 41 (by decide) (by decide) (by decide) (by decide) (by decide), h 42 (by decide) (by decide) (by decide) (by decide) (by decide), h 43 (by decide) (by decide) (by decide) (by decide) (by decide), h 44 (by decide) (by decide) (by decide) (by decide) (by decide), h 45 (by decide) (by decide) (by decide) (by decide) (by decide)]
  exact I
theorem IA_34 {σ τ : St} {n : Nat} {kd by_ td : Nat → Nat} {S : Nat → Nat → Nat → Bool} {w : Nat → Int32} (I : IA σ τ n kd by_ td S) : IA σ (va_up τ 34 w) n kd by_ td S := IA_M (fun c _ h _ _ _ => vu_c h) (fun k _ => by rw [vu_c (by decide)]) I
/-- the reference reckons -/
theorem rk_e {σ τ : St} {n : Nat} {kd by_ td : Nat → Nat} {S : Nat → Nat → Nat → Bool} (I : IA σ τ n kd by_ td S) : ∃ (w : Nat → Int32) (v : Nat → Nat), X8_reckon τ = some (va_up τ 34 w) ∧ ∀ j, j < n → w j = nI (v j) ∧ v j ≤ 10 ∧ kv n (auN n kd) td S 9 j (v j) := by
  obtain ⟨⟨h9, hk4, -, ht, -⟩, -, ⟨hn, hk, -, hp, hs⟩, -⟩ := I
  obtain ⟨w, v, e1, e2⟩ := lt_LK (td := td) hn h9 hk hk4 hs (fun i hi => hp i (by omega)) (fun i hi => ht i (by omega))
  refine ⟨w, v, ?_, e2⟩
  unfold X8_reckon
  rw [e1, bd_s]
/-- the class follows the word again -/
theorem fwd_e {σ : St} {n : Nat} {kd by_ td : Nat → Nat} {S : Nat → Nat → Nat → Bool} (hQ : GQ n kd by_ td S) (hC : GC (σ 1) (σ 2) (σ 3) (σ 4) (σ 5) n kd by_ td S) : ∃ σ', X7_followWord σ = some σ' ∧ (∀ c, c ≠ 26 → c ≠ 7 → σ' c = σ c) ∧ WC (σ' 7) n kd td S := by
  obtain ⟨h9, hk4, -, ht, ht0, -⟩ := hQ
  obtain ⟨hn, ha, -, -, hp, hs⟩ := hC
  obtain ⟨w, e1, e2⟩ := ct_e (σ := σ)
  obtain ⟨u, e3, e4⟩ := fw_e (σ := va_up σ 26 w) (n := n) (au := auN n kd) (td := td) (S := S) (by rw [vu_c (by decide)]; exact hn) h9 (fun i hi => by rw [vu_q, e2 i (by omega)]; exact hp i (by omega)) ht ht0 (fun d a q1 q2 q3 => by rw [vu_c (by decide)]; exact hs d a q1 q2 q3) (by rw [vu_c (by decide)]; exact ha)
  refine ⟨va_up (va_up σ 26 w) 7 u, ?_, fun c h1 h2 => ?_, fun d h1 h2 => ?_⟩
  · unfold X7_followWord
    rw [e1, bd_s, e3, bd_s]
  · rw [vu_c h2, vu_c h1]
  · rw [vu_q]
    exact e4 d h1 h2
theorem kn_of {n : Nat} {au : Nat → Bool} {td : Nat → Nat} {S : Nat → Nat → Nat → Bool} {j v d : Nat} (h : kv n au td S 9 j v) (h2 : d ≤ 9) : (v ≤ d) ↔ kn n au td S d j = true := h.1 d h2
