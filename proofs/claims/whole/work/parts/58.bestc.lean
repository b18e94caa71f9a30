/-! the best plan: the class -/
def nd (n : Nat) (kd : Nat → Nat) (i : Nat) : Bool := decide (i < n ∧ (kd i = 2 ∨ kd i = 4))
theorem nd_t {n : Nat} {kd : Nat → Nat} {i : Nat} (h : nd n kd i = true) : i < n ∧ (kd i = 2 ∨ kd i = 4) := by simpa [nd] using h
theorem nd_au {n : Nat} {kd : Nat → Nat} {i : Nat} (h : auN n kd i = true) : nd n kd i = false := by
  have h1 : i < n ∧ kd i = 1 := by simpa [auN] using h
  have : ¬ (i < n ∧ (kd i = 2 ∨ kd i = 4)) := by omega
  exact decide_eq_false this
def ys (kd by_ mg md me : Nat → Nat) (mt g : Nat) : Nat := (sca (Phi kd mg md me mt g) (by_ g)).2
def ps (n : Nat) (kd by_ mg md me : Nat → Nat) (mt i j : Nat) : Nat := if j < i ∧ nd n kd j = true then ys kd by_ mg md me mt j else 0
theorem ps_8 {n i : Nat} {kd by_ td mg md me : Nat → Nat} {S : Nat → Nat → Nat → Bool} {mt : Nat} (hQ : GQ n kd by_ td S) (j : Nat) : ps n kd by_ mg md me mt i j ≤ 8 := by
  unfold ps
  split
  · rename_i h
    have h1 := nd_t h.2
    have h2 := (hQ.2.2.1 j h1.1).1
    have h3 := sca_d (f := Phi kd mg md me mt j) (by_ j)
    unfold ys
    omega
  · omega
theorem ps_0 {n i : Nat} {kd by_ mg md me : Nat → Nat} {mt : Nat} {j : Nat} (h : nd n kd j = false) : ps n kd by_ mg md me mt i j = 0 := by
  unfold ps
  rw [if_neg (fun z => by rw [h] at z; exact absurd z.2 (by decide))]
theorem nd_out {n : Nat} {kd : Nat → Nat} {i : Nat} (h : n ≤ i) : nd n kd i = false := decide_eq_false (by omega)
theorem hmL {σ : St} {n : Nat} {kd : Nat → Nat} (hn : σ 1 5 = nI n) (h9 : n ≤ 9) (hk : ∀ i, i < n → σ 2 i = nI (kd i)) (h4 : ∀ i, i < n → kd i ≤ 4) : ∀ (f i : Nat), i ≤ n → n < f + i → X0_howMany_L1 f σ (2 : Int32) (nI (ct (nd n kd) i)) (nI i) = some (nI (ct (nd n kd) n), nI n) := by
  intro f
  induction f with
  | zero => intro i h1 h2; omega
  | succ f ih =>
    intro i h1 h2
    rw [X0_howMany_L1_s, hn]
    by_cases e : i = n
    · subst e
      rw [if_pos (nI_le (Nat.le_refl _) (by omega))]
    · have hi : i < n := by omega
      have key : ∀ k, k < 5 → (if 2 = 0 ∨ 2 = k ∨ (2 = 2 ∧ k = 4) then (1 : Int32) else 0) = if k = 2 ∨ k = 4 then 1 else 0 := by decide
      have h5 := h4 i hi
      have hA : X0_isA σ (nI i) (2 : Int32) = some (if kd i = 2 ∨ kd i = 4 then 1 else 0) := by
        rw [show (2 : Int32) = nI 2 from rfl, isA_e hn h9 hk h4 hi (by omega), key (kd i) (by omega)]
      have hs : ct (nd n kd) (i + 1) = ct (nd n kd) i + (if nd n kd i = true then 1 else 0) := rfl
      rw [if_neg (nI_ge hi (by omega)), hA, bd_s, lt_e, show nI i + (1 : Int32) = nI (i + 1) from nI_1 i, ← ih (i + 1) (by omega) (by omega), hs]
      by_cases c : kd i = 2 ∨ kd i = 4
      · have hnd : nd n kd i = true := decide_eq_true ⟨hi, c⟩
        rw [if_pos c, if_neg one0, hnd, if_pos rfl, show nI (ct (nd n kd) i) + (1 : Int32) = nI (ct (nd n kd) i + 1) from nI_1 _]
      · have hnd : nd n kd i = false := decide_eq_false (fun z => c z.2)
        rw [if_neg c, if_pos rfl, hnd, if_neg (show ¬ false = true by decide)]
        rfl
theorem hm_e {σ : St} {n : Nat} {kd : Nat → Nat} (hn : σ 1 5 = nI n) (h9 : n ≤ 9) (hk : ∀ i, i < n → σ 2 i = nI (kd i)) (h4 : ∀ i, i < n → kd i ≤ 4) : X0_howMany σ (2 : Int32) = some (nI (ct (nd n kd) n)) := by
  have h := hmL hn h9 hk h4 10000 0 (Nat.zero_le _) (by omega)
  change X0_howMany_L1 10000 σ 2 0 0 = _ at h
  unfold X0_howMany
  rw [h, bd_s]
theorem fillL {σ : St} : ∀ (f i : Nat) (w : Nat → Int32), i ≤ 9 → 9 < f + i → ∃ (w' : Nat → Int32) (k : Int32), J7_fill_53178_L1 f (va_up σ 26 w) 0 (nI i) 9 = some (k, va_up σ 26 w') ∧ (∀ j, j < i → w' j = w j) ∧ ∀ j, i ≤ j → j < 9 → w' j = 0 := by
  intro f
  induction f with
  | zero => intro i w h1 h2; omega
  | succ f ih =>
    intro i w h1 h2
    rw [J7_fill_53178_L1_s]
    by_cases e : i = 9
    · subst e
      rw [if_pos (show (9 : Int32) ≤ nI 9 by decide)]
      exact ⟨w, _, rfl, fun _ _ => rfl, fun j h3 h4 => by omega⟩
    · have hi : ¬ (9 : Int32) ≤ nI i := nI_ge (b := 9) (by omega) (by omega)
      rw [if_neg hi, wa_u (by omega) (by omega), bd_s, show nI i + (1 : Int32) = nI (i + 1) from nI_1 i]
      obtain ⟨w', k, e1, e2, e3⟩ := ih (i + 1) (upd w i 0) (by omega) (by omega)
      refine ⟨w', k, e1, fun j hj => ?_, fun j h3 h4 => ?_⟩
      · rw [e2 j (by omega), up_n (by omega)]
      · by_cases e4 : j = i
        · rw [e4, e2 i (by omega), up_s]
        · exact e3 j (by omega) h4
theorem fill_e {σ : St} : ∃ (w : Nat → Int32), J7_fill_53178 σ 0 = some (va_up σ 26 w) ∧ ∀ j, j < 9 → w j = 0 := by
  obtain ⟨w, k, e1, -, e3⟩ := fillL (σ := σ) 10000 0 (σ 26) (by omega) (by omega)
  rw [vu_self] at e1
  refine ⟨w, ?_, fun j hj => e3 j (Nat.zero_le _) hj⟩
  unfold J7_fill_53178
  change J7_fill_53178_L1 10000 _ 0 0 9 = _ at e1
  rw [e1, bd_s]
def EC (σ' σ : St) : Prop := ∀ c, c ≠ 26 → c ≠ 28 → σ' c = σ c
theorem planEC {σ σ' τ : St} {n mt : Nat} {kd by_ td p : Nat → Nat} {S : Nat → Nat → Nat → Bool} {mg md me : Nat → Nat} (hQ : GQ n kd by_ td S) (hC : GC (σ 1) (σ 2) (σ 3) (σ 4) (σ 5) n kd by_ td S) (m15 : mt ≤ 15) (z1 : σ 10 4 = nI mt) (hM : MT n kd (σ 11) (σ 12) (σ 13) (σ 14) (τ 36) mt mg md me) (hE : EC σ' σ) (h1 : ∀ i, i < n → σ' 26 i = nI (p i)) (h2 : ∀ i, p i ≤ 8) (h3 : ∀ i, n ≤ i → p i = 0) : ∃ u, X7_planWays σ' = some (lN (Wm n kd S mg md me mt p), va_up σ' 28 u) := by
  refine plan_e (σ := σ') (τ := τ) (by_ := by_) (td := td) (p := p) hQ ?_ m15 ?_ ?_ h1 (fun i _ => h2 i) h3
  · rw [hE 1 (by decide) (by decide), hE 2 (by decide) (by decide), hE 3 (by decide) (by decide), hE 4 (by decide) (by decide), hE 5 (by decide) (by decide)]
    exact hC
  · rw [hE 10 (by decide) (by decide)]
    exact z1
  · rw [hE 11 (by decide) (by decide), hE 12 (by decide) (by decide), hE 13 (by decide) (by decide), hE 14 (by decide) (by decide)]
    exact hM
theorem bdL {σ τ : St} {n mt g : Nat} {kd by_ td p : Nat → Nat} {S : Nat → Nat → Nat → Bool} {mg md me : Nat → Nat} (hQ : GQ n kd by_ td S) (hC : GC (σ 1) (σ 2) (σ 3) (σ 4) (σ 5) n kd by_ td S) (m15 : mt ≤ 15) (z1 : σ 10 4 = nI mt) (hM : MT n kd (σ 11) (σ 12) (σ 13) (σ 14) (τ 36) mt mg md me) (h2 : ∀ i, p i ≤ 8) (h3 : ∀ i, n ≤ i → p i = 0) (hg : g < n) : ∀ (f k : Nat) (σ' : St), k ≤ by_ g → by_ g < f + k → EC σ' σ → (∀ j, j < n → j ≠ g → σ' 26 j = nI (p j)) → ∃ σ'', X7_bestDayFor_L1 f σ' (nI g) (lN (sca (fun y => Wm n kd S mg md me mt (fun j => if j = g then y else p j)) k).1) (nI (sca (fun y => Wm n kd S mg md me mt (fun j => if j = g then y else p j)) k).2) (nI (k + 1)) = some (lN (sca (fun y => Wm n kd S mg md me mt (fun j => if j = g then y else p j)) (by_ g)).1, nI (sca (fun y => Wm n kd S mg md me mt (fun j => if j = g then y else p j)) (by_ g)).2, nI (by_ g + 1), σ'') ∧ EC σ'' σ ∧ ∀ j, j < n → j ≠ g → σ'' 26 j = nI (p j) := by
  have h9 := hQ.1
  have hb8 := (hQ.2.2.1 g hg).1
  intro f
  induction f with
  | zero => intro k σ' q1 q2; omega
  | succ f ih =>
    intro k σ' q1 q2 hE hp
    have hby : X0_byOf σ' (nI g) = some (nI (by_ g)) := by
      unfold X0_byOf
      rw [lt_e, hasC (by rw [hE 1 (by decide) (by decide)]; exact hC.1) h9, toI_n (by omega), if_pos (show (0 : Int) ≤ (g : Int) ∧ (g : Int) < n by omega), if_neg one0, rd_n (by omega) (by omega), bd_s, hE 3 (by decide) (by decide), hC.2.2.2.1 g hg]
    rw [X7_bestDayFor_L1_s, hby, bd_s]
    by_cases e : k = by_ g
    · rw [if_pos (nI_lt (by omega) (by omega)), e]
      exact ⟨σ', rfl, hE, hp⟩
    · have hk : k < by_ g := by omega
      obtain ⟨u, e1⟩ := planEC (σ' := s2 σ' 26 g (nI (k + 1))) (τ := τ) (p := fun j => if j = g then k + 1 else p j) hQ hC m15 z1 hM (fun c c1 c2 => by rw [s2_c c1]; exact hE c c1 c2) (fun i hi => by
        rw [s2_q]
        by_cases ei : i = g
        · rw [ei, up_s, if_pos rfl]
        · rw [up_n ei, if_neg ei]
          exact hp i hi ei) (fun i => by have := h2 i; split <;> omega) (fun i hi => by rw [if_neg (by omega)]; exact h3 i hi)
      have hB := sca_le (f := fun y => Wm n kd S mg md me mt (fun j => if j = g then y else p j)) (B := 10 ^ mt) (fun y => wm_le n kd S mg md me mt _) k
      have hw := wm_le n kd S mg md me mt (fun j => if j = g then k + 1 else p j)
      have h15 := ten15 m15
      have hs : sca (fun y => Wm n kd S mg md me mt (fun j => if j = g then y else p j)) (k + 1) = if Wm n kd S mg md me mt (fun j => if j = g then k + 1 else p j) ≤ (sca (fun y => Wm n kd S mg md me mt (fun j => if j = g then y else p j)) k).1 then sca (fun y => Wm n kd S mg md me mt (fun j => if j = g then y else p j)) k else (Wm n kd S mg md me mt (fun j => if j = g then k + 1 else p j), k + 1) := rfl
      rw [if_neg (nI_nlt (by omega) (by omega)), wa_n (by omega) (by omega), bd_s, e1, bd_s, lt_e, show nI (k + 1) + (1 : Int32) = nI (k + 1 + 1) from nI_1 _]
      have hE' : EC (va_up (s2 σ' 26 g (nI (k + 1))) 28 u) σ := fun c c1 c2 => by rw [vu_c c2, s2_c c1]; exact hE c c1 c2
      have hp' : ∀ j, j < n → j ≠ g → (va_up (s2 σ' 26 g (nI (k + 1))) 28 u) 26 j = nI (p j) := fun j j1 j2 => by
        rw [vu_c (by decide), s2_q, up_n j2]
        exact hp j j1 j2
      have := ih (k + 1) _ (by omega) (by omega) hE' hp'
      rw [hs] at this
      by_cases c : Wm n kd S mg md me mt (fun j => if j = g then k + 1 else p j) ≤ (sca (fun y => Wm n kd S mg md me mt (fun j => if j = g then y else p j)) k).1
      · rw [if_pos c] at this
        rw [if_pos ((pk_lLE (by omega) (by omega)).mpr c)]
        exact this
      · rw [if_neg c] at this
        rw [if_neg (fun z => c ((pk_lLE (by omega) (by omega)).mp z))]
        exact this
theorem om_e {n mt g : Nat} {kd by_ p mg md me : Nat → Nat} {S : Nat → Nat → Nat → Bool} (hg : nd n kd g = true) (hau : ∀ a, auN n kd a = true → p a = 0) (hm : ∀ i, i < mt → mg i < n ∧ me i ≤ 9) : (sca (fun y => Wm n kd S mg md me mt (fun j => if j = g then y else p j)) (by_ g)).2 = ys kd by_ mg md me mt g := by
  have hR : 0 < pw (fun j => if j = g then 1 else Phi kd mg md me mt j (p j)) n := pw_pos (fun i _ => by
    split
    · omega
    · exact phi_pos (fun i hi => (hm i hi).2) _ _)
  have hf : ∀ y, Wm n kd S mg md me mt (fun j => if j = g then y else p j) = Phi kd mg md me mt g y * pw (fun j => if j = g then 1 else Phi kd mg md me mt j (p j)) n := fun y => by
    rw [wm_e (fun a ha => by
      by_cases ea : a = g
      · subst ea
        rw [nd_au ha] at hg
        exact absurd hg (by decide)
      · rw [if_neg ea]; exact hau a ha) (fun i hi => (hm i hi).1), pw_split (g := g) (nd_t hg).1, if_pos rfl]
    congr 1
    apply pw_cong
    intro i hi
    by_cases ei : i = g
    · rw [if_pos ei, if_pos ei]
    · rw [if_neg ei, if_neg ei, if_neg ei]
  rw [sca_cong (g := fun y => Phi kd mg md me mt g y * pw (fun j => if j = g then 1 else Phi kd mg md me mt j (p j)) n) (fun y _ _ => hf y), sca_mul hR]
  rfl
theorem pbL {σ τ : St} {n mt : Nat} {kd by_ td : Nat → Nat} {S : Nat → Nat → Nat → Bool} {mg md me : Nat → Nat} (hQ : GQ n kd by_ td S) (hC : GC (σ 1) (σ 2) (σ 3) (σ 4) (σ 5) n kd by_ td S) (m15 : mt ≤ 15) (z1 : σ 10 4 = nI mt) (hM : MT n kd (σ 11) (σ 12) (σ 13) (σ 14) (τ 36) mt mg md me) : ∀ (f i : Nat) (σ' : St), i ≤ n → n < f + i → EC σ' σ → (∀ j, j < n → σ' 26 j = nI (ps n kd by_ mg md me mt i j)) → ∃ σ'', X7_planBest_L1 f σ' (nI i) = some (nI n, σ'') ∧ EC σ'' σ ∧ ∀ j, j < n → σ'' 26 j = nI (ps n kd by_ mg md me mt n j) := by
  have h9 := hQ.1
  intro f
  induction f with
  | zero => intro i σ' q1 q2; omega
  | succ f ih =>
    intro i σ' q1 q2 hE hp
    have hn1 : σ' 1 5 = nI n := by rw [hE 1 (by decide) (by decide)]; exact hC.1
    rw [X7_planBest_L1_s, lt_e]
    unfold X0_size
    rw [hn1]
    by_cases e : i = n
    · subst e
      rw [if_pos (nI_le (Nat.le_refl _) (by omega))]
      exact ⟨σ', rfl, hE, hp⟩
    · have hi : i < n := by omega
      have h5 := hQ.2.1 i hi
      have key : ∀ k, k < 5 → (if 2 = 0 ∨ 2 = k ∨ (2 = 2 ∧ k = 4) then (1 : Int32) else 0) = if k = 2 ∨ k = 4 then 1 else 0 := by decide
      have hA : X0_isA σ' (nI i) (2 : Int32) = some (if kd i = 2 ∨ kd i = 4 then 1 else 0) := by
        rw [show (2 : Int32) = nI 2 from rfl, isA_e hn1 h9 (fun j hj => by rw [hE 2 (by decide) (by decide)]; exact hC.2.2.1 j hj) hQ.2.1 hi (by omega), key (kd i) (by omega)]
      rw [if_neg (nI_ge hi (by omega)), hA, bd_s, show nI i + (1 : Int32) = nI (i + 1) from nI_1 i]
      by_cases c : kd i = 2 ∨ kd i = 4
      · have hnd : nd n kd i = true := decide_eq_true ⟨hi, c⟩
        obtain ⟨b8, b1⟩ := hQ.2.2.1 i hi
        obtain ⟨σ1, e1, e2, e3⟩ := bdL (g := i) (p := ps n kd by_ mg md me mt i) hQ hC m15 z1 hM (fun j => ps_8 hQ j) (fun j hj => ps_0 (nd_out hj)) hi 10000 0 σ' (Nat.zero_le _) (by omega) hE (fun j j1 _ => hp j j1)
        change X7_bestDayFor_L1 10000 σ' (nI i) 0 0 1 = _ at e1
        rw [om_e hnd (fun a ha => ps_0 (nd_au ha)) (fun j hj => ⟨(hM j hj).1.1, (hM j hj).1.2.2.2.2⟩)] at e1
        have e4 : X7_bestDayFor σ' (nI i) = some (nI (ys kd by_ mg md me mt i), σ1) := by
          unfold X7_bestDayFor
          rw [lt_e, hasC hn1 h9, toI_n (by omega), if_pos (show (0 : Int) ≤ (i : Int) ∧ (i : Int) < n by omega), if_neg one0, e1, bd_s]
        rw [if_pos c, if_neg one0, e4, bd_s]
        dsimp only
        rw [wa_n (by omega) (by omega), bd_s, bd_s]
        refine ih (i + 1) _ (by omega) (by omega) (fun c c1 c2 => by rw [s2_c c1]; exact e2 c c1 c2) (fun j hj => ?_)
        rw [s2_q]
        by_cases ej : j = i
        · rw [ej, up_s]
          unfold ps
          rw [if_pos ⟨by omega, hnd⟩]
        · rw [up_n ej, e3 j hj ej]
          unfold ps
          have : (j < i ∧ nd n kd j = true) ↔ (j < i + 1 ∧ nd n kd j = true) := by
            constructor
            · exact fun z => ⟨by omega, z.2⟩
            · exact fun z => ⟨by omega, z.2⟩
          simp only [this]
      · have hnd : nd n kd i = false := decide_eq_false (fun z => c z.2)
        rw [if_neg c, if_pos rfl, bd_s]
        refine ih (i + 1) _ (by omega) (by omega) hE (fun j hj => ?_)
        rw [hp j hj]
        by_cases ej : j = i
        · rw [ej, ps_0 hnd, ps_0 hnd]
        · unfold ps
          have : (j < i ∧ nd n kd j = true) ↔ (j < i + 1 ∧ nd n kd j = true) := by
            constructor
            · exact fun z => ⟨by omega, z.2⟩
            · exact fun z => ⟨by omega, z.2⟩
          simp only [this]
theorem pb_e {σ τ : St} {n mt : Nat} {kd by_ td : Nat → Nat} {S : Nat → Nat → Nat → Bool} {mg md me : Nat → Nat} (hQ : GQ n kd by_ td S) (hC : GC (σ 1) (σ 2) (σ 3) (σ 4) (σ 5) n kd by_ td S) (m15 : mt ≤ 15) (z1 : σ 10 4 = nI mt) (hM : MT n kd (σ 11) (σ 12) (σ 13) (σ 14) (τ 36) mt mg md me) : ∃ σ', X7_planBest σ = some σ' ∧ EC σ' σ ∧ ∀ j, j < n → σ' 26 j = nI (ps n kd by_ mg md me mt n j) := by
  have h9 := hQ.1
  obtain ⟨w, f1, f2⟩ := fill_e (σ := σ)
  obtain ⟨σ', e1, e2, e3⟩ := pbL hQ hC m15 z1 hM 10000 0 (va_up σ 26 w) (Nat.zero_le _) (by omega) (fun c c1 _ => vu_c c1) (fun j hj => by
    rw [vu_q, f2 j (by omega)]
    unfold ps
    rw [if_neg (by omega)]
    rfl)
  change X7_planBest_L1 10000 _ 0 = _ at e1
  refine ⟨σ', ?_, e2, e3⟩
  unfold X7_planBest
  rw [f1, bd_s, e1, bd_s]
