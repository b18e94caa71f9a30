/-! a plan's ways; hole -/
theorem plan_e {σ τ : St} {n mt : Nat} {kd by_ td p : Nat → Nat} {S : Nat → Nat → Nat → Bool} {mg md me : Nat → Nat} (hQ : GQ n kd by_ td S) (hC : GC (σ 1) (σ 2) (σ 3) (σ 4) (σ 5) n kd by_ td S) (m15 : mt ≤ 15) (z1 : σ 10 4 = nI mt) (hM : MT n kd (σ 11) (σ 12) (σ 13) (σ 14) (τ 36) mt mg md me) (h1 : ∀ i, i < n → σ 26 i = nI (p i)) (h2 : ∀ i, i < 9 → p i ≤ 8) (h3 : ∀ i, n ≤ i → p i = 0) : ∃ u, X7_planWays σ = some (lN (pw (fun i => 10 - slp kd (KN n kd p S) mg md me i) mt), va_up σ 28 u) := by
  obtain ⟨hn, ha, -, -, -, hs⟩ := hC
  obtain ⟨u, e1, e2⟩ := fp_e (σ := σ) (n := n) (au := auN n kd) (td := p) (S := S) hn hQ.1 h1 h2 h3 hs ha
  refine ⟨u, ?_⟩
  have e3 := spw_e (σ := va_up σ 28 u) (n := n) (kd := kd) (td := p) (S := S) hQ.1 m15 z1 hM (fun d q1 q2 => by rw [vu_q]; exact e2 d q1 q2)
  unfold X7_planWays
  rw [e1, bd_s, e3, bd_s]
theorem planM_e {τ : St} {n mt : Nat} {kd by_ td p : Nat → Nat} {S : Nat → Nat → Nat → Bool} {c1 c2 c3 c4 : Nat → Int32} {mg md me : Nat → Nat} (hQ : GQ n kd by_ td S) (hC : GM (τ 29 0) (τ 30) (τ 31) (τ 32) (τ 33) n kd by_ td S) (m15 : mt ≤ 15) (z2 : τ 29 8 = nI mt) (hM : MT n kd c1 c2 c3 c4 (τ 36) mt mg md me) (h1 : ∀ i, i < n → τ 37 i = nI (p i)) (h2 : ∀ i, i < n → p i ≤ 8) : ∃ w, X8_layKnows_29_37 τ = some (va_up τ 34 w) ∧ X8_silent (va_up τ 34 w) = some (lN (pw (fun i => 10 - slp kd (KN n kd p S) mg md me i) mt)) := by
  obtain ⟨hn', hk', -, -, hs'⟩ := hC
  obtain ⟨w, v, e1, e2⟩ := lp_LK (kd := kd) (td := p) (S := S) hn' hQ.1 hk' hQ.2.1 hs' h1 h2
  exact ⟨w, e1, sil_e hQ.1 m15 z2 hk' hQ.2.1 hM e2⟩
theorem hoL2 {τ : St} {i : Nat} {x1 : Int64} {x3 : Int32} (hi : i < 9) : ∀ (f k : Nat) (w : Nat → Int32), k ≤ 9 → 9 < f + k → ∃ (w' : Nat → Int32) (j : Int32), X8_holeOf_L2 f (va_up τ 37 w) x1 x3 (nI i) (nI k) = some (j, va_up τ 37 w') ∧ (∀ j, j < k → w' j = w j) ∧ ∀ j, k ≤ j → j < 9 → w' j = if j = i then 0 else τ 32 j := by
  intro f
  induction f with
  | zero => intro k w h1 h2; omega
  | succ f ih =>
    intro k w h1 h2
    rw [X8_holeOf_L2_s]
    by_cases e : k = 9
    · subst e
      rw [if_pos (show (9 : Int32) ≤ nI 9 by decide)]
      exact ⟨w, _, rfl, fun _ _ => rfl, fun j h3 h4 => by omega⟩
    · have hk : ¬ (9 : Int32) ≤ nI k := nI_ge (b := 9) (by omega) (by omega)
      have e5 : (if nI k = nI i then some (0 : Int32) else bd (some (τ 32 k)) fun v12 => some v12) = some (if k = i then 0 else τ 32 k) := by
        by_cases c : k = i
        · rw [if_pos (by rw [c]), if_pos c]
        · rw [if_neg (fun z => c ((nI_eq (by omega) (by omega)).mp z)), if_neg c]; rfl
      rw [if_neg hk, vu_c (by decide), rd_n (by omega) (by omega), e5, bd_s, wa_u (by omega) (by omega), bd_s, show nI k + (1 : Int32) = nI (k + 1) from nI_1 k]
      obtain ⟨w', j, e1, e2, e3⟩ := ih (k + 1) (upd w k (if k = i then 0 else τ 32 k)) (by omega) (by omega)
      refine ⟨w', j, e1, fun j hj => ?_, fun j h3 h4 => ?_⟩
      · rw [e2 j (by omega), up_n (by omega)]
      · by_cases e4 : j = k
        · rw [e4, e2 k (by omega), up_s]
        · exact e3 j (by omega) h4
theorem holeL {n : Nat} {kd by_ td : Nat → Nat} {S : Nat → Nat → Nat → Bool} : ∀ (f i : Nat) (b : Int64) (k : Int32) (σ τ : St), IA σ τ n kd by_ td S → i ≤ n → n < f + i → ∃ (b' : Int64) (k' : Int32) (σ' τ' : St), X7_hole_L1 f σ b k (nI i) = some (b', k', nI n, σ') ∧ X8_holeOf_L1 f τ b k (nI i) = some (b', k', nI n, τ') ∧ IA σ' τ' n kd by_ td S := by
  intro f
  induction f with
  | zero => intro i b k σ τ I h1 h2; omega
  | succ f ih =>
    intro i b k σ τ I h1 h2
    obtain ⟨hQ, hC, hG, hW, -, ⟨mt, mg, md, me, m15, z1, z2, hM⟩, -⟩ := id I
    obtain ⟨hn, ha, hkk, hbb, htt, hss⟩ := id hC
    obtain ⟨hn', hk', hb', ht', hs'⟩ := id hG
    have h9 := hQ.1
    have ht8 := hQ.2.2.2.1
    have ht0 := hQ.2.2.2.2.1
    rw [X7_hole_L1_s, X8_holeOf_L1_s, lt_e, hn']
    unfold X0_size
    rw [hn]
    by_cases e : i = n
    · subst e
      rw [if_pos (nI_le (Nat.le_refl _) (by omega)), if_pos (nI_le (Nat.le_refl _) (by omega))]
      exact ⟨b, k, σ, τ, rfl, rfl, I⟩
    · have hi : i < n := by omega
      have h8 := ht8 i (by omega)
      have htold : X0_toldOf σ (nI i) = some (nI (td i)) := by
        unfold X0_toldOf
        rw [lt_e, hasC hn h9, toI_n (by omega), if_pos (show (0 : Int) ≤ (i : Int) ∧ (i : Int) < n by omega), if_neg one0, rd_n (by omega) (by omega), bd_s, htt i (by omega)]
      rw [if_neg (nI_ge hi (by omega)), if_neg (nI_ge hi (by omega)), htold, bd_s, rd_n (by omega) (by omega), bd_s, ht' i (by omega), show nI i + (1 : Int32) = nI (i + 1) from nI_1 i]
      by_cases c : td i = 0
      · rw [if_pos (show nI (td i) = 0 by rw [c]; rfl), if_pos (show nI (td i) ≤ 0 by rw [c]; decide), bd_s, bd_s]
        exact ih (i + 1) b k σ τ I (by omega) (by omega)
      · have c1 : ¬ nI (td i) = 0 := fun z => c ((nI_eq (b := 0) (by omega) (by omega)).mp z)
        have c2 : ¬ nI (td i) ≤ 0 := nI_ge (a := 0) (by omega) (by omega)
        obtain ⟨w, e1, e2⟩ := ct_e (σ := σ)
        obtain ⟨w', j, e3, -, e4⟩ := hoL2 (τ := τ) (x1 := b) (x3 := k) (show i < 9 by omega) 10000 0 (τ 37) (by omega) (by omega)
        rw [vu_self] at e3
        change X8_holeOf_L2 10000 τ b k (nI i) 0 = _ at e3
        obtain ⟨u, e5⟩ := plan_e (σ := va_up σ 26 (upd w i 0)) (τ := τ) (by_ := by_) (td := td) (p := fun j => if j = i then 0 else td j) hQ hC m15 z1 hM (fun q hq => by
          rw [vu_q]
          by_cases eq : q = i
          · rw [eq, up_s, if_pos rfl]; rfl
          · rw [up_n eq, if_neg eq, e2 q (by omega)]; exact htt q (by omega)) (fun q hq => by have := ht8 q hq; split <;> omega) (fun q hq => by rw [if_neg (by omega)]; exact ht0 q hq)
        obtain ⟨w2, e6, e7⟩ := planM_e (τ := va_up τ 37 w') (by_ := by_) (td := td) (p := fun j => if j = i then 0 else td j) hQ hG m15 z2 hM (fun q hq => by
          rw [vu_q, e4 q (by omega) (by omega)]
          by_cases eq : q = i
          · rw [eq, if_pos rfl, if_pos rfl]; rfl
          · rw [if_neg eq, if_neg eq]; exact ht' q (by omega)) (fun q hq => by have := ht8 q (by omega); split <;> omega)
        have K : IA (va_up (va_up σ 26 (upd w i 0)) 28 u) (va_up (va_up τ 37 w') 34 w2) n kd by_ td S := IA_C (σ := σ) (fun c q1 q2 => by rw [vu_c q2, vu_c q1]) (IA_M (τ := τ) (fun c _ q2 q3 _ _ => by rw [vu_c q2, vu_c q3]) (fun k _ => rfl) I)
        rw [if_neg c1, if_neg c2, e1, bd_s, wa_u (by omega) (by omega), bd_s, e5, bd_s, e3, bd_s]
        dsimp only
        rw [e6, bd_s, e7, bd_s, lt_e, lt_e]
        by_cases d : lN (pw (fun q => 10 - slp kd (KN n kd (fun j => if j = i then 0 else td j) S) mg md me q) mt) ≤ b
        · rw [if_pos d, if_pos d, if_pos d, bd_s, bd_s]
          exact ih (i + 1) b k _ _ K (by omega) (by omega)
        · rw [if_neg d, if_neg d, if_neg d, bd_s, bd_s]
          exact ih (i + 1) _ (nI i) _ _ K (by omega) (by omega)
theorem hole_t {σ τ : St} {n : Nat} {kd by_ td : Nat → Nat} {S : Nat → Nat → Nat → Bool} (I : IA σ τ n kd by_ td S) : ∃ (r : Int32) (σ' τ' : St), X7_hole σ = some (r, σ') ∧ X8_holeOf τ = some (r, τ') ∧ IA σ' τ' n kd by_ td S := by
  obtain ⟨hQ, -, ⟨hn', hk', -⟩, hW, -, ⟨mt, mg, md, me, m15, z1, z2, hM⟩, -⟩ := id I
  obtain ⟨w, v, e1, e2⟩ := rk_e I
  obtain ⟨b', k', σ', τ', f1, f2, f3⟩ := holeL 10000 0 (lN (pw (fun i => 10 - slp kd (KN n kd td S) mg md me i) mt)) (-1) σ (va_up τ 34 w) (IA_34 I) (Nat.zero_le _) (by have := hQ.1; omega)
  change X7_hole_L1 10000 σ _ (-1) 0 = _ at f1
  change X8_holeOf_L1 10000 _ _ (-1) 0 = _ at f2
  refine ⟨k', σ', τ', ?_, ?_, f3⟩
  · unfold X7_hole
    rw [sw_e hQ.1 m15 z1 hM hW, bd_s, f1, bd_s]
  · unfold X8_holeOf
    rw [e1, bd_s, sil_e hQ.1 m15 z2 hk' hQ.2.1 hM e2, bd_s, f2, bd_s]
theorem sim_hole : Sim_hole Inv := by
  intro σ τ I
  obtain ⟨n, kd, by_, td, S, J⟩ := id I
  obtain ⟨r, σ', τ', e1, e2, e3⟩ := hole_t J
  refine ⟨r, σ', τ', e1, ?_, n, kd, by_, td, S, e3⟩
  unfold X8_hole
  rw [e2, bd_s]
/-! cover -/
theorem ones_e : ∀ m, m < 256 → X8_ones (nI m) = some (J6_bitCount_0f7a4 (nI m)) := by decide +kernel
theorem bc8 : ∀ m, m < 256 → ¬ (9 : Int32) ≤ J6_bitCount_0f7a4 (nI m) := by decide +kernel
theorem nclr {f g : Nat → Bool} : (nI (bs f 9) &&& (nI (bs g 9) ^^^ (-1 : Int32))) = nI (bs (fun i => f i && !g i) 9) := by
  rw [show (-1 : Int32) = nI (2 ^ 32 - 1) from by decide, xor_n, and_n]
  congr 1
  apply bs_eq
  · exact Nat.lt_of_le_of_lt Nat.and_le_left (bs_lt f 9)
  · intro i hi
    rw [Nat.testBit_and, bs_tb, Nat.testBit_xor, bs_tb, Nat.testBit_two_pow_sub_one]
    simp [hi, show i < 32 by omega]
theorem sub_iff {f g : Nat → Bool} : ((nI (bs g 9) &&& nI (bs f 9)) = nI (bs f 9)) ↔ ((nI (bs f 9) &&& (nI (bs g 9) ^^^ (-1 : Int32))) = 0) := by
  have h1 := bs9 (fun i => g i && f i)
  have h2 := bs9 f
  have h3 := bs9 (fun i => f i && !g i)
  rw [nclr, and_n, bs_and, show (0 : Int32) = nI 0 from rfl, nI_eq (by omega) (by omega), nI_eq (by omega) (by omega)]
  constructor
  · intro h
    have := bs_inj h
    apply bs_zero
    intro i hi
    have q := this i hi
    revert q
    cases f i <;> cases g i <;> simp
  · intro h
    apply bs_cong
    intro i hi
    have z : bs (fun i => f i && !g i) 9 = bs (fun _ => false) 9 := by rw [h, bs_zero (fun _ _ => rfl)]
    have q := bs_inj z i hi
    revert q
    cases f i <;> cases g i <;> simp
theorem coL3 {σ τ : St} {st m : Nat} {x1 x2 x3 u2 : Int32} (h8 : st ≤ 8) (hm : m < 256) (z1 : σ 15 2 = nI st) (z2 : τ 29 15 = nI st) (hs : ∀ i, i < st → ∃ q, q < 512 ∧ σ 16 i = nI q ∧ τ 40 i = nI q) (hc : ∀ i, i < 8 → ∃ g : Nat → Bool, σ 17 i = nI (bs g 8) ∧ τ 41 i = nI (bs g 8)) : ∀ (f i a : Nat), i ≤ st → st < f + i → a < 512 → (X5_canBeToldBy_L1 f σ (nI m) u2 (nI a) (nI i) = some (Sum.inl 0) ∧ ∃ p q, X8_tellCover_L3 f τ x1 x2 x3 (nI m) (nI a) 1 (nI i) = some (p, 0, q)) ∨ ∃ a', a' < 512 ∧ X5_canBeToldBy_L1 f σ (nI m) u2 (nI a) (nI i) = some (Sum.inr (nI a', nI st)) ∧ X8_tellCover_L3 f τ x1 x2 x3 (nI m) (nI a) 1 (nI i) = some (nI a', 1, nI st) := by
  intro f
  induction f with
  | zero => intro i a h1 h2; omega
  | succ f ih =>
    intro i a h1 h2 ha
    rw [X5_canBeToldBy_L1_s, X8_tellCover_L3_s, z1, z2]
    by_cases e : i = st
    · subst e
      rw [if_pos (nI_le (Nat.le_refl _) (by omega)), if_pos (nI_le (Nat.le_refl _) (by omega))]
      exact Or.inr ⟨a, ha, rfl, rfl⟩
    · have hi : i < st := by omega
      obtain ⟨q, q1, q2, q3⟩ := hs i hi
      obtain ⟨g, g1, g2⟩ := hc i (by omega)
      have r1 : rd (σ 16) 8 (nI i) = some (nI q) := by rw [rd_n (by omega) (by omega), q2]
      have r2 : rd (τ 40) 8 (nI i) = some (nI q) := by rw [rd_n (by omega) (by omega), q3]
      have r3 : rd (σ 17) 8 (nI i) = some (nI (bs g 8)) := by rw [rd_n (by omega) (by omega), g1]
      have r4 : rd (τ 41) 8 (nI i) = some (nI (bs g 8)) := by rw [rd_n (by omega) (by omega), g2]
      have r5 : nI i + (1 : Int32) = nI (i + 1) := nI_1 i
      rw [if_neg (nI_ge hi (by omega)), if_neg (nI_ge hi (by omega)), if_neg one0]
      unfold X7_bit
      simp only [r1, r2, r3, r4, r5, bd_s, lt_e, or_n]
      have ha' : a ||| q < 512 := Nat.or_lt_two_pow (n := 9) ha q1
      by_cases c : (ishr (nI m) (nI i) &&& (1 : Int32)) = 1
      · rw [if_pos c, if_pos c]
        by_cases d : (nI (bs g 8) &&& nI m) = 0
        · simp only [if_pos d, bd_s]
          exact ih (i + 1) _ (by omega) (by omega) ha'
        · simp only [if_neg d, bd_s]
          refine Or.inl ⟨trivial, ?_⟩
          cases f with
          | zero => omega
          | succ f =>
            rw [X8_tellCover_L3_s, if_pos rfl]
            split
            · exact ⟨_, _, rfl⟩
            · exact ⟨_, _, rfl⟩
      · rw [if_neg c, if_neg c]
        simp only [bd_s]
        exact ih (i + 1) _ (by omega) (by omega) ha
theorem coL2 {σ τ : St} {st : Nat} {K : Nat → Bool} {x1 : Int32} (h8 : st ≤ 8) (z1 : σ 15 2 = nI st) (z2 : τ 29 15 = nI st) (hs : ∀ i, i < st → ∃ q, q < 512 ∧ σ 16 i = nI q ∧ τ 40 i = nI q) (hc : ∀ i, i < 8 → ∃ g : Nat → Bool, σ 17 i = nI (bs g 8) ∧ τ 41 i = nI (bs g 8)) : ∀ (f i : Nat) (b k : Int32), i ≤ 2 ^ st → 2 ^ st < f + i → ((k = -1 ∧ b = 9) ∨ ∃ m, m < 256 ∧ k = nI m ∧ b = J6_bitCount_0f7a4 (nI m)) → ∃ b' k' j, X5_fewestFor_L1 f σ (nI (bs K 9)) b k (nI i) = some (b', k', j) ∧ X8_tellCover_L2 f τ x1 (nI (bs K 9)) k (nI i) = some (k', j) ∧ (k' = -1 ∨ ∃ m, m < 256 ∧ k' = nI m) := by
  have hpw : 2 ^ st ≤ 256 := Nat.pow_le_pow_right (n := 2) (j := 8) (by decide) h8
  intro f
  induction f with
  | zero => intro i b k h1 h2; omega
  | succ f ih =>
    intro i b k h1 h2 hk
    rw [X5_fewestFor_L1_s, X8_tellCover_L2_s, z1, z2, shl1 st (by omega)]
    by_cases e : i = 2 ^ st
    · rw [← e, if_pos (nI_le (Nat.le_refl _) (by omega)), if_pos (nI_le (Nat.le_refl _) (by omega))]
      refine ⟨b, k, _, rfl, rfl, ?_⟩
      rcases hk with ⟨q, -⟩ | ⟨m, q1, q2, -⟩
      · exact Or.inl q
      · exact Or.inr ⟨m, q1, q2⟩
    · have hi : i < 2 ^ st := by omega
      have r5 : nI i + (1 : Int32) = nI (i + 1) := nI_1 i
      rw [if_neg (nI_ge hi (by omega)), if_neg (nI_ge hi (by omega))]
      simp only [lt_e, r5]
      have hr : (if k = (-1 : Int32) then some (1 : Int32) else bd (X8_ones (nI i)) fun v11 => bd (X8_ones k) fun v12 => if v12 ≤ v11 then some (0 : Int32) else some 1) = some (if b ≤ J6_bitCount_0f7a4 (nI i) then 0 else 1) := by
        rcases hk with ⟨q, q2⟩ | ⟨m, q1, q2, q3⟩
        · rw [if_pos q, q2, if_neg (bc8 i (by omega))]
        · rw [q2, if_neg (n1_ne (by omega)), ones_e i (by omega), bd_s, ones_e m q1, bd_s, q3]
          split <;> rfl
      rw [hr, bd_s]
      by_cases c : b ≤ J6_bitCount_0f7a4 (nI i)
      · rw [if_pos c, if_pos c, bd_s]
        have h0 : ∃ p q, X8_tellCover_L3 10000 τ x1 (nI (bs K 9)) k (nI i) 0 0 0 = some (p, 0, q) := by
          rw [X8_tellCover_L3_s, if_pos (show (0 : Int32) = 0 from rfl)]
          split
          · exact ⟨_, _, rfl⟩
          · exact ⟨_, _, rfl⟩
        obtain ⟨p, q, h0⟩ := h0
        rw [h0, bd_s]
        simp only [if_true]
        exact ih (i + 1) b k (by omega) (by omega) hk
      · rw [if_neg c, if_neg c]
        have hf : (k = -1 ∧ b = 9) ∨ ∃ m, m < 256 ∧ k = nI m ∧ b = J6_bitCount_0f7a4 (nI m) := hk
        unfold X5_canBeToldBy
        rcases coL3 (x1 := x1) (x2 := nI (bs K 9)) (x3 := k) (u2 := nI (bs K 9)) h8 (show i < 256 by omega) z1 z2 hs hc 10000 0 0 (Nat.zero_le _) (by omega) (by omega) with ⟨g1, p, q, g2⟩ | ⟨a, a1, g1, g2⟩
        · change X5_canBeToldBy_L1 10000 σ (nI i) (nI (bs K 9)) 0 0 = _ at g1
          change X8_tellCover_L3 10000 τ x1 (nI (bs K 9)) k (nI i) 0 1 0 = _ at g2
          rw [g1, g2, bd_s, bd_s]
          simp only [Sum.elim_inl, bd_s, if_true]
          exact ih (i + 1) b k (by omega) (by omega) hk
        · change X5_canBeToldBy_L1 10000 σ (nI i) (nI (bs K 9)) 0 0 = _ at g1
          change X8_tellCover_L3 10000 τ x1 (nI (bs K 9)) k (nI i) 0 1 0 = _ at g2
          rw [g1, g2, bd_s, bd_s]
          have ea : a = bs (fun i => a.testBit i) 9 := bs_eq a1 (fun i _ => rfl)
          have hsub := sub_iff (f := K) (g := fun i => a.testBit i)
          rw [← ea] at hsub
          simp only [Sum.elim_inr, if_neg one0]
          by_cases d : (nI a &&& nI (bs K 9)) = nI (bs K 9)
          · rw [if_pos d, if_pos (hsub.mp d), bd_s, if_neg one0, bd_s]
            exact ih (i + 1) _ (nI i) (by omega) (by omega) (Or.inr ⟨i, by omega, rfl, rfl⟩)
          · rw [if_neg d, if_neg (fun z => d (hsub.mpr z)), bd_s, if_pos rfl, bd_s]
            exact ih (i + 1) b k (by omega) (by omega) hk
theorem coL1 {τ : St} {n : Nat} {K : Nat → Bool} {w : Nat → Int32} {v : Nat → Nat} {x1 : Int32} (hn : τ 29 0 = nI n) (h9 : n ≤ 9) (hw : ∀ j, j < n → w j = nI (v j) ∧ v j ≤ 10 ∧ (v j ≤ 9 ↔ K j = true)) : ∀ (f i : Nat), i ≤ n → n < f + i → X8_tellCover_L1 f (va_up τ 34 w) x1 (nI (bs (fun j => decide (j < i) && K j) 9)) (nI i) = some (nI (bs (fun j => decide (j < n) && K j) 9), nI n) := by
  intro f
  induction f with
  | zero => intro i h1 h2; omega
  | succ f ih =>
    intro i h1 h2
    rw [X8_tellCover_L1_s, vu_c (by decide), hn]
    by_cases e : i = n
    · subst e
      rw [if_pos (nI_le (Nat.le_refl _) (by omega))]
    · have hi : i < n := by omega
      obtain ⟨a1, a2, a3⟩ := hw i hi
      rw [if_neg (nI_ge hi (by omega)), vu_q, rd_n (by omega) (by omega), bd_s, a1, lt_e, show nI i + (1 : Int32) = nI (i + 1) from nI_1 i, ← ih (i + 1) (by omega) (by omega)]
      congr 1
      by_cases c : v i ≤ 9
      · rw [if_neg (show ¬ (10 : Int32) ≤ nI (v i) from nI_ge (b := 10) (by omega) (by omega)), set_n (by omega) (by omega)]
        congr 1
        apply bs_cong
        intro j hj
        by_cases ej : j = i
        · subst ej
          simp [a3.mp c]
        · have : (j < i) ↔ (j < i + 1) := by omega
          simp [ej, this]
      · have hk : K i = false := by
          cases h : K i
          · rfl
          · exact absurd (a3.mpr h) c
        rw [if_pos (show (10 : Int32) ≤ nI (v i) from nI_le (a := 10) (by omega) (by omega)), show (0 : Int32) = nI 0 from rfl, or_n, Nat.or_zero]
        congr 1
        apply bs_cong
        intro j hj
        by_cases ej : j = i
        · subst ej
          simp [hk]
        · have : (j < i) ↔ (j < i + 1) := by omega
          simp [this]
theorem cover_t {σ τ : St} {n : Nat} {kd by_ td : Nat → Nat} {S : Nat → Nat → Nat → Bool} (I : IA σ τ n kd by_ td S) {x : Int32} (hx : 0 ≤ x.toInt ∧ x.toInt ≤ 1) : ∃ (r : Int32) (τ' : St), X7_cover σ x = some r ∧ X8_tellCover τ x = some (r, τ') ∧ IA σ τ' n kd by_ td S := by
  obtain ⟨hQ, -, ⟨hn', -⟩, hW, -, -, ⟨st, h8, z1, z2, hs, hc⟩, -⟩ := id I
  have h9 := hQ.1
  obtain ⟨w, v, e1, e2⟩ := rk_e I
  have k1 := coL1 (K := KN n kd td S 9) (x1 := x) hn' h9 (fun j hj => by
    obtain ⟨q1, q2, q3⟩ := e2 j hj
    exact ⟨q1, q2, kn_of q3 (by omega)⟩) 10000 0 (Nat.zero_le _) (by omega)
  have kz : bs (fun j => decide (j < 0) && KN n kd td S 9 j) 9 = 0 := bs_zero (fun i _ => by simp)
  have kn' : bs (fun j => decide (j < n) && KN n kd td S 9 j) 9 = bs (KN n kd td S 9) 9 := bs_cong (fun i _ => by
    by_cases c : i < n
    · simp [c]
    · have : KN n kd td S 9 i = false := kn_out hQ (by omega) _ _
      simp [c, this])
  rw [kz, kn'] at k1
  change X8_tellCover_L1 10000 _ x 0 0 = _ at k1
  have hpw : 2 ^ st ≤ 256 := Nat.pow_le_pow_right (n := 2) (j := 8) (by decide) h8
  obtain ⟨b', k', j, f1, f2, f3⟩ := coL2 (σ := σ) (τ := va_up τ 34 w) (K := KN n kd td S 9) (x1 := x) h8 z1 z2 hs hc 10000 0 9 (-1) (Nat.zero_le _) (by omega) (Or.inl ⟨rfl, rfl⟩)
  change X5_fewestFor_L1 10000 σ _ 9 (-1) 0 = _ at f1
  change X8_tellCover_L2 10000 _ x _ (-1) 0 = _ at f2
  have hon : X6_on σ (9 : Int32) = some (nI (bs (KN n kd td S 9) 9)) := by
    unfold X6_on
    rw [if_neg (show ¬ (9 : Int32) < 1 by decide), if_neg (show ¬ (9 : Int32) < 9 by decide), show (9 : Int32) = nI 9 from rfl, rd_n (by omega) (by omega), bd_s, hW 9 (by omega) (by omega)]
  have hfew : X5_fewestFor σ (nI (bs (KN n kd td S 9) 9)) = some k' := by
    unfold X5_fewestFor
    rw [f1, bd_s]
  have hM : X8_tellCover τ x = if k' = -1 then some (k', va_up τ 34 w) else if x = 1 then some (k', va_up τ 34 w) else bd (X8_ones k') fun v28 => some (v28, va_up τ 34 w) := by
    unfold X8_tellCover
    rw [e1, bd_s, k1, bd_s]
    dsimp only
    rw [f2, bd_s]
  rw [hM]
  unfold X7_cover
  rw [hon, bd_s, hfew, bd_s]
  obtain ⟨t, -, t2, rfl⟩ := of_rng (lo := 0) (hi := 1) (by omega) hx.1 hx.2
  rcases f3 with f3 | ⟨m, m1, m2⟩
  · refine ⟨-1, va_up τ 34 w, ?_, ?_, IA_34 I⟩
    · rw [if_pos f3]
      rcases (by omega : t = 0 ∨ t = 1) with q | q <;> subst q
      · rw [if_pos (show nI 0 = (0 : Int32) from rfl)]
      · rw [if_neg (show ¬ nI 1 = (0 : Int32) by decide), if_pos (show nI 1 = (1 : Int32) from rfl)]
    · rw [if_pos f3, f3]
  · subst m2
    rw [if_neg (n1_ne (by omega)), if_neg (n1_ne (by omega))]
    rcases (by omega : t = 0 ∨ t = 1) with q | q <;> subst q
    · refine ⟨J6_bitCount_0f7a4 (nI m), va_up τ 34 w, ?_, ?_, IA_34 I⟩
      · rw [if_pos (show nI 0 = (0 : Int32) from rfl), if_pos (show nI 0 = (0 : Int32) from rfl), lt_e]
      · rw [if_neg (show ¬ nI 0 = (1 : Int32) by decide), ones_e m m1, bd_s]
    · refine ⟨nI m, va_up τ 34 w, ?_, ?_, IA_34 I⟩
      · rw [if_neg (show ¬ nI 1 = (0 : Int32) by decide), if_neg (show ¬ nI 1 = (0 : Int32) by decide), if_pos (show nI 1 = (1 : Int32) from rfl)]
      · rw [if_pos (show nI 1 = (1 : Int32) from rfl)]
theorem sim_cover : Sim_cover Inv := by
  intro σ τ x1 I
  obtain ⟨n, kd, by_, td, S, J⟩ := id I
  by_cases c : 0 ≤ x1.toInt ∧ x1.toInt ≤ 1
  · obtain ⟨r, τ', e1, e2, e3⟩ := cover_t J c
    refine ⟨r, τ', e1, ?_, n, kd, by_, td, S, e3⟩
    unfold X8_cover
    rw [lt_e, partM_e, if_pos c, if_neg one0, e2, bd_s]
  · refine ⟨-102, τ, ?_, ?_, I⟩
    · unfold X7_cover
      rw [if_neg (fun z => c (by rw [z]; decide)), if_neg (fun z => c (by rw [z]; decide))]
    · unfold X8_cover
      rw [lt_e, partM_e, if_neg c, if_pos rfl]
