theorem knC {σ : St} {n g d : Nat} {kd td : Nat → Nat} {S : Nat → Nat → Nat → Bool} (hW : WC (σ 7) n kd td S) (hg : g < 9) (h1 : 1 ≤ d) (h2 : d ≤ 9) : X6_knows σ (nI g) (nI d) = some (if KN n kd td S d g then 1 else 0) := by
  unfold X6_knows
  rw [if_neg (show ¬ nI d < (1 : Int32) from nI_nlt (b := 1) h1 (by omega)), if_neg (show ¬ (9 : Int32) < nI d from nI_nlt (a := 9) h2 (by omega)), rd_n (by omega) (by omega), bd_s, hW d h1 h2, bit_bs (by omega) (by omega)]
  cases KN n kd td S d g <;> rfl

theorem knP {σ : St} {n g d : Nat} {kd td : Nat → Nat} {S : Nat → Nat → Nat → Bool} (hW : WC (σ 28) n kd td S) (hg : g < 9) (h1 : 1 ≤ d) (h2 : d ≤ 9) : X6_knows_27 σ (nI g) (nI d) = some (if KN n kd td S d g then 1 else 0) := by
  unfold X6_knows_27
  rw [if_neg (show ¬ nI d < (1 : Int32) from nI_nlt (b := 1) h1 (by omega)), if_neg (show ¬ (9 : Int32) < nI d from nI_nlt (a := 9) h2 (by omega)), rd_n (by omega) (by omega), bd_s, hW d h1 h2, bit_bs (by omega) (by omega)]
  cases KN n kd td S d g <;> rfl

theorem sinceL {σ : St} {n g v : Nat} {kd td : Nat → Nat} {S : Nat → Nat → Nat → Bool} (hW : WC (σ 7) n kd td S) (hg : g < 9) (hv : v ≤ 10) (hk : kv n (auN n kd) td S 9 g v) : ∀ (f d : Nat), 1 ≤ d → d ≤ v → 10 < f + d → X6_since_L1 f σ (nI g) (nI d) = some (if v ≤ 9 then Sum.inl (nI v) else Sum.inr (nI 10)) := by
  intro f
  induction f with
  | zero => intro d h1 h2 h3; omega
  | succ f ih =>
    intro d h1 h2 h3
    rw [X6_since_L1_s]
    by_cases e : d = 10
    · have e2 : v = 10 := by omega
      rw [if_pos (by rw [e]; decide), if_neg (by omega), e]
    · rw [if_neg (show ¬ (9 : Int32) < nI d from nI_nlt (a := 9) (by omega) (by omega)), knC hW hg h1 (by omega), bd_s]
      have hd := kn_of hk (d := d) (by omega)
      by_cases c : v ≤ d
      · have e3 : d = v := by omega
        have e4 : KN n kd td S d g = true := hd.mp c
        rw [e4, if_neg (show ¬ (if true = true then (1 : Int32) else 0) = 0 by decide), if_pos (by omega), e3]
      · have e4 : KN n kd td S d g = false := by
          cases h : KN n kd td S d g
          · rfl
          · exact absurd (hd.mpr h) c
        rw [e4, if_pos (show (if false = true then (1 : Int32) else 0) = 0 by decide), show nI d + (1 : Int32) = nI (d + 1) from nI_1 d, ih (d + 1) (by omega) (by omega) (by omega)]
theorem kv_pos {n g v : Nat} {au : Nat → Bool} {td : Nat → Nat} {S : Nat → Nat → Nat → Bool} (h : kv n au td S 9 g v) : 1 ≤ v := by
  rcases Nat.lt_or_ge 0 v with q | q
  · exact q
  · have := (h.1 0 (by omega)).mp (by omega)
    cases this
theorem about_t {σ τ : St} {n g : Nat} {kd by_ td : Nat → Nat} {S : Nat → Nat → Nat → Bool} (I : IA σ τ n kd by_ td S) (hg : g < n) (x : Int32) : ∃ (r : Int32) (τ' : St), X7_about σ (nI g) x = some r ∧ X8_tellGuest τ (nI g) x = some (r, τ') ∧ IA σ τ' n kd by_ td S := by
  obtain ⟨hQ, ⟨hn, ha, hkk, hbb, htt, hss⟩, ⟨hn', hk', hb', ht', hs'⟩, hW, -⟩ := id I
  have h9 := hQ.1
  unfold X7_about X8_tellGuest
  rw [lt_e, hasC hn h9, toI_n (by omega), if_pos (show (0 : Int) ≤ (g : Int) ∧ (g : Int) < n by omega), if_neg one0]
  by_cases c0 : x = (0 : Int32)
  · rw [if_pos c0, if_pos c0, kind_e hn h9 hkk hg, bd_s, rd_n (by omega) (by omega), bd_s, hk' g hg]
    exact ⟨_, _, rfl, rfl, I⟩
  · rw [if_neg c0, if_neg c0]
    by_cases c1 : x = (1 : Int32)
    · rw [if_pos c1, if_pos c1, rd_n (by omega) (by omega), bd_s, hb' g hg]
      unfold X0_byOf
      rw [lt_e, hasC hn h9, toI_n (by omega), if_pos (show (0 : Int) ≤ (g : Int) ∧ (g : Int) < n by omega), if_neg one0, rd_n (by omega) (by omega), bd_s, bd_s, hbb g hg]
      exact ⟨_, _, rfl, rfl, I⟩
    · rw [if_neg c1, if_neg c1]
      by_cases c2 : x = (2 : Int32)
      · rw [if_pos c2, if_pos c2, rd_n (by omega) (by omega), bd_s, ht' g (by omega)]
        unfold X0_toldOf
        rw [lt_e, hasC hn h9, toI_n (by omega), if_pos (show (0 : Int) ≤ (g : Int) ∧ (g : Int) < n by omega), if_neg one0, rd_n (by omega) (by omega), bd_s, bd_s, htt g (by omega)]
        exact ⟨_, _, rfl, rfl, I⟩
      · rw [if_neg c2, if_neg c2]
        by_cases c3 : x = (3 : Int32)
        · rw [if_pos c3, if_pos c3]
          obtain ⟨w, v, e1, e2⟩ := rk_e I
          obtain ⟨a1, a2, a3⟩ := e2 g hg
          have hp := kv_pos a3
          have hs := sinceL hW (show g < 9 by omega) a2 a3 10000 1 (Nat.le_refl _) hp (by omega)
          change X6_since_L1 10000 σ (nI g) 1 = _ at hs
          unfold X6_since
          rw [e1, bd_s, vu_q, rd_n (by omega) (by omega), bd_s, a1, hs, bd_s]
          by_cases c9 : v g ≤ 9
          · rw [if_pos c9, if_neg (show ¬ nI (v g) = (10 : Int32) from fun z => by have := (nI_eq (b := 10) (by omega) (by omega)).mp z; omega)]
            exact ⟨_, _, rfl, rfl, IA_34 I⟩
          · rw [if_neg c9, if_pos (show nI (v g) = (10 : Int32) from by rw [show v g = 10 by omega]; rfl)]
            exact ⟨_, _, rfl, rfl, IA_34 I⟩
        · rw [if_neg c3, if_neg c3]
          exact ⟨_, _, rfl, rfl, I⟩
theorem sim_about : Sim_about Inv := by
  intro σ τ x1 x2 I
  obtain ⟨n, kd, by_, td, S, J⟩ := id I
  obtain ⟨hQ, ⟨hn, -⟩, ⟨hn', -⟩, -⟩ := id J
  have h9 := hQ.1
  by_cases c : 0 ≤ x1.toInt ∧ x1.toInt < n
  · obtain ⟨g, hg, rfl⟩ := of_has (by omega) c
    obtain ⟨r, τ', e1, e2, e3⟩ := about_t J hg x2
    refine ⟨r, τ', e1, ?_, n, kd, by_, td, S, e3⟩
    unfold X8_about
    rw [lt_e, hasM hn' h9, if_pos c, if_neg one0, e2, bd_s]
  · refine ⟨-101, τ, ?_, ?_, I⟩
    · unfold X7_about
      rw [lt_e, hasC hn h9, if_neg c, if_pos rfl]
    · unfold X8_about
      rw [lt_e, hasM hn' h9, if_neg c, if_pos rfl]
/-! right -/
def bad (n : Nat) (kd by_ td : Nat → Nat) (S : Nat → Nat → Nat → Bool) (i : Nat) : Bool := decide (kd i = 2 ∨ kd i = 4) && !(KN n kd td S (by_ i) i)
theorem rightC {σ τ : St} {n : Nat} {kd by_ td : Nat → Nat} {S : Nat → Nat → Nat → Bool} (I : IA σ τ n kd by_ td S) : ∀ (f i : Nat), i ≤ n → n < f + i → ex (bad n kd by_ td S) i = false → X7_right_L1 f σ (nI i) = some (if ex (bad n kd by_ td S) n then Sum.inl 0 else Sum.inr (nI n)) := by
  obtain ⟨⟨h9, q1, q2, -⟩, ⟨hn, ha, hkk, hbb, -⟩, -, hW, -⟩ := I
  intro f
  induction f with
  | zero => intro i h1 h2; omega
  | succ f ih =>
    intro i h1 h2 h3
    rw [X7_right_L1_s, lt_e]
    unfold X0_size
    rw [hn]
    by_cases e : i = n
    · subst e
      rw [if_pos (nI_le (Nat.le_refl _) (by omega)), h3]
      rfl
    · have hi : i < n := by omega
      have key : ∀ k, k < 5 → (if 2 = 0 ∨ 2 = k ∨ (2 = 2 ∧ k = 4) then (1 : Int32) else 0) = if k = 2 ∨ k = 4 then 1 else 0 := by decide
      rw [if_neg (nI_ge hi (by omega)), show (2 : Int32) = nI 2 from rfl, isA_e hn h9 hkk q1 hi (by omega), bd_s, key (kd i) (by have := q1 i hi; omega)]
      by_cases c : kd i = 2 ∨ kd i = 4
      · obtain ⟨b1, b2⟩ := q2 i hi
        have b3 := b2 c
        rw [if_pos c, if_neg one0]
        unfold X0_byOf
        rw [lt_e, hasC hn h9, toI_n (by omega), if_pos (show (0 : Int) ≤ (i : Int) ∧ (i : Int) < n by omega), if_neg one0, rd_n (by omega) (by omega), bd_s, bd_s, hbb i hi, knC hW (by omega) b3 (by omega), bd_s]
        cases hk : KN n kd td S (by_ i) i
        · have hb : ex (bad n kd by_ td S) n = true := ex_iff.mpr ⟨i, hi, by simp [bad, c, hk]⟩
          rw [hb]
          rfl
        · rw [if_neg (show ¬ (if true = true then (1 : Int32) else 0) = 0 by decide), show nI i + (1 : Int32) = nI (i + 1) from nI_1 i]
          exact ih (i + 1) (by omega) (by omega) (by show (ex _ i || bad n kd by_ td S i) = false; rw [h3]; simp [bad, hk])
      · rw [if_neg c, if_pos rfl, show nI i + (1 : Int32) = nI (i + 1) from nI_1 i]
        exact ih (i + 1) (by omega) (by omega) (by show (ex _ i || bad n kd by_ td S i) = false; rw [h3]; simp [bad, c])
theorem rightM {σ τ : St} {n : Nat} {kd by_ td : Nat → Nat} {S : Nat → Nat → Nat → Bool} {w : Nat → Int32} {v : Nat → Nat} (I : IA σ τ n kd by_ td S) (hw : ∀ j, j < n → w j = nI (v j) ∧ v j ≤ 10 ∧ kv n (auN n kd) td S 9 j (v j)) : ∀ (f i : Nat), i ≤ n → n < f + i → X8_rightNow_L1 f (va_up τ 34 w) (if ex (bad n kd by_ td S) i then 0 else 1) (nI i) = some (if ex (bad n kd by_ td S) n then 0 else 1, nI n) := by
  obtain ⟨⟨h9, q1, q2, -⟩, -, ⟨hn', hk', hb', -⟩, -⟩ := I
  intro f
  induction f with
  | zero => intro i h1 h2; omega
  | succ f ih =>
    intro i h1 h2
    rw [X8_rightNow_L1_s, vu_c (by decide), hn']
    by_cases e : i = n
    · subst e
      rw [if_pos (nI_le (Nat.le_refl _) (by omega))]
    · have hi : i < n := by omega
      obtain ⟨a1, a2, a3⟩ := hw i hi
      have hex : ex (bad n kd by_ td S) (i + 1) = (ex (bad n kd by_ td S) i || bad n kd by_ td S i) := rfl
      rw [if_neg (nI_ge hi (by omega)), vu_c (show (30 : Nat) ≠ 34 by decide), vu_q, vu_c (show (31 : Nat) ≠ 34 by decide), rd_n (by omega) (by omega), rd_n (by omega) (by omega), rd_n (by omega) (by omega), hk' i hi, hb' i hi, a1, show nI i + (1 : Int32) = nI (i + 1) from nI_1 i, ← ih (i + 1) (by omega) (by omega), hex]
      cases hx : ex (bad n kd by_ td S) i
      · simp only [Bool.false_or, bd_s, lt_e, need_e (kd i) (q1 i hi)]
        rw [if_neg (show ¬ (if false = true then (0 : Int32) else 1) = 0 by decide)]
        by_cases c : kd i = 2 ∨ kd i = 4
        · obtain ⟨b1, b2⟩ := q2 i hi
          have b3 := b2 c
          have hd := kn_of a3 (d := by_ i) (by omega)
          rw [if_pos c, if_neg one0]
          by_cases c2 : v i ≤ by_ i
          · rw [if_neg (nI_nlt c2 (by omega)), bd_s]
            have hk : KN n kd td S (by_ i) i = true := hd.mp c2
            simp [bad, hk]
          · rw [if_pos (nI_lt (by omega) (by omega)), bd_s]
            have hk : KN n kd td S (by_ i) i = false := by
              cases h : KN n kd td S (by_ i) i
              · rfl
              · exact absurd (hd.mpr h) c2
            simp [bad, hk, c]
        · rw [if_neg c, if_pos rfl, bd_s]
          simp [bad, c]
      · rw [if_pos (show (if true = true then (0 : Int32) else 1) = 0 by decide), bd_s]
        simp
theorem right_t {σ τ : St} {n : Nat} {kd by_ td : Nat → Nat} {S : Nat → Nat → Nat → Bool} (I : IA σ τ n kd by_ td S) : ∃ (r : Int32) (τ' : St), X7_right σ = some r ∧ X8_rightNow τ = some (r, τ') ∧ IA σ τ' n kd by_ td S := by
  obtain ⟨w, v, e1, e2⟩ := rk_e I
  have c1 := rightC I 10000 0 (Nat.zero_le _) (by have := I.1.1; omega) rfl
  have c2 := rightM I e2 10000 0 (Nat.zero_le _) (by have := I.1.1; omega)
  change X7_right_L1 10000 σ 0 = _ at c1
  change X8_rightNow_L1 10000 _ 1 0 = _ at c2
  refine ⟨if ex (bad n kd by_ td S) n then 0 else 1, va_up τ 34 w, ?_, ?_, IA_34 I⟩
  · unfold X7_right
    rw [c1, bd_s]
    cases ex (bad n kd by_ td S) n <;> rfl
  · unfold X8_rightNow
    rw [e1, bd_s, c2, bd_s]
    cases ex (bad n kd by_ td S) n <;> rfl
theorem sim_right : Sim_right Inv := by
  intro σ τ I
  obtain ⟨n, kd, by_, td, S, J⟩ := I
  obtain ⟨r, τ', e1, e2, e3⟩ := right_t J
  refine ⟨r, τ', e1, ?_, n, kd, by_, td, S, e3⟩
  unfold X8_right
  rw [e2, bd_s]
/-! how many know -/
def ct (p : Nat → Bool) : Nat → Nat
  | 0 => 0
  | k + 1 => ct p k + (if p k then 1 else 0)
theorem ct_cong {p q : Nat → Bool} : ∀ {k : Nat}, (∀ i, i < k → p i = q i) → ct p k = ct q k
  | 0, _ => rfl
  | k + 1, h => by unfold ct; rw [ct_cong (fun i hi => h i (by omega)), h k (by omega)]
theorem ct_le (p : Nat → Bool) : ∀ k, ct p k ≤ k
  | 0 => Nat.le_refl _
  | k + 1 => by
    have := ct_le p k
    unfold ct
    split <;> omega
theorem ct_more {p : Nat → Bool} {n : Nat} : ∀ k, (∀ i, n ≤ i → p i = false) → ct p (n + k) = ct p n
  | 0, _ => rfl
  | k + 1, h => by
    show ct p (n + k) + (if p (n + k) = true then 1 else 0) = _
    rw [ct_more k h, h (n + k) (by omega)]
    rfl
theorem bc_all : ∀ m, m < 512 → J6_bitCount_0f7a4 (nI m) = nI (ct (fun i => m.testBit i) 9) := by decide +kernel
theorem bc_e (f : Nat → Bool) : J6_bitCount_0f7a4 (nI (bs f 9)) = nI (ct f 9) := by
  rw [bc_all _ (bs9 f)]
  congr 1
  apply ct_cong
  intro i hi
  rw [bs_tb]
  simp [hi]
theorem hmo_e {σ : St} {n : Nat} {kd by_ td : Nat → Nat} {S : Nat → Nat → Nat → Bool} (hQ : GQ n kd by_ td S) (hW : WC (σ 7) n kd td S) : X6_howManyOn σ (9 : Int32) = some (nI (ct (KN n kd td S 9) n)) := by
  unfold X6_howManyOn X6_on
  rw [if_neg (by decide), if_neg (by decide), show (9 : Int32) = nI 9 from rfl, rd_n (by omega) (by omega), bd_s, bd_s, lt_e, hW 9 (by omega) (by omega), bc_e]
  congr 2
  have h9 := hQ.1
  rw [show (9 : Nat) = n + (9 - n) by omega]
  have h : ct (KN n kd td S (n + (9 - n))) (n + (9 - n)) = ct (KN n kd td S (n + (9 - n))) n := ct_more (9 - n) (fun i hi => kn_out hQ hi _ _)
  exact h
theorem kmL {σ τ : St} {n : Nat} {kd by_ td : Nat → Nat} {S : Nat → Nat → Nat → Bool} {w : Nat → Int32} {v : Nat → Nat} (I : IA σ τ n kd by_ td S) (hw : ∀ j, j < n → w j = nI (v j) ∧ v j ≤ 10 ∧ kv n (auN n kd) td S 9 j (v j)) : ∀ (f i : Nat), i ≤ n → n < f + i → X8_knowMany_L1 f (va_up τ 34 w) (nI (ct (KN n kd td S 9) i)) (nI i) = some (nI (ct (KN n kd td S 9) n), nI n) := by
  obtain ⟨⟨h9, -⟩, -, ⟨hn', -⟩, -⟩ := I
  intro f
  induction f with
  | zero => intro i h1 h2; omega
  | succ f ih =>
    intro i h1 h2
    rw [X8_knowMany_L1_s, vu_c (by decide), hn']
    by_cases e : i = n
    · subst e
      rw [if_pos (nI_le (Nat.le_refl _) (by omega))]
    · have hi : i < n := by omega
      obtain ⟨a1, a2, a3⟩ := hw i hi
      have hd := kn_of a3 (d := 9) (by omega)
      rw [if_neg (nI_ge hi (by omega)), vu_q, rd_n (by omega) (by omega), bd_s, a1, lt_e, show nI i + (1 : Int32) = nI (i + 1) from nI_1 i, ← ih (i + 1) (by omega) (by omega)]
      show X8_knowMany_L1 f _ _ _ = X8_knowMany_L1 f _ (nI (ct _ i + if KN n kd td S 9 i = true then 1 else 0)) _
      by_cases c : v i ≤ 9
      · rw [if_neg (show ¬ (10 : Int32) ≤ nI (v i) from nI_ge (b := 10) (by omega) (by omega)), if_pos (hd.mp c), show nI (ct (KN n kd td S 9) i) + (1 : Int32) = _ from nI_1 _]
      · rw [if_pos (show (10 : Int32) ≤ nI (v i) from nI_le (a := 10) (by omega) (by omega)), if_neg (fun z => c (hd.mpr z)), show nI (ct (KN n kd td S 9) i) + (0 : Int32) = _ from nI_add _ 0]
theorem km_e {σ τ : St} {n : Nat} {kd by_ td : Nat → Nat} {S : Nat → Nat → Nat → Bool} (I : IA σ τ n kd by_ td S) : ∃ τ', X8_knowMany τ = some (nI (ct (KN n kd td S 9) n), τ') ∧ IA σ τ' n kd by_ td S := by
  obtain ⟨w, v, e1, e2⟩ := rk_e I
  have c2 := kmL I e2 10000 0 (Nat.zero_le _) (by have := I.1.1; omega)
  change X8_knowMany_L1 10000 _ 0 0 = _ at c2
  refine ⟨va_up τ 34 w, ?_, IA_34 I⟩
  unfold X8_knowMany
  rw [e1, bd_s, c2, bd_s]
theorem count_t {σ τ : St} {n : Nat} {kd by_ td : Nat → Nat} {S : Nat → Nat → Nat → Bool} (I : IA σ τ n kd by_ td S) (x : Int32) : ∃ (r : Int32) (τ' : St), X7_count σ x = some r ∧ X8_countOf τ x = some (r, τ') ∧ IA σ τ' n kd by_ td S := by
  obtain ⟨hQ, ⟨hn, -⟩, ⟨hn', -⟩, hW, ⟨pm, p1, p2, p3, -⟩, ⟨mt, -, -, -, m1, m2, m3, -⟩, ⟨st, s1, s2, s3, -⟩, ⟨sg, z1, z2, z3, -⟩, -, h9, k, k1, k2, k3⟩ := id I
  unfold X7_count X8_countOf
  by_cases c0 : x = (0 : Int32)
  · rw [if_pos c0, if_pos c0]
    exact ⟨nI n, τ, by rw [← hn]; rfl, by rw [hn'], I⟩
  rw [if_neg c0, if_neg c0]
  by_cases c1 : x = (1 : Int32)
  · rw [if_pos c1, if_pos c1]
    exact ⟨nI mt, τ, by rw [← m2]; rfl, by rw [m3], I⟩
  rw [if_neg c1, if_neg c1]
  by_cases c2 : x = (2 : Int32)
  · rw [if_pos c2, if_pos c2]
    exact ⟨nI st, τ, by rw [← s2]; rfl, by rw [s3], I⟩
  rw [if_neg c2, if_neg c2]
  by_cases c3 : x = (3 : Int32)
  · rw [if_pos c3, if_pos c3]
    exact ⟨nI sg, τ, by rw [← z2]; rfl, by rw [z3], I⟩
  rw [if_neg c3, if_neg c3]
  by_cases c4 : x = (4 : Int32)
  · rw [if_pos c4, if_pos c4]
    obtain ⟨τ', e1, e2⟩ := km_e I
    exact ⟨_, τ', by rw [hmo_e hQ hW, bd_s], by rw [e1, bd_s], e2⟩
  rw [if_neg c4, if_neg c4]
  by_cases c5 : x = (5 : Int32)
  · rw [if_pos c5, if_pos c5]
    exact ⟨nI pm, τ, by rw [← p2]; rfl, by rw [p3], I⟩
  rw [if_neg c5, if_neg c5]
  by_cases c6 : x = (6 : Int32)
  · rw [if_pos c6, if_pos c6]
    exact ⟨σ 0 9, τ, rfl, by rw [h9], I⟩
  rw [if_neg c6, if_neg c6]
  by_cases c7 : x = (7 : Int32)
  · rw [if_pos c7, if_pos c7]
    exact ⟨nI k, τ, by rw [k2], by rw [k3], I⟩
  rw [if_neg c7, if_neg c7]
  exact ⟨_, τ, rfl, rfl, I⟩
theorem sim_count : Sim_count Inv := by
  intro σ τ x1 I
  obtain ⟨n, kd, by_, td, S, J⟩ := I
  obtain ⟨r, τ', e1, e2, e3⟩ := count_t J x1
  refine ⟨r, τ', e1, ?_, n, kd, by_, td, S, e3⟩
  unfold X8_count
  rw [e2, bd_s]
