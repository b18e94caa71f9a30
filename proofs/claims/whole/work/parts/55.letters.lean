/-! letters -/
theorem sh63 : ∀ k, k < 64 → ((nI k).toInt64.toUInt64 &&& Int64.toUInt64 63) = UInt64.ofNat k := by decide +kernel
theorem lsh {a k : Nat} (ha : a < 2 ^ 64) (hk : k < 64) : lushr (lN a) (nI k) = lN (a / 2 ^ k) := by
  show ((UInt64.ofNat a) >>> ((nI k).toInt64.toUInt64 &&& Int64.toUInt64 63)).toInt64 = _
  rw [sh63 k hk]
  apply Int64.toBitVec_inj.1
  show ((UInt64.ofNat a) >>> (UInt64.ofNat k)).toBitVec = BitVec.ofNat 64 (a / 2 ^ k)
  apply BitVec.eq_of_toNat_eq
  have h1 : ((UInt64.ofNat a) >>> (UInt64.ofNat k)).toBitVec.toNat = (UInt64.ofNat a).toNat >>> ((UInt64.ofNat k).toNat % 64) := UInt64.toNat_shiftRight _ _
  have h2 : (UInt64.ofNat a).toNat = a := UInt64.toNat_ofNat_of_lt' ha
  have h3 : (UInt64.ofNat k).toNat = k := UInt64.toNat_ofNat_of_lt' (Nat.lt_of_lt_of_le hk (by decide))
  have h4 : a / 2 ^ k < 2 ^ 64 := Nat.lt_of_le_of_lt (Nat.div_le_self _ _) ha
  rw [h1, h2, h3, Nat.mod_eq_of_lt hk, Nat.shiftRight_eq_div_pow, BitVec.toNat_ofNat, Nat.mod_eq_of_lt h4]
theorem lof (x : Int64) : ∃ m, m < 2 ^ 64 ∧ x = lN m := by
  refine ⟨x.toBitVec.toNat, x.toBitVec.isLt, ?_⟩
  apply Int64.toBitVec_inj.1
  show x.toBitVec = BitVec.ofNat 64 x.toBitVec.toNat
  simp
theorem lby (m : Nat) : ((lN m &&& (255 : Int64)).toInt32) = nI (m % 256) := by
  have h : lN m &&& (255 : Int64) = lN (m % 256) := by
    apply Int64.toBitVec_inj.1
    show BitVec.ofNat 64 m &&& BitVec.ofNat 64 255 = BitVec.ofNat 64 (m % 256)
    rw [show m % 256 = m &&& 255 from (Nat.and_two_pow_sub_one_eq_mod m 8).symm]
    apply BitVec.eq_of_getLsbD_eq
    intro i hi
    simp [hi]
  rw [h, lN_i]
def byt (m k : Nat) : Nat := m / 2 ^ (8 * k) % 256
theorem code_e {m k : Nat} (hm : m < 2 ^ 64) (hk : k < 8) : X3_codeIn (lN m) (nI k) = nI (byt m k) := by
  unfold X3_codeIn byt
  rw [show (8 : Int32) = nI 8 from rfl, pk_mul, lsh hm (by omega), lby]
theorem lsh8 {m k : Nat} (hm : m < 2 ^ 64) : lushr (lN (m / 2 ^ (8 * k))) (8 : Int32) = lN (m / 2 ^ (8 * (k + 1))) := by
  have h4 : m / 2 ^ (8 * k) < 2 ^ 64 := Nat.lt_of_le_of_lt (Nat.div_le_self _ _) hm
  rw [show (8 : Int32) = nI 8 from rfl, lsh h4 (by omega), Nat.div_div_eq_div_mul, ← Nat.pow_add, show 8 * k + 8 = 8 * (k + 1) by omega]
theorem scZ {x : Int64} : ∀ (f k : Nat) (a : Int32) (y : Int64), k ≤ 8 → 8 < f + k → ∃ a' b c, X8_letters_L1 f x a 0 y (nI k) = some (a', 0, b, c) := by
  intro f
  induction f with
  | zero => intro k a y h1 h2; omega
  | succ f ih =>
    intro k a y h1 h2
    rw [X8_letters_L1_s]
    by_cases e : k = 8
    · subst e
      rw [if_pos (show (8 : Int32) ≤ nI 8 by decide)]
      exact ⟨_, _, _, rfl⟩
    · rw [if_neg (show ¬ (8 : Int32) ≤ nI k from nI_ge (b := 8) (by omega) (by omega)), show nI k + (1 : Int32) = nI (k + 1) from nI_1 k]
      simp only [lt_e, if_true]
      exact ih (k + 1) _ _ (by omega) (by omega)
theorem scL {m : Nat} {x : Int64} (hm : m < 2 ^ 64) : ∀ (f k c : Nat) (en : Bool), k ≤ 8 → 8 < f + k → (en = false → c = k) → (en = true → c < k) → (∀ j, j < c → 1 ≤ byt m j ∧ byt m j ≤ 126) →
    (X3_lettersIn_L1 f (lN m) (nI c) (if en then 1 else 0) (nI k) = some (Sum.inl (-1)) ∧ ∃ a b d, X8_letters_L1 f x (nI c) 1 (lN (m / 2 ^ (8 * k))) (nI k) = some (a, 0, b, d)) ∨
    ∃ c', c' ≤ 8 ∧ (∃ p q, X3_lettersIn_L1 f (lN m) (nI c) (if en then 1 else 0) (nI k) = some (Sum.inr (nI c', p, q))) ∧ (∃ p q, X8_letters_L1 f x (nI c) 1 (lN (m / 2 ^ (8 * k))) (nI k) = some (nI c', 1, p, q)) ∧ ∀ j, j < c' → 1 ≤ byt m j ∧ byt m j ≤ 126 := by
  intro f
  induction f with
  | zero => intro k c en h1 h2; omega
  | succ f ih =>
    intro k c en h1 h2 h3 h4 h5
    have hck : c ≤ k := by
      cases en
      · have := h3 rfl; omega
      · have := h4 rfl; omega
    rw [X3_lettersIn_L1_s, X8_letters_L1_s]
    by_cases e : k = 8
    · subst e
      rw [if_pos (show (8 : Int32) ≤ nI 8 by decide), if_pos (show (8 : Int32) ≤ nI 8 by decide)]
      exact Or.inr ⟨c, hck, ⟨_, _, rfl⟩, ⟨_, _, rfl⟩, h5⟩
    · have hk : k < 8 := by omega
      have hb : byt m k < 256 := Nat.mod_lt _ (by decide)
      rw [if_neg (show ¬ (8 : Int32) ≤ nI k from nI_ge (b := 8) (by omega) (by omega)), if_neg (show ¬ (8 : Int32) ≤ nI k from nI_ge (b := 8) (by omega) (by omega)), show nI k + (1 : Int32) = nI (k + 1) from nI_1 k, lby, show m / 2 ^ (8 * k) % 256 = byt m k from rfl, lsh8 hm, code_e hm hk]
      simp only [lt_e, if_neg one0]
      by_cases g : 126 < byt m k
      · rw [if_pos (show (126 : Int32) < nI (byt m k) from nI_lt (a := 126) g (by omega)), if_pos (show (126 : Int32) < nI (byt m k) from nI_lt (a := 126) g (by omega))]
        exact Or.inl ⟨rfl, scZ f (k + 1) _ _ (by omega) (by omega)⟩
      · rw [if_neg (show ¬ (126 : Int32) < nI (byt m k) from nI_nlt (a := 126) (by omega) (by omega)), if_neg (show ¬ (126 : Int32) < nI (byt m k) from nI_nlt (a := 126) (by omega) (by omega))]
        by_cases z : byt m k = 0
        · have hz : nI (byt m k) = (0 : Int32) := by rw [z]; rfl
          have hz2 : nI (byt m k) ≤ (0 : Int32) := by rw [z]; decide
          simp only [if_pos hz, if_pos hz2]
          rw [show nI c + (0 : Int32) = nI c from nI_add c 0]
          have := ih (k + 1) c true (by omega) (by omega) (fun q => by cases q) (fun _ => by omega) h5
          rw [if_pos rfl] at this
          cases en
          · rw [if_pos (show (if false = true then (1 : Int32) else 0) = 0 by decide)]
            exact this
          · rw [if_neg (show ¬ (if true = true then (1 : Int32) else 0) = 0 by decide)]
            exact this
        · have hz : ¬ nI (byt m k) = (0 : Int32) := fun q => z ((nI_eq (b := 0) (by omega) (by omega)).mp q)
          have hz2 : ¬ nI (byt m k) ≤ (0 : Int32) := nI_ge (a := 0) (by omega) (by omega)
          simp only [if_neg hz, if_neg hz2]
          cases en
          · have hc := h3 rfl
            subst hc
            rw [if_pos (show (if false = true then (1 : Int32) else 0) = 0 by decide), if_pos rfl, show nI c + (1 : Int32) = nI (c + 1) from nI_1 c]
            exact ih (c + 1) (c + 1) false (by omega) (by omega) (fun _ => rfl) (fun q => by cases q) (fun j hj => by
              by_cases ej : j = c
              · rw [ej]; omega
              · exact h5 j (by omega))
          · have hc := h4 rfl
            rw [if_neg (show ¬ (if true = true then (1 : Int32) else 0) = 0 by decide), if_neg (fun q => by have := (nI_eq (by omega) (by omega)).mp q; omega)]
            exact Or.inl ⟨rfl, scZ f (k + 1) _ _ (by omega) (by omega)⟩
theorem apL {n m c : Nat} {kd by_ td : Nat → Nat} {S : Nat → Nat → Nat → Bool} (hm : m < 2 ^ 64) (hc : c ≤ 8) (hb : ∀ j, j < c → 1 ≤ byt m j ∧ byt m j ≤ 126) : ∀ (f i pm : Nat) (σ τ : St), IA σ τ n kd by_ td S → σ 8 1 = nI pm → τ 29 7 = nI pm → pm + (c - i) ≤ 60 → i ≤ c → c < f + i → ∃ k k' σ' τ', X3_append_L1 f σ (lN m) (nI c) (nI i) = some (k, σ') ∧ X8_letters_L2 f τ (lN m) (nI c) (nI i) = some (k', τ') ∧ IA σ' τ' n kd by_ td S ∧ σ' 8 1 = nI (pm + (c - i)) ∧ τ' 29 7 = nI (pm + (c - i)) := by
  intro f
  induction f with
  | zero => intro i pm σ τ I a1 a2 a3 h1 h2; omega
  | succ f ih =>
    intro i pm σ τ I a1 a2 a3 h1 h2
    rw [X3_append_L1_s, X8_letters_L2_s]
    by_cases e : i = c
    · subst e
      rw [if_pos (nI_le (Nat.le_refl _) (by omega)), if_pos (nI_le (Nat.le_refl _) (by omega))]
      exact ⟨_, _, σ, τ, rfl, rfl, I, by rw [a1, Nat.sub_self, Nat.add_zero], by rw [a2, Nat.sub_self, Nat.add_zero]⟩
    · have hi : i < c := by omega
      obtain ⟨b1, b2⟩ := hb i hi
      rw [if_neg (nI_ge hi (by omega)), if_neg (nI_ge hi (by omega)), a1, a2, if_neg (show ¬ (60 : Int32) ≤ nI pm from nI_ge (b := 60) (by omega) (by omega)), lt_e, wa_n (by omega) (by omega), bd_s, wa_n (by omega) (by omega), bd_s, lt_e, lt_e, show nI i + (1 : Int32) = nI (i + 1) from nI_1 i, show (((lushr (lN m) ((8 : Int32) * nI i)) &&& (255 : Int64)).toInt32) = nI (byt m i) from code_e hm (by omega), code_e hm (show i < 8 by omega)]
      have y1 : s2 σ 9 pm (nI (byt m i)) 8 1 + (1 : Int32) = nI (pm + 1) := by
        show σ 8 1 + (1 : Int32) = _
        rw [a1]
        exact nI_1 pm
      have y2 : s2 τ 35 pm (nI (byt m i)) 29 7 + (1 : Int32) = nI (pm + 1) := by
        show τ 29 7 + (1 : Int32) = _
        rw [a2]
        exact nI_1 pm
      rw [y1, y2]
      obtain ⟨hQ, hC, hG, hW, ⟨pm', p1, p2, p3, p4⟩, hM, hS, hZ, hK, h09, h10⟩ := id I
      have hp : pm' = pm := (nI_eq (by omega) (by omega)).mp (p2.symm.trans a1)
      subst hp
      have J : IA (s2 (s2 σ 9 pm' (nI (byt m i))) 8 1 (nI (pm' + 1))) (s2 (s2 τ 35 pm' (nI (byt m i))) 29 7 (nI (pm' + 1))) n kd by_ td S := by
        refine ⟨hQ, hC, hG, hW, ⟨pm' + 1, by omega, rfl, rfl, fun k hk => ?_⟩, hM, hS, hZ, hK, h09, h10⟩
        show ∃ q, 1 ≤ q ∧ q ≤ 126 ∧ upd (σ 9) pm' (nI (byt m i)) k = nI q ∧ upd (τ 35) pm' (nI (byt m i)) k = nI q
        by_cases ek : k = pm'
        · subst ek
          exact ⟨byt m i, b1, b2, up_s, up_s⟩
        · rw [up_n ek, up_n ek]
          exact p4 k (by omega)
      obtain ⟨k, k', σ', τ', q1, q2, q3, q4, q5⟩ := ih (i + 1) (pm' + 1) _ _ J rfl rfl (by omega) (by omega) (by omega)
      exact ⟨k, k', σ', τ', q1, q2, q3, by rw [q4]; congr 1; omega, by rw [q5]; congr 1; omega⟩
theorem sim_letters : Sim_letters Inv := by
  intro σ τ x1 I
  obtain ⟨n, kd, by_, td, S, J⟩ := id I
  obtain ⟨m, hm, rfl⟩ := lof x1
  obtain ⟨-, -, -, -, ⟨pm, p1, p2, p3, -⟩, -⟩ := id J
  have h := scL (x := lN m) hm 10000 0 0 false (by omega) (by omega) (fun _ => rfl) (fun q => by cases q) (fun j hj => by omega)
  rw [show 8 * 0 = 0 from rfl, Nat.pow_zero, Nat.div_one, if_neg (show ¬ false = true by decide)] at h
  unfold X7_letters X3_lettersIn X8_letters X3_size
  rcases h with ⟨c1, a, b, d, c2⟩ | ⟨c, c8, ⟨p, q, c1⟩, ⟨p', q', c2⟩, c3⟩
  · change X3_lettersIn_L1 10000 (lN m) 0 0 0 = _ at c1
    change X8_letters_L1 10000 (lN m) 0 1 (lN m) 0 = _ at c2
    rw [c1, bd_s, c2, bd_s]
    refine ⟨-102, σ, τ, ?_, ?_, I⟩
    · rw [Sum.elim_inl, bd_s, if_pos rfl]
    · rw [if_pos rfl]
  · change X3_lettersIn_L1 10000 (lN m) 0 0 0 = _ at c1
    change X8_letters_L1 10000 (lN m) 0 1 (lN m) 0 = _ at c2
    rw [c1, bd_s, c2, bd_s, Sum.elim_inr, bd_s]
    dsimp only
    rw [if_neg (n1_ne (by omega)), if_neg one0, lt_e, p2, p3, nI_add]
    by_cases c4 : pm + c ≤ 60
    · obtain ⟨k, k', σ', τ', q1, q2, q3, q4, q5⟩ := apL hm c8 c3 10000 0 pm σ τ J p2 p3 (by omega) (by omega) (by omega)
      change X3_append_L1 10000 σ (lN m) (nI c) 0 = _ at q1
      change X8_letters_L2 10000 τ (lN m) (nI c) 0 = _ at q2
      rw [if_pos (show nI (pm + c) ≤ (60 : Int32) from nI_le (b := 60) c4 (by omega)), if_pos (show nI (pm + c) ≤ (60 : Int32) from nI_le (b := 60) c4 (by omega))]
      unfold X3_append
      rw [q1, bd_s, bd_s, q2, bd_s, lt_e]
      refine ⟨nI (pm + (c - 0)), σ', τ', ?_, ?_, n, kd, by_, td, S, q3⟩
      · show some (σ' 8 1, σ') = _
        rw [q4]
      · show some (τ' 29 7, τ') = _
        rw [q5]
    · rw [if_neg (show ¬ nI (pm + c) ≤ (60 : Int32) from nI_ge (a := 60) (by omega) (by omega)), if_neg (show ¬ nI (pm + c) ≤ (60 : Int32) from nI_ge (a := 60) (by omega) (by omega))]
      exact ⟨-104, σ, τ, rfl, rfl, I⟩
