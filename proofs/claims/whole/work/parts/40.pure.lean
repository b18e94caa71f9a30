/-! plain facts: numbers, bits, one cell -/
theorem lt_e {α β : Type} (a : α) (f : α → β) : lt a f = f a := rfl
theorem bd_s {α β : Type} (x : α) (f : α → Option β) : bd (some x) f = f x := rfl
theorem up_s {f : Nat → Int32} {k : Nat} {x : Int32} : upd f k x k = x := by simp [upd]
theorem up_n {f : Nat → Int32} {k j : Nat} {x : Int32} (h : j ≠ k) : upd f k x j = f j := by simp [upd, h]
theorem s2_c {σ : St} {q k c : Nat} {x : Int32} (h : c ≠ q) : s2 σ q k x c = σ c := by simp [s2, va_up, h]
theorem s2_q {σ : St} {q k : Nat} {x : Int32} : s2 σ q k x q = upd (σ q) k x := by simp [s2, va_up]
theorem s2_up {σ : St} {q k : Nat} {f : Nat → Int32} {x : Int32} : s2 (va_up σ q f) q k x = va_up σ q (upd f k x) := by
  funext c
  by_cases h : c = q <;> simp [s2, va_up, h]
theorem s2_v {σ : St} {q k : Nat} {x : Int32} : s2 σ q k x = va_up σ q (upd (σ q) k x) := rfl
theorem vu_c {σ : St} {q c : Nat} {f : Nat → Int32} (h : c ≠ q) : va_up σ q f c = σ c := by simp [va_up, h]
theorem vu_q {σ : St} {q : Nat} {f : Nat → Int32} : va_up σ q f q = f := by simp [va_up]
theorem vu_self {σ : St} {q : Nat} : va_up σ q (σ q) = σ := by
  funext c
  by_cases h : c = q <;> simp [va_up, h]
theorem rd_n {f : Nat → Int32} {n k : Nat} (hk : k < n) (hn : n ≤ 81) : rd f n (nI k) = some (f k) := by
  have h1 : (nI k).toNatClampNeg = k := nI_clamp (by omega)
  have h2 : ¬ (nI k < 0 ∨ n ≤ (nI k).toNatClampNeg) := nI_in hk (by omega)
  unfold rd
  rw [if_neg h2, h1]
theorem wa_n {σ : St} {q n k : Nat} {x : Int32} (hk : k < n) (hn : n ≤ 81) : wa σ q n (nI k) x = some (s2 σ q k x) := by
  have h1 : (nI k).toNatClampNeg = k := nI_clamp (by omega)
  have h2 : ¬ (nI k < 0 ∨ n ≤ (nI k).toNatClampNeg) := nI_in hk (by omega)
  unfold wa
  rw [if_neg h2, h1]
theorem wa_u {σ : St} {q n k : Nat} {f : Nat → Int32} {x : Int32} (hk : k < n) (hn : n ≤ 81) : wa (va_up σ q f) q n (nI k) x = some (va_up σ q (upd f k x)) := by
  rw [wa_n hk hn, s2_up]
theorem lit (n : Nat) : (OfNat.ofNat n : Int32) = nI n := rfl
theorem litL (n : Nat) : (OfNat.ofNat n : Int64) = lN n := rfl
theorem or_n (a b : Nat) : nI a ||| nI b = nI (a ||| b) := by
  apply Int32.toBitVec_inj.1
  show BitVec.ofNat 32 a ||| BitVec.ofNat 32 b = BitVec.ofNat 32 (a ||| b)
  apply BitVec.eq_of_getLsbD_eq
  intro i hi
  simp [hi]
theorem and_n (a b : Nat) : nI a &&& nI b = nI (a &&& b) := by
  apply Int32.toBitVec_inj.1
  show BitVec.ofNat 32 a &&& BitVec.ofNat 32 b = BitVec.ofNat 32 (a &&& b)
  apply BitVec.eq_of_getLsbD_eq
  intro i hi
  simp [hi]
theorem xor_n (a b : Nat) : nI a ^^^ nI b = nI (a ^^^ b) := by
  apply Int32.toBitVec_inj.1
  show BitVec.ofNat 32 a ^^^ BitVec.ofNat 32 b = BitVec.ofNat 32 (a ^^^ b)
  apply BitVec.eq_of_getLsbD_eq
  intro i hi
  simp [hi]
/-! a set of numbers below k, as bits -/
def bs (f : Nat → Bool) : Nat → Nat
  | 0 => 0
  | k + 1 => bs f k ||| (if f k then 2 ^ k else 0)
theorem bs_lt (f : Nat → Bool) : ∀ k, bs f k < 2 ^ k
  | 0 => by simp [bs]
  | k + 1 => by
    have h1 := bs_lt f k
    have h2 : (2 : Nat) ^ k < 2 ^ (k + 1) := Nat.pow_lt_pow_right (by decide) (by omega)
    unfold bs
    apply Nat.or_lt_two_pow
    · omega
    · split
      · exact h2
      · exact Nat.two_pow_pos _
theorem bs_tb (f : Nat → Bool) (i : Nat) : ∀ k, (bs f k).testBit i = (decide (i < k) && f i)
  | 0 => by simp [bs]
  | k + 1 => by
    have h1 := bs_tb f i k
    unfold bs
    rw [Nat.testBit_or, h1]
    by_cases e : i = k
    · subst e
      by_cases hf : f i = true
      · simp [hf]
      · simp [hf]
    · have h3 : (if f k = true then 2 ^ k else 0).testBit i = false := by
        split
        · rw [Nat.testBit_two_pow]
          simp
          omega
        · simp
      rw [h3]
      have h4 : (i < k) = (i < k + 1) := by
        apply propext
        omega
      simp [h4]
theorem bs_eq {f : Nat → Bool} {m k : Nat} (h : m < 2 ^ k) (ht : ∀ i, i < k → m.testBit i = f i) : m = bs f k := by
  apply Nat.eq_of_testBit_eq
  intro i
  rw [bs_tb]
  by_cases hi : i < k
  · simp [hi, ht i hi]
  · have h1 : m.testBit i = false := Nat.testBit_lt_two_pow (Nat.lt_of_lt_of_le h (Nat.pow_le_pow_right (by decide) (by omega)))
    simp [hi, h1]
theorem bs_cong {f g : Nat → Bool} {k : Nat} (h : ∀ i, i < k → f i = g i) : bs f k = bs g k := bs_eq (bs_lt f k) (fun i hi => by rw [bs_tb]; simp [hi, h i hi])
theorem bs_or (f g : Nat → Bool) (k : Nat) : bs f k ||| bs g k = bs (fun i => f i || g i) k := by
  apply bs_eq (Nat.or_lt_two_pow (bs_lt f k) (bs_lt g k))
  intro i hi
  rw [Nat.testBit_or, bs_tb, bs_tb]
  simp [hi]
theorem bs_and (f g : Nat → Bool) (k : Nat) : bs f k &&& bs g k = bs (fun i => f i && g i) k := by
  apply bs_eq (Nat.and_lt_two_pow _ (bs_lt g k))
  intro i hi
  rw [Nat.testBit_and, bs_tb, bs_tb]
  simp [hi]
theorem bs_zero {f : Nat → Bool} {k : Nat} (h : ∀ i, i < k → f i = false) : bs f k = 0 := (bs_eq (m := 0) (Nat.two_pow_pos k) (fun i hi => by rw [h i hi]; simp)).symm
theorem bs9 (f : Nat → Bool) : bs f 9 < 512 := bs_lt f 9
theorem bs8 (f : Nat → Bool) : bs f 8 < 256 := bs_lt f 8
theorem bs_inj {f g : Nat → Bool} {k : Nat} (h : bs f k = bs g k) : ∀ i, i < k → f i = g i := fun i hi => by
  have h1 := bs_tb f i k
  rw [h, bs_tb] at h1
  simpa [hi] using h1.symm
theorem sl31 : ∀ p, p < 16 → ((nI p &&& 31).toBitVec.smod 32).toNat = p := by decide +kernel
theorem shl1 : ∀ p, p < 16 → ishl (1 : Int32) (nI p) = nI (2 ^ p) := by decide +kernel
theorem tb_dm (m p : Nat) : m / 2 ^ p % 2 = if m.testBit p then 1 else 0 := by
  rw [Nat.testBit_eq_decide_div_mod_eq]
  by_cases h : m / 2 ^ p % 2 = 1
  · simp [h]
  · have : m / 2 ^ p % 2 = 0 := by omega
    simp [this]
theorem bit_n {m p : Nat} (hm : m < 2 ^ 31) (hp : p < 16) : (ishr (nI m) (nI p) &&& (1 : Int32)) = if m.testBit p then 1 else 0 := by
  have h1 : ishr (nI m) (nI p) = nI (m / 2 ^ p) := pk_shrN hm _ p (sl31 p hp)
  have h2 : m / 2 ^ p < 2 ^ 32 := Nat.lt_of_le_of_lt (Nat.div_le_self _ _) (by omega)
  rw [h1, pk_andN h2 1 (by decide), show (2 : Nat) ^ 1 = 2 from rfl, tb_dm]
  split <;> rfl
theorem bit_bs {f : Nat → Bool} {k p : Nat} (hk : k ≤ 16) (hp : p < k) : (ishr (nI (bs f k)) (nI p) &&& (1 : Int32)) = if f p then 1 else 0 := by
  have h0 : bs f k < 2 ^ 31 := Nat.lt_of_lt_of_le (bs_lt f k) (Nat.pow_le_pow_right (by decide) (by omega))
  rw [bit_n h0 (by omega), bs_tb]
  simp [hp]
theorem clr_n {f : Nat → Bool} {k p : Nat} (hk : k ≤ 16) (hp : p < k) : (nI (bs f k) &&& (ishl (1 : Int32) (nI p) ^^^ (-1 : Int32))) = nI (bs (fun i => if i = p then false else f i) k) := by
  rw [shl1 p (by omega), show (-1 : Int32) = nI (2 ^ 32 - 1) from by decide, xor_n, and_n]
  congr 1
  apply bs_eq
  · exact Nat.lt_of_le_of_lt Nat.and_le_left (bs_lt f k)
  · intro i hi
    rw [Nat.testBit_and, bs_tb, Nat.testBit_xor, Nat.testBit_two_pow, Nat.testBit_two_pow_sub_one]
    by_cases e : i = p
    · subst e
      simp [show i < 32 by omega]
    · have e2 : ¬ p = i := fun q => e q.symm
      simp [hi, e, e2, show i < 32 by omega]
theorem set_n {f : Nat → Bool} {k p : Nat} (hk : k ≤ 16) (hp : p < k) : (nI (bs f k) ||| ishl (1 : Int32) (nI p)) = nI (bs (fun i => if i = p then true else f i) k) := by
  rw [shl1 p (by omega), or_n]
  congr 1
  apply bs_eq
  · exact Nat.or_lt_two_pow (bs_lt f k) (Nat.pow_lt_pow_right (by decide) hp)
  · intro i hi
    rw [Nat.testBit_or, bs_tb, Nat.testBit_two_pow]
    by_cases e : i = p
    · subst e
      simp
    · have e2 : ¬ p = i := fun q => e q.symm
      simp [hi, e, e2]
theorem wb_e {f : Nat → Bool} {k p : Nat} {x : Int32} (hk : k ≤ 16) (hp : p < k) : X7_withBit (nI (bs f k)) (nI p) x = nI (bs (fun i => if i = p then decide (x ≠ 0) else f i) k) := by
  unfold X7_withBit
  by_cases h : x = 0
  · rw [if_pos h, clr_n hk hp]
    simp [h]
  · rw [if_neg h, set_n hk hp]
    simp [h]
theorem mb_e {f : Nat → Bool} {k p : Nat} {x : Int32} (hk : k ≤ 16) (hp : p < k) : ((nI (bs f k) &&& (ishl (1 : Int32) (nI p) ^^^ (-1 : Int32))) ||| (if x = 0 then (0 : Int32) else ishl (1 : Int32) (nI p))) = nI (bs (fun i => if i = p then decide (x ≠ 0) else f i) k) := by
  rw [clr_n hk hp]
  by_cases h : x = 0
  · rw [if_pos h]
    show nI _ ||| nI 0 = _
    rw [or_n, Nat.or_zero]
    simp [h]
  · rw [if_neg h, set_n hk hp]
    congr 1
    apply bs_cong
    intro i hi
    by_cases e : i = p <;> simp [e, h]
/-! ranges -/
theorem toI_n {n : Nat} (h : n < 2 ^ 31) : (nI n).toInt = (n : Int) := nI_toInt h
theorem of_rng {x : Int32} {lo hi : Nat} (hh : hi < 2 ^ 31) (h1 : (lo : Int) ≤ x.toInt) (h2 : x.toInt ≤ (hi : Int)) : ∃ k, lo ≤ k ∧ k ≤ hi ∧ x = nI k := by
  refine ⟨x.toInt.toNat, by omega, by omega, ?_⟩
  apply Int32.toInt_inj.mp
  rw [toI_n (by omega)]
  omega
theorem in_e (x : Int32) (a b : Int64) : X8_in x.toInt64 a b = if a.toInt ≤ x.toInt ∧ x.toInt ≤ b.toInt then 1 else 0 := by
  unfold X8_in
  simp only [Int64.lt_iff_toInt_lt, Int32.toInt_toInt64]
  by_cases h1 : x.toInt < a.toInt
  · rw [if_pos h1, if_neg (by omega)]
  · rw [if_neg h1]
    by_cases h2 : b.toInt < x.toInt
    · rw [if_pos h2, if_neg (by omega)]
    · rw [if_neg h2, if_pos (by omega)]
theorem l0 : (0 : Int64).toInt = 0 := by decide
theorem l1 : (1 : Int64).toInt = 1 := by decide
theorem l2 : (2 : Int64).toInt = 2 := by decide
theorem l4 : (4 : Int64).toInt = 4 := by decide
theorem l8 : (8 : Int64).toInt = 8 := by decide
theorem l9 : (9 : Int64).toInt = 9 := by decide
theorem l10 : (10 : Int64).toInt = 10 := by decide
theorem l18 : (18 : Int64).toInt = 18 := by decide
theorem l511 : (511 : Int64).toInt = 511 := by decide
theorem two_e (x a b : Int32) : (if x < a then (0 : Int32) else if b < x then 0 else 1) = if a.toInt ≤ x.toInt ∧ x.toInt ≤ b.toInt then 1 else 0 := by
  simp only [Int32.lt_iff_toInt_lt]
  by_cases h1 : x.toInt < a.toInt
  · rw [if_pos h1, if_neg (by omega)]
  · rw [if_neg h1]
    by_cases h2 : b.toInt < x.toInt
    · rw [if_pos h2, if_neg (by omega)]
    · rw [if_neg h2, if_pos (by omega)]
theorem isKind_e (x : Int32) : X0_isKind x = if 0 ≤ x.toInt ∧ x.toInt ≤ 4 then 1 else 0 := two_e x 0 4
theorem isDay_e (x : Int32) : X7_isDay x = if 1 ≤ x.toInt ∧ x.toInt ≤ 8 then 1 else 0 := two_e x 1 8
theorem isTenths_e (x : Int32) : X7_isTenths x = if 1 ≤ x.toInt ∧ x.toInt ≤ 9 then 1 else 0 := two_e x 1 9
theorem isHow_e (x : Int32) : X4_isHow x = if 0 ≤ x.toInt ∧ x.toInt ≤ 2 then 1 else 0 := two_e x 0 2
theorem isSet_e (x : Int32) : X5_isSet x = if 0 ≤ x.toInt ∧ x.toInt ≤ 511 then 1 else 0 := by
  have h := two_e x 0 511
  rw [← show (if (0 : Int32).toInt ≤ x.toInt ∧ x.toInt ≤ (511 : Int32).toInt then (1 : Int32) else 0) = (if 0 ≤ x.toInt ∧ x.toInt ≤ 511 then 1 else 0) from rfl, ← h]
  unfold X5_isSet
  have e : ((512 : Int32) ≤ x) = ((511 : Int32) < x) := by
    rw [Int32.lt_iff_toInt_lt, Int32.le_iff_toInt_le]
    apply propext
    show (512 : Int) ≤ _ ↔ (511 : Int) < _
    omega
  simp only [e]
theorem has_e {v x : Int32} {n : Nat} (hn : n < 2 ^ 30) (hv : v = nI n) : (if x < 0 then (0 : Int32) else if v ≤ x then 0 else 1) = if 0 ≤ x.toInt ∧ x.toInt < n then 1 else 0 := by
  have e0 : (nI n).toInt = (n : Int) := toI_n (by omega)
  simp only [hv, Int32.lt_iff_toInt_lt, Int32.le_iff_toInt_le, e0, show (0 : Int32).toInt = 0 from rfl]
  by_cases h1 : x.toInt < 0
  · rw [if_pos h1, if_neg (by omega)]
  · rw [if_neg h1]
    by_cases h2 : (n : Int) ≤ x.toInt
    · rw [if_pos h2, if_neg (by omega)]
    · rw [if_neg h2, if_pos (by omega)]
theorem hasM_e {v x : Int32} {n : Nat} (hn : n < 2 ^ 30) (hv : v = nI n) : X8_in x.toInt64 0 (v - 1).toInt64 = if 0 ≤ x.toInt ∧ x.toInt < n then 1 else 0 := by
  have h1 : (nI n - nI 1).toInt = (n : Int) - 1 := pk_sub_toInt hn (by omega)
  have h2 : (nI n - (1 : Int32)).toInt = (n : Int) - 1 := h1
  rw [in_e, hv, Int32.toInt_toInt64, h2, l0]
  by_cases h : 0 ≤ x.toInt ∧ x.toInt < n
  · rw [if_pos h, if_pos (by omega)]
  · rw [if_neg h, if_neg (by omega)]
theorem part_e (x : Int32) : X7_isPart x = if 0 ≤ x.toInt ∧ x.toInt ≤ 1 then 1 else 0 := by
  have e0 : (x = 0) = (x.toInt = 0) := propext Int32.toInt_inj.symm
  have e1 : (x = (1 : Int32)) = (x.toInt = 1) := propext Int32.toInt_inj.symm
  unfold X7_isPart
  simp only [e0, e1]
  by_cases h0 : x.toInt = 0
  · rw [if_pos h0, if_pos (by omega)]
  · rw [if_neg h0]
    by_cases h1 : x.toInt = 1
    · rw [if_pos h1, if_pos (by omega)]
    · rw [if_neg h1, if_neg (by omega)]
theorem partM_e (x : Int32) : X8_isPart x = if 0 ≤ x.toInt ∧ x.toInt ≤ 1 then 1 else 0 := by
  unfold X8_isPart
  rw [lt_e, in_e, l0, l1]
theorem one0 : ¬ (1 : Int32) = 0 := by decide
