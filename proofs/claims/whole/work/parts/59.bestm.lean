/-! the best plan: the reference -/
theorem ct_sur {p : Nat → Bool} : ∀ {n t : Nat}, t < ct p n → ∃ i, i < n ∧ p i = true ∧ ct p i = t
  | 0, t, h => by simp [ct] at h
  | n + 1, t, h => by
    by_cases c : t < ct p n
    · obtain ⟨i, i1, i2, i3⟩ := ct_sur c
      exact ⟨i, by omega, i2, i3⟩
    · have h' : t < ct p n + (if p n = true then 1 else 0) := h
      by_cases hp : p n = true
      · rw [if_pos hp] at h'
        exact ⟨n, by omega, hp, by omega⟩
      · rw [if_neg hp] at h'
        omega
theorem nmL {τ : St} {n : Nat} {kd : Nat → Nat} (hn : τ 29 0 = nI n) (h9 : n ≤ 9) (hk : ∀ i, i < n → τ 30 i = nI (kd i)) (h4 : ∀ i, i < n → kd i ≤ 4) : ∀ (f i : Nat) (w : Nat → Int32), i ≤ n → n < f + i → (∀ j, j < i → nd n kd j = true → w (ct (nd n kd) j) = nI j) → ∃ w', X8_neededMany_L1 f (va_up τ 39 w) (nI (ct (nd n kd) i)) (nI i) = some (nI (ct (nd n kd) n), nI n, va_up τ 39 w') ∧ ∀ j, j < n → nd n kd j = true → w' (ct (nd n kd) j) = nI j := by
  intro f
  induction f with
  | zero => intro i w h1 h2; omega
  | succ f ih =>
    intro i w h1 h2 hw
    rw [X8_neededMany_L1_s, vu_c (show (29 : Nat) ≠ 39 by decide), vu_c (show (30 : Nat) ≠ 39 by decide), hn]
    by_cases e : i = n
    · subst e
      rw [if_pos (nI_le (Nat.le_refl _) (by omega))]
      exact ⟨w, rfl, hw⟩
    · have hi : i < n := by omega
      have hle := ct_le (nd n kd) i
      have hs : ct (nd n kd) (i + 1) = ct (nd n kd) i + (if nd n kd i = true then 1 else 0) := rfl
      rw [if_neg (nI_ge hi (by omega)), rd_n (by omega) (by omega), bd_s, hk i hi, lt_e, need_e (kd i) (h4 i hi), show nI i + (1 : Int32) = nI (i + 1) from nI_1 i]
      by_cases c : kd i = 2 ∨ kd i = 4
      · have hnd : nd n kd i = true := decide_eq_true ⟨hi, c⟩
        rw [if_pos c, if_neg one0, wa_u (by omega) (by omega), bd_s, bd_s, show nI (ct (nd n kd) i) + (1 : Int32) = nI (ct (nd n kd) i + 1) from nI_1 _]
        rw [hnd, if_pos rfl] at hs
        have := ih (i + 1) (upd w (ct (nd n kd) i) (nI i)) (by omega) (by omega) (fun j hj hd => by
          by_cases ej : j = i
          · rw [ej, up_s]
          · have := ct_st (p := nd n kd) hd (show j < i by omega)
            rw [up_n (by omega)]
            exact hw j (by omega) hd)
        rw [hs] at this
        exact this
      · have hnd : nd n kd i = false := decide_eq_false (fun z => c z.2)
        rw [if_neg c, if_pos rfl, bd_s]
        rw [hnd, if_neg (show ¬ false = true by decide)] at hs
        have := ih (i + 1) w (by omega) (by omega) (fun j hj hd => by
          by_cases ej : j = i
          · rw [ej, hnd] at hd
            exact absurd hd (by decide)
          · exact hw j (by omega) hd)
        rw [hs] at this
        exact this
theorem nmy_e {τ : St} {n : Nat} {kd : Nat → Nat} (hn : τ 29 0 = nI n) (h9 : n ≤ 9) (hk : ∀ i, i < n → τ 30 i = nI (kd i)) (h4 : ∀ i, i < n → kd i ≤ 4) : ∃ w, X8_neededMany τ = some (nI (ct (nd n kd) n), va_up τ 39 w) ∧ ∀ j, j < n → nd n kd j = true → w (ct (nd n kd) j) = nI j := by
  obtain ⟨w, e1, e2⟩ := nmL hn h9 hk h4 10000 0 (τ 39) (Nat.zero_le _) (by omega) (fun j hj => by omega)
  rw [vu_self] at e1
  change X8_neededMany_L1 10000 τ 0 0 = _ at e1
  refine ⟨w, ?_, e2⟩
  unfold X8_neededMany
  rw [e1, bd_s]
theorem lb1 {τ : St} {x1 : Int32} {x2 : Int64} : ∀ (f i : Nat) (w : Nat → Int32), i ≤ 9 → 9 < f + i → ∃ (w' : Nat → Int32) (k : Int32), X8_layBest_L1 f (va_up τ 37 w) x1 x2 (nI i) = some (k, va_up τ 37 w') ∧ (∀ j, j < i → w' j = w j) ∧ ∀ j, i ≤ j → j < 9 → w' j = 0 := by
  intro f
  induction f with
  | zero => intro i w h1 h2; omega
  | succ f ih =>
    intro i w h1 h2
    rw [X8_layBest_L1_s]
    by_cases e : i = 9
    · subst e
      rw [if_pos (show (9 : Int32) ≤ nI 9 by decide)]
      exact ⟨w, _, rfl, fun _ _ => rfl, fun j h3 h4 => by omega⟩
    · have hi : ¬ (9 : Int32) ≤ nI i := nI_ge (b := 9) (by omega) (by omega)
      rw [if_neg hi, wa_u (by omega) (by omega), bd_s, show nI i + (1 : Int32) = nI (i + 1) from nI_1 i]
      obtain ⟨w', k, e1, e2, e3⟩ := ih (i + 1) (upd w i 0) (by omega) (by omega)
      refine ⟨w', k, e1, fun j hj => ?_, fun j h3 h4 => ?_⟩
      · rw [e2 j (by omega), up_n (by omega)]
      · by_cases e4 : j = i
        · rw [e4, e2 i (by omega), up_s]
        · exact e3 j (by omega) h4
theorem lb5 {τ : St} {x1 x4 x5 : Int32} {x2 : Int64} : ∀ (f i : Nat) (w : Nat → Int32), i ≤ 9 → 9 < f + i → ∃ (w' : Nat → Int32) (k : Int32), X8_layBest_L5 f (va_up τ 38 w) x1 x2 x4 x5 (nI i) = some (k, va_up τ 38 w') ∧ (∀ j, j < i → w' j = w j) ∧ ∀ j, i ≤ j → j < 9 → w' j = τ 37 j := by
  intro f
  induction f with
  | zero => intro i w h1 h2; omega
  | succ f ih =>
    intro i w h1 h2
    rw [X8_layBest_L5_s]
    by_cases e : i = 9
    · subst e
      rw [if_pos (show (9 : Int32) ≤ nI 9 by decide)]
      exact ⟨w, _, rfl, fun _ _ => rfl, fun j h3 h4 => by omega⟩
    · have hi : ¬ (9 : Int32) ≤ nI i := nI_ge (b := 9) (by omega) (by omega)
      rw [if_neg hi, vu_c (by decide), rd_n (by omega) (by omega), bd_s, wa_u (by omega) (by omega), bd_s, show nI i + (1 : Int32) = nI (i + 1) from nI_1 i]
      obtain ⟨w', k, e1, e2, e3⟩ := ih (i + 1) (upd w i (τ 37 i)) (by omega) (by omega)
      refine ⟨w', k, e1, fun j hj => ?_, fun j h3 h4 => ?_⟩
      · rw [e2 j (by omega), up_n (by omega)]
      · by_cases e4 : j = i
        · rw [e4, e2 i (by omega), up_s]
        · exact e3 j (by omega) h4
theorem lb2 {τ : St} {n K : Nat} {by_ N : Nat → Nat} {x2 : Int64} (h9 : n ≤ 9) (hK : K ≤ 4) (hN : ∀ t, t < K → N t < n ∧ τ 39 t = nI (N t)) (hb : ∀ i, i < n → τ 31 i = nI (by_ i)) : ∀ (f i : Nat), i ≤ K → K < f + i → X8_layBest_L2 f τ (nI K) x2 (nI (pw (fun t => by_ (N t)) i)) (nI i) = some (nI (pw (fun t => by_ (N t)) K), nI K) := by
  intro f
  induction f with
  | zero => intro i h1 h2; omega
  | succ f ih =>
    intro i h1 h2
    rw [X8_layBest_L2_s]
    by_cases e : i = K
    · subst e
      rw [if_pos (nI_le (Nat.le_refl _) (by omega))]
    · have hi : i < K := by omega
      obtain ⟨a1, a2⟩ := hN i hi
      rw [if_neg (nI_ge hi (by omega)), rd_n (by omega) (by omega), bd_s, a2, rd_n (by omega) (by omega), bd_s, hb _ a1, pk_mul, show nI i + (1 : Int32) = nI (i + 1) from nI_1 i]
      exact ih (i + 1) (by omega) (by omega)
theorem lb4 {τ : St} {n K : Nat} {kd by_ N : Nat → Nat} {x1 x4 x5 : Int32} {x2 : Int64} (h9 : n ≤ 9) (hK : K ≤ 4) (hN : ∀ t, t < K → N t < n ∧ τ 39 t = nI (N t) ∧ nd n kd (N t) = true ∧ ct (nd n kd) (N t) = t) (hNi : ∀ j, nd n kd j = true → N (ct (nd n kd) j) = j) (hb : ∀ i, i < n → τ 31 i = nI (by_ i)) (hb8 : ∀ t, t < K → 1 ≤ by_ (N t) ∧ by_ (N t) ≤ 8) : ∀ (f j c : Nat) (w : Nat → Int32), j ≤ K → j < f → c < 2 ^ 31 → ∃ k k' w', X8_layBest_L4 f (va_up τ 37 w) x1 x2 x4 x5 (nI c) (nI j - 1) = some (k, k', va_up τ 37 w') ∧ ∀ g, g < 9 → w' g = if nd n kd g = true ∧ ct (nd n kd) g < j then nI (1 + dg (fun t => by_ (N t)) j c (ct (nd n kd) g)) else w g := by
  intro f
  induction f with
  | zero => intro j c w h1 h2; omega
  | succ f ih =>
    intro j c w h1 h2 hc
    rw [X8_layBest_L4_s]
    cases j with
    | zero =>
      rw [if_pos (show nI 0 - 1 < 0 by decide)]
      exact ⟨_, _, w, rfl, fun g hg => by rw [if_neg (by omega)]⟩
    | succ j =>
      obtain ⟨a1, a2, a3, a4⟩ := hN j (by omega)
      obtain ⟨b1, b8⟩ := hb8 j (by omega)
      have e1 : nI (j + 1) - (1 : Int32) = nI j := pk_sub (a := j + 1) (b := 1) (by omega)
      have hz : ¬ nI (by_ (N j)) = (0 : Int32) := fun z => by
        have := (nI_eq (b := 0) (by omega) (by omega)).mp z
        omega
      have r1 : ∀ V, rd (va_up τ 37 V 39) 9 (nI j) = some (nI (N j)) := fun V => by rw [vu_c (by decide), rd_n (by omega) (by omega), a2]
      have r2 : ∀ V, rd (va_up τ 37 V 31) 9 (nI (N j)) = some (nI (by_ (N j))) := fun V => by rw [vu_c (by decide), rd_n (by omega) (by omega), hb _ a1]
      have e2 : irem (nI c) (nI (by_ (N j))) = nI (c % by_ (N j)) := pk_rem hc (by omega) (by omega)
      have e3 : nI c / nI (by_ (N j)) = nI (c / by_ (N j)) := pk_div hc (by omega) (by omega)
      have e4 : nI j + (-1 : Int32) = nI j - 1 := (Int32.sub_eq_add_neg _ _).symm
      rw [e1, if_neg (show ¬ nI j < 0 from nI_nlt (b := 0) (by omega) (by omega)), r1, bd_s, bd_s, r2, bd_s, if_neg hz, e2, show (1 : Int32) = nI 1 from rfl, nI_add, wa_u (by omega) (by omega), bd_s, r1, bd_s, r2, bd_s, if_neg hz, e3]
      change ∃ k k' w', X8_layBest_L4 f _ _ _ _ _ (nI (c / by_ (N j))) (nI j + (-1 : Int32)) = _ ∧ _
      rw [e4]
      have hcd : c / by_ (N j) < 2 ^ 31 := Nat.lt_of_le_of_lt (Nat.div_le_self _ _) hc
      obtain ⟨k, k', w', f1, f2⟩ := ih j (c / by_ (N j)) (upd w (N j) (nI (1 + c % by_ (N j)))) (by omega) (by omega) hcd
      refine ⟨k, k', w', f1, fun g hg => ?_⟩
      rw [f2 g hg]
      have hd : dg (fun t => by_ (N t)) (j + 1) c (ct (nd n kd) g) = if ct (nd n kd) g = j then c % by_ (N j) else dg (fun t => by_ (N t)) j (c / by_ (N j)) (ct (nd n kd) g) := rfl
      rw [hd]
      by_cases hg2 : nd n kd g = true
      · by_cases q : ct (nd n kd) g < j
        · rw [if_pos ⟨hg2, q⟩, if_pos ⟨hg2, by omega⟩, if_neg (by omega)]
        · by_cases q2 : ct (nd n kd) g = j
          · have eg : g = N j := by rw [← q2, hNi g hg2]
            rw [if_neg (fun z => q z.2), if_pos ⟨hg2, by omega⟩, if_pos q2, eg, up_s]
          · have eg : g ≠ N j := fun z => q2 (by rw [z, a4])
            rw [if_neg (fun z => q z.2), if_neg (fun z => by omega), up_n eg]
      · have eg : g ≠ N j := fun z => hg2 (by rw [z, a3])
        rw [if_neg (fun z => hg2 z.1), if_neg (fun z => hg2 z.1), up_n eg]
theorem l_m1 {a : Nat} (h : a < 2 ^ 63) : ¬ lN a ≤ (-1 : Int64) := fun z => by
  have h1 := Int64.le_iff_toInt_le.mp z
  rw [pk_lT h, show (-1 : Int64).toInt = -1 from rfl] at h1
  omega
def pc (n : Nat) (kd : Nat → Nat) (b : Nat → Nat) (K c g : Nat) : Nat := if nd n kd g = true then 1 + dg b K c (ct (nd n kd) g) else 0
def ER (τ' τ : St) : Prop := ∀ c, c ≠ 34 → c ≠ 37 → c ≠ 38 → τ' c = τ c
theorem lb3 {τ : St} {n mt K cs : Nat} {kd by_ td N : Nat → Nat} {S : Nat → Nat → Nat → Bool} {c1 c2 c3 c4 : Nat → Int32} {mg md me : Nat → Nat} (hQ : GQ n kd by_ td S) (hG : GM (τ 29 0) (τ 30) (τ 31) (τ 32) (τ 33) n kd by_ td S) (m15 : mt ≤ 15) (z2 : τ 29 8 = nI mt) (hM : MT n kd c1 c2 c3 c4 (τ 36) mt mg md me) (hK : K ≤ 4) (hKe : K = ct (nd n kd) n) (hN : ∀ t, t < K → N t < n ∧ τ 39 t = nI (N t) ∧ nd n kd (N t) = true ∧ ct (nd n kd) (N t) = t) (hNi : ∀ j, nd n kd j = true → N (ct (nd n kd) j) = j) (hb8 : ∀ t, t < K → 1 ≤ by_ (N t) ∧ by_ (N t) ≤ 8)
    (hcs : cs < pw (fun t => by_ (N t)) K) (hlt : ∀ c, c < cs → Wm n kd S mg md me mt (pc n kd (fun t => by_ (N t)) K c) < Wm n kd S mg md me mt (pc n kd (fun t => by_ (N t)) K cs)) (hle : ∀ c, Wm n kd S mg md me mt (pc n kd (fun t => by_ (N t)) K c) ≤ Wm n kd S mg md me mt (pc n kd (fun t => by_ (N t)) K cs)) : ∀ (f c : Nat) (b : Int64) (τ' : St), c ≤ pw (fun t => by_ (N t)) K → pw (fun t => by_ (N t)) K < f + c → ER τ' τ → (∀ g, g < 9 → nd n kd g = false → τ' 37 g = 0) → (c ≤ cs → b = -1 ∨ ∃ m, m < Wm n kd S mg md me mt (pc n kd (fun t => by_ (N t)) K cs) ∧ b = lN m) → (cs < c → b = lN (Wm n kd S mg md me mt (pc n kd (fun t => by_ (N t)) K cs)) ∧ ∀ g, g < 9 → τ' 38 g = nI (pc n kd (fun t => by_ (N t)) K cs g)) → ∃ j τ'', X8_layBest_L3 f τ' (nI K) b (nI (pw (fun t => by_ (N t)) K)) (nI c) = some (lN (Wm n kd S mg md me mt (pc n kd (fun t => by_ (N t)) K cs)), j, τ'') ∧ ER τ'' τ ∧ ∀ g, g < 9 → τ'' 38 g = nI (pc n kd (fun t => by_ (N t)) K cs g) := by
  have h9 := hQ.1
  have hpK : pw (fun t => by_ (N t)) K ≤ 4096 := by
    have h1 : pw (fun t => by_ (N t)) K ≤ pw (fun _ => 8) K := pw_mono (fun t ht => (hb8 t ht).2)
    have h2 : ∀ k, k ≤ 4 → pw (fun _ => 8) k ≤ 4096 := by decide
    exact Nat.le_trans h1 (h2 K hK)
  have h15 := ten15 m15
  have hWs := wm_le n kd S mg md me mt (pc n kd (fun t => by_ (N t)) K cs)
  intro f
  induction f with
  | zero => intro c b τ' q1 q2; omega
  | succ f ih =>
    intro c b τ' q1 q2 hE hz hA hB
    rw [X8_layBest_L3_s]
    by_cases e : c = pw (fun t => by_ (N t)) K
    · obtain ⟨x1, x2⟩ := hB (by omega)
      rw [e, if_pos (nI_le (Nat.le_refl _) (by omega)), x1]
      exact ⟨_, τ', rfl, hE, x2⟩
    · have hc : c < pw (fun t => by_ (N t)) K := by omega
      rw [if_neg (nI_ge hc (by omega))]
      obtain ⟨k, k', w, f1, f2⟩ := lb4 (τ := τ') (kd := kd) (by_ := by_) (N := N) (x1 := nI K) (x4 := nI (pw (fun t => by_ (N t)) K)) (x5 := nI c) (x2 := b) h9 hK (fun t ht => by rw [hE 39 (by decide) (by decide) (by decide)]; exact hN t ht) hNi (fun i hi => by rw [hE 31 (by decide) (by decide) (by decide)]; exact hG.2.2.1 i hi) hb8 10000 K c (τ' 37) (Nat.le_refl _) (by omega) (by omega)
      rw [vu_self] at f1
      rw [f1, bd_s]
      dsimp only
      have hw : ∀ g, g < 9 → w g = nI (pc n kd (fun t => by_ (N t)) K c g) := fun g hg => by
        rw [f2 g hg]
        unfold pc
        by_cases q : nd n kd g = true
        · have := ct_st (p := nd n kd) q (nd_t q).1
          rw [if_pos ⟨q, by omega⟩, if_pos q]
        · rw [if_neg (fun z => q z.1), if_neg q, hz g hg (by simpa using q)]
          rfl
      have hpc8 : ∀ g, pc n kd (fun t => by_ (N t)) K c g ≤ 8 := fun g => by
        unfold pc
        split
        · rename_i q
          have h1 := ct_st (p := nd n kd) q (nd_t q).1
          have h2 := dg_lt (b := fun t => by_ (N t)) (k := K) c (t := ct (nd n kd) g) (fun t ht => (hb8 t ht).1) (by omega)
          have h3 := hb8 (ct (nd n kd) g) (by omega)
          have h4 : dg (fun t => by_ (N t)) K c (ct (nd n kd) g) < by_ (N (ct (nd n kd) g)) := h2
          omega
        · omega
      obtain ⟨w2, f3, f4⟩ := planM_e (τ := va_up τ' 37 w) (c1 := c1) (c2 := c2) (c3 := c3) (c4 := c4) (mg := mg) (md := md) (me := me) (by_ := by_) (td := td) (p := pc n kd (fun t => by_ (N t)) K c) hQ (by
        show GM (τ' 29 0) (τ' 30) (τ' 31) (τ' 32) (τ' 33) n kd by_ td S
        rw [hE 29 (by decide) (by decide) (by decide), hE 30 (by decide) (by decide) (by decide), hE 31 (by decide) (by decide) (by decide), hE 32 (by decide) (by decide) (by decide), hE 33 (by decide) (by decide) (by decide)]
        exact hG) m15 (by
        show τ' 29 8 = nI mt
        rw [hE 29 (by decide) (by decide) (by decide)]
        exact z2) (by
        show MT n kd c1 c2 c3 c4 (τ' 36) mt mg md me
        rw [hE 36 (by decide) (by decide) (by decide)]
        exact hM) (fun i hi => by rw [vu_q]; exact hw i (by omega)) (fun i _ => hpc8 i)
      rw [f3, bd_s, f4, bd_s, show nI c + (1 : Int32) = nI (c + 1) from nI_1 c]
      have hE2 : ER (va_up (va_up τ' 37 w) 34 w2) τ := fun q a1 a2 a3 => by rw [vu_c a1, vu_c a2]; exact hE q a1 a2 a3
      have hz2 : ∀ g, g < 9 → nd n kd g = false → va_up (va_up τ' 37 w) 34 w2 37 g = 0 := fun g hg q => by
        rw [vu_c (by decide), vu_q, hw g hg]
        unfold pc
        rw [if_neg (by rw [q]; decide)]
        rfl
      have hWc := wm_le n kd S mg md me mt (pc n kd (fun t => by_ (N t)) K c)
      obtain ⟨w3, k3, f5, -, f6⟩ := lb5 (τ := va_up (va_up τ' 37 w) 34 w2) (x1 := nI K) (x2 := lN (Wm n kd S mg md me mt (pc n kd (fun t => by_ (N t)) K c))) (x4 := nI (pw (fun t => by_ (N t)) K)) (x5 := nI c) 10000 0 (va_up (va_up τ' 37 w) 34 w2 38) (by omega) (by omega)
      rw [vu_self] at f5
      change X8_layBest_L5 10000 _ _ _ _ _ 0 = _ at f5
      have hE3 : ER (va_up (va_up (va_up τ' 37 w) 34 w2) 38 w3) τ := fun q a1 a2 a3 => by rw [vu_c a3]; exact hE2 q a1 a2 a3
      have hz3 : ∀ g, g < 9 → nd n kd g = false → va_up (va_up (va_up τ' 37 w) 34 w2) 38 w3 37 g = 0 := fun g hg q => by rw [vu_c (by decide)]; exact hz2 g hg q
      have h38 : ∀ g, g < 9 → va_up (va_up (va_up τ' 37 w) 34 w2) 38 w3 38 g = nI (pc n kd (fun t => by_ (N t)) K c g) := fun g hg => by
        rw [vu_q, f6 g (Nat.zero_le _) hg, vu_c (by decide), vu_q]
        exact hw g hg
      have hlec := hle c
      by_cases d : lN (Wm n kd S mg md me mt (pc n kd (fun t => by_ (N t)) K c)) ≤ b
      · rw [if_pos d, bd_s]
        refine ih (c + 1) b _ (by omega) (by omega) hE2 hz2 (fun q => hA (by omega)) (fun q => ?_)
        by_cases ec : c = cs
        · exfalso
          rcases hA (by omega) with x | ⟨m, x1, x2⟩
          · rw [x] at d
            exact l_m1 (by omega) d
          · rw [x2] at d
            have := (pk_lLE (by omega) (by omega)).mp d
            rw [ec] at this
            omega
        · obtain ⟨x1, x2⟩ := hB (by omega)
          exact ⟨x1, fun g hg => x2 g hg⟩
      · rw [if_neg d, bd_s, f5, bd_s, bd_s]
        refine ih (c + 1) _ _ (by omega) (by omega) hE3 hz3 (fun q => Or.inr ⟨_, hlt c (by omega), rfl⟩) (fun q => ?_)
        by_cases ec : c = cs
        · subst ec
          exact ⟨rfl, h38⟩
        · exfalso
          obtain ⟨x1, x2⟩ := hB (by omega)
          rw [x1] at d
          exact d ((pk_lLE (by omega) (by omega)).mpr hlec)
theorem lb_e {τ : St} {n mt K : Nat} {kd by_ td : Nat → Nat} {S : Nat → Nat → Nat → Bool} {c1 c2 c3 c4 : Nat → Int32} {mg md me : Nat → Nat} (hQ : GQ n kd by_ td S) (hG : GM (τ 29 0) (τ 30) (τ 31) (τ 32) (τ 33) n kd by_ td S) (m15 : mt ≤ 15) (z2 : τ 29 8 = nI mt) (hM : MT n kd c1 c2 c3 c4 (τ 36) mt mg md me) (hK : K ≤ 4) (hKe : K = ct (nd n kd) n) (h39 : ∀ j, j < n → nd n kd j = true → τ 39 (ct (nd n kd) j) = nI j) : ∃ τ', X8_layBest τ (nI K) = some (lN (Wm n kd S mg md me mt (ps n kd by_ mg md me mt n)), τ') ∧ ER τ' τ ∧ ∀ g, g < 9 → τ' 38 g = nI (ps n kd by_ mg md me mt n g) := by
  have h9 := hQ.1
  have hNi : ∀ j, nd n kd j = true → (fun t => (τ 39 t).toNatClampNeg) (ct (nd n kd) j) = j := fun j hj => by
    have h1 := (nd_t hj).1
    show (τ 39 (ct (nd n kd) j)).toNatClampNeg = j
    rw [h39 j h1 hj, nI_clamp (by omega)]
  have hN : ∀ t, t < K → (fun t => (τ 39 t).toNatClampNeg) t < n ∧ τ 39 t = nI ((fun t => (τ 39 t).toNatClampNeg) t) ∧ nd n kd ((fun t => (τ 39 t).toNatClampNeg) t) = true ∧ ct (nd n kd) ((fun t => (τ 39 t).toNatClampNeg) t) = t := fun t ht => by
    obtain ⟨i, i1, i2, i3⟩ := ct_sur (p := nd n kd) (n := n) (t := t) (by omega)
    have h := hNi i i2
    rw [i3] at h
    rw [h]
    refine ⟨i1, ?_, i2, i3⟩
    rw [← i3]
    exact h39 i i1 i2
  generalize (fun t => (τ 39 t).toNatClampNeg) = N at hNi hN
  have hb8 : ∀ t, t < K → 1 ≤ by_ (N t) ∧ by_ (N t) ≤ 8 := fun t ht => by
    obtain ⟨a1, -, a3, -⟩ := hN t ht
    obtain ⟨b1, b2⟩ := hQ.2.2.1 (N t) a1
    exact ⟨b2 (nd_t a3).2, b1⟩
  have hm9 : ∀ i, i < mt → me i ≤ 9 := fun i hi => (hM i hi).1.2.2.2.2
  have hys : ∀ g, nd n kd g = true → 1 ≤ ys kd by_ mg md me mt g ∧ ys kd by_ mg md me mt g ≤ by_ g ∧ (∀ y, 1 ≤ y → y ≤ by_ g → Phi kd mg md me mt g y ≤ Phi kd mg md me mt g (ys kd by_ mg md me mt g)) ∧ ∀ y, 1 ≤ y → y < ys kd by_ mg md me mt g → Phi kd mg md me mt g y < Phi kd mg md me mt g (ys kd by_ mg md me mt g) := fun g hg => by
    have h1 := nd_t hg
    have hb := (hQ.2.2.1 g h1.1).2 h1.2
    obtain ⟨v1, v2, v3, v4⟩ := sca_v (f := Phi kd mg md me mt g) (fun y => phi_pos hm9 g y) hb
    have hd := sca_d (f := Phi kd mg md me mt g) (by_ g)
    unfold ys
    rw [v2]
    exact ⟨v1, hd, v3, v4⟩
  obtain ⟨cs, hcs, hds⟩ := dg_ex (b := fun t => by_ (N t)) (y := fun t => ys kd by_ mg md me mt (N t) - 1) (k := K) (fun t ht => by
    obtain ⟨a1, -, a3, -⟩ := hN t ht
    obtain ⟨v1, v2, -⟩ := hys (N t) a3
    show ys kd by_ mg md me mt (N t) - 1 < by_ (N t)
    omega)
  have hpcs : pc n kd (fun t => by_ (N t)) K cs = ps n kd by_ mg md me mt n := by
    funext g
    unfold pc ps
    by_cases q : nd n kd g = true
    · have h1 := nd_t q
      have h2 := ct_st (p := nd n kd) q h1.1
      obtain ⟨v1, -⟩ := hys g q
      rw [if_pos q, if_pos ⟨h1.1, q⟩, hds _ (by omega), hNi g q]
      omega
    · rw [if_neg q, if_neg (fun z => q z.2)]
  have hpz : ∀ c a, auN n kd a = true → pc n kd (fun t => by_ (N t)) K c a = 0 := fun c a ha => by
    unfold pc
    rw [if_neg (by rw [nd_au ha]; decide)]
  have hmn : ∀ i, i < mt → mg i < n := fun i hi => (hM i hi).1.1
  have hdl : ∀ c g, nd n kd g = true → 1 + dg (fun t => by_ (N t)) K c (ct (nd n kd) g) ≤ by_ g := fun c g q => by
    have h1 := nd_t q
    have h2 := ct_st (p := nd n kd) q h1.1
    have h3 : dg (fun t => by_ (N t)) K c (ct (nd n kd) g) < by_ (N (ct (nd n kd) g)) := dg_lt (b := fun t => by_ (N t)) c (fun t ht => (hb8 t ht).1) (by omega)
    rw [hNi g q] at h3
    omega
  have hmo : ∀ c g, Phi kd mg md me mt g (pc n kd (fun t => by_ (N t)) K c g) ≤ Phi kd mg md me mt g (pc n kd (fun t => by_ (N t)) K cs g) := fun c g => by
    rw [hpcs]
    unfold pc ps
    by_cases q : nd n kd g = true
    · have h1 := nd_t q
      rw [if_pos q, if_pos ⟨h1.1, q⟩]
      exact (hys g q).2.2.1 _ (by omega) (hdl c g q)
    · rw [if_neg q, if_neg (fun z => q z.2)]
      exact Nat.le_refl _
  have hle : ∀ c, Wm n kd S mg md me mt (pc n kd (fun t => by_ (N t)) K c) ≤ Wm n kd S mg md me mt (pc n kd (fun t => by_ (N t)) K cs) := fun c => by
    rw [wm_e (hpz c) hmn, wm_e (hpz cs) hmn]
    exact pw_mono (fun g _ => hmo c g)
  have hlt : ∀ c, c < cs → Wm n kd S mg md me mt (pc n kd (fun t => by_ (N t)) K c) < Wm n kd S mg md me mt (pc n kd (fun t => by_ (N t)) K cs) := fun c hc => by
    rw [wm_e (hpz c) hmn, wm_e (hpz cs) hmn]
    refine pw_str (fun g _ => hmo c g) (fun g _ => phi_pos hm9 _ _) ?_
    obtain ⟨t, t1, t2⟩ := dg_st (b := fun t => by_ (N t)) (k := K) (fun t ht => (hb8 t ht).1) hc hcs
    obtain ⟨a1, -, a3, a4⟩ := hN t t1
    refine ⟨N t, a1, ?_⟩
    have e1 : pc n kd (fun t => by_ (N t)) K c (N t) = 1 + dg (fun t => by_ (N t)) K c t := by
      unfold pc
      rw [if_pos a3, a4]
    have e2 : pc n kd (fun t => by_ (N t)) K cs (N t) = 1 + dg (fun t => by_ (N t)) K cs t := by
      unfold pc
      rw [if_pos a3, a4]
    have e3 : pc n kd (fun t => by_ (N t)) K cs (N t) = ys kd by_ mg md me mt (N t) := by
      rw [hpcs]
      unfold ps
      rw [if_pos ⟨a1, a3⟩]
    rw [e1]
    rw [e3] at e2 ⊢
    exact (hys (N t) a3).2.2.2 _ (by omega) (by omega)
  obtain ⟨w, k, f1, -, f3⟩ := lb1 (τ := τ) (x1 := nI K) (x2 := -1) 10000 0 (τ 37) (by omega) (by omega)
  rw [vu_self] at f1
  change X8_layBest_L1 10000 τ _ _ 0 = _ at f1
  have f4 := lb2 (τ := va_up τ 37 w) (n := n) (by_ := by_) (N := N) (x2 := -1) h9 hK (fun t ht => ⟨(hN t ht).1, (hN t ht).2.1⟩) hG.2.2.1 10000 0 (Nat.zero_le _) (by omega)
  change X8_layBest_L2 10000 _ _ _ 1 0 = _ at f4
  have hpK : pw (fun t => by_ (N t)) K ≤ 4096 := by
    have h1 : pw (fun t => by_ (N t)) K ≤ pw (fun _ => 8) K := pw_mono (fun t ht => (hb8 t ht).2)
    have h2 : ∀ k, k ≤ 4 → pw (fun _ => 8) k ≤ 4096 := by decide
    exact Nat.le_trans h1 (h2 K hK)
  obtain ⟨j, τ', g1, g2, g3⟩ := lb3 hQ hG m15 z2 hM hK hKe hN hNi hb8 hcs hlt hle 10000 0 (-1) (va_up τ 37 w) (Nat.zero_le _) (by omega) (fun c _ a2 _ => vu_c a2) (fun g hg _ => by rw [vu_q]; exact f3 g (Nat.zero_le _) hg) (fun _ => Or.inl rfl) (fun q => by omega)
  change X8_layBest_L3 10000 _ _ _ _ 0 = _ at g1
  rw [hpcs] at g1 g3
  refine ⟨τ', ?_, g2, g3⟩
  unfold X8_layBest
  rw [f1, bd_s, f4, bd_s, g1, bd_s]
