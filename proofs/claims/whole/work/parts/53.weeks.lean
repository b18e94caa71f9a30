/-! weeks -/
theorem s2_s2 {σ : St} {q k : Nat} {x y : Int32} : s2 (s2 σ q k x) q k y = s2 σ q k y := by
  funext c
  by_cases h : c = q
  · subst h
    rw [s2_q, s2_q, s2_q]
    funext j
    by_cases e : j = k
    · rw [e, up_s, up_s]
    · rw [up_n e, up_n e, up_n e]
  · rw [s2_c h, s2_c h, s2_c h]
theorem ofk_e {σ : St} {n mt : Nat} {kd td : Nat → Nat} {S : Nat → Nat → Nat → Bool} {ms : Nat → Int32} {mg md me : Nat → Nat} (h9 : n ≤ 9) (h15 : mt ≤ 15) (hz : σ 10 4 = nI mt) (hM : MT n kd (σ 11) (σ 12) (σ 13) (σ 14) ms mt mg md me) (hW : WC (σ 7) n kd td S) {i : Nat} (hi : i < mt) : X2_isOfKnowing σ (nI i) = some (if KN n kd td S (md i) (mg i) then 1 else 0) := by
  obtain ⟨⟨m1, m2, m3, m4, m5⟩, m6, m7, m8, m9, -⟩ := hM i hi
  unfold X2_isOfKnowing
  have hh : X2_has σ (nI i) = if 0 ≤ (nI i).toInt ∧ (nI i).toInt < mt then 1 else 0 := has_e (by omega) hz
  rw [lt_e, hh, toI_n (by omega), if_pos (show (0 : Int) ≤ (i : Int) ∧ (i : Int) < mt by omega), if_neg one0, rd_n (by omega) (by omega), bd_s, rd_n (by omega) (by omega), bd_s, m6, m7, knC hW (by omega) m2 (by omega), bd_s]
  cases KN n kd td S (md i) (mg i) <;> rfl
theorem weekL {σ τ : St} {n mt : Nat} {kd by_ td : Nat → Nat} {S : Nat → Nat → Nat → Bool} {w : Nat → Int32} {v mg md me : Nat → Nat} {x2 : Int32} (I : IA σ τ n kd by_ td S) (h15 : mt ≤ 15) (z1 : σ 10 4 = nI mt) (z2 : τ 29 8 = nI mt) (hM : MT n kd (σ 11) (σ 12) (σ 13) (σ 14) (τ 36) mt mg md me) (hw : ∀ j, j < n → w j = nI (v j) ∧ v j ≤ 10 ∧ kv n (auN n kd) td S 9 j (v j)) : ∀ (f i : Nat) (s k : Int32), i ≤ mt → mt < f + i → (k = -1 ∨ ∃ m, m < mt ∧ k = nI m) → ∃ (s' k' j : Int32), X7_weeks_L1 f σ x2 s k (nI i) = some (s', k', j) ∧ X8_weeks_L1 f (s2 (va_up τ 34 w) 29 20 s) x2 k (nI i) = some (k', j, s2 (va_up τ 34 w) 29 20 s') ∧ (k' = -1 ∨ ∃ m, m < mt ∧ k' = nI m) := by
  obtain ⟨hQ, -, ⟨hn', hk', -⟩, hW, -⟩ := I
  have h9 := hQ.1
  intro f
  induction f with
  | zero => intro i s k h1 h2; omega
  | succ f ih =>
    intro i s k h1 h2 hk
    have z3 : s2 (va_up τ 34 w) 29 20 s 29 8 = nI mt := z2
    have c36 : s2 (va_up τ 34 w) 29 20 s 36 = τ 36 := rfl
    have c34 : s2 (va_up τ 34 w) 29 20 s 34 = w := rfl
    rw [X7_weeks_L1_s, X8_weeks_L1_s, lt_e, z3, c36, c34]
    unfold X2_size
    rw [z1]
    by_cases e : i = mt
    · subst e
      rw [if_pos (nI_le (Nat.le_refl _) (by omega)), if_pos (nI_le (Nat.le_refl _) (by omega))]
      exact ⟨s, k, _, rfl, rfl, hk⟩
    · have hi : i < mt := by omega
      rw [if_neg (nI_ge hi (by omega)), if_neg (nI_ge hi (by omega))]
      by_cases ck : k = (-1 : Int32)
      · have hs1 := slC hQ.1 h15 z1 hM hW hi
        have hs2 := slipsM hQ.1 h15 hk' hQ.2.1 hM hw hi
        obtain ⟨⟨m1, m2, m3, m4, m5⟩, m6, m7, m8, m9, m10, m11, m12⟩ := hM i hi
        obtain ⟨a1, a2, a3⟩ := hw (mg i) m1
        have hd := kn_of a3 (d := md i) (by omega)
        rw [if_pos ck, if_pos ck, ofk_e hQ.1 h15 z1 hM hW hi, bd_s, tri0, tri1, rd_n (by omega) (by omega), bd_s, m10, rd_n (by omega) (by omega), bd_s, a1, rd_n (by omega) (by omega), bd_s, m11, show nI i + (1 : Int32) = nI (i + 1) from nI_1 i]
        simp only [lt_e]
        by_cases c : v (mg i) ≤ md i
        · have hkn : KN n kd td S (md i) (mg i) = true := hd.mp c
          rw [hkn, if_neg (show ¬ (if true = true then (1 : Int32) else 0) = 0 by decide), if_neg (nI_nlt c (by omega)), if_neg one0]
          unfold X7_drawOf X8_draw
          rw [bd_s, hs1, bd_s, lt_e, if_neg (show ¬ (10 : Int32) = 0 by decide), s2_s2, bd_s]
          have hd1 : s2 (va_up τ 34 w) 29 20 ((1103515245 * (s2 (va_up τ 34 w) 29 20 s 29 20).toInt64 + 12345 &&& 2147483647).toInt32) 29 20 = X7_nextSeed s := rfl
          have hd2 : s2 (va_up τ 34 w) 29 20 ((1103515245 * (s2 (va_up τ 34 w) 29 20 s 29 20).toInt64 + 12345 &&& 2147483647).toInt32) = s2 (va_up τ 34 w) 29 20 (X7_nextSeed s) := rfl
          have hd3 : X8_slips (s2 (va_up τ 34 w) 29 20 (X7_nextSeed s)) (nI i) = some (nI (slp kd (KN n kd td S) mg md me i)) := hs2
          rw [hd1, hd2]
          dsimp only
          rw [hd3, bd_s]
          by_cases cs : nI (slp kd (KN n kd td S) mg md me i) ≤ irem (X7_nextSeed s / 65536) 10
          · rw [if_pos cs, if_pos cs, bd_s, bd_s, ck]
            exact ih (i + 1) (X7_nextSeed s) (-1) (by omega) (by omega) (Or.inl rfl)
          · rw [if_neg cs, if_neg cs, bd_s, bd_s]
            exact ih (i + 1) (X7_nextSeed s) (nI i) (by omega) (by omega) (Or.inr ⟨i, hi, rfl⟩)
        · have hkn : KN n kd td S (md i) (mg i) = false := by
            cases h : KN n kd td S (md i) (mg i)
            · rfl
            · exact absurd (hd.mpr h) c
          rw [hkn, if_pos (show (if false = true then (1 : Int32) else 0) = 0 by decide), if_pos (nI_lt (by omega) (by omega)), if_pos rfl, bd_s, bd_s, ck]
          exact ih (i + 1) s (-1) (by omega) (by omega) (Or.inl rfl)
      · rw [if_neg ck, if_neg ck]
        exact ⟨s, k, _, rfl, rfl, hk⟩
theorem sim_weeks : Sim_weeks Inv := by
  intro σ τ x1 x2 I
  obtain ⟨n, kd, by_, td, S, J⟩ := id I
  unfold X7_weeks X8_weeks
  by_cases c1 : x1 < 0
  · rw [if_pos c1, if_pos c1]
    exact ⟨-102, τ, rfl, rfl, I⟩
  · rw [if_neg c1, if_neg c1, lt_e, in_e, l0, l2]
    by_cases c2 : 0 ≤ x2.toInt ∧ x2.toInt ≤ 2
    · have y1 : ¬ x2 < 0 := fun z => by
        have := Int32.lt_iff_toInt_lt.mp z
        rw [show (0 : Int32).toInt = 0 from rfl] at this
        omega
      have y2 : x2 ≤ 2 := Int32.le_iff_toInt_le.mpr c2.2
      rw [if_neg y1, if_pos y2, if_pos c2, if_neg one0]
      obtain ⟨w, v, e1, e2⟩ := rk_e J
      obtain ⟨hQ, -, -, hW, -, ⟨mt, mg, md, me, m15, z1, z2, hM⟩, -⟩ := id J
      obtain ⟨s', k', j, f1, f2, f3⟩ := weekL (x2 := x2) J m15 z1 z2 hM e2 10000 0 x1 (-1) (Nat.zero_le _) (by omega) (Or.inl rfl)
      change X7_weeks_L1 10000 σ x2 x1 (-1) 0 = _ at f1
      change X8_weeks_L1 10000 _ x2 (-1) 0 = _ at f2
      have K : IA σ (s2 (va_up τ 34 w) 29 20 s') n kd by_ td S := IA_M (fun c h1 h2 _ _ _ => by rw [s2_c h1, vu_c h2]) (fun k hk => by rw [s2_q, up_n hk]; rfl) J
      rw [f1, bd_s, e1, bd_s, lt_e, f2, bd_s]
      dsimp only
      by_cases d2 : x2 = (2 : Int32)
      · rw [if_pos d2, if_pos d2]
        exact ⟨s', _, rfl, rfl, n, kd, by_, td, S, K⟩
      · rw [if_neg d2, if_neg d2]
        by_cases d0 : x2 = 0
        · rw [if_pos d0, if_pos d0]
          exact ⟨k', _, rfl, rfl, n, kd, by_, td, S, K⟩
        · rw [if_neg d0, if_neg d0]
          rcases f3 with f3 | ⟨m, f3, f4⟩
          · rw [if_pos f3, if_pos f3]
            exact ⟨k', _, rfl, rfl, n, kd, by_, td, S, K⟩
          · obtain ⟨⟨m1, -⟩, m6, -, -, -, m10, -⟩ := hM m f3
            have hh : X2_has σ (nI m) = if 0 ≤ (nI m).toInt ∧ (nI m).toInt < mt then 1 else 0 := has_e (by omega) z1
            have g1 : X2_guestOf σ (nI m) = some (nI (mg m)) := by
              unfold X2_guestOf
              rw [lt_e, hh, toI_n (by omega), if_pos (show (0 : Int) ≤ (m : Int) ∧ (m : Int) < mt by omega), if_neg one0, rd_n (by omega) (by omega), bd_s, m6]
            have g2 : rd (s2 (va_up τ 34 w) 29 20 s' 36) 45 (nI (3 * m)) = some (nI (mg m)) := by
              show rd (τ 36) 45 _ = _
              rw [rd_n (by omega) (by omega), m10]
            subst f4
            rw [if_neg (n1_ne (by omega)), if_neg (n1_ne (by omega)), g1, bd_s, tri0, g2, bd_s]
            exact ⟨nI (mg m), _, rfl, rfl, n, kd, by_, td, S, K⟩
    · rw [if_neg c2, if_pos rfl]
      refine ⟨-102, τ, ?_, rfl, I⟩
      by_cases y1 : x2 < 0
      · rw [if_pos y1]
      · rw [if_neg y1, if_neg (fun z => c2 ⟨?_, Int32.le_iff_toInt_le.mp z⟩)]
        have : ¬ x2.toInt < 0 := fun z => y1 (Int32.lt_iff_toInt_lt.mpr z)
        omega
/-! whose -/
def hor (F : Nat → Nat) (G : Nat → Bool) : Nat → Nat
  | 0 => 0
  | i + 1 => if G i then hor F G i * 10 + pw (fun k => 10 - F k) i * F i else hor F G i * 10
theorem hor_le {F : Nat → Nat} {G : Nat → Bool} : ∀ {i : Nat}, (∀ k, k < i → F k ≤ 10) → hor F G i + pw (fun k => 10 - F k) i ≤ 10 ^ i
  | 0, _ => Nat.le_refl _
  | i + 1, h => by
    have ih := hor_le (F := F) (G := G) (i := i) (fun k hk => h k (by omega))
    have hF := h i (by omega)
    have h1 : pw (fun k => 10 - F k) i * F i + pw (fun k => 10 - F k) i * (10 - F i) = pw (fun k => 10 - F k) i * 10 := by
      rw [← Nat.mul_add, show F i + (10 - F i) = 10 by omega]
    rw [Nat.pow_succ]
    show (if G i then _ else _) + pw (fun k => 10 - F k) i * (10 - F i) ≤ _
    split <;> omega
theorem fsL {σ : St} {n mt g : Nat} {kd td : Nat → Nat} {S : Nat → Nat → Nat → Bool} {ms : Nat → Int32} {mg md me : Nat → Nat} (h9 : n ≤ 9) (h15 : mt ≤ 15) (hg : g < 9) (hz : σ 10 4 = nI mt) (hM : MT n kd (σ 11) (σ 12) (σ 13) (σ 14) ms mt mg md me) (hW : WC (σ 7) n kd td S) : ∀ (f i : Nat), i ≤ mt → mt < f + i → X2_firstSlipWays_L1 f σ (nI g) (lN (pw (fun i => 10 - slp kd (KN n kd td S) mg md me i) i)) (lN (hor (slp kd (KN n kd td S) mg md me) (fun i => decide (mg i = g)) i)) (nI i) = some (lN (pw (fun i => 10 - slp kd (KN n kd td S) mg md me i) mt), lN (hor (slp kd (KN n kd td S) mg md me) (fun i => decide (mg i = g)) mt), nI mt) := by
  intro f
  induction f with
  | zero => intro i h1 h2; omega
  | succ f ih =>
    intro i h1 h2
    rw [X2_firstSlipWays_L1_s, hz]
    by_cases e : i = mt
    · subst e
      rw [if_pos (nI_le (Nat.le_refl _) (by omega))]
    · have hi : i < mt := by omega
      have hs := slp_le (K := KN n kd td S) hM hi
      obtain ⟨⟨m1, -⟩, m6, -⟩ := hM i hi
      rw [if_neg (nI_ge hi (by omega)), slC h9 h15 hz hM hW hi, bd_s, rd_n (by omega) (by omega), bd_s, m6, lt_e, ten_sub hs, nI_l (by omega), show (10 : Int64) = lN 10 from rfl, lN_mul, lN_mul, lN_mul, lN_add, show nI i + (1 : Int32) = nI (i + 1) from nI_1 i, ← ih (i + 1) (by omega) (by omega)]
      have hq : (nI (mg i) = nI g) ↔ mg i = g := nI_eq (by omega) (by omega)
      have hh : hor (slp kd (KN n kd td S) mg md me) (fun i => decide (mg i = g)) (i + 1) = if decide (mg i = g) = true then hor (slp kd (KN n kd td S) mg md me) (fun i => decide (mg i = g)) i * 10 + pw (fun k => 10 - slp kd (KN n kd td S) mg md me k) i * slp kd (KN n kd td S) mg md me i else hor (slp kd (KN n kd td S) mg md me) (fun i => decide (mg i = g)) i * 10 := rfl
      rw [hh]
      by_cases c : mg i = g
      · rw [if_pos (hq.mpr c), if_pos (by simp [c])]
        rfl
      · rw [if_neg (fun z => c (hq.mp z)), if_neg (by simp [c])]
        rfl
def onl (F : Nat → Nat) (j k : Nat) : Nat := if j ≤ k then (if k = j then F k else 10) else 10 - F k
theorem pw_onl (F : Nat → Nat) (j : Nat) : ∀ m, pw (onl F j) (j + 1 + m) = pw (fun k => 10 - F k) j * F j * 10 ^ m
  | 0 => by
    show pw (onl F j) j * onl F j j = _
    rw [pw_cong (g := fun k => 10 - F k) (fun i hi => by unfold onl; rw [if_neg (by omega)]), show onl F j j = F j from by unfold onl; rw [if_pos (Nat.le_refl _), if_pos rfl], Nat.pow_zero, Nat.mul_one]
  | m + 1 => by
    show pw (onl F j) (j + 1 + m) * onl F j (j + 1 + m) = _
    rw [pw_onl F j m, show onl F j (j + 1 + m) = 10 from by unfold onl; rw [if_pos (by omega), if_neg (by omega)], Nat.pow_succ, Nat.mul_assoc]
theorem foL2 {τ : St} {n mt j : Nat} {kd td : Nat → Nat} {S : Nat → Nat → Nat → Bool} {au : Nat → Bool} {c1 c2 c3 c4 : Nat → Int32} {w : Nat → Int32} {v mg md me : Nat → Nat} {x1 : Int32} {x2 : Int64} (h9 : n ≤ 9) (h15 : mt ≤ 15) (hj : j < mt) (hz : τ 29 8 = nI mt) (hk' : ∀ i, i < n → τ 30 i = nI (kd i)) (hk4 : ∀ i, i < n → kd i ≤ 4) (hM : MT n kd c1 c2 c3 c4 (τ 36) mt mg md me) (hw : ∀ j, j < n → w j = nI (v j) ∧ v j ≤ 10 ∧ kv n au td S 9 j (v j)) : ∀ (f i : Nat), i ≤ mt → mt < f + i → X8_firstOf_L2 f (va_up τ 34 w) x1 x2 (nI j) (lN (pw (onl (slp kd (kn n au td S) mg md me) j) i)) (nI i) = some (lN (pw (onl (slp kd (kn n au td S) mg md me) j) mt), nI mt) := by
  intro f
  induction f with
  | zero => intro i h1 h2; omega
  | succ f ih =>
    intro i h1 h2
    rw [X8_firstOf_L2_s, vu_c (by decide), hz]
    by_cases e : i = mt
    · subst e
      rw [if_pos (nI_le (Nat.le_refl _) (by omega))]
    · have hi : i < mt := by omega
      have hs := slp_le (K := kn n au td S) hM hi
      rw [if_neg (nI_ge hi (by omega)), slipsM h9 h15 hk' hk4 hM hw hi, bd_s, bd_s, ten_sub hs, nI_l (by omega), show nI i + (1 : Int32) = nI (i + 1) from nI_1 i, ← ih (i + 1) (by omega) (by omega)]
      have hh : pw (onl (slp kd (kn n au td S) mg md me) j) (i + 1) = pw (onl (slp kd (kn n au td S) mg md me) j) i * onl (slp kd (kn n au td S) mg md me) j i := rfl
      rw [hh]
      by_cases c : j ≤ i
      · rw [if_pos (nI_le c (by omega))]
        by_cases d : i = j
        · rw [if_pos (by rw [d]), bd_s, lN_mul, show onl (slp kd (kn n au td S) mg md me) j i = slp kd (kn n au td S) mg md me i from by unfold onl; rw [if_pos c, if_pos d]]
        · rw [if_neg (fun z => d ((nI_eq (by omega) (by omega)).mp z)), bd_s, show (10 : Int64) = lN 10 from rfl, lN_mul, show onl (slp kd (kn n au td S) mg md me) j i = 10 from by unfold onl; rw [if_pos c, if_neg d]]
      · rw [if_neg (nI_ge (by omega) (by omega)), bd_s, lN_mul, show onl (slp kd (kn n au td S) mg md me) j i = 10 - slp kd (kn n au td S) mg md me i from by unfold onl; rw [if_neg c]]
theorem foL1 {τ : St} {n mt g : Nat} {kd td : Nat → Nat} {S : Nat → Nat → Nat → Bool} {au : Nat → Bool} {c1 c2 c3 c4 : Nat → Int32} {w : Nat → Int32} {v mg md me : Nat → Nat} (h9 : n ≤ 9) (h15 : mt ≤ 15) (hg : g < 9) (hz : τ 29 8 = nI mt) (hk' : ∀ i, i < n → τ 30 i = nI (kd i)) (hk4 : ∀ i, i < n → kd i ≤ 4) (hM : MT n kd c1 c2 c3 c4 (τ 36) mt mg md me) (hw : ∀ j, j < n → w j = nI (v j) ∧ v j ≤ 10 ∧ kv n au td S 9 j (v j)) : ∀ (f i : Nat), i ≤ mt → mt < f + i → X8_firstOf_L1 f (va_up τ 34 w) (nI g) (lN (hor (slp kd (kn n au td S) mg md me) (fun i => decide (mg i = g)) i * 10 ^ (mt - i))) (nI i) = some (lN (hor (slp kd (kn n au td S) mg md me) (fun i => decide (mg i = g)) mt), nI mt) := by
  intro f
  induction f with
  | zero => intro i h1 h2; omega
  | succ f ih =>
    intro i h1 h2
    rw [X8_firstOf_L1_s, vu_c (show (29 : Nat) ≠ 34 by decide), vu_c (show (36 : Nat) ≠ 34 by decide), hz]
    by_cases e : i = mt
    · subst e
      rw [if_pos (nI_le (Nat.le_refl _) (by omega)), Nat.sub_self, Nat.pow_zero, Nat.mul_one]
    · have hi : i < mt := by omega
      have hm := hM i hi
      obtain ⟨⟨m1, -⟩, -, -, -, -, m10, -⟩ := hm
      rw [if_neg (nI_ge hi (by omega)), tri0, rd_n (by omega) (by omega), bd_s, m10, show nI i + (1 : Int32) = nI (i + 1) from nI_1 i, ← ih (i + 1) (by omega) (by omega)]
      have hq : (nI (mg i) = nI g) ↔ mg i = g := nI_eq (by omega) (by omega)
      have hh : hor (slp kd (kn n au td S) mg md me) (fun i => decide (mg i = g)) (i + 1) = if decide (mg i = g) = true then hor (slp kd (kn n au td S) mg md me) (fun i => decide (mg i = g)) i * 10 + pw (fun k => 10 - slp kd (kn n au td S) mg md me k) i * slp kd (kn n au td S) mg md me i else hor (slp kd (kn n au td S) mg md me) (fun i => decide (mg i = g)) i * 10 := rfl
      have hp : 10 ^ (mt - i) = 10 * 10 ^ (mt - (i + 1)) := by
        rw [show mt - i = (mt - (i + 1)) + 1 by omega, Nat.pow_succ, Nat.mul_comm]
      rw [hh]
      by_cases c : mg i = g
      · have q := foL2 (x1 := nI g) (x2 := lN (hor (slp kd (kn n au td S) mg md me) (fun i => decide (mg i = g)) i * 10 ^ (mt - i))) h9 h15 hi hz hk' hk4 hM hw 10000 0 (Nat.zero_le _) (by omega)
        change X8_firstOf_L2 10000 _ _ _ _ 1 0 = _ at q
        have hpo := pw_onl (slp kd (kn n au td S) mg md me) i (mt - (i + 1))
        rw [show i + 1 + (mt - (i + 1)) = mt by omega] at hpo
        rw [if_pos (hq.mpr c), if_pos (by simp [c]), q, bd_s, bd_s, hpo, lN_add, hp, ← Nat.mul_assoc, ← Nat.add_mul]
      · rw [if_neg (fun z => c (hq.mp z)), if_neg (by simp [c]), bd_s, hp, ← Nat.mul_assoc]
theorem sim_whose : Sim_whose Inv := by
  intro σ τ x1 x2 I
  obtain ⟨n, kd, by_, td, S, J⟩ := id I
  obtain ⟨hQ, ⟨hn, -⟩, ⟨hn', hk', -⟩, hW, -, ⟨mt, mg, md, me, m15, z1, z2, hM⟩, -⟩ := id J
  have h9 := hQ.1
  unfold X7_whose X8_whose
  simp only [lt_e]
  rw [hasC hn h9, hasM hn' h9]
  by_cases c : 0 ≤ x1.toInt ∧ x1.toInt < n
  · obtain ⟨g, hg, rfl⟩ := of_has (by omega) c
    rw [if_pos c, if_neg one0, if_neg one0, part_e, partM_e]
    by_cases c2 : 0 ≤ x2.toInt ∧ x2.toInt ≤ 1
    · obtain ⟨w, v, e1, e2⟩ := rk_e J
      have hle : pw (fun i => 10 - slp kd (KN n kd td S) mg md me i) mt ≤ 10 ^ mt := pw_le (fun i _ => by omega)
      have h15 := ten15 m15
      rw [if_pos c2, if_neg one0, if_neg one0, all_e m15 z1, bd_s, sw_e h9 m15 z1 hM hW, bd_s, e1, bd_s, wh_e m15 (by rw [vu_c (by decide)]; exact z2), bd_s, sil_e h9 m15 z2 hk' hQ.2.1 hM e2, bd_s, lN_sub hle]
      have hz : (lN (10 ^ mt - pw (fun i => 10 - slp kd (KN n kd td S) mg md me i) mt) = (0 : Int64)) ↔ 10 ^ mt - pw (fun i => 10 - slp kd (KN n kd td S) mg md me i) mt = 0 := pk_lEQ (b := 0) (by omega) (by omega)
      by_cases d : 10 ^ mt - pw (fun i => 10 - slp kd (KN n kd td S) mg md me i) mt = 0
      · rw [if_pos (hz.mpr d), if_pos (hz.mpr d)]
        exact ⟨-1, _, rfl, rfl, n, kd, by_, td, S, IA_34 J⟩
      · rw [if_neg (fun z => d (hz.mp z)), if_neg (fun z => d (hz.mp z))]
        have f1 := fsL h9 m15 (show g < 9 by omega) z1 hM hW 10000 0 (Nat.zero_le _) (by omega)
        change X2_firstSlipWays_L1 10000 σ (nI g) 1 0 0 = _ at f1
        have f2 := foL1 (g := g) h9 m15 (by omega) z2 hk' hQ.2.1 hM e2 10000 0 (Nat.zero_le _) (by omega)
        rw [show hor (slp kd (kn n (auN n kd) td S) mg md me) (fun i => decide (mg i = g)) 0 = 0 from rfl, Nat.zero_mul] at f2
        change X8_firstOf_L1 10000 _ (nI g) 0 0 = _ at f2
        have hb := hor_le (F := slp kd (KN n kd td S) mg md me) (G := fun i => decide (mg i = g)) (i := mt) (fun k hk => by have := slp_le (K := KN n kd td S) hM hk; omega)
        obtain ⟨r, t1, t2⟩ := low_e (a := hor (slp kd (KN n kd td S) mg md me) (fun i => decide (mg i = g)) mt) (b := 10 ^ mt - pw (fun i => 10 - slp kd (KN n kd td S) mg md me i) mt) (by omega) (by omega) (by omega) x2
        unfold X2_firstSlipWays X8_firstOf
        rw [f1, bd_s, bd_s, f2, bd_s, bd_s]
        dsimp only
        rw [t1, bd_s]
        refine ⟨r, va_up τ 34 w, rfl, ?_, n, kd, by_, td, S, IA_34 J⟩
        show bd (X8_term (lN (hor (slp kd (KN n kd td S) mg md me) (fun i => decide (mg i = g)) mt)) _ _) _ = _
        rw [t2, bd_s]
    · rw [if_neg c2, if_pos rfl, if_pos rfl]
      exact ⟨-102, τ, rfl, rfl, I⟩
  · rw [if_neg c, if_pos rfl, if_pos rfl]
    exact ⟨-101, τ, rfl, rfl, I⟩
