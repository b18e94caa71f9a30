/-! the world: 46 cells at the addresses ad 0 .. ad 45; 0 to 28 the class, 29 to 45 the reference; what they hold: σ, τ (ints by cell and place), h (the one long) -/
abbrev St : Type := Nat → Nat → Int32
def eC (ad : Nat → Nat) (cI : ClassId) (j : Nat) (f : Nat → Int32) : va_E := match j with
  | 0 => .inr (7, [.ref (ad 1), .ref (ad 6), .ref (ad 8), .ref (ad 10), .ref (ad 15), .ref (ad 18), .ref (ad 22), .ref (ad 26), .ref (ad 27), .int (f 9), .int (f 10)])
  | 1 => .inr (0, [.ref (ad 2), .ref (ad 3), .ref (ad 4), .ref (ad 5), .int (f 4), .int (f 5)])
  | 2 => .inl (cI, 9, .inl f)
  | 3 => .inl (cI, 9, .inl f)
  | 4 => .inl (cI, 9, .inl f)
  | 5 => .inl (cI, 72, .inl f)
  | 6 => .inr (6, [.ref (ad 7)])
  | 7 => .inl (cI, 10, .inl f)
  | 8 => .inr (3, [.ref (ad 9), .int (f 1)])
  | 9 => .inl (cI, 60, .inl f)
  | 10 => .inr (2, [.ref (ad 11), .ref (ad 12), .ref (ad 13), .ref (ad 14), .int (f 4)])
  | 11 => .inl (cI, 15, .inl f)
  | 12 => .inl (cI, 15, .inl f)
  | 13 => .inl (cI, 15, .inl f)
  | 14 => .inl (cI, 15, .inl f)
  | 15 => .inr (5, [.ref (ad 16), .ref (ad 17), .int (f 2)])
  | 16 => .inl (cI, 8, .inl f)
  | 17 => .inl (cI, 8, .inl f)
  | 18 => .inr (4, [.ref (ad 19), .ref (ad 20), .ref (ad 21), .int (f 3)])
  | 19 => .inl (cI, 8, .inl f)
  | 20 => .inl (cI, 8, .inl f)
  | 21 => .inl (cI, 8, .inl f)
  | 22 => .inr (1, [.ref (ad 23), .ref (ad 24), .ref (ad 25), .int (f 3), .int (f 4)])
  | 23 => .inl (cI, 9, .inl f)
  | 24 => .inl (cI, 72, .inl f)
  | 25 => .inl (cI, 8, .inl f)
  | 26 => .inl (cI, 9, .inl f)
  | 27 => .inr (6, [.ref (ad 28)])
  | _ => .inl (cI, 10, .inl f)
def eO (ad : Nat → Nat) (h : Int64) (f : Nat → Int32) : va_E := .inr (8, [.int (f 0), .ref (ad 30), .ref (ad 31), .ref (ad 32), .ref (ad 33), .ref (ad 34), .ref (ad 35), .int (f 7), .int (f 8), .int (f 9), .ref (ad 36), .int (f 11), .ref (ad 37), .ref (ad 38), .ref (ad 39), .int (f 15), .ref (ad 40), .ref (ad 41), .int (f 18), .ref (ad 42), .int (f 20), .int (f 21), .int (f 22), .ref (ad 43), .ref (ad 44), .ref (ad 45), .long h])
def eM (cI : ClassId) (j : Nat) (f : Nat → Int32) : va_E := match j with
  | 30 => .inl (cI, 9, .inl f)
  | 31 => .inl (cI, 9, .inl f)
  | 32 => .inl (cI, 9, .inl f)
  | 33 => .inl (cI, 81, .inl f)
  | 34 => .inl (cI, 9, .inl f)
  | 35 => .inl (cI, 60, .inl f)
  | 36 => .inl (cI, 45, .inl f)
  | 37 => .inl (cI, 9, .inl f)
  | 38 => .inl (cI, 9, .inl f)
  | 39 => .inl (cI, 9, .inl f)
  | 40 => .inl (cI, 8, .inl f)
  | 41 => .inl (cI, 8, .inl f)
  | 42 => .inl (cI, 24, .inl f)
  | 43 => .inl (cI, 9, .inl f)
  | 44 => .inl (cI, 81, .inl f)
  | _ => .inl (cI, 8, .inl f)
def ee (ad : Nat → Nat) (cI : ClassId) (σ τ : St) (h : Int64) (j : Nat) : va_E := if j < 29 then eC ad cI j (σ j) else if j = 29 then eO ad h (τ 29) else eM cI j (τ j)
def WW (ad : Nat → Nat) (cI : ClassId) (σ τ : St) (h : Int64) : va_W := (List.range 46).map (fun i => (ad i, ee ad cI σ τ h i))
theorem WW_get {ad : Nat → Nat} {cI : ClassId} {σ τ : St} {h : Int64} (i : Nat) (hi : i < 46) : (WW ad cI σ τ h)[i]? = some (ad i, ee ad cI σ τ h i) := by
  simp [WW, List.getElem?_map, List.getElem?_range hi]
theorem WW_set {ad : Nat → Nat} {cI : ClassId} {σ τ : St} {h : Int64} {σ' τ' : St} {h' : Int64} {e : va_E} (i : Nat) (hi : i < 46) (he : ee ad cI σ' τ' h' i = e) (ho : ∀ j, j ≠ i → ee ad cI σ' τ' h' j = ee ad cI σ τ h j) : (WW ad cI σ τ h).set i (ad i, e) = WW ad cI σ' τ' h' := by
  apply List.ext_getElem?
  intro j
  by_cases hj : j < 46
  · rw [WW_get j hj, List.getElem?_set]
    by_cases e1 : i = j
    · subst e1
      have hl : i < (WW ad cI σ τ h).length := by simp [WW, hi]
      rw [if_pos rfl, if_pos hl, he]
    · rw [if_neg e1, WW_get j hj, ho j (fun q => e1 q.symm)]
  · have l1 : (WW ad cI σ' τ' h').length ≤ j := by simp [WW]; omega
    have l2 : ((WW ad cI σ τ h).set i (ad i, e)).length ≤ j := by simp [WW]; omega
    rw [List.getElem?_eq_none l1, List.getElem?_eq_none l2]
/-- one place of one cell -/
def s2 (σ : St) (c k : Nat) (v : Int32) : St := va_up σ c (upd (σ c) k v)
/-- one cell -/
def s1 (σ : St) (c : Nat) (f : Nat → Int32) : St := va_up σ c f
theorem ee_C {ad : Nat → Nat} {cI : ClassId} {σ τ : St} {h : Int64} {q : Nat} {f : Nat → Int32} (hq : q < 29) : ee ad cI (va_up σ q f) τ h q = eC ad cI q f := by
  simp [ee, hq, va_up]
theorem ee_Co {ad : Nat → Nat} {cI : ClassId} {σ τ : St} {h : Int64} {q : Nat} {f : Nat → Int32} : ∀ j, j ≠ q → ee ad cI (va_up σ q f) τ h j = ee ad cI σ τ h j := by
  intro j hj
  simp [ee, va_up, hj]
theorem ee_M {ad : Nat → Nat} {cI : ClassId} {σ τ : St} {h : Int64} {q : Nat} {f : Nat → Int32} (hq : 29 < q) : ee ad cI σ (va_up τ q f) h q = eM cI q f := by
  have h1 : ¬ q < 29 := by omega
  have h2 : ¬ q = 29 := by omega
  simp [ee, h1, h2, va_up]
theorem ee_O {ad : Nat → Nat} {cI : ClassId} {σ τ : St} {h h' : Int64} {f : Nat → Int32} : ee ad cI σ (va_up τ 29 f) h' 29 = eO ad h' f := by
  simp [ee, va_up]
theorem ee_Mo {ad : Nat → Nat} {cI : ClassId} {σ τ : St} {h : Int64} {q : Nat} {f : Nat → Int32} : ∀ j, j ≠ q → ee ad cI σ (va_up τ q f) h j = ee ad cI σ τ h j := by
  intro j hj
  by_cases h1 : j = 29
  · subst h1
    simp [ee, va_up, hj]
  · simp [ee, va_up, hj, h1]
theorem ee_Ho {ad : Nat → Nat} {cI : ClassId} {σ τ : St} {h h' : Int64} : ∀ j, j ≠ 29 → ee ad cI σ τ h' j = ee ad cI σ τ h j := by
  intro j hj
  simp [ee, hj]
def AA (ad : Nat → Nat) : Nat → Prop := fun q => ∃ i, i < 46 ∧ q = ad i
def HD (ad : Nat → Nat) : Prop := ∀ i j, i < 46 → j < 46 → ad i = ad j → i = j
theorem HD.D {ad : Nat → Nat} (hd : HD ad) {cI : ClassId} {σ τ : St} {h : Int64} : va_D (AA ad) (WW ad cI σ τ h) := by
  have lt : ∀ (k : Nat) (q : Nat × va_E), (WW ad cI σ τ h)[k]? = some q → k < 46 ∧ q.1 = ad k := by
    intro k q hq
    have hk : k < 46 := by
      have := (List.getElem?_eq_some_iff.mp hq).1
      simpa [WW] using this
    rw [WW_get k hk] at hq
    cases hq
    exact ⟨hk, rfl⟩
  refine ⟨fun i j x y hx hy e => ?_, fun k q hq => ?_⟩
  · obtain ⟨h1, e1⟩ := lt i x hx
    obtain ⟨h2, e2⟩ := lt j y hy
    exact hd i j h1 h2 (by rw [← e1, ← e2]; exact e)
  · obtain ⟨h1, e1⟩ := lt k q hq
    exact ⟨k, h1, e1⟩
theorem w_0 {ad : Nat → Nat} {cI : ClassId} {σ τ : St} {h : Int64} : (WW ad cI σ τ h)[0]? = some (ad 0, .inr (7, [.ref (ad 1), .ref (ad 6), .ref (ad 8), .ref (ad 10), .ref (ad 15), .ref (ad 18), .ref (ad 22), .ref (ad 26), .ref (ad 27), .int (σ 0 9), .int (σ 0 10)])) := WW_get 0 (by decide)
theorem w_1 {ad : Nat → Nat} {cI : ClassId} {σ τ : St} {h : Int64} : (WW ad cI σ τ h)[1]? = some (ad 1, .inr (0, [.ref (ad 2), .ref (ad 3), .ref (ad 4), .ref (ad 5), .int (σ 1 4), .int (σ 1 5)])) := WW_get 1 (by decide)
theorem w_2 {ad : Nat → Nat} {cI : ClassId} {σ τ : St} {h : Int64} : (WW ad cI σ τ h)[2]? = some (ad 2, .inl (cI, 9, .inl (σ 2))) := WW_get 2 (by decide)
theorem w_3 {ad : Nat → Nat} {cI : ClassId} {σ τ : St} {h : Int64} : (WW ad cI σ τ h)[3]? = some (ad 3, .inl (cI, 9, .inl (σ 3))) := WW_get 3 (by decide)
theorem w_4 {ad : Nat → Nat} {cI : ClassId} {σ τ : St} {h : Int64} : (WW ad cI σ τ h)[4]? = some (ad 4, .inl (cI, 9, .inl (σ 4))) := WW_get 4 (by decide)
theorem w_5 {ad : Nat → Nat} {cI : ClassId} {σ τ : St} {h : Int64} : (WW ad cI σ τ h)[5]? = some (ad 5, .inl (cI, 72, .inl (σ 5))) := WW_get 5 (by decide)
theorem w_6 {ad : Nat → Nat} {cI : ClassId} {σ τ : St} {h : Int64} : (WW ad cI σ τ h)[6]? = some (ad 6, .inr (6, [.ref (ad 7)])) := WW_get 6 (by decide)
theorem w_7 {ad : Nat → Nat} {cI : ClassId} {σ τ : St} {h : Int64} : (WW ad cI σ τ h)[7]? = some (ad 7, .inl (cI, 10, .inl (σ 7))) := WW_get 7 (by decide)
theorem w_8 {ad : Nat → Nat} {cI : ClassId} {σ τ : St} {h : Int64} : (WW ad cI σ τ h)[8]? = some (ad 8, .inr (3, [.ref (ad 9), .int (σ 8 1)])) := WW_get 8 (by decide)
theorem w_9 {ad : Nat → Nat} {cI : ClassId} {σ τ : St} {h : Int64} : (WW ad cI σ τ h)[9]? = some (ad 9, .inl (cI, 60, .inl (σ 9))) := WW_get 9 (by decide)
theorem w_10 {ad : Nat → Nat} {cI : ClassId} {σ τ : St} {h : Int64} : (WW ad cI σ τ h)[10]? = some (ad 10, .inr (2, [.ref (ad 11), .ref (ad 12), .ref (ad 13), .ref (ad 14), .int (σ 10 4)])) := WW_get 10 (by decide)
theorem w_11 {ad : Nat → Nat} {cI : ClassId} {σ τ : St} {h : Int64} : (WW ad cI σ τ h)[11]? = some (ad 11, .inl (cI, 15, .inl (σ 11))) := WW_get 11 (by decide)
theorem w_12 {ad : Nat → Nat} {cI : ClassId} {σ τ : St} {h : Int64} : (WW ad cI σ τ h)[12]? = some (ad 12, .inl (cI, 15, .inl (σ 12))) := WW_get 12 (by decide)
theorem w_13 {ad : Nat → Nat} {cI : ClassId} {σ τ : St} {h : Int64} : (WW ad cI σ τ h)[13]? = some (ad 13, .inl (cI, 15, .inl (σ 13))) := WW_get 13 (by decide)
theorem w_14 {ad : Nat → Nat} {cI : ClassId} {σ τ : St} {h : Int64} : (WW ad cI σ τ h)[14]? = some (ad 14, .inl (cI, 15, .inl (σ 14))) := WW_get 14 (by decide)
theorem w_15 {ad : Nat → Nat} {cI : ClassId} {σ τ : St} {h : Int64} : (WW ad cI σ τ h)[15]? = some (ad 15, .inr (5, [.ref (ad 16), .ref (ad 17), .int (σ 15 2)])) := WW_get 15 (by decide)
theorem w_16 {ad : Nat → Nat} {cI : ClassId} {σ τ : St} {h : Int64} : (WW ad cI σ τ h)[16]? = some (ad 16, .inl (cI, 8, .inl (σ 16))) := WW_get 16 (by decide)
theorem w_17 {ad : Nat → Nat} {cI : ClassId} {σ τ : St} {h : Int64} : (WW ad cI σ τ h)[17]? = some (ad 17, .inl (cI, 8, .inl (σ 17))) := WW_get 17 (by decide)
theorem w_18 {ad : Nat → Nat} {cI : ClassId} {σ τ : St} {h : Int64} : (WW ad cI σ τ h)[18]? = some (ad 18, .inr (4, [.ref (ad 19), .ref (ad 20), .ref (ad 21), .int (σ 18 3)])) := WW_get 18 (by decide)
theorem w_19 {ad : Nat → Nat} {cI : ClassId} {σ τ : St} {h : Int64} : (WW ad cI σ τ h)[19]? = some (ad 19, .inl (cI, 8, .inl (σ 19))) := WW_get 19 (by decide)
theorem w_20 {ad : Nat → Nat} {cI : ClassId} {σ τ : St} {h : Int64} : (WW ad cI σ τ h)[20]? = some (ad 20, .inl (cI, 8, .inl (σ 20))) := WW_get 20 (by decide)
theorem w_21 {ad : Nat → Nat} {cI : ClassId} {σ τ : St} {h : Int64} : (WW ad cI σ τ h)[21]? = some (ad 21, .inl (cI, 8, .inl (σ 21))) := WW_get 21 (by decide)
theorem w_22 {ad : Nat → Nat} {cI : ClassId} {σ τ : St} {h : Int64} : (WW ad cI σ τ h)[22]? = some (ad 22, .inr (1, [.ref (ad 23), .ref (ad 24), .ref (ad 25), .int (σ 22 3), .int (σ 22 4)])) := WW_get 22 (by decide)
theorem w_23 {ad : Nat → Nat} {cI : ClassId} {σ τ : St} {h : Int64} : (WW ad cI σ τ h)[23]? = some (ad 23, .inl (cI, 9, .inl (σ 23))) := WW_get 23 (by decide)
theorem w_24 {ad : Nat → Nat} {cI : ClassId} {σ τ : St} {h : Int64} : (WW ad cI σ τ h)[24]? = some (ad 24, .inl (cI, 72, .inl (σ 24))) := WW_get 24 (by decide)
theorem w_25 {ad : Nat → Nat} {cI : ClassId} {σ τ : St} {h : Int64} : (WW ad cI σ τ h)[25]? = some (ad 25, .inl (cI, 8, .inl (σ 25))) := WW_get 25 (by decide)
theorem w_26 {ad : Nat → Nat} {cI : ClassId} {σ τ : St} {h : Int64} : (WW ad cI σ τ h)[26]? = some (ad 26, .inl (cI, 9, .inl (σ 26))) := WW_get 26 (by decide)
theorem w_27 {ad : Nat → Nat} {cI : ClassId} {σ τ : St} {h : Int64} : (WW ad cI σ τ h)[27]? = some (ad 27, .inr (6, [.ref (ad 28)])) := WW_get 27 (by decide)
theorem w_28 {ad : Nat → Nat} {cI : ClassId} {σ τ : St} {h : Int64} : (WW ad cI σ τ h)[28]? = some (ad 28, .inl (cI, 10, .inl (σ 28))) := WW_get 28 (by decide)
theorem w_29 {ad : Nat → Nat} {cI : ClassId} {σ τ : St} {h : Int64} : (WW ad cI σ τ h)[29]? = some (ad 29, .inr (8, [.int (τ 29 0), .ref (ad 30), .ref (ad 31), .ref (ad 32), .ref (ad 33), .ref (ad 34), .ref (ad 35), .int (τ 29 7), .int (τ 29 8), .int (τ 29 9), .ref (ad 36), .int (τ 29 11), .ref (ad 37), .ref (ad 38), .ref (ad 39), .int (τ 29 15), .ref (ad 40), .ref (ad 41), .int (τ 29 18), .ref (ad 42), .int (τ 29 20), .int (τ 29 21), .int (τ 29 22), .ref (ad 43), .ref (ad 44), .ref (ad 45), .long h])) := WW_get 29 (by decide)
theorem w_30 {ad : Nat → Nat} {cI : ClassId} {σ τ : St} {h : Int64} : (WW ad cI σ τ h)[30]? = some (ad 30, .inl (cI, 9, .inl (τ 30))) := WW_get 30 (by decide)
theorem w_31 {ad : Nat → Nat} {cI : ClassId} {σ τ : St} {h : Int64} : (WW ad cI σ τ h)[31]? = some (ad 31, .inl (cI, 9, .inl (τ 31))) := WW_get 31 (by decide)
theorem w_32 {ad : Nat → Nat} {cI : ClassId} {σ τ : St} {h : Int64} : (WW ad cI σ τ h)[32]? = some (ad 32, .inl (cI, 9, .inl (τ 32))) := WW_get 32 (by decide)
theorem w_33 {ad : Nat → Nat} {cI : ClassId} {σ τ : St} {h : Int64} : (WW ad cI σ τ h)[33]? = some (ad 33, .inl (cI, 81, .inl (τ 33))) := WW_get 33 (by decide)
theorem w_34 {ad : Nat → Nat} {cI : ClassId} {σ τ : St} {h : Int64} : (WW ad cI σ τ h)[34]? = some (ad 34, .inl (cI, 9, .inl (τ 34))) := WW_get 34 (by decide)
theorem w_35 {ad : Nat → Nat} {cI : ClassId} {σ τ : St} {h : Int64} : (WW ad cI σ τ h)[35]? = some (ad 35, .inl (cI, 60, .inl (τ 35))) := WW_get 35 (by decide)
theorem w_36 {ad : Nat → Nat} {cI : ClassId} {σ τ : St} {h : Int64} : (WW ad cI σ τ h)[36]? = some (ad 36, .inl (cI, 45, .inl (τ 36))) := WW_get 36 (by decide)
theorem w_37 {ad : Nat → Nat} {cI : ClassId} {σ τ : St} {h : Int64} : (WW ad cI σ τ h)[37]? = some (ad 37, .inl (cI, 9, .inl (τ 37))) := WW_get 37 (by decide)
theorem w_38 {ad : Nat → Nat} {cI : ClassId} {σ τ : St} {h : Int64} : (WW ad cI σ τ h)[38]? = some (ad 38, .inl (cI, 9, .inl (τ 38))) := WW_get 38 (by decide)
theorem w_39 {ad : Nat → Nat} {cI : ClassId} {σ τ : St} {h : Int64} : (WW ad cI σ τ h)[39]? = some (ad 39, .inl (cI, 9, .inl (τ 39))) := WW_get 39 (by decide)
theorem w_40 {ad : Nat → Nat} {cI : ClassId} {σ τ : St} {h : Int64} : (WW ad cI σ τ h)[40]? = some (ad 40, .inl (cI, 8, .inl (τ 40))) := WW_get 40 (by decide)
theorem w_41 {ad : Nat → Nat} {cI : ClassId} {σ τ : St} {h : Int64} : (WW ad cI σ τ h)[41]? = some (ad 41, .inl (cI, 8, .inl (τ 41))) := WW_get 41 (by decide)
theorem w_42 {ad : Nat → Nat} {cI : ClassId} {σ τ : St} {h : Int64} : (WW ad cI σ τ h)[42]? = some (ad 42, .inl (cI, 24, .inl (τ 42))) := WW_get 42 (by decide)
theorem w_43 {ad : Nat → Nat} {cI : ClassId} {σ τ : St} {h : Int64} : (WW ad cI σ τ h)[43]? = some (ad 43, .inl (cI, 9, .inl (τ 43))) := WW_get 43 (by decide)
theorem w_44 {ad : Nat → Nat} {cI : ClassId} {σ τ : St} {h : Int64} : (WW ad cI σ τ h)[44]? = some (ad 44, .inl (cI, 81, .inl (τ 44))) := WW_get 44 (by decide)
theorem w_45 {ad : Nat → Nat} {cI : ClassId} {σ τ : St} {h : Int64} : (WW ad cI σ τ h)[45]? = some (ad 45, .inl (cI, 8, .inl (τ 45))) := WW_get 45 (by decide)
/-! the tables' words that travel: all good ones -/
def TBL : List Cond := lw_tbl.filter goodWord
abbrev wy (y : MethodName) (cc : ByteArray) (n : Nat) (ret : Option FieldType) : List Cond := .code y cc n ret :: TBL
theorem tb_T {w : Cond} (g : goodWord w = true) (h : w ∈ tables_1) : w ∈ TBL := List.mem_filter.mpr ⟨List.mem_append_right _ h, g⟩
theorem tb_S {w : Cond} (g : goodWord w = true) (h : w ∈ k2_sels lw_privs) : w ∈ TBL := List.mem_filter.mpr ⟨List.mem_append_left _ h, g⟩
theorem tb_1 {w : Cond} (h : w ∈ tables_1_1) : w ∈ tables_1 := List.mem_append_left _ h
theorem tb_2 {w : Cond} (h : w ∈ tables_1_2) : w ∈ tables_1 := List.mem_append_right _ (List.mem_append_left _ h)
theorem tb_3 {w : Cond} (h : w ∈ tables_1_3) : w ∈ tables_1 := List.mem_append_right _ (List.mem_append_right _ (List.mem_append_left _ h))
theorem tb_4 {w : Cond} (h : w ∈ tables_1_4) : w ∈ tables_1 := List.mem_append_right _ (List.mem_append_right _ (List.mem_append_right _ (List.mem_append_left _ h)))
theorem tb_5 {w : Cond} (h : w ∈ tables_1_5) : w ∈ tables_1 := List.mem_append_right _ (List.mem_append_right _ (List.mem_append_right _ (List.mem_append_right _ h)))
theorem tb_good {w : Cond} (h : w ∈ TBL) : (w.onTables && w.keeps) = true ∨ ∃ ty, w = .arrayClass ty := good_of_word (List.mem_filter.mp h).2
theorem gd_of {Ts : List Cond} (hs : ∀ w ∈ TBL, w ∈ Ts) {ws : List Cond} (h : ∀ w ∈ ws, w ∈ TBL) : GoodIn Ts ws := fun w hw => ⟨hs w (h w hw), tb_good (h w hw)⟩
theorem wy_in {z : MethodName} {cz : ByteArray} {nz : Nat} {rz : Option FieldType} (h5 : Cond.code z cz nz rz ∈ TBL) : ∀ w ∈ wy z cz nz rz, w ∈ TBL := fun w hw => (List.mem_cons.mp hw).elim (fun e => e ▸ h5) id
theorem gdW {Ts : List Cond} (hs : ∀ w ∈ TBL, w ∈ Ts) {z : MethodName} {cz : ByteArray} {nz : Nat} {rz : Option FieldType} (h5 : Cond.code z cz nz rz ∈ TBL) : GoodIn Ts (wy z cz nz rz) := gd_of hs (wy_in h5)
theorem gdV {Ts : List Cond} (hs : ∀ w ∈ TBL, w ∈ Ts) {own C : String} {idx : Nat} {z : MethodName} {cz : ByteArray} {nz : Nat} {rz : Option FieldType} (h1 : Cond.methodLink own idx z ∈ TBL) (h2 : Cond.instanceMethod z ∈ TBL) (h3 : Cond.selects C z z ∈ TBL) (h4 : Cond.initialized C ∈ TBL) (h5 : Cond.code z cz nz rz ∈ TBL) : GoodIn Ts (wsV own idx C z (wy z cz nz rz)) := by
  refine gd_of hs fun w hw => ?_
  unfold wsV at hw
  rcases List.mem_append.mp hw with hw | hw
  · simp only [List.mem_cons, List.not_mem_nil, or_false] at hw
    rcases hw with rfl | rfl | rfl | rfl <;> assumption
  · exact wy_in h5 w hw
theorem gdS {Ts : List Cond} (hs : ∀ w ∈ TBL, w ∈ Ts) {own : String} {idx : Nat} {z : MethodName} {cz : ByteArray} {nz : Nat} {rz : Option FieldType} (h1 : Cond.methodLink own idx z ∈ TBL) (h2 : Cond.static z ∈ TBL) (h4 : Cond.initialized z.cls ∈ TBL) (h5 : Cond.code z cz nz rz ∈ TBL) : GoodIn Ts (va_wsS own idx z (wy z cz nz rz)) := by
  refine gd_of hs fun w hw => ?_
  unfold va_wsS at hw
  rcases List.mem_append.mp hw with hw | hw
  · simp only [List.mem_cons, List.not_mem_nil, or_false] at hw
    rcases hw with rfl | rfl | rfl <;> assumption
  · exact wy_in h5 w hw
theorem wy_sub {y : MethodName} {cc : ByteArray} {n : Nat} {ret : Option FieldType} : ∀ w ∈ TBL, w ∈ wy y cc n ret := fun w h => List.mem_cons_of_mem _ h
/-! the nest's words, and the classes as the tables have them -/
def nst : Cond → Bool
  | .fieldLinkNest _ _ _ _ _ _ => true
  | .methodLinkNest _ _ _ _ => true
  | _ => false
theorem nst_warm {w : Cond} {s U : State} (hn : nst w = true) (hW : s.WarmedH U.vm) (h : va_Nw w s) : va_Nw w U := by
  cases w <;> first | (exact va_Nw.warmF hW h) | (exact va_Nw.warmM hW h) | (cases hn)
theorem nst_same {w : Cond} {u U : State} (hn : nst w = true) (e : u.vm = U.vm) (h : va_Nw w u) : va_Nw w U := by
  refine va_Nw.same ?_ e h
  cases w <;> first | rfl | (cases hn)
def KK (D : va_G) (cI : ClassId) (U : State) : Prop := va_K D vwCl [(cI, .int)] U ∧ ∀ w ∈ tables_1, nst w = true → va_Nw w U
theorem KK.warm {D : va_G} {cI : ClassId} {s U : State} (hW : s.WarmedH U.vm) (h : KK D cI s) : KK D cI U := ⟨va_K.moved hW.alike h.1, fun w hw hn => nst_warm hn hW (h.2 w hw hn)⟩
theorem KK.call {D : va_G} {cI : ClassId} {U : State} (g : JFrame) (mk : MethodId) (a : Array Value) (h : KK D cI U) : KK D cI (U.calling g mk a) := ⟨va_K.moved (u := U) (U := U.calling g mk a) (Vm.Alike.refl U.vm) h.1, fun w hw hn => nst_same (u := U) (U := U.calling g mk a) hn rfl (h.2 w hw hn)⟩
abbrev WP (D : va_G) (ad : Nat → Nat) (cI : ClassId) (σ τ : St) (h : Int64) (H : Heap) : Prop := va_P D vwCl (WW ad cI σ τ h) H
abbrev PcW (D : va_G) (ad : Nat → Nat) (cI : ClassId) (av : List Value) (σ τ : St) (h : Int64) : Array Value → State → Prop := va_Pc av (fun U => WP D ad cI σ τ h U.heap ∧ KK D cI U)
theorem PcW.blind {D : va_G} {ad : Nat → Nat} {cI : ClassId} {av : List Value} {σ τ : St} {h : Int64} : FrameBlind (PcW D ad cI av σ τ h) := fun a U g mk q => ⟨q.1, q.2.1, q.2.2.call g mk a⟩
def MI (l : Launch) (y : MethodName) (ws : List Cond) (rm : Room) (D : va_G) (ad : Nat → Nat) (cI : ClassId) (av : List Value) (σ τ : St) (h : Int64) (r : Int32) (σ' τ' : St) (h' : Int64) : Prop :=
  Met l y ws rm (PcW D ad cI av σ τ h) (va_Qi (fun x (_ : Unit) => x = r) (fun _ t => WP D ad cI σ' τ' h' t.heap) (AA ad)) 0 0 (AA ad)
def MZ (l : Launch) (y : MethodName) (ws : List Cond) (rm : Room) (D : va_G) (ad : Nat → Nat) (cI : ClassId) (av : List Value) (σ τ : St) (h : Int64) (r : Int32) (σ' τ' : St) (h' : Int64) : Prop :=
  Met l y ws rm (PcW D ad cI av σ τ h) (va_Qi (fun x (_ : Unit) => x = r ∧ (r = 0 ∨ r = 1)) (fun _ t => WP D ad cI σ' τ' h' t.heap) (AA ad)) 0 0 (AA ad)
def ML (l : Launch) (y : MethodName) (ws : List Cond) (rm : Room) (D : va_G) (ad : Nat → Nat) (cI : ClassId) (av : List Value) (σ τ : St) (h : Int64) (r : Int64) (σ' τ' : St) (h' : Int64) : Prop :=
  Met l y ws rm (PcW D ad cI av σ τ h) (va_Ql (fun x (_ : Unit) => x = r) (fun _ t => WP D ad cI σ' τ' h' t.heap) (AA ad)) 0 0 (AA ad)
def MV (l : Launch) (y : MethodName) (ws : List Cond) (rm : Room) (D : va_G) (ad : Nat → Nat) (cI : ClassId) (av : List Value) (σ τ : St) (h : Int64) (σ' τ' : St) (h' : Int64) : Prop :=
  Met l y ws rm (PcW D ad cI av σ τ h) (va_Qv (fun (_ : Unit) => True) (fun _ t => WP D ad cI σ' τ' h' t.heap) (AA ad)) 0 0 (AA ad)
/-! what a partial step gives -/
def bd {α β : Type} (a : Option α) (f : α → Option β) : Option β := match a with
  | none => none
  | some x => f x
def lt {α β : Type} (a : α) (f : α → β) : β := f a
theorem ob {α β : Type} {a : Option α} {f : α → Option β} {b : β} (h : bd a f = some b) : ∃ x, a = some x ∧ f x = some b := by
  cases a with
  | none => cases h
  | some x => exact ⟨x, rfl, h⟩
theorem ol {α β : Type} {a : α} {f : α → β} {b : β} (h : lt a f = b) : ∃ x, a = x ∧ f x = b := ⟨a, rfl, h⟩
theorem ip {c : Prop} {dc : Decidable c} {α : Type} {a b r : α} (hc : c) (h : (if c then a else b) = r) : a = r := by rw [if_pos hc] at h; exact h
theorem iq {c : Prop} {dc : Decidable c} {α : Type} {a b r : α} (hc : ¬ c) (h : (if c then a else b) = r) : b = r := by rw [if_neg hc] at h; exact h
theorem inz {c : Prop} {dc : Decidable c} {α : Type} {b : Option α} {r : α} (h : (if c then none else b) = some r) : ¬ c ∧ b = some r := by
  by_cases hc : c
  · rw [if_pos hc] at h; cases h
  · rw [if_neg hc] at h; exact ⟨hc, h⟩
/-- a place of a row of n -/
def rd (f : Nat → Int32) (n : Nat) (i : Int32) : Option Int32 := if i < 0 ∨ n ≤ i.toNatClampNeg then none else some (f i.toNatClampNeg)
def wa (σ : St) (q n : Nat) (i x : Int32) : Option St := if i < 0 ∨ n ≤ i.toNatClampNeg then none else some (s2 σ q i.toNatClampNeg x)
theorem rd_some {f : Nat → Int32} {n : Nat} {i v : Int32} (h : rd f n i = some v) : vp_in i n ∧ f i.toNatClampNeg = v := by
  unfold rd at h
  obtain ⟨h1, h2⟩ := inz h
  exact ⟨h1, Option.some.inj h2⟩
theorem wa_some {σ σ' : St} {q n : Nat} {i x : Int32} (h : wa σ q n i x = some σ') : vp_in i n ∧ s2 σ q i.toNatClampNeg x = σ' := by
  unfold wa at h
  obtain ⟨h1, h2⟩ := inz h
  exact ⟨h1, Option.some.inj h2⟩
/-- System.arraycopy of the first n -/
def sc (σ : St) (src dst n : Nat) : St := va_up σ dst (va_cpy (σ src) (σ dst) 0 0 n)
