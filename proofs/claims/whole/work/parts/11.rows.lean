/-! a method's walk, from its entry; an answer at its end -/
theorem mk_i {l : Launch} {y : MethodName} {cc : ByteArray} {nL : Nat} {rm : Room} {D : va_G} {ad : Nat → Nat} {cI : ClassId} {av : List Value} {σ τ : St} {h : Int64} {r : Int32} {σ' τ' : St} {h' : Int64} {own : String} {lv : List (Nat × Value)} (hy : plainFor y = true) (hcls : y.cls = own) (hnl : (lg_sl av).length ≤ nL) (hlv : lv_args 0 av = lv)
    (body : ∀ (p : Program) (e : Env) (s : State) (m : MethodId) (args : Array Value) (below : List Frame) (meth : Method) (c : Code) (Q : State → Prop) (ls : Array Slot), p.tables.exec = Jvm.exec → c.code = cc → c.maxLocals = nL → s.vm.findClass own = some m.cls → (∀ w ∈ TBL, w.before args s = true) → KK D cI s →
      (∀ (H : Heap) (locs : List Loc) (pc : Nat) (ls : Array Slot) (v : Int32), decode cc pc = .ok (.ireturn, 1) → WP D ad cI σ' τ' h' H → va_S (AA ad) s.heap H locs → v = r → W p l e rm s m args below meth c H locs 0 0 Q (F0 m pc ls [.int v])) →
      WP D ad cI σ τ h s.heap → va_S (AA ad) s.heap s.heap [] → lv_has ls nL lv → W p l e rm s m args below meth c s.heap [] 0 0 Q (F0 m 0 ls [])) : MI l y (wy y cc nL (some .int)) rm D ad cI av σ τ h r σ' τ' h' := by
  refine va_MetF (cc := cc) (maxL := nL) (ret := some .int) hy rfl ?_
  intro p e s m args below meth c s₁ B hml hv
  obtain ⟨rfl, hP, hK⟩ := hv
  have hts := atoms_spec (ws := wy y cc nL (some .int)) B.pre
  have hown : s.vm.findClass own = some m.cls := hcls ▸ findClass_of_methodNamed B.named
  have hlocks := B.notSynchronized
  have hl := lv_entry av (n := nL) hnl
  rw [hlv] at hl
  rw [lg_entry_eq]
  exact body p e s m _ below meth c _ _ B.exec B.bytes hml hown (fun w hw => hts w (wy_sub w hw)) hK (fun H locs pc ls v hd hP1 hS hv => by
    subst hv
    exact W.iret (v := v) B.exec B.bytes B.returns (fun t ht hW => ⟨⟨v, (), rfl, rfl, by show WP D ad cI _ _ _ t.heap; rw [ht]; exact hP1⟩, hS.F ht⟩) hS.2.2 hd) hP va_S.rf hl
theorem mk_z {l : Launch} {y : MethodName} {cc : ByteArray} {nL : Nat} {rm : Room} {D : va_G} {ad : Nat → Nat} {cI : ClassId} {av : List Value} {σ τ : St} {h : Int64} {r : Int32} {σ' τ' : St} {h' : Int64} {own : String} {lv : List (Nat × Value)} (hy : plainFor y = true) (hcls : y.cls = own) (hnl : (lg_sl av).length ≤ nL) (hlv : lv_args 0 av = lv)
    (body : ∀ (p : Program) (e : Env) (s : State) (m : MethodId) (args : Array Value) (below : List Frame) (meth : Method) (c : Code) (Q : State → Prop) (ls : Array Slot), p.tables.exec = Jvm.exec → c.code = cc → c.maxLocals = nL → s.vm.findClass own = some m.cls → (∀ w ∈ TBL, w.before args s = true) → KK D cI s →
      (∀ (H : Heap) (locs : List Loc) (pc : Nat) (ls : Array Slot) (v : Int32), decode cc pc = .ok (.ireturn, 1) → WP D ad cI σ' τ' h' H → va_S (AA ad) s.heap H locs → v = r → (v = 0 ∨ v = 1) → W p l e rm s m args below meth c H locs 0 0 Q (F0 m pc ls [.int v])) →
      WP D ad cI σ τ h s.heap → va_S (AA ad) s.heap s.heap [] → lv_has ls nL lv → W p l e rm s m args below meth c s.heap [] 0 0 Q (F0 m 0 ls [])) : MZ l y (wy y cc nL (some .boolean)) rm D ad cI av σ τ h r σ' τ' h' := by
  refine va_MetF (cc := cc) (maxL := nL) (ret := some .boolean) hy rfl ?_
  intro p e s m args below meth c s₁ B hml hv
  obtain ⟨rfl, hP, hK⟩ := hv
  have hts := atoms_spec (ws := wy y cc nL (some .boolean)) B.pre
  have hown : s.vm.findClass own = some m.cls := hcls ▸ findClass_of_methodNamed B.named
  have hlocks := B.notSynchronized
  have hl := lv_entry av (n := nL) hnl
  rw [hlv] at hl
  rw [lg_entry_eq]
  exact body p e s m _ below meth c _ _ B.exec B.bytes hml hown (fun w hw => hts w (wy_sub w hw)) hK (fun H locs pc ls v hd hP1 hS hv hz => by
    subst hv
    exact W.zret (v := v) B.exec B.bytes B.returns (by rcases hz with rfl | rfl <;> decide) (fun t ht hW => ⟨⟨v, (), rfl, ⟨rfl, hz⟩, by show WP D ad cI _ _ _ t.heap; rw [ht]; exact hP1⟩, hS.F ht⟩) hS.2.2 hd) hP va_S.rf hl
theorem mk_l {l : Launch} {y : MethodName} {cc : ByteArray} {nL : Nat} {rm : Room} {D : va_G} {ad : Nat → Nat} {cI : ClassId} {av : List Value} {σ τ : St} {h : Int64} {r : Int64} {σ' τ' : St} {h' : Int64} {own : String} {lv : List (Nat × Value)} (hy : plainFor y = true) (hcls : y.cls = own) (hnl : (lg_sl av).length ≤ nL) (hlv : lv_args 0 av = lv)
    (body : ∀ (p : Program) (e : Env) (s : State) (m : MethodId) (args : Array Value) (below : List Frame) (meth : Method) (c : Code) (Q : State → Prop) (ls : Array Slot), p.tables.exec = Jvm.exec → c.code = cc → c.maxLocals = nL → s.vm.findClass own = some m.cls → (∀ w ∈ TBL, w.before args s = true) → KK D cI s →
      (∀ (H : Heap) (locs : List Loc) (pc : Nat) (ls : Array Slot) (v : Int64), decode cc pc = .ok (.lreturn, 1) → WP D ad cI σ' τ' h' H → va_S (AA ad) s.heap H locs → v = r → W p l e rm s m args below meth c H locs 0 0 Q (F0 m pc ls [.long v])) →
      WP D ad cI σ τ h s.heap → va_S (AA ad) s.heap s.heap [] → lv_has ls nL lv → W p l e rm s m args below meth c s.heap [] 0 0 Q (F0 m 0 ls [])) : ML l y (wy y cc nL (some .long)) rm D ad cI av σ τ h r σ' τ' h' := by
  refine va_MetF (cc := cc) (maxL := nL) (ret := some .long) hy rfl ?_
  intro p e s m args below meth c s₁ B hml hv
  obtain ⟨rfl, hP, hK⟩ := hv
  have hts := atoms_spec (ws := wy y cc nL (some .long)) B.pre
  have hown : s.vm.findClass own = some m.cls := hcls ▸ findClass_of_methodNamed B.named
  have hlocks := B.notSynchronized
  have hl := lv_entry av (n := nL) hnl
  rw [hlv] at hl
  rw [lg_entry_eq]
  exact body p e s m _ below meth c _ _ B.exec B.bytes hml hown (fun w hw => hts w (wy_sub w hw)) hK (fun H locs pc ls v hd hP1 hS hv => by
    subst hv
    exact W.lret (v := v) B.exec B.bytes B.returns (fun t ht hW => ⟨⟨v, (), rfl, rfl, by show WP D ad cI _ _ _ t.heap; rw [ht]; exact hP1⟩, hS.F ht⟩) hS.2.2 hd) hP va_S.rf hl
theorem mk_v {l : Launch} {y : MethodName} {cc : ByteArray} {nL : Nat} {rm : Room} {D : va_G} {ad : Nat → Nat} {cI : ClassId} {av : List Value} {σ τ : St} {h : Int64} {σ' τ' : St} {h' : Int64} {own : String} {lv : List (Nat × Value)} (hy : plainFor y = true) (hcls : y.cls = own) (hnl : (lg_sl av).length ≤ nL) (hlv : lv_args 0 av = lv)
    (body : ∀ (p : Program) (e : Env) (s : State) (m : MethodId) (args : Array Value) (below : List Frame) (meth : Method) (c : Code) (Q : State → Prop) (ls : Array Slot), p.tables.exec = Jvm.exec → c.code = cc → c.maxLocals = nL → s.vm.findClass own = some m.cls → (∀ w ∈ TBL, w.before args s = true) → KK D cI s →
      (∀ (H : Heap) (locs : List Loc) (pc : Nat) (ls : Array Slot), decode cc pc = .ok (.return_, 1) → WP D ad cI σ' τ' h' H → va_S (AA ad) s.heap H locs → W p l e rm s m args below meth c H locs 0 0 Q (F0 m pc ls [])) →
      WP D ad cI σ τ h s.heap → va_S (AA ad) s.heap s.heap [] → lv_has ls nL lv → W p l e rm s m args below meth c s.heap [] 0 0 Q (F0 m 0 ls [])) : MV l y (wy y cc nL none) rm D ad cI av σ τ h σ' τ' h' := by
  refine va_MetF (cc := cc) (maxL := nL) (ret := none) hy rfl ?_
  intro p e s m args below meth c s₁ B hml hv
  obtain ⟨rfl, hP, hK⟩ := hv
  have hts := atoms_spec (ws := wy y cc nL none) B.pre
  have hown : s.vm.findClass own = some m.cls := hcls ▸ findClass_of_methodNamed B.named
  have hlocks := B.notSynchronized
  have hl := lv_entry av (n := nL) hnl
  rw [hlv] at hl
  rw [lg_entry_eq]
  exact body p e s m _ below meth c _ _ B.exec B.bytes hml hown (fun w hw => hts w (wy_sub w hw)) hK (fun H locs pc ls hd hP1 hS => by
    exact W.vret B.exec B.bytes B.returns (fun t ht hW => ⟨⟨(), rfl, trivial, by show WP D ad cI _ _ _ t.heap; rw [ht]; exact hP1⟩, hS.F ht⟩) hS.2.2 hd) hP va_S.rf hl
section RW
variable {p : Program} {l : Launch} {e : Env} {R : Room} {s : State} {m : MethodId} {args : Array Value} {below : List Frame} {meth : Method} {c : Code} {H : Heap} {locs : List Loc} {cells slots : Nat} {Q : State → Prop}
variable {cc : ByteArray} {pc : Nat} {ls : Array Slot} {rest : List Value} {D : va_G} {ad : Nat → Nat} {cI : ClassId} {σ τ : St} {h : Int64} {H0 : Heap} {A : Nat → Prop}
theorem r_ald (hx : p.tables.exec = Jvm.exec) (hb : c.code = cc) (hK : KK D cI s) (hP : WP D ad cI σ τ h H) (q : Nat) {n : Nat} {f : Nat → Int32} (he : (WW ad cI σ τ h)[q]? = some (ad q, .inl (cI, n, .inl f))) {i v : Int32} (g : rd f n i = some v) (hdg : decode cc pc = .ok (.iaload, 1))
    (kk : W p l e R s m args below meth c H locs cells slots Q (F0 m (pc + 1) ls (.int v :: rest))) : W p l e R s m args below meth c H locs cells slots Q (F0 m pc ls (.int i :: .ref (ad q) :: rest)) := by
  obtain ⟨g1, g2⟩ := rd_some g
  subst g2
  exact va_iald hx hb hK.1 hP q 0 he rfl g1 hdg kk
theorem r_len (hx : p.tables.exec = Jvm.exec) (hb : c.code = cc) (hK : KK D cI s) (hP : WP D ad cI σ τ h H) (q : Nat) {n : Nat} {f : Nat → Int32} (he : (WW ad cI σ τ h)[q]? = some (ad q, .inl (cI, n, .inl f))) {v : Int32} (hv : Int32.ofNat n = v) (hdg : decode cc pc = .ok (.arraylength, 1))
    (kk : W p l e R s m args below meth c H locs cells slots Q (F0 m (pc + 1) ls (.int v :: rest))) : W p l e R s m args below meth c H locs cells slots Q (F0 m pc ls (.ref (ad q) :: rest)) :=
  va_alen hx hb hK.1 hP q 0 he (ty := .int) rfl hv hdg kk
theorem r_astC (hx : p.tables.exec = Jvm.exec) (hb : c.code = cc) (hK : KK D cI s) (hd : HD ad) (hA : ∀ q, AA ad q → A q) (hP : WP D ad cI σ τ h H) (hS : va_S A H0 H locs) (q n : Nat) (hq : q < 29) (he : ∀ f, eC ad cI q f = .inl (cI, n, .inl f)) {i x : Int32} {σ' : St} (g : wa σ q n i x = some σ') (hdg : decode cc pc = .ok (.iastore, 1))
    (kk : ∀ (H1 : Heap) (locs1 : List Loc), WP D ad cI σ' τ h H1 → va_S A H0 H1 locs1 → W p l e R s m args below meth c H1 locs1 cells slots Q (F0 m (pc + 1) ls rest)) : W p l e R s m args below meth c H locs cells slots Q (F0 m pc ls (.int x :: .int i :: .ref (ad q) :: rest)) := by
  obtain ⟨g1, g2⟩ := wa_some g
  subst g2
  have hq2 : q < 46 := by omega
  have hw : (WW ad cI σ τ h)[q]? = some (ad q, .inl (cI, n, .inl (σ q))) := by
    rw [WW_get q hq2, ee, if_pos hq, he]
  refine va_iast hx hb hK.1 hP (hd.D.weaken (fun _ _ _ hh => hA _ hh)) hS q 0 hw rfl g1 hdg (fun H1 locs1 hP1 _ hS1 => kk H1 locs1 ?_ hS1)
  rw [WW_set (σ' := s2 σ q i.toNatClampNeg x) (τ' := τ) (h' := h) q hq2 ((ee_C hq).trans (he _)) ee_Co] at hP1
  exact hP1
theorem r_astM (hx : p.tables.exec = Jvm.exec) (hb : c.code = cc) (hK : KK D cI s) (hd : HD ad) (hA : ∀ q, AA ad q → A q) (hP : WP D ad cI σ τ h H) (hS : va_S A H0 H locs) (q n : Nat) (hq : 29 < q ∧ q < 46) (he : ∀ f, eM cI q f = .inl (cI, n, .inl f)) {i x : Int32} {τ' : St} (g : wa τ q n i x = some τ') (hdg : decode cc pc = .ok (.iastore, 1))
    (kk : ∀ (H1 : Heap) (locs1 : List Loc), WP D ad cI σ τ' h H1 → va_S A H0 H1 locs1 → W p l e R s m args below meth c H1 locs1 cells slots Q (F0 m (pc + 1) ls rest)) : W p l e R s m args below meth c H locs cells slots Q (F0 m pc ls (.int x :: .int i :: .ref (ad q) :: rest)) := by
  obtain ⟨g1, g2⟩ := wa_some g
  subst g2
  have h1 : ¬ q < 29 := by omega
  have h2 : ¬ q = 29 := by omega
  have hw : (WW ad cI σ τ h)[q]? = some (ad q, .inl (cI, n, .inl (τ q))) := by
    rw [WW_get q hq.2, ee, if_neg h1, if_neg h2, he]
  refine va_iast hx hb hK.1 hP (hd.D.weaken (fun _ _ _ hh => hA _ hh)) hS q 0 hw rfl g1 hdg (fun H1 locs1 hP1 _ hS1 => kk H1 locs1 ?_ hS1)
  rw [WW_set (σ' := σ) (τ' := s2 τ q i.toNatClampNeg x) (h' := h) q hq.2 ((ee_M hq.1).trans (he _)) ee_Mo] at hP1
  exact hP1
theorem r_putC (hx : p.tables.exec = Jvm.exec) (hb : c.code = cc) {own ref C : String} {T : u_T} {N ci index : Nat} {Ts : List Cond} (hts : ∀ w ∈ Ts, w.before args s = true) (hin : ∀ w ∈ u_ws C T N, w ∈ Ts) (ty0 : Nat → FieldType) (hty : ∀ k, k < N → parseFieldDescriptor (T k).2.2.1 = some (ty0 k)) (hnm : ∀ a, a < N → ∀ b, b < N → a ≠ b → (T a).2.1 ≠ (T b).2.1) (hown : s.vm.findClass own = some m.cls) (hK : KK D cI s) (hd : HD ad) (hA : ∀ q, AA ad q → A q) (hP : WP D ad cI σ τ h H) (hS : va_S A H0 H locs) (q : Nat) (hq : q < 29) {fs : List Value} (k : Nat) {v : Int32} (he : eC ad cI q (σ q) = .inr (ci, fs)) (he2 : eC ad cI q (upd (σ q) k v) = .inr (ci, fs.set k (.int v))) (hc : vwCl[ci]? = some (C, T, N)) (hk : k < N) (hlink : (Cond.fieldLink own index ref (T k).2.1 (T k).2.2.1).before args s = true) (hsame : ref = (T k).1) (hfin : (T k).2.2.2 = false) (hdd : parseFieldDescriptor (T k).2.2.1 = some .int) (hl : k < fs.length)
    (hdg : decode cc pc = .ok (.putfield index, 3)) (kk : ∀ (H1 : Heap) (locs1 : List Loc), WP D ad cI (s2 σ q k v) τ h H1 → va_S A H0 H1 locs1 → W p l e R s m args below meth c H1 locs1 cells slots Q (F0 m (pc + 3) ls rest)) : W p l e R s m args below meth c H locs cells slots Q (F0 m pc ls (.int v :: .ref (ad q) :: rest)) := by
  have hq2 : q < 46 := by omega
  have hw : (WW ad cI σ τ h)[q]? = some (ad q, .inr (ci, fs)) := by
    rw [WW_get q hq2, ee, if_pos hq, he]
  refine va_put hx hb hts hin ty0 hty hnm hown hK.1 hP (hd.D.weaken (fun _ _ _ hh => hA _ hh)) hS q hw hc k hk hlink (fun x h9 => by rw [hsame]; exact h9) hfin hdd rfl rfl hl hdg (fun H1 locs1 hP1 _ hS1 => kk H1 locs1 ?_ hS1)
  rw [WW_set (σ' := s2 σ q k v) (τ' := τ) (h' := h) q hq2 ((ee_C hq).trans he2) ee_Co] at hP1
  exact hP1
theorem r_putM (hx : p.tables.exec = Jvm.exec) (hb : c.code = cc) {own ref C : String} {T : u_T} {N ci index : Nat} {Ts : List Cond} (hts : ∀ w ∈ Ts, w.before args s = true) (hin : ∀ w ∈ u_ws C T N, w ∈ Ts) (ty0 : Nat → FieldType) (hty : ∀ k, k < N → parseFieldDescriptor (T k).2.2.1 = some (ty0 k)) (hnm : ∀ a, a < N → ∀ b, b < N → a ≠ b → (T a).2.1 ≠ (T b).2.1) (hown : s.vm.findClass own = some m.cls) (hK : KK D cI s) (hd : HD ad) (hA : ∀ q, AA ad q → A q) (hP : WP D ad cI σ τ h H) (hS : va_S A H0 H locs) {fs : List Value} (k : Nat) {v : Int32} (he : eO ad h (τ 29) = .inr (ci, fs)) (he2 : eO ad h (upd (τ 29) k v) = .inr (ci, fs.set k (.int v))) (hc : vwCl[ci]? = some (C, T, N)) (hk : k < N) (hlink : (Cond.fieldLink own index ref (T k).2.1 (T k).2.2.1).before args s = true) (hsame : ref = (T k).1) (hfin : (T k).2.2.2 = false) (hdd : parseFieldDescriptor (T k).2.2.1 = some .int) (hl : k < fs.length)
    (hdg : decode cc pc = .ok (.putfield index, 3)) (kk : ∀ (H1 : Heap) (locs1 : List Loc), WP D ad cI σ (s2 τ 29 k v) h H1 → va_S A H0 H1 locs1 → W p l e R s m args below meth c H1 locs1 cells slots Q (F0 m (pc + 3) ls rest)) : W p l e R s m args below meth c H locs cells slots Q (F0 m pc ls (.int v :: .ref (ad 29) :: rest)) := by
  have hw : (WW ad cI σ τ h)[29]? = some (ad 29, .inr (ci, fs)) := by
    rw [WW_get 29 (by decide), ee, if_neg (by decide), if_pos rfl, he]
  refine va_put hx hb hts hin ty0 hty hnm hown hK.1 hP (hd.D.weaken (fun _ _ _ hh => hA _ hh)) hS 29 hw hc k hk hlink (fun x h9 => by rw [hsame]; exact h9) hfin hdd rfl rfl hl hdg (fun H1 locs1 hP1 _ hS1 => kk H1 locs1 ?_ hS1)
  rw [WW_set (σ' := σ) (τ' := s2 τ 29 k v) (h' := h) 29 (by decide) ((ee_O (h := h)).trans he2) ee_Mo] at hP1
  exact hP1
theorem r_putH (hx : p.tables.exec = Jvm.exec) (hb : c.code = cc) {own ref C : String} {T : u_T} {N ci index : Nat} {Ts : List Cond} (hts : ∀ w ∈ Ts, w.before args s = true) (hin : ∀ w ∈ u_ws C T N, w ∈ Ts) (ty0 : Nat → FieldType) (hty : ∀ k, k < N → parseFieldDescriptor (T k).2.2.1 = some (ty0 k)) (hnm : ∀ a, a < N → ∀ b, b < N → a ≠ b → (T a).2.1 ≠ (T b).2.1) (hown : s.vm.findClass own = some m.cls) (hK : KK D cI s) (hd : HD ad) (hA : ∀ q, AA ad q → A q) (hP : WP D ad cI σ τ h H) (hS : va_S A H0 H locs) {fs : List Value} (k : Nat) {v : Int64} (he : eO ad h (τ 29) = .inr (ci, fs)) (he2 : eO ad v (τ 29) = .inr (ci, fs.set k (.long v))) (hc : vwCl[ci]? = some (C, T, N)) (hk : k < N) (hlink : (Cond.fieldLink own index ref (T k).2.1 (T k).2.2.1).before args s = true) (hsame : ref = (T k).1) (hfin : (T k).2.2.2 = false) (hdd : parseFieldDescriptor (T k).2.2.1 = some .long) (hl : k < fs.length)
    (hdg : decode cc pc = .ok (.putfield index, 3)) (kk : ∀ (H1 : Heap) (locs1 : List Loc), WP D ad cI σ τ v H1 → va_S A H0 H1 locs1 → W p l e R s m args below meth c H1 locs1 cells slots Q (F0 m (pc + 3) ls rest)) : W p l e R s m args below meth c H locs cells slots Q (F0 m pc ls (.long v :: .ref (ad 29) :: rest)) := by
  have hw : (WW ad cI σ τ h)[29]? = some (ad 29, .inr (ci, fs)) := by
    rw [WW_get 29 (by decide), ee, if_neg (by decide), if_pos rfl, he]
  refine va_put hx hb hts hin ty0 hty hnm hown hK.1 hP (hd.D.weaken (fun _ _ _ hh => hA _ hh)) hS 29 hw hc k hk hlink (fun x h9 => by rw [hsame]; exact h9) hfin hdd rfl rfl hl hdg (fun H1 locs1 hP1 _ hS1 => kk H1 locs1 ?_ hS1)
  rw [WW_set (σ' := σ) (τ' := τ) (h' := v) 29 (by decide) (by rw [ee, if_neg (by decide), if_pos rfl, he2]) ee_Ho] at hP1
  exact hP1
theorem r_cpyC (hx : p.tables.exec = Jvm.exec) (hb : c.code = cc) (hml : c.maxLocals = ls.size) {own : String} {index : Nat} (hown : s.vm.findClass own = some m.cls) (hlink : (Cond.methodLink own index arraycopyName).before args s = true) (hnat : (Cond.native arraycopyName).before args s = true) (hstat : (Cond.static arraycopyName).before args s = true) (hini : (Cond.initialized "java/lang/System").before args s = true)
    (hK : KK D cI s) (hd : HD ad) (hA : ∀ q, AA ad q → A q) (hP : WP D ad cI σ τ h H) (hS : va_S A H0 H locs) (q0 q1 N : Nat) (hq0 : q0 < 29) (hq1 : q1 < 29) (he0 : ∀ f, eC ad cI q0 f = .inl (cI, N, .inl f)) (he1 : ∀ f, eC ad cI q1 f = .inl (cI, N, .inl f)) {n : Int32} (h3 : ¬ n < 0) (hn : n.toNatClampNeg = N)
    (hframes : 1 ≤ R.frames) (hlocals : (rest.map fun v => v.category).sum + (nativeFrameWords "java/lang/System" "arraycopy" 5 + 11) ≤ R.locals) (hdg : decode cc pc = .ok (.invokestatic index, 3))
    (kk : ∀ (H1 : Heap) (locs1 : List Loc), WP D ad cI (sc σ q0 q1 N) τ h H1 → va_S A H0 H1 locs1 → W p l e R s m args below meth c H1 locs1 cells slots Q (F0 m (pc + 3) ls rest)) : W p l e R s m args below meth c H locs cells slots Q (F0 m pc ls (.int n :: .int 0 :: .ref (ad q1) :: .int 0 :: .ref (ad q0) :: rest)) := by
  have hw0 : (WW ad cI σ τ h)[q0]? = some (ad q0, .inl (cI, N, .inl (σ q0))) := by
    rw [WW_get q0 (by omega), ee, if_pos hq0, he0]
  have hw1 : (WW ad cI σ τ h)[q1]? = some (ad q1, .inl (cI, N, .inl (σ q1))) := by
    rw [WW_get q1 (by omega), ee, if_pos hq1, he1]
  refine va_copyi hx hb hml hown hlink hnat hstat hini hK.1 hP (hd.D.weaken (fun _ _ _ hh => hA _ hh)) hS q0 q1 0 0 (ty := .int) hw0 hw1 rfl rfl rfl (by decide) (by decide) h3 (by rw [hn]; simp) (by rw [hn]; simp) (fun _ _ => rfl) hframes hlocals hdg (fun H1 locs1 hP1 _ hS1 => kk H1 locs1 ?_ hS1)
  rw [WW_set (σ' := sc σ q0 q1 N) (τ' := τ) (h' := h) q1 (by omega) (by rw [sc, ee_C hq1, he1, hn]; rfl) ee_Co] at hP1
  exact hP1
/-! calls -/
variable {y : MethodName} {bytes : ByteArray} {maxL nL n index ci b : Nat} {ws : List Cond} {rm : Room} {Ts : List Cond} {own C : String} {As : List Value} {σ' τ' : St} {h' : Int64} {fs : List Value} {q : vw_C} {ret : Option FieldType} {st0 : List Value}
theorem preV (hK : KK D cI s) (hP : WP D ad cI σ τ h H) (hc : vwCl[ci]? = some q) (he : (WW ad cI σ τ h)[b]? = some (ad b, .inr (ci, fs))) : PreV s H q.1 (ad b) (PcW D ad cI (.ref (ad b) :: As) σ τ h) As :=
  ⟨PcW.blind, va_recv hK.1 hP hc he, fun U hU hW => ⟨rfl, by rw [hU]; exact hP, hK.warm hW⟩⟩
theorem preS (hK : KK D cI s) (hP : WP D ad cI σ τ h H) : PreS s H (PcW D ad cI As σ τ h) As :=
  ⟨PcW.blind, fun U hU hW => ⟨rfl, by rw [hU]; exact hP, hK.warm hW⟩⟩
theorem c_Vi {r : Int32} (S : CallFix p m c cc nL s args Ts own) (hM : MI l y ws rm D ad cI (.ref (ad b) :: As) σ τ h r σ' τ' h') (cw : CallW R s args own q.1 index y bytes maxL ret ws rm 0 0 n) (hK : KK D cI s) (hP : WP D ad cI σ τ h H) (hc : vwCl[ci]? = some q) (he : (WW ad cI σ τ h)[b]? = some (ad b, .inr (ci, fs))) (hA : ∀ q, AA ad q → A q) (hS : va_S A H0 H locs) (hn : As.length = n) (hsize : ls.size = nL) (hst : st0 = As.reverse ++ .ref (ad b) :: rest) (hroom : (rest.map fun v => v.category).sum ≤ 8) (hdg : decode cc pc = .ok (.invokevirtual index, 3)) (hf : cells ≤ R.cells ∧ slots ≤ R.slots)
    (kk : ∀ (H1 : Heap) (locs1 : List Loc), WP D ad cI σ' τ' h' H1 → va_S A H0 H1 locs1 → W p l e R s m args below meth c H1 locs1 cells slots Q (F0 m (pc + 3) ls (.int r :: rest))) : W p l e R s m args below meth c H locs cells slots Q (F0 m pc ls st0) :=
  va_calli (va_runV (g := F0 m pc ls st0) (As := As) (rest := rest) S hM cw (preV hK hP hc he) rfl hn hsize hst (lv_room hroom) hdg hf) hS (fun _ _ h => hA _ h) (fun _ h => hA _ h) (fun r1 u t H1 locs1 ht hvm hw hB hz1 hk1 hS => by
    subst hw
    rw [ht] at hB
    exact kk H1 locs1 hB hS)
theorem c_Vz {r : Int32} (S : CallFix p m c cc nL s args Ts own) (hM : MZ l y ws rm D ad cI (.ref (ad b) :: As) σ τ h r σ' τ' h') (cw : CallW R s args own q.1 index y bytes maxL ret ws rm 0 0 n) (hK : KK D cI s) (hP : WP D ad cI σ τ h H) (hc : vwCl[ci]? = some q) (he : (WW ad cI σ τ h)[b]? = some (ad b, .inr (ci, fs))) (hA : ∀ q, AA ad q → A q) (hS : va_S A H0 H locs) (hn : As.length = n) (hsize : ls.size = nL) (hst : st0 = As.reverse ++ .ref (ad b) :: rest) (hroom : (rest.map fun v => v.category).sum ≤ 8) (hdg : decode cc pc = .ok (.invokevirtual index, 3)) (hf : cells ≤ R.cells ∧ slots ≤ R.slots)
    (kk : ∀ (H1 : Heap) (locs1 : List Loc), (r = 0 ∨ r = 1) → WP D ad cI σ' τ' h' H1 → va_S A H0 H1 locs1 → W p l e R s m args below meth c H1 locs1 cells slots Q (F0 m (pc + 3) ls (.int r :: rest))) : W p l e R s m args below meth c H locs cells slots Q (F0 m pc ls st0) :=
  va_calli (va_runV (g := F0 m pc ls st0) (As := As) (rest := rest) S hM cw (preV hK hP hc he) rfl hn hsize hst (lv_room hroom) hdg hf) hS (fun _ _ h => hA _ h) (fun _ h => hA _ h) (fun r1 u t H1 locs1 ht hvm hw hB hz1 hk1 hS => by
    obtain ⟨e1, e2⟩ := hw
    subst e1
    rw [ht] at hB
    exact kk H1 locs1 e2 hB hS)
theorem c_Vl {r : Int64} (S : CallFix p m c cc nL s args Ts own) (hM : ML l y ws rm D ad cI (.ref (ad b) :: As) σ τ h r σ' τ' h') (cw : CallW R s args own q.1 index y bytes maxL ret ws rm 0 0 n) (hK : KK D cI s) (hP : WP D ad cI σ τ h H) (hc : vwCl[ci]? = some q) (he : (WW ad cI σ τ h)[b]? = some (ad b, .inr (ci, fs))) (hA : ∀ q, AA ad q → A q) (hS : va_S A H0 H locs) (hn : As.length = n) (hsize : ls.size = nL) (hst : st0 = As.reverse ++ .ref (ad b) :: rest) (hroom : (rest.map fun v => v.category).sum ≤ 8) (hdg : decode cc pc = .ok (.invokevirtual index, 3)) (hf : cells ≤ R.cells ∧ slots ≤ R.slots)
    (kk : ∀ (H1 : Heap) (locs1 : List Loc), WP D ad cI σ' τ' h' H1 → va_S A H0 H1 locs1 → W p l e R s m args below meth c H1 locs1 cells slots Q (F0 m (pc + 3) ls (.long r :: rest))) : W p l e R s m args below meth c H locs cells slots Q (F0 m pc ls st0) :=
  va_calll (va_runV (g := F0 m pc ls st0) (As := As) (rest := rest) S hM cw (preV hK hP hc he) rfl hn hsize hst (lv_room hroom) hdg hf) hS (fun _ _ h => hA _ h) (fun _ h => hA _ h) (fun r1 u t H1 locs1 ht hvm hw hB hz1 hk1 hS => by
    subst hw
    rw [ht] at hB
    exact kk H1 locs1 hB hS)
theorem c_Vv (S : CallFix p m c cc nL s args Ts own) (hM : MV l y ws rm D ad cI (.ref (ad b) :: As) σ τ h σ' τ' h') (cw : CallW R s args own q.1 index y bytes maxL ret ws rm 0 0 n) (hK : KK D cI s) (hP : WP D ad cI σ τ h H) (hc : vwCl[ci]? = some q) (he : (WW ad cI σ τ h)[b]? = some (ad b, .inr (ci, fs))) (hA : ∀ q, AA ad q → A q) (hS : va_S A H0 H locs) (hn : As.length = n) (hsize : ls.size = nL) (hst : st0 = As.reverse ++ .ref (ad b) :: rest) (hroom : (rest.map fun v => v.category).sum ≤ 8) (hdg : decode cc pc = .ok (.invokevirtual index, 3)) (hf : cells ≤ R.cells ∧ slots ≤ R.slots)
    (kk : ∀ (H1 : Heap) (locs1 : List Loc), WP D ad cI σ' τ' h' H1 → va_S A H0 H1 locs1 → W p l e R s m args below meth c H1 locs1 cells slots Q (F0 m (pc + 3) ls rest)) : W p l e R s m args below meth c H locs cells slots Q (F0 m pc ls st0) :=
  va_callv (va_runV (g := F0 m pc ls st0) (As := As) (rest := rest) S hM cw (preV hK hP hc he) rfl hn hsize hst (lv_room hroom) hdg hf) hS (fun _ _ h => hA _ h) (fun _ h => hA _ h) (fun u t H1 locs1 ht hvm hw hB hz1 hk1 hS => by
    rw [ht] at hB
    exact kk H1 locs1 hB hS)
theorem c_Si {r : Int32} (S : CallFix p m c cc nL s args Ts own) (hM : MI l y ws rm D ad cI As σ τ h r σ' τ' h') (cw : CallB R s args own index y bytes maxL ret ws rm 0 0 n ∧ (Cond.static y).before args s = true) (hK : KK D cI s) (hP : WP D ad cI σ τ h H) (hA : ∀ q, AA ad q → A q) (hS : va_S A H0 H locs) (hn : As.length = n) (hsize : ls.size = nL) (hst : st0 = As.reverse ++ rest) (hroom : (rest.map fun v => v.category).sum ≤ 8) (hdg : decode cc pc = .ok (.invokestatic index, 3)) (hf : cells ≤ R.cells ∧ slots ≤ R.slots)
    (kk : ∀ (H1 : Heap) (locs1 : List Loc), WP D ad cI σ' τ' h' H1 → va_S A H0 H1 locs1 → W p l e R s m args below meth c H1 locs1 cells slots Q (F0 m (pc + 3) ls (.int r :: rest))) : W p l e R s m args below meth c H locs cells slots Q (F0 m pc ls st0) :=
  va_calli (va_runS (g := F0 m pc ls st0) (As := As) (rest := rest) S hM cw (preS hK hP) rfl hn hsize hst (lv_room hroom) hdg hf) hS (fun _ _ h => hA _ h) (fun _ h => hA _ h) (fun r1 u t H1 locs1 ht hvm hw hB hz1 hk1 hS => by
    subst hw
    rw [ht] at hB
    exact kk H1 locs1 hB hS)
theorem c_Sz {r : Int32} (S : CallFix p m c cc nL s args Ts own) (hM : MZ l y ws rm D ad cI As σ τ h r σ' τ' h') (cw : CallB R s args own index y bytes maxL ret ws rm 0 0 n ∧ (Cond.static y).before args s = true) (hK : KK D cI s) (hP : WP D ad cI σ τ h H) (hA : ∀ q, AA ad q → A q) (hS : va_S A H0 H locs) (hn : As.length = n) (hsize : ls.size = nL) (hst : st0 = As.reverse ++ rest) (hroom : (rest.map fun v => v.category).sum ≤ 8) (hdg : decode cc pc = .ok (.invokestatic index, 3)) (hf : cells ≤ R.cells ∧ slots ≤ R.slots)
    (kk : ∀ (H1 : Heap) (locs1 : List Loc), (r = 0 ∨ r = 1) → WP D ad cI σ' τ' h' H1 → va_S A H0 H1 locs1 → W p l e R s m args below meth c H1 locs1 cells slots Q (F0 m (pc + 3) ls (.int r :: rest))) : W p l e R s m args below meth c H locs cells slots Q (F0 m pc ls st0) :=
  va_calli (va_runS (g := F0 m pc ls st0) (As := As) (rest := rest) S hM cw (preS hK hP) rfl hn hsize hst (lv_room hroom) hdg hf) hS (fun _ _ h => hA _ h) (fun _ h => hA _ h) (fun r1 u t H1 locs1 ht hvm hw hB hz1 hk1 hS => by
    obtain ⟨e1, e2⟩ := hw
    subst e1
    rw [ht] at hB
    exact kk H1 locs1 e2 hB hS)
theorem c_Sl {r : Int64} (S : CallFix p m c cc nL s args Ts own) (hM : ML l y ws rm D ad cI As σ τ h r σ' τ' h') (cw : CallB R s args own index y bytes maxL ret ws rm 0 0 n ∧ (Cond.static y).before args s = true) (hK : KK D cI s) (hP : WP D ad cI σ τ h H) (hA : ∀ q, AA ad q → A q) (hS : va_S A H0 H locs) (hn : As.length = n) (hsize : ls.size = nL) (hst : st0 = As.reverse ++ rest) (hroom : (rest.map fun v => v.category).sum ≤ 8) (hdg : decode cc pc = .ok (.invokestatic index, 3)) (hf : cells ≤ R.cells ∧ slots ≤ R.slots)
    (kk : ∀ (H1 : Heap) (locs1 : List Loc), WP D ad cI σ' τ' h' H1 → va_S A H0 H1 locs1 → W p l e R s m args below meth c H1 locs1 cells slots Q (F0 m (pc + 3) ls (.long r :: rest))) : W p l e R s m args below meth c H locs cells slots Q (F0 m pc ls st0) :=
  va_calll (va_runS (g := F0 m pc ls st0) (As := As) (rest := rest) S hM cw (preS hK hP) rfl hn hsize hst (lv_room hroom) hdg hf) hS (fun _ _ h => hA _ h) (fun _ h => hA _ h) (fun r1 u t H1 locs1 ht hvm hw hB hz1 hk1 hS => by
    subst hw
    rw [ht] at hB
    exact kk H1 locs1 hB hS)
theorem c_Sv (S : CallFix p m c cc nL s args Ts own) (hM : MV l y ws rm D ad cI As σ τ h σ' τ' h') (cw : CallB R s args own index y bytes maxL ret ws rm 0 0 n ∧ (Cond.static y).before args s = true) (hK : KK D cI s) (hP : WP D ad cI σ τ h H) (hA : ∀ q, AA ad q → A q) (hS : va_S A H0 H locs) (hn : As.length = n) (hsize : ls.size = nL) (hst : st0 = As.reverse ++ rest) (hroom : (rest.map fun v => v.category).sum ≤ 8) (hdg : decode cc pc = .ok (.invokestatic index, 3)) (hf : cells ≤ R.cells ∧ slots ≤ R.slots)
    (kk : ∀ (H1 : Heap) (locs1 : List Loc), WP D ad cI σ' τ' h' H1 → va_S A H0 H1 locs1 → W p l e R s m args below meth c H1 locs1 cells slots Q (F0 m (pc + 3) ls rest)) : W p l e R s m args below meth c H locs cells slots Q (F0 m pc ls st0) :=
  va_callv (va_runS (g := F0 m pc ls st0) (As := As) (rest := rest) S hM cw (preS hK hP) rfl hn hsize hst (lv_room hroom) hdg hf) hS (fun _ _ h => hA _ h) (fun _ h => hA _ h) (fun u t H1 locs1 ht hvm hw hB hz1 hk1 hS => by
    rw [ht] at hB
    exact kk H1 locs1 hB hS)
theorem c_Ni {host : String} {r : Int32} (S : CallFix p m c cc nL s args Ts own) (hM : MI l y ws rm D ad cI As σ τ h r σ' τ' h') (cw : va_CN R s args own index y host bytes maxL ret ws rm 0 0 n ∧ (Cond.static y).before args s = true ∧ True) (hK : KK D cI s) (hP : WP D ad cI σ τ h H) (hA : ∀ q, AA ad q → A q) (hS : va_S A H0 H locs) (hn : As.length = n) (hsize : ls.size = nL) (hst : st0 = As.reverse ++ rest) (hroom : (rest.map fun v => v.category).sum ≤ 8) (hdg : decode cc pc = .ok (.invokestatic index, 3)) (hf : cells ≤ R.cells ∧ slots ≤ R.slots)
    (kk : ∀ (H1 : Heap) (locs1 : List Loc), WP D ad cI σ' τ' h' H1 → va_S A H0 H1 locs1 → W p l e R s m args below meth c H1 locs1 cells slots Q (F0 m (pc + 3) ls (.int r :: rest))) : W p l e R s m args below meth c H locs cells slots Q (F0 m pc ls st0) :=
  va_calli (va_runSN (g := F0 m pc ls st0) (As := As) (rest := rest) S hM cw (preS hK hP) rfl hn hsize hst (lv_room hroom) hdg hf) hS (fun _ _ h => hA _ h) (fun _ h => hA _ h) (fun r1 u t H1 locs1 ht hvm hw hB hz1 hk1 hS => by
    subst hw
    rw [ht] at hB
    exact kk H1 locs1 hB hS)
theorem c_Nz {host : String} {r : Int32} (S : CallFix p m c cc nL s args Ts own) (hM : MZ l y ws rm D ad cI As σ τ h r σ' τ' h') (cw : va_CN R s args own index y host bytes maxL ret ws rm 0 0 n ∧ (Cond.static y).before args s = true ∧ True) (hK : KK D cI s) (hP : WP D ad cI σ τ h H) (hA : ∀ q, AA ad q → A q) (hS : va_S A H0 H locs) (hn : As.length = n) (hsize : ls.size = nL) (hst : st0 = As.reverse ++ rest) (hroom : (rest.map fun v => v.category).sum ≤ 8) (hdg : decode cc pc = .ok (.invokestatic index, 3)) (hf : cells ≤ R.cells ∧ slots ≤ R.slots)
    (kk : ∀ (H1 : Heap) (locs1 : List Loc), (r = 0 ∨ r = 1) → WP D ad cI σ' τ' h' H1 → va_S A H0 H1 locs1 → W p l e R s m args below meth c H1 locs1 cells slots Q (F0 m (pc + 3) ls (.int r :: rest))) : W p l e R s m args below meth c H locs cells slots Q (F0 m pc ls st0) :=
  va_calli (va_runSN (g := F0 m pc ls st0) (As := As) (rest := rest) S hM cw (preS hK hP) rfl hn hsize hst (lv_room hroom) hdg hf) hS (fun _ _ h => hA _ h) (fun _ h => hA _ h) (fun r1 u t H1 locs1 ht hvm hw hB hz1 hk1 hS => by
    obtain ⟨e1, e2⟩ := hw
    subst e1
    rw [ht] at hB
    exact kk H1 locs1 e2 hB hS)
theorem c_Nl {host : String} {r : Int64} (S : CallFix p m c cc nL s args Ts own) (hM : ML l y ws rm D ad cI As σ τ h r σ' τ' h') (cw : va_CN R s args own index y host bytes maxL ret ws rm 0 0 n ∧ (Cond.static y).before args s = true ∧ True) (hK : KK D cI s) (hP : WP D ad cI σ τ h H) (hA : ∀ q, AA ad q → A q) (hS : va_S A H0 H locs) (hn : As.length = n) (hsize : ls.size = nL) (hst : st0 = As.reverse ++ rest) (hroom : (rest.map fun v => v.category).sum ≤ 8) (hdg : decode cc pc = .ok (.invokestatic index, 3)) (hf : cells ≤ R.cells ∧ slots ≤ R.slots)
    (kk : ∀ (H1 : Heap) (locs1 : List Loc), WP D ad cI σ' τ' h' H1 → va_S A H0 H1 locs1 → W p l e R s m args below meth c H1 locs1 cells slots Q (F0 m (pc + 3) ls (.long r :: rest))) : W p l e R s m args below meth c H locs cells slots Q (F0 m pc ls st0) :=
  va_calll (va_runSN (g := F0 m pc ls st0) (As := As) (rest := rest) S hM cw (preS hK hP) rfl hn hsize hst (lv_room hroom) hdg hf) hS (fun _ _ h => hA _ h) (fun _ h => hA _ h) (fun r1 u t H1 locs1 ht hvm hw hB hz1 hk1 hS => by
    subst hw
    rw [ht] at hB
    exact kk H1 locs1 hB hS)
end RW
