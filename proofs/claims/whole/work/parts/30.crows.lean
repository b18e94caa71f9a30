theorem vD1 {h0 : Nat} {w0 : va_E} {sz : Nat} : va_D (va_A [(h0, w0)] sz) [(h0, w0)] := by
  refine ⟨fun i j p q hi hj _ => ?_, fun k q hk => va_A.in hk⟩
  have h1 : i < 1 := (List.getElem?_eq_some_iff.mp hi).1
  have h2 : j < 1 := (List.getElem?_eq_some_iff.mp hj).1
  omega
theorem mk_c {l : Launch} {y : MethodName} {cc : ByteArray} {rm : Room} {D : va_G} {cI : ClassId} {h0 sz : Nat} {w0 : va_E} {own : String} {mc ms : Nat} {PB : (Nat → Prop) → Heap → Prop} (hy : plainFor y = true) (hcls : y.cls = own) (hnm : y.name = "<init>")
    (body : ∀ (p : Program) (e : Env) (s : State) (m : MethodId) (args : Array Value) (below : List Frame) (meth : Method) (c : Code) (Q : State → Prop) (ls : Array Slot) (A : Nat → Prop), p.tables.exec = Jvm.exec → c.code = cc → c.maxLocals = 1 → s.vm.findClass own = some m.cls → (∀ w ∈ TBL, w.before args s = true) → KK D cI s → meth.name = "<init>" → (∀ q, s.heap.size ≤ q → A q) →
      (∀ (H : Heap) (locs : List Loc) (pc : Nat) (ls : Array Slot), decode cc pc = .ok (.return_, 1) → PB A H → va_S A s.heap H locs → W p l e rm s m args below meth c H locs mc ms Q (F0 m pc ls [])) →
      va_P D vwCl [(h0, w0)] s.heap → va_D A [(h0, w0)] → va_S A s.heap s.heap [] → lv_has ls 1 [(0, .ref h0)] → W p l e rm s m args below meth c s.heap [] 0 0 Q (F0 m 0 ls [])) :
    Met l y (wy y cc 1 none) rm (va_Pc [.ref h0] (fun U => U.heap.size = sz ∧ va_P D vwCl [(h0, w0)] U.heap ∧ KK D cI U)) (va_Qv (fun (_ : Unit) => True) (fun _ t => PB (va_A [(h0, w0)] sz) t.heap) (va_A [(h0, w0)] sz)) mc ms (va_A [(h0, w0)] sz) := by
  refine va_MetF (cc := cc) (maxL := 1) (ret := none) hy rfl ?_
  intro p e s m args below meth c s₁ B hml hv
  obtain ⟨rfl, hsz, hP, hK⟩ := hv
  subst hsz
  have hts := atoms_spec (ws := wy y cc 1 none) B.pre
  have hown : s.vm.findClass own = some m.cls := hcls ▸ findClass_of_methodNamed B.named
  have hlocks := B.notSynchronized
  have hin : meth.name = "<init>" := (name_of_methodNamed B.named B.method).1.trans hnm
  have hl := lv_entry ([.ref h0]) (n := 1) (Nat.le_of_ble_eq_true rfl)
  rw [lg_entry_eq]
  exact body p e s m _ below meth c _ _ (va_A [(h0, w0)] s.heap.size) B.exec B.bytes hml hown (fun w hw => hts w (wy_sub w hw)) hK hin (fun q h => Or.inr h) (fun H locs pc ls hd hP1 hS => by
    exact W.vret B.exec B.bytes B.returns (fun t ht hW => ⟨⟨(), rfl, trivial, by show PB _ t.heap; rw [ht]; exact hP1⟩, hS.F ht⟩) hS.2.2 hd) hP vD1 va_S.rf hl
section RC
variable {p : Program} {l : Launch} {e : Env} {R : Room} {s : State} {m : MethodId} {args : Array Value} {below : List Frame} {meth : Method} {c : Code} {H : Heap} {locs : List Loc} {cells slots : Nat} {Q : State → Prop}
variable {cc : ByteArray} {pc : Nat} {ls : Array Slot} {rest : List Value} {D : va_G} {cI : ClassId} {H0 : Heap} {A : Nat → Prop}
theorem r_newa (hx : p.tables.exec = Jvm.exec) (hb : c.code = cc) (harr : (Cond.arrayClass .int).before args s = true) (hK : KK D cI s) {ws : va_W} (hP : va_P D vwCl ws H) (hD : va_D A ws) (hS : va_S A H0 H locs) (hA : ∀ q, H0.size ≤ q → A q) {n : Int32} (N k' n' : Nat) (hn : ¬ n < 0) (hN : n.toNatClampNeg = N) (hbytes : N * componentBytes .int ≤ 536870912) (hk : cells + 1 = k') (hn' : slots + N = n') (hcells : k' ≤ R.cells) (hslots : n' ≤ R.slots) (hdg : decode cc pc = .ok (.newarray .int, 2))
    (kk : ∀ (q : Nat) (H1 : Heap), va_P D vwCl (ws ++ [(q, .inl (cI, N, .inl (fun _ => 0)))]) H1 → va_D A (ws ++ [(q, .inl (cI, N, .inl (fun _ => 0)))]) → va_S A H0 H1 locs → W p l e R s m args below meth c H1 locs k' n' Q (F0 m (pc + 2) ls (.ref q :: rest))) : W p l e R s m args below meth c H locs cells slots Q (F0 m pc ls (.int n :: rest)) := by
  subst hk
  subst hn'
  refine va_newa (atype := .int) hx hb harr rfl hK.1 hP hD hS hA (a0 := (N, .inl (fun _ => 0))) (fun _ => rfl) hn hN hbytes hcells hslots hdg (fun q cA H1 hK1 hP1 hD1 hS1 => ?_)
  have e1 : s.vm.findClass ("[" ++ FieldType.int.toString) = some cI := (hK1.2 0 _ rfl).2
  have e2 : s.vm.findClass ("[" ++ FieldType.int.toString) = some cA := (hK1.2 1 _ rfl).2
  have e3 : cA = cI := Option.some.inj (e2.symm.trans e1)
  subst e3
  exact kk q H1 hP1 hD1 hS1
theorem r_new (hx : p.tables.exec = Jvm.exec) (hb : c.code = cc) {own C : String} {T : u_T} {N ci index : Nat} (htb : ∀ w ∈ TBL, w.before args s = true) (hin : ∀ w ∈ u_ws C T N, w ∈ TBL) (ty : Nat → FieldType) (hty : ∀ k, k < N → parseFieldDescriptor (T k).2.2.1 = some (ty k)) (hown : s.vm.findClass own = some m.cls) (hcl : (Cond.classLink own index C).before args s = true) (hinst : (Cond.instantiable C N).before args s = true) (hini : (Cond.initialized C).before args s = true)
    (hK : KK D cI s) {ws : va_W} (hP : va_P D vwCl ws H) (hD : va_D A ws) (hS : va_S A H0 H locs) (hA : ∀ q, H0.size ≤ q → A q) (hc : vwCl[ci]? = some (C, T, N)) {fs : List Value} (hfs : ∀ j, j < N → defaultValue (ty j) = vp_V fs j) (k' n' : Nat) (hk : cells + 1 = k') (hn' : slots + N = n') (hcells : k' ≤ R.cells) (hslots : n' ≤ R.slots) (hdg : decode cc pc = .ok (.new index, 3))
    (kk : ∀ (q : Nat) (H1 : Heap), va_P D vwCl (ws ++ [(q, .inr (ci, fs))]) H1 → va_D A (ws ++ [(q, .inr (ci, fs))]) → va_S A H0 H1 locs → W p l e R s m args below meth c H1 locs k' n' Q (F0 m (pc + 3) ls (.ref q :: rest))) : W p l e R s m args below meth c H locs cells slots Q (F0 m pc ls rest) := by
  subst hk
  subst hn'
  exact va_new hx hb htb hin ty hty hown hcl hinst hini hK.1 hP hD hS hA hc hfs hcells hslots hdg kk
variable {y : MethodName} {bytes : ByteArray} {index : Nat} {rm : Room} {own host : String} {a : Nat} {w0 : va_E} {ws wr : va_W} {mc ms : Nat} {PB : (Nat → Prop) → Heap → Prop}
theorem c_CN (S : CallFix p m c cc ls.size s args TBL own) (hM : ∀ sz, Met l y (wy y bytes 1 none) rm (va_Pc [.ref a] (fun U => U.heap.size = sz ∧ va_P D vwCl [(a, w0)] U.heap ∧ KK D cI U)) (va_Qv (fun (_ : Unit) => True) (fun _ t => PB (va_A [(a, w0)] sz) t.heap) (va_A [(a, w0)] sz)) mc ms (va_A [(a, w0)] sz)) (cw : va_CN R s args own index y host bytes 1 none (wy y bytes 1 none) rm mc ms 0 ∧ y.name = "<init>" ∧ (Cond.instanceMethod y).before args s = true)
    (hK : KK D cI s) (hP : va_P D vwCl ws H) (hD : va_D A ws) (hS : va_S A H0 H locs) (hA : ∀ q, H0.size ≤ q → A q) (j : Nat) (hj : [j].map (fun i => ws[i]?) = [(a, w0)].map some) (isR : List Nat) (hR : isR.map (fun i => ws[i]?) = wr.map some) (hn : va_nd isR = true) (hdis : ∀ i ∈ isR, i ∉ [j]) (hroom : (rest.map fun v => v.category).sum ≤ 8) (hdg : decode cc pc = .ok (.invokespecial index, 3)) (k' n' : Nat) (hk : cells + mc = k') (hn' : slots + ms = n') (hcells : k' ≤ R.cells) (hslots : n' ≤ R.slots)
    (kk : ∀ (H1 : Heap) (locs1 : List Loc) (A1 : Nat → Prop), PB A1 H1 → (∀ w1, va_P D vwCl w1 H1 → va_D A1 w1 → va_P D vwCl (wr ++ w1) H1 ∧ va_D A (wr ++ w1)) → va_S A H0 H1 locs1 → W p l e R s m args below meth c H1 locs1 k' n' Q (F0 m (pc + 3) ls rest)) : W p l e R s m args below meth c H locs cells slots Q (F0 m pc ls (.ref a :: rest)) := by
  subst hk
  subst hn'
  have hFc := va_free (wc := [(a, w0)]) hD hS hA [j] hj
  have hPc : va_P D vwCl [(a, w0)] H := fun k q hq => by
    have hk : k < 1 := (List.getElem?_eq_some_iff.mp hq).1
    have hk0 : k = 0 := by omega
    subst hk0
    cases hq
    have h1 : ws[j]? = some (a, w0) := by simpa using hj
    exact hP j _ h1
  refine va_callv (va_runIN (As := []) (rest := rest) S (hM H.size) cw ⟨fun a U g mk q => ⟨q.1, q.2.1, q.2.2.1, q.2.2.2.call g mk a⟩, fun U hU hW => ⟨rfl, by rw [hU], by rw [hU]; exact hPc, hK.warm hW⟩⟩ rfl rfl rfl rfl (lv_room hroom) hdg ⟨hcells, hslots⟩) hS (fun q _ h => hFc q h) hFc (fun u t H1 locs1 ht hvm hw hB hz1 hk1 hS1 => ?_)
  rw [ht] at hB
  exact kk H1 locs1 _ hB (fun w1 h1 h2 => va_join hP hD [j] isR hj hR hn hdis hk1 hFc h1 h2) hS1
theorem c_CI (S : CallFix p m c cc ls.size s args TBL own) (hM : ∀ sz, Met l y (wy y bytes 1 none) rm (va_Pc [.ref a] (fun U => U.heap.size = sz ∧ va_P D vwCl [(a, w0)] U.heap ∧ KK D cI U)) (va_Qv (fun (_ : Unit) => True) (fun _ t => PB (va_A [(a, w0)] sz) t.heap) (va_A [(a, w0)] sz)) mc ms (va_A [(a, w0)] sz)) (cw : CallB R s args own index y bytes 1 none (wy y bytes 1 none) rm mc ms 0 ∧ y.name = "<init>" ∧ (Cond.instanceMethod y).before args s = true)
    (hK : KK D cI s) (hP : va_P D vwCl ws H) (hD : va_D A ws) (hS : va_S A H0 H locs) (hA : ∀ q, H0.size ≤ q → A q) (j : Nat) (hj : [j].map (fun i => ws[i]?) = [(a, w0)].map some) (isR : List Nat) (hR : isR.map (fun i => ws[i]?) = wr.map some) (hn : va_nd isR = true) (hdis : ∀ i ∈ isR, i ∉ [j]) (hroom : (rest.map fun v => v.category).sum ≤ 8) (hdg : decode cc pc = .ok (.invokespecial index, 3)) (k' n' : Nat) (hk : cells + mc = k') (hn' : slots + ms = n') (hcells : k' ≤ R.cells) (hslots : n' ≤ R.slots)
    (kk : ∀ (H1 : Heap) (locs1 : List Loc) (A1 : Nat → Prop), PB A1 H1 → (∀ w1, va_P D vwCl w1 H1 → va_D A1 w1 → va_P D vwCl (wr ++ w1) H1 ∧ va_D A (wr ++ w1)) → va_S A H0 H1 locs1 → W p l e R s m args below meth c H1 locs1 k' n' Q (F0 m (pc + 3) ls rest)) : W p l e R s m args below meth c H locs cells slots Q (F0 m pc ls (.ref a :: rest)) := by
  subst hk
  subst hn'
  have hFc := va_free (wc := [(a, w0)]) hD hS hA [j] hj
  have hPc : va_P D vwCl [(a, w0)] H := fun k q hq => by
    have hk : k < 1 := (List.getElem?_eq_some_iff.mp hq).1
    have hk0 : k = 0 := by omega
    subst hk0
    cases hq
    have h1 : ws[j]? = some (a, w0) := by simpa using hj
    exact hP j _ h1
  refine va_callv (va_runI (As := []) (rest := rest) S (hM H.size) cw ⟨fun a U g mk q => ⟨q.1, q.2.1, q.2.2.1, q.2.2.2.call g mk a⟩, fun U hU hW => ⟨rfl, by rw [hU], by rw [hU]; exact hPc, hK.warm hW⟩⟩ rfl rfl rfl rfl (lv_room hroom) hdg ⟨hcells, hslots⟩) hS (fun q _ h => hFc q h) hFc (fun u t H1 locs1 ht hvm hw hB hz1 hk1 hS1 => ?_)
  rw [ht] at hB
  exact kk H1 locs1 _ hB (fun w1 h1 h2 => va_join hP hD [j] isR hj hR hn hdis hk1 hFc h1 h2) hS1
end RC
