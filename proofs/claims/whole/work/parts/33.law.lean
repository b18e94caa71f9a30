def Sim_guest (Inv : St → St → Prop) : Prop := ∀ (σ τ : St) (x1 : Int32) (x2 : Int32), Inv σ τ → ∃ (r : Int32) (σ' : St) (τ' : St), X7_guest σ x1 x2 = some (r, σ') ∧ X8_guest τ x1 x2 = some (r, τ') ∧ Inv σ' τ'
def Sim_about (Inv : St → St → Prop) : Prop := ∀ (σ τ : St) (x1 : Int32) (x2 : Int32), Inv σ τ → ∃ (r : Int32) (τ' : St), X7_about σ x1 x2 = some r ∧ X8_about τ x1 x2 = some (r, τ') ∧ Inv σ τ'
def Sim_as (Inv : St → St → Prop) : Prop := ∀ (σ τ : St) (x1 : Int32) (x2 : Int32), Inv σ τ → ∃ (r : Int32), X7_as σ x1 x2 = some r ∧ X8_as τ x1 x2 = some r ∧ Inv σ τ
def Sim_sees (Inv : St → St → Prop) : Prop := ∀ (σ τ : St) (x1 : Int32) (x2 : Int32) (x3 : Int32) (x4 : Int32), Inv σ τ → ∃ (r : Int32) (σ' : St) (τ' : St), X7_sees σ x1 x2 x3 x4 = some (r, σ') ∧ X8_sees τ x1 x2 x3 x4 = some (r, τ') ∧ Inv σ' τ'
def Sim_tell (Inv : St → St → Prop) : Prop := ∀ (σ τ : St) (x1 : Int32) (x2 : Int32), Inv σ τ → ∃ (r : Int32) (σ' : St) (τ' : St), X7_tell σ x1 x2 = some (r, σ') ∧ X8_tell τ x1 x2 = some (r, τ') ∧ Inv σ' τ'
def Sim_letters (Inv : St → St → Prop) : Prop := ∀ (σ τ : St) (x1 : Int64), Inv σ τ → ∃ (r : Int32) (σ' : St) (τ' : St), X7_letters σ x1 = some (r, σ') ∧ X8_letters τ x1 = some (r, τ') ∧ Inv σ' τ'
def Sim_blank (Inv : St → St → Prop) : Prop := ∀ (σ τ : St), Inv σ τ → ∃ (r : Int32) (σ' : St) (τ' : St), X7_blank σ  = (r, σ') ∧ X8_blank τ  = (r, τ') ∧ Inv σ' τ'
def Sim_fault (Inv : St → St → Prop) : Prop := ∀ (σ τ : St), Inv σ τ → ∃ (r : Int32), X7_fault σ  = some r ∧ X8_fault τ  = some r ∧ Inv σ τ
def Sim_list (Inv : St → St → Prop) : Prop := ∀ (σ τ : St), Inv σ τ → ∃ (r : Int32) (σ' : St) (τ' : St), X7_list σ  = some (r, σ') ∧ X8_list τ  = some (r, τ') ∧ Inv σ' τ'
def Sim_meeting (Inv : St → St → Prop) : Prop := ∀ (σ τ : St) (x1 : Int32) (x2 : Int32), Inv σ τ → ∃ (r : Int32) (τ' : St), X7_meeting σ x1 x2 = some r ∧ X8_meeting τ x1 x2 = some (r, τ') ∧ Inv σ τ'
def Sim_known (Inv : St → St → Prop) : Prop := ∀ (σ τ : St) (x1 : Int32), Inv σ τ → ∃ (r : Int64) (τ' : St), X7_known σ x1 = some r ∧ X8_known τ x1 = some (r, τ') ∧ Inv σ τ'
def Sim_whose (Inv : St → St → Prop) : Prop := ∀ (σ τ : St) (x1 : Int32) (x2 : Int32), Inv σ τ → ∃ (r : Int64) (τ' : St), X7_whose σ x1 x2 = some r ∧ X8_whose τ x1 x2 = some (r, τ') ∧ Inv σ τ'
def Sim_right (Inv : St → St → Prop) : Prop := ∀ (σ τ : St), Inv σ τ → ∃ (r : Int32) (τ' : St), X7_right σ  = some r ∧ X8_right τ  = some (r, τ') ∧ Inv σ τ'
def Sim_best (Inv : St → St → Prop) : Prop := ∀ (σ τ : St) (x1 : Int32), Inv σ τ → ∃ (r : Int64) (σ' : St) (τ' : St), X7_best σ x1 = some (r, σ') ∧ X8_best τ x1 = some (r, τ') ∧ Inv σ' τ'
def Sim_hole (Inv : St → St → Prop) : Prop := ∀ (σ τ : St), Inv σ τ → ∃ (r : Int32) (σ' : St) (τ' : St), X7_hole σ  = some (r, σ') ∧ X8_hole τ  = some (r, τ') ∧ Inv σ' τ'
def Sim_latest (Inv : St → St → Prop) : Prop := ∀ (σ τ : St) (x1 : Int32), Inv σ τ → ∃ (r : Int32) (τ' : St), X7_latest σ x1 = some r ∧ X8_latest τ x1 = some (r, τ') ∧ Inv σ τ'
def Sim_story (Inv : St → St → Prop) : Prop := ∀ (σ τ : St) (x1 : Int32), Inv σ τ → ∃ (r : Int32) (σ' : St) (τ' : St), X7_story σ x1 = some (r, σ') ∧ X8_story τ x1 = some (r, τ') ∧ Inv σ' τ'
def Sim_clash (Inv : St → St → Prop) : Prop := ∀ (σ τ : St) (x1 : Int32) (x2 : Int32) (x3 : Int32), Inv σ τ → ∃ (r : Int32) (σ' : St) (τ' : St), X7_clash σ x1 x2 x3 = some (r, σ') ∧ X8_clash τ x1 x2 x3 = some (r, τ') ∧ Inv σ' τ'
def Sim_cover (Inv : St → St → Prop) : Prop := ∀ (σ τ : St) (x1 : Int32), Inv σ τ → ∃ (r : Int32) (τ' : St), X7_cover σ x1 = some r ∧ X8_cover τ x1 = some (r, τ') ∧ Inv σ τ'
def Sim_sign (Inv : St → St → Prop) : Prop := ∀ (σ τ : St) (x1 : Int32) (x2 : Int32), Inv σ τ → ∃ (r : Int32) (σ' : St) (τ' : St), X7_sign σ x1 x2 = some (r, σ') ∧ X8_sign τ x1 x2 = some (r, τ') ∧ Inv σ' τ'
def Sim_look (Inv : St → St → Prop) : Prop := ∀ (σ τ : St) (x1 : Int32) (x2 : Int32), Inv σ τ → ∃ (r : Int32) (σ' : St) (τ' : St), X7_look σ x1 x2 = some (r, σ') ∧ X8_look τ x1 x2 = some (r, τ') ∧ Inv σ' τ'
def Sim_belief (Inv : St → St → Prop) : Prop := ∀ (σ τ : St) (x1 : Int32) (x2 : Int32), Inv σ τ → ∃ (r : Int64), X7_belief σ x1 x2 = some r ∧ X8_belief τ x1 x2 = some r ∧ Inv σ τ
def Sim_parting (Inv : St → St → Prop) : Prop := ∀ (σ τ : St), Inv σ τ → ∃ (r : Int32), X7_parting σ  = some r ∧ X8_parting τ  = some r ∧ Inv σ τ
def Sim_quiet (Inv : St → St → Prop) : Prop := ∀ (σ τ : St) (x1 : Int32) (x2 : Int32) (x3 : Int32) (x4 : Int32), Inv σ τ → ∃ (r : Int64), X7_quiet  x1 x2 x3 x4 = some r ∧ X8_quiet  x1 x2 x3 x4 = some r ∧ Inv σ τ
def Sim_weeks (Inv : St → St → Prop) : Prop := ∀ (σ τ : St) (x1 : Int32) (x2 : Int32), Inv σ τ → ∃ (r : Int32) (τ' : St), X7_weeks σ x1 x2 = some r ∧ X8_weeks τ x1 x2 = some (r, τ') ∧ Inv σ τ'
def Sim_image (Inv : St → St → Prop) : Prop := ∀ (σ τ : St), Inv σ τ → ∃ (r : Int32) (σ' : St) (τ' : St), X7_image σ  = some (r, σ') ∧ X8_image τ  = some (r, τ') ∧ Inv σ' τ'
def Sim_restore (Inv : St → St → Prop) : Prop := ∀ (σ τ : St), Inv σ τ → ∃ (r : Int32) (σ' : St) (τ' : St), X7_restore σ  = some (r, σ') ∧ X8_restore τ  = some (r, τ') ∧ Inv σ' τ'
def Sim_count (Inv : St → St → Prop) : Prop := ∀ (σ τ : St) (x1 : Int32), Inv σ τ → ∃ (r : Int32) (τ' : St), X7_count σ x1 = some r ∧ X8_count τ x1 = some (r, τ') ∧ Inv σ τ'
def Sim_digest (Inv : St → St → Prop) : Prop := ∀ (σ τ : St) (η : Int64), Inv σ τ → ∃ (r : Int64) (σ' : St) (τ' : St) (η' : Int64), X7_digest σ  = some (r, σ') ∧ X8_digest τ η  = some (r, τ', η') ∧ Inv σ' τ'
def SimAll (Inv : St → St → Prop) : Prop := Sim_guest Inv ∧ Sim_about Inv ∧ Sim_as Inv ∧ Sim_sees Inv ∧ Sim_tell Inv ∧ Sim_letters Inv ∧ Sim_blank Inv ∧ Sim_fault Inv ∧ Sim_list Inv ∧ Sim_meeting Inv ∧ Sim_known Inv ∧ Sim_whose Inv ∧ Sim_right Inv ∧ Sim_best Inv ∧ Sim_hole Inv ∧ Sim_latest Inv ∧ Sim_story Inv ∧ Sim_clash Inv ∧ Sim_cover Inv ∧ Sim_sign Inv ∧ Sim_look Inv ∧ Sim_belief Inv ∧ Sim_parting Inv ∧ Sim_quiet Inv ∧ Sim_weeks Inv ∧ Sim_image Inv ∧ Sim_restore Inv ∧ Sim_count Inv ∧ Sim_digest Inv
set_option maxHeartbeats 4000000 in
set_option maxRecDepth 100000 in
theorem law_0 {p : Program} {e : Env} {s : State} {m : MethodId} {below : List Frame} {meth : Method} {c : Code} (l : Launch) {b L : Nat} {xs : Nat → Int32} (hL : L ≤ 2560) (C0 : lw_At p s m meth c b L xs) {Inv : St → St → Prop} (hSim : SimAll Inv) {D : va_G} {ad : Nat → Nat} {cI : ClassId} (hd : HD ad) (hK : KK D cI s) (hA : ∀ q, AA ad q → s.heap.size ≤ q) (j : Nat) (i1 : vp_in (nI j + (1 : Int32)) L) (i2 : vp_in (nI j + (2 : Int32)) L) (i3 : vp_in (nI j + (3 : Int32)) L) (i4 : vp_in (nI j + (4 : Int32)) L)
    (JJ : ∀ (H : Heap) (locs : List Loc) (ls : Array Slot) (σ τ : St) (η : Int64), Inv σ τ → WP D ad cI σ τ η H → va_S (fun q : Nat => s.heap.size ≤ q) s.heap H locs → lv_has ls 4 [(0, .ref b), (1, .ref (ad 0)), (2, .ref (ad 29)), (3, .int (nI j))] → W p l e room_1 s m #[Value.ref b] below meth c H locs 46 829 (lw_Z below #[Value.ref b] s) (F0 m 989 ls []))
    (H : Heap) (locs : List Loc) (ls : Array Slot) (σ τ : St) (η : Int64) (I : Inv σ τ) (hP : WP D ad cI σ τ η H) (hS : va_S (fun q : Nat => s.heap.size ≤ q) s.heap H locs) (hl : lv_has ls 4 [(0, .ref b), (1, .ref (ad 0)), (2, .ref (ad 29)), (3, .int (nI j))]) : W p l e room_1 s m #[Value.ref b] below meth c H locs 46 829 (lw_Z below #[Value.ref b] s) (F0 m 164 ls []) := by
  obtain ⟨hx, hb, hr, hml, hown, hts, hX, hbl, hlocks, hgv⟩ := id C0
  replace hown : s.vm.findClass RL = some m.cls := hown
  have htb : ∀ w ∈ TBL, w.before #[Value.ref b] s = true := fun w hw => hts w (List.mem_filter.mp hw).1
  have hbA : ¬ (fun q : Nat => s.heap.size ≤ q) b := Nat.not_le.mpr hbl
  obtain ⟨r, σ1, τ1, e1, e2, I1⟩ := hSim.1 σ τ (xs (nI j + (1 : Int32)).toNatClampNeg) (xs (nI j + (2 : Int32)).toNatClampNeg) I
  refine lv_aload_n hx hb dL_law_164 rfl (lv_at hl 1 rfl) ?_
  refine lv_aload_n hx hb dL_law_165 rfl (lv_at hl 0 rfl) ?_
  refine lv_iload_n hx hb dL_law_166 rfl (lv_at hl 3 rfl) ?_
  refine lv_iconst (v := (1 : Int32)) hx hb dL_law_167 (by decide) ?_
  refine lv_iadd hx hb dL_law_168 ?_
  refine va_sld hx hb hX hbl hbA hS i1 dL_law_169 ?_
  refine lv_aload_n hx hb dL_law_170 rfl (lv_at hl 0 rfl) ?_
  refine lv_iload_n hx hb dL_law_171 rfl (lv_at hl 3 rfl) ?_
  refine lv_iconst (v := (2 : Int32)) hx hb dL_law_172 (by decide) ?_
  refine lv_iadd hx hb dL_law_173 ?_
  refine va_sld hx hb hX hbl hbA hS i2 dL_law_174 ?_
  refine c_Vi (q := (RX7, TX7, 11)) (ci := 7) (b := 0) (As := [.int (xs (nI j + (1 : Int32)).toNatClampNeg), .int (xs (nI j + (2 : Int32)).toNatClampNeg)]) (rest := []) (A := fun q : Nat => s.heap.size ≤ q) ⟨hx, hb, hml, hown, htb⟩ (c_X7_guest l D ad cI hd σ τ η (xs (nI j + (1 : Int32)).toNatClampNeg) (xs (nI j + (2 : Int32)).toNatClampNeg) (r, σ1) e1) (cwV 2 htb (gdV (fun _ hh => hh) wML_RL_13 wIM_yX7_guest wSE_yX7_guest wI_RX7 wC_yX7_guest) rfl rfl rfl hd_X7_guest ⟨by decide, by decide⟩) hK hP rfl w_0 hA hS rfl hl.1 rfl (Nat.le_of_ble_eq_true rfl) dL_law_175 ⟨by decide, by decide⟩ (fun H locs hP hS => ?_)
  refine lv_aload_n hx hb dL_law_178 rfl (lv_at hl 2 rfl) ?_
  refine lv_aload_n hx hb dL_law_179 rfl (lv_at hl 0 rfl) ?_
  refine lv_iload_n hx hb dL_law_180 rfl (lv_at hl 3 rfl) ?_
  refine lv_iconst (v := (1 : Int32)) hx hb dL_law_181 (by decide) ?_
  refine lv_iadd hx hb dL_law_182 ?_
  refine va_sld hx hb hX hbl hbA hS i1 dL_law_183 ?_
  refine lv_aload_n hx hb dL_law_184 rfl (lv_at hl 0 rfl) ?_
  refine lv_iload_n hx hb dL_law_185 rfl (lv_at hl 3 rfl) ?_
  refine lv_iconst (v := (2 : Int32)) hx hb dL_law_186 (by decide) ?_
  refine lv_iadd hx hb dL_law_187 ?_
  refine va_sld hx hb hX hbl hbA hS i2 dL_law_188 ?_
  refine c_Vi (q := (RX8, TX8, 27)) (ci := 8) (b := 29) (As := [.int (xs (nI j + (1 : Int32)).toNatClampNeg), .int (xs (nI j + (2 : Int32)).toNatClampNeg)]) (rest := [.int r]) (A := fun q : Nat => s.heap.size ≤ q) ⟨hx, hb, hml, hown, htb⟩ (c_X8_guest l D ad cI hd σ1 τ η (xs (nI j + (1 : Int32)).toNatClampNeg) (xs (nI j + (2 : Int32)).toNatClampNeg) (r, τ1) e2) (cwV 2 htb (gdV (fun _ hh => hh) wML_RL_17 wIM_yX8_guest wSE_yX8_guest wI_RX8 wC_yX8_guest) rfl rfl rfl hd_X8_guest ⟨by decide, by decide⟩) hK hP rfl w_29 hA hS rfl hl.1 rfl (Nat.le_of_ble_eq_true rfl) dL_law_189 ⟨by decide, by decide⟩ (fun H locs hP hS => ?_)
  refine lv_icmp_eq (tgt := 989) hx hb dL_law_192 (by decide) (fun _ => ?_) (fun c8 => absurd rfl c8)
  exact JJ _ _ _ _ _ _ I1 hP hS hl
set_option maxHeartbeats 4000000 in
set_option maxRecDepth 100000 in
theorem law_1 {p : Program} {e : Env} {s : State} {m : MethodId} {below : List Frame} {meth : Method} {c : Code} (l : Launch) {b L : Nat} {xs : Nat → Int32} (hL : L ≤ 2560) (C0 : lw_At p s m meth c b L xs) {Inv : St → St → Prop} (hSim : SimAll Inv) {D : va_G} {ad : Nat → Nat} {cI : ClassId} (hd : HD ad) (hK : KK D cI s) (hA : ∀ q, AA ad q → s.heap.size ≤ q) (j : Nat) (i1 : vp_in (nI j + (1 : Int32)) L) (i2 : vp_in (nI j + (2 : Int32)) L) (i3 : vp_in (nI j + (3 : Int32)) L) (i4 : vp_in (nI j + (4 : Int32)) L)
    (JJ : ∀ (H : Heap) (locs : List Loc) (ls : Array Slot) (σ τ : St) (η : Int64), Inv σ τ → WP D ad cI σ τ η H → va_S (fun q : Nat => s.heap.size ≤ q) s.heap H locs → lv_has ls 4 [(0, .ref b), (1, .ref (ad 0)), (2, .ref (ad 29)), (3, .int (nI j))] → W p l e room_1 s m #[Value.ref b] below meth c H locs 46 829 (lw_Z below #[Value.ref b] s) (F0 m 989 ls []))
    (H : Heap) (locs : List Loc) (ls : Array Slot) (σ τ : St) (η : Int64) (I : Inv σ τ) (hP : WP D ad cI σ τ η H) (hS : va_S (fun q : Nat => s.heap.size ≤ q) s.heap H locs) (hl : lv_has ls 4 [(0, .ref b), (1, .ref (ad 0)), (2, .ref (ad 29)), (3, .int (nI j))]) : W p l e room_1 s m #[Value.ref b] below meth c H locs 46 829 (lw_Z below #[Value.ref b] s) (F0 m 197 ls []) := by
  obtain ⟨hx, hb, hr, hml, hown, hts, hX, hbl, hlocks, hgv⟩ := id C0
  replace hown : s.vm.findClass RL = some m.cls := hown
  have htb : ∀ w ∈ TBL, w.before #[Value.ref b] s = true := fun w hw => hts w (List.mem_filter.mp hw).1
  have hbA : ¬ (fun q : Nat => s.heap.size ≤ q) b := Nat.not_le.mpr hbl
  obtain ⟨r, τ1, e1, e2, I1⟩ := hSim.2.1 σ τ (xs (nI j + (1 : Int32)).toNatClampNeg) (xs (nI j + (2 : Int32)).toNatClampNeg) I
  refine lv_aload_n hx hb dL_law_197 rfl (lv_at hl 1 rfl) ?_
  refine lv_aload_n hx hb dL_law_198 rfl (lv_at hl 0 rfl) ?_
  refine lv_iload_n hx hb dL_law_199 rfl (lv_at hl 3 rfl) ?_
  refine lv_iconst (v := (1 : Int32)) hx hb dL_law_200 (by decide) ?_
  refine lv_iadd hx hb dL_law_201 ?_
  refine va_sld hx hb hX hbl hbA hS i1 dL_law_202 ?_
  refine lv_aload_n hx hb dL_law_203 rfl (lv_at hl 0 rfl) ?_
  refine lv_iload_n hx hb dL_law_204 rfl (lv_at hl 3 rfl) ?_
  refine lv_iconst (v := (2 : Int32)) hx hb dL_law_205 (by decide) ?_
  refine lv_iadd hx hb dL_law_206 ?_
  refine va_sld hx hb hX hbl hbA hS i2 dL_law_207 ?_
  refine c_Vi (q := (RX7, TX7, 11)) (ci := 7) (b := 0) (As := [.int (xs (nI j + (1 : Int32)).toNatClampNeg), .int (xs (nI j + (2 : Int32)).toNatClampNeg)]) (rest := []) (A := fun q : Nat => s.heap.size ≤ q) ⟨hx, hb, hml, hown, htb⟩ (c_X7_about l D ad cI hd σ τ η (xs (nI j + (1 : Int32)).toNatClampNeg) (xs (nI j + (2 : Int32)).toNatClampNeg) r e1) (cwV 2 htb (gdV (fun _ hh => hh) wML_RL_18 wIM_yX7_about wSE_yX7_about wI_RX7 wC_yX7_about) rfl rfl rfl hd_X7_about ⟨by decide, by decide⟩) hK hP rfl w_0 hA hS rfl hl.1 rfl (Nat.le_of_ble_eq_true rfl) dL_law_208 ⟨by decide, by decide⟩ (fun H locs hP hS => ?_)
  refine lv_aload_n hx hb dL_law_211 rfl (lv_at hl 2 rfl) ?_
  refine lv_aload_n hx hb dL_law_212 rfl (lv_at hl 0 rfl) ?_
  refine lv_iload_n hx hb dL_law_213 rfl (lv_at hl 3 rfl) ?_
  refine lv_iconst (v := (1 : Int32)) hx hb dL_law_214 (by decide) ?_
  refine lv_iadd hx hb dL_law_215 ?_
  refine va_sld hx hb hX hbl hbA hS i1 dL_law_216 ?_
  refine lv_aload_n hx hb dL_law_217 rfl (lv_at hl 0 rfl) ?_
  refine lv_iload_n hx hb dL_law_218 rfl (lv_at hl 3 rfl) ?_
  refine lv_iconst (v := (2 : Int32)) hx hb dL_law_219 (by decide) ?_
  refine lv_iadd hx hb dL_law_220 ?_
  refine va_sld hx hb hX hbl hbA hS i2 dL_law_221 ?_
  refine c_Vi (q := (RX8, TX8, 27)) (ci := 8) (b := 29) (As := [.int (xs (nI j + (1 : Int32)).toNatClampNeg), .int (xs (nI j + (2 : Int32)).toNatClampNeg)]) (rest := [.int r]) (A := fun q : Nat => s.heap.size ≤ q) ⟨hx, hb, hml, hown, htb⟩ (c_X8_about l D ad cI hd σ τ η (xs (nI j + (1 : Int32)).toNatClampNeg) (xs (nI j + (2 : Int32)).toNatClampNeg) (r, τ1) e2) (cwV 2 htb (gdV (fun _ hh => hh) wML_RL_21 wIM_yX8_about wSE_yX8_about wI_RX8 wC_yX8_about) rfl rfl rfl hd_X8_about ⟨by decide, by decide⟩) hK hP rfl w_29 hA hS rfl hl.1 rfl (Nat.le_of_ble_eq_true rfl) dL_law_222 ⟨by decide, by decide⟩ (fun H locs hP hS => ?_)
  refine lv_icmp_eq (tgt := 989) hx hb dL_law_225 (by decide) (fun _ => ?_) (fun c8 => absurd rfl c8)
  exact JJ _ _ _ _ _ _ I1 hP hS hl
set_option maxHeartbeats 4000000 in
set_option maxRecDepth 100000 in
theorem law_2 {p : Program} {e : Env} {s : State} {m : MethodId} {below : List Frame} {meth : Method} {c : Code} (l : Launch) {b L : Nat} {xs : Nat → Int32} (hL : L ≤ 2560) (C0 : lw_At p s m meth c b L xs) {Inv : St → St → Prop} (hSim : SimAll Inv) {D : va_G} {ad : Nat → Nat} {cI : ClassId} (hd : HD ad) (hK : KK D cI s) (hA : ∀ q, AA ad q → s.heap.size ≤ q) (j : Nat) (i1 : vp_in (nI j + (1 : Int32)) L) (i2 : vp_in (nI j + (2 : Int32)) L) (i3 : vp_in (nI j + (3 : Int32)) L) (i4 : vp_in (nI j + (4 : Int32)) L)
    (JJ : ∀ (H : Heap) (locs : List Loc) (ls : Array Slot) (σ τ : St) (η : Int64), Inv σ τ → WP D ad cI σ τ η H → va_S (fun q : Nat => s.heap.size ≤ q) s.heap H locs → lv_has ls 4 [(0, .ref b), (1, .ref (ad 0)), (2, .ref (ad 29)), (3, .int (nI j))] → W p l e room_1 s m #[Value.ref b] below meth c H locs 46 829 (lw_Z below #[Value.ref b] s) (F0 m 989 ls []))
    (H : Heap) (locs : List Loc) (ls : Array Slot) (σ τ : St) (η : Int64) (I : Inv σ τ) (hP : WP D ad cI σ τ η H) (hS : va_S (fun q : Nat => s.heap.size ≤ q) s.heap H locs) (hl : lv_has ls 4 [(0, .ref b), (1, .ref (ad 0)), (2, .ref (ad 29)), (3, .int (nI j))]) : W p l e room_1 s m #[Value.ref b] below meth c H locs 46 829 (lw_Z below #[Value.ref b] s) (F0 m 230 ls []) := by
  obtain ⟨hx, hb, hr, hml, hown, hts, hX, hbl, hlocks, hgv⟩ := id C0
  replace hown : s.vm.findClass RL = some m.cls := hown
  have htb : ∀ w ∈ TBL, w.before #[Value.ref b] s = true := fun w hw => hts w (List.mem_filter.mp hw).1
  have hbA : ¬ (fun q : Nat => s.heap.size ≤ q) b := Nat.not_le.mpr hbl
  obtain ⟨r, e1, e2, I1⟩ := hSim.2.2.1 σ τ (xs (nI j + (1 : Int32)).toNatClampNeg) (xs (nI j + (2 : Int32)).toNatClampNeg) I
  refine lv_aload_n hx hb dL_law_230 rfl (lv_at hl 1 rfl) ?_
  refine lv_aload_n hx hb dL_law_231 rfl (lv_at hl 0 rfl) ?_
  refine lv_iload_n hx hb dL_law_232 rfl (lv_at hl 3 rfl) ?_
  refine lv_iconst (v := (1 : Int32)) hx hb dL_law_233 (by decide) ?_
  refine lv_iadd hx hb dL_law_234 ?_
  refine va_sld hx hb hX hbl hbA hS i1 dL_law_235 ?_
  refine lv_aload_n hx hb dL_law_236 rfl (lv_at hl 0 rfl) ?_
  refine lv_iload_n hx hb dL_law_237 rfl (lv_at hl 3 rfl) ?_
  refine lv_iconst (v := (2 : Int32)) hx hb dL_law_238 (by decide) ?_
  refine lv_iadd hx hb dL_law_239 ?_
  refine va_sld hx hb hX hbl hbA hS i2 dL_law_240 ?_
  refine c_Vi (q := (RX7, TX7, 11)) (ci := 7) (b := 0) (As := [.int (xs (nI j + (1 : Int32)).toNatClampNeg), .int (xs (nI j + (2 : Int32)).toNatClampNeg)]) (rest := []) (A := fun q : Nat => s.heap.size ≤ q) ⟨hx, hb, hml, hown, htb⟩ (c_X7_as l D ad cI hd σ τ η (xs (nI j + (1 : Int32)).toNatClampNeg) (xs (nI j + (2 : Int32)).toNatClampNeg) r e1) (cwV 2 htb (gdV (fun _ hh => hh) wML_RL_22 wIM_yX7_as wSE_yX7_as wI_RX7 wC_yX7_as) rfl rfl rfl hd_X7_as ⟨by decide, by decide⟩) hK hP rfl w_0 hA hS rfl hl.1 rfl (Nat.le_of_ble_eq_true rfl) dL_law_241 ⟨by decide, by decide⟩ (fun H locs hP hS => ?_)
  refine lv_aload_n hx hb dL_law_244 rfl (lv_at hl 2 rfl) ?_
  refine lv_aload_n hx hb dL_law_245 rfl (lv_at hl 0 rfl) ?_
  refine lv_iload_n hx hb dL_law_246 rfl (lv_at hl 3 rfl) ?_
  refine lv_iconst (v := (1 : Int32)) hx hb dL_law_247 (by decide) ?_
  refine lv_iadd hx hb dL_law_248 ?_
  refine va_sld hx hb hX hbl hbA hS i1 dL_law_249 ?_
  refine lv_aload_n hx hb dL_law_250 rfl (lv_at hl 0 rfl) ?_
  refine lv_iload_n hx hb dL_law_251 rfl (lv_at hl 3 rfl) ?_
  refine lv_iconst (v := (2 : Int32)) hx hb dL_law_252 (by decide) ?_
  refine lv_iadd hx hb dL_law_253 ?_
  refine va_sld hx hb hX hbl hbA hS i2 dL_law_254 ?_
  refine c_Vi (q := (RX8, TX8, 27)) (ci := 8) (b := 29) (As := [.int (xs (nI j + (1 : Int32)).toNatClampNeg), .int (xs (nI j + (2 : Int32)).toNatClampNeg)]) (rest := [.int r]) (A := fun q : Nat => s.heap.size ≤ q) ⟨hx, hb, hml, hown, htb⟩ (c_X8_as l D ad cI hd σ τ η (xs (nI j + (1 : Int32)).toNatClampNeg) (xs (nI j + (2 : Int32)).toNatClampNeg) r e2) (cwV 2 htb (gdV (fun _ hh => hh) wML_RL_25 wIM_yX8_as wSE_yX8_as wI_RX8 wC_yX8_as) rfl rfl rfl hd_X8_as ⟨by decide, by decide⟩) hK hP rfl w_29 hA hS rfl hl.1 rfl (Nat.le_of_ble_eq_true rfl) dL_law_255 ⟨by decide, by decide⟩ (fun H locs hP hS => ?_)
  refine lv_icmp_eq (tgt := 989) hx hb dL_law_258 (by decide) (fun _ => ?_) (fun c8 => absurd rfl c8)
  exact JJ _ _ _ _ _ _ I1 hP hS hl
set_option maxHeartbeats 4000000 in
set_option maxRecDepth 100000 in
theorem law_3 {p : Program} {e : Env} {s : State} {m : MethodId} {below : List Frame} {meth : Method} {c : Code} (l : Launch) {b L : Nat} {xs : Nat → Int32} (hL : L ≤ 2560) (C0 : lw_At p s m meth c b L xs) {Inv : St → St → Prop} (hSim : SimAll Inv) {D : va_G} {ad : Nat → Nat} {cI : ClassId} (hd : HD ad) (hK : KK D cI s) (hA : ∀ q, AA ad q → s.heap.size ≤ q) (j : Nat) (i1 : vp_in (nI j + (1 : Int32)) L) (i2 : vp_in (nI j + (2 : Int32)) L) (i3 : vp_in (nI j + (3 : Int32)) L) (i4 : vp_in (nI j + (4 : Int32)) L)
    (JJ : ∀ (H : Heap) (locs : List Loc) (ls : Array Slot) (σ τ : St) (η : Int64), Inv σ τ → WP D ad cI σ τ η H → va_S (fun q : Nat => s.heap.size ≤ q) s.heap H locs → lv_has ls 4 [(0, .ref b), (1, .ref (ad 0)), (2, .ref (ad 29)), (3, .int (nI j))] → W p l e room_1 s m #[Value.ref b] below meth c H locs 46 829 (lw_Z below #[Value.ref b] s) (F0 m 989 ls []))
    (H : Heap) (locs : List Loc) (ls : Array Slot) (σ τ : St) (η : Int64) (I : Inv σ τ) (hP : WP D ad cI σ τ η H) (hS : va_S (fun q : Nat => s.heap.size ≤ q) s.heap H locs) (hl : lv_has ls 4 [(0, .ref b), (1, .ref (ad 0)), (2, .ref (ad 29)), (3, .int (nI j))]) : W p l e room_1 s m #[Value.ref b] below meth c H locs 46 829 (lw_Z below #[Value.ref b] s) (F0 m 263 ls []) := by
  obtain ⟨hx, hb, hr, hml, hown, hts, hX, hbl, hlocks, hgv⟩ := id C0
  replace hown : s.vm.findClass RL = some m.cls := hown
  have htb : ∀ w ∈ TBL, w.before #[Value.ref b] s = true := fun w hw => hts w (List.mem_filter.mp hw).1
  have hbA : ¬ (fun q : Nat => s.heap.size ≤ q) b := Nat.not_le.mpr hbl
  by_cases cz : (xs (nI j + (4 : Int32)).toNatClampNeg) = 0
  · obtain ⟨r, σ1, τ1, e1, e2, I1⟩ := hSim.2.2.2.1 σ τ (xs (nI j + (1 : Int32)).toNatClampNeg) (xs (nI j + (2 : Int32)).toNatClampNeg) (xs (nI j + (3 : Int32)).toNatClampNeg) (0 : Int32) I
    refine lv_aload_n hx hb dL_law_263 rfl (lv_at hl 1 rfl) ?_
    refine lv_aload_n hx hb dL_law_264 rfl (lv_at hl 0 rfl) ?_
    refine lv_iload_n hx hb dL_law_265 rfl (lv_at hl 3 rfl) ?_
    refine lv_iconst (v := (1 : Int32)) hx hb dL_law_266 (by decide) ?_
    refine lv_iadd hx hb dL_law_267 ?_
    refine va_sld hx hb hX hbl hbA hS i1 dL_law_268 ?_
    refine lv_aload_n hx hb dL_law_269 rfl (lv_at hl 0 rfl) ?_
    refine lv_iload_n hx hb dL_law_270 rfl (lv_at hl 3 rfl) ?_
    refine lv_iconst (v := (2 : Int32)) hx hb dL_law_271 (by decide) ?_
    refine lv_iadd hx hb dL_law_272 ?_
    refine va_sld hx hb hX hbl hbA hS i2 dL_law_273 ?_
    refine lv_aload_n hx hb dL_law_274 rfl (lv_at hl 0 rfl) ?_
    refine lv_iload_n hx hb dL_law_275 rfl (lv_at hl 3 rfl) ?_
    refine lv_iconst (v := (3 : Int32)) hx hb dL_law_276 (by decide) ?_
    refine lv_iadd hx hb dL_law_277 ?_
    refine va_sld hx hb hX hbl hbA hS i3 dL_law_278 ?_
    refine lv_aload_n hx hb dL_law_279 rfl (lv_at hl 0 rfl) ?_
    refine lv_iload_n hx hb dL_law_280 rfl (lv_at hl 3 rfl) ?_
    refine lv_iconst (v := (4 : Int32)) hx hb dL_law_281 (by decide) ?_
    refine lv_iadd hx hb dL_law_282 ?_
    refine va_sld hx hb hX hbl hbA hS i4 dL_law_283 ?_
    refine lv_if_eq (tgt := 291) hx hb dL_law_284 (by decide) (fun _ => ?_) (fun c8 => absurd cz c8)
    refine lv_iconst (v := (0 : Int32)) hx hb dL_law_291 (by decide) ?_
    refine c_Vi (q := (RX7, TX7, 11)) (ci := 7) (b := 0) (As := [.int (xs (nI j + (1 : Int32)).toNatClampNeg), .int (xs (nI j + (2 : Int32)).toNatClampNeg), .int (xs (nI j + (3 : Int32)).toNatClampNeg), .int (0 : Int32)]) (rest := []) (A := fun q : Nat => s.heap.size ≤ q) ⟨hx, hb, hml, hown, htb⟩ (c_X7_sees l D ad cI hd σ τ η (xs (nI j + (1 : Int32)).toNatClampNeg) (xs (nI j + (2 : Int32)).toNatClampNeg) (xs (nI j + (3 : Int32)).toNatClampNeg) (0 : Int32) (r, σ1) e1) (cwV 4 htb (gdV (fun _ hh => hh) wML_RL_26 wIM_yX7_sees wSE_yX7_sees wI_RX7 wC_yX7_sees) rfl rfl rfl hd_X7_sees ⟨by decide, by decide⟩) hK hP rfl w_0 hA hS rfl hl.1 rfl (Nat.le_of_ble_eq_true rfl) dL_law_292 ⟨by decide, by decide⟩ (fun H locs hP hS => ?_)
    refine lv_aload_n hx hb dL_law_295 rfl (lv_at hl 2 rfl) ?_
    refine lv_aload_n hx hb dL_law_296 rfl (lv_at hl 0 rfl) ?_
    refine lv_iload_n hx hb dL_law_297 rfl (lv_at hl 3 rfl) ?_
    refine lv_iconst (v := (1 : Int32)) hx hb dL_law_298 (by decide) ?_
    refine lv_iadd hx hb dL_law_299 ?_
    refine va_sld hx hb hX hbl hbA hS i1 dL_law_300 ?_
    refine lv_aload_n hx hb dL_law_301 rfl (lv_at hl 0 rfl) ?_
    refine lv_iload_n hx hb dL_law_302 rfl (lv_at hl 3 rfl) ?_
    refine lv_iconst (v := (2 : Int32)) hx hb dL_law_303 (by decide) ?_
    refine lv_iadd hx hb dL_law_304 ?_
    refine va_sld hx hb hX hbl hbA hS i2 dL_law_305 ?_
    refine lv_aload_n hx hb dL_law_306 rfl (lv_at hl 0 rfl) ?_
    refine lv_iload_n hx hb dL_law_307 rfl (lv_at hl 3 rfl) ?_
    refine lv_iconst (v := (3 : Int32)) hx hb dL_law_308 (by decide) ?_
    refine lv_iadd hx hb dL_law_309 ?_
    refine va_sld hx hb hX hbl hbA hS i3 dL_law_310 ?_
    refine lv_aload_n hx hb dL_law_311 rfl (lv_at hl 0 rfl) ?_
    refine lv_iload_n hx hb dL_law_312 rfl (lv_at hl 3 rfl) ?_
    refine lv_iconst (v := (4 : Int32)) hx hb dL_law_313 (by decide) ?_
    refine lv_iadd hx hb dL_law_314 ?_
    refine va_sld hx hb hX hbl hbA hS i4 dL_law_315 ?_
    refine lv_if_eq (tgt := 323) hx hb dL_law_316 (by decide) (fun _ => ?_) (fun c8 => absurd cz c8)
    refine lv_iconst (v := (0 : Int32)) hx hb dL_law_323 (by decide) ?_
    refine c_Vi (q := (RX8, TX8, 27)) (ci := 8) (b := 29) (As := [.int (xs (nI j + (1 : Int32)).toNatClampNeg), .int (xs (nI j + (2 : Int32)).toNatClampNeg), .int (xs (nI j + (3 : Int32)).toNatClampNeg), .int (0 : Int32)]) (rest := [.int r]) (A := fun q : Nat => s.heap.size ≤ q) ⟨hx, hb, hml, hown, htb⟩ (c_X8_sees l D ad cI hd σ1 τ η (xs (nI j + (1 : Int32)).toNatClampNeg) (xs (nI j + (2 : Int32)).toNatClampNeg) (xs (nI j + (3 : Int32)).toNatClampNeg) (0 : Int32) (r, τ1) e2) (cwV 4 htb (gdV (fun _ hh => hh) wML_RL_30 wIM_yX8_sees wSE_yX8_sees wI_RX8 wC_yX8_sees) rfl rfl rfl hd_X8_sees ⟨by decide, by decide⟩) hK hP rfl w_29 hA hS rfl hl.1 rfl (Nat.le_of_ble_eq_true rfl) dL_law_324 ⟨by decide, by decide⟩ (fun H locs hP hS => ?_)
    refine lv_icmp_eq (tgt := 989) hx hb dL_law_327 (by decide) (fun _ => ?_) (fun c8 => absurd rfl c8)
    exact JJ _ _ _ _ _ _ I1 hP hS hl
  · obtain ⟨r, σ1, τ1, e1, e2, I1⟩ := hSim.2.2.2.1 σ τ (xs (nI j + (1 : Int32)).toNatClampNeg) (xs (nI j + (2 : Int32)).toNatClampNeg) (xs (nI j + (3 : Int32)).toNatClampNeg) (1 : Int32) I
    refine lv_aload_n hx hb dL_law_263 rfl (lv_at hl 1 rfl) ?_
    refine lv_aload_n hx hb dL_law_264 rfl (lv_at hl 0 rfl) ?_
    refine lv_iload_n hx hb dL_law_265 rfl (lv_at hl 3 rfl) ?_
    refine lv_iconst (v := (1 : Int32)) hx hb dL_law_266 (by decide) ?_
    refine lv_iadd hx hb dL_law_267 ?_
    refine va_sld hx hb hX hbl hbA hS i1 dL_law_268 ?_
    refine lv_aload_n hx hb dL_law_269 rfl (lv_at hl 0 rfl) ?_
    refine lv_iload_n hx hb dL_law_270 rfl (lv_at hl 3 rfl) ?_
    refine lv_iconst (v := (2 : Int32)) hx hb dL_law_271 (by decide) ?_
    refine lv_iadd hx hb dL_law_272 ?_
    refine va_sld hx hb hX hbl hbA hS i2 dL_law_273 ?_
    refine lv_aload_n hx hb dL_law_274 rfl (lv_at hl 0 rfl) ?_
    refine lv_iload_n hx hb dL_law_275 rfl (lv_at hl 3 rfl) ?_
    refine lv_iconst (v := (3 : Int32)) hx hb dL_law_276 (by decide) ?_
    refine lv_iadd hx hb dL_law_277 ?_
    refine va_sld hx hb hX hbl hbA hS i3 dL_law_278 ?_
    refine lv_aload_n hx hb dL_law_279 rfl (lv_at hl 0 rfl) ?_
    refine lv_iload_n hx hb dL_law_280 rfl (lv_at hl 3 rfl) ?_
    refine lv_iconst (v := (4 : Int32)) hx hb dL_law_281 (by decide) ?_
    refine lv_iadd hx hb dL_law_282 ?_
    refine va_sld hx hb hX hbl hbA hS i4 dL_law_283 ?_
    refine lv_if_eq (tgt := 291) hx hb dL_law_284 (by decide) (fun c8 => absurd c8 cz) (fun _ => ?_)
    refine lv_iconst (v := (1 : Int32)) hx hb dL_law_287 (by decide) ?_
    refine lv_goto (tgt := 292) hx hb dL_law_288 (by decide) ?_
    refine c_Vi (q := (RX7, TX7, 11)) (ci := 7) (b := 0) (As := [.int (xs (nI j + (1 : Int32)).toNatClampNeg), .int (xs (nI j + (2 : Int32)).toNatClampNeg), .int (xs (nI j + (3 : Int32)).toNatClampNeg), .int (1 : Int32)]) (rest := []) (A := fun q : Nat => s.heap.size ≤ q) ⟨hx, hb, hml, hown, htb⟩ (c_X7_sees l D ad cI hd σ τ η (xs (nI j + (1 : Int32)).toNatClampNeg) (xs (nI j + (2 : Int32)).toNatClampNeg) (xs (nI j + (3 : Int32)).toNatClampNeg) (1 : Int32) (r, σ1) e1) (cwV 4 htb (gdV (fun _ hh => hh) wML_RL_26 wIM_yX7_sees wSE_yX7_sees wI_RX7 wC_yX7_sees) rfl rfl rfl hd_X7_sees ⟨by decide, by decide⟩) hK hP rfl w_0 hA hS rfl hl.1 rfl (Nat.le_of_ble_eq_true rfl) dL_law_292 ⟨by decide, by decide⟩ (fun H locs hP hS => ?_)
    refine lv_aload_n hx hb dL_law_295 rfl (lv_at hl 2 rfl) ?_
    refine lv_aload_n hx hb dL_law_296 rfl (lv_at hl 0 rfl) ?_
    refine lv_iload_n hx hb dL_law_297 rfl (lv_at hl 3 rfl) ?_
    refine lv_iconst (v := (1 : Int32)) hx hb dL_law_298 (by decide) ?_
    refine lv_iadd hx hb dL_law_299 ?_
    refine va_sld hx hb hX hbl hbA hS i1 dL_law_300 ?_
    refine lv_aload_n hx hb dL_law_301 rfl (lv_at hl 0 rfl) ?_
    refine lv_iload_n hx hb dL_law_302 rfl (lv_at hl 3 rfl) ?_
    refine lv_iconst (v := (2 : Int32)) hx hb dL_law_303 (by decide) ?_
    refine lv_iadd hx hb dL_law_304 ?_
    refine va_sld hx hb hX hbl hbA hS i2 dL_law_305 ?_
    refine lv_aload_n hx hb dL_law_306 rfl (lv_at hl 0 rfl) ?_
    refine lv_iload_n hx hb dL_law_307 rfl (lv_at hl 3 rfl) ?_
    refine lv_iconst (v := (3 : Int32)) hx hb dL_law_308 (by decide) ?_
    refine lv_iadd hx hb dL_law_309 ?_
    refine va_sld hx hb hX hbl hbA hS i3 dL_law_310 ?_
    refine lv_aload_n hx hb dL_law_311 rfl (lv_at hl 0 rfl) ?_
    refine lv_iload_n hx hb dL_law_312 rfl (lv_at hl 3 rfl) ?_
    refine lv_iconst (v := (4 : Int32)) hx hb dL_law_313 (by decide) ?_
    refine lv_iadd hx hb dL_law_314 ?_
    refine va_sld hx hb hX hbl hbA hS i4 dL_law_315 ?_
    refine lv_if_eq (tgt := 323) hx hb dL_law_316 (by decide) (fun c8 => absurd c8 cz) (fun _ => ?_)
    refine lv_iconst (v := (1 : Int32)) hx hb dL_law_319 (by decide) ?_
    refine lv_goto (tgt := 324) hx hb dL_law_320 (by decide) ?_
    refine c_Vi (q := (RX8, TX8, 27)) (ci := 8) (b := 29) (As := [.int (xs (nI j + (1 : Int32)).toNatClampNeg), .int (xs (nI j + (2 : Int32)).toNatClampNeg), .int (xs (nI j + (3 : Int32)).toNatClampNeg), .int (1 : Int32)]) (rest := [.int r]) (A := fun q : Nat => s.heap.size ≤ q) ⟨hx, hb, hml, hown, htb⟩ (c_X8_sees l D ad cI hd σ1 τ η (xs (nI j + (1 : Int32)).toNatClampNeg) (xs (nI j + (2 : Int32)).toNatClampNeg) (xs (nI j + (3 : Int32)).toNatClampNeg) (1 : Int32) (r, τ1) e2) (cwV 4 htb (gdV (fun _ hh => hh) wML_RL_30 wIM_yX8_sees wSE_yX8_sees wI_RX8 wC_yX8_sees) rfl rfl rfl hd_X8_sees ⟨by decide, by decide⟩) hK hP rfl w_29 hA hS rfl hl.1 rfl (Nat.le_of_ble_eq_true rfl) dL_law_324 ⟨by decide, by decide⟩ (fun H locs hP hS => ?_)
    refine lv_icmp_eq (tgt := 989) hx hb dL_law_327 (by decide) (fun _ => ?_) (fun c8 => absurd rfl c8)
    exact JJ _ _ _ _ _ _ I1 hP hS hl
set_option maxHeartbeats 4000000 in
set_option maxRecDepth 100000 in
theorem law_4 {p : Program} {e : Env} {s : State} {m : MethodId} {below : List Frame} {meth : Method} {c : Code} (l : Launch) {b L : Nat} {xs : Nat → Int32} (hL : L ≤ 2560) (C0 : lw_At p s m meth c b L xs) {Inv : St → St → Prop} (hSim : SimAll Inv) {D : va_G} {ad : Nat → Nat} {cI : ClassId} (hd : HD ad) (hK : KK D cI s) (hA : ∀ q, AA ad q → s.heap.size ≤ q) (j : Nat) (i1 : vp_in (nI j + (1 : Int32)) L) (i2 : vp_in (nI j + (2 : Int32)) L) (i3 : vp_in (nI j + (3 : Int32)) L) (i4 : vp_in (nI j + (4 : Int32)) L)
    (JJ : ∀ (H : Heap) (locs : List Loc) (ls : Array Slot) (σ τ : St) (η : Int64), Inv σ τ → WP D ad cI σ τ η H → va_S (fun q : Nat => s.heap.size ≤ q) s.heap H locs → lv_has ls 4 [(0, .ref b), (1, .ref (ad 0)), (2, .ref (ad 29)), (3, .int (nI j))] → W p l e room_1 s m #[Value.ref b] below meth c H locs 46 829 (lw_Z below #[Value.ref b] s) (F0 m 989 ls []))
    (H : Heap) (locs : List Loc) (ls : Array Slot) (σ τ : St) (η : Int64) (I : Inv σ τ) (hP : WP D ad cI σ τ η H) (hS : va_S (fun q : Nat => s.heap.size ≤ q) s.heap H locs) (hl : lv_has ls 4 [(0, .ref b), (1, .ref (ad 0)), (2, .ref (ad 29)), (3, .int (nI j))]) : W p l e room_1 s m #[Value.ref b] below meth c H locs 46 829 (lw_Z below #[Value.ref b] s) (F0 m 332 ls []) := by
  obtain ⟨hx, hb, hr, hml, hown, hts, hX, hbl, hlocks, hgv⟩ := id C0
  replace hown : s.vm.findClass RL = some m.cls := hown
  have htb : ∀ w ∈ TBL, w.before #[Value.ref b] s = true := fun w hw => hts w (List.mem_filter.mp hw).1
  have hbA : ¬ (fun q : Nat => s.heap.size ≤ q) b := Nat.not_le.mpr hbl
  obtain ⟨r, σ1, τ1, e1, e2, I1⟩ := hSim.2.2.2.2.1 σ τ (xs (nI j + (1 : Int32)).toNatClampNeg) (xs (nI j + (2 : Int32)).toNatClampNeg) I
  refine lv_aload_n hx hb dL_law_332 rfl (lv_at hl 1 rfl) ?_
  refine lv_aload_n hx hb dL_law_333 rfl (lv_at hl 0 rfl) ?_
  refine lv_iload_n hx hb dL_law_334 rfl (lv_at hl 3 rfl) ?_
  refine lv_iconst (v := (1 : Int32)) hx hb dL_law_335 (by decide) ?_
  refine lv_iadd hx hb dL_law_336 ?_
  refine va_sld hx hb hX hbl hbA hS i1 dL_law_337 ?_
  refine lv_aload_n hx hb dL_law_338 rfl (lv_at hl 0 rfl) ?_
  refine lv_iload_n hx hb dL_law_339 rfl (lv_at hl 3 rfl) ?_
  refine lv_iconst (v := (2 : Int32)) hx hb dL_law_340 (by decide) ?_
  refine lv_iadd hx hb dL_law_341 ?_
  refine va_sld hx hb hX hbl hbA hS i2 dL_law_342 ?_
  refine c_Vi (q := (RX7, TX7, 11)) (ci := 7) (b := 0) (As := [.int (xs (nI j + (1 : Int32)).toNatClampNeg), .int (xs (nI j + (2 : Int32)).toNatClampNeg)]) (rest := []) (A := fun q : Nat => s.heap.size ≤ q) ⟨hx, hb, hml, hown, htb⟩ (c_X7_tell l D ad cI hd σ τ η (xs (nI j + (1 : Int32)).toNatClampNeg) (xs (nI j + (2 : Int32)).toNatClampNeg) (r, σ1) e1) (cwV 2 htb (gdV (fun _ hh => hh) wML_RL_31 wIM_yX7_tell wSE_yX7_tell wI_RX7 wC_yX7_tell) rfl rfl rfl hd_X7_tell ⟨by decide, by decide⟩) hK hP rfl w_0 hA hS rfl hl.1 rfl (Nat.le_of_ble_eq_true rfl) dL_law_343 ⟨by decide, by decide⟩ (fun H locs hP hS => ?_)
  refine lv_aload_n hx hb dL_law_346 rfl (lv_at hl 2 rfl) ?_
  refine lv_aload_n hx hb dL_law_347 rfl (lv_at hl 0 rfl) ?_
  refine lv_iload_n hx hb dL_law_348 rfl (lv_at hl 3 rfl) ?_
  refine lv_iconst (v := (1 : Int32)) hx hb dL_law_349 (by decide) ?_
  refine lv_iadd hx hb dL_law_350 ?_
  refine va_sld hx hb hX hbl hbA hS i1 dL_law_351 ?_
  refine lv_aload_n hx hb dL_law_352 rfl (lv_at hl 0 rfl) ?_
  refine lv_iload_n hx hb dL_law_353 rfl (lv_at hl 3 rfl) ?_
  refine lv_iconst (v := (2 : Int32)) hx hb dL_law_354 (by decide) ?_
  refine lv_iadd hx hb dL_law_355 ?_
  refine va_sld hx hb hX hbl hbA hS i2 dL_law_356 ?_
  refine c_Vi (q := (RX8, TX8, 27)) (ci := 8) (b := 29) (As := [.int (xs (nI j + (1 : Int32)).toNatClampNeg), .int (xs (nI j + (2 : Int32)).toNatClampNeg)]) (rest := [.int r]) (A := fun q : Nat => s.heap.size ≤ q) ⟨hx, hb, hml, hown, htb⟩ (c_X8_tell l D ad cI hd σ1 τ η (xs (nI j + (1 : Int32)).toNatClampNeg) (xs (nI j + (2 : Int32)).toNatClampNeg) (r, τ1) e2) (cwV 2 htb (gdV (fun _ hh => hh) wML_RL_34 wIM_yX8_tell wSE_yX8_tell wI_RX8 wC_yX8_tell) rfl rfl rfl hd_X8_tell ⟨by decide, by decide⟩) hK hP rfl w_29 hA hS rfl hl.1 rfl (Nat.le_of_ble_eq_true rfl) dL_law_357 ⟨by decide, by decide⟩ (fun H locs hP hS => ?_)
  refine lv_icmp_eq (tgt := 989) hx hb dL_law_360 (by decide) (fun _ => ?_) (fun c8 => absurd rfl c8)
  exact JJ _ _ _ _ _ _ I1 hP hS hl
set_option maxHeartbeats 4000000 in
set_option maxRecDepth 100000 in
theorem law_5 {p : Program} {e : Env} {s : State} {m : MethodId} {below : List Frame} {meth : Method} {c : Code} (l : Launch) {b L : Nat} {xs : Nat → Int32} (hL : L ≤ 2560) (C0 : lw_At p s m meth c b L xs) {Inv : St → St → Prop} (hSim : SimAll Inv) {D : va_G} {ad : Nat → Nat} {cI : ClassId} (hd : HD ad) (hK : KK D cI s) (hA : ∀ q, AA ad q → s.heap.size ≤ q) (j : Nat) (i1 : vp_in (nI j + (1 : Int32)) L) (i2 : vp_in (nI j + (2 : Int32)) L) (i3 : vp_in (nI j + (3 : Int32)) L) (i4 : vp_in (nI j + (4 : Int32)) L)
    (JJ : ∀ (H : Heap) (locs : List Loc) (ls : Array Slot) (σ τ : St) (η : Int64), Inv σ τ → WP D ad cI σ τ η H → va_S (fun q : Nat => s.heap.size ≤ q) s.heap H locs → lv_has ls 4 [(0, .ref b), (1, .ref (ad 0)), (2, .ref (ad 29)), (3, .int (nI j))] → W p l e room_1 s m #[Value.ref b] below meth c H locs 46 829 (lw_Z below #[Value.ref b] s) (F0 m 989 ls []))
    (H : Heap) (locs : List Loc) (ls : Array Slot) (σ τ : St) (η : Int64) (I : Inv σ τ) (hP : WP D ad cI σ τ η H) (hS : va_S (fun q : Nat => s.heap.size ≤ q) s.heap H locs) (hl : lv_has ls 4 [(0, .ref b), (1, .ref (ad 0)), (2, .ref (ad 29)), (3, .int (nI j))]) : W p l e room_1 s m #[Value.ref b] below meth c H locs 46 829 (lw_Z below #[Value.ref b] s) (F0 m 365 ls []) := by
  obtain ⟨hx, hb, hr, hml, hown, hts, hX, hbl, hlocks, hgv⟩ := id C0
  replace hown : s.vm.findClass RL = some m.cls := hown
  have htb : ∀ w ∈ TBL, w.before #[Value.ref b] s = true := fun w hw => hts w (List.mem_filter.mp hw).1
  have hbA : ¬ (fun q : Nat => s.heap.size ≤ q) b := Nat.not_le.mpr hbl
  obtain ⟨r, σ1, τ1, e1, e2, I1⟩ := hSim.2.2.2.2.2.1 σ τ ((lshl (((xs (nI j + (1 : Int32)).toNatClampNeg)).toInt64) (32 : Int32)) ||| ((((xs (nI j + (2 : Int32)).toNatClampNeg)).toInt64) &&& (4294967295 : Int64))) I
  refine lv_aload_n hx hb dL_law_365 rfl (lv_at hl 1 rfl) ?_
  refine lv_aload_n hx hb dL_law_366 rfl (lv_at hl 0 rfl) ?_
  refine lv_iload_n hx hb dL_law_367 rfl (lv_at hl 3 rfl) ?_
  refine lv_iconst (v := (1 : Int32)) hx hb dL_law_368 (by decide) ?_
  refine lv_iadd hx hb dL_law_369 ?_
  refine va_sld hx hb hX hbl hbA hS i1 dL_law_370 ?_
  refine lv_i2l (v := (((xs (nI j + (1 : Int32)).toNatClampNeg)).toInt64)) hx hb dL_law_371 rfl ?_
  refine lv_bipush (v := (32 : Int32)) hx hb dL_law_372 (by decide) ?_
  refine lv_lshl (v := (lshl (((xs (nI j + (1 : Int32)).toNatClampNeg)).toInt64) (32 : Int32))) hx hb dL_law_374 rfl ?_
  refine lv_aload_n hx hb dL_law_375 rfl (lv_at hl 0 rfl) ?_
  refine lv_iload_n hx hb dL_law_376 rfl (lv_at hl 3 rfl) ?_
  refine lv_iconst (v := (2 : Int32)) hx hb dL_law_377 (by decide) ?_
  refine lv_iadd hx hb dL_law_378 ?_
  refine va_sld hx hb hX hbl hbA hS i2 dL_law_379 ?_
  refine lv_i2l (v := (((xs (nI j + (2 : Int32)).toNatClampNeg)).toInt64)) hx hb dL_law_380 rfl ?_
  refine lv_ldc2 (v := (4294967295 : Int64)) hx hb hown (htb _ wKL_RL_35) dL_law_381 ?_
  refine lv_land hx hb dL_law_384 ?_
  refine lv_lor hx hb dL_law_385 ?_
  refine c_Vi (q := (RX7, TX7, 11)) (ci := 7) (b := 0) (As := [.long ((lshl (((xs (nI j + (1 : Int32)).toNatClampNeg)).toInt64) (32 : Int32)) ||| ((((xs (nI j + (2 : Int32)).toNatClampNeg)).toInt64) &&& (4294967295 : Int64)))]) (rest := []) (A := fun q : Nat => s.heap.size ≤ q) ⟨hx, hb, hml, hown, htb⟩ (c_X7_letters l D ad cI hd σ τ η ((lshl (((xs (nI j + (1 : Int32)).toNatClampNeg)).toInt64) (32 : Int32)) ||| ((((xs (nI j + (2 : Int32)).toNatClampNeg)).toInt64) &&& (4294967295 : Int64))) (r, σ1) e1) (cwV 1 htb (gdV (fun _ hh => hh) wML_RL_37 wIM_yX7_letters wSE_yX7_letters wI_RX7 wC_yX7_letters) rfl rfl rfl hd_X7_letters ⟨by decide, by decide⟩) hK hP rfl w_0 hA hS rfl hl.1 rfl (Nat.le_of_ble_eq_true rfl) dL_law_386 ⟨by decide, by decide⟩ (fun H locs hP hS => ?_)
  refine lv_aload_n hx hb dL_law_389 rfl (lv_at hl 2 rfl) ?_
  refine lv_aload_n hx hb dL_law_390 rfl (lv_at hl 0 rfl) ?_
  refine lv_iload_n hx hb dL_law_391 rfl (lv_at hl 3 rfl) ?_
  refine lv_iconst (v := (1 : Int32)) hx hb dL_law_392 (by decide) ?_
  refine lv_iadd hx hb dL_law_393 ?_
  refine va_sld hx hb hX hbl hbA hS i1 dL_law_394 ?_
  refine lv_i2l (v := (((xs (nI j + (1 : Int32)).toNatClampNeg)).toInt64)) hx hb dL_law_395 rfl ?_
  refine lv_bipush (v := (32 : Int32)) hx hb dL_law_396 (by decide) ?_
  refine lv_lshl (v := (lshl (((xs (nI j + (1 : Int32)).toNatClampNeg)).toInt64) (32 : Int32))) hx hb dL_law_398 rfl ?_
  refine lv_aload_n hx hb dL_law_399 rfl (lv_at hl 0 rfl) ?_
  refine lv_iload_n hx hb dL_law_400 rfl (lv_at hl 3 rfl) ?_
  refine lv_iconst (v := (2 : Int32)) hx hb dL_law_401 (by decide) ?_
  refine lv_iadd hx hb dL_law_402 ?_
  refine va_sld hx hb hX hbl hbA hS i2 dL_law_403 ?_
  refine lv_i2l (v := (((xs (nI j + (2 : Int32)).toNatClampNeg)).toInt64)) hx hb dL_law_404 rfl ?_
  refine lv_ldc2 (v := (4294967295 : Int64)) hx hb hown (htb _ wKL_RL_35) dL_law_405 ?_
  refine lv_land hx hb dL_law_408 ?_
  refine lv_lor hx hb dL_law_409 ?_
  refine c_Vi (q := (RX8, TX8, 27)) (ci := 8) (b := 29) (As := [.long ((lshl (((xs (nI j + (1 : Int32)).toNatClampNeg)).toInt64) (32 : Int32)) ||| ((((xs (nI j + (2 : Int32)).toNatClampNeg)).toInt64) &&& (4294967295 : Int64)))]) (rest := [.int r]) (A := fun q : Nat => s.heap.size ≤ q) ⟨hx, hb, hml, hown, htb⟩ (c_X8_letters l D ad cI hd σ1 τ η ((lshl (((xs (nI j + (1 : Int32)).toNatClampNeg)).toInt64) (32 : Int32)) ||| ((((xs (nI j + (2 : Int32)).toNatClampNeg)).toInt64) &&& (4294967295 : Int64))) (r, τ1) e2) (cwV 1 htb (gdV (fun _ hh => hh) wML_RL_41 wIM_yX8_letters wSE_yX8_letters wI_RX8 wC_yX8_letters) rfl rfl rfl hd_X8_letters ⟨by decide, by decide⟩) hK hP rfl w_29 hA hS rfl hl.1 rfl (Nat.le_of_ble_eq_true rfl) dL_law_410 ⟨by decide, by decide⟩ (fun H locs hP hS => ?_)
  refine lv_icmp_eq (tgt := 989) hx hb dL_law_413 (by decide) (fun _ => ?_) (fun c8 => absurd rfl c8)
  exact JJ _ _ _ _ _ _ I1 hP hS hl
set_option maxHeartbeats 4000000 in
set_option maxRecDepth 100000 in
theorem law_6 {p : Program} {e : Env} {s : State} {m : MethodId} {below : List Frame} {meth : Method} {c : Code} (l : Launch) {b L : Nat} {xs : Nat → Int32} (hL : L ≤ 2560) (C0 : lw_At p s m meth c b L xs) {Inv : St → St → Prop} (hSim : SimAll Inv) {D : va_G} {ad : Nat → Nat} {cI : ClassId} (hd : HD ad) (hK : KK D cI s) (hA : ∀ q, AA ad q → s.heap.size ≤ q) (j : Nat) (i1 : vp_in (nI j + (1 : Int32)) L) (i2 : vp_in (nI j + (2 : Int32)) L) (i3 : vp_in (nI j + (3 : Int32)) L) (i4 : vp_in (nI j + (4 : Int32)) L)
    (JJ : ∀ (H : Heap) (locs : List Loc) (ls : Array Slot) (σ τ : St) (η : Int64), Inv σ τ → WP D ad cI σ τ η H → va_S (fun q : Nat => s.heap.size ≤ q) s.heap H locs → lv_has ls 4 [(0, .ref b), (1, .ref (ad 0)), (2, .ref (ad 29)), (3, .int (nI j))] → W p l e room_1 s m #[Value.ref b] below meth c H locs 46 829 (lw_Z below #[Value.ref b] s) (F0 m 989 ls []))
    (H : Heap) (locs : List Loc) (ls : Array Slot) (σ τ : St) (η : Int64) (I : Inv σ τ) (hP : WP D ad cI σ τ η H) (hS : va_S (fun q : Nat => s.heap.size ≤ q) s.heap H locs) (hl : lv_has ls 4 [(0, .ref b), (1, .ref (ad 0)), (2, .ref (ad 29)), (3, .int (nI j))]) : W p l e room_1 s m #[Value.ref b] below meth c H locs 46 829 (lw_Z below #[Value.ref b] s) (F0 m 418 ls []) := by
  obtain ⟨hx, hb, hr, hml, hown, hts, hX, hbl, hlocks, hgv⟩ := id C0
  replace hown : s.vm.findClass RL = some m.cls := hown
  have htb : ∀ w ∈ TBL, w.before #[Value.ref b] s = true := fun w hw => hts w (List.mem_filter.mp hw).1
  have hbA : ¬ (fun q : Nat => s.heap.size ≤ q) b := Nat.not_le.mpr hbl
  obtain ⟨r, σ1, τ1, e1, e2, I1⟩ := hSim.2.2.2.2.2.2.1 σ τ  I
  refine lv_aload_n hx hb dL_law_418 rfl (lv_at hl 1 rfl) ?_
  refine c_Vi (q := (RX7, TX7, 11)) (ci := 7) (b := 0) (As := []) (rest := []) (A := fun q : Nat => s.heap.size ≤ q) ⟨hx, hb, hml, hown, htb⟩ (c_X7_blank l D ad cI hd σ τ η  (r, σ1) e1) (cwV 0 htb (gdV (fun _ hh => hh) wML_RL_42 wIM_yX7_blank wSE_yX7_blank wI_RX7 wC_yX7_blank) rfl rfl rfl hd_X7_blank ⟨by decide, by decide⟩) hK hP rfl w_0 hA hS rfl hl.1 rfl (Nat.le_of_ble_eq_true rfl) dL_law_419 ⟨by decide, by decide⟩ (fun H locs hP hS => ?_)
  refine lv_aload_n hx hb dL_law_422 rfl (lv_at hl 2 rfl) ?_
  refine c_Vi (q := (RX8, TX8, 27)) (ci := 8) (b := 29) (As := []) (rest := [.int r]) (A := fun q : Nat => s.heap.size ≤ q) ⟨hx, hb, hml, hown, htb⟩ (c_X8_blank l D ad cI hd σ1 τ η  (r, τ1) e2) (cwV 0 htb (gdV (fun _ hh => hh) wML_RL_46 wIM_yX8_blank wSE_yX8_blank wI_RX8 wC_yX8_blank) rfl rfl rfl hd_X8_blank ⟨by decide, by decide⟩) hK hP rfl w_29 hA hS rfl hl.1 rfl (Nat.le_of_ble_eq_true rfl) dL_law_423 ⟨by decide, by decide⟩ (fun H locs hP hS => ?_)
  refine lv_icmp_eq (tgt := 989) hx hb dL_law_426 (by decide) (fun _ => ?_) (fun c8 => absurd rfl c8)
  exact JJ _ _ _ _ _ _ I1 hP hS hl
set_option maxHeartbeats 4000000 in
set_option maxRecDepth 100000 in
theorem law_7 {p : Program} {e : Env} {s : State} {m : MethodId} {below : List Frame} {meth : Method} {c : Code} (l : Launch) {b L : Nat} {xs : Nat → Int32} (hL : L ≤ 2560) (C0 : lw_At p s m meth c b L xs) {Inv : St → St → Prop} (hSim : SimAll Inv) {D : va_G} {ad : Nat → Nat} {cI : ClassId} (hd : HD ad) (hK : KK D cI s) (hA : ∀ q, AA ad q → s.heap.size ≤ q) (j : Nat) (i1 : vp_in (nI j + (1 : Int32)) L) (i2 : vp_in (nI j + (2 : Int32)) L) (i3 : vp_in (nI j + (3 : Int32)) L) (i4 : vp_in (nI j + (4 : Int32)) L)
    (JJ : ∀ (H : Heap) (locs : List Loc) (ls : Array Slot) (σ τ : St) (η : Int64), Inv σ τ → WP D ad cI σ τ η H → va_S (fun q : Nat => s.heap.size ≤ q) s.heap H locs → lv_has ls 4 [(0, .ref b), (1, .ref (ad 0)), (2, .ref (ad 29)), (3, .int (nI j))] → W p l e room_1 s m #[Value.ref b] below meth c H locs 46 829 (lw_Z below #[Value.ref b] s) (F0 m 989 ls []))
    (H : Heap) (locs : List Loc) (ls : Array Slot) (σ τ : St) (η : Int64) (I : Inv σ τ) (hP : WP D ad cI σ τ η H) (hS : va_S (fun q : Nat => s.heap.size ≤ q) s.heap H locs) (hl : lv_has ls 4 [(0, .ref b), (1, .ref (ad 0)), (2, .ref (ad 29)), (3, .int (nI j))]) : W p l e room_1 s m #[Value.ref b] below meth c H locs 46 829 (lw_Z below #[Value.ref b] s) (F0 m 431 ls []) := by
  obtain ⟨hx, hb, hr, hml, hown, hts, hX, hbl, hlocks, hgv⟩ := id C0
  replace hown : s.vm.findClass RL = some m.cls := hown
  have htb : ∀ w ∈ TBL, w.before #[Value.ref b] s = true := fun w hw => hts w (List.mem_filter.mp hw).1
  have hbA : ¬ (fun q : Nat => s.heap.size ≤ q) b := Nat.not_le.mpr hbl
  obtain ⟨r, e1, e2, I1⟩ := hSim.2.2.2.2.2.2.2.1 σ τ  I
  refine lv_aload_n hx hb dL_law_431 rfl (lv_at hl 1 rfl) ?_
  refine c_Vi (q := (RX7, TX7, 11)) (ci := 7) (b := 0) (As := []) (rest := []) (A := fun q : Nat => s.heap.size ≤ q) ⟨hx, hb, hml, hown, htb⟩ (c_X7_fault l D ad cI hd σ τ η  r e1) (cwV 0 htb (gdV (fun _ hh => hh) wML_RL_47 wIM_yX7_fault wSE_yX7_fault wI_RX7 wC_yX7_fault) rfl rfl rfl hd_X7_fault ⟨by decide, by decide⟩) hK hP rfl w_0 hA hS rfl hl.1 rfl (Nat.le_of_ble_eq_true rfl) dL_law_432 ⟨by decide, by decide⟩ (fun H locs hP hS => ?_)
  refine lv_aload_n hx hb dL_law_435 rfl (lv_at hl 2 rfl) ?_
  refine c_Vi (q := (RX8, TX8, 27)) (ci := 8) (b := 29) (As := []) (rest := [.int r]) (A := fun q : Nat => s.heap.size ≤ q) ⟨hx, hb, hml, hown, htb⟩ (c_X8_fault l D ad cI hd σ τ η  r e2) (cwV 0 htb (gdV (fun _ hh => hh) wML_RL_50 wIM_yX8_fault wSE_yX8_fault wI_RX8 wC_yX8_fault) rfl rfl rfl hd_X8_fault ⟨by decide, by decide⟩) hK hP rfl w_29 hA hS rfl hl.1 rfl (Nat.le_of_ble_eq_true rfl) dL_law_436 ⟨by decide, by decide⟩ (fun H locs hP hS => ?_)
  refine lv_icmp_eq (tgt := 989) hx hb dL_law_439 (by decide) (fun _ => ?_) (fun c8 => absurd rfl c8)
  exact JJ _ _ _ _ _ _ I1 hP hS hl
set_option maxHeartbeats 4000000 in
set_option maxRecDepth 100000 in
theorem law_8 {p : Program} {e : Env} {s : State} {m : MethodId} {below : List Frame} {meth : Method} {c : Code} (l : Launch) {b L : Nat} {xs : Nat → Int32} (hL : L ≤ 2560) (C0 : lw_At p s m meth c b L xs) {Inv : St → St → Prop} (hSim : SimAll Inv) {D : va_G} {ad : Nat → Nat} {cI : ClassId} (hd : HD ad) (hK : KK D cI s) (hA : ∀ q, AA ad q → s.heap.size ≤ q) (j : Nat) (i1 : vp_in (nI j + (1 : Int32)) L) (i2 : vp_in (nI j + (2 : Int32)) L) (i3 : vp_in (nI j + (3 : Int32)) L) (i4 : vp_in (nI j + (4 : Int32)) L)
    (JJ : ∀ (H : Heap) (locs : List Loc) (ls : Array Slot) (σ τ : St) (η : Int64), Inv σ τ → WP D ad cI σ τ η H → va_S (fun q : Nat => s.heap.size ≤ q) s.heap H locs → lv_has ls 4 [(0, .ref b), (1, .ref (ad 0)), (2, .ref (ad 29)), (3, .int (nI j))] → W p l e room_1 s m #[Value.ref b] below meth c H locs 46 829 (lw_Z below #[Value.ref b] s) (F0 m 989 ls []))
    (H : Heap) (locs : List Loc) (ls : Array Slot) (σ τ : St) (η : Int64) (I : Inv σ τ) (hP : WP D ad cI σ τ η H) (hS : va_S (fun q : Nat => s.heap.size ≤ q) s.heap H locs) (hl : lv_has ls 4 [(0, .ref b), (1, .ref (ad 0)), (2, .ref (ad 29)), (3, .int (nI j))]) : W p l e room_1 s m #[Value.ref b] below meth c H locs 46 829 (lw_Z below #[Value.ref b] s) (F0 m 444 ls []) := by
  obtain ⟨hx, hb, hr, hml, hown, hts, hX, hbl, hlocks, hgv⟩ := id C0
  replace hown : s.vm.findClass RL = some m.cls := hown
  have htb : ∀ w ∈ TBL, w.before #[Value.ref b] s = true := fun w hw => hts w (List.mem_filter.mp hw).1
  have hbA : ¬ (fun q : Nat => s.heap.size ≤ q) b := Nat.not_le.mpr hbl
  obtain ⟨r, σ1, τ1, e1, e2, I1⟩ := hSim.2.2.2.2.2.2.2.2.1 σ τ  I
  refine lv_aload_n hx hb dL_law_444 rfl (lv_at hl 1 rfl) ?_
  refine c_Vi (q := (RX7, TX7, 11)) (ci := 7) (b := 0) (As := []) (rest := []) (A := fun q : Nat => s.heap.size ≤ q) ⟨hx, hb, hml, hown, htb⟩ (c_X7_list l D ad cI hd σ τ η  (r, σ1) e1) (cwV 0 htb (gdV (fun _ hh => hh) wML_RL_51 wIM_yX7_list wSE_yX7_list wI_RX7 wC_yX7_list) rfl rfl rfl hd_X7_list ⟨by decide, by decide⟩) hK hP rfl w_0 hA hS rfl hl.1 rfl (Nat.le_of_ble_eq_true rfl) dL_law_445 ⟨by decide, by decide⟩ (fun H locs hP hS => ?_)
  refine lv_aload_n hx hb dL_law_448 rfl (lv_at hl 2 rfl) ?_
  refine c_Vi (q := (RX8, TX8, 27)) (ci := 8) (b := 29) (As := []) (rest := [.int r]) (A := fun q : Nat => s.heap.size ≤ q) ⟨hx, hb, hml, hown, htb⟩ (c_X8_list l D ad cI hd σ1 τ η  (r, τ1) e2) (cwV 0 htb (gdV (fun _ hh => hh) wML_RL_54 wIM_yX8_list wSE_yX8_list wI_RX8 wC_yX8_list) rfl rfl rfl hd_X8_list ⟨by decide, by decide⟩) hK hP rfl w_29 hA hS rfl hl.1 rfl (Nat.le_of_ble_eq_true rfl) dL_law_449 ⟨by decide, by decide⟩ (fun H locs hP hS => ?_)
  refine lv_icmp_eq (tgt := 989) hx hb dL_law_452 (by decide) (fun _ => ?_) (fun c8 => absurd rfl c8)
  exact JJ _ _ _ _ _ _ I1 hP hS hl
set_option maxHeartbeats 4000000 in
set_option maxRecDepth 100000 in
theorem law_9 {p : Program} {e : Env} {s : State} {m : MethodId} {below : List Frame} {meth : Method} {c : Code} (l : Launch) {b L : Nat} {xs : Nat → Int32} (hL : L ≤ 2560) (C0 : lw_At p s m meth c b L xs) {Inv : St → St → Prop} (hSim : SimAll Inv) {D : va_G} {ad : Nat → Nat} {cI : ClassId} (hd : HD ad) (hK : KK D cI s) (hA : ∀ q, AA ad q → s.heap.size ≤ q) (j : Nat) (i1 : vp_in (nI j + (1 : Int32)) L) (i2 : vp_in (nI j + (2 : Int32)) L) (i3 : vp_in (nI j + (3 : Int32)) L) (i4 : vp_in (nI j + (4 : Int32)) L)
    (JJ : ∀ (H : Heap) (locs : List Loc) (ls : Array Slot) (σ τ : St) (η : Int64), Inv σ τ → WP D ad cI σ τ η H → va_S (fun q : Nat => s.heap.size ≤ q) s.heap H locs → lv_has ls 4 [(0, .ref b), (1, .ref (ad 0)), (2, .ref (ad 29)), (3, .int (nI j))] → W p l e room_1 s m #[Value.ref b] below meth c H locs 46 829 (lw_Z below #[Value.ref b] s) (F0 m 989 ls []))
    (H : Heap) (locs : List Loc) (ls : Array Slot) (σ τ : St) (η : Int64) (I : Inv σ τ) (hP : WP D ad cI σ τ η H) (hS : va_S (fun q : Nat => s.heap.size ≤ q) s.heap H locs) (hl : lv_has ls 4 [(0, .ref b), (1, .ref (ad 0)), (2, .ref (ad 29)), (3, .int (nI j))]) : W p l e room_1 s m #[Value.ref b] below meth c H locs 46 829 (lw_Z below #[Value.ref b] s) (F0 m 457 ls []) := by
  obtain ⟨hx, hb, hr, hml, hown, hts, hX, hbl, hlocks, hgv⟩ := id C0
  replace hown : s.vm.findClass RL = some m.cls := hown
  have htb : ∀ w ∈ TBL, w.before #[Value.ref b] s = true := fun w hw => hts w (List.mem_filter.mp hw).1
  have hbA : ¬ (fun q : Nat => s.heap.size ≤ q) b := Nat.not_le.mpr hbl
  obtain ⟨r, τ1, e1, e2, I1⟩ := hSim.2.2.2.2.2.2.2.2.2.1 σ τ (xs (nI j + (1 : Int32)).toNatClampNeg) (xs (nI j + (2 : Int32)).toNatClampNeg) I
  refine lv_aload_n hx hb dL_law_457 rfl (lv_at hl 1 rfl) ?_
  refine lv_aload_n hx hb dL_law_458 rfl (lv_at hl 0 rfl) ?_
  refine lv_iload_n hx hb dL_law_459 rfl (lv_at hl 3 rfl) ?_
  refine lv_iconst (v := (1 : Int32)) hx hb dL_law_460 (by decide) ?_
  refine lv_iadd hx hb dL_law_461 ?_
  refine va_sld hx hb hX hbl hbA hS i1 dL_law_462 ?_
  refine lv_aload_n hx hb dL_law_463 rfl (lv_at hl 0 rfl) ?_
  refine lv_iload_n hx hb dL_law_464 rfl (lv_at hl 3 rfl) ?_
  refine lv_iconst (v := (2 : Int32)) hx hb dL_law_465 (by decide) ?_
  refine lv_iadd hx hb dL_law_466 ?_
  refine va_sld hx hb hX hbl hbA hS i2 dL_law_467 ?_
  refine c_Vi (q := (RX7, TX7, 11)) (ci := 7) (b := 0) (As := [.int (xs (nI j + (1 : Int32)).toNatClampNeg), .int (xs (nI j + (2 : Int32)).toNatClampNeg)]) (rest := []) (A := fun q : Nat => s.heap.size ≤ q) ⟨hx, hb, hml, hown, htb⟩ (c_X7_meeting l D ad cI hd σ τ η (xs (nI j + (1 : Int32)).toNatClampNeg) (xs (nI j + (2 : Int32)).toNatClampNeg) r e1) (cwV 2 htb (gdV (fun _ hh => hh) wML_RL_55 wIM_yX7_meeting wSE_yX7_meeting wI_RX7 wC_yX7_meeting) rfl rfl rfl hd_X7_meeting ⟨by decide, by decide⟩) hK hP rfl w_0 hA hS rfl hl.1 rfl (Nat.le_of_ble_eq_true rfl) dL_law_468 ⟨by decide, by decide⟩ (fun H locs hP hS => ?_)
  refine lv_aload_n hx hb dL_law_471 rfl (lv_at hl 2 rfl) ?_
  refine lv_aload_n hx hb dL_law_472 rfl (lv_at hl 0 rfl) ?_
  refine lv_iload_n hx hb dL_law_473 rfl (lv_at hl 3 rfl) ?_
  refine lv_iconst (v := (1 : Int32)) hx hb dL_law_474 (by decide) ?_
  refine lv_iadd hx hb dL_law_475 ?_
  refine va_sld hx hb hX hbl hbA hS i1 dL_law_476 ?_
  refine lv_aload_n hx hb dL_law_477 rfl (lv_at hl 0 rfl) ?_
  refine lv_iload_n hx hb dL_law_478 rfl (lv_at hl 3 rfl) ?_
  refine lv_iconst (v := (2 : Int32)) hx hb dL_law_479 (by decide) ?_
  refine lv_iadd hx hb dL_law_480 ?_
  refine va_sld hx hb hX hbl hbA hS i2 dL_law_481 ?_
  refine c_Vi (q := (RX8, TX8, 27)) (ci := 8) (b := 29) (As := [.int (xs (nI j + (1 : Int32)).toNatClampNeg), .int (xs (nI j + (2 : Int32)).toNatClampNeg)]) (rest := [.int r]) (A := fun q : Nat => s.heap.size ≤ q) ⟨hx, hb, hml, hown, htb⟩ (c_X8_meeting l D ad cI hd σ τ η (xs (nI j + (1 : Int32)).toNatClampNeg) (xs (nI j + (2 : Int32)).toNatClampNeg) (r, τ1) e2) (cwV 2 htb (gdV (fun _ hh => hh) wML_RL_58 wIM_yX8_meeting wSE_yX8_meeting wI_RX8 wC_yX8_meeting) rfl rfl rfl hd_X8_meeting ⟨by decide, by decide⟩) hK hP rfl w_29 hA hS rfl hl.1 rfl (Nat.le_of_ble_eq_true rfl) dL_law_482 ⟨by decide, by decide⟩ (fun H locs hP hS => ?_)
  refine lv_icmp_eq (tgt := 989) hx hb dL_law_485 (by decide) (fun _ => ?_) (fun c8 => absurd rfl c8)
  exact JJ _ _ _ _ _ _ I1 hP hS hl
set_option maxHeartbeats 4000000 in
set_option maxRecDepth 100000 in
theorem law_10 {p : Program} {e : Env} {s : State} {m : MethodId} {below : List Frame} {meth : Method} {c : Code} (l : Launch) {b L : Nat} {xs : Nat → Int32} (hL : L ≤ 2560) (C0 : lw_At p s m meth c b L xs) {Inv : St → St → Prop} (hSim : SimAll Inv) {D : va_G} {ad : Nat → Nat} {cI : ClassId} (hd : HD ad) (hK : KK D cI s) (hA : ∀ q, AA ad q → s.heap.size ≤ q) (j : Nat) (i1 : vp_in (nI j + (1 : Int32)) L) (i2 : vp_in (nI j + (2 : Int32)) L) (i3 : vp_in (nI j + (3 : Int32)) L) (i4 : vp_in (nI j + (4 : Int32)) L)
    (JJ : ∀ (H : Heap) (locs : List Loc) (ls : Array Slot) (σ τ : St) (η : Int64), Inv σ τ → WP D ad cI σ τ η H → va_S (fun q : Nat => s.heap.size ≤ q) s.heap H locs → lv_has ls 4 [(0, .ref b), (1, .ref (ad 0)), (2, .ref (ad 29)), (3, .int (nI j))] → W p l e room_1 s m #[Value.ref b] below meth c H locs 46 829 (lw_Z below #[Value.ref b] s) (F0 m 989 ls []))
    (H : Heap) (locs : List Loc) (ls : Array Slot) (σ τ : St) (η : Int64) (I : Inv σ τ) (hP : WP D ad cI σ τ η H) (hS : va_S (fun q : Nat => s.heap.size ≤ q) s.heap H locs) (hl : lv_has ls 4 [(0, .ref b), (1, .ref (ad 0)), (2, .ref (ad 29)), (3, .int (nI j))]) : W p l e room_1 s m #[Value.ref b] below meth c H locs 46 829 (lw_Z below #[Value.ref b] s) (F0 m 490 ls []) := by
  obtain ⟨hx, hb, hr, hml, hown, hts, hX, hbl, hlocks, hgv⟩ := id C0
  replace hown : s.vm.findClass RL = some m.cls := hown
  have htb : ∀ w ∈ TBL, w.before #[Value.ref b] s = true := fun w hw => hts w (List.mem_filter.mp hw).1
  have hbA : ¬ (fun q : Nat => s.heap.size ≤ q) b := Nat.not_le.mpr hbl
  obtain ⟨r, τ1, e1, e2, I1⟩ := hSim.2.2.2.2.2.2.2.2.2.2.1 σ τ (xs (nI j + (1 : Int32)).toNatClampNeg) I
  refine lv_aload_n hx hb dL_law_490 rfl (lv_at hl 1 rfl) ?_
  refine lv_aload_n hx hb dL_law_491 rfl (lv_at hl 0 rfl) ?_
  refine lv_iload_n hx hb dL_law_492 rfl (lv_at hl 3 rfl) ?_
  refine lv_iconst (v := (1 : Int32)) hx hb dL_law_493 (by decide) ?_
  refine lv_iadd hx hb dL_law_494 ?_
  refine va_sld hx hb hX hbl hbA hS i1 dL_law_495 ?_
  refine c_Vl (q := (RX7, TX7, 11)) (ci := 7) (b := 0) (As := [.int (xs (nI j + (1 : Int32)).toNatClampNeg)]) (rest := []) (A := fun q : Nat => s.heap.size ≤ q) ⟨hx, hb, hml, hown, htb⟩ (c_X7_known l D ad cI hd σ τ η (xs (nI j + (1 : Int32)).toNatClampNeg) r e1) (cwV 1 htb (gdV (fun _ hh => hh) wML_RL_59 wIM_yX7_known wSE_yX7_known wI_RX7 wC_yX7_known) rfl rfl rfl hd_X7_known ⟨by decide, by decide⟩) hK hP rfl w_0 hA hS rfl hl.1 rfl (Nat.le_of_ble_eq_true rfl) dL_law_496 ⟨by decide, by decide⟩ (fun H locs hP hS => ?_)
  refine lv_aload_n hx hb dL_law_499 rfl (lv_at hl 2 rfl) ?_
  refine lv_aload_n hx hb dL_law_500 rfl (lv_at hl 0 rfl) ?_
  refine lv_iload_n hx hb dL_law_501 rfl (lv_at hl 3 rfl) ?_
  refine lv_iconst (v := (1 : Int32)) hx hb dL_law_502 (by decide) ?_
  refine lv_iadd hx hb dL_law_503 ?_
  refine va_sld hx hb hX hbl hbA hS i1 dL_law_504 ?_
  refine c_Vl (q := (RX8, TX8, 27)) (ci := 8) (b := 29) (As := [.int (xs (nI j + (1 : Int32)).toNatClampNeg)]) (rest := [.long r]) (A := fun q : Nat => s.heap.size ≤ q) ⟨hx, hb, hml, hown, htb⟩ (c_X8_known l D ad cI hd σ τ η (xs (nI j + (1 : Int32)).toNatClampNeg) (r, τ1) e2) (cwV 1 htb (gdV (fun _ hh => hh) wML_RL_63 wIM_yX8_known wSE_yX8_known wI_RX8 wC_yX8_known) rfl rfl rfl hd_X8_known ⟨by decide, by decide⟩) hK hP rfl w_29 hA hS rfl hl.1 rfl (Nat.le_of_ble_eq_true rfl) dL_law_505 ⟨by decide, by decide⟩ (fun H locs hP hS => ?_)
  refine W.lcmp hx hb dL_law_508 ?_
  refine lv_if_eq (tgt := 989) hx hb dL_law_509 (by decide) (fun _ => ?_) (fun c8 => absurd ((lg_cmp_eq _ _).mpr rfl) c8)
  exact JJ _ _ _ _ _ _ I1 hP hS hl
set_option maxHeartbeats 4000000 in
set_option maxRecDepth 100000 in
theorem law_11 {p : Program} {e : Env} {s : State} {m : MethodId} {below : List Frame} {meth : Method} {c : Code} (l : Launch) {b L : Nat} {xs : Nat → Int32} (hL : L ≤ 2560) (C0 : lw_At p s m meth c b L xs) {Inv : St → St → Prop} (hSim : SimAll Inv) {D : va_G} {ad : Nat → Nat} {cI : ClassId} (hd : HD ad) (hK : KK D cI s) (hA : ∀ q, AA ad q → s.heap.size ≤ q) (j : Nat) (i1 : vp_in (nI j + (1 : Int32)) L) (i2 : vp_in (nI j + (2 : Int32)) L) (i3 : vp_in (nI j + (3 : Int32)) L) (i4 : vp_in (nI j + (4 : Int32)) L)
    (JJ : ∀ (H : Heap) (locs : List Loc) (ls : Array Slot) (σ τ : St) (η : Int64), Inv σ τ → WP D ad cI σ τ η H → va_S (fun q : Nat => s.heap.size ≤ q) s.heap H locs → lv_has ls 4 [(0, .ref b), (1, .ref (ad 0)), (2, .ref (ad 29)), (3, .int (nI j))] → W p l e room_1 s m #[Value.ref b] below meth c H locs 46 829 (lw_Z below #[Value.ref b] s) (F0 m 989 ls []))
    (H : Heap) (locs : List Loc) (ls : Array Slot) (σ τ : St) (η : Int64) (I : Inv σ τ) (hP : WP D ad cI σ τ η H) (hS : va_S (fun q : Nat => s.heap.size ≤ q) s.heap H locs) (hl : lv_has ls 4 [(0, .ref b), (1, .ref (ad 0)), (2, .ref (ad 29)), (3, .int (nI j))]) : W p l e room_1 s m #[Value.ref b] below meth c H locs 46 829 (lw_Z below #[Value.ref b] s) (F0 m 514 ls []) := by
  obtain ⟨hx, hb, hr, hml, hown, hts, hX, hbl, hlocks, hgv⟩ := id C0
  replace hown : s.vm.findClass RL = some m.cls := hown
  have htb : ∀ w ∈ TBL, w.before #[Value.ref b] s = true := fun w hw => hts w (List.mem_filter.mp hw).1
  have hbA : ¬ (fun q : Nat => s.heap.size ≤ q) b := Nat.not_le.mpr hbl
  obtain ⟨r, τ1, e1, e2, I1⟩ := hSim.2.2.2.2.2.2.2.2.2.2.2.1 σ τ (xs (nI j + (1 : Int32)).toNatClampNeg) (xs (nI j + (2 : Int32)).toNatClampNeg) I
  refine lv_aload_n hx hb dL_law_514 rfl (lv_at hl 1 rfl) ?_
  refine lv_aload_n hx hb dL_law_515 rfl (lv_at hl 0 rfl) ?_
  refine lv_iload_n hx hb dL_law_516 rfl (lv_at hl 3 rfl) ?_
  refine lv_iconst (v := (1 : Int32)) hx hb dL_law_517 (by decide) ?_
  refine lv_iadd hx hb dL_law_518 ?_
  refine va_sld hx hb hX hbl hbA hS i1 dL_law_519 ?_
  refine lv_aload_n hx hb dL_law_520 rfl (lv_at hl 0 rfl) ?_
  refine lv_iload_n hx hb dL_law_521 rfl (lv_at hl 3 rfl) ?_
  refine lv_iconst (v := (2 : Int32)) hx hb dL_law_522 (by decide) ?_
  refine lv_iadd hx hb dL_law_523 ?_
  refine va_sld hx hb hX hbl hbA hS i2 dL_law_524 ?_
  refine c_Vl (q := (RX7, TX7, 11)) (ci := 7) (b := 0) (As := [.int (xs (nI j + (1 : Int32)).toNatClampNeg), .int (xs (nI j + (2 : Int32)).toNatClampNeg)]) (rest := []) (A := fun q : Nat => s.heap.size ≤ q) ⟨hx, hb, hml, hown, htb⟩ (c_X7_whose l D ad cI hd σ τ η (xs (nI j + (1 : Int32)).toNatClampNeg) (xs (nI j + (2 : Int32)).toNatClampNeg) r e1) (cwV 2 htb (gdV (fun _ hh => hh) wML_RL_64 wIM_yX7_whose wSE_yX7_whose wI_RX7 wC_yX7_whose) rfl rfl rfl hd_X7_whose ⟨by decide, by decide⟩) hK hP rfl w_0 hA hS rfl hl.1 rfl (Nat.le_of_ble_eq_true rfl) dL_law_525 ⟨by decide, by decide⟩ (fun H locs hP hS => ?_)
  refine lv_aload_n hx hb dL_law_528 rfl (lv_at hl 2 rfl) ?_
  refine lv_aload_n hx hb dL_law_529 rfl (lv_at hl 0 rfl) ?_
  refine lv_iload_n hx hb dL_law_530 rfl (lv_at hl 3 rfl) ?_
  refine lv_iconst (v := (1 : Int32)) hx hb dL_law_531 (by decide) ?_
  refine lv_iadd hx hb dL_law_532 ?_
  refine va_sld hx hb hX hbl hbA hS i1 dL_law_533 ?_
  refine lv_aload_n hx hb dL_law_534 rfl (lv_at hl 0 rfl) ?_
  refine lv_iload_n hx hb dL_law_535 rfl (lv_at hl 3 rfl) ?_
  refine lv_iconst (v := (2 : Int32)) hx hb dL_law_536 (by decide) ?_
  refine lv_iadd hx hb dL_law_537 ?_
  refine va_sld hx hb hX hbl hbA hS i2 dL_law_538 ?_
  refine c_Vl (q := (RX8, TX8, 27)) (ci := 8) (b := 29) (As := [.int (xs (nI j + (1 : Int32)).toNatClampNeg), .int (xs (nI j + (2 : Int32)).toNatClampNeg)]) (rest := [.long r]) (A := fun q : Nat => s.heap.size ≤ q) ⟨hx, hb, hml, hown, htb⟩ (c_X8_whose l D ad cI hd σ τ η (xs (nI j + (1 : Int32)).toNatClampNeg) (xs (nI j + (2 : Int32)).toNatClampNeg) (r, τ1) e2) (cwV 2 htb (gdV (fun _ hh => hh) wML_RL_68 wIM_yX8_whose wSE_yX8_whose wI_RX8 wC_yX8_whose) rfl rfl rfl hd_X8_whose ⟨by decide, by decide⟩) hK hP rfl w_29 hA hS rfl hl.1 rfl (Nat.le_of_ble_eq_true rfl) dL_law_539 ⟨by decide, by decide⟩ (fun H locs hP hS => ?_)
  refine W.lcmp hx hb dL_law_542 ?_
  refine lv_if_eq (tgt := 989) hx hb dL_law_543 (by decide) (fun _ => ?_) (fun c8 => absurd ((lg_cmp_eq _ _).mpr rfl) c8)
  exact JJ _ _ _ _ _ _ I1 hP hS hl
set_option maxHeartbeats 4000000 in
set_option maxRecDepth 100000 in
theorem law_12 {p : Program} {e : Env} {s : State} {m : MethodId} {below : List Frame} {meth : Method} {c : Code} (l : Launch) {b L : Nat} {xs : Nat → Int32} (hL : L ≤ 2560) (C0 : lw_At p s m meth c b L xs) {Inv : St → St → Prop} (hSim : SimAll Inv) {D : va_G} {ad : Nat → Nat} {cI : ClassId} (hd : HD ad) (hK : KK D cI s) (hA : ∀ q, AA ad q → s.heap.size ≤ q) (j : Nat) (i1 : vp_in (nI j + (1 : Int32)) L) (i2 : vp_in (nI j + (2 : Int32)) L) (i3 : vp_in (nI j + (3 : Int32)) L) (i4 : vp_in (nI j + (4 : Int32)) L)
    (JJ : ∀ (H : Heap) (locs : List Loc) (ls : Array Slot) (σ τ : St) (η : Int64), Inv σ τ → WP D ad cI σ τ η H → va_S (fun q : Nat => s.heap.size ≤ q) s.heap H locs → lv_has ls 4 [(0, .ref b), (1, .ref (ad 0)), (2, .ref (ad 29)), (3, .int (nI j))] → W p l e room_1 s m #[Value.ref b] below meth c H locs 46 829 (lw_Z below #[Value.ref b] s) (F0 m 989 ls []))
    (H : Heap) (locs : List Loc) (ls : Array Slot) (σ τ : St) (η : Int64) (I : Inv σ τ) (hP : WP D ad cI σ τ η H) (hS : va_S (fun q : Nat => s.heap.size ≤ q) s.heap H locs) (hl : lv_has ls 4 [(0, .ref b), (1, .ref (ad 0)), (2, .ref (ad 29)), (3, .int (nI j))]) : W p l e room_1 s m #[Value.ref b] below meth c H locs 46 829 (lw_Z below #[Value.ref b] s) (F0 m 548 ls []) := by
  obtain ⟨hx, hb, hr, hml, hown, hts, hX, hbl, hlocks, hgv⟩ := id C0
  replace hown : s.vm.findClass RL = some m.cls := hown
  have htb : ∀ w ∈ TBL, w.before #[Value.ref b] s = true := fun w hw => hts w (List.mem_filter.mp hw).1
  have hbA : ¬ (fun q : Nat => s.heap.size ≤ q) b := Nat.not_le.mpr hbl
  obtain ⟨r, τ1, e1, e2, I1⟩ := hSim.2.2.2.2.2.2.2.2.2.2.2.2.1 σ τ  I
  refine lv_aload_n hx hb dL_law_548 rfl (lv_at hl 1 rfl) ?_
  refine c_Vi (q := (RX7, TX7, 11)) (ci := 7) (b := 0) (As := []) (rest := []) (A := fun q : Nat => s.heap.size ≤ q) ⟨hx, hb, hml, hown, htb⟩ (c_X7_right l D ad cI hd σ τ η  r e1) (cwV 0 htb (gdV (fun _ hh => hh) wML_RL_69 wIM_yX7_right wSE_yX7_right wI_RX7 wC_yX7_right) rfl rfl rfl hd_X7_right ⟨by decide, by decide⟩) hK hP rfl w_0 hA hS rfl hl.1 rfl (Nat.le_of_ble_eq_true rfl) dL_law_549 ⟨by decide, by decide⟩ (fun H locs hP hS => ?_)
  refine lv_aload_n hx hb dL_law_552 rfl (lv_at hl 2 rfl) ?_
  refine c_Vi (q := (RX8, TX8, 27)) (ci := 8) (b := 29) (As := []) (rest := [.int r]) (A := fun q : Nat => s.heap.size ≤ q) ⟨hx, hb, hml, hown, htb⟩ (c_X8_right l D ad cI hd σ τ η  (r, τ1) e2) (cwV 0 htb (gdV (fun _ hh => hh) wML_RL_72 wIM_yX8_right wSE_yX8_right wI_RX8 wC_yX8_right) rfl rfl rfl hd_X8_right ⟨by decide, by decide⟩) hK hP rfl w_29 hA hS rfl hl.1 rfl (Nat.le_of_ble_eq_true rfl) dL_law_553 ⟨by decide, by decide⟩ (fun H locs hP hS => ?_)
  refine lv_icmp_eq (tgt := 989) hx hb dL_law_556 (by decide) (fun _ => ?_) (fun c8 => absurd rfl c8)
  exact JJ _ _ _ _ _ _ I1 hP hS hl
set_option maxHeartbeats 4000000 in
set_option maxRecDepth 100000 in
theorem law_13 {p : Program} {e : Env} {s : State} {m : MethodId} {below : List Frame} {meth : Method} {c : Code} (l : Launch) {b L : Nat} {xs : Nat → Int32} (hL : L ≤ 2560) (C0 : lw_At p s m meth c b L xs) {Inv : St → St → Prop} (hSim : SimAll Inv) {D : va_G} {ad : Nat → Nat} {cI : ClassId} (hd : HD ad) (hK : KK D cI s) (hA : ∀ q, AA ad q → s.heap.size ≤ q) (j : Nat) (i1 : vp_in (nI j + (1 : Int32)) L) (i2 : vp_in (nI j + (2 : Int32)) L) (i3 : vp_in (nI j + (3 : Int32)) L) (i4 : vp_in (nI j + (4 : Int32)) L)
    (JJ : ∀ (H : Heap) (locs : List Loc) (ls : Array Slot) (σ τ : St) (η : Int64), Inv σ τ → WP D ad cI σ τ η H → va_S (fun q : Nat => s.heap.size ≤ q) s.heap H locs → lv_has ls 4 [(0, .ref b), (1, .ref (ad 0)), (2, .ref (ad 29)), (3, .int (nI j))] → W p l e room_1 s m #[Value.ref b] below meth c H locs 46 829 (lw_Z below #[Value.ref b] s) (F0 m 989 ls []))
    (H : Heap) (locs : List Loc) (ls : Array Slot) (σ τ : St) (η : Int64) (I : Inv σ τ) (hP : WP D ad cI σ τ η H) (hS : va_S (fun q : Nat => s.heap.size ≤ q) s.heap H locs) (hl : lv_has ls 4 [(0, .ref b), (1, .ref (ad 0)), (2, .ref (ad 29)), (3, .int (nI j))]) : W p l e room_1 s m #[Value.ref b] below meth c H locs 46 829 (lw_Z below #[Value.ref b] s) (F0 m 561 ls []) := by
  obtain ⟨hx, hb, hr, hml, hown, hts, hX, hbl, hlocks, hgv⟩ := id C0
  replace hown : s.vm.findClass RL = some m.cls := hown
  have htb : ∀ w ∈ TBL, w.before #[Value.ref b] s = true := fun w hw => hts w (List.mem_filter.mp hw).1
  have hbA : ¬ (fun q : Nat => s.heap.size ≤ q) b := Nat.not_le.mpr hbl
  obtain ⟨r, σ1, τ1, e1, e2, I1⟩ := hSim.2.2.2.2.2.2.2.2.2.2.2.2.2.1 σ τ (xs (nI j + (1 : Int32)).toNatClampNeg) I
  refine lv_aload_n hx hb dL_law_561 rfl (lv_at hl 1 rfl) ?_
  refine lv_aload_n hx hb dL_law_562 rfl (lv_at hl 0 rfl) ?_
  refine lv_iload_n hx hb dL_law_563 rfl (lv_at hl 3 rfl) ?_
  refine lv_iconst (v := (1 : Int32)) hx hb dL_law_564 (by decide) ?_
  refine lv_iadd hx hb dL_law_565 ?_
  refine va_sld hx hb hX hbl hbA hS i1 dL_law_566 ?_
  refine c_Vl (q := (RX7, TX7, 11)) (ci := 7) (b := 0) (As := [.int (xs (nI j + (1 : Int32)).toNatClampNeg)]) (rest := []) (A := fun q : Nat => s.heap.size ≤ q) ⟨hx, hb, hml, hown, htb⟩ (c_X7_best l D ad cI hd σ τ η (xs (nI j + (1 : Int32)).toNatClampNeg) (r, σ1) e1) (cwV 1 htb (gdV (fun _ hh => hh) wML_RL_73 wIM_yX7_best wSE_yX7_best wI_RX7 wC_yX7_best) rfl rfl rfl hd_X7_best ⟨by decide, by decide⟩) hK hP rfl w_0 hA hS rfl hl.1 rfl (Nat.le_of_ble_eq_true rfl) dL_law_567 ⟨by decide, by decide⟩ (fun H locs hP hS => ?_)
  refine lv_aload_n hx hb dL_law_570 rfl (lv_at hl 2 rfl) ?_
  refine lv_aload_n hx hb dL_law_571 rfl (lv_at hl 0 rfl) ?_
  refine lv_iload_n hx hb dL_law_572 rfl (lv_at hl 3 rfl) ?_
  refine lv_iconst (v := (1 : Int32)) hx hb dL_law_573 (by decide) ?_
  refine lv_iadd hx hb dL_law_574 ?_
  refine va_sld hx hb hX hbl hbA hS i1 dL_law_575 ?_
  refine c_Vl (q := (RX8, TX8, 27)) (ci := 8) (b := 29) (As := [.int (xs (nI j + (1 : Int32)).toNatClampNeg)]) (rest := [.long r]) (A := fun q : Nat => s.heap.size ≤ q) ⟨hx, hb, hml, hown, htb⟩ (c_X8_best l D ad cI hd σ1 τ η (xs (nI j + (1 : Int32)).toNatClampNeg) (r, τ1) e2) (cwV 1 htb (gdV (fun _ hh => hh) wML_RL_76 wIM_yX8_best wSE_yX8_best wI_RX8 wC_yX8_best) rfl rfl rfl hd_X8_best ⟨by decide, by decide⟩) hK hP rfl w_29 hA hS rfl hl.1 rfl (Nat.le_of_ble_eq_true rfl) dL_law_576 ⟨by decide, by decide⟩ (fun H locs hP hS => ?_)
  refine W.lcmp hx hb dL_law_579 ?_
  refine lv_if_eq (tgt := 989) hx hb dL_law_580 (by decide) (fun _ => ?_) (fun c8 => absurd ((lg_cmp_eq _ _).mpr rfl) c8)
  exact JJ _ _ _ _ _ _ I1 hP hS hl
set_option maxHeartbeats 4000000 in
set_option maxRecDepth 100000 in
theorem law_14 {p : Program} {e : Env} {s : State} {m : MethodId} {below : List Frame} {meth : Method} {c : Code} (l : Launch) {b L : Nat} {xs : Nat → Int32} (hL : L ≤ 2560) (C0 : lw_At p s m meth c b L xs) {Inv : St → St → Prop} (hSim : SimAll Inv) {D : va_G} {ad : Nat → Nat} {cI : ClassId} (hd : HD ad) (hK : KK D cI s) (hA : ∀ q, AA ad q → s.heap.size ≤ q) (j : Nat) (i1 : vp_in (nI j + (1 : Int32)) L) (i2 : vp_in (nI j + (2 : Int32)) L) (i3 : vp_in (nI j + (3 : Int32)) L) (i4 : vp_in (nI j + (4 : Int32)) L)
    (JJ : ∀ (H : Heap) (locs : List Loc) (ls : Array Slot) (σ τ : St) (η : Int64), Inv σ τ → WP D ad cI σ τ η H → va_S (fun q : Nat => s.heap.size ≤ q) s.heap H locs → lv_has ls 4 [(0, .ref b), (1, .ref (ad 0)), (2, .ref (ad 29)), (3, .int (nI j))] → W p l e room_1 s m #[Value.ref b] below meth c H locs 46 829 (lw_Z below #[Value.ref b] s) (F0 m 989 ls []))
    (H : Heap) (locs : List Loc) (ls : Array Slot) (σ τ : St) (η : Int64) (I : Inv σ τ) (hP : WP D ad cI σ τ η H) (hS : va_S (fun q : Nat => s.heap.size ≤ q) s.heap H locs) (hl : lv_has ls 4 [(0, .ref b), (1, .ref (ad 0)), (2, .ref (ad 29)), (3, .int (nI j))]) : W p l e room_1 s m #[Value.ref b] below meth c H locs 46 829 (lw_Z below #[Value.ref b] s) (F0 m 585 ls []) := by
  obtain ⟨hx, hb, hr, hml, hown, hts, hX, hbl, hlocks, hgv⟩ := id C0
  replace hown : s.vm.findClass RL = some m.cls := hown
  have htb : ∀ w ∈ TBL, w.before #[Value.ref b] s = true := fun w hw => hts w (List.mem_filter.mp hw).1
  have hbA : ¬ (fun q : Nat => s.heap.size ≤ q) b := Nat.not_le.mpr hbl
  obtain ⟨r, σ1, τ1, e1, e2, I1⟩ := hSim.2.2.2.2.2.2.2.2.2.2.2.2.2.2.1 σ τ  I
  refine lv_aload_n hx hb dL_law_585 rfl (lv_at hl 1 rfl) ?_
  refine c_Vi (q := (RX7, TX7, 11)) (ci := 7) (b := 0) (As := []) (rest := []) (A := fun q : Nat => s.heap.size ≤ q) ⟨hx, hb, hml, hown, htb⟩ (c_X7_hole l D ad cI hd σ τ η  (r, σ1) e1) (cwV 0 htb (gdV (fun _ hh => hh) wML_RL_77 wIM_yX7_hole wSE_yX7_hole wI_RX7 wC_yX7_hole) rfl rfl rfl hd_X7_hole ⟨by decide, by decide⟩) hK hP rfl w_0 hA hS rfl hl.1 rfl (Nat.le_of_ble_eq_true rfl) dL_law_586 ⟨by decide, by decide⟩ (fun H locs hP hS => ?_)
  refine lv_aload_n hx hb dL_law_589 rfl (lv_at hl 2 rfl) ?_
  refine c_Vi (q := (RX8, TX8, 27)) (ci := 8) (b := 29) (As := []) (rest := [.int r]) (A := fun q : Nat => s.heap.size ≤ q) ⟨hx, hb, hml, hown, htb⟩ (c_X8_hole l D ad cI hd σ1 τ η  (r, τ1) e2) (cwV 0 htb (gdV (fun _ hh => hh) wML_RL_80 wIM_yX8_hole wSE_yX8_hole wI_RX8 wC_yX8_hole) rfl rfl rfl hd_X8_hole ⟨by decide, by decide⟩) hK hP rfl w_29 hA hS rfl hl.1 rfl (Nat.le_of_ble_eq_true rfl) dL_law_590 ⟨by decide, by decide⟩ (fun H locs hP hS => ?_)
  refine lv_icmp_eq (tgt := 989) hx hb dL_law_593 (by decide) (fun _ => ?_) (fun c8 => absurd rfl c8)
  exact JJ _ _ _ _ _ _ I1 hP hS hl
set_option maxHeartbeats 4000000 in
set_option maxRecDepth 100000 in
theorem law_15 {p : Program} {e : Env} {s : State} {m : MethodId} {below : List Frame} {meth : Method} {c : Code} (l : Launch) {b L : Nat} {xs : Nat → Int32} (hL : L ≤ 2560) (C0 : lw_At p s m meth c b L xs) {Inv : St → St → Prop} (hSim : SimAll Inv) {D : va_G} {ad : Nat → Nat} {cI : ClassId} (hd : HD ad) (hK : KK D cI s) (hA : ∀ q, AA ad q → s.heap.size ≤ q) (j : Nat) (i1 : vp_in (nI j + (1 : Int32)) L) (i2 : vp_in (nI j + (2 : Int32)) L) (i3 : vp_in (nI j + (3 : Int32)) L) (i4 : vp_in (nI j + (4 : Int32)) L)
    (JJ : ∀ (H : Heap) (locs : List Loc) (ls : Array Slot) (σ τ : St) (η : Int64), Inv σ τ → WP D ad cI σ τ η H → va_S (fun q : Nat => s.heap.size ≤ q) s.heap H locs → lv_has ls 4 [(0, .ref b), (1, .ref (ad 0)), (2, .ref (ad 29)), (3, .int (nI j))] → W p l e room_1 s m #[Value.ref b] below meth c H locs 46 829 (lw_Z below #[Value.ref b] s) (F0 m 989 ls []))
    (H : Heap) (locs : List Loc) (ls : Array Slot) (σ τ : St) (η : Int64) (I : Inv σ τ) (hP : WP D ad cI σ τ η H) (hS : va_S (fun q : Nat => s.heap.size ≤ q) s.heap H locs) (hl : lv_has ls 4 [(0, .ref b), (1, .ref (ad 0)), (2, .ref (ad 29)), (3, .int (nI j))]) : W p l e room_1 s m #[Value.ref b] below meth c H locs 46 829 (lw_Z below #[Value.ref b] s) (F0 m 598 ls []) := by
  obtain ⟨hx, hb, hr, hml, hown, hts, hX, hbl, hlocks, hgv⟩ := id C0
  replace hown : s.vm.findClass RL = some m.cls := hown
  have htb : ∀ w ∈ TBL, w.before #[Value.ref b] s = true := fun w hw => hts w (List.mem_filter.mp hw).1
  have hbA : ¬ (fun q : Nat => s.heap.size ≤ q) b := Nat.not_le.mpr hbl
  obtain ⟨r, τ1, e1, e2, I1⟩ := hSim.2.2.2.2.2.2.2.2.2.2.2.2.2.2.2.1 σ τ (xs (nI j + (1 : Int32)).toNatClampNeg) I
  refine lv_aload_n hx hb dL_law_598 rfl (lv_at hl 1 rfl) ?_
  refine lv_aload_n hx hb dL_law_599 rfl (lv_at hl 0 rfl) ?_
  refine lv_iload_n hx hb dL_law_600 rfl (lv_at hl 3 rfl) ?_
  refine lv_iconst (v := (1 : Int32)) hx hb dL_law_601 (by decide) ?_
  refine lv_iadd hx hb dL_law_602 ?_
  refine va_sld hx hb hX hbl hbA hS i1 dL_law_603 ?_
  refine c_Vi (q := (RX7, TX7, 11)) (ci := 7) (b := 0) (As := [.int (xs (nI j + (1 : Int32)).toNatClampNeg)]) (rest := []) (A := fun q : Nat => s.heap.size ≤ q) ⟨hx, hb, hml, hown, htb⟩ (c_X7_latest l D ad cI hd σ τ η (xs (nI j + (1 : Int32)).toNatClampNeg) r e1) (cwV 1 htb (gdV (fun _ hh => hh) wML_RL_81 wIM_yX7_latest wSE_yX7_latest wI_RX7 wC_yX7_latest) rfl rfl rfl hd_X7_latest ⟨by decide, by decide⟩) hK hP rfl w_0 hA hS rfl hl.1 rfl (Nat.le_of_ble_eq_true rfl) dL_law_604 ⟨by decide, by decide⟩ (fun H locs hP hS => ?_)
  refine lv_aload_n hx hb dL_law_607 rfl (lv_at hl 2 rfl) ?_
  refine lv_aload_n hx hb dL_law_608 rfl (lv_at hl 0 rfl) ?_
  refine lv_iload_n hx hb dL_law_609 rfl (lv_at hl 3 rfl) ?_
  refine lv_iconst (v := (1 : Int32)) hx hb dL_law_610 (by decide) ?_
  refine lv_iadd hx hb dL_law_611 ?_
  refine va_sld hx hb hX hbl hbA hS i1 dL_law_612 ?_
  refine c_Vi (q := (RX8, TX8, 27)) (ci := 8) (b := 29) (As := [.int (xs (nI j + (1 : Int32)).toNatClampNeg)]) (rest := [.int r]) (A := fun q : Nat => s.heap.size ≤ q) ⟨hx, hb, hml, hown, htb⟩ (c_X8_latest l D ad cI hd σ τ η (xs (nI j + (1 : Int32)).toNatClampNeg) (r, τ1) e2) (cwV 1 htb (gdV (fun _ hh => hh) wML_RL_85 wIM_yX8_latest wSE_yX8_latest wI_RX8 wC_yX8_latest) rfl rfl rfl hd_X8_latest ⟨by decide, by decide⟩) hK hP rfl w_29 hA hS rfl hl.1 rfl (Nat.le_of_ble_eq_true rfl) dL_law_613 ⟨by decide, by decide⟩ (fun H locs hP hS => ?_)
  refine lv_icmp_eq (tgt := 989) hx hb dL_law_616 (by decide) (fun _ => ?_) (fun c8 => absurd rfl c8)
  exact JJ _ _ _ _ _ _ I1 hP hS hl
set_option maxHeartbeats 4000000 in
set_option maxRecDepth 100000 in
theorem law_16 {p : Program} {e : Env} {s : State} {m : MethodId} {below : List Frame} {meth : Method} {c : Code} (l : Launch) {b L : Nat} {xs : Nat → Int32} (hL : L ≤ 2560) (C0 : lw_At p s m meth c b L xs) {Inv : St → St → Prop} (hSim : SimAll Inv) {D : va_G} {ad : Nat → Nat} {cI : ClassId} (hd : HD ad) (hK : KK D cI s) (hA : ∀ q, AA ad q → s.heap.size ≤ q) (j : Nat) (i1 : vp_in (nI j + (1 : Int32)) L) (i2 : vp_in (nI j + (2 : Int32)) L) (i3 : vp_in (nI j + (3 : Int32)) L) (i4 : vp_in (nI j + (4 : Int32)) L)
    (JJ : ∀ (H : Heap) (locs : List Loc) (ls : Array Slot) (σ τ : St) (η : Int64), Inv σ τ → WP D ad cI σ τ η H → va_S (fun q : Nat => s.heap.size ≤ q) s.heap H locs → lv_has ls 4 [(0, .ref b), (1, .ref (ad 0)), (2, .ref (ad 29)), (3, .int (nI j))] → W p l e room_1 s m #[Value.ref b] below meth c H locs 46 829 (lw_Z below #[Value.ref b] s) (F0 m 989 ls []))
    (H : Heap) (locs : List Loc) (ls : Array Slot) (σ τ : St) (η : Int64) (I : Inv σ τ) (hP : WP D ad cI σ τ η H) (hS : va_S (fun q : Nat => s.heap.size ≤ q) s.heap H locs) (hl : lv_has ls 4 [(0, .ref b), (1, .ref (ad 0)), (2, .ref (ad 29)), (3, .int (nI j))]) : W p l e room_1 s m #[Value.ref b] below meth c H locs 46 829 (lw_Z below #[Value.ref b] s) (F0 m 621 ls []) := by
  obtain ⟨hx, hb, hr, hml, hown, hts, hX, hbl, hlocks, hgv⟩ := id C0
  replace hown : s.vm.findClass RL = some m.cls := hown
  have htb : ∀ w ∈ TBL, w.before #[Value.ref b] s = true := fun w hw => hts w (List.mem_filter.mp hw).1
  have hbA : ¬ (fun q : Nat => s.heap.size ≤ q) b := Nat.not_le.mpr hbl
  obtain ⟨r, σ1, τ1, e1, e2, I1⟩ := hSim.2.2.2.2.2.2.2.2.2.2.2.2.2.2.2.2.1 σ τ (xs (nI j + (1 : Int32)).toNatClampNeg) I
  refine lv_aload_n hx hb dL_law_621 rfl (lv_at hl 1 rfl) ?_
  refine lv_aload_n hx hb dL_law_622 rfl (lv_at hl 0 rfl) ?_
  refine lv_iload_n hx hb dL_law_623 rfl (lv_at hl 3 rfl) ?_
  refine lv_iconst (v := (1 : Int32)) hx hb dL_law_624 (by decide) ?_
  refine lv_iadd hx hb dL_law_625 ?_
  refine va_sld hx hb hX hbl hbA hS i1 dL_law_626 ?_
  refine c_Vi (q := (RX7, TX7, 11)) (ci := 7) (b := 0) (As := [.int (xs (nI j + (1 : Int32)).toNatClampNeg)]) (rest := []) (A := fun q : Nat => s.heap.size ≤ q) ⟨hx, hb, hml, hown, htb⟩ (c_X7_story l D ad cI hd σ τ η (xs (nI j + (1 : Int32)).toNatClampNeg) (r, σ1) e1) (cwV 1 htb (gdV (fun _ hh => hh) wML_RL_86 wIM_yX7_story wSE_yX7_story wI_RX7 wC_yX7_story) rfl rfl rfl hd_X7_story ⟨by decide, by decide⟩) hK hP rfl w_0 hA hS rfl hl.1 rfl (Nat.le_of_ble_eq_true rfl) dL_law_627 ⟨by decide, by decide⟩ (fun H locs hP hS => ?_)
  refine lv_aload_n hx hb dL_law_630 rfl (lv_at hl 2 rfl) ?_
  refine lv_aload_n hx hb dL_law_631 rfl (lv_at hl 0 rfl) ?_
  refine lv_iload_n hx hb dL_law_632 rfl (lv_at hl 3 rfl) ?_
  refine lv_iconst (v := (1 : Int32)) hx hb dL_law_633 (by decide) ?_
  refine lv_iadd hx hb dL_law_634 ?_
  refine va_sld hx hb hX hbl hbA hS i1 dL_law_635 ?_
  refine c_Vi (q := (RX8, TX8, 27)) (ci := 8) (b := 29) (As := [.int (xs (nI j + (1 : Int32)).toNatClampNeg)]) (rest := [.int r]) (A := fun q : Nat => s.heap.size ≤ q) ⟨hx, hb, hml, hown, htb⟩ (c_X8_story l D ad cI hd σ1 τ η (xs (nI j + (1 : Int32)).toNatClampNeg) (r, τ1) e2) (cwV 1 htb (gdV (fun _ hh => hh) wML_RL_89 wIM_yX8_story wSE_yX8_story wI_RX8 wC_yX8_story) rfl rfl rfl hd_X8_story ⟨by decide, by decide⟩) hK hP rfl w_29 hA hS rfl hl.1 rfl (Nat.le_of_ble_eq_true rfl) dL_law_636 ⟨by decide, by decide⟩ (fun H locs hP hS => ?_)
  refine lv_icmp_eq (tgt := 989) hx hb dL_law_639 (by decide) (fun _ => ?_) (fun c8 => absurd rfl c8)
  exact JJ _ _ _ _ _ _ I1 hP hS hl
set_option maxHeartbeats 4000000 in
set_option maxRecDepth 100000 in
theorem law_17 {p : Program} {e : Env} {s : State} {m : MethodId} {below : List Frame} {meth : Method} {c : Code} (l : Launch) {b L : Nat} {xs : Nat → Int32} (hL : L ≤ 2560) (C0 : lw_At p s m meth c b L xs) {Inv : St → St → Prop} (hSim : SimAll Inv) {D : va_G} {ad : Nat → Nat} {cI : ClassId} (hd : HD ad) (hK : KK D cI s) (hA : ∀ q, AA ad q → s.heap.size ≤ q) (j : Nat) (i1 : vp_in (nI j + (1 : Int32)) L) (i2 : vp_in (nI j + (2 : Int32)) L) (i3 : vp_in (nI j + (3 : Int32)) L) (i4 : vp_in (nI j + (4 : Int32)) L)
    (JJ : ∀ (H : Heap) (locs : List Loc) (ls : Array Slot) (σ τ : St) (η : Int64), Inv σ τ → WP D ad cI σ τ η H → va_S (fun q : Nat => s.heap.size ≤ q) s.heap H locs → lv_has ls 4 [(0, .ref b), (1, .ref (ad 0)), (2, .ref (ad 29)), (3, .int (nI j))] → W p l e room_1 s m #[Value.ref b] below meth c H locs 46 829 (lw_Z below #[Value.ref b] s) (F0 m 989 ls []))
    (H : Heap) (locs : List Loc) (ls : Array Slot) (σ τ : St) (η : Int64) (I : Inv σ τ) (hP : WP D ad cI σ τ η H) (hS : va_S (fun q : Nat => s.heap.size ≤ q) s.heap H locs) (hl : lv_has ls 4 [(0, .ref b), (1, .ref (ad 0)), (2, .ref (ad 29)), (3, .int (nI j))]) : W p l e room_1 s m #[Value.ref b] below meth c H locs 46 829 (lw_Z below #[Value.ref b] s) (F0 m 644 ls []) := by
  obtain ⟨hx, hb, hr, hml, hown, hts, hX, hbl, hlocks, hgv⟩ := id C0
  replace hown : s.vm.findClass RL = some m.cls := hown
  have htb : ∀ w ∈ TBL, w.before #[Value.ref b] s = true := fun w hw => hts w (List.mem_filter.mp hw).1
  have hbA : ¬ (fun q : Nat => s.heap.size ≤ q) b := Nat.not_le.mpr hbl
  by_cases cz : (xs (nI j + (3 : Int32)).toNatClampNeg) = 0
  · obtain ⟨r, σ1, τ1, e1, e2, I1⟩ := hSim.2.2.2.2.2.2.2.2.2.2.2.2.2.2.2.2.2.1 σ τ (xs (nI j + (1 : Int32)).toNatClampNeg) (xs (nI j + (2 : Int32)).toNatClampNeg) (0 : Int32) I
    refine lv_aload_n hx hb dL_law_644 rfl (lv_at hl 1 rfl) ?_
    refine lv_aload_n hx hb dL_law_645 rfl (lv_at hl 0 rfl) ?_
    refine lv_iload_n hx hb dL_law_646 rfl (lv_at hl 3 rfl) ?_
    refine lv_iconst (v := (1 : Int32)) hx hb dL_law_647 (by decide) ?_
    refine lv_iadd hx hb dL_law_648 ?_
    refine va_sld hx hb hX hbl hbA hS i1 dL_law_649 ?_
    refine lv_aload_n hx hb dL_law_650 rfl (lv_at hl 0 rfl) ?_
    refine lv_iload_n hx hb dL_law_651 rfl (lv_at hl 3 rfl) ?_
    refine lv_iconst (v := (2 : Int32)) hx hb dL_law_652 (by decide) ?_
    refine lv_iadd hx hb dL_law_653 ?_
    refine va_sld hx hb hX hbl hbA hS i2 dL_law_654 ?_
    refine lv_aload_n hx hb dL_law_655 rfl (lv_at hl 0 rfl) ?_
    refine lv_iload_n hx hb dL_law_656 rfl (lv_at hl 3 rfl) ?_
    refine lv_iconst (v := (3 : Int32)) hx hb dL_law_657 (by decide) ?_
    refine lv_iadd hx hb dL_law_658 ?_
    refine va_sld hx hb hX hbl hbA hS i3 dL_law_659 ?_
    refine lv_if_eq (tgt := 667) hx hb dL_law_660 (by decide) (fun _ => ?_) (fun c8 => absurd cz c8)
    refine lv_iconst (v := (0 : Int32)) hx hb dL_law_667 (by decide) ?_
    refine c_Vi (q := (RX7, TX7, 11)) (ci := 7) (b := 0) (As := [.int (xs (nI j + (1 : Int32)).toNatClampNeg), .int (xs (nI j + (2 : Int32)).toNatClampNeg), .int (0 : Int32)]) (rest := []) (A := fun q : Nat => s.heap.size ≤ q) ⟨hx, hb, hml, hown, htb⟩ (c_X7_clash l D ad cI hd σ τ η (xs (nI j + (1 : Int32)).toNatClampNeg) (xs (nI j + (2 : Int32)).toNatClampNeg) (0 : Int32) (r, σ1) e1) (cwV 3 htb (gdV (fun _ hh => hh) wML_RL_90 wIM_yX7_clash wSE_yX7_clash wI_RX7 wC_yX7_clash) rfl rfl rfl hd_X7_clash ⟨by decide, by decide⟩) hK hP rfl w_0 hA hS rfl hl.1 rfl (Nat.le_of_ble_eq_true rfl) dL_law_668 ⟨by decide, by decide⟩ (fun H locs hP hS => ?_)
    refine lv_aload_n hx hb dL_law_671 rfl (lv_at hl 2 rfl) ?_
    refine lv_aload_n hx hb dL_law_672 rfl (lv_at hl 0 rfl) ?_
    refine lv_iload_n hx hb dL_law_673 rfl (lv_at hl 3 rfl) ?_
    refine lv_iconst (v := (1 : Int32)) hx hb dL_law_674 (by decide) ?_
    refine lv_iadd hx hb dL_law_675 ?_
    refine va_sld hx hb hX hbl hbA hS i1 dL_law_676 ?_
    refine lv_aload_n hx hb dL_law_677 rfl (lv_at hl 0 rfl) ?_
    refine lv_iload_n hx hb dL_law_678 rfl (lv_at hl 3 rfl) ?_
    refine lv_iconst (v := (2 : Int32)) hx hb dL_law_679 (by decide) ?_
    refine lv_iadd hx hb dL_law_680 ?_
    refine va_sld hx hb hX hbl hbA hS i2 dL_law_681 ?_
    refine lv_aload_n hx hb dL_law_682 rfl (lv_at hl 0 rfl) ?_
    refine lv_iload_n hx hb dL_law_683 rfl (lv_at hl 3 rfl) ?_
    refine lv_iconst (v := (3 : Int32)) hx hb dL_law_684 (by decide) ?_
    refine lv_iadd hx hb dL_law_685 ?_
    refine va_sld hx hb hX hbl hbA hS i3 dL_law_686 ?_
    refine lv_if_eq (tgt := 694) hx hb dL_law_687 (by decide) (fun _ => ?_) (fun c8 => absurd cz c8)
    refine lv_iconst (v := (0 : Int32)) hx hb dL_law_694 (by decide) ?_
    refine c_Vi (q := (RX8, TX8, 27)) (ci := 8) (b := 29) (As := [.int (xs (nI j + (1 : Int32)).toNatClampNeg), .int (xs (nI j + (2 : Int32)).toNatClampNeg), .int (0 : Int32)]) (rest := [.int r]) (A := fun q : Nat => s.heap.size ≤ q) ⟨hx, hb, hml, hown, htb⟩ (c_X8_clash l D ad cI hd σ1 τ η (xs (nI j + (1 : Int32)).toNatClampNeg) (xs (nI j + (2 : Int32)).toNatClampNeg) (0 : Int32) (r, τ1) e2) (cwV 3 htb (gdV (fun _ hh => hh) wML_RL_94 wIM_yX8_clash wSE_yX8_clash wI_RX8 wC_yX8_clash) rfl rfl rfl hd_X8_clash ⟨by decide, by decide⟩) hK hP rfl w_29 hA hS rfl hl.1 rfl (Nat.le_of_ble_eq_true rfl) dL_law_695 ⟨by decide, by decide⟩ (fun H locs hP hS => ?_)
    refine lv_icmp_eq (tgt := 989) hx hb dL_law_698 (by decide) (fun _ => ?_) (fun c8 => absurd rfl c8)
    exact JJ _ _ _ _ _ _ I1 hP hS hl
  · obtain ⟨r, σ1, τ1, e1, e2, I1⟩ := hSim.2.2.2.2.2.2.2.2.2.2.2.2.2.2.2.2.2.1 σ τ (xs (nI j + (1 : Int32)).toNatClampNeg) (xs (nI j + (2 : Int32)).toNatClampNeg) (1 : Int32) I
    refine lv_aload_n hx hb dL_law_644 rfl (lv_at hl 1 rfl) ?_
    refine lv_aload_n hx hb dL_law_645 rfl (lv_at hl 0 rfl) ?_
    refine lv_iload_n hx hb dL_law_646 rfl (lv_at hl 3 rfl) ?_
    refine lv_iconst (v := (1 : Int32)) hx hb dL_law_647 (by decide) ?_
    refine lv_iadd hx hb dL_law_648 ?_
    refine va_sld hx hb hX hbl hbA hS i1 dL_law_649 ?_
    refine lv_aload_n hx hb dL_law_650 rfl (lv_at hl 0 rfl) ?_
    refine lv_iload_n hx hb dL_law_651 rfl (lv_at hl 3 rfl) ?_
    refine lv_iconst (v := (2 : Int32)) hx hb dL_law_652 (by decide) ?_
    refine lv_iadd hx hb dL_law_653 ?_
    refine va_sld hx hb hX hbl hbA hS i2 dL_law_654 ?_
    refine lv_aload_n hx hb dL_law_655 rfl (lv_at hl 0 rfl) ?_
    refine lv_iload_n hx hb dL_law_656 rfl (lv_at hl 3 rfl) ?_
    refine lv_iconst (v := (3 : Int32)) hx hb dL_law_657 (by decide) ?_
    refine lv_iadd hx hb dL_law_658 ?_
    refine va_sld hx hb hX hbl hbA hS i3 dL_law_659 ?_
    refine lv_if_eq (tgt := 667) hx hb dL_law_660 (by decide) (fun c8 => absurd c8 cz) (fun _ => ?_)
    refine lv_iconst (v := (1 : Int32)) hx hb dL_law_663 (by decide) ?_
    refine lv_goto (tgt := 668) hx hb dL_law_664 (by decide) ?_
    refine c_Vi (q := (RX7, TX7, 11)) (ci := 7) (b := 0) (As := [.int (xs (nI j + (1 : Int32)).toNatClampNeg), .int (xs (nI j + (2 : Int32)).toNatClampNeg), .int (1 : Int32)]) (rest := []) (A := fun q : Nat => s.heap.size ≤ q) ⟨hx, hb, hml, hown, htb⟩ (c_X7_clash l D ad cI hd σ τ η (xs (nI j + (1 : Int32)).toNatClampNeg) (xs (nI j + (2 : Int32)).toNatClampNeg) (1 : Int32) (r, σ1) e1) (cwV 3 htb (gdV (fun _ hh => hh) wML_RL_90 wIM_yX7_clash wSE_yX7_clash wI_RX7 wC_yX7_clash) rfl rfl rfl hd_X7_clash ⟨by decide, by decide⟩) hK hP rfl w_0 hA hS rfl hl.1 rfl (Nat.le_of_ble_eq_true rfl) dL_law_668 ⟨by decide, by decide⟩ (fun H locs hP hS => ?_)
    refine lv_aload_n hx hb dL_law_671 rfl (lv_at hl 2 rfl) ?_
    refine lv_aload_n hx hb dL_law_672 rfl (lv_at hl 0 rfl) ?_
    refine lv_iload_n hx hb dL_law_673 rfl (lv_at hl 3 rfl) ?_
    refine lv_iconst (v := (1 : Int32)) hx hb dL_law_674 (by decide) ?_
    refine lv_iadd hx hb dL_law_675 ?_
    refine va_sld hx hb hX hbl hbA hS i1 dL_law_676 ?_
    refine lv_aload_n hx hb dL_law_677 rfl (lv_at hl 0 rfl) ?_
    refine lv_iload_n hx hb dL_law_678 rfl (lv_at hl 3 rfl) ?_
    refine lv_iconst (v := (2 : Int32)) hx hb dL_law_679 (by decide) ?_
    refine lv_iadd hx hb dL_law_680 ?_
    refine va_sld hx hb hX hbl hbA hS i2 dL_law_681 ?_
    refine lv_aload_n hx hb dL_law_682 rfl (lv_at hl 0 rfl) ?_
    refine lv_iload_n hx hb dL_law_683 rfl (lv_at hl 3 rfl) ?_
    refine lv_iconst (v := (3 : Int32)) hx hb dL_law_684 (by decide) ?_
    refine lv_iadd hx hb dL_law_685 ?_
    refine va_sld hx hb hX hbl hbA hS i3 dL_law_686 ?_
    refine lv_if_eq (tgt := 694) hx hb dL_law_687 (by decide) (fun c8 => absurd c8 cz) (fun _ => ?_)
    refine lv_iconst (v := (1 : Int32)) hx hb dL_law_690 (by decide) ?_
    refine lv_goto (tgt := 695) hx hb dL_law_691 (by decide) ?_
    refine c_Vi (q := (RX8, TX8, 27)) (ci := 8) (b := 29) (As := [.int (xs (nI j + (1 : Int32)).toNatClampNeg), .int (xs (nI j + (2 : Int32)).toNatClampNeg), .int (1 : Int32)]) (rest := [.int r]) (A := fun q : Nat => s.heap.size ≤ q) ⟨hx, hb, hml, hown, htb⟩ (c_X8_clash l D ad cI hd σ1 τ η (xs (nI j + (1 : Int32)).toNatClampNeg) (xs (nI j + (2 : Int32)).toNatClampNeg) (1 : Int32) (r, τ1) e2) (cwV 3 htb (gdV (fun _ hh => hh) wML_RL_94 wIM_yX8_clash wSE_yX8_clash wI_RX8 wC_yX8_clash) rfl rfl rfl hd_X8_clash ⟨by decide, by decide⟩) hK hP rfl w_29 hA hS rfl hl.1 rfl (Nat.le_of_ble_eq_true rfl) dL_law_695 ⟨by decide, by decide⟩ (fun H locs hP hS => ?_)
    refine lv_icmp_eq (tgt := 989) hx hb dL_law_698 (by decide) (fun _ => ?_) (fun c8 => absurd rfl c8)
    exact JJ _ _ _ _ _ _ I1 hP hS hl
set_option maxHeartbeats 4000000 in
set_option maxRecDepth 100000 in
theorem law_18 {p : Program} {e : Env} {s : State} {m : MethodId} {below : List Frame} {meth : Method} {c : Code} (l : Launch) {b L : Nat} {xs : Nat → Int32} (hL : L ≤ 2560) (C0 : lw_At p s m meth c b L xs) {Inv : St → St → Prop} (hSim : SimAll Inv) {D : va_G} {ad : Nat → Nat} {cI : ClassId} (hd : HD ad) (hK : KK D cI s) (hA : ∀ q, AA ad q → s.heap.size ≤ q) (j : Nat) (i1 : vp_in (nI j + (1 : Int32)) L) (i2 : vp_in (nI j + (2 : Int32)) L) (i3 : vp_in (nI j + (3 : Int32)) L) (i4 : vp_in (nI j + (4 : Int32)) L)
    (JJ : ∀ (H : Heap) (locs : List Loc) (ls : Array Slot) (σ τ : St) (η : Int64), Inv σ τ → WP D ad cI σ τ η H → va_S (fun q : Nat => s.heap.size ≤ q) s.heap H locs → lv_has ls 4 [(0, .ref b), (1, .ref (ad 0)), (2, .ref (ad 29)), (3, .int (nI j))] → W p l e room_1 s m #[Value.ref b] below meth c H locs 46 829 (lw_Z below #[Value.ref b] s) (F0 m 989 ls []))
    (H : Heap) (locs : List Loc) (ls : Array Slot) (σ τ : St) (η : Int64) (I : Inv σ τ) (hP : WP D ad cI σ τ η H) (hS : va_S (fun q : Nat => s.heap.size ≤ q) s.heap H locs) (hl : lv_has ls 4 [(0, .ref b), (1, .ref (ad 0)), (2, .ref (ad 29)), (3, .int (nI j))]) : W p l e room_1 s m #[Value.ref b] below meth c H locs 46 829 (lw_Z below #[Value.ref b] s) (F0 m 703 ls []) := by
  obtain ⟨hx, hb, hr, hml, hown, hts, hX, hbl, hlocks, hgv⟩ := id C0
  replace hown : s.vm.findClass RL = some m.cls := hown
  have htb : ∀ w ∈ TBL, w.before #[Value.ref b] s = true := fun w hw => hts w (List.mem_filter.mp hw).1
  have hbA : ¬ (fun q : Nat => s.heap.size ≤ q) b := Nat.not_le.mpr hbl
  obtain ⟨r, τ1, e1, e2, I1⟩ := hSim.2.2.2.2.2.2.2.2.2.2.2.2.2.2.2.2.2.2.1 σ τ (xs (nI j + (1 : Int32)).toNatClampNeg) I
  refine lv_aload_n hx hb dL_law_703 rfl (lv_at hl 1 rfl) ?_
  refine lv_aload_n hx hb dL_law_704 rfl (lv_at hl 0 rfl) ?_
  refine lv_iload_n hx hb dL_law_705 rfl (lv_at hl 3 rfl) ?_
  refine lv_iconst (v := (1 : Int32)) hx hb dL_law_706 (by decide) ?_
  refine lv_iadd hx hb dL_law_707 ?_
  refine va_sld hx hb hX hbl hbA hS i1 dL_law_708 ?_
  refine c_Vi (q := (RX7, TX7, 11)) (ci := 7) (b := 0) (As := [.int (xs (nI j + (1 : Int32)).toNatClampNeg)]) (rest := []) (A := fun q : Nat => s.heap.size ≤ q) ⟨hx, hb, hml, hown, htb⟩ (c_X7_cover l D ad cI hd σ τ η (xs (nI j + (1 : Int32)).toNatClampNeg) r e1) (cwV 1 htb (gdV (fun _ hh => hh) wML_RL_95 wIM_yX7_cover wSE_yX7_cover wI_RX7 wC_yX7_cover) rfl rfl rfl hd_X7_cover ⟨by decide, by decide⟩) hK hP rfl w_0 hA hS rfl hl.1 rfl (Nat.le_of_ble_eq_true rfl) dL_law_709 ⟨by decide, by decide⟩ (fun H locs hP hS => ?_)
  refine lv_aload_n hx hb dL_law_712 rfl (lv_at hl 2 rfl) ?_
  refine lv_aload_n hx hb dL_law_713 rfl (lv_at hl 0 rfl) ?_
  refine lv_iload_n hx hb dL_law_714 rfl (lv_at hl 3 rfl) ?_
  refine lv_iconst (v := (1 : Int32)) hx hb dL_law_715 (by decide) ?_
  refine lv_iadd hx hb dL_law_716 ?_
  refine va_sld hx hb hX hbl hbA hS i1 dL_law_717 ?_
  refine c_Vi (q := (RX8, TX8, 27)) (ci := 8) (b := 29) (As := [.int (xs (nI j + (1 : Int32)).toNatClampNeg)]) (rest := [.int r]) (A := fun q : Nat => s.heap.size ≤ q) ⟨hx, hb, hml, hown, htb⟩ (c_X8_cover l D ad cI hd σ τ η (xs (nI j + (1 : Int32)).toNatClampNeg) (r, τ1) e2) (cwV 1 htb (gdV (fun _ hh => hh) wML_RL_98 wIM_yX8_cover wSE_yX8_cover wI_RX8 wC_yX8_cover) rfl rfl rfl hd_X8_cover ⟨by decide, by decide⟩) hK hP rfl w_29 hA hS rfl hl.1 rfl (Nat.le_of_ble_eq_true rfl) dL_law_718 ⟨by decide, by decide⟩ (fun H locs hP hS => ?_)
  refine lv_icmp_eq (tgt := 989) hx hb dL_law_721 (by decide) (fun _ => ?_) (fun c8 => absurd rfl c8)
  exact JJ _ _ _ _ _ _ I1 hP hS hl
set_option maxHeartbeats 4000000 in
set_option maxRecDepth 100000 in
theorem law_19 {p : Program} {e : Env} {s : State} {m : MethodId} {below : List Frame} {meth : Method} {c : Code} (l : Launch) {b L : Nat} {xs : Nat → Int32} (hL : L ≤ 2560) (C0 : lw_At p s m meth c b L xs) {Inv : St → St → Prop} (hSim : SimAll Inv) {D : va_G} {ad : Nat → Nat} {cI : ClassId} (hd : HD ad) (hK : KK D cI s) (hA : ∀ q, AA ad q → s.heap.size ≤ q) (j : Nat) (i1 : vp_in (nI j + (1 : Int32)) L) (i2 : vp_in (nI j + (2 : Int32)) L) (i3 : vp_in (nI j + (3 : Int32)) L) (i4 : vp_in (nI j + (4 : Int32)) L)
    (JJ : ∀ (H : Heap) (locs : List Loc) (ls : Array Slot) (σ τ : St) (η : Int64), Inv σ τ → WP D ad cI σ τ η H → va_S (fun q : Nat => s.heap.size ≤ q) s.heap H locs → lv_has ls 4 [(0, .ref b), (1, .ref (ad 0)), (2, .ref (ad 29)), (3, .int (nI j))] → W p l e room_1 s m #[Value.ref b] below meth c H locs 46 829 (lw_Z below #[Value.ref b] s) (F0 m 989 ls []))
    (H : Heap) (locs : List Loc) (ls : Array Slot) (σ τ : St) (η : Int64) (I : Inv σ τ) (hP : WP D ad cI σ τ η H) (hS : va_S (fun q : Nat => s.heap.size ≤ q) s.heap H locs) (hl : lv_has ls 4 [(0, .ref b), (1, .ref (ad 0)), (2, .ref (ad 29)), (3, .int (nI j))]) : W p l e room_1 s m #[Value.ref b] below meth c H locs 46 829 (lw_Z below #[Value.ref b] s) (F0 m 726 ls []) := by
  obtain ⟨hx, hb, hr, hml, hown, hts, hX, hbl, hlocks, hgv⟩ := id C0
  replace hown : s.vm.findClass RL = some m.cls := hown
  have htb : ∀ w ∈ TBL, w.before #[Value.ref b] s = true := fun w hw => hts w (List.mem_filter.mp hw).1
  have hbA : ¬ (fun q : Nat => s.heap.size ≤ q) b := Nat.not_le.mpr hbl
  obtain ⟨r, σ1, τ1, e1, e2, I1⟩ := hSim.2.2.2.2.2.2.2.2.2.2.2.2.2.2.2.2.2.2.2.1 σ τ (xs (nI j + (1 : Int32)).toNatClampNeg) (xs (nI j + (2 : Int32)).toNatClampNeg) I
  refine lv_aload_n hx hb dL_law_726 rfl (lv_at hl 1 rfl) ?_
  refine lv_aload_n hx hb dL_law_727 rfl (lv_at hl 0 rfl) ?_
  refine lv_iload_n hx hb dL_law_728 rfl (lv_at hl 3 rfl) ?_
  refine lv_iconst (v := (1 : Int32)) hx hb dL_law_729 (by decide) ?_
  refine lv_iadd hx hb dL_law_730 ?_
  refine va_sld hx hb hX hbl hbA hS i1 dL_law_731 ?_
  refine lv_aload_n hx hb dL_law_732 rfl (lv_at hl 0 rfl) ?_
  refine lv_iload_n hx hb dL_law_733 rfl (lv_at hl 3 rfl) ?_
  refine lv_iconst (v := (2 : Int32)) hx hb dL_law_734 (by decide) ?_
  refine lv_iadd hx hb dL_law_735 ?_
  refine va_sld hx hb hX hbl hbA hS i2 dL_law_736 ?_
  refine c_Vi (q := (RX7, TX7, 11)) (ci := 7) (b := 0) (As := [.int (xs (nI j + (1 : Int32)).toNatClampNeg), .int (xs (nI j + (2 : Int32)).toNatClampNeg)]) (rest := []) (A := fun q : Nat => s.heap.size ≤ q) ⟨hx, hb, hml, hown, htb⟩ (c_X7_sign l D ad cI hd σ τ η (xs (nI j + (1 : Int32)).toNatClampNeg) (xs (nI j + (2 : Int32)).toNatClampNeg) (r, σ1) e1) (cwV 2 htb (gdV (fun _ hh => hh) wML_RL_99 wIM_yX7_sign wSE_yX7_sign wI_RX7 wC_yX7_sign) rfl rfl rfl hd_X7_sign ⟨by decide, by decide⟩) hK hP rfl w_0 hA hS rfl hl.1 rfl (Nat.le_of_ble_eq_true rfl) dL_law_737 ⟨by decide, by decide⟩ (fun H locs hP hS => ?_)
  refine lv_aload_n hx hb dL_law_740 rfl (lv_at hl 2 rfl) ?_
  refine lv_aload_n hx hb dL_law_741 rfl (lv_at hl 0 rfl) ?_
  refine lv_iload_n hx hb dL_law_742 rfl (lv_at hl 3 rfl) ?_
  refine lv_iconst (v := (1 : Int32)) hx hb dL_law_743 (by decide) ?_
  refine lv_iadd hx hb dL_law_744 ?_
  refine va_sld hx hb hX hbl hbA hS i1 dL_law_745 ?_
  refine lv_aload_n hx hb dL_law_746 rfl (lv_at hl 0 rfl) ?_
  refine lv_iload_n hx hb dL_law_747 rfl (lv_at hl 3 rfl) ?_
  refine lv_iconst (v := (2 : Int32)) hx hb dL_law_748 (by decide) ?_
  refine lv_iadd hx hb dL_law_749 ?_
  refine va_sld hx hb hX hbl hbA hS i2 dL_law_750 ?_
  refine c_Vi (q := (RX8, TX8, 27)) (ci := 8) (b := 29) (As := [.int (xs (nI j + (1 : Int32)).toNatClampNeg), .int (xs (nI j + (2 : Int32)).toNatClampNeg)]) (rest := [.int r]) (A := fun q : Nat => s.heap.size ≤ q) ⟨hx, hb, hml, hown, htb⟩ (c_X8_sign l D ad cI hd σ1 τ η (xs (nI j + (1 : Int32)).toNatClampNeg) (xs (nI j + (2 : Int32)).toNatClampNeg) (r, τ1) e2) (cwV 2 htb (gdV (fun _ hh => hh) wML_RL_102 wIM_yX8_sign wSE_yX8_sign wI_RX8 wC_yX8_sign) rfl rfl rfl hd_X8_sign ⟨by decide, by decide⟩) hK hP rfl w_29 hA hS rfl hl.1 rfl (Nat.le_of_ble_eq_true rfl) dL_law_751 ⟨by decide, by decide⟩ (fun H locs hP hS => ?_)
  refine lv_icmp_eq (tgt := 989) hx hb dL_law_754 (by decide) (fun _ => ?_) (fun c8 => absurd rfl c8)
  exact JJ _ _ _ _ _ _ I1 hP hS hl
set_option maxHeartbeats 4000000 in
set_option maxRecDepth 100000 in
theorem law_20 {p : Program} {e : Env} {s : State} {m : MethodId} {below : List Frame} {meth : Method} {c : Code} (l : Launch) {b L : Nat} {xs : Nat → Int32} (hL : L ≤ 2560) (C0 : lw_At p s m meth c b L xs) {Inv : St → St → Prop} (hSim : SimAll Inv) {D : va_G} {ad : Nat → Nat} {cI : ClassId} (hd : HD ad) (hK : KK D cI s) (hA : ∀ q, AA ad q → s.heap.size ≤ q) (j : Nat) (i1 : vp_in (nI j + (1 : Int32)) L) (i2 : vp_in (nI j + (2 : Int32)) L) (i3 : vp_in (nI j + (3 : Int32)) L) (i4 : vp_in (nI j + (4 : Int32)) L)
    (JJ : ∀ (H : Heap) (locs : List Loc) (ls : Array Slot) (σ τ : St) (η : Int64), Inv σ τ → WP D ad cI σ τ η H → va_S (fun q : Nat => s.heap.size ≤ q) s.heap H locs → lv_has ls 4 [(0, .ref b), (1, .ref (ad 0)), (2, .ref (ad 29)), (3, .int (nI j))] → W p l e room_1 s m #[Value.ref b] below meth c H locs 46 829 (lw_Z below #[Value.ref b] s) (F0 m 989 ls []))
    (H : Heap) (locs : List Loc) (ls : Array Slot) (σ τ : St) (η : Int64) (I : Inv σ τ) (hP : WP D ad cI σ τ η H) (hS : va_S (fun q : Nat => s.heap.size ≤ q) s.heap H locs) (hl : lv_has ls 4 [(0, .ref b), (1, .ref (ad 0)), (2, .ref (ad 29)), (3, .int (nI j))]) : W p l e room_1 s m #[Value.ref b] below meth c H locs 46 829 (lw_Z below #[Value.ref b] s) (F0 m 759 ls []) := by
  obtain ⟨hx, hb, hr, hml, hown, hts, hX, hbl, hlocks, hgv⟩ := id C0
  replace hown : s.vm.findClass RL = some m.cls := hown
  have htb : ∀ w ∈ TBL, w.before #[Value.ref b] s = true := fun w hw => hts w (List.mem_filter.mp hw).1
  have hbA : ¬ (fun q : Nat => s.heap.size ≤ q) b := Nat.not_le.mpr hbl
  obtain ⟨r, σ1, τ1, e1, e2, I1⟩ := hSim.2.2.2.2.2.2.2.2.2.2.2.2.2.2.2.2.2.2.2.2.1 σ τ (xs (nI j + (1 : Int32)).toNatClampNeg) (xs (nI j + (2 : Int32)).toNatClampNeg) I
  refine lv_aload_n hx hb dL_law_759 rfl (lv_at hl 1 rfl) ?_
  refine lv_aload_n hx hb dL_law_760 rfl (lv_at hl 0 rfl) ?_
  refine lv_iload_n hx hb dL_law_761 rfl (lv_at hl 3 rfl) ?_
  refine lv_iconst (v := (1 : Int32)) hx hb dL_law_762 (by decide) ?_
  refine lv_iadd hx hb dL_law_763 ?_
  refine va_sld hx hb hX hbl hbA hS i1 dL_law_764 ?_
  refine lv_aload_n hx hb dL_law_765 rfl (lv_at hl 0 rfl) ?_
  refine lv_iload_n hx hb dL_law_766 rfl (lv_at hl 3 rfl) ?_
  refine lv_iconst (v := (2 : Int32)) hx hb dL_law_767 (by decide) ?_
  refine lv_iadd hx hb dL_law_768 ?_
  refine va_sld hx hb hX hbl hbA hS i2 dL_law_769 ?_
  refine c_Vi (q := (RX7, TX7, 11)) (ci := 7) (b := 0) (As := [.int (xs (nI j + (1 : Int32)).toNatClampNeg), .int (xs (nI j + (2 : Int32)).toNatClampNeg)]) (rest := []) (A := fun q : Nat => s.heap.size ≤ q) ⟨hx, hb, hml, hown, htb⟩ (c_X7_look l D ad cI hd σ τ η (xs (nI j + (1 : Int32)).toNatClampNeg) (xs (nI j + (2 : Int32)).toNatClampNeg) (r, σ1) e1) (cwV 2 htb (gdV (fun _ hh => hh) wML_RL_103 wIM_yX7_look wSE_yX7_look wI_RX7 wC_yX7_look) rfl rfl rfl hd_X7_look ⟨by decide, by decide⟩) hK hP rfl w_0 hA hS rfl hl.1 rfl (Nat.le_of_ble_eq_true rfl) dL_law_770 ⟨by decide, by decide⟩ (fun H locs hP hS => ?_)
  refine lv_aload_n hx hb dL_law_773 rfl (lv_at hl 2 rfl) ?_
  refine lv_aload_n hx hb dL_law_774 rfl (lv_at hl 0 rfl) ?_
  refine lv_iload_n hx hb dL_law_775 rfl (lv_at hl 3 rfl) ?_
  refine lv_iconst (v := (1 : Int32)) hx hb dL_law_776 (by decide) ?_
  refine lv_iadd hx hb dL_law_777 ?_
  refine va_sld hx hb hX hbl hbA hS i1 dL_law_778 ?_
  refine lv_aload_n hx hb dL_law_779 rfl (lv_at hl 0 rfl) ?_
  refine lv_iload_n hx hb dL_law_780 rfl (lv_at hl 3 rfl) ?_
  refine lv_iconst (v := (2 : Int32)) hx hb dL_law_781 (by decide) ?_
  refine lv_iadd hx hb dL_law_782 ?_
  refine va_sld hx hb hX hbl hbA hS i2 dL_law_783 ?_
  refine c_Vi (q := (RX8, TX8, 27)) (ci := 8) (b := 29) (As := [.int (xs (nI j + (1 : Int32)).toNatClampNeg), .int (xs (nI j + (2 : Int32)).toNatClampNeg)]) (rest := [.int r]) (A := fun q : Nat => s.heap.size ≤ q) ⟨hx, hb, hml, hown, htb⟩ (c_X8_look l D ad cI hd σ1 τ η (xs (nI j + (1 : Int32)).toNatClampNeg) (xs (nI j + (2 : Int32)).toNatClampNeg) (r, τ1) e2) (cwV 2 htb (gdV (fun _ hh => hh) wML_RL_106 wIM_yX8_look wSE_yX8_look wI_RX8 wC_yX8_look) rfl rfl rfl hd_X8_look ⟨by decide, by decide⟩) hK hP rfl w_29 hA hS rfl hl.1 rfl (Nat.le_of_ble_eq_true rfl) dL_law_784 ⟨by decide, by decide⟩ (fun H locs hP hS => ?_)
  refine lv_icmp_eq (tgt := 989) hx hb dL_law_787 (by decide) (fun _ => ?_) (fun c8 => absurd rfl c8)
  exact JJ _ _ _ _ _ _ I1 hP hS hl
set_option maxHeartbeats 4000000 in
set_option maxRecDepth 100000 in
theorem law_21 {p : Program} {e : Env} {s : State} {m : MethodId} {below : List Frame} {meth : Method} {c : Code} (l : Launch) {b L : Nat} {xs : Nat → Int32} (hL : L ≤ 2560) (C0 : lw_At p s m meth c b L xs) {Inv : St → St → Prop} (hSim : SimAll Inv) {D : va_G} {ad : Nat → Nat} {cI : ClassId} (hd : HD ad) (hK : KK D cI s) (hA : ∀ q, AA ad q → s.heap.size ≤ q) (j : Nat) (i1 : vp_in (nI j + (1 : Int32)) L) (i2 : vp_in (nI j + (2 : Int32)) L) (i3 : vp_in (nI j + (3 : Int32)) L) (i4 : vp_in (nI j + (4 : Int32)) L)
    (JJ : ∀ (H : Heap) (locs : List Loc) (ls : Array Slot) (σ τ : St) (η : Int64), Inv σ τ → WP D ad cI σ τ η H → va_S (fun q : Nat => s.heap.size ≤ q) s.heap H locs → lv_has ls 4 [(0, .ref b), (1, .ref (ad 0)), (2, .ref (ad 29)), (3, .int (nI j))] → W p l e room_1 s m #[Value.ref b] below meth c H locs 46 829 (lw_Z below #[Value.ref b] s) (F0 m 989 ls []))
    (H : Heap) (locs : List Loc) (ls : Array Slot) (σ τ : St) (η : Int64) (I : Inv σ τ) (hP : WP D ad cI σ τ η H) (hS : va_S (fun q : Nat => s.heap.size ≤ q) s.heap H locs) (hl : lv_has ls 4 [(0, .ref b), (1, .ref (ad 0)), (2, .ref (ad 29)), (3, .int (nI j))]) : W p l e room_1 s m #[Value.ref b] below meth c H locs 46 829 (lw_Z below #[Value.ref b] s) (F0 m 792 ls []) := by
  obtain ⟨hx, hb, hr, hml, hown, hts, hX, hbl, hlocks, hgv⟩ := id C0
  replace hown : s.vm.findClass RL = some m.cls := hown
  have htb : ∀ w ∈ TBL, w.before #[Value.ref b] s = true := fun w hw => hts w (List.mem_filter.mp hw).1
  have hbA : ¬ (fun q : Nat => s.heap.size ≤ q) b := Nat.not_le.mpr hbl
  obtain ⟨r, e1, e2, I1⟩ := hSim.2.2.2.2.2.2.2.2.2.2.2.2.2.2.2.2.2.2.2.2.2.1 σ τ (xs (nI j + (1 : Int32)).toNatClampNeg) (xs (nI j + (2 : Int32)).toNatClampNeg) I
  refine lv_aload_n hx hb dL_law_792 rfl (lv_at hl 1 rfl) ?_
  refine lv_aload_n hx hb dL_law_793 rfl (lv_at hl 0 rfl) ?_
  refine lv_iload_n hx hb dL_law_794 rfl (lv_at hl 3 rfl) ?_
  refine lv_iconst (v := (1 : Int32)) hx hb dL_law_795 (by decide) ?_
  refine lv_iadd hx hb dL_law_796 ?_
  refine va_sld hx hb hX hbl hbA hS i1 dL_law_797 ?_
  refine lv_aload_n hx hb dL_law_798 rfl (lv_at hl 0 rfl) ?_
  refine lv_iload_n hx hb dL_law_799 rfl (lv_at hl 3 rfl) ?_
  refine lv_iconst (v := (2 : Int32)) hx hb dL_law_800 (by decide) ?_
  refine lv_iadd hx hb dL_law_801 ?_
  refine va_sld hx hb hX hbl hbA hS i2 dL_law_802 ?_
  refine c_Vl (q := (RX7, TX7, 11)) (ci := 7) (b := 0) (As := [.int (xs (nI j + (1 : Int32)).toNatClampNeg), .int (xs (nI j + (2 : Int32)).toNatClampNeg)]) (rest := []) (A := fun q : Nat => s.heap.size ≤ q) ⟨hx, hb, hml, hown, htb⟩ (c_X7_belief l D ad cI hd σ τ η (xs (nI j + (1 : Int32)).toNatClampNeg) (xs (nI j + (2 : Int32)).toNatClampNeg) r e1) (cwV 2 htb (gdV (fun _ hh => hh) wML_RL_107 wIM_yX7_belief wSE_yX7_belief wI_RX7 wC_yX7_belief) rfl rfl rfl hd_X7_belief ⟨by decide, by decide⟩) hK hP rfl w_0 hA hS rfl hl.1 rfl (Nat.le_of_ble_eq_true rfl) dL_law_803 ⟨by decide, by decide⟩ (fun H locs hP hS => ?_)
  refine lv_aload_n hx hb dL_law_806 rfl (lv_at hl 2 rfl) ?_
  refine lv_aload_n hx hb dL_law_807 rfl (lv_at hl 0 rfl) ?_
  refine lv_iload_n hx hb dL_law_808 rfl (lv_at hl 3 rfl) ?_
  refine lv_iconst (v := (1 : Int32)) hx hb dL_law_809 (by decide) ?_
  refine lv_iadd hx hb dL_law_810 ?_
  refine va_sld hx hb hX hbl hbA hS i1 dL_law_811 ?_
  refine lv_aload_n hx hb dL_law_812 rfl (lv_at hl 0 rfl) ?_
  refine lv_iload_n hx hb dL_law_813 rfl (lv_at hl 3 rfl) ?_
  refine lv_iconst (v := (2 : Int32)) hx hb dL_law_814 (by decide) ?_
  refine lv_iadd hx hb dL_law_815 ?_
  refine va_sld hx hb hX hbl hbA hS i2 dL_law_816 ?_
  refine c_Vl (q := (RX8, TX8, 27)) (ci := 8) (b := 29) (As := [.int (xs (nI j + (1 : Int32)).toNatClampNeg), .int (xs (nI j + (2 : Int32)).toNatClampNeg)]) (rest := [.long r]) (A := fun q : Nat => s.heap.size ≤ q) ⟨hx, hb, hml, hown, htb⟩ (c_X8_belief l D ad cI hd σ τ η (xs (nI j + (1 : Int32)).toNatClampNeg) (xs (nI j + (2 : Int32)).toNatClampNeg) r e2) (cwV 2 htb (gdV (fun _ hh => hh) wML_RL_110 wIM_yX8_belief wSE_yX8_belief wI_RX8 wC_yX8_belief) rfl rfl rfl hd_X8_belief ⟨by decide, by decide⟩) hK hP rfl w_29 hA hS rfl hl.1 rfl (Nat.le_of_ble_eq_true rfl) dL_law_817 ⟨by decide, by decide⟩ (fun H locs hP hS => ?_)
  refine W.lcmp hx hb dL_law_820 ?_
  refine lv_if_eq (tgt := 989) hx hb dL_law_821 (by decide) (fun _ => ?_) (fun c8 => absurd ((lg_cmp_eq _ _).mpr rfl) c8)
  exact JJ _ _ _ _ _ _ I1 hP hS hl
set_option maxHeartbeats 4000000 in
set_option maxRecDepth 100000 in
theorem law_22 {p : Program} {e : Env} {s : State} {m : MethodId} {below : List Frame} {meth : Method} {c : Code} (l : Launch) {b L : Nat} {xs : Nat → Int32} (hL : L ≤ 2560) (C0 : lw_At p s m meth c b L xs) {Inv : St → St → Prop} (hSim : SimAll Inv) {D : va_G} {ad : Nat → Nat} {cI : ClassId} (hd : HD ad) (hK : KK D cI s) (hA : ∀ q, AA ad q → s.heap.size ≤ q) (j : Nat) (i1 : vp_in (nI j + (1 : Int32)) L) (i2 : vp_in (nI j + (2 : Int32)) L) (i3 : vp_in (nI j + (3 : Int32)) L) (i4 : vp_in (nI j + (4 : Int32)) L)
    (JJ : ∀ (H : Heap) (locs : List Loc) (ls : Array Slot) (σ τ : St) (η : Int64), Inv σ τ → WP D ad cI σ τ η H → va_S (fun q : Nat => s.heap.size ≤ q) s.heap H locs → lv_has ls 4 [(0, .ref b), (1, .ref (ad 0)), (2, .ref (ad 29)), (3, .int (nI j))] → W p l e room_1 s m #[Value.ref b] below meth c H locs 46 829 (lw_Z below #[Value.ref b] s) (F0 m 989 ls []))
    (H : Heap) (locs : List Loc) (ls : Array Slot) (σ τ : St) (η : Int64) (I : Inv σ τ) (hP : WP D ad cI σ τ η H) (hS : va_S (fun q : Nat => s.heap.size ≤ q) s.heap H locs) (hl : lv_has ls 4 [(0, .ref b), (1, .ref (ad 0)), (2, .ref (ad 29)), (3, .int (nI j))]) : W p l e room_1 s m #[Value.ref b] below meth c H locs 46 829 (lw_Z below #[Value.ref b] s) (F0 m 826 ls []) := by
  obtain ⟨hx, hb, hr, hml, hown, hts, hX, hbl, hlocks, hgv⟩ := id C0
  replace hown : s.vm.findClass RL = some m.cls := hown
  have htb : ∀ w ∈ TBL, w.before #[Value.ref b] s = true := fun w hw => hts w (List.mem_filter.mp hw).1
  have hbA : ¬ (fun q : Nat => s.heap.size ≤ q) b := Nat.not_le.mpr hbl
  obtain ⟨r, e1, e2, I1⟩ := hSim.2.2.2.2.2.2.2.2.2.2.2.2.2.2.2.2.2.2.2.2.2.2.1 σ τ  I
  refine lv_aload_n hx hb dL_law_826 rfl (lv_at hl 1 rfl) ?_
  refine c_Vi (q := (RX7, TX7, 11)) (ci := 7) (b := 0) (As := []) (rest := []) (A := fun q : Nat => s.heap.size ≤ q) ⟨hx, hb, hml, hown, htb⟩ (c_X7_parting l D ad cI hd σ τ η  r e1) (cwV 0 htb (gdV (fun _ hh => hh) wML_RL_111 wIM_yX7_parting wSE_yX7_parting wI_RX7 wC_yX7_parting) rfl rfl rfl hd_X7_parting ⟨by decide, by decide⟩) hK hP rfl w_0 hA hS rfl hl.1 rfl (Nat.le_of_ble_eq_true rfl) dL_law_827 ⟨by decide, by decide⟩ (fun H locs hP hS => ?_)
  refine lv_aload_n hx hb dL_law_830 rfl (lv_at hl 2 rfl) ?_
  refine c_Vi (q := (RX8, TX8, 27)) (ci := 8) (b := 29) (As := []) (rest := [.int r]) (A := fun q : Nat => s.heap.size ≤ q) ⟨hx, hb, hml, hown, htb⟩ (c_X8_parting l D ad cI hd σ τ η  r e2) (cwV 0 htb (gdV (fun _ hh => hh) wML_RL_114 wIM_yX8_parting wSE_yX8_parting wI_RX8 wC_yX8_parting) rfl rfl rfl hd_X8_parting ⟨by decide, by decide⟩) hK hP rfl w_29 hA hS rfl hl.1 rfl (Nat.le_of_ble_eq_true rfl) dL_law_831 ⟨by decide, by decide⟩ (fun H locs hP hS => ?_)
  refine lv_icmp_eq (tgt := 989) hx hb dL_law_834 (by decide) (fun _ => ?_) (fun c8 => absurd rfl c8)
  exact JJ _ _ _ _ _ _ I1 hP hS hl
set_option maxHeartbeats 4000000 in
set_option maxRecDepth 100000 in
theorem law_23 {p : Program} {e : Env} {s : State} {m : MethodId} {below : List Frame} {meth : Method} {c : Code} (l : Launch) {b L : Nat} {xs : Nat → Int32} (hL : L ≤ 2560) (C0 : lw_At p s m meth c b L xs) {Inv : St → St → Prop} (hSim : SimAll Inv) {D : va_G} {ad : Nat → Nat} {cI : ClassId} (hd : HD ad) (hK : KK D cI s) (hA : ∀ q, AA ad q → s.heap.size ≤ q) (j : Nat) (i1 : vp_in (nI j + (1 : Int32)) L) (i2 : vp_in (nI j + (2 : Int32)) L) (i3 : vp_in (nI j + (3 : Int32)) L) (i4 : vp_in (nI j + (4 : Int32)) L)
    (JJ : ∀ (H : Heap) (locs : List Loc) (ls : Array Slot) (σ τ : St) (η : Int64), Inv σ τ → WP D ad cI σ τ η H → va_S (fun q : Nat => s.heap.size ≤ q) s.heap H locs → lv_has ls 4 [(0, .ref b), (1, .ref (ad 0)), (2, .ref (ad 29)), (3, .int (nI j))] → W p l e room_1 s m #[Value.ref b] below meth c H locs 46 829 (lw_Z below #[Value.ref b] s) (F0 m 989 ls []))
    (H : Heap) (locs : List Loc) (ls : Array Slot) (σ τ : St) (η : Int64) (I : Inv σ τ) (hP : WP D ad cI σ τ η H) (hS : va_S (fun q : Nat => s.heap.size ≤ q) s.heap H locs) (hl : lv_has ls 4 [(0, .ref b), (1, .ref (ad 0)), (2, .ref (ad 29)), (3, .int (nI j))]) : W p l e room_1 s m #[Value.ref b] below meth c H locs 46 829 (lw_Z below #[Value.ref b] s) (F0 m 839 ls []) := by
  obtain ⟨hx, hb, hr, hml, hown, hts, hX, hbl, hlocks, hgv⟩ := id C0
  replace hown : s.vm.findClass RL = some m.cls := hown
  have htb : ∀ w ∈ TBL, w.before #[Value.ref b] s = true := fun w hw => hts w (List.mem_filter.mp hw).1
  have hbA : ¬ (fun q : Nat => s.heap.size ≤ q) b := Nat.not_le.mpr hbl
  obtain ⟨r, e1, e2, I1⟩ := hSim.2.2.2.2.2.2.2.2.2.2.2.2.2.2.2.2.2.2.2.2.2.2.2.1 σ τ (xs (nI j + (1 : Int32)).toNatClampNeg) (xs (nI j + (2 : Int32)).toNatClampNeg) (xs (nI j + (3 : Int32)).toNatClampNeg) (xs (nI j + (4 : Int32)).toNatClampNeg) I
  refine lv_aload_n hx hb dL_law_839 rfl (lv_at hl 1 rfl) ?_
  refine lv_aload_n hx hb dL_law_840 rfl (lv_at hl 0 rfl) ?_
  refine lv_iload_n hx hb dL_law_841 rfl (lv_at hl 3 rfl) ?_
  refine lv_iconst (v := (1 : Int32)) hx hb dL_law_842 (by decide) ?_
  refine lv_iadd hx hb dL_law_843 ?_
  refine va_sld hx hb hX hbl hbA hS i1 dL_law_844 ?_
  refine lv_aload_n hx hb dL_law_845 rfl (lv_at hl 0 rfl) ?_
  refine lv_iload_n hx hb dL_law_846 rfl (lv_at hl 3 rfl) ?_
  refine lv_iconst (v := (2 : Int32)) hx hb dL_law_847 (by decide) ?_
  refine lv_iadd hx hb dL_law_848 ?_
  refine va_sld hx hb hX hbl hbA hS i2 dL_law_849 ?_
  refine lv_aload_n hx hb dL_law_850 rfl (lv_at hl 0 rfl) ?_
  refine lv_iload_n hx hb dL_law_851 rfl (lv_at hl 3 rfl) ?_
  refine lv_iconst (v := (3 : Int32)) hx hb dL_law_852 (by decide) ?_
  refine lv_iadd hx hb dL_law_853 ?_
  refine va_sld hx hb hX hbl hbA hS i3 dL_law_854 ?_
  refine lv_aload_n hx hb dL_law_855 rfl (lv_at hl 0 rfl) ?_
  refine lv_iload_n hx hb dL_law_856 rfl (lv_at hl 3 rfl) ?_
  refine lv_iconst (v := (4 : Int32)) hx hb dL_law_857 (by decide) ?_
  refine lv_iadd hx hb dL_law_858 ?_
  refine va_sld hx hb hX hbl hbA hS i4 dL_law_859 ?_
  refine c_Vl (q := (RX7, TX7, 11)) (ci := 7) (b := 0) (As := [.int (xs (nI j + (1 : Int32)).toNatClampNeg), .int (xs (nI j + (2 : Int32)).toNatClampNeg), .int (xs (nI j + (3 : Int32)).toNatClampNeg), .int (xs (nI j + (4 : Int32)).toNatClampNeg)]) (rest := []) (A := fun q : Nat => s.heap.size ≤ q) ⟨hx, hb, hml, hown, htb⟩ (c_X7_quiet l D ad cI hd σ τ η (xs (nI j + (1 : Int32)).toNatClampNeg) (xs (nI j + (2 : Int32)).toNatClampNeg) (xs (nI j + (3 : Int32)).toNatClampNeg) (xs (nI j + (4 : Int32)).toNatClampNeg) r e1) (cwV 4 htb (gdV (fun _ hh => hh) wML_RL_115 wIM_yX7_quiet wSE_yX7_quiet wI_RX7 wC_yX7_quiet) rfl rfl rfl hd_X7_quiet ⟨by decide, by decide⟩) hK hP rfl w_0 hA hS rfl hl.1 rfl (Nat.le_of_ble_eq_true rfl) dL_law_860 ⟨by decide, by decide⟩ (fun H locs hP hS => ?_)
  refine lv_aload_n hx hb dL_law_863 rfl (lv_at hl 2 rfl) ?_
  refine lv_aload_n hx hb dL_law_864 rfl (lv_at hl 0 rfl) ?_
  refine lv_iload_n hx hb dL_law_865 rfl (lv_at hl 3 rfl) ?_
  refine lv_iconst (v := (1 : Int32)) hx hb dL_law_866 (by decide) ?_
  refine lv_iadd hx hb dL_law_867 ?_
  refine va_sld hx hb hX hbl hbA hS i1 dL_law_868 ?_
  refine lv_aload_n hx hb dL_law_869 rfl (lv_at hl 0 rfl) ?_
  refine lv_iload_n hx hb dL_law_870 rfl (lv_at hl 3 rfl) ?_
  refine lv_iconst (v := (2 : Int32)) hx hb dL_law_871 (by decide) ?_
  refine lv_iadd hx hb dL_law_872 ?_
  refine va_sld hx hb hX hbl hbA hS i2 dL_law_873 ?_
  refine lv_aload_n hx hb dL_law_874 rfl (lv_at hl 0 rfl) ?_
  refine lv_iload_n hx hb dL_law_875 rfl (lv_at hl 3 rfl) ?_
  refine lv_iconst (v := (3 : Int32)) hx hb dL_law_876 (by decide) ?_
  refine lv_iadd hx hb dL_law_877 ?_
  refine va_sld hx hb hX hbl hbA hS i3 dL_law_878 ?_
  refine lv_aload_n hx hb dL_law_879 rfl (lv_at hl 0 rfl) ?_
  refine lv_iload_n hx hb dL_law_880 rfl (lv_at hl 3 rfl) ?_
  refine lv_iconst (v := (4 : Int32)) hx hb dL_law_881 (by decide) ?_
  refine lv_iadd hx hb dL_law_882 ?_
  refine va_sld hx hb hX hbl hbA hS i4 dL_law_883 ?_
  refine c_Vl (q := (RX8, TX8, 27)) (ci := 8) (b := 29) (As := [.int (xs (nI j + (1 : Int32)).toNatClampNeg), .int (xs (nI j + (2 : Int32)).toNatClampNeg), .int (xs (nI j + (3 : Int32)).toNatClampNeg), .int (xs (nI j + (4 : Int32)).toNatClampNeg)]) (rest := [.long r]) (A := fun q : Nat => s.heap.size ≤ q) ⟨hx, hb, hml, hown, htb⟩ (c_X8_quiet l D ad cI hd σ τ η (xs (nI j + (1 : Int32)).toNatClampNeg) (xs (nI j + (2 : Int32)).toNatClampNeg) (xs (nI j + (3 : Int32)).toNatClampNeg) (xs (nI j + (4 : Int32)).toNatClampNeg) r e2) (cwV 4 htb (gdV (fun _ hh => hh) wML_RL_119 wIM_yX8_quiet wSE_yX8_quiet wI_RX8 wC_yX8_quiet) rfl rfl rfl hd_X8_quiet ⟨by decide, by decide⟩) hK hP rfl w_29 hA hS rfl hl.1 rfl (Nat.le_of_ble_eq_true rfl) dL_law_884 ⟨by decide, by decide⟩ (fun H locs hP hS => ?_)
  refine W.lcmp hx hb dL_law_887 ?_
  refine lv_if_eq (tgt := 989) hx hb dL_law_888 (by decide) (fun _ => ?_) (fun c8 => absurd ((lg_cmp_eq _ _).mpr rfl) c8)
  exact JJ _ _ _ _ _ _ I1 hP hS hl
set_option maxHeartbeats 4000000 in
set_option maxRecDepth 100000 in
theorem law_24 {p : Program} {e : Env} {s : State} {m : MethodId} {below : List Frame} {meth : Method} {c : Code} (l : Launch) {b L : Nat} {xs : Nat → Int32} (hL : L ≤ 2560) (C0 : lw_At p s m meth c b L xs) {Inv : St → St → Prop} (hSim : SimAll Inv) {D : va_G} {ad : Nat → Nat} {cI : ClassId} (hd : HD ad) (hK : KK D cI s) (hA : ∀ q, AA ad q → s.heap.size ≤ q) (j : Nat) (i1 : vp_in (nI j + (1 : Int32)) L) (i2 : vp_in (nI j + (2 : Int32)) L) (i3 : vp_in (nI j + (3 : Int32)) L) (i4 : vp_in (nI j + (4 : Int32)) L)
    (JJ : ∀ (H : Heap) (locs : List Loc) (ls : Array Slot) (σ τ : St) (η : Int64), Inv σ τ → WP D ad cI σ τ η H → va_S (fun q : Nat => s.heap.size ≤ q) s.heap H locs → lv_has ls 4 [(0, .ref b), (1, .ref (ad 0)), (2, .ref (ad 29)), (3, .int (nI j))] → W p l e room_1 s m #[Value.ref b] below meth c H locs 46 829 (lw_Z below #[Value.ref b] s) (F0 m 989 ls []))
    (H : Heap) (locs : List Loc) (ls : Array Slot) (σ τ : St) (η : Int64) (I : Inv σ τ) (hP : WP D ad cI σ τ η H) (hS : va_S (fun q : Nat => s.heap.size ≤ q) s.heap H locs) (hl : lv_has ls 4 [(0, .ref b), (1, .ref (ad 0)), (2, .ref (ad 29)), (3, .int (nI j))]) : W p l e room_1 s m #[Value.ref b] below meth c H locs 46 829 (lw_Z below #[Value.ref b] s) (F0 m 893 ls []) := by
  obtain ⟨hx, hb, hr, hml, hown, hts, hX, hbl, hlocks, hgv⟩ := id C0
  replace hown : s.vm.findClass RL = some m.cls := hown
  have htb : ∀ w ∈ TBL, w.before #[Value.ref b] s = true := fun w hw => hts w (List.mem_filter.mp hw).1
  have hbA : ¬ (fun q : Nat => s.heap.size ≤ q) b := Nat.not_le.mpr hbl
  obtain ⟨r, τ1, e1, e2, I1⟩ := hSim.2.2.2.2.2.2.2.2.2.2.2.2.2.2.2.2.2.2.2.2.2.2.2.2.1 σ τ (xs (nI j + (1 : Int32)).toNatClampNeg) (xs (nI j + (2 : Int32)).toNatClampNeg) I
  refine lv_aload_n hx hb dL_law_893 rfl (lv_at hl 1 rfl) ?_
  refine lv_aload_n hx hb dL_law_894 rfl (lv_at hl 0 rfl) ?_
  refine lv_iload_n hx hb dL_law_895 rfl (lv_at hl 3 rfl) ?_
  refine lv_iconst (v := (1 : Int32)) hx hb dL_law_896 (by decide) ?_
  refine lv_iadd hx hb dL_law_897 ?_
  refine va_sld hx hb hX hbl hbA hS i1 dL_law_898 ?_
  refine lv_aload_n hx hb dL_law_899 rfl (lv_at hl 0 rfl) ?_
  refine lv_iload_n hx hb dL_law_900 rfl (lv_at hl 3 rfl) ?_
  refine lv_iconst (v := (2 : Int32)) hx hb dL_law_901 (by decide) ?_
  refine lv_iadd hx hb dL_law_902 ?_
  refine va_sld hx hb hX hbl hbA hS i2 dL_law_903 ?_
  refine c_Vi (q := (RX7, TX7, 11)) (ci := 7) (b := 0) (As := [.int (xs (nI j + (1 : Int32)).toNatClampNeg), .int (xs (nI j + (2 : Int32)).toNatClampNeg)]) (rest := []) (A := fun q : Nat => s.heap.size ≤ q) ⟨hx, hb, hml, hown, htb⟩ (c_X7_weeks l D ad cI hd σ τ η (xs (nI j + (1 : Int32)).toNatClampNeg) (xs (nI j + (2 : Int32)).toNatClampNeg) r e1) (cwV 2 htb (gdV (fun _ hh => hh) wML_RL_120 wIM_yX7_weeks wSE_yX7_weeks wI_RX7 wC_yX7_weeks) rfl rfl rfl hd_X7_weeks ⟨by decide, by decide⟩) hK hP rfl w_0 hA hS rfl hl.1 rfl (Nat.le_of_ble_eq_true rfl) dL_law_904 ⟨by decide, by decide⟩ (fun H locs hP hS => ?_)
  refine lv_aload_n hx hb dL_law_907 rfl (lv_at hl 2 rfl) ?_
  refine lv_aload_n hx hb dL_law_908 rfl (lv_at hl 0 rfl) ?_
  refine lv_iload_n hx hb dL_law_909 rfl (lv_at hl 3 rfl) ?_
  refine lv_iconst (v := (1 : Int32)) hx hb dL_law_910 (by decide) ?_
  refine lv_iadd hx hb dL_law_911 ?_
  refine va_sld hx hb hX hbl hbA hS i1 dL_law_912 ?_
  refine lv_aload_n hx hb dL_law_913 rfl (lv_at hl 0 rfl) ?_
  refine lv_iload_n hx hb dL_law_914 rfl (lv_at hl 3 rfl) ?_
  refine lv_iconst (v := (2 : Int32)) hx hb dL_law_915 (by decide) ?_
  refine lv_iadd hx hb dL_law_916 ?_
  refine va_sld hx hb hX hbl hbA hS i2 dL_law_917 ?_
  refine c_Vi (q := (RX8, TX8, 27)) (ci := 8) (b := 29) (As := [.int (xs (nI j + (1 : Int32)).toNatClampNeg), .int (xs (nI j + (2 : Int32)).toNatClampNeg)]) (rest := [.int r]) (A := fun q : Nat => s.heap.size ≤ q) ⟨hx, hb, hml, hown, htb⟩ (c_X8_weeks l D ad cI hd σ τ η (xs (nI j + (1 : Int32)).toNatClampNeg) (xs (nI j + (2 : Int32)).toNatClampNeg) (r, τ1) e2) (cwV 2 htb (gdV (fun _ hh => hh) wML_RL_123 wIM_yX8_weeks wSE_yX8_weeks wI_RX8 wC_yX8_weeks) rfl rfl rfl hd_X8_weeks ⟨by decide, by decide⟩) hK hP rfl w_29 hA hS rfl hl.1 rfl (Nat.le_of_ble_eq_true rfl) dL_law_918 ⟨by decide, by decide⟩ (fun H locs hP hS => ?_)
  refine lv_icmp_eq (tgt := 989) hx hb dL_law_921 (by decide) (fun _ => ?_) (fun c8 => absurd rfl c8)
  exact JJ _ _ _ _ _ _ I1 hP hS hl
set_option maxHeartbeats 4000000 in
set_option maxRecDepth 100000 in
theorem law_25 {p : Program} {e : Env} {s : State} {m : MethodId} {below : List Frame} {meth : Method} {c : Code} (l : Launch) {b L : Nat} {xs : Nat → Int32} (hL : L ≤ 2560) (C0 : lw_At p s m meth c b L xs) {Inv : St → St → Prop} (hSim : SimAll Inv) {D : va_G} {ad : Nat → Nat} {cI : ClassId} (hd : HD ad) (hK : KK D cI s) (hA : ∀ q, AA ad q → s.heap.size ≤ q) (j : Nat) (i1 : vp_in (nI j + (1 : Int32)) L) (i2 : vp_in (nI j + (2 : Int32)) L) (i3 : vp_in (nI j + (3 : Int32)) L) (i4 : vp_in (nI j + (4 : Int32)) L)
    (JJ : ∀ (H : Heap) (locs : List Loc) (ls : Array Slot) (σ τ : St) (η : Int64), Inv σ τ → WP D ad cI σ τ η H → va_S (fun q : Nat => s.heap.size ≤ q) s.heap H locs → lv_has ls 4 [(0, .ref b), (1, .ref (ad 0)), (2, .ref (ad 29)), (3, .int (nI j))] → W p l e room_1 s m #[Value.ref b] below meth c H locs 46 829 (lw_Z below #[Value.ref b] s) (F0 m 989 ls []))
    (H : Heap) (locs : List Loc) (ls : Array Slot) (σ τ : St) (η : Int64) (I : Inv σ τ) (hP : WP D ad cI σ τ η H) (hS : va_S (fun q : Nat => s.heap.size ≤ q) s.heap H locs) (hl : lv_has ls 4 [(0, .ref b), (1, .ref (ad 0)), (2, .ref (ad 29)), (3, .int (nI j))]) : W p l e room_1 s m #[Value.ref b] below meth c H locs 46 829 (lw_Z below #[Value.ref b] s) (F0 m 926 ls []) := by
  obtain ⟨hx, hb, hr, hml, hown, hts, hX, hbl, hlocks, hgv⟩ := id C0
  replace hown : s.vm.findClass RL = some m.cls := hown
  have htb : ∀ w ∈ TBL, w.before #[Value.ref b] s = true := fun w hw => hts w (List.mem_filter.mp hw).1
  have hbA : ¬ (fun q : Nat => s.heap.size ≤ q) b := Nat.not_le.mpr hbl
  obtain ⟨r, σ1, τ1, e1, e2, I1⟩ := hSim.2.2.2.2.2.2.2.2.2.2.2.2.2.2.2.2.2.2.2.2.2.2.2.2.2.1 σ τ  I
  refine lv_aload_n hx hb dL_law_926 rfl (lv_at hl 1 rfl) ?_
  refine c_Vi (q := (RX7, TX7, 11)) (ci := 7) (b := 0) (As := []) (rest := []) (A := fun q : Nat => s.heap.size ≤ q) ⟨hx, hb, hml, hown, htb⟩ (c_X7_image l D ad cI hd σ τ η  (r, σ1) e1) (cwV 0 htb (gdV (fun _ hh => hh) wML_RL_124 wIM_yX7_image wSE_yX7_image wI_RX7 wC_yX7_image) rfl rfl rfl hd_X7_image ⟨by decide, by decide⟩) hK hP rfl w_0 hA hS rfl hl.1 rfl (Nat.le_of_ble_eq_true rfl) dL_law_927 ⟨by decide, by decide⟩ (fun H locs hP hS => ?_)
  refine lv_aload_n hx hb dL_law_930 rfl (lv_at hl 2 rfl) ?_
  refine c_Vi (q := (RX8, TX8, 27)) (ci := 8) (b := 29) (As := []) (rest := [.int r]) (A := fun q : Nat => s.heap.size ≤ q) ⟨hx, hb, hml, hown, htb⟩ (c_X8_image l D ad cI hd σ1 τ η  (r, τ1) e2) (cwV 0 htb (gdV (fun _ hh => hh) wML_RL_127 wIM_yX8_image wSE_yX8_image wI_RX8 wC_yX8_image) rfl rfl rfl hd_X8_image ⟨by decide, by decide⟩) hK hP rfl w_29 hA hS rfl hl.1 rfl (Nat.le_of_ble_eq_true rfl) dL_law_931 ⟨by decide, by decide⟩ (fun H locs hP hS => ?_)
  refine lv_icmp_eq (tgt := 989) hx hb dL_law_934 (by decide) (fun _ => ?_) (fun c8 => absurd rfl c8)
  exact JJ _ _ _ _ _ _ I1 hP hS hl
set_option maxHeartbeats 4000000 in
set_option maxRecDepth 100000 in
theorem law_26 {p : Program} {e : Env} {s : State} {m : MethodId} {below : List Frame} {meth : Method} {c : Code} (l : Launch) {b L : Nat} {xs : Nat → Int32} (hL : L ≤ 2560) (C0 : lw_At p s m meth c b L xs) {Inv : St → St → Prop} (hSim : SimAll Inv) {D : va_G} {ad : Nat → Nat} {cI : ClassId} (hd : HD ad) (hK : KK D cI s) (hA : ∀ q, AA ad q → s.heap.size ≤ q) (j : Nat) (i1 : vp_in (nI j + (1 : Int32)) L) (i2 : vp_in (nI j + (2 : Int32)) L) (i3 : vp_in (nI j + (3 : Int32)) L) (i4 : vp_in (nI j + (4 : Int32)) L)
    (JJ : ∀ (H : Heap) (locs : List Loc) (ls : Array Slot) (σ τ : St) (η : Int64), Inv σ τ → WP D ad cI σ τ η H → va_S (fun q : Nat => s.heap.size ≤ q) s.heap H locs → lv_has ls 4 [(0, .ref b), (1, .ref (ad 0)), (2, .ref (ad 29)), (3, .int (nI j))] → W p l e room_1 s m #[Value.ref b] below meth c H locs 46 829 (lw_Z below #[Value.ref b] s) (F0 m 989 ls []))
    (H : Heap) (locs : List Loc) (ls : Array Slot) (σ τ : St) (η : Int64) (I : Inv σ τ) (hP : WP D ad cI σ τ η H) (hS : va_S (fun q : Nat => s.heap.size ≤ q) s.heap H locs) (hl : lv_has ls 4 [(0, .ref b), (1, .ref (ad 0)), (2, .ref (ad 29)), (3, .int (nI j))]) : W p l e room_1 s m #[Value.ref b] below meth c H locs 46 829 (lw_Z below #[Value.ref b] s) (F0 m 939 ls []) := by
  obtain ⟨hx, hb, hr, hml, hown, hts, hX, hbl, hlocks, hgv⟩ := id C0
  replace hown : s.vm.findClass RL = some m.cls := hown
  have htb : ∀ w ∈ TBL, w.before #[Value.ref b] s = true := fun w hw => hts w (List.mem_filter.mp hw).1
  have hbA : ¬ (fun q : Nat => s.heap.size ≤ q) b := Nat.not_le.mpr hbl
  obtain ⟨r, σ1, τ1, e1, e2, I1⟩ := hSim.2.2.2.2.2.2.2.2.2.2.2.2.2.2.2.2.2.2.2.2.2.2.2.2.2.2.1 σ τ  I
  refine lv_aload_n hx hb dL_law_939 rfl (lv_at hl 1 rfl) ?_
  refine c_Vi (q := (RX7, TX7, 11)) (ci := 7) (b := 0) (As := []) (rest := []) (A := fun q : Nat => s.heap.size ≤ q) ⟨hx, hb, hml, hown, htb⟩ (c_X7_restore l D ad cI hd σ τ η  (r, σ1) e1) (cwV 0 htb (gdV (fun _ hh => hh) wML_RL_128 wIM_yX7_restore wSE_yX7_restore wI_RX7 wC_yX7_restore) rfl rfl rfl hd_X7_restore ⟨by decide, by decide⟩) hK hP rfl w_0 hA hS rfl hl.1 rfl (Nat.le_of_ble_eq_true rfl) dL_law_940 ⟨by decide, by decide⟩ (fun H locs hP hS => ?_)
  refine lv_aload_n hx hb dL_law_943 rfl (lv_at hl 2 rfl) ?_
  refine c_Vi (q := (RX8, TX8, 27)) (ci := 8) (b := 29) (As := []) (rest := [.int r]) (A := fun q : Nat => s.heap.size ≤ q) ⟨hx, hb, hml, hown, htb⟩ (c_X8_restore l D ad cI hd σ1 τ η  (r, τ1) e2) (cwV 0 htb (gdV (fun _ hh => hh) wML_RL_131 wIM_yX8_restore wSE_yX8_restore wI_RX8 wC_yX8_restore) rfl rfl rfl hd_X8_restore ⟨by decide, by decide⟩) hK hP rfl w_29 hA hS rfl hl.1 rfl (Nat.le_of_ble_eq_true rfl) dL_law_944 ⟨by decide, by decide⟩ (fun H locs hP hS => ?_)
  refine lv_icmp_eq (tgt := 989) hx hb dL_law_947 (by decide) (fun _ => ?_) (fun c8 => absurd rfl c8)
  exact JJ _ _ _ _ _ _ I1 hP hS hl
set_option maxHeartbeats 4000000 in
set_option maxRecDepth 100000 in
theorem law_27 {p : Program} {e : Env} {s : State} {m : MethodId} {below : List Frame} {meth : Method} {c : Code} (l : Launch) {b L : Nat} {xs : Nat → Int32} (hL : L ≤ 2560) (C0 : lw_At p s m meth c b L xs) {Inv : St → St → Prop} (hSim : SimAll Inv) {D : va_G} {ad : Nat → Nat} {cI : ClassId} (hd : HD ad) (hK : KK D cI s) (hA : ∀ q, AA ad q → s.heap.size ≤ q) (j : Nat) (i1 : vp_in (nI j + (1 : Int32)) L) (i2 : vp_in (nI j + (2 : Int32)) L) (i3 : vp_in (nI j + (3 : Int32)) L) (i4 : vp_in (nI j + (4 : Int32)) L)
    (JJ : ∀ (H : Heap) (locs : List Loc) (ls : Array Slot) (σ τ : St) (η : Int64), Inv σ τ → WP D ad cI σ τ η H → va_S (fun q : Nat => s.heap.size ≤ q) s.heap H locs → lv_has ls 4 [(0, .ref b), (1, .ref (ad 0)), (2, .ref (ad 29)), (3, .int (nI j))] → W p l e room_1 s m #[Value.ref b] below meth c H locs 46 829 (lw_Z below #[Value.ref b] s) (F0 m 989 ls []))
    (H : Heap) (locs : List Loc) (ls : Array Slot) (σ τ : St) (η : Int64) (I : Inv σ τ) (hP : WP D ad cI σ τ η H) (hS : va_S (fun q : Nat => s.heap.size ≤ q) s.heap H locs) (hl : lv_has ls 4 [(0, .ref b), (1, .ref (ad 0)), (2, .ref (ad 29)), (3, .int (nI j))]) : W p l e room_1 s m #[Value.ref b] below meth c H locs 46 829 (lw_Z below #[Value.ref b] s) (F0 m 952 ls []) := by
  obtain ⟨hx, hb, hr, hml, hown, hts, hX, hbl, hlocks, hgv⟩ := id C0
  replace hown : s.vm.findClass RL = some m.cls := hown
  have htb : ∀ w ∈ TBL, w.before #[Value.ref b] s = true := fun w hw => hts w (List.mem_filter.mp hw).1
  have hbA : ¬ (fun q : Nat => s.heap.size ≤ q) b := Nat.not_le.mpr hbl
  obtain ⟨r, τ1, e1, e2, I1⟩ := hSim.2.2.2.2.2.2.2.2.2.2.2.2.2.2.2.2.2.2.2.2.2.2.2.2.2.2.2.1 σ τ (xs (nI j + (1 : Int32)).toNatClampNeg) I
  refine lv_aload_n hx hb dL_law_952 rfl (lv_at hl 1 rfl) ?_
  refine lv_aload_n hx hb dL_law_953 rfl (lv_at hl 0 rfl) ?_
  refine lv_iload_n hx hb dL_law_954 rfl (lv_at hl 3 rfl) ?_
  refine lv_iconst (v := (1 : Int32)) hx hb dL_law_955 (by decide) ?_
  refine lv_iadd hx hb dL_law_956 ?_
  refine va_sld hx hb hX hbl hbA hS i1 dL_law_957 ?_
  refine c_Vi (q := (RX7, TX7, 11)) (ci := 7) (b := 0) (As := [.int (xs (nI j + (1 : Int32)).toNatClampNeg)]) (rest := []) (A := fun q : Nat => s.heap.size ≤ q) ⟨hx, hb, hml, hown, htb⟩ (c_X7_count l D ad cI hd σ τ η (xs (nI j + (1 : Int32)).toNatClampNeg) r e1) (cwV 1 htb (gdV (fun _ hh => hh) wML_RL_132 wIM_yX7_count wSE_yX7_count wI_RX7 wC_yX7_count) rfl rfl rfl hd_X7_count ⟨by decide, by decide⟩) hK hP rfl w_0 hA hS rfl hl.1 rfl (Nat.le_of_ble_eq_true rfl) dL_law_958 ⟨by decide, by decide⟩ (fun H locs hP hS => ?_)
  refine lv_aload_n hx hb dL_law_961 rfl (lv_at hl 2 rfl) ?_
  refine lv_aload_n hx hb dL_law_962 rfl (lv_at hl 0 rfl) ?_
  refine lv_iload_n hx hb dL_law_963 rfl (lv_at hl 3 rfl) ?_
  refine lv_iconst (v := (1 : Int32)) hx hb dL_law_964 (by decide) ?_
  refine lv_iadd hx hb dL_law_965 ?_
  refine va_sld hx hb hX hbl hbA hS i1 dL_law_966 ?_
  refine c_Vi (q := (RX8, TX8, 27)) (ci := 8) (b := 29) (As := [.int (xs (nI j + (1 : Int32)).toNatClampNeg)]) (rest := [.int r]) (A := fun q : Nat => s.heap.size ≤ q) ⟨hx, hb, hml, hown, htb⟩ (c_X8_count l D ad cI hd σ τ η (xs (nI j + (1 : Int32)).toNatClampNeg) (r, τ1) e2) (cwV 1 htb (gdV (fun _ hh => hh) wML_RL_135 wIM_yX8_count wSE_yX8_count wI_RX8 wC_yX8_count) rfl rfl rfl hd_X8_count ⟨by decide, by decide⟩) hK hP rfl w_29 hA hS rfl hl.1 rfl (Nat.le_of_ble_eq_true rfl) dL_law_967 ⟨by decide, by decide⟩ (fun H locs hP hS => ?_)
  refine lv_icmp_eq (tgt := 989) hx hb dL_law_970 (by decide) (fun _ => ?_) (fun c8 => absurd rfl c8)
  exact JJ _ _ _ _ _ _ I1 hP hS hl
set_option maxHeartbeats 4000000 in
set_option maxRecDepth 100000 in
theorem law_28 {p : Program} {e : Env} {s : State} {m : MethodId} {below : List Frame} {meth : Method} {c : Code} (l : Launch) {b L : Nat} {xs : Nat → Int32} (hL : L ≤ 2560) (C0 : lw_At p s m meth c b L xs) {Inv : St → St → Prop} (hSim : SimAll Inv) {D : va_G} {ad : Nat → Nat} {cI : ClassId} (hd : HD ad) (hK : KK D cI s) (hA : ∀ q, AA ad q → s.heap.size ≤ q) (j : Nat) (i1 : vp_in (nI j + (1 : Int32)) L) (i2 : vp_in (nI j + (2 : Int32)) L) (i3 : vp_in (nI j + (3 : Int32)) L) (i4 : vp_in (nI j + (4 : Int32)) L)
    (JJ : ∀ (H : Heap) (locs : List Loc) (ls : Array Slot) (σ τ : St) (η : Int64), Inv σ τ → WP D ad cI σ τ η H → va_S (fun q : Nat => s.heap.size ≤ q) s.heap H locs → lv_has ls 4 [(0, .ref b), (1, .ref (ad 0)), (2, .ref (ad 29)), (3, .int (nI j))] → W p l e room_1 s m #[Value.ref b] below meth c H locs 46 829 (lw_Z below #[Value.ref b] s) (F0 m 989 ls []))
    (H : Heap) (locs : List Loc) (ls : Array Slot) (σ τ : St) (η : Int64) (I : Inv σ τ) (hP : WP D ad cI σ τ η H) (hS : va_S (fun q : Nat => s.heap.size ≤ q) s.heap H locs) (hl : lv_has ls 4 [(0, .ref b), (1, .ref (ad 0)), (2, .ref (ad 29)), (3, .int (nI j))]) : W p l e room_1 s m #[Value.ref b] below meth c H locs 46 829 (lw_Z below #[Value.ref b] s) (F0 m 975 ls []) := by
  obtain ⟨hx, hb, hr, hml, hown, hts, hX, hbl, hlocks, hgv⟩ := id C0
  replace hown : s.vm.findClass RL = some m.cls := hown
  have htb : ∀ w ∈ TBL, w.before #[Value.ref b] s = true := fun w hw => hts w (List.mem_filter.mp hw).1
  have hbA : ¬ (fun q : Nat => s.heap.size ≤ q) b := Nat.not_le.mpr hbl
  obtain ⟨r, σ1, τ1, η1, e1, e2, I1⟩ := hSim.2.2.2.2.2.2.2.2.2.2.2.2.2.2.2.2.2.2.2.2.2.2.2.2.2.2.2.2 σ τ η  I
  refine lv_aload_n hx hb dL_law_975 rfl (lv_at hl 1 rfl) ?_
  refine c_Vl (q := (RX7, TX7, 11)) (ci := 7) (b := 0) (As := []) (rest := []) (A := fun q : Nat => s.heap.size ≤ q) ⟨hx, hb, hml, hown, htb⟩ (c_X7_digest l D ad cI hd σ τ η  (r, σ1) e1) (cwV 0 htb (gdV (fun _ hh => hh) wML_RL_136 wIM_yX7_digest wSE_yX7_digest wI_RX7 wC_yX7_digest) rfl rfl rfl hd_X7_digest ⟨by decide, by decide⟩) hK hP rfl w_0 hA hS rfl hl.1 rfl (Nat.le_of_ble_eq_true rfl) dL_law_976 ⟨by decide, by decide⟩ (fun H locs hP hS => ?_)
  refine lv_aload_n hx hb dL_law_979 rfl (lv_at hl 2 rfl) ?_
  refine c_Vl (q := (RX8, TX8, 27)) (ci := 8) (b := 29) (As := []) (rest := [.long r]) (A := fun q : Nat => s.heap.size ≤ q) ⟨hx, hb, hml, hown, htb⟩ (c_X8_digest l D ad cI hd σ1 τ η  (r, τ1, η1) e2) (cwV 0 htb (gdV (fun _ hh => hh) wML_RL_140 wIM_yX8_digest wSE_yX8_digest wI_RX8 wC_yX8_digest) rfl rfl rfl hd_X8_digest ⟨by decide, by decide⟩) hK hP rfl w_29 hA hS rfl hl.1 rfl (Nat.le_of_ble_eq_true rfl) dL_law_980 ⟨by decide, by decide⟩ (fun H locs hP hS => ?_)
  refine W.lcmp hx hb dL_law_983 ?_
  refine lv_if_eq (tgt := 989) hx hb dL_law_984 (by decide) (fun _ => ?_) (fun c8 => absurd ((lg_cmp_eq _ _).mpr rfl) c8)
  exact JJ _ _ _ _ _ _ I1 hP hS hl
theorem law_ge {L j : Nat} (hL : L ≤ 2560) (hj : j ≤ L) (h : ¬ (Int32.ofNat L - (5 : Int32)) < nI j) : j + 5 ≤ L := by
  rcases Nat.lt_or_ge L (j + 5) with q | q
  · exfalso
    apply h
    rw [Int32.lt_iff_toInt_lt]
    have h1 := pk_sub_toInt (a := L) (b := 5) (by omega) (by omega)
    have h2 : (Int32.ofNat L - (5 : Int32)).toInt = (L : Int) - 5 := h1
    rw [h2, nI_toInt (by omega)]
    omega
  · exact q
set_option maxHeartbeats 4000000 in
set_option maxRecDepth 100000 in
theorem law_loop {p : Program} {e : Env} {s : State} {m : MethodId} {below : List Frame} {meth : Method} {c : Code} (l : Launch) {b L : Nat} {xs : Nat → Int32} (hL : L ≤ 2560) (C0 : lw_At p s m meth c b L xs) {Inv : St → St → Prop} (hSim : SimAll Inv) {D : va_G} {ad : Nat → Nat} {cI : ClassId} (hd : HD ad) (hK : KK D cI s) (hA : ∀ q, AA ad q → s.heap.size ≤ q) : ∀ (n j : Nat), L + 1 - j < n → j ≤ L → ∀ (H : Heap) (locs : List Loc) (ls : Array Slot) (σ τ : St) (η : Int64), Inv σ τ → WP D ad cI σ τ η H → va_S (fun q : Nat => s.heap.size ≤ q) s.heap H locs → lv_has ls 4 [(0, .ref b), (1, .ref (ad 0)), (2, .ref (ad 29)), (3, .int (nI j))] → W p l e room_1 s m #[Value.ref b] below meth c H locs 46 829 (lw_Z below #[Value.ref b] s) (F0 m 18 ls []) := by
  obtain ⟨hx, hb, hr, hml, hown, hts, hX, hbl, hlocks, hgv⟩ := id C0
  replace hown : s.vm.findClass RL = some m.cls := hown
  have htb : ∀ w ∈ TBL, w.before #[Value.ref b] s = true := fun w hw => hts w (List.mem_filter.mp hw).1
  have hbA : ¬ (fun q : Nat => s.heap.size ≤ q) b := Nat.not_le.mpr hbl
  intro n
  induction n with
  | zero => intro j h; omega
  | succ n ih =>
    intro j hn hj H locs ls σ τ η I hP hS hl
    refine lv_iload_n hx hb dL_law_18 rfl (lv_at hl 3 rfl) ?_
    refine lv_aload_n hx hb dL_law_19 rfl (lv_at hl 0 rfl) ?_
    refine va_slen hx hb hX hbl hbA hS dL_law_20 ?_
    refine lv_iconst (v := (5 : Int32)) hx hb dL_law_21 (by decide) ?_
    refine lv_isub hx hb dL_law_22 ?_
    refine lv_icmp_gt (tgt := 995) hx hb dL_law_23 (by decide) (fun c1 => ?_) (fun c1 => ?_)
    · refine lv_iconst (v := (1 : Int32)) hx hb dL_law_995 (by decide) ?_
      refine va_forget (fun q hq => hS.2.2 q hq) ?_
      exact lw_ret hx hb hr hlocks dL_law_996
    · have hj5 : j + 5 ≤ L := law_ge hL hj c1
      have i0 : vp_in (nI j) L := vp_in_nI (by omega) (by omega)
      have i1 : vp_in (nI j + (1 : Int32)) L := by
        rw [show nI j + (1 : Int32) = nI (j + 1) from nI_1 j]; exact vp_in_nI (by omega) (by omega)
      have i2 : vp_in (nI j + (2 : Int32)) L := by
        rw [show nI j + (2 : Int32) = nI (j + 2) from nI_add j 2]; exact vp_in_nI (by omega) (by omega)
      have i3 : vp_in (nI j + (3 : Int32)) L := by
        rw [show nI j + (3 : Int32) = nI (j + 3) from nI_add j 3]; exact vp_in_nI (by omega) (by omega)
      have i4 : vp_in (nI j + (4 : Int32)) L := by
        rw [show nI j + (4 : Int32) = nI (j + 4) from nI_add j 4]; exact vp_in_nI (by omega) (by omega)
      have JJ : ∀ (H : Heap) (locs : List Loc) (ls : Array Slot) (σ τ : St) (η : Int64), Inv σ τ → WP D ad cI σ τ η H → va_S (fun q : Nat => s.heap.size ≤ q) s.heap H locs → lv_has ls 4 [(0, .ref b), (1, .ref (ad 0)), (2, .ref (ad 29)), (3, .int (nI j))] → W p l e room_1 s m #[Value.ref b] below meth c H locs 46 829 (lw_Z below #[Value.ref b] s) (F0 m 989 ls []) := by
        intro H locs ls σ τ η I hP hS hl
        refine lv_iinc (v := nI (j + 5)) (lv' := [(3, .int (nI (j + 5))), (0, .ref b), (1, .ref (ad 0)), (2, .ref (ad 29))]) hx hb dL_law_989 hl (k := 3) rfl (nI_add j 5) (by decide) rfl (fun ls hl => ?_)
        refine lv_goto (tgt := 18) hx hb dL_law_992 (by decide) ?_
        exact ih (j + 5) (by omega) hj5 _ _ _ _ _ _ I hP hS (lv_sub hl [1, 2, 3, 0] rfl)
      refine lv_aload_n hx hb dL_law_26 rfl (lv_at hl 0 rfl) ?_
      refine lv_iload_n hx hb dL_law_27 rfl (lv_at hl 3 rfl) ?_
      refine va_sld hx hb hX hbl hbA hS i0 dL_law_28 ?_
      refine lv_bipush (v := (31 : Int32)) hx hb dL_law_29 (by decide) ?_
      refine lv_iand hx hb dL_law_31 ?_
      by_cases k0 : (xs (nI j).toNatClampNeg &&& (31 : Int32)) = (0 : Int32)
      · refine lv_tableIn (x := (xs (nI j).toNatClampNeg &&& (31 : Int32))) (off := 132) (tgt := 164) hx hb dL_law_32 (by rw [k0]; decide) (by rw [k0]; decide) (by rw [k0]; rfl) (by decide) ?_
        exact law_0 l hL C0 hSim hd hK hA j i1 i2 i3 i4 JJ _ _ _ _ _ _ I hP hS hl
      by_cases k1 : (xs (nI j).toNatClampNeg &&& (31 : Int32)) = (1 : Int32)
      · refine lv_tableIn (x := (xs (nI j).toNatClampNeg &&& (31 : Int32))) (off := 165) (tgt := 197) hx hb dL_law_32 (by rw [k1]; decide) (by rw [k1]; decide) (by rw [k1]; rfl) (by decide) ?_
        exact law_1 l hL C0 hSim hd hK hA j i1 i2 i3 i4 JJ _ _ _ _ _ _ I hP hS hl
      by_cases k2 : (xs (nI j).toNatClampNeg &&& (31 : Int32)) = (2 : Int32)
      · refine lv_tableIn (x := (xs (nI j).toNatClampNeg &&& (31 : Int32))) (off := 198) (tgt := 230) hx hb dL_law_32 (by rw [k2]; decide) (by rw [k2]; decide) (by rw [k2]; rfl) (by decide) ?_
        exact law_2 l hL C0 hSim hd hK hA j i1 i2 i3 i4 JJ _ _ _ _ _ _ I hP hS hl
      by_cases k3 : (xs (nI j).toNatClampNeg &&& (31 : Int32)) = (3 : Int32)
      · refine lv_tableIn (x := (xs (nI j).toNatClampNeg &&& (31 : Int32))) (off := 231) (tgt := 263) hx hb dL_law_32 (by rw [k3]; decide) (by rw [k3]; decide) (by rw [k3]; rfl) (by decide) ?_
        exact law_3 l hL C0 hSim hd hK hA j i1 i2 i3 i4 JJ _ _ _ _ _ _ I hP hS hl
      by_cases k4 : (xs (nI j).toNatClampNeg &&& (31 : Int32)) = (4 : Int32)
      · refine lv_tableIn (x := (xs (nI j).toNatClampNeg &&& (31 : Int32))) (off := 300) (tgt := 332) hx hb dL_law_32 (by rw [k4]; decide) (by rw [k4]; decide) (by rw [k4]; rfl) (by decide) ?_
        exact law_4 l hL C0 hSim hd hK hA j i1 i2 i3 i4 JJ _ _ _ _ _ _ I hP hS hl
      by_cases k5 : (xs (nI j).toNatClampNeg &&& (31 : Int32)) = (5 : Int32)
      · refine lv_tableIn (x := (xs (nI j).toNatClampNeg &&& (31 : Int32))) (off := 333) (tgt := 365) hx hb dL_law_32 (by rw [k5]; decide) (by rw [k5]; decide) (by rw [k5]; rfl) (by decide) ?_
        exact law_5 l hL C0 hSim hd hK hA j i1 i2 i3 i4 JJ _ _ _ _ _ _ I hP hS hl
      by_cases k6 : (xs (nI j).toNatClampNeg &&& (31 : Int32)) = (6 : Int32)
      · refine lv_tableIn (x := (xs (nI j).toNatClampNeg &&& (31 : Int32))) (off := 386) (tgt := 418) hx hb dL_law_32 (by rw [k6]; decide) (by rw [k6]; decide) (by rw [k6]; rfl) (by decide) ?_
        exact law_6 l hL C0 hSim hd hK hA j i1 i2 i3 i4 JJ _ _ _ _ _ _ I hP hS hl
      by_cases k7 : (xs (nI j).toNatClampNeg &&& (31 : Int32)) = (7 : Int32)
      · refine lv_tableIn (x := (xs (nI j).toNatClampNeg &&& (31 : Int32))) (off := 399) (tgt := 431) hx hb dL_law_32 (by rw [k7]; decide) (by rw [k7]; decide) (by rw [k7]; rfl) (by decide) ?_
        exact law_7 l hL C0 hSim hd hK hA j i1 i2 i3 i4 JJ _ _ _ _ _ _ I hP hS hl
      by_cases k8 : (xs (nI j).toNatClampNeg &&& (31 : Int32)) = (8 : Int32)
      · refine lv_tableIn (x := (xs (nI j).toNatClampNeg &&& (31 : Int32))) (off := 412) (tgt := 444) hx hb dL_law_32 (by rw [k8]; decide) (by rw [k8]; decide) (by rw [k8]; rfl) (by decide) ?_
        exact law_8 l hL C0 hSim hd hK hA j i1 i2 i3 i4 JJ _ _ _ _ _ _ I hP hS hl
      by_cases k9 : (xs (nI j).toNatClampNeg &&& (31 : Int32)) = (9 : Int32)
      · refine lv_tableIn (x := (xs (nI j).toNatClampNeg &&& (31 : Int32))) (off := 425) (tgt := 457) hx hb dL_law_32 (by rw [k9]; decide) (by rw [k9]; decide) (by rw [k9]; rfl) (by decide) ?_
        exact law_9 l hL C0 hSim hd hK hA j i1 i2 i3 i4 JJ _ _ _ _ _ _ I hP hS hl
      by_cases k10 : (xs (nI j).toNatClampNeg &&& (31 : Int32)) = (10 : Int32)
      · refine lv_tableIn (x := (xs (nI j).toNatClampNeg &&& (31 : Int32))) (off := 458) (tgt := 490) hx hb dL_law_32 (by rw [k10]; decide) (by rw [k10]; decide) (by rw [k10]; rfl) (by decide) ?_
        exact law_10 l hL C0 hSim hd hK hA j i1 i2 i3 i4 JJ _ _ _ _ _ _ I hP hS hl
      by_cases k11 : (xs (nI j).toNatClampNeg &&& (31 : Int32)) = (11 : Int32)
      · refine lv_tableIn (x := (xs (nI j).toNatClampNeg &&& (31 : Int32))) (off := 482) (tgt := 514) hx hb dL_law_32 (by rw [k11]; decide) (by rw [k11]; decide) (by rw [k11]; rfl) (by decide) ?_
        exact law_11 l hL C0 hSim hd hK hA j i1 i2 i3 i4 JJ _ _ _ _ _ _ I hP hS hl
      by_cases k12 : (xs (nI j).toNatClampNeg &&& (31 : Int32)) = (12 : Int32)
      · refine lv_tableIn (x := (xs (nI j).toNatClampNeg &&& (31 : Int32))) (off := 516) (tgt := 548) hx hb dL_law_32 (by rw [k12]; decide) (by rw [k12]; decide) (by rw [k12]; rfl) (by decide) ?_
        exact law_12 l hL C0 hSim hd hK hA j i1 i2 i3 i4 JJ _ _ _ _ _ _ I hP hS hl
      by_cases k13 : (xs (nI j).toNatClampNeg &&& (31 : Int32)) = (13 : Int32)
      · refine lv_tableIn (x := (xs (nI j).toNatClampNeg &&& (31 : Int32))) (off := 529) (tgt := 561) hx hb dL_law_32 (by rw [k13]; decide) (by rw [k13]; decide) (by rw [k13]; rfl) (by decide) ?_
        exact law_13 l hL C0 hSim hd hK hA j i1 i2 i3 i4 JJ _ _ _ _ _ _ I hP hS hl
      by_cases k14 : (xs (nI j).toNatClampNeg &&& (31 : Int32)) = (14 : Int32)
      · refine lv_tableIn (x := (xs (nI j).toNatClampNeg &&& (31 : Int32))) (off := 553) (tgt := 585) hx hb dL_law_32 (by rw [k14]; decide) (by rw [k14]; decide) (by rw [k14]; rfl) (by decide) ?_
        exact law_14 l hL C0 hSim hd hK hA j i1 i2 i3 i4 JJ _ _ _ _ _ _ I hP hS hl
      by_cases k15 : (xs (nI j).toNatClampNeg &&& (31 : Int32)) = (15 : Int32)
      · refine lv_tableIn (x := (xs (nI j).toNatClampNeg &&& (31 : Int32))) (off := 566) (tgt := 598) hx hb dL_law_32 (by rw [k15]; decide) (by rw [k15]; decide) (by rw [k15]; rfl) (by decide) ?_
        exact law_15 l hL C0 hSim hd hK hA j i1 i2 i3 i4 JJ _ _ _ _ _ _ I hP hS hl
      by_cases k16 : (xs (nI j).toNatClampNeg &&& (31 : Int32)) = (16 : Int32)
      · refine lv_tableIn (x := (xs (nI j).toNatClampNeg &&& (31 : Int32))) (off := 589) (tgt := 621) hx hb dL_law_32 (by rw [k16]; decide) (by rw [k16]; decide) (by rw [k16]; rfl) (by decide) ?_
        exact law_16 l hL C0 hSim hd hK hA j i1 i2 i3 i4 JJ _ _ _ _ _ _ I hP hS hl
      by_cases k17 : (xs (nI j).toNatClampNeg &&& (31 : Int32)) = (17 : Int32)
      · refine lv_tableIn (x := (xs (nI j).toNatClampNeg &&& (31 : Int32))) (off := 612) (tgt := 644) hx hb dL_law_32 (by rw [k17]; decide) (by rw [k17]; decide) (by rw [k17]; rfl) (by decide) ?_
        exact law_17 l hL C0 hSim hd hK hA j i1 i2 i3 i4 JJ _ _ _ _ _ _ I hP hS hl
      by_cases k18 : (xs (nI j).toNatClampNeg &&& (31 : Int32)) = (18 : Int32)
      · refine lv_tableIn (x := (xs (nI j).toNatClampNeg &&& (31 : Int32))) (off := 671) (tgt := 703) hx hb dL_law_32 (by rw [k18]; decide) (by rw [k18]; decide) (by rw [k18]; rfl) (by decide) ?_
        exact law_18 l hL C0 hSim hd hK hA j i1 i2 i3 i4 JJ _ _ _ _ _ _ I hP hS hl
      by_cases k19 : (xs (nI j).toNatClampNeg &&& (31 : Int32)) = (19 : Int32)
      · refine lv_tableIn (x := (xs (nI j).toNatClampNeg &&& (31 : Int32))) (off := 694) (tgt := 726) hx hb dL_law_32 (by rw [k19]; decide) (by rw [k19]; decide) (by rw [k19]; rfl) (by decide) ?_
        exact law_19 l hL C0 hSim hd hK hA j i1 i2 i3 i4 JJ _ _ _ _ _ _ I hP hS hl
      by_cases k20 : (xs (nI j).toNatClampNeg &&& (31 : Int32)) = (20 : Int32)
      · refine lv_tableIn (x := (xs (nI j).toNatClampNeg &&& (31 : Int32))) (off := 727) (tgt := 759) hx hb dL_law_32 (by rw [k20]; decide) (by rw [k20]; decide) (by rw [k20]; rfl) (by decide) ?_
        exact law_20 l hL C0 hSim hd hK hA j i1 i2 i3 i4 JJ _ _ _ _ _ _ I hP hS hl
      by_cases k21 : (xs (nI j).toNatClampNeg &&& (31 : Int32)) = (21 : Int32)
      · refine lv_tableIn (x := (xs (nI j).toNatClampNeg &&& (31 : Int32))) (off := 760) (tgt := 792) hx hb dL_law_32 (by rw [k21]; decide) (by rw [k21]; decide) (by rw [k21]; rfl) (by decide) ?_
        exact law_21 l hL C0 hSim hd hK hA j i1 i2 i3 i4 JJ _ _ _ _ _ _ I hP hS hl
      by_cases k22 : (xs (nI j).toNatClampNeg &&& (31 : Int32)) = (22 : Int32)
      · refine lv_tableIn (x := (xs (nI j).toNatClampNeg &&& (31 : Int32))) (off := 794) (tgt := 826) hx hb dL_law_32 (by rw [k22]; decide) (by rw [k22]; decide) (by rw [k22]; rfl) (by decide) ?_
        exact law_22 l hL C0 hSim hd hK hA j i1 i2 i3 i4 JJ _ _ _ _ _ _ I hP hS hl
      by_cases k23 : (xs (nI j).toNatClampNeg &&& (31 : Int32)) = (23 : Int32)
      · refine lv_tableIn (x := (xs (nI j).toNatClampNeg &&& (31 : Int32))) (off := 807) (tgt := 839) hx hb dL_law_32 (by rw [k23]; decide) (by rw [k23]; decide) (by rw [k23]; rfl) (by decide) ?_
        exact law_23 l hL C0 hSim hd hK hA j i1 i2 i3 i4 JJ _ _ _ _ _ _ I hP hS hl
      by_cases k24 : (xs (nI j).toNatClampNeg &&& (31 : Int32)) = (24 : Int32)
      · refine lv_tableIn (x := (xs (nI j).toNatClampNeg &&& (31 : Int32))) (off := 861) (tgt := 893) hx hb dL_law_32 (by rw [k24]; decide) (by rw [k24]; decide) (by rw [k24]; rfl) (by decide) ?_
        exact law_24 l hL C0 hSim hd hK hA j i1 i2 i3 i4 JJ _ _ _ _ _ _ I hP hS hl
      by_cases k25 : (xs (nI j).toNatClampNeg &&& (31 : Int32)) = (25 : Int32)
      · refine lv_tableIn (x := (xs (nI j).toNatClampNeg &&& (31 : Int32))) (off := 894) (tgt := 926) hx hb dL_law_32 (by rw [k25]; decide) (by rw [k25]; decide) (by rw [k25]; rfl) (by decide) ?_
        exact law_25 l hL C0 hSim hd hK hA j i1 i2 i3 i4 JJ _ _ _ _ _ _ I hP hS hl
      by_cases k26 : (xs (nI j).toNatClampNeg &&& (31 : Int32)) = (26 : Int32)
      · refine lv_tableIn (x := (xs (nI j).toNatClampNeg &&& (31 : Int32))) (off := 907) (tgt := 939) hx hb dL_law_32 (by rw [k26]; decide) (by rw [k26]; decide) (by rw [k26]; rfl) (by decide) ?_
        exact law_26 l hL C0 hSim hd hK hA j i1 i2 i3 i4 JJ _ _ _ _ _ _ I hP hS hl
      by_cases k27 : (xs (nI j).toNatClampNeg &&& (31 : Int32)) = (27 : Int32)
      · refine lv_tableIn (x := (xs (nI j).toNatClampNeg &&& (31 : Int32))) (off := 920) (tgt := 952) hx hb dL_law_32 (by rw [k27]; decide) (by rw [k27]; decide) (by rw [k27]; rfl) (by decide) ?_
        exact law_27 l hL C0 hSim hd hK hA j i1 i2 i3 i4 JJ _ _ _ _ _ _ I hP hS hl
      by_cases k28 : (xs (nI j).toNatClampNeg &&& (31 : Int32)) = (28 : Int32)
      · refine lv_tableIn (x := (xs (nI j).toNatClampNeg &&& (31 : Int32))) (off := 943) (tgt := 975) hx hb dL_law_32 (by rw [k28]; decide) (by rw [k28]; decide) (by rw [k28]; rfl) (by decide) ?_
        exact law_28 l hL C0 hSim hd hK hA j i1 i2 i3 i4 JJ _ _ _ _ _ _ I hP hS hl
      have z0 := lv_neT k0 (show ((0 : Int32)).toInt = 0 by decide)
      have z1 := lv_neT k1 (show ((1 : Int32)).toInt = 1 by decide)
      have z2 := lv_neT k2 (show ((2 : Int32)).toInt = 2 by decide)
      have z3 := lv_neT k3 (show ((3 : Int32)).toInt = 3 by decide)
      have z4 := lv_neT k4 (show ((4 : Int32)).toInt = 4 by decide)
      have z5 := lv_neT k5 (show ((5 : Int32)).toInt = 5 by decide)
      have z6 := lv_neT k6 (show ((6 : Int32)).toInt = 6 by decide)
      have z7 := lv_neT k7 (show ((7 : Int32)).toInt = 7 by decide)
      have z8 := lv_neT k8 (show ((8 : Int32)).toInt = 8 by decide)
      have z9 := lv_neT k9 (show ((9 : Int32)).toInt = 9 by decide)
      have z10 := lv_neT k10 (show ((10 : Int32)).toInt = 10 by decide)
      have z11 := lv_neT k11 (show ((11 : Int32)).toInt = 11 by decide)
      have z12 := lv_neT k12 (show ((12 : Int32)).toInt = 12 by decide)
      have z13 := lv_neT k13 (show ((13 : Int32)).toInt = 13 by decide)
      have z14 := lv_neT k14 (show ((14 : Int32)).toInt = 14 by decide)
      have z15 := lv_neT k15 (show ((15 : Int32)).toInt = 15 by decide)
      have z16 := lv_neT k16 (show ((16 : Int32)).toInt = 16 by decide)
      have z17 := lv_neT k17 (show ((17 : Int32)).toInt = 17 by decide)
      have z18 := lv_neT k18 (show ((18 : Int32)).toInt = 18 by decide)
      have z19 := lv_neT k19 (show ((19 : Int32)).toInt = 19 by decide)
      have z20 := lv_neT k20 (show ((20 : Int32)).toInt = 20 by decide)
      have z21 := lv_neT k21 (show ((21 : Int32)).toInt = 21 by decide)
      have z22 := lv_neT k22 (show ((22 : Int32)).toInt = 22 by decide)
      have z23 := lv_neT k23 (show ((23 : Int32)).toInt = 23 by decide)
      have z24 := lv_neT k24 (show ((24 : Int32)).toInt = 24 by decide)
      have z25 := lv_neT k25 (show ((25 : Int32)).toInt = 25 by decide)
      have z26 := lv_neT k26 (show ((26 : Int32)).toInt = 26 by decide)
      have z27 := lv_neT k27 (show ((27 : Int32)).toInt = 27 by decide)
      have z28 := lv_neT k28 (show ((28 : Int32)).toInt = 28 by decide)
      refine lv_tableOut (x := (xs (nI j).toNatClampNeg &&& (31 : Int32))) (tgt := 989) hx hb dL_law_32 (by omega) (by decide) ?_
      exact JJ _ _ _ _ _ _ I hP hS hl
