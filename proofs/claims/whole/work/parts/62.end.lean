/-! at the beginning nothing is held -/
theorem gq0 : GQ 0 (fun _ => 0) (fun _ => 0) (fun _ => 0) (fun _ _ _ => false) := ⟨by omega, fun i hi => by omega, fun i hi => by omega, fun i _ => Nat.zero_le _, fun i _ => rfl, fun d a b h => Bool.noConfusion h, fun d a b => rfl⟩
theorem inv0 : Inv σ0 τ0 := by
  have hb : ∀ f : Nat → Bool, (∀ i, f i = false) → (0 : Int32) = nI (bs f 9) := fun f h => by
    rw [bs_zero (fun i _ => h i)]
    rfl
  refine ⟨0, fun _ => 0, fun _ => 0, fun _ => 0, fun _ _ _ => false, gq0, ⟨rfl, ?_, fun i hi => by omega, fun i hi => by omega, fun i _ => rfl, fun d a _ _ _ => ?_⟩, ⟨rfl, fun i hi => by omega, fun i hi => by omega, fun i _ => rfl, fun a b _ _ => ?_⟩, fun d _ _ => ?_, ⟨0, by omega, rfl, rfl, fun i hi => by omega⟩, ⟨0, fun _ => 0, fun _ => 0, fun _ => 0, by omega, rfl, rfl, fun i hi => by omega⟩, ⟨0, by omega, rfl, rfl, fun i hi => by omega, fun i _ => ⟨fun _ => false, ?_, ?_⟩⟩, ⟨0, by omega, rfl, rfl, fun i hi => by omega, fun i _ => ⟨0, by omega, rfl, fun h => by omega, fun _ => rfl⟩⟩, Or.inl ⟨rfl, rfl⟩, rfl, ⟨0, by omega, rfl, rfl⟩⟩
  · exact hb _ (fun i => by simp [auN])
  · exact hb _ (fun i => rfl)
  · exact hb _ (fun i => rfl)
  · exact hb _ (fun i => kn_out gq0 (Nat.zero_le _) _ _)
  · show (0 : Int32) = nI (bs (fun _ => false) 8)
    rw [bs_zero (fun i _ => rfl)]
    rfl
  · show (0 : Int32) = nI (bs (fun _ => false) 8)
    rw [bs_zero (fun i _ => rfl)]
    rfl
theorem simAll : SimAll Inv := ⟨sim_guest, sim_about, sim_as, sim_sees, sim_tell, sim_letters, sim_blank, sim_fault, sim_list, sim_meeting, sim_known, sim_whose, sim_right, sim_best, sim_hole, sim_latest, sim_story, sim_clash, sim_cover, sim_sign, sim_look, sim_belief, sim_parting, sim_quiet, sim_weeks, sim_image, sim_restore, sim_count, sim_digest⟩
/-- YOUR PART: from the entry, for every script of at most 2560 ints, the law comes to its end with true -/
theorem whole_start {p : Program} {e : Env} {s : State} {m : MethodId} {below : List Frame} {meth : Method} {c : Code} (l : Launch) {b L : Nat} {xs : Nat → Int32} (hL : L ≤ 2560) (C0 : lw_At p s m meth c b L xs) : W p l e room_1 s m #[Value.ref b] below meth c s.heap [] 0 0 (lw_Z below #[Value.ref b] s) (entryFrame m ([Value.ref b] : List Value).toArray 4) := by
  exact whole_at l hL C0 simAll inv0
