/-! PURE: the first world; all calls -/
def S00 : ST := (fun _ => 0, fun _ => 0, fun _ => 0, fun _ => 0, 0, 1, fun _ => 0, 0)
theorem ix_00 : ix (0 : Int32) = 0 := by rw [p0]; exact ix_nI (by omega)
theorem wf_00 : WfU (fun _ => 0) 304 := fun k _ _ => by
  have e : tn (fun _ => (0 : Int32)) k = 0 := ix_00
  rw [e]
  exact ⟨p0, Nat.zero_le _⟩
theorem wfs_00 : WfS S00 := ⟨wf_00, fun i _ q => absurd (show (0 : Int32) = 1 from q) (by decide), Nat.zero_le _, fun k hk => absurd hk (Nat.not_lt_zero k), fun _ _ => Or.inl rfl⟩
theorem pas_00 {c : Nat} (hc : c ≠ 72) : PasQ c h0 := by
  have e : ∀ j, hQ h0 (c + 10) j = c + 10 + 1 + 8 * j := fun j => by
    show Q0 (c + 10) j = _
    unfold Q0
    rw [if_neg (by omega)]
  refine ⟨fun j hj => ⟨j, hj, by rw [e j]⟩, fun j hj j' hj' q => ?_⟩
  rw [e j, e j'] at q
  omega
theorem cr_00 : CR S00 h0 := by
  have t0 : ∀ k, tn (fun _ => (0 : Int32)) k = 0 := fun _ => ix_00
  refine ⟨⟨⟨rfl, rfl, rfl, rfl, rfl, fun s _ => ⟨rfl, rfl, rfl, rfl⟩, fun w _ => ⟨rfl, rfl, rfl⟩⟩, rfl, fun j hj => ?_, rfl, fun _ _ _ _ => rfl, rfl, fun _ _ _ _ => rfl, rfl, fun _ _ _ _ => rfl⟩, fun i _ q => absurd (show (0 : Int32) = 1 from q) (by decide), fun _ _ => rfl, ⟨pas_00 (by omega), pas_00 (by omega), pas_00 (by omega)⟩, fun i hi => ?_, fun _ _ => rfl, by decide, by decide, fun k hk => absurd hk (Nat.not_lt_zero k), p0⟩
  · have : j < tn (fun _ => (0 : Int32)) 5 := hj
    rw [t0] at this
    exact absurd this (Nat.not_lt_zero j)
  · show Q0 82 i = kcn i
    unfold Q0 kcn
    rw [if_pos rfl]
theorem mr_00 : MR S00 h0 := ⟨⟨rfl, rfl, fun _ _ => rfl⟩, ⟨rfl, rfl, fun _ _ => rfl⟩, fun _ _ => rfl, fun _ _ => rfl, by decide, by decide, fun _ _ => rfl, p0⟩
theorem rr_0 : ∃ hb, fX9_begin 263 h0 = some hb ∧ RR hb := by
  obtain ⟨h1, r1, ⟨-, -, r2⟩, r3⟩ := m_begin (o := 263) (n := 304) (T := fun _ => 0) (h := h0) ⟨rfl, rfl, fun _ _ => rfl⟩ (by omega)
  refine ⟨h1, r1, S00, wfs_00, cr_00.eqs wfs_00 (r3.eqs (by omega) (by omega)), ?_⟩
  refine mr_00.row (T' := fun _ => 0) (fun k hk => ?_) (fun o k _ ho => ⟨r3.1 o k (by omega) ho, r3.2.1 o k⟩)
  rw [r2 k hk]
  unfold begT
  split <;> rfl
theorem ops_all : OPS RR := ⟨op_land, op_show, op_watcher, op_type, op_clear, op_read, op_does, op_rest, op_moves, op_turns, op_sends, op_undo, op_of, op_about, op_pull, op_drawn, op_sees, op_unseen, op_when, op_enough, op_place, op_plan, op_guard, op_saw, op_where, op_note, op_mark, op_forget, op_is, op_look, op_what, op_tries, op_game, op_fails, op_years, op_part, op_image, op_from, op_status, op_count, op_digest⟩
