def RR (h : AH) : Prop := True
theorem ops_all : OPS RR := sorry
theorem rr_0 : ∃ hb, fX9_begin 263 h0 = some hb ∧ RR hb := sorry
