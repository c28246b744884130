/-! Math.max, min, abs -/
def jmax (x y : Int32) : Int32 := if x < y then y else x
def jmin (x y : Int32) : Int32 := if y < x then y else x
def jabs (x : Int32) : Int32 := if 0 ≤ x then x else 0 - x
theorem wq_cM_max : Cond.code Lib.Math.max.name Lib.Math.max.code 2 (some .int) ∈ WS := ws2 213 (by decide +kernel) rfl
theorem wq_cM_min : Cond.code Lib.Math.min.name Lib.Math.min.code 2 (some .int) ∈ WS := ws2 216 (by decide +kernel) rfl
theorem wq_cM_abs : Cond.code Lib.Math.abs.name Lib.Math.abs.code 1 (some .int) ∈ WS := ws2 207 (by decide +kernel) rfl
section MATH
variable {l : Launch} {G : GG} {EX : State → Prop} {M : MI} {fr lo : Nat} {vo : Option Value} {h1 h : AH} {pc q : Nat} {lv : List (Nat × Value)} {st : List Value}
theorem U.mmax {idx : Nat} {x y : Int32} (hml : Cond.methodLink M.1.cls idx yJ9_max_7cf53 ∈ WS) (hcat : (st.map fun v => v.category).sum + 13 ≤ lo) (hfr : 1 ≤ fr) (hdg : decode M.2.1 pc = .ok (.invokestatic idx, 3)) (hq : pc + 3 = q) (kk : U l G EX M fr lo vo h1 q lv (.int (jmax x y) :: st) h) : U l G EX M fr lo vo h1 pc lv (.int y :: .int x :: st) h := by
  subst hq
  intro p e s m args below meth c C0 H locs ls hP hS hb hl
  have hts := C0.2.2.2.2.2.2.2.1
  exact va_mmax C0.1 C0.2.1 (by rw [C0.2.2.1]; exact hl.1.symm) C0.2.2.2.2.2.1 (hts _ hml) (hts _ wq_t_yJ9_max_7cf53) (hts _ wq_n_RJ9) (hts _ wq_cM_max) hfr hcat (Nat.zero_le _) (Nat.zero_le _) hdg (kk p e s m args below meth c C0 H locs ls hP hS hb hl)
theorem U.mmin {idx : Nat} {x y : Int32} (hml : Cond.methodLink M.1.cls idx yJ9_min_7cf53 ∈ WS) (hcat : (st.map fun v => v.category).sum + 13 ≤ lo) (hfr : 1 ≤ fr) (hdg : decode M.2.1 pc = .ok (.invokestatic idx, 3)) (hq : pc + 3 = q) (kk : U l G EX M fr lo vo h1 q lv (.int (jmin x y) :: st) h) : U l G EX M fr lo vo h1 pc lv (.int y :: .int x :: st) h := by
  subst hq
  intro p e s m args below meth c C0 H locs ls hP hS hb hl
  have hts := C0.2.2.2.2.2.2.2.1
  exact va_mmin C0.1 C0.2.1 (by rw [C0.2.2.1]; exact hl.1.symm) C0.2.2.2.2.2.1 (hts _ hml) (hts _ wq_t_yJ9_min_7cf53) (hts _ wq_n_RJ9) (hts _ wq_cM_min) hfr hcat (Nat.zero_le _) (Nat.zero_le _) hdg (kk p e s m args below meth c C0 H locs ls hP hS hb hl)
theorem U.mabs {idx : Nat} {x : Int32} (hml : Cond.methodLink M.1.cls idx yJ9_abs_0f7a4 ∈ WS) (hcat : (st.map fun v => v.category).sum + 13 ≤ lo) (hfr : 1 ≤ fr) (hdg : decode M.2.1 pc = .ok (.invokestatic idx, 3)) (hq : pc + 3 = q) (kk : U l G EX M fr lo vo h1 q lv (.int (jabs x) :: st) h) : U l G EX M fr lo vo h1 pc lv (.int x :: st) h := by
  subst hq
  intro p e s m args below meth c C0 H locs ls hP hS hb hl
  have hts := C0.2.2.2.2.2.2.2.1
  exact va_mabs C0.1 C0.2.1 (by rw [C0.2.2.1]; exact hl.1.symm) C0.2.2.2.2.2.1 (hts _ hml) (hts _ wq_t_yJ9_abs_0f7a4) (hts _ wq_n_RJ9) (hts _ wq_cM_abs) hfr hcat (Nat.zero_le _) (Nat.zero_le _) hdg (kk p e s m args below meth c C0 H locs ls hP hS hb hl)
end MATH
