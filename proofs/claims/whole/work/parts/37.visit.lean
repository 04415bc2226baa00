-- ===== 37: visit
theorem si_eq {S : St} {p j : Nat} {v : Int32} : (setI S p j v).1 p j = v := by
  show (if p = p then upd (S.1 p) j v else S.1 p) j = v
  rw [if_pos rfl]; exact pk_us
theorem si_nj {S : St} {p j i : Nat} {v : Int32} (h : i ≠ j) : (setI S p j v).1 p i = S.1 p i := by
  show (if p = p then upd (S.1 p) j v else S.1 p) i = S.1 p i
  rw [if_pos rfl]; exact pk_un h
