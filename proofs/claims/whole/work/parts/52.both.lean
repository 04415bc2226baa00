-- ===== 52: both
theorem ro_s (fu : Nat) (S : St) (x1 x2 x3 x4 : Int32) : l_X2_rowOf_7 (fu + 1) S x1 x2 x3 x4 = if x1 ≤ x4 then some (x2, S) else l_X2_rowOf_7 fu S x1 ((x2 <<< ((4 : Int32) &&& 31)) ||| (x3 - x3 / 6 * 6)) (x3 / 6) (x4 + 1) := rfl
/-- row v of those of n calls, as the reference writes it -/
def q_rv (n v : Nat) : Int32 := if n = 1 then nI v else if n = 2 then (nI v / 6) ||| ((nI v - nI v / 6 * 6) <<< ((4 : Int32) &&& 31)) else ((nI v / 36) ||| (((nI v / 6) - (nI v / 6) / 6 * 6) <<< ((4 : Int32) &&& 31))) ||| ((nI v - nI v / 6 * 6) <<< ((8 : Int32) &&& 31))
def q_N (n : Nat) : Nat := if n = 1 then 6 else if n = 2 then 36 else 216
theorem FU4 : FU = 4996 + 1 + 1 + 1 + 1 := rfl
theorem e_rowOf (S : St) {n v : Nat} (h1 : 1 ≤ n) (h3 : n ≤ 3) (hv : v < q_N n) : f_X2_rowOf S (nI v) (nI n) = some (q_rv n v, S) ∧ ¬ q_rv n v = -1 := by
  have : n = 1 ∨ n = 2 ∨ n = 3 := by omega
  unfold f_X2_rowOf
  rw [FU4]
  rcases this with rfl | rfl | rfl
  · have k : ∀ v : Fin 6, ((0 : Int32) <<< ((4 : Int32) &&& 31)) ||| (nI v.val - nI v.val / 6 * 6) = q_rv 1 v.val ∧ ¬ q_rv 1 v.val = -1 := by decide +kernel
    have k := k ⟨v, hv⟩
    rw [ro_s, if_neg (by decide), ro_s, if_pos (by decide)]
    exact ⟨by rw [k.1], k.2⟩
  · have k : ∀ v : Fin 36, ((((0 : Int32) <<< ((4 : Int32) &&& 31)) ||| (nI v.val - nI v.val / 6 * 6)) <<< ((4 : Int32) &&& 31)) ||| (nI v.val / 6 - nI v.val / 6 / 6 * 6) = q_rv 2 v.val ∧ ¬ q_rv 2 v.val = -1 := by decide +kernel
    have k := k ⟨v, hv⟩
    rw [ro_s, if_neg (by decide), ro_s, if_neg (by decide), ro_s, if_pos (by decide)]
    exact ⟨by rw [k.1], k.2⟩
  · have k : ∀ v : Fin 216, ((((((0 : Int32) <<< ((4 : Int32) &&& 31)) ||| (nI v.val - nI v.val / 6 * 6)) <<< ((4 : Int32) &&& 31)) ||| (nI v.val / 6 - nI v.val / 6 / 6 * 6)) <<< ((4 : Int32) &&& 31)) ||| (nI v.val / 6 / 6 - nI v.val / 6 / 6 / 6 * 6) = q_rv 3 v.val ∧ ¬ q_rv 3 v.val = -1 := by decide +kernel
    have k := k ⟨v, hv⟩
    rw [ro_s, if_neg (by decide), ro_s, if_neg (by decide), ro_s, if_neg (by decide), ro_s, if_pos (by decide)]
    exact ⟨by rw [k.1], k.2⟩
theorem e_rowC {S M : St} (h2 : R2 S M) (h3 : R3 S M) (row : Int32) {n : Nat} (h1 : 1 ≤ n) (hn : n ≤ 6) :
    (∃ r S1 q, f_X6_tell S row (nI n) = some (r, S1) ∧ QX S S1 ∧ (¬ r = 0 ∨ f_X6_hasTwice S1 = some (1, S1)) ∧ f_X11_refuses M row (nI n) = some (q, M) ∧ ¬ q = 0) ∨
    ∃ S1, f_X6_tell S row (nI n) = some (0, S1) ∧ QX S S1 ∧ f_X6_hasTwice S1 = some (0, S1) ∧ Rw S1 M n (q_st row) ∧ S1.1 4 5 = -1 ∧ f_X11_refuses M row (nI n) = some (0, M) := by
  rcases e_tell h2 h3 row h1 hn with ⟨⟨t, ht, hno⟩, S', e, hK⟩ | ⟨S', e, hK, hRw, h5⟩
  · rcases e_refuses h3 row h1 hn with ⟨-, e2⟩ | ⟨hok, -⟩
    · exact Or.inl ⟨-2, S', -2, e, hK, Or.inl m2n, e2, m2n⟩
    · exact absurd (hok t ht) hno
  · rcases e_refuses h3 row h1 hn with ⟨⟨t, ht, hno⟩, -⟩ | ⟨-, ⟨w, e2⟩ | ⟨w, e2⟩⟩
    · exact absurd (hRw.2.2 t ht).1 hno
    · rcases e_twice hRw with ⟨-, e3⟩ | ⟨w3, -⟩
      · exact Or.inl ⟨0, S', -3, e, hK, Or.inr e3, e2, m3n⟩
      · exact absurd w w3
    · rcases e_twice hRw with ⟨w3, -⟩ | ⟨-, e3⟩
      · exact absurd w3 w
      · exact Or.inr ⟨S', e, hK, e3, hRw, h5, e2⟩
theorem bo_l {S0 M0 : St} (h2 : R2 S0 M0) (h3 : R3 S0 M0) {n : Nat} (n1 : 1 ≤ n) (n3 : n ≤ 3) (w : Int32) : ∀ (j fu fv v : Nat) (S M : St) (x2 x3 x4 y3 y4 : Int32) (x5 x7 y5 y7 : Int64), v + j = q_N n → j < fu → j < fv → QX S0 S → QM M0 M → ((x2 = 0 ∧ y3 = -1 ∧ y4 = -1) ∨ (x2 = 1 ∧ y3 = x3 ∧ y4 = x4 ∧ y5 = x5 ∧ y7 = x7 ∧ ¬ x3 = -1)) →
    ∃ r S' M', l_X2_findBoth_41 fu S (nI n) x2 x3 x4 x5 x7 (nI (q_N n)) (nI v) = some (r, S') ∧ QX S0 S' ∧ l_X11_both_64 fv M (nI n) w y3 y4 y5 y7 (nI (q_N n)) (nI v) = some (if r = 0 then -1 else if w = 0 then S'.1 6 4 else S'.1 6 3, M') ∧ QM M0 M' := by
  have hN : q_N n ≤ 216 := by unfold q_N; repeat (first | omega | split)
  intro j
  induction j with
  | zero =>
    intro fu fv v S M x2 x3 x4 y3 y4 x5 x7 y5 y7 hk hf hg hK hL hI
    obtain ⟨fu, rfl⟩ : ∃ q, fu = q + 1 := ⟨fu - 1, by omega⟩
    obtain ⟨fv, rfl⟩ : ∃ q, fv = q + 1 := ⟨fv - 1, by omega⟩
    have hv : v = q_N n := by omega
    subst hv
    show ∃ r S' M', f_X2_findBoth_41 (l_X2_findBoth_41 fu) S (nI n) x2 x3 x4 x5 x7 _ _ = _ ∧ _ ∧ f_X11_both_64 (l_X11_both_64 fv) M (nI n) w y3 y4 y5 y7 _ _ = _ ∧ _
    unfold f_X2_findBoth_41 f_X11_both_64
    have zx : zb x2 := by rcases hI with ⟨a, -⟩ | ⟨a, -⟩; exact Or.inl a; exact Or.inr a
    rw [if_pos (Int32.le_refl _), if_pos (Int32.le_refl _), bnd_e, bnd_e, chk_T zx]
    refine ⟨x2, _, M, rfl, hK.tr ((QX_I 6 4 _ (by omega)).tr (QX_I 6 3 _ (by omega))), ?_, hL⟩
    rw [si_nj (show (4 : Nat) ≠ 3 by omega), si_eq, si_eq]
    rcases hI with ⟨rfl, rfl, rfl⟩ | ⟨rfl, rfl, rfl, -⟩
    · rw [if_pos rfl, ite_self]
    · rw [if_neg one0]
      by_cases q : w = 0
      · rw [if_pos q, if_pos q]
      · rw [if_neg q, if_neg q]
  | succ j ih =>
    intro fu fv v S M x2 x3 x4 y3 y4 x5 x7 y5 y7 hk hf hg hK hL hI
    obtain ⟨fu, rfl⟩ : ∃ q, fu = q + 1 := ⟨fu - 1, by omega⟩
    obtain ⟨fv, rfl⟩ : ∃ q, fv = q + 1 := ⟨fv - 1, by omega⟩
    have r2 := R2_fr hK.fs hL.fm h2
    have r3 := R3_fr hK.fs hL.fm h3
    obtain ⟨ro, rm⟩ := e_rowOf S n1 n3 (show v < q_N n by omega)
    show ∃ r S' M', f_X2_findBoth_41 (l_X2_findBoth_41 fu) S (nI n) x2 x3 x4 x5 x7 _ _ = _ ∧ _ ∧ f_X11_both_64 (l_X11_both_64 fv) M (nI n) w y3 y4 y5 y7 _ _ = _ ∧ _
    -- the reference's row
    have eM : f_X11_both_64 (l_X11_both_64 fv) M (nI n) w y3 y4 y5 y7 (nI (q_N n)) (nI v) = f_X11_both_127 (l_X11_both_64 fv) M (nI n) w y3 y4 y5 y7 (nI (q_N n)) (nI v) (q_rv n v) := by
      unfold f_X11_both_64
      rw [if_neg (nI_ge (by omega) (by omega))]
      have : n = 1 ∨ n = 2 ∨ n = 3 := by omega
      rcases this with rfl | rfl | rfl
      · rw [if_pos (show nI 1 = 1 from rfl)]; rfl
      · rw [if_neg (show ¬ nI 2 = 1 by decide), if_pos (show nI 2 = 2 from rfl)]; rfl
      · rw [if_neg (show ¬ nI 3 = 1 by decide), if_neg (show ¬ nI 3 = 2 by decide)]; rfl
    rw [eM]
    unfold f_X2_findBoth_41 f_X2_findBoth_108 f_X2_findBoth_131 f_X11_both_127
    rw [if_neg (nI_ge (by omega) (by omega)), ro, obd2_s]
    rcases e_rowC r2 r3 (q_rv n v) n1 (show n ≤ 6 by omega) with ⟨r, S1, q, e1, k1, hno, e2, hq⟩ | ⟨S1, e1, k1, e3, hRw, h5, e2⟩
    · rw [e1, obd2_s, e2, obd2_s, if_neg hq]
      unfold f_X11_both_246
      have hI := ih fu fv (v + 1) S1 M x2 x3 x4 y3 y4 x5 x7 y5 y7 (by omega) (by omega) (by omega) (hK.tr k1) hL hI
      simp only [bnd_e, nI_1]
      by_cases z : r = 0
      · rw [if_pos z]
        rcases hno with h | h
        · exact absurd z h
        · rw [h, obd2_s, if_neg one0]; exact hI
      · rw [if_neg z]; exact hI
    · have hok : ∀ t, t < n → Okk M (q_st (q_rv n v) t) := fun t ht => (hRw.2.2 t ht).1
      have s2 := R2_fr k1.fs (FM.rf M) r2
      have s3 := R3_fr k1.fs (FM.rf M) r3
      obtain ⟨S2, b, e4, t6, c3, c5, c6, bv⟩ := e_fb s2 s3 hRw (Or.inl ⟨h5, rfl⟩)
      obtain ⟨M1, e5, q1, y1⟩ := e_lay r3 (q_rv n v) hRw.1 hok
      obtain ⟨u, M2, e6, q2, y2, bu⟩ := e_bb r2 r3 hRw.1 hok q1 y1
      have hbu := bv.un bu
      subst hbu
      have hb := bv.1
      obtain ⟨M3, e7, q3, y3'⟩ := e_mean r3 hRw.1 hok q2 y2 (show b ≤ 255 by omega) 0
      have kS := hK.tr (k1.tr t6.k)
      have kM := hL.tr q3
      rw [e1, obd2_s, if_pos rfl, e3, obd2_s, if_pos rfl, e4, obd_S, e2, obd2_s, if_pos rfl, e5, obd_S, e6, obd2_s, e7, obd2_s, c3, c5, c6, y3'.2.2.2]
      unfold f_X11_both_183 f_X11_both_188 f_X11_both_201 f_X11_both_214 f_X11_both_228 f_X11_both_244 f_X11_both_246
      rw [y3'.2.2.2]
      simp only [bnd_e, nI_1]
      have new := ih fu fv (v + 1) S2 M3 1 (q_rv n v) (nI b) (q_rv n v) (nI b) (q_mn M (q_lk M) (q_st (q_rv n v)) n b) (lN (q_A M (q_lk M) (q_st (q_rv n v)) n 0)) (q_mn M (q_lk M) (q_st (q_rv n v)) n b) (lN (q_A M (q_lk M) (q_st (q_rv n v)) n 0)) (by omega) (by omega) (by omega) kS kM (Or.inr ⟨rfl, rfl, rfl, rfl, rfl, rm⟩)
      rcases hI with ⟨rfl, rfl, rfl⟩ | ⟨rfl, rfl, rfl, rfl, rfl, hx⟩
      · rw [if_pos rfl, if_pos rfl, if_neg one0, if_neg one0, if_neg one0, if_neg one0]
        exact new
      · rw [if_neg one0, if_neg hx]
        by_cases l : lg_cmp (q_mn M (q_lk M) (q_st (q_rv n v)) n b * y7) (y5 * lN (q_A M (q_lk M) (q_st (q_rv n v)) n 0)) ≤ 0
        · rw [if_pos l, if_pos l]
          simp only [if_true]
          exact ih fu fv (v + 1) S2 M3 1 y3 y4 y3 y4 y5 y7 y5 y7 (by omega) (by omega) (by omega) kS kM (Or.inr ⟨rfl, rfl, rfl, rfl, rfl, hx⟩)
        · rw [if_neg l, if_neg l, if_neg one0, if_neg one0, if_neg one0, if_neg one0]
          exact new
theorem st_both : PS_both RI := by
  intro S M h x w
  have hR := h
  obtain ⟨-, h2, h3, -⟩ := h
  unfold f_X10_both f_X11_both
  rw [e_within1 S x 3 3 rfl, e_in1 M x 3 3 rfl, obd2_s, obd2_s]
  by_cases hb : inB1 x 3 = true
  · obtain ⟨n, n1, n3, -, rfl⟩ := inB1_nI hb
    rw [if_pos hb, if_neg one0, if_neg one0, e_within S w 1 1 rfl, e_in M w 1 1 rfl, obd2_s, obd2_s]
    by_cases hw : inB w 1 = true
    · rw [if_pos hw, if_neg one0, if_neg one0]
      have hN : q_N n ≤ 216 := by unfold q_N; repeat (first | omega | split)
      obtain ⟨r, S', M', e1, k1, e2, k2⟩ := bo_l h2 h3 n1 n3 w (q_N n) FU FU 0 S M 0 0 0 (-1) (-1) 0 1 0 1 (Nat.zero_add _) (by rw [FU_eq]; omega) (by rw [FU_eq]; omega) (QX.rf S) (QM.rf M) (Or.inl ⟨rfl, rfl, rfl⟩)
      have eX : f_X2_findBoth S (nI n) = some (r, S') := by
        have st : ∀ fu x9 x10, l_X2_findBoth_19 (fu + 1) S (nI n) 0 0 0 0 1 x9 x10 = if nI n ≤ x10 then l_X2_findBoth_41 FU S (nI n) 0 0 0 0 1 x9 0 else l_X2_findBoth_19 fu S (nI n) 0 0 0 0 1 (x9 * 6) (x10 + 1) := fun _ _ _ => rfl
        unfold f_X2_findBoth
        rw [show l_X2_findBoth_19 FU = l_X2_findBoth_19 (4996 + 1 + 1 + 1 + 1) from rfl]
        have : n = 1 ∨ n = 2 ∨ n = 3 := by omega
        rcases this with rfl | rfl | rfl
        · rw [st, if_neg (by decide), st, if_pos (by decide)]; exact e1
        · rw [st, if_neg (by decide), st, if_neg (by decide), st, if_pos (by decide)]; exact e1
        · rw [st, if_neg (by decide), st, if_neg (by decide), st, if_neg (by decide), st, if_pos (by decide)]; exact e1
      have eR : (if nI n = 1 then f_X11_both_59 M (nI n) w (-1) (-1) (0) (1) 6 else if nI n = 2 then f_X11_both_59 M (nI n) w (-1) (-1) (0) (1) 36 else f_X11_both_59 M (nI n) w (-1) (-1) (0) (1) 216) = some (if r = 0 then -1 else if w = 0 then S'.1 6 4 else S'.1 6 3, M') := by
        have : n = 1 ∨ n = 2 ∨ n = 3 := by omega
        rcases this with rfl | rfl | rfl
        · rw [if_pos (show nI 1 = 1 from rfl)]; exact e2
        · rw [if_neg (show ¬ nI 2 = 1 by decide), if_pos (show nI 2 = 2 from rfl)]; exact e2
        · rw [if_neg (show ¬ nI 3 = 1 by decide), if_neg (show ¬ nI 3 = 2 by decide)]; exact e2
      unfold f_X2_row f_X2_bag
      rw [eX, obd2_s, eR, obd2_s, obd2_s]
      refine ⟨_, S', M', ?_, rfl, RI_K k1 k2 hR⟩
      by_cases q : r = 0
      · rw [if_pos q, if_pos q]
      · rw [if_neg q, if_neg q]
        by_cases q2 : w = 0
        · rw [if_pos q2, if_pos q2]
        · rw [if_neg q2, if_neg q2]
    · rw [if_neg hw, if_pos rfl, if_pos rfl]
      exact ⟨_, _, _, rfl, rfl, hR⟩
  · rw [if_neg hb, if_pos rfl, if_pos rfl]
    exact ⟨_, _, _, rfl, rfl, hR⟩
