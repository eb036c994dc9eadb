theorem t0 : (0 : Int32).toInt = 0 := by decide
theorem t1 : (1 : Int32).toInt = 1 := by decide
theorem t2 : (2 : Int32).toInt = 2 := by decide
theorem t3 : (3 : Int32).toInt = 3 := by decide
theorem t4 : (4 : Int32).toInt = 4 := by decide
theorem t5 : (5 : Int32).toInt = 5 := by decide
theorem t6 : (6 : Int32).toInt = 6 := by decide
theorem t7 : (7 : Int32).toInt = 7 := by decide
theorem t8 : (8 : Int32).toInt = 8 := by decide
theorem t9 : (9 : Int32).toInt = 9 := by decide
theorem t10 : (10 : Int32).toInt = 10 := by decide
theorem t20 : (20 : Int32).toInt = 20 := by decide
theorem t30 : (30 : Int32).toInt = 30 := by decide
theorem t39 : (39 : Int32).toInt = 39 := by decide
theorem t40 : (40 : Int32).toInt = 40 := by decide
theorem t48 : (48 : Int32).toInt = 48 := by decide
theorem t49 : (49 : Int32).toInt = 49 := by decide
theorem t50 : (50 : Int32).toInt = 50 := by decide
theorem t54 : (54 : Int32).toInt = 54 := by decide
theorem t59 : (59 : Int32).toInt = 59 := by decide
theorem t60 : (60 : Int32).toInt = 60 := by decide
theorem t99 : (99 : Int32).toInt = 99 := by decide
theorem t100 : (100 : Int32).toInt = 100 := by decide
theorem t105 : (105 : Int32).toInt = 105 := by decide
theorem t115 : (115 : Int32).toInt = 115 := by decide
theorem t119 : (119 : Int32).toInt = 119 := by decide
theorem t159 : (159 : Int32).toInt = 159 := by decide
theorem t160 : (160 : Int32).toInt = 160 := by decide
theorem t343 : (343 : Int32).toInt = 343 := by decide
theorem t399 : (399 : Int32).toInt = 399 := by decide
theorem t400 : (400 : Int32).toInt = 400 := by decide
theorem tm1 : (-1 : Int32).toInt = -1 := by decide
theorem tm2 : (-2 : Int32).toInt = -2 := by decide
theorem tm9 : (-9 : Int32).toInt = -9 := by decide
theorem patience_ev (G : GG) (s m : SS) (x : Int32) (h : RCf s m) :
    (∃ r, CT_patience G s x = some (r, s) ∧ M_patience m x = some (r, m)) ∨ (0 ≤ x ∧ x ≤ 30 ∧ ¬ m 0 5 ≤ 0 ∧ CT_patience G s x = some (s 1 4, fgt (up2 s 1 4 x)) ∧ M_patience m x = some (m 0 9, up2 m 0 9 x)) := by
  have hc := h.none
  unfold CT_patience M_patience CT_patience_10
  simp only [within_ev, noCafe_ev, isCafe_ev, forget_ev, bnd_s, bnd0_s]
  by_cases h1 : x < 0
  · left; refine ⟨-2, ?_⟩; simp [h1]
  · by_cases h2 : x ≤ 30
    · have h3 : ¬ 30 < x := by rw [i_lt]; rw [i_le] at h2; omega
      by_cases h4 : s 1 2 = 0
      · left; refine ⟨-3, ?_⟩; simp [h1, h2, h3, h4, hc.mp h4]
      · have h5 : ¬ m 0 5 ≤ 0 := fun q => h4 (hc.mpr q)
        right; refine ⟨by rw [i_le]; rw [i_lt] at h1; omega, h2, h5, ?_⟩; simp [h1, h2, h3, h4, h5]
    · have h3 : 30 < x := by rw [i_lt]; rw [i_le] at h2; omega
      left; refine ⟨-2, ?_⟩; simp [h1, h2, h3]
theorem joining_ev (G : GG) (s m : SS) (x : Int32) (hx : x = 0 ∨ x = 1) (h : RCf s m) :
    (∃ r, CT_joining G s x = some (r, s) ∧ M_joining m x = some (r, m)) ∨ (¬ m 0 5 ≤ 0 ∧ CT_joining G s x = some (0, s) ∧ M_joining m x = some (0, up2 m 0 10 x) ∧ m 0 10 = x) ∨ (¬ m 0 5 ≤ 0 ∧ CT_joining G s x = some (1, fgt (up2 s 1 6 x)) ∧ M_joining m x = some (1, up2 m 0 10 x)) := by
  have hc := h.none
  have hj : s 1 6 = m 0 10 := by obtain ⟨n, -, -, -, -, -, -, h6, -⟩ := h; exact h6.1
  have hn : nb x = true := by rcases hx with e | e <;> rw [e] <;> decide
  unfold CT_joining M_joining M_joining_30
  simp only [noCafe_ev, isCafe_ev, forget_ev, bnd_s, bnd0_s, hj, hn]
  by_cases h4 : s 1 2 = 0
  · left; refine ⟨-3, ?_⟩; simp [h4, hc.mp h4]
  · have h5 : ¬ m 0 5 ≤ 0 := fun q => h4 (hc.mpr q)
    by_cases h6 : m 0 10 = x
    · right; left; simp [h4, h5, h6]
    · right; right; simp [h4, h5, h6]
theorem rain_ev (G : GG) (s m : SS) (x : Int32) (h : RCf s m) :
    (∃ r, CT_rain G s x = some (r, s) ∧ M_rain m x = some (r, m)) ∨ ((x = -9 ∨ 0 ≤ x ∧ x < 400) ∧ ¬ m 0 5 ≤ 0 ∧ CT_rain G s x = some (1, fgt (up2 s 1 5 x)) ∧ M_rain m x = some (1, up2 m 0 11 x)) := by
  have hc := h.none
  unfold CT_rain M_rain CT_rain_20 CT_rain_17 M_rain_20
  simp only [within_ev, noCafe_ev, isCafe_ev, forget_ev, bnd_s, bnd0_s]
  have key : x = -9 ∨ 0 ≤ x ∧ x < 400 ∨ ¬ x = -9 ∧ x < 0 ∨ ¬ x = -9 ∧ ¬ x < 0 ∧ ¬ x < 400 := by
    by_cases a : x = -9
    · exact Or.inl a
    · by_cases b : x < 0
      · exact Or.inr (Or.inr (Or.inl ⟨a, b⟩))
      · by_cases c : x < 400
        · exact Or.inr (Or.inl ⟨by rw [i_le]; rw [i_lt] at b; omega, c⟩)
        · exact Or.inr (Or.inr (Or.inr ⟨a, b, c⟩))
  rcases key with a | ⟨a, b⟩ | ⟨a, b⟩ | ⟨a, b, c⟩
  · by_cases h4 : s 1 2 = 0
    · left; refine ⟨-3, ?_⟩; simp [a, h4, hc.mp h4]
    · have h5 : ¬ m 0 5 ≤ 0 := fun q => h4 (hc.mpr q)
      right; refine ⟨Or.inl a, h5, ?_⟩; simp [a, h4, h5]
  · have e1 : ¬ x = -9 := by intro q; rw [q] at a; exact absurd a (by decide)
    have e2 : ¬ x < 0 := by rw [i_lt]; rw [i_le] at a; omega
    have e3 : ¬ 399 < x := by rw [i_lt, t400] at b; rw [i_lt, t399]; omega
    by_cases h4 : s 1 2 = 0
    · left; refine ⟨-3, ?_⟩; simp [e1, e2, e3, b, h4, hc.mp h4]
    · have h5 : ¬ m 0 5 ≤ 0 := fun q => h4 (hc.mpr q)
      right; refine ⟨Or.inr ⟨a, b⟩, h5, ?_⟩; simp [e1, e2, e3, b, h4, h5]
  · left; refine ⟨-2, ?_⟩; simp [a, b]
  · have e3 : 399 < x := by rw [i_lt, t400] at c; rw [i_lt, t399]; omega
    left; refine ⟨-2, ?_⟩; simp [a, b, c, e3]
theorem ofTable_ev (G : GG) (s m : SS) (x y : Int32) (h : RCf s m) : ∃ r, CT_ofTable G s x y = some (r, s) ∧ M_ofTable m x y = some (r, m) := by
  obtain ⟨n, hn, h1, h2, h3, -⟩ := h
  unfold CT_ofTable M_ofTable CT_ofTable_15 CT_ofTable_26 CT_ofTable_54 M_ofTable_12 M_ofTable_43
  rw [h1, h2]
  by_cases a : x < 0
  · exact ⟨-1, by simp [a]⟩
  · by_cases b : x < nI n
    · have hb : inb x 6 = true := by
        rw [inb_iff]; rw [i_lt, nI_T (by omega)] at b; rw [i_lt, Int32.toInt_zero] at a; omega
      have hj : x.toNatClampNeg < n := by
        rw [i_cl]; rw [i_lt, nI_T (by omega)] at b; rw [i_lt, Int32.toInt_zero] at a; omega
      obtain ⟨e1, e2, -⟩ := h3 _ hj
      by_cases c : y = 0
      · exact ⟨m 6 x.toNatClampNeg, by simp [a, b, c, hb, e1]⟩
      · by_cases d : y = 1
        · exact ⟨m 7 x.toNatClampNeg, by simp [a, b, d, hb, e2]⟩
        · have hy : y < 0 ∨ ¬ y ≤ 1 := by
            by_cases p : y < 0
            · exact Or.inl p
            · right; rw [i_le]; rw [i_lt] at p; rw [i_eq] at c d
              rw [t0] at p c
              rw [t1] at d ⊢
              omega
          refine ⟨-2, ?_⟩
          rcases hy with p | p
          · simp [a, b, c, d, p]
          · by_cases p2 : y < 0 <;> simp [a, b, c, d, p, p2]
    · exact ⟨-1, by simp [a, b]⟩
/-! groups -/
def RGrp (G : GG) (cn mcn : Int32) (k z c y w u : Nat → Int32) : Prop :=
  ∃ n : Nat, n ≤ 8 ∧ cn = nI n ∧ mcn = nI n ∧ ∀ j, j < n → ∃ a, gr G j = some a ∧ gm G a = true ∧ gk G a ≤ 2 ∧ k j = nI (gk G a) ∧ gv G a 0 = nI j ∧ gv G a 1 = z j ∧ gv G a 2 = c j ∧ gv G a 3 = y j ∧ gv G a 4 = w j ∧ gv G a 5 = u j ∧
    (1 ≤ (z j).toInt ∧ (z j).toInt ≤ 6) ∧ (0 ≤ (c j).toInt ∧ (c j).toInt ≤ 99) ∧ (1 ≤ (y j).toInt ∧ (y j).toInt ≤ 60) ∧ (0 ≤ (w j).toInt ∧ (w j).toInt ≤ 2) ∧ (0 ≤ (u j).toInt ∧ (u j).toInt ≤ 6)
abbrev RGr (G : GG) (s m : SS) : Prop := RGrp G (s 7 1) (m 0 16) (m 17) (m 18) (m 19) (m 20) (m 21) (m 22)
theorem grp_cases {G : GG} {s m : SS} (x : Int32) (h : RGr G s m) :
    (CR_numbered G s x = some (none, s) ∧ M_isGroup m x = some (0, m)) ∨ ∃ j a, x = nI j ∧ j < 8 ∧ inb x 8 = true ∧ x.toNatClampNeg = j ∧ gr G j = some a ∧ gm G a = true ∧ CR_numbered G s x = some (some a, s) ∧ M_isGroup m x = some (1, m) ∧ gk G a ≤ 2 ∧ m 17 j = nI (gk G a) ∧ gv G a 0 = nI j ∧ gv G a 1 = m 18 j ∧ gv G a 2 = m 19 j ∧ gv G a 3 = m 20 j ∧ gv G a 4 = m 21 j ∧ gv G a 5 = m 22 j := by
  obtain ⟨n, hn, h1, h2, h3⟩ := h
  unfold CR_numbered M_isGroup CR_numbered_12 CR_numbered_22 M_isGroup_16 M_isGroup_17
  rw [h1, h2]
  by_cases a : x < 0
  · left; simp [a, nb0]
  · by_cases b : x < nI n
    · right
      have c : ¬ nI n ≤ x := by rw [i_le]; rw [i_lt] at b; omega
      rw [i_lt, Int32.toInt_zero] at a
      have b' := b
      rw [i_lt, nI_T (by omega)] at b'
      have hx := i_nat (x := x) (by omega)
      have hj : x.toNatClampNeg < n := by rw [i_cl]; omega
      obtain ⟨p, q1, q2, q3, q4, q5, q6, q7, q8, q9, q10, -⟩ := h3 _ hj
      have hb : inb x 8 = true := by rw [inb_iff]; omega
      have a' : ¬ x < 0 := by rw [i_lt, Int32.toInt_zero]; exact a
      refine ⟨x.toNatClampNeg, p, hx, by omega, hb, rfl, q1, q2, ?_, ?_, q3, q4, q5, q6, q7, q8, q9, q10⟩
      · simp [a', b, hb, q1, gld]
      · simp [a', c, nb1]
    · left
      have c : nI n ≤ x := by rw [i_le]; rw [i_lt] at b; omega
      simp [a, b, c, nb0]
theorem gk_c {k : Nat} (h : k ≤ 2) : k = 0 ∨ k = 1 ∨ k = 2 := by omega
theorem nIk0 : nI 0 = 0 := by decide
theorem nIk1 : nI 1 = 1 := by decide
theorem nIk2 : nI 2 = 2 := by decide
theorem serve_ev (G : GG) (s m : SS) (x : Int32) (h : RGr G s m) : ∃ r v, (CT_serve G s x = some (r, s) ∧ M_serve m x = some (r, m)) ∨ (CT_serve G s x = some (r, up2 s 18 0 (31 * s 18 0 + v)) ∧ M_serve m x = some (r, up2 m 0 1 (31 * m 0 1 + v))) := by
  rcases grp_cases x h with ⟨h1, h2⟩ | ⟨j, a, hx, hj8, hb, hcl, hg, hm, h1, h2, h3, h4, h5, -⟩
  · refine ⟨-1, 0, Or.inl ?_⟩
    unfold CT_serve M_serve CT_serve_25
    simp [h1, h2, bnd_s, oc]
  · unfold CT_serve M_serve CT_serve_25 M_serve_26 M_serve_45 Cv_served CG_served CL_served CQ_mark M_begins
    simp only [h1, h2, bnd_s, bnd0_s, oc, hm, hb, hcl]
    rcases gk_c h3 with e | e | e
    · refine ⟨x, 4, Or.inr ?_⟩; simp [e, gcls, h4, nIk0, up2_el, hb, hx, h5, bnd_s]
    · refine ⟨x, 4, Or.inr ?_⟩; simp [e, gcls, h4, nIk1, up2_el, hb, hx, h5, bnd_s]
    · refine ⟨50, 5, Or.inr ?_⟩; simp [e, gcls, h4, nIk2, up2_el, hb, bnd_s]
theorem tell_ev (G : GG) (s m : SS) (x : Int32) (h : RGr G s m) (ht : s 18 0 = m 0 1) : ∃ r v, (CT_tell G s x = some (r, s) ∧ M_tell m x = some (r, m)) ∨ ∃ s' m', CT_tell G s x = some (r, s') ∧ M_tell m x = some (r, m') ∧ s' = ups s 18 (upd (s 18) 0 v) ∧ m' = up2 m 0 1 v := by
  rcases grp_cases x h with ⟨h1, h2⟩ | ⟨j, a, hx, hj8, hb, hcl, hg, hm, h1, h2, h3, h4, h5, h6, -⟩
  · refine ⟨-1, 0, Or.inl ?_⟩
    unfold CT_tell M_tell CT_tell_25
    simp [h1, h2, bnd_s, oc]
  · have uu : ∀ (q : SS) (j i : Nat) (a b : Int32), up2 (up2 q j i a) j i b = up2 q j i b := by
      intro q j i a b
      funext c d
      simp only [up2_el]
      by_cases e : c = j ∧ d = i <;> simp [e]
    unfold CT_tell M_tell CT_tell_25 Cv_telling CL_telling CY_telling CG_telling CG_guestBody CQ_mark M_begins
    simp only [h1, h2, bnd_s, bnd0_s, oc, hm, hb, hcl]
    rcases gk_c h3 with e | e | e
    · refine ⟨m 18 j, 31 * m 0 1 + 1, Or.inr ⟨_, _, ?_, ?_, rfl, rfl⟩⟩
      · simp [e, gcls, h6, ht, bnd_s]; rfl
      · simp [h4, e, nIk0, up2_at]
    · refine ⟨m 18 j + 100, 31 * (31 * m 0 1 + 2) + 1, Or.inr ⟨_, _, ?_, ?_, rfl, rfl⟩⟩
      · simp [e, gcls, h6, ht, bnd_s, up2_at, uu]; rfl
      · simp [h4, e, nIk1, up2_at, uu]
    · refine ⟨2 * m 18 j + 100, 31 * (31 * (31 * (31 * m 0 1 + 3) + 2) + 1) + 1, Or.inr ⟨_, _, ?_, ?_, rfl, rfl⟩⟩
      · simp [e, gcls, h6, ht, bnd_s, up2_at, uu]
        refine ⟨?_, rfl⟩
        rw [show (2 : Int32) = 1 + 1 from by decide, Int32.add_mul, Int32.one_mul, Int32.add_assoc, Int32.add_comm 100, ← Int32.add_assoc]
      · simp [h4, e, nIk2, up2_at, uu]
theorem noKind_ev (x : Int32) : CT_isNoKind x = some (if x < 0 then 1 else if x ≤ 2 then 0 else 1) := by
  unfold CT_isNoKind CT_isNoKind_9 CT_isNoKind_14
  by_cases a : x < 0 <;> by_cases b : x ≤ 2 <;> simp [a, b, nb0, nb1]
theorem noSort_ev (x : Int32) : CT_isNoSort x = some (if x < 0 then 1 else if x ≤ 2 then 0 else 1) := by
  unfold CT_isNoSort CT_isNoSort_9 CT_isNoSort_14
  by_cases a : x < 0 <;> by_cases b : x ≤ 2 <;> simp [a, b, nb0, nb1]
theorem isSort_ev (x : Int32) : M_isSort x = some (if x < 0 then 0 else if 2 < x then 0 else 1) := by
  unfold M_isSort
  rw [within_ev, bnd0_s]
  by_cases a : x < 0 <;> by_cases b : 2 < x <;> simp [a, b, nb0, nb1]
theorem noSheet_ev (x : Int32) : CT_isNoSheet x = some (if x < 0 then 1 else if x < 4 then 0 else 1) := by
  unfold CT_isNoSheet CT_isNoSheet_9 CT_isNoSheet_14
  by_cases a : x < 0 <;> by_cases b : x < 4 <;> simp [a, b, nb0, nb1]
theorem isSheet_ev (x : Int32) : M_isSheet x = some (if x < 0 then 0 else if 3 < x then 0 else 1) := by
  unfold M_isSheet
  rw [within_ev, bnd0_s]
  by_cases a : x < 0 <;> by_cases b : 3 < x <;> simp [a, b, nb0, nb1]
theorem as_ev (G : GG) (s m : SS) (x y : Int32) (h : RGr G s m) : ∃ r v, CT_as G s x y = some (r, up2 s 0 10 v) ∧ M_as m x y = some (r, up2 m 0 0 v) := by
  have uu : ∀ (q : SS) (j i : Nat) (a b : Int32), up2 (up2 q j i a) j i b = up2 q j i b := by
    intro q j i a b
    funext c d
    simp only [up2_el]
    by_cases e : c = j ∧ d = i <;> simp [e]
  have h' : RGr G (up2 s 0 10 0) (up2 m 0 0 0) := h
  rcases grp_cases x h' with ⟨h1, h2⟩ | ⟨j, a, hx, hj8, hb, hcl, hg, hm, h1, h2, h3, h4, h5, h6, -⟩
  · refine ⟨-1, 0, ?_⟩
    unfold CT_as M_as
    simp [h1, h2, bnd_s, oc]
  · unfold CT_as M_as CT_as_56 CT_as_60 CT_as_61 CT_as_77 M_as_46 CT_failed M_fails
    simp only [h1, h2, bnd_s, bnd0_s, oc, hm, hb, hcl, noKind_ev, within_ev]
    by_cases c1 : y < 0
    · exact ⟨-2, 0, by simp [c1]⟩
    · by_cases c2 : y ≤ 2
      · have c3 : ¬ 2 < y := by rw [i_lt]; rw [i_le] at c2; omega
        rw [i_lt, t0] at c1
        rw [i_le, t2] at c2
        have hy : y = 0 ∨ y = 1 ∨ y = 2 := by simp only [i_eq, t0, t1, t2]; omega
        rw [h4]
        rcases hy with e | e | e <;> rcases gk_c h3 with f | f | f <;> rw [e, f] <;> first | exact ⟨1, 0, rfl, rfl⟩ | (refine ⟨-12, 2, ?_, ?_⟩ <;> simp [bnd_s, uu, nIk0, nIk1, nIk2] <;> decide)
      · have c3 : 2 < y := by rw [i_lt]; rw [i_le] at c2; omega
        exact ⟨-2, 0, by simp [c1, c2, c3]⟩
