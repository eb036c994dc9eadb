theorem staysC {G : GG} {a : Nat} (s : SS) (h : gk G a ≤ 2) (b : Int32) : Cv_staysFor G a s b = some (if gk G a = 0 then gv G a 3 else if gk G a = 1 then 2 * gv G a 3 else if b = 0 then 2 * gv G a 3 else 2 * gv G a 3 + 2 * gv G a 3 / 9, s) := by
  unfold Cv_staysFor CG_staysFor CL_staysFor CY_staysFor CL_staysFor_20
  rcases gk_c h with e | e | e
  · simp [e, gcls]
  · simp [e, gcls]
  · by_cases q : b = 0
    · simp [e, gcls, q, bnd_s]
    · simp [e, gcls, q, bnd_s]
theorem coinC {G : GG} {a : Nat} (s : SS) (h : gk G a ≤ 2) (x : Int32) : Cv_coinFor G a s x = some (gv G a 1 * (5 + x / (if gk G a = 0 then 10 else 20)), s) := by
  unfold Cv_coinFor CG_coinFor CY_coinFor
  rcases gk_c h with e | e | e <;> simp [e, gcls]
theorem k_le0 {k : Nat} (h : k ≤ 2) : nI k ≤ 0 ↔ k = 0 := by rw [i_le, nI_T (by omega), t0]; omega
theorem staysM {m : SS} {j k : Nat} (hj : j < 8) (hk : k ≤ 2) (h : m 17 j = nI k) : M_stays m (nI j) = some (if k = 0 then m 20 j else 2 * m 20 j, m) := by
  unfold M_stays M_stays_26
  rw [if_pos (inb_nI hj (by omega)), if_pos (inb_nI hj (by omega)), if_pos (inb_nI hj (by omega)), cl_nI (by omega), h]
  by_cases e : k = 0
  · rw [if_pos ((k_le0 hk).mpr e), if_pos e]
  · rw [if_neg (fun q => e ((k_le0 hk).mp q)), if_neg e]
theorem coinM {m : SS} {j k : Nat} (hj : j < 8) (hk : k ≤ 2) (h : m 17 j = nI k) (x : Int32) : M_coinOf m (nI j) x = some (m 18 j * (5 + x / (if k = 0 then 10 else 20)), m) := by
  unfold M_coinOf M_coinOf_24
  rw [if_pos (inb_nI hj (by omega)), if_pos (inb_nI hj (by omega)), cl_nI (by omega), h]
  by_cases e : k = 0
  · rw [if_pos ((k_le0 hk).mpr e), if_pos (by decide), if_pos e]
  · rw [if_neg (fun q => e ((k_le0 hk).mp q)), if_pos (by decide), if_neg e]
theorem ofGroup_ev (G : GG) (s m : SS) (x y : Int32) (h : RGr G s m) : ∃ r, CT_ofGroup G s x y = some (r, s) ∧ M_ofGroup m x y = some (r, m) := by
  rcases grp_cases x h with ⟨h1, h2⟩ | ⟨j, a, hx, hj8, hb, hcl, hg, hm, h1, h2, h3, h4, h5, h6, h7, h8, h9, h10⟩
  · refine ⟨-1, ?_⟩
    unfold CT_ofGroup M_ofGroup
    simp [h1, h2, bnd_s, oc]
  · have hst := staysM hj8 h3 h4
    rw [← hx] at hst
    unfold CT_ofGroup M_ofGroup
    simp only [h1, h2, bnd_s, oc, hm, hb, hcl, staysC s h3, hst]
    have kn : Cv_kindNumber G a s = some (nI (gk G a), s) := by
      unfold Cv_kindNumber CG_kindNumber CY_kindNumber CL_kindNumber
      rcases gk_c h3 with e | e | e <;> simp [e, gcls, nIk0, nIk1, nIk2]
    simp only [kn, bnd_s]
    by_cases y0 : y = 0
    · exact ⟨nI (gk G a), by simp [y0], by simp [y0, h4]⟩
    by_cases y1 : y = 1
    · exact ⟨m 18 j, by simp [y1, h6], by simp [y1]⟩
    by_cases y2 : y = 2
    · exact ⟨m 19 j, by simp [y2, h7], by simp [y2]⟩
    by_cases y3 : y = 3
    · exact ⟨m 20 j, by simp [y3, h8], by simp [y3]⟩
    by_cases y4 : y = 4
    · exact ⟨m 21 j, by simp [y4, h9], by simp [y4]⟩
    by_cases y5 : y = 5
    · exact ⟨m 22 j, by simp [y5, h10], by simp [y5]⟩
    by_cases y6 : y = 6
    · refine ⟨if gk G a = 0 then m 20 j else 2 * m 20 j, ?_, by simp [y6]⟩
      rcases gk_c h3 with e | e | e <;> simp [y6, e, h8]
    · exact ⟨-2, by simp [y0, y1, y2, y3, y4, y5, y6], by simp [y0, y1, y2, y3, y4, y5, y6]⟩
theorem wi (x a b : Int32) : (if x < a then (0 : Int32) else if b < x then 0 else 1) = 0 ↔ x < a ∨ b < x := by
  by_cases p : x < a <;> by_cases q : b < x <;> simp [p, q]
theorem gadd_r {G : GG} {q i k : Nat} {v : Nat → Int32} : gr (gadd G q i k v) i = some q := by simp [gadd, va_up, gr]
theorem group_ev (G : GG) (s m : SS) (x1 x2 x3 x4 x5 x6 : Int32) (hC : RCf s m) (hR : RGr G s m) :
    (∃ r, CT_group G s x1 x2 x3 x4 x5 x6 = some (.inl (r, s)) ∧ M_group m x1 x2 x3 x4 x5 x6 = some (r, m)) ∨
    ∃ (n k : Nat) (m' : SS), n < 8 ∧ k ≤ 2 ∧ s 7 1 = nI n ∧ m 0 16 = nI n ∧ CT_group G s x1 x2 x3 x4 x5 x6 = some (.inr (k, nI n, s)) ∧ M_group m x1 x2 x3 x4 x5 x6 = some (nI n, m') ∧ m' = up2 (up2 (up2 (up2 (up2 (up2 (up2 m 17 n x1) 18 n x2) 19 n x3) 20 n x4) 21 n x5) 22 n x6) 0 16 (nI n + 1) ∧ x1 = nI k ∧
      (1 ≤ x2.toInt ∧ x2.toInt ≤ 6) ∧ (0 ≤ x3.toInt ∧ x3.toInt ≤ 99) ∧ (1 ≤ x4.toInt ∧ x4.toInt ≤ 60) ∧ (0 ≤ x5.toInt ∧ x5.toInt ≤ 2) ∧ (0 ≤ x6.toInt ∧ x6.toInt ≤ 6) := by
  have hc := hC.none
  obtain ⟨n, hn, g1, g2, -⟩ := hR
  unfold CT_group M_group CT_group_28 CT_group_67 M_group_61
  simp only [noKind_ev, within_ev, noCafe_ev, isCafe_ev, bnd0_s, bnd_s, wi]
  by_cases a1 : x1 < 0
  · exact Or.inl ⟨-2, by simp [a1], by simp [a1]⟩
  by_cases a2 : ¬ x1 ≤ 2
  · have : 2 < x1 := by rw [i_lt]; rw [i_le] at a2; omega
    exact Or.inl ⟨-2, by simp [a1, a2], by simp [a1, this]⟩
  have a2 := Classical.not_not.mp a2
  have a3 : ¬ 2 < x1 := by rw [i_lt]; rw [i_le] at a2; omega
  by_cases b1 : x2 < 1
  · exact Or.inl ⟨-2, by simp [a1, a2, b1], by simp [a1, a3, b1]⟩
  by_cases b2 : 6 < x2
  · exact Or.inl ⟨-2, by simp [a1, a2, b1, b2], by simp [a1, a3, b1, b2]⟩
  by_cases c1 : x3 < 0
  · exact Or.inl ⟨-2, by simp [a1, a2, b1, b2, c1], by simp [a1, a3, b1, b2, c1]⟩
  by_cases c2 : ¬ x3 ≤ 99
  · have : 99 < x3 := by rw [i_lt]; rw [i_le] at c2; omega
    exact Or.inl ⟨-2, by simp [a1, a2, b1, b2, c1, c2], by simp [a1, a3, b1, b2, c1, this]⟩
  have c2 := Classical.not_not.mp c2
  have c3 : ¬ 99 < x3 := by rw [i_lt]; rw [i_le] at c2; omega
  by_cases d1 : x4 < 1
  · exact Or.inl ⟨-2, by simp [a1, a2, b1, b2, c1, c2, d1], by simp [a1, a3, b1, b2, c1, c3, d1]⟩
  by_cases d2 : 60 < x4
  · exact Or.inl ⟨-2, by simp [a1, a2, b1, b2, c1, c2, d1, d2], by simp [a1, a3, b1, b2, c1, c3, d1, d2]⟩
  by_cases e1 : x5 < 0
  · exact Or.inl ⟨-2, by simp [a1, a2, b1, b2, c1, c2, d1, d2, e1], by simp [a1, a3, b1, b2, c1, c3, d1, d2, e1]⟩
  by_cases e2 : 2 < x5
  · exact Or.inl ⟨-2, by simp [a1, a2, b1, b2, c1, c2, d1, d2, e1, e2], by simp [a1, a3, b1, b2, c1, c3, d1, d2, e1, e2]⟩
  by_cases f1 : x6 < 0
  · exact Or.inl ⟨-2, by simp [a1, a2, b1, b2, c1, c2, d1, d2, e1, e2, f1], by simp [a1, a3, b1, b2, c1, c3, d1, d2, e1, e2, f1]⟩
  by_cases f2 : ¬ x6 ≤ 6
  · have : 6 < x6 := by rw [i_lt]; rw [i_le] at f2; omega
    exact Or.inl ⟨-2, by simp [a1, a2, b1, b2, c1, c2, d1, d2, e1, e2, f1, f2], by simp [a1, a3, b1, b2, c1, c3, d1, d2, e1, e2, f1, this]⟩
  have f2 := Classical.not_not.mp f2
  have f3 : ¬ 6 < x6 := by rw [i_lt]; rw [i_le] at f2; omega
  by_cases h4 : s 1 2 = 0
  · exact Or.inl ⟨-3, by simp [a1, a2, b1, b2, c1, c2, d1, d2, e1, e2, f1, f2, h4], by simp [a1, a3, b1, b2, c1, c3, d1, d2, e1, e2, f1, f3, hc.mp h4]⟩
  have h5 : ¬ m 0 5 ≤ 0 := fun q => h4 (hc.mpr q)
  by_cases h8 : n = 8
  · have q1 : ¬ s 7 1 < 8 := by rw [g1, h8]; decide
    have q2 : m 0 16 = 8 := by rw [g2, h8]; decide
    exact Or.inl ⟨-4, by simp [a1, a2, b1, b2, c1, c2, d1, d2, e1, e2, f1, f2, h4, q1], by simp [a1, a3, b1, b2, c1, c3, d1, d2, e1, e2, f1, f3, h5, q2]⟩
  have q1 : s 7 1 < 8 := by rw [g1, show (8 : Int32) = nI 8 from by decide, nI_lt_iff (by omega) (by omega)]; omega
  have q2 : ¬ m 0 16 = 8 := by rw [g2, show (8 : Int32) = nI 8 from by decide, nI_eq_iff (by omega) (by omega)]; exact h8
  have q3 : inb (m 0 16) 8 = true := by rw [g2]; exact inb_nI (by omega) (by omega)
  have q4 : (m 0 16).toNatClampNeg = n := by rw [g2, cl_nI (by omega)]
  have q5 : m 0 16 + 1 - 1 = nI n := by rw [g2, nI_s, nI_pred]
  rw [g1] at q1
  rw [g2] at q2 q3 q4 q5
  right
  rw [i_lt] at a1 b1 b2 c1 d1 d2 e1 e2 f1
  rw [i_le] at a2 c2 f2
  have hk : x1 = 0 ∨ x1 = 1 ∨ x1 = 2 := by simp only [i_eq, t0, t1, t2]; rw [t0] at a1; rw [t2] at a2; omega
  refine ⟨n, x1.toInt.toNat, _, by omega, by rw [t2] at a2; omega, g1, g2, ?_, ?_, rfl, i_nat (by rw [t0] at a1; omega), ?_⟩
  · rw [← i_lt] at a1 b1 b2 c1 d1 d2 e1 e2 f1
    rw [← i_le] at a2 c2 f2
    rcases hk with e | e | e <;> simp [e, b1, b2, c1, c2, d1, d2, e1, e2, f1, f2, h4, q1, g1]
    all_goals decide
  · rw [← i_lt] at a1 b1 b2 c1 d1 d2 e1 e2 f1
    rw [← i_le] at a2 c2 f2
    simp [a1, a3, b1, b2, c1, c3, d1, d2, e1, e2, f1, f3, h5, q2, q3, q4, q5, g2]
  · rw [t1] at b1 d1; rw [t6] at b2 f2; rw [t0] at c1 e1 f1; rw [t99] at c2; rw [t60] at d2; rw [t2] at e2
    omega
theorem seats_loop (G : GG) (o : Nat) (s : SS) (t : Nat) (ht : t ≤ 6) (h : s o 2 = nI t) : ∀ n i (x : Int32), i ≤ t → t < n + i → CH_seatsInAll_4 G o n x (nI i) s = some ((List.range' i (t - i)).foldl (fun x j => x + s (o + 2) j) x, s) := by
  intro n
  induction n with
  | zero => intro i x h1 h2; omega
  | succ n ih =>
    intro i x h1 h2
    rw [CH_seatsInAll_4, h]
    by_cases e : t ≤ i
    · rw [if_pos ((nI_ge_iff (by omega) (by omega)).mpr e), show t - i = 0 by omega]; rfl
    · rw [if_neg (fun q => e ((nI_ge_iff (by omega) (by omega)).mp q)), if_pos (inb_nI (by omega) (by omega)), cl_nI (by omega), nI_s, ih (i + 1) _ (by omega) (by omega), show t - i = (t - (i + 1)) + 1 by omega, List.range'_succ]
      rfl
theorem manyM_loop (m : SS) (t : Nat) (ht : t ≤ 6) (h : m 0 5 = nI t) (x1 : Int32) : ∀ n i (x : Int32), i ≤ t → t < n + i → M_many_4 n x1 x (nI i) m = M_many_4 1 x1 ((List.range' i (t - i)).foldl (fun x j => x + m 7 j) x) (nI t) m := by
  intro n
  induction n with
  | zero => intro i x h1 h2; omega
  | succ n ih =>
    intro i x h1 h2
    by_cases e : t ≤ i
    · have : i = t := by omega
      subst this
      rw [Nat.sub_self]
      rw [M_many_4, M_many_4, h, if_pos ((nI_ge_iff (by omega) (by omega)).mpr e), if_pos ((nI_ge_iff (by omega) (by omega)).mpr e)]
      rfl
    · rw [M_many_4, h, if_neg (fun q => e ((nI_ge_iff (by omega) (by omega)).mp q)), if_pos (inb_nI (by omega) (by omega)), cl_nI (by omega), nI_s, ih (i + 1) _ (by omega) (by omega), show t - i = (t - (i + 1)) + 1 by omega, List.range'_succ]
      rfl
theorem foldl_same {α β : Type} {f g : β → α → β} : ∀ (l : List α) (x : β), (∀ b, ∀ a ∈ l, f b a = g b a) → l.foldl f x = l.foldl g x
  | [], _, _ => rfl
  | a :: l, x, h => by
    rw [List.foldl_cons, List.foldl_cons, h x a (List.mem_cons_self ..)]
    exact foldl_same l _ (fun b c hc => h b c (List.mem_cons_of_mem _ hc))
theorem many_ev (G : GG) (s m : SS) (x : Int32) (hC : RCf s m) (hR : RGr G s m) : ∃ r, CT_many G s x = some (r, s) ∧ M_many m x = some (r, m) := by
  obtain ⟨t, ht, h1, h2, h3, ⟨h4, -⟩, ⟨h5, -⟩, ⟨h6, hj⟩, h7, -⟩ := hC
  obtain ⟨n, hn, g1, g2, -⟩ := hR
  have hm := manyM_loop m t ht h1 x fuel 0 0 (by omega) (by have := fuel_big; omega)
  have hs := seats_loop G 1 s t ht h2 fuel 0 0 (by omega) (by have := fuel_big; omega)
  rw [nI_0] at hm hs
  have hsum : (List.range' 0 (t - 0)).foldl (fun x j => x + s (1 + 2) j) 0 = (List.range' 0 (t - 0)).foldl (fun x j => x + m 7 j) 0 := by
    apply foldl_same
    intro b a ha
    rw [List.mem_range'] at ha
    obtain ⟨i, hi, rfl⟩ := ha
    rw [(h3 _ (by omega)).2.1]
  rw [hsum] at hs
  generalize (List.range' 0 (t - 0)).foldl (fun x j => x + m 7 j) 0 = S at hm hs
  unfold CT_many M_many CT_many_91 CH_seatsInAll
  have hle : m 0 5 ≤ nI t := by rw [h1]; exact (nI_ge_iff (by omega) (by omega)).mpr (Nat.le_refl t)
  rw [hm, hs, M_many_4, if_pos hle]
  unfold M_many_104
  rw [h1, h2, h4, h5, h6, h7, g1, g2]
  by_cases y0 : x = 0
  · exact ⟨nI t, by simp [y0], by simp [y0]⟩
  by_cases y1 : x = 1
  · exact ⟨nI n, by simp [y1], by simp [y1]⟩
  by_cases y2 : x = 2
  · exact ⟨m 0 8, by simp [y2], by simp [y2]⟩
  by_cases y3 : x = 3
  · exact ⟨m 0 9, by simp [y3], by simp [y3]⟩
  by_cases y4 : x = 4
  · rcases hj with e | e
    · exact ⟨0, by simp [y4, e], by simp [y4, e]⟩
    · exact ⟨1, by simp [y4, e], by simp [y4, e]⟩
  by_cases y5 : x = 5
  · exact ⟨m 0 11, by simp [y5], by simp [y5]⟩
  by_cases y6 : x = 6
  · exact ⟨S, by simp [y6, bnd_s], by simp [y6]⟩
  · exact ⟨-2, by simp [y0, y1, y2, y3, y4, y5, y6], by simp [y0, y1, y2, y3, y4, y5, y6]⟩
