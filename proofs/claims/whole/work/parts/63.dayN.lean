section dayN
variable {n k : Nat} {K b m D : SS} {lo : Int32}
theorem fp1_free {g j : Nat} (hn : n ≤ 6) (e : fp1 n K D g = nI j) (hj : j < n) : D 7 j = -1 := by
  have s1 : fp1 n K D g = -9 ∨ ∃ j, j < n ∧ fp1 n K D g = nI j ∧ D 7 j = -1 := by
    unfold fp1
    by_cases q : K 0 1 = 2
    · simp only [if_pos q]
      split
      · exact oneT_s ..
      · exact oneT_s ..
    · simp only [if_neg q, if_true]
      exact oneT_s ..
  rcases s1 with z | ⟨i, hi, z, zz⟩
  · rw [z] at e; exact absurd e.symm (nI_ne9 (by omega))
  · rw [z, nI_eq_iff (by omega) (by omega)] at e; subst e; exact zz
theorem takesM (ok : KOk n k K) (hM : MB n k K lo b) (hR : RM n k K b m D) (hv : HV n k D) {g : Nat} (hg : g < k) :
    (fp n K D g = -9 ∧ M_takesTable m (nI g) = some (0, m)) ∨ (¬ fp n K D g = -9 ∧ ∃ m', M_takesTable m (nI g) = some (1, m') ∧ RM n k K b m' (fpD n K D g)) := by
  have hn := ok.1
  have hk := ok.2.1
  have h26 : m 0 26 = K 0 1 := by rw [hR.r0]; exact hM.2.2.1
  have h10 : m 0 10 = K 0 3 := by rw [hR.r0]; exact hM.2.2.2.2.2.1
  have key : M_takesTable m (nI g) = M_takesTable_46 (nI g) (fp1 n K D g) m := by
    unfold M_takesTable M_takesTable_18 M_takesTable_45 fp1
    rw [h26]
    by_cases q : K 0 1 = 2
    · have q0 : ¬ K 0 1 = 0 := by rw [q]; decide
      simp only [h26, if_pos q, smallM ok hM hR hv hg q0, bnd_s, if_neg q0, if_neg (show ¬ (1 : Int32) = 0 by decide), if_true]
      by_cases q2 : oneT K D (K 4 g) (K 7 g) n = -9
      · simp only [if_pos q2]
      · simp only [if_neg q2]
    · simp only [if_neg q, if_true]
      by_cases q0 : K 0 1 = 0
      · rw [if_pos q0, firstM ok hM hR hv hg q0, bnd_s]
      · rw [if_neg q0, smallM ok hM hR hv hg q0, bnd_s, if_pos rfl]
  rw [key]
  unfold M_takesTable_46 M_takesTable_80 M_takesTable_81
  rw [h10, joinM ok hM hR hv hg, nb0, nb1]
  rcases fp1_c n K D g with e | ⟨j, hj, e⟩
  · have f1 : fp n K D g = fp2 n K D g := by unfold fp; rw [if_pos e]
    have f2 : fpD n K D g = if fp2 n K D g = -9 then D else up2 (up2 D 7 (fp2 n K D g).toNatClampNeg (nI g)) 7 ((fp2 n K D g).toNatClampNeg + 1) (nI g) := by unfold fpD; rw [if_pos e]
    rw [f1, f2, if_pos e]
    have f3 := fp2_c n K D g
    unfold fp2 at f3 ⊢
    by_cases q : K 0 3 = 0
    · simp only [if_pos q, if_true]; left; first | exact ⟨trivial, trivial⟩ | exact ⟨trivial, rfl⟩ | simp
    · simp only [if_neg q] at f3 ⊢
      rcases f3 with e2 | ⟨j, hj, e2, ej, ej2⟩
      · simp only [e2, if_true, bnd_s]; left; exact ⟨trivial, trivial⟩
      · right
        rw [e2, if_neg (nI_ne9 (by omega)), if_neg (nI_ne9 (by omega)), cl_nI (by omega), bnd_s, if_neg (by decide), if_pos trivial]
        refine ⟨nI_ne9 (by omega), _, rfl, ?_⟩
        exact (hR.taker ok hg ej).taker ok hg (by rw [up2_el, if_neg (by omega)]; exact ej2)
  · right
    have ne : ¬ fp1 n K D g = -9 := by rw [e]; exact nI_ne9 (by omega)
    have f1 : fp n K D g = fp1 n K D g := by unfold fp; rw [if_neg ne]
    have f2 : fpD n K D g = up2 D 7 (fp1 n K D g).toNatClampNeg (nI g) := by unfold fpD; rw [if_neg ne]
    refine ⟨by rw [f1]; exact ne, up2 m 30 j (nI g), ?_, ?_⟩
    · rw [if_neg ne, e, if_pos (inb_nI (by omega) (by omega)), cl_nI (by omega), if_pos rfl]
    · rw [f2, e, cl_nI (by omega)]
      exact hR.taker ok hg (fp1_free hn e hj)
theorem getsM (ok : KOk n k K) (hM : MB n k K lo b) (hR : RM n k K b m D) (hv : HV n k D) {g : Nat} (hg : g < k) : ∃ m', M_getsUp m (nI g) = some m' ∧ RM n k K b m' (gup n D (nI g)) := by
  have hn := ok.1
  have hk := ok.2.1
  unfold M_getsUp
  refine loopQ n (fun f i m' => M_getsUp_2 f (nI g) (nI i) m') (fun i m' => m' = ups m 30 (fun t => if t < i ∧ D 7 t = nI g then -9 else m 30 t)) (fun r => ∃ m', r = some m' ∧ RM n k K b m' (gup n D (nI g))) ?_ ?_ fuel 0 m (by omega) (by have := fuel_big; omega) ?_
  · intro f i m' hi hm
    right
    have h23 : m' 0 23 = nI n := by rw [hm, ups_row (by omega), hR.r0]; exact hM.1
    have h30 : m' 30 i = if D 7 i < 0 then -9 else D 7 i := by
      rw [hm, ups_at, if_neg (by omega)]; exact (hR.2.1 i hi).1
    try dsimp only
    rw [M_getsUp_2, h23, if_neg (le_no hi (by omega)), if_pos (inb_nI (by omega) (by omega)), if_pos (inb_nI (by omega) (by omega)), cl_nI (by omega)]
    unfold M_getsUp_28
    rw [nI_s]
    have iff : m' 30 i = nI g ↔ D 7 i = nI g := by
      rw [h30]
      rcases hv i hi with z | z | ⟨g', hg', z⟩
      · rw [z, if_pos (by decide)]
        constructor
        · intro w; exact absurd w.symm (nI_ne9 (by omega))
        · intro w; exact absurd w.symm (nI_ne1 (by omega))
      · rw [z, if_pos (by decide)]
        constructor
        · intro w; exact absurd w.symm (nI_ne9 (by omega))
        · intro w; exact absurd w.symm (nI_ne2 (by omega))
      · rw [z, if_neg (nI_n0 (by omega))]
    have e1 : ∀ t, t < i + 1 ↔ t < i ∨ t = i := fun t => by omega
    by_cases q : D 7 i = nI g
    · rw [if_pos (iff.mpr q)]
      refine ⟨_, rfl, ?_⟩
      rw [hm]
      funext a t
      simp only [up2_el, ups_el]
      by_cases a30 : a = 30 <;> by_cases ti : t = i <;> simp [a30, ti, q, e1]
    · rw [if_neg (fun z => q (iff.mp z))]
      refine ⟨_, rfl, ?_⟩
      rw [hm]
      funext a t
      simp only [ups_el]
      by_cases a30 : a = 30 <;> by_cases ti : t = i <;> simp [a30, ti, q, e1]
  · intro f m' hm
    have h23 : m' 0 23 = nI n := by rw [hm, ups_row (by omega), hR.r0]; exact hM.1
    try dsimp only
    rw [M_getsUp_2, h23, if_pos (le_ye (Nat.le_refl n) (by omega))]
    refine ⟨m', rfl, ?_⟩
    rw [hm]
    refine ⟨fun a ha => by rw [ups_row (by omega)]; exact hR.1 a ha, ?_, ?_⟩
    · intro t ht
      obtain ⟨h1, h2, h3⟩ := hR.2.1 t ht
      have r7 : gup n D (nI g) 7 t = if D 7 t = nI g then -1 else D 7 t := by unfold gup; simp [ht]
      unfold RMt
      rw [r7, ups_at, ups_row (by omega)]
      by_cases q : D 7 t = nI g
      · simp only [if_pos q, ht, q, and_self, if_true]
        refine ⟨by decide, ?_, fun z => absurd z (by decide)⟩
        rw [h2, q, if_neg (nI_ne2 (by omega))]; decide
      · simp only [if_neg q, q, and_false, if_false]
        exact ⟨h1, h2, h3⟩
    · intro c hc
      have := hR.2.2 c hc
      have rr : ∀ a, a ≠ 7 → gup n D (nI g) a c = D a c := by intro a ha; unfold gup; simp [ha]
      unfold RMg cvM at this ⊢
      simp only [ups_row (show 32 ≠ 30 by omega), ups_row (show 33 ≠ 30 by omega), ups_row (show 34 ≠ 30 by omega), ups_row (show 35 ≠ 30 by omega), ups_row (show 36 ≠ 30 by omega), ups_row (show 37 ≠ 30 by omega), rr 1 (by omega), rr 2 (by omega), rr 3 (by omega), rr 4 (by omega), rr 5 (by omega)]
      exact this
  · funext a t
    simp only [ups_el]
    by_cases a30 : a = 30 <;> simp [a30]
theorem goes_ev (ok : KOk n k K) (hM : MB n k K lo b) (hR : RM n k K b m D) {g : Nat} (hg : g < k) (x : Int32) : M_goes m (nI g) x = some (up2 (up2 m 32 g 5) 36 g (K 4 g * (5 + (x - D 3 g) / (if K 3 g = 0 then 10 else 20)))) := by
  have hk := ok.2.1
  obtain ⟨⟨q, hq, eq⟩, -⟩ := ok.2.2.2 g hg
  have hmg := hM.2.2.2.2.2.2.2.2 g hg
  have h17 : up2 m 32 g 5 17 g = nI q := by rw [up2_row (by omega), hR.1 17 (by omega), hmg.1, eq]
  have h18 : up2 m 32 g 5 18 g = K 4 g := by rw [up2_row (by omega), hR.1 18 (by omega), hmg.2.1]
  have k0 : nI q = 0 ↔ q = 0 := by rw [show (0 : Int32) = nI 0 from by decide, nI_eq_iff (by omega) (by omega)]
  unfold M_goes
  rw [if_pos (inb_nI (by omega) (by omega)), if_pos (inb_nI (by omega) (by omega)), cl_nI (by omega), coinM (by omega) hq h17, bnd_s, if_pos (inb_nI (by omega) (by omega)), h18, (hR.2.2 g hg).2.2.1, eq]
  simp only [k0]
/-- a group goes: the state's row 1 becomes 0, its row 4 the minute -/
theorem RM.go (ok : KOk n k K) (hR : RM n k K b m D) {g : Nat} (hg : g < k) (x : Int32) (f : Bool) (hx : f = false → D 4 g = x) : RM n k K b (if f = true then up2 (up2 (up2 m 32 g 5) 36 g (K 4 g * (5 + (x - D 3 g) / (if K 3 g = 0 then 10 else 20)))) 35 g x else up2 (up2 m 32 g 5) 36 g (K 4 g * (5 + (x - D 3 g) / (if K 3 g = 0 then 10 else 20)))) (if f = true then up2 (up2 D 1 g 0) 4 g x else up2 D 1 g 0) := by
  cases f
  · have hx := hx rfl
    simp only [Bool.false_eq_true, if_false]
    refine ⟨fun a ha => by rw [up2_row (by omega), up2_row (by omega)]; exact hR.1 a ha, ?_, ?_⟩
    · intro t ht
      have := hR.2.1 t ht
      unfold RMt at this ⊢
      simpa [up2_row] using this
    · intro c hc
      have := hR.2.2 c hc
      unfold RMg cvM at this ⊢
      by_cases e : c = g
      · subst e
        simp only [up2_el]
        simp
        rw [hx]
        refine ⟨by decide, this.2.1, this.2.2.1, by rw [← hx]; exact this.2.2.2.1, rfl, this.2.2.2.2.2.1⟩
      · simp only [up2_el, e]
        simpa using this
  · simp only [if_true]
    refine ⟨fun a ha => by rw [up2_row (by omega), up2_row (by omega), up2_row (by omega)]; exact hR.1 a ha, ?_, ?_⟩
    · intro t ht
      have := hR.2.1 t ht
      unfold RMt at this ⊢
      simpa [up2_row] using this
    · intro c hc
      have := hR.2.2 c hc
      unfold RMg cvM at this ⊢
      by_cases e : c = g
      · subst e
        simp only [up2_el]
        simp
        refine ⟨by decide, this.2.1, this.2.2.1, this.2.2.2.2.2.1⟩
      · simp only [up2_el, e]
        simpa using this
end dayN
