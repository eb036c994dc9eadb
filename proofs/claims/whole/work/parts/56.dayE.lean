/-! rain, the list of groups, a day's beginning -/
theorem or_bit : ∀ r, r < 256 → ∀ i, i < 8 → nI r ||| ((1 : Int32) <<< (nI i &&& 31)) = nI (r ||| 2 ^ i) := by decide +kernel
theorem sh_bit : ∀ r, r < 256 → ∀ j, j < 8 → (((nI r >>> (nI j &&& 31)) &&& 1 = 1) ↔ r.testBit j = true) := by decide +kernel
theorem or_lt : ∀ r, r < 256 → ∀ i, i < 8 → r ||| 2 ^ i < 256 := by decide +kernel
theorem or_tb : ∀ i, i < 8 → ∀ j, j < 8 → ∀ r, (r ||| 2 ^ i).testBit j = (r.testBit j || decide (i = j)) := by
  intro i _ j _ r
  rw [Nat.testBit_or, Nat.testBit_two_pow]
def sunH (K D : SS) (v : Int32) : Nat → Bool
  | 0 => false
  | t + 1 => sunH K D v t || (decide (K 1 t = 0) && decide (D 7 t = v))
theorem sunH_iff {K D : SS} {v : Int32} {i : Nat} : sunH K D v i = true ↔ ∃ t, t < i ∧ K 1 t = 0 ∧ D 7 t = v := by
  induction i with
  | zero => simp [sunH]
  | succ i ih =>
    rw [sunH, Bool.or_eq_true, ih, Bool.and_eq_true, decide_eq_true_eq, decide_eq_true_eq]
    constructor
    · rintro (⟨t, h1, h2⟩ | h)
      · exact ⟨t, by omega, h2⟩
      · exact ⟨i, by omega, h⟩
    · rintro ⟨t, h1, h2⟩
      by_cases e : t = i
      · subst e; exact Or.inr h2
      · exact Or.inl ⟨t, by omega, h2⟩
def dr1 (n : Nat) (K D : SS) (i : Nat) : SS := fun a t => if a = 7 ∧ t < n ∧ ¬ D 7 t < 0 ∧ sunH K D (D 7 t) i = true then -1 else D a t
def dr2 (K D : SS) (i : Nat) : SS := fun a t => if a = 7 ∧ t < i ∧ K 1 t = 0 then -2 else D a t
def riseStep (n : Nat) (K : SS) (x : Int32) (R : Nat → Bool) (D : SS) (g : Nat) : SS := if R g = true then (if fp n K D g = -9 then up2 (up2 D 1 g 0) 4 g x else fpD n K D g) else D
def driveD (n : Nat) (K : SS) (x : Int32) (D : SS) : SS := (List.range 8).foldl (riseStep n K x (fun g => sunH K D (nI g) n)) (dr2 K (dr1 n K D n) n)
def HV (n k : Nat) (D : SS) : Prop := ∀ t, t < n → D 7 t = -1 ∨ D 7 t = -2 ∨ ∃ g, g < k ∧ D 7 t = nI g
theorem nI_n0 {g : Nat} (h : g < 1000) : ¬ nI g < 0 := by rw [i_lt, nI_T (by omega), t0]; omega
theorem fpD_none {n : Nat} {K D : SS} {g : Nat} (q : fp n K D g = -9) : fpD n K D g = D := by
  unfold fp at q
  unfold fpD
  split
  · rename_i e
    rw [if_pos e] at q
    rw [if_pos q]
  · rename_i e
    rw [if_neg e] at q
    exact absurd q e
section dayE
variable {G : GG} {o h n k : Nat} {K : SS} {L : List Nat} {b : SS}
theorem drive3 (hb : CB G o h n k K L b) (R : Nat → Bool) (x : Int32) {r : Nat} (hr : r < 256) (hR : ∀ g, g < 8 → (r.testBit g = true ↔ R g = true)) (hk : ∀ g, g < 8 → R g = true → g < k) (D : SS) :
    CD_driveIn_104 G o fuel x (nI r) 0 (lay o b D) = some (lay o b ((List.range 8).foldl (riseStep n K x R) D)) := by
  refine loopQ 8 (fun f i D' => CD_driveIn_104 G o f x (nI r) (nI i) (lay o b D')) (fun i D' => D' = (List.range i).foldl (riseStep n K x R) D) (fun r => r = some (lay o b ((List.range 8).foldl (riseStep n K x R) D))) ?_ ?_ fuel 0 D (by omega) (by have := fuel_big; omega) rfl
  · intro f i D' hi hD
    right
    refine ⟨riseStep n K x R D' i, ?_, by rw [hD, List.range_succ, List.foldl_append]; rfl⟩
    try dsimp only
    rw [CD_driveIn_104, if_neg (show ¬ (8 : Int32) ≤ nI i by rw [show (8 : Int32) = nI 8 from by decide]; exact le_no hi (by omega))]
    unfold CD_driveIn_143 riseStep
    rw [nI_s]
    by_cases q : R i = true
    · rw [if_pos ((sh_bit r hr i hi).mpr ((hR i hi).mpr q)), if_pos q, find_ev hb D' (hk i hi q), bnd_s]
      by_cases q2 : fp n K D' i = -9
      · rw [if_pos q2, if_pos q2, fpD_none q2, if_pos (inb_nI hi (by omega)), if_pos (inb_nI hi (by omega)), cl_nI (by omega), lay_u1, lay_u4]
      · rw [if_neg q2, if_neg q2]
    · rw [if_neg (fun z => q ((hR i hi).mp ((sh_bit r hr i hi).mp z))), if_neg q]
  · intro f D' hD
    try dsimp only
    rw [CD_driveIn_104, if_pos (by decide), hD]
theorem drive2 (hb : CB G o h n k K L b) (x y : Int32) (D : SS) :
    CD_driveIn_65 G o fuel x y 0 (lay o b D) = CD_driveIn_104 G o fuel x y 0 (lay o b (dr2 K D n)) := by
  have hn := hb.n6
  refine loopQ n (fun f i D' => CD_driveIn_65 G o f x y (nI i) (lay o b D')) (fun i D' => D' = dr2 K D i) (fun r => r = CD_driveIn_104 G o fuel x y 0 (lay o b (dr2 K D n))) ?_ ?_ fuel 0 D (by omega) (by have := fuel_big; omega) ?_
  · intro f i D' hi hD
    right
    refine ⟨dr2 K D (i + 1), ?_, rfl⟩
    try dsimp only
    rw [CD_driveIn_65, hb.r2, if_neg (le_no hi (by omega)), if_pos (inb_nI (by omega) (by omega)), if_pos (inb_nI (by omega) (by omega)), cl_nI (by omega), hb.rw _ hi, lay_u7]
    unfold CD_driveIn_96
    rw [nI_s]
    have e1 : ∀ t, t < i + 1 ↔ t < i ∨ t = i := fun t => by omega
    by_cases q : K 1 i = 0
    · rw [if_pos q, hD]
      congr 1; congr 1
      funext a t
      rw [up2_el]
      unfold dr2
      by_cases a7 : a = 7 <;> by_cases ti : t = i <;> simp [a7, ti, q, e1]
    · rw [if_neg q, hD]
      congr 1; congr 1
      funext a t
      unfold dr2
      by_cases a7 : a = 7 <;> by_cases ti : t = i <;> simp [a7, ti, q, e1]
  · intro f D' hD
    try dsimp only
    rw [CD_driveIn_65, hb.r2, if_pos (le_ye (Nat.le_refl n) (by omega)), hD]
  · funext a t
    simp [dr2]
theorem drive_ev (hb : CB G o h n k K L b) (x : Int32) (D : SS) (hv : HV n k D) : CD_driveIn G o (lay o b D) x = some (lay o b (driveD n K x D)) := by
  have hn := hb.n6
  have hk := hb.k8
  unfold CD_driveIn
  refine loopQ n (fun f i (p : Nat × SS) => CD_driveIn_4 G o f x (nI p.1) (nI i) (lay o b p.2)) (fun i p => p.1 < 256 ∧ (∀ g, g < 8 → (p.1.testBit g = true ↔ sunH K D (nI g) i = true)) ∧ p.2 = dr1 n K D i) (fun r => r = some (lay o b (driveD n K x D))) ?_ ?_ fuel 0 (0, D) (by omega) (by have := fuel_big; omega) ?_
  · rintro f i ⟨r, D'⟩ hi ⟨hr, ht, hD⟩
    right
    try dsimp only at hr ht hD ⊢
    have e7 : D' 7 i = if ¬ D 7 i < 0 ∧ sunH K D (D 7 i) i = true then -1 else D 7 i := by rw [hD]; unfold dr1; simp [hi]
    have hs : ∀ v, sunH K D v (i + 1) = (sunH K D v i || (decide (K 1 i = 0) && decide (D 7 i = v))) := fun v => rfl
    rw [CD_driveIn_4, hb.r2, if_neg (le_no hi (by omega)), if_pos (inb_nI (by omega) (by omega)), if_pos (inb_nI (by omega) (by omega)), if_pos (inb_nI (by omega) (by omega)), if_pos (inb_nI (by omega) (by omega)), cl_nI (by omega), hb.rw _ hi, lay_7]
    unfold CD_driveIn_57
    rw [nI_s, getUp_ev hb, bnd0_s]
    by_cases q : K 1 i = 0
    · rw [if_pos q]
      by_cases q2 : D' 7 i < 0
      · rw [if_pos q2]
        have same : ∀ v, ¬ v < 0 → sunH K D v (i + 1) = sunH K D v i := by
          intro v hv0
          rw [hs]
          by_cases z : D 7 i = v
          · have : sunH K D v i = true := by
              subst z
              by_cases y : sunH K D (D 7 i) i = true
              · exact y
              · rw [e7, if_neg (fun w => y w.2)] at q2
                exact absurd q2 hv0
            rw [this]; rfl
          · simp [z]
        refine ⟨(r, D'), rfl, hr, ?_, ?_⟩
        · intro g hg
          rw [ht g hg, same _ (nI_n0 (by omega))]
        · show D' = _
          rw [hD]
          funext a t
          unfold dr1
          by_cases z : D 7 t < 0
          · simp [z]
          · rw [same _ z]
      · rw [if_neg q2]
        have hD7 : ¬ D 7 i < 0 ∧ ¬ sunH K D (D 7 i) i = true := by
          constructor
          · intro z; rw [e7, if_neg (fun w => w.1 z)] at q2; exact q2 z
          · intro z
            by_cases y : D 7 i < 0
            · rw [e7, if_neg (fun w => w.1 y)] at q2; exact q2 y
            · rw [e7, if_pos ⟨y, z⟩] at q2; exact q2 (by decide)
        have e8 : D' 7 i = D 7 i := by rw [e7, if_neg (fun w => hD7.2 w.2)]
        obtain ⟨g, hg, e9⟩ : ∃ g, g < k ∧ D 7 i = nI g := by
          rcases hv i hi with z | z | z
          · exact absurd (by rw [z]; decide) hD7.1
          · exact absurd (by rw [z]; decide) hD7.1
          · exact z
        rw [e8, e9]
        refine ⟨(r ||| 2 ^ g, gup n D' (nI g)), by rw [or_bit r hr g (by omega)], or_lt r hr g (by omega), ?_, ?_⟩
        · intro j hj
          rw [or_tb g (by omega) j hj, Bool.or_eq_true, ht j hj, hs, Bool.or_eq_true, e9]
          have : (g = j) ↔ (nI g = nI j) := (nI_eq_iff (by omega) (by omega)).symm
          simp [q, this]
        · show gup n D' (nI g) = _
          rw [hD]
          funext a t
          unfold gup dr1
          by_cases a7 : a = 7
          · subst a7
            by_cases tn : t < n
            · by_cases t0 : D 7 t < 0
              · have : ¬ D 7 t = nI g := by intro z; rw [z] at t0; exact nI_n0 (by omega) t0
                simp [t0, this]
              · rw [hs]
                by_cases y : D 7 t = nI g
                · have y2 : sunH K D (nI g) i = false := by have := hD7.2; rw [e9] at this; simpa using this
                  simp [y, y2, tn, nI_n0 (show g < 1000 by omega), q, e9]
                · have y' : ¬ nI g = D 7 t := fun z => y z.symm
                  by_cases y2 : sunH K D (D 7 t) i = true
                  · simp [y, y2, tn, t0, e9, y']
                  · simp [y, y2, tn, t0, e9, y']
            · simp [tn]
          · simp [a7]
    · rw [if_neg q]
      have same : ∀ v, sunH K D v (i + 1) = sunH K D v i := fun v => by rw [hs]; simp [q]
      refine ⟨(r, D'), rfl, hr, ?_, ?_⟩
      · intro g hg
        rw [ht g hg, same]
      · show D' = _
        rw [hD]
        funext a t
        unfold dr1
        rw [same]
  · rintro f ⟨r, D'⟩ ⟨hr, ht, hD⟩
    try dsimp only at hr ht hD ⊢
    rw [CD_driveIn_4, hb.r2, if_pos (le_ye (Nat.le_refl n) (by omega)), drive2 hb, hD]
    refine drive3 hb (fun g => sunH K D (nI g) n) x hr ht ?_ _
    intro g hg q
    obtain ⟨t, ht, -, e⟩ := sunH_iff.mp q
    rcases hv t ht with z | z | ⟨g', hg', z⟩
    · rw [z] at e; exact absurd (show nI g < 0 by rw [← e]; decide) (nI_n0 (by omega))
    · rw [z] at e; exact absurd (show nI g < 0 by rw [← e]; decide) (nI_n0 (by omega))
    · rw [z, nI_eq_iff (by omega) (by omega)] at e; omega
  · refine ⟨(show (0 : Nat) < 256 by omega), ?_, ?_⟩
    · intro g hg
      simp [sunH]
    · show D = _
      funext a t
      simp [dr1, sunH]
end dayE
