def dr1i (n : Nat) (K D : SS) (i : Nat) : SS := fun a t => if a = 7 ∧ t < n ∧ ¬ D 7 t < 0 ∧ sunH K D (D 7 t) n = true ∧ (D 7 t).toInt < i then -1 else D a t
def wetF (n : Nat) (K D : SS) (g : Nat) : Int32 := if sunH K D (nI g) n = true then 1 else 0
section dayQ
variable {n k : Nat} {K b m D : SS} {lo : Int32} {mm : Nat}
theorem dr1i_hv (hv : HV n k D) (i : Nat) : HV n k (dr1i n K D i) := by
  intro t ht
  have r7 : dr1i n K D i 7 t = if ¬ D 7 t < 0 ∧ sunH K D (D 7 t) n = true ∧ (D 7 t).toInt < i then -1 else D 7 t := by unfold dr1i; simp [ht]
  rw [r7]
  split
  · exact Or.inl rfl
  · exact hv t ht
theorem rain4 (ok : KOk n k K) (hM : MB n k K lo b) (hm : mm < 1000) (hJ : JJ n k K lo mm D) (hU : UU k mm D) (h40 : ∀ g, g < k → b 40 g = wetF n K D g) (hR : RM n k K b m (dr2 K (dr1 n K D n) n)) : ∃ m', M_rainsOn_113 fuel (nI mm) 0 m = some m' ∧ RM n k K b m' (driveD n K (nI mm) D) := by
  have hk := ok.2.1
  refine loopQ k (fun f i m' => M_rainsOn_113 f (nI mm) (nI i) m') (fun i m' => RM n k K b m' ((List.range i).foldl (riseStep n K (nI mm) (fun g => sunH K D (nI g) n)) (dr2 K (dr1 n K D n) n))) (fun r => ∃ m', r = some m' ∧ RM n k K b m' (driveD n K (nI mm) D)) ?_ ?_ fuel 0 m (by omega) (by have := fuel_big; omega) hR
  · intro f i m' hi hR'
    right
    have h16 : m' 0 16 = nI k := by rw [hR'.r0]; exact hM.2.1
    have i8 : inb (nI i) 8 = true := inb_nI (by omega) (by omega)
    obtain ⟨hJ', hU', hS⟩ := drive_inv ok hm hJ hU (show i ≤ 8 by omega)
    rw [List.range_succ, List.foldl_append]
    show ∃ st', _ ∧ RM n k K b st' (riseStep n K (nI mm) (fun g => sunH K D (nI g) n) ((List.range i).foldl (riseStep n K (nI mm) (fun g => sunH K D (nI g) n)) (dr2 K (dr1 n K D n) n)) i)
    generalize (List.range i).foldl (riseStep n K (nI mm) (fun g => sunH K D (nI g) n)) (dr2 K (dr1 n K D n) n) = D' at *
    try dsimp only
    rw [M_rainsOn_113, h16, if_neg (le_no hi (by omega)), if_pos i8, cl_nI (by omega), hR'.1 40 (by omega), h40 i hi]
    unfold M_rainsOn_151 riseStep wetF
    rw [nI_s]
    by_cases q : sunH K D (nI i) n = true
    · rw [if_pos q, if_pos q, if_neg (by decide)]
      rcases takesM ok hM hR' hJ'.2.hv hi with ⟨q2, e⟩ | ⟨q2, m2, e, hR2⟩
      · rw [e, bnd_s, if_pos rfl, if_pos q2, goes_ev ok hM hR' hi, bnd0_s, if_pos i8]
        have hgo := hR'.go ok hi (nI mm) true (fun z => by cases z)
        simp only [if_true] at hgo
        exact ⟨_, rfl, hgo⟩
      · rw [e, bnd_s, if_neg (by decide), if_neg q2]
        exact ⟨_, rfl, hR2⟩
    · rw [if_neg q, if_neg q, if_pos rfl]
      exact ⟨_, rfl, hR'⟩
  · intro f m' hR'
    have h16 : m' 0 16 = nI k := by rw [hR'.r0]; exact hM.2.1
    try dsimp only
    rw [M_rainsOn_113, h16, if_pos (le_ye (Nat.le_refl k) (by omega))]
    refine ⟨m', rfl, ?_⟩
    have e8 : ∀ j, k ≤ j → j ≤ 8 → (List.range j).foldl (riseStep n K (nI mm) (fun g => sunH K D (nI g) n)) (dr2 K (dr1 n K D n) n) = (List.range k).foldl (riseStep n K (nI mm) (fun g => sunH K D (nI g) n)) (dr2 K (dr1 n K D n) n) := by
      intro j
      induction j with
      | zero => intro h1 h2; rw [show k = 0 by omega]
      | succ j ih =>
        intro h1 h2
        by_cases e : k = j + 1
        · rw [e]
        · have i := ih (by omega) (by omega)
          rw [List.range_succ, List.foldl_append, i]
          show riseStep n K (nI mm) (fun g => sunH K D (nI g) n) _ j = _
          unfold riseStep
          rw [if_neg]
          intro z
          have := ((drive_inv ok hm hJ hU (show j ≤ 8 by omega)).2.2 j (Nat.le_refl j) (by omega) z).1
          omega
    unfold driveD
    rw [e8 8 (by omega) (Nat.le_refl 8)]
    exact hR'
theorem rain3 (ok : KOk n k K) (hM : MB n k K lo b) (hm : mm < 1000) (hJ : JJ n k K lo mm D) (hU : UU k mm D) (h40 : ∀ g, g < k → b 40 g = wetF n K D g) (hR : RM n k K b m (dr1 n K D n)) (hsh : ∀ t, t < n → D 7 t = -2 → K 1 t = 0) : ∃ m', M_rainsOn_77 fuel (nI mm) 0 m = some m' ∧ RM n k K b m' (driveD n K (nI mm) D) := by
  have hn := ok.1
  have hk := ok.2.1
  refine loopQ n (fun f i m' => M_rainsOn_77 f (nI mm) (nI i) m') (fun i m' => m' = ups m 31 (fun t => if t < i then (if K 1 t = 0 then 1 else 0) else m 31 t)) (fun r => ∃ m', r = some m' ∧ RM n k K b m' (driveD n K (nI mm) D)) ?_ ?_ fuel 0 m (by omega) (by have := fuel_big; omega) ?_
  · intro f i m' hi hm'
    right
    have h23 : m' 0 23 = nI n := by rw [hm', ups_row (by omega), hR.r0]; exact hM.1
    have h24 : m' 24 i = K 1 i := by rw [hm', ups_row (by omega), hR.1 24 (by omega)]; exact (hM.2.2.2.2.2.2.2.1 i hi).1
    have i6 : inb (nI i) 6 = true := inb_nI (by omega) (by omega)
    refine ⟨_, ?_, rfl⟩
    try dsimp only
    rw [M_rainsOn_77, h23, if_neg (le_no hi (by omega)), if_pos i6, cl_nI (by omega), h24]
    unfold M_rainsOn_104
    rw [if_pos i6, if_pos i6, nI_s, cl_nI (by omega)]
    have e1 : ∀ t, t < i + 1 ↔ t < i ∨ t = i := fun t => by omega
    have c1 : (1 : Int32) &&& 1 = 1 := by decide
    have c0 : (0 : Int32) &&& 1 = 0 := by decide
    rw [c1, c0]
    by_cases q : K 1 i = 0
    · rw [if_pos q]
      congr 1
      rw [hm']
      funext a t
      simp only [up2_el, ups_el]
      by_cases a31 : a = 31 <;> by_cases ti : t = i <;> simp [a31, ti, q, e1]
    · rw [if_neg q]
      congr 1
      rw [hm']
      funext a t
      simp only [up2_el, ups_el]
      by_cases a31 : a = 31 <;> by_cases ti : t = i <;> simp [a31, ti, q, e1]
  · intro f m' hm'
    have h23 : m' 0 23 = nI n := by rw [hm', ups_row (by omega), hR.r0]; exact hM.1
    try dsimp only
    rw [M_rainsOn_77, h23, if_pos (le_ye (Nat.le_refl n) (by omega))]
    refine rain4 ok hM hm hJ hU h40 ?_
    rw [hm']
    refine ⟨fun a ha => by rw [ups_row (by omega)]; exact hR.1 a ha, ?_, ?_⟩
    · intro t ht
      obtain ⟨g1, g2, g3⟩ := hR.2.1 t ht
      have r2 : dr2 K (dr1 n K D n) n 7 t = if K 1 t = 0 then -2 else dr1 n K D n 7 t := by unfold dr2; simp [ht]
      have r1 : dr1 n K D n 7 t = if ¬ D 7 t < 0 ∧ sunH K D (D 7 t) n = true then -1 else D 7 t := by unfold dr1; simp [ht]
      unfold RMt
      rw [ups_row (show 30 ≠ 31 by omega), ups_at, r2, if_pos ht]
      by_cases q : K 1 t = 0
      · rw [if_pos q, if_pos q]
        refine ⟨?_, by decide, fun _ => q⟩
        rw [g1, r1]
        rcases hJ.2 t ht with z | z | ⟨g', h1, h2, -⟩
        · have : ¬ (¬ (-1 : Int32) < 0 ∧ sunH K D (-1) n = true) := fun w => w.1 (by decide)
          rw [z, if_neg this]; decide
        · have : ¬ (¬ (-2 : Int32) < 0 ∧ sunH K D (-2) n = true) := fun w => w.1 (by decide)
          rw [z, if_neg this]; try decide
        · have : ¬ D 7 t < 0 ∧ sunH K D (D 7 t) n = true := ⟨by rw [h2]; exact nI_n0 (by omega), sunH_iff.mpr ⟨t, ht, q, rfl⟩⟩
          rw [if_pos this]; decide
      · rw [if_neg q, if_neg q]
        refine ⟨g1, ?_, g3⟩
        rw [if_neg]
        intro z
        rw [r1] at z
        split at z
        · exact absurd z (by decide)
        · exact q (hsh t ht z)
    · intro g hg
      have := hR.2.2 g hg
      have rr : ∀ a, a ≠ 7 → dr2 K (dr1 n K D n) n a g = dr1 n K D n a g := by intro a ha; unfold dr2; simp [ha]
      unfold RMg cvM at this ⊢
      rw [ups_row (show 32 ≠ 31 by omega), ups_row (show 33 ≠ 31 by omega), ups_row (show 34 ≠ 31 by omega), ups_row (show 35 ≠ 31 by omega), ups_row (show 36 ≠ 31 by omega), ups_row (show 37 ≠ 31 by omega), rr 1 (by omega), rr 2 (by omega), rr 3 (by omega), rr 4 (by omega), rr 5 (by omega)]
      exact this
  · funext a t
    simp only [ups_el]
    by_cases a31 : a = 31 <;> simp [a31]
theorem rain2 (ok : KOk n k K) (hM : MB n k K lo b) (hm : mm < 1000) (hJ : JJ n k K lo mm D) (hU : UU k mm D) (h40 : ∀ g, g < k → b 40 g = wetF n K D g) (hR : RM n k K b m D) : ∃ m', M_rainsOn_47 fuel (nI mm) 0 m = some m' ∧ RM n k K b m' (driveD n K (nI mm) D) := by
  have hn := ok.1
  have hk := ok.2.1
  have hv := hJ.2.hv
  refine loopQ k (fun f i m' => M_rainsOn_47 f (nI mm) (nI i) m') (fun i m' => RM n k K b m' (dr1i n K D i)) (fun r => ∃ m', r = some m' ∧ RM n k K b m' (driveD n K (nI mm) D)) ?_ ?_ fuel 0 m (by omega) (by have := fuel_big; omega) ?_
  · intro f i m' hi hR'
    right
    have h16 : m' 0 16 = nI k := by rw [hR'.r0]; exact hM.2.1
    have i8 : inb (nI i) 8 = true := inb_nI (by omega) (by omega)
    try dsimp only
    rw [M_rainsOn_47, h16, if_neg (le_no hi (by omega)), if_pos i8, cl_nI (by omega), hR'.1 40 (by omega), h40 i hi]
    unfold M_rainsOn_69 wetF
    rw [nI_s]
    by_cases q : sunH K D (nI i) n = true
    · rw [if_pos q, if_neg (by decide)]
      obtain ⟨m2, e, hR2⟩ := getsM ok hM hR' (dr1i_hv hv i) hi
      rw [e, bnd0_s]
      refine ⟨m2, rfl, ?_⟩
      have : gup n (dr1i n K D i) (nI i) = dr1i n K D (i + 1) := by
        funext a t
        unfold gup dr1i
        by_cases a7 : a = 7
        · subst a7
          by_cases tn : t < n
          · rcases hv t tn with z | z | ⟨g, hg, z⟩
            · have : ¬ (-1 : Int32) = nI i := fun w => nI_ne1 (by omega) w.symm
              simp [z, this]
            · have : ¬ (-2 : Int32) = nI i := fun w => nI_ne2 (by omega) w.symm
              simp [z, this]
            · have n1 : ¬ (-1 : Int32) = nI i := fun w => nI_ne1 (by omega) w.symm
              rw [z, nI_T (by omega)]
              by_cases e : g = i
              · subst e
                have e2 : ((g : Int) < ((g + 1 : Nat) : Int)) := by omega
                have e3 : ¬ ((g : Int) < (g : Int)) := by omega
                simp [tn, q, e2, e3, nI_n0 (show g < 1000 by omega)]
                intro h; omega
              · have e0 : ¬ nI g = nI i := by rw [nI_eq_iff (by omega) (by omega)]; exact e
                have e2 : ((g : Int) < ((i + 1 : Nat) : Int)) ↔ ((g : Int) < (i : Int)) := by omega
                simp only [e2]
                by_cases s : ¬ nI g < 0 ∧ sunH K D (nI g) n = true ∧ (g : Int) < (i : Int)
                · simp [tn, s, n1]
                · have s' : ¬ (True ∧ t < n ∧ ¬ nI g < 0 ∧ sunH K D (nI g) n = true ∧ (g : Int) < (i : Int)) := fun w => s w.2.2
                  rw [if_neg s', if_neg (fun w => e0 w.2.2)]
          · simp [tn]
        · simp [a7]
      rw [this] at hR2
      exact hR2
    · rw [if_neg q, if_pos rfl]
      refine ⟨m', rfl, ?_⟩
      have : dr1i n K D i = dr1i n K D (i + 1) := by
        funext a t
        unfold dr1i
        by_cases a7 : a = 7
        · subst a7
          by_cases tn : t < n
          · rcases hv t tn with z | z | ⟨g, hg, z⟩
            · simp [z]
            · simp [z]
            · rw [z, nI_T (by omega)]
              by_cases e : g = i
              · subst e; simp [q]
              · have e2 : ((g : Int) < ((i + 1 : Nat) : Int)) ↔ ((g : Int) < (i : Int)) := by omega
                simp only [e2]
          · simp [tn]
        · simp [a7]
      rw [this] at hR'
      exact hR'
  · intro f m' hR'
    have h16 : m' 0 16 = nI k := by rw [hR'.r0]; exact hM.2.1
    try dsimp only
    rw [M_rainsOn_47, h16, if_pos (le_ye (Nat.le_refl k) (by omega))]
    have : dr1i n K D k = dr1 n K D n := by
      funext a t
      unfold dr1i dr1
      by_cases a7 : a = 7
      · subst a7
        by_cases tn : t < n
        · rcases hv t tn with z | z | ⟨g, hg, z⟩
          · simp [z]
          · simp [z]
          · rw [z, nI_T (by omega)]
            have e2 : ((g : Int) < (k : Int)) := by omega
            simp [e2]
        · simp [tn]
      · simp [a7]
    rw [this] at hR'
    exact rain3 ok hM hm hJ hU h40 hR' (fun t ht => (hR.2.1 t ht).2.2)
  · have : dr1i n K D 0 = D := by
      funext a t
      unfold dr1i
      by_cases a7 : a = 7
      · subst a7
        by_cases tn : t < n
        · rcases hv t tn with z | z | ⟨g, hg, z⟩
          · simp [z]
          · simp [z]
          · rw [z, nI_T (by omega)]
            have e2 : ¬ ((g : Int) < ((0 : Nat) : Int)) := by omega
            simp only [e2, and_false, if_false]
        · simp [tn]
      · simp [a7]
    rw [this]; exact hR
theorem rainM (ok : KOk n k K) (hM : MB n k K lo b) (hm : mm < 1000) (hJ : JJ n k K lo mm D) (hU : UU k mm D) (hR : RM n k K b m D) : ∃ f m', M_rainsOn m (nI mm) = some m' ∧ RM n k K (ups b 40 f) m' (driveD n K (nI mm) D) := by
  have hn := ok.1
  have hk := ok.2.1
  have hv := hJ.2.hv
  refine ⟨fun g => if g < k then wetF n K D g else m 40 g, ?_⟩
  unfold M_rainsOn
  refine loopQ k (fun f i m' => M_rainsOn_2 f (nI mm) (nI i) m') (fun i m' => m' = ups m 40 (fun g => if g < i then wetF n K D g else m 40 g)) (fun r => ∃ m', r = some m' ∧ RM n k K (ups b 40 (fun g => if g < k then wetF n K D g else m 40 g)) m' (driveD n K (nI mm) D)) ?_ ?_ fuel 0 m (by omega) (by have := fuel_big; omega) ?_
  · intro f i m' hi hm'
    right
    have hR' : RM n k K (ups b 40 (fun g => if g < i then wetF n K D g else m 40 g)) m' D := by rw [hm']; exact hR.w _ (by omega)
    have hM' := hM.w (fun g => if g < i then wetF n K D g else m 40 g) (show 30 ≤ 40 by omega)
    have h16 : m' 0 16 = nI k := by rw [hR'.r0]; exact hM'.2.1
    have i8 : inb (nI i) 8 = true := inb_nI (by omega) (by omega)
    have e1 : ∀ t, t < i + 1 ↔ t < i ∨ t = i := fun t => by omega
    have c1 : (1 : Int32) &&& 1 = 1 := by decide
    have c0 : (0 : Int32) &&& 1 = 0 := by decide
    have fin : ∀ v, v = wetF n K D i → up2 m' 40 i v = ups m 40 (fun g => if g < i + 1 then wetF n K D g else m 40 g) := by
      intro v hv
      rw [hm', hv]
      funext a t
      simp only [up2_el, ups_el]
      by_cases a40 : a = 40 <;> by_cases ti : t = i <;> simp [a40, ti, e1]
    refine ⟨_, ?_, rfl⟩
    try dsimp only
    rw [M_rainsOn_2, h16, if_neg (le_no hi (by omega)), if_pos i8, cl_nI (by omega), (hR'.2.2 i hi).1, sunM ok hM' hR' hv hi, bnd_s]
    unfold M_rainsOn_37 M_rainsOn_38
    rw [if_pos i8, nI_s, cl_nI (by omega), c0, c1]
    by_cases q : D 1 i = 5
    · rw [if_pos ((stM1 _).mpr q)]
      by_cases s : sunH K D (nI i) n = true
      · rw [if_pos s, if_neg (by decide), if_pos i8, fin 1 (by unfold wetF; rw [if_pos s])]
      · rw [if_neg s, if_pos rfl, fin 0 (by unfold wetF; rw [if_neg s])]
    · rw [if_neg (fun z => q ((stM1 _).mp z))]
      have s : ¬ sunH K D (nI i) n = true := by
        intro s
        obtain ⟨t, ht, -, e⟩ := sunH_iff.mp s
        exact hJ.2.free hk hi q ht e
      rw [fin 0 (by unfold wetF; rw [if_neg s])]
  · intro f m' hm'
    have hR' : RM n k K (ups b 40 (fun g => if g < k then wetF n K D g else m 40 g)) m' D := by rw [hm']; exact hR.w _ (by omega)
    have hM' := hM.w (fun g => if g < k then wetF n K D g else m 40 g) (show 30 ≤ 40 by omega)
    have h16 : m' 0 16 = nI k := by rw [hR'.r0]; exact hM'.2.1
    try dsimp only
    rw [M_rainsOn_2, h16, if_pos (le_ye (Nat.le_refl k) (by omega))]
    refine rain2 ok hM' hm hJ hU ?_ hR'
    intro g hg
    rw [ups_at, if_pos hg]
  · funext a t
    simp only [ups_el]
    by_cases a40 : a = 40 <;> simp [a40]
end dayQ
