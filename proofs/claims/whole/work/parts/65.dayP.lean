theorem gup_up {n : Nat} {D : SS} {g : Nat} {v y : Int32} : up2 (gup n D y) 1 g v = gup n (up2 D 1 g v) y := by
  funext a c
  unfold gup
  simp only [up2_el]
  by_cases e : a = 7
  · subst e; simp
  · simp [e]
theorem ov_1 {n : Nat} {x : Int32} {D : SS} {g c : Nat} : overStep n x D g 1 c = if c = g ∧ D 1 g = 5 ∧ ¬ x < D 4 g then 0 else D 1 c := by
  unfold overStep
  split
  · rename_i q
    have : gup n (up2 D 1 g 0) (nI g) 1 c = if c = g then 0 else D 1 c := by unfold gup; simp [up2_el]
    rw [this]
    by_cases e : c = g <;> simp [e, q]
  · rename_i q
    rw [if_neg (fun z => q z.2)]
theorem ov_o {n : Nat} {x : Int32} {D : SS} {g a c : Nat} (h1 : a ≠ 1) (h7 : a ≠ 7) : overStep n x D g a c = D a c := by
  unfold overStep
  split
  · unfold gup; simp [up2_el, h1, h7]
  · rfl
theorem ov_7 {n : Nat} {x : Int32} {D : SS} {g t : Nat} : overStep n x D g 7 t = if (t < n ∧ D 7 t = nI g) ∧ D 1 g = 5 ∧ ¬ x < D 4 g then -1 else D 7 t := by
  unfold overStep
  split
  · rename_i q
    unfold gup
    simp [up2_el, q]
  · rename_i q
    rw [if_neg (fun z => q z.2)]
theorem ov_comm {n : Nat} {x : Int32} {D : SS} {g g' : Nat} (h : g ≠ g') (hg : g < 1000) (hg' : g' < 1000) : overStep n x (overStep n x D g) g' = overStep n x (overStep n x D g') g := by
  have ne : ¬ nI g = nI g' := by rw [nI_eq_iff (by omega) (by omega)]; exact h
  have ne' : ¬ nI g' = nI g := fun z => ne z.symm
  have h' : ¬ g' = g := fun z => h z.symm
  have n1 : ¬ (-1 : Int32) = nI g := fun z => nI_ne1 hg z.symm
  have n2 : ¬ (-1 : Int32) = nI g' := fun z => nI_ne1 hg' z.symm
  funext a c
  by_cases e1 : a = 1
  · subst e1
    simp only [ov_1, ov_o (show 4 ≠ 1 by omega) (show 4 ≠ 7 by omega)]
    by_cases q1 : D 1 g = 5 <;> by_cases q2 : D 1 g' = 5 <;> by_cases c1 : c = g <;> by_cases c2 : c = g' <;> simp_all
  · by_cases e7 : a = 7
    · subst e7
      simp only [ov_7, ov_1, ov_o (show 4 ≠ 1 by omega) (show 4 ≠ 7 by omega)]
      by_cases q1 : D 1 g = 5 <;> by_cases q2 : D 1 g' = 5 <;> by_cases c1 : D 7 c = nI g <;> by_cases c2 : D 7 c = nI g' <;> by_cases w1 : x < D 4 g <;> by_cases w2 : x < D 4 g' <;> by_cases tn : c < n <;> simp_all
    · rw [ov_o e1 e7, ov_o e1 e7, ov_o e1 e7, ov_o e1 e7]
theorem ov_fc {n : Nat} {x : Int32} {i : Nat} (hi : i < 1000) : ∀ (Q : List Nat) (D : SS), (∀ g, g ∈ Q → g ≠ i ∧ g < 1000) → Q.foldl (overStep n x) (overStep n x D i) = overStep n x (Q.foldl (overStep n x) D) i
  | [], _, _ => rfl
  | a :: Q, D, h => by
    have ha := h a (List.mem_cons_self ..)
    rw [List.foldl_cons, List.foldl_cons, ov_comm (fun z => ha.1 z.symm) hi ha.2]
    exact ov_fc hi Q _ (fun g hg => h g (List.mem_cons_of_mem _ hg))
theorem ov_r1 {n : Nat} {x : Int32} {c : Nat} : ∀ (l : List Nat) (D : SS), c ∉ l → l.foldl (overStep n x) D 1 c = D 1 c
  | [], _, _ => rfl
  | a :: l, D, h => by
    rw [List.foldl_cons, ov_r1 l _ (fun z => h (List.mem_cons_of_mem _ z)), ov_1, if_neg (fun z => h (by rw [z.1]; exact List.mem_cons_self ..))]
theorem ov_LR {n : Nat} {K : SS} {lo x : Int32} {D : SS} : ∀ {i : Nat}, i < 1000 → CK K i → (∀ g, g < i → nI g = lo → D 1 g = 3) → (ordL K lo i).foldl (overStep n x) D = (List.range i).foldl (overStep n x) D
  | 0, _, _, _ => by
    have : ordL K lo 0 = [] := by
      unfold ordL
      exact (fm_same (f := bkt K lo 0) (g := fun _ => []) (List.range 100) (fun a _ => rfl)).trans (by simp)
    rw [this]; rfl
  | i + 1, h1, h, hf => by
    obtain ⟨c, hc, e⟩ := h i (by omega)
    obtain ⟨P, Q, e1, -, -, e2⟩ := ordL_step (lo := lo) hc e
    have ih := ov_LR (n := n) (lo := lo) (x := x) (D := D) (by omega) h.lt (fun g hg => hf g (by omega))
    rw [List.range_succ, List.foldl_append, ← ih, e2]
    show _ = overStep n x ((ordL K lo i).foldl (overStep n x) D) i
    by_cases q : nI i = lo
    · rw [if_pos q, ← e1]
      have h3 : (ordL K lo i).foldl (overStep n x) D 1 i = 3 := by
        rw [ov_r1 _ _ (fun z => by have := ((ordL_mem h.lt).mp z).1; omega)]
        exact hf i (by omega) q
      unfold overStep
      rw [if_neg (fun z => by have z1 := z.1; unfold overStep at h3; rw [h3] at z1; exact absurd z1 (by decide))]
    · rw [if_neg q, e1, List.foldl_append, List.foldl_append, List.foldl_cons]
      apply ov_fc (by omega)
      intro g hg
      have : g ∈ ordL K lo i := by rw [e1]; exact List.mem_append_right _ hg
      have := ((ordL_mem h.lt).mp this).1
      exact ⟨by omega, by omega⟩
theorem foldl_fm {σ : Type} (g : σ → Nat → σ) (f : Nat → List Nat) : ∀ (l : List Nat) (D : σ), (l.flatMap f).foldl g D = l.foldl (fun D w => (f w).foldl g D) D
  | [], _ => rfl
  | a :: l, D => by
    rw [List.flatMap_cons, List.foldl_append, List.foldl_cons]
    exact foldl_fm g f l _
section dayP
variable {n k : Nat} {K b m D : SS} {lo : Int32} {mm : Nat}
theorem MB.w (hM : MB n k K lo b) (f : Nat → Int32) {j : Nat} (hj : 30 ≤ j) : MB n k K lo (ups b j f) := by
  unfold MB at *
  rw [ups_row (show 0 ≠ j by omega), ups_row (show 24 ≠ j by omega), ups_row (show 25 ≠ j by omega), ups_row (show 17 ≠ j by omega), ups_row (show 18 ≠ j by omega), ups_row (show 19 ≠ j by omega), ups_row (show 20 ≠ j by omega), ups_row (show 21 ≠ j by omega), ups_row (show 22 ≠ j by omega)]
  exact hM
theorem RM.w (hR : RM n k K b m D) (f : Nat → Int32) {j : Nat} (hj : 37 < j) : RM n k K (ups b j f) (ups m j f) D := by
  refine ⟨?_, ?_, ?_⟩
  · intro a ha
    unfold ups
    split
    · rfl
    · exact hR.1 a ha
  · intro t ht
    have := hR.2.1 t ht
    unfold RMt at this ⊢
    rw [ups_row (show 30 ≠ j by omega), ups_row (show 31 ≠ j by omega)]
    exact this
  · intro g hg
    have := hR.2.2 g hg
    unfold RMg at this ⊢
    rw [ups_row (show 32 ≠ j by omega), ups_row (show 33 ≠ j by omega), ups_row (show 34 ≠ j by omega), ups_row (show 35 ≠ j by omega), ups_row (show 36 ≠ j by omega), ups_row (show 37 ≠ j by omega)]
    exact this
theorem over_M (ok : KOk n k K) (hM : MB n k K lo b) (hR : RM n k K b m D) (hm : mm < 1000) (hJ : JJ n k K lo mm D) : ∃ m1, RM n k K b m1 ((List.range k).foldl (overStep n (nI mm)) D) ∧ M_goMinute m (nI mm) = if nI mm = K 0 4 then bnd0 (M_rainsOn m1 (nI mm)) (fun s4 => M_goMinute_60 (nI mm) s4) else M_goMinute_60 (nI mm) m1 := by
  have hk := ok.2.1
  unfold M_goMinute
  refine loopQ k (fun f i m' => M_goMinute_2 f (nI mm) (nI i) m') (fun i m' => RM n k K b m' ((List.range i).foldl (overStep n (nI mm)) D) ∧ JJ n k K lo mm ((List.range i).foldl (overStep n (nI mm)) D)) (fun r => ∃ m1, RM n k K b m1 ((List.range k).foldl (overStep n (nI mm)) D) ∧ r = if nI mm = K 0 4 then bnd0 (M_rainsOn m1 (nI mm)) (fun s4 => M_goMinute_60 (nI mm) s4) else M_goMinute_60 (nI mm) m1) ?_ ?_ fuel 0 m (by omega) (by have := fuel_big; omega) ⟨hR, hJ⟩
  · rintro f i m' hi ⟨hR', hJ'⟩
    right
    have h16 : m' 0 16 = nI k := by rw [hR'.r0]; exact hM.2.1
    have i8 : inb (nI i) 8 = true := inb_nI (by omega) (by omega)
    rw [List.range_succ, List.foldl_append]
    show ∃ st', _ ∧ RM n k K b st' (overStep n (nI mm) ((List.range i).foldl (overStep n (nI mm)) D) i) ∧ JJ n k K lo mm (overStep n (nI mm) ((List.range i).foldl (overStep n (nI mm)) D) i)
    have hJn := over_J hk hJ' hi
    generalize hD : (List.range i).foldl (overStep n (nI mm)) D = D' at *
    obtain ⟨r1, r2, r3, r4, -⟩ := hR'.2.2 i hi
    try dsimp only
    rw [M_goMinute_2, h16, if_neg (le_no hi (by omega)), if_pos i8, if_pos i8, cl_nI (by omega), r1, r4]
    unfold M_goMinute_41
    rw [nI_s]
    by_cases q : D' 1 i = 5
    · rw [if_pos ((stM1 _).mpr q)]
      by_cases w : nI mm < D' 4 i
      · rw [if_pos w]
        refine ⟨m', rfl, ?_, hJn⟩
        unfold overStep
        rw [if_neg (fun z => z.2 w)]
        exact hR'
      · rw [if_neg w]
        obtain ⟨m2, e2, hR2⟩ := getsM ok hM hR' hJ'.2.hv hi
        rw [e2, bnd0_s, goes_ev ok hM hR2 hi, bnd0_s]
        have e4 : gup n D' (nI i) 4 i = nI mm := by
          have : gup n D' (nI i) 4 i = D' 4 i := by unfold gup; simp
          rw [this, i_eq, nI_T (by omega)]
          rw [i_lt, nI_T (by omega)] at w
          have := ((hJ'.1 i hi).1 q).1
          omega
        have hgo := hR2.go ok hi (nI mm) false (fun _ => e4)
        simp only [Bool.false_eq_true, if_false] at hgo
        refine ⟨_, rfl, ?_, hJn⟩
        unfold overStep
        have qq : D' 1 i = 5 ∧ ¬ nI mm < D' 4 i := ⟨q, w⟩
        rw [if_pos qq, ← gup_up]
        exact hgo
    · rw [if_neg (fun z => q ((stM1 _).mp z))]
      refine ⟨m', rfl, ?_, hJn⟩
      unfold overStep
      rw [if_neg (fun z => q z.1)]
      exact hR'
  · rintro f m' ⟨hR', hJ'⟩
    have h16 : m' 0 16 = nI k := by rw [hR'.r0]; exact hM.2.1
    refine ⟨m', hR', ?_⟩
    try dsimp only
    rw [M_goMinute_2, h16, if_pos (le_ye (Nat.le_refl k) (by omega)), hR'.r0, hM.2.2.2.2.1]
theorem sunM (ok : KOk n k K) (hM : MB n k K lo b) (hR : RM n k K b m D) (hv : HV n k D) {g : Nat} (hg : g < k) : M_isInSun m (nI g) = some (if sunH K D (nI g) n = true then 1 else 0, m) := by
  have hn := ok.1
  have hk := ok.2.1
  have h23 : m 0 23 = nI n := by rw [hR.r0]; exact hM.1
  have h24 : ∀ t, t < n → m 24 t = K 1 t := fun t ht => by rw [hR.1 24 (by omega)]; exact (hM.2.2.2.2.2.2.2.1 t ht).1
  unfold M_isInSun
  refine loopQ n (fun f i c => M_isInSun_4 f (nI g) c (nI i) m) (fun i c => c = if sunH K D (nI g) i = true then 1 else 0) (fun r => r = some (if sunH K D (nI g) n = true then 1 else 0, m)) ?_ ?_ fuel 0 0 (by omega) (by have := fuel_big; omega) rfl
  · intro f i c hi hc
    right
    refine ⟨if sunH K D (nI g) (i + 1) = true then 1 else 0, ?_, rfl⟩
    try dsimp only
    rw [M_isInSun_4, h23, if_neg (le_no hi (by omega)), if_pos (inb_nI (by omega) (by omega)), if_pos (inb_nI (by omega) (by omega)), cl_nI (by omega), h24 i hi, (hR.2.1 i hi).1]
    unfold M_isInSun_39 M_isInSun_35 M_isInSun_40
    rw [nI_s, sunH, hc]
    have iff : (if D 7 i < 0 then -9 else D 7 i) = nI g ↔ D 7 i = nI g := by
      rcases hv i hi with z | z | ⟨g', hg', z⟩
      · rw [z, if_pos (by decide)]
        constructor
        · intro w; exact absurd w.symm (nI_ne9 (by omega))
        · intro w; exact absurd w.symm (nI_ne1 (by omega))
      · rw [z, if_pos (by decide)]
        constructor
        · intro w; exact absurd w.symm (nI_ne9 (by omega))
        · intro w; exact absurd w.symm (nI_ne2 (by omega))
      · rw [z, if_neg (nI_n0 (by omega))]
    simp only [iff]
    by_cases q : sunH K D (nI g) i = true <;> by_cases q2 : D 7 i = nI g <;> by_cases q3 : K 1 i = 0 <;> simp [q, q2, q3]
  · intro f c hc
    try dsimp only
    rw [M_isInSun_4, h23, if_pos (le_ye (Nat.le_refl n) (by omega)), hc]
    split
    · rw [nb1, if_pos rfl]
    · rw [nb0, if_pos rfl]
end dayP
