/-! the day on the state alone: what stays true from minute to minute -/
theorem oneT_s (K D : SS) (z pl : Int32) (t : Nat) : oneT K D z pl t = -9 ∨ ∃ j, j < t ∧ oneT K D z pl t = nI j ∧ D 7 j = -1 := by
  induction t with
  | zero => exact Or.inl rfl
  | succ t ih =>
    rw [oneT]
    split
    · rename_i q
      exact Or.inr ⟨t, by omega, rfl, q.1⟩
    · rcases ih with e | ⟨j, hj, e⟩
      · exact Or.inl e
      · exact Or.inr ⟨j, by omega, e⟩
theorem oneT_n (K D : SS) (z pl : Int32) {t : Nat} (ht : t ≤ 6) : oneT K D z pl t = -9 ↔ ∀ j, j < t → ¬ (D 7 j = -1 ∧ ¬ K 2 j < z ∧ (pl = -1 ∨ K 1 j = pl)) := by
  induction t with
  | zero => exact ⟨fun _ j hj => by omega, fun _ => rfl⟩
  | succ t ih =>
    have ih := ih (by omega)
    rw [oneT]
    split
    · rename_i q
      constructor
      · intro e; exact absurd e (nI_ne9 (by omega))
      · intro e; exact absurd ⟨q.1, q.2.1, q.2.2.1⟩ (e t (by omega))
    · rename_i q
      rw [ih]
      constructor
      · intro e j hj
        by_cases y : j = t
        · subst y
          intro w
          exact q ⟨w.1, w.2.1, w.2.2, Or.inl (ih.mpr e)⟩
        · exact e j (by omega)
      · intro e j hj; exact e j (by omega)
theorem twoT_n (K D : SS) (z : Int32) {r t : Nat} (ht : t + r ≤ 6) : twoT K D z r t = -9 ↔ ∀ j, t ≤ j → j < t + r → ¬ (D 7 j = -1 ∧ D 7 (j + 1) = -1 ∧ ¬ K 2 j + K 2 (j + 1) < z) := by
  induction r generalizing t with
  | zero => exact ⟨fun _ j h1 h2 => by omega, fun _ => rfl⟩
  | succ r ih =>
    rw [twoT]
    split
    · rename_i q
      constructor
      · intro e; exact absurd e (nI_ne9 (by omega))
      · intro e; exact absurd q (e t (by omega) (by omega))
    · rename_i q
      rw [ih (by omega)]
      constructor
      · intro e j h1 h2
        by_cases y : j = t
        · subst y; exact q
        · exact e j (by omega) (by omega)
      · intro e j h1 h2; exact e j (by omega) (by omega)
theorem fp1_n {n : Nat} (hn : n ≤ 6) (K D : SS) (g : Nat) : fp1 n K D g = -9 ↔ ∀ j, j < n → ¬ (D 7 j = -1 ∧ ¬ K 2 j < K 4 g) := by
  have h1 := oneT_n K D (K 4 g) (-1) hn
  have h2 := oneT_n K D (K 4 g) (K 7 g) hn
  have e1 : oneT K D (K 4 g) (-1) n = -9 ↔ ∀ j, j < n → ¬ (D 7 j = -1 ∧ ¬ K 2 j < K 4 g) := by
    rw [h1]
    constructor
    · intro e j hj w; exact e j hj ⟨w.1, w.2, Or.inl rfl⟩
    · intro e j hj w; exact e j hj ⟨w.1, w.2.1⟩
  rw [← e1]
  unfold fp1
  by_cases q : K 0 1 = 2
  · simp only [if_pos q]
    by_cases q2 : oneT K D (K 4 g) (K 7 g) n = -9
    · rw [if_pos q2]
    · rw [if_neg q2]
      constructor
      · intro e; exact absurd e q2
      · intro e
        exfalso
        apply q2
        rw [h2]
        intro j hj w
        exact (e1.mp e) j hj ⟨w.1, w.2.1⟩
  · simp only [if_neg q, if_true]
theorem fp_n {n : Nat} (hn : n ≤ 6) (K D : SS) (g : Nat) : fp n K D g = -9 ↔ fp1 n K D g = -9 ∧ fp2 n K D g = -9 := by
  unfold fp
  split
  · rename_i e; exact ⟨fun z => ⟨e, z⟩, fun z => z.2⟩
  · rename_i e; exact ⟨fun z => absurd z e, fun z => absurd z.1 e⟩
theorem fp_mono {n : Nat} (hn : n ≤ 6) {K D D' : SS} {g : Nat} (h : fp n K D g = -9) (hf : ∀ t, t < n → D' 7 t = -1 → D 7 t = -1) : fp n K D' g = -9 := by
  rw [fp_n hn] at h ⊢
  refine ⟨?_, ?_⟩
  · rw [fp1_n hn] at *
    intro j hj w
    exact h.1 j hj ⟨hf j hj w.1, w.2⟩
  · have h2 := h.2
    unfold fp2 at h2 ⊢
    by_cases q : K 0 3 = 0
    · rw [if_pos q]
    · rw [if_neg q] at h2 ⊢
      rw [twoT_n K D _ (by omega)] at h2
      rw [twoT_n K D' _ (by omega)]
      intro j h3 h4 w
      exact h2 j h3 h4 ⟨hf j (by omega) w.1, hf (j + 1) (by omega) w.2.1, w.2.2⟩
theorem fpD_7 {n : Nat} (hn : n ≤ 6) (K D : SS) (g t : Nat) : fpD n K D g 7 t = D 7 t ∨ (D 7 t = -1 ∧ t < n ∧ fpD n K D g 7 t = nI g) := by
  have s1 : fp1 n K D g = -9 ∨ ∃ j, j < n ∧ fp1 n K D g = nI j ∧ D 7 j = -1 := by
    unfold fp1
    by_cases q : K 0 1 = 2
    · simp only [if_pos q]
      split
      · exact oneT_s ..
      · exact oneT_s ..
    · simp only [if_neg q, if_true]
      exact oneT_s ..
  unfold fpD
  rcases s1 with e | ⟨j, hj, e, ej⟩
  · rw [if_pos e]
    rcases fp2_c n K D g with e2 | ⟨j, hj, e2, ej, ej2⟩
    · rw [if_pos e2]; exact Or.inl rfl
    · rw [e2, if_neg (nI_ne9 (by omega)), cl_nI (by omega), up2_el, up2_el]
      by_cases y : t = j + 1
      · subst y; right; exact ⟨ej2, hj, by simp⟩
      · by_cases y2 : t = j
        · subst y2; right; exact ⟨ej, by omega, by simp⟩
        · left; simp [y, y2]
  · rw [e, if_neg (nI_ne9 (by omega)), cl_nI (by omega), up2_el]
    by_cases y : t = j
    · subst y; right; exact ⟨ej, hj, by simp⟩
    · left; simp [y]
def KOk (n k : Nat) (K : SS) : Prop := n ≤ 6 ∧ k ≤ 8 ∧ (0 ≤ (K 0 2).toInt ∧ (K 0 2).toInt ≤ 30) ∧ (∀ g, g < k → (∃ q, q ≤ 2 ∧ K 3 g = nI q) ∧ (1 ≤ (K 4 g).toInt ∧ (K 4 g).toInt ≤ 6) ∧ (∃ c, c < 100 ∧ K 5 g = nI c) ∧ (∃ y, 1 ≤ y ∧ y ≤ 60 ∧ K 6 g = nI y) ∧ ¬ K 7 g = -1)
theorem KOk.ck {n k : Nat} {K : SS} (h : KOk n k K) : CK K k := fun g hg => (h.2.2.2 g hg).2.2.1
theorem two_mul_nI : ∀ y, y < 61 → (2 : Int32) * nI y = nI (2 * y) := by decide +kernel
theorem div9_nI : ∀ y, y < 121 → nI y / 9 = nI (y / 9) := by decide +kernel
theorem stay_b {n k : Nat} {K : SS} (h : KOk n k K) {g : Nat} (hg : g < k) (w : Int32) : ∃ y, 1 ≤ y ∧ y ≤ 133 ∧ stayN K g w = nI y := by
  obtain ⟨-, -, -, ⟨y, h1, h2, e⟩, -⟩ := h.2.2.2 g hg
  unfold stayN
  rw [e, two_mul_nI y (by omega), div9_nI _ (by omega), nI_add]
  repeat' split
  · exact ⟨y, by omega, by omega, rfl⟩
  · exact ⟨2 * y, by omega, by omega, rfl⟩
  · exact ⟨2 * y, by omega, by omega, rfl⟩
  · exact ⟨2 * y + 2 * y / 9, by omega, by omega, rfl⟩
def PG (K : SS) (lo : Int32) (m : Nat) (D : SS) (g : Nat) : Prop :=
  (D 1 g = 5 → (m : Int) ≤ (D 4 g).toInt ∧ (D 4 g).toInt ≤ 262 ∧ ¬ D 3 g = -9) ∧
  (D 1 g = 4 → (K 5 g).toInt ≤ m ∧ (m : Int) ≤ (K 5 g).toInt + (K 0 2).toInt ∧ D 3 g = -9) ∧
  (D 1 g = 3 → D 3 g = -9) ∧ (D 1 g = 0 → ¬ D 3 g = -9) ∧ (D 1 g = 1 ∨ D 1 g = 2 → D 3 g = -9) ∧
  (D 1 g = 0 ∨ D 1 g = 1 ∨ D 1 g = 2 ∨ D 1 g = 3 ∨ D 1 g = 4 ∨ D 1 g = 5) ∧
  ((m : Int) < (K 5 g).toInt → D 1 g = 3) ∧ (nI g = lo → D 1 g = 3) ∧ (D 1 g = 3 → ¬ nI g = lo → (m : Int) ≤ (K 5 g).toInt)
theorem PG.same {K : SS} {lo : Int32} {m : Nat} {D D' : SS} {g : Nat} (h : PG K lo m D g) (h1 : D' 1 g = D 1 g) (h3 : D' 3 g = D 3 g) (h4 : D' 4 g = D 4 g) : PG K lo m D' g := by
  unfold PG at h ⊢
  rw [h1, h3, h4]; exact h
def HH (n k : Nat) (D : SS) : Prop := ∀ t, t < n → D 7 t = -1 ∨ D 7 t = -2 ∨ ∃ g, g < k ∧ D 7 t = nI g ∧ D 1 g = 5
theorem HH.hv {n k : Nat} {D : SS} (h : HH n k D) : HV n k D := fun t ht => by
  rcases h t ht with e | e | ⟨g, hg, e, -⟩
  · exact Or.inl e
  · exact Or.inr (Or.inl e)
  · exact Or.inr (Or.inr ⟨g, hg, e⟩)
def JJ (n k : Nat) (K : SS) (lo : Int32) (m : Nat) (D : SS) : Prop := (∀ g, g < k → PG K lo m D g) ∧ HH n k D
def UU (k m : Nat) (D : SS) : Prop := ∀ g, g < k → D 1 g = 5 → (m : Int) < (D 4 g).toInt
theorem c05 : ¬ (0 : Int32) = 5 := by decide
theorem c54 : ¬ (5 : Int32) = 4 := by decide
theorem nI_ne1 {j : Nat} (h : j < 1000) : ¬ nI j = -1 := by rw [i_eq, nI_T (by omega), tm1]; omega
theorem nI_ne2 {j : Nat} (h : j < 1000) : ¬ nI j = -2 := by rw [i_eq, nI_T (by omega), tm2]; omega
section dayS
variable {n k : Nat} {K : SS} {lo : Int32} {L : List Nat} {m : Nat}
theorem HH.free {D : SS} (h : HH n k D) (hk : k ≤ 8) {g t : Nat} (hg : g < k) (q : ¬ D 1 g = 5) (ht : t < n) : ¬ D 7 t = nI g := by
  intro e
  rcases h t ht with z | z | ⟨g', h1, h2, h3⟩
  · rw [z] at e; exact nI_ne1 (by omega) e.symm
  · rw [z] at e; exact nI_ne2 (by omega) e.symm
  · rw [h2, nI_eq_iff (by omega) (by omega)] at e
    subst e; exact q h3
theorem sitD_rows (D : SS) (g : Nat) (x : Int32) (c : Nat) : sitD n K L D g x 1 c = (if c = g then 5 else D 1 c) ∧ sitD n K L D g x 3 c = (if c = g then x else D 3 c) ∧ sitD n K L D g x 4 c = (if c = g then x + stayN K g (sumL L (wv D (nI g))) else D 4 c) ∧ sitD n K L D g x 7 = fpD n K D g 7 ∧ sitD n K L D g x 2 c = (if c = g then fp n K D g else D 2 c) ∧ sitD n K L D g x 5 c = (if c = g then x - K 5 g else D 5 c) := by
  unfold sitD
  refine ⟨?_, ?_, ?_, ?_, ?_, ?_⟩
  · simp only [up2_el]; by_cases e : c = g <;> simp [e, fpD_row]
  · simp only [up2_el]; by_cases e : c = g <;> simp [e, fpD_row]
  · simp only [up2_el]; by_cases e : c = g <;> simp [e, fpD_row]
  · rw [up2_row (by omega), up2_row (by omega), up2_row (by omega), up2_row (by omega), up2_row (by omega)]
  · simp only [up2_el]; by_cases e : c = g <;> simp [e, fpD_row]
  · simp only [up2_el]; by_cases e : c = g <;> simp [e, fpD_row]
theorem sit_J (ok : KOk n k K) {D : SS} (hJ : JJ n k K lo m D) {g : Nat} (hg : g < k) (hc : (K 5 g).toInt ≤ m) (hm : m ≤ 129) (hlo : ¬ nI g = lo) : JJ n k K lo m (sitD n K L D g (nI m)) ∧ (m : Int) < (sitD n K L D g (nI m) 4 g).toInt := by
  have hn := ok.1
  obtain ⟨y, y1, y2, ey⟩ := stay_b ok hg (sumL L (wv D (nI g)))
  have e4 : sitD n K L D g (nI m) 4 g = nI (m + y) := by
    rw [(sitD_rows D g (nI m) g).2.2.1, if_pos rfl, ey, nI_add]
  have e4' : (sitD n K L D g (nI m) 4 g).toInt = m + y := by rw [e4, nI_T (by omega)]; omega
  have e1 : sitD n K L D g (nI m) 1 g = 5 := by rw [(sitD_rows D g (nI m) g).1, if_pos rfl]
  have e3 : sitD n K L D g (nI m) 3 g = nI m := by rw [(sitD_rows D g (nI m) g).2.1, if_pos rfl]
  refine ⟨⟨?_, ?_⟩, by rw [e4']; omega⟩
  · intro c hc'
    by_cases e : c = g
    · subst e
      refine ⟨fun _ => ⟨by rw [e4']; omega, by rw [e4']; omega, by rw [e3]; exact nI_ne9 (by omega)⟩, ?_, ?_, ?_, ?_, ?_, ?_, ?_, ?_⟩
      · rw [e1]; intro z; exact absurd z (by decide)
      · rw [e1]; intro z; exact absurd z (by decide)
      · rw [e1]; intro z; exact absurd z (by decide)
      · rw [e1]; intro z; exact absurd z (by decide)
      · simp [e1]
      · intro z; omega
      · intro z; exact absurd z hlo
      · rw [e1]; intro z; exact absurd z (by decide)
    · exact (hJ.1 c hc').same (by rw [(sitD_rows D g (nI m) c).1, if_neg e]) (by rw [(sitD_rows D g (nI m) c).2.1, if_neg e]) (by rw [(sitD_rows D g (nI m) c).2.2.1, if_neg e])
  · intro t ht
    rw [(sitD_rows D g (nI m) 0).2.2.2.1]
    rcases fpD_7 hn K D g t with z | ⟨-, -, z⟩
    · rw [z]
      rcases hJ.2 t ht with w | w | ⟨g', h1, h2, h3⟩
      · exact Or.inl w
      · exact Or.inr (Or.inl w)
      · refine Or.inr (Or.inr ⟨g', h1, h2, ?_⟩)
        rw [(sitD_rows D g (nI m) g').1]
        split
        · rfl
        · exact h3
    · rw [z]; exact Or.inr (Or.inr ⟨g, hg, rfl, e1⟩)
theorem over_J {D : SS} (hk : k ≤ 8) (hJ : JJ n k K lo m D) {g : Nat} (hg : g < k) : JJ n k K lo m (overStep n (nI m) D g) := by
  unfold overStep
  split
  · rename_i q
    obtain ⟨q1, q2⟩ := q
    have pg := hJ.1 g hg
    have r1 : ∀ c, gup n (up2 D 1 g 0) (nI g) 1 c = if c = g then 0 else D 1 c := by
      intro c; unfold gup; simp [up2_el]
    have r3 : ∀ c, gup n (up2 D 1 g 0) (nI g) 3 c = D 3 c := by
      intro c; unfold gup; simp [up2_el]
    have r4 : ∀ c, gup n (up2 D 1 g 0) (nI g) 4 c = D 4 c := by
      intro c; unfold gup; simp [up2_el]
    refine ⟨?_, ?_⟩
    · intro c hc
      by_cases e : c = g
      · subst e
        have e1 : gup n (up2 D 1 c 0) (nI c) 1 c = 0 := by rw [r1, if_pos rfl]
        refine ⟨?_, ?_, ?_, ?_, ?_, ?_, ?_, ?_, ?_⟩
        · rw [e1]; intro z; exact absurd z (by decide)
        · rw [e1]; intro z; exact absurd z (by decide)
        · rw [e1]; intro z; exact absurd z (by decide)
        · intro _; rw [r3]; exact (pg.1 q1).2.2
        · rw [e1]; intro z; exact absurd z (by decide)
        · simp [e1]
        · intro z; have := pg.2.2.2.2.2.2.1 z; rw [q1] at this; exact absurd this (by decide)
        · intro z; have := pg.2.2.2.2.2.2.2.1 z; rw [q1] at this; exact absurd this (by decide)
        · rw [e1]; intro z; exact absurd z (by decide)
      · exact (hJ.1 c hc).same (by rw [r1, if_neg e]) (r3 c) (r4 c)
    · intro t ht
      have r7 : gup n (up2 D 1 g 0) (nI g) 7 t = if D 7 t = nI g then -1 else D 7 t := by
        unfold gup; simp [up2_el, ht]
      rw [r7]
      split
      · exact Or.inl rfl
      · rename_i z
        rcases hJ.2 t ht with w | w | ⟨g', h1, h2, h3⟩
        · exact Or.inl w
        · exact Or.inr (Or.inl w)
        · refine Or.inr (Or.inr ⟨g', h1, h2, ?_⟩)
          rw [r1, if_neg (fun y => z (by rw [h2, y]))]
          exact h3
  · exact hJ
theorem foldP {σ : Type} (step : σ → Nat → σ) (Inv : σ → Prop) (Post : Nat → σ → Prop) : ∀ (l : List Nat) (D : σ), (∀ D g, g ∈ l → Inv D → Inv (step D g) ∧ Post g (step D g)) → (∀ D g g', g ∈ l → Inv D → Post g' D → Post g' (step D g)) → Inv D → Inv (l.foldl step D) ∧ (∀ g, g ∈ l → Post g (l.foldl step D)) ∧ ∀ g, Post g D → Post g (l.foldl step D)
  | [], D, _, _, h => ⟨h, fun g hg => by simp at hg, fun g hg => hg⟩
  | a :: l, D, h1, h2, h => by
    have s := h1 D a (List.mem_cons_self ..) h
    have ih := foldP step Inv Post l (step D a) (fun D g hg => h1 D g (List.mem_cons_of_mem _ hg)) (fun D g g' hg => h2 D g g' (List.mem_cons_of_mem _ hg)) s.1
    rw [List.foldl_cons]
    refine ⟨ih.1, ?_, fun g hg => ih.2.2 g (h2 D a g (List.mem_cons_self ..) h hg)⟩
    intro g hg
    rcases List.mem_cons.mp hg with e | e
    · subst e; exact ih.2.2 g s.2
    · exact ih.2.1 g e
theorem over_all (hk : k ≤ 8) (hL : ∀ g, g ∈ L ↔ g < k ∧ ¬ nI g = lo) {D : SS} (hm : m < 1000) (hJ : JJ n k K lo m D) : JJ n k K lo m (L.foldl (overStep n (nI m)) D) ∧ UU k m (L.foldl (overStep n (nI m)) D) := by
  have h := foldP (overStep n (nI m)) (JJ n k K lo m) (fun g D => D 1 g = 5 → (m : Int) < (D 4 g).toInt) L D ?_ ?_ hJ
  · refine ⟨h.1, ?_⟩
    intro g hg q
    by_cases e : nI g = lo
    · have := (h.1.1 g hg).2.2.2.2.2.2.2.1 e
      rw [q] at this; exact absurd this (by decide)
    · exact h.2.1 g ((hL g).mpr ⟨hg, e⟩) q
  · intro D g hg hJ
    refine ⟨over_J hk hJ ((hL g).mp hg).1, ?_⟩
    unfold overStep
    split
    · rename_i q
      intro z
      have : gup n (up2 D 1 g 0) (nI g) 1 g = 0 := by unfold gup; simp [up2_el]
      rw [this] at z; exact absurd z (by decide)
    · rename_i q
      intro z
      by_cases w : nI m < D 4 g
      · rw [i_lt, nI_T (by omega)] at w; exact w
      · exact absurd ⟨z, w⟩ q
  · intro D g g' hg hJ
    unfold overStep
    split
    · have r1 : gup n (up2 D 1 g 0) (nI g) 1 g' = if g' = g then 0 else D 1 g' := by unfold gup; simp [up2_el]
      have r4 : gup n (up2 D 1 g 0) (nI g) 4 g' = D 4 g' := by unfold gup; simp [up2_el]
      intro hp z
      rw [r1] at z
      rw [r4]
      by_cases e : g' = g
      · rw [if_pos e] at z; exact absurd z (by decide)
      · rw [if_neg e] at z; exact hp z
    · exact fun z => z
end dayS
