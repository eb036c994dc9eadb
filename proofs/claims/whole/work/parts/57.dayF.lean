/-! the order of the groups, and a day's beginning -/
def bkt (K : SS) (lo : Int32) (k w : Nat) : List Nat := (List.range k).filter (fun g => decide (K 5 g = nI w) && !decide (nI g = lo))
def ordL (K : SS) (lo : Int32) (k : Nat) : List Nat := (List.range 100).flatMap (bkt K lo k)
theorem fm_same {f g : Nat → List Nat} : ∀ (l : List Nat), (∀ a, a ∈ l → f a = g a) → l.flatMap f = l.flatMap g
  | [], _ => rfl
  | a :: l, h => by
    rw [List.flatMap_cons, List.flatMap_cons, h a (List.mem_cons_self ..), fm_same l (fun b hb => h b (List.mem_cons_of_mem _ hb))]
theorem bkt_s (K : SS) (lo : Int32) (k w : Nat) : bkt K lo (k + 1) w = bkt K lo k w ++ (if K 5 k = nI w ∧ ¬ nI k = lo then [k] else []) := by
  unfold bkt
  rw [List.range_succ, List.filter_append]
  congr 1
  by_cases p : K 5 k = nI w <;> by_cases q : nI k = lo <;> simp [p, q]
theorem bkt_mem {K : SS} {lo : Int32} {k w g : Nat} : g ∈ bkt K lo k w ↔ g < k ∧ K 5 g = nI w ∧ ¬ nI g = lo := by
  unfold bkt
  rw [List.mem_filter, List.mem_range]
  simp
theorem ordL_step {K : SS} {lo : Int32} {i c : Nat} (hc : c < 100) (e : K 5 i = nI c) : ∃ P Q, ordL K lo i = P ++ Q ∧ (∀ p, p ∈ P → K 5 p ≤ K 5 i) ∧ (∀ q, q ∈ Q → ¬ K 5 q ≤ K 5 i) ∧ ordL K lo (i + 1) = if nI i = lo then P ++ Q else P ++ i :: Q := by
  have hr : List.range 100 = List.range c ++ [c] ++ List.range' (c + 1) (99 - c) := by
    rw [← List.range_succ, List.range_eq_range', List.range_eq_range', show c + 1 = 0 + 1 * (c + 1) by omega, List.range'_append]
    congr 1
    omega
  refine ⟨(List.range c).flatMap (bkt K lo i) ++ bkt K lo i c, (List.range' (c + 1) (99 - c)).flatMap (bkt K lo i), ?_, ?_, ?_, ?_⟩
  · unfold ordL
    rw [hr, List.flatMap_append, List.flatMap_append, List.flatMap_singleton]
  · intro p hp
    rw [List.mem_append, List.mem_flatMap] at hp
    rcases hp with ⟨w, hw, hp⟩ | hp
    · rw [List.mem_range] at hw
      rw [(bkt_mem.mp hp).2.1, e]; exact le_ye (by omega) (by omega)
    · rw [(bkt_mem.mp hp).2.1, e]; exact le_ye (by omega) (by omega)
  · intro p hp
    rw [List.mem_flatMap] at hp
    obtain ⟨w, hw, hp⟩ := hp
    rw [List.mem_range'] at hw
    obtain ⟨z, hz, rfl⟩ := hw
    rw [(bkt_mem.mp hp).2.1, e]; exact le_no (by omega) (by omega)
  · unfold ordL
    rw [hr, List.flatMap_append, List.flatMap_append, List.flatMap_singleton, bkt_s]
    have e1 : (List.range c).flatMap (bkt K lo (i + 1)) = (List.range c).flatMap (bkt K lo i) := by
      apply fm_same
      intro w hw
      rw [List.mem_range] at hw
      rw [bkt_s, if_neg (fun z => by rw [e, nI_eq_iff (by omega) (by omega)] at z; omega), List.append_nil]
    have e2 : (List.range' (c + 1) (99 - c)).flatMap (bkt K lo (i + 1)) = (List.range' (c + 1) (99 - c)).flatMap (bkt K lo i) := by
      apply fm_same
      intro w hw
      rw [List.mem_range'] at hw
      obtain ⟨z, hz, rfl⟩ := hw
      rw [bkt_s, if_neg (fun z => by rw [e, nI_eq_iff (by omega) (by omega)] at z; omega), List.append_nil]
    rw [e1, e2]
    by_cases q : nI i = lo
    · rw [if_pos q, if_neg (fun z => z.2 q), List.append_nil]
    · rw [if_neg q, if_pos ⟨e, q⟩]
      simp
def CK (K : SS) (k : Nat) : Prop := ∀ g, g < k → ∃ c, c < 100 ∧ K 5 g = nI c
theorem ordL_mem {K : SS} {lo : Int32} {k g : Nat} (h : CK K k) : g ∈ ordL K lo k ↔ g < k ∧ ¬ nI g = lo := by
  unfold ordL
  rw [List.mem_flatMap]
  constructor
  · rintro ⟨w, -, hp⟩
    have := bkt_mem.mp hp
    exact ⟨this.1, this.2.2⟩
  · rintro ⟨h1, h2⟩
    obtain ⟨c, hc, e⟩ := h g h1
    exact ⟨c, List.mem_range.mpr hc, bkt_mem.mpr ⟨h1, e, h2⟩⟩
theorem CK.lt {K : SS} {k : Nat} (h : CK K (k + 1)) : CK K k := fun g hg => h g (by omega)
theorem ordL_len {K : SS} {lo : Int32} : ∀ {k : Nat}, CK K k → (ordL K lo k).length ≤ k
  | 0, _ => by
    have : ordL K lo 0 = [] := by
      unfold ordL
      exact (fm_same (f := bkt K lo 0) (g := fun _ => []) (List.range 100) (fun a _ => rfl)).trans (by simp)
    rw [this]; simp
  | k + 1, h => by
    obtain ⟨c, hc, e⟩ := h k (by omega)
    obtain ⟨P, Q, h1, -, -, h2⟩ := ordL_step (lo := lo) hc e
    have := ordL_len (lo := lo) h.lt
    rw [h1, List.length_append] at this
    rw [h2]
    split
    · rw [List.length_append]; omega
    · rw [List.length_append, List.length_cons]; omega
theorem foldl_add (f : Nat → Int32) : ∀ (l : List Nat) (a : Int32), l.foldl (fun c g => c + f g) a = a + sumL l f
  | [], a => by simp [sumL]
  | x :: l, a => by
    unfold sumL
    rw [List.foldl_cons, List.foldl_cons, foldl_add f l, foldl_add f l, Int32.zero_add, Int32.add_assoc]
theorem sumL_app (f : Nat → Int32) (l r : List Nat) : sumL (l ++ r) f = sumL l f + sumL r f := by
  rw [sumL, List.foldl_append, foldl_add f r]; rfl
theorem sumL_cons (f : Nat → Int32) (x : Nat) (l : List Nat) : sumL (x :: l) f = f x + sumL l f := by
  rw [sumL, List.foldl_cons, foldl_add f l, Int32.zero_add]
theorem sumL_ord {K : SS} {lo : Int32} (f : Nat → Int32) : ∀ {k : Nat}, CK K k → (∀ g, g < k → nI g = lo → f g = 0) → sumL (ordL K lo k) f = sumL (List.range k) f
  | 0, _, _ => by
    have : ordL K lo 0 = [] := by
      unfold ordL
      exact (fm_same (f := bkt K lo 0) (g := fun _ => []) (List.range 100) (fun a _ => rfl)).trans (by simp)
    rw [this]; rfl
  | k + 1, h, hf => by
    obtain ⟨c, hc, e⟩ := h k (by omega)
    obtain ⟨P, Q, h1, -, -, h2⟩ := ordL_step (lo := lo) hc e
    have ih := sumL_ord (lo := lo) f h.lt (fun g hg => hf g (by omega))
    rw [List.range_succ, sumL_app, ← ih, h1, h2]
    split
    · rename_i q
      rw [sumL_cons, hf k (by omega) q]
      simp [sumL]
    · rw [sumL_app, sumL_app, sumL_cons, sumL_cons]
      have : sumL [] f = 0 := rfl
      rw [this, Int32.add_zero, Int32.add_assoc, Int32.add_comm (f k)]
theorem ups_ups (s : SS) (j : Nat) (f g : Nat → Int32) : ups (ups s j f) j g = ups s j g := by
  funext a
  unfold ups
  split <;> rfl
theorem ups_up2 (s : SS) (j i : Nat) (v : Int32) (g : Nat → Int32) : ups (up2 s j i v) j g = ups s j g := by
  funext a
  unfold ups up2
  split <;> rfl
theorem up2_ups (s : SS) (j i : Nat) (v : Int32) : up2 s j i v = ups s j (upd (s j) i v) := rfl
def arr (f : Nat → Int32) (l : List Nat) : Prop := ∀ i, i < l.length → f i = nI (l.getD i 0)
theorem gD1 {P Q : List Nat} {i : Nat} (h : i < P.length) : (P ++ Q).getD i 0 = P.getD i 0 := by
  rw [List.getD_eq_getElem?_getD, List.getD_eq_getElem?_getD, List.getElem?_append_left h]
theorem gD2 {P Q : List Nat} {i : Nat} : (P ++ Q).getD (P.length + i) 0 = Q.getD i 0 := by
  rw [List.getD_eq_getElem?_getD, List.getD_eq_getElem?_getD, List.getElem?_append_right (by omega)]
  congr 2
  omega
theorem list_loop (G : GG) (o k : Nat) (K : SS) (hk : k ≤ 8) (hg : CBg G k K) (P Q : List Nat) (g : Nat) (hgk : g < k) (hPk : ∀ p, p ∈ P → p < k) (hQk : ∀ p, p ∈ Q → p < k) (hl : P.length + Q.length < 8)
    (hP : ∀ p, p ∈ P → K 5 p ≤ K 5 g) (hQ : ∀ q, q ∈ Q → ¬ K 5 q ≤ K 5 g) :
    ∀ (j f : Nat) (s : SS), j ≤ Q.length → j < f → s o 10 = nI (P.length + Q.length) → (∀ i, i < P.length + j → s (o + 6) i = nI ((P ++ Q).getD i 0)) → (∀ i, j ≤ i → i < Q.length → s (o + 6) (P.length + i + 1) = nI (Q.getD i 0)) →
    ∃ fr, CD_list_5 G o f (nI g) (nI (P.length + j)) s = some (up2 (ups s (o + 6) fr) o 10 (nI (P.length + Q.length + 1))) ∧ arr fr (P ++ g :: Q) := by
  have fin : ∀ (s : SS), s o 10 = nI (P.length + Q.length) → (∀ i, i < P.length → s (o + 6) i = nI ((P ++ Q).getD i 0)) → (∀ i, i < Q.length → s (o + 6) (P.length + i + 1) = nI (Q.getD i 0)) → ∃ fr, CD_list_57 G o (nI g) (nI P.length) s = some (up2 (ups s (o + 6) fr) o 10 (nI (P.length + Q.length + 1))) ∧ arr fr (P ++ g :: Q) := by
    intro s h10 h1 h2
    refine ⟨upd (s (o + 6)) P.length (nI g), ?_, ?_⟩
    · unfold CD_list_57
      rw [if_pos (inb_nI (by omega) (by omega)), cl_nI (by omega), up2_el, if_neg (by omega), h10, nI_s]
      rfl
    · intro i hi
      rw [List.length_append, List.length_cons] at hi
      unfold upd
      by_cases e : i = P.length
      · subst e
        rw [if_pos rfl]
        have := gD2 (P := P) (Q := g :: Q) (i := 0)
        rw [Nat.add_zero] at this
        rw [this]; rfl
      · rw [if_neg e]
        by_cases z : i < P.length
        · rw [h1 i z, gD1 z, gD1 z]
        · obtain ⟨y, rfl⟩ : ∃ y, i = P.length + (y + 1) := ⟨i - P.length - 1, by omega⟩
          rw [gD2]
          exact h2 y (by omega)
  obtain ⟨a7, ha7, -, -, -, -, z7, -⟩ := hg g hgk
  intro j
  induction j with
  | zero =>
    intro f s hj hf h10 h1 h2
    obtain ⟨f, rfl⟩ : ∃ f', f = f' + 1 := ⟨f - 1, by omega⟩
    rw [Nat.add_zero] at h1
    show ∃ fr, CD_list_5 G o (f + 1) (nI g) (nI P.length) s = _ ∧ _
    rw [CD_list_5]
    by_cases e : P.length = 0
    · rw [if_pos (show nI P.length ≤ 0 by rw [e]; decide)]
      exact fin s h10 h1 (fun i hi => h2 i (by omega) hi)
    · have e1 : nI P.length - 1 = nI (P.length - 1) := by
        obtain ⟨p, hp⟩ : ∃ p, P.length = p + 1 := ⟨P.length - 1, by omega⟩
        rw [hp, nI_pred]
        rfl
      rw [if_neg (show ¬ nI P.length ≤ 0 by rw [i_le, nI_T (by omega), t0]; omega), e1, if_pos (inb_nI (by omega) (by omega)), cl_nI (by omega), h1 _ (by omega), gD1 (by omega)]
      have hm : P.getD (P.length - 1) 0 ∈ P := getD_mem' (by omega)
      generalize P.getD (P.length - 1) 0 = p at hm
      have hpk := hPk p hm
      obtain ⟨a4, ha4, -, -, -, -, z4, -⟩ := hg p hpk
      rw [if_pos (inb_nI (by omega) (by omega)), cl_nI (by omega), ha4, if_pos (inb_nI (by omega) (by omega)), cl_nI (by omega), ha7]
      simp only [gld]
      rw [z4, z7, if_pos (hP p hm), if_pos (inb_nI (by omega) (by omega))]
      exact fin s h10 h1 (fun i hi => h2 i (by omega) hi)
  | succ j ih =>
    intro f s hj hf h10 h1 h2
    obtain ⟨f, rfl⟩ : ∃ f', f = f' + 1 := ⟨f - 1, by omega⟩
    rw [CD_list_5]
    have e1 : nI (P.length + (j + 1)) - 1 = nI (P.length + j) := by rw [← Nat.add_assoc, nI_pred]
    have e2 : nI (P.length + (j + 1)) + (-1) = nI (P.length + j) := by rw [← e1, Int32.sub_eq_add_neg]
    rw [if_neg (show ¬ nI (P.length + (j + 1)) ≤ 0 by rw [i_le, nI_T (by omega), t0]; omega), e1, e2, if_pos (inb_nI (by omega) (by omega)), cl_nI (by omega), h1 _ (by omega), gD2]
    have hm : Q.getD j 0 ∈ Q := getD_mem' (by omega)
    have hq : Q.getD j 0 = Q.getD j 0 := rfl
    generalize hqq : Q.getD j 0 = q at hm
    have hpk := hQk q hm
    obtain ⟨a4, ha4, -, -, -, -, z4, -⟩ := hg q hpk
    rw [if_pos (inb_nI (by omega) (by omega)), cl_nI (by omega), ha4, if_pos (inb_nI (by omega) (by omega)), cl_nI (by omega), ha7]
    simp only [gld]
    rw [z4, z7, if_neg (hQ q hm), if_pos (inb_nI (by omega) (by omega)), if_pos (inb_nI (by omega) (by omega)), cl_nI (by omega)]
    obtain ⟨fr, g1, g2⟩ := ih f (up2 s (o + 6) (P.length + (j + 1)) (nI q)) (by omega) (by omega) (by rw [up2_row (by omega)]; exact h10)
      (by intro i hi; rw [up2_el, if_neg (by omega)]; exact h1 i (by omega))
      (by
        intro i hi hi2
        rw [up2_el]
        by_cases e : i = j
        · subst e; rw [if_pos ⟨rfl, by omega⟩, hqq]
        · rw [if_neg (by omega)]; exact h2 i (by omega) hi2)
    refine ⟨fr, ?_, g2⟩
    rw [g1, ups_up2]
