theorem range_fold {σ : Type} (step : σ → Nat → σ) (Inv : Nat → σ → Prop) (N : Nat) : ∀ (i : Nat) (D : σ), (∀ j D, j < N → Inv j D → Inv (j + 1) (step D j)) → i ≤ N → Inv 0 D → Inv i ((List.range i).foldl step D)
  | 0, D, _, _, h => h
  | i + 1, D, hs, hi, h => by
    rw [List.range_succ, List.foldl_append]
    exact hs i _ (by omega) (range_fold step Inv N i D hs (by omega) h)
section dayT
variable {n k : Nat} {K : SS} {lo : Int32} {L : List Nat} {m : Nat}
theorem drive_inv (ok : KOk n k K) {D : SS} (hm : m < 1000) (hJ : JJ n k K lo m D) (hU : UU k m D) {i : Nat} (hi8 : i ≤ 8) : JJ n k K lo m ((List.range i).foldl (riseStep n K (nI m) (fun g => sunH K D (nI g) n)) (dr2 K (dr1 n K D n) n)) ∧ UU k m ((List.range i).foldl (riseStep n K (nI m) (fun g => sunH K D (nI g) n)) (dr2 K (dr1 n K D n) n)) ∧ ∀ g, i ≤ g → g < 8 → sunH K D (nI g) n = true → g < k ∧ (List.range i).foldl (riseStep n K (nI m) (fun g => sunH K D (nI g) n)) (dr2 K (dr1 n K D n) n) 1 g = 5 ∧ ∀ t, t < n → ¬ (List.range i).foldl (riseStep n K (nI m) (fun g => sunH K D (nI g) n)) (dr2 K (dr1 n K D n) n) 7 t = nI g := by
  have hn := ok.1
  have hk := ok.2.1
  refine range_fold (riseStep n K (nI m) (fun g => sunH K D (nI g) n)) (fun i D' => JJ n k K lo m D' ∧ UU k m D' ∧ ∀ g, i ≤ g → g < 8 → sunH K D (nI g) n = true → g < k ∧ D' 1 g = 5 ∧ ∀ t, t < n → ¬ D' 7 t = nI g) 8 i (dr2 K (dr1 n K D n) n) ?_ hi8 ?_
  · rintro i D' hi ⟨hJ', hU', hR⟩
    unfold riseStep
    by_cases q : sunH K D (nI i) n = true
    · obtain ⟨hik, h5, hfr⟩ := hR i (Nat.le_refl i) hi q
      rw [if_pos q]
      have pg := hJ'.1 i hik
      by_cases q2 : fp n K D' i = -9
      · rw [if_pos q2]
        have r1 : ∀ c, up2 (up2 D' 1 i 0) 4 i (nI m) 1 c = if c = i then 0 else D' 1 c := by intro c; simp [up2_el]
        have r3 : ∀ c, up2 (up2 D' 1 i 0) 4 i (nI m) 3 c = D' 3 c := by intro c; simp [up2_el]
        have r4 : ∀ c, up2 (up2 D' 1 i 0) 4 i (nI m) 4 c = if c = i then nI m else D' 4 c := by intro c; simp [up2_el]
        have r7 : ∀ c, up2 (up2 D' 1 i 0) 4 i (nI m) 7 c = D' 7 c := by intro c; simp [up2_el]
        refine ⟨⟨?_, ?_⟩, ?_, ?_⟩
        · intro c hc
          by_cases e : c = i
          · subst e
            have e1 : up2 (up2 D' 1 c 0) 4 c (nI m) 1 c = 0 := by rw [r1, if_pos rfl]
            refine ⟨?_, ?_, ?_, ?_, ?_, ?_, ?_, ?_, ?_⟩
            · rw [e1]; intro z; exact absurd z (by decide)
            · rw [e1]; intro z; exact absurd z (by decide)
            · rw [e1]; intro z; exact absurd z (by decide)
            · intro _; rw [r3]; exact (pg.1 h5).2.2
            · rw [e1]; intro z; exact absurd z (by decide)
            · simp [e1]
            · intro z; have := pg.2.2.2.2.2.2.1 z; rw [h5] at this; exact absurd this (by decide)
            · intro z; have := pg.2.2.2.2.2.2.2.1 z; rw [h5] at this; exact absurd this (by decide)
            · rw [e1]; intro z; exact absurd z (by decide)
          · exact (hJ'.1 c hc).same (by rw [r1, if_neg e]) (r3 c) (by rw [r4, if_neg e])
        · intro t ht
          rw [r7]
          rcases hJ'.2 t ht with w | w | ⟨g', h1, h2, h3⟩
          · exact Or.inl w
          · exact Or.inr (Or.inl w)
          · refine Or.inr (Or.inr ⟨g', h1, h2, ?_⟩)
            rw [r1, if_neg (fun y => hfr t ht (by rw [h2, y]))]
            exact h3
        · intro c hc z
          rw [r1] at z
          rw [r4]
          by_cases e : c = i
          · rw [if_pos e] at z; exact absurd z (by decide)
          · rw [if_neg e] at z ⊢; exact hU' c hc z
        · intro g h1 h2 h3
          obtain ⟨w1, w2, w3⟩ := hR g (by omega) h2 h3
          refine ⟨w1, by rw [r1, if_neg (by omega)]; exact w2, fun t ht => by rw [r7]; exact w3 t ht⟩
      · rw [if_neg q2]
        refine ⟨⟨?_, ?_⟩, ?_, ?_⟩
        · intro c hc
          exact (hJ'.1 c hc).same (by rw [fpD_row (by omega)]) (by rw [fpD_row (by omega)]) (by rw [fpD_row (by omega)])
        · intro t ht
          rcases fpD_7 hn K D' i t with z | ⟨-, -, z⟩
          · rw [z, fpD_row (show 1 ≠ 7 by omega)]; exact hJ'.2 t ht
          · rw [z, fpD_row (show 1 ≠ 7 by omega)]; exact Or.inr (Or.inr ⟨i, hik, rfl, h5⟩)
        · intro c hc
          rw [fpD_row (show 1 ≠ 7 by omega), fpD_row (show 4 ≠ 7 by omega)]
          exact hU' c hc
        · intro g h1 h2 h3
          obtain ⟨w1, w2, w3⟩ := hR g (by omega) h2 h3
          refine ⟨w1, by rw [fpD_row (by omega)]; exact w2, fun t ht => ?_⟩
          rcases fpD_7 hn K D' i t with z | ⟨-, -, z⟩
          · rw [z]; exact w3 t ht
          · rw [z, nI_eq_iff (by omega) (by omega)]; omega
    · rw [if_neg q]
      exact ⟨hJ', hU', fun g h1 h2 h3 => hR g (by omega) h2 h3⟩
  · have ra : ∀ a c, a ≠ 7 → dr2 K (dr1 n K D n) n a c = D a c := by
      intro a c h7; unfold dr2 dr1; simp [h7]
    have r7 : ∀ t, t < n → dr2 K (dr1 n K D n) n 7 t = if K 1 t = 0 then -2 else if ¬ D 7 t < 0 ∧ sunH K D (D 7 t) n = true then -1 else D 7 t := by
      intro t ht; unfold dr2 dr1; simp [ht]
    refine ⟨⟨?_, ?_⟩, ?_, ?_⟩
    · intro c hc
      exact (hJ.1 c hc).same (ra 1 c (by omega)) (ra 3 c (by omega)) (ra 4 c (by omega))
    · intro t ht
      rw [r7 t ht]
      split
      · exact Or.inr (Or.inl rfl)
      · split
        · exact Or.inl rfl
        · rcases hJ.2 t ht with w | w | ⟨g', h1, h2, h3⟩
          · exact Or.inl w
          · exact Or.inr (Or.inl w)
          · exact Or.inr (Or.inr ⟨g', h1, h2, by rw [ra 1 g' (by omega)]; exact h3⟩)
    · intro c hc
      rw [ra 1 c (by omega), ra 4 c (by omega)]
      exact hU c hc
    · intro g _ h8 hs
      obtain ⟨t, ht, -, e⟩ := sunH_iff.mp hs
      rcases hJ.2 t ht with z | z | ⟨g', hg', z, z5⟩
      · rw [z] at e; exact absurd e.symm (nI_ne1 (by omega))
      · rw [z] at e; exact absurd e.symm (nI_ne2 (by omega))
      · rw [z, nI_eq_iff (by omega) (by omega)] at e
        subst e
        refine ⟨hg', by rw [ra 1 _ (by omega)]; exact z5, ?_⟩
        intro t' ht' e'
        rw [r7 t' ht'] at e'
        split at e'
        · exact nI_ne2 (by omega) e'.symm
        · split at e'
          · exact nI_ne1 (by omega) e'.symm
          · rename_i w
            apply w
            rw [e']
            exact ⟨nI_n0 (by omega), hs⟩
theorem drive_all (ok : KOk n k K) {D : SS} (hm : m < 1000) (hJ : JJ n k K lo m D) (hU : UU k m D) : JJ n k K lo m (driveD n K (nI m) D) ∧ UU k m (driveD n K (nI m) D) := by
  have h := drive_inv ok hm hJ hU (Nat.le_refl 8)
  exact ⟨h.1, h.2.1⟩
def WW (n k : Nat) (K : SS) (m : Nat) (D : SS) : Prop := ∀ g, g < k → D 1 g = 4 → fp n K D g = -9 ∧ (m : Int) < (K 5 g).toInt + (K 0 2).toInt
theorem sub_T {c : Nat} {x : Int32} (hm : m < 1000) (hc : c < 100) (e : x = nI c) : (nI m - x).toInt = (m : Int) - c := by
  subst e
  have h1 := nI_T (show m < 2147483648 by omega)
  have h2 := nI_T (show c < 2147483648 by omega)
  rw [i_sub (by omega) (by omega), h1, h2]
theorem sit_free (hn : n ≤ 6) {D : SS} {g : Nat} {x : Int32} : ∀ t, t < n → sitD n K L D g x 7 t = -1 → D 7 t = -1 := by
  intro t ht e
  rw [(sitD_rows D g x 0).2.2.2.1] at e
  rcases fpD_7 hn K D g t with z | ⟨z, -, -⟩
  · rw [z] at e; exact e
  · exact z
theorem call_J (ok : KOk n k K) {D : SS} (hm : m < 1000) (hJ : JJ n k K lo m D) (hU : UU k m D) {g : Nat} (hg : g < k) (hlo : ¬ nI g = lo) : JJ n k K lo m (callStep n K L (nI m) D g) ∧ UU k m (callStep n K L (nI m) D g) ∧ (callStep n K L (nI m) D g 1 g = 4 → fp n K (callStep n K L (nI m) D g) g = -9 ∧ (m : Int) < (K 5 g).toInt + (K 0 2).toInt) := by
  have hn := ok.1
  have hk := ok.2.1
  have hp := ok.2.2.1
  obtain ⟨-, -, ⟨c, hc, ec⟩, -⟩ := ok.2.2.2 g hg
  have tc : (K 5 g).toInt = c := by rw [ec, nI_T (by omega)]
  have pg := hJ.1 g hg
  unfold callStep
  by_cases q : D 1 g = 4
  · have pw := pg.2.1 q
    rw [if_pos q]
    by_cases q2 : fp n K D g = -9
    · rw [if_pos q2]
      by_cases q3 : nI m - K 5 g < K 0 2
      · rw [if_pos q3]
        refine ⟨hJ, hU, fun _ => ⟨q2, ?_⟩⟩
        rw [i_lt, sub_T hm hc ec] at q3
        omega
      · rw [if_neg q3]
        have r1 : ∀ c, up2 (up2 D 1 g 1) 5 g (nI m - K 5 g) 1 c = if c = g then 1 else D 1 c := by intro c; simp [up2_el]
        have r3 : ∀ c, up2 (up2 D 1 g 1) 5 g (nI m - K 5 g) 3 c = D 3 c := by intro c; simp [up2_el]
        have r4 : ∀ c, up2 (up2 D 1 g 1) 5 g (nI m - K 5 g) 4 c = D 4 c := by intro c; simp [up2_el]
        have r7 : ∀ c, up2 (up2 D 1 g 1) 5 g (nI m - K 5 g) 7 c = D 7 c := by intro c; simp [up2_el]
        refine ⟨⟨?_, ?_⟩, ?_, ?_⟩
        · intro c hc
          by_cases e : c = g
          · subst e
            have e1 : up2 (up2 D 1 c 1) 5 c (nI m - K 5 c) 1 c = 1 := by rw [r1, if_pos rfl]
            refine ⟨?_, ?_, ?_, ?_, ?_, ?_, ?_, ?_, ?_⟩
            · rw [e1]; intro z; exact absurd z (by decide)
            · rw [e1]; intro z; exact absurd z (by decide)
            · rw [e1]; intro z; exact absurd z (by decide)
            · rw [e1]; intro z; exact absurd z (by decide)
            · intro _; rw [r3]; exact pw.2.2
            · simp [e1]
            · intro z; omega
            · intro z; exact absurd z hlo
            · rw [e1]; intro z; exact absurd z (by decide)
          · exact (hJ.1 c hc).same (by rw [r1, if_neg e]) (r3 c) (r4 c)
        · intro t ht
          rw [r7]
          rcases hJ.2 t ht with w | w | ⟨g', h1, h2, h3⟩
          · exact Or.inl w
          · exact Or.inr (Or.inl w)
          · refine Or.inr (Or.inr ⟨g', h1, h2, ?_⟩)
            rw [r1, if_neg (fun y => by rw [y] at h3; rw [q] at h3; exact absurd h3 (by decide))]
            exact h3
        · intro c hc z
          rw [r1] at z
          rw [r4]
          by_cases e : c = g
          · rw [if_pos e] at z; exact absurd z (by decide)
          · rw [if_neg e] at z; exact hU c hc z
        · intro z
          rw [r1, if_pos rfl] at z; exact absurd z (by decide)
    · rw [if_neg q2]
      have s := sit_J (L := L) ok hJ hg pw.1 (by omega) hlo
      refine ⟨s.1, ?_, ?_⟩
      · intro c hc z
        by_cases e : c = g
        · subst e; exact s.2
        · rw [(sitD_rows D g (nI m) c).1, if_neg e] at z
          rw [(sitD_rows D g (nI m) c).2.2.1, if_neg e]
          exact hU c hc z
      · intro z
        rw [(sitD_rows D g (nI m) g).1, if_pos rfl] at z; exact absurd z (by decide)
  · rw [if_neg q]
    exact ⟨hJ, hU, fun z => absurd z q⟩
theorem call_free (hn : n ≤ 6) {D : SS} {g : Nat} {x : Int32} : (∀ t, t < n → callStep n K L x D g 7 t = -1 → D 7 t = -1) ∧ ∀ c, callStep n K L x D g 1 c = 4 → D 1 c = 4 := by
  unfold callStep
  repeat' split
  · exact ⟨fun t ht e => e, fun c e => e⟩
  · refine ⟨fun t ht e => by simpa [up2_el] using e, fun c e => ?_⟩
    simp only [up2_el] at e
    by_cases z : c = g
    · simp [z] at e
    · simpa [z] using e
  · refine ⟨fun t ht e => sit_free hn t ht e, fun c e => ?_⟩
    rw [(sitD_rows D g x c).1] at e
    split at e
    · exact absurd e (by decide)
    · exact e
  · exact ⟨fun t ht e => e, fun c e => e⟩
theorem call_all (ok : KOk n k K) (hL : ∀ g, g ∈ L ↔ g < k ∧ ¬ nI g = lo) {D : SS} (hm : m < 1000) (hJ : JJ n k K lo m D) (hU : UU k m D) : JJ n k K lo m (L.foldl (callStep n K L (nI m)) D) ∧ UU k m (L.foldl (callStep n K L (nI m)) D) ∧ WW n k K m (L.foldl (callStep n K L (nI m)) D) := by
  have h := foldP (callStep n K L (nI m)) (fun D => JJ n k K lo m D ∧ UU k m D) (fun g D => D 1 g = 4 → fp n K D g = -9 ∧ (m : Int) < (K 5 g).toInt + (K 0 2).toInt) L D ?_ ?_ ⟨hJ, hU⟩
  · refine ⟨h.1.1, h.1.2, ?_⟩
    intro g hg q
    by_cases e : nI g = lo
    · have := (h.1.1.1 g hg).2.2.2.2.2.2.2.1 e
      rw [q] at this; exact absurd this (by decide)
    · exact h.2.1 g ((hL g).mpr ⟨hg, e⟩) q
  · rintro D g hg ⟨hJ, hU⟩
    have := call_J (L := L) ok hm hJ hU ((hL g).mp hg).1 ((hL g).mp hg).2
    exact ⟨⟨this.1, this.2.1⟩, this.2.2⟩
  · rintro D g g' hg - hp z
    have f := call_free (K := K) (L := L) ok.1 (D := D) (g := g) (x := nI m)
    have := hp (f.2 g' z)
    exact ⟨fp_mono ok.1 this.1 f.1, this.2⟩
def CC (k : Nat) (K : SS) (lo : Int32) (m : Nat) (D : SS) : Prop := ∀ g, g < k → D 1 g = 3 → ¬ nI g = lo → (m : Int) < (K 5 g).toInt
theorem come_J (ok : KOk n k K) {D : SS} (hm : m < 1000) (hJ : JJ n k K lo m D) (hU : UU k m D) (hW : WW n k K m D) {g : Nat} (hg : g < k) (hlo : ¬ nI g = lo) : JJ n k K lo m (comeStep n K L (nI m) D g) ∧ UU k m (comeStep n K L (nI m) D g) ∧ WW n k K m (comeStep n K L (nI m) D g) ∧ ¬ (comeStep n K L (nI m) D g 1 g = 3 ∧ K 5 g = nI m) := by
  have hn := ok.1
  have hk := ok.2.1
  have hp := ok.2.2.1
  obtain ⟨-, -, ⟨c, hc, ec⟩, -⟩ := ok.2.2.2 g hg
  have tc : (K 5 g).toInt = c := by rw [ec, nI_T (by omega)]
  have pg := hJ.1 g hg
  unfold comeStep
  by_cases q : D 1 g = 3 ∧ K 5 g = nI m
  · rw [if_pos q]
    obtain ⟨q0, q1⟩ := q
    have hcm : c = m := by rw [ec, nI_eq_iff (by omega) (by omega)] at q1; exact q1
    have sim : ∀ v : Int32, (v = 1 ∨ v = 2 ∨ (v = 4 ∧ 0 < (K 0 2).toInt ∧ fp n K D g = -9)) → JJ n k K lo m (up2 D 1 g v) ∧ UU k m (up2 D 1 g v) ∧ WW n k K m (up2 D 1 g v) ∧ ¬ (up2 D 1 g v 1 g = 3 ∧ K 5 g = nI m) := by
      intro v hv
      have r1 : ∀ c, up2 D 1 g v 1 c = if c = g then v else D 1 c := by intro c; simp [up2_el]
      have r3 : ∀ c, up2 D 1 g v 3 c = D 3 c := by intro c; simp [up2_el]
      have r4 : ∀ c, up2 D 1 g v 4 c = D 4 c := by intro c; simp [up2_el]
      have r7 : ∀ c, up2 D 1 g v 7 c = D 7 c := by intro c; simp [up2_el]
      have v5 : ¬ v = 5 := by rcases hv with e | e | e <;> (try rw [e]) <;> (try rw [e.1]) <;> decide
      have v3 : ¬ v = 3 := by rcases hv with e | e | e <;> (try rw [e]) <;> (try rw [e.1]) <;> decide
      have v0 : ¬ v = 0 := by rcases hv with e | e | e <;> (try rw [e]) <;> (try rw [e.1]) <;> decide
      refine ⟨⟨?_, ?_⟩, ?_, ?_, ?_⟩
      · intro c' hc'
        by_cases e : c' = g
        · subst e
          have e1 : up2 D 1 c' v 1 c' = v := by rw [r1, if_pos rfl]
          refine ⟨?_, ?_, ?_, ?_, ?_, ?_, ?_, ?_, ?_⟩
          · rw [e1]; intro z; exact absurd z v5
          · intro _; rw [r3]; exact ⟨by omega, by omega, pg.2.2.1 q0⟩
          · rw [e1]; intro z; exact absurd z v3
          · rw [e1]; intro z; exact absurd z v0
          · intro _; rw [r3]; exact pg.2.2.1 q0
          · rw [e1]
            rcases hv with e | e | e
            · simp [e]
            · simp [e]
            · simp [e.1]
          · intro z; omega
          · intro z; exact absurd z hlo
          · rw [e1]; intro z; exact absurd z v3
        · exact (hJ.1 c' hc').same (by rw [r1, if_neg e]) (r3 c') (r4 c')
      · intro t ht
        rw [r7]
        rcases hJ.2 t ht with w | w | ⟨g', h1, h2, h3⟩
        · exact Or.inl w
        · exact Or.inr (Or.inl w)
        · refine Or.inr (Or.inr ⟨g', h1, h2, ?_⟩)
          rw [r1, if_neg (fun y => by rw [y] at h3; rw [q0] at h3; exact absurd h3 (by decide))]
          exact h3
      · intro c' hc' z
        rw [r1] at z
        rw [r4]
        by_cases e : c' = g
        · rw [if_pos e] at z; exact absurd z v5
        · rw [if_neg e] at z; exact hU c' hc' z
      · intro c' hc' z
        rw [r1] at z
        by_cases e : c' = g
        · subst e
          rw [if_pos rfl] at z
          rcases hv with e | e | e
          · rw [e] at z; exact absurd z (by decide)
          · rw [e] at z; exact absurd z (by decide)
          · exact ⟨fp_mono hn e.2.2 (fun t ht w => by rw [r7] at w; exact w), by omega⟩
        · rw [if_neg e] at z
          have := hW c' hc' z
          exact ⟨fp_mono hn this.1 (fun t ht w => by rw [r7] at w; exact w), this.2⟩
      · rw [r1, if_pos rfl]; intro z; exact v3 z.1
    by_cases q2 : K 8 g ≤ takenN D n
    · rw [if_pos q2]
      by_cases q3 : fp n K D g = -9
      · rw [if_pos q3]
        by_cases q4 : K 0 2 ≤ 0
        · rw [if_pos q4]; exact sim 1 (Or.inl rfl)
        · rw [if_neg q4]
          refine sim 4 (Or.inr (Or.inr ⟨rfl, ?_, q3⟩))
          rw [i_le, t0] at q4; omega
      · rw [if_neg q3]
        have s := sit_J (L := L) ok hJ hg (by omega) (by omega) hlo
        refine ⟨s.1, ?_, ?_, ?_⟩
        · intro c hc z
          by_cases e : c = g
          · subst e; exact s.2
          · rw [(sitD_rows D g (nI m) c).1, if_neg e] at z
            rw [(sitD_rows D g (nI m) c).2.2.1, if_neg e]
            exact hU c hc z
        · intro c hc z
          rw [(sitD_rows D g (nI m) c).1] at z
          split at z
          · exact absurd z (by decide)
          · have := hW c hc z
            exact ⟨fp_mono hn this.1 (sit_free hn), this.2⟩
        · rw [(sitD_rows D g (nI m) g).1, if_pos rfl]; intro z; exact absurd z.1 (by decide)
    · rw [if_neg q2]; exact sim 2 (Or.inr (Or.inl rfl))
  · rw [if_neg q]
    exact ⟨hJ, hU, hW, q⟩
theorem come_3 {D : SS} {g c : Nat} {x : Int32} (h : comeStep n K L x D g 1 c = 3) : D 1 c = 3 := by
  unfold comeStep at h
  split at h
  · rename_i q
    split at h
    · split at h
      · rw [up2_el] at h
        by_cases e : c = g
        · subst e; exact q.1
        · rw [if_neg (fun z => e z.2)] at h; exact h
      · rw [(sitD_rows D g x c).1] at h
        split at h
        · exact absurd h (by decide)
        · exact h
    · rw [up2_el] at h
      by_cases e : c = g
      · subst e; exact q.1
      · rw [if_neg (fun z => e z.2)] at h; exact h
  · exact h
theorem come_all (ok : KOk n k K) (hL : ∀ g, g ∈ L ↔ g < k ∧ ¬ nI g = lo) {D : SS} (hm : m < 1000) (hJ : JJ n k K lo m D) (hU : UU k m D) (hW : WW n k K m D) : JJ n k K lo m (L.foldl (comeStep n K L (nI m)) D) ∧ UU k m (L.foldl (comeStep n K L (nI m)) D) ∧ WW n k K m (L.foldl (comeStep n K L (nI m)) D) ∧ CC k K lo m (L.foldl (comeStep n K L (nI m)) D) := by
  have h := foldP (comeStep n K L (nI m)) (fun D => JJ n k K lo m D ∧ UU k m D ∧ WW n k K m D) (fun g D => ¬ (D 1 g = 3 ∧ K 5 g = nI m)) L D ?_ ?_ ⟨hJ, hU, hW⟩
  · refine ⟨h.1.1, h.1.2.1, h.1.2.2, ?_⟩
    intro g hg q e
    have h1 := h.2.1 g ((hL g).mpr ⟨hg, e⟩)
    have h2 := (h.1.1.1 g hg).2.2.2.2.2.2.2.2 q e
    obtain ⟨-, -, ⟨c, hc, ec⟩, -⟩ := ok.2.2.2 g hg
    have tc : (K 5 g).toInt = c := by rw [ec, nI_T (by omega)]
    have : ¬ c = m := fun z => h1 ⟨q, by rw [ec, z]⟩
    omega
  · rintro D g hg ⟨hJ, hU, hW⟩
    have := come_J (L := L) ok hm hJ hU hW ((hL g).mp hg).1 ((hL g).mp hg).2
    exact ⟨⟨this.1, this.2.1, this.2.2.1⟩, this.2.2.2⟩
  · rintro D g g' hg - hp z
    exact hp ⟨come_3 z.1, z.2⟩
def minD (n : Nat) (K : SS) (L : List Nat) (x : Int32) (D : SS) : SS := L.foldl (comeStep n K L x) (L.foldl (callStep n K L x) (if x = K 0 4 then driveD n K x (L.foldl (overStep n x) D) else L.foldl (overStep n x) D))
def EE (n k : Nat) (K : SS) (lo : Int32) (m : Nat) (D : SS) : Prop := JJ n k K lo m D ∧ UU k m D ∧ WW n k K m D ∧ CC k K lo m D
theorem min_E (ok : KOk n k K) (hL : ∀ g, g ∈ L ↔ g < k ∧ ¬ nI g = lo) {D : SS} (hm : m < 1000) (hJ : JJ n k K lo m D) : EE n k K lo m (minD n K L (nI m) D) := by
  unfold minD EE
  have h1 := over_all ok.2.1 hL hm hJ
  have h2 : JJ n k K lo m (if nI m = K 0 4 then driveD n K (nI m) (L.foldl (overStep n (nI m)) D) else L.foldl (overStep n (nI m)) D) ∧ UU k m (if nI m = K 0 4 then driveD n K (nI m) (L.foldl (overStep n (nI m)) D) else L.foldl (overStep n (nI m)) D) := by
    split
    · exact drive_all ok hm h1.1 h1.2
    · exact h1
  have h3 := call_all ok hL hm h2.1 h2.2
  exact come_all ok hL hm h3.1 h3.2.1 h3.2.2
theorem E_J {D : SS} (h : EE n k K lo m D) : JJ n k K lo (m + 1) D := by
  obtain ⟨hJ, hU, hW, hC⟩ := h
  refine ⟨?_, hJ.2⟩
  intro g hg
  obtain ⟨p1, p2, p3, p4, p5, p6, p7, p8, p9⟩ := hJ.1 g hg
  refine ⟨fun z => ?_, fun z => ?_, p3, p4, p5, p6, fun z => p7 (by omega), p8, fun z w => ?_⟩
  · have h1 := p1 z; have h2 := hU g hg z; exact ⟨by omega, h1.2.1, h1.2.2⟩
  · have h1 := p2 z; have h2 := (hW g hg z).2; exact ⟨by omega, by omega, h1.2.2⟩
  · have := hC g hg z w; omega
theorem J_0 (ok : KOk n k K) {D : SS} (h : Init k D) : JJ n k K lo 0 D := by
  refine ⟨?_, fun t ht => Or.inl (h.2 t (by have := ok.1; omega))⟩
  intro g hg
  obtain ⟨e1, e2, e3, e4, e5⟩ := h.1 g hg
  obtain ⟨-, -, ⟨c, hc, ec⟩, -⟩ := ok.2.2.2 g hg
  have tc : (K 5 g).toInt = c := by rw [ec, nI_T (by omega)]
  refine ⟨?_, ?_, fun _ => e3, ?_, fun _ => e3, ?_, fun _ => e1, fun _ => e1, fun _ _ => by omega⟩
  · rw [e1]; intro z; exact absurd z (by decide)
  · rw [e1]; intro z; exact absurd z (by decide)
  · rw [e1]; intro z; exact absurd z (by decide)
  · simp [e1]
def Quiet (K : SS) (L : List Nat) (x : Nat) (D : SS) : Prop := ¬ nI x = K 0 4 ∧ ∀ g, g ∈ L → (D 1 g = 3 → ¬ K 5 g = nI x) ∧ (D 1 g = 4 → (x : Int) < (K 5 g).toInt + (K 0 2).toInt) ∧ (D 1 g = 5 → (x : Int) < (D 4 g).toInt)
theorem fold_id {σ : Type} {step : σ → Nat → σ} : ∀ (l : List Nat) (D : σ), (∀ g, g ∈ l → step D g = D) → l.foldl step D = D
  | [], _, _ => rfl
  | a :: l, D, h => by
    rw [List.foldl_cons, h a (List.mem_cons_self ..)]
    exact fold_id l D (fun g hg => h g (List.mem_cons_of_mem _ hg))
theorem quiet_id (ok : KOk n k K) (hL : ∀ g, g ∈ L ↔ g < k ∧ ¬ nI g = lo) {D : SS} (hm : m < 900) (hE : EE n k K lo m D) (hQ : Quiet K L (m + 1) D) : minD n K L (nI (m + 1)) D = D := by
  unfold minD
  rw [if_neg hQ.1]
  have e1 : L.foldl (overStep n (nI (m + 1))) D = D := by
    apply fold_id
    intro g hg
    unfold overStep
    rw [if_neg]
    rintro ⟨z1, z2⟩
    apply z2
    have := (hQ.2 g hg).2.2 z1
    rw [i_lt, nI_T (by omega)]; exact this
  have e2 : L.foldl (callStep n K L (nI (m + 1))) D = D := by
    apply fold_id
    intro g hg
    unfold callStep
    split
    · rename_i q
      obtain ⟨-, -, ⟨c, hc, ec⟩, -⟩ := ok.2.2.2 g ((hL g).mp hg).1
      have tc : (K 5 g).toInt = c := by rw [ec, nI_T (by omega)]
      have w := hE.2.2.1 g ((hL g).mp hg).1 q
      have y := (hQ.2 g hg).2.1 q
      rw [if_pos w.1, if_pos]
      rw [i_lt, sub_T (by omega) hc ec]
      omega
    · rfl
  have e3 : L.foldl (comeStep n K L (nI (m + 1))) D = D := by
    apply fold_id
    intro g hg
    unfold comeStep
    rw [if_neg]
    rintro ⟨z1, z2⟩
    exact (hQ.2 g hg).1 z1 z2
  rw [e1, e2, e3]
theorem next_q (ok : KOk n k K) (hL : ∀ g, g ∈ L ↔ g < k ∧ ¬ nI g = lo) (hrain : K 0 4 = -9 ∨ (0 ≤ (K 0 4).toInt ∧ (K 0 4).toInt < 400)) {D : SS} (hm : m < 400) (hE : EE n k K lo m D) : (L.foldl (nextStep K D) (if K 0 4 ≤ nI m then 400 else K 0 4)).toInt ≤ 400 ∧ ∀ x : Nat, m < x → (x : Int) < (L.foldl (nextStep K D) (if K 0 4 ≤ nI m then 400 else K 0 4)).toInt → Quiet K L x D := by
  have hp := ok.2.2.1
  have h := foldP (nextStep K D) (fun c => c.toInt ≤ (if K 0 4 ≤ nI m then (400 : Int32) else K 0 4).toInt) (fun g c => g ∈ L → (D 1 g = 3 → c.toInt ≤ (K 5 g).toInt) ∧ (D 1 g = 4 → c.toInt ≤ (K 5 g).toInt + (K 0 2).toInt) ∧ (D 1 g = 5 → c.toInt ≤ (D 4 g).toInt)) L (if K 0 4 ≤ nI m then 400 else K 0 4) ?_ ?_ (Int.le_refl _)
  · have r0 : (if K 0 4 ≤ nI m then (400 : Int32) else K 0 4).toInt ≤ 400 := by
      split
      · rw [t400]; omega
      · rcases hrain with e | e
        · rw [e, tm9]; omega
        · omega
    refine ⟨by have := h.1; omega, ?_⟩
    intro x hx hr
    have hx4 : x < 400 := by have := h.1; omega
    refine ⟨?_, ?_⟩
    · intro e
      have h1 := h.1
      have hne : ¬ K 0 4 ≤ nI m := by rw [← e]; exact le_no hx (by omega)
      have hx' : (K 0 4).toInt = x := by rw [← e, nI_T (by omega)]
      simp only [if_neg hne] at h1 hr
      omega
    · intro g hg
      obtain ⟨p1, p2, p3⟩ := h.2.1 g hg hg
      refine ⟨fun z e => ?_, fun z => ?_, fun z => ?_⟩
      · have := p1 z; rw [e, nI_T (by omega)] at this; omega
      · have := p2 z; omega
      · have := p3 z; omega
  · intro c g hg hc
    obtain ⟨-, -, ⟨cc, hcc, ec⟩, -⟩ := ok.2.2.2 g ((hL g).mp hg).1
    have tc : (K 5 g).toInt = cc := by rw [ec, nI_T (by omega)]
    have ts : (K 5 g + K 0 2).toInt = (K 5 g).toInt + (K 0 2).toInt := i_add (by omega) (by omega)
    unfold nextStep
    by_cases q3 : D 1 g = 3
    · rw [if_pos q3]
      refine ⟨?_, fun _ => ⟨fun _ => ?_, fun z => absurd z (by rw [q3]; decide), fun z => absurd z (by rw [q3]; decide)⟩⟩
      · split
        · rename_i q; rw [i_lt] at q; omega
        · exact hc
      · split
        · omega
        · rename_i q; rw [i_lt] at q; omega
    · rw [if_neg q3]
      by_cases q4 : D 1 g = 4
      · rw [if_pos q4]
        refine ⟨?_, fun _ => ⟨fun z => absurd z q3, fun _ => ?_, fun z => absurd z (by rw [q4]; decide)⟩⟩
        · split
          · rename_i q; rw [i_lt] at q; omega
          · exact hc
        · split
          · omega
          · rename_i q; rw [i_lt] at q; omega
      · rw [if_neg q4]
        by_cases q5 : D 1 g = 5
        · rw [if_pos q5]
          refine ⟨?_, fun _ => ⟨fun z => absurd z q3, fun z => absurd z q4, fun _ => ?_⟩⟩
          · split
            · rename_i q; rw [i_lt] at q; omega
            · exact hc
          · split
            · omega
            · rename_i q; rw [i_lt] at q; omega
        · rw [if_neg q5]
          exact ⟨hc, fun _ => ⟨fun z => absurd z q3, fun z => absurd z q4, fun z => absurd z q5⟩⟩
  · intro c g g' hg hc hp' hg'
    have le : (nextStep K D c g).toInt ≤ c.toInt := by
      unfold nextStep
      repeat' split
      all_goals first | exact Int.le_refl _ | (rename_i q; rw [i_lt] at q; omega)
    obtain ⟨p1, p2, p3⟩ := hp' hg'
    exact ⟨fun z => by have := p1 z; omega, fun z => by have := p2 z; omega, fun z => by have := p3 z; omega⟩
end dayT
