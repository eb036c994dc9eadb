def Init (k : Nat) (D : SS) : Prop := (∀ g, g < k → D 1 g = 3 ∧ D 2 g = -9 ∧ D 3 g = -9 ∧ D 4 g = -9 ∧ D 5 g = 0) ∧ ∀ t, t < 6 → D 7 t = -1
def base (o : Nat) (s : SS) (f : Nat → Int32) (l : Nat) : SS := up2 (ups s (o + 6) f) o 10 (nI l)
theorem base_lay (o : Nat) (s D : SS) (f fr : Nat → Int32) (l l2 : Nat) : up2 (ups (lay o (base o s f l) D) (o + 6) fr) o 10 (nI l2) = lay o (base o s fr l2) D := by
  funext a c
  unfold base
  by_cases e1 : a = o
  · subst e1
    by_cases e2 : c = 10
    · subst e2; simp [lay, ups, up2, upd]
    · simp [lay, ups, up2, upd, e2]
  · by_cases e2 : a = o + 6
    · subst e2; simp [lay, ups, up2]
    · simp [lay, ups, up2, e1, e2]
theorem begin_ev {G : GG} {o k : Nat} {K : SS} (hk : k ≤ 8) (hg : CBg G k K) (hck : CK K k) (lo : Int32) (s : SS) (h7 : s 7 1 = nI k) (ho : 8 ≤ o) :
    ∃ f D, CD_begin G o s lo = some (lay o (base o s f (ordL K lo k).length) D) ∧ arr f (ordL K lo k) ∧ Init k D := by
  unfold CD_begin
  rw [fill_ev G (o + 7) 6 (by omega), bnd0_s]
  refine loopQ k (fun f i s' => CD_begin_15 G o f lo (nI i) s') (fun i s' => ∃ f D, s' = lay o (base o s f (ordL K lo i).length) D ∧ arr f (ordL K lo i) ∧ Init i D) (fun r => ∃ f D, r = some (lay o (base o s f (ordL K lo k).length) D) ∧ arr f (ordL K lo k) ∧ Init k D) ?_ ?_ fuel 0 _ (by omega) (by have := fuel_big; omega) ?_
  · rintro f i s' hi ⟨fo, D, rfl, harr, hin⟩
    right
    have r7 : lay o (base o s fo (ordL K lo i).length) D 7 1 = nI k := by
      rw [lay_lo _ _ (by omega)]
      unfold base
      rw [up2_row (by omega), ups_row (by omega), h7]
    try dsimp only
    rw [CD_begin_15, r7, if_neg (le_no hi (by omega))]
    simp only [inb_nI (show i < 8 by omega) (show 8 < 2147483648 by omega), if_true, cl_nI (show i < 2147483648 by omega), lay_u1, lay_u2, lay_u3, lay_u4, lay_u5]
    have hin' : Init (i + 1) (up2 (up2 (up2 (up2 (up2 D 1 i 3) 2 i (-9)) 3 i (-9)) 4 i (-9)) 5 i 0) := by
      refine ⟨fun g hg => ?_, fun t ht => by rw [up2_row (by omega), up2_row (by omega), up2_row (by omega), up2_row (by omega), up2_row (by omega)]; exact hin.2 t ht⟩
      by_cases e : g = i
      · subst e; simp [up2_el]
      · simpa [up2_el, e] using hin.1 g (by omega)
    generalize up2 (up2 (up2 (up2 (up2 D 1 i 3) 2 i (-9)) 3 i (-9)) 4 i (-9)) 5 i 0 = D' at hin'
    obtain ⟨c, hc, ec⟩ := hck i hi
    have hcki : CK K i := fun g hg => hck g (by omega)
    obtain ⟨P, Q, h1, h2, h3, h4⟩ := ordL_step (lo := lo) hc ec
    unfold CD_begin_74
    rw [nI_s]
    by_cases q : nI i = lo
    · rw [if_pos q]
      rw [if_pos q, ← h1] at h4
      exact ⟨_, rfl, fo, D', by rw [h4], by rw [h4]; exact harr, hin'⟩
    · rw [if_neg q]
      rw [if_neg q] at h4
      have hlen : P.length + Q.length ≤ i := by
        have := ordL_len (lo := lo) hcki
        rw [h1, List.length_append] at this; exact this
      have hmem : ∀ p, p ∈ P ++ Q → p < k := by
        intro p hp
        rw [← h1, ordL_mem hcki] at hp
        omega
      have b10 : lay o (base o s fo (ordL K lo i).length) D' o 10 = nI (P.length + Q.length) := by
        rw [lay_o, h1, List.length_append]
        unfold base
        rw [up2_at]
      have b6 : lay o (base o s fo (ordL K lo i).length) D' (o + 6) = fo := by
        rw [lay_6]
        unfold base
        rw [up2_row (by omega), ups_at]
      obtain ⟨fr, e1, e2⟩ := list_loop G o k K hk hg P Q i hi (fun p hp => hmem p (List.mem_append_left _ hp)) (fun p hp => hmem p (List.mem_append_right _ hp)) (by omega) h2 h3 Q.length fuel (lay o (base o s fo (ordL K lo i).length) D') (Nat.le_refl _) (by have := fuel_big; omega) b10
        (by intro j hj; rw [b6, ← h1]; exact harr j (by rw [h1, List.length_append]; exact hj)) (by intro j hj hj2; omega)
      unfold CD_list
      rw [b10, e1, bnd0_s]
      refine ⟨_, rfl, fr, D', ?_, by rw [h4]; exact e2, hin'⟩
      rw [base_lay, h4, List.length_append, List.length_cons]
      rfl
  · rintro f s' ⟨fo, D, rfl, harr, hin⟩
    have r7 : lay o (base o s fo (ordL K lo k).length) D 7 1 = nI k := by
      rw [lay_lo _ _ (by omega)]
      unfold base
      rw [up2_row (by omega), ups_row (by omega), h7]
    try dsimp only
    rw [CD_begin_15, r7, if_pos (le_ye (Nat.le_refl k) (by omega))]
    exact ⟨fo, D, rfl, harr, hin⟩
  · have e0 : ordL K lo 0 = [] := by
      unfold ordL
      exact (fm_same (f := bkt K lo 0) (g := fun _ => []) (List.range 100) (fun a _ => rfl)).trans (by simp)
    refine ⟨s (o + 6), fun j => if j = 7 then (fun t => if t < 6 then -1 else s (o + 7) t) else s (o + j), ?_, ?_, ?_, ?_⟩
    · rw [e0]
      funext a c
      unfold base
      by_cases f1 : a = o
      · subst f1; simp [lay, ups, up2]; rfl
      by_cases f2 : a = o + 1
      · subst f2; simp [lay, ups, up2]
      by_cases f3 : a = o + 2
      · subst f3; simp [lay, ups, up2]
      by_cases f4 : a = o + 3
      · subst f4; simp [lay, ups, up2]
      by_cases f5 : a = o + 4
      · subst f5; simp [lay, ups, up2]
      by_cases f6 : a = o + 5
      · subst f6; simp [lay, ups, up2]
      by_cases f7 : a = o + 7
      · subst f7; simp [lay, ups, up2]
      by_cases f8 : a = o + 6
      · subst f8; simp [lay, ups, up2]
      · simp [lay, ups, up2, f1, f2, f3, f4, f5, f6, f7, f8]
    · rw [e0]; intro i hi; simp at hi
    · intro g hg; omega
    · intro t ht; simp [ht]
theorem CB_mk {G : GG} {o h n k : Nat} {K : SS} {lo : Int32} {s : SS} {f : Nat → Int32} (ho : h + 2 < o) (hh : h = 1 ∨ h = 4) (hn : n ≤ 6) (hk : k ≤ 8) (hC : CBh h n K s) (hg : CBg G k K) (hck : CK K k) (hf : arr f (ordL K lo k)) :
    CB G o h n k K (ordL K lo k) (base o (up2 s o 9 (hcode h)) f (ordL K lo k).length) := by
  have r : ∀ a, a < o → base o (up2 s o 9 (hcode h)) f (ordL K lo k).length a = s a := by
    intro a ha
    unfold base
    rw [up2_row (by omega), ups_row (by omega), up2_row (by omega)]
  refine ⟨by omega, ?_, hn, hk, ?_, ?_, ?_, ?_, ?_, hg⟩
  · unfold base
    rw [up2_el, if_neg (by omega), ups_row (by omega), up2_at]
    rcases hh with rfl | rfl <;> rfl
  · unfold CBh
    rw [r h (by omega), r (h + 1) (by omega), r (h + 2) (by omega)]
    exact hC
  · unfold base; rw [up2_at]
  · have := ordL_len (lo := lo) hck; omega
  · intro i hi
    unfold base
    rw [up2_row (by omega), ups_at]
    exact hf i hi
  · intro g hg
    exact ((ordL_mem hck).mp hg).1
