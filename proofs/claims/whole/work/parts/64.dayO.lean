theorem nI_0m1 (j : Nat) : nI (j + 1) - 1 = nI j := nI_pred j
theorem fp_spec {n : Nat} {K D : SS} {g : Nat} (hn : n ≤ 6) (h : ¬ fp n K D g = -9) : ∃ t0, t0 < n ∧ fp n K D g = nI t0 ∧ fpD n K D g 7 t0 = nI g ∧ ∀ t, t < t0 → fpD n K D g 7 t = D 7 t := by
  unfold fp at h ⊢
  unfold fpD
  rcases fp1_c n K D g with e | ⟨j, hj, e⟩
  · rw [if_pos e] at h ⊢
    rw [if_pos e]
    rcases fp2_c n K D g with e2 | ⟨j, hj, e2, -⟩
    · exact absurd e2 h
    · refine ⟨j, by omega, e2, ?_, ?_⟩
      · rw [e2, if_neg (nI_ne9 (by omega)), cl_nI (by omega), up2_el, if_neg (by omega), up2_at]
      · intro t ht
        rw [e2, if_neg (nI_ne9 (by omega)), cl_nI (by omega), up2_el, if_neg (by omega), up2_el, if_neg (by omega)]
  · have ne : ¬ fp1 n K D g = -9 := by rw [e]; exact nI_ne9 (by omega)
    rw [if_neg ne, if_neg ne]
    refine ⟨j, hj, e, ?_, ?_⟩
    · rw [e, cl_nI (by omega), up2_at]
    · intro t ht
      rw [e, cl_nI (by omega), up2_el, if_neg (by omega)]
theorem fpD_hv {n k : Nat} {K D : SS} {g : Nat} (hn : n ≤ 6) (hg : g < k) (hv : HV n k D) : HV n k (fpD n K D g) := by
  intro t ht
  rcases fpD_7 hn K D g t with z | ⟨-, -, z⟩
  · rw [z]; exact hv t ht
  · rw [z]; exact Or.inr (Or.inr ⟨g, hg, rfl⟩)
theorem table_loop {m1 : SS} {g n t0 : Nat} (hg : g < 8) (hn : n ≤ 6) (hP : m1 30 t0 = nI g) (hl : ∀ t, t < t0 → ¬ m1 30 t = nI g) : ∀ (j f : Nat) (m' : SS), j ≤ n → j < f → (∃ v, m' = up2 m1 33 g v ∧ (j ≤ t0 → v = nI t0)) → M_sitsDown_78 f (nI g) (nI j - 1) m' = some (1, up2 m1 33 g (nI t0)) := by
  intro j
  induction j with
  | zero =>
    rintro f m' hj hf ⟨v, e, hv⟩
    obtain ⟨f, rfl⟩ : ∃ f', f = f' + 1 := ⟨f - 1, by omega⟩
    rw [M_sitsDown_78, if_pos (by decide), nb1, if_pos rfl, e, hv (by omega)]
  | succ j ih =>
    rintro f m' hj hf ⟨v, e, hv⟩
    obtain ⟨f, rfl⟩ : ∃ f', f = f' + 1 := ⟨f - 1, by omega⟩
    rw [nI_0m1, M_sitsDown_78, if_neg (nI_n0 (by omega)), if_pos (inb_nI (by omega) (by omega)), if_pos (inb_nI (by omega) (by omega)), cl_nI (by omega), cl_nI (by omega)]
    unfold M_sitsDown_110
    rw [if_pos (inb_nI (by omega) (by omega)), if_pos (inb_nI (by omega) (by omega)), cl_nI (by omega)]
    have e30 : m' 30 j = m1 30 j := by rw [e, up2_row (by omega)]
    have e33 : m' 33 g = v := by rw [e, up2_at]
    have em : nI j + (-1) = nI j - 1 := by rw [Int32.sub_eq_add_neg]
    rw [em, e33, e30]
    by_cases q : m1 30 j = nI g
    · rw [if_pos q]
      refine ih f _ (by omega) (by omega) ⟨nI j, by rw [e, uu], fun h => ?_⟩
      by_cases z : j = t0
      · rw [z]
      · exact absurd q (hl j (by omega))
    · rw [if_neg q]
      refine ih f _ (by omega) (by omega) ⟨v, by rw [e, uu], fun h => hv ?_⟩
      by_cases z : j = t0
      · subst z; exact absurd hP q
      · omega
section dayO
variable {n k : Nat} {K b m D : SS} {lo : Int32} {L : List Nat}
theorem sits30 (ok : KOk n k K) (hM : MB n k K lo b) (hR : RM n k K b m D) (hv : HV n k D) {g : Nat} (hg : g < k) (hfr : ∀ t, t < n → ¬ D 7 t = nI g) (h1 : ¬ D 1 g = 0) (x y W : Int32) (hy : x + (if K 3 g = 0 then K 6 g else 2 * K 6 g) + y = x + stayN K g (sumL L (wv D (nI g)))) :
    (fp n K D g = -9 ∧ M_sitsDown_30 y (nI g) x m = some (0, m)) ∨ (¬ fp n K D g = -9 ∧ ∃ m', M_sitsDown_30 y (nI g) x m = some (1, m') ∧ m' 37 g = D 5 g ∧ RM n k K b (up2 m' 37 g (x - K 5 g)) (sitD n K L D g x)) := by
  have hn := ok.1
  have hk := ok.2.1
  unfold M_sitsDown_30
  rcases takesM ok hM hR hv hg with ⟨q, e⟩ | ⟨q, m', e, hR'⟩
  · left
    exact ⟨q, by rw [e, bnd_s, if_pos rfl, nb0, if_pos rfl]⟩
  · right
    refine ⟨q, ?_⟩
    obtain ⟨⟨kk, hkk, ekk⟩, -⟩ := ok.2.2.2 g hg
    have hmg := hM.2.2.2.2.2.2.2.2 g hg
    have h17 : up2 (up2 m' 32 g 1) 34 g x 17 g = nI kk := by rw [up2_row (by omega), up2_row (by omega), hR'.1 17 (by omega), hmg.1, ekk]
    have h20 : up2 (up2 m' 32 g 1) 34 g x 20 g = K 6 g := by rw [up2_row (by omega), up2_row (by omega), hR'.1 20 (by omega), hmg.2.2.2.1]
    have h23 : up2 (up2 m' 32 g 1) 34 g x 0 23 = nI n := by rw [up2_row (by omega), up2_row (by omega), hR'.r0]; exact hM.1
    have k0 : nI kk = 0 ↔ kk = 0 := by rw [show (0 : Int32) = nI 0 from by decide, nI_eq_iff (by omega) (by omega)]
    rw [ekk] at hy
    simp only [k0] at hy
    obtain ⟨t0, ht0, et, e7, el⟩ := fp_spec hn q
    have hv' := fpD_hv (K := K) hn hg hv
    have m30 : ∀ t, t < n → (m' 30 t = nI g ↔ fpD n K D g 7 t = nI g) := by
      intro t ht
      rw [(hR'.2.1 t ht).1]
      rcases hv' t ht with z | z | ⟨g', hg', z⟩
      · rw [z, if_pos (by decide)]
        constructor
        · intro w; exact absurd w.symm (nI_ne9 (by omega))
        · intro w; exact absurd w.symm (nI_ne1 (by omega))
      · rw [z, if_pos (by decide)]
        constructor
        · intro w; exact absurd w.symm (nI_ne9 (by omega))
        · intro w; exact absurd w.symm (nI_ne2 (by omega))
      · rw [z, if_neg (nI_n0 (by omega))]
    rw [e, bnd_s, if_neg (by decide), if_pos (inb_nI (by omega) (by omega)), if_pos (inb_nI (by omega) (by omega)), cl_nI (by omega), staysM (by omega) hkk h17, bnd_s, if_pos (inb_nI (by omega) (by omega)), h23, h20, hy]
    have tl := table_loop (m1 := up2 (up2 (up2 m' 32 g 1) 34 g x) 35 g (x + stayN K g (sumL L (wv D (nI g))))) (g := g) (n := n) (t0 := t0) (by omega) hn
      (by rw [up2_row (by omega), up2_row (by omega), up2_row (by omega)]; exact (m30 t0 ht0).mpr e7)
      (by
        intro t ht
        rw [up2_row (by omega), up2_row (by omega), up2_row (by omega)]
        intro w
        have := (m30 t (by omega)).mp w
        rw [el t ht] at this
        exact hfr t (by omega) this)
      n fuel (up2 (up2 (up2 m' 32 g 1) 34 g x) 35 g (x + stayN K g (sumL L (wv D (nI g))))) (Nat.le_refl n) (by have := fuel_big; omega)
      ⟨up2 (up2 (up2 m' 32 g 1) 34 g x) 35 g (x + stayN K g (sumL L (wv D (nI g)))) 33 g, by
        funext a c
        rw [up2_el (j := 33)]
        by_cases z : a = 33 ∧ c = g
        · rw [if_pos z, z.1, z.2]
        · rw [if_neg z], by omega⟩
    refine ⟨_, tl, ?_, ?_⟩
    · rw [up2_row (by omega), up2_row (by omega), up2_row (by omega), up2_row (by omega), (hR'.2.2 g hg).2.2.2.2.2.1, fpD_row (by omega)]
    · refine ⟨fun a ha => by rw [up2_row (by omega), up2_row (by omega), up2_row (by omega), up2_row (by omega), up2_row (by omega)]; exact hR'.1 a ha, ?_, ?_⟩
      · intro t ht
        have := hR'.2.1 t ht
        unfold RMt at this ⊢
        rw [(sitD_rows D g x 0).2.2.2.1]
        simpa [up2_row] using this
      · intro c hc
        have := hR'.2.2 c hc
        obtain ⟨s1, s3, s4, s7, s2, s5⟩ := sitD_rows (n := n) (K := K) (L := L) D g x c
        unfold RMg cvM at this ⊢
        rw [s1, s2, s3, s4, s5]
        rw [fpD_row (show 1 ≠ 7 by omega), fpD_row (show 2 ≠ 7 by omega), fpD_row (show 3 ≠ 7 by omega), fpD_row (show 4 ≠ 7 by omega), fpD_row (show 5 ≠ 7 by omega)] at this
        by_cases z : c = g
        · subst z
          simp only [up2_el]
          simp
          have h36 := this.2.2.2.2.1
          rw [if_neg h1] at h36
          exact ⟨by decide, et.symm, h36⟩
        · simp only [up2_el, z]
          simpa using this
theorem sitsM (ok : KOk n k K) (hM : MB n k K lo b) (hR : RM n k K b m D) (hv : HV n k D) {g : Nat} (hg : g < k) (hfr : ∀ t, t < n → ¬ D 7 t = nI g) (h1 : ¬ D 1 g = 0) (hW : sumL (List.range k) (wv D (nI g)) = sumL L (wv D (nI g))) (x : Int32) :
    (fp n K D g = -9 ∧ M_sitsDown m (nI g) x = some (0, m)) ∨ (¬ fp n K D g = -9 ∧ ∃ m', M_sitsDown m (nI g) x = some (1, m') ∧ m' 37 g = D 5 g ∧ RM n k K b (up2 m' 37 g (x - K 5 g)) (sitD n K L D g x)) := by
  have hk := ok.2.1
  obtain ⟨⟨kk, hkk, ekk⟩, -⟩ := ok.2.2.2 g hg
  have hmg := hM.2.2.2.2.2.2.2.2 g hg
  have h17 : m 17 g = nI kk := by rw [hR.1 17 (by omega), hmg.1, ekk]
  have h20 : m 20 g = K 6 g := by rw [hR.1 20 (by omega), hmg.2.2.2.1]
  have s30 := fun y hy => sits30 (L := L) ok hM hR hv hg hfr h1 x y 0 hy
  unfold M_sitsDown M_sitsDown_29
  rw [if_pos (inb_nI (by omega) (by omega)), cl_nI (by omega), h17]
  have k0 : nI kk = 0 ↔ kk = 0 := by rw [show (0 : Int32) = nI 0 from by decide, nI_eq_iff (by omega) (by omega)]
  have k1 : nI kk = 1 ↔ kk = 1 := by rw [show (1 : Int32) = nI 1 from by decide, nI_eq_iff (by omega) (by omega)]
  have k2 : nI kk = 2 ↔ kk = 2 := by rw [show (2 : Int32) = nI 2 from by decide, nI_eq_iff (by omega) (by omega)]
  by_cases q : kk = 2
  · rw [if_pos (k2.mpr q), waitM ok hM hR, bnd_s, hW]
    by_cases w : sumL L (wv D (nI g)) ≤ 0
    · rw [if_pos w]
      apply s30
      unfold stayN
      rw [ekk, q, if_neg (by decide), if_neg (by decide), if_neg (by decide), if_pos w, Int32.add_zero]
    · rw [if_neg w, staysM (by omega) hkk h17, bnd_s, if_pos (by decide), h20, if_neg (by omega)]
      apply s30
      unfold stayN
      rw [ekk, q, if_neg (by decide), if_neg (by decide), if_neg (by decide), if_neg w, Int32.add_assoc]
  · rw [if_neg (fun z => q (k2.mp z))]
    apply s30
    unfold stayN
    rw [ekk, Int32.add_zero]
    by_cases z0 : kk = 0
    · rw [if_pos (k0.mpr z0), if_pos (k0.mpr z0)]
    · rw [if_neg (fun z => z0 (k0.mp z)), if_neg (fun z => z0 (k0.mp z)), if_pos (k1.mpr (by omega))]
theorem triesM (ok : KOk n k K) (hM : MB n k K lo b) (hR : RM n k K b m D) (hv : HV n k D) {g : Nat} (hg : g < k) (hfr : ∀ t, t < n → ¬ D 7 t = nI g) (h1 : D 1 g = 4) (hW : sumL (List.range k) (wv D (nI g)) = sumL L (wv D (nI g))) (x : Int32) :
    ∃ m', M_triesAgain m (nI g) x = some m' ∧ RM n k K b m' (callStep n K L x D g) := by
  have hk := ok.2.1
  have hmg := hM.2.2.2.2.2.2.2.2 g hg
  have g8 : inb (nI g) 8 = true := inb_nI (by omega) (by omega)
  unfold M_triesAgain M_triesAgain_62 callStep
  rw [if_pos h1]
  rcases sitsM (L := L) ok hM hR hv hg hfr (by rw [h1]; decide) hW x with ⟨q, e⟩ | ⟨q, m', e, -, hR'⟩
  · rw [e, bnd_s, if_pos rfl, if_pos g8, if_pos g8, if_pos g8, if_pos g8, if_pos q, cl_nI (by omega), hR.r0, hM.2.2.2.1, hR.1 19 (by omega), hmg.2.2.1]
    by_cases w : x - K 5 g < K 0 2
    · rw [if_pos w, if_pos w]; exact ⟨m, rfl, hR⟩
    · rw [if_neg w, if_neg w]
      refine ⟨_, rfl, ?_⟩
      refine ⟨fun a ha => by rw [up2_row (by omega), up2_row (by omega)]; exact hR.1 a ha, ?_, ?_⟩
      · intro t ht
        have := hR.2.1 t ht
        unfold RMt at this ⊢
        simpa [up2_row] using this
      · intro c hc
        have := hR.2.2 c hc
        unfold RMg cvM at this ⊢
        by_cases z : c = g
        · subst z
          rw [h1] at this
          simp only [up2_el]
          simp
          have h36 := this.2.2.2.2.1
          rw [if_neg (by decide)] at h36
          exact ⟨by decide, this.2.1, this.2.2.1, this.2.2.2.1, h36⟩
        · simp only [up2_el, z]
          simpa using this
  · rw [e, bnd_s, if_neg (by decide), if_pos g8, if_pos g8, if_neg q, cl_nI (by omega)]
    refine ⟨_, rfl, ?_⟩
    have h19 : m' 19 g = K 5 g := by
      have := hR'.1 19 (by omega)
      rw [up2_row (by omega)] at this
      rw [this, hmg.2.2.1]
    rw [h19]
    exact hR'
theorem comesM (ok : KOk n k K) (hM : MB n k K lo b) (hR : RM n k K b m D) (hv : HV n k D) {g : Nat} (hg : g < k) (hfr : ∀ t, t < n → ¬ D 7 t = nI g) {x : Int32} (h1 : D 1 g = 3) (hx : K 5 g = x) (hW : sumL (List.range k) (wv D (nI g)) = sumL L (wv D (nI g))) :
    ∃ m', M_comesIn m (nI g) x = some m' ∧ RM n k K b m' (comeStep n K L x D g) := by
  have hk := ok.2.1
  have hmg := hM.2.2.2.2.2.2.2.2 g hg
  have g8 : inb (nI g) 8 = true := inb_nI (by omega) (by omega)
  have sim : ∀ v w : Int32, w = stM v → ¬ v = 0 → ¬ v = 3 → RM n k K b (up2 m 32 g w) (up2 D 1 g v) := by
    intro v w e v0 v3
    refine ⟨fun a ha => by rw [up2_row (by omega)]; exact hR.1 a ha, ?_, ?_⟩
    · intro t ht
      have := hR.2.1 t ht
      unfold RMt at this ⊢
      simpa [up2_row] using this
    · intro c hc
      have := hR.2.2 c hc
      unfold RMg cvM at this ⊢
      by_cases z : c = g
      · subst z
        rw [h1] at this
        simp only [up2_el]
        have h36 := this.2.2.2.2.1
        rw [if_neg (by decide)] at h36
        simp [v0, v3]
        exact ⟨e, this.2.1, this.2.2.1, this.2.2.2.1, h36, this.2.2.2.2.2.1⟩
      · simp only [up2_el, z]
        simpa using this
  unfold M_comesIn M_comesIn_49 M_comesIn_50 comeStep
  rw [if_pos ⟨h1, hx⟩, takenM ok hM hR hv, bnd_s, if_pos g8, if_pos g8, cl_nI (by omega), hR.1 22 (by omega), hmg.2.2.2.2.2]
  by_cases q2 : K 8 g ≤ takenN D n
  · rw [if_pos q2, if_pos q2]
    rcases sitsM (L := L) ok hM hR hv hg hfr (by rw [h1]; decide) hW x with ⟨q, e⟩ | ⟨q, m', e, e37, hR'⟩
    · rw [e, bnd_s, if_pos rfl, if_pos q, hR.r0, hM.2.2.2.1, if_pos g8, if_pos g8]
      by_cases w : K 0 2 ≤ 0
      · rw [if_pos w, if_pos w]
        exact ⟨_, rfl, sim 1 3 (by decide) (by decide) (by decide)⟩
      · rw [if_neg w, if_neg w]
        exact ⟨_, rfl, sim 4 2 (by decide) (by decide) (by decide)⟩
    · rw [e, bnd_s, if_neg (by decide), if_neg q]
      refine ⟨m', rfl, ?_⟩
      have : up2 m' 37 g (x - K 5 g) = m' := by
        funext a c
        rw [up2_el]
        by_cases z : a = 37 ∧ c = g
        · rw [if_pos z, z.1, z.2, e37, (hR.2.2 g hg).2.2.2.2.2.2 h1, hx, Int32.sub_self]
        · rw [if_neg z]
      rw [this] at hR'
      exact hR'
  · rw [if_neg q2, if_neg q2]
    exact ⟨_, rfl, sim 2 4 (by decide) (by decide) (by decide)⟩
end dayO
