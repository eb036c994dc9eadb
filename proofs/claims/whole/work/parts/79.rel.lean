/-! what the two hold in common, and every call keeps it -/
def Rel (G : GG) (s m : SS) : Prop := gok G ∧ RCf s m ∧ RGr G s m ∧ RShs s m ∧ s 0 10 = m 0 0 ∧ s 18 0 = m 0 1 ∧ ∀ n k, Cfg G s m n k → DOk G s m n k ∧ POk s m n k ∧ COk s m n k ∧ MOk s m k
theorem hj_of {s m : SS} (h : RCf s m) : nb (s 1 6) = true := by
  obtain ⟨n, -, -, -, -, -, -, ⟨h6, h7⟩, -⟩ := h
  rw [h6]
  rcases h7 with e | e <;> rw [e] <;> decide
theorem kof_c {m m' : SS} (h0 : ∀ c, 8 ≤ c → c ≤ 11 → m' 0 c = m 0 c) (h6 : m' 6 = m 6) (h7 : m' 7 = m 7) (hg : ∀ a, 17 ≤ a → a ≤ 22 → m' a = m a) : Kof m' = Kof m := by
  unfold Kof
  rw [h0 8 (by omega) (by omega), h0 9 (by omega) (by omega), h0 10 (by omega) (by omega), h0 11 (by omega) (by omega), h6, h7, hg 17 (by omega) (by omega), hg 18 (by omega) (by omega), hg 19 (by omega) (by omega), hg 20 (by omega) (by omega), hg 21 (by omega) (by omega), hg 22 (by omega) (by omega)]
theorem DOk.fr {G : GG} {s s' m : SS} {n k : Nat} (h : DOk G s m n k) (h0 : s' 0 11 = s 0 11) (hs : ∀ a, 19 ≤ a → a ≤ 26 → s' a = s a) (h1 : s' 1 = s 1) (h2 : s' 2 = s 2) (h3 : s' 3 = s 3) : DOk G s' m n k := by
  rcases h with e | ⟨e, d⟩
  · exact Or.inl (h0.trans e)
  · exact Or.inr ⟨h0.trans e, d.fr hs h1 h2 h3⟩
theorem POk.fr {s s' m : SS} {n k : Nat} (h : POk s m n k) (h0 : s' 0 12 = s 0 12) (h35 : s' 35 = s 35) (h36 : s' 36 = s 36) : POk s' m n k := by
  unfold POk PlOk PB at h ⊢
  rw [h0, h35, h36]; exact h
theorem COk.fr {s s' m : SS} {n k : Nat} (h : COk s m n k) (h0 : s' 0 13 = s 0 13) (h43 : s' 43 = s 43) : COk s' m n k := by
  unfold COk CoinsOk at h ⊢
  rw [h0, h43]; exact h
theorem MOk.fr {s s' m : SS} {k : Nat} (h : MOk s m k) (h0 : s' 0 14 = s 0 14) (h44 : s' 44 = s 44) : MOk s' m k := by
  unfold MOk at h ⊢
  rw [h0, h44]; exact h
theorem Rel.up {G : GG} {s m s' m' : SS} (h : Rel G s m) (a1 : s' 1 = s 1) (a2 : s' 2 = s 2) (a3 : s' 3 = s 3) (a7 : s' 7 = s 7)
    (b5 : m' 0 5 = m 0 5) (b16 : m' 0 16 = m 0 16) (b0 : ∀ c, 8 ≤ c → c ≤ 11 → m' 0 c = m 0 c) (b6 : m' 6 = m 6) (b7 : m' 7 = m 7) (bg : ∀ a, 17 ≤ a → a ≤ 22 → m' a = m a)
    (hS : RShs s' m') (h10 : s' 0 10 = m' 0 0) (h18 : s' 18 0 = m' 0 1)
    (hc : ∀ n k, Cfg G s m n k → DOk G s' m n k ∧ POk s' m n k ∧ COk s' m n k ∧ MOk s' m k) : Rel G s' m' := by
  obtain ⟨g, hC, hR, -, -, -, -⟩ := h
  have kf := kof_c b0 b6 b7 bg
  refine ⟨g, ?_, ?_, hS, h10, h18, ?_⟩
  · show RCafe (s' 1) (s' 2) (s' 3) (m' 0 5) (m' 0 8) (m' 0 9) (m' 0 10) (m' 0 11) (m' 6) (m' 7)
    rw [a1, a2, a3, b5, b0 8 (by omega) (by omega), b0 9 (by omega) (by omega), b0 10 (by omega) (by omega), b0 11 (by omega) (by omega), b6, b7]
    exact hC
  · show RGrp G (s' 7 1) (m' 0 16) (m' 17) (m' 18) (m' 19) (m' 20) (m' 21) (m' 22)
    rw [a7, b16, bg 17 (by omega) (by omega), bg 18 (by omega) (by omega), bg 19 (by omega) (by omega), bg 20 (by omega) (by omega), bg 21 (by omega) (by omega), bg 22 (by omega) (by omega)]
    exact hR
  · intro n k hcf
    have hcf1 : Cfg G s m' n k := hcf.fc a1.symm a2.symm a3.symm a7.symm
    have hcf2 : Cfg G s m n k := by
      unfold Cfg at hcf1 ⊢
      rw [kf, b5, b16] at hcf1
      exact hcf1
    have := hc n k hcf2
    unfold DOk DayOk POk PlOk COk CoinsOk MOk at this ⊢
    rw [kf]
    exact this
theorem RShs.fr {s m s' m' : SS} (h : RShs s m) (hs : ∀ a, 10 ≤ a → a < 18 → s' a = s a) (hm : ∀ a, 2 ≤ a → a < 5 → m' a = m a) : RShs s' m' := by
  intro k hk
  rw [hs _ (by omega) (by omega), hs (10 + k + 4) (by omega) (by omega), hm 2 (by omega) (by omega), hm 3 (by omega) (by omega), hm 4 (by omega) (by omega)]
  exact h k hk
theorem Rel.sm {G : GG} {s m s' m' : SS} (h : Rel G s m) (hS : RShs s' m') (f : SFr s s') (g : MFr m m') (h10 : s' 0 10 = m' 0 0) : Rel G s' m' := by
  have a1 := f.1 1 (by omega)
  have a2 := f.1 2 (by omega)
  have a3 := f.1 3 (by omega)
  refine h.up a1 a2 a3 (f.1 7 (by omega)) (g.2 5 (by omega)) (g.2 16 (by omega)) (fun c h1 h2 => g.2 c (by omega)) (g.1 6 (by omega)) (g.1 7 (by omega)) (fun a h1 h2 => g.1 a (by omega)) hS h10 ?_ ?_
  · rw [f.1 18 (by omega), g.2 1 (by omega)]; exact h.2.2.2.2.2.1
  · intro n k hcf
    obtain ⟨d1, d2, d3, d4⟩ := h.2.2.2.2.2.2 n k hcf
    exact ⟨d1.fr (f.2 11 (by omega)) (fun a h1 h2 => f.1 a (by omega)) a1 a2 a3, d2.fr (f.2 12 (by omega)) (f.1 35 (by omega)) (f.1 36 (by omega)), d3.fr (f.2 13 (by omega)) (f.1 43 (by omega)), d4.fr (f.2 14 (by omega)) (f.1 44 (by omega))⟩
theorem Rel.fl {G : GG} {s m : SS} (h : Rel G s m) (v : Int32) : Rel G (up2 s 0 10 v) (up2 m 0 0 v) :=
  h.sm (h.2.2.2.1.f v v) (SFr.f s v) (MFr.f m v) (by rw [up2_at, up2_at])
theorem Rel.tr {G : GG} {s m s' m' : SS} (h : Rel G s m) (hs : ∀ a, a ≠ 18 → s' a = s a) (hm : ∀ a, a ≠ 0 → m' a = m a) (h0 : ∀ c, c ≠ 1 → m' 0 c = m 0 c) (h18 : s' 18 0 = m' 0 1) : Rel G s' m' := by
  have a0 := hs 0 (by omega)
  have a1 := hs 1 (by omega)
  have a2 := hs 2 (by omega)
  have a3 := hs 3 (by omega)
  refine h.up a1 a2 a3 (hs 7 (by omega)) (h0 5 (by omega)) (h0 16 (by omega)) (fun c h1 h2 => h0 c (by omega)) (hm 6 (by omega)) (hm 7 (by omega)) (fun a h1 h2 => hm a (by omega)) (h.2.2.2.1.fr (fun a h1 h2 => hs a (by omega)) (fun a h1 h2 => hm a (by omega))) ?_ h18 ?_
  · rw [a0, h0 0 (by omega)]; exact h.2.2.2.2.1
  · intro n k hcf
    obtain ⟨d1, d2, d3, d4⟩ := h.2.2.2.2.2.2 n k hcf
    exact ⟨d1.fr (by rw [a0]) (fun a h1 h2 => hs a (by omega)) a1 a2 a3, d2.fr (by rw [a0]) (hs 35 (by omega)) (hs 36 (by omega)), d3.fr (by rw [a0]) (hs 43 (by omega)), d4.fr (by rw [a0]) (hs 44 (by omega))⟩
theorem Rel.fc {G : GG} {s m s' m' : SS} {P Z : Nat → Prop} (h : Rel G s m) (f : FC P Z s s') (g : FM m m') (hP : ∀ a, 1 ≤ a → a < 4 ∨ a = 7 ∨ (10 ≤ a ∧ a ≤ 18) → ¬ P a) (hZ : ¬ Z 10)
    (hc : ∀ n k, Cfg G s m n k → DOk G s' m n k ∧ POk s' m n k ∧ COk s' m n k ∧ MOk s' m k) : Rel G s' m' := by
  have fr : ∀ a, 1 ≤ a → a < 4 ∨ a = 7 ∨ (10 ≤ a ∧ a ≤ 18) → s' a = s a := fun a h1 h2 => f.1 a h1 (hP a h1 h2)
  refine h.up (fr 1 (by omega) (by omega)) (fr 2 (by omega) (by omega)) (fr 3 (by omega) (by omega)) (fr 7 (by omega) (by omega)) (g.2 5 (by omega)) (g.2 16 (by omega)) (fun c h1 h2 => g.2 c (by omega)) (g.1 6 (by omega) (by omega)) (g.1 7 (by omega) (by omega)) (fun a h1 h2 => g.1 a (by omega) (by omega)) (h.2.2.2.1.fr (fun a h1 h2 => fr a (by omega) (by omega)) (fun a h1 h2 => g.1 a (by omega) (by omega))) ?_ ?_ hc
  · rw [f.2 10 hZ, g.2 0 (by omega)]; exact h.2.2.2.2.1
  · rw [fr 18 (by omega) (by omega), g.2 1 (by omega)]; exact h.2.2.2.2.2.1
theorem Rel.new {G : GG} {s m : SS} (g : gok G) (hC : RCf s m) (hR : RGr G s m) (hS : RShs s m) (h10 : s 0 10 = m 0 0) (h18 : s 18 0 = m 0 1) (f1 : s 0 11 = 0) (f2 : s 0 12 = 0) (f3 : s 0 13 = 0) (f4 : s 0 14 = 0) : Rel G s m :=
  ⟨g, hC, hR, hS, h10, h18, fun _ _ _ => ⟨Or.inl f1, Or.inl f2, Or.inl f3, Or.inl f4⟩⟩
theorem Rel.set {G : GG} {s m : SS} (h : Rel G s m) {c c' : Nat} {x : Int32} (hc' : c' = 8 ∨ c' = 9 ∨ c' = 10 ∨ c' = 11) (hC : RCf (fgt (up2 s 1 c x)) (up2 m 0 c' x)) : Rel G (fgt (up2 s 1 c x)) (up2 m 0 c' x) := by
  obtain ⟨g, -, hR, hS, h10, h18, -⟩ := h
  refine Rel.new g hC ?_ (hS.fr (fun a h1 h2 => by rw [fgt_row (by omega), up2_row (by omega)]) (fun a h1 h2 => up2_row (by omega))) ?_ ?_ (fgt_11 _) (fgt_12 _) (fgt_13 _) (fgt_14 _)
  · show RGrp G (fgt (up2 s 1 c x) 7 1) (up2 m 0 c' x 0 16) (up2 m 0 c' x 17) (up2 m 0 c' x 18) (up2 m 0 c' x 19) (up2 m 0 c' x 20) (up2 m 0 c' x 21) (up2 m 0 c' x 22)
    rw [fgt_row (by omega), up2_row (by omega), up2_el, if_neg (by omega), up2_row (by omega), up2_row (by omega), up2_row (by omega), up2_row (by omega), up2_row (by omega), up2_row (by omega)]
    exact hR
  · rw [fgt_0 (by omega), up2_row (by omega), up2_el, if_neg (by omega)]; exact h10
  · rw [fgt_row (by omega), up2_row (by omega), up2_el, if_neg (by omega)]; exact h18
theorem RCf_ru {s m : SS} {x : Int32} (h : RCf s m) (h0 : 0 ≤ x) (hx : x ≤ 2) : RCf (fgt (up2 s 1 3 x)) (up2 m 0 8 x) := by
  obtain ⟨n, hn, h1, h2, h3, ⟨h4, k4⟩, ⟨h5, k5⟩, ⟨h6, k6⟩, h7, k7⟩ := h
  have o : ∀ d, d ≠ 3 → fgt (up2 s 1 3 x) 1 d = s 1 d := fun d hd => by rw [fgt_row (by omega), up2_el, if_neg (fun z => hd z.2)]
  have p : ∀ d, d ≠ 8 → up2 m 0 8 x 0 d = m 0 d := fun d hd => by rw [up2_el, if_neg (fun z => hd z.2)]
  have e : fgt (up2 s 1 3 x) 1 3 = up2 m 0 8 x 0 8 := by rw [fgt_row (by omega), up2_at, up2_at]
  refine ⟨n, hn, (p 5 (by omega)).trans h1, (o 2 (by omega)).trans h2, ?_, ⟨e, by rw [i_le, t0] at h0; rw [i_le, t2] at hx; exact ⟨x.toInt.toNat, by omega, by rw [up2_at]; exact i_nat h0⟩⟩, ⟨(o 4 (by omega)).trans (h5.trans (p 9 (by omega)).symm), by rw [p 9 (by omega)]; exact k5⟩, ⟨(o 6 (by omega)).trans (h6.trans (p 10 (by omega)).symm), by rw [p 10 (by omega)]; exact k6⟩, ⟨(o 5 (by omega)).trans (h7.trans (p 11 (by omega)).symm), by rw [p 11 (by omega)]; exact k7⟩⟩
  intro j hj
  rw [fgt_row (by omega), up2_row (by omega), fgt_row (by omega), up2_row (by omega), up2_row (by omega), up2_row (by omega)]
  exact h3 j hj
theorem RCf_pa {s m : SS} {x : Int32} (h : RCf s m) (h0 : 0 ≤ x) (hx : x ≤ 30) : RCf (fgt (up2 s 1 4 x)) (up2 m 0 9 x) := by
  obtain ⟨n, hn, h1, h2, h3, ⟨h4, k4⟩, ⟨h5, k5⟩, ⟨h6, k6⟩, h7, k7⟩ := h
  have o : ∀ d, d ≠ 4 → fgt (up2 s 1 4 x) 1 d = s 1 d := fun d hd => by rw [fgt_row (by omega), up2_el, if_neg (fun z => hd z.2)]
  have p : ∀ d, d ≠ 9 → up2 m 0 9 x 0 d = m 0 d := fun d hd => by rw [up2_el, if_neg (fun z => hd z.2)]
  have e : fgt (up2 s 1 4 x) 1 4 = up2 m 0 9 x 0 9 := by rw [fgt_row (by omega), up2_at, up2_at]
  refine ⟨n, hn, (p 5 (by omega)).trans h1, (o 2 (by omega)).trans h2, ?_, ⟨(o 3 (by omega)).trans (h4.trans (p 8 (by omega)).symm), by rw [p 8 (by omega)]; exact k4⟩, ⟨e, by rw [i_le, t0] at h0; rw [i_le, t30] at hx; exact ⟨x.toInt.toNat, by omega, by rw [up2_at]; exact i_nat h0⟩⟩, ⟨(o 6 (by omega)).trans (h6.trans (p 10 (by omega)).symm), by rw [p 10 (by omega)]; exact k6⟩, ⟨(o 5 (by omega)).trans (h7.trans (p 11 (by omega)).symm), by rw [p 11 (by omega)]; exact k7⟩⟩
  intro j hj
  rw [fgt_row (by omega), up2_row (by omega), fgt_row (by omega), up2_row (by omega), up2_row (by omega), up2_row (by omega)]
  exact h3 j hj
theorem RCf_jo {s m : SS} {x : Int32} (h : RCf s m) (hx : x = 0 ∨ x = 1) : RCf (fgt (up2 s 1 6 x)) (up2 m 0 10 x) := by
  obtain ⟨n, hn, h1, h2, h3, ⟨h4, k4⟩, ⟨h5, k5⟩, ⟨h6, k6⟩, h7, k7⟩ := h
  have o : ∀ d, d ≠ 6 → fgt (up2 s 1 6 x) 1 d = s 1 d := fun d hd => by rw [fgt_row (by omega), up2_el, if_neg (fun z => hd z.2)]
  have p : ∀ d, d ≠ 10 → up2 m 0 10 x 0 d = m 0 d := fun d hd => by rw [up2_el, if_neg (fun z => hd z.2)]
  have e : fgt (up2 s 1 6 x) 1 6 = up2 m 0 10 x 0 10 := by rw [fgt_row (by omega), up2_at, up2_at]
  refine ⟨n, hn, (p 5 (by omega)).trans h1, (o 2 (by omega)).trans h2, ?_, ⟨(o 3 (by omega)).trans (h4.trans (p 8 (by omega)).symm), by rw [p 8 (by omega)]; exact k4⟩, ⟨(o 4 (by omega)).trans (h5.trans (p 9 (by omega)).symm), by rw [p 9 (by omega)]; exact k5⟩, ⟨e, by rw [up2_at]; exact hx⟩, ⟨(o 5 (by omega)).trans (h7.trans (p 11 (by omega)).symm), by rw [p 11 (by omega)]; exact k7⟩⟩
  intro j hj
  rw [fgt_row (by omega), up2_row (by omega), fgt_row (by omega), up2_row (by omega), up2_row (by omega), up2_row (by omega)]
  exact h3 j hj
theorem RCf_ra {s m : SS} {x : Int32} (h : RCf s m) (hx : x = -9 ∨ 0 ≤ x ∧ x < 400) : RCf (fgt (up2 s 1 5 x)) (up2 m 0 11 x) := by
  obtain ⟨n, hn, h1, h2, h3, ⟨h4, k4⟩, ⟨h5, k5⟩, ⟨h6, k6⟩, h7, k7⟩ := h
  have o : ∀ d, d ≠ 5 → fgt (up2 s 1 5 x) 1 d = s 1 d := fun d hd => by rw [fgt_row (by omega), up2_el, if_neg (fun z => hd z.2)]
  have p : ∀ d, d ≠ 11 → up2 m 0 11 x 0 d = m 0 d := fun d hd => by rw [up2_el, if_neg (fun z => hd z.2)]
  have e : fgt (up2 s 1 5 x) 1 5 = up2 m 0 11 x 0 11 := by rw [fgt_row (by omega), up2_at, up2_at]
  refine ⟨n, hn, (p 5 (by omega)).trans h1, (o 2 (by omega)).trans h2, ?_, ⟨(o 3 (by omega)).trans (h4.trans (p 8 (by omega)).symm), by rw [p 8 (by omega)]; exact k4⟩, ⟨(o 4 (by omega)).trans (h5.trans (p 9 (by omega)).symm), by rw [p 9 (by omega)]; exact k5⟩, ⟨(o 6 (by omega)).trans (h6.trans (p 10 (by omega)).symm), by rw [p 10 (by omega)]; exact k6⟩, ⟨e, by rw [up2_at]; exact hx.imp id (fun q => ⟨x.toInt.toNat, by have := q.1; have h2 := q.2; rw [i_le, t0] at this; rw [i_lt, t400] at h2; omega, i_nat (by have := q.1; rw [i_le, t0] at this; exact this)⟩)⟩⟩
  intro j hj
  rw [fgt_row (by omega), up2_row (by omega), fgt_row (by omega), up2_row (by omega), up2_row (by omega), up2_row (by omega)]
  exact h3 j hj
theorem Cfg.uq {G : GG} {s m : SS} {n k n' k' : Nat} (h : Cfg G s m n k) (h' : Cfg G s m n' k') : n' = n ∧ k' = k := by
  obtain ⟨a, b, -, -, ok, -⟩ := h
  obtain ⟨a', b', -, -, ok', -⟩ := h'
  have := ok.1; have := ok.2.1; have := ok'.1; have := ok'.2.1
  rw [a, nI_eq_iff (by omega) (by omega)] at a'
  rw [b, nI_eq_iff (by omega) (by omega)] at b'
  exact ⟨a'.symm, b'.symm⟩
theorem Rel.dayR {G : GG} {s m s' m' : SS} {n k : Nat} {P : Nat → Prop} (h : Rel G s m) (hcf : Cfg G s m n k) (f : FC P (fun c => c = 11) s s') (g : FM m m') (d : DOk G s' m n k) (hP : ∀ a, P a → 19 ≤ a ∧ a ≤ 34) : Rel G s' m' := by
  have no : ∀ a, 1 ≤ a → a < 19 ∨ 34 < a → s' a = s a := fun a h1 h2 => f.1 a h1 (fun z => by have := hP a z; omega)
  refine h.fc f g (fun a h1 h2 z => by have := hP a z; omega) (by omega) (fun n' k' hcf' => ?_)
  obtain ⟨rfl, rfl⟩ := hcf.uq hcf'
  obtain ⟨d1, d2, d3, d4⟩ := h.2.2.2.2.2.2 _ _ hcf
  exact ⟨d, d2.fr (f.2 12 (by omega)) (no 35 (by omega) (by omega)) (no 36 (by omega) (by omega)), d3.fr (f.2 13 (by omega)) (no 43 (by omega) (by omega)), d4.fr (f.2 14 (by omega)) (no 44 (by omega) (by omega))⟩
theorem Rel.triR {G : GG} {s m s' m' : SS} {P Z : Nat → Prop} (h : Rel G s m) (f : FC P Z s s') (g : FM m m') (hP : ∀ a, P a → pTri a) (hZ : ∀ c, ¬ Z c) : Rel G s' m' := by
  have no : ∀ a, 1 ≤ a → a < 27 ∨ 34 < a → s' a = s a := fun a h1 h2 => f.1 a h1 (fun z => by have := hP a z; unfold pTri at this; omega)
  refine h.fc f g (fun a h1 h2 z => by have := hP a z; unfold pTri at this; omega) (hZ _) (fun n' k' hcf => ?_)
  obtain ⟨d1, d2, d3, d4⟩ := h.2.2.2.2.2.2 _ _ hcf
  exact ⟨d1.fr (f.2 11 (hZ _)) (fun a q1 q2 => no a (by omega) (by omega)) (no 1 (by omega) (by omega)) (no 2 (by omega) (by omega)) (no 3 (by omega) (by omega)), d2.fr (f.2 12 (hZ _)) (no 35 (by omega) (by omega)) (no 36 (by omega) (by omega)), d3.fr (f.2 13 (hZ _)) (no 43 (by omega) (by omega)), d4.fr (f.2 14 (hZ _)) (no 44 (by omega) (by omega))⟩
theorem Rel.plaR {G : GG} {s m s' m' : SS} {n k : Nat} (h : Rel G s m) (hcf : Cfg G s m n k) (f : FC pPla (fun c => c = 12) s s') (g : FM m m') (d : POk s' m n k) : Rel G s' m' := by
  have no : ∀ a, 1 ≤ a → a < 35 ∨ 42 < a → s' a = s a := fun a h1 h2 => f.1 a h1 (fun z => by unfold pPla at z; omega)
  refine h.fc f g (fun a h1 h2 z => by unfold pPla at z; omega) (by omega) (fun n' k' hcf' => ?_)
  obtain ⟨rfl, rfl⟩ := hcf.uq hcf'
  obtain ⟨d1, d2, d3, d4⟩ := h.2.2.2.2.2.2 _ _ hcf
  exact ⟨d1.fr (f.2 11 (by omega)) (fun a q1 q2 => no a (by omega) (by omega)) (no 1 (by omega) (by omega)) (no 2 (by omega) (by omega)) (no 3 (by omega) (by omega)), d, d3.fr (f.2 13 (by omega)) (no 43 (by omega) (by omega)), d4.fr (f.2 14 (by omega)) (no 44 (by omega) (by omega))⟩
theorem oth_o {a : Nat} (z : pOth a) : (4 ≤ a ∧ a ≤ 6) ∨ (27 ≤ a ∧ a ≤ 34) := by unfold pOth pTri at z; omega
theorem Rel.othR {G : GG} {s m s' m' : SS} (h : Rel G s m) (f : FC pOth NO s s') (g : FM m m') : Rel G s' m' := by
  have no : ∀ a, 1 ≤ a → a < 4 ∨ (6 < a ∧ a < 27) ∨ 34 < a → s' a = s a := fun a h1 h2 => f.1 a h1 (fun z => by have := oth_o z; omega)
  refine h.fc f g (fun a h1 h2 z => by have := oth_o z; omega) id (fun n' k' hcf => ?_)
  obtain ⟨d1, d2, d3, d4⟩ := h.2.2.2.2.2.2 _ _ hcf
  exact ⟨d1.fr (f.2 11 id) (fun a q1 q2 => no a (by omega) (by omega)) (no 1 (by omega) (by omega)) (no 2 (by omega) (by omega)) (no 3 (by omega) (by omega)), d2.fr (f.2 12 id) (no 35 (by omega) (by omega)) (no 36 (by omega) (by omega)), d3.fr (f.2 13 id) (no 43 (by omega) (by omega)), d4.fr (f.2 14 id) (no 44 (by omega) (by omega))⟩
theorem coi_o {a : Nat} (z : pCoi a) : (4 ≤ a ∧ a ≤ 6) ∨ (27 ≤ a ∧ a ≤ 34) ∨ a = 43 := by unfold pCoi pOth pTri at z; omega
theorem Rel.coiR {G : GG} {s m s' m' : SS} {n k : Nat} (h : Rel G s m) (hcf : Cfg G s m n k) (f : FC pCoi (fun c => c = 13) s s') (g : FM m m') (d : COk s' m n k) : Rel G s' m' := by
  have no : ∀ a, 1 ≤ a → a < 4 ∨ (6 < a ∧ a < 27) ∨ (34 < a ∧ a ≠ 43) → s' a = s a := fun a h1 h2 => f.1 a h1 (fun z => by have := coi_o z; omega)
  refine h.fc f g (fun a h1 h2 z => by have := coi_o z; omega) (by omega) (fun n' k' hcf' => ?_)
  obtain ⟨rfl, rfl⟩ := hcf.uq hcf'
  obtain ⟨d1, d2, d3, d4⟩ := h.2.2.2.2.2.2 _ _ hcf
  exact ⟨d1.fr (f.2 11 (by omega)) (fun a q1 q2 => no a (by omega) (by omega)) (no 1 (by omega) (by omega)) (no 2 (by omega) (by omega)) (no 3 (by omega) (by omega)), d2.fr (f.2 12 (by omega)) (no 35 (by omega) (by omega)) (no 36 (by omega) (by omega)), d, d4.fr (f.2 14 (by omega)) (no 44 (by omega) (by omega))⟩
theorem mix_o {a : Nat} (z : pMix a) : (4 ≤ a ∧ a ≤ 6) ∨ (27 ≤ a ∧ a ≤ 34) ∨ a = 44 := by unfold pMix pOth pTri at z; omega
theorem Rel.mixR {G : GG} {s m s' m' : SS} {n k : Nat} (h : Rel G s m) (hcf : Cfg G s m n k) (f : FC pMix (fun c => c = 14) s s') (g : FM m m') (d : MOk s' m k) : Rel G s' m' := by
  have no : ∀ a, 1 ≤ a → a < 4 ∨ (6 < a ∧ a < 27) ∨ (34 < a ∧ a ≠ 44) → s' a = s a := fun a h1 h2 => f.1 a h1 (fun z => by have := mix_o z; omega)
  refine h.fc f g (fun a h1 h2 z => by have := mix_o z; omega) (by omega) (fun n' k' hcf' => ?_)
  obtain ⟨rfl, rfl⟩ := hcf.uq hcf'
  obtain ⟨d1, d2, d3, d4⟩ := h.2.2.2.2.2.2 _ _ hcf
  exact ⟨d1.fr (f.2 11 (by omega)) (fun a q1 q2 => no a (by omega) (by omega)) (no 1 (by omega) (by omega)) (no 2 (by omega) (by omega)) (no 3 (by omega) (by omega)), d2.fr (f.2 12 (by omega)) (no 35 (by omega) (by omega)) (no 36 (by omega) (by omega)), d3.fr (f.2 13 (by omega)) (no 43 (by omega) (by omega)), d⟩
theorem vaup_e {α : Type} (f : Nat → α) (i : Nat) (v : α) : va_up f i v i = v := by simp [va_up]
theorem vaup_n {α : Type} (f : Nat → α) {i j : Nat} (v : α) (h : j ≠ i) : va_up f i v j = f j := by simp [va_up, h]
theorem Rel.grp {G : GG} {s m : SS} (h : Rel G s m) {n k q : Nat} {x2 x3 x4 x5 x6 : Int32} (hn : n < 8) (hk : k ≤ 2) (h7 : s 7 1 = nI n) (h16 : m 0 16 = nI n) (hq : q ∉ gL G)
    (b2 : 1 ≤ x2.toInt ∧ x2.toInt ≤ 6) (b3 : 0 ≤ x3.toInt ∧ x3.toInt ≤ 99) (b4 : 1 ≤ x4.toInt ∧ x4.toInt ≤ 60) (b5 : 0 ≤ x5.toInt ∧ x5.toInt ≤ 2) (b6 : 0 ≤ x6.toInt ∧ x6.toInt ≤ 6) :
    Rel (gadd G q n k (vals6 (nI n) x2 x3 x4 x5 x6)) (fgt (up2 s 7 1 (nI n + 1))) (up2 (up2 (up2 (up2 (up2 (up2 (up2 m 17 n (nI k)) 18 n x2) 19 n x3) 20 n x4) 21 n x5) 22 n x6) 0 16 (nI n + 1)) := by
  obtain ⟨g, hC, hR, hS, h10, h18, -⟩ := h
  have inL : ∀ a, gm G a = true → gm (gadd G q n k (vals6 (nI n) x2 x3 x4 x5 x6)) a = true ∧ a ≠ q := by
    intro a ha
    have : a ∈ gL G := of_decide_eq_true ha
    refine ⟨decide_eq_true (List.mem_append_left _ this), fun z => hq (z ▸ this)⟩
  have inq : gm (gadd G q n k (vals6 (nI n) x2 x3 x4 x5 x6)) q = true := decide_eq_true (List.mem_append_right _ (List.mem_singleton.mpr rfl))
  refine Rel.new ?_ ?_ ?_ (hS.fr (fun a h1 h2 => by rw [fgt_row (by omega), up2_row (by omega)]) (fun a h1 h2 => by rw [up2_row (by omega), up2_row (by omega), up2_row (by omega), up2_row (by omega), up2_row (by omega), up2_row (by omega), up2_row (by omega)])) ?_ ?_ (fgt_11 _) (fgt_12 _) (fgt_13 _) (fgt_14 _)
  · intro i a hi
    by_cases e : i = n
    · subst e
      rw [gadd_r] at hi
      injection hi with hi
      rw [← hi]; exact inq
    · have : gr G i = some a := by
        rw [← hi]; exact (vaup_n _ _ e).symm
      exact (inL a (g i a this)).1
  · obtain ⟨N, hN, h1, h2, h3, h4, h5, h6, h8⟩ := hC
    have o : ∀ d, d ≠ 16 → (up2 (up2 (up2 (up2 (up2 (up2 (up2 m 17 n (nI k)) 18 n x2) 19 n x3) 20 n x4) 21 n x5) 22 n x6) 0 16 (nI n + 1)) 0 d = m 0 d := fun d hd => by
      rw [up2_el, if_neg (fun z => hd z.2), up2_row (by omega), up2_row (by omega), up2_row (by omega), up2_row (by omega), up2_row (by omega), up2_row (by omega)]
    have p : ∀ a, 1 ≤ a → a < 17 → (up2 (up2 (up2 (up2 (up2 (up2 (up2 m 17 n (nI k)) 18 n x2) 19 n x3) 20 n x4) 21 n x5) 22 n x6) 0 16 (nI n + 1)) a = m a := fun a ha hb => by
      rw [up2_row (by omega), up2_row (by omega), up2_row (by omega), up2_row (by omega), up2_row (by omega), up2_row (by omega), up2_row (by omega)]
    have r : ∀ a, 1 ≤ a → a < 7 → fgt (up2 s 7 1 (nI n + 1)) a = s a := fun a ha hb => by rw [fgt_row (by omega), up2_row (by omega)]
    show RCafe (fgt (up2 s 7 1 (nI n + 1)) 1) (fgt (up2 s 7 1 (nI n + 1)) 2) (fgt (up2 s 7 1 (nI n + 1)) 3) _ _ _ _ _ _ _
    rw [r 1 (by omega) (by omega), r 2 (by omega) (by omega), r 3 (by omega) (by omega), o 5 (by omega), o 8 (by omega), o 9 (by omega), o 10 (by omega), o 11 (by omega), p 6 (by omega) (by omega), p 7 (by omega) (by omega)]
    exact ⟨N, hN, h1, h2, h3, h4, h5, h6, h8⟩
  · obtain ⟨N, hN, g1, g2, g3⟩ := hR
    have eN : N = n := by
      rw [h7, nI_eq_iff (by omega) (by omega)] at g1; exact g1.symm
    subst eN
    refine ⟨N + 1, by omega, by rw [fgt_row (by omega), up2_at, nI_s], by rw [up2_at, nI_s], ?_⟩
    intro j hj
    have rd : ∀ a, a ≠ 0 → (up2 (up2 (up2 (up2 (up2 (up2 (up2 m 17 N (nI k)) 18 N x2) 19 N x3) 20 N x4) 21 N x5) 22 N x6) 0 16 (nI N + 1)) a = (up2 (up2 (up2 (up2 (up2 (up2 m 17 N (nI k)) 18 N x2) 19 N x3) 20 N x4) 21 N x5) 22 N x6) a := fun a ha => up2_row ha
    rw [rd 17 (by omega), rd 18 (by omega), rd 19 (by omega), rd 20 (by omega), rd 21 (by omega), rd 22 (by omega)]
    by_cases e : j = N
    · subst e
      refine ⟨q, gadd_r, inq, ?_⟩
      have k1 : gk (gadd G q j k (vals6 (nI j) x2 x3 x4 x5 x6)) q = k := vaup_e _ _ _
      have k2 : gv (gadd G q j k (vals6 (nI j) x2 x3 x4 x5 x6)) q = vals6 (nI j) x2 x3 x4 x5 x6 := vaup_e _ _ _
      rw [k1, k2]
      simp only [up2_el]
      simp [vals6, hk, b2, b3, b4, b5, b6]
    · obtain ⟨a, q1, q2, q3, q4, q5, q6, q7, q8, q9, q10, q11⟩ := g3 j (by omega)
      obtain ⟨i1, i2⟩ := inL a q2
      have k0 : gr (gadd G q N k (vals6 (nI N) x2 x3 x4 x5 x6)) j = some a := by rw [← q1]; exact vaup_n _ _ e
      have k1 : gk (gadd G q N k (vals6 (nI N) x2 x3 x4 x5 x6)) a = gk G a := vaup_n _ _ i2
      have k2 : gv (gadd G q N k (vals6 (nI N) x2 x3 x4 x5 x6)) a = gv G a := vaup_n _ _ i2
      refine ⟨a, k0, i1, ?_⟩
      rw [k1, k2]
      have w : ∀ b, 17 ≤ b → b ≤ 22 → (up2 (up2 (up2 (up2 (up2 (up2 m 17 N (nI k)) 18 N x2) 19 N x3) 20 N x4) 21 N x5) 22 N x6) b j = m b j := fun b _ _ => by
        rw [up2_el, if_neg (fun z => e z.2), up2_el, if_neg (fun z => e z.2), up2_el, if_neg (fun z => e z.2), up2_el, if_neg (fun z => e z.2), up2_el, if_neg (fun z => e z.2), up2_el, if_neg (fun z => e z.2)]
      rw [w 17 (by omega) (by omega), w 18 (by omega) (by omega), w 19 (by omega) (by omega), w 20 (by omega) (by omega), w 21 (by omega) (by omega), w 22 (by omega) (by omega)]
      exact ⟨q3, q4, q5, q6, q7, q8, q9, q10, q11⟩
  · rw [fgt_0 (by omega), up2_row (by omega), up2_el, if_neg (by omega), up2_row (by omega), up2_row (by omega), up2_row (by omega), up2_row (by omega), up2_row (by omega), up2_row (by omega)]; exact h10
  · rw [fgt_row (by omega), up2_row (by omega), up2_el, if_neg (by omega), up2_row (by omega), up2_row (by omega), up2_row (by omega), up2_row (by omega), up2_row (by omega), up2_row (by omega)]; exact h18
theorem Rel.caf {G : GG} {s m s' m' : SS} (h : Rel G s m) (c : COld s s' m m' ∨ CNew s s' m m') : Rel G s' m' := by
  rcases c with ⟨v, rfl, h0, hm, h1⟩ | ⟨hC, h7, h16, f1, f2, f3, f4, f10, f0, hs, hm, h1⟩
  · obtain ⟨g, hC, hR, hS, h10, h18, hc⟩ := id h
    refine h.up (up2_row (by omega)) (up2_row (by omega)) (up2_row (by omega)) (up2_row (by omega)) (h1 5 (by omega) (by omega) (by omega)) (h1 16 (by omega) (by omega) (by omega)) (fun c q1 q2 => h1 c (by omega) (by omega) (by omega)) (hm 6 (by omega) (by omega) (by omega)) (hm 7 (by omega) (by omega) (by omega)) (fun a q1 q2 => hm a (by omega) (by omega) (by omega)) (hS.fr (fun a q1 q2 => up2_row (by omega)) (fun a q1 q2 => hm a (by omega) (by omega) (by omega))) ?_ ?_ ?_
    · rw [up2_at, h0]
    · rw [up2_row (by omega), h1 1 (by omega) (by omega) (by omega)]; exact h18
    · intro n k hcf
      obtain ⟨d1, d2, d3, d4⟩ := hc n k hcf
      exact ⟨d1.fr (by rw [up2_el, if_neg (by omega)]) (fun a q1 q2 => up2_row (by omega)) (up2_row (by omega)) (up2_row (by omega)) (up2_row (by omega)), d2.fr (by rw [up2_el, if_neg (by omega)]) (up2_row (by omega)) (up2_row (by omega)), d3.fr (by rw [up2_el, if_neg (by omega)]) (up2_row (by omega)), d4.fr (by rw [up2_el, if_neg (by omega)]) (up2_row (by omega))⟩
  · obtain ⟨g, -, -, hS, h10, h18, -⟩ := h
    refine Rel.new g hC ⟨0, by omega, by rw [h7]; exact nI_0.symm, by rw [h16]; exact nI_0.symm, fun j hj => by omega⟩ (hS.fr (fun a q1 q2 => hs a q1) (fun a q1 q2 => hm a (by omega) (by omega))) (f10.trans f0.symm) ?_ f1 f2 f3 f4
    rw [hs 18 (by omega), h1]; exact h18
