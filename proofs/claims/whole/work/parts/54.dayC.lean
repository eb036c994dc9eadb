/-! the day: loops, the state of a day, and what the class's rows do to it -/
theorem loopQ {σ β : Type} (n : Nat) (F : Nat → Nat → σ → β) (Inv : Nat → σ → Prop) (Q : β → Prop)
    (hs : ∀ f i st, i < n → Inv i st → Q (F (f + 1) i st) ∨ ∃ st', F (f + 1) i st = F f (i + 1) st' ∧ Inv (i + 1) st')
    (he : ∀ f st, Inv n st → Q (F (f + 1) n st)) : ∀ f i st, i ≤ n → n - i < f → Inv i st → Q (F f i st) := by
  intro f
  induction f with
  | zero => intro i st h1 h2; omega
  | succ f ih =>
    intro i st h1 h2 h3
    by_cases e : i = n
    · subst e; exact he f st h3
    · rcases hs f i st (by omega) h3 with q | ⟨st', e1, e2⟩
      · exact q
      · rw [e1]; exact ih (i + 1) st' (by omega) (by omega) e2
theorem ordLoopA {β σ : Type} (L : List Nat) (F : Nat → Nat → σ → β) (fin : σ → β) (step : σ → Nat → σ)
    (he : ∀ f st, F (f + 1) L.length st = fin st)
    (hs : ∀ f i st, i < L.length → F (f + 1) i st = F f (i + 1) (step st (L.getD i 0))) :
    ∀ (Q P : List Nat) f st, L = P ++ Q → Q.length < f → F f P.length st = fin (Q.foldl step st) := by
  intro Q
  induction Q with
  | nil =>
    intro P f st e hf
    obtain ⟨f, rfl⟩ : ∃ f', f = f' + 1 := ⟨f - 1, by simp at hf; omega⟩
    rw [List.append_nil] at e
    rw [← e, he]; rfl
  | cons a Q ih =>
    intro P f st e hf
    obtain ⟨f, rfl⟩ : ∃ f', f = f' + 1 := ⟨f - 1, by simp at hf; omega⟩
    have hl : P.length < L.length := by rw [e]; simp
    have ha : L.getD P.length 0 = a := by rw [e]; simp
    rw [hs f _ st hl, ha]
    have := ih (P ++ [a]) f (step st a) (by rw [e]; simp) (by simp at hf; omega)
    rw [List.length_append] at this
    exact this
theorem ordLoop {β σ : Type} (L : List Nat) (F : Nat → Nat → σ → β) (fin : σ → β) (step : σ → Nat → σ)
    (he : ∀ f st, F (f + 1) L.length st = fin st)
    (hs : ∀ f i st, i < L.length → F (f + 1) i st = F f (i + 1) (step st (L.getD i 0))) (f : Nat) (st : σ) (hf : L.length < f) :
    F f 0 st = fin (L.foldl step st) := ordLoopA L F fin step he hs L [] f st rfl hf
def lay (o : Nat) (b D : SS) : SS := fun a => if a = o + 1 then D 1 else if a = o + 2 then D 2 else if a = o + 3 then D 3 else if a = o + 4 then D 4 else if a = o + 5 then D 5 else if a = o + 7 then D 7 else b a
theorem lay_o (o : Nat) (b D : SS) : lay o b D o = b o := by simp [lay]
theorem lay_lo {o a : Nat} (b D : SS) (h : a ≤ o) : lay o b D a = b a := by
  unfold lay
  repeat' split
  all_goals first | rfl | (exfalso; omega)
theorem lay_1 (o : Nat) (b D : SS) : lay o b D (o + 1) = D 1 := by simp [lay]
theorem lay_2 (o : Nat) (b D : SS) : lay o b D (o + 2) = D 2 := by simp [lay]
theorem lay_3 (o : Nat) (b D : SS) : lay o b D (o + 3) = D 3 := by simp [lay]
theorem lay_4 (o : Nat) (b D : SS) : lay o b D (o + 4) = D 4 := by simp [lay]
theorem lay_5 (o : Nat) (b D : SS) : lay o b D (o + 5) = D 5 := by simp [lay]
theorem lay_6 (o : Nat) (b D : SS) : lay o b D (o + 6) = b (o + 6) := by simp [lay]
theorem lay_7 (o : Nat) (b D : SS) : lay o b D (o + 7) = D 7 := by simp [lay]
theorem lay_u {o j i : Nat} {b D : SS} {v : Int32} (h : j = 1 ∨ j = 2 ∨ j = 3 ∨ j = 4 ∨ j = 5 ∨ j = 7) : up2 (lay o b D) (o + j) i v = lay o b (up2 D j i v) := by
  funext a c
  rcases h with rfl | rfl | rfl | rfl | rfl | rfl
  · by_cases e : a = o + 1
    · subst e; simp [up2, lay]
    · simp [up2, lay, e]
  · by_cases e : a = o + 2
    · subst e; simp [up2, lay]
    · simp [up2, lay, e]
  · by_cases e : a = o + 3
    · subst e; simp [up2, lay]
    · simp [up2, lay, e]
  · by_cases e : a = o + 4
    · subst e; simp [up2, lay]
    · simp [up2, lay, e]
  · by_cases e : a = o + 5
    · subst e; simp [up2, lay]
    · simp [up2, lay, e]
  · by_cases e : a = o + 7
    · subst e; simp [up2, lay]
    · simp [up2, lay, e]
theorem lay_u1 {o i : Nat} {b D : SS} {v : Int32} : up2 (lay o b D) (o + 1) i v = lay o b (up2 D 1 i v) := lay_u (by simp)
theorem lay_u2 {o i : Nat} {b D : SS} {v : Int32} : up2 (lay o b D) (o + 2) i v = lay o b (up2 D 2 i v) := lay_u (by simp)
theorem lay_u3 {o i : Nat} {b D : SS} {v : Int32} : up2 (lay o b D) (o + 3) i v = lay o b (up2 D 3 i v) := lay_u (by simp)
theorem lay_u4 {o i : Nat} {b D : SS} {v : Int32} : up2 (lay o b D) (o + 4) i v = lay o b (up2 D 4 i v) := lay_u (by simp)
theorem lay_u5 {o i : Nat} {b D : SS} {v : Int32} : up2 (lay o b D) (o + 5) i v = lay o b (up2 D 5 i v) := lay_u (by simp)
theorem lay_u7 {o i : Nat} {b D : SS} {v : Int32} : up2 (lay o b D) (o + 7) i v = lay o b (up2 D 7 i v) := lay_u (by simp)
def CBg (G : GG) (k : Nat) (K : SS) : Prop := ∀ g, g < k → ∃ a, gr G g = some a ∧ gm G a = true ∧ gk G a ≤ 2 ∧ K 3 g = nI (gk G a) ∧ gv G a 1 = K 4 g ∧ gv G a 2 = K 5 g ∧ gv G a 3 = K 6 g ∧ gv G a 4 = K 7 g ∧ gv G a 5 = K 8 g
def CBh (h n : Nat) (K b : SS) : Prop := b h 2 = nI n ∧ b h 3 = K 0 1 ∧ b h 4 = K 0 2 ∧ b h 6 = K 0 3 ∧ b h 5 = K 0 4 ∧ ∀ t, t < n → b (h + 1) t = K 1 t ∧ b (h + 2) t = K 2 t
def CB (G : GG) (o h n k : Nat) (K : SS) (L : List Nat) (b : SS) : Prop :=
  (h + 2 ≤ o) ∧ hou (b o 9) = h ∧ n ≤ 6 ∧ k ≤ 8 ∧ CBh h n K b ∧ b o 10 = nI L.length ∧ L.length ≤ 8 ∧ (∀ i, i < L.length → b (o + 6) i = nI (L.getD i 0)) ∧ (∀ g, g ∈ L → g < k) ∧ CBg G k K
section dayC
variable {G : GG} {o h n k : Nat} {K : SS} {L : List Nat} {b : SS}
theorem CB.hh (hb : CB G o h n k K L b) (D : SS) : lay o b D (hou (lay o b D o 9)) = b h := by
  obtain ⟨h1, h2, -⟩ := hb
  rw [lay_o, h2, lay_lo b D (by omega)]
theorem CB.r2 (hb : CB G o h n k K L b) (D : SS) : lay o b D (hou (lay o b D o 9)) 2 = nI n := by
  rw [hb.hh]; obtain ⟨-, -, -, -, h, -⟩ := hb; exact h.1
theorem CB.r3 (hb : CB G o h n k K L b) (D : SS) : lay o b D (hou (lay o b D o 9)) 3 = K 0 1 := by
  rw [hb.hh]; obtain ⟨-, -, -, -, h, -⟩ := hb; exact h.2.1
theorem CB.r4 (hb : CB G o h n k K L b) (D : SS) : lay o b D (hou (lay o b D o 9)) 4 = K 0 2 := by
  rw [hb.hh]; obtain ⟨-, -, -, -, h, -⟩ := hb; exact h.2.2.1
theorem CB.r6 (hb : CB G o h n k K L b) (D : SS) : lay o b D (hou (lay o b D o 9)) 6 = K 0 3 := by
  rw [hb.hh]; obtain ⟨-, -, -, -, h, -⟩ := hb; exact h.2.2.2.1
theorem CB.r5 (hb : CB G o h n k K L b) (D : SS) : lay o b D (hou (lay o b D o 9)) 5 = K 0 4 := by
  rw [hb.hh]; obtain ⟨-, -, -, -, h, -⟩ := hb; exact h.2.2.2.2.1
theorem CB.rw (hb : CB G o h n k K L b) (D : SS) {t : Nat} (ht : t < n) : lay o b D (hou (lay o b D o 9) + 1) t = K 1 t := by
  obtain ⟨h1, h2, -, -, h, -⟩ := hb
  rw [lay_o, h2, lay_lo b D (by omega)]; exact (h.2.2.2.2.2 t ht).1
theorem CB.rs (hb : CB G o h n k K L b) (D : SS) {t : Nat} (ht : t < n) : lay o b D (hou (lay o b D o 9) + 2) t = K 2 t := by
  obtain ⟨h1, h2, -, -, h, -⟩ := hb
  rw [lay_o, h2, lay_lo b D (by omega)]; exact (h.2.2.2.2.2 t ht).2
theorem CB.n6 (hb : CB G o h n k K L b) : n ≤ 6 := hb.2.2.1
theorem CB.k8 (hb : CB G o h n k K L b) : k ≤ 8 := hb.2.2.2.1
theorem CB.rl (hb : CB G o h n k K L b) (D : SS) : lay o b D o 10 = nI L.length := by rw [lay_o]; exact hb.2.2.2.2.2.1
theorem CB.l8 (hb : CB G o h n k K L b) : L.length ≤ 8 := hb.2.2.2.2.2.2.1
theorem CB.ro (hb : CB G o h n k K L b) (D : SS) {i : Nat} (hi : i < L.length) : lay o b D (o + 6) i = nI (L.getD i 0) := by
  rw [lay_6]; exact hb.2.2.2.2.2.2.2.1 i hi
theorem getD_mem' {L : List Nat} {i : Nat} (hi : i < L.length) : L.getD i 0 ∈ L := by
  rw [List.getD_eq_getElem?_getD, List.getElem?_eq_getElem hi]
  exact List.getElem_mem hi
theorem CB.rk (hb : CB G o h n k K L b) {i : Nat} (hi : i < L.length) : L.getD i 0 < k := hb.2.2.2.2.2.2.2.2.1 _ (getD_mem' hi)
theorem CB.gg (hb : CB G o h n k K L b) : CBg G k K := hb.2.2.2.2.2.2.2.2.2
theorem le_no {a c : Nat} (h : c < a) (ha : a < 2147483648) : ¬ nI a ≤ nI c := fun q => by
  rw [nI_ge_iff ha (by omega)] at q; omega
theorem le_ye {a c : Nat} (h : a ≤ c) (ha : c < 2147483648) : nI a ≤ nI c := (nI_ge_iff (by omega) ha).mpr h
def gup (n : Nat) (D : SS) (x : Int32) : SS := fun a t => if a = 7 ∧ t < n ∧ D 7 t = x then -1 else D a t
theorem getUp_ev (hb : CB G o h n k K L b) (D : SS) (x : Int32) : CD_getUp G o (lay o b D) x = some (lay o b (gup n D x)) := by
  have hn := hb.n6
  unfold CD_getUp
  have := loopQ n (fun f i D' => CD_getUp_2 G o f x (nI i) (lay o b D')) (fun i D' => D' = fun a t => if a = 7 ∧ t < i ∧ D 7 t = x then -1 else D a t) (fun r => r = some (lay o b (gup n D x))) ?_ ?_ fuel 0 D (by omega) (by have := fuel_big; omega) ?_
  · exact this
  · intro f i D' hi hD
    right
    try dsimp only
    rw [CD_getUp_2, hb.r2, if_neg (le_no hi (by omega)), if_pos (inb_nI (by omega) (by omega)), cl_nI (by omega), lay_7, lay_u7]
    unfold CD_getUp_30
    rw [nI_s]
    have e : D' 7 i = D 7 i := by rw [hD]; simp
    by_cases q : D' 7 i = x
    · refine ⟨up2 D' 7 i (-1), by rw [if_pos q, if_pos (inb_nI (by omega) (by omega))], ?_⟩
      have q' := e.symm.trans q
      funext a t
      rw [up2_el, hD]
      by_cases a7 : a = 7
      · subst a7
        by_cases ti : t = i
        · subst ti; simp [q']
        · have : t < i + 1 ↔ t < i := by omega
          simp [ti, this]
      · simp [a7]
    · refine ⟨D', by rw [if_neg q], ?_⟩
      have q' : ¬ D 7 i = x := fun z => q (e.trans z)
      rw [hD]
      funext a t
      by_cases a7 : a = 7
      · subst a7
        by_cases ti : t = i
        · subst ti; simp [q']
        · have : t < i + 1 ↔ t < i := by omega
          simp [this]
      · simp [a7]
  · intro f D' hD
    try dsimp only
    rw [CD_getUp_2, hb.r2, if_pos (le_ye (Nat.le_refl n) (by omega)), hD]
    rfl
  · funext a t
    simp
def takenN (D : SS) : Nat → Int32
  | 0 => 0
  | t + 1 => takenN D t + (if D 7 t < 0 then 0 else 1)
theorem taken_ev (hb : CB G o h n k K L b) (D : SS) : CD_tablesTaken G o (lay o b D) = some (takenN D n, lay o b D) := by
  have hn := hb.n6
  unfold CD_tablesTaken
  refine loopQ n (fun f i c => CD_tablesTaken_4 G o f c (nI i) (lay o b D)) (fun i c => c = takenN D i) (fun r => r = some (takenN D n, lay o b D)) ?_ ?_ fuel 0 0 (by omega) (by have := fuel_big; omega) rfl
  · intro f i c hi hc
    right
    try dsimp only
    rw [CD_tablesTaken_4, hb.r2, if_neg (le_no hi (by omega)), if_pos (inb_nI (by omega) (by omega)), cl_nI (by omega), lay_7]
    unfold CD_tablesTaken_27
    rw [nI_s]
    refine ⟨takenN D (i + 1), ?_, rfl⟩
    rw [takenN]
    by_cases q : D 7 i < 0
    · rw [if_pos q, if_pos q, hc, Int32.add_zero]
    · rw [if_neg q, if_neg q, hc]
  · intro f c hc
    try dsimp only
    rw [CD_tablesTaken_4, hb.r2, if_pos (le_ye (Nat.le_refl n) (by omega)), hc]
def wv (D : SS) (x : Int32) (g : Nat) : Int32 := if nI g = x then 0 else if D 1 g = 4 then 1 else 0
def sumL (L : List Nat) (f : Nat → Int32) : Int32 := L.foldl (fun c g => c + f g) 0
theorem others_ev (hb : CB G o h n k K L b) (D : SS) (x : Int32) : CD_othersWaiting G o (lay o b D) x = some (sumL L (wv D x), lay o b D) := by
  have hl := hb.l8
  unfold CD_othersWaiting sumL
  have := ordLoop L (fun f i c => CD_othersWaiting_4 G o f x c (nI i) (lay o b D)) (fun c => some (c, lay o b D)) (fun c g => c + wv D x g) ?_ ?_ fuel 0 (by have := fuel_big; omega)
  · exact this
  · intro f c
    try dsimp only
    rw [CD_othersWaiting_4, hb.rl, if_pos (le_ye (Nat.le_refl _) (by omega))]
  · intro f i c hi
    have hk := hb.rk hi
    have hk8 := hb.k8
    try dsimp only
    rw [CD_othersWaiting_4, hb.rl, if_neg (le_no hi (by omega)), if_pos (inb_nI (by omega) (by omega)), if_pos (inb_nI (by omega) (by omega)), cl_nI (by omega), hb.ro D hi, if_pos (inb_nI (by omega) (by omega)), cl_nI (by omega), lay_1]
    unfold CD_othersWaiting_40 wv
    rw [nI_s]
    by_cases q : nI (L.getD i 0) = x
    · rw [if_pos q, if_pos q, Int32.add_zero]
    · rw [if_neg q, if_neg q]
      by_cases q2 : D 1 (L.getD i 0) = 4
      · rw [if_pos q2, if_pos q2]
      · rw [if_neg q2, if_neg q2, Int32.add_zero]
def oneT (K D : SS) (z pl : Int32) : Nat → Int32
  | 0 => -9
  | t + 1 => if D 7 t = -1 ∧ ¬ K 2 t < z ∧ (pl = -1 ∨ K 1 t = pl) ∧ (oneT K D z pl t = -9 ∨ (¬ K 0 1 = 0 ∧ ¬ K 2 (oneT K D z pl t).toNatClampNeg ≤ K 2 t)) then nI t else oneT K D z pl t
theorem oneT_c (K D : SS) (z pl : Int32) (t : Nat) : oneT K D z pl t = -9 ∨ ∃ j, j < t ∧ oneT K D z pl t = nI j := by
  induction t with
  | zero => exact Or.inl rfl
  | succ t ih =>
    rw [oneT]
    split
    · exact Or.inr ⟨t, by omega, rfl⟩
    · rcases ih with e | ⟨j, hj, e⟩
      · exact Or.inl e
      · exact Or.inr ⟨j, by omega, e⟩
theorem one_ev (hb : CB G o h n k K L b) (D : SS) (z pl : Int32) : CD_oneTable G o (lay o b D) z pl = some (oneT K D z pl n, lay o b D) := by
  have hn := hb.n6
  unfold CD_oneTable
  refine loopQ n (fun f i c => CD_oneTable_6 G o f z pl c (nI i) (lay o b D)) (fun i c => c = oneT K D z pl i) (fun r => r = some (oneT K D z pl n, lay o b D)) ?_ ?_ fuel 0 (-9) (by omega) (by have := fuel_big; omega) rfl
  · intro f i c hi hc
    right
    try dsimp only
    refine ⟨oneT K D z pl (i + 1), ?_, rfl⟩
    rw [CD_oneTable_6, hb.r2, if_neg (le_no hi (by omega)), if_pos (inb_nI (by omega) (by omega)), if_pos (inb_nI (by omega) (by omega)), cl_nI (by omega), lay_7, hb.rs D hi]
    unfold CD_oneTable_47 CD_oneTable_48 CD_oneTable_69 CD_oneTable_74 CD_oneTable_118 CD_oneTable_114 CD_oneTable_119 CD_oneTable_139
    rw [nI_s, hb.r3, cl_nI (by omega), hb.rs D hi, hb.rw D hi, if_pos (inb_nI (by omega) (by omega)), if_pos (inb_nI (by omega) (by omega)), oneT]
    subst hc
    have i6 : inb (nI i) 6 = true := inb_nI (by omega) (by omega)
    rcases oneT_c K D z pl i with e | ⟨j, hj, e⟩
    · rw [e]
      by_cases a1 : D 7 i = -1 <;> by_cases a2 : K 2 i < z <;> by_cases a3 : pl = -1 <;> by_cases a4 : K 1 i = pl <;> simp [a1, a2, a3, a4, i6]
    · rw [e, if_pos (inb_nI (by omega) (by omega)), cl_nI (by omega), hb.rs D (by omega)]
      have j6 : inb (nI j) 6 = true := inb_nI (by omega) (by omega)
      have ne : ¬ nI j = -9 := by rw [i_eq, nI_T (by omega), tm9]; omega
      by_cases a1 : D 7 i = -1 <;> by_cases a2 : K 2 i < z <;> by_cases a3 : pl = -1 <;> by_cases a4 : K 1 i = pl <;> by_cases a5 : K 0 1 = 0 <;> by_cases a6 : K 2 j ≤ K 2 i <;> simp [a1, a2, a3, a4, a5, a6, ne, i6, j6]
  · intro f c hc
    try dsimp only
    rw [CD_oneTable_6, hb.r2, if_pos (le_ye (Nat.le_refl n) (by omega)), hc]
def twoT (K D : SS) (z : Int32) : Nat → Nat → Int32
  | 0, _ => -9
  | r + 1, t => if D 7 t = -1 ∧ D 7 (t + 1) = -1 ∧ ¬ K 2 t + K 2 (t + 1) < z then nI t else twoT K D z r (t + 1)
theorem twoT_c (K D : SS) (z : Int32) (r t : Nat) : twoT K D z r t = -9 ∨ ∃ j, t ≤ j ∧ j < t + r ∧ twoT K D z r t = nI j ∧ D 7 j = -1 ∧ D 7 (j + 1) = -1 := by
  induction r generalizing t with
  | zero => exact Or.inl rfl
  | succ r ih =>
    rw [twoT]
    split
    · rename_i q
      exact Or.inr ⟨t, by omega, by omega, rfl, q.1, q.2.1⟩
    · rcases ih (t + 1) with e | ⟨j, h1, h2, e⟩
      · exact Or.inl e
      · exact Or.inr ⟨j, by omega, by omega, e⟩
theorem two_ev (hb : CB G o h n k K L b) (D : SS) (z : Int32) : CD_twoTables G o (lay o b D) z = some (twoT K D z (n - 1) 0, lay o b D) := by
  have hn := hb.n6
  unfold CD_twoTables
  refine loopQ (n - 1) (fun f i (_ : Unit) => CD_twoTables_2 G o f z (nI i) (lay o b D)) (fun i _ => twoT K D z (n - 1) 0 = twoT K D z (n - 1 - i) i) (fun r => r = some (twoT K D z (n - 1) 0, lay o b D)) ?_ ?_ fuel 0 () (by omega) (by have := fuel_big; omega) rfl
  · intro f i _ hi hc
    try dsimp only
    rw [CD_twoTables_2, hb.r2, nI_s, if_neg (le_no (by omega) (by omega)), if_pos (inb_nI (by omega) (by omega)), if_pos (inb_nI (by omega) (by omega)), cl_nI (by omega), cl_nI (by omega), lay_7]
    unfold CD_twoTables_41 CD_twoTables_42 CD_twoTables_74
    rw [nI_s, cl_nI (by omega), cl_nI (by omega), hb.rs D (by omega), hb.rs D (by omega), if_pos (inb_nI (by omega) (by omega)), if_pos (inb_nI (by omega) (by omega))]
    rw [show n - 1 - i = (n - 1 - (i + 1)) + 1 by omega, twoT] at hc
    by_cases a1 : D 7 i = -1 ∧ D 7 (i + 1) = -1 ∧ ¬ K 2 i + K 2 (i + 1) < z
    · left
      rw [if_pos a1] at hc
      rw [hc]
      obtain ⟨a1, a2, a3⟩ := a1
      simp [a1, a2, a3]
    · right
      rw [if_neg a1] at hc
      refine ⟨(), ?_, hc⟩
      by_cases b1 : D 7 i = -1 <;> by_cases b2 : D 7 (i + 1) = -1 <;> by_cases b3 : K 2 i + K 2 (i + 1) < z <;> simp [b1, b2, b3] at a1 ⊢
  · intro f _ hc
    try dsimp only
    rw [CD_twoTables_2, hb.r2, nI_s, if_pos (le_ye (by omega) (by omega)), hc, Nat.sub_self]; rfl
end dayC
