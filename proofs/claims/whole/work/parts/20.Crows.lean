abbrev GG : Type := (Nat → Option Nat) × List Nat × (Nat → Nat) × (Nat → Nat → Int32)
abbrev gr (G : GG) : Nat → Option Nat := G.1
abbrev gL (G : GG) : List Nat := G.2.1
abbrev gk (G : GG) : Nat → Nat := G.2.2.1
abbrev gv (G : GG) : Nat → Nat → Int32 := G.2.2.2
def gcls (k : Nat) : Nat := if k = 0 then 2 else if k = 1 then 7 else 4
def gfs (G : GG) (a : Nat) : List Value := [.int (gv G a 0), .int (gv G a 1), .int (gv G a 2), .int (gv G a 3), .int (gv G a 4), .int (gv G a 5)]
def gcell (G : GG) (a : Nat) : va_E := .inr (gcls (gk G a), gfs G a)
def gm (G : GG) (a : Nat) : Bool := decide (a ∈ gL G)
def gok (G : GG) : Prop := ∀ i a, gr G i = some a → gm G a = true
def shA (ad : Nat → Nat) : Nat → Option Nat := fun j => if j < 4 then some (ad (10 + j)) else none
def hou (x : Int32) : Nat := if x = 0 then 1 else 4
def hcode (o : Nat) : Int32 := if o = 1 then 0 else 1
def isH (o : Nat) : Bool := decide (o = 1) || decide (o = 4)
def isD (o : Nat) : Bool := decide (o = 19) || decide (o = 27)
def isS (o : Nat) : Bool := decide (10 ≤ o) && decide (o < 14)
theorem isH_c {o : Nat} (h : isH o = true) : o = 1 ∨ o = 4 := by simpa [isH] using h
theorem isD_c {o : Nat} (h : isD o = true) : o = 19 ∨ o = 27 := by simpa [isD] using h
theorem isS_c {o : Nat} (h : isS o = true) : o = 10 ∨ o = 11 ∨ o = 12 ∨ o = 13 := by simp [isS] at h; omega
theorem hou_ok (x : Int32) : isH (hou x) = true := by unfold hou; split <;> rfl
theorem inb_lt {x : Int32} {n : Nat} (h : inb x n = true) : x.toNatClampNeg < n := by
  simp only [inb, Bool.and_eq_true, decide_eq_true_eq] at h; exact h.2
theorem isS_of {x : Int32} (h : inb x 4 = true) : isS (10 + x.toNatClampNeg) = true := by
  have := inb_lt h
  simp [isS]; omega
def gld {γ : Type} (o : Option Nat) (f : Nat → Option γ) : Option γ := match o with
  | none => none
  | some a => f a
theorem gld_e {γ : Type} {o : Option Nat} {f : Nat → Option γ} {r : γ} (h : gld o f = some r) : ∃ a, o = some a ∧ f a = some r := by
  cases o with
  | none => cases h
  | some a => exact ⟨a, rfl, h⟩
def oc {γ : Type} (o : Option Nat) (a : Option γ) (f : Nat → Option γ) : Option γ := match o with
  | none => a
  | some x => f x
def wCf (ad : Nat → Nat) (c : Nat → ClassId) (G : GG) (s : SS) : va_W := [(ad 0, .inr (9, [.ref (ad 1), .ref (ad 7), .ref (ad 9), .ref (ad 18), .ref (ad 4), .ref (ad 19), .ref (ad 27), .ref (ad 35), .ref (ad 43), .ref (ad 44), .int (s 0 10), .int (s 0 11), .int (s 0 12), .int (s 0 13), .int (s 0 14)])), (ad 1, .inr (3, [.ref (ad 2), .ref (ad 3), .int (s 1 2), .int (s 1 3), .int (s 1 4), .int (s 1 5), .int (s 1 6)])), (ad 2, .inl (c 0, 6, .inl (s 2))), (ad 3, .inl (c 0, 6, .inl (s 3))), (ad 4, .inr (3, [.ref (ad 5), .ref (ad 6), .int (s 4 2), .int (s 4 3), .int (s 4 4), .int (s 4 5), .int (s 4 6)])), (ad 5, .inl (c 0, 6, .inl (s 5))), (ad 6, .inl (c 0, 6, .inl (s 6))), (ad 7, .inr (1, [.ref (ad 8), .int (s 7 1)])), (ad 8, .inl (c 2, 8, .inr (.inr (.inr (.inr (gr G)))))), (ad 9, .inl (c 3, 4, .inr (.inr (.inr (.inr (shA ad)))))), (ad 10, .inr (6, [.ref (ad 14), .int (s 10 1), .int (s 10 2), .int (s 10 3)])), (ad 11, .inr (6, [.ref (ad 15), .int (s 11 1), .int (s 11 2), .int (s 11 3)])), (ad 12, .inr (6, [.ref (ad 16), .int (s 12 1), .int (s 12 2), .int (s 12 3)])), (ad 13, .inr (6, [.ref (ad 17), .int (s 13 1), .int (s 13 2), .int (s 13 3)])), (ad 14, .inl (c 0, 40, .inl (s 14))), (ad 15, .inl (c 0, 40, .inl (s 15))), (ad 16, .inl (c 0, 40, .inl (s 16))), (ad 17, .inl (c 0, 40, .inl (s 17))), (ad 18, .inr (8, [.int (s 18 0)])), (ad 19, .inr (0, [.ref (ad 20), .ref (ad 21), .ref (ad 22), .ref (ad 23), .ref (ad 24), .ref (ad 25), .ref (ad 26), .ref (ad 7), .ref (ad 8), .ref (ad (hou (s 19 9))), .int (s 19 10)])), (ad 20, .inl (c 0, 8, .inl (s 20))), (ad 21, .inl (c 0, 8, .inl (s 21))), (ad 22, .inl (c 0, 8, .inl (s 22))), (ad 23, .inl (c 0, 8, .inl (s 23))), (ad 24, .inl (c 0, 8, .inl (s 24))), (ad 25, .inl (c 0, 8, .inl (s 25))), (ad 26, .inl (c 0, 6, .inl (s 26))), (ad 27, .inr (0, [.ref (ad 28), .ref (ad 29), .ref (ad 30), .ref (ad 31), .ref (ad 32), .ref (ad 33), .ref (ad 34), .ref (ad 7), .ref (ad 8), .ref (ad (hou (s 27 9))), .int (s 27 10)])), (ad 28, .inl (c 0, 8, .inl (s 28))), (ad 29, .inl (c 0, 8, .inl (s 29))), (ad 30, .inl (c 0, 8, .inl (s 30))), (ad 31, .inl (c 0, 8, .inl (s 31))), (ad 32, .inl (c 0, 8, .inl (s 32))), (ad 33, .inl (c 0, 8, .inl (s 33))), (ad 34, .inl (c 0, 6, .inl (s 34))), (ad 35, .inr (5, [.ref (ad 36), .int (s 35 1), .ref (ad 37), .ref (ad 38), .ref (ad 39), .ref (ad 40), .ref (ad 41), .ref (ad 42), .ref (ad 1), .ref (ad 7), .int (s 35 10)])), (ad 36, .inl (c 0, 6, .inl (s 36))), (ad 37, .inl (c 0, 6, .inl (s 37))), (ad 38, .inl (c 0, 6, .inl (s 38))), (ad 39, .inl (c 0, 6, .inl (s 39))), (ad 40, .inl (c 0, 6, .inl (s 40))), (ad 41, .inl (c 0, 7, .inl (s 41))), (ad 42, .inl (c 0, 6, .inl (s 42))), (ad 43, .inl (c 0, 31, .inl (s 43))), (ad 44, .inl (c 0, 4, .inl (s 44)))]
def wC (ad : Nat → Nat) (c : Nat → ClassId) (G : GG) (s : SS) : va_W := wCf ad c G s ++ va_pl (gL G) (gcell G)
theorem cp_link : Cond.methodLink RX9 285 arraycopyName ∈ BG := (BG_ix 716 (by decide +kernel) rfl)
theorem cp_nat : Cond.native arraycopyName ∈ BG := (BG_ix 718 (by decide +kernel) rfl)
theorem cp_stat : Cond.static arraycopyName ∈ BG := (BG_ix 717 (by decide +kernel) rfl)
theorem cp_init : Cond.initialized "java/lang/System" ∈ BG := (BG_ix 73 (by decide +kernel) rfl)
theorem pl_code : Cond.code yX9_placeOf cX9_placeOf 1 (some .int) ∈ BG := (BG_ix 343 (by decide +kernel) rfl)
theorem pl_init : Cond.initialized yX9_placeOf.cls ∈ BG := (BG_ix 60 (by decide +kernel) rfl)
theorem pl_stat : Cond.static yX9_placeOf ∈ BG := (BG_ix 342 (by decide +kernel) rfl)
theorem mt_init : Cond.initialized "java/lang/Math" ∈ BG := (BG_ix 68 (by decide +kernel) rfl)
theorem v_getS {X : Cx} {cc : ByteArray} {own : String} {nL d kc ks pc : Nat} {c : Nat → ClassId} {ls : List (Nat × Value)} {st : List Value} {ws : va_W} (K : Ok X cc own nL d c) {ref C : String} {T : u_T} {N ci ix a : Nat} {fs : List Value} {v : Value} (hin : ∀ w ∈ u_ws C T N, w ∈ BG) (q0 : Nat) (he : ws[q0]? = some (a, .inr (ci, fs))) (hc : vwCl[ci]? = some (C, T, N)) (k : Nat) (hk : k < N) (hlink : .fieldLink own ix ref (T k).2.1 (T k).2.2.1 ∈ BG) (hsame : .sameField ref (T k).1 (T k).2.1 (T k).2.2.1 ∈ BG) (hv : fs[k]? = some v) (hd : decode cc pc = .ok (.getfield ix, 3)) (kk : V X nL kc ks (pc + 3) ls (v :: st) ws) : V X nL kc ks pc ls (.ref a :: st) ws := fun H locs la hl hP hD hS => va_get K.1 K.2.1 K.2.2.2.2.1 hin K.2.2.2.1 K.2.2.2.2.2.1 hP q0 he hc k hk (K.2.2.2.2.1 _ hlink) (u_same (K.2.2.2.2.1 _ hsame)) hv hd (kk H locs la hl hP hD hS)
theorem oc_n {γ : Type} {a : Option γ} {f : Nat → Option γ} {r : γ} (h : oc none a f = some r) : a = some r := h
theorem oc_s {γ : Type} {x : Nat} {a : Option γ} {f : Nat → Option γ} {r : γ} (h : oc (some x) a f = some r) : f x = some r := h
theorem wC_same (ad : Nat → Nat) (c : Nat → ClassId) (G : GG) (s s' : SS) : (wC ad c G s').map (fun q => q.1) = (wC ad c G s).map (fun q => q.1) := rfl
def tblA : List (Nat × Nat) := [(2, 6), (3, 6), (5, 6), (6, 6), (14, 40), (15, 40), (16, 40), (17, 40), (20, 8), (21, 8), (22, 8), (23, 8), (24, 8), (25, 8), (26, 6), (28, 8), (29, 8), (30, 8), (31, 8), (32, 8), (33, 8), (34, 6), (36, 6), (37, 6), (38, 6), (39, 6), (40, 6), (41, 7), (42, 6), (43, 31), (44, 4)]
def isA (o n : Nat) : Bool := decide ((o, n) ∈ tblA)
theorem aw {ad : Nat → Nat} {c : Nat → ClassId} {G : GG} {s : SS} {o n : Nat} (h : isA o n = true) : (wC ad c G s)[o]? = some (ad o, .inl (c 0, n, .inl (s o))) := by
  have h1 : (o, n) ∈ tblA := of_decide_eq_true h
  simp only [tblA, List.mem_cons, List.not_mem_nil, or_false, Prod.mk.injEq] at h1
  rcases h1 with ⟨rfl, rfl⟩ | ⟨rfl, rfl⟩ | ⟨rfl, rfl⟩ | ⟨rfl, rfl⟩ | ⟨rfl, rfl⟩ | ⟨rfl, rfl⟩ | ⟨rfl, rfl⟩ | ⟨rfl, rfl⟩ | ⟨rfl, rfl⟩ | ⟨rfl, rfl⟩ | ⟨rfl, rfl⟩ | ⟨rfl, rfl⟩ | ⟨rfl, rfl⟩ | ⟨rfl, rfl⟩ | ⟨rfl, rfl⟩ | ⟨rfl, rfl⟩ | ⟨rfl, rfl⟩ | ⟨rfl, rfl⟩ | ⟨rfl, rfl⟩ | ⟨rfl, rfl⟩ | ⟨rfl, rfl⟩ | ⟨rfl, rfl⟩ | ⟨rfl, rfl⟩ | ⟨rfl, rfl⟩ | ⟨rfl, rfl⟩ | ⟨rfl, rfl⟩ | ⟨rfl, rfl⟩ | ⟨rfl, rfl⟩ | ⟨rfl, rfl⟩ | ⟨rfl, rfl⟩ | ⟨rfl, rfl⟩ <;> rfl
theorem aset {ad : Nat → Nat} {c : Nat → ClassId} {G : GG} {s : SS} {o n : Nat} (h : isA o n = true) (f : Nat → Int32) : (wC ad c G s).set o (ad o, .inl (c 0, n, .inl f)) = wC ad c G (ups s o f) := by
  have h1 : (o, n) ∈ tblA := of_decide_eq_true h
  simp only [tblA, List.mem_cons, List.not_mem_nil, or_false, Prod.mk.injEq] at h1
  rcases h1 with ⟨rfl, rfl⟩ | ⟨rfl, rfl⟩ | ⟨rfl, rfl⟩ | ⟨rfl, rfl⟩ | ⟨rfl, rfl⟩ | ⟨rfl, rfl⟩ | ⟨rfl, rfl⟩ | ⟨rfl, rfl⟩ | ⟨rfl, rfl⟩ | ⟨rfl, rfl⟩ | ⟨rfl, rfl⟩ | ⟨rfl, rfl⟩ | ⟨rfl, rfl⟩ | ⟨rfl, rfl⟩ | ⟨rfl, rfl⟩ | ⟨rfl, rfl⟩ | ⟨rfl, rfl⟩ | ⟨rfl, rfl⟩ | ⟨rfl, rfl⟩ | ⟨rfl, rfl⟩ | ⟨rfl, rfl⟩ | ⟨rfl, rfl⟩ | ⟨rfl, rfl⟩ | ⟨rfl, rfl⟩ | ⟨rfl, rfl⟩ | ⟨rfl, rfl⟩ | ⟨rfl, rfl⟩ | ⟨rfl, rfl⟩ | ⟨rfl, rfl⟩ | ⟨rfl, rfl⟩ | ⟨rfl, rfl⟩ <;> rfl
theorem gpos {ad : Nat → Nat} {c : Nat → ClassId} {G : GG} {s : SS} {a : Nat} (h : gm G a = true) : ∃ q : Nat, (wC ad c G s)[q]? = some (a, .inr (gcls (gk G a), gfs G a)) := va_pl_get (of_decide_eq_true h)
theorem gk3 (G : GG) (a : Nat) : gcls (gk G a) = 2 ∨ gcls (gk G a) = 7 ∨ gcls (gk G a) = 4 := by
  unfold gcls; split
  · exact Or.inl rfl
  · split
    · exact Or.inr (Or.inl rfl)
    · exact Or.inr (Or.inr rfl)
def cpk (i j n : Int32) : Bool := (!(decide (i < 0)) && !(decide (j < 0)) && !(decide (n < 0))) && (decide (i.toNatClampNeg + n.toNatClampNeg ≤ 40) && decide (j.toNatClampNeg + n.toNatClampNeg ≤ 40))
def hrec (ws : va_W) (b : Nat) (C : String) : Prop := ∃ (q0 ci : Nat) (fs : List Value) (T : u_T) (N : Nat), ws[q0]? = some (b, .inr (ci, fs)) ∧ vwCl[ci]? = some (C, T, N)
section CR
variable {X : Cx} {cc : ByteArray} {own : String} {nL d kc ks pc : Nat} {c : Nat → ClassId} {ls : List (Nat × Value)} {st : List Value} {ad : Nat → Nat} {G : GG} {s : SS}
theorem rcT : hrec (wC ad c G s) (ad 0) RX9 := ⟨0, 9, _, _, _, rfl, rfl⟩
theorem rcR : hrec (wC ad c G s) (ad 7) RX1 := ⟨7, 1, _, _, _, rfl, rfl⟩
theorem rcQ : hrec (wC ad c G s) (ad 18) RX8 := ⟨18, 8, _, _, _, rfl, rfl⟩
theorem rcP : hrec (wC ad c G s) (ad 35) RX5 := ⟨35, 5, _, _, _, rfl, rfl⟩
theorem rcH {o : Nat} (h : isH o = true) : hrec (wC ad c G s) (ad o) RX3 := by
  rcases isH_c h with rfl | rfl
  · exact ⟨1, 3, _, _, _, rfl, rfl⟩
  · exact ⟨4, 3, _, _, _, rfl, rfl⟩
theorem rcD {o : Nat} (h : isD o = true) : hrec (wC ad c G s) (ad o) RX0 := by
  rcases isD_c h with rfl | rfl
  · exact ⟨19, 0, _, _, _, rfl, rfl⟩
  · exact ⟨27, 0, _, _, _, rfl, rfl⟩
theorem rcE {o : Nat} (h : isS o = true) : hrec (wC ad c G s) (ad o) RX6 := by
  rcases isS_c h with rfl | rfl | rfl | rfl
  · exact ⟨10, 6, _, _, _, rfl, rfl⟩
  · exact ⟨11, 6, _, _, _, rfl, rfl⟩
  · exact ⟨12, 6, _, _, _, rfl, rfl⟩
  · exact ⟨13, 6, _, _, _, rfl, rfl⟩
theorem lC {i v : Int32} {o n : Nat} (K : Ok X cc own nL d c) (hA : isA o n = true) (hi : inb i n = true) (hd : decode cc pc = .ok (.iaload, 1)) (hv : s o i.toNatClampNeg = v) (k : V X nL kc ks (pc + 1) ls (.int v :: st) (wC ad c G s)) : V X nL kc ks pc ls (.int i :: .ref (ad o) :: st) (wC ad c G s) := by subst hv; exact v_ald K o (aw hA) hi hd k
theorem sC {i x : Int32} {o n : Nat} (K : Ok X cc own nL d c) (hA : isA o n = true) (hi : inb i n = true) (hd : decode cc pc = .ok (.iastore, 1)) (k : V X nL kc ks (pc + 1) ls st (wC ad c G (up2 s o i.toNatClampNeg x))) : V X nL kc ks pc ls (.int x :: .int i :: .ref (ad o) :: st) (wC ad c G s) := v_ast K o (aw hA) hi (aset hA _) hd k
theorem nC {o n : Nat} (K : Ok X cc own nL d c) (hA : isA o n = true) (hd : decode cc pc = .ok (.arraylength, 1)) (k : V X nL kc ks (pc + 1) ls (.int (Int32.ofNat n) :: st) (wC ad c G s)) : V X nL kc ks pc ls (.ref (ad o) :: st) (wC ad c G s) := fun H locs la hl hP hD hS => va_alen (v := Int32.ofNat n) K.1 K.2.1 K.2.2.2.2.2.1 hP o 0 (aw hA) (ty := .int) rfl rfl hd (k H locs la hl hP hD hS)
theorem qS {i : Int32} (K : Ok X cc own nL d c) (hi : inb i 4 = true) (hd : decode cc pc = .ok (.aaload, 1)) (k : V X nL kc ks (pc + 1) ls (.ref (ad (10 + i.toNatClampNeg)) :: st) (wC ad c G s)) : V X nL kc ks pc ls (.int i :: .ref (ad 9) :: st) (wC ad c G s) := fun H locs la hl hP hD hS => va_aldq (C := "CafeTables$Sheet") K.1 K.2.1 K.2.2.2.2.2.1 hP 9 3 rfl rfl (inb_in hi) hd (by rw [show shA ad i.toNatClampNeg = some (ad (10 + i.toNatClampNeg)) from if_pos (inb_lt hi)]; exact k H locs la hl hP hD hS)
theorem qG {i : Int32} {a : Nat} (K : Ok X cc own nL d c) (he : gr G i.toNatClampNeg = some a) (hi : inb i 8 = true) (hd : decode cc pc = .ok (.aaload, 1)) (k : V X nL kc ks (pc + 1) ls (.ref a :: st) (wC ad c G s)) : V X nL kc ks pc ls (.int i :: .ref (ad 8) :: st) (wC ad c G s) := fun H locs la hl hP hD hS => va_aldq (C := "CafeTables$Guest") K.1 K.2.1 K.2.2.2.2.2.1 hP 8 2 rfl rfl (inb_in hi) hd (by rw [he]; exact k H locs la hl hP hD hS)
theorem cpC {i j n : Int32} {o1 o2 : Nat} (K : Ok X cc RX9 nL (d + 1) c) (h1 : isA o1 40 = true) (h2 : isA o2 40 = true) (hk : cpk i j n = true) (hd : decode cc pc = .ok (.invokestatic 285, 3)) (k : V X nL kc ks (pc + 3) ls [] (wC ad c G (ups s o2 (va_cpy (s o1) (s o2) i.toNatClampNeg j.toNatClampNeg n.toNatClampNeg)))) : V X nL kc ks pc ls [.int n, .int j, .ref (ad o2), .int i, .ref (ad o1)] (wC ad c G s) := by
  intro H locs la hl hP hD hS
  obtain ⟨k1, k2, k3, k4, k5, k6, k7, k8, k9, k10⟩ := id K
  simp only [cpk, Bool.and_eq_true, Bool.not_eq_true', decide_eq_false_iff_not, decide_eq_true_eq] at hk
  obtain ⟨⟨⟨a1, a2⟩, a3⟩, a4, a5⟩ := hk
  refine va_copyi (ty := .int) k1 k2 (by rw [k3]; exact hl.1.symm) k4 (k5 _ cp_link) (k5 _ cp_nat) (k5 _ cp_stat) (k5 _ cp_init) k6 hP hD hS o1 o2 0 0 (aw h1) (aw h2) rfl rfl rfl a1 a2 a3 a4 a5 (fun i _ => rfl) (by omega) (by show 0 + (nativeFrameWords "java/lang/System" "arraycopy" 5 + 11) ≤ _; exact Nat.le_trans (by decide) (Nat.le_trans (by omega : 60 ≤ 60 * (d + 1)) k10)) hd (fun H1 l1 hP1 hD1 hS1 => ?_)
  rw [aset h2] at hP1 hD1
  exact k H1 l1 la hl hP1 hD1 hS1
theorem inC0 : ∀ w ∈ u_ws RX0 TX0 11, w ∈ BG := by decide +kernel
theorem inC1 : ∀ w ∈ u_ws RX1 TX1 2, w ∈ BG := by decide +kernel
theorem inC2 : ∀ w ∈ u_ws RX2 TX2 6, w ∈ BG := by decide +kernel
theorem inC3 : ∀ w ∈ u_ws RX3 TX3 7, w ∈ BG := by decide +kernel
theorem inC4 : ∀ w ∈ u_ws RX4 TX4 6, w ∈ BG := by decide +kernel
theorem inC5 : ∀ w ∈ u_ws RX5 TX5 11, w ∈ BG := by decide +kernel
theorem inC6 : ∀ w ∈ u_ws RX6 TX6 4, w ∈ BG := by decide +kernel
theorem inC7 : ∀ w ∈ u_ws RX7 TX7 6, w ∈ BG := by decide +kernel
theorem inC8 : ∀ w ∈ u_ws RX8 TX8 1, w ∈ BG := by decide +kernel
theorem inC9 : ∀ w ∈ u_ws RX9 TX9 15, w ∈ BG := by decide +kernel
theorem aH_1 {o : Nat} (h : isH o = true) : isA (o + 1) 6 = true := by
  rcases isH_c h with rfl | rfl <;> decide +kernel
theorem aH_2 {o : Nat} (h : isH o = true) : isA (o + 2) 6 = true := by
  rcases isH_c h with rfl | rfl <;> decide +kernel
theorem aD_1 {o : Nat} (h : isD o = true) : isA (o + 1) 8 = true := by
  rcases isD_c h with rfl | rfl <;> decide +kernel
theorem aD_2 {o : Nat} (h : isD o = true) : isA (o + 2) 8 = true := by
  rcases isD_c h with rfl | rfl <;> decide +kernel
theorem aD_3 {o : Nat} (h : isD o = true) : isA (o + 3) 8 = true := by
  rcases isD_c h with rfl | rfl <;> decide +kernel
theorem aD_4 {o : Nat} (h : isD o = true) : isA (o + 4) 8 = true := by
  rcases isD_c h with rfl | rfl <;> decide +kernel
theorem aD_5 {o : Nat} (h : isD o = true) : isA (o + 5) 8 = true := by
  rcases isD_c h with rfl | rfl <;> decide +kernel
theorem aD_6 {o : Nat} (h : isD o = true) : isA (o + 6) 8 = true := by
  rcases isD_c h with rfl | rfl <;> decide +kernel
theorem aD_7 {o : Nat} (h : isD o = true) : isA (o + 7) 6 = true := by
  rcases isD_c h with rfl | rfl <;> decide +kernel
theorem aE_4 {o : Nat} (h : isS o = true) : isA (o + 4) 40 = true := by
  rcases isS_c h with rfl | rfl | rfl | rfl <;> decide +kernel
theorem lk_RX0_9 : Cond.fieldLink RX0 9 "CafeTables$Day" "how" "[I" ∈ BG := (BG_ix 190 (by decide +kernel) rfl)
theorem gC_RX0_9 {o : Nat} (ho : isD o = true) (K : Ok X cc RX0 nL d c) (hd : decode cc pc = .ok (.getfield 9, 3)) (k : V X nL kc ks (pc + 3) ls (.ref (ad (o + 1)) :: st) (wC ad c G s)) : V X nL kc ks pc ls (.ref (ad o) :: st) (wC ad c G s) := by
  rcases isD_c ho with rfl | rfl
  · exact v_get K inC0 19 rfl rfl 0 (by decide) lk_RX0_9 rfl rfl hd k
  · exact v_get K inC0 27 rfl rfl 0 (by decide) lk_RX0_9 rfl rfl hd k
theorem lk_RX0_15 : Cond.fieldLink RX0 15 "CafeTables$Day" "first" "[I" ∈ BG := (BG_ix 192 (by decide +kernel) rfl)
theorem gC_RX0_15 {o : Nat} (ho : isD o = true) (K : Ok X cc RX0 nL d c) (hd : decode cc pc = .ok (.getfield 15, 3)) (k : V X nL kc ks (pc + 3) ls (.ref (ad (o + 2)) :: st) (wC ad c G s)) : V X nL kc ks pc ls (.ref (ad o) :: st) (wC ad c G s) := by
  rcases isD_c ho with rfl | rfl
  · exact v_get K inC0 19 rfl rfl 1 (by decide) lk_RX0_15 rfl rfl hd k
  · exact v_get K inC0 27 rfl rfl 1 (by decide) lk_RX0_15 rfl rfl hd k
theorem lk_RX0_18 : Cond.fieldLink RX0 18 "CafeTables$Day" "from" "[I" ∈ BG := (BG_ix 194 (by decide +kernel) rfl)
theorem gC_RX0_18 {o : Nat} (ho : isD o = true) (K : Ok X cc RX0 nL d c) (hd : decode cc pc = .ok (.getfield 18, 3)) (k : V X nL kc ks (pc + 3) ls (.ref (ad (o + 3)) :: st) (wC ad c G s)) : V X nL kc ks pc ls (.ref (ad o) :: st) (wC ad c G s) := by
  rcases isD_c ho with rfl | rfl
  · exact v_get K inC0 19 rfl rfl 2 (by decide) lk_RX0_18 rfl rfl hd k
  · exact v_get K inC0 27 rfl rfl 2 (by decide) lk_RX0_18 rfl rfl hd k
theorem lk_RX0_21 : Cond.fieldLink RX0 21 "CafeTables$Day" "until" "[I" ∈ BG := (BG_ix 196 (by decide +kernel) rfl)
theorem gC_RX0_21 {o : Nat} (ho : isD o = true) (K : Ok X cc RX0 nL d c) (hd : decode cc pc = .ok (.getfield 21, 3)) (k : V X nL kc ks (pc + 3) ls (.ref (ad (o + 4)) :: st) (wC ad c G s)) : V X nL kc ks pc ls (.ref (ad o) :: st) (wC ad c G s) := by
  rcases isD_c ho with rfl | rfl
  · exact v_get K inC0 19 rfl rfl 3 (by decide) lk_RX0_21 rfl rfl hd k
  · exact v_get K inC0 27 rfl rfl 3 (by decide) lk_RX0_21 rfl rfl hd k
theorem lk_RX0_24 : Cond.fieldLink RX0 24 "CafeTables$Day" "waited" "[I" ∈ BG := (BG_ix 198 (by decide +kernel) rfl)
theorem gC_RX0_24 {o : Nat} (ho : isD o = true) (K : Ok X cc RX0 nL d c) (hd : decode cc pc = .ok (.getfield 24, 3)) (k : V X nL kc ks (pc + 3) ls (.ref (ad (o + 5)) :: st) (wC ad c G s)) : V X nL kc ks pc ls (.ref (ad o) :: st) (wC ad c G s) := by
  rcases isD_c ho with rfl | rfl
  · exact v_get K inC0 19 rfl rfl 4 (by decide) lk_RX0_24 rfl rfl hd k
  · exact v_get K inC0 27 rfl rfl 4 (by decide) lk_RX0_24 rfl rfl hd k
theorem lk_RX0_27 : Cond.fieldLink RX0 27 "CafeTables$Day" "order" "[I" ∈ BG := (BG_ix 200 (by decide +kernel) rfl)
theorem gC_RX0_27 {o : Nat} (ho : isD o = true) (K : Ok X cc RX0 nL d c) (hd : decode cc pc = .ok (.getfield 27, 3)) (k : V X nL kc ks (pc + 3) ls (.ref (ad (o + 6)) :: st) (wC ad c G s)) : V X nL kc ks pc ls (.ref (ad o) :: st) (wC ad c G s) := by
  rcases isD_c ho with rfl | rfl
  · exact v_get K inC0 19 rfl rfl 5 (by decide) lk_RX0_27 rfl rfl hd k
  · exact v_get K inC0 27 rfl rfl 5 (by decide) lk_RX0_27 rfl rfl hd k
theorem lk_RX0_30 : Cond.fieldLink RX0 30 "CafeTables$Day" "holder" "[I" ∈ BG := (BG_ix 201 (by decide +kernel) rfl)
theorem gC_RX0_30 {o : Nat} (ho : isD o = true) (K : Ok X cc RX0 nL d c) (hd : decode cc pc = .ok (.getfield 30, 3)) (k : V X nL kc ks (pc + 3) ls (.ref (ad (o + 7)) :: st) (wC ad c G s)) : V X nL kc ks pc ls (.ref (ad o) :: st) (wC ad c G s) := by
  rcases isD_c ho with rfl | rfl
  · exact v_get K inC0 19 rfl rfl 6 (by decide) lk_RX0_30 rfl rfl hd k
  · exact v_get K inC0 27 rfl rfl 6 (by decide) lk_RX0_30 rfl rfl hd k
theorem lk_RX0_33 : Cond.fieldLink RX0 33 "CafeTables$Day" "house" "LCafeTables$House;" ∈ BG := (BG_ix 204 (by decide +kernel) rfl)
theorem gC_RX0_33 {o : Nat} (ho : isD o = true) {v : Int32} (K : Ok X cc RX0 nL d c) (hd : decode cc pc = .ok (.getfield 33, 3)) (hv : s o 9 = v) (k : V X nL kc ks (pc + 3) ls (.ref (ad (hou v)) :: st) (wC ad c G s)) : V X nL kc ks pc ls (.ref (ad o) :: st) (wC ad c G s) := by
  subst hv
  rcases isD_c ho with rfl | rfl
  · exact v_get K inC0 19 rfl rfl 9 (by decide) lk_RX0_33 rfl rfl hd k
  · exact v_get K inC0 27 rfl rfl 9 (by decide) lk_RX0_33 rfl rfl hd k
theorem pC_RX0_33 {o x : Nat} (ho : isD o = true) (hx : isH x = true) (K : Ok X cc RX0 nL d c) (hd : decode cc pc = .ok (.putfield 33, 3)) (k : V X nL kc ks (pc + 3) ls st (wC ad c G (up2 s o 9 (hcode x)))) : V X nL kc ks pc ls (.ref (ad x) :: .ref (ad o) :: st) (wC ad c G s) := by
  rcases isD_c ho with rfl | rfl <;> rcases isH_c hx with rfl | rfl
  · exact v_put (ty := .object "CafeTables$House") K inC0 tyX0 tyX0_ok nmX0 19 rfl rfl 9 (by decide) lk_RX0_33 rfl rfl (by decide +kernel) rfl rfl (Nat.le_of_ble_eq_true rfl) rfl hd k
  · exact v_put (ty := .object "CafeTables$House") K inC0 tyX0 tyX0_ok nmX0 19 rfl rfl 9 (by decide) lk_RX0_33 rfl rfl (by decide +kernel) rfl rfl (Nat.le_of_ble_eq_true rfl) rfl hd k
  · exact v_put (ty := .object "CafeTables$House") K inC0 tyX0 tyX0_ok nmX0 27 rfl rfl 9 (by decide) lk_RX0_33 rfl rfl (by decide +kernel) rfl rfl (Nat.le_of_ble_eq_true rfl) rfl hd k
  · exact v_put (ty := .object "CafeTables$House") K inC0 tyX0 tyX0_ok nmX0 27 rfl rfl 9 (by decide) lk_RX0_33 rfl rfl (by decide +kernel) rfl rfl (Nat.le_of_ble_eq_true rfl) rfl hd k
theorem lk_RX0_37 : Cond.fieldLink RX0 37 "CafeTables$Day" "groups" "LCafeTables$Groups;" ∈ BG := (BG_ix 202 (by decide +kernel) rfl)
theorem gC_RX0_37 {o : Nat} (ho : isD o = true) (K : Ok X cc RX0 nL d c) (hd : decode cc pc = .ok (.getfield 37, 3)) (k : V X nL kc ks (pc + 3) ls (.ref (ad 7) :: st) (wC ad c G s)) : V X nL kc ks pc ls (.ref (ad o) :: st) (wC ad c G s) := by
  rcases isD_c ho with rfl | rfl
  · exact v_get K inC0 19 rfl rfl 7 (by decide) lk_RX0_37 rfl rfl hd k
  · exact v_get K inC0 27 rfl rfl 7 (by decide) lk_RX0_37 rfl rfl hd k
theorem lk_RX0_47 : Cond.fieldLink RX0 47 "CafeTables$Day" "guests" "[LCafeTables$Guest;" ∈ BG := (BG_ix 203 (by decide +kernel) rfl)
theorem gC_RX0_47 {o : Nat} (ho : isD o = true) (K : Ok X cc RX0 nL d c) (hd : decode cc pc = .ok (.getfield 47, 3)) (k : V X nL kc ks (pc + 3) ls (.ref (ad 8) :: st) (wC ad c G s)) : V X nL kc ks pc ls (.ref (ad o) :: st) (wC ad c G s) := by
  rcases isD_c ho with rfl | rfl
  · exact v_get K inC0 19 rfl rfl 8 (by decide) lk_RX0_47 rfl rfl hd k
  · exact v_get K inC0 27 rfl rfl 8 (by decide) lk_RX0_47 rfl rfl hd k
theorem lk_RX0_57 : Cond.fieldLink RX0 57 "CafeTables$House" "rainAt" "I" ∈ BG := (BG_ix 106 (by decide +kernel) rfl)
theorem gC_RX0_57 {o : Nat} (ho : isH o = true) {v : Int32} (K : Ok X cc RX0 nL d c) (hd : decode cc pc = .ok (.getfield 57, 3)) (hv : s o 5 = v) (k : V X nL kc ks (pc + 3) ls (.int v :: st) (wC ad c G s)) : V X nL kc ks pc ls (.ref (ad o) :: st) (wC ad c G s) := by
  subst hv
  rcases isH_c ho with rfl | rfl
  · exact v_get K inC3 1 rfl rfl 5 (by decide) lk_RX0_57 rfl rfl hd k
  · exact v_get K inC3 4 rfl rfl 5 (by decide) lk_RX0_57 rfl rfl hd k
theorem lk_RX0_86 : Cond.fieldLink RX0 86 "CafeTables$Day" "listed" "I" ∈ BG := (BG_ix 205 (by decide +kernel) rfl)
theorem gC_RX0_86 {o : Nat} (ho : isD o = true) {v : Int32} (K : Ok X cc RX0 nL d c) (hd : decode cc pc = .ok (.getfield 86, 3)) (hv : s o 10 = v) (k : V X nL kc ks (pc + 3) ls (.int v :: st) (wC ad c G s)) : V X nL kc ks pc ls (.ref (ad o) :: st) (wC ad c G s) := by
  subst hv
  rcases isD_c ho with rfl | rfl
  · exact v_get K inC0 19 rfl rfl 10 (by decide) lk_RX0_86 rfl rfl hd k
  · exact v_get K inC0 27 rfl rfl 10 (by decide) lk_RX0_86 rfl rfl hd k
theorem pC_RX0_86 {o : Nat} (ho : isD o = true) {v : Int32} (K : Ok X cc RX0 nL d c) (hd : decode cc pc = .ok (.putfield 86, 3)) (k : V X nL kc ks (pc + 3) ls st (wC ad c G (up2 s o 10 v))) : V X nL kc ks pc ls (.int v :: .ref (ad o) :: st) (wC ad c G s) := by
  rcases isD_c ho with rfl | rfl
  · exact v_put (ty := .int) K inC0 tyX0 tyX0_ok nmX0 19 rfl rfl 10 (by decide) lk_RX0_86 rfl rfl rfl rfl rfl (Nat.le_of_ble_eq_true rfl) rfl hd k
  · exact v_put (ty := .int) K inC0 tyX0 tyX0_ok nmX0 27 rfl rfl 10 (by decide) lk_RX0_86 rfl rfl rfl rfl rfl (Nat.le_of_ble_eq_true rfl) rfl hd k
theorem lk_RX0_97 : Cond.fieldLink RX0 97 "CafeTables$House" "tables" "I" ∈ BG := (BG_ix 98 (by decide +kernel) rfl)
theorem gC_RX0_97 {o : Nat} (ho : isH o = true) {v : Int32} (K : Ok X cc RX0 nL d c) (hd : decode cc pc = .ok (.getfield 97, 3)) (hv : s o 2 = v) (k : V X nL kc ks (pc + 3) ls (.int v :: st) (wC ad c G s)) : V X nL kc ks pc ls (.ref (ad o) :: st) (wC ad c G s) := by
  subst hv
  rcases isH_c ho with rfl | rfl
  · exact v_get K inC3 1 rfl rfl 2 (by decide) lk_RX0_97 rfl rfl hd k
  · exact v_get K inC3 4 rfl rfl 2 (by decide) lk_RX0_97 rfl rfl hd k
theorem lk_RX0_106 : Cond.fieldLink RX0 106 "CafeTables$Groups" "count" "I" ∈ BG := (BG_ix 142 (by decide +kernel) rfl)
theorem gC_RX0_106 {v : Int32} (K : Ok X cc RX0 nL d c) (hd : decode cc pc = .ok (.getfield 106, 3)) (hv : s 7 1 = v) (k : V X nL kc ks (pc + 3) ls (.int v :: st) (wC ad c G s)) : V X nL kc ks pc ls (.ref (ad 7) :: st) (wC ad c G s) := by subst hv; exact v_get K inC1 7 rfl rfl 1 (by decide) lk_RX0_106 rfl rfl hd k
theorem lk_RX0_112 : Cond.fieldLink RX0 112 "CafeTables$Guest" "comes" "I" ∈ BG := (BG_ix 402 (by decide +kernel) rfl)
theorem gC_RX0_112 {a : Nat} (ha : gm G a = true) (K : Ok X cc RX0 nL d c) (hd : decode cc pc = .ok (.getfield 112, 3)) (k : V X nL kc ks (pc + 3) ls (.int (gv G a 2) :: st) (wC ad c G s)) : V X nL kc ks pc ls (.ref a :: st) (wC ad c G s) := by
  obtain ⟨q, hq⟩ := gpos (ad := ad) (c := c) (s := s) ha
  rcases gk3 G a with e | e | e <;> rw [e] at hq
  · exact v_get K inC2 q hq rfl 2 (by decide) lk_RX0_112 rfl rfl hd k
  · exact v_get K inC7 q hq rfl 2 (by decide) lk_RX0_112 rfl rfl hd k
  · exact v_get K inC4 q hq rfl 2 (by decide) lk_RX0_112 rfl rfl hd k
theorem lk_RX0_118 : Cond.fieldLink RX0 118 "CafeTables$House" "patience" "I" ∈ BG := (BG_ix 104 (by decide +kernel) rfl)
theorem gC_RX0_118 {o : Nat} (ho : isH o = true) {v : Int32} (K : Ok X cc RX0 nL d c) (hd : decode cc pc = .ok (.getfield 118, 3)) (hv : s o 4 = v) (k : V X nL kc ks (pc + 3) ls (.int v :: st) (wC ad c G s)) : V X nL kc ks pc ls (.ref (ad o) :: st) (wC ad c G s) := by
  subst hv
  rcases isH_c ho with rfl | rfl
  · exact v_get K inC3 1 rfl rfl 4 (by decide) lk_RX0_118 rfl rfl hd k
  · exact v_get K inC3 4 rfl rfl 4 (by decide) lk_RX0_118 rfl rfl hd k
theorem lk_RX0_124 : Cond.fieldLink RX0 124 "CafeTables$House" "where" "[I" ∈ BG := (BG_ix 90 (by decide +kernel) rfl)
theorem gC_RX0_124 {o : Nat} (ho : isH o = true) (K : Ok X cc RX0 nL d c) (hd : decode cc pc = .ok (.getfield 124, 3)) (k : V X nL kc ks (pc + 3) ls (.ref (ad (o + 1)) :: st) (wC ad c G s)) : V X nL kc ks pc ls (.ref (ad o) :: st) (wC ad c G s) := by
  rcases isH_c ho with rfl | rfl
  · exact v_get K inC3 1 rfl rfl 0 (by decide) lk_RX0_124 rfl rfl hd k
  · exact v_get K inC3 4 rfl rfl 0 (by decide) lk_RX0_124 rfl rfl hd k
theorem lk_RX0_137 : Cond.fieldLink RX0 137 "CafeTables$Guest" "lure" "I" ∈ BG := (BG_ix 413 (by decide +kernel) rfl)
theorem gC_RX0_137 {a : Nat} (ha : gm G a = true) (K : Ok X cc RX0 nL d c) (hd : decode cc pc = .ok (.getfield 137, 3)) (k : V X nL kc ks (pc + 3) ls (.int (gv G a 5) :: st) (wC ad c G s)) : V X nL kc ks pc ls (.ref a :: st) (wC ad c G s) := by
  obtain ⟨q, hq⟩ := gpos (ad := ad) (c := c) (s := s) ha
  rcases gk3 G a with e | e | e <;> rw [e] at hq
  · exact v_get K inC2 q hq rfl 5 (by decide) lk_RX0_137 rfl rfl hd k
  · exact v_get K inC7 q hq rfl 5 (by decide) lk_RX0_137 rfl rfl hd k
  · exact v_get K inC4 q hq rfl 5 (by decide) lk_RX0_137 rfl rfl hd k
theorem lk_RX0_147 : Cond.fieldLink RX0 147 "CafeTables$House" "rule" "I" ∈ BG := (BG_ix 101 (by decide +kernel) rfl)
theorem gC_RX0_147 {o : Nat} (ho : isH o = true) {v : Int32} (K : Ok X cc RX0 nL d c) (hd : decode cc pc = .ok (.getfield 147, 3)) (hv : s o 3 = v) (k : V X nL kc ks (pc + 3) ls (.int v :: st) (wC ad c G s)) : V X nL kc ks pc ls (.ref (ad o) :: st) (wC ad c G s) := by
  subst hv
  rcases isH_c ho with rfl | rfl
  · exact v_get K inC3 1 rfl rfl 3 (by decide) lk_RX0_147 rfl rfl hd k
  · exact v_get K inC3 4 rfl rfl 3 (by decide) lk_RX0_147 rfl rfl hd k
theorem lk_RX0_150 : Cond.fieldLink RX0 150 "CafeTables$Guest" "size" "I" ∈ BG := (BG_ix 399 (by decide +kernel) rfl)
theorem gC_RX0_150 {a : Nat} (ha : gm G a = true) (K : Ok X cc RX0 nL d c) (hd : decode cc pc = .ok (.getfield 150, 3)) (k : V X nL kc ks (pc + 3) ls (.int (gv G a 1) :: st) (wC ad c G s)) : V X nL kc ks pc ls (.ref a :: st) (wC ad c G s) := by
  obtain ⟨q, hq⟩ := gpos (ad := ad) (c := c) (s := s) ha
  rcases gk3 G a with e | e | e <;> rw [e] at hq
  · exact v_get K inC2 q hq rfl 1 (by decide) lk_RX0_150 rfl rfl hd k
  · exact v_get K inC7 q hq rfl 1 (by decide) lk_RX0_150 rfl rfl hd k
  · exact v_get K inC4 q hq rfl 1 (by decide) lk_RX0_150 rfl rfl hd k
theorem lk_RX0_153 : Cond.fieldLink RX0 153 "CafeTables$Guest" "wants" "I" ∈ BG := (BG_ix 410 (by decide +kernel) rfl)
theorem gC_RX0_153 {a : Nat} (ha : gm G a = true) (K : Ok X cc RX0 nL d c) (hd : decode cc pc = .ok (.getfield 153, 3)) (k : V X nL kc ks (pc + 3) ls (.int (gv G a 4) :: st) (wC ad c G s)) : V X nL kc ks pc ls (.ref a :: st) (wC ad c G s) := by
  obtain ⟨q, hq⟩ := gpos (ad := ad) (c := c) (s := s) ha
  rcases gk3 G a with e | e | e <;> rw [e] at hq
  · exact v_get K inC2 q hq rfl 4 (by decide) lk_RX0_153 rfl rfl hd k
  · exact v_get K inC7 q hq rfl 4 (by decide) lk_RX0_153 rfl rfl hd k
  · exact v_get K inC4 q hq rfl 4 (by decide) lk_RX0_153 rfl rfl hd k
theorem lk_RX0_159 : Cond.fieldLink RX0 159 "CafeTables$House" "joins" "Z" ∈ BG := (BG_ix 110 (by decide +kernel) rfl)
theorem gC_RX0_159 {o : Nat} (ho : isH o = true) {v : Int32} (K : Ok X cc RX0 nL d c) (hd : decode cc pc = .ok (.getfield 159, 3)) (hv : s o 6 = v) (k : V X nL kc ks (pc + 3) ls (.int v :: st) (wC ad c G s)) : V X nL kc ks pc ls (.ref (ad o) :: st) (wC ad c G s) := by
  subst hv
  rcases isH_c ho with rfl | rfl
  · exact v_get K inC3 1 rfl rfl 6 (by decide) lk_RX0_159 rfl rfl hd k
  · exact v_get K inC3 4 rfl rfl 6 (by decide) lk_RX0_159 rfl rfl hd k
theorem lk_RX0_166 : Cond.fieldLink RX0 166 "CafeTables$House" "seats" "[I" ∈ BG := (BG_ix 94 (by decide +kernel) rfl)
theorem gC_RX0_166 {o : Nat} (ho : isH o = true) (K : Ok X cc RX0 nL d c) (hd : decode cc pc = .ok (.getfield 166, 3)) (k : V X nL kc ks (pc + 3) ls (.ref (ad (o + 2)) :: st) (wC ad c G s)) : V X nL kc ks pc ls (.ref (ad o) :: st) (wC ad c G s) := by
  rcases isH_c ho with rfl | rfl
  · exact v_get K inC3 1 rfl rfl 1 (by decide) lk_RX0_166 rfl rfl hd k
  · exact v_get K inC3 4 rfl rfl 1 (by decide) lk_RX0_166 rfl rfl hd k
theorem lk_RX1_11 : Cond.fieldLink RX1 11 "CafeTables$Groups" "row" "[LCafeTables$Guest;" ∈ BG := (BG_ix 135 (by decide +kernel) rfl)
theorem gC_RX1_11 (K : Ok X cc RX1 nL d c) (hd : decode cc pc = .ok (.getfield 11, 3)) (k : V X nL kc ks (pc + 3) ls (.ref (ad 8) :: st) (wC ad c G s)) : V X nL kc ks pc ls (.ref (ad 7) :: st) (wC ad c G s) := v_get K inC1 7 rfl rfl 0 (by decide) lk_RX1_11 rfl rfl hd k
theorem lk_RX1_17 : Cond.fieldLink RX1 17 "CafeTables$Groups" "count" "I" ∈ BG := (BG_ix 140 (by decide +kernel) rfl)
theorem gC_RX1_17 {v : Int32} (K : Ok X cc RX1 nL d c) (hd : decode cc pc = .ok (.getfield 17, 3)) (hv : s 7 1 = v) (k : V X nL kc ks (pc + 3) ls (.int v :: st) (wC ad c G s)) : V X nL kc ks pc ls (.ref (ad 7) :: st) (wC ad c G s) := by subst hv; exact v_get K inC1 7 rfl rfl 1 (by decide) lk_RX1_17 rfl rfl hd k
theorem lk_RX2_7 : Cond.fieldLink RX2 7 "CafeTables$Guest" "number" "I" ∈ BG := (BG_ix 393 (by decide +kernel) rfl)
theorem gC_RX2_7 {a : Nat} (ha : gm G a = true) (K : Ok X cc RX2 nL d c) (hd : decode cc pc = .ok (.getfield 7, 3)) (k : V X nL kc ks (pc + 3) ls (.int (gv G a 0) :: st) (wC ad c G s)) : V X nL kc ks pc ls (.ref a :: st) (wC ad c G s) := by
  obtain ⟨q, hq⟩ := gpos (ad := ad) (c := c) (s := s) ha
  rcases gk3 G a with e | e | e <;> rw [e] at hq
  · exact v_get K inC2 q hq rfl 0 (by decide) lk_RX2_7 rfl rfl hd k
  · exact v_get K inC7 q hq rfl 0 (by decide) lk_RX2_7 rfl rfl hd k
  · exact v_get K inC4 q hq rfl 0 (by decide) lk_RX2_7 rfl rfl hd k
theorem lk_RX2_13 : Cond.fieldLink RX2 13 "CafeTables$Guest" "size" "I" ∈ BG := (BG_ix 394 (by decide +kernel) rfl)
theorem gC_RX2_13 {a : Nat} (ha : gm G a = true) (K : Ok X cc RX2 nL d c) (hd : decode cc pc = .ok (.getfield 13, 3)) (k : V X nL kc ks (pc + 3) ls (.int (gv G a 1) :: st) (wC ad c G s)) : V X nL kc ks pc ls (.ref a :: st) (wC ad c G s) := by
  obtain ⟨q, hq⟩ := gpos (ad := ad) (c := c) (s := s) ha
  rcases gk3 G a with e | e | e <;> rw [e] at hq
  · exact v_get K inC2 q hq rfl 1 (by decide) lk_RX2_13 rfl rfl hd k
  · exact v_get K inC7 q hq rfl 1 (by decide) lk_RX2_13 rfl rfl hd k
  · exact v_get K inC4 q hq rfl 1 (by decide) lk_RX2_13 rfl rfl hd k
theorem lk_RX2_19 : Cond.fieldLink RX2 19 "CafeTables$Guest" "stay" "I" ∈ BG := (BG_ix 404 (by decide +kernel) rfl)
theorem gC_RX2_19 {a : Nat} (ha : gm G a = true) (K : Ok X cc RX2 nL d c) (hd : decode cc pc = .ok (.getfield 19, 3)) (k : V X nL kc ks (pc + 3) ls (.int (gv G a 3) :: st) (wC ad c G s)) : V X nL kc ks pc ls (.ref a :: st) (wC ad c G s) := by
  obtain ⟨q, hq⟩ := gpos (ad := ad) (c := c) (s := s) ha
  rcases gk3 G a with e | e | e <;> rw [e] at hq
  · exact v_get K inC2 q hq rfl 3 (by decide) lk_RX2_19 rfl rfl hd k
  · exact v_get K inC7 q hq rfl 3 (by decide) lk_RX2_19 rfl rfl hd k
  · exact v_get K inC4 q hq rfl 3 (by decide) lk_RX2_19 rfl rfl hd k
theorem lk_RX3_9 : Cond.fieldLink RX3 9 "CafeTables$House" "where" "[I" ∈ BG := (BG_ix 88 (by decide +kernel) rfl)
theorem gC_RX3_9 {o : Nat} (ho : isH o = true) (K : Ok X cc RX3 nL d c) (hd : decode cc pc = .ok (.getfield 9, 3)) (k : V X nL kc ks (pc + 3) ls (.ref (ad (o + 1)) :: st) (wC ad c G s)) : V X nL kc ks pc ls (.ref (ad o) :: st) (wC ad c G s) := by
  rcases isH_c ho with rfl | rfl
  · exact v_get K inC3 1 rfl rfl 0 (by decide) lk_RX3_9 rfl rfl hd k
  · exact v_get K inC3 4 rfl rfl 0 (by decide) lk_RX3_9 rfl rfl hd k
theorem lk_RX3_15 : Cond.fieldLink RX3 15 "CafeTables$House" "seats" "[I" ∈ BG := (BG_ix 91 (by decide +kernel) rfl)
theorem gC_RX3_15 {o : Nat} (ho : isH o = true) (K : Ok X cc RX3 nL d c) (hd : decode cc pc = .ok (.getfield 15, 3)) (k : V X nL kc ks (pc + 3) ls (.ref (ad (o + 2)) :: st) (wC ad c G s)) : V X nL kc ks pc ls (.ref (ad o) :: st) (wC ad c G s) := by
  rcases isH_c ho with rfl | rfl
  · exact v_get K inC3 1 rfl rfl 1 (by decide) lk_RX3_15 rfl rfl hd k
  · exact v_get K inC3 4 rfl rfl 1 (by decide) lk_RX3_15 rfl rfl hd k
theorem lk_RX3_18 : Cond.fieldLink RX3 18 "CafeTables$House" "rainAt" "I" ∈ BG := (BG_ix 105 (by decide +kernel) rfl)
theorem gC_RX3_18 {o : Nat} (ho : isH o = true) {v : Int32} (K : Ok X cc RX3 nL d c) (hd : decode cc pc = .ok (.getfield 18, 3)) (hv : s o 5 = v) (k : V X nL kc ks (pc + 3) ls (.int v :: st) (wC ad c G s)) : V X nL kc ks pc ls (.ref (ad o) :: st) (wC ad c G s) := by
  subst hv
  rcases isH_c ho with rfl | rfl
  · exact v_get K inC3 1 rfl rfl 5 (by decide) lk_RX3_18 rfl rfl hd k
  · exact v_get K inC3 4 rfl rfl 5 (by decide) lk_RX3_18 rfl rfl hd k
theorem pC_RX3_18 {o : Nat} (ho : isH o = true) {v : Int32} (K : Ok X cc RX3 nL d c) (hd : decode cc pc = .ok (.putfield 18, 3)) (k : V X nL kc ks (pc + 3) ls st (wC ad c G (up2 s o 5 v))) : V X nL kc ks pc ls (.int v :: .ref (ad o) :: st) (wC ad c G s) := by
  rcases isH_c ho with rfl | rfl
  · exact v_put (ty := .int) K inC3 tyX3 tyX3_ok nmX3 1 rfl rfl 5 (by decide) lk_RX3_18 rfl rfl rfl rfl rfl (Nat.le_of_ble_eq_true rfl) rfl hd k
  · exact v_put (ty := .int) K inC3 tyX3 tyX3_ok nmX3 4 rfl rfl 5 (by decide) lk_RX3_18 rfl rfl rfl rfl rfl (Nat.le_of_ble_eq_true rfl) rfl hd k
theorem lk_RX3_28 : Cond.fieldLink RX3 28 "CafeTables$House" "tables" "I" ∈ BG := (BG_ix 95 (by decide +kernel) rfl)
theorem gC_RX3_28 {o : Nat} (ho : isH o = true) {v : Int32} (K : Ok X cc RX3 nL d c) (hd : decode cc pc = .ok (.getfield 28, 3)) (hv : s o 2 = v) (k : V X nL kc ks (pc + 3) ls (.int v :: st) (wC ad c G s)) : V X nL kc ks pc ls (.ref (ad o) :: st) (wC ad c G s) := by
  subst hv
  rcases isH_c ho with rfl | rfl
  · exact v_get K inC3 1 rfl rfl 2 (by decide) lk_RX3_28 rfl rfl hd k
  · exact v_get K inC3 4 rfl rfl 2 (by decide) lk_RX3_28 rfl rfl hd k
theorem pC_RX3_28 {o : Nat} (ho : isH o = true) {v : Int32} (K : Ok X cc RX3 nL d c) (hd : decode cc pc = .ok (.putfield 28, 3)) (k : V X nL kc ks (pc + 3) ls st (wC ad c G (up2 s o 2 v))) : V X nL kc ks pc ls (.int v :: .ref (ad o) :: st) (wC ad c G s) := by
  rcases isH_c ho with rfl | rfl
  · exact v_put (ty := .int) K inC3 tyX3 tyX3_ok nmX3 1 rfl rfl 2 (by decide) lk_RX3_28 rfl rfl rfl rfl rfl (Nat.le_of_ble_eq_true rfl) rfl hd k
  · exact v_put (ty := .int) K inC3 tyX3 tyX3_ok nmX3 4 rfl rfl 2 (by decide) lk_RX3_28 rfl rfl rfl rfl rfl (Nat.le_of_ble_eq_true rfl) rfl hd k
theorem lk_RX3_31 : Cond.fieldLink RX3 31 "CafeTables$Sheet" "cells" "[I" ∈ BG := (BG_ix 156 (by decide +kernel) rfl)
theorem gC_RX3_31 {o : Nat} (ho : isS o = true) (K : Ok X cc RX3 nL d c) (hd : decode cc pc = .ok (.getfield 31, 3)) (k : V X nL kc ks (pc + 3) ls (.ref (ad (o + 4)) :: st) (wC ad c G s)) : V X nL kc ks pc ls (.ref (ad o) :: st) (wC ad c G s) := by
  rcases isS_c ho with rfl | rfl | rfl | rfl
  · exact v_get K inC6 10 rfl rfl 0 (by decide) lk_RX3_31 rfl rfl hd k
  · exact v_get K inC6 11 rfl rfl 0 (by decide) lk_RX3_31 rfl rfl hd k
  · exact v_get K inC6 12 rfl rfl 0 (by decide) lk_RX3_31 rfl rfl hd k
  · exact v_get K inC6 13 rfl rfl 0 (by decide) lk_RX3_31 rfl rfl hd k
theorem lk_RX3_40 : Cond.fieldLink RX3 40 "CafeTables$House" "rule" "I" ∈ BG := (BG_ix 99 (by decide +kernel) rfl)
theorem gC_RX3_40 {o : Nat} (ho : isH o = true) {v : Int32} (K : Ok X cc RX3 nL d c) (hd : decode cc pc = .ok (.getfield 40, 3)) (hv : s o 3 = v) (k : V X nL kc ks (pc + 3) ls (.int v :: st) (wC ad c G s)) : V X nL kc ks pc ls (.ref (ad o) :: st) (wC ad c G s) := by
  subst hv
  rcases isH_c ho with rfl | rfl
  · exact v_get K inC3 1 rfl rfl 3 (by decide) lk_RX3_40 rfl rfl hd k
  · exact v_get K inC3 4 rfl rfl 3 (by decide) lk_RX3_40 rfl rfl hd k
theorem pC_RX3_40 {o : Nat} (ho : isH o = true) {v : Int32} (K : Ok X cc RX3 nL d c) (hd : decode cc pc = .ok (.putfield 40, 3)) (k : V X nL kc ks (pc + 3) ls st (wC ad c G (up2 s o 3 v))) : V X nL kc ks pc ls (.int v :: .ref (ad o) :: st) (wC ad c G s) := by
  rcases isH_c ho with rfl | rfl
  · exact v_put (ty := .int) K inC3 tyX3 tyX3_ok nmX3 1 rfl rfl 3 (by decide) lk_RX3_40 rfl rfl rfl rfl rfl (Nat.le_of_ble_eq_true rfl) rfl hd k
  · exact v_put (ty := .int) K inC3 tyX3 tyX3_ok nmX3 4 rfl rfl 3 (by decide) lk_RX3_40 rfl rfl rfl rfl rfl (Nat.le_of_ble_eq_true rfl) rfl hd k
theorem lk_RX3_43 : Cond.fieldLink RX3 43 "CafeTables$House" "patience" "I" ∈ BG := (BG_ix 102 (by decide +kernel) rfl)
theorem gC_RX3_43 {o : Nat} (ho : isH o = true) {v : Int32} (K : Ok X cc RX3 nL d c) (hd : decode cc pc = .ok (.getfield 43, 3)) (hv : s o 4 = v) (k : V X nL kc ks (pc + 3) ls (.int v :: st) (wC ad c G s)) : V X nL kc ks pc ls (.ref (ad o) :: st) (wC ad c G s) := by
  subst hv
  rcases isH_c ho with rfl | rfl
  · exact v_get K inC3 1 rfl rfl 4 (by decide) lk_RX3_43 rfl rfl hd k
  · exact v_get K inC3 4 rfl rfl 4 (by decide) lk_RX3_43 rfl rfl hd k
theorem pC_RX3_43 {o : Nat} (ho : isH o = true) {v : Int32} (K : Ok X cc RX3 nL d c) (hd : decode cc pc = .ok (.putfield 43, 3)) (k : V X nL kc ks (pc + 3) ls st (wC ad c G (up2 s o 4 v))) : V X nL kc ks pc ls (.int v :: .ref (ad o) :: st) (wC ad c G s) := by
  rcases isH_c ho with rfl | rfl
  · exact v_put (ty := .int) K inC3 tyX3 tyX3_ok nmX3 1 rfl rfl 4 (by decide) lk_RX3_43 rfl rfl rfl rfl rfl (Nat.le_of_ble_eq_true rfl) rfl hd k
  · exact v_put (ty := .int) K inC3 tyX3 tyX3_ok nmX3 4 rfl rfl 4 (by decide) lk_RX3_43 rfl rfl rfl rfl rfl (Nat.le_of_ble_eq_true rfl) rfl hd k
theorem lk_RX3_46 : Cond.fieldLink RX3 46 "CafeTables$House" "joins" "Z" ∈ BG := (BG_ix 108 (by decide +kernel) rfl)
theorem gC_RX3_46 {o : Nat} (ho : isH o = true) {v : Int32} (K : Ok X cc RX3 nL d c) (hd : decode cc pc = .ok (.getfield 46, 3)) (hv : s o 6 = v) (k : V X nL kc ks (pc + 3) ls (.int v :: st) (wC ad c G s)) : V X nL kc ks pc ls (.ref (ad o) :: st) (wC ad c G s) := by
  subst hv
  rcases isH_c ho with rfl | rfl
  · exact v_get K inC3 1 rfl rfl 6 (by decide) lk_RX3_46 rfl rfl hd k
  · exact v_get K inC3 4 rfl rfl 6 (by decide) lk_RX3_46 rfl rfl hd k
theorem pC_RX3_46 {o : Nat} (ho : isH o = true) {v : Int32} (K : Ok X cc RX3 nL d c) (hb : nb v = true) (hd : decode cc pc = .ok (.putfield 46, 3)) (k : V X nL kc ks (pc + 3) ls st (wC ad c G (up2 s o 6 v))) : V X nL kc ks pc ls (.int v :: .ref (ad o) :: st) (wC ad c G s) := by
  rcases isH_c ho with rfl | rfl
  · exact v_put (ty := .boolean) K inC3 tyX3 tyX3_ok nmX3 1 rfl rfl 6 (by decide) lk_RX3_46 rfl rfl rfl (nb_nar hb) (nb_fit hb) (Nat.le_of_ble_eq_true rfl) rfl hd k
  · exact v_put (ty := .boolean) K inC3 tyX3 tyX3_ok nmX3 4 rfl rfl 6 (by decide) lk_RX3_46 rfl rfl rfl (nb_nar hb) (nb_fit hb) (Nat.le_of_ble_eq_true rfl) rfl hd k
theorem lk_RX5_9 : Cond.fieldLink RX5 9 "CafeTables$Plan" "bestAt" "[I" ∈ BG := (BG_ix 235 (by decide +kernel) rfl)
theorem gC_RX5_9 (K : Ok X cc RX5 nL d c) (hd : decode cc pc = .ok (.getfield 9, 3)) (k : V X nL kc ks (pc + 3) ls (.ref (ad 36) :: st) (wC ad c G s)) : V X nL kc ks pc ls (.ref (ad 35) :: st) (wC ad c G s) := v_get K inC5 35 rfl rfl 0 (by decide) lk_RX5_9 rfl rfl hd k
theorem lk_RX5_15 : Cond.fieldLink RX5 15 "CafeTables$Plan" "at" "[I" ∈ BG := (BG_ix 239 (by decide +kernel) rfl)
theorem gC_RX5_15 (K : Ok X cc RX5 nL d c) (hd : decode cc pc = .ok (.getfield 15, 3)) (k : V X nL kc ks (pc + 3) ls (.ref (ad 37) :: st) (wC ad c G s)) : V X nL kc ks pc ls (.ref (ad 35) :: st) (wC ad c G s) := v_get K inC5 35 rfl rfl 2 (by decide) lk_RX5_15 rfl rfl hd k
theorem lk_RX5_18 : Cond.fieldLink RX5 18 "CafeTables$Plan" "size" "[I" ∈ BG := (BG_ix 240 (by decide +kernel) rfl)
theorem gC_RX5_18 (K : Ok X cc RX5 nL d c) (hd : decode cc pc = .ok (.getfield 18, 3)) (k : V X nL kc ks (pc + 3) ls (.ref (ad 38) :: st) (wC ad c G s)) : V X nL kc ks pc ls (.ref (ad 35) :: st) (wC ad c G s) := v_get K inC5 35 rfl rfl 3 (by decide) lk_RX5_18 rfl rfl hd k
theorem lk_RX5_21 : Cond.fieldLink RX5 21 "CafeTables$Plan" "coins" "[I" ∈ BG := (BG_ix 241 (by decide +kernel) rfl)
theorem gC_RX5_21 (K : Ok X cc RX5 nL d c) (hd : decode cc pc = .ok (.getfield 21, 3)) (k : V X nL kc ks (pc + 3) ls (.ref (ad 39) :: st) (wC ad c G s)) : V X nL kc ks pc ls (.ref (ad 35) :: st) (wC ad c G s) := v_get K inC5 35 rfl rfl 4 (by decide) lk_RX5_21 rfl rfl hd k
theorem lk_RX5_24 : Cond.fieldLink RX5 24 "CafeTables$Plan" "clashes" "[I" ∈ BG := (BG_ix 242 (by decide +kernel) rfl)
theorem gC_RX5_24 (K : Ok X cc RX5 nL d c) (hd : decode cc pc = .ok (.getfield 24, 3)) (k : V X nL kc ks (pc + 3) ls (.ref (ad 40) :: st) (wC ad c G s)) : V X nL kc ks pc ls (.ref (ad 35) :: st) (wC ad c G s) := v_get K inC5 35 rfl rfl 5 (by decide) lk_RX5_24 rfl rfl hd k
theorem lk_RX5_27 : Cond.fieldLink RX5 27 "CafeTables$Plan" "hoped" "[I" ∈ BG := (BG_ix 243 (by decide +kernel) rfl)
theorem gC_RX5_27 (K : Ok X cc RX5 nL d c) (hd : decode cc pc = .ok (.getfield 27, 3)) (k : V X nL kc ks (pc + 3) ls (.ref (ad 41) :: st) (wC ad c G s)) : V X nL kc ks pc ls (.ref (ad 35) :: st) (wC ad c G s) := v_get K inC5 35 rfl rfl 6 (by decide) lk_RX5_27 rfl rfl hd k
theorem lk_RX5_30 : Cond.fieldLink RX5 30 "CafeTables$Plan" "given" "[I" ∈ BG := (BG_ix 244 (by decide +kernel) rfl)
theorem gC_RX5_30 (K : Ok X cc RX5 nL d c) (hd : decode cc pc = .ok (.getfield 30, 3)) (k : V X nL kc ks (pc + 3) ls (.ref (ad 42) :: st) (wC ad c G s)) : V X nL kc ks pc ls (.ref (ad 35) :: st) (wC ad c G s) := v_get K inC5 35 rfl rfl 7 (by decide) lk_RX5_30 rfl rfl hd k
theorem lk_RX5_33 : Cond.fieldLink RX5 33 "CafeTables$Plan" "house" "LCafeTables$House;" ∈ BG := (BG_ix 245 (by decide +kernel) rfl)
theorem gC_RX5_33 (K : Ok X cc RX5 nL d c) (hd : decode cc pc = .ok (.getfield 33, 3)) (k : V X nL kc ks (pc + 3) ls (.ref (ad 1) :: st) (wC ad c G s)) : V X nL kc ks pc ls (.ref (ad 35) :: st) (wC ad c G s) := v_get K inC5 35 rfl rfl 8 (by decide) lk_RX5_33 rfl rfl hd k
theorem lk_RX5_37 : Cond.fieldLink RX5 37 "CafeTables$Plan" "groups" "LCafeTables$Groups;" ∈ BG := (BG_ix 246 (by decide +kernel) rfl)
theorem gC_RX5_37 (K : Ok X cc RX5 nL d c) (hd : decode cc pc = .ok (.getfield 37, 3)) (k : V X nL kc ks (pc + 3) ls (.ref (ad 7) :: st) (wC ad c G s)) : V X nL kc ks pc ls (.ref (ad 35) :: st) (wC ad c G s) := v_get K inC5 35 rfl rfl 9 (by decide) lk_RX5_37 rfl rfl hd k
theorem lk_RX5_41 : Cond.fieldLink RX5 41 "CafeTables$Groups" "count" "I" ∈ BG := (BG_ix 139 (by decide +kernel) rfl)
theorem gC_RX5_41 {v : Int32} (K : Ok X cc RX5 nL d c) (hd : decode cc pc = .ok (.getfield 41, 3)) (hv : s 7 1 = v) (k : V X nL kc ks (pc + 3) ls (.int v :: st) (wC ad c G s)) : V X nL kc ks pc ls (.ref (ad 7) :: st) (wC ad c G s) := by subst hv; exact v_get K inC1 7 rfl rfl 1 (by decide) lk_RX5_41 rfl rfl hd k
theorem lk_RX5_53 : Cond.fieldLink RX5 53 "CafeTables$Plan" "planned" "I" ∈ BG := (BG_ix 247 (by decide +kernel) rfl)
theorem gC_RX5_53 {v : Int32} (K : Ok X cc RX5 nL d c) (hd : decode cc pc = .ok (.getfield 53, 3)) (hv : s 35 10 = v) (k : V X nL kc ks (pc + 3) ls (.int v :: st) (wC ad c G s)) : V X nL kc ks pc ls (.ref (ad 35) :: st) (wC ad c G s) := by subst hv; exact v_get K inC5 35 rfl rfl 10 (by decide) lk_RX5_53 rfl rfl hd k
theorem pC_RX5_53 {v : Int32} (K : Ok X cc RX5 nL d c) (hd : decode cc pc = .ok (.putfield 53, 3)) (k : V X nL kc ks (pc + 3) ls st (wC ad c G (up2 s 35 10 v))) : V X nL kc ks pc ls (.int v :: .ref (ad 35) :: st) (wC ad c G s) := v_put (ty := .int) K inC5 tyX5 tyX5_ok nmX5 35 rfl rfl 10 (by decide) lk_RX5_53 rfl rfl rfl rfl rfl (Nat.le_of_ble_eq_true rfl) rfl hd k
theorem lk_RX5_56 : Cond.fieldLink RX5 56 "CafeTables$Groups" "row" "[LCafeTables$Guest;" ∈ BG := (BG_ix 137 (by decide +kernel) rfl)
theorem gC_RX5_56 (K : Ok X cc RX5 nL d c) (hd : decode cc pc = .ok (.getfield 56, 3)) (k : V X nL kc ks (pc + 3) ls (.ref (ad 8) :: st) (wC ad c G s)) : V X nL kc ks pc ls (.ref (ad 7) :: st) (wC ad c G s) := v_get K inC1 7 rfl rfl 0 (by decide) lk_RX5_56 rfl rfl hd k
theorem lk_RX5_60 : Cond.fieldLink RX5 60 "CafeTables$Guest" "size" "I" ∈ BG := (BG_ix 395 (by decide +kernel) rfl)
theorem gC_RX5_60 {a : Nat} (ha : gm G a = true) (K : Ok X cc RX5 nL d c) (hd : decode cc pc = .ok (.getfield 60, 3)) (k : V X nL kc ks (pc + 3) ls (.int (gv G a 1) :: st) (wC ad c G s)) : V X nL kc ks pc ls (.ref a :: st) (wC ad c G s) := by
  obtain ⟨q, hq⟩ := gpos (ad := ad) (c := c) (s := s) ha
  rcases gk3 G a with e | e | e <;> rw [e] at hq
  · exact v_get K inC2 q hq rfl 1 (by decide) lk_RX5_60 rfl rfl hd k
  · exact v_get K inC7 q hq rfl 1 (by decide) lk_RX5_60 rfl rfl hd k
  · exact v_get K inC4 q hq rfl 1 (by decide) lk_RX5_60 rfl rfl hd k
theorem lk_RX5_85 : Cond.fieldLink RX5 85 "CafeTables$Plan" "most" "I" ∈ BG := (BG_ix 237 (by decide +kernel) rfl)
theorem gC_RX5_85 {v : Int32} (K : Ok X cc RX5 nL d c) (hd : decode cc pc = .ok (.getfield 85, 3)) (hv : s 35 1 = v) (k : V X nL kc ks (pc + 3) ls (.int v :: st) (wC ad c G s)) : V X nL kc ks pc ls (.ref (ad 35) :: st) (wC ad c G s) := by subst hv; exact v_get K inC5 35 rfl rfl 1 (by decide) lk_RX5_85 rfl rfl hd k
theorem pC_RX5_85 {v : Int32} (K : Ok X cc RX5 nL d c) (hd : decode cc pc = .ok (.putfield 85, 3)) (k : V X nL kc ks (pc + 3) ls st (wC ad c G (up2 s 35 1 v))) : V X nL kc ks pc ls (.int v :: .ref (ad 35) :: st) (wC ad c G s) := v_put (ty := .int) K inC5 tyX5 tyX5_ok nmX5 35 rfl rfl 1 (by decide) lk_RX5_85 rfl rfl rfl rfl rfl (Nat.le_of_ble_eq_true rfl) rfl hd k
theorem lk_RX5_92 : Cond.fieldLink RX5 92 "CafeTables$Guest" "comes" "I" ∈ BG := (BG_ix 401 (by decide +kernel) rfl)
theorem gC_RX5_92 {a : Nat} (ha : gm G a = true) (K : Ok X cc RX5 nL d c) (hd : decode cc pc = .ok (.getfield 92, 3)) (k : V X nL kc ks (pc + 3) ls (.int (gv G a 2) :: st) (wC ad c G s)) : V X nL kc ks pc ls (.ref a :: st) (wC ad c G s) := by
  obtain ⟨q, hq⟩ := gpos (ad := ad) (c := c) (s := s) ha
  rcases gk3 G a with e | e | e <;> rw [e] at hq
  · exact v_get K inC2 q hq rfl 2 (by decide) lk_RX5_92 rfl rfl hd k
  · exact v_get K inC7 q hq rfl 2 (by decide) lk_RX5_92 rfl rfl hd k
  · exact v_get K inC4 q hq rfl 2 (by decide) lk_RX5_92 rfl rfl hd k
theorem lk_RX5_95 : Cond.fieldLink RX5 95 "CafeTables$House" "tables" "I" ∈ BG := (BG_ix 97 (by decide +kernel) rfl)
theorem gC_RX5_95 {o : Nat} (ho : isH o = true) {v : Int32} (K : Ok X cc RX5 nL d c) (hd : decode cc pc = .ok (.getfield 95, 3)) (hv : s o 2 = v) (k : V X nL kc ks (pc + 3) ls (.int v :: st) (wC ad c G s)) : V X nL kc ks pc ls (.ref (ad o) :: st) (wC ad c G s) := by
  subst hv
  rcases isH_c ho with rfl | rfl
  · exact v_get K inC3 1 rfl rfl 2 (by decide) lk_RX5_95 rfl rfl hd k
  · exact v_get K inC3 4 rfl rfl 2 (by decide) lk_RX5_95 rfl rfl hd k
theorem lk_RX5_100 : Cond.fieldLink RX5 100 "CafeTables$House" "seats" "[I" ∈ BG := (BG_ix 93 (by decide +kernel) rfl)
theorem gC_RX5_100 {o : Nat} (ho : isH o = true) (K : Ok X cc RX5 nL d c) (hd : decode cc pc = .ok (.getfield 100, 3)) (k : V X nL kc ks (pc + 3) ls (.ref (ad (o + 2)) :: st) (wC ad c G s)) : V X nL kc ks pc ls (.ref (ad o) :: st) (wC ad c G s) := by
  rcases isH_c ho with rfl | rfl
  · exact v_get K inC3 1 rfl rfl 1 (by decide) lk_RX5_100 rfl rfl hd k
  · exact v_get K inC3 4 rfl rfl 1 (by decide) lk_RX5_100 rfl rfl hd k
theorem lk_RX6_9 : Cond.fieldLink RX6 9 "CafeTables$Sheet" "cells" "[I" ∈ BG := (BG_ix 155 (by decide +kernel) rfl)
theorem gC_RX6_9 {o : Nat} (ho : isS o = true) (K : Ok X cc RX6 nL d c) (hd : decode cc pc = .ok (.getfield 9, 3)) (k : V X nL kc ks (pc + 3) ls (.ref (ad (o + 4)) :: st) (wC ad c G s)) : V X nL kc ks pc ls (.ref (ad o) :: st) (wC ad c G s) := by
  rcases isS_c ho with rfl | rfl | rfl | rfl
  · exact v_get K inC6 10 rfl rfl 0 (by decide) lk_RX6_9 rfl rfl hd k
  · exact v_get K inC6 11 rfl rfl 0 (by decide) lk_RX6_9 rfl rfl hd k
  · exact v_get K inC6 12 rfl rfl 0 (by decide) lk_RX6_9 rfl rfl hd k
  · exact v_get K inC6 13 rfl rfl 0 (by decide) lk_RX6_9 rfl rfl hd k
theorem lk_RX6_21 : Cond.fieldLink RX6 21 "CafeTables$Sheet" "has" "Z" ∈ BG := (BG_ix 158 (by decide +kernel) rfl)
theorem gC_RX6_21 {o : Nat} (ho : isS o = true) {v : Int32} (K : Ok X cc RX6 nL d c) (hd : decode cc pc = .ok (.getfield 21, 3)) (hv : s o 1 = v) (k : V X nL kc ks (pc + 3) ls (.int v :: st) (wC ad c G s)) : V X nL kc ks pc ls (.ref (ad o) :: st) (wC ad c G s) := by
  subst hv
  rcases isS_c ho with rfl | rfl | rfl | rfl
  · exact v_get K inC6 10 rfl rfl 1 (by decide) lk_RX6_21 rfl rfl hd k
  · exact v_get K inC6 11 rfl rfl 1 (by decide) lk_RX6_21 rfl rfl hd k
  · exact v_get K inC6 12 rfl rfl 1 (by decide) lk_RX6_21 rfl rfl hd k
  · exact v_get K inC6 13 rfl rfl 1 (by decide) lk_RX6_21 rfl rfl hd k
theorem pC_RX6_21 {o : Nat} (ho : isS o = true) {v : Int32} (K : Ok X cc RX6 nL d c) (hb : nb v = true) (hd : decode cc pc = .ok (.putfield 21, 3)) (k : V X nL kc ks (pc + 3) ls st (wC ad c G (up2 s o 1 v))) : V X nL kc ks pc ls (.int v :: .ref (ad o) :: st) (wC ad c G s) := by
  rcases isS_c ho with rfl | rfl | rfl | rfl
  · exact v_put (ty := .boolean) K inC6 tyX6 tyX6_ok nmX6 10 rfl rfl 1 (by decide) lk_RX6_21 rfl rfl rfl (nb_nar hb) (nb_fit hb) (Nat.le_of_ble_eq_true rfl) rfl hd k
  · exact v_put (ty := .boolean) K inC6 tyX6 tyX6_ok nmX6 11 rfl rfl 1 (by decide) lk_RX6_21 rfl rfl rfl (nb_nar hb) (nb_fit hb) (Nat.le_of_ble_eq_true rfl) rfl hd k
  · exact v_put (ty := .boolean) K inC6 tyX6 tyX6_ok nmX6 12 rfl rfl 1 (by decide) lk_RX6_21 rfl rfl rfl (nb_nar hb) (nb_fit hb) (Nat.le_of_ble_eq_true rfl) rfl hd k
  · exact v_put (ty := .boolean) K inC6 tyX6 tyX6_ok nmX6 13 rfl rfl 1 (by decide) lk_RX6_21 rfl rfl rfl (nb_nar hb) (nb_fit hb) (Nat.le_of_ble_eq_true rfl) rfl hd k
theorem lk_RX6_25 : Cond.fieldLink RX6 25 "CafeTables$Sheet" "sort" "I" ∈ BG := (BG_ix 160 (by decide +kernel) rfl)
theorem gC_RX6_25 {o : Nat} (ho : isS o = true) {v : Int32} (K : Ok X cc RX6 nL d c) (hd : decode cc pc = .ok (.getfield 25, 3)) (hv : s o 2 = v) (k : V X nL kc ks (pc + 3) ls (.int v :: st) (wC ad c G s)) : V X nL kc ks pc ls (.ref (ad o) :: st) (wC ad c G s) := by
  subst hv
  rcases isS_c ho with rfl | rfl | rfl | rfl
  · exact v_get K inC6 10 rfl rfl 2 (by decide) lk_RX6_25 rfl rfl hd k
  · exact v_get K inC6 11 rfl rfl 2 (by decide) lk_RX6_25 rfl rfl hd k
  · exact v_get K inC6 12 rfl rfl 2 (by decide) lk_RX6_25 rfl rfl hd k
  · exact v_get K inC6 13 rfl rfl 2 (by decide) lk_RX6_25 rfl rfl hd k
theorem pC_RX6_25 {o : Nat} (ho : isS o = true) {v : Int32} (K : Ok X cc RX6 nL d c) (hd : decode cc pc = .ok (.putfield 25, 3)) (k : V X nL kc ks (pc + 3) ls st (wC ad c G (up2 s o 2 v))) : V X nL kc ks pc ls (.int v :: .ref (ad o) :: st) (wC ad c G s) := by
  rcases isS_c ho with rfl | rfl | rfl | rfl
  · exact v_put (ty := .int) K inC6 tyX6 tyX6_ok nmX6 10 rfl rfl 2 (by decide) lk_RX6_25 rfl rfl rfl rfl rfl (Nat.le_of_ble_eq_true rfl) rfl hd k
  · exact v_put (ty := .int) K inC6 tyX6 tyX6_ok nmX6 11 rfl rfl 2 (by decide) lk_RX6_25 rfl rfl rfl rfl rfl (Nat.le_of_ble_eq_true rfl) rfl hd k
  · exact v_put (ty := .int) K inC6 tyX6 tyX6_ok nmX6 12 rfl rfl 2 (by decide) lk_RX6_25 rfl rfl rfl rfl rfl (Nat.le_of_ble_eq_true rfl) rfl hd k
  · exact v_put (ty := .int) K inC6 tyX6 tyX6_ok nmX6 13 rfl rfl 2 (by decide) lk_RX6_25 rfl rfl rfl rfl rfl (Nat.le_of_ble_eq_true rfl) rfl hd k
theorem lk_RX6_29 : Cond.fieldLink RX6 29 "CafeTables$Sheet" "length" "I" ∈ BG := (BG_ix 162 (by decide +kernel) rfl)
theorem gC_RX6_29 {o : Nat} (ho : isS o = true) {v : Int32} (K : Ok X cc RX6 nL d c) (hd : decode cc pc = .ok (.getfield 29, 3)) (hv : s o 3 = v) (k : V X nL kc ks (pc + 3) ls (.int v :: st) (wC ad c G s)) : V X nL kc ks pc ls (.ref (ad o) :: st) (wC ad c G s) := by
  subst hv
  rcases isS_c ho with rfl | rfl | rfl | rfl
  · exact v_get K inC6 10 rfl rfl 3 (by decide) lk_RX6_29 rfl rfl hd k
  · exact v_get K inC6 11 rfl rfl 3 (by decide) lk_RX6_29 rfl rfl hd k
  · exact v_get K inC6 12 rfl rfl 3 (by decide) lk_RX6_29 rfl rfl hd k
  · exact v_get K inC6 13 rfl rfl 3 (by decide) lk_RX6_29 rfl rfl hd k
theorem pC_RX6_29 {o : Nat} (ho : isS o = true) {v : Int32} (K : Ok X cc RX6 nL d c) (hd : decode cc pc = .ok (.putfield 29, 3)) (k : V X nL kc ks (pc + 3) ls st (wC ad c G (up2 s o 3 v))) : V X nL kc ks pc ls (.int v :: .ref (ad o) :: st) (wC ad c G s) := by
  rcases isS_c ho with rfl | rfl | rfl | rfl
  · exact v_put (ty := .int) K inC6 tyX6 tyX6_ok nmX6 10 rfl rfl 3 (by decide) lk_RX6_29 rfl rfl rfl rfl rfl (Nat.le_of_ble_eq_true rfl) rfl hd k
  · exact v_put (ty := .int) K inC6 tyX6 tyX6_ok nmX6 11 rfl rfl 3 (by decide) lk_RX6_29 rfl rfl rfl rfl rfl (Nat.le_of_ble_eq_true rfl) rfl hd k
  · exact v_put (ty := .int) K inC6 tyX6 tyX6_ok nmX6 12 rfl rfl 3 (by decide) lk_RX6_29 rfl rfl rfl rfl rfl (Nat.le_of_ble_eq_true rfl) rfl hd k
  · exact v_put (ty := .int) K inC6 tyX6 tyX6_ok nmX6 13 rfl rfl 3 (by decide) lk_RX6_29 rfl rfl rfl rfl rfl (Nat.le_of_ble_eq_true rfl) rfl hd k
theorem lk_RX7_7 : Cond.fieldLink RX7 7 "CafeTables$Staying" "stay" "I" ∈ BG := (BG_ix 405 (by decide +kernel) rfl)
theorem sf_RX7_7 : Cond.sameField "CafeTables$Staying" "CafeTables$Guest" "stay" "I" ∈ BG := (BG_ix 406 (by decide +kernel) rfl)
theorem gC_RX7_7 {a : Nat} (ha : gm G a = true) (K : Ok X cc RX7 nL d c) (hd : decode cc pc = .ok (.getfield 7, 3)) (k : V X nL kc ks (pc + 3) ls (.int (gv G a 3) :: st) (wC ad c G s)) : V X nL kc ks pc ls (.ref a :: st) (wC ad c G s) := by
  obtain ⟨q, hq⟩ := gpos (ad := ad) (c := c) (s := s) ha
  rcases gk3 G a with e | e | e <;> rw [e] at hq
  · exact v_getS K inC2 q hq rfl 3 (by decide) lk_RX7_7 sf_RX7_7 rfl hd k
  · exact v_getS K inC7 q hq rfl 3 (by decide) lk_RX7_7 sf_RX7_7 rfl hd k
  · exact v_getS K inC4 q hq rfl 3 (by decide) lk_RX7_7 sf_RX7_7 rfl hd k
theorem lk_RX7_13 : Cond.fieldLink RX7 13 "CafeTables$Staying" "size" "I" ∈ BG := (BG_ix 396 (by decide +kernel) rfl)
theorem sf_RX7_13 : Cond.sameField "CafeTables$Staying" "CafeTables$Guest" "size" "I" ∈ BG := (BG_ix 397 (by decide +kernel) rfl)
theorem gC_RX7_13 {a : Nat} (ha : gm G a = true) (K : Ok X cc RX7 nL d c) (hd : decode cc pc = .ok (.getfield 13, 3)) (k : V X nL kc ks (pc + 3) ls (.int (gv G a 1) :: st) (wC ad c G s)) : V X nL kc ks pc ls (.ref a :: st) (wC ad c G s) := by
  obtain ⟨q, hq⟩ := gpos (ad := ad) (c := c) (s := s) ha
  rcases gk3 G a with e | e | e <;> rw [e] at hq
  · exact v_getS K inC2 q hq rfl 1 (by decide) lk_RX7_13 sf_RX7_13 rfl hd k
  · exact v_getS K inC7 q hq rfl 1 (by decide) lk_RX7_13 sf_RX7_13 rfl hd k
  · exact v_getS K inC4 q hq rfl 1 (by decide) lk_RX7_13 sf_RX7_13 rfl hd k
theorem lk_RX8_7 : Cond.fieldLink RX8 7 "CafeTables$Trace" "value" "I" ∈ BG := (BG_ix 179 (by decide +kernel) rfl)
theorem gC_RX8_7 {v : Int32} (K : Ok X cc RX8 nL d c) (hd : decode cc pc = .ok (.getfield 7, 3)) (hv : s 18 0 = v) (k : V X nL kc ks (pc + 3) ls (.int v :: st) (wC ad c G s)) : V X nL kc ks pc ls (.ref (ad 18) :: st) (wC ad c G s) := by subst hv; exact v_get K inC8 18 rfl rfl 0 (by decide) lk_RX8_7 rfl rfl hd k
theorem pC_RX8_7 {v : Int32} (K : Ok X cc RX8 nL d c) (hd : decode cc pc = .ok (.putfield 7, 3)) (k : V X nL kc ks (pc + 3) ls st (wC ad c G (up2 s 18 0 v))) : V X nL kc ks pc ls (.int v :: .ref (ad 18) :: st) (wC ad c G s) := v_put (ty := .int) K inC8 tyX8 tyX8_ok nmX8 18 rfl rfl 0 (by decide) lk_RX8_7 rfl rfl rfl rfl rfl (Nat.le_of_ble_eq_true rfl) rfl hd k
theorem lk_RX9_12 : Cond.fieldLink RX9 12 "CafeTables" "house" "LCafeTables$House;" ∈ BG := (BG_ix 271 (by decide +kernel) rfl)
theorem gC_RX9_12 (K : Ok X cc RX9 nL d c) (hd : decode cc pc = .ok (.getfield 12, 3)) (k : V X nL kc ks (pc + 3) ls (.ref (ad 1) :: st) (wC ad c G s)) : V X nL kc ks pc ls (.ref (ad 0) :: st) (wC ad c G s) := v_get K inC9 0 rfl rfl 0 (by decide) lk_RX9_12 rfl rfl hd k
theorem lk_RX9_18 : Cond.fieldLink RX9 18 "CafeTables" "otherHouse" "LCafeTables$House;" ∈ BG := (BG_ix 275 (by decide +kernel) rfl)
theorem gC_RX9_18 (K : Ok X cc RX9 nL d c) (hd : decode cc pc = .ok (.getfield 18, 3)) (k : V X nL kc ks (pc + 3) ls (.ref (ad 4) :: st) (wC ad c G s)) : V X nL kc ks pc ls (.ref (ad 0) :: st) (wC ad c G s) := v_get K inC9 0 rfl rfl 4 (by decide) lk_RX9_18 rfl rfl hd k
theorem lk_RX9_24 : Cond.fieldLink RX9 24 "CafeTables" "groups" "LCafeTables$Groups;" ∈ BG := (BG_ix 272 (by decide +kernel) rfl)
theorem gC_RX9_24 (K : Ok X cc RX9 nL d c) (hd : decode cc pc = .ok (.getfield 24, 3)) (k : V X nL kc ks (pc + 3) ls (.ref (ad 7) :: st) (wC ad c G s)) : V X nL kc ks pc ls (.ref (ad 0) :: st) (wC ad c G s) := v_get K inC9 0 rfl rfl 1 (by decide) lk_RX9_24 rfl rfl hd k
theorem lk_RX9_30 : Cond.fieldLink RX9 30 "CafeTables" "sheets" "[LCafeTables$Sheet;" ∈ BG := (BG_ix 273 (by decide +kernel) rfl)
theorem gC_RX9_30 (K : Ok X cc RX9 nL d c) (hd : decode cc pc = .ok (.getfield 30, 3)) (k : V X nL kc ks (pc + 3) ls (.ref (ad 9) :: st) (wC ad c G s)) : V X nL kc ks pc ls (.ref (ad 0) :: st) (wC ad c G s) := v_get K inC9 0 rfl rfl 2 (by decide) lk_RX9_30 rfl rfl hd k
theorem lk_RX9_38 : Cond.fieldLink RX9 38 "CafeTables" "marks" "LCafeTables$Trace;" ∈ BG := (BG_ix 274 (by decide +kernel) rfl)
theorem gC_RX9_38 (K : Ok X cc RX9 nL d c) (hd : decode cc pc = .ok (.getfield 38, 3)) (k : V X nL kc ks (pc + 3) ls (.ref (ad 18) :: st) (wC ad c G s)) : V X nL kc ks pc ls (.ref (ad 0) :: st) (wC ad c G s) := v_get K inC9 0 rfl rfl 3 (by decide) lk_RX9_38 rfl rfl hd k
theorem lk_RX9_47 : Cond.fieldLink RX9 47 "CafeTables" "present" "LCafeTables$Day;" ∈ BG := (BG_ix 276 (by decide +kernel) rfl)
theorem gC_RX9_47 (K : Ok X cc RX9 nL d c) (hd : decode cc pc = .ok (.getfield 47, 3)) (k : V X nL kc ks (pc + 3) ls (.ref (ad 19) :: st) (wC ad c G s)) : V X nL kc ks pc ls (.ref (ad 0) :: st) (wC ad c G s) := v_get K inC9 0 rfl rfl 5 (by decide) lk_RX9_47 rfl rfl hd k
theorem lk_RX9_51 : Cond.fieldLink RX9 51 "CafeTables" "trial" "LCafeTables$Day;" ∈ BG := (BG_ix 277 (by decide +kernel) rfl)
theorem gC_RX9_51 (K : Ok X cc RX9 nL d c) (hd : decode cc pc = .ok (.getfield 51, 3)) (k : V X nL kc ks (pc + 3) ls (.ref (ad 27) :: st) (wC ad c G s)) : V X nL kc ks pc ls (.ref (ad 0) :: st) (wC ad c G s) := v_get K inC9 0 rfl rfl 6 (by decide) lk_RX9_51 rfl rfl hd k
theorem lk_RX9_57 : Cond.fieldLink RX9 57 "CafeTables" "bestPlan" "LCafeTables$Plan;" ∈ BG := (BG_ix 278 (by decide +kernel) rfl)
theorem gC_RX9_57 (K : Ok X cc RX9 nL d c) (hd : decode cc pc = .ok (.getfield 57, 3)) (k : V X nL kc ks (pc + 3) ls (.ref (ad 35) :: st) (wC ad c G s)) : V X nL kc ks pc ls (.ref (ad 0) :: st) (wC ad c G s) := v_get K inC9 0 rfl rfl 7 (by decide) lk_RX9_57 rfl rfl hd k
theorem lk_RX9_61 : Cond.fieldLink RX9 61 "CafeTables" "coinByPatience" "[I" ∈ BG := (BG_ix 279 (by decide +kernel) rfl)
theorem gC_RX9_61 (K : Ok X cc RX9 nL d c) (hd : decode cc pc = .ok (.getfield 61, 3)) (k : V X nL kc ks (pc + 3) ls (.ref (ad 43) :: st) (wC ad c G s)) : V X nL kc ks pc ls (.ref (ad 0) :: st) (wC ad c G s) := v_get K inC9 0 rfl rfl 8 (by decide) lk_RX9_61 rfl rfl hd k
theorem lk_RX9_65 : Cond.fieldLink RX9 65 "CafeTables" "mixRow" "[I" ∈ BG := (BG_ix 280 (by decide +kernel) rfl)
theorem gC_RX9_65 (K : Ok X cc RX9 nL d c) (hd : decode cc pc = .ok (.getfield 65, 3)) (k : V X nL kc ks (pc + 3) ls (.ref (ad 44) :: st) (wC ad c G s)) : V X nL kc ks pc ls (.ref (ad 0) :: st) (wC ad c G s) := v_get K inC9 0 rfl rfl 9 (by decide) lk_RX9_65 rfl rfl hd k
theorem lk_RX9_68 : Cond.fieldLink RX9 68 "CafeTables" "latestFault" "I" ∈ BG := (BG_ix 281 (by decide +kernel) rfl)
theorem gC_RX9_68 {v : Int32} (K : Ok X cc RX9 nL d c) (hd : decode cc pc = .ok (.getfield 68, 3)) (hv : s 0 10 = v) (k : V X nL kc ks (pc + 3) ls (.int v :: st) (wC ad c G s)) : V X nL kc ks pc ls (.ref (ad 0) :: st) (wC ad c G s) := by subst hv; exact v_get K inC9 0 rfl rfl 10 (by decide) lk_RX9_68 rfl rfl hd k
theorem pC_RX9_68 {v : Int32} (K : Ok X cc RX9 nL d c) (hd : decode cc pc = .ok (.putfield 68, 3)) (k : V X nL kc ks (pc + 3) ls st (wC ad c G (up2 s 0 10 v))) : V X nL kc ks pc ls (.int v :: .ref (ad 0) :: st) (wC ad c G s) := v_put (ty := .int) K inC9 tyX9 tyX9_ok nmX9 0 rfl rfl 10 (by decide) lk_RX9_68 rfl rfl rfl rfl rfl (Nat.le_of_ble_eq_true rfl) rfl hd k
theorem lk_RX9_79 : Cond.fieldLink RX9 79 "CafeTables$Sheet" "has" "Z" ∈ BG := (BG_ix 159 (by decide +kernel) rfl)
theorem gC_RX9_79 {o : Nat} (ho : isS o = true) {v : Int32} (K : Ok X cc RX9 nL d c) (hd : decode cc pc = .ok (.getfield 79, 3)) (hv : s o 1 = v) (k : V X nL kc ks (pc + 3) ls (.int v :: st) (wC ad c G s)) : V X nL kc ks pc ls (.ref (ad o) :: st) (wC ad c G s) := by
  subst hv
  rcases isS_c ho with rfl | rfl | rfl | rfl
  · exact v_get K inC6 10 rfl rfl 1 (by decide) lk_RX9_79 rfl rfl hd k
  · exact v_get K inC6 11 rfl rfl 1 (by decide) lk_RX9_79 rfl rfl hd k
  · exact v_get K inC6 12 rfl rfl 1 (by decide) lk_RX9_79 rfl rfl hd k
  · exact v_get K inC6 13 rfl rfl 1 (by decide) lk_RX9_79 rfl rfl hd k
theorem pC_RX9_79 {o : Nat} (ho : isS o = true) {v : Int32} (K : Ok X cc RX9 nL d c) (hb : nb v = true) (hd : decode cc pc = .ok (.putfield 79, 3)) (k : V X nL kc ks (pc + 3) ls st (wC ad c G (up2 s o 1 v))) : V X nL kc ks pc ls (.int v :: .ref (ad o) :: st) (wC ad c G s) := by
  rcases isS_c ho with rfl | rfl | rfl | rfl
  · exact v_put (ty := .boolean) K inC6 tyX6 tyX6_ok nmX6 10 rfl rfl 1 (by decide) lk_RX9_79 rfl rfl rfl (nb_nar hb) (nb_fit hb) (Nat.le_of_ble_eq_true rfl) rfl hd k
  · exact v_put (ty := .boolean) K inC6 tyX6 tyX6_ok nmX6 11 rfl rfl 1 (by decide) lk_RX9_79 rfl rfl rfl (nb_nar hb) (nb_fit hb) (Nat.le_of_ble_eq_true rfl) rfl hd k
  · exact v_put (ty := .boolean) K inC6 tyX6 tyX6_ok nmX6 12 rfl rfl 1 (by decide) lk_RX9_79 rfl rfl rfl (nb_nar hb) (nb_fit hb) (Nat.le_of_ble_eq_true rfl) rfl hd k
  · exact v_put (ty := .boolean) K inC6 tyX6 tyX6_ok nmX6 13 rfl rfl 1 (by decide) lk_RX9_79 rfl rfl rfl (nb_nar hb) (nb_fit hb) (Nat.le_of_ble_eq_true rfl) rfl hd k
theorem lk_RX9_83 : Cond.fieldLink RX9 83 "CafeTables$Sheet" "sort" "I" ∈ BG := (BG_ix 161 (by decide +kernel) rfl)
theorem gC_RX9_83 {o : Nat} (ho : isS o = true) {v : Int32} (K : Ok X cc RX9 nL d c) (hd : decode cc pc = .ok (.getfield 83, 3)) (hv : s o 2 = v) (k : V X nL kc ks (pc + 3) ls (.int v :: st) (wC ad c G s)) : V X nL kc ks pc ls (.ref (ad o) :: st) (wC ad c G s) := by
  subst hv
  rcases isS_c ho with rfl | rfl | rfl | rfl
  · exact v_get K inC6 10 rfl rfl 2 (by decide) lk_RX9_83 rfl rfl hd k
  · exact v_get K inC6 11 rfl rfl 2 (by decide) lk_RX9_83 rfl rfl hd k
  · exact v_get K inC6 12 rfl rfl 2 (by decide) lk_RX9_83 rfl rfl hd k
  · exact v_get K inC6 13 rfl rfl 2 (by decide) lk_RX9_83 rfl rfl hd k
theorem lk_RX9_102 : Cond.fieldLink RX9 102 "CafeTables$Groups" "count" "I" ∈ BG := (BG_ix 141 (by decide +kernel) rfl)
theorem gC_RX9_102 {v : Int32} (K : Ok X cc RX9 nL d c) (hd : decode cc pc = .ok (.getfield 102, 3)) (hv : s 7 1 = v) (k : V X nL kc ks (pc + 3) ls (.int v :: st) (wC ad c G s)) : V X nL kc ks pc ls (.ref (ad 7) :: st) (wC ad c G s) := by subst hv; exact v_get K inC1 7 rfl rfl 1 (by decide) lk_RX9_102 rfl rfl hd k
theorem pC_RX9_102 {v : Int32} (K : Ok X cc RX9 nL d c) (hd : decode cc pc = .ok (.putfield 102, 3)) (k : V X nL kc ks (pc + 3) ls st (wC ad c G (up2 s 7 1 v))) : V X nL kc ks pc ls (.int v :: .ref (ad 7) :: st) (wC ad c G s) := v_put (ty := .int) K inC1 tyX1 tyX1_ok nmX1 7 rfl rfl 1 (by decide) lk_RX9_102 rfl rfl rfl rfl rfl (Nat.le_of_ble_eq_true rfl) rfl hd k
theorem lk_RX9_108 : Cond.fieldLink RX9 108 "CafeTables$House" "tables" "I" ∈ BG := (BG_ix 96 (by decide +kernel) rfl)
theorem gC_RX9_108 {o : Nat} (ho : isH o = true) {v : Int32} (K : Ok X cc RX9 nL d c) (hd : decode cc pc = .ok (.getfield 108, 3)) (hv : s o 2 = v) (k : V X nL kc ks (pc + 3) ls (.int v :: st) (wC ad c G s)) : V X nL kc ks pc ls (.ref (ad o) :: st) (wC ad c G s) := by
  subst hv
  rcases isH_c ho with rfl | rfl
  · exact v_get K inC3 1 rfl rfl 2 (by decide) lk_RX9_108 rfl rfl hd k
  · exact v_get K inC3 4 rfl rfl 2 (by decide) lk_RX9_108 rfl rfl hd k
theorem lk_RX9_111 : Cond.fieldLink RX9 111 "CafeTables$House" "where" "[I" ∈ BG := (BG_ix 89 (by decide +kernel) rfl)
theorem gC_RX9_111 {o : Nat} (ho : isH o = true) (K : Ok X cc RX9 nL d c) (hd : decode cc pc = .ok (.getfield 111, 3)) (k : V X nL kc ks (pc + 3) ls (.ref (ad (o + 1)) :: st) (wC ad c G s)) : V X nL kc ks pc ls (.ref (ad o) :: st) (wC ad c G s) := by
  rcases isH_c ho with rfl | rfl
  · exact v_get K inC3 1 rfl rfl 0 (by decide) lk_RX9_111 rfl rfl hd k
  · exact v_get K inC3 4 rfl rfl 0 (by decide) lk_RX9_111 rfl rfl hd k
theorem lk_RX9_114 : Cond.fieldLink RX9 114 "CafeTables$House" "seats" "[I" ∈ BG := (BG_ix 92 (by decide +kernel) rfl)
theorem gC_RX9_114 {o : Nat} (ho : isH o = true) (K : Ok X cc RX9 nL d c) (hd : decode cc pc = .ok (.getfield 114, 3)) (k : V X nL kc ks (pc + 3) ls (.ref (ad (o + 2)) :: st) (wC ad c G s)) : V X nL kc ks pc ls (.ref (ad o) :: st) (wC ad c G s) := by
  rcases isH_c ho with rfl | rfl
  · exact v_get K inC3 1 rfl rfl 1 (by decide) lk_RX9_114 rfl rfl hd k
  · exact v_get K inC3 4 rfl rfl 1 (by decide) lk_RX9_114 rfl rfl hd k
theorem lk_RX9_121 : Cond.fieldLink RX9 121 "CafeTables$House" "rule" "I" ∈ BG := (BG_ix 100 (by decide +kernel) rfl)
theorem gC_RX9_121 {o : Nat} (ho : isH o = true) {v : Int32} (K : Ok X cc RX9 nL d c) (hd : decode cc pc = .ok (.getfield 121, 3)) (hv : s o 3 = v) (k : V X nL kc ks (pc + 3) ls (.int v :: st) (wC ad c G s)) : V X nL kc ks pc ls (.ref (ad o) :: st) (wC ad c G s) := by
  subst hv
  rcases isH_c ho with rfl | rfl
  · exact v_get K inC3 1 rfl rfl 3 (by decide) lk_RX9_121 rfl rfl hd k
  · exact v_get K inC3 4 rfl rfl 3 (by decide) lk_RX9_121 rfl rfl hd k
theorem pC_RX9_121 {o : Nat} (ho : isH o = true) {v : Int32} (K : Ok X cc RX9 nL d c) (hd : decode cc pc = .ok (.putfield 121, 3)) (k : V X nL kc ks (pc + 3) ls st (wC ad c G (up2 s o 3 v))) : V X nL kc ks pc ls (.int v :: .ref (ad o) :: st) (wC ad c G s) := by
  rcases isH_c ho with rfl | rfl
  · exact v_put (ty := .int) K inC3 tyX3 tyX3_ok nmX3 1 rfl rfl 3 (by decide) lk_RX9_121 rfl rfl rfl rfl rfl (Nat.le_of_ble_eq_true rfl) rfl hd k
  · exact v_put (ty := .int) K inC3 tyX3 tyX3_ok nmX3 4 rfl rfl 3 (by decide) lk_RX9_121 rfl rfl rfl rfl rfl (Nat.le_of_ble_eq_true rfl) rfl hd k
theorem lk_RX9_124 : Cond.fieldLink RX9 124 "CafeTables$House" "patience" "I" ∈ BG := (BG_ix 103 (by decide +kernel) rfl)
theorem gC_RX9_124 {o : Nat} (ho : isH o = true) {v : Int32} (K : Ok X cc RX9 nL d c) (hd : decode cc pc = .ok (.getfield 124, 3)) (hv : s o 4 = v) (k : V X nL kc ks (pc + 3) ls (.int v :: st) (wC ad c G s)) : V X nL kc ks pc ls (.ref (ad o) :: st) (wC ad c G s) := by
  subst hv
  rcases isH_c ho with rfl | rfl
  · exact v_get K inC3 1 rfl rfl 4 (by decide) lk_RX9_124 rfl rfl hd k
  · exact v_get K inC3 4 rfl rfl 4 (by decide) lk_RX9_124 rfl rfl hd k
theorem pC_RX9_124 {o : Nat} (ho : isH o = true) {v : Int32} (K : Ok X cc RX9 nL d c) (hd : decode cc pc = .ok (.putfield 124, 3)) (k : V X nL kc ks (pc + 3) ls st (wC ad c G (up2 s o 4 v))) : V X nL kc ks pc ls (.int v :: .ref (ad o) :: st) (wC ad c G s) := by
  rcases isH_c ho with rfl | rfl
  · exact v_put (ty := .int) K inC3 tyX3 tyX3_ok nmX3 1 rfl rfl 4 (by decide) lk_RX9_124 rfl rfl rfl rfl rfl (Nat.le_of_ble_eq_true rfl) rfl hd k
  · exact v_put (ty := .int) K inC3 tyX3 tyX3_ok nmX3 4 rfl rfl 4 (by decide) lk_RX9_124 rfl rfl rfl rfl rfl (Nat.le_of_ble_eq_true rfl) rfl hd k
theorem lk_RX9_127 : Cond.fieldLink RX9 127 "CafeTables$House" "joins" "Z" ∈ BG := (BG_ix 109 (by decide +kernel) rfl)
theorem gC_RX9_127 {o : Nat} (ho : isH o = true) {v : Int32} (K : Ok X cc RX9 nL d c) (hd : decode cc pc = .ok (.getfield 127, 3)) (hv : s o 6 = v) (k : V X nL kc ks (pc + 3) ls (.int v :: st) (wC ad c G s)) : V X nL kc ks pc ls (.ref (ad o) :: st) (wC ad c G s) := by
  subst hv
  rcases isH_c ho with rfl | rfl
  · exact v_get K inC3 1 rfl rfl 6 (by decide) lk_RX9_127 rfl rfl hd k
  · exact v_get K inC3 4 rfl rfl 6 (by decide) lk_RX9_127 rfl rfl hd k
theorem pC_RX9_127 {o : Nat} (ho : isH o = true) {v : Int32} (K : Ok X cc RX9 nL d c) (hb : nb v = true) (hd : decode cc pc = .ok (.putfield 127, 3)) (k : V X nL kc ks (pc + 3) ls st (wC ad c G (up2 s o 6 v))) : V X nL kc ks pc ls (.int v :: .ref (ad o) :: st) (wC ad c G s) := by
  rcases isH_c ho with rfl | rfl
  · exact v_put (ty := .boolean) K inC3 tyX3 tyX3_ok nmX3 1 rfl rfl 6 (by decide) lk_RX9_127 rfl rfl rfl (nb_nar hb) (nb_fit hb) (Nat.le_of_ble_eq_true rfl) rfl hd k
  · exact v_put (ty := .boolean) K inC3 tyX3 tyX3_ok nmX3 4 rfl rfl 6 (by decide) lk_RX9_127 rfl rfl rfl (nb_nar hb) (nb_fit hb) (Nat.le_of_ble_eq_true rfl) rfl hd k
theorem lk_RX9_130 : Cond.fieldLink RX9 130 "CafeTables$House" "rainAt" "I" ∈ BG := (BG_ix 107 (by decide +kernel) rfl)
theorem gC_RX9_130 {o : Nat} (ho : isH o = true) {v : Int32} (K : Ok X cc RX9 nL d c) (hd : decode cc pc = .ok (.getfield 130, 3)) (hv : s o 5 = v) (k : V X nL kc ks (pc + 3) ls (.int v :: st) (wC ad c G s)) : V X nL kc ks pc ls (.ref (ad o) :: st) (wC ad c G s) := by
  subst hv
  rcases isH_c ho with rfl | rfl
  · exact v_get K inC3 1 rfl rfl 5 (by decide) lk_RX9_130 rfl rfl hd k
  · exact v_get K inC3 4 rfl rfl 5 (by decide) lk_RX9_130 rfl rfl hd k
theorem pC_RX9_130 {o : Nat} (ho : isH o = true) {v : Int32} (K : Ok X cc RX9 nL d c) (hd : decode cc pc = .ok (.putfield 130, 3)) (k : V X nL kc ks (pc + 3) ls st (wC ad c G (up2 s o 5 v))) : V X nL kc ks pc ls (.int v :: .ref (ad o) :: st) (wC ad c G s) := by
  rcases isH_c ho with rfl | rfl
  · exact v_put (ty := .int) K inC3 tyX3 tyX3_ok nmX3 1 rfl rfl 5 (by decide) lk_RX9_130 rfl rfl rfl rfl rfl (Nat.le_of_ble_eq_true rfl) rfl hd k
  · exact v_put (ty := .int) K inC3 tyX3 tyX3_ok nmX3 4 rfl rfl 5 (by decide) lk_RX9_130 rfl rfl rfl rfl rfl (Nat.le_of_ble_eq_true rfl) rfl hd k
theorem lk_RX9_159 : Cond.fieldLink RX9 159 "CafeTables$Guest" "size" "I" ∈ BG := (BG_ix 398 (by decide +kernel) rfl)
theorem gC_RX9_159 {a : Nat} (ha : gm G a = true) (K : Ok X cc RX9 nL d c) (hd : decode cc pc = .ok (.getfield 159, 3)) (k : V X nL kc ks (pc + 3) ls (.int (gv G a 1) :: st) (wC ad c G s)) : V X nL kc ks pc ls (.ref a :: st) (wC ad c G s) := by
  obtain ⟨q, hq⟩ := gpos (ad := ad) (c := c) (s := s) ha
  rcases gk3 G a with e | e | e <;> rw [e] at hq
  · exact v_get K inC2 q hq rfl 1 (by decide) lk_RX9_159 rfl rfl hd k
  · exact v_get K inC7 q hq rfl 1 (by decide) lk_RX9_159 rfl rfl hd k
  · exact v_get K inC4 q hq rfl 1 (by decide) lk_RX9_159 rfl rfl hd k
theorem lk_RX9_162 : Cond.fieldLink RX9 162 "CafeTables$Guest" "comes" "I" ∈ BG := (BG_ix 403 (by decide +kernel) rfl)
theorem gC_RX9_162 {a : Nat} (ha : gm G a = true) (K : Ok X cc RX9 nL d c) (hd : decode cc pc = .ok (.getfield 162, 3)) (k : V X nL kc ks (pc + 3) ls (.int (gv G a 2) :: st) (wC ad c G s)) : V X nL kc ks pc ls (.ref a :: st) (wC ad c G s) := by
  obtain ⟨q, hq⟩ := gpos (ad := ad) (c := c) (s := s) ha
  rcases gk3 G a with e | e | e <;> rw [e] at hq
  · exact v_get K inC2 q hq rfl 2 (by decide) lk_RX9_162 rfl rfl hd k
  · exact v_get K inC7 q hq rfl 2 (by decide) lk_RX9_162 rfl rfl hd k
  · exact v_get K inC4 q hq rfl 2 (by decide) lk_RX9_162 rfl rfl hd k
theorem lk_RX9_165 : Cond.fieldLink RX9 165 "CafeTables$Guest" "stay" "I" ∈ BG := (BG_ix 407 (by decide +kernel) rfl)
theorem gC_RX9_165 {a : Nat} (ha : gm G a = true) (K : Ok X cc RX9 nL d c) (hd : decode cc pc = .ok (.getfield 165, 3)) (k : V X nL kc ks (pc + 3) ls (.int (gv G a 3) :: st) (wC ad c G s)) : V X nL kc ks pc ls (.ref a :: st) (wC ad c G s) := by
  obtain ⟨q, hq⟩ := gpos (ad := ad) (c := c) (s := s) ha
  rcases gk3 G a with e | e | e <;> rw [e] at hq
  · exact v_get K inC2 q hq rfl 3 (by decide) lk_RX9_165 rfl rfl hd k
  · exact v_get K inC7 q hq rfl 3 (by decide) lk_RX9_165 rfl rfl hd k
  · exact v_get K inC4 q hq rfl 3 (by decide) lk_RX9_165 rfl rfl hd k
theorem lk_RX9_168 : Cond.fieldLink RX9 168 "CafeTables$Guest" "wants" "I" ∈ BG := (BG_ix 409 (by decide +kernel) rfl)
theorem gC_RX9_168 {a : Nat} (ha : gm G a = true) (K : Ok X cc RX9 nL d c) (hd : decode cc pc = .ok (.getfield 168, 3)) (k : V X nL kc ks (pc + 3) ls (.int (gv G a 4) :: st) (wC ad c G s)) : V X nL kc ks pc ls (.ref a :: st) (wC ad c G s) := by
  obtain ⟨q, hq⟩ := gpos (ad := ad) (c := c) (s := s) ha
  rcases gk3 G a with e | e | e <;> rw [e] at hq
  · exact v_get K inC2 q hq rfl 4 (by decide) lk_RX9_168 rfl rfl hd k
  · exact v_get K inC7 q hq rfl 4 (by decide) lk_RX9_168 rfl rfl hd k
  · exact v_get K inC4 q hq rfl 4 (by decide) lk_RX9_168 rfl rfl hd k
theorem lk_RX9_171 : Cond.fieldLink RX9 171 "CafeTables$Guest" "lure" "I" ∈ BG := (BG_ix 412 (by decide +kernel) rfl)
theorem gC_RX9_171 {a : Nat} (ha : gm G a = true) (K : Ok X cc RX9 nL d c) (hd : decode cc pc = .ok (.getfield 171, 3)) (k : V X nL kc ks (pc + 3) ls (.int (gv G a 5) :: st) (wC ad c G s)) : V X nL kc ks pc ls (.ref a :: st) (wC ad c G s) := by
  obtain ⟨q, hq⟩ := gpos (ad := ad) (c := c) (s := s) ha
  rcases gk3 G a with e | e | e <;> rw [e] at hq
  · exact v_get K inC2 q hq rfl 5 (by decide) lk_RX9_171 rfl rfl hd k
  · exact v_get K inC7 q hq rfl 5 (by decide) lk_RX9_171 rfl rfl hd k
  · exact v_get K inC4 q hq rfl 5 (by decide) lk_RX9_171 rfl rfl hd k
theorem lk_RX9_181 : Cond.fieldLink RX9 181 "CafeTables$Day" "how" "[I" ∈ BG := (BG_ix 191 (by decide +kernel) rfl)
theorem gC_RX9_181 {o : Nat} (ho : isD o = true) (K : Ok X cc RX9 nL d c) (hd : decode cc pc = .ok (.getfield 181, 3)) (k : V X nL kc ks (pc + 3) ls (.ref (ad (o + 1)) :: st) (wC ad c G s)) : V X nL kc ks pc ls (.ref (ad o) :: st) (wC ad c G s) := by
  rcases isD_c ho with rfl | rfl
  · exact v_get K inC0 19 rfl rfl 0 (by decide) lk_RX9_181 rfl rfl hd k
  · exact v_get K inC0 27 rfl rfl 0 (by decide) lk_RX9_181 rfl rfl hd k
theorem lk_RX9_184 : Cond.fieldLink RX9 184 "CafeTables$Day" "first" "[I" ∈ BG := (BG_ix 193 (by decide +kernel) rfl)
theorem gC_RX9_184 {o : Nat} (ho : isD o = true) (K : Ok X cc RX9 nL d c) (hd : decode cc pc = .ok (.getfield 184, 3)) (k : V X nL kc ks (pc + 3) ls (.ref (ad (o + 2)) :: st) (wC ad c G s)) : V X nL kc ks pc ls (.ref (ad o) :: st) (wC ad c G s) := by
  rcases isD_c ho with rfl | rfl
  · exact v_get K inC0 19 rfl rfl 1 (by decide) lk_RX9_184 rfl rfl hd k
  · exact v_get K inC0 27 rfl rfl 1 (by decide) lk_RX9_184 rfl rfl hd k
theorem lk_RX9_187 : Cond.fieldLink RX9 187 "CafeTables$Day" "from" "[I" ∈ BG := (BG_ix 195 (by decide +kernel) rfl)
theorem gC_RX9_187 {o : Nat} (ho : isD o = true) (K : Ok X cc RX9 nL d c) (hd : decode cc pc = .ok (.getfield 187, 3)) (k : V X nL kc ks (pc + 3) ls (.ref (ad (o + 3)) :: st) (wC ad c G s)) : V X nL kc ks pc ls (.ref (ad o) :: st) (wC ad c G s) := by
  rcases isD_c ho with rfl | rfl
  · exact v_get K inC0 19 rfl rfl 2 (by decide) lk_RX9_187 rfl rfl hd k
  · exact v_get K inC0 27 rfl rfl 2 (by decide) lk_RX9_187 rfl rfl hd k
theorem lk_RX9_190 : Cond.fieldLink RX9 190 "CafeTables$Day" "until" "[I" ∈ BG := (BG_ix 197 (by decide +kernel) rfl)
theorem gC_RX9_190 {o : Nat} (ho : isD o = true) (K : Ok X cc RX9 nL d c) (hd : decode cc pc = .ok (.getfield 190, 3)) (k : V X nL kc ks (pc + 3) ls (.ref (ad (o + 4)) :: st) (wC ad c G s)) : V X nL kc ks pc ls (.ref (ad o) :: st) (wC ad c G s) := by
  rcases isD_c ho with rfl | rfl
  · exact v_get K inC0 19 rfl rfl 3 (by decide) lk_RX9_190 rfl rfl hd k
  · exact v_get K inC0 27 rfl rfl 3 (by decide) lk_RX9_190 rfl rfl hd k
theorem lk_RX9_196 : Cond.fieldLink RX9 196 "CafeTables$Day" "waited" "[I" ∈ BG := (BG_ix 199 (by decide +kernel) rfl)
theorem gC_RX9_196 {o : Nat} (ho : isD o = true) (K : Ok X cc RX9 nL d c) (hd : decode cc pc = .ok (.getfield 196, 3)) (k : V X nL kc ks (pc + 3) ls (.ref (ad (o + 5)) :: st) (wC ad c G s)) : V X nL kc ks pc ls (.ref (ad o) :: st) (wC ad c G s) := by
  rcases isD_c ho with rfl | rfl
  · exact v_get K inC0 19 rfl rfl 4 (by decide) lk_RX9_196 rfl rfl hd k
  · exact v_get K inC0 27 rfl rfl 4 (by decide) lk_RX9_196 rfl rfl hd k
theorem lk_RX9_220 : Cond.fieldLink RX9 220 "CafeTables" "planStands" "Z" ∈ BG := (BG_ix 283 (by decide +kernel) rfl)
theorem gC_RX9_220 {v : Int32} (K : Ok X cc RX9 nL d c) (hd : decode cc pc = .ok (.getfield 220, 3)) (hv : s 0 12 = v) (k : V X nL kc ks (pc + 3) ls (.int v :: st) (wC ad c G s)) : V X nL kc ks pc ls (.ref (ad 0) :: st) (wC ad c G s) := by subst hv; exact v_get K inC9 0 rfl rfl 12 (by decide) lk_RX9_220 rfl rfl hd k
theorem pC_RX9_220 {v : Int32} (K : Ok X cc RX9 nL d c) (hb : nb v = true) (hd : decode cc pc = .ok (.putfield 220, 3)) (k : V X nL kc ks (pc + 3) ls st (wC ad c G (up2 s 0 12 v))) : V X nL kc ks pc ls (.int v :: .ref (ad 0) :: st) (wC ad c G s) := v_put (ty := .boolean) K inC9 tyX9 tyX9_ok nmX9 0 rfl rfl 12 (by decide) lk_RX9_220 rfl rfl rfl (nb_nar hb) (nb_fit hb) (Nat.le_of_ble_eq_true rfl) rfl hd k
theorem lk_RX9_226 : Cond.fieldLink RX9 226 "CafeTables$Plan" "most" "I" ∈ BG := (BG_ix 238 (by decide +kernel) rfl)
theorem gC_RX9_226 {v : Int32} (K : Ok X cc RX9 nL d c) (hd : decode cc pc = .ok (.getfield 226, 3)) (hv : s 35 1 = v) (k : V X nL kc ks (pc + 3) ls (.int v :: st) (wC ad c G s)) : V X nL kc ks pc ls (.ref (ad 35) :: st) (wC ad c G s) := by subst hv; exact v_get K inC5 35 rfl rfl 1 (by decide) lk_RX9_226 rfl rfl hd k
theorem lk_RX9_229 : Cond.fieldLink RX9 229 "CafeTables$Plan" "bestAt" "[I" ∈ BG := (BG_ix 236 (by decide +kernel) rfl)
theorem gC_RX9_229 (K : Ok X cc RX9 nL d c) (hd : decode cc pc = .ok (.getfield 229, 3)) (k : V X nL kc ks (pc + 3) ls (.ref (ad 36) :: st) (wC ad c G s)) : V X nL kc ks pc ls (.ref (ad 35) :: st) (wC ad c G s) := v_get K inC5 35 rfl rfl 0 (by decide) lk_RX9_229 rfl rfl hd k
theorem lk_RX9_239 : Cond.fieldLink RX9 239 "CafeTables" "mixSeats" "I" ∈ BG := (BG_ix 285 (by decide +kernel) rfl)
theorem gC_RX9_239 {v : Int32} (K : Ok X cc RX9 nL d c) (hd : decode cc pc = .ok (.getfield 239, 3)) (hv : s 0 14 = v) (k : V X nL kc ks (pc + 3) ls (.int v :: st) (wC ad c G s)) : V X nL kc ks pc ls (.ref (ad 0) :: st) (wC ad c G s) := by subst hv; exact v_get K inC9 0 rfl rfl 14 (by decide) lk_RX9_239 rfl rfl hd k
theorem pC_RX9_239 {v : Int32} (K : Ok X cc RX9 nL d c) (hd : decode cc pc = .ok (.putfield 239, 3)) (k : V X nL kc ks (pc + 3) ls st (wC ad c G (up2 s 0 14 v))) : V X nL kc ks pc ls (.int v :: .ref (ad 0) :: st) (wC ad c G s) := v_put (ty := .int) K inC9 tyX9 tyX9_ok nmX9 0 rfl rfl 14 (by decide) lk_RX9_239 rfl rfl rfl rfl rfl (Nat.le_of_ble_eq_true rfl) rfl hd k
theorem lk_RX9_272 : Cond.fieldLink RX9 272 "CafeTables$Sheet" "length" "I" ∈ BG := (BG_ix 163 (by decide +kernel) rfl)
theorem gC_RX9_272 {o : Nat} (ho : isS o = true) {v : Int32} (K : Ok X cc RX9 nL d c) (hd : decode cc pc = .ok (.getfield 272, 3)) (hv : s o 3 = v) (k : V X nL kc ks (pc + 3) ls (.int v :: st) (wC ad c G s)) : V X nL kc ks pc ls (.ref (ad o) :: st) (wC ad c G s) := by
  subst hv
  rcases isS_c ho with rfl | rfl | rfl | rfl
  · exact v_get K inC6 10 rfl rfl 3 (by decide) lk_RX9_272 rfl rfl hd k
  · exact v_get K inC6 11 rfl rfl 3 (by decide) lk_RX9_272 rfl rfl hd k
  · exact v_get K inC6 12 rfl rfl 3 (by decide) lk_RX9_272 rfl rfl hd k
  · exact v_get K inC6 13 rfl rfl 3 (by decide) lk_RX9_272 rfl rfl hd k
theorem lk_RX9_275 : Cond.fieldLink RX9 275 "CafeTables$Sheet" "cells" "[I" ∈ BG := (BG_ix 157 (by decide +kernel) rfl)
theorem gC_RX9_275 {o : Nat} (ho : isS o = true) (K : Ok X cc RX9 nL d c) (hd : decode cc pc = .ok (.getfield 275, 3)) (k : V X nL kc ks (pc + 3) ls (.ref (ad (o + 4)) :: st) (wC ad c G s)) : V X nL kc ks pc ls (.ref (ad o) :: st) (wC ad c G s) := by
  rcases isS_c ho with rfl | rfl | rfl | rfl
  · exact v_get K inC6 10 rfl rfl 0 (by decide) lk_RX9_275 rfl rfl hd k
  · exact v_get K inC6 11 rfl rfl 0 (by decide) lk_RX9_275 rfl rfl hd k
  · exact v_get K inC6 12 rfl rfl 0 (by decide) lk_RX9_275 rfl rfl hd k
  · exact v_get K inC6 13 rfl rfl 0 (by decide) lk_RX9_275 rfl rfl hd k
theorem lk_RX9_298 : Cond.fieldLink RX9 298 "CafeTables$Trace" "value" "I" ∈ BG := (BG_ix 180 (by decide +kernel) rfl)
theorem gC_RX9_298 {v : Int32} (K : Ok X cc RX9 nL d c) (hd : decode cc pc = .ok (.getfield 298, 3)) (hv : s 18 0 = v) (k : V X nL kc ks (pc + 3) ls (.int v :: st) (wC ad c G s)) : V X nL kc ks pc ls (.ref (ad 18) :: st) (wC ad c G s) := by subst hv; exact v_get K inC8 18 rfl rfl 0 (by decide) lk_RX9_298 rfl rfl hd k
theorem lk_RX9_304 : Cond.fieldLink RX9 304 "CafeTables" "dayStands" "Z" ∈ BG := (BG_ix 282 (by decide +kernel) rfl)
theorem gC_RX9_304 {v : Int32} (K : Ok X cc RX9 nL d c) (hd : decode cc pc = .ok (.getfield 304, 3)) (hv : s 0 11 = v) (k : V X nL kc ks (pc + 3) ls (.int v :: st) (wC ad c G s)) : V X nL kc ks pc ls (.ref (ad 0) :: st) (wC ad c G s) := by subst hv; exact v_get K inC9 0 rfl rfl 11 (by decide) lk_RX9_304 rfl rfl hd k
theorem pC_RX9_304 {v : Int32} (K : Ok X cc RX9 nL d c) (hb : nb v = true) (hd : decode cc pc = .ok (.putfield 304, 3)) (k : V X nL kc ks (pc + 3) ls st (wC ad c G (up2 s 0 11 v))) : V X nL kc ks pc ls (.int v :: .ref (ad 0) :: st) (wC ad c G s) := v_put (ty := .boolean) K inC9 tyX9 tyX9_ok nmX9 0 rfl rfl 11 (by decide) lk_RX9_304 rfl rfl rfl (nb_nar hb) (nb_fit hb) (Nat.le_of_ble_eq_true rfl) rfl hd k
theorem lk_RX9_307 : Cond.fieldLink RX9 307 "CafeTables" "coinsStand" "Z" ∈ BG := (BG_ix 284 (by decide +kernel) rfl)
theorem gC_RX9_307 {v : Int32} (K : Ok X cc RX9 nL d c) (hd : decode cc pc = .ok (.getfield 307, 3)) (hv : s 0 13 = v) (k : V X nL kc ks (pc + 3) ls (.int v :: st) (wC ad c G s)) : V X nL kc ks pc ls (.ref (ad 0) :: st) (wC ad c G s) := by subst hv; exact v_get K inC9 0 rfl rfl 13 (by decide) lk_RX9_307 rfl rfl hd k
theorem pC_RX9_307 {v : Int32} (K : Ok X cc RX9 nL d c) (hb : nb v = true) (hd : decode cc pc = .ok (.putfield 307, 3)) (k : V X nL kc ks (pc + 3) ls st (wC ad c G (up2 s 0 13 v))) : V X nL kc ks pc ls (.int v :: .ref (ad 0) :: st) (wC ad c G s) := v_put (ty := .boolean) K inC9 tyX9 tyX9_ok nmX9 0 rfl rfl 13 (by decide) lk_RX9_307 rfl rfl rfl (nb_nar hb) (nb_fit hb) (Nat.le_of_ble_eq_true rfl) rfl hd k
theorem vC_calli (K : Ok X cc own nL d c) {C : String} {y : MethodName} {bytes : ByteArray} {maxL n ix dc b : Nat} {ret : Option FieldType} {r : Int32} {s' : SS} (As rest : List Value) {stk : List Value} (S : cwVok own ix C y bytes maxL ret n) (hC : Ci (xl X) (xD X) c y bytes maxL ret dc (.ref b :: As) (wC ad c G s) r (wC ad c G s')) (hr : hrec (wC ad c G s) b C) (hn : As.length = n) (hst : stk = As.reverse ++ .ref b :: rest) (hrm : (rest.map fun v => v.category).sum ≤ 8) (hdc : dc + 1 ≤ d) (hd : decode cc pc = .ok (.invokevirtual ix, 3)) (k : V X nL 0 0 (pc + 3) ls (.int r :: rest) (wC ad c G s')) : V X nL 0 0 pc ls stk (wC ad c G s) := by
  obtain ⟨q0, ci, fs, T, N, he, hc⟩ := hr
  exact v_calli K As rest S hC q0 he hc (wC_same ad c G s s') hn hst hrm hdc z0 hd k
theorem vC_calll (K : Ok X cc own nL d c) {C : String} {y : MethodName} {bytes : ByteArray} {maxL n ix dc b : Nat} {ret : Option FieldType} {r : Int64} {s' : SS} (As rest : List Value) {stk : List Value} (S : cwVok own ix C y bytes maxL ret n) (hC : Cl (xl X) (xD X) c y bytes maxL ret dc (.ref b :: As) (wC ad c G s) r (wC ad c G s')) (hr : hrec (wC ad c G s) b C) (hn : As.length = n) (hst : stk = As.reverse ++ .ref b :: rest) (hrm : (rest.map fun v => v.category).sum ≤ 8) (hdc : dc + 1 ≤ d) (hd : decode cc pc = .ok (.invokevirtual ix, 3)) (k : V X nL 0 0 (pc + 3) ls (.long r :: rest) (wC ad c G s')) : V X nL 0 0 pc ls stk (wC ad c G s) := by
  obtain ⟨q0, ci, fs, T, N, he, hc⟩ := hr
  exact v_calll K As rest S hC q0 he hc (wC_same ad c G s s') hn hst hrm hdc z0 hd k
theorem vC_callv (K : Ok X cc own nL d c) {C : String} {y : MethodName} {bytes : ByteArray} {maxL n ix dc b : Nat} {ret : Option FieldType} {s' : SS} (As rest : List Value) {stk : List Value} (S : cwVok own ix C y bytes maxL ret n) (hC : Cv (xl X) (xD X) c y bytes maxL ret dc (.ref b :: As) (wC ad c G s) (wC ad c G s')) (hr : hrec (wC ad c G s) b C) (hn : As.length = n) (hst : stk = As.reverse ++ .ref b :: rest) (hrm : (rest.map fun v => v.category).sum ≤ 8) (hdc : dc + 1 ≤ d) (hd : decode cc pc = .ok (.invokevirtual ix, 3)) (k : V X nL 0 0 (pc + 3) ls (rest) (wC ad c G s')) : V X nL 0 0 pc ls stk (wC ad c G s) := by
  obtain ⟨q0, ci, fs, T, N, he, hc⟩ := hr
  exact v_callv K As rest S hC q0 he hc (wC_same ad c G s s') hn hst hrm hdc z0 hd k
theorem vC_callq (K : Ok X cc own nL d c) {C : String} {y : MethodName} {bytes : ByteArray} {maxL n ix dc b : Nat} {ret : Option FieldType} {r : Option Nat} {s' : SS} (As rest : List Value) {stk : List Value} (S : cwVok own ix C y bytes maxL ret n) (hC : Cq (xl X) (xD X) c y bytes maxL ret dc (.ref b :: As) (wC ad c G s) r (wC ad c G s')) (hr : hrec (wC ad c G s) b C) (hn : As.length = n) (hst : stk = As.reverse ++ .ref b :: rest) (hrm : (rest.map fun v => v.category).sum ≤ 8) (hdc : dc + 1 ≤ d) (hd : decode cc pc = .ok (.invokevirtual ix, 3)) (k : V X nL 0 0 (pc + 3) ls (va_rf r :: rest) (wC ad c G s')) : V X nL 0 0 pc ls stk (wC ad c G s) := by
  obtain ⟨q0, ci, fs, T, N, he, hc⟩ := hr
  exact v_callq K As rest S hC q0 he hc (wC_same ad c G s s') hn hst hrm hdc z0 hd k
theorem nestC (K : Ok X cc RX3 nL d c) {x1 r : Int32} {dc : Nat} (rest : List Value) (hC : Ci (xl X) (xD X) c yX9_placeOf cX9_placeOf 1 (some .int) dc [.int x1] [] r []) (hrm : (rest.map fun v => v.category).sum ≤ 8) (hdc : dc + 1 ≤ d) (hd : decode cc pc = .ok (.invokestatic 36, 3)) (k : V X nL 0 0 (pc + 3) ls (.int r :: rest) (wC ad c G s)) : V X nL 0 0 pc ls (.int x1 :: rest) (wC ad c G s) := by
  intro H locs la hl hP hD hS
  obtain ⟨k1, k2, k3, k4, k5, k6, k7, k8, k9, k10⟩ := id K
  refine va_calli (va_runSN (As := [.int x1]) (rest := rest) ⟨k1, k2, k3, k4, k5⟩ (hC H.size) ⟨va_cnB 1 k5 (BG_cons pl_code) rfl rfl rfl k8.1.1 (k5 _ pl_init) ⟨by decide, by decide, by decide +kernel⟩ (Rsub k9 k10 hdc (by decide)), k5 _ pl_stat, trivial⟩ ⟨PreW.blind, fun U hU hW => ⟨rfl, by rw [hU], nilP, va_K.moved hW.alike k6, nilD, NW.warm hW k8⟩⟩ rfl rfl hl.1 rfl (lv_room hrm) hd z0) hS (fun q _ h => Asub nilD hS k7 q h) (Asub nilD hS k7) (fun r' u t H1 locs1 ht hvm hw hB hz1 hk1 hS1 => ?_)
  subst hw; exact k H1 locs1 la hl (hP.kept (fun i q hq => hk1 q.1 ((hP i q hq).lt) (nilA (hP i q hq).lt))) hD hS1
theorem cl_145 : Cond.classLink RX9 145 "CafeTables$Staying" ∈ BG := (BG_ix 427 (by decide +kernel) rfl)
theorem inst_145 {a : Nat} (ha : gm G a = true) (K : Ok X cc RX9 nL d c) (hd : decode cc pc = .ok (.instanceof 145, 3)) (k : V X nL kc ks (pc + 3) ls (.int (if 1 ≤ gk G a then (1 : Int32) else (0 : Int32)) :: st) (wC ad c G s)) : V X nL kc ks pc ls (.ref a :: st) (wC ad c G s) := by
  intro H locs la hl hP hD hS
  obtain ⟨k1, k2, k3, k4, k5, k6, k7, k8, k9, k10⟩ := id K
  obtain ⟨q, hq⟩ := gpos (ad := ad) (c := c) (s := s) ha
  have kk := k H locs la hl hP hD hS
  by_cases e0 : gk G a = 0
  · rw [show gcls (gk G a) = 2 by rw [e0]; rfl] at hq
    rw [e0] at kk
    exact va_instNo (C := "CafeTables$Guest") k1 k2 k4 (k5 _ cl_145) k8.2.2.1.1 (va_recv k6 hP rfl hq) hd kk
  · by_cases e1 : gk G a = 1
    · rw [show gcls (gk G a) = 7 by rw [e1]; rfl] at hq
      rw [e1] at kk
      exact va_instS k1 k2 k4 (k5 _ cl_145) (k6.1 7 _ rfl).2 (va_recv k6 hP rfl hq) hd kk
    · rw [show gcls (gk G a) = 4 by simp [gcls, e0, e1]] at hq
      rw [if_pos (by omega)] at kk
      exact va_instY (C := "CafeTables$Looked") k1 k2 k4 (k5 _ cl_145) k8.2.2.2.1 (va_recv k6 hP rfl hq) hd kk
theorem cl_148 : Cond.classLink RX9 148 "CafeTables$Looked" ∈ BG := (BG_ix 440 (by decide +kernel) rfl)
theorem inst_148 {a : Nat} (ha : gm G a = true) (K : Ok X cc RX9 nL d c) (hd : decode cc pc = .ok (.instanceof 148, 3)) (k : V X nL kc ks (pc + 3) ls (.int (if 2 ≤ gk G a then (1 : Int32) else (0 : Int32)) :: st) (wC ad c G s)) : V X nL kc ks pc ls (.ref a :: st) (wC ad c G s) := by
  intro H locs la hl hP hD hS
  obtain ⟨k1, k2, k3, k4, k5, k6, k7, k8, k9, k10⟩ := id K
  obtain ⟨q, hq⟩ := gpos (ad := ad) (c := c) (s := s) ha
  have kk := k H locs la hl hP hD hS
  by_cases e0 : gk G a = 0
  · rw [show gcls (gk G a) = 2 by rw [e0]; rfl] at hq
    rw [e0] at kk
    exact va_instNo (C := "CafeTables$Guest") k1 k2 k4 (k5 _ cl_148) k8.2.2.1.2.1 (va_recv k6 hP rfl hq) hd kk
  · by_cases e1 : gk G a = 1
    · rw [show gcls (gk G a) = 7 by rw [e1]; rfl] at hq
      rw [e1] at kk
      exact va_instNo (C := "CafeTables$Staying") k1 k2 k4 (k5 _ cl_148) k8.2.2.1.2.2 (va_recv k6 hP rfl hq) hd kk
    · rw [show gcls (gk G a) = 4 by simp [gcls, e0, e1]] at hq
      rw [if_pos (by omega)] at kk
      exact va_instS k1 k2 k4 (k5 _ cl_148) (k6.1 4 _ rfl).2 (va_recv k6 hP rfl hq) hd kk
theorem kC_212 : Cond.constantLong RX9 212 (-9223372036854775808 : Int64) ∈ BG := (BG_ix 593 (by decide +kernel) rfl)
theorem kC_254 : Cond.constantLong RX9 254 (100 : Int64) ∈ BG := (BG_ix 672 (by decide +kernel) rfl)
theorem mt_max_s : Cond.static Lib.Math.max.name ∈ BG := (BG_ix 558 (by decide +kernel) rfl)
theorem mt_max_c : Cond.code Lib.Math.max.name Lib.Math.max.code 2 (some .int) ∈ BG := (BG_ix 559 (by decide +kernel) rfl)
theorem mt_RX0_76 : Cond.methodLink RX0 76 Lib.Math.max.name ∈ BG := (BG_ix 557 (by decide +kernel) rfl)
theorem maxC_RX0_76 {x y : Int32} (K : Ok X cc RX0 nL d c) (rest : List Value) (hrm : (rest.map fun v => v.category).sum ≤ 8) (hdc : 1 ≤ d) (hd : decode cc pc = .ok (.invokestatic 76, 3)) (k : V X nL 0 0 (pc + 3) ls (.int (if x < y then y else x) :: rest) (wC ad c G s)) : V X nL 0 0 pc ls (.int y :: .int x :: rest) (wC ad c G s) := by
  intro H locs la hl hP hD hS
  obtain ⟨k1, k2, k3, k4, k5, k6, k7, k8, k9, k10⟩ := id K
  exact va_mmax k1 k2 (by rw [k3]; exact hl.1.symm) k4 (k5 _ mt_RX0_76) (k5 _ mt_max_s) (k5 _ mt_init) (k5 _ mt_max_c) (by omega) (by omega) (Nat.zero_le _) (Nat.zero_le _) hd (k H locs la hl hP hD hS)
theorem maxS_RX0_76 {x y : Int32} (K : Ok X cc RX0 nL d c) (rest : List Value) (hrm : (rest.map fun v => v.category).sum ≤ 8) (hdc : 1 ≤ d) (hd : decode cc pc = .ok (.invokestatic 76, 3)) (k : V X nL 0 0 (pc + 3) ls (.int (if x < y then y else x) :: rest) []) : V X nL 0 0 pc ls (.int y :: .int x :: rest) [] := by
  intro H locs la hl hP hD hS
  obtain ⟨k1, k2, k3, k4, k5, k6, k7, k8, k9, k10⟩ := id K
  exact va_mmax k1 k2 (by rw [k3]; exact hl.1.symm) k4 (k5 _ mt_RX0_76) (k5 _ mt_max_s) (k5 _ mt_init) (k5 _ mt_max_c) (by omega) (by omega) (Nat.zero_le _) (Nat.zero_le _) hd (k H locs la hl hP hD hS)
theorem mt_min_s : Cond.static Lib.Math.min.name ∈ BG := (BG_ix 349 (by decide +kernel) rfl)
theorem mt_min_c : Cond.code Lib.Math.min.name Lib.Math.min.code 2 (some .int) ∈ BG := (BG_ix 350 (by decide +kernel) rfl)
theorem mt_RX0_115 : Cond.methodLink RX0 115 Lib.Math.min.name ∈ BG := (BG_ix 556 (by decide +kernel) rfl)
theorem minC_RX0_115 {x y : Int32} (K : Ok X cc RX0 nL d c) (rest : List Value) (hrm : (rest.map fun v => v.category).sum ≤ 8) (hdc : 1 ≤ d) (hd : decode cc pc = .ok (.invokestatic 115, 3)) (k : V X nL 0 0 (pc + 3) ls (.int (if y < x then y else x) :: rest) (wC ad c G s)) : V X nL 0 0 pc ls (.int y :: .int x :: rest) (wC ad c G s) := by
  intro H locs la hl hP hD hS
  obtain ⟨k1, k2, k3, k4, k5, k6, k7, k8, k9, k10⟩ := id K
  exact va_mmin k1 k2 (by rw [k3]; exact hl.1.symm) k4 (k5 _ mt_RX0_115) (k5 _ mt_min_s) (k5 _ mt_init) (k5 _ mt_min_c) (by omega) (by omega) (Nat.zero_le _) (Nat.zero_le _) hd (k H locs la hl hP hD hS)
theorem minS_RX0_115 {x y : Int32} (K : Ok X cc RX0 nL d c) (rest : List Value) (hrm : (rest.map fun v => v.category).sum ≤ 8) (hdc : 1 ≤ d) (hd : decode cc pc = .ok (.invokestatic 115, 3)) (k : V X nL 0 0 (pc + 3) ls (.int (if y < x then y else x) :: rest) []) : V X nL 0 0 pc ls (.int y :: .int x :: rest) [] := by
  intro H locs la hl hP hD hS
  obtain ⟨k1, k2, k3, k4, k5, k6, k7, k8, k9, k10⟩ := id K
  exact va_mmin k1 k2 (by rw [k3]; exact hl.1.symm) k4 (k5 _ mt_RX0_115) (k5 _ mt_min_s) (k5 _ mt_init) (k5 _ mt_min_c) (by omega) (by omega) (Nat.zero_le _) (Nat.zero_le _) hd (k H locs la hl hP hD hS)
theorem mt_RX3_22 : Cond.methodLink RX3 22 Lib.Math.min.name ∈ BG := (BG_ix 348 (by decide +kernel) rfl)
theorem minC_RX3_22 {x y : Int32} (K : Ok X cc RX3 nL d c) (rest : List Value) (hrm : (rest.map fun v => v.category).sum ≤ 8) (hdc : 1 ≤ d) (hd : decode cc pc = .ok (.invokestatic 22, 3)) (k : V X nL 0 0 (pc + 3) ls (.int (if y < x then y else x) :: rest) (wC ad c G s)) : V X nL 0 0 pc ls (.int y :: .int x :: rest) (wC ad c G s) := by
  intro H locs la hl hP hD hS
  obtain ⟨k1, k2, k3, k4, k5, k6, k7, k8, k9, k10⟩ := id K
  exact va_mmin k1 k2 (by rw [k3]; exact hl.1.symm) k4 (k5 _ mt_RX3_22) (k5 _ mt_min_s) (k5 _ mt_init) (k5 _ mt_min_c) (by omega) (by omega) (Nat.zero_le _) (Nat.zero_le _) hd (k H locs la hl hP hD hS)
theorem minS_RX3_22 {x y : Int32} (K : Ok X cc RX3 nL d c) (rest : List Value) (hrm : (rest.map fun v => v.category).sum ≤ 8) (hdc : 1 ≤ d) (hd : decode cc pc = .ok (.invokestatic 22, 3)) (k : V X nL 0 0 (pc + 3) ls (.int (if y < x then y else x) :: rest) []) : V X nL 0 0 pc ls (.int y :: .int x :: rest) [] := by
  intro H locs la hl hP hD hS
  obtain ⟨k1, k2, k3, k4, k5, k6, k7, k8, k9, k10⟩ := id K
  exact va_mmin k1 k2 (by rw [k3]; exact hl.1.symm) k4 (k5 _ mt_RX3_22) (k5 _ mt_min_s) (k5 _ mt_init) (k5 _ mt_min_c) (by omega) (by omega) (Nat.zero_le _) (Nat.zero_le _) hd (k H locs la hl hP hD hS)
theorem mt_RX5_47 : Cond.methodLink RX5 47 Lib.Math.min.name ∈ BG := (BG_ix 603 (by decide +kernel) rfl)
theorem minC_RX5_47 {x y : Int32} (K : Ok X cc RX5 nL d c) (rest : List Value) (hrm : (rest.map fun v => v.category).sum ≤ 8) (hdc : 1 ≤ d) (hd : decode cc pc = .ok (.invokestatic 47, 3)) (k : V X nL 0 0 (pc + 3) ls (.int (if y < x then y else x) :: rest) (wC ad c G s)) : V X nL 0 0 pc ls (.int y :: .int x :: rest) (wC ad c G s) := by
  intro H locs la hl hP hD hS
  obtain ⟨k1, k2, k3, k4, k5, k6, k7, k8, k9, k10⟩ := id K
  exact va_mmin k1 k2 (by rw [k3]; exact hl.1.symm) k4 (k5 _ mt_RX5_47) (k5 _ mt_min_s) (k5 _ mt_init) (k5 _ mt_min_c) (by omega) (by omega) (Nat.zero_le _) (Nat.zero_le _) hd (k H locs la hl hP hD hS)
theorem minS_RX5_47 {x y : Int32} (K : Ok X cc RX5 nL d c) (rest : List Value) (hrm : (rest.map fun v => v.category).sum ≤ 8) (hdc : 1 ≤ d) (hd : decode cc pc = .ok (.invokestatic 47, 3)) (k : V X nL 0 0 (pc + 3) ls (.int (if y < x then y else x) :: rest) []) : V X nL 0 0 pc ls (.int y :: .int x :: rest) [] := by
  intro H locs la hl hP hD hS
  obtain ⟨k1, k2, k3, k4, k5, k6, k7, k8, k9, k10⟩ := id K
  exact va_mmin k1 k2 (by rw [k3]; exact hl.1.symm) k4 (k5 _ mt_RX5_47) (k5 _ mt_min_s) (k5 _ mt_init) (k5 _ mt_min_c) (by omega) (by omega) (Nat.zero_le _) (Nat.zero_le _) hd (k H locs la hl hP hD hS)
theorem mt_RX9_214 : Cond.methodLink RX9 214 Lib.Math.min.name ∈ BG := (BG_ix 598 (by decide +kernel) rfl)
theorem minC_RX9_214 {x y : Int32} (K : Ok X cc RX9 nL d c) (rest : List Value) (hrm : (rest.map fun v => v.category).sum ≤ 8) (hdc : 1 ≤ d) (hd : decode cc pc = .ok (.invokestatic 214, 3)) (k : V X nL 0 0 (pc + 3) ls (.int (if y < x then y else x) :: rest) (wC ad c G s)) : V X nL 0 0 pc ls (.int y :: .int x :: rest) (wC ad c G s) := by
  intro H locs la hl hP hD hS
  obtain ⟨k1, k2, k3, k4, k5, k6, k7, k8, k9, k10⟩ := id K
  exact va_mmin k1 k2 (by rw [k3]; exact hl.1.symm) k4 (k5 _ mt_RX9_214) (k5 _ mt_min_s) (k5 _ mt_init) (k5 _ mt_min_c) (by omega) (by omega) (Nat.zero_le _) (Nat.zero_le _) hd (k H locs la hl hP hD hS)
theorem minS_RX9_214 {x y : Int32} (K : Ok X cc RX9 nL d c) (rest : List Value) (hrm : (rest.map fun v => v.category).sum ≤ 8) (hdc : 1 ≤ d) (hd : decode cc pc = .ok (.invokestatic 214, 3)) (k : V X nL 0 0 (pc + 3) ls (.int (if y < x then y else x) :: rest) []) : V X nL 0 0 pc ls (.int y :: .int x :: rest) [] := by
  intro H locs la hl hP hD hS
  obtain ⟨k1, k2, k3, k4, k5, k6, k7, k8, k9, k10⟩ := id K
  exact va_mmin k1 k2 (by rw [k3]; exact hl.1.symm) k4 (k5 _ mt_RX9_214) (k5 _ mt_min_s) (k5 _ mt_init) (k5 _ mt_min_c) (by omega) (by omega) (Nat.zero_le _) (Nat.zero_le _) hd (k H locs la hl hP hD hS)
theorem mt_abs_s : Cond.static Lib.MathLoose.abs_long.x ∈ BG := (BG_ix 674 (by decide +kernel) rfl)
theorem mt_abs_c : Cond.code Lib.MathLoose.abs_long.x Lib.MathLoose.abs_long.code 2 (some .long) ∈ BG := (BG_ix 675 (by decide +kernel) rfl)
theorem mt_RX9_260 : Cond.methodLink RX9 260 Lib.MathLoose.abs_long.x ∈ BG := (BG_ix 673 (by decide +kernel) rfl)
theorem absC_RX9_260 {x : Int64} (K : Ok X cc RX9 nL d c) (rest : List Value) (hrm : (rest.map fun v => v.category).sum ≤ 8) (hdc : 1 ≤ d) (hd : decode cc pc = .ok (.invokestatic 260, 3)) (k : V X nL 0 0 (pc + 3) ls (.long (if (0 : Int64) < x then x else -x) :: rest) (wC ad c G s)) : V X nL 0 0 pc ls (.long x :: rest) (wC ad c G s) := by
  intro H locs la hl hP hD hS
  obtain ⟨k1, k2, k3, k4, k5, k6, k7, k8, k9, k10⟩ := id K
  exact va_mabs_long k1 k2 (by rw [k3]; exact hl.1.symm) k4 (k5 _ mt_RX9_260) (k5 _ mt_abs_s) (k5 _ mt_init) (k5 _ mt_abs_c) (by omega) (by omega) (Nat.zero_le _) (Nat.zero_le _) hd (k H locs la hl hP hD hS)
theorem absS_RX9_260 {x : Int64} (K : Ok X cc RX9 nL d c) (rest : List Value) (hrm : (rest.map fun v => v.category).sum ≤ 8) (hdc : 1 ≤ d) (hd : decode cc pc = .ok (.invokestatic 260, 3)) (k : V X nL 0 0 (pc + 3) ls (.long (if (0 : Int64) < x then x else -x) :: rest) []) : V X nL 0 0 pc ls (.long x :: rest) [] := by
  intro H locs la hl hP hD hS
  obtain ⟨k1, k2, k3, k4, k5, k6, k7, k8, k9, k10⟩ := id K
  exact va_mabs_long k1 k2 (by rw [k3]; exact hl.1.symm) k4 (k5 _ mt_RX9_260) (k5 _ mt_abs_s) (k5 _ mt_init) (k5 _ mt_abs_c) (by omega) (by omega) (Nat.zero_le _) (Nat.zero_le _) hd (k H locs la hl hP hD hS)
theorem mt_RX9_328 : Cond.methodLink RX9 328 Lib.Math.max.name ∈ BG := (BG_ix 671 (by decide +kernel) rfl)
theorem maxC_RX9_328 {x y : Int32} (K : Ok X cc RX9 nL d c) (rest : List Value) (hrm : (rest.map fun v => v.category).sum ≤ 8) (hdc : 1 ≤ d) (hd : decode cc pc = .ok (.invokestatic 328, 3)) (k : V X nL 0 0 (pc + 3) ls (.int (if x < y then y else x) :: rest) (wC ad c G s)) : V X nL 0 0 pc ls (.int y :: .int x :: rest) (wC ad c G s) := by
  intro H locs la hl hP hD hS
  obtain ⟨k1, k2, k3, k4, k5, k6, k7, k8, k9, k10⟩ := id K
  exact va_mmax k1 k2 (by rw [k3]; exact hl.1.symm) k4 (k5 _ mt_RX9_328) (k5 _ mt_max_s) (k5 _ mt_init) (k5 _ mt_max_c) (by omega) (by omega) (Nat.zero_le _) (Nat.zero_le _) hd (k H locs la hl hP hD hS)
theorem maxS_RX9_328 {x y : Int32} (K : Ok X cc RX9 nL d c) (rest : List Value) (hrm : (rest.map fun v => v.category).sum ≤ 8) (hdc : 1 ≤ d) (hd : decode cc pc = .ok (.invokestatic 328, 3)) (k : V X nL 0 0 (pc + 3) ls (.int (if x < y then y else x) :: rest) []) : V X nL 0 0 pc ls (.int y :: .int x :: rest) [] := by
  intro H locs la hl hP hD hS
  obtain ⟨k1, k2, k3, k4, k5, k6, k7, k8, k9, k10⟩ := id K
  exact va_mmax k1 k2 (by rw [k3]; exact hl.1.symm) k4 (k5 _ mt_RX9_328) (k5 _ mt_max_s) (k5 _ mt_init) (k5 _ mt_max_c) (by omega) (by omega) (Nat.zero_le _) (Nat.zero_le _) hd (k H locs la hl hP hD hS)
theorem cw_RX0_50 : cwVok RX0 50 RX0 yX0_begin cX0_begin 3 none 1 := ⟨⟨rfl, by decide, by decide, by decide +kernel⟩, by decide, all4 (BG_ix 496 (by decide +kernel) rfl) (BG_ix 498 (by decide +kernel) rfl) (BG_ix 4 (by decide +kernel) rfl) (BG_ix 65 (by decide +kernel) rfl), (BG_ix 499 (by decide +kernel) rfl)⟩
theorem cw_RX0_54 : cwVok RX0 54 RX0 yX0_goWhoseTimeIsOver cX0_goWhoseTimeIsOver 4 none 1 := ⟨⟨rfl, by decide, by decide, by decide +kernel⟩, by decide, all4 (BG_ix 507 (by decide +kernel) rfl) (BG_ix 509 (by decide +kernel) rfl) (BG_ix 6 (by decide +kernel) rfl) (BG_ix 65 (by decide +kernel) rfl), (BG_ix 510 (by decide +kernel) rfl)⟩
theorem cw_RX0_63 : cwVok RX0 63 RX0 yX0_driveIn cX0_driveIn 4 none 1 := ⟨⟨rfl, by decide, by decide, by decide +kernel⟩, by decide, all4 (BG_ix 515 (by decide +kernel) rfl) (BG_ix 517 (by decide +kernel) rfl) (BG_ix 8 (by decide +kernel) rfl) (BG_ix 65 (by decide +kernel) rfl), (BG_ix 518 (by decide +kernel) rfl)⟩
theorem cw_RX0_66 : cwVok RX0 66 RX0 yX0_callWaiting cX0_callWaiting 4 none 1 := ⟨⟨rfl, by decide, by decide, by decide +kernel⟩, by decide, all4 (BG_ix 531 (by decide +kernel) rfl) (BG_ix 533 (by decide +kernel) rfl) (BG_ix 12 (by decide +kernel) rfl) (BG_ix 65 (by decide +kernel) rfl), (BG_ix 534 (by decide +kernel) rfl)⟩
theorem cw_RX0_69 : cwVok RX0 69 RX0 yX0_letCome cX0_letCome 4 none 1 := ⟨⟨rfl, by decide, by decide, by decide +kernel⟩, by decide, all4 (BG_ix 544 (by decide +kernel) rfl) (BG_ix 546 (by decide +kernel) rfl) (BG_ix 14 (by decide +kernel) rfl) (BG_ix 65 (by decide +kernel) rfl), (BG_ix 547 (by decide +kernel) rfl)⟩
theorem cw_RX0_72 : cwVok RX0 72 RX0 yX0_nextMinute cX0_nextMinute 5 (some .int) 1 := ⟨⟨rfl, by decide, by decide, by decide +kernel⟩, by decide, all4 (BG_ix 552 (by decide +kernel) rfl) (BG_ix 554 (by decide +kernel) rfl) (BG_ix 15 (by decide +kernel) rfl) (BG_ix 65 (by decide +kernel) rfl), (BG_ix 555 (by decide +kernel) rfl)⟩
theorem cw_RX0_82 : cwVok RX0 82 RX0 yX0_coinInAll cX0_coinInAll 3 (some .int) 0 := ⟨⟨rfl, by decide, by decide, by decide +kernel⟩, by decide, all4 (BG_ix 560 (by decide +kernel) rfl) (BG_ix 561 (by decide +kernel) rfl) (BG_ix 562 (by decide +kernel) rfl) (BG_ix 65 (by decide +kernel) rfl), (BG_ix 563 (by decide +kernel) rfl)⟩
theorem cw_RX0_89 : cwVok RX0 89 RX0 yX0_coinOf cX0_coinOf 2 (some .int) 1 := ⟨⟨rfl, by decide, by decide, by decide +kernel⟩, by decide, all4 (BG_ix 564 (by decide +kernel) rfl) (BG_ix 565 (by decide +kernel) rfl) (BG_ix 566 (by decide +kernel) rfl) (BG_ix 65 (by decide +kernel) rfl), (BG_ix 567 (by decide +kernel) rfl)⟩
theorem cw_RX0_100 : cwSok RX0 100 yJ7_fill_53178 cJ7_fill_53178 4 none 2 := ⟨⟨by decide, by decide, by decide +kernel⟩, by decide, all3 (BG_ix 500 (by decide +kernel) rfl) (BG_ix 501 (by decide +kernel) rfl) (BG_ix 72 (by decide +kernel) rfl), (BG_ix 502 (by decide +kernel) rfl)⟩
theorem cw_RX0_109 : cwVok RX0 109 RX0 yX0_list cX0_list 3 none 1 := ⟨⟨rfl, by decide, by decide, by decide +kernel⟩, by decide, all4 (BG_ix 503 (by decide +kernel) rfl) (BG_ix 505 (by decide +kernel) rfl) (BG_ix 5 (by decide +kernel) rfl) (BG_ix 65 (by decide +kernel) rfl), (BG_ix 506 (by decide +kernel) rfl)⟩
theorem cw_RX0_121 : cwVok RX0 121 RX0 yX0_getUp cX0_getUp 3 none 1 := ⟨⟨rfl, by decide, by decide, by decide +kernel⟩, by decide, all4 (BG_ix 511 (by decide +kernel) rfl) (BG_ix 513 (by decide +kernel) rfl) (BG_ix 7 (by decide +kernel) rfl) (BG_ix 65 (by decide +kernel) rfl), (BG_ix 514 (by decide +kernel) rfl)⟩
theorem cw_RX0_127 : cwVok RX0 127 RX0 yX0_findPlace cX0_findPlace 4 (some .int) 1 := ⟨⟨rfl, by decide, by decide, by decide +kernel⟩, by decide, all4 (BG_ix 519 (by decide +kernel) rfl) (BG_ix 521 (by decide +kernel) rfl) (BG_ix 9 (by decide +kernel) rfl) (BG_ix 65 (by decide +kernel) rfl), (BG_ix 522 (by decide +kernel) rfl)⟩
theorem cw_RX0_130 : cwVok RX0 130 RX0 yX0_sitDown cX0_sitDown 4 (some .boolean) 2 := ⟨⟨rfl, by decide, by decide, by decide +kernel⟩, by decide, all4 (BG_ix 535 (by decide +kernel) rfl) (BG_ix 537 (by decide +kernel) rfl) (BG_ix 13 (by decide +kernel) rfl) (BG_ix 65 (by decide +kernel) rfl), (BG_ix 538 (by decide +kernel) rfl)⟩
theorem cw_RX0_134 : cwVok RX0 134 RX0 yX0_tablesTaken cX0_tablesTaken 3 (some .int) 0 := ⟨⟨rfl, by decide, by decide, by decide +kernel⟩, by decide, all4 (BG_ix 548 (by decide +kernel) rfl) (BG_ix 549 (by decide +kernel) rfl) (BG_ix 550 (by decide +kernel) rfl) (BG_ix 65 (by decide +kernel) rfl), (BG_ix 551 (by decide +kernel) rfl)⟩
theorem cw_RX0_140 : cwVok RX0 140 RX0 yX0_othersWaiting cX0_othersWaiting 4 (some .int) 1 := ⟨⟨rfl, by decide, by decide, by decide +kernel⟩, by decide, all4 (BG_ix 539 (by decide +kernel) rfl) (BG_ix 540 (by decide +kernel) rfl) (BG_ix 541 (by decide +kernel) rfl) (BG_ix 65 (by decide +kernel) rfl), (BG_ix 542 (by decide +kernel) rfl)⟩
theorem cw_RX0_156 : cwVok RX0 156 RX0 yX0_oneTable cX0_oneTable 8 (some .int) 2 := ⟨⟨rfl, by decide, by decide, by decide +kernel⟩, by decide, all4 (BG_ix 523 (by decide +kernel) rfl) (BG_ix 525 (by decide +kernel) rfl) (BG_ix 10 (by decide +kernel) rfl) (BG_ix 65 (by decide +kernel) rfl), (BG_ix 526 (by decide +kernel) rfl)⟩
theorem cw_RX0_163 : cwVok RX0 163 RX0 yX0_twoTables cX0_twoTables 4 (some .int) 1 := ⟨⟨rfl, by decide, by decide, by decide +kernel⟩, by decide, all4 (BG_ix 527 (by decide +kernel) rfl) (BG_ix 529 (by decide +kernel) rfl) (BG_ix 11 (by decide +kernel) rfl) (BG_ix 65 (by decide +kernel) rfl), (BG_ix 530 (by decide +kernel) rfl)⟩
theorem cw_RX2_28 : cwVok RX2 28 RX8 yX8_mark cX8_mark 2 none 1 := ⟨⟨rfl, by decide, by decide, by decide +kernel⟩, by decide, all4 (BG_ix 745 (by decide +kernel) rfl) (BG_ix 731 (by decide +kernel) rfl) (BG_ix 732 (by decide +kernel) rfl) (BG_ix 64 (by decide +kernel) rfl), (BG_ix 733 (by decide +kernel) rfl)⟩
theorem cw_RX4_11 : cwVok RX4 11 RX8 yX8_mark cX8_mark 2 none 1 := ⟨⟨rfl, by decide, by decide, by decide +kernel⟩, by decide, all4 (BG_ix 730 (by decide +kernel) rfl) (BG_ix 731 (by decide +kernel) rfl) (BG_ix 732 (by decide +kernel) rfl) (BG_ix 64 (by decide +kernel) rfl), (BG_ix 733 (by decide +kernel) rfl)⟩
theorem cw_RX5_72 : cwVok RX5 72 RX5 yX5_clashesOf cX5_clashesOf 8 (some .int) 1 := ⟨⟨rfl, by decide, by decide, by decide +kernel⟩, by decide, all4 (BG_ix 606 (by decide +kernel) rfl) (BG_ix 608 (by decide +kernel) rfl) (BG_ix 16 (by decide +kernel) rfl) (BG_ix 66 (by decide +kernel) rfl), (BG_ix 609 (by decide +kernel) rfl)⟩
theorem cw_RX5_75 : cwVok RX5 75 RX5 yX5_fitsSomewhere cX5_fitsSomewhere 3 (some .boolean) 1 := ⟨⟨rfl, by decide, by decide, by decide +kernel⟩, by decide, all4 (BG_ix 610 (by decide +kernel) rfl) (BG_ix 612 (by decide +kernel) rfl) (BG_ix 17 (by decide +kernel) rfl) (BG_ix 66 (by decide +kernel) rfl), (BG_ix 613 (by decide +kernel) rfl)⟩
theorem cw_RX5_79 : cwSok RX5 79 yJ7_fill_53178 cJ7_fill_53178 4 none 2 := ⟨⟨by decide, by decide, by decide +kernel⟩, by decide, all3 (BG_ix 614 (by decide +kernel) rfl) (BG_ix 501 (by decide +kernel) rfl) (BG_ix 72 (by decide +kernel) rfl), (BG_ix 502 (by decide +kernel) rfl)⟩
theorem cw_RX5_88 : cwVok RX5 88 RX5 yX5_place cX5_place 4 none 2 := ⟨⟨rfl, by decide, by decide, by decide +kernel⟩, by decide, all4 (BG_ix 615 (by decide +kernel) rfl) (BG_ix 617 (by decide +kernel) rfl) (BG_ix 18 (by decide +kernel) rfl) (BG_ix 66 (by decide +kernel) rfl), (BG_ix 618 (by decide +kernel) rfl)⟩
theorem cw_RX6_15 : cwSok RX6 15 yJ7_fill_53178 cJ7_fill_53178 4 none 2 := ⟨⟨by decide, by decide, by decide +kernel⟩, by decide, all3 (BG_ix 691 (by decide +kernel) rfl) (BG_ix 501 (by decide +kernel) rfl) (BG_ix 72 (by decide +kernel) rfl), (BG_ix 502 (by decide +kernel) rfl)⟩
theorem cw_RX7_16 : cwVok RX7 16 RX8 yX8_mark cX8_mark 2 none 1 := ⟨⟨rfl, by decide, by decide, by decide +kernel⟩, by decide, all4 (BG_ix 737 (by decide +kernel) rfl) (BG_ix 731 (by decide +kernel) rfl) (BG_ix 732 (by decide +kernel) rfl) (BG_ix 64 (by decide +kernel) rfl), (BG_ix 733 (by decide +kernel) rfl)⟩
theorem cw_RX9_72 : cwSok RX9 72 yX9_isNoSheet cX9_isNoSheet 1 (some .boolean) 1 := ⟨⟨by decide, by decide, by decide +kernel⟩, by decide, all3 (BG_ix 321 (by decide +kernel) rfl) (BG_ix 322 (by decide +kernel) rfl) (BG_ix 60 (by decide +kernel) rfl), (BG_ix 323 (by decide +kernel) rfl)⟩
theorem cw_RX9_76 : cwSok RX9 76 yX9_isNoSort cX9_isNoSort 1 (some .boolean) 1 := ⟨⟨by decide, by decide, by decide +kernel⟩, by decide, all3 (BG_ix 324 (by decide +kernel) rfl) (BG_ix 325 (by decide +kernel) rfl) (BG_ix 60 (by decide +kernel) rfl), (BG_ix 326 (by decide +kernel) rfl)⟩
theorem cw_RX9_86 : cwVok RX9 86 RX9 yX9_failed cX9_failed 2 (some .int) 1 := ⟨⟨rfl, by decide, by decide, by decide +kernel⟩, by decide, all4 (BG_ix 327 (by decide +kernel) rfl) (BG_ix 329 (by decide +kernel) rfl) (BG_ix 0 (by decide +kernel) rfl) (BG_ix 60 (by decide +kernel) rfl), (BG_ix 330 (by decide +kernel) rfl)⟩
theorem cw_RX9_90 : cwVok RX9 90 RX6 yX6_reaches cX6_reaches 3 (some .boolean) 2 := ⟨⟨rfl, by decide, by decide, by decide +kernel⟩, by decide, all4 (BG_ix 331 (by decide +kernel) rfl) (BG_ix 332 (by decide +kernel) rfl) (BG_ix 333 (by decide +kernel) rfl) (BG_ix 63 (by decide +kernel) rfl), (BG_ix 334 (by decide +kernel) rfl)⟩
theorem cw_RX9_94 : cwSok RX9 94 yX9_firstFault cX9_firstFault 4 (some .int) 3 := ⟨⟨by decide, by decide, by decide +kernel⟩, by decide, all3 (BG_ix 335 (by decide +kernel) rfl) (BG_ix 336 (by decide +kernel) rfl) (BG_ix 60 (by decide +kernel) rfl), (BG_ix 337 (by decide +kernel) rfl)⟩
theorem cw_RX9_98 : cwVok RX9 98 RX3 yX3_takeText cX3_takeText 5 none 3 := ⟨⟨rfl, by decide, by decide, by decide +kernel⟩, by decide, all4 (BG_ix 344 (by decide +kernel) rfl) (BG_ix 345 (by decide +kernel) rfl) (BG_ix 346 (by decide +kernel) rfl) (BG_ix 61 (by decide +kernel) rfl), (BG_ix 347 (by decide +kernel) rfl)⟩
theorem cw_RX9_105 : cwVok RX9 105 RX9 yX9_forget cX9_forget 1 none 0 := ⟨⟨rfl, by decide, by decide, by decide +kernel⟩, by decide, all4 (BG_ix 352 (by decide +kernel) rfl) (BG_ix 354 (by decide +kernel) rfl) (BG_ix 1 (by decide +kernel) rfl) (BG_ix 60 (by decide +kernel) rfl), (BG_ix 355 (by decide +kernel) rfl)⟩
theorem cw_RX9_117 : cwVok RX9 117 RX9 yX9_isNoCafe cX9_isNoCafe 1 (some .boolean) 0 := ⟨⟨rfl, by decide, by decide, by decide +kernel⟩, by decide, all4 (BG_ix 364 (by decide +kernel) rfl) (BG_ix 366 (by decide +kernel) rfl) (BG_ix 2 (by decide +kernel) rfl) (BG_ix 60 (by decide +kernel) rfl), (BG_ix 367 (by decide +kernel) rfl)⟩
theorem cw_RX9_133 : cwSok RX9 133 yX9_isNoKind cX9_isNoKind 1 (some .boolean) 1 := ⟨⟨by decide, by decide, by decide +kernel⟩, by decide, all3 (BG_ix 384 (by decide +kernel) rfl) (BG_ix 385 (by decide +kernel) rfl) (BG_ix 60 (by decide +kernel) rfl), (BG_ix 386 (by decide +kernel) rfl)⟩
theorem cw_RX9_178 : cwVok RX9 178 RX9 yX9_reckonDay cX9_reckonDay 1 none 0 := ⟨⟨rfl, by decide, by decide, by decide +kernel⟩, by decide, all4 (BG_ix 488 (by decide +kernel) rfl) (BG_ix 490 (by decide +kernel) rfl) (BG_ix 3 (by decide +kernel) rfl) (BG_ix 60 (by decide +kernel) rfl), (BG_ix 491 (by decide +kernel) rfl)⟩
theorem cw_RX9_193 : cwVok RX9 193 RX0 yX0_coinOf cX0_coinOf 2 (some .int) 1 := ⟨⟨rfl, by decide, by decide, by decide +kernel⟩, by decide, all4 (BG_ix 577 (by decide +kernel) rfl) (BG_ix 565 (by decide +kernel) rfl) (BG_ix 566 (by decide +kernel) rfl) (BG_ix 65 (by decide +kernel) rfl), (BG_ix 567 (by decide +kernel) rfl)⟩
theorem cw_RX9_199 : cwVok RX9 199 RX0 yX0_run cX0_run 5 (some .int) 3 := ⟨⟨rfl, by decide, by decide, by decide +kernel⟩, by decide, all4 (BG_ix 492 (by decide +kernel) rfl) (BG_ix 493 (by decide +kernel) rfl) (BG_ix 494 (by decide +kernel) rfl) (BG_ix 65 (by decide +kernel) rfl), (BG_ix 495 (by decide +kernel) rfl)⟩
theorem cw_RX9_203 : cwVok RX9 203 RX0 yX0_tablesTaken cX0_tablesTaken 3 (some .int) 0 := ⟨⟨rfl, by decide, by decide, by decide +kernel⟩, by decide, all4 (BG_ix 582 (by decide +kernel) rfl) (BG_ix 549 (by decide +kernel) rfl) (BG_ix 550 (by decide +kernel) rfl) (BG_ix 65 (by decide +kernel) rfl), (BG_ix 551 (by decide +kernel) rfl)⟩
theorem cw_RX9_206 : cwVok RX9 206 RX0 yX0_othersWaiting cX0_othersWaiting 4 (some .int) 1 := ⟨⟨rfl, by decide, by decide, by decide +kernel⟩, by decide, all4 (BG_ix 583 (by decide +kernel) rfl) (BG_ix 540 (by decide +kernel) rfl) (BG_ix 541 (by decide +kernel) rfl) (BG_ix 65 (by decide +kernel) rfl), (BG_ix 542 (by decide +kernel) rfl)⟩
theorem cw_RX9_209 : cwVok RX9 209 RX0 yX0_coinInAll cX0_coinInAll 3 (some .int) 0 := ⟨⟨rfl, by decide, by decide, by decide +kernel⟩, by decide, all4 (BG_ix 588 (by decide +kernel) rfl) (BG_ix 561 (by decide +kernel) rfl) (BG_ix 562 (by decide +kernel) rfl) (BG_ix 65 (by decide +kernel) rfl), (BG_ix 563 (by decide +kernel) rfl)⟩
theorem cw_RX9_223 : cwVok RX9 223 RX5 yX5_find cX5_find 3 none 0 := ⟨⟨rfl, by decide, by decide, by decide +kernel⟩, by decide, all4 (BG_ix 599 (by decide +kernel) rfl) (BG_ix 600 (by decide +kernel) rfl) (BG_ix 601 (by decide +kernel) rfl) (BG_ix 66 (by decide +kernel) rfl), (BG_ix 602 (by decide +kernel) rfl)⟩
theorem cw_RX9_232 : cwVok RX9 232 RX3 yX3_copyOf cX3_copyOf 3 none 1 := ⟨⟨rfl, by decide, by decide, by decide +kernel⟩, by decide, all4 (BG_ix 623 (by decide +kernel) rfl) (BG_ix 624 (by decide +kernel) rfl) (BG_ix 625 (by decide +kernel) rfl) (BG_ix 61 (by decide +kernel) rfl), (BG_ix 626 (by decide +kernel) rfl)⟩
theorem cw_RX9_236 : cwVok RX9 236 RX9 yX9_reckonCoins cX9_reckonCoins 2 none 0 := ⟨⟨rfl, by decide, by decide, by decide +kernel⟩, by decide, all4 (BG_ix 631 (by decide +kernel) rfl) (BG_ix 633 (by decide +kernel) rfl) (BG_ix 19 (by decide +kernel) rfl) (BG_ix 60 (by decide +kernel) rfl), (BG_ix 634 (by decide +kernel) rfl)⟩
theorem cw_RX9_242 : cwVok RX9 242 RX9 yX9_findMix cX9_findMix 5 none 1 := ⟨⟨rfl, by decide, by decide, by decide +kernel⟩, by decide, all4 (BG_ix 639 (by decide +kernel) rfl) (BG_ix 641 (by decide +kernel) rfl) (BG_ix 20 (by decide +kernel) rfl) (BG_ix 60 (by decide +kernel) rfl), (BG_ix 642 (by decide +kernel) rfl)⟩
theorem cw_RX9_246 : cwSok RX9 246 yX9_isNoTaking cX9_isNoTaking 4 (some .boolean) 4 := ⟨⟨by decide, by decide, by decide +kernel⟩, by decide, all3 (BG_ix 659 (by decide +kernel) rfl) (BG_ix 660 (by decide +kernel) rfl) (BG_ix 60 (by decide +kernel) rfl), (BG_ix 661 (by decide +kernel) rfl)⟩
theorem cw_RX9_250 : cwSok RX9 250 yX9_awaited cX9_awaited 10 (some .long) 5 := ⟨⟨by decide, by decide, by decide +kernel⟩, by decide, all3 (BG_ix 662 (by decide +kernel) rfl) (BG_ix 663 (by decide +kernel) rfl) (BG_ix 60 (by decide +kernel) rfl), (BG_ix 664 (by decide +kernel) rfl)⟩
theorem cw_RX9_256 : cwSok RX9 256 yX9_power cX9_power 6 (some .long) 2 := ⟨⟨by decide, by decide, by decide +kernel⟩, by decide, all3 (BG_ix 668 (by decide +kernel) rfl) (BG_ix 669 (by decide +kernel) rfl) (BG_ix 60 (by decide +kernel) rfl), (BG_ix 670 (by decide +kernel) rfl)⟩
theorem cw_RX9_264 : cwSok RX9 264 yX9_commonDivisor cX9_commonDivisor 11 (some .long) 2 := ⟨⟨by decide, by decide, by decide +kernel⟩, by decide, all3 (BG_ix 676 (by decide +kernel) rfl) (BG_ix 677 (by decide +kernel) rfl) (BG_ix 60 (by decide +kernel) rfl), (BG_ix 678 (by decide +kernel) rfl)⟩
theorem cw_RX9_268 : cwVok RX9 268 RX6 yX6_renew cX6_renew 3 none 2 := ⟨⟨rfl, by decide, by decide, by decide +kernel⟩, by decide, all4 (BG_ix 687 (by decide +kernel) rfl) (BG_ix 688 (by decide +kernel) rfl) (BG_ix 689 (by decide +kernel) rfl) (BG_ix 63 (by decide +kernel) rfl), (BG_ix 690 (by decide +kernel) rfl)⟩
theorem cw_RX9_278 : cwVok RX9 278 RX6 yX6_cut cX6_cut 2 (some .int) 1 := ⟨⟨rfl, by decide, by decide, by decide +kernel⟩, by decide, all4 (BG_ix 700 (by decide +kernel) rfl) (BG_ix 701 (by decide +kernel) rfl) (BG_ix 702 (by decide +kernel) rfl) (BG_ix 63 (by decide +kernel) rfl), (BG_ix 703 (by decide +kernel) rfl)⟩
theorem cw_RX9_281 : cwVok RX9 281 RX9 yX9_lostBy cX9_lostBy 2 (some .long) 1 := ⟨⟨rfl, by decide, by decide, by decide +kernel⟩, by decide, all4 (BG_ix 708 (by decide +kernel) rfl) (BG_ix 710 (by decide +kernel) rfl) (BG_ix 22 (by decide +kernel) rfl) (BG_ix 60 (by decide +kernel) rfl), (BG_ix 711 (by decide +kernel) rfl)⟩
theorem cw_RX9_301 : cwVok RX9 301 RX3 yX3_seatsInAll cX3_seatsInAll 3 (some .int) 0 := ⟨⟨rfl, by decide, by decide, by decide +kernel⟩, by decide, all4 (BG_ix 778 (by decide +kernel) rfl) (BG_ix 779 (by decide +kernel) rfl) (BG_ix 780 (by decide +kernel) rfl) (BG_ix 61 (by decide +kernel) rfl), (BG_ix 781 (by decide +kernel) rfl)⟩
theorem cw_RX9_310 : cwVok RX9 310 RX3 yX3_mixTables cX3_mixTables 5 none 3 := ⟨⟨rfl, by decide, by decide, by decide +kernel⟩, by decide, all4 (BG_ix 643 (by decide +kernel) rfl) (BG_ix 644 (by decide +kernel) rfl) (BG_ix 645 (by decide +kernel) rfl) (BG_ix 61 (by decide +kernel) rfl), (BG_ix 646 (by decide +kernel) rfl)⟩
theorem cw_RX9_314 : cwVok RX9 314 RX9 yX9_keepBetterMix cX9_keepBetterMix 5 none 4 := ⟨⟨rfl, by decide, by decide, by decide +kernel⟩, by decide, all4 (BG_ix 647 (by decide +kernel) rfl) (BG_ix 649 (by decide +kernel) rfl) (BG_ix 21 (by decide +kernel) rfl) (BG_ix 60 (by decide +kernel) rfl), (BG_ix 650 (by decide +kernel) rfl)⟩
theorem cw_RX9_318 : cwSok RX9 318 yX9_goesOn cX9_goesOn 3 (some .boolean) 2 := ⟨⟨by decide, by decide, by decide +kernel⟩, by decide, all3 (BG_ix 338 (by decide +kernel) rfl) (BG_ix 339 (by decide +kernel) rfl) (BG_ix 60 (by decide +kernel) rfl), (BG_ix 340 (by decide +kernel) rfl)⟩
theorem cw_RX9_321 : cwSok RX9 321 yX9_placeOf cX9_placeOf 1 (some .int) 1 := ⟨⟨by decide, by decide, by decide +kernel⟩, by decide, all3 (BG_ix 341 (by decide +kernel) rfl) (BG_ix 342 (by decide +kernel) rfl) (BG_ix 60 (by decide +kernel) rfl), (BG_ix 343 (by decide +kernel) rfl)⟩
theorem cw_RX9_324 : cwSok RX9 324 yX9_choices cX9_choices 5 (some .long) 2 := ⟨⟨by decide, by decide, by decide +kernel⟩, by decide, all3 (BG_ix 665 (by decide +kernel) rfl) (BG_ix 666 (by decide +kernel) rfl) (BG_ix 60 (by decide +kernel) rfl), (BG_ix 667 (by decide +kernel) rfl)⟩
theorem cw_RX9_151 : cwVok RX9 151 RX1 yX1_numbered cX1_numbered 2 (some (.object "CafeTables$Guest")) 1 := ⟨⟨rfl, by decide, by decide, by decide +kernel⟩, by decide, all4 (BG_ix 457 (by decide +kernel) rfl) (BG_ix 458 (by decide +kernel) rfl) (BG_ix 459 (by decide +kernel) rfl) (BG_ix 62 (by decide +kernel) rfl), (BG_ix 460 (by decide +kernel) rfl)⟩
end CR
