/-! the words that every method has: all of the tables that travel -/
def BG : List Cond := lw_tbl.filter goodWord
theorem BG_of {w : Cond} (h : w ∈ lw_tbl) (hg : goodWord w = true) : w ∈ BG := List.mem_filter.mpr ⟨h, hg⟩
theorem BG_ix {w : Cond} (i : Nat) (h : lw_tbl[i]? = some w) (hg : goodWord w = true) : w ∈ BG := BG_of (List.mem_of_getElem? h) hg
theorem BG_good {w : Cond} (h : w ∈ BG) : (w.onTables && w.keeps) = true ∨ ∃ ty, w = .arrayClass ty := good_of_word (List.mem_filter.mp h).2
theorem BG_in {l : List Cond} (h : ∀ w ∈ l, w ∈ BG) : GoodIn BG l := fun w hw => ⟨h w hw, BG_good (h w hw)⟩
theorem BG_cons {cy : Cond} (h : cy ∈ BG) : GoodIn BG (cy :: BG) := BG_in fun w hw => by
  rcases List.mem_cons.mp hw with e | e
  · rw [e]; exact h
  · exact e
theorem BG_app {l : List Cond} {cy : Cond} (h1 : ∀ w ∈ l, w ∈ BG) (h : cy ∈ BG) : GoodIn BG (l ++ cy :: BG) := BG_in fun w hw => by
  rcases List.mem_append.mp hw with e | e
  · exact h1 w e
  · exact ((BG_cons h) w e).1
abbrev SS : Type := Nat → Nat → Int32
def up2 (s : SS) (j i : Nat) (v : Int32) : SS := fun a => if a = j then upd (s j) i v else s a
def ups (s : SS) (j : Nat) (f : Nat → Int32) : SS := fun a => if a = j then f else s a
def inb (x : Int32) (n : Nat) : Bool := !(decide (x < 0)) && decide (x.toNatClampNeg < n)
theorem inb_in {x : Int32} {n : Nat} (h : inb x n = true) : vp_in x n := by
  simp only [inb, Bool.and_eq_true, Bool.not_eq_true', decide_eq_false_iff_not, decide_eq_true_eq] at h
  intro q
  rcases q with q | q
  · exact h.1 q
  · exact absurd h.2 (Nat.not_lt.mpr q)
def nb (x : Int32) : Bool := decide (x &&& 1 = x)
theorem nb_nar {x : Int32} (h : nb x = true) : narrow .boolean (.int x) = .int x := by
  have h' : x &&& 1 = x := of_decide_eq_true h
  show Value.int (x &&& 1) = .int x
  rw [h']
def bnd {α β γ : Type} (a : Option (α × β)) (f : α → β → Option γ) : Option γ := match a with
  | none => none
  | some (x, s) => f x s
def bnd0 {β γ : Type} (a : Option β) (f : β → Option γ) : Option γ := match a with
  | none => none
  | some s => f s
theorem bnd_e {α β γ : Type} {a : Option (α × β)} {f : α → β → Option γ} {r : γ} (h : bnd a f = some r) : ∃ x s, a = some (x, s) ∧ f x s = some r := by
  cases a with
  | none => cases h
  | some q => exact ⟨q.1, q.2, rfl, h⟩
theorem bnd0_e {β γ : Type} {a : Option β} {f : β → Option γ} {r : γ} (h : bnd0 a f = some r) : ∃ s, a = some s ∧ f s = some r := by
  cases a with
  | none => cases h
  | some q => exact ⟨q, rfl, h⟩
theorem ob_e {γ : Type} {c : Prop} [Decidable c] {a : Option γ} {r : γ} (h : (if c then a else none) = some r) : c ∧ a = some r := by
  by_cases hc : c
  · rw [if_pos hc] at h; exact ⟨hc, h⟩
  · rw [if_neg hc] at h; cases h
theorem if_e {γ : Type} {c : Prop} [Decidable c] {a b r : γ} (h : (if c then a else b) = r) (hc : c) : a = r := by rw [if_pos hc] at h; exact h
theorem if_n {γ : Type} {c : Prop} [Decidable c] {a b r : γ} (h : (if c then a else b) = r) (hc : ¬ c) : b = r := by rw [if_neg hc] at h; exact h
def fuel : Nat := 1000000
/-! the walk's fixed things -/
def Cx : Type := Program × Launch × Env × Room × State × MethodId × Array Value × List Frame × Method × Code × (State → Prop) × (Nat → Prop) × va_G
abbrev xp (X : Cx) : Program := X.1
abbrev xl (X : Cx) : Launch := X.2.1
abbrev xe (X : Cx) : Env := X.2.2.1
abbrev xR (X : Cx) : Room := X.2.2.2.1
abbrev xs (X : Cx) : State := X.2.2.2.2.1
abbrev xm (X : Cx) : MethodId := X.2.2.2.2.2.1
abbrev xa (X : Cx) : Array Value := X.2.2.2.2.2.2.1
abbrev xb (X : Cx) : List Frame := X.2.2.2.2.2.2.2.1
abbrev xM (X : Cx) : Method := X.2.2.2.2.2.2.2.2.1
abbrev xc (X : Cx) : Code := X.2.2.2.2.2.2.2.2.2.1
abbrev xQ (X : Cx) : State → Prop := X.2.2.2.2.2.2.2.2.2.2.1
abbrev xA (X : Cx) : Nat → Prop := X.2.2.2.2.2.2.2.2.2.2.2.1
abbrev xD (X : Cx) : va_G := X.2.2.2.2.2.2.2.2.2.2.2.2
def VW (X : Cx) (H : Heap) (locs : List Loc) (kc ks : Nat) (g : JFrame) : Prop := W (xp X) (xl X) (xe X) (xR X) (xs X) (xm X) (xa X) (xb X) (xM X) (xc X) H locs kc ks (xQ X) g
/-- the walk stands at pc, with these locals, this stack, this world -/
def V (X : Cx) (nL kc ks pc : Nat) (ls : List (Nat × Value)) (st : List Value) (ws : va_W) : Prop :=
  ∀ (H : Heap) (locs : List Loc) (la : Array Slot), lv_has la nL ls → va_P (xD X) vwCl ws H → va_D (xA X) ws → va_S (xA X) (xs X).heap H locs → VW X H locs kc ks (F0 (xm X) pc la st)
def tyl (c : Nat → ClassId) : List (ClassId × FieldType) := [(c 0, .int), (c 1, .boolean), (c 2, .object "CafeTables$Guest"), (c 3, .object "CafeTables$Sheet")]
def nwl (own : String) (i : Nat) (cls nm ds : String) : Cond := .methodLinkNest own i ⟨cls, nm, ds⟩ "CafeTables"
def NW (U : State) : Prop := (va_Nw (nwl "CafeTables$House" 36 "CafeTables" "placeOf" "(I)I") U ∧ va_Nw (nwl "CafeTables" 11 "CafeTables$House" "<init>" "()V") U ∧ va_Nw (nwl "CafeTables" 23 "CafeTables$Groups" "<init>" "()V") U ∧ va_Nw (nwl "CafeTables" 34 "CafeTables$Sheet" "<init>" "()V") U ∧ va_Nw (nwl "CafeTables" 37 "CafeTables$Trace" "<init>" "()V") U) ∧
  (va_AO "CafeTables$Guest" U ∧ va_AO "CafeTables$Sheet" U) ∧ (va_Nc "CafeTables$Guest" "CafeTables$Staying" U ∧ va_Nc "CafeTables$Guest" "CafeTables$Looked" U ∧ va_Nc "CafeTables$Staying" "CafeTables$Looked" U) ∧
  (va_Nw (.castable "CafeTables$Looked" "CafeTables$Staying") U ∧ va_Nw (.castable "CafeTables$Staying" "CafeTables$Guest") U ∧ va_Nw (.castable "CafeTables$Looked" "CafeTables$Guest") U)
theorem NW.warm {s U : State} (hW : s.WarmedH U.vm) (h : NW s) : NW U := by
  obtain ⟨⟨a1, a2, a3, a4, a5⟩, ⟨b1, b2⟩, ⟨c1, c2, c3⟩, d1, d2, d3⟩ := h
  exact ⟨⟨va_Nw.warmM hW a1, va_Nw.warmM hW a2, va_Nw.warmM hW a3, va_Nw.warmM hW a4, va_Nw.warmM hW a5⟩, ⟨va_AO.moved hW.alike b1, va_AO.moved hW.alike b2⟩, ⟨va_Nc.moved hW.alike c1, va_Nc.moved hW.alike c2, va_Nc.moved hW.alike c3⟩, va_Nw.warmC hW d1, va_Nw.warmC hW d2, va_Nw.warmC hW d3⟩
theorem NW.same {s U : State} (e : s.vm = U.vm) (h : NW s) : NW U := by
  obtain ⟨⟨a1, a2, a3, a4, a5⟩, ⟨b1, b2⟩, ⟨c1, c2, c3⟩, d1, d2, d3⟩ := h
  have hA : s.vm.Alike U.vm := by rw [e]; exact Vm.Alike.refl U.vm
  exact ⟨⟨va_Nw.same rfl e a1, va_Nw.same rfl e a2, va_Nw.same rfl e a3, va_Nw.same rfl e a4, va_Nw.same rfl e a5⟩, ⟨va_AO.moved hA b1, va_AO.moved hA b2⟩, ⟨va_Nc.moved hA c1, va_Nc.moved hA c2, va_Nc.moved hA c3⟩, va_Nw.same rfl e d1, va_Nw.same rfl e d2, va_Nw.same rfl e d3⟩
def Ok (X : Cx) (cc : ByteArray) (own : String) (nL d : Nat) (c : Nat → ClassId) : Prop :=
  (xp X).tables.exec = Jvm.exec ∧ (xc X).code = cc ∧ (xc X).maxLocals = nL ∧ (xs X).vm.findClass own = some (xm X).cls ∧ (∀ w ∈ BG, w.before (xa X) (xs X) = true) ∧ va_K (xD X) vwCl (tyl c) (xs X) ∧ (∀ q, (xs X).heap.size ≤ q → xA X q) ∧ NW (xs X) ∧ d ≤ (xR X).frames ∧ 60 * d ≤ (xR X).locals
def rm (d kc ks : Nat) : Room := { frames := d, cells := kc, slots := ks, locals := 60 * d }
def PreW (D : va_G) (c : Nat → ClassId) (ws : va_W) (sz : Nat) (U : State) : Prop := U.heap.size = sz ∧ va_P D vwCl ws U.heap ∧ va_K D vwCl (tyl c) U ∧ va_D (fun _ => True) ws ∧ NW U
theorem PreW.blind {D : va_G} {c : Nat → ClassId} {ws : va_W} {sz : Nat} {av : List Value} : FrameBlind (va_Pc av (PreW D c ws sz)) := fun a U g mk q => by
  obtain ⟨q0, q1, qP, qK, qD, qN⟩ := q
  exact ⟨q0, q1, qP, va_K.moved (u := U) (U := U.calling g mk a) (Vm.Alike.refl U.vm) qK, qD, NW.same (rfl : U.vm = (U.calling g mk a).vm) qN⟩
def Ci (l : Launch) (D : va_G) (c : Nat → ClassId) (y : MethodName) (cc : ByteArray) (nL : Nat) (ret : Option FieldType) (d : Nat) (av : List Value) (ws : va_W) (r : Int32) (ws' : va_W) : Prop :=
  ∀ sz, Met l y (.code y cc nL ret :: BG) (rm d 0 0) (va_Pc av (PreW D c ws sz)) (va_Qi (fun r' (_ : Unit) => r' = r) (fun _ t => va_P D vwCl ws' t.heap) (va_A ws sz)) 0 0 (va_A ws sz)
def Cl (l : Launch) (D : va_G) (c : Nat → ClassId) (y : MethodName) (cc : ByteArray) (nL : Nat) (ret : Option FieldType) (d : Nat) (av : List Value) (ws : va_W) (r : Int64) (ws' : va_W) : Prop :=
  ∀ sz, Met l y (.code y cc nL ret :: BG) (rm d 0 0) (va_Pc av (PreW D c ws sz)) (va_Ql (fun r' (_ : Unit) => r' = r) (fun _ t => va_P D vwCl ws' t.heap) (va_A ws sz)) 0 0 (va_A ws sz)
def Cv (l : Launch) (D : va_G) (c : Nat → ClassId) (y : MethodName) (cc : ByteArray) (nL : Nat) (ret : Option FieldType) (d : Nat) (av : List Value) (ws : va_W) (ws' : va_W) : Prop :=
  ∀ sz, Met l y (.code y cc nL ret :: BG) (rm d 0 0) (va_Pc av (PreW D c ws sz)) (va_Qv (fun (_ : Unit) => True) (fun _ t => va_P D vwCl ws' t.heap) (va_A ws sz)) 0 0 (va_A ws sz)
def Cq (l : Launch) (D : va_G) (c : Nat → ClassId) (y : MethodName) (cc : ByteArray) (nL : Nat) (ret : Option FieldType) (d : Nat) (av : List Value) (ws : va_W) (r : Option Nat) (ws' : va_W) : Prop :=
  ∀ sz, Met l y (.code y cc nL ret :: BG) (rm d 0 0) (va_Pc av (PreW D c ws sz)) (va_Qq (fun r' (_ : Unit) => r' = r) (fun _ t => va_P D vwCl ws' t.heap) (va_A ws sz)) 0 0 (va_A ws sz)
/-! a method's body gives its contract -/
section OF
variable {l : Launch} {D : va_G} {c : Nat → ClassId} {y : MethodName} {cc : ByteArray} {nL d : Nat} {av : List Value} {ws ws' : va_W}
set_option maxHeartbeats 4000000 in
theorem Ci.of {r : Int32} (hy : plainName y.cls = true) (hlen : (lg_sl av).length ≤ nL)
    (body : ∀ X : Cx, Ok X cc y.cls nL d c → (∀ pc ls, decode cc pc = .ok (.ireturn, 1) → V X nL 0 0 pc ls [.int r] ws') → V X nL 0 0 0 (lv_args 0 av) [] ws) : Ci l D c y cc nL (some .int) d av ws r ws' := by
  intro sz
  refine Met.ofW (cc := cc) (maxL := nL) (ret := some .int) hy rfl ?_
  intro p e s m args below meth cd s₁ B hml hv
  obtain ⟨rfl, hsz, hP, hK, hD0, hN⟩ := hv
  have hts := atoms_spec (ws := .code y cc nL (some .int) :: BG) B.pre
  subst hsz
  have hD := hD0.self (sz := s.heap.size)
  have hlocks := B.notSynchronized
  have hb := body (p, l, e, (headSpec (.code y cc nL (some .int) :: BG) (rm d 0 0)).room, s, m, av.toArray, below, meth, cd, MQ below (va_Qi (fun r' (_ : Unit) => r' = r) (fun _ t => va_P D vwCl ws' t.heap) (va_A ws s.heap.size)) av.toArray s 0 0 (va_A ws s.heap.size), va_A ws s.heap.size, D)
    ⟨B.exec, B.bytes, hml, findClass_of_methodNamed B.named, fun w hw => hts w (List.mem_cons_of_mem _ hw), hK, fun q h => Or.inr h, hN, Nat.le_refl d, Nat.le_refl (60 * d)⟩ ?_
  · rw [lg_entry_eq]
    exact hb s.heap [] _ (lv_entry av hlen) hP hD va_S.rf
  · intro pc ls hdg H locs la hl hP' hD' hS'
    exact W.iret (v := r) B.exec B.bytes B.returns (fun t ht hW => ⟨⟨r, (), rfl, rfl, by show va_P D vwCl ws' t.heap; rw [ht]; exact hP'⟩, hS'.F ht⟩) hS'.2.2 hdg
set_option maxHeartbeats 4000000 in
theorem Ci.ofZ {r : Int32} (hy : plainName y.cls = true) (hlen : (lg_sl av).length ≤ nL)
    (body : ∀ X : Cx, Ok X cc y.cls nL d c → (nb r = true → ∀ pc ls, decode cc pc = .ok (.ireturn, 1) → V X nL 0 0 pc ls [.int r] ws') → V X nL 0 0 0 (lv_args 0 av) [] ws) : Ci l D c y cc nL (some .boolean) d av ws r ws' := by
  intro sz
  refine Met.ofW (cc := cc) (maxL := nL) (ret := some .boolean) hy rfl ?_
  intro p e s m args below meth cd s₁ B hml hv
  obtain ⟨rfl, hsz, hP, hK, hD0, hN⟩ := hv
  have hts := atoms_spec (ws := .code y cc nL (some .boolean) :: BG) B.pre
  subst hsz
  have hD := hD0.self (sz := s.heap.size)
  have hlocks := B.notSynchronized
  have hb := body (p, l, e, (headSpec (.code y cc nL (some .boolean) :: BG) (rm d 0 0)).room, s, m, av.toArray, below, meth, cd, MQ below (va_Qi (fun r' (_ : Unit) => r' = r) (fun _ t => va_P D vwCl ws' t.heap) (va_A ws s.heap.size)) av.toArray s 0 0 (va_A ws s.heap.size), va_A ws s.heap.size, D)
    ⟨B.exec, B.bytes, hml, findClass_of_methodNamed B.named, fun w hw => hts w (List.mem_cons_of_mem _ hw), hK, fun q h => Or.inr h, hN, Nat.le_refl d, Nat.le_refl (60 * d)⟩ ?_
  · rw [lg_entry_eq]
    exact hb s.heap [] _ (lv_entry av hlen) hP hD va_S.rf
  · intro hn pc ls hdg H locs la hl hP' hD' hS'
    exact W.zret (v := r) (ty := .boolean) B.exec B.bytes B.returns (nb_nar hn) (fun t ht hW => ⟨⟨r, (), rfl, rfl, by show va_P D vwCl ws' t.heap; rw [ht]; exact hP'⟩, hS'.F ht⟩) hS'.2.2 hdg
set_option maxHeartbeats 4000000 in
theorem Cl.of {r : Int64} (hy : plainName y.cls = true) (hlen : (lg_sl av).length ≤ nL)
    (body : ∀ X : Cx, Ok X cc y.cls nL d c → (∀ pc ls, decode cc pc = .ok (.lreturn, 1) → V X nL 0 0 pc ls [.long r] ws') → V X nL 0 0 0 (lv_args 0 av) [] ws) : Cl l D c y cc nL (some .long) d av ws r ws' := by
  intro sz
  refine Met.ofW (cc := cc) (maxL := nL) (ret := some .long) hy rfl ?_
  intro p e s m args below meth cd s₁ B hml hv
  obtain ⟨rfl, hsz, hP, hK, hD0, hN⟩ := hv
  have hts := atoms_spec (ws := .code y cc nL (some .long) :: BG) B.pre
  subst hsz
  have hD := hD0.self (sz := s.heap.size)
  have hlocks := B.notSynchronized
  have hb := body (p, l, e, (headSpec (.code y cc nL (some .long) :: BG) (rm d 0 0)).room, s, m, av.toArray, below, meth, cd, MQ below (va_Ql (fun r' (_ : Unit) => r' = r) (fun _ t => va_P D vwCl ws' t.heap) (va_A ws s.heap.size)) av.toArray s 0 0 (va_A ws s.heap.size), va_A ws s.heap.size, D)
    ⟨B.exec, B.bytes, hml, findClass_of_methodNamed B.named, fun w hw => hts w (List.mem_cons_of_mem _ hw), hK, fun q h => Or.inr h, hN, Nat.le_refl d, Nat.le_refl (60 * d)⟩ ?_
  · rw [lg_entry_eq]
    exact hb s.heap [] _ (lv_entry av hlen) hP hD va_S.rf
  · intro pc ls hdg H locs la hl hP' hD' hS'
    exact W.lret (v := r) B.exec B.bytes B.returns (fun t ht hW => ⟨⟨r, (), rfl, rfl, by show va_P D vwCl ws' t.heap; rw [ht]; exact hP'⟩, hS'.F ht⟩) hS'.2.2 hdg
set_option maxHeartbeats 4000000 in
theorem Cv.of (hy : plainName y.cls = true) (hlen : (lg_sl av).length ≤ nL)
    (body : ∀ X : Cx, Ok X cc y.cls nL d c → (∀ pc ls, decode cc pc = .ok (.return_, 1) → V X nL 0 0 pc ls [] ws') → V X nL 0 0 0 (lv_args 0 av) [] ws) : Cv l D c y cc nL none d av ws ws' := by
  intro sz
  refine Met.ofW (cc := cc) (maxL := nL) (ret := none) hy rfl ?_
  intro p e s m args below meth cd s₁ B hml hv
  obtain ⟨rfl, hsz, hP, hK, hD0, hN⟩ := hv
  have hts := atoms_spec (ws := .code y cc nL none :: BG) B.pre
  subst hsz
  have hD := hD0.self (sz := s.heap.size)
  have hlocks := B.notSynchronized
  have hb := body (p, l, e, (headSpec (.code y cc nL none :: BG) (rm d 0 0)).room, s, m, av.toArray, below, meth, cd, MQ below (va_Qv (fun (_ : Unit) => True) (fun _ t => va_P D vwCl ws' t.heap) (va_A ws s.heap.size)) av.toArray s 0 0 (va_A ws s.heap.size), va_A ws s.heap.size, D)
    ⟨B.exec, B.bytes, hml, findClass_of_methodNamed B.named, fun w hw => hts w (List.mem_cons_of_mem _ hw), hK, fun q h => Or.inr h, hN, Nat.le_refl d, Nat.le_refl (60 * d)⟩ ?_
  · rw [lg_entry_eq]
    exact hb s.heap [] _ (lv_entry av hlen) hP hD va_S.rf
  · intro pc ls hdg H locs la hl hP' hD' hS'
    exact W.vret B.exec B.bytes B.returns (fun t ht hW => ⟨⟨(), rfl, trivial, by show va_P D vwCl ws' t.heap; rw [ht]; exact hP'⟩, hS'.F ht⟩) hS'.2.2 hdg
set_option maxHeartbeats 4000000 in
theorem Cv.ofF (hy : plainFor y = true) (hlen : (lg_sl av).length ≤ nL)
    (body : ∀ X : Cx, Ok X cc y.cls nL d c → (∀ pc ls, decode cc pc = .ok (.return_, 1) → V X nL 0 0 pc ls [] ws') → V X nL 0 0 0 (lv_args 0 av) [] ws) : Cv l D c y cc nL none d av ws ws' := by
  intro sz
  refine va_MetF (cc := cc) (maxL := nL) (ret := none) hy rfl ?_
  intro p e s m args below meth cd s₁ B hml hv
  obtain ⟨rfl, hsz, hP, hK, hD0, hN⟩ := hv
  have hts := atoms_spec (ws := .code y cc nL none :: BG) B.pre
  subst hsz
  have hD := hD0.self (sz := s.heap.size)
  have hlocks := B.notSynchronized
  have hb := body (p, l, e, (headSpec (.code y cc nL none :: BG) (rm d 0 0)).room, s, m, av.toArray, below, meth, cd, MQ below (va_Qv (fun (_ : Unit) => True) (fun _ t => va_P D vwCl ws' t.heap) (va_A ws s.heap.size)) av.toArray s 0 0 (va_A ws s.heap.size), va_A ws s.heap.size, D)
    ⟨B.exec, B.bytes, hml, findClass_of_methodNamed B.named, fun w hw => hts w (List.mem_cons_of_mem _ hw), hK, fun q h => Or.inr h, hN, Nat.le_refl d, Nat.le_refl (60 * d)⟩ ?_
  · rw [lg_entry_eq]
    exact hb s.heap [] _ (lv_entry av hlen) hP hD va_S.rf
  · intro pc ls hdg H locs la hl hP' hD' hS'
    exact W.vret B.exec B.bytes B.returns (fun t ht hW => ⟨⟨(), rfl, trivial, by show va_P D vwCl ws' t.heap; rw [ht]; exact hP'⟩, hS'.F ht⟩) hS'.2.2 hdg
set_option maxHeartbeats 4000000 in
theorem Cq.of {r : Option Nat} {rn : String} (hy : plainName y.cls = true) (hlen : (lg_sl av).length ≤ nL)
    (body : ∀ X : Cx, Ok X cc y.cls nL d c → (∀ pc ls, decode cc pc = .ok (.areturn, 1) → V X nL 0 0 pc ls [va_rf r] ws') → V X nL 0 0 0 (lv_args 0 av) [] ws) : Cq l D c y cc nL (some (.object rn)) d av ws r ws' := by
  intro sz
  refine Met.ofW (cc := cc) (maxL := nL) (ret := some (.object rn)) hy rfl ?_
  intro p e s m args below meth cd s₁ B hml hv
  obtain ⟨rfl, hsz, hP, hK, hD0, hN⟩ := hv
  have hts := atoms_spec (ws := .code y cc nL (some (.object rn)) :: BG) B.pre
  subst hsz
  have hD := hD0.self (sz := s.heap.size)
  have hlocks := B.notSynchronized
  have hb := body (p, l, e, (headSpec (.code y cc nL (some (.object rn)) :: BG) (rm d 0 0)).room, s, m, av.toArray, below, meth, cd, MQ below (va_Qq (fun r' (_ : Unit) => r' = r) (fun _ t => va_P D vwCl ws' t.heap) (va_A ws s.heap.size)) av.toArray s 0 0 (va_A ws s.heap.size), va_A ws s.heap.size, D)
    ⟨B.exec, B.bytes, hml, findClass_of_methodNamed B.named, fun w hw => hts w (List.mem_cons_of_mem _ hw), hK, fun q h => Or.inr h, hN, Nat.le_refl d, Nat.le_refl (60 * d)⟩ ?_
  · rw [lg_entry_eq]
    exact hb s.heap [] _ (lv_entry av hlen) hP hD va_S.rf
  · intro pc ls hdg H locs la hl hP' hD' hS'
    exact W.aret (v := va_rf r) (rt := .object rn) B.exec B.bytes B.returns (Or.inl ⟨_, rfl⟩) (va_rf_or r) (fun t ht hW => ⟨⟨r, (), rfl, rfl, by show va_P D vwCl ws' t.heap; rw [ht]; exact hP'⟩, hS'.F ht⟩) hS'.2.2 hdg
end OF
