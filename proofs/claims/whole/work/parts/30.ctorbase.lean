theorem oi_inst : Cond.instanceMethod objectInit ∈ BG := (BG_ix 80 (by decide +kernel) rfl)
theorem oi_code : Cond.code objectInit ⟨#[0xb1]⟩ 1 none ∈ BG := (BG_ix 81 (by decide +kernel) rfl)
theorem ai_word : Cond.arrayClass .int ∈ BG := (BG_ix 126 (by decide +kernel) rfl)
theorem az_word : Cond.arrayClass .boolean ∈ BG := (BG_ix 921 (by decide +kernel) rfl)
theorem inC10 : ∀ w ∈ u_ws RX10 TX10 44, w ∈ BG := inM
theorem dv_0 : ∀ j, j < 11 → defaultValue (tyX0 j) = vp_V [.null, .null, .null, .null, .null, .null, .null, .null, .null, .null, .int 0] j := by
  intro j hj
  rcases (show j = 0 ∨ j = 1 ∨ j = 2 ∨ j = 3 ∨ j = 4 ∨ j = 5 ∨ j = 6 ∨ j = 7 ∨ j = 8 ∨ j = 9 ∨ j = 10 by omega) with rfl | rfl | rfl | rfl | rfl | rfl | rfl | rfl | rfl | rfl | rfl <;> rfl
theorem dv_1 : ∀ j, j < 2 → defaultValue (tyX1 j) = vp_V [.null, .int 0] j := by
  intro j hj
  rcases (show j = 0 ∨ j = 1 by omega) with rfl | rfl <;> rfl
theorem dv_2 : ∀ j, j < 6 → defaultValue (tyX2 j) = vp_V [.int 0, .int 0, .int 0, .int 0, .int 0, .int 0] j := by
  intro j hj
  rcases (show j = 0 ∨ j = 1 ∨ j = 2 ∨ j = 3 ∨ j = 4 ∨ j = 5 by omega) with rfl | rfl | rfl | rfl | rfl | rfl <;> rfl
theorem dv_3 : ∀ j, j < 7 → defaultValue (tyX3 j) = vp_V [.null, .null, .int 0, .int 0, .int 0, .int 0, .int 0] j := by
  intro j hj
  rcases (show j = 0 ∨ j = 1 ∨ j = 2 ∨ j = 3 ∨ j = 4 ∨ j = 5 ∨ j = 6 by omega) with rfl | rfl | rfl | rfl | rfl | rfl | rfl <;> rfl
theorem dv_4 : ∀ j, j < 6 → defaultValue (tyX4 j) = vp_V [.int 0, .int 0, .int 0, .int 0, .int 0, .int 0] j := by
  intro j hj
  rcases (show j = 0 ∨ j = 1 ∨ j = 2 ∨ j = 3 ∨ j = 4 ∨ j = 5 by omega) with rfl | rfl | rfl | rfl | rfl | rfl <;> rfl
theorem dv_5 : ∀ j, j < 11 → defaultValue (tyX5 j) = vp_V [.null, .int 0, .null, .null, .null, .null, .null, .null, .null, .null, .int 0] j := by
  intro j hj
  rcases (show j = 0 ∨ j = 1 ∨ j = 2 ∨ j = 3 ∨ j = 4 ∨ j = 5 ∨ j = 6 ∨ j = 7 ∨ j = 8 ∨ j = 9 ∨ j = 10 by omega) with rfl | rfl | rfl | rfl | rfl | rfl | rfl | rfl | rfl | rfl | rfl <;> rfl
theorem dv_6 : ∀ j, j < 4 → defaultValue (tyX6 j) = vp_V [.null, .int 0, .int 0, .int 0] j := by
  intro j hj
  rcases (show j = 0 ∨ j = 1 ∨ j = 2 ∨ j = 3 by omega) with rfl | rfl | rfl | rfl <;> rfl
theorem dv_7 : ∀ j, j < 6 → defaultValue (tyX7 j) = vp_V [.int 0, .int 0, .int 0, .int 0, .int 0, .int 0] j := by
  intro j hj
  rcases (show j = 0 ∨ j = 1 ∨ j = 2 ∨ j = 3 ∨ j = 4 ∨ j = 5 by omega) with rfl | rfl | rfl | rfl | rfl | rfl <;> rfl
theorem dv_8 : ∀ j, j < 1 → defaultValue (tyX8 j) = vp_V [.int 0] j := by
  intro j hj
  rcases (show j = 0 by omega) with rfl <;> rfl
theorem dv_9 : ∀ j, j < 15 → defaultValue (tyX9 j) = vp_V [.null, .null, .null, .null, .null, .null, .null, .null, .null, .null, .int 0, .int 0, .int 0, .int 0, .int 0] j := by
  intro j hj
  rcases (show j = 0 ∨ j = 1 ∨ j = 2 ∨ j = 3 ∨ j = 4 ∨ j = 5 ∨ j = 6 ∨ j = 7 ∨ j = 8 ∨ j = 9 ∨ j = 10 ∨ j = 11 ∨ j = 12 ∨ j = 13 ∨ j = 14 by omega) with rfl | rfl | rfl | rfl | rfl | rfl | rfl | rfl | rfl | rfl | rfl | rfl | rfl | rfl | rfl <;> rfl
theorem dv_10 : ∀ j, j < 44 → defaultValue (tyX10 j) = vp_V [.int 0, .int 0, .null, .null, .null, .int 0, .null, .null, .int 0, .int 0, .int 0, .int 0, .int 0, .int 0, .null, .null, .int 0, .null, .null, .null, .null, .null, .null, .int 0, .null, .null, .int 0, .int 0, .int 0, .int 0, .null, .null, .null, .null, .null, .null, .null, .null, .null, .null, .null, .null, .null, .int 0] j := by
  intro j hj
  rcases (show j = 0 ∨ j = 1 ∨ j = 2 ∨ j = 3 ∨ j = 4 ∨ j = 5 ∨ j = 6 ∨ j = 7 ∨ j = 8 ∨ j = 9 ∨ j = 10 ∨ j = 11 ∨ j = 12 ∨ j = 13 ∨ j = 14 ∨ j = 15 ∨ j = 16 ∨ j = 17 ∨ j = 18 ∨ j = 19 ∨ j = 20 ∨ j = 21 ∨ j = 22 ∨ j = 23 ∨ j = 24 ∨ j = 25 ∨ j = 26 ∨ j = 27 ∨ j = 28 ∨ j = 29 ∨ j = 30 ∨ j = 31 ∨ j = 32 ∨ j = 33 ∨ j = 34 ∨ j = 35 ∨ j = 36 ∨ j = 37 ∨ j = 38 ∨ j = 39 ∨ j = 40 ∨ j = 41 ∨ j = 42 ∨ j = 43 by omega) with rfl | rfl | rfl | rfl | rfl | rfl | rfl | rfl | rfl | rfl | rfl | rfl | rfl | rfl | rfl | rfl | rfl | rfl | rfl | rfl | rfl | rfl | rfl | rfl | rfl | rfl | rfl | rfl | rfl | rfl | rfl | rfl | rfl | rfl | rfl | rfl | rfl | rfl | rfl | rfl | rfl | rfl | rfl | rfl <;> rfl
/-! making things: new cells, constructors -/
theorem va_P.subm {D : va_G} {cl : List vw_C} {ws wc : va_W} {H : Heap} (h : va_P D cl ws H) (is : List Nat) (hs : is.map (fun i => ws[i]?) = wc.map some) : va_P D cl wc H := by
  intro k q hk
  have h1 : (is.map (fun i => ws[i]?))[k]? = some (some q) := by rw [hs, List.getElem?_map, hk]; rfl
  rw [List.getElem?_map] at h1
  cases hi : is[k]? with
  | none => rw [hi] at h1; cases h1
  | some i => rw [hi] at h1; exact h i q (Option.some.inj h1)
def CN (l : Launch) (D : va_G) (c : Nat → ClassId) (y : MethodName) (cc : ByteArray) (nL d mc ms : Nat) (av : List Value) (ws : va_W) (post : va_W → Prop) : Prop :=
  ∀ sz, Met l y (.code y cc nL none :: BG) (rm d mc ms) (va_Pc av (PreW D c ws sz)) (va_Qv (fun u : va_W => post u) (fun u t => va_P D vwCl u t.heap ∧ va_D (va_A ws sz) u) (va_A ws sz)) mc ms (va_A ws sz)
def CNI (l : Launch) (D : va_G) (c : Nat → ClassId) (y : MethodName) (cc : ByteArray) (nL d mc ms : Nat) (av : List Value) (ws : va_W) (post : Int32 → va_W → Prop) : Prop :=
  ∀ sz, Met l y (.code y cc nL (some .int) :: BG) (rm d mc ms) (va_Pc av (PreW D c ws sz)) (va_Qi (fun r (u : va_W) => post r u) (fun u t => va_P D vwCl u t.heap ∧ va_D (va_A ws sz) u) (va_A ws sz)) mc ms (va_A ws sz)
set_option maxHeartbeats 4000000 in
theorem CN.of {l : Launch} {D : va_G} {c : Nat → ClassId} {y : MethodName} {cc : ByteArray} {nL d mc ms : Nat} {av : List Value} {ws : va_W} {post : va_W → Prop} (hy : plainName y.cls = true) (hi : y.name = "<init>") (hlen : (lg_sl av).length ≤ nL)
    (body : ∀ X : Cx, Ok X cc y.cls nL d c → (xM X).name = "<init>" → (xR X).cells = mc → (xR X).slots = ms → (∀ pc ls u, decode cc pc = .ok (.return_, 1) → post u → V X nL mc ms pc ls [] u) → V X nL 0 0 0 (lv_args 0 av) [] ws) : CN l D c y cc nL d mc ms av ws post := by
  intro sz
  refine Met.ofW (cc := cc) (maxL := nL) (ret := none) hy rfl ?_
  intro p e s m args below meth cd s₁ B hml hv
  obtain ⟨rfl, hsz, hP, hK, hD0, hN⟩ := hv
  have hts := atoms_spec (ws := .code y cc nL none :: BG) B.pre
  subst hsz
  have hD := hD0.self (sz := s.heap.size)
  have hlocks := B.notSynchronized
  have hnm : meth.name = "<init>" := by rw [(name_of_methodNamed B.named B.method).1]; exact hi
  have hb := body (p, l, e, (headSpec (.code y cc nL none :: BG) (rm d mc ms)).room, s, m, av.toArray, below, meth, cd, MQ below (va_Qv (fun u : va_W => post u) (fun u t => va_P D vwCl u t.heap ∧ va_D (va_A ws s.heap.size) u) (va_A ws s.heap.size)) av.toArray s mc ms (va_A ws s.heap.size), va_A ws s.heap.size, D)
    ⟨B.exec, B.bytes, hml, findClass_of_methodNamed B.named, fun w hw => hts w (List.mem_cons_of_mem _ hw), hK, fun q h => Or.inr h, hN, Nat.le_refl d, Nat.le_refl (60 * d)⟩ hnm rfl rfl ?_
  · rw [lg_entry_eq]
    exact hb s.heap [] _ (lv_entry av hlen) hP hD va_S.rf
  · intro pc ls u hdg hu H locs la hl hP' hD' hS'
    exact W.vret B.exec B.bytes B.returns (fun t ht hW => ⟨⟨u, rfl, hu, by show va_P D vwCl u t.heap; rw [ht]; exact hP', hD'⟩, hS'.F ht⟩) hS'.2.2 hdg
set_option maxHeartbeats 4000000 in
theorem CNI.of {l : Launch} {D : va_G} {c : Nat → ClassId} {y : MethodName} {cc : ByteArray} {nL d mc ms : Nat} {av : List Value} {ws : va_W} {post : Int32 → va_W → Prop} (hy : plainName y.cls = true) (hlen : (lg_sl av).length ≤ nL)
    (body : ∀ X : Cx, Ok X cc y.cls nL d c → (xR X).cells = mc → (xR X).slots = ms → (∀ pc ls r u, decode cc pc = .ok (.ireturn, 1) → post r u → V X nL mc ms pc ls [.int r] u) → V X nL 0 0 0 (lv_args 0 av) [] ws) : CNI l D c y cc nL d mc ms av ws post := by
  intro sz
  refine Met.ofW (cc := cc) (maxL := nL) (ret := some .int) hy rfl ?_
  intro p e s m args below meth cd s₁ B hml hv
  obtain ⟨rfl, hsz, hP, hK, hD0, hN⟩ := hv
  have hts := atoms_spec (ws := .code y cc nL (some .int) :: BG) B.pre
  subst hsz
  have hD := hD0.self (sz := s.heap.size)
  have hlocks := B.notSynchronized
  have hb := body (p, l, e, (headSpec (.code y cc nL (some .int) :: BG) (rm d mc ms)).room, s, m, av.toArray, below, meth, cd, MQ below (va_Qi (fun r (u : va_W) => post r u) (fun u t => va_P D vwCl u t.heap ∧ va_D (va_A ws s.heap.size) u) (va_A ws s.heap.size)) av.toArray s mc ms (va_A ws s.heap.size), va_A ws s.heap.size, D)
    ⟨B.exec, B.bytes, hml, findClass_of_methodNamed B.named, fun w hw => hts w (List.mem_cons_of_mem _ hw), hK, fun q h => Or.inr h, hN, Nat.le_refl d, Nat.le_refl (60 * d)⟩ rfl rfl ?_
  · rw [lg_entry_eq]
    exact hb s.heap [] _ (lv_entry av hlen) hP hD va_S.rf
  · intro pc ls r u hdg hu H locs la hl hP' hD' hS'
    exact W.iret (v := r) B.exec B.bytes B.returns (fun t ht hW => ⟨⟨r, u, rfl, hu, by show va_P D vwCl u t.heap; rw [ht]; exact hP', hD'⟩, hS'.F ht⟩) hS'.2.2 hdg
def cwIok (own : String) (ix : Nat) (y : MethodName) (bytes : ByteArray) (maxL n : Nat) : Prop :=
  (y.cls ≠ "java/lang/invoke/MethodHandle" ∧ y.cls ≠ "java/lang/invoke/VarHandle" ∧ (parseMethodDescriptor y.desc).map (fun d => d.parameters.length) = some n) ∧ y.name = "<init>" ∧ maxL ≤ 41 ∧ (∀ w ∈ ([.methodLink own ix y, .instanceMethod y, .initialized y.cls] : List Cond), w ∈ BG) ∧ .code y bytes maxL none ∈ BG
def cwNok (y : MethodName) (bytes : ByteArray) (maxL n : Nat) : Prop :=
  (y.cls ≠ "java/lang/invoke/MethodHandle" ∧ y.cls ≠ "java/lang/invoke/VarHandle" ∧ (parseMethodDescriptor y.desc).map (fun d => d.parameters.length) = some n) ∧ y.name = "<init>" ∧ maxL ≤ 41 ∧ (∀ w ∈ ([.instanceMethod y, .instanceMethod y, .initialized y.cls] : List Cond), w ∈ BG) ∧ .code y bytes maxL none ∈ BG
section VM
variable {X : Cx} {cc : ByteArray} {own : String} {nL d kc ks pc : Nat} {c : Nat → ClassId} {ls : List (Nat × Value)} {st : List Value} {ws : va_W}
set_option maxHeartbeats 4000000 in
theorem v_ctor (K : Ok X cc own nL d c) {y : MethodName} {bytes : ByteArray} {maxL n ix dc b mc ms : Nat} {post : va_W → Prop} {wc wr : va_W} (As rest : List Value) {stk : List Value} (S : cwIok own ix y bytes maxL n) (hC : CN (xl X) (xD X) c y bytes maxL dc mc ms (.ref b :: As) wc post) (isC isR : List Nat) (h1 : isC.map (fun i => ws[i]?) = wc.map some) (hnC : va_nd isC = true) (h2 : isR.map (fun i => ws[i]?) = wr.map some) (hnR : va_nd isR = true) (hdis : ∀ i ∈ isR, i ∉ isC) (hn : As.length = n) (hst : stk = As.reverse ++ .ref b :: rest) (hrm : (rest.map fun v => v.category).sum ≤ 8) (hdc : dc + 1 ≤ d) (hk : kc + mc ≤ (xR X).cells ∧ ks + ms ≤ (xR X).slots) (hd : decode cc pc = .ok (.invokespecial ix, 3)) (k : ∀ u, post u → V X nL (kc + mc) (ks + ms) (pc + 3) ls rest (wr ++ u)) : V X nL kc ks pc ls stk ws := by
  subst hst
  intro H locs la hl hP hD hS
  obtain ⟨k1, k2, k3, k4, k5, k6, k7, k8, k9, k10⟩ := id K
  have hPc := hP.subm isC h1
  have hDc := hD.sub isC hnC h1
  have hFc := va_free hD hS k7 isC h1
  refine va_callv (va_runI (As := As) (rest := rest) ⟨k1, k2, k3, k4, k5⟩ (hC H.size) (cwI n k5 (BG_cons S.2.2.2.2) rfl rfl rfl (k5 _ (S.2.2.2.1 _ (by simp))) (k5 _ (S.2.2.2.1 _ (by simp))) (k5 _ (S.2.2.2.1 _ (by simp))) S.2.1 S.1 (Rsub k9 k10 hdc S.2.2.1)) ⟨PreW.blind, fun U hU hW => ⟨rfl, by rw [hU], by rw [hU]; exact hPc, va_K.moved hW.alike k6, hDc.weaken (fun _ _ _ _ => trivial), NW.warm hW k8⟩⟩ rfl hn hl.1 rfl (lv_room hrm) hd hk) hS (fun q _ h => hFc q h) hFc (fun u t H1 locs1 ht hvm hw hB hz1 hk1 hS1 => ?_)
  obtain ⟨hP1, hD1⟩ := hB
  rw [ht] at hP1
  obtain ⟨hP2, hD2⟩ := va_join (wr := wr) (w1 := u) hP hD isC isR h1 h2 hnR hdis hk1 hFc hP1 hD1
  exact k u hw H1 locs1 la hl hP2 hD2 hS1
set_option maxHeartbeats 4000000 in
theorem v_ctorN (K : Ok X cc own nL d c) {y : MethodName} {bytes : ByteArray} {maxL n ix dc b mc ms : Nat} {post : va_W → Prop} {wc wr : va_W} {host : String} (As rest : List Value) {stk : List Value} (S : cwNok y bytes maxL n) (hl0 : va_Nw (.methodLinkNest own ix y host) (xs X)) (hC : CN (xl X) (xD X) c y bytes maxL dc mc ms (.ref b :: As) wc post) (isC isR : List Nat) (h1 : isC.map (fun i => ws[i]?) = wc.map some) (hnC : va_nd isC = true) (h2 : isR.map (fun i => ws[i]?) = wr.map some) (hnR : va_nd isR = true) (hdis : ∀ i ∈ isR, i ∉ isC) (hn : As.length = n) (hst : stk = As.reverse ++ .ref b :: rest) (hrm : (rest.map fun v => v.category).sum ≤ 8) (hdc : dc + 1 ≤ d) (hk : kc + mc ≤ (xR X).cells ∧ ks + ms ≤ (xR X).slots) (hd : decode cc pc = .ok (.invokespecial ix, 3)) (k : ∀ u, post u → V X nL (kc + mc) (ks + ms) (pc + 3) ls rest (wr ++ u)) : V X nL kc ks pc ls stk ws := by
  subst hst
  intro H locs la hl hP hD hS
  obtain ⟨k1, k2, k3, k4, k5, k6, k7, k8, k9, k10⟩ := id K
  have hPc := hP.subm isC h1
  have hDc := hD.sub isC hnC h1
  have hFc := va_free hD hS k7 isC h1
  refine va_callv (va_runIN (As := As) (rest := rest) ⟨k1, k2, k3, k4, k5⟩ (hC H.size) ⟨va_cnB n k5 (BG_cons S.2.2.2.2) rfl rfl rfl hl0 (k5 _ (S.2.2.2.1 _ (by simp))) S.1 (Rsub k9 k10 hdc S.2.2.1), S.2.1, k5 _ (S.2.2.2.1 _ (by simp))⟩ ⟨PreW.blind, fun U hU hW => ⟨rfl, by rw [hU], by rw [hU]; exact hPc, va_K.moved hW.alike k6, hDc.weaken (fun _ _ _ _ => trivial), NW.warm hW k8⟩⟩ rfl hn hl.1 rfl (lv_room hrm) hd hk) hS (fun q _ h => hFc q h) hFc (fun u t H1 locs1 ht hvm hw hB hz1 hk1 hS1 => ?_)
  obtain ⟨hP1, hD1⟩ := hB
  rw [ht] at hP1
  obtain ⟨hP2, hD2⟩ := va_join (wr := wr) (w1 := u) hP hD isC isR h1 h2 hnR hdis hk1 hFc hP1 hD1
  exact k u hw H1 locs1 la hl hP2 hD2 hS1
theorem v_objInit (K : Ok X cc own nL d c) {ix a : Nat} (h1 : Cond.methodLink own ix objectInit ∈ BG) (hdm : 1 ≤ d) (hrm : (st.map fun v => v.category).sum ≤ 8) (hd : decode cc pc = .ok (.invokespecial ix, 3)) (k : V X nL kc ks (pc + 3) ls st ws) : V X nL kc ks pc ls (.ref a :: st) ws := by
  intro H locs la hl hP hD hS
  obtain ⟨k1, k2, k3, k4, k5, k6, k7, k8, k9, k10⟩ := id K
  exact W.objInit k1 k2 k4 (k5 _ h1) (k5 _ oi_inst) (k5 _ oi_code) rfl (by rw [k3]; exact hl.1) rfl hd (by omega) (by show 2 * 0 + _ + 12 ≤ _; omega) (k H locs la hl hP hD hS)
theorem v_newI (K : Ok X cc own nL d c) {n : Int32} {N : Nat} (hn : ¬ n < 0) (hN : n.toNatClampNeg = N) (hb : N * 4 ≤ 536870912) (hc : kc + 1 ≤ (xR X).cells) (hs : ks + N ≤ (xR X).slots) (hd : decode cc pc = .ok (.newarray .int, 2)) (k : ∀ q, V X nL (kc + 1) (ks + N) (pc + 2) ls (.ref q :: st) (ws ++ [(q, .inl (c 0, N, .inl (fun _ => 0)))])) : V X nL kc ks pc ls (.int n :: st) ws := by
  intro H locs la hl hP hD hS
  obtain ⟨k1, k2, k3, k4, k5, k6, k7, k8, k9, k10⟩ := id K
  refine va_newa (atype := .int) (ty := .int) (a0 := (N, .inl (fun _ => 0))) k1 k2 (k5 _ ai_word) rfl k6 hP hD hS k7 (fun cA => rfl) hn hN hb hc hs hd (fun q cA H1 hK1 hP1 hD1 hS1 => ?_)
  have e1 : (xs X).vm.findClass ("[" ++ FieldType.int.toString) = some cA := (hK1.2 4 _ rfl).2
  have e2 : (xs X).vm.findClass ("[" ++ FieldType.int.toString) = some (c 0) := (k6.2 0 _ rfl).2
  have e3 : cA = c 0 := Option.some.inj (e1.symm.trans e2)
  subst e3
  exact k q H1 locs la hl hP1 hD1 hS1
theorem v_newZ (K : Ok X cc own nL d c) {n : Int32} {N : Nat} (hn : ¬ n < 0) (hN : n.toNatClampNeg = N) (hb : N * 1 ≤ 536870912) (hc : kc + 1 ≤ (xR X).cells) (hs : ks + N ≤ (xR X).slots) (hd : decode cc pc = .ok (.newarray .boolean, 2)) (k : ∀ q, V X nL (kc + 1) (ks + N) (pc + 2) ls (.ref q :: st) (ws ++ [(q, .inl (c 1, N, .inl (fun _ => 0)))])) : V X nL kc ks pc ls (.int n :: st) ws := by
  intro H locs la hl hP hD hS
  obtain ⟨k1, k2, k3, k4, k5, k6, k7, k8, k9, k10⟩ := id K
  refine va_newa (atype := .boolean) (ty := .boolean) (a0 := (N, .inl (fun _ => 0))) k1 k2 (k5 _ az_word) rfl k6 hP hD hS k7 (fun cA => rfl) hn hN hb hc hs hd (fun q cA H1 hK1 hP1 hD1 hS1 => ?_)
  have e1 : (xs X).vm.findClass ("[" ++ FieldType.boolean.toString) = some cA := (hK1.2 4 _ rfl).2
  have e2 : (xs X).vm.findClass ("[" ++ FieldType.boolean.toString) = some (c 1) := (k6.2 1 _ rfl).2
  have e3 : cA = c 1 := Option.some.inj (e1.symm.trans e2)
  subst e3
  exact k q H1 locs la hl hP1 hD1 hS1
theorem v_newq (K : Ok X cc own nL d c) {C : String} {t ix : Nat} (hcl : Cond.classLink own ix C ∈ BG) (hov : va_AO C (xs X)) (ht : (tyl c)[t]? = some (c t, .object C)) {n : Int32} {N : Nat} (hn : ¬ n < 0) (hN : n.toNatClampNeg = N) (hb : N * 4 ≤ 536870912) (hc : kc + 1 ≤ (xR X).cells) (hs : ks + N ≤ (xR X).slots) (hd : decode cc pc = .ok (.anewarray ix, 3)) (k : ∀ q, V X nL (kc + 1) (ks + N) (pc + 3) ls (.ref q :: st) (ws ++ [(q, .inl (c t, N, .inr (.inr (.inr (.inr (fun _ => none))))))])) : V X nL kc ks pc ls (.int n :: st) ws := by
  intro H locs la hl hP hD hS
  obtain ⟨k1, k2, k3, k4, k5, k6, k7, k8, k9, k10⟩ := id K
  refine va_newq k1 k2 k4 (k5 _ hcl) hov k6 hP hD hS k7 hn hN hb hc hs hd (fun q cA H1 hK1 hP1 hD1 hS1 => ?_)
  obtain ⟨-, -, -, -, -, e1⟩ := (hK1.2 4 _ rfl).2
  obtain ⟨-, -, -, -, -, e2⟩ := (k6.2 t _ ht).2
  have e3 : cA = c t := Option.some.inj (e1.symm.trans e2)
  subst e3
  exact k q H1 locs la hl hP1 hD1 hS1
theorem v_new (K : Ok X cc own nL d c) {C : String} {T : u_T} {N ci ix : Nat} {fs : List Value} (hin : ∀ w ∈ u_ws C T N, w ∈ BG) (ty : Nat → FieldType) (hty : ∀ k, k < N → parseFieldDescriptor (T k).2.2.1 = some (ty k)) (hcl : Cond.classLink own ix C ∈ BG) (hinst : Cond.instantiable C N ∈ BG) (hini : Cond.initialized C ∈ BG) (hcc : vwCl[ci]? = some (C, T, N)) (hfs : ∀ j, j < N → defaultValue (ty j) = vp_V fs j) (hc : kc + 1 ≤ (xR X).cells) (hs : ks + N ≤ (xR X).slots) (hd : decode cc pc = .ok (.new ix, 3)) (k : ∀ q, V X nL (kc + 1) (ks + N) (pc + 3) ls (.ref q :: st) (ws ++ [(q, .inr (ci, fs))])) : V X nL kc ks pc ls st ws := by
  intro H locs la hl hP hD hS
  obtain ⟨k1, k2, k3, k4, k5, k6, k7, k8, k9, k10⟩ := id K
  exact va_new k1 k2 k5 hin ty hty k4 (k5 _ hcl) (k5 _ hinst) (k5 _ hini) k6 hP hD hS k7 hcc hfs hc hs hd (fun q H1 hP1 hD1 hS1 => k q H1 locs la hl hP1 hD1 hS1)
theorem v_putF (K : Ok X cc own nL d c) (hI : (xM X).name = "<init>") {ref C : String} {T : u_T} {N ci ix a : Nat} {fs : List Value} {v : Value} {ty : FieldType} (hin : ∀ w ∈ u_ws C T N, w ∈ BG) (ty0 : Nat → FieldType) (hty : ∀ k, k < N → parseFieldDescriptor (T k).2.2.1 = some (ty0 k)) (hnm : ∀ a, a < N → ∀ b, b < N → a ≠ b → (T a).2.1 ≠ (T b).2.1) (q0 : Nat) (he : ws[q0]? = some (a, .inr (ci, fs))) (hc : vwCl[ci]? = some (C, T, N)) (k : Nat) (hk : k < N) (hlink : .fieldLink own ix ref (T k).2.1 (T k).2.2.1 ∈ BG) (hsame : (T k).1 = ref) (hfin : (T k).2.2.2 = true) (hdecl : (T k).1 = own) (hdd : parseFieldDescriptor (T k).2.2.1 = some ty) (hn : narrow ty v = v) (hfit : fits ty v = true) (hl : k < fs.length) {ws2 : va_W} (hw : ws.set q0 (a, .inr (ci, fs.set k v)) = ws2) (hd : decode cc pc = .ok (.putfield ix, 3)) (kk : V X nL kc ks (pc + 3) ls st ws2) : V X nL kc ks pc ls (v :: .ref a :: st) ws := fun H locs la hla hP hD hS => va_putF K.1 K.2.1 K.2.2.2.2.1 hin ty0 hty hnm K.2.2.2.1 K.2.2.2.2.2.1 hP hD hS q0 he hc k hk (K.2.2.2.2.1 _ hlink) (fun x hx => by rw [← hsame]; exact hx) hfin hI hdecl hdd hn hfit hl hd (fun H1 l1 hP1 hD1 hS1 => by subst hw; exact kk H1 l1 la hla hP1 hD1 hS1)
theorem v_astS (K : Ok X cc own nL d c) {a n v : Nat} {fs : List Value} {f : Nat → Option Nat} (q0 qk : Nat) (he : ws[q0]? = some (a, .inl (c 3, n, .inr (.inr (.inr (.inr f)))))) (hv : ws[qk]? = some (v, .inr (6, fs))) {i : Int32} (hi : inb i n = true) {ws2 : va_W} (hw : ws.set q0 (a, .inl (c 3, n, .inr (.inr (.inr (.inr (va_up f i.toNatClampNeg (some v))))))) = ws2) (hd : decode cc pc = .ok (.aastore, 1)) (kk : V X nL kc ks (pc + 1) ls st ws2) : V X nL kc ks pc ls (.ref v :: .int i :: .ref a :: st) ws := fun H locs la hl hP hD hS => va_astq K.1 K.2.1 K.2.2.2.2.2.1 hP hD hS q0 3 qk 6 he rfl hv rfl (inb_in hi) hd (fun H1 l1 hP1 hD1 hS1 => by subst hw; exact kk H1 l1 la hl hP1 hD1 hS1)
theorem v_astG (K : Ok X cc own nL d c) {a n v ci : Nat} {fs : List Value} {f : Nat → Option Nat} (q0 qk : Nat) (he : ws[q0]? = some (a, .inl (c 2, n, .inr (.inr (.inr (.inr f)))))) (hv : ws[qk]? = some (v, .inr (ci, fs))) (hci : ci = 2 ∨ ci = 7 ∨ ci = 4) {i : Int32} (hi : inb i n = true) {ws2 : va_W} (hw : ws.set q0 (a, .inl (c 2, n, .inr (.inr (.inr (.inr (va_up f i.toNatClampNeg (some v))))))) = ws2) (hd : decode cc pc = .ok (.aastore, 1)) (kk : V X nL kc ks (pc + 1) ls st ws2) : V X nL kc ks pc ls (.ref v :: .int i :: .ref a :: st) ws := by
  intro H locs la hl hP hD hS
  obtain ⟨k1, k2, k3, k4, k5, k6, k7, k8, k9, k10⟩ := id K
  have hany : va_Any "CafeTables$Guest" (xs X) H v := by
    rcases hci with e | e | e <;> subst e
    · refine va_rAny k6 hP hv rfl (fun comp c0 e1 e2 => ?_)
      have e3 : comp = c0 := Option.some.inj (e1.symm.trans e2)
      subst e3
      have hat := (k6.1 2 _ rfl).2
      have e4 : comp = (xD X).1 2 := Option.some.inj (e1.symm.trans hat.1)
      rw [e4]
      exact va_assign hat
    · refine va_rAny k6 hP hv rfl (fun comp c0 e1 e2 => ?_)
      obtain ⟨c1, t1, f1, f2, f3⟩ := Cond.castable_spec (va_Nw.use (A := #[]) rfl k8.2.2.2.2.1)
      cases e1.symm.trans f2
      cases e2.symm.trans f1
      exact f3
    · refine va_rAny k6 hP hv rfl (fun comp c0 e1 e2 => ?_)
      obtain ⟨c1, t1, f1, f2, f3⟩ := Cond.castable_spec (va_Nw.use (A := #[]) rfl k8.2.2.2.2.2)
      cases e1.symm.trans f2
      cases e2.symm.trans f1
      exact f3
  exact va_astqM (E := "CafeTables$Guest") k1 k2 k6 hP hD hS q0 2 he rfl hany (inb_in hi) hd (fun H1 l1 hP1 hD1 hS1 => by subst hw; exact kk H1 l1 la hl hP1 hD1 hS1)
theorem v_widen {kc2 ks2 : Nat} (h1 : kc ≤ kc2) (h2 : ks ≤ ks2) (k : V X nL kc2 ks2 pc ls st ws) : V X nL kc ks pc ls st ws := fun H locs la hl hP hD hS => W.widen h1 h2 (k H locs la hl hP hD hS)
theorem v_world {ws2 : va_W} (is : List Nat) (h : is.map (fun i => ws[i]?) = ws2.map some) (hn : va_nd is = true) (k : V X nL kc ks pc ls st ws2) : V X nL kc ks pc ls st ws := fun H locs la hl hP hD hS => k H locs la hl (hP.subm is h) (hD.sub is hn h) hS
end VM
