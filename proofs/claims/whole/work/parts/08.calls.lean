theorem va_D.addr {A : Nat → Prop} {ws ws' : va_W} (h : ws'.map (fun q => q.1) = ws.map (fun q => q.1)) (hD : va_D A ws) : va_D A ws' := by
  have key : ∀ (k : Nat) (q : Nat × va_E), ws'[k]? = some q → ∃ q0, ws[k]? = some q0 ∧ q0.1 = q.1 := by
    intro k q hk
    have h1 : (ws'.map (fun q => q.1))[k]? = some q.1 := by rw [List.getElem?_map, hk]; rfl
    rw [h, List.getElem?_map] at h1
    cases hq : ws[k]? with
    | none => rw [hq] at h1; cases h1
    | some q0 => rw [hq] at h1; exact ⟨q0, rfl, Option.some.inj h1⟩
  refine ⟨fun i j x y hi hj hxy => ?_, fun k q hk => ?_⟩
  · obtain ⟨x0, h1, h2⟩ := key i x hi
    obtain ⟨y0, h3, h4⟩ := key j y hj
    exact hD.1 i j x0 y0 h1 h3 (h2.trans (hxy.trans h4.symm))
  · obtain ⟨q0, h1, h2⟩ := key k q hk
    rw [← h2]
    exact hD.2 k q0 h1
def cwVok (own : String) (ix : Nat) (C : String) (y : MethodName) (bytes : ByteArray) (maxL : Nat) (ret : Option FieldType) (n : Nat) : Prop :=
  (y.cls = C ∧ y.cls ≠ "java/lang/invoke/MethodHandle" ∧ y.cls ≠ "java/lang/invoke/VarHandle" ∧ (parseMethodDescriptor y.desc).map (fun d => d.parameters.length) = some n) ∧ maxL ≤ 41 ∧ (∀ w ∈ ([.methodLink own ix y, .instanceMethod y, .selects C y y, .initialized C] : List Cond), w ∈ BG) ∧ .code y bytes maxL ret ∈ BG
def cwSok (own : String) (ix : Nat) (y : MethodName) (bytes : ByteArray) (maxL : Nat) (ret : Option FieldType) (n : Nat) : Prop :=
  (y.cls ≠ "java/lang/invoke/MethodHandle" ∧ y.cls ≠ "java/lang/invoke/VarHandle" ∧ (parseMethodDescriptor y.desc).map (fun d => d.parameters.length) = some n) ∧ maxL ≤ 41 ∧ (∀ w ∈ ([.methodLink own ix y, .static y, .initialized y.cls] : List Cond), w ∈ BG) ∧ .code y bytes maxL ret ∈ BG
theorem all4 {P : Cond → Prop} {a b c d : Cond} (ha : P a) (hb : P b) (hc : P c) (hd : P d) : ∀ w ∈ ([a, b, c, d] : List Cond), P w := fun w hw => by
  simp only [List.mem_cons, List.not_mem_nil, or_false] at hw
  rcases hw with e | e | e | e <;> (rw [e]; assumption)
theorem all3 {P : Cond → Prop} {a b c : Cond} (ha : P a) (hb : P b) (hc : P c) : ∀ w ∈ ([a, b, c] : List Cond), P w := fun w hw => by
  simp only [List.mem_cons, List.not_mem_nil, or_false] at hw
  rcases hw with e | e | e <;> (rw [e]; assumption)
theorem z0 {a b : Nat} : 0 ≤ a ∧ 0 ≤ b := ⟨Nat.zero_le _, Nat.zero_le _⟩
theorem Asub {X : Cx} {ws : va_W} {H : Heap} {locs : List Loc} (hD : va_D (xA X) ws) (hS : va_S (xA X) (xs X).heap H locs) (hA : ∀ q, (xs X).heap.size ≤ q → xA X q) : ∀ q, va_A ws H.size q → xA X q := fun q h => by
  rcases h with ⟨k, e, h⟩ | h
  · exact hD.2 k (q, e) h
  · exact hA q (Nat.le_trans hS.1 h)
theorem Rsub {X : Cx} {d dc maxL : Nat} {kc ks : Nat} (h1 : d ≤ (xR X).frames) (h2 : 60 * d ≤ (xR X).locals) (hdc : dc + 1 ≤ d) (hm : maxL ≤ 41) : (rm dc kc ks).frames + 1 ≤ (xR X).frames ∧ 8 + (maxL + 11) + (rm dc kc ks).locals ≤ (xR X).locals := by
  constructor
  · show dc + 1 ≤ _; omega
  · show 8 + (maxL + 11) + 60 * dc ≤ _; omega
theorem nilA {q sz : Nat} (h : q < sz) : ¬ va_A [] sz q := fun a => by
  rcases a with ⟨j, e, a⟩ | a
  · simp at a
  · exact absurd h (Nat.not_lt.mpr a)
theorem nilP {D : va_G} {H : Heap} : va_P D vwCl [] H := fun k q h => by simp at h
theorem nilD {A : Nat → Prop} : va_D A [] := ⟨fun i j p q h => by simp at h, fun k q h => by simp at h⟩
def cwOok (own : String) (ix : Nat) (C owner : String) (x y : MethodName) (bytes : ByteArray) (maxL : Nat) (ret : Option FieldType) (n : Nat) : Prop :=
  (owner ≠ "java/lang/invoke/MethodHandle" ∧ owner ≠ "java/lang/invoke/VarHandle" ∧ (parseMethodDescriptor x.desc).map (fun d => d.parameters.length) = some n) ∧ maxL ≤ 41 ∧ (∀ w ∈ ([.methodLink own ix x, .sameMethod x.cls owner x.name x.desc, .instanceMethod ⟨owner, x.name, x.desc⟩, .selects C x y, .instanceMethod y, .initialized y.cls] : List Cond), w ∈ BG) ∧ .code y bytes maxL ret ∈ BG ∧ ∃ b0 m0 r0, Cond.code ⟨owner, x.name, x.desc⟩ b0 m0 r0 ∈ BG
def cwPok (own : String) (ix : Nat) (y : MethodName) (bytes : ByteArray) (maxL : Nat) (ret : Option FieldType) (n : Nat) : Prop :=
  (y.name ≠ "<init>" ∧ (parseMethodDescriptor y.desc).map (fun d => d.parameters.length) = some n) ∧ maxL ≤ 41 ∧ (∀ w ∈ ([.methodLink own ix y, .sameMethod y.cls y.cls y.name y.desc, .superclass own y.cls, .instanceMethod y, .initialized y.cls] : List Cond), w ∈ BG) ∧ .code y bytes maxL ret ∈ BG
theorem all5 {P : Cond → Prop} {a b c d e : Cond} (ha : P a) (hb : P b) (hc : P c) (hd : P d) (he : P e) : ∀ w ∈ ([a, b, c, d, e] : List Cond), P w := fun w hw => by
  simp only [List.mem_cons, List.not_mem_nil, or_false] at hw
  rcases hw with e | e | e | e | e <;> (rw [e]; assumption)
theorem all6 {P : Cond → Prop} {a b c d e f : Cond} (ha : P a) (hb : P b) (hc : P c) (hd : P d) (he : P e) (hf : P f) : ∀ w ∈ ([a, b, c, d, e, f] : List Cond), P w := fun w hw => by
  simp only [List.mem_cons, List.not_mem_nil, or_false] at hw
  rcases hw with e | e | e | e | e | e <;> (rw [e]; assumption)
set_option maxHeartbeats 4000000 in
theorem v_calli {X : Cx} {cc : ByteArray} {own : String} {nL d kc ks pc : Nat} {c : Nat → ClassId} {ls : List (Nat × Value)} {ws ws' : va_W} (K : Ok X cc own nL d c) {C : String} {y : MethodName} {bytes : ByteArray} {maxL n ix dc b ci N : Nat} {ret : Option FieldType} {T : u_T} {fs : List Value} {r : Int32} (As rest : List Value) {stk : List Value} (S : cwVok own ix C y bytes maxL ret n) (hC : Ci (xl X) (xD X) c y bytes maxL ret dc (.ref b :: As) ws r ws') (q0 : Nat) (he : ws[q0]? = some (b, .inr (ci, fs))) (hc : vwCl[ci]? = some (C, T, N)) (hsame : ws'.map (fun q => q.1) = ws.map (fun q => q.1)) (hn : As.length = n) (hst : stk = As.reverse ++ .ref b :: rest) (hrm : (rest.map fun v => v.category).sum ≤ 8) (hdc : dc + 1 ≤ d) (hk : kc ≤ (xR X).cells ∧ ks ≤ (xR X).slots) (hd : decode cc pc = .ok (.invokevirtual ix, 3)) (k : V X nL kc ks (pc + 3) ls (.int r :: rest) ws') : V X nL kc ks pc ls stk ws := by
  subst hst
  intro H locs la hl hP hD hS
  obtain ⟨k1, k2, k3, k4, k5, k6, k7, k8, k9, k10⟩ := id K
  refine va_calli (va_runV (As := As) (rest := rest) ⟨k1, k2, k3, k4, k5⟩ (hC H.size) (cwV n k5 (BG_app S.2.2.1 S.2.2.2) rfl rfl rfl S.1 (Rsub k9 k10 hdc S.2.1)) ⟨PreW.blind, va_recv k6 hP hc he, fun U hU hW => ⟨rfl, by rw [hU], by rw [hU]; exact hP, va_K.moved hW.alike k6, hD.weaken (fun _ _ _ _ => trivial), NW.warm hW k8⟩⟩ rfl hn hl.1 rfl (lv_room hrm) hd hk) hS (fun q _ h => Asub hD hS k7 q h) (Asub hD hS k7) (fun r' u t H1 locs1 ht hvm hw hB hz1 hk1 hS1 => ?_)
  subst hw; exact k H1 locs1 la hl (by rw [← ht]; exact hB) (va_D.addr hsame hD) hS1
set_option maxHeartbeats 4000000 in
theorem v_callsi {X : Cx} {cc : ByteArray} {own : String} {nL d kc ks pc : Nat} {c : Nat → ClassId} {ls : List (Nat × Value)} {ws : va_W} (K : Ok X cc own nL d c) {y : MethodName} {bytes : ByteArray} {maxL n ix dc : Nat} {ret : Option FieldType} {r : Int32} (As rest : List Value) {stk : List Value} (S : cwSok own ix y bytes maxL ret n) (hC : Ci (xl X) (xD X) c y bytes maxL ret dc As [] r []) (hn : As.length = n) (hst : stk = As.reverse ++ rest) (hrm : (rest.map fun v => v.category).sum ≤ 8) (hdc : dc + 1 ≤ d) (hk : kc ≤ (xR X).cells ∧ ks ≤ (xR X).slots) (hd : decode cc pc = .ok (.invokestatic ix, 3)) (k : V X nL kc ks (pc + 3) ls (.int r :: rest) ws) : V X nL kc ks pc ls stk ws := by
  subst hst
  intro H locs la hl hP hD hS
  obtain ⟨k1, k2, k3, k4, k5, k6, k7, k8, k9, k10⟩ := id K
  refine va_calli (va_runS (As := As) (rest := rest) ⟨k1, k2, k3, k4, k5⟩ (hC H.size) (va_cwS n k5 (BG_app S.2.2.1 S.2.2.2) rfl rfl rfl S.1 (Rsub k9 k10 hdc S.2.1)) ⟨PreW.blind, fun U hU hW => ⟨rfl, by rw [hU], nilP, va_K.moved hW.alike k6, nilD, NW.warm hW k8⟩⟩ rfl hn hl.1 rfl (lv_room hrm) hd hk) hS (fun q _ h => Asub nilD hS k7 q h) (Asub nilD hS k7) (fun r' u t H1 locs1 ht hvm hw hB hz1 hk1 hS1 => ?_)
  subst hw; exact k H1 locs1 la hl (hP.kept (fun i q hq => hk1 q.1 ((hP i q hq).lt) (nilA (hP i q hq).lt))) hD hS1
set_option maxHeartbeats 4000000 in
theorem v_calll {X : Cx} {cc : ByteArray} {own : String} {nL d kc ks pc : Nat} {c : Nat → ClassId} {ls : List (Nat × Value)} {ws ws' : va_W} (K : Ok X cc own nL d c) {C : String} {y : MethodName} {bytes : ByteArray} {maxL n ix dc b ci N : Nat} {ret : Option FieldType} {T : u_T} {fs : List Value} {r : Int64} (As rest : List Value) {stk : List Value} (S : cwVok own ix C y bytes maxL ret n) (hC : Cl (xl X) (xD X) c y bytes maxL ret dc (.ref b :: As) ws r ws') (q0 : Nat) (he : ws[q0]? = some (b, .inr (ci, fs))) (hc : vwCl[ci]? = some (C, T, N)) (hsame : ws'.map (fun q => q.1) = ws.map (fun q => q.1)) (hn : As.length = n) (hst : stk = As.reverse ++ .ref b :: rest) (hrm : (rest.map fun v => v.category).sum ≤ 8) (hdc : dc + 1 ≤ d) (hk : kc ≤ (xR X).cells ∧ ks ≤ (xR X).slots) (hd : decode cc pc = .ok (.invokevirtual ix, 3)) (k : V X nL kc ks (pc + 3) ls (.long r :: rest) ws') : V X nL kc ks pc ls stk ws := by
  subst hst
  intro H locs la hl hP hD hS
  obtain ⟨k1, k2, k3, k4, k5, k6, k7, k8, k9, k10⟩ := id K
  refine va_calll (va_runV (As := As) (rest := rest) ⟨k1, k2, k3, k4, k5⟩ (hC H.size) (cwV n k5 (BG_app S.2.2.1 S.2.2.2) rfl rfl rfl S.1 (Rsub k9 k10 hdc S.2.1)) ⟨PreW.blind, va_recv k6 hP hc he, fun U hU hW => ⟨rfl, by rw [hU], by rw [hU]; exact hP, va_K.moved hW.alike k6, hD.weaken (fun _ _ _ _ => trivial), NW.warm hW k8⟩⟩ rfl hn hl.1 rfl (lv_room hrm) hd hk) hS (fun q _ h => Asub hD hS k7 q h) (Asub hD hS k7) (fun r' u t H1 locs1 ht hvm hw hB hz1 hk1 hS1 => ?_)
  subst hw; exact k H1 locs1 la hl (by rw [← ht]; exact hB) (va_D.addr hsame hD) hS1
set_option maxHeartbeats 4000000 in
theorem v_callsl {X : Cx} {cc : ByteArray} {own : String} {nL d kc ks pc : Nat} {c : Nat → ClassId} {ls : List (Nat × Value)} {ws : va_W} (K : Ok X cc own nL d c) {y : MethodName} {bytes : ByteArray} {maxL n ix dc : Nat} {ret : Option FieldType} {r : Int64} (As rest : List Value) {stk : List Value} (S : cwSok own ix y bytes maxL ret n) (hC : Cl (xl X) (xD X) c y bytes maxL ret dc As [] r []) (hn : As.length = n) (hst : stk = As.reverse ++ rest) (hrm : (rest.map fun v => v.category).sum ≤ 8) (hdc : dc + 1 ≤ d) (hk : kc ≤ (xR X).cells ∧ ks ≤ (xR X).slots) (hd : decode cc pc = .ok (.invokestatic ix, 3)) (k : V X nL kc ks (pc + 3) ls (.long r :: rest) ws) : V X nL kc ks pc ls stk ws := by
  subst hst
  intro H locs la hl hP hD hS
  obtain ⟨k1, k2, k3, k4, k5, k6, k7, k8, k9, k10⟩ := id K
  refine va_calll (va_runS (As := As) (rest := rest) ⟨k1, k2, k3, k4, k5⟩ (hC H.size) (va_cwS n k5 (BG_app S.2.2.1 S.2.2.2) rfl rfl rfl S.1 (Rsub k9 k10 hdc S.2.1)) ⟨PreW.blind, fun U hU hW => ⟨rfl, by rw [hU], nilP, va_K.moved hW.alike k6, nilD, NW.warm hW k8⟩⟩ rfl hn hl.1 rfl (lv_room hrm) hd hk) hS (fun q _ h => Asub nilD hS k7 q h) (Asub nilD hS k7) (fun r' u t H1 locs1 ht hvm hw hB hz1 hk1 hS1 => ?_)
  subst hw; exact k H1 locs1 la hl (hP.kept (fun i q hq => hk1 q.1 ((hP i q hq).lt) (nilA (hP i q hq).lt))) hD hS1
set_option maxHeartbeats 4000000 in
theorem v_callv {X : Cx} {cc : ByteArray} {own : String} {nL d kc ks pc : Nat} {c : Nat → ClassId} {ls : List (Nat × Value)} {ws ws' : va_W} (K : Ok X cc own nL d c) {C : String} {y : MethodName} {bytes : ByteArray} {maxL n ix dc b ci N : Nat} {ret : Option FieldType} {T : u_T} {fs : List Value} (As rest : List Value) {stk : List Value} (S : cwVok own ix C y bytes maxL ret n) (hC : Cv (xl X) (xD X) c y bytes maxL ret dc (.ref b :: As) ws ws') (q0 : Nat) (he : ws[q0]? = some (b, .inr (ci, fs))) (hc : vwCl[ci]? = some (C, T, N)) (hsame : ws'.map (fun q => q.1) = ws.map (fun q => q.1)) (hn : As.length = n) (hst : stk = As.reverse ++ .ref b :: rest) (hrm : (rest.map fun v => v.category).sum ≤ 8) (hdc : dc + 1 ≤ d) (hk : kc ≤ (xR X).cells ∧ ks ≤ (xR X).slots) (hd : decode cc pc = .ok (.invokevirtual ix, 3)) (k : V X nL kc ks (pc + 3) ls (rest) ws') : V X nL kc ks pc ls stk ws := by
  subst hst
  intro H locs la hl hP hD hS
  obtain ⟨k1, k2, k3, k4, k5, k6, k7, k8, k9, k10⟩ := id K
  refine va_callv (va_runV (As := As) (rest := rest) ⟨k1, k2, k3, k4, k5⟩ (hC H.size) (cwV n k5 (BG_app S.2.2.1 S.2.2.2) rfl rfl rfl S.1 (Rsub k9 k10 hdc S.2.1)) ⟨PreW.blind, va_recv k6 hP hc he, fun U hU hW => ⟨rfl, by rw [hU], by rw [hU]; exact hP, va_K.moved hW.alike k6, hD.weaken (fun _ _ _ _ => trivial), NW.warm hW k8⟩⟩ rfl hn hl.1 rfl (lv_room hrm) hd hk) hS (fun q _ h => Asub hD hS k7 q h) (Asub hD hS k7) (fun u t H1 locs1 ht hvm hw hB hz1 hk1 hS1 => ?_)
  exact k H1 locs1 la hl (by rw [← ht]; exact hB) (va_D.addr hsame hD) hS1
set_option maxHeartbeats 4000000 in
theorem v_callsv {X : Cx} {cc : ByteArray} {own : String} {nL d kc ks pc : Nat} {c : Nat → ClassId} {ls : List (Nat × Value)} {ws : va_W} (K : Ok X cc own nL d c) {y : MethodName} {bytes : ByteArray} {maxL n ix dc : Nat} {ret : Option FieldType} (As rest : List Value) {stk : List Value} (S : cwSok own ix y bytes maxL ret n) (hC : Cv (xl X) (xD X) c y bytes maxL ret dc As [] []) (hn : As.length = n) (hst : stk = As.reverse ++ rest) (hrm : (rest.map fun v => v.category).sum ≤ 8) (hdc : dc + 1 ≤ d) (hk : kc ≤ (xR X).cells ∧ ks ≤ (xR X).slots) (hd : decode cc pc = .ok (.invokestatic ix, 3)) (k : V X nL kc ks (pc + 3) ls (rest) ws) : V X nL kc ks pc ls stk ws := by
  subst hst
  intro H locs la hl hP hD hS
  obtain ⟨k1, k2, k3, k4, k5, k6, k7, k8, k9, k10⟩ := id K
  refine va_callv (va_runS (As := As) (rest := rest) ⟨k1, k2, k3, k4, k5⟩ (hC H.size) (va_cwS n k5 (BG_app S.2.2.1 S.2.2.2) rfl rfl rfl S.1 (Rsub k9 k10 hdc S.2.1)) ⟨PreW.blind, fun U hU hW => ⟨rfl, by rw [hU], nilP, va_K.moved hW.alike k6, nilD, NW.warm hW k8⟩⟩ rfl hn hl.1 rfl (lv_room hrm) hd hk) hS (fun q _ h => Asub nilD hS k7 q h) (Asub nilD hS k7) (fun u t H1 locs1 ht hvm hw hB hz1 hk1 hS1 => ?_)
  exact k H1 locs1 la hl (hP.kept (fun i q hq => hk1 q.1 ((hP i q hq).lt) (nilA (hP i q hq).lt))) hD hS1
set_option maxHeartbeats 4000000 in
theorem v_callq {X : Cx} {cc : ByteArray} {own : String} {nL d kc ks pc : Nat} {c : Nat → ClassId} {ls : List (Nat × Value)} {ws ws' : va_W} (K : Ok X cc own nL d c) {C : String} {y : MethodName} {bytes : ByteArray} {maxL n ix dc b ci N : Nat} {ret : Option FieldType} {T : u_T} {fs : List Value} {r : Option Nat} (As rest : List Value) {stk : List Value} (S : cwVok own ix C y bytes maxL ret n) (hC : Cq (xl X) (xD X) c y bytes maxL ret dc (.ref b :: As) ws r ws') (q0 : Nat) (he : ws[q0]? = some (b, .inr (ci, fs))) (hc : vwCl[ci]? = some (C, T, N)) (hsame : ws'.map (fun q => q.1) = ws.map (fun q => q.1)) (hn : As.length = n) (hst : stk = As.reverse ++ .ref b :: rest) (hrm : (rest.map fun v => v.category).sum ≤ 8) (hdc : dc + 1 ≤ d) (hk : kc ≤ (xR X).cells ∧ ks ≤ (xR X).slots) (hd : decode cc pc = .ok (.invokevirtual ix, 3)) (k : V X nL kc ks (pc + 3) ls (va_rf r :: rest) ws') : V X nL kc ks pc ls stk ws := by
  subst hst
  intro H locs la hl hP hD hS
  obtain ⟨k1, k2, k3, k4, k5, k6, k7, k8, k9, k10⟩ := id K
  refine va_callq (va_runV (As := As) (rest := rest) ⟨k1, k2, k3, k4, k5⟩ (hC H.size) (cwV n k5 (BG_app S.2.2.1 S.2.2.2) rfl rfl rfl S.1 (Rsub k9 k10 hdc S.2.1)) ⟨PreW.blind, va_recv k6 hP hc he, fun U hU hW => ⟨rfl, by rw [hU], by rw [hU]; exact hP, va_K.moved hW.alike k6, hD.weaken (fun _ _ _ _ => trivial), NW.warm hW k8⟩⟩ rfl hn hl.1 rfl (lv_room hrm) hd hk) hS (fun q _ h => Asub hD hS k7 q h) (Asub hD hS k7) (fun r' u t H1 locs1 ht hvm hw hB hz1 hk1 hS1 => ?_)
  subst hw; exact k H1 locs1 la hl (by rw [← ht]; exact hB) (va_D.addr hsame hD) hS1
set_option maxHeartbeats 4000000 in
theorem v_callsq {X : Cx} {cc : ByteArray} {own : String} {nL d kc ks pc : Nat} {c : Nat → ClassId} {ls : List (Nat × Value)} {ws : va_W} (K : Ok X cc own nL d c) {y : MethodName} {bytes : ByteArray} {maxL n ix dc : Nat} {ret : Option FieldType} {r : Option Nat} (As rest : List Value) {stk : List Value} (S : cwSok own ix y bytes maxL ret n) (hC : Cq (xl X) (xD X) c y bytes maxL ret dc As [] r []) (hn : As.length = n) (hst : stk = As.reverse ++ rest) (hrm : (rest.map fun v => v.category).sum ≤ 8) (hdc : dc + 1 ≤ d) (hk : kc ≤ (xR X).cells ∧ ks ≤ (xR X).slots) (hd : decode cc pc = .ok (.invokestatic ix, 3)) (k : V X nL kc ks (pc + 3) ls (va_rf r :: rest) ws) : V X nL kc ks pc ls stk ws := by
  subst hst
  intro H locs la hl hP hD hS
  obtain ⟨k1, k2, k3, k4, k5, k6, k7, k8, k9, k10⟩ := id K
  refine va_callq (va_runS (As := As) (rest := rest) ⟨k1, k2, k3, k4, k5⟩ (hC H.size) (va_cwS n k5 (BG_app S.2.2.1 S.2.2.2) rfl rfl rfl S.1 (Rsub k9 k10 hdc S.2.1)) ⟨PreW.blind, fun U hU hW => ⟨rfl, by rw [hU], nilP, va_K.moved hW.alike k6, nilD, NW.warm hW k8⟩⟩ rfl hn hl.1 rfl (lv_room hrm) hd hk) hS (fun q _ h => Asub nilD hS k7 q h) (Asub nilD hS k7) (fun r' u t H1 locs1 ht hvm hw hB hz1 hk1 hS1 => ?_)
  subst hw; exact k H1 locs1 la hl (hP.kept (fun i q hq => hk1 q.1 ((hP i q hq).lt) (nilA (hP i q hq).lt))) hD hS1
theorem nb_fit {v : Int32} (h : nb v = true) : fits .boolean (.int v) = true := by
  have h1 : v &&& 1 = v := of_decide_eq_true h
  obtain ⟨j, hj, e⟩ := pk_andE v (m := 1) 1 (by decide)
  rw [h1] at e
  rcases (show j = 0 ∨ j = 1 by omega) with rfl | rfl <;> rw [e] <;> decide
set_option maxHeartbeats 4000000 in
theorem v_callO {X : Cx} {cc : ByteArray} {own : String} {nL d kc ks pc : Nat} {c : Nat → ClassId} {ls : List (Nat × Value)} {ws ws' : va_W} (K : Ok X cc own nL d c) {C owner : String} {x y : MethodName} {bytes : ByteArray} {maxL n ix dc b ci N : Nat} {ret : Option FieldType} {T : u_T} {fs : List Value} {r : Int32} (As rest : List Value) {stk : List Value} (S : cwOok own ix C owner x y bytes maxL ret n) (hC : Ci (xl X) (xD X) c y bytes maxL ret dc (.ref b :: As) ws r ws') (q0 : Nat) (he : ws[q0]? = some (b, .inr (ci, fs))) (hc : vwCl[ci]? = some (C, T, N)) (hsame : ws'.map (fun q => q.1) = ws.map (fun q => q.1)) (hn : As.length = n) (hst : stk = As.reverse ++ .ref b :: rest) (hrm : (rest.map fun v => v.category).sum ≤ 8) (hdc : dc + 1 ≤ d) (hk : kc ≤ (xR X).cells ∧ ks ≤ (xR X).slots) (hd : decode cc pc = .ok (.invokevirtual ix, 3)) (k : V X nL kc ks (pc + 3) ls (.int r :: rest) ws') : V X nL kc ks pc ls stk ws := by
  subst hst
  intro H locs la hl hP hD hS
  obtain ⟨k1, k2, k3, k4, k5, k6, k7, k8, k9, k10⟩ := id K
  obtain ⟨S1, S2, S3, S4, b0, m0, r0, S5⟩ := S
  refine va_calli (va_runU (As := As) (rest := rest) ⟨k1, k2, k3, k4, k5⟩ (hC H.size) (va_cwO n k5 (BG_app S3 S4) rfl rfl rfl S5 S1 (Rsub k9 k10 hdc S2)) ⟨PreW.blind, va_recv k6 hP hc he, fun U hU hW => ⟨rfl, by rw [hU], by rw [hU]; exact hP, va_K.moved hW.alike k6, hD.weaken (fun _ _ _ _ => trivial), NW.warm hW k8⟩⟩ rfl hn hl.1 rfl (lv_room hrm) hd hk) hS (fun q _ h => Asub hD hS k7 q h) (Asub hD hS k7) (fun r' u t H1 locs1 ht hvm hw hB hz1 hk1 hS1 => ?_)
  subst hw; exact k H1 locs1 la hl (by rw [← ht]; exact hB) (va_D.addr hsame hD) hS1
set_option maxHeartbeats 4000000 in
theorem v_callP {X : Cx} {cc : ByteArray} {own : String} {nL d kc ks pc : Nat} {c : Nat → ClassId} {ls : List (Nat × Value)} {ws ws' : va_W} (K : Ok X cc own nL d c) {C : String} {y : MethodName} {bytes : ByteArray} {maxL n ix dc b ci N : Nat} {ret : Option FieldType} {T : u_T} {fs : List Value} {r : Int32} (As rest : List Value) {stk : List Value} (S : cwPok own ix y bytes maxL ret n) (hC : Ci (xl X) (xD X) c y bytes maxL ret dc (.ref b :: As) ws r ws') (q0 : Nat) (he : ws[q0]? = some (b, .inr (ci, fs))) (hc : vwCl[ci]? = some (C, T, N)) (hsame : ws'.map (fun q => q.1) = ws.map (fun q => q.1)) (hn : As.length = n) (hst : stk = As.reverse ++ .ref b :: rest) (hrm : (rest.map fun v => v.category).sum ≤ 8) (hdc : dc + 1 ≤ d) (hk : kc ≤ (xR X).cells ∧ ks ≤ (xR X).slots) (hd : decode cc pc = .ok (.invokespecial ix, 3)) (k : V X nL kc ks (pc + 3) ls (.int r :: rest) ws') : V X nL kc ks pc ls stk ws := by
  subst hst
  intro H locs la hl hP hD hS
  obtain ⟨k1, k2, k3, k4, k5, k6, k7, k8, k9, k10⟩ := id K
  obtain ⟨S1, S2, S3, S4⟩ := S
  refine va_calli (va_runSU (As := As) (rest := rest) (k6.1 ci _ hc).2 ⟨k1, k2, k3, k4, k5⟩ (hC H.size) (va_cwSU n k5 (BG_app S3 S4) rfl rfl rfl S1 (Rsub k9 k10 hdc S2)) ⟨PreW.blind, va_recv k6 hP hc he, fun U hU hW => ⟨rfl, by rw [hU], by rw [hU]; exact hP, va_K.moved hW.alike k6, hD.weaken (fun _ _ _ _ => trivial), NW.warm hW k8⟩⟩ rfl hn hl.1 rfl (lv_room hrm) hd hk) hS (fun q _ h => Asub hD hS k7 q h) (Asub hD hS k7) (fun r' u t H1 locs1 ht hvm hw hB hz1 hk1 hS1 => ?_)
  subst hw; exact k H1 locs1 la hl (by rw [← ht]; exact hB) (va_D.addr hsame hD) hS1
set_option maxHeartbeats 4000000 in
theorem v_callwi {X : Cx} {cc : ByteArray} {own : String} {nL d kc ks pc : Nat} {c : Nat → ClassId} {ls : List (Nat × Value)} {ws ws' : va_W} (K : Ok X cc own nL d c) {y : MethodName} {bytes : ByteArray} {maxL n ix dc : Nat} {ret : Option FieldType} {r : Int32} (As rest : List Value) {stk : List Value} (S : cwSok own ix y bytes maxL ret n) (hC : Ci (xl X) (xD X) c y bytes maxL ret dc As ws r ws') (hsame : ws'.map (fun q => q.1) = ws.map (fun q => q.1)) (hn : As.length = n) (hst : stk = As.reverse ++ rest) (hrm : (rest.map fun v => v.category).sum ≤ 8) (hdc : dc + 1 ≤ d) (hk : kc ≤ (xR X).cells ∧ ks ≤ (xR X).slots) (hd : decode cc pc = .ok (.invokestatic ix, 3)) (k : V X nL kc ks (pc + 3) ls (.int r :: rest) ws') : V X nL kc ks pc ls stk ws := by
  subst hst
  intro H locs la hl hP hD hS
  obtain ⟨k1, k2, k3, k4, k5, k6, k7, k8, k9, k10⟩ := id K
  refine va_calli (va_runS (As := As) (rest := rest) ⟨k1, k2, k3, k4, k5⟩ (hC H.size) (va_cwS n k5 (BG_app S.2.2.1 S.2.2.2) rfl rfl rfl S.1 (Rsub k9 k10 hdc S.2.1)) ⟨PreW.blind, fun U hU hW => ⟨rfl, by rw [hU], by rw [hU]; exact hP, va_K.moved hW.alike k6, hD.weaken (fun _ _ _ _ => trivial), NW.warm hW k8⟩⟩ rfl hn hl.1 rfl (lv_room hrm) hd hk) hS (fun q _ h => Asub hD hS k7 q h) (Asub hD hS k7) (fun r' u t H1 locs1 ht hvm hw hB hz1 hk1 hS1 => ?_)
  subst hw; exact k H1 locs1 la hl (by rw [← ht]; exact hB) (va_D.addr hsame hD) hS1
set_option maxHeartbeats 4000000 in
theorem v_callwv {X : Cx} {cc : ByteArray} {own : String} {nL d kc ks pc : Nat} {c : Nat → ClassId} {ls : List (Nat × Value)} {ws ws' : va_W} (K : Ok X cc own nL d c) {y : MethodName} {bytes : ByteArray} {maxL n ix dc : Nat} {ret : Option FieldType} (As rest : List Value) {stk : List Value} (S : cwSok own ix y bytes maxL ret n) (hC : Cv (xl X) (xD X) c y bytes maxL ret dc As ws ws') (hsame : ws'.map (fun q => q.1) = ws.map (fun q => q.1)) (hn : As.length = n) (hst : stk = As.reverse ++ rest) (hrm : (rest.map fun v => v.category).sum ≤ 8) (hdc : dc + 1 ≤ d) (hk : kc ≤ (xR X).cells ∧ ks ≤ (xR X).slots) (hd : decode cc pc = .ok (.invokestatic ix, 3)) (k : V X nL kc ks (pc + 3) ls (rest) ws') : V X nL kc ks pc ls stk ws := by
  subst hst
  intro H locs la hl hP hD hS
  obtain ⟨k1, k2, k3, k4, k5, k6, k7, k8, k9, k10⟩ := id K
  refine va_callv (va_runS (As := As) (rest := rest) ⟨k1, k2, k3, k4, k5⟩ (hC H.size) (va_cwS n k5 (BG_app S.2.2.1 S.2.2.2) rfl rfl rfl S.1 (Rsub k9 k10 hdc S.2.1)) ⟨PreW.blind, fun U hU hW => ⟨rfl, by rw [hU], by rw [hU]; exact hP, va_K.moved hW.alike k6, hD.weaken (fun _ _ _ _ => trivial), NW.warm hW k8⟩⟩ rfl hn hl.1 rfl (lv_room hrm) hd hk) hS (fun q _ h => Asub hD hS k7 q h) (Asub hD hS k7) (fun u t H1 locs1 ht hvm hw hB hz1 hk1 hS1 => ?_)
  exact k H1 locs1 la hl (by rw [← ht]; exact hB) (va_D.addr hsame hD) hS1
