theorem tk_RX9_140 : Cond.classLink RX9 140 RX2 ∈ BG := (BG_ix 387 (by decide +kernel) rfl)
theorem tn_2 : Cond.instantiable RX2 6 ∈ BG := (BG_ix 388 (by decide +kernel) rfl)
theorem ti_2 : Cond.initialized RX2 ∈ BG := (BG_ix 69 (by decide +kernel) rfl)
theorem tw_RX9_142 : cwIok RX9 142 yX2_init cX2_init 7 6 := ⟨⟨by decide, by decide, by decide +kernel⟩, rfl, by decide, all3 (BG_ix 389 (by decide +kernel) rfl) (BG_ix 390 (by decide +kernel) rfl) (BG_ix 69 (by decide +kernel) rfl), (BG_ix 391 (by decide +kernel) rfl)⟩
theorem tk_RX9_145 : Cond.classLink RX9 145 RX7 ∈ BG := (BG_ix 427 (by decide +kernel) rfl)
theorem tn_7 : Cond.instantiable RX7 6 ∈ BG := (BG_ix 428 (by decide +kernel) rfl)
theorem ti_7 : Cond.initialized RX7 ∈ BG := (BG_ix 70 (by decide +kernel) rfl)
theorem tw_RX9_147 : cwIok RX9 147 yX7_init cX7_init 7 6 := ⟨⟨by decide, by decide, by decide +kernel⟩, rfl, by decide, all3 (BG_ix 429 (by decide +kernel) rfl) (BG_ix 430 (by decide +kernel) rfl) (BG_ix 70 (by decide +kernel) rfl), (BG_ix 431 (by decide +kernel) rfl)⟩
theorem tk_RX9_148 : Cond.classLink RX9 148 RX4 ∈ BG := (BG_ix 440 (by decide +kernel) rfl)
theorem tn_4 : Cond.instantiable RX4 6 ∈ BG := (BG_ix 441 (by decide +kernel) rfl)
theorem ti_4 : Cond.initialized RX4 ∈ BG := (BG_ix 71 (by decide +kernel) rfl)
theorem tw_RX9_150 : cwIok RX9 150 yX4_init cX4_init 7 6 := ⟨⟨by decide, by decide, by decide +kernel⟩, rfl, by decide, all3 (BG_ix 442 (by decide +kernel) rfl) (BG_ix 443 (by decide +kernel) rfl) (BG_ix 71 (by decide +kernel) rfl), (BG_ix 444 (by decide +kernel) rfl)⟩
theorem lk_RX9_136 : Cond.fieldLink RX9 136 "CafeTables$Groups" "row" "[LCafeTables$Guest;" ∈ BG := (BG_ix 138 (by decide +kernel) rfl)
theorem gC_RX9_136 {X : Cx} {cc : ByteArray} {nL d kc ks pc : Nat} {c : Nat → ClassId} {ls : List (Nat × Value)} {st : List Value} {ad : Nat → Nat} {G : GG} {s : SS} (K : Ok X cc RX9 nL d c) (hd : decode cc pc = .ok (.getfield 136, 3)) (k : V X nL kc ks (pc + 3) ls (.ref (ad 8) :: st) (wC ad c G s)) : V X nL kc ks pc ls (.ref (ad 7) :: st) (wC ad c G s) := v_get K inC1 7 rfl rfl 0 (by decide) lk_RX9_136 rfl rfl hd k
def CT_group_67 (G : GG) (x1 : Int32) (x2 : Int32) (x3 : Int32) (x4 : Int32) (x5 : Int32) (x6 : Int32) (s : SS) : Option ((Int32 × SS) ⊕ (Nat × Int32 × SS)) := some (.inl ((-2 : Int32), s))
def CT_group_28 (G : GG) (x1 : Int32) (x2 : Int32) (x3 : Int32) (x4 : Int32) (x5 : Int32) (x6 : Int32) (s : SS) : Option ((Int32 × SS) ⊕ (Nat × Int32 × SS)) := some (.inl ((-2 : Int32), s))
def CT_group (G : GG) (s : SS) (x1 : Int32) (x2 : Int32) (x3 : Int32) (x4 : Int32) (x5 : Int32) (x6 : Int32) : Option ((Int32 × SS) ⊕ (Nat × Int32 × SS)) := (bnd0 (CT_isNoKind x1) (fun r2 => (if r2 = (0 : Int32) then (if x2 < (1 : Int32) then CT_group_28 G x1 x2 x3 x4 x5 x6 s else (if (6 : Int32) < x2 then CT_group_28 G x1 x2 x3 x4 x5 x6 s else (if x3 < (0 : Int32) then CT_group_28 G x1 x2 x3 x4 x5 x6 s else (if x3 ≤ (99 : Int32) then (if x4 < (1 : Int32) then CT_group_67 G x1 x2 x3 x4 x5 x6 s else (if (60 : Int32) < x4 then CT_group_67 G x1 x2 x3 x4 x5 x6 s else (if x5 < (0 : Int32) then CT_group_67 G x1 x2 x3 x4 x5 x6 s else (if (2 : Int32) < x5 then CT_group_67 G x1 x2 x3 x4 x5 x6 s else (if x6 < (0 : Int32) then CT_group_67 G x1 x2 x3 x4 x5 x6 s else (if x6 ≤ (6 : Int32) then (bnd (CT_isNoCafe G s ) (fun r16 s15 => (if r16 = (0 : Int32) then (if (s15 7 1) < (8 : Int32) then (if x1 = (0 : Int32) then some (.inr (0, (s15 7 1), s15)) else (if x1 = (1 : Int32) then some (.inr (1, (s15 7 1), s15)) else some (.inr (2, (s15 7 1), s15)))) else some (.inl ((-4 : Int32), s15))) else some (.inl ((-3 : Int32), s15))))) else CT_group_67 G x1 x2 x3 x4 x5 x6 s)))))) else CT_group_28 G x1 x2 x3 x4 x5 x6 s)))) else CT_group_28 G x1 x2 x3 x4 x5 x6 s)))
theorem va_nd_range (n : Nat) : va_nd (List.range n) = true := by
  have key : ∀ l : List Nat, l.Nodup → va_nd l = true := by
    intro l
    induction l with
    | nil => intro _; rfl
    | cons a l ih =>
      intro h
      rw [List.nodup_cons] at h
      simp only [va_nd, Bool.and_eq_true, decide_eq_true_eq]
      exact ⟨h.1, ih h.2⟩
  exact key _ List.nodup_range
theorem map_range_self (ws : va_W) (x : Nat × va_E) : (List.range ws.length).map (fun i => (ws ++ [x])[i]?) = ws.map some := by
  apply List.ext_getElem?
  intro i
  by_cases h : i < ws.length
  · simp [h, List.getElem?_append_left h]
  · simp [h]
theorem v_ctor1 {X : Cx} {cc : ByteArray} {own : String} {nL d kc ks pc : Nat} {c : Nat → ClassId} {ls : List (Nat × Value)} {ws : va_W} (K : Ok X cc own nL d c) {y : MethodName} {bytes : ByteArray} {maxL n ix dc b mc ms : Nat} {e : va_E} {post : va_W → Prop} (As rest : List Value) {stk : List Value} (S : cwIok own ix y bytes maxL n) (hC : CN (xl X) (xD X) c y bytes maxL dc mc ms (.ref b :: As) [(b, e)] post) (hn : As.length = n) (hst : stk = As.reverse ++ .ref b :: rest) (hrm : (rest.map fun v => v.category).sum ≤ 8) (hdc : dc + 1 ≤ d) (hk : kc + mc ≤ (xR X).cells ∧ ks + ms ≤ (xR X).slots) (hd : decode cc pc = .ok (.invokespecial ix, 3)) (k : ∀ u, post u → V X nL (kc + mc) (ks + ms) (pc + 3) ls rest (ws ++ u)) : V X nL kc ks pc ls stk (ws ++ [(b, e)]) :=
  v_ctor K As rest S hC (wr := ws) [ws.length] (List.range ws.length) (by simp) rfl (map_range_self ws _) (va_nd_range _) (fun i hi => by simp at hi ⊢; omega) hn hst hrm hdc hk hd k
theorem v_fresh {X : Cx} {nL kc ks pc : Nat} {c : Nat → ClassId} {ls : List (Nat × Value)} {st : List Value} {ad : Nat → Nat} {G : GG} {s : SS} {q : Nat} {e : va_E} (k : q ∉ gL G → V X nL kc ks pc ls st (wC ad c G s ++ [(q, e)])) : V X nL kc ks pc ls st (wC ad c G s ++ [(q, e)]) := fun H locs la hl hP hD hS => k (va_pl_fresh2 hD) H locs la hl hP hD hS
def vals6 (a b c d e f : Int32) : Nat → Int32 := fun j => if j = 0 then a else if j = 1 then b else if j = 2 then c else if j = 3 then d else if j = 4 then e else f
def gadd (G : GG) (q i k : Nat) (v : Nat → Int32) : GG := (va_up G.1 i (some q), G.2.1 ++ [q], va_up G.2.2.1 q k, va_up G.2.2.2 q v)
theorem gadd_cell {G : GG} {q i k : Nat} {v : Nat → Int32} : gcell (gadd G q i k v) = va_up (gcell G) q (.inr (gcls k, [.int (v 0), .int (v 1), .int (v 2), .int (v 3), .int (v 4), .int (v 5)])) := by
  funext a
  by_cases h : a = q
  · subst h
    simp [gcell, gadd, gfs, va_up, gk, gv]
  · simp [gcell, gadd, gfs, va_up, h, gk, gv]
theorem gadd_world {ad : Nat → Nat} {c : Nat → ClassId} {G : GG} {s : SS} {q i k : Nat} {v : Nat → Int32} (hq : q ∉ gL G) : (wC ad c G s ++ ([(q, .inr (gcls k, [.int (v 0), .int (v 1), .int (v 2), .int (v 3), .int (v 4), .int (v 5)]))] : va_W)).set 8 (ad 8, .inl (c 2, 8, .inr (.inr (.inr (.inr (va_up (gr G) i (some q))))))) = wC ad c (gadd G q i k v) s := by
  have e : wC ad c (gadd G q i k v) s = wCf ad c (gadd G q i k v) s ++ va_pl (gL G ++ [q]) (gcell (gadd G q i k v)) := rfl
  rw [e, gadd_cell, ← va_pl_push hq, wC, List.append_assoc]
  rfl
theorem gadd_ok {G : GG} {q i k : Nat} {v : Nat → Int32} (hG : gok G) (hq : q ∉ gL G) : gok (gadd G q i k v) := by
  intro j a h
  have h' : va_up G.1 i (some q) j = some a := h
  show decide (a ∈ G.2.1 ++ [q]) = true
  apply decide_eq_true
  by_cases e : j = i
  · rw [e, va_up_self] at h'
    exact List.mem_append.mpr (Or.inr (by rw [← Option.some.inj h']; exact List.mem_singleton.mpr rfl))
  · rw [va_up_ne _ _ e] at h'
    exact List.mem_append.mpr (Or.inl (of_decide_eq_true (hG j a h')))
set_option maxHeartbeats 4000000 in
set_option maxRecDepth 100000 in
theorem wCT_group_67 {ad : Nat → Nat} {G : GG} {X : Cx} {c : Nat → ClassId} (hG : gok G) (K : Ok X cX9_group RX9 8 5 c) {x1 x2 x3 x4 x5 x6 : Int32} {r : (Int32 × SS) ⊕ (Nat × Int32 × SS)} (RT : ∀ pc ls x s1, decode cX9_group pc = .ok (.ireturn, 1) → r = .inl (x, s1) → V X 8 0 0 pc ls [.int x] (wC ad c G s1)) (RN0 : ∀ n s1, r = .inr (0, n, s1) → V X 8 0 0 112 [(0, .ref (ad 0)), (1, .int x1), (2, .int x2), (3, .int x3), (4, .int x4), (5, .int x5), (6, .int x6), (7, .int n)] [.int n, .ref (ad 8)] (wC ad c G s1)) (RN1 : ∀ n s1, r = .inr (1, n, s1) → V X 8 0 0 147 [(0, .ref (ad 0)), (1, .int x1), (2, .int x2), (3, .int x3), (4, .int x4), (5, .int x5), (6, .int x6), (7, .int n)] [.int n, .ref (ad 8)] (wC ad c G s1)) (RN2 : ∀ n s1, r = .inr (2, n, s1) → V X 8 0 0 177 [(0, .ref (ad 0)), (1, .int x1), (2, .int x2), (3, .int x3), (4, .int x4), (5, .int x5), (6, .int x6), (7, .int n)] [.int n, .ref (ad 8)] (wC ad c G s1)) : ∀ (x1 : Int32) (x2 : Int32) (x3 : Int32) (x4 : Int32) (x5 : Int32) (x6 : Int32) (s : SS), CT_group_67 G x1 x2 x3 x4 x5 x6 s = some r → V X 8 0 0 67 [(0, .ref (ad 0)), (1, .int x1), (2, .int x2), (3, .int x3), (4, .int x4), (5, .int x5), (6, .int x6)] [] (wC ad c G s) := by
  intro x1 x2 x3 x4 x5 x6 s h
  rw [CT_group_67] at h
  refine v_bipush (v := (-2 : Int32)) K dX9_group_67 (by decide) ?_
  obtain rfl := Option.some.inj h
  exact RT _ _ _ _ dX9_group_69 rfl
set_option maxHeartbeats 4000000 in
set_option maxRecDepth 100000 in
theorem wCT_group_28 {ad : Nat → Nat} {G : GG} {X : Cx} {c : Nat → ClassId} (hG : gok G) (K : Ok X cX9_group RX9 8 5 c) {x1 x2 x3 x4 x5 x6 : Int32} {r : (Int32 × SS) ⊕ (Nat × Int32 × SS)} (RT : ∀ pc ls x s1, decode cX9_group pc = .ok (.ireturn, 1) → r = .inl (x, s1) → V X 8 0 0 pc ls [.int x] (wC ad c G s1)) (RN0 : ∀ n s1, r = .inr (0, n, s1) → V X 8 0 0 112 [(0, .ref (ad 0)), (1, .int x1), (2, .int x2), (3, .int x3), (4, .int x4), (5, .int x5), (6, .int x6), (7, .int n)] [.int n, .ref (ad 8)] (wC ad c G s1)) (RN1 : ∀ n s1, r = .inr (1, n, s1) → V X 8 0 0 147 [(0, .ref (ad 0)), (1, .int x1), (2, .int x2), (3, .int x3), (4, .int x4), (5, .int x5), (6, .int x6), (7, .int n)] [.int n, .ref (ad 8)] (wC ad c G s1)) (RN2 : ∀ n s1, r = .inr (2, n, s1) → V X 8 0 0 177 [(0, .ref (ad 0)), (1, .int x1), (2, .int x2), (3, .int x3), (4, .int x4), (5, .int x5), (6, .int x6), (7, .int n)] [.int n, .ref (ad 8)] (wC ad c G s1)) : ∀ (x1 : Int32) (x2 : Int32) (x3 : Int32) (x4 : Int32) (x5 : Int32) (x6 : Int32) (s : SS), CT_group_28 G x1 x2 x3 x4 x5 x6 s = some r → V X 8 0 0 28 [(0, .ref (ad 0)), (1, .int x1), (2, .int x2), (3, .int x3), (4, .int x4), (5, .int x5), (6, .int x6)] [] (wC ad c G s) := by
  intro x1 x2 x3 x4 x5 x6 s h
  rw [CT_group_28] at h
  refine v_bipush (v := (-2 : Int32)) K dX9_group_28 (by decide) ?_
  obtain rfl := Option.some.inj h
  exact RT _ _ _ _ dX9_group_30 rfl
set_option maxHeartbeats 4000000 in
set_option maxRecDepth 100000 in
theorem wCT_group {ad : Nat → Nat} {G : GG} {X : Cx} {c : Nat → ClassId} (hG : gok G) (K : Ok X cX9_group RX9 8 5 c) {x1 x2 x3 x4 x5 x6 : Int32} {r : (Int32 × SS) ⊕ (Nat × Int32 × SS)} (RT : ∀ pc ls x s1, decode cX9_group pc = .ok (.ireturn, 1) → r = .inl (x, s1) → V X 8 0 0 pc ls [.int x] (wC ad c G s1)) (RN0 : ∀ n s1, r = .inr (0, n, s1) → V X 8 0 0 112 [(0, .ref (ad 0)), (1, .int x1), (2, .int x2), (3, .int x3), (4, .int x4), (5, .int x5), (6, .int x6), (7, .int n)] [.int n, .ref (ad 8)] (wC ad c G s1)) (RN1 : ∀ n s1, r = .inr (1, n, s1) → V X 8 0 0 147 [(0, .ref (ad 0)), (1, .int x1), (2, .int x2), (3, .int x3), (4, .int x4), (5, .int x5), (6, .int x6), (7, .int n)] [.int n, .ref (ad 8)] (wC ad c G s1)) (RN2 : ∀ n s1, r = .inr (2, n, s1) → V X 8 0 0 177 [(0, .ref (ad 0)), (1, .int x1), (2, .int x2), (3, .int x3), (4, .int x4), (5, .int x5), (6, .int x6), (7, .int n)] [.int n, .ref (ad 8)] (wC ad c G s1)) (s : SS) (h : CT_group G s x1 x2 x3 x4 x5 x6 = some r) : V X 8 0 0 0 [(0, .ref (ad 0)), (1, .int x1), (2, .int x2), (3, .int x3), (4, .int x4), (5, .int x5), (6, .int x6)] [] (wC ad c G s) := by
  rw [CT_group] at h
  refine v_iload_n K 1 rfl dX9_group_0 ?_
  obtain ⟨r2, e1, h⟩ := bnd0_e h
  refine v_callsi K [.int x1] [] cw_RX9_133 (cCT_isNoKind e1) rfl rfl (Nat.le_of_ble_eq_true rfl) (by decide) z0 dX9_group_1 ?_
  refine v_if_ne K 28 dX9_group_4 (by decide) (fun q3 => ?_) (fun q3 => ?_)
  · replace h := if_n h q3
    exact wCT_group_28 hG K RT RN0 RN1 RN2 _ _ _ _ _ _ _ h
  · replace h := if_e h q3
    refine v_iload_n K 2 rfl dX9_group_7 ?_
    refine v_iconst (v := (1 : Int32)) K dX9_group_8 (by decide) ?_
    refine v_icmp_lt K 28 dX9_group_9 (by decide) (fun q4 => ?_) (fun q4 => ?_)
    · replace h := if_e h q4
      exact wCT_group_28 hG K RT RN0 RN1 RN2 _ _ _ _ _ _ _ h
    · replace h := if_n h q4
      refine v_iload_n K 2 rfl dX9_group_12 ?_
      refine v_bipush (v := (6 : Int32)) K dX9_group_13 (by decide) ?_
      refine v_icmp_gt K 28 dX9_group_15 (by decide) (fun q5 => ?_) (fun q5 => ?_)
      · replace h := if_e h q5
        exact wCT_group_28 hG K RT RN0 RN1 RN2 _ _ _ _ _ _ _ h
      · replace h := if_n h q5
        refine v_iload_n K 3 rfl dX9_group_18 ?_
        refine v_if_lt K 28 dX9_group_19 (by decide) (fun q6 => ?_) (fun q6 => ?_)
        · replace h := if_e h q6
          exact wCT_group_28 hG K RT RN0 RN1 RN2 _ _ _ _ _ _ _ h
        · replace h := if_n h q6
          refine v_iload_n K 3 rfl dX9_group_22 ?_
          refine v_bipush (v := (99 : Int32)) K dX9_group_23 (by decide) ?_
          refine v_icmp_le K 31 dX9_group_25 (by decide) (fun q7 => ?_) (fun q7 => ?_)
          · replace h := if_e h q7
            refine v_iload K 4 rfl dX9_group_31 ?_
            refine v_iconst (v := (1 : Int32)) K dX9_group_33 (by decide) ?_
            refine v_icmp_lt K 67 dX9_group_34 (by decide) (fun q8 => ?_) (fun q8 => ?_)
            · replace h := if_e h q8
              exact wCT_group_67 hG K RT RN0 RN1 RN2 _ _ _ _ _ _ _ h
            · replace h := if_n h q8
              refine v_iload K 4 rfl dX9_group_37 ?_
              refine v_bipush (v := (60 : Int32)) K dX9_group_39 (by decide) ?_
              refine v_icmp_gt K 67 dX9_group_41 (by decide) (fun q9 => ?_) (fun q9 => ?_)
              · replace h := if_e h q9
                exact wCT_group_67 hG K RT RN0 RN1 RN2 _ _ _ _ _ _ _ h
              · replace h := if_n h q9
                refine v_iload K 5 rfl dX9_group_44 ?_
                refine v_if_lt K 67 dX9_group_46 (by decide) (fun q10 => ?_) (fun q10 => ?_)
                · replace h := if_e h q10
                  exact wCT_group_67 hG K RT RN0 RN1 RN2 _ _ _ _ _ _ _ h
                · replace h := if_n h q10
                  refine v_iload K 5 rfl dX9_group_49 ?_
                  refine v_iconst (v := (2 : Int32)) K dX9_group_51 (by decide) ?_
                  refine v_icmp_gt K 67 dX9_group_52 (by decide) (fun q11 => ?_) (fun q11 => ?_)
                  · replace h := if_e h q11
                    exact wCT_group_67 hG K RT RN0 RN1 RN2 _ _ _ _ _ _ _ h
                  · replace h := if_n h q11
                    refine v_iload K 6 rfl dX9_group_55 ?_
                    refine v_if_lt K 67 dX9_group_57 (by decide) (fun q12 => ?_) (fun q12 => ?_)
                    · replace h := if_e h q12
                      exact wCT_group_67 hG K RT RN0 RN1 RN2 _ _ _ _ _ _ _ h
                    · replace h := if_n h q12
                      refine v_iload K 6 rfl dX9_group_60 ?_
                      refine v_bipush (v := (6 : Int32)) K dX9_group_62 (by decide) ?_
                      refine v_icmp_le K 70 dX9_group_64 (by decide) (fun q13 => ?_) (fun q13 => ?_)
                      · replace h := if_e h q13
                        refine v_aload_n K 0 rfl dX9_group_70 ?_
                        obtain ⟨r16, s15, e14, h⟩ := bnd_e h
                        refine vC_calli K [] [] cw_RX9_117 (cCT_isNoCafe hG e14) rcT rfl rfl (Nat.le_of_ble_eq_true rfl) (by decide) dX9_group_71 ?_
                        refine v_if_eq K 80 dX9_group_74 (by decide) (fun q17 => ?_) (fun q17 => ?_)
                        · replace h := if_e h q17
                          refine v_aload_n K 0 rfl dX9_group_80 ?_
                          refine gC_RX9_24 K dX9_group_81 ?_
                          refine gC_RX9_102 (v := (s15 7 1)) K dX9_group_84 rfl ?_
                          refine v_istore K [(0, .ref (ad 0)), (1, .int x1), (2, .int x2), (3, .int x3), (4, .int x4), (5, .int x5), (6, .int x6), (7, .int (s15 7 1))] [1, 2, 3, 4, 5, 6, 7, 0] dX9_group_87 (by decide) rfl ?_
                          refine v_iload K 7 rfl dX9_group_89 ?_
                          refine v_bipush (v := (8 : Int32)) K dX9_group_91 (by decide) ?_
                          refine v_icmp_lt K 99 dX9_group_93 (by decide) (fun q18 => ?_) (fun q18 => ?_)
                          · replace h := if_e h q18
                            refine v_iload_n K 1 rfl dX9_group_99 ?_
                            refine v_if_ne K 133 dX9_group_100 (by decide) (fun q19 => ?_) (fun q19 => ?_)
                            · replace h := if_n h q19
                              refine v_iload_n K 1 rfl dX9_group_133 ?_
                              refine v_iconst (v := (1 : Int32)) K dX9_group_134 (by decide) ?_
                              refine v_icmp_ne K 168 dX9_group_135 (by decide) (fun q20 => ?_) (fun q20 => ?_)
                              · replace h := if_n h q20
                                refine v_aload_n K 0 rfl dX9_group_168 ?_
                                refine gC_RX9_24 K dX9_group_169 ?_
                                refine gC_RX9_136 K dX9_group_172 ?_
                                refine v_iload K 7 rfl dX9_group_175 ?_
                                obtain rfl := Option.some.inj h
                                exact RN2 _ _ rfl
                              · replace h := if_e h q20
                                refine v_aload_n K 0 rfl dX9_group_138 ?_
                                refine gC_RX9_24 K dX9_group_139 ?_
                                refine gC_RX9_136 K dX9_group_142 ?_
                                refine v_iload K 7 rfl dX9_group_145 ?_
                                obtain rfl := Option.some.inj h
                                exact RN1 _ _ rfl
                            · replace h := if_e h q19
                              refine v_aload_n K 0 rfl dX9_group_103 ?_
                              refine gC_RX9_24 K dX9_group_104 ?_
                              refine gC_RX9_136 K dX9_group_107 ?_
                              refine v_iload K 7 rfl dX9_group_110 ?_
                              obtain rfl := Option.some.inj h
                              exact RN0 _ _ rfl
                          · replace h := if_n h q18
                            refine v_bipush (v := (-4 : Int32)) K dX9_group_96 (by decide) ?_
                            obtain rfl := Option.some.inj h
                            exact RT _ _ _ _ dX9_group_98 rfl
                        · replace h := if_n h q17
                          refine v_bipush (v := (-3 : Int32)) K dX9_group_77 (by decide) ?_
                          obtain rfl := Option.some.inj h
                          exact RT _ _ _ _ dX9_group_79 rfl
                      · replace h := if_n h q13
                        exact wCT_group_67 hG K RT RN0 RN1 RN2 _ _ _ _ _ _ _ h
          · replace h := if_n h q7
            exact wCT_group_28 hG K RT RN0 RN1 RN2 _ _ _ _ _ _ _ h
set_option maxHeartbeats 4000000 in
set_option maxRecDepth 100000 in
theorem grp_0 {ad : Nat → Nat} {G : GG} {X : Cx} {c : Nat → ClassId} {s : SS} {x1 x2 x3 x4 x5 x6 x7 : Int32} (hG : gok G) (K : Ok X cX9_group RX9 8 5 c) (hRc : (xR X).cells = 1) (hRs : (xR X).slots = 6) (hb : inb x7 8 = true) (hf : ∀ G s, ∃ s2, CT_forget G s = some s2) (RT : ∀ q s2, q ∉ gL G → CT_forget (gadd G q x7.toNatClampNeg 0 (vals6 x7 x2 x3 x4 x5 x6)) (up2 s 7 1 (x7 + (1 : Int32))) = some s2 → V X 8 1 6 212 [(0, .ref (ad 0)), (1, .int x1), (2, .int x2), (3, .int x3), (4, .int x4), (5, .int x5), (6, .int x6), (7, .int x7)] [.int x7] (wC ad c (gadd G q x7.toNatClampNeg 0 (vals6 x7 x2 x3 x4 x5 x6)) s2)) : V X 8 0 0 112 [(0, .ref (ad 0)), (1, .int x1), (2, .int x2), (3, .int x3), (4, .int x4), (5, .int x5), (6, .int x6), (7, .int x7)] [.int x7, .ref (ad 8)] (wC ad c G s) := by
  refine v_new (ci := 2) (fs := [.int 0, .int 0, .int 0, .int 0, .int 0, .int 0]) K inC2 tyX2 tyX2_ok tk_RX9_140 tn_2 ti_2 rfl dv_2 (by rw [hRc]; decide) (by rw [hRs]; decide) dX9_group_112 (fun q => ?_)
  refine v_fresh (fun hq => ?_)
  refine v_dup K dX9_group_115 rfl ?_
  refine v_iload K 7 rfl dX9_group_116 ?_
  refine v_iload_n K 2 rfl dX9_group_118 ?_
  refine v_iload_n K 3 rfl dX9_group_119 ?_
  refine v_iload K 4 rfl dX9_group_120 ?_
  refine v_iload K 5 rfl dX9_group_122 ?_
  refine v_iload K 6 rfl dX9_group_124 ?_
  refine v_ctor1 K [.int x7, .int x2, .int x3, .int x4, .int x5, .int x6] [.ref q, .int x7, .ref (ad 8)] tw_RX9_142 (cN_Guest_g q x7 x2 x3 x4 x5 x6) rfl rfl (Nat.le_of_ble_eq_true rfl) (by decide) ⟨by rw [hRc]; decide, by rw [hRs]; decide⟩ dX9_group_126 (fun u hu => ?_)
  subst hu
  refine v_astG K 8 (wC ad c G s).length (n := 8) (f := gr G) rfl (by rw [List.getElem?_append_right (Nat.le_refl _), Nat.sub_self]; rfl) (Or.inl rfl) hb (gadd_world (k := 0) (v := vals6 x7 x2 x3 x4 x5 x6) hq) dX9_group_129 ?_
  refine v_goto K 195 dX9_group_130 (by decide) ?_
  refine v_aload_n K 0 rfl dX9_group_195 ?_
  refine gC_RX9_24 K dX9_group_196 ?_
  refine v_iload K 7 rfl dX9_group_199 ?_
  refine v_iconst (v := (1 : Int32)) K dX9_group_201 (by decide) ?_
  refine v_iadd K dX9_group_202 ?_
  refine pC_RX9_102 K dX9_group_203 ?_
  refine v_aload_n K 0 rfl dX9_group_206 ?_
  obtain ⟨s2, e2⟩ := hf (gadd G q x7.toNatClampNeg 0 (vals6 x7 x2 x3 x4 x5 x6)) (up2 s 7 1 (x7 + (1 : Int32)))
  refine v_callv K [] [] cw_RX9_105 (cCT_forget (gadd_ok hG hq) e2) 0 rfl rfl (wC_same ad c _ _ _) rfl rfl (Nat.le_of_ble_eq_true rfl) (by decide) ⟨by rw [hRc]; decide, by rw [hRs]; decide⟩ dX9_group_207 ?_
  refine v_iload K 7 rfl dX9_group_210 ?_
  exact RT q s2 hq e2
set_option maxHeartbeats 4000000 in
set_option maxRecDepth 100000 in
theorem grp_1 {ad : Nat → Nat} {G : GG} {X : Cx} {c : Nat → ClassId} {s : SS} {x1 x2 x3 x4 x5 x6 x7 : Int32} (hG : gok G) (K : Ok X cX9_group RX9 8 5 c) (hRc : (xR X).cells = 1) (hRs : (xR X).slots = 6) (hb : inb x7 8 = true) (hf : ∀ G s, ∃ s2, CT_forget G s = some s2) (RT : ∀ q s2, q ∉ gL G → CT_forget (gadd G q x7.toNatClampNeg 1 (vals6 x7 x2 x3 x4 x5 x6)) (up2 s 7 1 (x7 + (1 : Int32))) = some s2 → V X 8 1 6 212 [(0, .ref (ad 0)), (1, .int x1), (2, .int x2), (3, .int x3), (4, .int x4), (5, .int x5), (6, .int x6), (7, .int x7)] [.int x7] (wC ad c (gadd G q x7.toNatClampNeg 1 (vals6 x7 x2 x3 x4 x5 x6)) s2)) : V X 8 0 0 147 [(0, .ref (ad 0)), (1, .int x1), (2, .int x2), (3, .int x3), (4, .int x4), (5, .int x5), (6, .int x6), (7, .int x7)] [.int x7, .ref (ad 8)] (wC ad c G s) := by
  refine v_new (ci := 7) (fs := [.int 0, .int 0, .int 0, .int 0, .int 0, .int 0]) K inC7 tyX7 tyX7_ok tk_RX9_145 tn_7 ti_7 rfl dv_7 (by rw [hRc]; decide) (by rw [hRs]; decide) dX9_group_147 (fun q => ?_)
  refine v_fresh (fun hq => ?_)
  refine v_dup K dX9_group_150 rfl ?_
  refine v_iload K 7 rfl dX9_group_151 ?_
  refine v_iload_n K 2 rfl dX9_group_153 ?_
  refine v_iload_n K 3 rfl dX9_group_154 ?_
  refine v_iload K 4 rfl dX9_group_155 ?_
  refine v_iload K 5 rfl dX9_group_157 ?_
  refine v_iload K 6 rfl dX9_group_159 ?_
  refine v_ctor1 K [.int x7, .int x2, .int x3, .int x4, .int x5, .int x6] [.ref q, .int x7, .ref (ad 8)] tw_RX9_147 (cN_Staying_y q x7 x2 x3 x4 x5 x6) rfl rfl (Nat.le_of_ble_eq_true rfl) (by decide) ⟨by rw [hRc]; decide, by rw [hRs]; decide⟩ dX9_group_161 (fun u hu => ?_)
  subst hu
  refine v_astG K 8 (wC ad c G s).length (n := 8) (f := gr G) rfl (by rw [List.getElem?_append_right (Nat.le_refl _), Nat.sub_self]; rfl) (Or.inr (Or.inl rfl)) hb (gadd_world (k := 1) (v := vals6 x7 x2 x3 x4 x5 x6) hq) dX9_group_164 ?_
  refine v_goto K 195 dX9_group_165 (by decide) ?_
  refine v_aload_n K 0 rfl dX9_group_195 ?_
  refine gC_RX9_24 K dX9_group_196 ?_
  refine v_iload K 7 rfl dX9_group_199 ?_
  refine v_iconst (v := (1 : Int32)) K dX9_group_201 (by decide) ?_
  refine v_iadd K dX9_group_202 ?_
  refine pC_RX9_102 K dX9_group_203 ?_
  refine v_aload_n K 0 rfl dX9_group_206 ?_
  obtain ⟨s2, e2⟩ := hf (gadd G q x7.toNatClampNeg 1 (vals6 x7 x2 x3 x4 x5 x6)) (up2 s 7 1 (x7 + (1 : Int32)))
  refine v_callv K [] [] cw_RX9_105 (cCT_forget (gadd_ok hG hq) e2) 0 rfl rfl (wC_same ad c _ _ _) rfl rfl (Nat.le_of_ble_eq_true rfl) (by decide) ⟨by rw [hRc]; decide, by rw [hRs]; decide⟩ dX9_group_207 ?_
  refine v_iload K 7 rfl dX9_group_210 ?_
  exact RT q s2 hq e2
set_option maxHeartbeats 4000000 in
set_option maxRecDepth 100000 in
theorem grp_2 {ad : Nat → Nat} {G : GG} {X : Cx} {c : Nat → ClassId} {s : SS} {x1 x2 x3 x4 x5 x6 x7 : Int32} (hG : gok G) (K : Ok X cX9_group RX9 8 5 c) (hRc : (xR X).cells = 1) (hRs : (xR X).slots = 6) (hb : inb x7 8 = true) (hf : ∀ G s, ∃ s2, CT_forget G s = some s2) (RT : ∀ q s2, q ∉ gL G → CT_forget (gadd G q x7.toNatClampNeg 2 (vals6 x7 x2 x3 x4 x5 x6)) (up2 s 7 1 (x7 + (1 : Int32))) = some s2 → V X 8 1 6 212 [(0, .ref (ad 0)), (1, .int x1), (2, .int x2), (3, .int x3), (4, .int x4), (5, .int x5), (6, .int x6), (7, .int x7)] [.int x7] (wC ad c (gadd G q x7.toNatClampNeg 2 (vals6 x7 x2 x3 x4 x5 x6)) s2)) : V X 8 0 0 177 [(0, .ref (ad 0)), (1, .int x1), (2, .int x2), (3, .int x3), (4, .int x4), (5, .int x5), (6, .int x6), (7, .int x7)] [.int x7, .ref (ad 8)] (wC ad c G s) := by
  refine v_new (ci := 4) (fs := [.int 0, .int 0, .int 0, .int 0, .int 0, .int 0]) K inC4 tyX4 tyX4_ok tk_RX9_148 tn_4 ti_4 rfl dv_4 (by rw [hRc]; decide) (by rw [hRs]; decide) dX9_group_177 (fun q => ?_)
  refine v_fresh (fun hq => ?_)
  refine v_dup K dX9_group_180 rfl ?_
  refine v_iload K 7 rfl dX9_group_181 ?_
  refine v_iload_n K 2 rfl dX9_group_183 ?_
  refine v_iload_n K 3 rfl dX9_group_184 ?_
  refine v_iload K 4 rfl dX9_group_185 ?_
  refine v_iload K 5 rfl dX9_group_187 ?_
  refine v_iload K 6 rfl dX9_group_189 ?_
  refine v_ctor1 K [.int x7, .int x2, .int x3, .int x4, .int x5, .int x6] [.ref q, .int x7, .ref (ad 8)] tw_RX9_150 (cN_Looked q x7 x2 x3 x4 x5 x6) rfl rfl (Nat.le_of_ble_eq_true rfl) (by decide) ⟨by rw [hRc]; decide, by rw [hRs]; decide⟩ dX9_group_191 (fun u hu => ?_)
  subst hu
  refine v_astG K 8 (wC ad c G s).length (n := 8) (f := gr G) rfl (by rw [List.getElem?_append_right (Nat.le_refl _), Nat.sub_self]; rfl) (Or.inr (Or.inr rfl)) hb (gadd_world (k := 2) (v := vals6 x7 x2 x3 x4 x5 x6) hq) dX9_group_194 ?_
  refine v_aload_n K 0 rfl dX9_group_195 ?_
  refine gC_RX9_24 K dX9_group_196 ?_
  refine v_iload K 7 rfl dX9_group_199 ?_
  refine v_iconst (v := (1 : Int32)) K dX9_group_201 (by decide) ?_
  refine v_iadd K dX9_group_202 ?_
  refine pC_RX9_102 K dX9_group_203 ?_
  refine v_aload_n K 0 rfl dX9_group_206 ?_
  obtain ⟨s2, e2⟩ := hf (gadd G q x7.toNatClampNeg 2 (vals6 x7 x2 x3 x4 x5 x6)) (up2 s 7 1 (x7 + (1 : Int32)))
  refine v_callv K [] [] cw_RX9_105 (cCT_forget (gadd_ok hG hq) e2) 0 rfl rfl (wC_same ad c _ _ _) rfl rfl (Nat.le_of_ble_eq_true rfl) (by decide) ⟨by rw [hRc]; decide, by rw [hRs]; decide⟩ dX9_group_207 ?_
  refine v_iload K 7 rfl dX9_group_210 ?_
  exact RT q s2 hq e2
def grpPost (ad : Nat → Nat) (c : Nat → ClassId) (G : GG) (R : (Int32 × SS) ⊕ (Nat × Int32 × SS)) (x2 x3 x4 x5 x6 : Int32) (r : Int32) (u : va_W) : Prop :=
  (∃ s', R = .inl (r, s') ∧ u = wC ad c G s') ∨ ∃ k s1 s2 q, R = .inr (k, r, s1) ∧ q ∉ gL G ∧ CT_forget (gadd G q r.toNatClampNeg k (vals6 r x2 x3 x4 x5 x6)) (up2 s1 7 1 (r + (1 : Int32))) = some s2 ∧ u = wC ad c (gadd G q r.toNatClampNeg k (vals6 r x2 x3 x4 x5 x6)) s2
set_option maxHeartbeats 4000000 in
theorem cCT_group {l : Launch} {D : va_G} {c : Nat → ClassId} {ad : Nat → Nat} {G : GG} {s : SS} {x1 x2 x3 x4 x5 x6 : Int32} {R : (Int32 × SS) ⊕ (Nat × Int32 × SS)} (hG : gok G) (hf : ∀ G s, ∃ s2, CT_forget G s = some s2) (hb : ∀ k n s1, R = .inr (k, n, s1) → inb n 8 = true) (h : CT_group G s x1 x2 x3 x4 x5 x6 = some R) : CNI l D c yX9_group cX9_group 8 5 1 6 [.ref (ad 0), .int x1, .int x2, .int x3, .int x4, .int x5, .int x6] (wC ad c G s) (grpPost ad c G R x2 x3 x4 x5 x6) := by
  refine CNI.of (by decide) (Nat.le_of_ble_eq_true rfl) (fun X K hRc hRs RT => ?_)
  refine wCT_group hG K (x1 := x1) (x2 := x2) (x3 := x3) (x4 := x4) (x5 := x5) (x6 := x6) (fun pc ls x s1 hd e => v_widen (Nat.zero_le _) (Nat.zero_le _) (RT pc ls x _ hd (Or.inl ⟨s1, e, rfl⟩))) (fun n s1 e => ?_) (fun n s1 e => ?_) (fun n s1 e => ?_) s h
  · exact grp_0 hG K hRc hRs (hb _ _ _ e) hf (fun q s2 hq e2 => RT _ _ n _ dX9_group_212 (Or.inr ⟨0, s1, s2, q, e, hq, e2, rfl⟩))
  · exact grp_1 hG K hRc hRs (hb _ _ _ e) hf (fun q s2 hq e2 => RT _ _ n _ dX9_group_212 (Or.inr ⟨1, s1, s2, q, e, hq, e2, rfl⟩))
  · exact grp_2 hG K hRc hRs (hb _ _ _ e) hf (fun q s2 hq e2 => RT _ _ n _ dX9_group_212 (Or.inr ⟨2, s1, s2, q, e, hq, e2, rfl⟩))
