set_option maxHeartbeats 4000000 in
set_option maxRecDepth 100000 in
theorem wCY_telling {ad : Nat → Nat} {G : GG} {o : Nat} {X : Cx} {c : Nat → ClassId} (hG : gok G) (ho : gm G o = true) (K : Ok X cX7_telling RX7 2 3 c) {r : Int32 × SS} (RT : ∀ pc ls, decode cX7_telling pc = .ok (.ireturn, 1) → V X 2 0 0 pc ls [.int r.1] (wC ad c G r.2)) (s : SS) (h : CY_telling G o s = some r) : V X 2 0 0 0 [(0, .ref o), (1, .ref (ad 18))] [] (wC ad c G s) := by
  rw [CY_telling] at h
  refine v_aload_n K 1 rfl dX7_telling_0 ?_
  refine v_iconst (v := (2 : Int32)) K dX7_telling_1 (by decide) ?_
  obtain ⟨s2, e1, h⟩ := bnd0_e h
  refine vC_callv K [.int (2 : Int32)] [] cw_RX7_16 (cCQ_mark hG e1) rcQ rfl rfl (Nat.le_of_ble_eq_true rfl) (by decide) dX7_telling_2 ?_
  refine v_aload_n K 0 rfl dX7_telling_5 ?_
  refine v_aload_n K 1 rfl dX7_telling_6 ?_
  obtain ⟨r5, s4, e3, h⟩ := bnd_e h
  refine vP_RX7_22 hG ho K [] e3 (Nat.le_of_ble_eq_true rfl) (by decide) dX7_telling_7 ?_
  refine v_bipush (v := (100 : Int32)) K dX7_telling_10 (by decide) ?_
  refine v_iadd K dX7_telling_12 ?_
  obtain rfl := Option.some.inj h
  exact RT _ _ dX7_telling_13
theorem cCY_telling {l : Launch} {D : va_G} {c : Nat → ClassId} {s s' : SS} {ad : Nat → Nat} {G : GG} {o : Nat} (hG : gok G) (ho : gm G o = true)  {r : Int32} (h : CY_telling G o s = some (r, s')) : Ci l D c yX7_telling cX7_telling 2 (some .int) 3 [.ref o, .ref (ad 18)] (wC ad c G s) r (wC ad c G s') := Ci.of (by decide) (Nat.le_of_ble_eq_true rfl) (fun X K RT => wCY_telling hG ho K (r := (r, s')) RT s  h)
set_option maxHeartbeats 4000000 in
set_option maxRecDepth 100000 in
theorem wCD_run_43 {ad : Nat → Nat} {G : GG} {o : Nat} {x1 : Nat} {X : Cx} {c : Nat → ClassId} (hG : gok G) (ho : isD o = true) (h1 : isH x1 = true) (K : Ok X cX0_run RX0 5 4 c) {r : Int32 × SS} (RT : ∀ pc ls, decode cX0_run pc = .ok (.ireturn, 1) → V X 5 0 0 pc ls [.int r.1] (wC ad c G r.2)) {k13 : Int32 → Int32 → SS → Option (Int32 × SS)} (hk13 : ∀ (x3 : Int32) (x4 : Int32) (s : SS), k13 x3 x4 s = some r → V X 5 0 0 13 [(0, .ref (ad o)), (3, .int x3), (4, .int x4)] [] (wC ad c G s)) : ∀ (x3 : Int32) (x4 : Int32) (s : SS), CD_run_43 G o x1 k13 x3 x4 s = some r → V X 5 0 0 43 [(0, .ref (ad o)), (3, .int x3), (4, .int x4)] [] (wC ad c G s) := by
  intro x3 x4 s h
  rw [CD_run_43] at h
  refine v_aload_n K 0 rfl dX0_run_43 ?_
  refine v_iload K 2 rfl dX0_run_44 ?_
  obtain ⟨s13, e12, h⟩ := bnd0_e h
  refine vC_callv K [.int x4] [] cw_RX0_66 (cCD_callWaiting hG ho e12) (rcD ho) rfl rfl (Nat.le_of_ble_eq_true rfl) (by decide) dX0_run_46 ?_
  refine v_aload_n K 0 rfl dX0_run_49 ?_
  refine v_iload K 2 rfl dX0_run_50 ?_
  obtain ⟨s15, e14, h⟩ := bnd0_e h
  refine vC_callv K [.int x4] [] cw_RX0_69 (cCD_letCome hG ho e14) (rcD ho) rfl rfl (Nat.le_of_ble_eq_true rfl) (by decide) dX0_run_52 ?_
  refine v_iload K 2 rfl dX0_run_55 ?_
  refine v_iconst (v := (1 : Int32)) K dX0_run_57 (by decide) ?_
  refine v_iadd K dX0_run_58 ?_
  refine v_aload_n K 0 rfl dX0_run_59 ?_
  refine v_iload K 2 rfl dX0_run_60 ?_
  obtain ⟨r18, s17, e16, h⟩ := bnd_e h
  refine vC_calli K [.int x4] [.int (x4 + (1 : Int32))] cw_RX0_72 (cCD_nextMinute hG ho e16) (rcD ho) rfl rfl (Nat.le_of_ble_eq_true rfl) (by decide) dX0_run_62 ?_
  refine maxC_RX0_76 K [] (Nat.le_of_ble_eq_true rfl) (by decide) dX0_run_65 ?_
  refine v_istore K [(0, .ref (ad o)), (3, .int x3), (4, .int (if (x4 + (1 : Int32)) < r18 then r18 else (x4 + (1 : Int32))))] [1, 2, 0] dX0_run_68 (by decide) rfl ?_
  refine v_goto K 13 dX0_run_70 (by decide) ?_
  exact hk13 _ _ _ h
set_option maxHeartbeats 4000000 in
set_option maxRecDepth 100000 in
theorem wCD_run_13 {ad : Nat → Nat} {G : GG} {o : Nat} {x1 : Nat} {X : Cx} {c : Nat → ClassId} (hG : gok G) (ho : isD o = true) (h1 : isH x1 = true) (K : Ok X cX0_run RX0 5 4 c) {r : Int32 × SS} (RT : ∀ pc ls, decode cX0_run pc = .ok (.ireturn, 1) → V X 5 0 0 pc ls [.int r.1] (wC ad c G r.2)) : ∀ (n : Nat) (x3 : Int32) (x4 : Int32) (s : SS), CD_run_13 G o x1 n x3 x4 s = some r → V X 5 0 0 13 [(0, .ref (ad o)), (3, .int x3), (4, .int x4)] [] (wC ad c G s) := by
  intro n
  induction n with
  | zero => intro _ _ _ h; cases h
  | succ n ih =>
    intro x3 x4 s h
    rw [CD_run_13] at h
    refine v_iload K 2 rfl dX0_run_13 ?_
    refine v_iload_n K 1 rfl dX0_run_15 ?_
    refine v_icmp_gt K 73 dX0_run_16 (by decide) (fun q3 => ?_) (fun q3 => ?_)
    · replace h := if_e h q3
      refine v_aload_n K 0 rfl dX0_run_73 ?_
      obtain ⟨r6, s5, e4, h⟩ := bnd_e h
      refine vC_calli K [] [] cw_RX0_82 (cCD_coinInAll hG ho e4) (rcD ho) rfl rfl (Nat.le_of_ble_eq_true rfl) (by decide) dX0_run_74 ?_
      obtain rfl := Option.some.inj h
      exact RT _ _ dX0_run_77
    · replace h := if_n h q3
      refine v_aload_n K 0 rfl dX0_run_19 ?_
      refine v_iload K 2 rfl dX0_run_20 ?_
      obtain ⟨s8, e7, h⟩ := bnd0_e h
      refine vC_callv K [.int x4] [] cw_RX0_54 (cCD_goWhoseTimeIsOver hG ho e7) (rcD ho) rfl rfl (Nat.le_of_ble_eq_true rfl) (by decide) dX0_run_22 ?_
      refine v_iload K 2 rfl dX0_run_25 ?_
      refine v_aload_n K 0 rfl dX0_run_27 ?_
      refine gC_RX0_33 ho (v := (s8 o 9)) K dX0_run_28 rfl ?_
      refine gC_RX0_57 (hou_ok (s8 o 9)) (v := (s8 (hou (s8 o 9)) 5)) K dX0_run_31 rfl ?_
      refine v_icmp_ne K 43 dX0_run_34 (by decide) (fun q9 => ?_) (fun q9 => ?_)
      · replace h := if_n h q9
        exact wCD_run_43 hG ho h1 K RT (fun a0 a1 a2 e => ih a0 a1 a2 e) _ _ _ h
      · replace h := if_e h q9
        refine v_aload_n K 0 rfl dX0_run_37 ?_
        refine v_iload K 2 rfl dX0_run_38 ?_
        obtain ⟨s11, e10, h⟩ := bnd0_e h
        refine vC_callv K [.int x4] [] cw_RX0_63 (cCD_driveIn hG ho e10) (rcD ho) rfl rfl (Nat.le_of_ble_eq_true rfl) (by decide) dX0_run_40 ?_
        exact wCD_run_43 hG ho h1 K RT (fun a0 a1 a2 e => ih a0 a1 a2 e) _ _ _ h
set_option maxHeartbeats 4000000 in
set_option maxRecDepth 100000 in
theorem wCD_run {ad : Nat → Nat} {G : GG} {o : Nat} {x1 : Nat} {X : Cx} {c : Nat → ClassId} (hG : gok G) (ho : isD o = true) (h1 : isH x1 = true) (K : Ok X cX0_run RX0 5 4 c) {r : Int32 × SS} (RT : ∀ pc ls, decode cX0_run pc = .ok (.ireturn, 1) → V X 5 0 0 pc ls [.int r.1] (wC ad c G r.2)) (s : SS) (x2 : Int32) (x3 : Int32) (h : CD_run G o x1 s x2 x3 = some r) : V X 5 0 0 0 [(0, .ref (ad o)), (1, .ref (ad x1)), (2, .int x2), (3, .int x3)] [] (wC ad c G s) := by
  rw [CD_run] at h
  refine v_aload_n K 0 rfl dX0_run_0 ?_
  refine v_aload_n K 1 rfl dX0_run_1 ?_
  refine pC_RX0_33 ho h1 K dX0_run_2 ?_
  refine v_aload_n K 0 rfl dX0_run_5 ?_
  refine v_iload_n K 2 rfl dX0_run_6 ?_
  obtain ⟨s2, e1, h⟩ := bnd0_e h
  refine vC_callv K [.int x2] [] cw_RX0_50 (cCD_begin hG ho e1) (rcD ho) rfl rfl (Nat.le_of_ble_eq_true rfl) (by decide) dX0_run_7 ?_
  refine v_iconst (v := (0 : Int32)) K dX0_run_10 (by decide) ?_
  refine v_istore K [(0, .ref (ad o)), (3, .int x3), (4, .int (0 : Int32))] [1, 4, 0] dX0_run_11 (by decide) rfl ?_
  exact wCD_run_13 hG ho h1 K RT fuel _ _ _ h
theorem cCD_run {l : Launch} {D : va_G} {c : Nat → ClassId} {s s' : SS} {ad : Nat → Nat} {G : GG} {o : Nat} {x1 : Nat} (hG : gok G) (ho : isD o = true) (h1 : isH x1 = true)  {x2 : Int32} {x3 : Int32} {r : Int32} (h : CD_run G o x1 s x2 x3 = some (r, s')) : Ci l D c yX0_run cX0_run 5 (some .int) 4 [.ref (ad o), .ref (ad x1), .int x2, .int x3] (wC ad c G s) r (wC ad c G s') := Ci.of (by decide) (Nat.le_of_ble_eq_true rfl) (fun X K RT => wCD_run hG ho h1 K (r := (r, s')) RT s x2 x3 h)
theorem cp_RX4_17 : cwPok RX4 17 yX7_telling cX7_telling 2 (some .int) 1 := ⟨⟨by decide, by decide +kernel⟩, by decide, all5 (BG_ix 734 (by decide +kernel) rfl) (BG_ix 1210 (by decide +kernel) rfl) (BG_ix 452 (by decide +kernel) rfl) (BG_ix 735 (by decide +kernel) rfl) (BG_ix 70 (by decide +kernel) rfl), (BG_ix 736 (by decide +kernel) rfl)⟩
theorem vP_RX4_17 {X : Cx} {cc : ByteArray} {nL d pc : Nat} {c : Nat → ClassId} {ls : List (Nat × Value)} {ad : Nat → Nat} {G : GG} {s s' : SS} {a : Nat} {r : Int32} (hG : gok G) (ha : gm G a = true) (K : Ok X cc RX4 nL d c) (rest : List Value) (h : CY_telling G a s = some (r, s')) (hrm : (rest.map fun v => v.category).sum ≤ 8) (hdc : 3 + 1 ≤ d) (hd : decode cc pc = .ok (.invokespecial 17, 3)) (k : V X nL 0 0 (pc + 3) ls (.int r :: rest) (wC ad c G s')) : V X nL 0 0 pc ls (.ref (ad 18) :: .ref a :: rest) (wC ad c G s) := by
  obtain ⟨q, hq⟩ := gpos (ad := ad) (c := c) (s := s) ha
  rcases gk3 G a with e | e | e <;> rw [e] at hq
  · exact v_callP K [.ref (ad 18)] rest cp_RX4_17 (cCY_telling hG ha h) q hq rfl (wC_same ad c G s s') rfl rfl hrm (by omega) z0 hd k
  · exact v_callP K [.ref (ad 18)] rest cp_RX4_17 (cCY_telling hG ha h) q hq rfl (wC_same ad c G s s') rfl rfl hrm (by omega) z0 hd k
  · exact v_callP K [.ref (ad 18)] rest cp_RX4_17 (cCY_telling hG ha h) q hq rfl (wC_same ad c G s s') rfl rfl hrm (by omega) z0 hd k
theorem cu_RX4_21_2 : cwOok RX4 21 RX4 RX2 (⟨"CafeTables$Looked", "guestBody", "(LCafeTables$Trace;)I"⟩ : MethodName) yX2_guestBody cX2_guestBody 2 (some .int) 1 := ⟨⟨by decide, by decide, by decide +kernel⟩, by decide, all6 (BG_ix 739 (by decide +kernel) rfl) (BG_ix 740 (by decide +kernel) rfl) (BG_ix 743 (by decide +kernel) rfl) (BG_ix 742 (by decide +kernel) rfl) (BG_ix 743 (by decide +kernel) rfl) (BG_ix 69 (by decide +kernel) rfl), (BG_ix 744 (by decide +kernel) rfl), cX2_guestBody, 2, (some .int), (BG_ix 744 (by decide +kernel) rfl)⟩
theorem vU_RX4_21 {X : Cx} {cc : ByteArray} {nL d pc : Nat} {c : Nat → ClassId} {ls : List (Nat × Value)} {ad : Nat → Nat} {G : GG} {s s' : SS} {a : Nat} {r : Int32} (hG : gok G) (ha : gm G a = true) (h2 : gk G a = 2) (K : Ok X cc RX4 nL d c) (rest : List Value) (h : CG_guestBody G a s = some (r, s')) (hrm : (rest.map fun v => v.category).sum ≤ 8) (hdc : 1 + 1 ≤ d) (hd : decode cc pc = .ok (.invokevirtual 21, 3)) (k : V X nL 0 0 (pc + 3) ls (.int r :: rest) (wC ad c G s')) : V X nL 0 0 pc ls (.ref (ad 18) :: .ref a :: rest) (wC ad c G s) := by
  obtain ⟨q, hq⟩ := gpos (ad := ad) (c := c) (s := s) ha
  rw [show gcls (gk G a) = 4 by rw [h2]; rfl] at hq
  exact v_callO K [.ref (ad 18)] rest cu_RX4_21_2 (cCG_guestBody hG ha h) q hq rfl (wC_same ad c G s s') rfl rfl hrm (by omega) z0 hd k
set_option maxHeartbeats 4000000 in
set_option maxRecDepth 100000 in
theorem wCL_telling {ad : Nat → Nat} {G : GG} {o : Nat} {X : Cx} {c : Nat → ClassId} (hG : gok G) (ho : gm G o = true) (K : Ok X cX4_telling RX4 3 4 c) {r : Int32 × SS} (RT : ∀ pc ls, decode cX4_telling pc = .ok (.ireturn, 1) → V X 3 0 0 pc ls [.int r.1] (wC ad c G r.2)) (s : SS) (h : CL_telling G o s = some r) : V X 3 0 0 0 [(0, .ref o), (1, .ref (ad 18))] [] (wC ad c G s) := by
  rw [CL_telling] at h
  refine v_aload_n K 1 rfl dX4_telling_0 ?_
  refine v_iconst (v := (3 : Int32)) K dX4_telling_1 (by decide) ?_
  obtain ⟨s2, e1, h⟩ := bnd0_e h
  refine vC_callv K [.int (3 : Int32)] [] cw_RX4_11 (cCQ_mark hG e1) rcQ rfl rfl (Nat.le_of_ble_eq_true rfl) (by decide) dX4_telling_2 ?_
  refine v_aload_n K 0 rfl dX4_telling_5 ?_
  refine v_aload_n K 1 rfl dX4_telling_6 ?_
  obtain ⟨r5, s4, e3, h⟩ := bnd_e h
  refine vP_RX4_17 hG ho K [] e3 (Nat.le_of_ble_eq_true rfl) (by decide) dX4_telling_7 ?_
  refine v_istore_n K [(0, .ref o), (1, .ref (ad 18)), (2, .int r5)] [1, 2, 0] dX4_telling_10 rfl (by decide) rfl ?_
  refine v_iload_n K 2 rfl dX4_telling_11 ?_
  refine v_aload_n K 0 rfl dX4_telling_12 ?_
  refine v_aload_n K 1 rfl dX4_telling_13 ?_
  obtain ⟨b8, h⟩ := ob_e h
  obtain ⟨r9, s7, e6, h⟩ := bnd_e h
  refine vU_RX4_21 hG ho b8 K [.int r5] e6 (Nat.le_of_ble_eq_true rfl) (by decide) dX4_telling_14 ?_
  refine v_iadd K dX4_telling_17 ?_
  obtain rfl := Option.some.inj h
  exact RT _ _ dX4_telling_18
theorem cCL_telling {l : Launch} {D : va_G} {c : Nat → ClassId} {s s' : SS} {ad : Nat → Nat} {G : GG} {o : Nat} (hG : gok G) (ho : gm G o = true)  {r : Int32} (h : CL_telling G o s = some (r, s')) : Ci l D c yX4_telling cX4_telling 3 (some .int) 4 [.ref o, .ref (ad 18)] (wC ad c G s) r (wC ad c G s') := Ci.of (by decide) (Nat.le_of_ble_eq_true rfl) (fun X K RT => wCL_telling hG ho K (r := (r, s')) RT s  h)
set_option maxHeartbeats 4000000 in
set_option maxRecDepth 100000 in
theorem wCT_bestRule_99 {ad : Nat → Nat} {G : GG} {X : Cx} {c : Nat → ClassId} (hG : gok G) (K : Ok X cX9_bestRule RX9 6 5 c) {r : Int32 × SS} (RT : ∀ pc ls, decode cX9_bestRule pc = .ok (.ireturn, 1) → V X 6 0 0 pc ls [.int r.1] (wC ad c G r.2)) : ∀ (y0 : Int32) (s : SS), CT_bestRule_99 G y0 s = some r → V X 6 0 0 99 [] [.int y0] (wC ad c G s) := by
  intro y0 s h
  rw [CT_bestRule_99] at h
  obtain rfl := Option.some.inj h
  exact RT _ _ dX9_bestRule_99
set_option maxHeartbeats 4000000 in
set_option maxRecDepth 100000 in
theorem wCT_bestRule_84 {ad : Nat → Nat} {G : GG} {X : Cx} {c : Nat → ClassId} (hG : gok G) (K : Ok X cX9_bestRule RX9 6 5 c) {r : Int32 × SS} (RT : ∀ pc ls, decode cX9_bestRule pc = .ok (.ireturn, 1) → V X 6 0 0 pc ls [.int r.1] (wC ad c G r.2)) {k40 : Int32 → Int32 → Int32 → Int32 → SS → Option (Int32 × SS)} (hk40 : ∀ (x1 : Int32) (x2 : Int32) (x3 : Int32) (x4 : Int32) (s : SS), k40 x1 x2 x3 x4 s = some r → V X 6 0 0 40 [(0, .ref (ad 0)), (1, .int x1), (2, .int x2), (3, .int x3), (4, .int x4)] [] (wC ad c G s)) : ∀ (x1 : Int32) (x2 : Int32) (x3 : Int32) (x4 : Int32) (s : SS), CT_bestRule_84 G k40 x1 x2 x3 x4 s = some r → V X 6 0 0 84 [(0, .ref (ad 0)), (1, .int x1), (2, .int x2), (3, .int x3), (4, .int x4)] [] (wC ad c G s) := by
  intro x1 x2 x3 x4 s h
  rw [CT_bestRule_84] at h
  refine v_iinc (v := (x4 + (1 : Int32))) K 4 [(0, .ref (ad 0)), (1, .int x1), (2, .int x2), (3, .int x3), (4, .int (x4 + (1 : Int32)))] [1, 2, 3, 4, 0] dX9_bestRule_84 rfl rfl (by decide) rfl ?_
  refine v_goto K 40 dX9_bestRule_87 (by decide) ?_
  exact hk40 _ _ _ _ _ h
set_option maxHeartbeats 4000000 in
set_option maxRecDepth 100000 in
theorem wCT_bestRule_40 {ad : Nat → Nat} {G : GG} {X : Cx} {c : Nat → ClassId} (hG : gok G) (K : Ok X cX9_bestRule RX9 6 5 c) {r : Int32 × SS} (RT : ∀ pc ls, decode cX9_bestRule pc = .ok (.ireturn, 1) → V X 6 0 0 pc ls [.int r.1] (wC ad c G r.2)) : ∀ (n : Nat) (x1 : Int32) (x2 : Int32) (x3 : Int32) (x4 : Int32) (s : SS), CT_bestRule_40 G n x1 x2 x3 x4 s = some r → V X 6 0 0 40 [(0, .ref (ad 0)), (1, .int x1), (2, .int x2), (3, .int x3), (4, .int x4)] [] (wC ad c G s) := by
  intro n
  induction n with
  | zero => intro _ _ _ _ _ h; cases h
  | succ n ih =>
    intro x1 x2 x3 x4 s h
    rw [CT_bestRule_40] at h
    refine v_iload K 4 rfl dX9_bestRule_40 ?_
    refine v_iconst (v := (2 : Int32)) K dX9_bestRule_42 (by decide) ?_
    refine v_icmp_gt K 90 dX9_bestRule_43 (by decide) (fun q9 => ?_) (fun q9 => ?_)
    · replace h := if_e h q9
      refine v_iload_n K 1 rfl dX9_bestRule_90 ?_
      refine v_if_ne K 98 dX9_bestRule_91 (by decide) (fun q10 => ?_) (fun q10 => ?_)
      · replace h := if_n h q10
        refine v_iload_n K 3 rfl dX9_bestRule_98 ?_
        refine v_drop [] [] rfl ?_
        exact wCT_bestRule_99 hG K RT _ _ h
      · replace h := if_e h q10
        refine v_iload_n K 2 rfl dX9_bestRule_94 ?_
        refine v_goto K 99 dX9_bestRule_95 (by decide) ?_
        refine v_drop [] [] rfl ?_
        exact wCT_bestRule_99 hG K RT _ _ h
    · replace h := if_n h q9
      refine v_aload_n K 0 rfl dX9_bestRule_46 ?_
      refine gC_RX9_18 K dX9_bestRule_47 ?_
      refine v_iload K 4 rfl dX9_bestRule_50 ?_
      refine pC_RX9_121 rfl K dX9_bestRule_52 ?_
      refine v_aload_n K 0 rfl dX9_bestRule_55 ?_
      refine gC_RX9_51 K dX9_bestRule_56 ?_
      refine v_aload_n K 0 rfl dX9_bestRule_59 ?_
      refine gC_RX9_18 K dX9_bestRule_60 ?_
      refine v_iconst (v := (-1 : Int32)) K dX9_bestRule_63 (by decide) ?_
      refine v_sipush (v := (399 : Int32)) K dX9_bestRule_64 (by decide) ?_
      obtain ⟨r13, s12, e11, h⟩ := bnd_e h
      refine vC_calli K [.ref (ad 4), .int (-1 : Int32), .int (399 : Int32)] [] cw_RX9_199 (cCD_run hG rfl rfl e11) (rcD rfl) rfl rfl (Nat.le_of_ble_eq_true rfl) (by decide) dX9_bestRule_67 ?_
      refine v_istore K [(0, .ref (ad 0)), (1, .int x1), (2, .int x2), (3, .int x3), (4, .int x4), (5, .int r13)] [1, 2, 3, 4, 5, 0] dX9_bestRule_70 (by decide) rfl ?_
      refine v_iload K 5 rfl dX9_bestRule_72 ?_
      refine v_iload_n K 3 rfl dX9_bestRule_74 ?_
      refine v_icmp_le K 84 dX9_bestRule_75 (by decide) (fun q14 => ?_) (fun q14 => ?_)
      · replace h := if_e h q14
        refine v_drop [(0, .ref (ad 0)), (1, .int x1), (2, .int x2), (3, .int x3), (4, .int x4)] [0, 1, 2, 3, 4] rfl ?_
        exact wCT_bestRule_84 hG K RT (fun a0 a1 a2 a3 a4 e => ih a0 a1 a2 a3 a4 e) _ _ _ _ _ h
      · replace h := if_n h q14
        refine v_iload K 5 rfl dX9_bestRule_78 ?_
        refine v_istore_n K [(0, .ref (ad 0)), (1, .int x1), (3, .int r13), (4, .int x4)] [1, 2, 0, 4] dX9_bestRule_80 rfl (by decide) rfl ?_
        refine v_iload K 3 rfl dX9_bestRule_81 ?_
        refine v_istore_n K [(0, .ref (ad 0)), (1, .int x1), (2, .int x4), (3, .int r13), (4, .int x4)] [1, 2, 0, 3, 4] dX9_bestRule_83 rfl (by decide) rfl ?_
        exact wCT_bestRule_84 hG K RT (fun a0 a1 a2 a3 a4 e => ih a0 a1 a2 a3 a4 e) _ _ _ _ _ h
set_option maxHeartbeats 4000000 in
set_option maxRecDepth 100000 in
theorem wCT_bestRule_9 {ad : Nat → Nat} {G : GG} {X : Cx} {c : Nat → ClassId} (hG : gok G) (K : Ok X cX9_bestRule RX9 6 5 c) {r : Int32 × SS} (RT : ∀ pc ls, decode cX9_bestRule pc = .ok (.ireturn, 1) → V X 6 0 0 pc ls [.int r.1] (wC ad c G r.2)) : ∀ (s : SS), CT_bestRule_9 G s = some r → V X 6 0 0 9 [] [] (wC ad c G s) := by
  intro s h
  rw [CT_bestRule_9] at h
  refine v_bipush (v := (-2 : Int32)) K dX9_bestRule_9 (by decide) ?_
  obtain rfl := Option.some.inj h
  exact RT _ _ dX9_bestRule_11
set_option maxHeartbeats 4000000 in
set_option maxRecDepth 100000 in
theorem wCT_bestRule {ad : Nat → Nat} {G : GG} {X : Cx} {c : Nat → ClassId} (hG : gok G) (K : Ok X cX9_bestRule RX9 6 5 c) {r : Int32 × SS} (RT : ∀ pc ls, decode cX9_bestRule pc = .ok (.ireturn, 1) → V X 6 0 0 pc ls [.int r.1] (wC ad c G r.2)) (s : SS) (x1 : Int32) (h : CT_bestRule G s x1 = some r) : V X 6 0 0 0 [(0, .ref (ad 0)), (1, .int x1)] [] (wC ad c G s) := by
  rw [CT_bestRule] at h
  refine v_iload_n K 1 rfl dX9_bestRule_0 ?_
  refine v_if_lt K 9 dX9_bestRule_1 (by decide) (fun q1 => ?_) (fun q1 => ?_)
  · replace h := if_e h q1
    refine v_drop [] [] rfl ?_
    exact wCT_bestRule_9 hG K RT _ h
  · replace h := if_n h q1
    refine v_iload_n K 1 rfl dX9_bestRule_4 ?_
    refine v_iconst (v := (1 : Int32)) K dX9_bestRule_5 (by decide) ?_
    refine v_icmp_le K 12 dX9_bestRule_6 (by decide) (fun q2 => ?_) (fun q2 => ?_)
    · replace h := if_e h q2
      refine v_aload_n K 0 rfl dX9_bestRule_12 ?_
      obtain ⟨r5, s4, e3, h⟩ := bnd_e h
      refine vC_calli K [] [] cw_RX9_117 (cCT_isNoCafe hG e3) rcT rfl rfl (Nat.le_of_ble_eq_true rfl) (by decide) dX9_bestRule_13 ?_
      refine v_if_eq K 22 dX9_bestRule_16 (by decide) (fun q6 => ?_) (fun q6 => ?_)
      · replace h := if_e h q6
        refine v_aload_n K 0 rfl dX9_bestRule_22 ?_
        refine gC_RX9_18 K dX9_bestRule_23 ?_
        refine v_aload_n K 0 rfl dX9_bestRule_26 ?_
        refine gC_RX9_12 K dX9_bestRule_27 ?_
        obtain ⟨s8, e7, h⟩ := bnd0_e h
        refine vC_callv K [.ref (ad 1)] [] cw_RX9_232 (cCH_copyOf hG rfl rfl e7) (rcH rfl) rfl rfl (Nat.le_of_ble_eq_true rfl) (by decide) dX9_bestRule_30 ?_
        refine v_iconst (v := (0 : Int32)) K dX9_bestRule_33 (by decide) ?_
        refine v_istore_n K [(0, .ref (ad 0)), (1, .int x1), (2, .int (0 : Int32))] [1, 2, 0] dX9_bestRule_34 rfl (by decide) rfl ?_
        refine v_iconst (v := (-1 : Int32)) K dX9_bestRule_35 (by decide) ?_
        refine v_istore_n K [(0, .ref (ad 0)), (1, .int x1), (2, .int (0 : Int32)), (3, .int (-1 : Int32))] [1, 2, 3, 0] dX9_bestRule_36 rfl (by decide) rfl ?_
        refine v_iconst (v := (0 : Int32)) K dX9_bestRule_37 (by decide) ?_
        refine v_istore K [(0, .ref (ad 0)), (1, .int x1), (2, .int (0 : Int32)), (3, .int (-1 : Int32)), (4, .int (0 : Int32))] [1, 2, 3, 4, 0] dX9_bestRule_38 (by decide) rfl ?_
        exact wCT_bestRule_40 hG K RT fuel _ _ _ _ _ h
      · replace h := if_n h q6
        refine v_bipush (v := (-3 : Int32)) K dX9_bestRule_19 (by decide) ?_
        obtain rfl := Option.some.inj h
        exact RT _ _ dX9_bestRule_21
    · replace h := if_n h q2
      refine v_drop [] [] rfl ?_
      exact wCT_bestRule_9 hG K RT _ h
theorem cCT_bestRule {l : Launch} {D : va_G} {c : Nat → ClassId} {s s' : SS} {ad : Nat → Nat} {G : GG} (hG : gok G)  {x1 : Int32} {r : Int32} (h : CT_bestRule G s x1 = some (r, s')) : Ci l D c yX9_bestRule cX9_bestRule 6 (some .int) 5 [.ref (ad 0), .int x1] (wC ad c G s) r (wC ad c G s') := Ci.of (by decide) (Nat.le_of_ble_eq_true rfl) (fun X K RT => wCT_bestRule hG K (r := (r, s')) RT s x1 h)
set_option maxHeartbeats 4000000 in
set_option maxRecDepth 100000 in
theorem wCT_findMix_113 {ad : Nat → Nat} {G : GG} {X : Cx} {c : Nat → ClassId} (hG : gok G) (K : Ok X cX9_findMix RX9 5 5 c) {r : SS} (RT : ∀ pc ls, decode cX9_findMix pc = .ok (.return_, 1) → V X 5 0 0 pc ls [] (wC ad c G r)) {k29 : Int32 → Int32 → SS → Option SS} {k37 : Int32 → Int32 → Int32 → SS → Option SS} {k48 : Int32 → Int32 → Int32 → Int32 → SS → Option SS} (hk29 : ∀ (x1 : Int32) (x2 : Int32) (s : SS), k29 x1 x2 s = some r → V X 5 0 0 29 [(0, .ref (ad 0)), (1, .int x1), (2, .int x2)] [] (wC ad c G s)) (hk37 : ∀ (x1 : Int32) (x2 : Int32) (x3 : Int32) (s : SS), k37 x1 x2 x3 s = some r → V X 5 0 0 37 [(0, .ref (ad 0)), (1, .int x1), (2, .int x2), (3, .int x3)] [] (wC ad c G s)) (hk48 : ∀ (x1 : Int32) (x2 : Int32) (x3 : Int32) (x4 : Int32) (s : SS), k48 x1 x2 x3 x4 s = some r → V X 5 0 0 48 [(0, .ref (ad 0)), (1, .int x1), (2, .int x2), (3, .int x3), (4, .int x4)] [] (wC ad c G s)) : ∀ (x1 : Int32) (x2 : Int32) (x3 : Int32) (x4 : Int32) (s : SS), CT_findMix_113 G k29 k37 k48 x1 x2 x3 x4 s = some r → V X 5 0 0 113 [(0, .ref (ad 0)), (1, .int x1), (2, .int x2), (3, .int x3), (4, .int x4)] [] (wC ad c G s) := by
  intro x1 x2 x3 x4 s h
  rw [CT_findMix_113] at h
  refine v_iinc (v := (x4 + (1 : Int32))) K 4 [(0, .ref (ad 0)), (1, .int x1), (2, .int x2), (3, .int x3), (4, .int (x4 + (1 : Int32)))] [1, 2, 3, 4, 0] dX9_findMix_113 rfl rfl (by decide) rfl ?_
  refine v_goto K 48 dX9_findMix_116 (by decide) ?_
  exact hk48 _ _ _ _ _ h
set_option maxHeartbeats 4000000 in
set_option maxRecDepth 100000 in
theorem wCT_findMix_48 {ad : Nat → Nat} {G : GG} {X : Cx} {c : Nat → ClassId} (hG : gok G) (K : Ok X cX9_findMix RX9 5 5 c) {r : SS} (RT : ∀ pc ls, decode cX9_findMix pc = .ok (.return_, 1) → V X 5 0 0 pc ls [] (wC ad c G r)) {k29 : Int32 → Int32 → SS → Option SS} {k37 : Int32 → Int32 → Int32 → SS → Option SS} (hk29 : ∀ (x1 : Int32) (x2 : Int32) (s : SS), k29 x1 x2 s = some r → V X 5 0 0 29 [(0, .ref (ad 0)), (1, .int x1), (2, .int x2)] [] (wC ad c G s)) (hk37 : ∀ (x1 : Int32) (x2 : Int32) (x3 : Int32) (s : SS), k37 x1 x2 x3 s = some r → V X 5 0 0 37 [(0, .ref (ad 0)), (1, .int x1), (2, .int x2), (3, .int x3)] [] (wC ad c G s)) : ∀ (n : Nat) (x1 : Int32) (x2 : Int32) (x3 : Int32) (x4 : Int32) (s : SS), CT_findMix_48 G k29 k37 n x1 x2 x3 x4 s = some r → V X 5 0 0 48 [(0, .ref (ad 0)), (1, .int x1), (2, .int x2), (3, .int x3), (4, .int x4)] [] (wC ad c G s) := by
  intro n
  induction n with
  | zero => intro _ _ _ _ _ h; cases h
  | succ n ih =>
    intro x1 x2 x3 x4 s h
    rw [CT_findMix_48] at h
    refine v_iload K 4 rfl dX9_findMix_48 ?_
    refine v_bipush (v := (6 : Int32)) K dX9_findMix_50 (by decide) ?_
    refine v_iload_n K 2 rfl dX9_findMix_52 ?_
    refine v_isub K dX9_findMix_53 ?_
    refine v_iload_n K 3 rfl dX9_findMix_54 ?_
    refine v_isub K dX9_findMix_55 ?_
    refine v_icmp_gt K 119 dX9_findMix_56 (by decide) (fun q6 => ?_) (fun q6 => ?_)
    · replace h := if_e h q6
      refine v_iinc (v := (x3 + (1 : Int32))) K 3 [(0, .ref (ad 0)), (1, .int x1), (2, .int x2), (3, .int (x3 + (1 : Int32))), (4, .int x4)] [1, 2, 3, 0, 4] dX9_findMix_119 rfl rfl (by decide) rfl ?_
      refine v_goto K 37 dX9_findMix_122 (by decide) ?_
      refine v_drop [(0, .ref (ad 0)), (1, .int x1), (2, .int x2), (3, .int (x3 + (1 : Int32)))] [0, 1, 2, 3] rfl ?_
      exact hk37 _ _ _ _ h
    · replace h := if_n h q6
      refine v_iconst (v := (2 : Int32)) K dX9_findMix_59 (by decide) ?_
      refine v_iload_n K 2 rfl dX9_findMix_60 ?_
      refine v_imul K dX9_findMix_61 ?_
      refine v_iconst (v := (4 : Int32)) K dX9_findMix_62 (by decide) ?_
      refine v_iload_n K 3 rfl dX9_findMix_63 ?_
      refine v_imul K dX9_findMix_64 ?_
      refine v_iadd K dX9_findMix_65 ?_
      refine v_bipush (v := (6 : Int32)) K dX9_findMix_66 (by decide) ?_
      refine v_iload K 4 rfl dX9_findMix_68 ?_
      refine v_imul K dX9_findMix_70 ?_
      refine v_iadd K dX9_findMix_71 ?_
      refine v_iload_n K 1 rfl dX9_findMix_72 ?_
      refine v_icmp_le K 79 dX9_findMix_73 (by decide) (fun q7 => ?_) (fun q7 => ?_)
      · replace h := if_e h q7
        refine v_aload_n K 0 rfl dX9_findMix_79 ?_
        refine gC_RX9_18 K dX9_findMix_80 ?_
        refine v_iload_n K 2 rfl dX9_findMix_83 ?_
        refine v_iload_n K 3 rfl dX9_findMix_84 ?_
        refine v_iload K 4 rfl dX9_findMix_85 ?_
        obtain ⟨s9, e8, h⟩ := bnd0_e h
        refine vC_callv K [.int x2, .int x3, .int x4] [] cw_RX9_310 (cCH_mixTables hG rfl e8) (rcH rfl) rfl rfl (Nat.le_of_ble_eq_true rfl) (by decide) dX9_findMix_87 ?_
        refine v_aload_n K 0 rfl dX9_findMix_90 ?_
        refine v_aload_n K 0 rfl dX9_findMix_91 ?_
        refine gC_RX9_51 K dX9_findMix_92 ?_
        refine v_aload_n K 0 rfl dX9_findMix_95 ?_
        refine gC_RX9_18 K dX9_findMix_96 ?_
        refine v_iconst (v := (-1 : Int32)) K dX9_findMix_99 (by decide) ?_
        refine v_sipush (v := (399 : Int32)) K dX9_findMix_100 (by decide) ?_
        obtain ⟨r12, s11, e10, h⟩ := bnd_e h
        refine vC_calli K [.ref (ad 4), .int (-1 : Int32), .int (399 : Int32)] [.ref (ad 0)] cw_RX9_199 (cCD_run hG rfl rfl e10) (rcD rfl) rfl rfl (Nat.le_of_ble_eq_true rfl) (by decide) dX9_findMix_103 ?_
        refine v_iload_n K 2 rfl dX9_findMix_106 ?_
        refine v_iload_n K 3 rfl dX9_findMix_107 ?_
        refine v_iload K 4 rfl dX9_findMix_108 ?_
        obtain ⟨s14, e13, h⟩ := bnd0_e h
        refine vC_callv K [.int r12, .int x2, .int x3, .int x4] [] cw_RX9_314 (cCT_keepBetterMix hG e13) rcT rfl rfl (Nat.le_of_ble_eq_true rfl) (by decide) dX9_findMix_110 ?_
        exact wCT_findMix_113 hG K RT hk29 hk37 (fun a0 a1 a2 a3 a4 e => ih a0 a1 a2 a3 a4 e) _ _ _ _ _ h
      · replace h := if_n h q7
        refine v_goto K 113 dX9_findMix_76 (by decide) ?_
        exact wCT_findMix_113 hG K RT hk29 hk37 (fun a0 a1 a2 a3 a4 e => ih a0 a1 a2 a3 a4 e) _ _ _ _ _ h
set_option maxHeartbeats 4000000 in
set_option maxRecDepth 100000 in
theorem wCT_findMix_37 {ad : Nat → Nat} {G : GG} {X : Cx} {c : Nat → ClassId} (hG : gok G) (K : Ok X cX9_findMix RX9 5 5 c) {r : SS} (RT : ∀ pc ls, decode cX9_findMix pc = .ok (.return_, 1) → V X 5 0 0 pc ls [] (wC ad c G r)) {k29 : Int32 → Int32 → SS → Option SS} (hk29 : ∀ (x1 : Int32) (x2 : Int32) (s : SS), k29 x1 x2 s = some r → V X 5 0 0 29 [(0, .ref (ad 0)), (1, .int x1), (2, .int x2)] [] (wC ad c G s)) : ∀ (n : Nat) (x1 : Int32) (x2 : Int32) (x3 : Int32) (s : SS), CT_findMix_37 G k29 n x1 x2 x3 s = some r → V X 5 0 0 37 [(0, .ref (ad 0)), (1, .int x1), (2, .int x2), (3, .int x3)] [] (wC ad c G s) := by
  intro n
  induction n with
  | zero => intro _ _ _ _ h; cases h
  | succ n ih =>
    intro x1 x2 x3 s h
    rw [CT_findMix_37] at h
    refine v_iload_n K 3 rfl dX9_findMix_37 ?_
    refine v_bipush (v := (6 : Int32)) K dX9_findMix_38 (by decide) ?_
    refine v_iload_n K 2 rfl dX9_findMix_40 ?_
    refine v_isub K dX9_findMix_41 ?_
    refine v_icmp_gt K 125 dX9_findMix_42 (by decide) (fun q5 => ?_) (fun q5 => ?_)
    · replace h := if_e h q5
      refine v_iinc (v := (x2 + (1 : Int32))) K 2 [(0, .ref (ad 0)), (1, .int x1), (2, .int (x2 + (1 : Int32))), (3, .int x3)] [1, 2, 0, 3] dX9_findMix_125 rfl rfl (by decide) rfl ?_
      refine v_goto K 29 dX9_findMix_128 (by decide) ?_
      refine v_drop [(0, .ref (ad 0)), (1, .int x1), (2, .int (x2 + (1 : Int32)))] [0, 1, 2] rfl ?_
      exact hk29 _ _ _ h
    · replace h := if_n h q5
      refine v_iconst (v := (0 : Int32)) K dX9_findMix_45 (by decide) ?_
      refine v_istore K [(0, .ref (ad 0)), (1, .int x1), (2, .int x2), (3, .int x3), (4, .int (0 : Int32))] [1, 2, 3, 4, 0] dX9_findMix_46 (by decide) rfl ?_
      exact wCT_findMix_48 hG K RT hk29 (fun a0 a1 a2 a3 e => ih a0 a1 a2 a3 e) fuel _ _ _ _ _ h
set_option maxHeartbeats 4000000 in
set_option maxRecDepth 100000 in
theorem wCT_findMix_29 {ad : Nat → Nat} {G : GG} {X : Cx} {c : Nat → ClassId} (hG : gok G) (K : Ok X cX9_findMix RX9 5 5 c) {r : SS} (RT : ∀ pc ls, decode cX9_findMix pc = .ok (.return_, 1) → V X 5 0 0 pc ls [] (wC ad c G r)) : ∀ (n : Nat) (x1 : Int32) (x2 : Int32) (s : SS), CT_findMix_29 G n x1 x2 s = some r → V X 5 0 0 29 [(0, .ref (ad 0)), (1, .int x1), (2, .int x2)] [] (wC ad c G s) := by
  intro n
  induction n with
  | zero => intro _ _ _ h; cases h
  | succ n ih =>
    intro x1 x2 s h
    rw [CT_findMix_29] at h
    refine v_iload_n K 2 rfl dX9_findMix_29 ?_
    refine v_bipush (v := (6 : Int32)) K dX9_findMix_30 (by decide) ?_
    refine v_icmp_gt K 131 dX9_findMix_32 (by decide) (fun q4 => ?_) (fun q4 => ?_)
    · replace h := if_e h q4
      obtain rfl := Option.some.inj h
      exact RT _ _ dX9_findMix_131
    · replace h := if_n h q4
      refine v_iconst (v := (0 : Int32)) K dX9_findMix_35 (by decide) ?_
      refine v_istore_n K [(0, .ref (ad 0)), (1, .int x1), (2, .int x2), (3, .int (0 : Int32))] [1, 2, 3, 0] dX9_findMix_36 rfl (by decide) rfl ?_
      exact wCT_findMix_37 hG K RT (fun a0 a1 a2 e => ih a0 a1 a2 e) fuel _ _ _ _ h
set_option maxHeartbeats 4000000 in
set_option maxRecDepth 100000 in
theorem wCT_findMix {ad : Nat → Nat} {G : GG} {X : Cx} {c : Nat → ClassId} (hG : gok G) (K : Ok X cX9_findMix RX9 5 5 c) {r : SS} (RT : ∀ pc ls, decode cX9_findMix pc = .ok (.return_, 1) → V X 5 0 0 pc ls [] (wC ad c G r)) (s : SS) (x1 : Int32) (h : CT_findMix G s x1 = some r) : V X 5 0 0 0 [(0, .ref (ad 0)), (1, .int x1)] [] (wC ad c G s) := by
  rw [CT_findMix] at h
  refine v_aload_n K 0 rfl dX9_findMix_0 ?_
  refine gC_RX9_18 K dX9_findMix_1 ?_
  refine v_aload_n K 0 rfl dX9_findMix_4 ?_
  refine gC_RX9_12 K dX9_findMix_5 ?_
  obtain ⟨s2, e1, h⟩ := bnd0_e h
  refine vC_callv K [.ref (ad 1)] [] cw_RX9_232 (cCH_copyOf hG rfl rfl e1) (rcH rfl) rfl rfl (Nat.le_of_ble_eq_true rfl) (by decide) dX9_findMix_8 ?_
  refine v_aload_n K 0 rfl dX9_findMix_11 ?_
  refine gC_RX9_18 K dX9_findMix_12 ?_
  refine v_bipush (v := (-9 : Int32)) K dX9_findMix_15 (by decide) ?_
  refine pC_RX9_130 rfl K dX9_findMix_17 ?_
  refine v_aload_n K 0 rfl dX9_findMix_20 ?_
  refine gC_RX9_65 K dX9_findMix_21 ?_
  refine v_iconst (v := (0 : Int32)) K dX9_findMix_24 (by decide) ?_
  refine v_iconst (v := (-1 : Int32)) K dX9_findMix_25 (by decide) ?_
  obtain ⟨b3, h⟩ := ob_e h
  refine sC K rfl b3 dX9_findMix_26 ?_
  refine v_iconst (v := (0 : Int32)) K dX9_findMix_27 (by decide) ?_
  refine v_istore_n K [(0, .ref (ad 0)), (1, .int x1), (2, .int (0 : Int32))] [1, 2, 0] dX9_findMix_28 rfl (by decide) rfl ?_
  exact wCT_findMix_29 hG K RT fuel _ _ _ h
theorem cCT_findMix {l : Launch} {D : va_G} {c : Nat → ClassId} {s s' : SS} {ad : Nat → Nat} {G : GG} (hG : gok G)  {x1 : Int32} (h : CT_findMix G s x1 = some s') : Cv l D c yX9_findMix cX9_findMix 5 none 5 [.ref (ad 0), .int x1] (wC ad c G s) (wC ad c G s') := Cv.of (by decide) (Nat.le_of_ble_eq_true rfl) (fun X K RT => wCT_findMix hG K RT s x1 h)
set_option maxHeartbeats 4000000 in
set_option maxRecDepth 100000 in
theorem wCT_reckonCoins_21 {ad : Nat → Nat} {G : GG} {X : Cx} {c : Nat → ClassId} (hG : gok G) (K : Ok X cX9_reckonCoins RX9 2 5 c) {r : SS} (RT : ∀ pc ls, decode cX9_reckonCoins pc = .ok (.return_, 1) → V X 2 0 0 pc ls [] (wC ad c G r)) : ∀ (n : Nat) (x1 : Int32) (s : SS), CT_reckonCoins_21 G n x1 s = some r → V X 2 0 0 21 [(0, .ref (ad 0)), (1, .int x1)] [] (wC ad c G s) := by
  intro n
  induction n with
  | zero => intro _ _ h; cases h
  | succ n ih =>
    intro x1 s h
    rw [CT_reckonCoins_21] at h
    refine v_iload_n K 1 rfl dX9_reckonCoins_21 ?_
    refine v_bipush (v := (30 : Int32)) K dX9_reckonCoins_22 (by decide) ?_
    refine v_icmp_gt K 62 dX9_reckonCoins_24 (by decide) (fun q4 => ?_) (fun q4 => ?_)
    · replace h := if_e h q4
      refine v_aload_n K 0 rfl dX9_reckonCoins_62 ?_
      refine v_iconst (v := (1 : Int32)) K dX9_reckonCoins_63 (by decide) ?_
      obtain ⟨b5, h⟩ := ob_e h
      refine pC_RX9_307 K b5 dX9_reckonCoins_64 ?_
      obtain rfl := Option.some.inj h
      exact RT _ _ dX9_reckonCoins_67
    · replace h := if_n h q4
      refine v_aload_n K 0 rfl dX9_reckonCoins_27 ?_
      refine gC_RX9_18 K dX9_reckonCoins_28 ?_
      refine v_iload_n K 1 rfl dX9_reckonCoins_31 ?_
      refine pC_RX9_124 rfl K dX9_reckonCoins_32 ?_
      refine v_aload_n K 0 rfl dX9_reckonCoins_35 ?_
      refine gC_RX9_61 K dX9_reckonCoins_36 ?_
      refine v_iload_n K 1 rfl dX9_reckonCoins_39 ?_
      refine v_aload_n K 0 rfl dX9_reckonCoins_40 ?_
      refine gC_RX9_51 K dX9_reckonCoins_41 ?_
      refine v_aload_n K 0 rfl dX9_reckonCoins_44 ?_
      refine gC_RX9_18 K dX9_reckonCoins_45 ?_
      refine v_iconst (v := (-1 : Int32)) K dX9_reckonCoins_48 (by decide) ?_
      refine v_sipush (v := (399 : Int32)) K dX9_reckonCoins_49 (by decide) ?_
      obtain ⟨r8, s7, e6, h⟩ := bnd_e h
      refine vC_calli K [.ref (ad 4), .int (-1 : Int32), .int (399 : Int32)] [.int x1, .ref (ad 43)] cw_RX9_199 (cCD_run hG rfl rfl e6) (rcD rfl) rfl rfl (Nat.le_of_ble_eq_true rfl) (by decide) dX9_reckonCoins_52 ?_
      obtain ⟨b9, h⟩ := ob_e h
      refine sC K rfl b9 dX9_reckonCoins_55 ?_
      refine v_iinc (v := (x1 + (1 : Int32))) K 1 [(0, .ref (ad 0)), (1, .int (x1 + (1 : Int32)))] [1, 0] dX9_reckonCoins_56 rfl rfl (by decide) rfl ?_
      refine v_goto K 21 dX9_reckonCoins_59 (by decide) ?_
      exact ih _ _ h
set_option maxHeartbeats 4000000 in
set_option maxRecDepth 100000 in
theorem wCT_reckonCoins {ad : Nat → Nat} {G : GG} {X : Cx} {c : Nat → ClassId} (hG : gok G) (K : Ok X cX9_reckonCoins RX9 2 5 c) {r : SS} (RT : ∀ pc ls, decode cX9_reckonCoins pc = .ok (.return_, 1) → V X 2 0 0 pc ls [] (wC ad c G r)) (s : SS) (h : CT_reckonCoins G s = some r) : V X 2 0 0 0 [(0, .ref (ad 0))] [] (wC ad c G s) := by
  rw [CT_reckonCoins] at h
  refine v_aload_n K 0 rfl dX9_reckonCoins_0 ?_
  refine gC_RX9_307 (v := (s 0 13)) K dX9_reckonCoins_1 rfl ?_
  refine v_if_eq K 8 dX9_reckonCoins_4 (by decide) (fun q1 => ?_) (fun q1 => ?_)
  · replace h := if_e h q1
    refine v_aload_n K 0 rfl dX9_reckonCoins_8 ?_
    refine gC_RX9_18 K dX9_reckonCoins_9 ?_
    refine v_aload_n K 0 rfl dX9_reckonCoins_12 ?_
    refine gC_RX9_12 K dX9_reckonCoins_13 ?_
    obtain ⟨s3, e2, h⟩ := bnd0_e h
    refine vC_callv K [.ref (ad 1)] [] cw_RX9_232 (cCH_copyOf hG rfl rfl e2) (rcH rfl) rfl rfl (Nat.le_of_ble_eq_true rfl) (by decide) dX9_reckonCoins_16 ?_
    refine v_iconst (v := (0 : Int32)) K dX9_reckonCoins_19 (by decide) ?_
    refine v_istore_n K [(0, .ref (ad 0)), (1, .int (0 : Int32))] [1, 0] dX9_reckonCoins_20 rfl (by decide) rfl ?_
    exact wCT_reckonCoins_21 hG K RT fuel _ _ h
  · replace h := if_n h q1
    obtain rfl := Option.some.inj h
    exact RT _ _ dX9_reckonCoins_7
theorem cCT_reckonCoins {l : Launch} {D : va_G} {c : Nat → ClassId} {s s' : SS} {ad : Nat → Nat} {G : GG} (hG : gok G)  (h : CT_reckonCoins G s = some s') : Cv l D c yX9_reckonCoins cX9_reckonCoins 2 none 5 [.ref (ad 0)] (wC ad c G s) (wC ad c G s') := Cv.of (by decide) (Nat.le_of_ble_eq_true rfl) (fun X K RT => wCT_reckonCoins hG K RT s  h)
set_option maxHeartbeats 4000000 in
set_option maxRecDepth 100000 in
theorem wCT_reckonDay_28 {ad : Nat → Nat} {G : GG} {X : Cx} {c : Nat → ClassId} (hG : gok G) (K : Ok X cX9_reckonDay RX9 1 5 c) {r : SS} (RT : ∀ pc ls, decode cX9_reckonDay pc = .ok (.return_, 1) → V X 1 0 0 pc ls [] (wC ad c G r)) : ∀ (s : SS), CT_reckonDay_28 G s = some r → V X 1 0 0 28 [] [] (wC ad c G s) := by
  intro s h
  rw [CT_reckonDay_28] at h
  obtain rfl := Option.some.inj h
  exact RT _ _ dX9_reckonDay_28
set_option maxHeartbeats 4000000 in
set_option maxRecDepth 100000 in
theorem wCT_reckonDay {ad : Nat → Nat} {G : GG} {X : Cx} {c : Nat → ClassId} (hG : gok G) (K : Ok X cX9_reckonDay RX9 1 5 c) {r : SS} (RT : ∀ pc ls, decode cX9_reckonDay pc = .ok (.return_, 1) → V X 1 0 0 pc ls [] (wC ad c G r)) (s : SS) (h : CT_reckonDay G s = some r) : V X 1 0 0 0 [(0, .ref (ad 0))] [] (wC ad c G s) := by
  rw [CT_reckonDay] at h
  refine v_aload_n K 0 rfl dX9_reckonDay_0 ?_
  refine gC_RX9_304 (v := (s 0 11)) K dX9_reckonDay_1 rfl ?_
  refine v_if_ne K 28 dX9_reckonDay_4 (by decide) (fun q1 => ?_) (fun q1 => ?_)
  · replace h := if_n h q1
    refine v_drop [] [] rfl ?_
    exact wCT_reckonDay_28 hG K RT _ h
  · replace h := if_e h q1
    refine v_aload_n K 0 rfl dX9_reckonDay_7 ?_
    refine gC_RX9_47 K dX9_reckonDay_8 ?_
    refine v_aload_n K 0 rfl dX9_reckonDay_11 ?_
    refine gC_RX9_12 K dX9_reckonDay_12 ?_
    refine v_iconst (v := (-1 : Int32)) K dX9_reckonDay_15 (by decide) ?_
    refine v_sipush (v := (399 : Int32)) K dX9_reckonDay_16 (by decide) ?_
    obtain ⟨r4, s3, e2, h⟩ := bnd_e h
    refine vC_calli K [.ref (ad 1), .int (-1 : Int32), .int (399 : Int32)] [] cw_RX9_199 (cCD_run hG rfl rfl e2) (rcD rfl) rfl rfl (Nat.le_of_ble_eq_true rfl) (by decide) dX9_reckonDay_19 ?_
    refine v_pop K dX9_reckonDay_22 rfl ?_
    refine v_aload_n K 0 rfl dX9_reckonDay_23 ?_
    refine v_iconst (v := (1 : Int32)) K dX9_reckonDay_24 (by decide) ?_
    obtain ⟨b5, h⟩ := ob_e h
    refine pC_RX9_304 K b5 dX9_reckonDay_25 ?_
    refine v_drop [] [] rfl ?_
    exact wCT_reckonDay_28 hG K RT _ h
theorem cCT_reckonDay {l : Launch} {D : va_G} {c : Nat → ClassId} {s s' : SS} {ad : Nat → Nat} {G : GG} (hG : gok G)  (h : CT_reckonDay G s = some s') : Cv l D c yX9_reckonDay cX9_reckonDay 1 none 5 [.ref (ad 0)] (wC ad c G s) (wC ad c G s') := Cv.of (by decide) (Nat.le_of_ble_eq_true rfl) (fun X K RT => wCT_reckonDay hG K RT s  h)
set_option maxHeartbeats 4000000 in
set_option maxRecDepth 100000 in
theorem wCT_taken_69 {ad : Nat → Nat} {G : GG} {X : Cx} {c : Nat → ClassId} (hG : gok G) (K : Ok X cX9_taken RX9 3 5 c) {r : Int32 × SS} (RT : ∀ pc ls, decode cX9_taken pc = .ok (.ireturn, 1) → V X 3 0 0 pc ls [.int r.1] (wC ad c G r.2)) : ∀ (y0 : Int32) (s : SS), CT_taken_69 G y0 s = some r → V X 3 0 0 69 [] [.int y0] (wC ad c G s) := by
  intro y0 s h
  rw [CT_taken_69] at h
  obtain rfl := Option.some.inj h
  exact RT _ _ dX9_taken_69
set_option maxHeartbeats 4000000 in
set_option maxRecDepth 100000 in
theorem wCT_taken_20 {ad : Nat → Nat} {G : GG} {X : Cx} {c : Nat → ClassId} (hG : gok G) (K : Ok X cX9_taken RX9 3 5 c) {r : Int32 × SS} (RT : ∀ pc ls, decode cX9_taken pc = .ok (.ireturn, 1) → V X 3 0 0 pc ls [.int r.1] (wC ad c G r.2)) : ∀ (s : SS), CT_taken_20 G s = some r → V X 3 0 0 20 [] [] (wC ad c G s) := by
  intro s h
  rw [CT_taken_20] at h
  refine v_bipush (v := (-2 : Int32)) K dX9_taken_20 (by decide) ?_
  obtain rfl := Option.some.inj h
  exact RT _ _ dX9_taken_22
set_option maxHeartbeats 4000000 in
set_option maxRecDepth 100000 in
theorem wCT_taken {ad : Nat → Nat} {G : GG} {X : Cx} {c : Nat → ClassId} (hG : gok G) (K : Ok X cX9_taken RX9 3 5 c) {r : Int32 × SS} (RT : ∀ pc ls, decode cX9_taken pc = .ok (.ireturn, 1) → V X 3 0 0 pc ls [.int r.1] (wC ad c G r.2)) (s : SS) (x1 : Int32) (x2 : Int32) (h : CT_taken G s x1 x2 = some r) : V X 3 0 0 0 [(0, .ref (ad 0)), (1, .int x1), (2, .int x2)] [] (wC ad c G s) := by
  rw [CT_taken] at h
  refine v_iload_n K 1 rfl dX9_taken_0 ?_
  refine v_if_lt K 20 dX9_taken_1 (by decide) (fun q1 => ?_) (fun q1 => ?_)
  · replace h := if_e h q1
    refine v_drop [] [] rfl ?_
    exact wCT_taken_20 hG K RT _ h
  · replace h := if_n h q1
    refine v_iload_n K 1 rfl dX9_taken_4 ?_
    refine v_sipush (v := (400 : Int32)) K dX9_taken_5 (by decide) ?_
    refine v_icmp_ge K 20 dX9_taken_8 (by decide) (fun q2 => ?_) (fun q2 => ?_)
    · replace h := if_e h q2
      refine v_drop [] [] rfl ?_
      exact wCT_taken_20 hG K RT _ h
    · replace h := if_n h q2
      refine v_iload_n K 2 rfl dX9_taken_11 ?_
      refine v_if_lt K 20 dX9_taken_12 (by decide) (fun q3 => ?_) (fun q3 => ?_)
      · replace h := if_e h q3
        refine v_drop [] [] rfl ?_
        exact wCT_taken_20 hG K RT _ h
      · replace h := if_n h q3
        refine v_iload_n K 2 rfl dX9_taken_15 ?_
        refine v_iconst (v := (1 : Int32)) K dX9_taken_16 (by decide) ?_
        refine v_icmp_le K 23 dX9_taken_17 (by decide) (fun q4 => ?_) (fun q4 => ?_)
        · replace h := if_e h q4
          refine v_aload_n K 0 rfl dX9_taken_23 ?_
          obtain ⟨r7, s6, e5, h⟩ := bnd_e h
          refine vC_calli K [] [] cw_RX9_117 (cCT_isNoCafe hG e5) rcT rfl rfl (Nat.le_of_ble_eq_true rfl) (by decide) dX9_taken_24 ?_
          refine v_if_eq K 33 dX9_taken_27 (by decide) (fun q8 => ?_) (fun q8 => ?_)
          · replace h := if_e h q8
            refine v_aload_n K 0 rfl dX9_taken_33 ?_
            refine gC_RX9_51 K dX9_taken_34 ?_
            refine v_aload_n K 0 rfl dX9_taken_37 ?_
            refine gC_RX9_12 K dX9_taken_38 ?_
            refine v_iconst (v := (-1 : Int32)) K dX9_taken_41 (by decide) ?_
            refine v_iload_n K 1 rfl dX9_taken_42 ?_
            obtain ⟨r11, s10, e9, h⟩ := bnd_e h
            refine vC_calli K [.ref (ad 1), .int (-1 : Int32), .int x1] [] cw_RX9_199 (cCD_run hG rfl rfl e9) (rcD rfl) rfl rfl (Nat.le_of_ble_eq_true rfl) (by decide) dX9_taken_43 ?_
            refine v_pop K dX9_taken_46 rfl ?_
            refine v_iload_n K 2 rfl dX9_taken_47 ?_
            refine v_if_ne K 61 dX9_taken_48 (by decide) (fun q12 => ?_) (fun q12 => ?_)
            · replace h := if_n h q12
              refine v_aload_n K 0 rfl dX9_taken_61 ?_
              refine gC_RX9_51 K dX9_taken_62 ?_
              refine v_iconst (v := (-1 : Int32)) K dX9_taken_65 (by decide) ?_
              obtain ⟨r15, s14, e13, h⟩ := bnd_e h
              refine vC_calli K [.int (-1 : Int32)] [] cw_RX9_206 (cCD_othersWaiting hG rfl e13) (rcD rfl) rfl rfl (Nat.le_of_ble_eq_true rfl) (by decide) dX9_taken_66 ?_
              refine v_drop [] [] rfl ?_
              exact wCT_taken_69 hG K RT _ _ h
            · replace h := if_e h q12
              refine v_aload_n K 0 rfl dX9_taken_51 ?_
              refine gC_RX9_51 K dX9_taken_52 ?_
              obtain ⟨r18, s17, e16, h⟩ := bnd_e h
              refine vC_calli K [] [] cw_RX9_203 (cCD_tablesTaken hG rfl e16) (rcD rfl) rfl rfl (Nat.le_of_ble_eq_true rfl) (by decide) dX9_taken_55 ?_
              refine v_goto K 69 dX9_taken_58 (by decide) ?_
              refine v_drop [] [] rfl ?_
              exact wCT_taken_69 hG K RT _ _ h
          · replace h := if_n h q8
            refine v_bipush (v := (-3 : Int32)) K dX9_taken_30 (by decide) ?_
            obtain rfl := Option.some.inj h
            exact RT _ _ dX9_taken_32
        · replace h := if_n h q4
          refine v_drop [] [] rfl ?_
          exact wCT_taken_20 hG K RT _ h
theorem cCT_taken {l : Launch} {D : va_G} {c : Nat → ClassId} {s s' : SS} {ad : Nat → Nat} {G : GG} (hG : gok G)  {x1 : Int32} {x2 : Int32} {r : Int32} (h : CT_taken G s x1 x2 = some (r, s')) : Ci l D c yX9_taken cX9_taken 3 (some .int) 5 [.ref (ad 0), .int x1, .int x2] (wC ad c G s) r (wC ad c G s') := Ci.of (by decide) (Nat.le_of_ble_eq_true rfl) (fun X K RT => wCT_taken hG K (r := (r, s')) RT s x1 x2 h)
theorem cu_RX9_291_0 : cwOok RX9 291 RX2 RX2 yX2_telling yX2_telling cX2_telling 2 (some .int) 1 := ⟨⟨by decide, by decide, by decide +kernel⟩, by decide, all6 (BG_ix 723 (by decide +kernel) rfl) (BG_ix 726 (by decide +kernel) rfl) (BG_ix 724 (by decide +kernel) rfl) (BG_ix 725 (by decide +kernel) rfl) (BG_ix 724 (by decide +kernel) rfl) (BG_ix 69 (by decide +kernel) rfl), (BG_ix 747 (by decide +kernel) rfl), cX2_telling, 2, (some .int), (BG_ix 747 (by decide +kernel) rfl)⟩
theorem cu_RX9_291_1 : cwOok RX9 291 RX7 RX2 yX2_telling yX7_telling cX7_telling 2 (some .int) 1 := ⟨⟨by decide, by decide, by decide +kernel⟩, by decide, all6 (BG_ix 723 (by decide +kernel) rfl) (BG_ix 726 (by decide +kernel) rfl) (BG_ix 724 (by decide +kernel) rfl) (BG_ix 746 (by decide +kernel) rfl) (BG_ix 735 (by decide +kernel) rfl) (BG_ix 70 (by decide +kernel) rfl), (BG_ix 736 (by decide +kernel) rfl), cX2_telling, 2, (some .int), (BG_ix 747 (by decide +kernel) rfl)⟩
theorem cu_RX9_291_2 : cwOok RX9 291 RX4 RX2 yX2_telling yX4_telling cX4_telling 3 (some .int) 1 := ⟨⟨by decide, by decide, by decide +kernel⟩, by decide, all6 (BG_ix 723 (by decide +kernel) rfl) (BG_ix 726 (by decide +kernel) rfl) (BG_ix 724 (by decide +kernel) rfl) (BG_ix 727 (by decide +kernel) rfl) (BG_ix 728 (by decide +kernel) rfl) (BG_ix 71 (by decide +kernel) rfl), (BG_ix 729 (by decide +kernel) rfl), cX2_telling, 2, (some .int), (BG_ix 747 (by decide +kernel) rfl)⟩
theorem vU_RX9_291 {X : Cx} {cc : ByteArray} {nL d pc : Nat} {c : Nat → ClassId} {ls : List (Nat × Value)} {ad : Nat → Nat} {G : GG} {s s' : SS} {a : Nat} {r : Int32} (hG : gok G) (ha : gm G a = true) (K : Ok X cc RX9 nL d c) (rest : List Value) (h : Cv_telling G a s = some (r, s')) (hrm : (rest.map fun v => v.category).sum ≤ 8) (hdc : 4 + 1 ≤ d) (hd : decode cc pc = .ok (.invokevirtual 291, 3)) (k : V X nL 0 0 (pc + 3) ls (.int r :: rest) (wC ad c G s')) : V X nL 0 0 pc ls (.ref (ad 18) :: .ref a :: rest) (wC ad c G s) := by
  obtain ⟨q, hq⟩ := gpos (ad := ad) (c := c) (s := s) ha
  rw [Cv_telling] at h
  rcases gk3 G a with e | e | e <;> rw [e] at h hq
  · rw [if_pos rfl] at h
    exact v_callO K [.ref (ad 18)] rest cu_RX9_291_0 (cCG_telling hG ha h) q hq rfl (wC_same ad c G s s') rfl rfl hrm (by omega) z0 hd k
  · rw [if_neg (by decide), if_pos rfl] at h
    exact v_callO K [.ref (ad 18)] rest cu_RX9_291_1 (cCY_telling hG ha h) q hq rfl (wC_same ad c G s s') rfl rfl hrm (by omega) z0 hd k
  · rw [if_neg (by decide), if_neg (by decide)] at h
    exact v_callO K [.ref (ad 18)] rest cu_RX9_291_2 (cCL_telling hG ha h) q hq rfl (wC_same ad c G s s') rfl rfl hrm (by omega) z0 hd k
set_option maxHeartbeats 4000000 in
set_option maxRecDepth 100000 in
theorem wCT_tell_25 {ad : Nat → Nat} {G : GG} {X : Cx} {c : Nat → ClassId} (hG : gok G) (K : Ok X cX9_tell RX9 3 5 c) {r : Int32 × SS} (RT : ∀ pc ls, decode cX9_tell pc = .ok (.ireturn, 1) → V X 3 0 0 pc ls [.int r.1] (wC ad c G r.2)) : ∀ (y0 : Int32) (s : SS), CT_tell_25 G y0 s = some r → V X 3 0 0 25 [] [.int y0] (wC ad c G s) := by
  intro y0 s h
  rw [CT_tell_25] at h
  obtain rfl := Option.some.inj h
  exact RT _ _ dX9_tell_25
set_option maxHeartbeats 4000000 in
set_option maxRecDepth 100000 in
theorem wCT_tell {ad : Nat → Nat} {G : GG} {X : Cx} {c : Nat → ClassId} (hG : gok G) (K : Ok X cX9_tell RX9 3 5 c) {r : Int32 × SS} (RT : ∀ pc ls, decode cX9_tell pc = .ok (.ireturn, 1) → V X 3 0 0 pc ls [.int r.1] (wC ad c G r.2)) (s : SS) (x1 : Int32) (h : CT_tell G s x1 = some r) : V X 3 0 0 0 [(0, .ref (ad 0)), (1, .int x1)] [] (wC ad c G s) := by
  rw [CT_tell] at h
  refine v_aload_n K 0 rfl dX9_tell_0 ?_
  refine gC_RX9_24 K dX9_tell_1 ?_
  refine v_iload_n K 1 rfl dX9_tell_4 ?_
  obtain ⟨r3, s2, e1, h⟩ := bnd_e h
  refine vC_callq K [.int x1] [] cw_RX9_151 (cCR_numbered hG e1) rcR rfl rfl (Nat.le_of_ble_eq_true rfl) (by decide) dX9_tell_5 ?_
  cases r3 with
  | none =>
    replace h := oc_n h
    refine v_astore_nN K [(0, .ref (ad 0)), (2, .null)] [1, 0] dX9_tell_8 rfl (by decide) rfl ?_
    refine v_aload_nN K 1 rfl dX9_tell_9 ?_
    refine v_ifnonnullN K dX9_tell_10 ?_
    refine v_iconst (v := (-1 : Int32)) K dX9_tell_13 (by decide) ?_
    refine v_goto K 25 dX9_tell_14 (by decide) ?_
    refine v_drop [] [] rfl ?_
    exact wCT_tell_25 hG K RT _ _ h
  | some a4 =>
    replace h := oc_s h
    obtain ⟨b5, h⟩ := ob_e h
    refine v_astore_n K [(0, .ref (ad 0)), (2, .ref a4)] [1, 0] dX9_tell_8 rfl (by decide) rfl ?_
    refine v_aload_n K 1 rfl dX9_tell_9 ?_
    refine v_ifnonnull K 17 dX9_tell_10 (by decide) ?_
    refine v_aload_n K 1 rfl dX9_tell_17 ?_
    refine v_aload_n K 0 rfl dX9_tell_18 ?_
    refine gC_RX9_38 K dX9_tell_19 ?_
    obtain ⟨r8, s7, e6, h⟩ := bnd_e h
    refine vU_RX9_291 hG b5 K [] e6 (Nat.le_of_ble_eq_true rfl) (by decide) dX9_tell_22 ?_
    refine v_drop [] [] rfl ?_
    exact wCT_tell_25 hG K RT _ _ h
theorem cCT_tell {l : Launch} {D : va_G} {c : Nat → ClassId} {s s' : SS} {ad : Nat → Nat} {G : GG} (hG : gok G)  {x1 : Int32} {r : Int32} (h : CT_tell G s x1 = some (r, s')) : Ci l D c yX9_tell cX9_tell 3 (some .int) 5 [.ref (ad 0), .int x1] (wC ad c G s) r (wC ad c G s') := Ci.of (by decide) (Nat.le_of_ble_eq_true rfl) (fun X K RT => wCT_tell hG K (r := (r, s')) RT s x1 h)
set_option maxHeartbeats 4000000 in
set_option maxRecDepth 100000 in
theorem wCT_coin {ad : Nat → Nat} {G : GG} {X : Cx} {c : Nat → ClassId} (hG : gok G) (K : Ok X cX9_coin RX9 1 6 c) {r : Int32 × SS} (RT : ∀ pc ls, decode cX9_coin pc = .ok (.ireturn, 1) → V X 1 0 0 pc ls [.int r.1] (wC ad c G r.2)) (s : SS) (h : CT_coin G s = some r) : V X 1 0 0 0 [(0, .ref (ad 0))] [] (wC ad c G s) := by
  rw [CT_coin] at h
  refine v_aload_n K 0 rfl dX9_coin_0 ?_
  obtain ⟨r3, s2, e1, h⟩ := bnd_e h
  refine vC_calli K [] [] cw_RX9_117 (cCT_isNoCafe hG e1) rcT rfl rfl (Nat.le_of_ble_eq_true rfl) (by decide) dX9_coin_1 ?_
  refine v_if_eq K 10 dX9_coin_4 (by decide) (fun q4 => ?_) (fun q4 => ?_)
  · replace h := if_e h q4
    refine v_aload_n K 0 rfl dX9_coin_10 ?_
    obtain ⟨s6, e5, h⟩ := bnd0_e h
    refine vC_callv K [] [] cw_RX9_178 (cCT_reckonDay hG e5) rcT rfl rfl (Nat.le_of_ble_eq_true rfl) (by decide) dX9_coin_11 ?_
    refine v_aload_n K 0 rfl dX9_coin_14 ?_
    refine gC_RX9_47 K dX9_coin_15 ?_
    obtain ⟨r9, s8, e7, h⟩ := bnd_e h
    refine vC_calli K [] [] cw_RX9_209 (cCD_coinInAll hG rfl e7) (rcD rfl) rfl rfl (Nat.le_of_ble_eq_true rfl) (by decide) dX9_coin_18 ?_
    obtain rfl := Option.some.inj h
    exact RT _ _ dX9_coin_21
  · replace h := if_n h q4
    refine v_bipush (v := (-3 : Int32)) K dX9_coin_7 (by decide) ?_
    obtain rfl := Option.some.inj h
    exact RT _ _ dX9_coin_9
theorem cCT_coin {l : Launch} {D : va_G} {c : Nat → ClassId} {s s' : SS} {ad : Nat → Nat} {G : GG} (hG : gok G)  {r : Int32} (h : CT_coin G s = some (r, s')) : Ci l D c yX9_coin cX9_coin 1 (some .int) 6 [.ref (ad 0)] (wC ad c G s) r (wC ad c G s') := Ci.of (by decide) (Nat.le_of_ble_eq_true rfl) (fun X K RT => wCT_coin hG K (r := (r, s')) RT s  h)
set_option maxHeartbeats 4000000 in
set_option maxRecDepth 100000 in
theorem wCT_day_24 {ad : Nat → Nat} {G : GG} {X : Cx} {c : Nat → ClassId} (hG : gok G) (K : Ok X cX9_day RX9 4 6 c) {r : Int32 × SS} (RT : ∀ pc ls, decode cX9_day pc = .ok (.ireturn, 1) → V X 4 0 0 pc ls [.int r.1] (wC ad c G r.2)) : ∀ (s : SS), CT_day_24 G s = some r → V X 4 0 0 24 [] [] (wC ad c G s) := by
  intro s h
  rw [CT_day_24] at h
  refine v_bipush (v := (-2 : Int32)) K dX9_day_24 (by decide) ?_
  obtain rfl := Option.some.inj h
  exact RT _ _ dX9_day_26
set_option maxHeartbeats 4000000 in
set_option maxRecDepth 100000 in
theorem wCT_day {ad : Nat → Nat} {G : GG} {X : Cx} {c : Nat → ClassId} (hG : gok G) (K : Ok X cX9_day RX9 4 6 c) {r : Int32 × SS} (RT : ∀ pc ls, decode cX9_day pc = .ok (.ireturn, 1) → V X 4 0 0 pc ls [.int r.1] (wC ad c G r.2)) (s : SS) (x1 : Int32) (x2 : Int32) (h : CT_day G s x1 x2 = some r) : V X 4 0 0 0 [(0, .ref (ad 0)), (1, .int x1), (2, .int x2)] [] (wC ad c G s) := by
  rw [CT_day] at h
  refine v_aload_n K 0 rfl dX9_day_0 ?_
  refine gC_RX9_24 K dX9_day_1 ?_
  refine v_iload_n K 1 rfl dX9_day_4 ?_
  obtain ⟨r3, s2, e1, h⟩ := bnd_e h
  refine vC_callq K [.int x1] [] cw_RX9_151 (cCR_numbered hG e1) rcR rfl rfl (Nat.le_of_ble_eq_true rfl) (by decide) dX9_day_5 ?_
  cases r3 with
  | none =>
    replace h := oc_n h
    refine v_astore_nN K [(0, .ref (ad 0)), (1, .int x1), (2, .int x2), (3, .null)] [1, 2, 3, 0] dX9_day_8 rfl (by decide) rfl ?_
    refine v_aload_nN K 3 rfl dX9_day_9 ?_
    refine v_ifnonnullN K dX9_day_10 ?_
    refine v_iconst (v := (-1 : Int32)) K dX9_day_13 (by decide) ?_
    obtain rfl := Option.some.inj h
    exact RT _ _ dX9_day_14
  | some a4 =>
    replace h := oc_s h
    obtain ⟨b5, h⟩ := ob_e h
    refine v_astore_n K [(0, .ref (ad 0)), (1, .int x1), (2, .int x2), (3, .ref a4)] [1, 2, 3, 0] dX9_day_8 rfl (by decide) rfl ?_
    refine v_aload_n K 3 rfl dX9_day_9 ?_
    refine v_ifnonnull K 15 dX9_day_10 (by decide) ?_
    refine v_iload_n K 2 rfl dX9_day_15 ?_
    refine v_if_lt K 24 dX9_day_16 (by decide) (fun q6 => ?_) (fun q6 => ?_)
    · replace h := if_e h q6
      refine v_drop [] [] rfl ?_
      exact wCT_day_24 hG K RT _ h
    · replace h := if_n h q6
      refine v_iload_n K 2 rfl dX9_day_19 ?_
      refine v_iconst (v := (5 : Int32)) K dX9_day_20 (by decide) ?_
      refine v_icmp_le K 27 dX9_day_21 (by decide) (fun q7 => ?_) (fun q7 => ?_)
      · replace h := if_e h q7
        refine v_aload_n K 0 rfl dX9_day_27 ?_
        obtain ⟨s9, e8, h⟩ := bnd0_e h
        refine vC_callv K [] [] cw_RX9_178 (cCT_reckonDay hG e8) rcT rfl rfl (Nat.le_of_ble_eq_true rfl) (by decide) dX9_day_28 ?_
        refine v_iload_n K 2 rfl dX9_day_31 ?_
        by_cases q10 : x2 = (0 : Int32)
        · replace h := if_e h q10
          refine v_tableIn (off := 36) K 68 dX9_day_32 (by rw [q10]; decide) (by rw [q10]; decide) (by rw [q10]; rfl) (by decide) ?_
          refine v_aload_n K 0 rfl dX9_day_68 ?_
          refine gC_RX9_47 K dX9_day_69 ?_
          refine gC_RX9_181 rfl K dX9_day_72 ?_
          refine v_iload_n K 1 rfl dX9_day_75 ?_
          obtain ⟨b11, h⟩ := ob_e h
          refine lC (v := (s9 20 x1.toNatClampNeg)) K (aD_1 rfl) b11 dX9_day_76 rfl ?_
          obtain rfl := Option.some.inj h
          exact RT _ _ dX9_day_77
        · replace h := if_n h q10
          by_cases q12 : x2 = (1 : Int32)
          · replace h := if_e h q12
            refine v_tableIn (off := 46) K 78 dX9_day_32 (by rw [q12]; decide) (by rw [q12]; decide) (by rw [q12]; rfl) (by decide) ?_
            refine v_aload_n K 0 rfl dX9_day_78 ?_
            refine gC_RX9_47 K dX9_day_79 ?_
            refine gC_RX9_184 rfl K dX9_day_82 ?_
            refine v_iload_n K 1 rfl dX9_day_85 ?_
            obtain ⟨b13, h⟩ := ob_e h
            refine lC (v := (s9 21 x1.toNatClampNeg)) K (aD_2 rfl) b13 dX9_day_86 rfl ?_
            obtain rfl := Option.some.inj h
            exact RT _ _ dX9_day_87
          · replace h := if_n h q12
            by_cases q14 : x2 = (2 : Int32)
            · replace h := if_e h q14
              refine v_tableIn (off := 56) K 88 dX9_day_32 (by rw [q14]; decide) (by rw [q14]; decide) (by rw [q14]; rfl) (by decide) ?_
              refine v_aload_n K 0 rfl dX9_day_88 ?_
              refine gC_RX9_47 K dX9_day_89 ?_
              refine gC_RX9_187 rfl K dX9_day_92 ?_
              refine v_iload_n K 1 rfl dX9_day_95 ?_
              obtain ⟨b15, h⟩ := ob_e h
              refine lC (v := (s9 22 x1.toNatClampNeg)) K (aD_3 rfl) b15 dX9_day_96 rfl ?_
              obtain rfl := Option.some.inj h
              exact RT _ _ dX9_day_97
            · replace h := if_n h q14
              by_cases q16 : x2 = (3 : Int32)
              · replace h := if_e h q16
                refine v_tableIn (off := 66) K 98 dX9_day_32 (by rw [q16]; decide) (by rw [q16]; decide) (by rw [q16]; rfl) (by decide) ?_
                refine v_aload_n K 0 rfl dX9_day_98 ?_
                refine gC_RX9_47 K dX9_day_99 ?_
                refine gC_RX9_190 rfl K dX9_day_102 ?_
                refine v_iload_n K 1 rfl dX9_day_105 ?_
                obtain ⟨b17, h⟩ := ob_e h
                refine lC (v := (s9 23 x1.toNatClampNeg)) K (aD_4 rfl) b17 dX9_day_106 rfl ?_
                obtain rfl := Option.some.inj h
                exact RT _ _ dX9_day_107
              · replace h := if_n h q16
                by_cases q18 : x2 = (4 : Int32)
                · replace h := if_e h q18
                  refine v_tableIn (off := 76) K 108 dX9_day_32 (by rw [q18]; decide) (by rw [q18]; decide) (by rw [q18]; rfl) (by decide) ?_
                  refine v_aload_n K 0 rfl dX9_day_108 ?_
                  refine gC_RX9_47 K dX9_day_109 ?_
                  refine v_iload_n K 1 rfl dX9_day_112 ?_
                  obtain ⟨r21, s20, e19, h⟩ := bnd_e h
                  refine vC_calli K [.int x1] [] cw_RX9_193 (cCD_coinOf hG rfl e19) (rcD rfl) rfl rfl (Nat.le_of_ble_eq_true rfl) (by decide) dX9_day_113 ?_
                  obtain rfl := Option.some.inj h
                  exact RT _ _ dX9_day_116
                · replace h := if_n h q18
                  refine v_tableOut K 117 dX9_day_32 (by have eq10 := lv_neT q10 (show ((0 : Int32)).toInt = 0 from by decide); have eq12 := lv_neT q12 (show ((1 : Int32)).toInt = 1 from by decide); have eq14 := lv_neT q14 (show ((2 : Int32)).toInt = 2 from by decide); have eq16 := lv_neT q16 (show ((3 : Int32)).toInt = 3 from by decide); have eq18 := lv_neT q18 (show ((4 : Int32)).toInt = 4 from by decide); omega) (by decide) ?_
                  refine v_aload_n K 0 rfl dX9_day_117 ?_
                  refine gC_RX9_47 K dX9_day_118 ?_
                  refine gC_RX9_196 rfl K dX9_day_121 ?_
                  refine v_iload_n K 1 rfl dX9_day_124 ?_
                  obtain ⟨b22, h⟩ := ob_e h
                  refine lC (v := (s9 24 x1.toNatClampNeg)) K (aD_5 rfl) b22 dX9_day_125 rfl ?_
                  obtain rfl := Option.some.inj h
                  exact RT _ _ dX9_day_126
      · replace h := if_n h q7
        refine v_drop [] [] rfl ?_
        exact wCT_day_24 hG K RT _ h
theorem cCT_day {l : Launch} {D : va_G} {c : Nat → ClassId} {s s' : SS} {ad : Nat → Nat} {G : GG} (hG : gok G)  {x1 : Int32} {x2 : Int32} {r : Int32} (h : CT_day G s x1 x2 = some (r, s')) : Ci l D c yX9_day cX9_day 4 (some .int) 6 [.ref (ad 0), .int x1, .int x2] (wC ad c G s) r (wC ad c G s') := Ci.of (by decide) (Nat.le_of_ble_eq_true rfl) (fun X K RT => wCT_day hG K (r := (r, s')) RT s x1 x2 h)
set_option maxHeartbeats 4000000 in
set_option maxRecDepth 100000 in
theorem wCT_mix_51 {ad : Nat → Nat} {G : GG} {X : Cx} {c : Nat → ClassId} (hG : gok G) (K : Ok X cX9_mix RX9 3 6 c) {r : Int32 × SS} (RT : ∀ pc ls, decode cX9_mix pc = .ok (.ireturn, 1) → V X 3 0 0 pc ls [.int r.1] (wC ad c G r.2)) : ∀ (x2 : Int32) (s : SS), CT_mix_51 G x2 s = some r → V X 3 0 0 51 [(0, .ref (ad 0)), (2, .int x2)] [] (wC ad c G s) := by
  intro x2 s h
  rw [CT_mix_51] at h
  refine v_aload_n K 0 rfl dX9_mix_51 ?_
  refine gC_RX9_65 K dX9_mix_52 ?_
  refine v_iload_n K 1 rfl dX9_mix_55 ?_
  obtain ⟨b12, h⟩ := ob_e h
  refine lC (v := (s 44 x2.toNatClampNeg)) K rfl b12 dX9_mix_56 rfl ?_
  obtain rfl := Option.some.inj h
  exact RT _ _ dX9_mix_57
set_option maxHeartbeats 4000000 in
set_option maxRecDepth 100000 in
theorem wCT_mix_20 {ad : Nat → Nat} {G : GG} {X : Cx} {c : Nat → ClassId} (hG : gok G) (K : Ok X cX9_mix RX9 3 6 c) {r : Int32 × SS} (RT : ∀ pc ls, decode cX9_mix pc = .ok (.ireturn, 1) → V X 3 0 0 pc ls [.int r.1] (wC ad c G r.2)) : ∀ (s : SS), CT_mix_20 G s = some r → V X 3 0 0 20 [] [] (wC ad c G s) := by
  intro s h
  rw [CT_mix_20] at h
  refine v_bipush (v := (-2 : Int32)) K dX9_mix_20 (by decide) ?_
  obtain rfl := Option.some.inj h
  exact RT _ _ dX9_mix_22
set_option maxHeartbeats 4000000 in
set_option maxRecDepth 100000 in
theorem wCT_mix {ad : Nat → Nat} {G : GG} {X : Cx} {c : Nat → ClassId} (hG : gok G) (K : Ok X cX9_mix RX9 3 6 c) {r : Int32 × SS} (RT : ∀ pc ls, decode cX9_mix pc = .ok (.ireturn, 1) → V X 3 0 0 pc ls [.int r.1] (wC ad c G r.2)) (s : SS) (x1 : Int32) (x2 : Int32) (h : CT_mix G s x1 x2 = some r) : V X 3 0 0 0 [(0, .ref (ad 0)), (1, .int x1), (2, .int x2)] [] (wC ad c G s) := by
  rw [CT_mix] at h
  refine v_iload_n K 1 rfl dX9_mix_0 ?_
  refine v_iconst (v := (2 : Int32)) K dX9_mix_1 (by decide) ?_
  refine v_icmp_lt K 20 dX9_mix_2 (by decide) (fun q1 => ?_) (fun q1 => ?_)
  · replace h := if_e h q1
    refine v_drop [] [] rfl ?_
    exact wCT_mix_20 hG K RT _ h
  · replace h := if_n h q1
    refine v_iload_n K 1 rfl dX9_mix_5 ?_
    refine v_bipush (v := (24 : Int32)) K dX9_mix_6 (by decide) ?_
    refine v_icmp_gt K 20 dX9_mix_8 (by decide) (fun q2 => ?_) (fun q2 => ?_)
    · replace h := if_e h q2
      refine v_drop [] [] rfl ?_
      exact wCT_mix_20 hG K RT _ h
    · replace h := if_n h q2
      refine v_iload_n K 2 rfl dX9_mix_11 ?_
      refine v_if_lt K 20 dX9_mix_12 (by decide) (fun q3 => ?_) (fun q3 => ?_)
      · replace h := if_e h q3
        refine v_drop [] [] rfl ?_
        exact wCT_mix_20 hG K RT _ h
      · replace h := if_n h q3
        refine v_iload_n K 2 rfl dX9_mix_15 ?_
        refine v_iconst (v := (3 : Int32)) K dX9_mix_16 (by decide) ?_
        refine v_icmp_le K 23 dX9_mix_17 (by decide) (fun q4 => ?_) (fun q4 => ?_)
        · replace h := if_e h q4
          refine v_aload_n K 0 rfl dX9_mix_23 ?_
          obtain ⟨r7, s6, e5, h⟩ := bnd_e h
          refine vC_calli K [] [] cw_RX9_117 (cCT_isNoCafe hG e5) rcT rfl rfl (Nat.le_of_ble_eq_true rfl) (by decide) dX9_mix_24 ?_
          refine v_if_eq K 33 dX9_mix_27 (by decide) (fun q8 => ?_) (fun q8 => ?_)
          · replace h := if_e h q8
            refine v_aload_n K 0 rfl dX9_mix_33 ?_
            refine gC_RX9_239 (v := (s6 0 14)) K dX9_mix_34 rfl ?_
            refine v_iload_n K 1 rfl dX9_mix_37 ?_
            refine v_icmp_eq K 51 dX9_mix_38 (by decide) (fun q9 => ?_) (fun q9 => ?_)
            · replace h := if_e h q9
              refine v_drop [(0, .ref (ad 0)), (2, .int x2)] [0, 2] rfl ?_
              exact wCT_mix_51 hG K RT _ _ h
            · replace h := if_n h q9
              refine v_aload_n K 0 rfl dX9_mix_41 ?_
              refine v_iload_n K 1 rfl dX9_mix_42 ?_
              obtain ⟨s11, e10, h⟩ := bnd0_e h
              refine vC_callv K [.int x1] [] cw_RX9_242 (cCT_findMix hG e10) rcT rfl rfl (Nat.le_of_ble_eq_true rfl) (by decide) dX9_mix_43 ?_
              refine v_aload_n K 0 rfl dX9_mix_46 ?_
              refine v_iload_n K 1 rfl dX9_mix_47 ?_
              refine pC_RX9_239 K dX9_mix_48 ?_
              refine v_drop [(0, .ref (ad 0)), (2, .int x2)] [0, 2] rfl ?_
              exact wCT_mix_51 hG K RT _ _ h
          · replace h := if_n h q8
            refine v_bipush (v := (-3 : Int32)) K dX9_mix_30 (by decide) ?_
            obtain rfl := Option.some.inj h
            exact RT _ _ dX9_mix_32
        · replace h := if_n h q4
          refine v_drop [] [] rfl ?_
          exact wCT_mix_20 hG K RT _ h
theorem cCT_mix {l : Launch} {D : va_G} {c : Nat → ClassId} {s s' : SS} {ad : Nat → Nat} {G : GG} (hG : gok G)  {x1 : Int32} {x2 : Int32} {r : Int32} (h : CT_mix G s x1 x2 = some (r, s')) : Ci l D c yX9_mix cX9_mix 3 (some .int) 6 [.ref (ad 0), .int x1, .int x2] (wC ad c G s) r (wC ad c G s') := Ci.of (by decide) (Nat.le_of_ble_eq_true rfl) (fun X K RT => wCT_mix hG K (r := (r, s')) RT s x1 x2 h)
set_option maxHeartbeats 4000000 in
set_option maxRecDepth 100000 in
theorem wCT_till_104 {ad : Nat → Nat} {G : GG} {X : Cx} {c : Nat → ClassId} (hG : gok G) (K : Ok X cX9_till RX9 7 6 c) {r : Int32 × SS} (RT : ∀ pc ls, decode cX9_till pc = .ok (.ireturn, 1) → V X 7 0 0 pc ls [.int r.1] (wC ad c G r.2)) : ∀ (y0 : Int32) (s : SS), CT_till_104 G y0 s = some r → V X 7 0 0 104 [] [.int y0] (wC ad c G s) := by
  intro y0 s h
  rw [CT_till_104] at h
  obtain rfl := Option.some.inj h
  exact RT _ _ dX9_till_104
set_option maxHeartbeats 4000000 in
set_option maxRecDepth 100000 in
theorem wCT_till_80 {ad : Nat → Nat} {G : GG} {X : Cx} {c : Nat → ClassId} (hG : gok G) (K : Ok X cX9_till RX9 7 6 c) {r : Int32 × SS} (RT : ∀ pc ls, decode cX9_till pc = .ok (.ireturn, 1) → V X 7 0 0 pc ls [.int r.1] (wC ad c G r.2)) {k39 : Int32 → Int32 → Int32 → Int32 → Int32 → Int32 → SS → Option (Int32 × SS)} (hk39 : ∀ (x1 : Int32) (x2 : Int32) (x3 : Int32) (x4 : Int32) (x5 : Int32) (x6 : Int32) (s : SS), k39 x1 x2 x3 x4 x5 x6 s = some r → V X 7 0 0 39 [(0, .ref (ad 0)), (1, .int x1), (2, .int x2), (3, .int x3), (4, .int x4), (5, .int x5), (6, .int x6)] [] (wC ad c G s)) : ∀ (x1 : Int32) (x2 : Int32) (x3 : Int32) (x4 : Int32) (x5 : Int32) (x6 : Int32) (s : SS), CT_till_80 G k39 x1 x2 x3 x4 x5 x6 s = some r → V X 7 0 0 80 [(0, .ref (ad 0)), (1, .int x1), (2, .int x2), (3, .int x3), (4, .int x4), (5, .int x5), (6, .int x6)] [] (wC ad c G s) := by
  intro x1 x2 x3 x4 x5 x6 s h
  rw [CT_till_80] at h
  refine v_iinc (v := (x6 + (1 : Int32))) K 6 [(0, .ref (ad 0)), (1, .int x1), (2, .int x2), (3, .int x3), (4, .int x4), (5, .int x5), (6, .int (x6 + (1 : Int32)))] [1, 2, 3, 4, 5, 6, 0] dX9_till_80 rfl rfl (by decide) rfl ?_
  refine v_goto K 39 dX9_till_83 (by decide) ?_
  exact hk39 _ _ _ _ _ _ _ h
set_option maxHeartbeats 4000000 in
set_option maxRecDepth 100000 in
theorem wCT_till_74 {ad : Nat → Nat} {G : GG} {X : Cx} {c : Nat → ClassId} (hG : gok G) (K : Ok X cX9_till RX9 7 6 c) {r : Int32 × SS} (RT : ∀ pc ls, decode cX9_till pc = .ok (.ireturn, 1) → V X 7 0 0 pc ls [.int r.1] (wC ad c G r.2)) {k39 : Int32 → Int32 → Int32 → Int32 → Int32 → Int32 → SS → Option (Int32 × SS)} (hk39 : ∀ (x1 : Int32) (x2 : Int32) (x3 : Int32) (x4 : Int32) (x5 : Int32) (x6 : Int32) (s : SS), k39 x1 x2 x3 x4 x5 x6 s = some r → V X 7 0 0 39 [(0, .ref (ad 0)), (1, .int x1), (2, .int x2), (3, .int x3), (4, .int x4), (5, .int x5), (6, .int x6)] [] (wC ad c G s)) : ∀ (y0 : Int32) (x1 : Int32) (x2 : Int32) (x3 : Int32) (x6 : Int32) (s : SS), CT_till_74 G k39 y0 x1 x2 x3 x6 s = some r → V X 7 0 0 74 [(0, .ref (ad 0)), (1, .int x1), (2, .int x2), (3, .int x3), (6, .int x6)] [.int y0] (wC ad c G s) := by
  intro y0 x1 x2 x3 x6 s h
  rw [CT_till_74] at h
  refine v_istore K [(0, .ref (ad 0)), (1, .int x1), (2, .int x2), (3, .int x3), (4, .int y0), (6, .int x6)] [1, 2, 3, 4, 0, 5] dX9_till_74 (by decide) rfl ?_
  refine v_iload K 5 rfl dX9_till_76 ?_
  refine v_istore K [(0, .ref (ad 0)), (1, .int x1), (2, .int x2), (3, .int x3), (4, .int y0), (5, .int x6), (6, .int x6)] [1, 2, 3, 4, 5, 0, 6] dX9_till_78 (by decide) rfl ?_
  exact wCT_till_80 hG K RT hk39 _ _ _ _ _ _ _ h
set_option maxHeartbeats 4000000 in
set_option maxRecDepth 100000 in
theorem wCT_till_39 {ad : Nat → Nat} {G : GG} {X : Cx} {c : Nat → ClassId} (hG : gok G) (K : Ok X cX9_till RX9 7 6 c) {r : Int32 × SS} (RT : ∀ pc ls, decode cX9_till pc = .ok (.ireturn, 1) → V X 7 0 0 pc ls [.int r.1] (wC ad c G r.2)) : ∀ (n : Nat) (x1 : Int32) (x2 : Int32) (x3 : Int32) (x4 : Int32) (x5 : Int32) (x6 : Int32) (s : SS), CT_till_39 G n x1 x2 x3 x4 x5 x6 s = some r → V X 7 0 0 39 [(0, .ref (ad 0)), (1, .int x1), (2, .int x2), (3, .int x3), (4, .int x4), (5, .int x5), (6, .int x6)] [] (wC ad c G s) := by
  intro n
  induction n with
  | zero => intro _ _ _ _ _ _ _ h; cases h
  | succ n ih =>
    intro x1 x2 x3 x4 x5 x6 s h
    rw [CT_till_39] at h
    refine v_iload K 6 rfl dX9_till_39 ?_
    refine v_bipush (v := (30 : Int32)) K dX9_till_41 (by decide) ?_
    refine v_icmp_gt K 86 dX9_till_43 (by decide) (fun q9 => ?_) (fun q9 => ?_)
    · replace h := if_e h q9
      refine v_iload_n K 2 rfl dX9_till_86 ?_
      refine v_if_ne K 92 dX9_till_87 (by decide) (fun q10 => ?_) (fun q10 => ?_)
      · replace h := if_n h q10
        refine v_iload_n K 2 rfl dX9_till_92 ?_
        refine v_iconst (v := (1 : Int32)) K dX9_till_93 (by decide) ?_
        refine v_icmp_ne K 102 dX9_till_94 (by decide) (fun q11 => ?_) (fun q11 => ?_)
        · replace h := if_n h q11
          refine v_iload K 5 rfl dX9_till_102 ?_
          refine v_drop [] [] rfl ?_
          exact wCT_till_104 hG K RT _ _ h
        · replace h := if_e h q11
          refine v_iload K 4 rfl dX9_till_97 ?_
          refine v_goto K 104 dX9_till_99 (by decide) ?_
          refine v_drop [] [] rfl ?_
          exact wCT_till_104 hG K RT _ _ h
      · replace h := if_e h q10
        refine v_iload_n K 3 rfl dX9_till_90 ?_
        obtain rfl := Option.some.inj h
        exact RT _ _ dX9_till_91
    · replace h := if_n h q9
      refine v_aload_n K 0 rfl dX9_till_46 ?_
      refine gC_RX9_61 K dX9_till_47 ?_
      refine v_iload K 6 rfl dX9_till_50 ?_
      obtain ⟨b12, h⟩ := ob_e h
      refine lC (v := (s 43 x6.toNatClampNeg)) K rfl b12 dX9_till_52 rfl ?_
      refine v_iload_n K 1 rfl dX9_till_53 ?_
      refine v_icmp_ne K 80 dX9_till_54 (by decide) (fun q13 => ?_) (fun q13 => ?_)
      · replace h := if_n h q13
        exact wCT_till_80 hG K RT (fun a0 a1 a2 a3 a4 a5 a6 e => ih a0 a1 a2 a3 a4 a5 a6 e) _ _ _ _ _ _ _ h
      · replace h := if_e h q13
        refine v_iinc (v := (x3 + (1 : Int32))) K 3 [(0, .ref (ad 0)), (1, .int x1), (2, .int x2), (3, .int (x3 + (1 : Int32))), (4, .int x4), (5, .int x5), (6, .int x6)] [1, 2, 3, 0, 4, 5, 6] dX9_till_57 rfl rfl (by decide) rfl ?_
        refine v_iload K 4 rfl dX9_till_60 ?_
        refine v_bipush (v := (-9 : Int32)) K dX9_till_62 (by decide) ?_
        refine v_icmp_ne K 72 dX9_till_64 (by decide) (fun q14 => ?_) (fun q14 => ?_)
        · replace h := if_n h q14
          refine v_iload K 4 rfl dX9_till_72 ?_
          refine v_drop [(0, .ref (ad 0)), (1, .int x1), (2, .int x2), (3, .int (x3 + (1 : Int32))), (6, .int x6)] [0, 1, 2, 3, 6] rfl ?_
          exact wCT_till_74 hG K RT (fun a0 a1 a2 a3 a4 a5 a6 e => ih a0 a1 a2 a3 a4 a5 a6 e) _ _ _ _ _ _ h
        · replace h := if_e h q14
          refine v_iload K 6 rfl dX9_till_67 ?_
          refine v_goto K 74 dX9_till_69 (by decide) ?_
          refine v_drop [(0, .ref (ad 0)), (1, .int x1), (2, .int x2), (3, .int (x3 + (1 : Int32))), (6, .int x6)] [0, 1, 2, 3, 6] rfl ?_
          exact wCT_till_74 hG K RT (fun a0 a1 a2 a3 a4 a5 a6 e => ih a0 a1 a2 a3 a4 a5 a6 e) _ _ _ _ _ _ h
set_option maxHeartbeats 4000000 in
set_option maxRecDepth 100000 in
theorem wCT_till_9 {ad : Nat → Nat} {G : GG} {X : Cx} {c : Nat → ClassId} (hG : gok G) (K : Ok X cX9_till RX9 7 6 c) {r : Int32 × SS} (RT : ∀ pc ls, decode cX9_till pc = .ok (.ireturn, 1) → V X 7 0 0 pc ls [.int r.1] (wC ad c G r.2)) : ∀ (s : SS), CT_till_9 G s = some r → V X 7 0 0 9 [] [] (wC ad c G s) := by
  intro s h
  rw [CT_till_9] at h
  refine v_bipush (v := (-2 : Int32)) K dX9_till_9 (by decide) ?_
  obtain rfl := Option.some.inj h
  exact RT _ _ dX9_till_11
set_option maxHeartbeats 4000000 in
set_option maxRecDepth 100000 in
theorem wCT_till {ad : Nat → Nat} {G : GG} {X : Cx} {c : Nat → ClassId} (hG : gok G) (K : Ok X cX9_till RX9 7 6 c) {r : Int32 × SS} (RT : ∀ pc ls, decode cX9_till pc = .ok (.ireturn, 1) → V X 7 0 0 pc ls [.int r.1] (wC ad c G r.2)) (s : SS) (x1 : Int32) (x2 : Int32) (h : CT_till G s x1 x2 = some r) : V X 7 0 0 0 [(0, .ref (ad 0)), (1, .int x1), (2, .int x2)] [] (wC ad c G s) := by
  rw [CT_till] at h
  refine v_iload_n K 2 rfl dX9_till_0 ?_
  refine v_if_lt K 9 dX9_till_1 (by decide) (fun q1 => ?_) (fun q1 => ?_)
  · replace h := if_e h q1
    refine v_drop [] [] rfl ?_
    exact wCT_till_9 hG K RT _ h
  · replace h := if_n h q1
    refine v_iload_n K 2 rfl dX9_till_4 ?_
    refine v_iconst (v := (2 : Int32)) K dX9_till_5 (by decide) ?_
    refine v_icmp_le K 12 dX9_till_6 (by decide) (fun q2 => ?_) (fun q2 => ?_)
    · replace h := if_e h q2
      refine v_aload_n K 0 rfl dX9_till_12 ?_
      obtain ⟨r5, s4, e3, h⟩ := bnd_e h
      refine vC_calli K [] [] cw_RX9_117 (cCT_isNoCafe hG e3) rcT rfl rfl (Nat.le_of_ble_eq_true rfl) (by decide) dX9_till_13 ?_
      refine v_if_eq K 22 dX9_till_16 (by decide) (fun q6 => ?_) (fun q6 => ?_)
      · replace h := if_e h q6
        refine v_aload_n K 0 rfl dX9_till_22 ?_
        obtain ⟨s8, e7, h⟩ := bnd0_e h
        refine vC_callv K [] [] cw_RX9_236 (cCT_reckonCoins hG e7) rcT rfl rfl (Nat.le_of_ble_eq_true rfl) (by decide) dX9_till_23 ?_
        refine v_iconst (v := (0 : Int32)) K dX9_till_26 (by decide) ?_
        refine v_istore_n K [(0, .ref (ad 0)), (1, .int x1), (2, .int x2), (3, .int (0 : Int32))] [1, 2, 3, 0] dX9_till_27 rfl (by decide) rfl ?_
        refine v_bipush (v := (-9 : Int32)) K dX9_till_28 (by decide) ?_
        refine v_istore K [(0, .ref (ad 0)), (1, .int x1), (2, .int x2), (3, .int (0 : Int32)), (4, .int (-9 : Int32))] [1, 2, 3, 4, 0] dX9_till_30 (by decide) rfl ?_
        refine v_bipush (v := (-9 : Int32)) K dX9_till_32 (by decide) ?_
        refine v_istore K [(0, .ref (ad 0)), (1, .int x1), (2, .int x2), (3, .int (0 : Int32)), (4, .int (-9 : Int32)), (5, .int (-9 : Int32))] [1, 2, 3, 4, 5, 0] dX9_till_34 (by decide) rfl ?_
        refine v_iconst (v := (0 : Int32)) K dX9_till_36 (by decide) ?_
        refine v_istore K [(0, .ref (ad 0)), (1, .int x1), (2, .int x2), (3, .int (0 : Int32)), (4, .int (-9 : Int32)), (5, .int (-9 : Int32)), (6, .int (0 : Int32))] [1, 2, 3, 4, 5, 6, 0] dX9_till_37 (by decide) rfl ?_
        exact wCT_till_39 hG K RT fuel _ _ _ _ _ _ _ h
      · replace h := if_n h q6
        refine v_bipush (v := (-3 : Int32)) K dX9_till_19 (by decide) ?_
        obtain rfl := Option.some.inj h
        exact RT _ _ dX9_till_21
    · replace h := if_n h q2
      refine v_drop [] [] rfl ?_
      exact wCT_till_9 hG K RT _ h
theorem cCT_till {l : Launch} {D : va_G} {c : Nat → ClassId} {s s' : SS} {ad : Nat → Nat} {G : GG} (hG : gok G)  {x1 : Int32} {x2 : Int32} {r : Int32} (h : CT_till G s x1 x2 = some (r, s')) : Ci l D c yX9_till cX9_till 7 (some .int) 6 [.ref (ad 0), .int x1, .int x2] (wC ad c G s) r (wC ad c G s') := Ci.of (by decide) (Nat.le_of_ble_eq_true rfl) (fun X K RT => wCT_till hG K (r := (r, s')) RT s x1 x2 h)
set_option maxHeartbeats 4000000 in
set_option maxRecDepth 100000 in
theorem wCT_waiting_73 {ad : Nat → Nat} {G : GG} {X : Cx} {c : Nat → ClassId} (hG : gok G) (K : Ok X cX9_waiting RX9 4 6 c) {r : Int32 × SS} (RT : ∀ pc ls, decode cX9_waiting pc = .ok (.ireturn, 1) → V X 4 0 0 pc ls [.int r.1] (wC ad c G r.2)) : ∀ (y0 : Int32) (s : SS), CT_waiting_73 G y0 s = some r → V X 4 0 0 73 [] [.int y0] (wC ad c G s) := by
  intro y0 s h
  rw [CT_waiting_73] at h
  obtain rfl := Option.some.inj h
  exact RT _ _ dX9_waiting_73
set_option maxHeartbeats 4000000 in
set_option maxRecDepth 100000 in
theorem wCT_waiting_53 {ad : Nat → Nat} {G : GG} {X : Cx} {c : Nat → ClassId} (hG : gok G) (K : Ok X cX9_waiting RX9 4 6 c) {r : Int32 × SS} (RT : ∀ pc ls, decode cX9_waiting pc = .ok (.ireturn, 1) → V X 4 0 0 pc ls [.int r.1] (wC ad c G r.2)) {k30 : Int32 → Int32 → Int32 → SS → Option (Int32 × SS)} (hk30 : ∀ (x1 : Int32) (x2 : Int32) (x3 : Int32) (s : SS), k30 x1 x2 x3 s = some r → V X 4 0 0 30 [(0, .ref (ad 0)), (1, .int x1), (2, .int x2), (3, .int x3)] [] (wC ad c G s)) : ∀ (x1 : Int32) (x2 : Int32) (x3 : Int32) (s : SS), CT_waiting_53 G k30 x1 x2 x3 s = some r → V X 4 0 0 53 [(0, .ref (ad 0)), (1, .int x1), (2, .int x2), (3, .int x3)] [] (wC ad c G s) := by
  intro x1 x2 x3 s h
  rw [CT_waiting_53] at h
  refine v_iinc (v := (x3 + (1 : Int32))) K 3 [(0, .ref (ad 0)), (1, .int x1), (2, .int x2), (3, .int (x3 + (1 : Int32)))] [1, 2, 3, 0] dX9_waiting_53 rfl rfl (by decide) rfl ?_
  refine v_goto K 30 dX9_waiting_56 (by decide) ?_
  exact hk30 _ _ _ _ h
set_option maxHeartbeats 4000000 in
set_option maxRecDepth 100000 in
theorem wCT_waiting_30 {ad : Nat → Nat} {G : GG} {X : Cx} {c : Nat → ClassId} (hG : gok G) (K : Ok X cX9_waiting RX9 4 6 c) {r : Int32 × SS} (RT : ∀ pc ls, decode cX9_waiting pc = .ok (.ireturn, 1) → V X 4 0 0 pc ls [.int r.1] (wC ad c G r.2)) : ∀ (n : Nat) (x1 : Int32) (x2 : Int32) (x3 : Int32) (s : SS), CT_waiting_30 G n x1 x2 x3 s = some r → V X 4 0 0 30 [(0, .ref (ad 0)), (1, .int x1), (2, .int x2), (3, .int x3)] [] (wC ad c G s) := by
  intro n
  induction n with
  | zero => intro _ _ _ _ h; cases h
  | succ n ih =>
    intro x1 x2 x3 s h
    rw [CT_waiting_30] at h
    refine v_iload_n K 3 rfl dX9_waiting_30 ?_
    refine v_bipush (v := (30 : Int32)) K dX9_waiting_31 (by decide) ?_
    refine v_icmp_gt K 59 dX9_waiting_33 (by decide) (fun q9 => ?_) (fun q9 => ?_)
    · replace h := if_e h q9
      refine v_iload_n K 1 rfl dX9_waiting_59 ?_
      refine v_if_ne K 67 dX9_waiting_60 (by decide) (fun q10 => ?_) (fun q10 => ?_)
      · replace h := if_n h q10
        refine v_aload_n K 0 rfl dX9_waiting_67 ?_
        refine gC_RX9_61 K dX9_waiting_68 ?_
        refine v_iload_n K 2 rfl dX9_waiting_71 ?_
        obtain ⟨b11, h⟩ := ob_e h
        refine lC (v := (s 43 x2.toNatClampNeg)) K rfl b11 dX9_waiting_72 rfl ?_
        refine v_drop [] [] rfl ?_
        exact wCT_waiting_73 hG K RT _ _ h
      · replace h := if_e h q10
        refine v_iload_n K 2 rfl dX9_waiting_63 ?_
        refine v_goto K 73 dX9_waiting_64 (by decide) ?_
        refine v_drop [] [] rfl ?_
        exact wCT_waiting_73 hG K RT _ _ h
    · replace h := if_n h q9
      refine v_aload_n K 0 rfl dX9_waiting_36 ?_
      refine gC_RX9_61 K dX9_waiting_37 ?_
      refine v_iload_n K 3 rfl dX9_waiting_40 ?_
      obtain ⟨b12, h⟩ := ob_e h
      refine lC (v := (s 43 x3.toNatClampNeg)) K rfl b12 dX9_waiting_41 rfl ?_
      refine v_aload_n K 0 rfl dX9_waiting_42 ?_
      refine gC_RX9_61 K dX9_waiting_43 ?_
      refine v_iload_n K 2 rfl dX9_waiting_46 ?_
      obtain ⟨b13, h⟩ := ob_e h
      refine lC (v := (s 43 x2.toNatClampNeg)) K rfl b13 dX9_waiting_47 rfl ?_
      refine v_icmp_le K 53 dX9_waiting_48 (by decide) (fun q14 => ?_) (fun q14 => ?_)
      · replace h := if_e h q14
        exact wCT_waiting_53 hG K RT (fun a0 a1 a2 a3 e => ih a0 a1 a2 a3 e) _ _ _ _ h
      · replace h := if_n h q14
        refine v_iload_n K 3 rfl dX9_waiting_51 ?_
        refine v_istore_n K [(0, .ref (ad 0)), (1, .int x1), (2, .int x3), (3, .int x3)] [1, 2, 0, 3] dX9_waiting_52 rfl (by decide) rfl ?_
        exact wCT_waiting_53 hG K RT (fun a0 a1 a2 a3 e => ih a0 a1 a2 a3 e) _ _ _ _ h
set_option maxHeartbeats 4000000 in
set_option maxRecDepth 100000 in
theorem wCT_waiting_9 {ad : Nat → Nat} {G : GG} {X : Cx} {c : Nat → ClassId} (hG : gok G) (K : Ok X cX9_waiting RX9 4 6 c) {r : Int32 × SS} (RT : ∀ pc ls, decode cX9_waiting pc = .ok (.ireturn, 1) → V X 4 0 0 pc ls [.int r.1] (wC ad c G r.2)) : ∀ (s : SS), CT_waiting_9 G s = some r → V X 4 0 0 9 [] [] (wC ad c G s) := by
  intro s h
  rw [CT_waiting_9] at h
  refine v_bipush (v := (-2 : Int32)) K dX9_waiting_9 (by decide) ?_
  obtain rfl := Option.some.inj h
  exact RT _ _ dX9_waiting_11
set_option maxHeartbeats 4000000 in
set_option maxRecDepth 100000 in
theorem wCT_waiting {ad : Nat → Nat} {G : GG} {X : Cx} {c : Nat → ClassId} (hG : gok G) (K : Ok X cX9_waiting RX9 4 6 c) {r : Int32 × SS} (RT : ∀ pc ls, decode cX9_waiting pc = .ok (.ireturn, 1) → V X 4 0 0 pc ls [.int r.1] (wC ad c G r.2)) (s : SS) (x1 : Int32) (h : CT_waiting G s x1 = some r) : V X 4 0 0 0 [(0, .ref (ad 0)), (1, .int x1)] [] (wC ad c G s) := by
  rw [CT_waiting] at h
  refine v_iload_n K 1 rfl dX9_waiting_0 ?_
  refine v_if_lt K 9 dX9_waiting_1 (by decide) (fun q1 => ?_) (fun q1 => ?_)
  · replace h := if_e h q1
    refine v_drop [] [] rfl ?_
    exact wCT_waiting_9 hG K RT _ h
  · replace h := if_n h q1
    refine v_iload_n K 1 rfl dX9_waiting_4 ?_
    refine v_iconst (v := (1 : Int32)) K dX9_waiting_5 (by decide) ?_
    refine v_icmp_le K 12 dX9_waiting_6 (by decide) (fun q2 => ?_) (fun q2 => ?_)
    · replace h := if_e h q2
      refine v_aload_n K 0 rfl dX9_waiting_12 ?_
      obtain ⟨r5, s4, e3, h⟩ := bnd_e h
      refine vC_calli K [] [] cw_RX9_117 (cCT_isNoCafe hG e3) rcT rfl rfl (Nat.le_of_ble_eq_true rfl) (by decide) dX9_waiting_13 ?_
      refine v_if_eq K 22 dX9_waiting_16 (by decide) (fun q6 => ?_) (fun q6 => ?_)
      · replace h := if_e h q6
        refine v_aload_n K 0 rfl dX9_waiting_22 ?_
        obtain ⟨s8, e7, h⟩ := bnd0_e h
        refine vC_callv K [] [] cw_RX9_236 (cCT_reckonCoins hG e7) rcT rfl rfl (Nat.le_of_ble_eq_true rfl) (by decide) dX9_waiting_23 ?_
        refine v_iconst (v := (0 : Int32)) K dX9_waiting_26 (by decide) ?_
        refine v_istore_n K [(0, .ref (ad 0)), (1, .int x1), (2, .int (0 : Int32))] [1, 2, 0] dX9_waiting_27 rfl (by decide) rfl ?_
        refine v_iconst (v := (1 : Int32)) K dX9_waiting_28 (by decide) ?_
        refine v_istore_n K [(0, .ref (ad 0)), (1, .int x1), (2, .int (0 : Int32)), (3, .int (1 : Int32))] [1, 2, 3, 0] dX9_waiting_29 rfl (by decide) rfl ?_
        exact wCT_waiting_30 hG K RT fuel _ _ _ _ h
      · replace h := if_n h q6
        refine v_bipush (v := (-3 : Int32)) K dX9_waiting_19 (by decide) ?_
        obtain rfl := Option.some.inj h
        exact RT _ _ dX9_waiting_21
    · replace h := if_n h q2
      refine v_drop [] [] rfl ?_
      exact wCT_waiting_9 hG K RT _ h
theorem cCT_waiting {l : Launch} {D : va_G} {c : Nat → ClassId} {s s' : SS} {ad : Nat → Nat} {G : GG} (hG : gok G)  {x1 : Int32} {r : Int32} (h : CT_waiting G s x1 = some (r, s')) : Ci l D c yX9_waiting cX9_waiting 4 (some .int) 6 [.ref (ad 0), .int x1] (wC ad c G s) r (wC ad c G s') := Ci.of (by decide) (Nat.le_of_ble_eq_true rfl) (fun X K RT => wCT_waiting hG K (r := (r, s')) RT s x1 h)
set_option maxHeartbeats 4000000 in
set_option maxRecDepth 100000 in
theorem wCT_worth {ad : Nat → Nat} {G : GG} {X : Cx} {c : Nat → ClassId} (hG : gok G) (K : Ok X cX9_worth RX9 3 6 c) {r : Int64 × SS} (RT : ∀ pc ls, decode cX9_worth pc = .ok (.lreturn, 1) → V X 3 0 0 pc ls [.long r.1] (wC ad c G r.2)) (s : SS) (x1 : Int32) (h : CT_worth G s x1 = some r) : V X 3 0 0 0 [(0, .ref (ad 0)), (1, .int x1)] [] (wC ad c G s) := by
  rw [CT_worth] at h
  refine v_aload_n K 0 rfl dX9_worth_0 ?_
  refine gC_RX9_24 K dX9_worth_1 ?_
  refine v_iload_n K 1 rfl dX9_worth_4 ?_
  obtain ⟨r3, s2, e1, h⟩ := bnd_e h
  refine vC_callq K [.int x1] [] cw_RX9_151 (cCR_numbered hG e1) rcR rfl rfl (Nat.le_of_ble_eq_true rfl) (by decide) dX9_worth_5 ?_
  cases r3 with
  | none =>
    replace h := oc_n h
    refine v_ifnonnullN K dX9_worth_8 ?_
    refine v_ldc2 (v := (-9223372036854775808 : Int64)) K kC_212 dX9_worth_11 ?_
    obtain rfl := Option.some.inj h
    exact RT _ _ dX9_worth_14
  | some a4 =>
    replace h := oc_s h
    obtain ⟨b5, h⟩ := ob_e h
    refine v_ifnonnull K 15 dX9_worth_8 (by decide) ?_
    refine v_aload_n K 0 rfl dX9_worth_15 ?_
    obtain ⟨s7, e6, h⟩ := bnd0_e h
    refine vC_callv K [] [] cw_RX9_178 (cCT_reckonDay hG e6) rcT rfl rfl (Nat.le_of_ble_eq_true rfl) (by decide) dX9_worth_16 ?_
    refine v_aload_n K 0 rfl dX9_worth_19 ?_
    refine gC_RX9_51 K dX9_worth_20 ?_
    refine v_aload_n K 0 rfl dX9_worth_23 ?_
    refine gC_RX9_12 K dX9_worth_24 ?_
    refine v_iload_n K 1 rfl dX9_worth_27 ?_
    refine v_sipush (v := (399 : Int32)) K dX9_worth_28 (by decide) ?_
    obtain ⟨r10, s9, e8, h⟩ := bnd_e h
    refine vC_calli K [.ref (ad 1), .int x1, .int (399 : Int32)] [] cw_RX9_199 (cCD_run hG rfl rfl e8) (rcD rfl) rfl rfl (Nat.le_of_ble_eq_true rfl) (by decide) dX9_worth_31 ?_
    refine v_istore_n K [(0, .ref (ad 0)), (2, .int r10)] [1, 0] dX9_worth_34 rfl (by decide) rfl ?_
    refine v_aload_n K 0 rfl dX9_worth_35 ?_
    refine gC_RX9_47 K dX9_worth_36 ?_
    obtain ⟨r13, s12, e11, h⟩ := bnd_e h
    refine vC_calli K [] [] cw_RX9_209 (cCD_coinInAll hG rfl e11) (rcD rfl) rfl rfl (Nat.le_of_ble_eq_true rfl) (by decide) dX9_worth_39 ?_
    refine v_i2l K dX9_worth_42 ?_
    refine v_iload_n K 1 rfl dX9_worth_43 ?_
    refine v_i2l K dX9_worth_44 ?_
    refine v_lsub K dX9_worth_45 ?_
    obtain rfl := Option.some.inj h
    exact RT _ _ dX9_worth_46
theorem cCT_worth {l : Launch} {D : va_G} {c : Nat → ClassId} {s s' : SS} {ad : Nat → Nat} {G : GG} (hG : gok G)  {x1 : Int32} {r : Int64} (h : CT_worth G s x1 = some (r, s')) : Cl l D c yX9_worth cX9_worth 3 (some .long) 6 [.ref (ad 0), .int x1] (wC ad c G s) r (wC ad c G s') := Cl.of (by decide) (Nat.le_of_ble_eq_true rfl) (fun X K RT => wCT_worth hG K (r := (r, s')) RT s x1 h)
set_option maxHeartbeats 4000000 in
set_option maxRecDepth 100000 in
theorem wCP_place_161 {ad : Nat → Nat} {G : GG} {n0 : Nat} {rc : SS → Int32 → Int32 → Option SS} {X : Cx} {c : Nat → ClassId} (hG : gok G) (hrc : ∀ s x1 x2 s', rc s x1 x2 = some s' → Cv (xl X) (xD X) c yX5_place cX5_place 4 none n0 [.ref (ad 35), .int x1, .int x2] (wC ad c G s) (wC ad c G s')) (K : Ok X cX5_place RX5 4 (n0 + 1) c) {r : SS} (RT : ∀ pc ls, decode cX5_place pc = .ok (.return_, 1) → V X 4 0 0 pc ls [] (wC ad c G r)) {k68 : Int32 → Int32 → Int32 → SS → Option SS} (hk68 : ∀ (x1 : Int32) (x2 : Int32) (x3 : Int32) (s : SS), k68 x1 x2 x3 s = some r → V X 4 0 0 68 [(0, .ref (ad 35)), (1, .int x1), (2, .int x2), (3, .int x3)] [] (wC ad c G s)) : ∀ (x1 : Int32) (x2 : Int32) (x3 : Int32) (s : SS), CP_place_161 G rc k68 x1 x2 x3 s = some r → V X 4 0 0 161 [(0, .ref (ad 35)), (1, .int x1), (2, .int x2), (3, .int x3)] [] (wC ad c G s) := by
  intro x1 x2 x3 s h
  rw [CP_place_161] at h
  refine v_iinc (v := (x3 + (1 : Int32))) K 3 [(0, .ref (ad 35)), (1, .int x1), (2, .int x2), (3, .int (x3 + (1 : Int32)))] [1, 2, 3, 0] dX5_place_161 rfl rfl (by decide) rfl ?_
  refine v_goto K 68 dX5_place_164 (by decide) ?_
  exact hk68 _ _ _ _ h
set_option maxHeartbeats 4000000 in
set_option maxRecDepth 100000 in
theorem wCP_place_68 {ad : Nat → Nat} {G : GG} {n0 : Nat} {rc : SS → Int32 → Int32 → Option SS} {X : Cx} {c : Nat → ClassId} (hG : gok G) (hrc : ∀ s x1 x2 s', rc s x1 x2 = some s' → Cv (xl X) (xD X) c yX5_place cX5_place 4 none n0 [.ref (ad 35), .int x1, .int x2] (wC ad c G s) (wC ad c G s')) (K : Ok X cX5_place RX5 4 (n0 + 1) c) {r : SS} (RT : ∀ pc ls, decode cX5_place pc = .ok (.return_, 1) → V X 4 0 0 pc ls [] (wC ad c G r)) : ∀ (n : Nat) (x1 : Int32) (x2 : Int32) (x3 : Int32) (s : SS), CP_place_68 G rc n x1 x2 x3 s = some r → V X 4 0 0 68 [(0, .ref (ad 35)), (1, .int x1), (2, .int x2), (3, .int x3)] [] (wC ad c G s) := by
  intro n
  induction n with
  | zero => intro _ _ _ _ h; cases h
  | succ n ih =>
    intro x1 x2 x3 s h
    rw [CP_place_68] at h
    refine v_iload_n K 3 rfl dX5_place_68 ?_
    refine v_aload_n K 0 rfl dX5_place_69 ?_
    refine gC_RX5_33 K dX5_place_70 ?_
    refine gC_RX5_95 rfl (v := (s 1 2)) K dX5_place_73 rfl ?_
    refine v_icmp_ge K 167 dX5_place_76 (by decide) (fun q8 => ?_) (fun q8 => ?_)
    · replace h := if_e h q8
      refine v_aload_n K 0 rfl dX5_place_167 ?_
      refine gC_RX5_15 K dX5_place_168 ?_
      refine v_iload_n K 1 rfl dX5_place_171 ?_
      refine v_bipush (v := (-9 : Int32)) K dX5_place_172 (by decide) ?_
      obtain ⟨b9, h⟩ := ob_e h
      refine sC K rfl b9 dX5_place_174 ?_
      refine v_aload_n K 0 rfl dX5_place_175 ?_
      refine v_iload_n K 1 rfl dX5_place_176 ?_
      refine v_iconst (v := (1 : Int32)) K dX5_place_177 (by decide) ?_
      refine v_iadd K dX5_place_178 ?_
      refine v_iload_n K 2 rfl dX5_place_179 ?_
      obtain ⟨s11, e10, h⟩ := bnd0_e h
      refine vC_callv K [.int (x1 + (1 : Int32)), .int x2] [] cw_RX5_88 (hrc _ _ _ _ e10) rcP rfl rfl (Nat.le_of_ble_eq_true rfl) (Nat.le_refl _) dX5_place_180 ?_
      obtain rfl := Option.some.inj h
      exact RT _ _ dX5_place_183
    · replace h := if_n h q8
      refine v_aload_n K 0 rfl dX5_place_79 ?_
      refine gC_RX5_33 K dX5_place_80 ?_
      refine gC_RX5_100 rfl K dX5_place_83 ?_
      refine v_iload_n K 3 rfl dX5_place_86 ?_
      obtain ⟨b12, h⟩ := ob_e h
      refine lC (v := (s 3 x3.toNatClampNeg)) K (aH_2 rfl) b12 dX5_place_87 rfl ?_
      refine v_aload_n K 0 rfl dX5_place_88 ?_
      refine gC_RX5_18 K dX5_place_89 ?_
      refine v_iload_n K 1 rfl dX5_place_92 ?_
      obtain ⟨b13, h⟩ := ob_e h
      refine lC (v := (s 38 x1.toNatClampNeg)) K rfl b13 dX5_place_93 rfl ?_
      refine v_icmp_lt K 161 dX5_place_94 (by decide) (fun q14 => ?_) (fun q14 => ?_)
      · replace h := if_e h q14
        exact wCP_place_161 hG hrc K RT (fun a0 a1 a2 a3 e => ih a0 a1 a2 a3 e) _ _ _ _ h
      · replace h := if_n h q14
        refine v_aload_n K 0 rfl dX5_place_97 ?_
        refine gC_RX5_30 K dX5_place_98 ?_
        refine v_iload_n K 3 rfl dX5_place_101 ?_
        obtain ⟨b15, h⟩ := ob_e h
        refine lC (v := (s 42 x3.toNatClampNeg)) K rfl b15 dX5_place_102 rfl ?_
        refine v_aload_n K 0 rfl dX5_place_103 ?_
        refine gC_RX5_24 K dX5_place_104 ?_
        refine v_iload_n K 1 rfl dX5_place_107 ?_
        obtain ⟨b16, h⟩ := ob_e h
        refine lC (v := (s 40 x1.toNatClampNeg)) K rfl b16 dX5_place_108 rfl ?_
        refine v_iand K dX5_place_109 ?_
        refine v_if_ne K 161 dX5_place_110 (by decide) (fun q17 => ?_) (fun q17 => ?_)
        · replace h := if_n h q17
          exact wCP_place_161 hG hrc K RT (fun a0 a1 a2 a3 e => ih a0 a1 a2 a3 e) _ _ _ _ h
        · replace h := if_e h q17
          refine v_aload_n K 0 rfl dX5_place_113 ?_
          refine gC_RX5_30 K dX5_place_114 ?_
          refine v_iload_n K 3 rfl dX5_place_117 ?_
          refine v_dup2_11 K dX5_place_118 rfl rfl ?_
          obtain ⟨b18, h⟩ := ob_e h
          refine lC (v := (s 42 x3.toNatClampNeg)) K rfl b18 dX5_place_119 rfl ?_
          refine v_iconst (v := (1 : Int32)) K dX5_place_120 (by decide) ?_
          refine v_iload_n K 1 rfl dX5_place_121 ?_
          refine v_ishl K dX5_place_122 ?_
          refine v_ior K dX5_place_123 ?_
          obtain ⟨b19, h⟩ := ob_e h
          refine sC K rfl b19 dX5_place_124 ?_
          refine v_aload_n K 0 rfl dX5_place_125 ?_
          refine gC_RX5_15 K dX5_place_126 ?_
          refine v_iload_n K 1 rfl dX5_place_129 ?_
          refine v_iload_n K 3 rfl dX5_place_130 ?_
          obtain ⟨b20, h⟩ := ob_e h
          refine sC K rfl b20 dX5_place_131 ?_
          refine v_aload_n K 0 rfl dX5_place_132 ?_
          refine v_iload_n K 1 rfl dX5_place_133 ?_
          refine v_iconst (v := (1 : Int32)) K dX5_place_134 (by decide) ?_
          refine v_iadd K dX5_place_135 ?_
          refine v_iload_n K 2 rfl dX5_place_136 ?_
          refine v_aload_n K 0 rfl dX5_place_137 ?_
          refine gC_RX5_21 K dX5_place_138 ?_
          refine v_iload_n K 1 rfl dX5_place_141 ?_
          obtain ⟨b21, h⟩ := ob_e h
          refine lC (v := (s 39 x1.toNatClampNeg)) K rfl b21 dX5_place_142 rfl ?_
          refine v_iadd K dX5_place_143 ?_
          obtain ⟨s23, e22, h⟩ := bnd0_e h
          refine vC_callv K [.int (x1 + (1 : Int32)), .int (x2 + (s 39 x1.toNatClampNeg))] [] cw_RX5_88 (hrc _ _ _ _ e22) rcP rfl rfl (Nat.le_of_ble_eq_true rfl) (Nat.le_refl _) dX5_place_144 ?_
          refine v_aload_n K 0 rfl dX5_place_147 ?_
          refine gC_RX5_30 K dX5_place_148 ?_
          refine v_iload_n K 3 rfl dX5_place_151 ?_
          refine v_dup2_11 K dX5_place_152 rfl rfl ?_
          obtain ⟨b24, h⟩ := ob_e h
          refine lC (v := (s23 42 x3.toNatClampNeg)) K rfl b24 dX5_place_153 rfl ?_
          refine v_iconst (v := (1 : Int32)) K dX5_place_154 (by decide) ?_
          refine v_iload_n K 1 rfl dX5_place_155 ?_
          refine v_ishl K dX5_place_156 ?_
          refine v_iconst (v := (-1 : Int32)) K dX5_place_157 (by decide) ?_
          refine v_ixor K dX5_place_158 ?_
          refine v_iand K dX5_place_159 ?_
          obtain ⟨b25, h⟩ := ob_e h
          refine sC K rfl b25 dX5_place_160 ?_
          exact wCP_place_161 hG hrc K RT (fun a0 a1 a2 a3 e => ih a0 a1 a2 a3 e) _ _ _ _ h
set_option maxHeartbeats 4000000 in
set_option maxRecDepth 100000 in
theorem wCP_place_39 {ad : Nat → Nat} {G : GG} {n0 : Nat} {rc : SS → Int32 → Int32 → Option SS} {X : Cx} {c : Nat → ClassId} (hG : gok G) (hrc : ∀ s x1 x2 s', rc s x1 x2 = some s' → Cv (xl X) (xD X) c yX5_place cX5_place 4 none n0 [.ref (ad 35), .int x1, .int x2] (wC ad c G s) (wC ad c G s')) (K : Ok X cX5_place RX5 4 (n0 + 1) c) {r : SS} (RT : ∀ pc ls, decode cX5_place pc = .ok (.return_, 1) → V X 4 0 0 pc ls [] (wC ad c G r)) : ∀ (n : Nat) (x3 : Int32) (s : SS), CP_place_39 G rc n x3 s = some r → V X 4 0 0 39 [(0, .ref (ad 35)), (3, .int x3)] [] (wC ad c G s) := by
  intro n
  induction n with
  | zero => intro _ _ h; cases h
  | succ n ih =>
    intro x3 s h
    rw [CP_place_39] at h
    refine v_iload_n K 1 rfl dX5_place_39 ?_
    refine v_aload_n K 0 rfl dX5_place_40 ?_
    refine gC_RX5_53 (v := (s 35 10)) K dX5_place_41 rfl ?_
    refine v_icmp_ge K 65 dX5_place_44 (by decide) (fun q5 => ?_) (fun q5 => ?_)
    · replace h := if_e h q5
      obtain rfl := Option.some.inj h
      exact RT _ _ dX5_place_65
    · replace h := if_n h q5
      refine v_aload_n K 0 rfl dX5_place_47 ?_
      refine gC_RX5_9 K dX5_place_48 ?_
      refine v_iload_n K 1 rfl dX5_place_51 ?_
      refine v_aload_n K 0 rfl dX5_place_52 ?_
      refine gC_RX5_15 K dX5_place_53 ?_
      refine v_iload_n K 1 rfl dX5_place_56 ?_
      obtain ⟨b6, h⟩ := ob_e h
      refine lC (v := (s 37 x3.toNatClampNeg)) K rfl b6 dX5_place_57 rfl ?_
      obtain ⟨b7, h⟩ := ob_e h
      refine sC K rfl b7 dX5_place_58 ?_
      refine v_iinc (v := (x3 + (1 : Int32))) K 1 [(0, .ref (ad 35)), (3, .int (x3 + (1 : Int32)))] [1, 0] dX5_place_59 rfl rfl (by decide) rfl ?_
      refine v_goto K 39 dX5_place_62 (by decide) ?_
      exact ih _ _ h
set_option maxHeartbeats 4000000 in
set_option maxRecDepth 100000 in
theorem wCP_place_23 {ad : Nat → Nat} {G : GG} {n0 : Nat} {rc : SS → Int32 → Int32 → Option SS} {X : Cx} {c : Nat → ClassId} (hG : gok G) (hrc : ∀ s x1 x2 s', rc s x1 x2 = some s' → Cv (xl X) (xD X) c yX5_place cX5_place 4 none n0 [.ref (ad 35), .int x1, .int x2] (wC ad c G s) (wC ad c G s')) (K : Ok X cX5_place RX5 4 (n0 + 1) c) {r : SS} (RT : ∀ pc ls, decode cX5_place pc = .ok (.return_, 1) → V X 4 0 0 pc ls [] (wC ad c G r)) : ∀ (s : SS), CP_place_23 G rc s = some r → V X 4 0 0 23 [] [] (wC ad c G s) := by
  intro s h
  rw [CP_place_23] at h
  obtain rfl := Option.some.inj h
  exact RT _ _ dX5_place_23
set_option maxHeartbeats 4000000 in
set_option maxRecDepth 100000 in
theorem wCP_place {ad : Nat → Nat} {G : GG} {n0 : Nat} {rc : SS → Int32 → Int32 → Option SS} {X : Cx} {c : Nat → ClassId} (hG : gok G) (hrc : ∀ s x1 x2 s', rc s x1 x2 = some s' → Cv (xl X) (xD X) c yX5_place cX5_place 4 none n0 [.ref (ad 35), .int x1, .int x2] (wC ad c G s) (wC ad c G s')) (K : Ok X cX5_place RX5 4 (n0 + 1) c) {r : SS} (RT : ∀ pc ls, decode cX5_place pc = .ok (.return_, 1) → V X 4 0 0 pc ls [] (wC ad c G r)) (s : SS) (x1 : Int32) (x2 : Int32) (h : CP_place_b G rc s x1 x2 = some r) : V X 4 0 0 0 [(0, .ref (ad 35)), (1, .int x1), (2, .int x2)] [] (wC ad c G s) := by
  rw [CP_place_b] at h
  refine v_iload_n K 1 rfl dX5_place_0 ?_
  refine v_aload_n K 0 rfl dX5_place_1 ?_
  refine gC_RX5_53 (v := (s 35 10)) K dX5_place_2 rfl ?_
  refine v_icmp_gt K 23 dX5_place_5 (by decide) (fun q1 => ?_) (fun q1 => ?_)
  · replace h := if_e h q1
    refine v_drop [] [] rfl ?_
    exact wCP_place_23 hG hrc K RT _ h
  · replace h := if_n h q1
    refine v_iload_n K 2 rfl dX5_place_8 ?_
    refine v_aload_n K 0 rfl dX5_place_9 ?_
    refine gC_RX5_27 K dX5_place_10 ?_
    refine v_iload_n K 1 rfl dX5_place_13 ?_
    obtain ⟨b2, h⟩ := ob_e h
    refine lC (v := (s 41 x1.toNatClampNeg)) K rfl b2 dX5_place_14 rfl ?_
    refine v_iadd K dX5_place_15 ?_
    refine v_aload_n K 0 rfl dX5_place_16 ?_
    refine gC_RX5_85 (v := (s 35 1)) K dX5_place_17 rfl ?_
    refine v_icmp_gt K 24 dX5_place_20 (by decide) (fun q3 => ?_) (fun q3 => ?_)
    · replace h := if_e h q3
      refine v_iload_n K 1 rfl dX5_place_24 ?_
      refine v_aload_n K 0 rfl dX5_place_25 ?_
      refine gC_RX5_53 (v := (s 35 10)) K dX5_place_26 rfl ?_
      refine v_icmp_ne K 66 dX5_place_29 (by decide) (fun q4 => ?_) (fun q4 => ?_)
      · replace h := if_n h q4
        refine v_iconst (v := (0 : Int32)) K dX5_place_66 (by decide) ?_
        refine v_istore_n K [(0, .ref (ad 35)), (1, .int x1), (2, .int x2), (3, .int (0 : Int32))] [1, 2, 3, 0] dX5_place_67 rfl (by decide) rfl ?_
        exact wCP_place_68 hG hrc K RT fuel _ _ _ _ h
      · replace h := if_e h q4
        refine v_aload_n K 0 rfl dX5_place_32 ?_
        refine v_iload_n K 2 rfl dX5_place_33 ?_
        refine pC_RX5_85 K dX5_place_34 ?_
        refine v_iconst (v := (0 : Int32)) K dX5_place_37 (by decide) ?_
        refine v_istore_n K [(0, .ref (ad 35)), (3, .int (0 : Int32))] [1, 0] dX5_place_38 rfl (by decide) rfl ?_
        exact wCP_place_39 hG hrc K RT fuel _ _ h
    · replace h := if_n h q3
      refine v_drop [] [] rfl ?_
      exact wCP_place_23 hG hrc K RT _ h
theorem cCP_place {l : Launch} {D : va_G} {c : Nat → ClassId} {ad : Nat → Nat} {G : GG} (hG : gok G) : ∀ (n : Nat) (s : SS) (x1 x2 : Int32) (s' : SS), CP_place G n s x1 x2 = some s' → Cv l D c yX5_place cX5_place 4 none n [.ref (ad 35), .int x1, .int x2] (wC ad c G s) (wC ad c G s') := by
  intro n
  induction n generalizing l D with
  | zero => intro s x1 x2 s' h; cases h
  | succ n ih =>
    intro s x1 x2 s' h
    rw [CP_place] at h
    exact Cv.of (by decide) (Nat.le_of_ble_eq_true rfl) (fun X K RT => wCP_place hG (fun s a b t e => ih s a b t e) K RT s x1 x2 h)
theorem cu_RX5_68_0 : cwOok RX5 68 RX2 RX2 yX2_coinFor yX2_coinFor cX2_coinFor 2 (some .int) 1 := ⟨⟨by decide, by decide, by decide +kernel⟩, by decide, all6 (BG_ix 605 (by decide +kernel) rfl) (BG_ix 571 (by decide +kernel) rfl) (BG_ix 569 (by decide +kernel) rfl) (BG_ix 570 (by decide +kernel) rfl) (BG_ix 569 (by decide +kernel) rfl) (BG_ix 69 (by decide +kernel) rfl), (BG_ix 576 (by decide +kernel) rfl), cX2_coinFor, 2, (some .int), (BG_ix 576 (by decide +kernel) rfl)⟩
theorem cu_RX5_68_1 : cwOok RX5 68 RX7 RX2 yX2_coinFor yX7_coinFor cX7_coinFor 2 (some .int) 1 := ⟨⟨by decide, by decide, by decide +kernel⟩, by decide, all6 (BG_ix 605 (by decide +kernel) rfl) (BG_ix 571 (by decide +kernel) rfl) (BG_ix 569 (by decide +kernel) rfl) (BG_ix 575 (by decide +kernel) rfl) (BG_ix 573 (by decide +kernel) rfl) (BG_ix 70 (by decide +kernel) rfl), (BG_ix 574 (by decide +kernel) rfl), cX2_coinFor, 2, (some .int), (BG_ix 576 (by decide +kernel) rfl)⟩
theorem cu_RX5_68_2 : cwOok RX5 68 RX4 RX2 yX2_coinFor yX7_coinFor cX7_coinFor 2 (some .int) 1 := ⟨⟨by decide, by decide, by decide +kernel⟩, by decide, all6 (BG_ix 605 (by decide +kernel) rfl) (BG_ix 571 (by decide +kernel) rfl) (BG_ix 569 (by decide +kernel) rfl) (BG_ix 572 (by decide +kernel) rfl) (BG_ix 573 (by decide +kernel) rfl) (BG_ix 70 (by decide +kernel) rfl), (BG_ix 574 (by decide +kernel) rfl), cX2_coinFor, 2, (some .int), (BG_ix 576 (by decide +kernel) rfl)⟩
theorem vU_RX5_68 {X : Cx} {cc : ByteArray} {nL d pc : Nat} {c : Nat → ClassId} {ls : List (Nat × Value)} {ad : Nat → Nat} {G : GG} {s s' : SS} {a : Nat} {x1 : Int32} {r : Int32} (hG : gok G) (ha : gm G a = true) (K : Ok X cc RX5 nL d c) (rest : List Value) (h : Cv_coinFor G a s x1 = some (r, s')) (hrm : (rest.map fun v => v.category).sum ≤ 8) (hdc : 0 + 1 ≤ d) (hd : decode cc pc = .ok (.invokevirtual 68, 3)) (k : V X nL 0 0 (pc + 3) ls (.int r :: rest) (wC ad c G s')) : V X nL 0 0 pc ls (.int x1 :: .ref a :: rest) (wC ad c G s) := by
  obtain ⟨q, hq⟩ := gpos (ad := ad) (c := c) (s := s) ha
  rw [Cv_coinFor] at h
  rcases gk3 G a with e | e | e <;> rw [e] at h hq
  · rw [if_pos rfl] at h
    exact v_callO K [.int x1] rest cu_RX5_68_0 (cCG_coinFor hG ha h) q hq rfl (wC_same ad c G s s') rfl rfl hrm (by omega) z0 hd k
  · rw [if_neg (by decide), if_pos rfl] at h
    exact v_callO K [.int x1] rest cu_RX5_68_1 (cCY_coinFor hG ha h) q hq rfl (wC_same ad c G s s') rfl rfl hrm (by omega) z0 hd k
  · rw [if_neg (by decide), if_neg (by decide)] at h
    exact v_callO K [.int x1] rest cu_RX5_68_2 (cCY_coinFor hG ha h) q hq rfl (wC_same ad c G s s') rfl rfl hrm (by omega) z0 hd k
set_option maxHeartbeats 4000000 in
set_option maxRecDepth 100000 in
theorem wCP_find_130 {ad : Nat → Nat} {G : GG} {X : Cx} {c : Nat → ClassId} (hG : gok G) (K : Ok X cX5_find RX5 3 10 c) {r : SS} (RT : ∀ pc ls, decode cX5_find pc = .ok (.return_, 1) → V X 3 0 0 pc ls [] (wC ad c G r)) {k95 : Int32 → SS → Option SS} (hk95 : ∀ (x1 : Int32) (s : SS), k95 x1 s = some r → V X 3 0 0 95 [(0, .ref (ad 35)), (1, .int x1)] [] (wC ad c G s)) : ∀ (y1 : Int32) (y2 : Int32) (y3 : Int32) (x1 : Int32) (s : SS), CP_find_130 G k95 y1 y2 y3 x1 s = some r → V X 3 0 0 130 [(0, .ref (ad 35)), (1, .int x1)] [.int y3, .int y2, .int y1, .ref (ad 41)] (wC ad c G s) := by
  intro y1 y2 y3 x1 s h
  rw [CP_find_130] at h
  refine v_iadd K dX5_find_130 ?_
  obtain ⟨b29, h⟩ := ob_e h
  refine sC K rfl b29 dX5_find_131 ?_
  refine v_iinc (v := (x1 + (-1 : Int32))) K 1 [(0, .ref (ad 35)), (1, .int (x1 + (-1 : Int32)))] [1, 0] dX5_find_132 rfl rfl (by decide) rfl ?_
  refine v_goto K 95 dX5_find_135 (by decide) ?_
  exact hk95 _ _ h
set_option maxHeartbeats 4000000 in
set_option maxRecDepth 100000 in
theorem wCP_find_95 {ad : Nat → Nat} {G : GG} {X : Cx} {c : Nat → ClassId} (hG : gok G) (K : Ok X cX5_find RX5 3 10 c) {r : SS} (RT : ∀ pc ls, decode cX5_find pc = .ok (.return_, 1) → V X 3 0 0 pc ls [] (wC ad c G r)) : ∀ (n : Nat) (x1 : Int32) (s : SS), CP_find_95 G n x1 s = some r → V X 3 0 0 95 [(0, .ref (ad 35)), (1, .int x1)] [] (wC ad c G s) := by
  intro n
  induction n with
  | zero => intro _ _ h; cases h
  | succ n ih =>
    intro x1 s h
    rw [CP_find_95] at h
    refine v_iload_n K 1 rfl dX5_find_95 ?_
    refine v_if_lt K 138 dX5_find_96 (by decide) (fun q18 => ?_) (fun q18 => ?_)
    · replace h := if_e h q18
      refine v_aload_n K 0 rfl dX5_find_138 ?_
      refine gC_RX5_30 K dX5_find_139 ?_
      refine v_iconst (v := (0 : Int32)) K dX5_find_142 (by decide) ?_
      obtain ⟨s20, e19, h⟩ := bnd0_e h
      refine v_callwv K [.ref (ad 42), .int (0 : Int32)] [] cw_RX5_79 (cCJ_fill hG rfl e19) (wC_same ad c G _ _) rfl rfl (Nat.le_of_ble_eq_true rfl) (by decide) z0 dX5_find_143 ?_
      refine v_aload_n K 0 rfl dX5_find_146 ?_
      refine v_iconst (v := (-1 : Int32)) K dX5_find_147 (by decide) ?_
      refine pC_RX5_85 K dX5_find_148 ?_
      refine v_aload_n K 0 rfl dX5_find_151 ?_
      refine v_iconst (v := (0 : Int32)) K dX5_find_152 (by decide) ?_
      refine v_iconst (v := (0 : Int32)) K dX5_find_153 (by decide) ?_
      obtain ⟨s22, e21, h⟩ := bnd0_e h
      refine vC_callv K [.int (0 : Int32), .int (0 : Int32)] [] cw_RX5_88 (cCP_place hG 9 _ _ _ _ e21) rcP rfl rfl (Nat.le_of_ble_eq_true rfl) (by decide) dX5_find_154 ?_
      obtain rfl := Option.some.inj h
      exact RT _ _ dX5_find_157
    · replace h := if_n h q18
      refine v_aload_n K 0 rfl dX5_find_99 ?_
      refine gC_RX5_27 K dX5_find_100 ?_
      refine v_iload_n K 1 rfl dX5_find_103 ?_
      refine v_aload_n K 0 rfl dX5_find_104 ?_
      refine gC_RX5_27 K dX5_find_105 ?_
      refine v_iload_n K 1 rfl dX5_find_108 ?_
      refine v_iconst (v := (1 : Int32)) K dX5_find_109 (by decide) ?_
      refine v_iadd K dX5_find_110 ?_
      obtain ⟨b23, h⟩ := ob_e h
      refine lC (v := (s 41 (x1 + (1 : Int32)).toNatClampNeg)) K rfl b23 dX5_find_111 rfl ?_
      refine v_aload_n K 0 rfl dX5_find_112 ?_
      refine v_iload_n K 1 rfl dX5_find_113 ?_
      obtain ⟨r26, s25, e24, h⟩ := bnd_e h
      refine vC_calli K [.int x1] [.int (s 41 (x1 + (1 : Int32)).toNatClampNeg), .int x1, .ref (ad 41)] cw_RX5_75 (cCP_fitsSomewhere hG e24) rcP rfl rfl (Nat.le_of_ble_eq_true rfl) (by decide) dX5_find_114 ?_
      refine v_if_eq K 129 dX5_find_117 (by decide) (fun q27 => ?_) (fun q27 => ?_)
      · replace h := if_e h q27
        refine v_iconst (v := (0 : Int32)) K dX5_find_129 (by decide) ?_
        exact wCP_find_130 hG K RT (fun a0 a1 e => ih a0 a1 e) _ _ _ _ _ h
      · replace h := if_n h q27
        refine v_aload_n K 0 rfl dX5_find_120 ?_
        refine gC_RX5_21 K dX5_find_121 ?_
        refine v_iload_n K 1 rfl dX5_find_124 ?_
        obtain ⟨b28, h⟩ := ob_e h
        refine lC (v := (s25 39 x1.toNatClampNeg)) K rfl b28 dX5_find_125 rfl ?_
        refine v_goto K 130 dX5_find_126 (by decide) ?_
        exact wCP_find_130 hG K RT (fun a0 a1 e => ih a0 a1 e) _ _ _ _ _ h
set_option maxHeartbeats 4000000 in
set_option maxRecDepth 100000 in
theorem wCP_find_18 {ad : Nat → Nat} {G : GG} {X : Cx} {c : Nat → ClassId} (hG : gok G) (K : Ok X cX5_find RX5 3 10 c) {r : SS} (RT : ∀ pc ls, decode cX5_find pc = .ok (.return_, 1) → V X 3 0 0 pc ls [] (wC ad c G r)) : ∀ (n : Nat) (x1 : Int32) (s : SS), CP_find_18 G n x1 s = some r → V X 3 0 0 18 [(0, .ref (ad 35)), (1, .int x1)] [] (wC ad c G s) := by
  intro n
  induction n with
  | zero => intro _ _ h; cases h
  | succ n ih =>
    intro x1 s h
    rw [CP_find_18] at h
    refine v_iload_n K 1 rfl dX5_find_18 ?_
    refine v_aload_n K 0 rfl dX5_find_19 ?_
    refine gC_RX5_53 (v := (s 35 10)) K dX5_find_20 rfl ?_
    refine v_icmp_ge K 78 dX5_find_23 (by decide) (fun q1 => ?_) (fun q1 => ?_)
    · replace h := if_e h q1
      refine v_aload_n K 0 rfl dX5_find_78 ?_
      refine gC_RX5_27 K dX5_find_79 ?_
      refine v_aload_n K 0 rfl dX5_find_82 ?_
      refine gC_RX5_53 (v := (s 35 10)) K dX5_find_83 rfl ?_
      refine v_iconst (v := (0 : Int32)) K dX5_find_86 (by decide) ?_
      obtain ⟨b2, h⟩ := ob_e h
      refine sC K rfl b2 dX5_find_87 ?_
      refine v_aload_n K 0 rfl dX5_find_88 ?_
      refine gC_RX5_53 (v := (s 35 10)) K dX5_find_89 rfl ?_
      refine v_iconst (v := (1 : Int32)) K dX5_find_92 (by decide) ?_
      refine v_isub K dX5_find_93 ?_
      refine v_istore_n K [(0, .ref (ad 35)), (1, .int ((s 35 10) - (1 : Int32)))] [1, 0] dX5_find_94 rfl (by decide) rfl ?_
      exact wCP_find_95 hG K RT fuel _ _ h
    · replace h := if_n h q1
      refine v_aload_n K 0 rfl dX5_find_26 ?_
      refine gC_RX5_37 K dX5_find_27 ?_
      refine gC_RX5_56 K dX5_find_30 ?_
      refine v_iload_n K 1 rfl dX5_find_33 ?_
      obtain ⟨b3, h⟩ := ob_e h
      obtain ⟨a4, e5, h⟩ := gld_e h
      refine qG K e5 b3 dX5_find_34 ?_
      refine v_astore_n K [(0, .ref (ad 35)), (1, .int x1), (2, .ref a4)] [1, 2, 0] dX5_find_35 rfl (by decide) rfl ?_
      refine v_aload_n K 0 rfl dX5_find_36 ?_
      refine gC_RX5_18 K dX5_find_37 ?_
      refine v_iload_n K 1 rfl dX5_find_40 ?_
      refine v_aload_n K 2 rfl dX5_find_41 ?_
      refine gC_RX5_60 (hG _ _ e5) K dX5_find_42 ?_
      obtain ⟨b6, h⟩ := ob_e h
      refine sC K rfl b6 dX5_find_45 ?_
      refine v_aload_n K 0 rfl dX5_find_46 ?_
      refine gC_RX5_21 K dX5_find_47 ?_
      refine v_iload_n K 1 rfl dX5_find_50 ?_
      refine v_aload_n K 2 rfl dX5_find_51 ?_
      refine v_aload_n K 2 rfl dX5_find_52 ?_
      refine v_iconst (v := (0 : Int32)) K dX5_find_53 (by decide) ?_
      obtain ⟨r9, s8, e7, h⟩ := bnd_e h
      refine vU_RX5_64 hG (hG _ _ e5) K [.ref a4, .int x1, .ref (ad 39)] e7 (Nat.le_of_ble_eq_true rfl) (by decide) dX5_find_54 ?_
      obtain ⟨r12, s11, e10, h⟩ := bnd_e h
      refine vU_RX5_68 hG (hG _ _ e5) K [.int x1, .ref (ad 39)] e10 (Nat.le_of_ble_eq_true rfl) (by decide) dX5_find_57 ?_
      obtain ⟨b13, h⟩ := ob_e h
      refine sC K rfl b13 dX5_find_60 ?_
      refine v_aload_n K 0 rfl dX5_find_61 ?_
      refine gC_RX5_24 K dX5_find_62 ?_
      refine v_iload_n K 1 rfl dX5_find_65 ?_
      refine v_aload_n K 0 rfl dX5_find_66 ?_
      refine v_iload_n K 1 rfl dX5_find_67 ?_
      obtain ⟨r16, s15, e14, h⟩ := bnd_e h
      refine vC_calli K [.int x1] [.int x1, .ref (ad 40)] cw_RX5_72 (cCP_clashesOf hG e14) rcP rfl rfl (Nat.le_of_ble_eq_true rfl) (by decide) dX5_find_68 ?_
      obtain ⟨b17, h⟩ := ob_e h
      refine sC K rfl b17 dX5_find_71 ?_
      refine v_iinc (v := (x1 + (1 : Int32))) K 1 [(0, .ref (ad 35)), (1, .int (x1 + (1 : Int32))), (2, .ref a4)] [1, 0, 2] dX5_find_72 rfl rfl (by decide) rfl ?_
      refine v_goto K 18 dX5_find_75 (by decide) ?_
      refine v_drop [(0, .ref (ad 35)), (1, .int (x1 + (1 : Int32)))] [0, 1] rfl ?_
      exact ih _ _ h
set_option maxHeartbeats 4000000 in
set_option maxRecDepth 100000 in
theorem wCP_find {ad : Nat → Nat} {G : GG} {X : Cx} {c : Nat → ClassId} (hG : gok G) (K : Ok X cX5_find RX5 3 10 c) {r : SS} (RT : ∀ pc ls, decode cX5_find pc = .ok (.return_, 1) → V X 3 0 0 pc ls [] (wC ad c G r)) (s : SS) (h : CP_find G s = some r) : V X 3 0 0 0 [(0, .ref (ad 35))] [] (wC ad c G s) := by
  rw [CP_find] at h
  refine v_aload_n K 0 rfl dX5_find_0 ?_
  refine v_aload_n K 0 rfl dX5_find_1 ?_
  refine gC_RX5_37 K dX5_find_2 ?_
  refine gC_RX5_41 (v := (s 7 1)) K dX5_find_5 rfl ?_
  refine v_bipush (v := (6 : Int32)) K dX5_find_8 (by decide) ?_
  refine minC_RX5_47 K [.ref (ad 35)] (Nat.le_of_ble_eq_true rfl) (by decide) dX5_find_10 ?_
  refine pC_RX5_53 K dX5_find_13 ?_
  refine v_iconst (v := (0 : Int32)) K dX5_find_16 (by decide) ?_
  refine v_istore_n K [(0, .ref (ad 35)), (1, .int (0 : Int32))] [1, 0] dX5_find_17 rfl (by decide) rfl ?_
  exact wCP_find_18 hG K RT fuel _ _ h
theorem cCP_find {l : Launch} {D : va_G} {c : Nat → ClassId} {s s' : SS} {ad : Nat → Nat} {G : GG} (hG : gok G)  (h : CP_find G s = some s') : Cv l D c yX5_find cX5_find 3 none 10 [.ref (ad 35)] (wC ad c G s) (wC ad c G s') := Cv.of (by decide) (Nat.le_of_ble_eq_true rfl) (fun X K RT => wCP_find hG K RT s  h)
set_option maxHeartbeats 4000000 in
set_option maxRecDepth 100000 in
theorem wCT_plan_76 {ad : Nat → Nat} {G : GG} {X : Cx} {c : Nat → ClassId} (hG : gok G) (K : Ok X cX9_plan RX9 2 11 c) {r : Int32 × SS} (RT : ∀ pc ls, decode cX9_plan pc = .ok (.ireturn, 1) → V X 2 0 0 pc ls [.int r.1] (wC ad c G r.2)) : ∀ (y0 : Int32) (s : SS), CT_plan_76 G y0 s = some r → V X 2 0 0 76 [] [.int y0] (wC ad c G s) := by
  intro y0 s h
  rw [CT_plan_76] at h
  obtain rfl := Option.some.inj h
  exact RT _ _ dX9_plan_76
set_option maxHeartbeats 4000000 in
set_option maxRecDepth 100000 in
theorem wCT_plan_52 {ad : Nat → Nat} {G : GG} {X : Cx} {c : Nat → ClassId} (hG : gok G) (K : Ok X cX9_plan RX9 2 11 c) {r : Int32 × SS} (RT : ∀ pc ls, decode cX9_plan pc = .ok (.ireturn, 1) → V X 2 0 0 pc ls [.int r.1] (wC ad c G r.2)) : ∀ (x1 : Int32) (s : SS), CT_plan_52 G x1 s = some r → V X 2 0 0 52 [(0, .ref (ad 0)), (1, .int x1)] [] (wC ad c G s) := by
  intro x1 s h
  rw [CT_plan_52] at h
  refine v_iload_n K 1 rfl dX9_plan_52 ?_
  refine v_iconst (v := (-1 : Int32)) K dX9_plan_53 (by decide) ?_
  refine v_icmp_ne K 67 dX9_plan_54 (by decide) (fun q11 => ?_) (fun q11 => ?_)
  · replace h := if_n h q11
    refine v_aload_n K 0 rfl dX9_plan_67 ?_
    refine gC_RX9_57 K dX9_plan_68 ?_
    refine gC_RX9_229 K dX9_plan_71 ?_
    refine v_iload_n K 1 rfl dX9_plan_74 ?_
    obtain ⟨b12, h⟩ := ob_e h
    refine lC (v := (s 36 x1.toNatClampNeg)) K rfl b12 dX9_plan_75 rfl ?_
    refine v_drop [] [] rfl ?_
    exact wCT_plan_76 hG K RT _ _ h
  · replace h := if_e h q11
    refine v_aload_n K 0 rfl dX9_plan_57 ?_
    refine gC_RX9_57 K dX9_plan_58 ?_
    refine gC_RX9_226 (v := (s 35 1)) K dX9_plan_61 rfl ?_
    refine v_goto K 76 dX9_plan_64 (by decide) ?_
    refine v_drop [] [] rfl ?_
    exact wCT_plan_76 hG K RT _ _ h
set_option maxHeartbeats 4000000 in
set_option maxRecDepth 100000 in
theorem wCT_plan_21 {ad : Nat → Nat} {G : GG} {X : Cx} {c : Nat → ClassId} (hG : gok G) (K : Ok X cX9_plan RX9 2 11 c) {r : Int32 × SS} (RT : ∀ pc ls, decode cX9_plan pc = .ok (.ireturn, 1) → V X 2 0 0 pc ls [.int r.1] (wC ad c G r.2)) : ∀ (s : SS), CT_plan_21 G s = some r → V X 2 0 0 21 [] [] (wC ad c G s) := by
  intro s h
  rw [CT_plan_21] at h
  refine v_iconst (v := (-1 : Int32)) K dX9_plan_21 (by decide) ?_
  obtain rfl := Option.some.inj h
  exact RT _ _ dX9_plan_22
set_option maxHeartbeats 4000000 in
set_option maxRecDepth 100000 in
theorem wCT_plan {ad : Nat → Nat} {G : GG} {X : Cx} {c : Nat → ClassId} (hG : gok G) (K : Ok X cX9_plan RX9 2 11 c) {r : Int32 × SS} (RT : ∀ pc ls, decode cX9_plan pc = .ok (.ireturn, 1) → V X 2 0 0 pc ls [.int r.1] (wC ad c G r.2)) (s : SS) (x1 : Int32) (h : CT_plan G s x1 = some r) : V X 2 0 0 0 [(0, .ref (ad 0)), (1, .int x1)] [] (wC ad c G s) := by
  rw [CT_plan] at h
  refine v_iload_n K 1 rfl dX9_plan_0 ?_
  refine v_iconst (v := (-1 : Int32)) K dX9_plan_1 (by decide) ?_
  refine v_icmp_lt K 21 dX9_plan_2 (by decide) (fun q1 => ?_) (fun q1 => ?_)
  · replace h := if_e h q1
    refine v_drop [] [] rfl ?_
    exact wCT_plan_21 hG K RT _ h
  · replace h := if_n h q1
    refine v_iload_n K 1 rfl dX9_plan_5 ?_
    refine v_aload_n K 0 rfl dX9_plan_6 ?_
    refine gC_RX9_24 K dX9_plan_7 ?_
    refine gC_RX9_102 (v := (s 7 1)) K dX9_plan_10 rfl ?_
    refine v_bipush (v := (6 : Int32)) K dX9_plan_13 (by decide) ?_
    refine minC_RX9_214 K [.int x1] (Nat.le_of_ble_eq_true rfl) (by decide) dX9_plan_15 ?_
    refine v_icmp_lt K 23 dX9_plan_18 (by decide) (fun q2 => ?_) (fun q2 => ?_)
    · replace h := if_e h q2
      refine v_aload_n K 0 rfl dX9_plan_23 ?_
      obtain ⟨r5, s4, e3, h⟩ := bnd_e h
      refine vC_calli K [] [] cw_RX9_117 (cCT_isNoCafe hG e3) rcT rfl rfl (Nat.le_of_ble_eq_true rfl) (by decide) dX9_plan_24 ?_
      refine v_if_eq K 33 dX9_plan_27 (by decide) (fun q6 => ?_) (fun q6 => ?_)
      · replace h := if_e h q6
        refine v_aload_n K 0 rfl dX9_plan_33 ?_
        refine gC_RX9_220 (v := (s4 0 12)) K dX9_plan_34 rfl ?_
        refine v_if_ne K 52 dX9_plan_37 (by decide) (fun q7 => ?_) (fun q7 => ?_)
        · replace h := if_n h q7
          exact wCT_plan_52 hG K RT _ _ h
        · replace h := if_e h q7
          refine v_aload_n K 0 rfl dX9_plan_40 ?_
          refine gC_RX9_57 K dX9_plan_41 ?_
          obtain ⟨s9, e8, h⟩ := bnd0_e h
          refine vC_callv K [] [] cw_RX9_223 (cCP_find hG e8) rcP rfl rfl (Nat.le_of_ble_eq_true rfl) (by decide) dX9_plan_44 ?_
          refine v_aload_n K 0 rfl dX9_plan_47 ?_
          refine v_iconst (v := (1 : Int32)) K dX9_plan_48 (by decide) ?_
          obtain ⟨b10, h⟩ := ob_e h
          refine pC_RX9_220 K b10 dX9_plan_49 ?_
          exact wCT_plan_52 hG K RT _ _ h
      · replace h := if_n h q6
        refine v_bipush (v := (-3 : Int32)) K dX9_plan_30 (by decide) ?_
        obtain rfl := Option.some.inj h
        exact RT _ _ dX9_plan_32
    · replace h := if_n h q2
      refine v_drop [] [] rfl ?_
      exact wCT_plan_21 hG K RT _ h
theorem cCT_plan {l : Launch} {D : va_G} {c : Nat → ClassId} {s s' : SS} {ad : Nat → Nat} {G : GG} (hG : gok G)  {x1 : Int32} {r : Int32} (h : CT_plan G s x1 = some (r, s')) : Ci l D c yX9_plan cX9_plan 2 (some .int) 11 [.ref (ad 0), .int x1] (wC ad c G s) r (wC ad c G s') := Ci.of (by decide) (Nat.le_of_ble_eq_true rfl) (fun X K RT => wCT_plan hG K (r := (r, s')) RT s x1 h)
