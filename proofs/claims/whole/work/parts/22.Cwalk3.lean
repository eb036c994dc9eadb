theorem cp_RX4_7 : cwPok RX4 7 yX7_staysFor cX7_staysFor 2 (some .int) 1 := ⟨⟨by decide, by decide +kernel⟩, by decide, all5 (BG_ix 479 (by decide +kernel) rfl) (BG_ix 1209 (by decide +kernel) rfl) (BG_ix 452 (by decide +kernel) rfl) (BG_ix 480 (by decide +kernel) rfl) (BG_ix 70 (by decide +kernel) rfl), (BG_ix 481 (by decide +kernel) rfl)⟩
theorem vP_RX4_7 {X : Cx} {cc : ByteArray} {nL d pc : Nat} {c : Nat → ClassId} {ls : List (Nat × Value)} {ad : Nat → Nat} {G : GG} {s s' : SS} {a : Nat} {x1 : Int32} {r : Int32} (hG : gok G) (ha : gm G a = true) (K : Ok X cc RX4 nL d c) (rest : List Value) (h : CY_staysFor G a s x1 = some (r, s')) (hrm : (rest.map fun v => v.category).sum ≤ 8) (hdc : 0 + 1 ≤ d) (hd : decode cc pc = .ok (.invokespecial 7, 3)) (k : V X nL 0 0 (pc + 3) ls (.int r :: rest) (wC ad c G s')) : V X nL 0 0 pc ls (.int x1 :: .ref a :: rest) (wC ad c G s) := by
  obtain ⟨q, hq⟩ := gpos (ad := ad) (c := c) (s := s) ha
  rcases gk3 G a with e | e | e <;> rw [e] at hq
  · exact v_callP K [.int x1] rest cp_RX4_7 (cCY_staysFor hG ha h) q hq rfl (wC_same ad c G s s') rfl rfl hrm (by omega) z0 hd k
  · exact v_callP K [.int x1] rest cp_RX4_7 (cCY_staysFor hG ha h) q hq rfl (wC_same ad c G s s') rfl rfl hrm (by omega) z0 hd k
  · exact v_callP K [.int x1] rest cp_RX4_7 (cCY_staysFor hG ha h) q hq rfl (wC_same ad c G s s') rfl rfl hrm (by omega) z0 hd k
set_option maxHeartbeats 4000000 in
set_option maxRecDepth 100000 in
theorem wCL_staysFor_20 {ad : Nat → Nat} {G : GG} {o : Nat} {X : Cx} {c : Nat → ClassId} (hG : gok G) (ho : gm G o = true) (K : Ok X cX4_staysFor RX4 3 1 c) {r : Int32 × SS} (RT : ∀ pc ls, decode cX4_staysFor pc = .ok (.ireturn, 1) → V X 3 0 0 pc ls [.int r.1] (wC ad c G r.2)) : ∀ (y0 : Int32) (s : SS), CL_staysFor_20 G o y0 s = some r → V X 3 0 0 20 [] [.int y0] (wC ad c G s) := by
  intro y0 s h
  rw [CL_staysFor_20] at h
  obtain rfl := Option.some.inj h
  exact RT _ _ dX4_staysFor_20
set_option maxHeartbeats 4000000 in
set_option maxRecDepth 100000 in
theorem wCL_staysFor {ad : Nat → Nat} {G : GG} {o : Nat} {X : Cx} {c : Nat → ClassId} (hG : gok G) (ho : gm G o = true) (K : Ok X cX4_staysFor RX4 3 1 c) {r : Int32 × SS} (RT : ∀ pc ls, decode cX4_staysFor pc = .ok (.ireturn, 1) → V X 3 0 0 pc ls [.int r.1] (wC ad c G r.2)) (s : SS) (x1 : Int32) (h : CL_staysFor G o s x1 = some r) : V X 3 0 0 0 [(0, .ref o), (1, .int x1)] [] (wC ad c G s) := by
  rw [CL_staysFor] at h
  refine v_aload_n K 0 rfl dX4_staysFor_0 ?_
  refine v_iload_n K 1 rfl dX4_staysFor_1 ?_
  obtain ⟨r3, s2, e1, h⟩ := bnd_e h
  refine vP_RX4_7 hG ho K [] e1 (Nat.le_of_ble_eq_true rfl) (by decide) dX4_staysFor_2 ?_
  refine v_istore_n K [(0, .ref o), (1, .int x1), (2, .int r3)] [1, 2, 0] dX4_staysFor_5 rfl (by decide) rfl ?_
  refine v_iload_n K 1 rfl dX4_staysFor_6 ?_
  refine v_if_eq K 19 dX4_staysFor_7 (by decide) (fun q4 => ?_) (fun q4 => ?_)
  · replace h := if_e h q4
    refine v_iload_n K 2 rfl dX4_staysFor_19 ?_
    refine v_drop [] [] rfl ?_
    exact wCL_staysFor_20 hG ho K RT _ _ h
  · replace h := if_n h q4
    refine v_iload_n K 2 rfl dX4_staysFor_10 ?_
    refine v_iload_n K 2 rfl dX4_staysFor_11 ?_
    refine v_bipush (v := (9 : Int32)) K dX4_staysFor_12 (by decide) ?_
    obtain ⟨b5, h⟩ := ob_e h
    refine v_idiv K dX4_staysFor_14 b5 ?_
    refine v_iadd K dX4_staysFor_15 ?_
    refine v_goto K 20 dX4_staysFor_16 (by decide) ?_
    refine v_drop [] [] rfl ?_
    exact wCL_staysFor_20 hG ho K RT _ _ h
theorem cCL_staysFor {l : Launch} {D : va_G} {c : Nat → ClassId} {s s' : SS} {ad : Nat → Nat} {G : GG} {o : Nat} (hG : gok G) (ho : gm G o = true)  {x1 : Int32} {r : Int32} (h : CL_staysFor G o s x1 = some (r, s')) : Ci l D c yX4_staysFor cX4_staysFor 3 (some .int) 1 [.ref o, .int x1] (wC ad c G s) r (wC ad c G s') := Ci.of (by decide) (Nat.le_of_ble_eq_true rfl) (fun X K RT => wCL_staysFor hG ho K (r := (r, s')) RT s x1 h)
set_option maxHeartbeats 4000000 in
set_option maxRecDepth 100000 in
theorem wCE_renew {ad : Nat → Nat} {G : GG} {o : Nat} {X : Cx} {c : Nat → ClassId} (hG : gok G) (ho : isS o = true) (K : Ok X cX6_renew RX6 3 1 c) {r : SS} (RT : ∀ pc ls, decode cX6_renew pc = .ok (.return_, 1) → V X 3 0 0 pc ls [] (wC ad c G r)) (s : SS) (x1 : Int32) (x2 : Int32) (h : CE_renew G o s x1 x2 = some r) : V X 3 0 0 0 [(0, .ref (ad o)), (1, .int x1), (2, .int x2)] [] (wC ad c G s) := by
  rw [CE_renew] at h
  refine v_aload_n K 0 rfl dX6_renew_0 ?_
  refine gC_RX6_9 ho K dX6_renew_1 ?_
  refine v_iconst (v := (0 : Int32)) K dX6_renew_4 (by decide) ?_
  obtain ⟨s2, e1, h⟩ := bnd0_e h
  refine v_callwv K [.ref (ad (o + 4)), .int (0 : Int32)] [] cw_RX6_15 (cCJ_fill hG (aE_4 ho) e1) (wC_same ad c G _ _) rfl rfl (Nat.le_of_ble_eq_true rfl) (by decide) z0 dX6_renew_5 ?_
  refine v_aload_n K 0 rfl dX6_renew_8 ?_
  refine v_iconst (v := (1 : Int32)) K dX6_renew_9 (by decide) ?_
  obtain ⟨b3, h⟩ := ob_e h
  refine pC_RX6_21 ho K b3 dX6_renew_10 ?_
  refine v_aload_n K 0 rfl dX6_renew_13 ?_
  refine v_iload_n K 1 rfl dX6_renew_14 ?_
  refine pC_RX6_25 ho K dX6_renew_15 ?_
  refine v_aload_n K 0 rfl dX6_renew_18 ?_
  refine v_iload_n K 2 rfl dX6_renew_19 ?_
  refine pC_RX6_29 ho K dX6_renew_20 ?_
  obtain rfl := Option.some.inj h
  exact RT _ _ dX6_renew_23
theorem cCE_renew {l : Launch} {D : va_G} {c : Nat → ClassId} {s s' : SS} {ad : Nat → Nat} {G : GG} {o : Nat} (hG : gok G) (ho : isS o = true)  {x1 : Int32} {x2 : Int32} (h : CE_renew G o s x1 x2 = some s') : Cv l D c yX6_renew cX6_renew 3 none 1 [.ref (ad o), .int x1, .int x2] (wC ad c G s) (wC ad c G s') := Cv.of (by decide) (Nat.le_of_ble_eq_true rfl) (fun X K RT => wCE_renew hG ho K RT s x1 x2 h)
set_option maxHeartbeats 4000000 in
set_option maxRecDepth 100000 in
theorem wCT_firstFault_43 {ad : Nat → Nat} {G : GG} {x0 : Nat} {X : Cx} {c : Nat → ClassId} (hG : gok G) (h0 : isS x0 = true) (K : Ok X cX9_firstFault RX9 4 2 c) {r : Int32 × SS} (RT : ∀ pc ls, decode cX9_firstFault pc = .ok (.ireturn, 1) → V X 4 0 0 pc ls [.int r.1] (wC ad c G r.2)) : ∀ (y0 : Int32) (s : SS), CT_firstFault_43 G x0 y0 s = some r → V X 4 0 0 43 [] [.int y0] (wC ad c G s) := by
  intro y0 s h
  rw [CT_firstFault_43] at h
  obtain rfl := Option.some.inj h
  exact RT _ _ dX9_firstFault_43
set_option maxHeartbeats 4000000 in
set_option maxRecDepth 100000 in
theorem wCT_firstFault_2 {ad : Nat → Nat} {G : GG} {x0 : Nat} {X : Cx} {c : Nat → ClassId} (hG : gok G) (h0 : isS x0 = true) (K : Ok X cX9_firstFault RX9 4 2 c) {r : Int32 × SS} (RT : ∀ pc ls, decode cX9_firstFault pc = .ok (.ireturn, 1) → V X 4 0 0 pc ls [.int r.1] (wC ad c G r.2)) : ∀ (n : Nat) (x1 : Int32) (x2 : Int32) (x3 : Int32) (s : SS), CT_firstFault_2 G x0 n x1 x2 x3 s = some r → V X 4 0 0 2 [(0, .ref (ad x0)), (1, .int x1), (2, .int x2), (3, .int x3)] [] (wC ad c G s) := by
  intro n
  induction n with
  | zero => intro _ _ _ _ h; cases h
  | succ n ih =>
    intro x1 x2 x3 s h
    rw [CT_firstFault_2] at h
    refine v_iload_n K 3 rfl dX9_firstFault_2 ?_
    refine v_iload_n K 2 rfl dX9_firstFault_3 ?_
    refine v_icmp_ge K 30 dX9_firstFault_4 (by decide) (fun q1 => ?_) (fun q1 => ?_)
    · replace h := if_e h q1
      refine v_iload_n K 2 rfl dX9_firstFault_30 ?_
      refine v_iconst (v := (3 : Int32)) K dX9_firstFault_31 (by decide) ?_
      obtain ⟨b2, h⟩ := ob_e h
      refine v_irem K dX9_firstFault_32 b2 ?_
      refine v_iconst (v := (2 : Int32)) K dX9_firstFault_33 (by decide) ?_
      refine v_icmp_ne K 42 dX9_firstFault_34 (by decide) (fun q3 => ?_) (fun q3 => ?_)
      · replace h := if_n h q3
        refine v_iload_n K 2 rfl dX9_firstFault_42 ?_
        refine v_drop [] [] rfl ?_
        exact wCT_firstFault_43 hG h0 K RT _ _ h
      · replace h := if_e h q3
        refine v_bipush (v := (-9 : Int32)) K dX9_firstFault_37 (by decide) ?_
        refine v_goto K 43 dX9_firstFault_39 (by decide) ?_
        refine v_drop [] [] rfl ?_
        exact wCT_firstFault_43 hG h0 K RT _ _ h
    · replace h := if_n h q1
      refine v_iload_n K 3 rfl dX9_firstFault_7 ?_
      refine v_aload_n K 0 rfl dX9_firstFault_8 ?_
      refine gC_RX9_275 h0 K dX9_firstFault_9 ?_
      refine v_iload_n K 1 rfl dX9_firstFault_12 ?_
      refine v_iload_n K 3 rfl dX9_firstFault_13 ?_
      refine v_iadd K dX9_firstFault_14 ?_
      obtain ⟨b4, h⟩ := ob_e h
      refine lC (v := (s (x0 + 4) (x1 + x3).toNatClampNeg)) K (aE_4 h0) b4 dX9_firstFault_15 rfl ?_
      obtain ⟨r6, e5, h⟩ := bnd0_e h
      refine v_callsi K [.int x3, .int (s (x0 + 4) (x1 + x3).toNatClampNeg)] [] cw_RX9_318 (cCT_goesOn e5) rfl rfl (Nat.le_of_ble_eq_true rfl) (by decide) z0 dX9_firstFault_16 ?_
      refine v_if_ne K 24 dX9_firstFault_19 (by decide) (fun q7 => ?_) (fun q7 => ?_)
      · replace h := if_n h q7
        refine v_iinc (v := (x3 + (1 : Int32))) K 3 [(0, .ref (ad x0)), (1, .int x1), (2, .int x2), (3, .int (x3 + (1 : Int32)))] [1, 2, 3, 0] dX9_firstFault_24 rfl rfl (by decide) rfl ?_
        refine v_goto K 2 dX9_firstFault_27 (by decide) ?_
        exact ih _ _ _ _ h
      · replace h := if_e h q7
        refine v_iload_n K 3 rfl dX9_firstFault_22 ?_
        obtain rfl := Option.some.inj h
        exact RT _ _ dX9_firstFault_23
set_option maxHeartbeats 4000000 in
set_option maxRecDepth 100000 in
theorem wCT_firstFault {ad : Nat → Nat} {G : GG} {x0 : Nat} {X : Cx} {c : Nat → ClassId} (hG : gok G) (h0 : isS x0 = true) (K : Ok X cX9_firstFault RX9 4 2 c) {r : Int32 × SS} (RT : ∀ pc ls, decode cX9_firstFault pc = .ok (.ireturn, 1) → V X 4 0 0 pc ls [.int r.1] (wC ad c G r.2)) (s : SS) (x1 : Int32) (x2 : Int32) (h : CT_firstFault G x0 s x1 x2 = some r) : V X 4 0 0 0 [(0, .ref (ad x0)), (1, .int x1), (2, .int x2)] [] (wC ad c G s) := by
  rw [CT_firstFault] at h
  refine v_iconst (v := (0 : Int32)) K dX9_firstFault_0 (by decide) ?_
  refine v_istore_n K [(0, .ref (ad x0)), (1, .int x1), (2, .int x2), (3, .int (0 : Int32))] [1, 2, 3, 0] dX9_firstFault_1 rfl (by decide) rfl ?_
  exact wCT_firstFault_2 hG h0 K RT fuel _ _ _ _ h
theorem cCT_firstFault {l : Launch} {D : va_G} {c : Nat → ClassId} {s s' : SS} {ad : Nat → Nat} {G : GG} {x0 : Nat} (hG : gok G) (h0 : isS x0 = true)  {x1 : Int32} {x2 : Int32} {r : Int32} (h : CT_firstFault G x0 s x1 x2 = some (r, s')) : Ci l D c yX9_firstFault cX9_firstFault 4 (some .int) 2 [.ref (ad x0), .int x1, .int x2] (wC ad c G s) r (wC ad c G s') := Ci.of (by decide) (Nat.le_of_ble_eq_true rfl) (fun X K RT => wCT_firstFault hG h0 K (r := (r, s')) RT s x1 x2 h)
set_option maxHeartbeats 4000000 in
set_option maxRecDepth 100000 in
theorem wCT_names_99 {ad : Nat → Nat} {G : GG} {X : Cx} {c : Nat → ClassId} (hG : gok G) (K : Ok X cX9_names RX9 13 2 c) {r : Int64 × SS} (RT : ∀ pc ls, decode cX9_names pc = .ok (.lreturn, 1) → V X 13 0 0 pc ls [.long r.1] (wC ad c G r.2)) : ∀ (y0 : Int64) (s : SS), CT_names_99 G y0 s = some r → V X 13 0 0 99 [] [.long y0] (wC ad c G s) := by
  intro y0 s h
  rw [CT_names_99] at h
  obtain rfl := Option.some.inj h
  exact RT _ _ dX9_names_99
set_option maxHeartbeats 4000000 in
set_option maxRecDepth 100000 in
theorem wCT_names_33 {ad : Nat → Nat} {G : GG} {X : Cx} {c : Nat → ClassId} (hG : gok G) (K : Ok X cX9_names RX9 13 2 c) {r : Int64 × SS} (RT : ∀ pc ls, decode cX9_names pc = .ok (.lreturn, 1) → V X 13 0 0 pc ls [.long r.1] (wC ad c G r.2)) : ∀ (s : SS), CT_names_33 G s = some r → V X 13 0 0 33 [] [] (wC ad c G s) := by
  intro s h
  rw [CT_names_33] at h
  refine v_ldc2 (v := (-9223372036854775808 : Int64)) K kC_212 dX9_names_33 ?_
  obtain rfl := Option.some.inj h
  exact RT _ _ dX9_names_36
set_option maxHeartbeats 4000000 in
set_option maxRecDepth 100000 in
theorem wCT_names {ad : Nat → Nat} {G : GG} {X : Cx} {c : Nat → ClassId} (hG : gok G) (K : Ok X cX9_names RX9 13 2 c) {r : Int64 × SS} (RT : ∀ pc ls, decode cX9_names pc = .ok (.lreturn, 1) → V X 13 0 0 pc ls [.long r.1] (wC ad c G r.2)) (s : SS) (x1 : Int32) (x2 : Int32) (x3 : Int32) (x4 : Int32) (x5 : Int32) (x6 : Int32) (h : CT_names G s x1 x2 x3 x4 x5 x6 = some r) : V X 13 0 0 0 [(0, .ref (ad 0)), (1, .int x1), (2, .int x2), (3, .int x3), (4, .int x4), (5, .int x5), (6, .int x6)] [] (wC ad c G s) := by
  rw [CT_names] at h
  refine v_iload_n K 1 rfl dX9_names_0 ?_
  refine v_if_lt K 33 dX9_names_1 (by decide) (fun q1 => ?_) (fun q1 => ?_)
  · replace h := if_e h q1
    refine v_drop [] [] rfl ?_
    exact wCT_names_33 hG K RT _ h
  · replace h := if_n h q1
    refine v_iload_n K 1 rfl dX9_names_4 ?_
    refine v_bipush (v := (8 : Int32)) K dX9_names_5 (by decide) ?_
    refine v_icmp_gt K 33 dX9_names_7 (by decide) (fun q2 => ?_) (fun q2 => ?_)
    · replace h := if_e h q2
      refine v_drop [] [] rfl ?_
      exact wCT_names_33 hG K RT _ h
    · replace h := if_n h q2
      refine v_iload K 6 rfl dX9_names_10 ?_
      refine v_if_lt K 33 dX9_names_12 (by decide) (fun q3 => ?_) (fun q3 => ?_)
      · replace h := if_e h q3
        refine v_drop [] [] rfl ?_
        exact wCT_names_33 hG K RT _ h
      · replace h := if_n h q3
        refine v_iload K 6 rfl dX9_names_15 ?_
        refine v_iconst (v := (1 : Int32)) K dX9_names_17 (by decide) ?_
        refine v_icmp_gt K 33 dX9_names_18 (by decide) (fun q4 => ?_) (fun q4 => ?_)
        · replace h := if_e h q4
          refine v_drop [] [] rfl ?_
          exact wCT_names_33 hG K RT _ h
        · replace h := if_n h q4
          refine v_iload_n K 2 rfl dX9_names_21 ?_
          refine v_iload_n K 3 rfl dX9_names_22 ?_
          refine v_iload K 4 rfl dX9_names_23 ?_
          refine v_iload K 5 rfl dX9_names_25 ?_
          obtain ⟨r6, e5, h⟩ := bnd0_e h
          refine v_callsi K [.int x2, .int x3, .int x4, .int x5] [] cw_RX9_246 (cCT_isNoTaking e5) rfl rfl (Nat.le_of_ble_eq_true rfl) (by decide) z0 dX9_names_27 ?_
          refine v_if_eq K 37 dX9_names_30 (by decide) (fun q7 => ?_) (fun q7 => ?_)
          · replace h := if_e h q7
            refine v_iload_n K 1 rfl dX9_names_37 ?_
            refine v_iload_n K 2 rfl dX9_names_38 ?_
            refine v_iload_n K 3 rfl dX9_names_39 ?_
            refine v_iload K 4 rfl dX9_names_40 ?_
            refine v_iload K 5 rfl dX9_names_42 ?_
            obtain ⟨r9, e8, h⟩ := bnd0_e h
            refine v_callsl K [.int x1, .int x2, .int x3, .int x4, .int x5] [] cw_RX9_250 (cCT_awaited e8) rfl rfl (Nat.le_of_ble_eq_true rfl) (by decide) z0 dX9_names_44 ?_
            refine v_lstore K [(0, .ref (ad 0)), (1, .int x1), (6, .int x6), (7, .long r9)] [1, 2, 7, 0] dX9_names_47 (by decide) rfl ?_
            refine v_ldc2 (v := (100 : Int64)) K kC_254 dX9_names_49 ?_
            refine v_iload_n K 1 rfl dX9_names_52 ?_
            obtain ⟨r11, e10, h⟩ := bnd0_e h
            refine v_callsl K [.long (100 : Int64), .int x1] [] cw_RX9_256 (cCT_power e10) rfl rfl (Nat.le_of_ble_eq_true rfl) (by decide) z0 dX9_names_53 ?_
            refine v_lstore K [(0, .ref (ad 0)), (6, .int x6), (7, .long r9), (9, .long r11)] [1, 3, 4, 0] dX9_names_56 (by decide) rfl ?_
            refine v_lload K 2 rfl dX9_names_58 ?_
            refine absC_RX9_260 K [] (Nat.le_of_ble_eq_true rfl) (by decide) dX9_names_60 ?_
            refine v_lload K 3 rfl dX9_names_63 ?_
            obtain ⟨r13, e12, h⟩ := bnd0_e h
            refine v_callsl K [.long (if (0 : Int64) < r9 then r9 else -r9), .long r11] [] cw_RX9_264 (cCT_commonDivisor e12) rfl rfl (Nat.le_of_ble_eq_true rfl) (by decide) z0 dX9_names_65 ?_
            refine v_lstore K [(0, .ref (ad 0)), (6, .int x6), (7, .long r9), (9, .long r11), (11, .long r13)] [1, 2, 3, 4, 0] dX9_names_68 (by decide) rfl ?_
            refine v_lload K 4 rfl dX9_names_70 ?_
            refine v_lconst (v := (1 : Int64)) K dX9_names_72 (by decide) ?_
            refine v_lcmp K dX9_names_73 ?_
            refine v_if_ge K 81 dX9_names_74 (by decide) (fun q14 => ?_) (fun q14 => ?_)
            · replace h := if_e h q14
              refine v_iload K 1 rfl dX9_names_81 ?_
              refine v_if_ne K 94 dX9_names_83 (by decide) (fun q15 => ?_) (fun q15 => ?_)
              · replace h := if_n h q15
                refine v_lload K 3 rfl dX9_names_94 ?_
                refine v_lload K 4 rfl dX9_names_96 ?_
                obtain ⟨b16, h⟩ := ob_e h
                refine v_ldiv K dX9_names_98 b16 ?_
                refine v_drop [] [] rfl ?_
                exact wCT_names_99 hG K RT _ _ h
              · replace h := if_e h q15
                refine v_lload K 2 rfl dX9_names_86 ?_
                refine v_lload K 4 rfl dX9_names_88 ?_
                obtain ⟨b17, h⟩ := ob_e h
                refine v_ldiv K dX9_names_90 b17 ?_
                refine v_goto K 99 dX9_names_91 (by decide) ?_
                refine v_drop [] [] rfl ?_
                exact wCT_names_99 hG K RT _ _ h
            · replace h := if_n h q14
              refine v_ldc2 (v := (-9223372036854775808 : Int64)) K kC_212 dX9_names_77 ?_
              obtain rfl := Option.some.inj h
              exact RT _ _ dX9_names_80
          · replace h := if_n h q7
            refine v_drop [] [] rfl ?_
            exact wCT_names_33 hG K RT _ h
theorem cCT_names {l : Launch} {D : va_G} {c : Nat → ClassId} {s s' : SS} {ad : Nat → Nat} {G : GG} (hG : gok G)  {x1 : Int32} {x2 : Int32} {x3 : Int32} {x4 : Int32} {x5 : Int32} {x6 : Int32} {r : Int64} (h : CT_names G s x1 x2 x3 x4 x5 x6 = some (r, s')) : Cl l D c yX9_names cX9_names 13 (some .long) 2 [.ref (ad 0), .int x1, .int x2, .int x3, .int x4, .int x5, .int x6] (wC ad c G s) r (wC ad c G s') := Cl.of (by decide) (Nat.le_of_ble_eq_true rfl) (fun X K RT => wCT_names hG K (r := (r, s')) RT s x1 x2 x3 x4 x5 x6 h)
theorem cu_RX9_174_0 : cwOok RX9 174 RX2 RX2 yX2_staysFor yX2_staysFor cX2_staysFor 2 (some .int) 1 := ⟨⟨by decide, by decide, by decide +kernel⟩, by decide, all6 (BG_ix 472 (by decide +kernel) rfl) (BG_ix 475 (by decide +kernel) rfl) (BG_ix 473 (by decide +kernel) rfl) (BG_ix 474 (by decide +kernel) rfl) (BG_ix 473 (by decide +kernel) rfl) (BG_ix 69 (by decide +kernel) rfl), (BG_ix 483 (by decide +kernel) rfl), cX2_staysFor, 2, (some .int), (BG_ix 483 (by decide +kernel) rfl)⟩
theorem cu_RX9_174_1 : cwOok RX9 174 RX7 RX2 yX2_staysFor yX7_staysFor cX7_staysFor 2 (some .int) 1 := ⟨⟨by decide, by decide, by decide +kernel⟩, by decide, all6 (BG_ix 472 (by decide +kernel) rfl) (BG_ix 475 (by decide +kernel) rfl) (BG_ix 473 (by decide +kernel) rfl) (BG_ix 482 (by decide +kernel) rfl) (BG_ix 480 (by decide +kernel) rfl) (BG_ix 70 (by decide +kernel) rfl), (BG_ix 481 (by decide +kernel) rfl), cX2_staysFor, 2, (some .int), (BG_ix 483 (by decide +kernel) rfl)⟩
theorem cu_RX9_174_2 : cwOok RX9 174 RX4 RX2 yX2_staysFor yX4_staysFor cX4_staysFor 3 (some .int) 1 := ⟨⟨by decide, by decide, by decide +kernel⟩, by decide, all6 (BG_ix 472 (by decide +kernel) rfl) (BG_ix 475 (by decide +kernel) rfl) (BG_ix 473 (by decide +kernel) rfl) (BG_ix 476 (by decide +kernel) rfl) (BG_ix 477 (by decide +kernel) rfl) (BG_ix 71 (by decide +kernel) rfl), (BG_ix 478 (by decide +kernel) rfl), cX2_staysFor, 2, (some .int), (BG_ix 483 (by decide +kernel) rfl)⟩
theorem vU_RX9_174 {X : Cx} {cc : ByteArray} {nL d pc : Nat} {c : Nat → ClassId} {ls : List (Nat × Value)} {ad : Nat → Nat} {G : GG} {s s' : SS} {a : Nat} {x1 : Int32} {r : Int32} (hG : gok G) (ha : gm G a = true) (K : Ok X cc RX9 nL d c) (rest : List Value) (h : Cv_staysFor G a s x1 = some (r, s')) (hrm : (rest.map fun v => v.category).sum ≤ 8) (hdc : 1 + 1 ≤ d) (hd : decode cc pc = .ok (.invokevirtual 174, 3)) (k : V X nL 0 0 (pc + 3) ls (.int r :: rest) (wC ad c G s')) : V X nL 0 0 pc ls (.int x1 :: .ref a :: rest) (wC ad c G s) := by
  obtain ⟨q, hq⟩ := gpos (ad := ad) (c := c) (s := s) ha
  rw [Cv_staysFor] at h
  rcases gk3 G a with e | e | e <;> rw [e] at h hq
  · rw [if_pos rfl] at h
    exact v_callO K [.int x1] rest cu_RX9_174_0 (cCG_staysFor hG ha h) q hq rfl (wC_same ad c G s s') rfl rfl hrm (by omega) z0 hd k
  · rw [if_neg (by decide), if_pos rfl] at h
    exact v_callO K [.int x1] rest cu_RX9_174_1 (cCY_staysFor hG ha h) q hq rfl (wC_same ad c G s s') rfl rfl hrm (by omega) z0 hd k
  · rw [if_neg (by decide), if_neg (by decide)] at h
    exact v_callO K [.int x1] rest cu_RX9_174_2 (cCL_staysFor hG ha h) q hq rfl (wC_same ad c G s s') rfl rfl hrm (by omega) z0 hd k
theorem cu_RX9_155_0 : cwOok RX9 155 RX2 RX2 yX2_kindNumber yX2_kindNumber cX2_kindNumber 1 (some .int) 0 := ⟨⟨by decide, by decide, by decide +kernel⟩, by decide, all6 (BG_ix 461 (by decide +kernel) rfl) (BG_ix 464 (by decide +kernel) rfl) (BG_ix 462 (by decide +kernel) rfl) (BG_ix 463 (by decide +kernel) rfl) (BG_ix 462 (by decide +kernel) rfl) (BG_ix 69 (by decide +kernel) rfl), (BG_ix 471 (by decide +kernel) rfl), cX2_kindNumber, 1, (some .int), (BG_ix 471 (by decide +kernel) rfl)⟩
theorem cu_RX9_155_1 : cwOok RX9 155 RX7 RX2 yX2_kindNumber yX7_kindNumber cX7_kindNumber 1 (some .int) 0 := ⟨⟨by decide, by decide, by decide +kernel⟩, by decide, all6 (BG_ix 461 (by decide +kernel) rfl) (BG_ix 464 (by decide +kernel) rfl) (BG_ix 462 (by decide +kernel) rfl) (BG_ix 468 (by decide +kernel) rfl) (BG_ix 469 (by decide +kernel) rfl) (BG_ix 70 (by decide +kernel) rfl), (BG_ix 470 (by decide +kernel) rfl), cX2_kindNumber, 1, (some .int), (BG_ix 471 (by decide +kernel) rfl)⟩
theorem cu_RX9_155_2 : cwOok RX9 155 RX4 RX2 yX2_kindNumber yX4_kindNumber cX4_kindNumber 1 (some .int) 0 := ⟨⟨by decide, by decide, by decide +kernel⟩, by decide, all6 (BG_ix 461 (by decide +kernel) rfl) (BG_ix 464 (by decide +kernel) rfl) (BG_ix 462 (by decide +kernel) rfl) (BG_ix 465 (by decide +kernel) rfl) (BG_ix 466 (by decide +kernel) rfl) (BG_ix 71 (by decide +kernel) rfl), (BG_ix 467 (by decide +kernel) rfl), cX2_kindNumber, 1, (some .int), (BG_ix 471 (by decide +kernel) rfl)⟩
theorem vU_RX9_155 {X : Cx} {cc : ByteArray} {nL d pc : Nat} {c : Nat → ClassId} {ls : List (Nat × Value)} {ad : Nat → Nat} {G : GG} {s s' : SS} {a : Nat} {r : Int32} (hG : gok G) (ha : gm G a = true) (K : Ok X cc RX9 nL d c) (rest : List Value) (h : Cv_kindNumber G a s = some (r, s')) (hrm : (rest.map fun v => v.category).sum ≤ 8) (hdc : 0 + 1 ≤ d) (hd : decode cc pc = .ok (.invokevirtual 155, 3)) (k : V X nL 0 0 (pc + 3) ls (.int r :: rest) (wC ad c G s')) : V X nL 0 0 pc ls (.ref a :: rest) (wC ad c G s) := by
  obtain ⟨q, hq⟩ := gpos (ad := ad) (c := c) (s := s) ha
  rw [Cv_kindNumber] at h
  rcases gk3 G a with e | e | e <;> rw [e] at h hq
  · rw [if_pos rfl] at h
    exact v_callO K [] rest cu_RX9_155_0 (cCG_kindNumber hG ha h) q hq rfl (wC_same ad c G s s') rfl rfl hrm (by omega) z0 hd k
  · rw [if_neg (by decide), if_pos rfl] at h
    exact v_callO K [] rest cu_RX9_155_1 (cCY_kindNumber hG ha h) q hq rfl (wC_same ad c G s s') rfl rfl hrm (by omega) z0 hd k
  · rw [if_neg (by decide), if_neg (by decide)] at h
    exact v_callO K [] rest cu_RX9_155_2 (cCL_kindNumber hG ha h) q hq rfl (wC_same ad c G s s') rfl rfl hrm (by omega) z0 hd k
set_option maxHeartbeats 4000000 in
set_option maxRecDepth 100000 in
theorem wCT_ofGroup {ad : Nat → Nat} {G : GG} {X : Cx} {c : Nat → ClassId} (hG : gok G) (K : Ok X cX9_ofGroup RX9 4 2 c) {r : Int32 × SS} (RT : ∀ pc ls, decode cX9_ofGroup pc = .ok (.ireturn, 1) → V X 4 0 0 pc ls [.int r.1] (wC ad c G r.2)) (s : SS) (x1 : Int32) (x2 : Int32) (h : CT_ofGroup G s x1 x2 = some r) : V X 4 0 0 0 [(0, .ref (ad 0)), (1, .int x1), (2, .int x2)] [] (wC ad c G s) := by
  rw [CT_ofGroup] at h
  refine v_aload_n K 0 rfl dX9_ofGroup_0 ?_
  refine gC_RX9_24 K dX9_ofGroup_1 ?_
  refine v_iload_n K 1 rfl dX9_ofGroup_4 ?_
  obtain ⟨r3, s2, e1, h⟩ := bnd_e h
  refine vC_callq K [.int x1] [] cw_RX9_151 (cCR_numbered hG e1) rcR rfl rfl (Nat.le_of_ble_eq_true rfl) (by decide) dX9_ofGroup_5 ?_
  cases r3 with
  | none =>
    replace h := oc_n h
    refine v_astore_nN K [(0, .ref (ad 0)), (2, .int x2), (3, .null)] [1, 3, 0] dX9_ofGroup_8 rfl (by decide) rfl ?_
    refine v_aload_nN K 2 rfl dX9_ofGroup_9 ?_
    refine v_ifnonnullN K dX9_ofGroup_10 ?_
    refine v_iconst (v := (-1 : Int32)) K dX9_ofGroup_13 (by decide) ?_
    obtain rfl := Option.some.inj h
    exact RT _ _ dX9_ofGroup_14
  | some a4 =>
    replace h := oc_s h
    obtain ⟨b5, h⟩ := ob_e h
    refine v_astore_n K [(0, .ref (ad 0)), (2, .int x2), (3, .ref a4)] [1, 3, 0] dX9_ofGroup_8 rfl (by decide) rfl ?_
    refine v_aload_n K 2 rfl dX9_ofGroup_9 ?_
    refine v_ifnonnull K 15 dX9_ofGroup_10 (by decide) ?_
    refine v_iload_n K 1 rfl dX9_ofGroup_15 ?_
    by_cases q6 : x2 = (0 : Int32)
    · replace h := if_e h q6
      refine v_tableIn (off := 44) K 60 dX9_ofGroup_16 (by rw [q6]; decide) (by rw [q6]; decide) (by rw [q6]; rfl) (by decide) ?_
      refine v_aload_n K 2 rfl dX9_ofGroup_60 ?_
      obtain ⟨r9, s8, e7, h⟩ := bnd_e h
      refine vU_RX9_155 hG b5 K [] e7 (Nat.le_of_ble_eq_true rfl) (by decide) dX9_ofGroup_61 ?_
      obtain rfl := Option.some.inj h
      exact RT _ _ dX9_ofGroup_64
    · replace h := if_n h q6
      by_cases q10 : x2 = (1 : Int32)
      · replace h := if_e h q10
        refine v_tableIn (off := 49) K 65 dX9_ofGroup_16 (by rw [q10]; decide) (by rw [q10]; decide) (by rw [q10]; rfl) (by decide) ?_
        refine v_aload_n K 2 rfl dX9_ofGroup_65 ?_
        refine gC_RX9_159 b5 K dX9_ofGroup_66 ?_
        obtain rfl := Option.some.inj h
        exact RT _ _ dX9_ofGroup_69
      · replace h := if_n h q10
        by_cases q11 : x2 = (2 : Int32)
        · replace h := if_e h q11
          refine v_tableIn (off := 54) K 70 dX9_ofGroup_16 (by rw [q11]; decide) (by rw [q11]; decide) (by rw [q11]; rfl) (by decide) ?_
          refine v_aload_n K 2 rfl dX9_ofGroup_70 ?_
          refine gC_RX9_162 b5 K dX9_ofGroup_71 ?_
          obtain rfl := Option.some.inj h
          exact RT _ _ dX9_ofGroup_74
        · replace h := if_n h q11
          by_cases q12 : x2 = (3 : Int32)
          · replace h := if_e h q12
            refine v_tableIn (off := 59) K 75 dX9_ofGroup_16 (by rw [q12]; decide) (by rw [q12]; decide) (by rw [q12]; rfl) (by decide) ?_
            refine v_aload_n K 2 rfl dX9_ofGroup_75 ?_
            refine gC_RX9_165 b5 K dX9_ofGroup_76 ?_
            obtain rfl := Option.some.inj h
            exact RT _ _ dX9_ofGroup_79
          · replace h := if_n h q12
            by_cases q13 : x2 = (4 : Int32)
            · replace h := if_e h q13
              refine v_tableIn (off := 64) K 80 dX9_ofGroup_16 (by rw [q13]; decide) (by rw [q13]; decide) (by rw [q13]; rfl) (by decide) ?_
              refine v_aload_n K 2 rfl dX9_ofGroup_80 ?_
              refine gC_RX9_168 b5 K dX9_ofGroup_81 ?_
              obtain rfl := Option.some.inj h
              exact RT _ _ dX9_ofGroup_84
            · replace h := if_n h q13
              by_cases q14 : x2 = (5 : Int32)
              · replace h := if_e h q14
                refine v_tableIn (off := 69) K 85 dX9_ofGroup_16 (by rw [q14]; decide) (by rw [q14]; decide) (by rw [q14]; rfl) (by decide) ?_
                refine v_aload_n K 2 rfl dX9_ofGroup_85 ?_
                refine gC_RX9_171 b5 K dX9_ofGroup_86 ?_
                obtain rfl := Option.some.inj h
                exact RT _ _ dX9_ofGroup_89
              · replace h := if_n h q14
                by_cases q15 : x2 = (6 : Int32)
                · replace h := if_e h q15
                  refine v_tableIn (off := 74) K 90 dX9_ofGroup_16 (by rw [q15]; decide) (by rw [q15]; decide) (by rw [q15]; rfl) (by decide) ?_
                  refine v_aload_n K 2 rfl dX9_ofGroup_90 ?_
                  refine v_iconst (v := (0 : Int32)) K dX9_ofGroup_91 (by decide) ?_
                  obtain ⟨r18, s17, e16, h⟩ := bnd_e h
                  refine vU_RX9_174 hG b5 K [] e16 (Nat.le_of_ble_eq_true rfl) (by decide) dX9_ofGroup_92 ?_
                  obtain rfl := Option.some.inj h
                  exact RT _ _ dX9_ofGroup_95
                · replace h := if_n h q15
                  refine v_tableOut K 96 dX9_ofGroup_16 (by have eq6 := lv_neT q6 (show ((0 : Int32)).toInt = 0 from by decide); have eq10 := lv_neT q10 (show ((1 : Int32)).toInt = 1 from by decide); have eq11 := lv_neT q11 (show ((2 : Int32)).toInt = 2 from by decide); have eq12 := lv_neT q12 (show ((3 : Int32)).toInt = 3 from by decide); have eq13 := lv_neT q13 (show ((4 : Int32)).toInt = 4 from by decide); have eq14 := lv_neT q14 (show ((5 : Int32)).toInt = 5 from by decide); have eq15 := lv_neT q15 (show ((6 : Int32)).toInt = 6 from by decide); omega) (by decide) ?_
                  refine v_bipush (v := (-2 : Int32)) K dX9_ofGroup_96 (by decide) ?_
                  obtain rfl := Option.some.inj h
                  exact RT _ _ dX9_ofGroup_98
theorem cCT_ofGroup {l : Launch} {D : va_G} {c : Nat → ClassId} {s s' : SS} {ad : Nat → Nat} {G : GG} (hG : gok G)  {x1 : Int32} {x2 : Int32} {r : Int32} (h : CT_ofGroup G s x1 x2 = some (r, s')) : Ci l D c yX9_ofGroup cX9_ofGroup 4 (some .int) 2 [.ref (ad 0), .int x1, .int x2] (wC ad c G s) r (wC ad c G s') := Ci.of (by decide) (Nat.le_of_ble_eq_true rfl) (fun X K RT => wCT_ofGroup hG K (r := (r, s')) RT s x1 x2 h)
theorem cu_RX9_295_0 : cwOok RX9 295 RX2 RX2 yX2_served yX2_served cX2_served 2 (some .int) 1 := ⟨⟨by decide, by decide, by decide +kernel⟩, by decide, all6 (BG_ix 753 (by decide +kernel) rfl) (BG_ix 756 (by decide +kernel) rfl) (BG_ix 754 (by decide +kernel) rfl) (BG_ix 755 (by decide +kernel) rfl) (BG_ix 754 (by decide +kernel) rfl) (BG_ix 69 (by decide +kernel) rfl), (BG_ix 761 (by decide +kernel) rfl), cX2_served, 2, (some .int), (BG_ix 761 (by decide +kernel) rfl)⟩
theorem cu_RX9_295_1 : cwOok RX9 295 RX7 RX2 yX2_served yX2_served cX2_served 2 (some .int) 1 := ⟨⟨by decide, by decide, by decide +kernel⟩, by decide, all6 (BG_ix 753 (by decide +kernel) rfl) (BG_ix 756 (by decide +kernel) rfl) (BG_ix 754 (by decide +kernel) rfl) (BG_ix 760 (by decide +kernel) rfl) (BG_ix 754 (by decide +kernel) rfl) (BG_ix 69 (by decide +kernel) rfl), (BG_ix 761 (by decide +kernel) rfl), cX2_served, 2, (some .int), (BG_ix 761 (by decide +kernel) rfl)⟩
theorem cu_RX9_295_2 : cwOok RX9 295 RX4 RX2 yX2_served yX4_served cX4_served 2 (some .int) 1 := ⟨⟨by decide, by decide, by decide +kernel⟩, by decide, all6 (BG_ix 753 (by decide +kernel) rfl) (BG_ix 756 (by decide +kernel) rfl) (BG_ix 754 (by decide +kernel) rfl) (BG_ix 757 (by decide +kernel) rfl) (BG_ix 758 (by decide +kernel) rfl) (BG_ix 71 (by decide +kernel) rfl), (BG_ix 759 (by decide +kernel) rfl), cX2_served, 2, (some .int), (BG_ix 761 (by decide +kernel) rfl)⟩
theorem vU_RX9_295 {X : Cx} {cc : ByteArray} {nL d pc : Nat} {c : Nat → ClassId} {ls : List (Nat × Value)} {ad : Nat → Nat} {G : GG} {s s' : SS} {a : Nat} {r : Int32} (hG : gok G) (ha : gm G a = true) (K : Ok X cc RX9 nL d c) (rest : List Value) (h : Cv_served G a s = some (r, s')) (hrm : (rest.map fun v => v.category).sum ≤ 8) (hdc : 1 + 1 ≤ d) (hd : decode cc pc = .ok (.invokevirtual 295, 3)) (k : V X nL 0 0 (pc + 3) ls (.int r :: rest) (wC ad c G s')) : V X nL 0 0 pc ls (.ref (ad 18) :: .ref a :: rest) (wC ad c G s) := by
  obtain ⟨q, hq⟩ := gpos (ad := ad) (c := c) (s := s) ha
  rw [Cv_served] at h
  rcases gk3 G a with e | e | e <;> rw [e] at h hq
  · rw [if_pos rfl] at h
    exact v_callO K [.ref (ad 18)] rest cu_RX9_295_0 (cCG_served hG ha h) q hq rfl (wC_same ad c G s s') rfl rfl hrm (by omega) z0 hd k
  · rw [if_neg (by decide), if_pos rfl] at h
    exact v_callO K [.ref (ad 18)] rest cu_RX9_295_1 (cCG_served hG ha h) q hq rfl (wC_same ad c G s s') rfl rfl hrm (by omega) z0 hd k
  · rw [if_neg (by decide), if_neg (by decide)] at h
    exact v_callO K [.ref (ad 18)] rest cu_RX9_295_2 (cCL_served hG ha h) q hq rfl (wC_same ad c G s s') rfl rfl hrm (by omega) z0 hd k
set_option maxHeartbeats 4000000 in
set_option maxRecDepth 100000 in
theorem wCT_serve_25 {ad : Nat → Nat} {G : GG} {X : Cx} {c : Nat → ClassId} (hG : gok G) (K : Ok X cX9_serve RX9 3 2 c) {r : Int32 × SS} (RT : ∀ pc ls, decode cX9_serve pc = .ok (.ireturn, 1) → V X 3 0 0 pc ls [.int r.1] (wC ad c G r.2)) : ∀ (y0 : Int32) (s : SS), CT_serve_25 G y0 s = some r → V X 3 0 0 25 [] [.int y0] (wC ad c G s) := by
  intro y0 s h
  rw [CT_serve_25] at h
  obtain rfl := Option.some.inj h
  exact RT _ _ dX9_serve_25
set_option maxHeartbeats 4000000 in
set_option maxRecDepth 100000 in
theorem wCT_serve {ad : Nat → Nat} {G : GG} {X : Cx} {c : Nat → ClassId} (hG : gok G) (K : Ok X cX9_serve RX9 3 2 c) {r : Int32 × SS} (RT : ∀ pc ls, decode cX9_serve pc = .ok (.ireturn, 1) → V X 3 0 0 pc ls [.int r.1] (wC ad c G r.2)) (s : SS) (x1 : Int32) (h : CT_serve G s x1 = some r) : V X 3 0 0 0 [(0, .ref (ad 0)), (1, .int x1)] [] (wC ad c G s) := by
  rw [CT_serve] at h
  refine v_aload_n K 0 rfl dX9_serve_0 ?_
  refine gC_RX9_24 K dX9_serve_1 ?_
  refine v_iload_n K 1 rfl dX9_serve_4 ?_
  obtain ⟨r3, s2, e1, h⟩ := bnd_e h
  refine vC_callq K [.int x1] [] cw_RX9_151 (cCR_numbered hG e1) rcR rfl rfl (Nat.le_of_ble_eq_true rfl) (by decide) dX9_serve_5 ?_
  cases r3 with
  | none =>
    replace h := oc_n h
    refine v_astore_nN K [(0, .ref (ad 0)), (2, .null)] [1, 0] dX9_serve_8 rfl (by decide) rfl ?_
    refine v_aload_nN K 1 rfl dX9_serve_9 ?_
    refine v_ifnonnullN K dX9_serve_10 ?_
    refine v_iconst (v := (-1 : Int32)) K dX9_serve_13 (by decide) ?_
    refine v_goto K 25 dX9_serve_14 (by decide) ?_
    refine v_drop [] [] rfl ?_
    exact wCT_serve_25 hG K RT _ _ h
  | some a4 =>
    replace h := oc_s h
    obtain ⟨b5, h⟩ := ob_e h
    refine v_astore_n K [(0, .ref (ad 0)), (2, .ref a4)] [1, 0] dX9_serve_8 rfl (by decide) rfl ?_
    refine v_aload_n K 1 rfl dX9_serve_9 ?_
    refine v_ifnonnull K 17 dX9_serve_10 (by decide) ?_
    refine v_aload_n K 1 rfl dX9_serve_17 ?_
    refine v_aload_n K 0 rfl dX9_serve_18 ?_
    refine gC_RX9_38 K dX9_serve_19 ?_
    obtain ⟨r8, s7, e6, h⟩ := bnd_e h
    refine vU_RX9_295 hG b5 K [] e6 (Nat.le_of_ble_eq_true rfl) (by decide) dX9_serve_22 ?_
    refine v_drop [] [] rfl ?_
    exact wCT_serve_25 hG K RT _ _ h
theorem cCT_serve {l : Launch} {D : va_G} {c : Nat → ClassId} {s s' : SS} {ad : Nat → Nat} {G : GG} (hG : gok G)  {x1 : Int32} {r : Int32} (h : CT_serve G s x1 = some (r, s')) : Ci l D c yX9_serve cX9_serve 3 (some .int) 2 [.ref (ad 0), .int x1] (wC ad c G s) r (wC ad c G s') := Ci.of (by decide) (Nat.le_of_ble_eq_true rfl) (fun X K RT => wCT_serve hG K (r := (r, s')) RT s x1 h)
set_option maxHeartbeats 4000000 in
set_option maxRecDepth 100000 in
theorem wCT_sheet_27 {ad : Nat → Nat} {G : GG} {X : Cx} {c : Nat → ClassId} (hG : gok G) (K : Ok X cX9_sheet RX9 4 2 c) {r : Int32 × SS} (RT : ∀ pc ls, decode cX9_sheet pc = .ok (.ireturn, 1) → V X 4 0 0 pc ls [.int r.1] (wC ad c G r.2)) : ∀ (s : SS), CT_sheet_27 G s = some r → V X 4 0 0 27 [] [] (wC ad c G s) := by
  intro s h
  rw [CT_sheet_27] at h
  refine v_bipush (v := (-2 : Int32)) K dX9_sheet_27 (by decide) ?_
  obtain rfl := Option.some.inj h
  exact RT _ _ dX9_sheet_29
set_option maxHeartbeats 4000000 in
set_option maxRecDepth 100000 in
theorem wCT_sheet {ad : Nat → Nat} {G : GG} {X : Cx} {c : Nat → ClassId} (hG : gok G) (K : Ok X cX9_sheet RX9 4 2 c) {r : Int32 × SS} (RT : ∀ pc ls, decode cX9_sheet pc = .ok (.ireturn, 1) → V X 4 0 0 pc ls [.int r.1] (wC ad c G r.2)) (s : SS) (x1 : Int32) (x2 : Int32) (x3 : Int32) (h : CT_sheet G s x1 x2 x3 = some r) : V X 4 0 0 0 [(0, .ref (ad 0)), (1, .int x1), (2, .int x2), (3, .int x3)] [] (wC ad c G s) := by
  rw [CT_sheet] at h
  refine v_aload_n K 0 rfl dX9_sheet_0 ?_
  refine v_iconst (v := (0 : Int32)) K dX9_sheet_1 (by decide) ?_
  refine pC_RX9_68 K dX9_sheet_2 ?_
  refine v_iload_n K 1 rfl dX9_sheet_5 ?_
  obtain ⟨r2, e1, h⟩ := bnd0_e h
  refine v_callsi K [.int x1] [] cw_RX9_72 (cCT_isNoSheet e1) rfl rfl (Nat.le_of_ble_eq_true rfl) (by decide) z0 dX9_sheet_6 ?_
  refine v_if_eq K 14 dX9_sheet_9 (by decide) (fun q3 => ?_) (fun q3 => ?_)
  · replace h := if_e h q3
    refine v_iload_n K 2 rfl dX9_sheet_14 ?_
    obtain ⟨r5, e4, h⟩ := bnd0_e h
    refine v_callsi K [.int x2] [] cw_RX9_76 (cCT_isNoSort e4) rfl rfl (Nat.le_of_ble_eq_true rfl) (by decide) z0 dX9_sheet_15 ?_
    refine v_if_ne K 27 dX9_sheet_18 (by decide) (fun q6 => ?_) (fun q6 => ?_)
    · replace h := if_n h q6
      refine v_drop [] [] rfl ?_
      exact wCT_sheet_27 hG K RT _ h
    · replace h := if_e h q6
      refine v_iload_n K 3 rfl dX9_sheet_21 ?_
      refine v_bipush (v := (40 : Int32)) K dX9_sheet_22 (by decide) ?_
      refine v_icmp_le K 30 dX9_sheet_24 (by decide) (fun q7 => ?_) (fun q7 => ?_)
      · replace h := if_e h q7
        refine v_iload_n K 3 rfl dX9_sheet_30 ?_
        refine v_if_ge K 40 dX9_sheet_31 (by decide) (fun q8 => ?_) (fun q8 => ?_)
        · replace h := if_e h q8
          refine v_aload_n K 0 rfl dX9_sheet_40 ?_
          refine gC_RX9_30 K dX9_sheet_41 ?_
          refine v_iload_n K 1 rfl dX9_sheet_44 ?_
          obtain ⟨b9, h⟩ := ob_e h
          refine qS K b9 dX9_sheet_45 ?_
          refine v_iload_n K 2 rfl dX9_sheet_46 ?_
          refine v_iload_n K 3 rfl dX9_sheet_47 ?_
          obtain ⟨s11, e10, h⟩ := bnd0_e h
          refine vC_callv K [.int x2, .int x3] [] cw_RX9_268 (cCE_renew hG (isS_of b9) e10) (rcE (isS_of b9)) rfl rfl (Nat.le_of_ble_eq_true rfl) (by decide) dX9_sheet_48 ?_
          refine v_iconst (v := (1 : Int32)) K dX9_sheet_51 (by decide) ?_
          obtain rfl := Option.some.inj h
          exact RT _ _ dX9_sheet_52
        · replace h := if_n h q8
          refine v_aload_n K 0 rfl dX9_sheet_34 ?_
          refine v_iconst (v := (4 : Int32)) K dX9_sheet_35 (by decide) ?_
          obtain ⟨r14, s13, e12, h⟩ := bnd_e h
          refine vC_calli K [.int (4 : Int32)] [] cw_RX9_86 (cCT_failed hG e12) rcT rfl rfl (Nat.le_of_ble_eq_true rfl) (by decide) dX9_sheet_36 ?_
          obtain rfl := Option.some.inj h
          exact RT _ _ dX9_sheet_39
      · replace h := if_n h q7
        refine v_drop [] [] rfl ?_
        exact wCT_sheet_27 hG K RT _ h
  · replace h := if_n h q3
    refine v_iconst (v := (-1 : Int32)) K dX9_sheet_12 (by decide) ?_
    obtain rfl := Option.some.inj h
    exact RT _ _ dX9_sheet_13
theorem cCT_sheet {l : Launch} {D : va_G} {c : Nat → ClassId} {s s' : SS} {ad : Nat → Nat} {G : GG} (hG : gok G)  {x1 : Int32} {x2 : Int32} {x3 : Int32} {r : Int32} (h : CT_sheet G s x1 x2 x3 = some (r, s')) : Ci l D c yX9_sheet cX9_sheet 4 (some .int) 2 [.ref (ad 0), .int x1, .int x2, .int x3] (wC ad c G s) r (wC ad c G s') := Ci.of (by decide) (Nat.le_of_ble_eq_true rfl) (fun X K RT => wCT_sheet hG K (r := (r, s')) RT s x1 x2 x3 h)
set_option maxHeartbeats 4000000 in
set_option maxRecDepth 100000 in
theorem wCT_take_70 {ad : Nat → Nat} {G : GG} {X : Cx} {c : Nat → ClassId} (hG : gok G) (K : Ok X cX9_take RX9 11 2 c) {r : Int32 × SS} (RT : ∀ pc ls, decode cX9_take pc = .ok (.ireturn, 1) → V X 11 0 0 pc ls [.int r.1] (wC ad c G r.2)) {k23 : Int32 → Int32 → Int32 → Int32 → Int32 → Int64 → Int32 → SS → Option (Int32 × SS)} (hk23 : ∀ (x1 : Int32) (x2 : Int32) (x3 : Int32) (x4 : Int32) (x5 : Int32) (x6 : Int64) (x8 : Int32) (s : SS), k23 x1 x2 x3 x4 x5 x6 x8 s = some r → V X 11 0 0 23 [(1, .int x1), (2, .int x2), (3, .int x3), (4, .int x4), (5, .int x5), (6, .long x6), (8, .int x8)] [] (wC ad c G s)) : ∀ (x1 : Int32) (x2 : Int32) (x3 : Int32) (x4 : Int32) (x5 : Int32) (x6 : Int64) (x8 : Int32) (s : SS), CT_take_70 G k23 x1 x2 x3 x4 x5 x6 x8 s = some r → V X 11 0 0 70 [(1, .int x1), (2, .int x2), (3, .int x3), (4, .int x4), (5, .int x5), (6, .long x6), (8, .int x8)] [] (wC ad c G s) := by
  intro x1 x2 x3 x4 x5 x6 x8 s h
  rw [CT_take_70] at h
  refine v_iinc (v := (x8 + (1 : Int32))) K 6 [(1, .int x1), (2, .int x2), (3, .int x3), (4, .int x4), (5, .int x5), (6, .long x6), (8, .int (x8 + (1 : Int32)))] [1, 2, 3, 4, 5, 6, 0] dX9_take_70 rfl rfl (by decide) rfl ?_
  refine v_goto K 23 dX9_take_73 (by decide) ?_
  exact hk23 _ _ _ _ _ _ _ _ h
set_option maxHeartbeats 4000000 in
set_option maxRecDepth 100000 in
theorem wCT_take_23 {ad : Nat → Nat} {G : GG} {X : Cx} {c : Nat → ClassId} (hG : gok G) (K : Ok X cX9_take RX9 11 2 c) {r : Int32 × SS} (RT : ∀ pc ls, decode cX9_take pc = .ok (.ireturn, 1) → V X 11 0 0 pc ls [.int r.1] (wC ad c G r.2)) : ∀ (n : Nat) (x1 : Int32) (x2 : Int32) (x3 : Int32) (x4 : Int32) (x5 : Int32) (x6 : Int64) (x8 : Int32) (s : SS), CT_take_23 G n x1 x2 x3 x4 x5 x6 x8 s = some r → V X 11 0 0 23 [(1, .int x1), (2, .int x2), (3, .int x3), (4, .int x4), (5, .int x5), (6, .long x6), (8, .int x8)] [] (wC ad c G s) := by
  intro n
  induction n with
  | zero => intro _ _ _ _ _ _ _ _ h; cases h
  | succ n ih =>
    intro x1 x2 x3 x4 x5 x6 x8 s h
    rw [CT_take_23] at h
    refine v_iload K 6 rfl dX9_take_23 ?_
    refine v_bipush (v := (8 : Int32)) K dX9_take_25 (by decide) ?_
    refine v_icmp_gt K 76 dX9_take_27 (by decide) (fun q4 => ?_) (fun q4 => ?_)
    · replace h := if_e h q4
      refine v_iload K 4 rfl dX9_take_76 ?_
      obtain rfl := Option.some.inj h
      exact RT _ _ dX9_take_78
    · replace h := if_n h q4
      refine v_iload K 6 rfl dX9_take_30 ?_
      refine v_iload_n K 0 rfl dX9_take_32 ?_
      refine v_iload_n K 1 rfl dX9_take_33 ?_
      refine v_iload_n K 2 rfl dX9_take_34 ?_
      refine v_iload K 3 rfl dX9_take_35 ?_
      obtain ⟨r6, e5, h⟩ := bnd0_e h
      refine v_callsl K [.int x8, .int x1, .int x2, .int x3, .int x4] [] cw_RX9_250 (cCT_awaited e5) rfl rfl (Nat.le_of_ble_eq_true rfl) (by decide) z0 dX9_take_37 ?_
      refine v_ldc2 (v := (100 : Int64)) K kC_254 dX9_take_40 ?_
      refine v_bipush (v := (8 : Int32)) K dX9_take_43 (by decide) ?_
      refine v_iload K 6 rfl dX9_take_45 ?_
      refine v_isub K dX9_take_47 ?_
      obtain ⟨r8, e7, h⟩ := bnd0_e h
      refine v_callsl K [.long (100 : Int64), .int ((8 : Int32) - x8)] [.long r6] cw_RX9_256 (cCT_power e7) rfl rfl (Nat.le_of_ble_eq_true rfl) (by decide) z0 dX9_take_48 ?_
      refine v_lmul K dX9_take_51 ?_
      refine v_lstore K [(1, .int x1), (2, .int x2), (3, .int x3), (4, .int x4), (5, .int x5), (6, .long x6), (8, .int x8), (9, .long (r6 * r8))] [1, 2, 3, 4, 5, 6, 7, 0] dX9_take_52 (by decide) rfl ?_
      refine v_lload K 7 rfl dX9_take_54 ?_
      refine v_lload K 5 rfl dX9_take_56 ?_
      refine v_lcmp K dX9_take_58 ?_
      refine v_if_le K 70 dX9_take_59 (by decide) (fun q9 => ?_) (fun q9 => ?_)
      · replace h := if_e h q9
        refine v_drop [(1, .int x1), (2, .int x2), (3, .int x3), (4, .int x4), (5, .int x5), (6, .long x6), (8, .int x8)] [0, 1, 2, 3, 4, 5, 6] rfl ?_
        exact wCT_take_70 hG K RT (fun a0 a1 a2 a3 a4 a5 a6 a7 e => ih a0 a1 a2 a3 a4 a5 a6 a7 e) _ _ _ _ _ _ _ _ h
      · replace h := if_n h q9
        refine v_lload K 7 rfl dX9_take_62 ?_
        refine v_lstore K [(1, .int x1), (2, .int x2), (3, .int x3), (4, .int x4), (6, .long (r6 * r8)), (8, .int x8)] [1, 2, 3, 4, 0, 6] dX9_take_64 (by decide) rfl ?_
        refine v_iload K 5 rfl dX9_take_66 ?_
        refine v_istore K [(1, .int x1), (2, .int x2), (3, .int x3), (4, .int x4), (5, .int x8), (6, .long (r6 * r8)), (8, .int x8)] [1, 2, 3, 4, 0, 5, 6] dX9_take_68 (by decide) rfl ?_
        exact wCT_take_70 hG K RT (fun a0 a1 a2 a3 a4 a5 a6 a7 e => ih a0 a1 a2 a3 a4 a5 a6 a7 e) _ _ _ _ _ _ _ _ h
set_option maxHeartbeats 4000000 in
set_option maxRecDepth 100000 in
theorem wCT_take {ad : Nat → Nat} {G : GG} {X : Cx} {c : Nat → ClassId} (hG : gok G) (K : Ok X cX9_take RX9 11 2 c) {r : Int32 × SS} (RT : ∀ pc ls, decode cX9_take pc = .ok (.ireturn, 1) → V X 11 0 0 pc ls [.int r.1] (wC ad c G r.2)) (s : SS) (x1 : Int32) (x2 : Int32) (x3 : Int32) (x4 : Int32) (h : CT_take G s x1 x2 x3 x4 = some r) : V X 11 0 0 0 [(0, .ref (ad 0)), (1, .int x1), (2, .int x2), (3, .int x3), (4, .int x4)] [] (wC ad c G s) := by
  rw [CT_take] at h
  refine v_iload_n K 1 rfl dX9_take_0 ?_
  refine v_iload_n K 2 rfl dX9_take_1 ?_
  refine v_iload_n K 3 rfl dX9_take_2 ?_
  refine v_iload K 4 rfl dX9_take_3 ?_
  obtain ⟨r2, e1, h⟩ := bnd0_e h
  refine v_callsi K [.int x1, .int x2, .int x3, .int x4] [] cw_RX9_246 (cCT_isNoTaking e1) rfl rfl (Nat.le_of_ble_eq_true rfl) (by decide) z0 dX9_take_5 ?_
  refine v_if_eq K 14 dX9_take_8 (by decide) (fun q3 => ?_) (fun q3 => ?_)
  · replace h := if_e h q3
    refine v_iconst (v := (0 : Int32)) K dX9_take_14 (by decide) ?_
    refine v_istore K [(0, .ref (ad 0)), (1, .int x1), (2, .int x2), (3, .int x3), (4, .int x4), (5, .int (0 : Int32))] [1, 2, 3, 4, 5, 0] dX9_take_15 (by decide) rfl ?_
    refine v_lconst (v := (0 : Int64)) K dX9_take_17 (by decide) ?_
    refine v_lstore K [(0, .ref (ad 0)), (1, .int x1), (2, .int x2), (3, .int x3), (4, .int x4), (5, .int (0 : Int32)), (6, .long (0 : Int64))] [1, 2, 3, 4, 5, 6, 0] dX9_take_18 (by decide) rfl ?_
    refine v_iconst (v := (1 : Int32)) K dX9_take_20 (by decide) ?_
    refine v_istore K [(0, .ref (ad 0)), (1, .int x1), (2, .int x2), (3, .int x3), (4, .int x4), (5, .int (0 : Int32)), (6, .long (0 : Int64)), (8, .int (1 : Int32))] [1, 2, 3, 4, 5, 6, 7, 0] dX9_take_21 (by decide) rfl ?_
    refine v_drop [(1, .int x1), (2, .int x2), (3, .int x3), (4, .int x4), (5, .int (0 : Int32)), (6, .long (0 : Int64)), (8, .int (1 : Int32))] [1, 2, 3, 4, 5, 6, 7] rfl ?_
    exact wCT_take_23 hG K RT fuel _ _ _ _ _ _ _ _ h
  · replace h := if_n h q3
    refine v_bipush (v := (-2 : Int32)) K dX9_take_11 (by decide) ?_
    obtain rfl := Option.some.inj h
    exact RT _ _ dX9_take_13
theorem cCT_take {l : Launch} {D : va_G} {c : Nat → ClassId} {s s' : SS} {ad : Nat → Nat} {G : GG} (hG : gok G)  {x1 : Int32} {x2 : Int32} {x3 : Int32} {x4 : Int32} {r : Int32} (h : CT_take G s x1 x2 x3 x4 = some (r, s')) : Ci l D c yX9_take cX9_take 11 (some .int) 2 [.ref (ad 0), .int x1, .int x2, .int x3, .int x4] (wC ad c G s) r (wC ad c G s') := Ci.of (by decide) (Nat.le_of_ble_eq_true rfl) (fun X K RT => wCT_take hG K (r := (r, s')) RT s x1 x2 x3 x4 h)
set_option maxHeartbeats 4000000 in
set_option maxRecDepth 100000 in
theorem wCD_coinInAll_4 {ad : Nat → Nat} {G : GG} {o : Nat} {X : Cx} {c : Nat → ClassId} (hG : gok G) (ho : isD o = true) (K : Ok X cX0_coinInAll RX0 3 2 c) {r : Int32 × SS} (RT : ∀ pc ls, decode cX0_coinInAll pc = .ok (.ireturn, 1) → V X 3 0 0 pc ls [.int r.1] (wC ad c G r.2)) : ∀ (n : Nat) (x1 : Int32) (x2 : Int32) (s : SS), CD_coinInAll_4 G o n x1 x2 s = some r → V X 3 0 0 4 [(0, .ref (ad o)), (1, .int x1), (2, .int x2)] [] (wC ad c G s) := by
  intro n
  induction n with
  | zero => intro _ _ _ h; cases h
  | succ n ih =>
    intro x1 x2 s h
    rw [CD_coinInAll_4] at h
    refine v_iload_n K 2 rfl dX0_coinInAll_4 ?_
    refine v_aload_n K 0 rfl dX0_coinInAll_5 ?_
    refine gC_RX0_86 ho (v := (s o 10)) K dX0_coinInAll_6 rfl ?_
    refine v_icmp_ge K 31 dX0_coinInAll_9 (by decide) (fun q1 => ?_) (fun q1 => ?_)
    · replace h := if_e h q1
      refine v_iload_n K 1 rfl dX0_coinInAll_31 ?_
      obtain rfl := Option.some.inj h
      exact RT _ _ dX0_coinInAll_32
    · replace h := if_n h q1
      refine v_iload_n K 1 rfl dX0_coinInAll_12 ?_
      refine v_aload_n K 0 rfl dX0_coinInAll_13 ?_
      refine v_aload_n K 0 rfl dX0_coinInAll_14 ?_
      refine gC_RX0_27 ho K dX0_coinInAll_15 ?_
      refine v_iload_n K 2 rfl dX0_coinInAll_18 ?_
      obtain ⟨b2, h⟩ := ob_e h
      refine lC (v := (s (o + 6) x2.toNatClampNeg)) K (aD_6 ho) b2 dX0_coinInAll_19 rfl ?_
      obtain ⟨r5, s4, e3, h⟩ := bnd_e h
      refine vC_calli K [.int (s (o + 6) x2.toNatClampNeg)] [.int x1] cw_RX0_89 (cCD_coinOf hG ho e3) (rcD ho) rfl rfl (Nat.le_of_ble_eq_true rfl) (by decide) dX0_coinInAll_20 ?_
      refine v_iadd K dX0_coinInAll_23 ?_
      refine v_istore_n K [(0, .ref (ad o)), (1, .int (x1 + r5)), (2, .int x2)] [1, 0, 2] dX0_coinInAll_24 rfl (by decide) rfl ?_
      refine v_iinc (v := (x2 + (1 : Int32))) K 2 [(0, .ref (ad o)), (1, .int (x1 + r5)), (2, .int (x2 + (1 : Int32)))] [1, 2, 0] dX0_coinInAll_25 rfl rfl (by decide) rfl ?_
      refine v_goto K 4 dX0_coinInAll_28 (by decide) ?_
      exact ih _ _ _ h
set_option maxHeartbeats 4000000 in
set_option maxRecDepth 100000 in
theorem wCD_coinInAll {ad : Nat → Nat} {G : GG} {o : Nat} {X : Cx} {c : Nat → ClassId} (hG : gok G) (ho : isD o = true) (K : Ok X cX0_coinInAll RX0 3 2 c) {r : Int32 × SS} (RT : ∀ pc ls, decode cX0_coinInAll pc = .ok (.ireturn, 1) → V X 3 0 0 pc ls [.int r.1] (wC ad c G r.2)) (s : SS) (h : CD_coinInAll G o s = some r) : V X 3 0 0 0 [(0, .ref (ad o))] [] (wC ad c G s) := by
  rw [CD_coinInAll] at h
  refine v_iconst (v := (0 : Int32)) K dX0_coinInAll_0 (by decide) ?_
  refine v_istore_n K [(0, .ref (ad o)), (1, .int (0 : Int32))] [1, 0] dX0_coinInAll_1 rfl (by decide) rfl ?_
  refine v_iconst (v := (0 : Int32)) K dX0_coinInAll_2 (by decide) ?_
  refine v_istore_n K [(0, .ref (ad o)), (1, .int (0 : Int32)), (2, .int (0 : Int32))] [1, 2, 0] dX0_coinInAll_3 rfl (by decide) rfl ?_
  exact wCD_coinInAll_4 hG ho K RT fuel _ _ _ h
theorem cCD_coinInAll {l : Launch} {D : va_G} {c : Nat → ClassId} {s s' : SS} {ad : Nat → Nat} {G : GG} {o : Nat} (hG : gok G) (ho : isD o = true)  {r : Int32} (h : CD_coinInAll G o s = some (r, s')) : Ci l D c yX0_coinInAll cX0_coinInAll 3 (some .int) 2 [.ref (ad o)] (wC ad c G s) r (wC ad c G s') := Ci.of (by decide) (Nat.le_of_ble_eq_true rfl) (fun X K RT => wCD_coinInAll hG ho K (r := (r, s')) RT s  h)
set_option maxHeartbeats 4000000 in
set_option maxRecDepth 100000 in
theorem wCD_driveIn_143 {ad : Nat → Nat} {G : GG} {o : Nat} {X : Cx} {c : Nat → ClassId} (hG : gok G) (ho : isD o = true) (K : Ok X cX0_driveIn RX0 4 2 c) {r : SS} (RT : ∀ pc ls, decode cX0_driveIn pc = .ok (.return_, 1) → V X 4 0 0 pc ls [] (wC ad c G r)) {k104 : Int32 → Int32 → Int32 → SS → Option SS} (hk104 : ∀ (x1 : Int32) (x2 : Int32) (x3 : Int32) (s : SS), k104 x1 x2 x3 s = some r → V X 4 0 0 104 [(0, .ref (ad o)), (1, .int x1), (2, .int x2), (3, .int x3)] [] (wC ad c G s)) : ∀ (x1 : Int32) (x2 : Int32) (x3 : Int32) (s : SS), CD_driveIn_143 G o k104 x1 x2 x3 s = some r → V X 4 0 0 143 [(0, .ref (ad o)), (1, .int x1), (2, .int x2), (3, .int x3)] [] (wC ad c G s) := by
  intro x1 x2 x3 s h
  rw [CD_driveIn_143] at h
  refine v_iinc (v := (x3 + (1 : Int32))) K 3 [(0, .ref (ad o)), (1, .int x1), (2, .int x2), (3, .int (x3 + (1 : Int32)))] [1, 2, 3, 0] dX0_driveIn_143 rfl rfl (by decide) rfl ?_
  refine v_goto K 104 dX0_driveIn_146 (by decide) ?_
  exact hk104 _ _ _ _ h
set_option maxHeartbeats 4000000 in
set_option maxRecDepth 100000 in
theorem wCD_driveIn_104 {ad : Nat → Nat} {G : GG} {o : Nat} {X : Cx} {c : Nat → ClassId} (hG : gok G) (ho : isD o = true) (K : Ok X cX0_driveIn RX0 4 2 c) {r : SS} (RT : ∀ pc ls, decode cX0_driveIn pc = .ok (.return_, 1) → V X 4 0 0 pc ls [] (wC ad c G r)) : ∀ (n : Nat) (x1 : Int32) (x2 : Int32) (x3 : Int32) (s : SS), CD_driveIn_104 G o n x1 x2 x3 s = some r → V X 4 0 0 104 [(0, .ref (ad o)), (1, .int x1), (2, .int x2), (3, .int x3)] [] (wC ad c G s) := by
  intro n
  induction n with
  | zero => intro _ _ _ _ h; cases h
  | succ n ih =>
    intro x1 x2 x3 s h
    rw [CD_driveIn_104] at h
    refine v_iload_n K 3 rfl dX0_driveIn_104 ?_
    refine v_bipush (v := (8 : Int32)) K dX0_driveIn_105 (by decide) ?_
    refine v_icmp_ge K 149 dX0_driveIn_107 (by decide) (fun q14 => ?_) (fun q14 => ?_)
    · replace h := if_e h q14
      obtain rfl := Option.some.inj h
      exact RT _ _ dX0_driveIn_149
    · replace h := if_n h q14
      refine v_iload_n K 2 rfl dX0_driveIn_110 ?_
      refine v_iload_n K 3 rfl dX0_driveIn_111 ?_
      refine v_ishr K dX0_driveIn_112 ?_
      refine v_iconst (v := (1 : Int32)) K dX0_driveIn_113 (by decide) ?_
      refine v_iand K dX0_driveIn_114 ?_
      refine v_iconst (v := (1 : Int32)) K dX0_driveIn_115 (by decide) ?_
      refine v_icmp_ne K 143 dX0_driveIn_116 (by decide) (fun q15 => ?_) (fun q15 => ?_)
      · replace h := if_n h q15
        exact wCD_driveIn_143 hG ho K RT (fun a0 a1 a2 a3 e => ih a0 a1 a2 a3 e) _ _ _ _ h
      · replace h := if_e h q15
        refine v_aload_n K 0 rfl dX0_driveIn_119 ?_
        refine v_iload_n K 3 rfl dX0_driveIn_120 ?_
        obtain ⟨r18, s17, e16, h⟩ := bnd_e h
        refine vC_calli K [.int x3] [] cw_RX0_127 (cCD_findPlace hG ho e16) (rcD ho) rfl rfl (Nat.le_of_ble_eq_true rfl) (by decide) dX0_driveIn_121 ?_
        refine v_bipush (v := (-9 : Int32)) K dX0_driveIn_124 (by decide) ?_
        refine v_icmp_ne K 143 dX0_driveIn_126 (by decide) (fun q19 => ?_) (fun q19 => ?_)
        · replace h := if_n h q19
          exact wCD_driveIn_143 hG ho K RT (fun a0 a1 a2 a3 e => ih a0 a1 a2 a3 e) _ _ _ _ h
        · replace h := if_e h q19
          refine v_aload_n K 0 rfl dX0_driveIn_129 ?_
          refine gC_RX0_9 ho K dX0_driveIn_130 ?_
          refine v_iload_n K 3 rfl dX0_driveIn_133 ?_
          refine v_iconst (v := (0 : Int32)) K dX0_driveIn_134 (by decide) ?_
          obtain ⟨b20, h⟩ := ob_e h
          refine sC K (aD_1 ho) b20 dX0_driveIn_135 ?_
          refine v_aload_n K 0 rfl dX0_driveIn_136 ?_
          refine gC_RX0_21 ho K dX0_driveIn_137 ?_
          refine v_iload_n K 3 rfl dX0_driveIn_140 ?_
          refine v_iload_n K 1 rfl dX0_driveIn_141 ?_
          obtain ⟨b21, h⟩ := ob_e h
          refine sC K (aD_4 ho) b21 dX0_driveIn_142 ?_
          exact wCD_driveIn_143 hG ho K RT (fun a0 a1 a2 a3 e => ih a0 a1 a2 a3 e) _ _ _ _ h
set_option maxHeartbeats 4000000 in
set_option maxRecDepth 100000 in
theorem wCD_driveIn_96 {ad : Nat → Nat} {G : GG} {o : Nat} {X : Cx} {c : Nat → ClassId} (hG : gok G) (ho : isD o = true) (K : Ok X cX0_driveIn RX0 4 2 c) {r : SS} (RT : ∀ pc ls, decode cX0_driveIn pc = .ok (.return_, 1) → V X 4 0 0 pc ls [] (wC ad c G r)) {k65 : Int32 → Int32 → Int32 → SS → Option SS} (hk65 : ∀ (x1 : Int32) (x2 : Int32) (x3 : Int32) (s : SS), k65 x1 x2 x3 s = some r → V X 4 0 0 65 [(0, .ref (ad o)), (1, .int x1), (2, .int x2), (3, .int x3)] [] (wC ad c G s)) : ∀ (x1 : Int32) (x2 : Int32) (x3 : Int32) (s : SS), CD_driveIn_96 G o k65 x1 x2 x3 s = some r → V X 4 0 0 96 [(0, .ref (ad o)), (1, .int x1), (2, .int x2), (3, .int x3)] [] (wC ad c G s) := by
  intro x1 x2 x3 s h
  rw [CD_driveIn_96] at h
  refine v_iinc (v := (x3 + (1 : Int32))) K 3 [(0, .ref (ad o)), (1, .int x1), (2, .int x2), (3, .int (x3 + (1 : Int32)))] [1, 2, 3, 0] dX0_driveIn_96 rfl rfl (by decide) rfl ?_
  refine v_goto K 65 dX0_driveIn_99 (by decide) ?_
  exact hk65 _ _ _ _ h
set_option maxHeartbeats 4000000 in
set_option maxRecDepth 100000 in
theorem wCD_driveIn_65 {ad : Nat → Nat} {G : GG} {o : Nat} {X : Cx} {c : Nat → ClassId} (hG : gok G) (ho : isD o = true) (K : Ok X cX0_driveIn RX0 4 2 c) {r : SS} (RT : ∀ pc ls, decode cX0_driveIn pc = .ok (.return_, 1) → V X 4 0 0 pc ls [] (wC ad c G r)) : ∀ (n : Nat) (x1 : Int32) (x2 : Int32) (x3 : Int32) (s : SS), CD_driveIn_65 G o n x1 x2 x3 s = some r → V X 4 0 0 65 [(0, .ref (ad o)), (1, .int x1), (2, .int x2), (3, .int x3)] [] (wC ad c G s) := by
  intro n
  induction n with
  | zero => intro _ _ _ _ h; cases h
  | succ n ih =>
    intro x1 x2 x3 s h
    rw [CD_driveIn_65] at h
    refine v_iload_n K 3 rfl dX0_driveIn_65 ?_
    refine v_aload_n K 0 rfl dX0_driveIn_66 ?_
    refine gC_RX0_33 ho (v := (s o 9)) K dX0_driveIn_67 rfl ?_
    refine gC_RX0_97 (hou_ok (s o 9)) (v := (s (hou (s o 9)) 2)) K dX0_driveIn_70 rfl ?_
    refine v_icmp_ge K 102 dX0_driveIn_73 (by decide) (fun q10 => ?_) (fun q10 => ?_)
    · replace h := if_e h q10
      refine v_iconst (v := (0 : Int32)) K dX0_driveIn_102 (by decide) ?_
      refine v_istore_n K [(0, .ref (ad o)), (1, .int x1), (2, .int x2), (3, .int (0 : Int32))] [1, 2, 3, 0] dX0_driveIn_103 rfl (by decide) rfl ?_
      exact wCD_driveIn_104 hG ho K RT fuel _ _ _ _ h
    · replace h := if_n h q10
      refine v_aload_n K 0 rfl dX0_driveIn_76 ?_
      refine gC_RX0_33 ho (v := (s o 9)) K dX0_driveIn_77 rfl ?_
      refine gC_RX0_124 (hou_ok (s o 9)) K dX0_driveIn_80 ?_
      refine v_iload_n K 3 rfl dX0_driveIn_83 ?_
      obtain ⟨b11, h⟩ := ob_e h
      refine lC (v := (s ((hou (s o 9)) + 1) x3.toNatClampNeg)) K (aH_1 (hou_ok (s o 9))) b11 dX0_driveIn_84 rfl ?_
      refine v_if_ne K 96 dX0_driveIn_85 (by decide) (fun q12 => ?_) (fun q12 => ?_)
      · replace h := if_n h q12
        exact wCD_driveIn_96 hG ho K RT (fun a0 a1 a2 a3 e => ih a0 a1 a2 a3 e) _ _ _ _ h
      · replace h := if_e h q12
        refine v_aload_n K 0 rfl dX0_driveIn_88 ?_
        refine gC_RX0_30 ho K dX0_driveIn_89 ?_
        refine v_iload_n K 3 rfl dX0_driveIn_92 ?_
        refine v_bipush (v := (-2 : Int32)) K dX0_driveIn_93 (by decide) ?_
        obtain ⟨b13, h⟩ := ob_e h
        refine sC K (aD_7 ho) b13 dX0_driveIn_95 ?_
        exact wCD_driveIn_96 hG ho K RT (fun a0 a1 a2 a3 e => ih a0 a1 a2 a3 e) _ _ _ _ h
set_option maxHeartbeats 4000000 in
set_option maxRecDepth 100000 in
theorem wCD_driveIn_57 {ad : Nat → Nat} {G : GG} {o : Nat} {X : Cx} {c : Nat → ClassId} (hG : gok G) (ho : isD o = true) (K : Ok X cX0_driveIn RX0 4 2 c) {r : SS} (RT : ∀ pc ls, decode cX0_driveIn pc = .ok (.return_, 1) → V X 4 0 0 pc ls [] (wC ad c G r)) {k4 : Int32 → Int32 → Int32 → SS → Option SS} (hk4 : ∀ (x1 : Int32) (x2 : Int32) (x3 : Int32) (s : SS), k4 x1 x2 x3 s = some r → V X 4 0 0 4 [(0, .ref (ad o)), (1, .int x1), (2, .int x2), (3, .int x3)] [] (wC ad c G s)) : ∀ (x1 : Int32) (x2 : Int32) (x3 : Int32) (s : SS), CD_driveIn_57 G o k4 x1 x2 x3 s = some r → V X 4 0 0 57 [(0, .ref (ad o)), (1, .int x1), (2, .int x2), (3, .int x3)] [] (wC ad c G s) := by
  intro x1 x2 x3 s h
  rw [CD_driveIn_57] at h
  refine v_iinc (v := (x3 + (1 : Int32))) K 3 [(0, .ref (ad o)), (1, .int x1), (2, .int x2), (3, .int (x3 + (1 : Int32)))] [1, 2, 3, 0] dX0_driveIn_57 rfl rfl (by decide) rfl ?_
  refine v_goto K 4 dX0_driveIn_60 (by decide) ?_
  exact hk4 _ _ _ _ h
set_option maxHeartbeats 4000000 in
set_option maxRecDepth 100000 in
theorem wCD_driveIn_4 {ad : Nat → Nat} {G : GG} {o : Nat} {X : Cx} {c : Nat → ClassId} (hG : gok G) (ho : isD o = true) (K : Ok X cX0_driveIn RX0 4 2 c) {r : SS} (RT : ∀ pc ls, decode cX0_driveIn pc = .ok (.return_, 1) → V X 4 0 0 pc ls [] (wC ad c G r)) : ∀ (n : Nat) (x1 : Int32) (x2 : Int32) (x3 : Int32) (s : SS), CD_driveIn_4 G o n x1 x2 x3 s = some r → V X 4 0 0 4 [(0, .ref (ad o)), (1, .int x1), (2, .int x2), (3, .int x3)] [] (wC ad c G s) := by
  intro n
  induction n with
  | zero => intro _ _ _ _ h; cases h
  | succ n ih =>
    intro x1 x2 x3 s h
    rw [CD_driveIn_4] at h
    refine v_iload_n K 3 rfl dX0_driveIn_4 ?_
    refine v_aload_n K 0 rfl dX0_driveIn_5 ?_
    refine gC_RX0_33 ho (v := (s o 9)) K dX0_driveIn_6 rfl ?_
    refine gC_RX0_97 (hou_ok (s o 9)) (v := (s (hou (s o 9)) 2)) K dX0_driveIn_9 rfl ?_
    refine v_icmp_ge K 63 dX0_driveIn_12 (by decide) (fun q1 => ?_) (fun q1 => ?_)
    · replace h := if_e h q1
      refine v_iconst (v := (0 : Int32)) K dX0_driveIn_63 (by decide) ?_
      refine v_istore_n K [(0, .ref (ad o)), (1, .int x1), (2, .int x2), (3, .int (0 : Int32))] [1, 2, 3, 0] dX0_driveIn_64 rfl (by decide) rfl ?_
      exact wCD_driveIn_65 hG ho K RT fuel _ _ _ _ h
    · replace h := if_n h q1
      refine v_aload_n K 0 rfl dX0_driveIn_15 ?_
      refine gC_RX0_33 ho (v := (s o 9)) K dX0_driveIn_16 rfl ?_
      refine gC_RX0_124 (hou_ok (s o 9)) K dX0_driveIn_19 ?_
      refine v_iload_n K 3 rfl dX0_driveIn_22 ?_
      obtain ⟨b2, h⟩ := ob_e h
      refine lC (v := (s ((hou (s o 9)) + 1) x3.toNatClampNeg)) K (aH_1 (hou_ok (s o 9))) b2 dX0_driveIn_23 rfl ?_
      refine v_if_ne K 57 dX0_driveIn_24 (by decide) (fun q3 => ?_) (fun q3 => ?_)
      · replace h := if_n h q3
        exact wCD_driveIn_57 hG ho K RT (fun a0 a1 a2 a3 e => ih a0 a1 a2 a3 e) _ _ _ _ h
      · replace h := if_e h q3
        refine v_aload_n K 0 rfl dX0_driveIn_27 ?_
        refine gC_RX0_30 ho K dX0_driveIn_28 ?_
        refine v_iload_n K 3 rfl dX0_driveIn_31 ?_
        obtain ⟨b4, h⟩ := ob_e h
        refine lC (v := (s (o + 7) x3.toNatClampNeg)) K (aD_7 ho) b4 dX0_driveIn_32 rfl ?_
        refine v_if_lt K 57 dX0_driveIn_33 (by decide) (fun q5 => ?_) (fun q5 => ?_)
        · replace h := if_e h q5
          exact wCD_driveIn_57 hG ho K RT (fun a0 a1 a2 a3 e => ih a0 a1 a2 a3 e) _ _ _ _ h
        · replace h := if_n h q5
          refine v_iload_n K 2 rfl dX0_driveIn_36 ?_
          refine v_iconst (v := (1 : Int32)) K dX0_driveIn_37 (by decide) ?_
          refine v_aload_n K 0 rfl dX0_driveIn_38 ?_
          refine gC_RX0_30 ho K dX0_driveIn_39 ?_
          refine v_iload_n K 3 rfl dX0_driveIn_42 ?_
          obtain ⟨b6, h⟩ := ob_e h
          refine lC (v := (s (o + 7) x3.toNatClampNeg)) K (aD_7 ho) b6 dX0_driveIn_43 rfl ?_
          refine v_ishl K dX0_driveIn_44 ?_
          refine v_ior K dX0_driveIn_45 ?_
          refine v_istore_n K [(0, .ref (ad o)), (1, .int x1), (2, .int (x2 ||| ((1 : Int32) <<< ((s (o + 7) x3.toNatClampNeg) &&& 31)))), (3, .int x3)] [1, 2, 0, 3] dX0_driveIn_46 rfl (by decide) rfl ?_
          refine v_aload_n K 0 rfl dX0_driveIn_47 ?_
          refine v_aload_n K 0 rfl dX0_driveIn_48 ?_
          refine gC_RX0_30 ho K dX0_driveIn_49 ?_
          refine v_iload_n K 3 rfl dX0_driveIn_52 ?_
          obtain ⟨b7, h⟩ := ob_e h
          refine lC (v := (s (o + 7) x3.toNatClampNeg)) K (aD_7 ho) b7 dX0_driveIn_53 rfl ?_
          obtain ⟨s9, e8, h⟩ := bnd0_e h
          refine vC_callv K [.int (s (o + 7) x3.toNatClampNeg)] [] cw_RX0_121 (cCD_getUp hG ho e8) (rcD ho) rfl rfl (Nat.le_of_ble_eq_true rfl) (by decide) dX0_driveIn_54 ?_
          exact wCD_driveIn_57 hG ho K RT (fun a0 a1 a2 a3 e => ih a0 a1 a2 a3 e) _ _ _ _ h
set_option maxHeartbeats 4000000 in
set_option maxRecDepth 100000 in
theorem wCD_driveIn {ad : Nat → Nat} {G : GG} {o : Nat} {X : Cx} {c : Nat → ClassId} (hG : gok G) (ho : isD o = true) (K : Ok X cX0_driveIn RX0 4 2 c) {r : SS} (RT : ∀ pc ls, decode cX0_driveIn pc = .ok (.return_, 1) → V X 4 0 0 pc ls [] (wC ad c G r)) (s : SS) (x1 : Int32) (h : CD_driveIn G o s x1 = some r) : V X 4 0 0 0 [(0, .ref (ad o)), (1, .int x1)] [] (wC ad c G s) := by
  rw [CD_driveIn] at h
  refine v_iconst (v := (0 : Int32)) K dX0_driveIn_0 (by decide) ?_
  refine v_istore_n K [(0, .ref (ad o)), (1, .int x1), (2, .int (0 : Int32))] [1, 2, 0] dX0_driveIn_1 rfl (by decide) rfl ?_
  refine v_iconst (v := (0 : Int32)) K dX0_driveIn_2 (by decide) ?_
  refine v_istore_n K [(0, .ref (ad o)), (1, .int x1), (2, .int (0 : Int32)), (3, .int (0 : Int32))] [1, 2, 3, 0] dX0_driveIn_3 rfl (by decide) rfl ?_
  exact wCD_driveIn_4 hG ho K RT fuel _ _ _ _ h
theorem cCD_driveIn {l : Launch} {D : va_G} {c : Nat → ClassId} {s s' : SS} {ad : Nat → Nat} {G : GG} {o : Nat} (hG : gok G) (ho : isD o = true)  {x1 : Int32} (h : CD_driveIn G o s x1 = some s') : Cv l D c yX0_driveIn cX0_driveIn 4 none 2 [.ref (ad o), .int x1] (wC ad c G s) (wC ad c G s') := Cv.of (by decide) (Nat.le_of_ble_eq_true rfl) (fun X K RT => wCD_driveIn hG ho K RT s x1 h)
theorem cu_RX0_143_0 : cwOok RX0 143 RX2 RX2 yX2_staysFor yX2_staysFor cX2_staysFor 2 (some .int) 1 := ⟨⟨by decide, by decide, by decide +kernel⟩, by decide, all6 (BG_ix 543 (by decide +kernel) rfl) (BG_ix 475 (by decide +kernel) rfl) (BG_ix 473 (by decide +kernel) rfl) (BG_ix 474 (by decide +kernel) rfl) (BG_ix 473 (by decide +kernel) rfl) (BG_ix 69 (by decide +kernel) rfl), (BG_ix 483 (by decide +kernel) rfl), cX2_staysFor, 2, (some .int), (BG_ix 483 (by decide +kernel) rfl)⟩
theorem cu_RX0_143_1 : cwOok RX0 143 RX7 RX2 yX2_staysFor yX7_staysFor cX7_staysFor 2 (some .int) 1 := ⟨⟨by decide, by decide, by decide +kernel⟩, by decide, all6 (BG_ix 543 (by decide +kernel) rfl) (BG_ix 475 (by decide +kernel) rfl) (BG_ix 473 (by decide +kernel) rfl) (BG_ix 482 (by decide +kernel) rfl) (BG_ix 480 (by decide +kernel) rfl) (BG_ix 70 (by decide +kernel) rfl), (BG_ix 481 (by decide +kernel) rfl), cX2_staysFor, 2, (some .int), (BG_ix 483 (by decide +kernel) rfl)⟩
theorem cu_RX0_143_2 : cwOok RX0 143 RX4 RX2 yX2_staysFor yX4_staysFor cX4_staysFor 3 (some .int) 1 := ⟨⟨by decide, by decide, by decide +kernel⟩, by decide, all6 (BG_ix 543 (by decide +kernel) rfl) (BG_ix 475 (by decide +kernel) rfl) (BG_ix 473 (by decide +kernel) rfl) (BG_ix 476 (by decide +kernel) rfl) (BG_ix 477 (by decide +kernel) rfl) (BG_ix 71 (by decide +kernel) rfl), (BG_ix 478 (by decide +kernel) rfl), cX2_staysFor, 2, (some .int), (BG_ix 483 (by decide +kernel) rfl)⟩
theorem vU_RX0_143 {X : Cx} {cc : ByteArray} {nL d pc : Nat} {c : Nat → ClassId} {ls : List (Nat × Value)} {ad : Nat → Nat} {G : GG} {s s' : SS} {a : Nat} {x1 : Int32} {r : Int32} (hG : gok G) (ha : gm G a = true) (K : Ok X cc RX0 nL d c) (rest : List Value) (h : Cv_staysFor G a s x1 = some (r, s')) (hrm : (rest.map fun v => v.category).sum ≤ 8) (hdc : 1 + 1 ≤ d) (hd : decode cc pc = .ok (.invokevirtual 143, 3)) (k : V X nL 0 0 (pc + 3) ls (.int r :: rest) (wC ad c G s')) : V X nL 0 0 pc ls (.int x1 :: .ref a :: rest) (wC ad c G s) := by
  obtain ⟨q, hq⟩ := gpos (ad := ad) (c := c) (s := s) ha
  rw [Cv_staysFor] at h
  rcases gk3 G a with e | e | e <;> rw [e] at h hq
  · rw [if_pos rfl] at h
    exact v_callO K [.int x1] rest cu_RX0_143_0 (cCG_staysFor hG ha h) q hq rfl (wC_same ad c G s s') rfl rfl hrm (by omega) z0 hd k
  · rw [if_neg (by decide), if_pos rfl] at h
    exact v_callO K [.int x1] rest cu_RX0_143_1 (cCY_staysFor hG ha h) q hq rfl (wC_same ad c G s s') rfl rfl hrm (by omega) z0 hd k
  · rw [if_neg (by decide), if_neg (by decide)] at h
    exact v_callO K [.int x1] rest cu_RX0_143_2 (cCL_staysFor hG ha h) q hq rfl (wC_same ad c G s s') rfl rfl hrm (by omega) z0 hd k
set_option maxHeartbeats 4000000 in
set_option maxRecDepth 100000 in
theorem wCD_sitDown_60 {ad : Nat → Nat} {G : GG} {o : Nat} {X : Cx} {c : Nat → ClassId} (hG : gok G) (ho : isD o = true) (K : Ok X cX0_sitDown RX0 4 2 c) {r : Int32 × SS} (RT : nb r.1 = true → ∀ pc ls, decode cX0_sitDown pc = .ok (.ireturn, 1) → V X 4 0 0 pc ls [.int r.1] (wC ad c G r.2)) : ∀ (y1 : Int32) (y2 : Int32) (y3 : Nat) (y4 : Int32) (x1 : Int32) (x2 : Int32) (s : SS), CD_sitDown_60 G o y1 y2 y3 y4 x1 x2 s = some r → V X 4 0 0 60 [(0, .ref (ad o)), (1, .int x1), (2, .int x2)] [.int y4, .ref y3, .int y2, .int y1, .ref (ad (o + 4))] (wC ad c G s) := by
  intro y1 y2 y3 y4 x1 x2 s h
  rw [CD_sitDown_60] at h
  obtain ⟨b16, h⟩ := ob_e h
  obtain ⟨r19, s18, e17, h⟩ := bnd_e h
  refine vU_RX0_143 hG b16 K [.int y2, .int y1, .ref (ad (o + 4))] e17 (Nat.le_of_ble_eq_true rfl) (by decide) dX0_sitDown_60 ?_
  refine v_iadd K dX0_sitDown_63 ?_
  obtain ⟨b20, h⟩ := ob_e h
  refine sC K (aD_4 ho) b20 dX0_sitDown_64 ?_
  refine v_aload_n K 0 rfl dX0_sitDown_65 ?_
  refine gC_RX0_24 ho K dX0_sitDown_66 ?_
  refine v_iload_n K 1 rfl dX0_sitDown_69 ?_
  refine v_iload_n K 2 rfl dX0_sitDown_70 ?_
  refine v_aload_n K 0 rfl dX0_sitDown_71 ?_
  refine gC_RX0_47 ho K dX0_sitDown_72 ?_
  refine v_iload_n K 1 rfl dX0_sitDown_75 ?_
  obtain ⟨b21, h⟩ := ob_e h
  obtain ⟨a22, e23, h⟩ := gld_e h
  refine qG K e23 b21 dX0_sitDown_76 ?_
  refine gC_RX0_112 (hG _ _ e23) K dX0_sitDown_77 ?_
  refine v_isub K dX0_sitDown_80 ?_
  obtain ⟨b24, h⟩ := ob_e h
  refine sC K (aD_5 ho) b24 dX0_sitDown_81 ?_
  refine v_iconst (v := (1 : Int32)) K dX0_sitDown_82 (by decide) ?_
  obtain ⟨b25, h⟩ := ob_e h
  obtain rfl := Option.some.inj h
  exact RT b25 _ _ dX0_sitDown_83
set_option maxHeartbeats 4000000 in
set_option maxRecDepth 100000 in
theorem wCD_sitDown {ad : Nat → Nat} {G : GG} {o : Nat} {X : Cx} {c : Nat → ClassId} (hG : gok G) (ho : isD o = true) (K : Ok X cX0_sitDown RX0 4 2 c) {r : Int32 × SS} (RT : nb r.1 = true → ∀ pc ls, decode cX0_sitDown pc = .ok (.ireturn, 1) → V X 4 0 0 pc ls [.int r.1] (wC ad c G r.2)) (s : SS) (x1 : Int32) (x2 : Int32) (h : CD_sitDown G o s x1 x2 = some r) : V X 4 0 0 0 [(0, .ref (ad o)), (1, .int x1), (2, .int x2)] [] (wC ad c G s) := by
  rw [CD_sitDown] at h
  refine v_aload_n K 0 rfl dX0_sitDown_0 ?_
  refine v_iload_n K 1 rfl dX0_sitDown_1 ?_
  obtain ⟨r3, s2, e1, h⟩ := bnd_e h
  refine vC_calli K [.int x1] [] cw_RX0_127 (cCD_findPlace hG ho e1) (rcD ho) rfl rfl (Nat.le_of_ble_eq_true rfl) (by decide) dX0_sitDown_2 ?_
  refine v_istore_n K [(0, .ref (ad o)), (1, .int x1), (2, .int x2), (3, .int r3)] [1, 2, 3, 0] dX0_sitDown_5 rfl (by decide) rfl ?_
  refine v_iload_n K 3 rfl dX0_sitDown_6 ?_
  refine v_bipush (v := (-9 : Int32)) K dX0_sitDown_7 (by decide) ?_
  refine v_icmp_ne K 14 dX0_sitDown_9 (by decide) (fun q4 => ?_) (fun q4 => ?_)
  · replace h := if_n h q4
    refine v_aload_n K 0 rfl dX0_sitDown_14 ?_
    refine gC_RX0_9 ho K dX0_sitDown_15 ?_
    refine v_iload_n K 1 rfl dX0_sitDown_18 ?_
    refine v_iconst (v := (5 : Int32)) K dX0_sitDown_19 (by decide) ?_
    obtain ⟨b5, h⟩ := ob_e h
    refine sC K (aD_1 ho) b5 dX0_sitDown_20 ?_
    refine v_aload_n K 0 rfl dX0_sitDown_21 ?_
    refine gC_RX0_15 ho K dX0_sitDown_22 ?_
    refine v_iload_n K 1 rfl dX0_sitDown_25 ?_
    refine v_iload_n K 3 rfl dX0_sitDown_26 ?_
    obtain ⟨b6, h⟩ := ob_e h
    refine sC K (aD_2 ho) b6 dX0_sitDown_27 ?_
    refine v_aload_n K 0 rfl dX0_sitDown_28 ?_
    refine gC_RX0_18 ho K dX0_sitDown_29 ?_
    refine v_iload_n K 1 rfl dX0_sitDown_32 ?_
    refine v_iload_n K 2 rfl dX0_sitDown_33 ?_
    obtain ⟨b7, h⟩ := ob_e h
    refine sC K (aD_3 ho) b7 dX0_sitDown_34 ?_
    refine v_aload_n K 0 rfl dX0_sitDown_35 ?_
    refine gC_RX0_21 ho K dX0_sitDown_36 ?_
    refine v_iload_n K 1 rfl dX0_sitDown_39 ?_
    refine v_iload_n K 2 rfl dX0_sitDown_40 ?_
    refine v_aload_n K 0 rfl dX0_sitDown_41 ?_
    refine gC_RX0_47 ho K dX0_sitDown_42 ?_
    refine v_iload_n K 1 rfl dX0_sitDown_45 ?_
    obtain ⟨b8, h⟩ := ob_e h
    obtain ⟨a9, e10, h⟩ := gld_e h
    refine qG K e10 b8 dX0_sitDown_46 ?_
    refine v_aload_n K 0 rfl dX0_sitDown_47 ?_
    refine v_iload_n K 1 rfl dX0_sitDown_48 ?_
    obtain ⟨r13, s12, e11, h⟩ := bnd_e h
    refine vC_calli K [.int x1] [.ref a9, .int x2, .int x1, .ref (ad (o + 4))] cw_RX0_140 (cCD_othersWaiting hG ho e11) (rcD ho) rfl rfl (Nat.le_of_ble_eq_true rfl) (by decide) dX0_sitDown_49 ?_
    refine v_if_le K 59 dX0_sitDown_52 (by decide) (fun q14 => ?_) (fun q14 => ?_)
    · replace h := if_e h q14
      refine v_iconst (v := (0 : Int32)) K dX0_sitDown_59 (by decide) ?_
      refine v_drop [(0, .ref (ad o)), (1, .int x1), (2, .int x2)] [0, 1, 2] rfl ?_
      exact wCD_sitDown_60 hG ho K RT _ _ _ _ _ _ _ h
    · replace h := if_n h q14
      refine v_iconst (v := (1 : Int32)) K dX0_sitDown_55 (by decide) ?_
      refine v_goto K 60 dX0_sitDown_56 (by decide) ?_
      refine v_drop [(0, .ref (ad o)), (1, .int x1), (2, .int x2)] [0, 1, 2] rfl ?_
      exact wCD_sitDown_60 hG ho K RT _ _ _ _ _ _ _ h
  · replace h := if_e h q4
    refine v_iconst (v := (0 : Int32)) K dX0_sitDown_12 (by decide) ?_
    obtain ⟨b15, h⟩ := ob_e h
    obtain rfl := Option.some.inj h
    exact RT b15 _ _ dX0_sitDown_13
theorem cCD_sitDown {l : Launch} {D : va_G} {c : Nat → ClassId} {s s' : SS} {ad : Nat → Nat} {G : GG} {o : Nat} (hG : gok G) (ho : isD o = true)  {x1 : Int32} {x2 : Int32} {r : Int32} (h : CD_sitDown G o s x1 x2 = some (r, s')) : Ci l D c yX0_sitDown cX0_sitDown 4 (some .boolean) 2 [.ref (ad o), .int x1, .int x2] (wC ad c G s) r (wC ad c G s') := Ci.ofZ (by decide) (Nat.le_of_ble_eq_true rfl) (fun X K RT => wCD_sitDown hG ho K (r := (r, s')) RT s x1 x2 h)
theorem cu_RX2_34_0 : cwOok RX2 34 RX2 RX2 yX2_guestBody yX2_guestBody cX2_guestBody 2 (some .int) 1 := ⟨⟨by decide, by decide, by decide +kernel⟩, by decide, all6 (BG_ix 748 (by decide +kernel) rfl) (BG_ix 1211 (by decide +kernel) rfl) (BG_ix 743 (by decide +kernel) rfl) (BG_ix 1212 (by decide +kernel) rfl) (BG_ix 743 (by decide +kernel) rfl) (BG_ix 69 (by decide +kernel) rfl), (BG_ix 744 (by decide +kernel) rfl), cX2_guestBody, 2, (some .int), (BG_ix 744 (by decide +kernel) rfl)⟩
theorem cu_RX2_34_1 : cwOok RX2 34 RX7 RX2 yX2_guestBody yX2_guestBody cX2_guestBody 2 (some .int) 1 := ⟨⟨by decide, by decide, by decide +kernel⟩, by decide, all6 (BG_ix 748 (by decide +kernel) rfl) (BG_ix 1211 (by decide +kernel) rfl) (BG_ix 743 (by decide +kernel) rfl) (BG_ix 1214 (by decide +kernel) rfl) (BG_ix 743 (by decide +kernel) rfl) (BG_ix 69 (by decide +kernel) rfl), (BG_ix 744 (by decide +kernel) rfl), cX2_guestBody, 2, (some .int), (BG_ix 744 (by decide +kernel) rfl)⟩
theorem cu_RX2_34_2 : cwOok RX2 34 RX4 RX2 yX2_guestBody yX2_guestBody cX2_guestBody 2 (some .int) 1 := ⟨⟨by decide, by decide, by decide +kernel⟩, by decide, all6 (BG_ix 748 (by decide +kernel) rfl) (BG_ix 1211 (by decide +kernel) rfl) (BG_ix 743 (by decide +kernel) rfl) (BG_ix 1213 (by decide +kernel) rfl) (BG_ix 743 (by decide +kernel) rfl) (BG_ix 69 (by decide +kernel) rfl), (BG_ix 744 (by decide +kernel) rfl), cX2_guestBody, 2, (some .int), (BG_ix 744 (by decide +kernel) rfl)⟩
theorem vU_RX2_34 {X : Cx} {cc : ByteArray} {nL d pc : Nat} {c : Nat → ClassId} {ls : List (Nat × Value)} {ad : Nat → Nat} {G : GG} {s s' : SS} {a : Nat} {r : Int32} (hG : gok G) (ha : gm G a = true) (K : Ok X cc RX2 nL d c) (rest : List Value) (h : CG_guestBody G a s = some (r, s')) (hrm : (rest.map fun v => v.category).sum ≤ 8) (hdc : 1 + 1 ≤ d) (hd : decode cc pc = .ok (.invokevirtual 34, 3)) (k : V X nL 0 0 (pc + 3) ls (.int r :: rest) (wC ad c G s')) : V X nL 0 0 pc ls (.ref (ad 18) :: .ref a :: rest) (wC ad c G s) := by
  obtain ⟨q, hq⟩ := gpos (ad := ad) (c := c) (s := s) ha
  rcases gk3 G a with e | e | e <;> rw [e] at hq
  · exact v_callO K [.ref (ad 18)] rest cu_RX2_34_0 (cCG_guestBody hG ha h) q hq rfl (wC_same ad c G s s') rfl rfl hrm (by omega) z0 hd k
  · exact v_callO K [.ref (ad 18)] rest cu_RX2_34_1 (cCG_guestBody hG ha h) q hq rfl (wC_same ad c G s s') rfl rfl hrm (by omega) z0 hd k
  · exact v_callO K [.ref (ad 18)] rest cu_RX2_34_2 (cCG_guestBody hG ha h) q hq rfl (wC_same ad c G s s') rfl rfl hrm (by omega) z0 hd k
set_option maxHeartbeats 4000000 in
set_option maxRecDepth 100000 in
theorem wCG_telling {ad : Nat → Nat} {G : GG} {o : Nat} {X : Cx} {c : Nat → ClassId} (hG : gok G) (ho : gm G o = true) (K : Ok X cX2_telling RX2 2 2 c) {r : Int32 × SS} (RT : ∀ pc ls, decode cX2_telling pc = .ok (.ireturn, 1) → V X 2 0 0 pc ls [.int r.1] (wC ad c G r.2)) (s : SS) (h : CG_telling G o s = some r) : V X 2 0 0 0 [(0, .ref o), (1, .ref (ad 18))] [] (wC ad c G s) := by
  rw [CG_telling] at h
  refine v_aload_n K 0 rfl dX2_telling_0 ?_
  refine v_aload_n K 1 rfl dX2_telling_1 ?_
  obtain ⟨r3, s2, e1, h⟩ := bnd_e h
  refine vU_RX2_34 hG ho K [] e1 (Nat.le_of_ble_eq_true rfl) (by decide) dX2_telling_2 ?_
  obtain rfl := Option.some.inj h
  exact RT _ _ dX2_telling_5
theorem cCG_telling {l : Launch} {D : va_G} {c : Nat → ClassId} {s s' : SS} {ad : Nat → Nat} {G : GG} {o : Nat} (hG : gok G) (ho : gm G o = true)  {r : Int32} (h : CG_telling G o s = some (r, s')) : Ci l D c yX2_telling cX2_telling 2 (some .int) 2 [.ref o, .ref (ad 18)] (wC ad c G s) r (wC ad c G s') := Ci.of (by decide) (Nat.le_of_ble_eq_true rfl) (fun X K RT => wCG_telling hG ho K (r := (r, s')) RT s  h)
theorem cu_RX5_64_0 : cwOok RX5 64 RX2 RX2 yX2_staysFor yX2_staysFor cX2_staysFor 2 (some .int) 1 := ⟨⟨by decide, by decide, by decide +kernel⟩, by decide, all6 (BG_ix 604 (by decide +kernel) rfl) (BG_ix 475 (by decide +kernel) rfl) (BG_ix 473 (by decide +kernel) rfl) (BG_ix 474 (by decide +kernel) rfl) (BG_ix 473 (by decide +kernel) rfl) (BG_ix 69 (by decide +kernel) rfl), (BG_ix 483 (by decide +kernel) rfl), cX2_staysFor, 2, (some .int), (BG_ix 483 (by decide +kernel) rfl)⟩
theorem cu_RX5_64_1 : cwOok RX5 64 RX7 RX2 yX2_staysFor yX7_staysFor cX7_staysFor 2 (some .int) 1 := ⟨⟨by decide, by decide, by decide +kernel⟩, by decide, all6 (BG_ix 604 (by decide +kernel) rfl) (BG_ix 475 (by decide +kernel) rfl) (BG_ix 473 (by decide +kernel) rfl) (BG_ix 482 (by decide +kernel) rfl) (BG_ix 480 (by decide +kernel) rfl) (BG_ix 70 (by decide +kernel) rfl), (BG_ix 481 (by decide +kernel) rfl), cX2_staysFor, 2, (some .int), (BG_ix 483 (by decide +kernel) rfl)⟩
theorem cu_RX5_64_2 : cwOok RX5 64 RX4 RX2 yX2_staysFor yX4_staysFor cX4_staysFor 3 (some .int) 1 := ⟨⟨by decide, by decide, by decide +kernel⟩, by decide, all6 (BG_ix 604 (by decide +kernel) rfl) (BG_ix 475 (by decide +kernel) rfl) (BG_ix 473 (by decide +kernel) rfl) (BG_ix 476 (by decide +kernel) rfl) (BG_ix 477 (by decide +kernel) rfl) (BG_ix 71 (by decide +kernel) rfl), (BG_ix 478 (by decide +kernel) rfl), cX2_staysFor, 2, (some .int), (BG_ix 483 (by decide +kernel) rfl)⟩
theorem vU_RX5_64 {X : Cx} {cc : ByteArray} {nL d pc : Nat} {c : Nat → ClassId} {ls : List (Nat × Value)} {ad : Nat → Nat} {G : GG} {s s' : SS} {a : Nat} {x1 : Int32} {r : Int32} (hG : gok G) (ha : gm G a = true) (K : Ok X cc RX5 nL d c) (rest : List Value) (h : Cv_staysFor G a s x1 = some (r, s')) (hrm : (rest.map fun v => v.category).sum ≤ 8) (hdc : 1 + 1 ≤ d) (hd : decode cc pc = .ok (.invokevirtual 64, 3)) (k : V X nL 0 0 (pc + 3) ls (.int r :: rest) (wC ad c G s')) : V X nL 0 0 pc ls (.int x1 :: .ref a :: rest) (wC ad c G s) := by
  obtain ⟨q, hq⟩ := gpos (ad := ad) (c := c) (s := s) ha
  rw [Cv_staysFor] at h
  rcases gk3 G a with e | e | e <;> rw [e] at h hq
  · rw [if_pos rfl] at h
    exact v_callO K [.int x1] rest cu_RX5_64_0 (cCG_staysFor hG ha h) q hq rfl (wC_same ad c G s s') rfl rfl hrm (by omega) z0 hd k
  · rw [if_neg (by decide), if_pos rfl] at h
    exact v_callO K [.int x1] rest cu_RX5_64_1 (cCY_staysFor hG ha h) q hq rfl (wC_same ad c G s s') rfl rfl hrm (by omega) z0 hd k
  · rw [if_neg (by decide), if_neg (by decide)] at h
    exact v_callO K [.int x1] rest cu_RX5_64_2 (cCL_staysFor hG ha h) q hq rfl (wC_same ad c G s s') rfl rfl hrm (by omega) z0 hd k
set_option maxHeartbeats 4000000 in
set_option maxRecDepth 100000 in
theorem wCP_clashesOf_104 {ad : Nat → Nat} {G : GG} {X : Cx} {c : Nat → ClassId} (hG : gok G) (K : Ok X cX5_clashesOf RX5 8 2 c) {r : Int32 × SS} (RT : ∀ pc ls, decode cX5_clashesOf pc = .ok (.ireturn, 1) → V X 8 0 0 pc ls [.int r.1] (wC ad c G r.2)) {k15 : Nat → Int32 → Int32 → SS → Option (Int32 × SS)} (hk15 : ∀ (x2 : Nat) (x3 : Int32) (x4 : Int32) (s : SS), k15 x2 x3 x4 s = some r → V X 8 0 0 15 [(0, .ref (ad 35)), (2, .ref x2), (3, .int x3), (4, .int x4)] [] (wC ad c G s)) : ∀ (x2 : Nat) (x3 : Int32) (x4 : Int32) (s : SS), CP_clashesOf_104 G k15 x2 x3 x4 s = some r → V X 8 0 0 104 [(0, .ref (ad 35)), (2, .ref x2), (3, .int x3), (4, .int x4)] [] (wC ad c G s) := by
  intro x2 x3 x4 s h
  rw [CP_clashesOf_104] at h
  refine v_iinc (v := (x4 + (1 : Int32))) K 3 [(0, .ref (ad 35)), (2, .ref x2), (3, .int x3), (4, .int (x4 + (1 : Int32)))] [1, 2, 3, 0] dX5_clashesOf_104 rfl rfl (by decide) rfl ?_
  refine v_goto K 15 dX5_clashesOf_107 (by decide) ?_
  exact hk15 _ _ _ _ h
set_option maxHeartbeats 4000000 in
set_option maxRecDepth 100000 in
theorem wCP_clashesOf_85 {ad : Nat → Nat} {G : GG} {X : Cx} {c : Nat → ClassId} (hG : gok G) (K : Ok X cX5_clashesOf RX5 8 2 c) {r : Int32 × SS} (RT : ∀ pc ls, decode cX5_clashesOf pc = .ok (.ireturn, 1) → V X 8 0 0 pc ls [.int r.1] (wC ad c G r.2)) {k15 : Nat → Int32 → Int32 → SS → Option (Int32 × SS)} (hk15 : ∀ (x2 : Nat) (x3 : Int32) (x4 : Int32) (s : SS), k15 x2 x3 x4 s = some r → V X 8 0 0 15 [(0, .ref (ad 35)), (2, .ref x2), (3, .int x3), (4, .int x4)] [] (wC ad c G s)) : ∀ (y0 : Int32) (x2 : Nat) (x3 : Int32) (x4 : Int32) (x6 : Int32) (s : SS), CP_clashesOf_85 G k15 y0 x2 x3 x4 x6 s = some r → V X 8 0 0 85 [(0, .ref (ad 35)), (2, .ref x2), (3, .int x3), (4, .int x4), (6, .int x6)] [.int y0] (wC ad c G s) := by
  intro y0 x2 x3 x4 x6 s h
  rw [CP_clashesOf_85] at h
  refine v_istore K [(0, .ref (ad 35)), (2, .ref x2), (3, .int x3), (4, .int x4), (6, .int x6), (7, .int y0)] [1, 2, 3, 4, 5, 0] dX5_clashesOf_85 (by decide) rfl ?_
  refine v_iload K 4 rfl dX5_clashesOf_87 ?_
  refine v_if_ne K 104 dX5_clashesOf_89 (by decide) (fun q20 => ?_) (fun q20 => ?_)
  · replace h := if_n h q20
    refine v_drop [(0, .ref (ad 35)), (2, .ref x2), (3, .int x3), (4, .int x4)] [0, 1, 2, 3] rfl ?_
    exact wCP_clashesOf_104 hG K RT hk15 _ _ _ _ h
  · replace h := if_e h q20
    refine v_iload K 5 rfl dX5_clashesOf_92 ?_
    refine v_if_ne K 104 dX5_clashesOf_94 (by decide) (fun q21 => ?_) (fun q21 => ?_)
    · replace h := if_n h q21
      refine v_drop [(0, .ref (ad 35)), (2, .ref x2), (3, .int x3), (4, .int x4)] [0, 1, 2, 3] rfl ?_
      exact wCP_clashesOf_104 hG K RT hk15 _ _ _ _ h
    · replace h := if_e h q21
      refine v_iload_n K 2 rfl dX5_clashesOf_97 ?_
      refine v_iconst (v := (1 : Int32)) K dX5_clashesOf_98 (by decide) ?_
      refine v_iload K 3 rfl dX5_clashesOf_99 ?_
      refine v_ishl K dX5_clashesOf_101 ?_
      refine v_ior K dX5_clashesOf_102 ?_
      refine v_istore_n K [(0, .ref (ad 35)), (2, .ref x2), (3, .int (x3 ||| ((1 : Int32) <<< (x4 &&& 31)))), (4, .int x4)] [1, 2, 0, 3] dX5_clashesOf_103 rfl (by decide) rfl ?_
      exact wCP_clashesOf_104 hG K RT hk15 _ _ _ _ h
set_option maxHeartbeats 4000000 in
set_option maxRecDepth 100000 in
theorem wCP_clashesOf_60 {ad : Nat → Nat} {G : GG} {X : Cx} {c : Nat → ClassId} (hG : gok G) (K : Ok X cX5_clashesOf RX5 8 2 c) {r : Int32 × SS} (RT : ∀ pc ls, decode cX5_clashesOf pc = .ok (.ireturn, 1) → V X 8 0 0 pc ls [.int r.1] (wC ad c G r.2)) {k15 : Nat → Int32 → Int32 → SS → Option (Int32 × SS)} (hk15 : ∀ (x2 : Nat) (x3 : Int32) (x4 : Int32) (s : SS), k15 x2 x3 x4 s = some r → V X 8 0 0 15 [(0, .ref (ad 35)), (2, .ref x2), (3, .int x3), (4, .int x4)] [] (wC ad c G s)) : ∀ (y0 : Int32) (x2 : Nat) (x3 : Int32) (x4 : Int32) (x5 : Nat) (s : SS), CP_clashesOf_60 G k15 y0 x2 x3 x4 x5 s = some r → V X 8 0 0 60 [(0, .ref (ad 35)), (2, .ref x2), (3, .int x3), (4, .int x4), (5, .ref x5)] [.int y0] (wC ad c G s) := by
  intro y0 x2 x3 x4 x5 s h
  rw [CP_clashesOf_60] at h
  refine v_istore K [(0, .ref (ad 35)), (2, .ref x2), (3, .int x3), (4, .int x4), (5, .ref x5), (6, .int y0)] [1, 2, 3, 4, 5, 0] dX5_clashesOf_60 (by decide) rfl ?_
  refine v_aload_n K 1 rfl dX5_clashesOf_62 ?_
  obtain ⟨b13, h⟩ := ob_e h
  refine gC_RX5_92 b13 K dX5_clashesOf_63 ?_
  refine v_aload_n K 1 rfl dX5_clashesOf_66 ?_
  refine v_iconst (v := (0 : Int32)) K dX5_clashesOf_67 (by decide) ?_
  obtain ⟨b14, h⟩ := ob_e h
  obtain ⟨r17, s16, e15, h⟩ := bnd_e h
  refine vU_RX5_64 hG b14 K [.int (gv G x2 2)] e15 (Nat.le_of_ble_eq_true rfl) (by decide) dX5_clashesOf_68 ?_
  refine v_iadd K dX5_clashesOf_71 ?_
  refine v_aload K 4 rfl dX5_clashesOf_72 ?_
  obtain ⟨b18, h⟩ := ob_e h
  refine gC_RX5_92 b18 K dX5_clashesOf_74 ?_
  refine v_icmp_gt K 84 dX5_clashesOf_77 (by decide) (fun q19 => ?_) (fun q19 => ?_)
  · replace h := if_e h q19
    refine v_iconst (v := (0 : Int32)) K dX5_clashesOf_84 (by decide) ?_
    refine v_drop [(0, .ref (ad 35)), (2, .ref x2), (3, .int x3), (4, .int x4), (6, .int y0)] [0, 1, 2, 3, 5] rfl ?_
    exact wCP_clashesOf_85 hG K RT hk15 _ _ _ _ _ _ h
  · replace h := if_n h q19
    refine v_iconst (v := (1 : Int32)) K dX5_clashesOf_80 (by decide) ?_
    refine v_goto K 85 dX5_clashesOf_81 (by decide) ?_
    refine v_drop [(0, .ref (ad 35)), (2, .ref x2), (3, .int x3), (4, .int x4), (6, .int y0)] [0, 1, 2, 3, 5] rfl ?_
    exact wCP_clashesOf_85 hG K RT hk15 _ _ _ _ _ _ h
set_option maxHeartbeats 4000000 in
set_option maxRecDepth 100000 in
theorem wCP_clashesOf_15 {ad : Nat → Nat} {G : GG} {X : Cx} {c : Nat → ClassId} (hG : gok G) (K : Ok X cX5_clashesOf RX5 8 2 c) {r : Int32 × SS} (RT : ∀ pc ls, decode cX5_clashesOf pc = .ok (.ireturn, 1) → V X 8 0 0 pc ls [.int r.1] (wC ad c G r.2)) : ∀ (n : Nat) (x2 : Nat) (x3 : Int32) (x4 : Int32) (s : SS), CP_clashesOf_15 G n x2 x3 x4 s = some r → V X 8 0 0 15 [(0, .ref (ad 35)), (2, .ref x2), (3, .int x3), (4, .int x4)] [] (wC ad c G s) := by
  intro n
  induction n with
  | zero => intro _ _ _ _ h; cases h
  | succ n ih =>
    intro x2 x3 x4 s h
    rw [CP_clashesOf_15] at h
    refine v_iload K 3 rfl dX5_clashesOf_15 ?_
    refine v_aload_n K 0 rfl dX5_clashesOf_17 ?_
    refine gC_RX5_53 (v := (s 35 10)) K dX5_clashesOf_18 rfl ?_
    refine v_icmp_ge K 110 dX5_clashesOf_21 (by decide) (fun q4 => ?_) (fun q4 => ?_)
    · replace h := if_e h q4
      refine v_iload_n K 2 rfl dX5_clashesOf_110 ?_
      obtain rfl := Option.some.inj h
      exact RT _ _ dX5_clashesOf_111
    · replace h := if_n h q4
      refine v_aload_n K 0 rfl dX5_clashesOf_24 ?_
      refine gC_RX5_37 K dX5_clashesOf_25 ?_
      refine gC_RX5_56 K dX5_clashesOf_28 ?_
      refine v_iload K 3 rfl dX5_clashesOf_31 ?_
      obtain ⟨b5, h⟩ := ob_e h
      obtain ⟨a6, e7, h⟩ := gld_e h
      refine qG K e7 b5 dX5_clashesOf_33 ?_
      refine v_astore K [(0, .ref (ad 35)), (2, .ref x2), (3, .int x3), (4, .int x4), (5, .ref a6)] [1, 2, 3, 4, 0] dX5_clashesOf_34 (by decide) rfl ?_
      refine v_aload K 4 rfl dX5_clashesOf_36 ?_
      refine gC_RX5_92 (hG _ _ e7) K dX5_clashesOf_38 ?_
      refine v_aload K 4 rfl dX5_clashesOf_41 ?_
      refine v_iconst (v := (0 : Int32)) K dX5_clashesOf_43 (by decide) ?_
      obtain ⟨r10, s9, e8, h⟩ := bnd_e h
      refine vU_RX5_64 hG (hG _ _ e7) K [.int (gv G a6 2)] e8 (Nat.le_of_ble_eq_true rfl) (by decide) dX5_clashesOf_44 ?_
      refine v_iadd K dX5_clashesOf_47 ?_
      refine v_aload_n K 1 rfl dX5_clashesOf_48 ?_
      obtain ⟨b11, h⟩ := ob_e h
      refine gC_RX5_92 b11 K dX5_clashesOf_49 ?_
      refine v_icmp_gt K 59 dX5_clashesOf_52 (by decide) (fun q12 => ?_) (fun q12 => ?_)
      · replace h := if_e h q12
        refine v_iconst (v := (0 : Int32)) K dX5_clashesOf_59 (by decide) ?_
        exact wCP_clashesOf_60 hG K RT (fun a0 a1 a2 a3 e => ih a0 a1 a2 a3 e) _ _ _ _ _ _ h
      · replace h := if_n h q12
        refine v_iconst (v := (1 : Int32)) K dX5_clashesOf_55 (by decide) ?_
        refine v_goto K 60 dX5_clashesOf_56 (by decide) ?_
        exact wCP_clashesOf_60 hG K RT (fun a0 a1 a2 a3 e => ih a0 a1 a2 a3 e) _ _ _ _ _ _ h
set_option maxHeartbeats 4000000 in
set_option maxRecDepth 100000 in
theorem wCP_clashesOf {ad : Nat → Nat} {G : GG} {X : Cx} {c : Nat → ClassId} (hG : gok G) (K : Ok X cX5_clashesOf RX5 8 2 c) {r : Int32 × SS} (RT : ∀ pc ls, decode cX5_clashesOf pc = .ok (.ireturn, 1) → V X 8 0 0 pc ls [.int r.1] (wC ad c G r.2)) (s : SS) (x1 : Int32) (h : CP_clashesOf G s x1 = some r) : V X 8 0 0 0 [(0, .ref (ad 35)), (1, .int x1)] [] (wC ad c G s) := by
  rw [CP_clashesOf] at h
  refine v_aload_n K 0 rfl dX5_clashesOf_0 ?_
  refine gC_RX5_37 K dX5_clashesOf_1 ?_
  refine gC_RX5_56 K dX5_clashesOf_4 ?_
  refine v_iload_n K 1 rfl dX5_clashesOf_7 ?_
  obtain ⟨b1, h⟩ := ob_e h
  obtain ⟨a2, e3, h⟩ := gld_e h
  refine qG K e3 b1 dX5_clashesOf_8 ?_
  refine v_astore_n K [(0, .ref (ad 35)), (2, .ref a2)] [1, 0] dX5_clashesOf_9 rfl (by decide) rfl ?_
  refine v_iconst (v := (0 : Int32)) K dX5_clashesOf_10 (by decide) ?_
  refine v_istore_n K [(0, .ref (ad 35)), (2, .ref a2), (3, .int (0 : Int32))] [1, 2, 0] dX5_clashesOf_11 rfl (by decide) rfl ?_
  refine v_iconst (v := (0 : Int32)) K dX5_clashesOf_12 (by decide) ?_
  refine v_istore K [(0, .ref (ad 35)), (2, .ref a2), (3, .int (0 : Int32)), (4, .int (0 : Int32))] [1, 2, 3, 0] dX5_clashesOf_13 (by decide) rfl ?_
  exact wCP_clashesOf_15 hG K RT fuel _ _ _ _ h
theorem cCP_clashesOf {l : Launch} {D : va_G} {c : Nat → ClassId} {s s' : SS} {ad : Nat → Nat} {G : GG} (hG : gok G)  {x1 : Int32} {r : Int32} (h : CP_clashesOf G s x1 = some (r, s')) : Ci l D c yX5_clashesOf cX5_clashesOf 8 (some .int) 2 [.ref (ad 35), .int x1] (wC ad c G s) r (wC ad c G s') := Ci.of (by decide) (Nat.le_of_ble_eq_true rfl) (fun X K RT => wCP_clashesOf hG K (r := (r, s')) RT s x1 h)
set_option maxHeartbeats 4000000 in
set_option maxRecDepth 100000 in
theorem wCT_cafe_55 {ad : Nat → Nat} {G : GG} {X : Cx} {c : Nat → ClassId} (hG : gok G) (K : Ok X cX9_cafe RX9 7 3 c) {r : Int32 × SS} (RT : ∀ pc ls, decode cX9_cafe pc = .ok (.ireturn, 1) → V X 7 0 0 pc ls [.int r.1] (wC ad c G r.2)) : ∀ (x3 : Int32) (x4 : Int32) (x5 : Nat) (s : SS), CT_cafe_55 G x3 x4 x5 s = some r → V X 7 0 0 55 [(0, .ref (ad 0)), (3, .int x3), (4, .int x4), (5, .ref (ad x5))] [] (wC ad c G s) := by
  intro x3 x4 x5 s h
  rw [CT_cafe_55] at h
  refine v_aload K 3 rfl dX9_cafe_55 ?_
  obtain ⟨b13, h⟩ := ob_e h
  refine gC_RX9_79 b13 (v := (s x5 1)) K dX9_cafe_57 rfl ?_
  refine v_if_ne K 69 dX9_cafe_60 (by decide) (fun q14 => ?_) (fun q14 => ?_)
  · replace h := if_n h q14
    refine v_iload K 2 rfl dX9_cafe_69 ?_
    refine v_if_ge K 80 dX9_cafe_71 (by decide) (fun q15 => ?_) (fun q15 => ?_)
    · replace h := if_e h q15
      refine v_aload K 3 rfl dX9_cafe_80 ?_
      refine v_iload_n K 1 rfl dX9_cafe_82 ?_
      refine v_iload K 2 rfl dX9_cafe_83 ?_
      obtain ⟨b16, h⟩ := ob_e h
      obtain ⟨r19, s18, e17, h⟩ := bnd_e h
      refine vC_calli K [.int x3, .int x4] [] cw_RX9_90 (cCE_reaches hG b16 e17) (rcE b16) rfl rfl (Nat.le_of_ble_eq_true rfl) (by decide) dX9_cafe_85 ?_
      refine v_if_ne K 97 dX9_cafe_88 (by decide) (fun q20 => ?_) (fun q20 => ?_)
      · replace h := if_n h q20
        refine v_aload K 3 rfl dX9_cafe_97 ?_
        refine v_iload_n K 1 rfl dX9_cafe_99 ?_
        refine v_iload K 2 rfl dX9_cafe_100 ?_
        obtain ⟨b21, h⟩ := ob_e h
        obtain ⟨r24, s23, e22, h⟩ := bnd_e h
        refine v_callwi K [.ref (ad x5), .int x3, .int x4] [] cw_RX9_94 (cCT_firstFault hG b21 e22) (wC_same ad c G _ _) rfl rfl (Nat.le_of_ble_eq_true rfl) (by decide) z0 dX9_cafe_102 ?_
        refine v_istore K [(0, .ref (ad 0)), (3, .int x3), (4, .int x4), (5, .ref (ad x5)), (6, .int r24)] [1, 2, 3, 4, 0] dX9_cafe_105 (by decide) rfl ?_
        refine v_iload K 4 rfl dX9_cafe_107 ?_
        refine v_bipush (v := (-9 : Int32)) K dX9_cafe_109 (by decide) ?_
        refine v_icmp_eq K 120 dX9_cafe_111 (by decide) (fun q25 => ?_) (fun q25 => ?_)
        · replace h := if_e h q25
          refine v_aload_n K 0 rfl dX9_cafe_120 ?_
          refine gC_RX9_12 K dX9_cafe_121 ?_
          refine v_aload K 3 rfl dX9_cafe_124 ?_
          refine v_iload_n K 1 rfl dX9_cafe_126 ?_
          refine v_iload K 2 rfl dX9_cafe_127 ?_
          obtain ⟨b26, h⟩ := ob_e h
          obtain ⟨s28, e27, h⟩ := bnd0_e h
          refine vC_callv K [.ref (ad x5), .int x3, .int x4] [] cw_RX9_98 (cCH_takeText hG rfl b26 e27) (rcH rfl) rfl rfl (Nat.le_of_ble_eq_true rfl) (by decide) dX9_cafe_129 ?_
          refine v_aload_n K 0 rfl dX9_cafe_132 ?_
          refine gC_RX9_24 K dX9_cafe_133 ?_
          refine v_iconst (v := (0 : Int32)) K dX9_cafe_136 (by decide) ?_
          refine pC_RX9_102 K dX9_cafe_137 ?_
          refine v_aload_n K 0 rfl dX9_cafe_140 ?_
          obtain ⟨s30, e29, h⟩ := bnd0_e h
          refine vC_callv K [] [] cw_RX9_105 (cCT_forget hG e29) rcT rfl rfl (Nat.le_of_ble_eq_true rfl) (by decide) dX9_cafe_141 ?_
          refine v_aload_n K 0 rfl dX9_cafe_144 ?_
          refine gC_RX9_12 K dX9_cafe_145 ?_
          refine gC_RX9_108 rfl (v := (s30 1 2)) K dX9_cafe_148 rfl ?_
          obtain rfl := Option.some.inj h
          exact RT _ _ dX9_cafe_151
        · replace h := if_n h q25
          refine v_bipush (v := (-100 : Int32)) K dX9_cafe_114 (by decide) ?_
          refine v_iload K 4 rfl dX9_cafe_116 ?_
          refine v_isub K dX9_cafe_118 ?_
          obtain rfl := Option.some.inj h
          exact RT _ _ dX9_cafe_119
      · replace h := if_e h q20
        refine v_aload_n K 0 rfl dX9_cafe_91 ?_
        refine v_iconst (v := (3 : Int32)) K dX9_cafe_92 (by decide) ?_
        obtain ⟨r33, s32, e31, h⟩ := bnd_e h
        refine vC_calli K [.int (3 : Int32)] [] cw_RX9_86 (cCT_failed hG e31) rcT rfl rfl (Nat.le_of_ble_eq_true rfl) (by decide) dX9_cafe_93 ?_
        obtain rfl := Option.some.inj h
        exact RT _ _ dX9_cafe_96
    · replace h := if_n h q15
      refine v_aload_n K 0 rfl dX9_cafe_74 ?_
      refine v_iconst (v := (4 : Int32)) K dX9_cafe_75 (by decide) ?_
      obtain ⟨r36, s35, e34, h⟩ := bnd_e h
      refine vC_calli K [.int (4 : Int32)] [] cw_RX9_86 (cCT_failed hG e34) rcT rfl rfl (Nat.le_of_ble_eq_true rfl) (by decide) dX9_cafe_76 ?_
      obtain rfl := Option.some.inj h
      exact RT _ _ dX9_cafe_79
  · replace h := if_e h q14
    refine v_aload_n K 0 rfl dX9_cafe_63 ?_
    refine v_iconst (v := (1 : Int32)) K dX9_cafe_64 (by decide) ?_
    obtain ⟨r39, s38, e37, h⟩ := bnd_e h
    refine vC_calli K [.int (1 : Int32)] [] cw_RX9_86 (cCT_failed hG e37) rcT rfl rfl (Nat.le_of_ble_eq_true rfl) (by decide) dX9_cafe_65 ?_
    obtain rfl := Option.some.inj h
    exact RT _ _ dX9_cafe_68
set_option maxHeartbeats 4000000 in
set_option maxRecDepth 100000 in
theorem wCT_cafe {ad : Nat → Nat} {G : GG} {X : Cx} {c : Nat → ClassId} (hG : gok G) (K : Ok X cX9_cafe RX9 7 3 c) {r : Int32 × SS} (RT : ∀ pc ls, decode cX9_cafe pc = .ok (.ireturn, 1) → V X 7 0 0 pc ls [.int r.1] (wC ad c G r.2)) (s : SS) (x1 : Int32) (x2 : Int32) (x3 : Int32) (x4 : Int32) (h : CT_cafe G s x1 x2 x3 x4 = some r) : V X 7 0 0 0 [(0, .ref (ad 0)), (1, .int x1), (2, .int x2), (3, .int x3), (4, .int x4)] [] (wC ad c G s) := by
  rw [CT_cafe] at h
  refine v_aload_n K 0 rfl dX9_cafe_0 ?_
  refine v_iconst (v := (0 : Int32)) K dX9_cafe_1 (by decide) ?_
  refine pC_RX9_68 K dX9_cafe_2 ?_
  refine v_iload_n K 1 rfl dX9_cafe_5 ?_
  obtain ⟨r2, e1, h⟩ := bnd0_e h
  refine v_callsi K [.int x1] [] cw_RX9_72 (cCT_isNoSheet e1) rfl rfl (Nat.le_of_ble_eq_true rfl) (by decide) z0 dX9_cafe_6 ?_
  refine v_if_eq K 14 dX9_cafe_9 (by decide) (fun q3 => ?_) (fun q3 => ?_)
  · replace h := if_e h q3
    refine v_iload_n K 2 rfl dX9_cafe_14 ?_
    obtain ⟨r5, e4, h⟩ := bnd0_e h
    refine v_callsi K [.int x2] [] cw_RX9_76 (cCT_isNoSort e4) rfl rfl (Nat.le_of_ble_eq_true rfl) (by decide) z0 dX9_cafe_15 ?_
    refine v_if_eq K 24 dX9_cafe_18 (by decide) (fun q6 => ?_) (fun q6 => ?_)
    · replace h := if_e h q6
      refine v_aload_n K 0 rfl dX9_cafe_24 ?_
      refine gC_RX9_30 K dX9_cafe_25 ?_
      refine v_iload_n K 1 rfl dX9_cafe_28 ?_
      obtain ⟨b7, h⟩ := ob_e h
      refine qS K b7 dX9_cafe_29 ?_
      refine v_astore K [(0, .ref (ad 0)), (2, .int x2), (3, .int x3), (4, .int x4), (5, .ref (ad (10 + x1.toNatClampNeg)))] [1, 3, 4, 5, 0] dX9_cafe_30 (by decide) rfl ?_
      refine v_aload K 4 rfl dX9_cafe_32 ?_
      refine gC_RX9_79 (isS_of b7) (v := ((up2 s 0 10 (0 : Int32)) (10 + x1.toNatClampNeg) 1)) K dX9_cafe_34 rfl ?_
      refine v_if_eq K 55 dX9_cafe_37 (by decide) (fun q8 => ?_) (fun q8 => ?_)
      · replace h := if_e h q8
        refine v_drop [(0, .ref (ad 0)), (3, .int x3), (4, .int x4), (5, .ref (ad (10 + x1.toNatClampNeg)))] [0, 2, 3, 4] rfl ?_
        exact wCT_cafe_55 hG K RT _ _ _ _ h
      · replace h := if_n h q8
        refine v_aload K 4 rfl dX9_cafe_40 ?_
        refine gC_RX9_83 (isS_of b7) (v := ((up2 s 0 10 (0 : Int32)) (10 + x1.toNatClampNeg) 2)) K dX9_cafe_42 rfl ?_
        refine v_iload_n K 1 rfl dX9_cafe_45 ?_
        refine v_icmp_eq K 55 dX9_cafe_46 (by decide) (fun q9 => ?_) (fun q9 => ?_)
        · replace h := if_e h q9
          refine v_drop [(0, .ref (ad 0)), (3, .int x3), (4, .int x4), (5, .ref (ad (10 + x1.toNatClampNeg)))] [0, 2, 3, 4] rfl ?_
          exact wCT_cafe_55 hG K RT _ _ _ _ h
        · replace h := if_n h q9
          refine v_aload_n K 0 rfl dX9_cafe_49 ?_
          refine v_iconst (v := (2 : Int32)) K dX9_cafe_50 (by decide) ?_
          obtain ⟨r12, s11, e10, h⟩ := bnd_e h
          refine vC_calli K [.int (2 : Int32)] [] cw_RX9_86 (cCT_failed hG e10) rcT rfl rfl (Nat.le_of_ble_eq_true rfl) (by decide) dX9_cafe_51 ?_
          obtain rfl := Option.some.inj h
          exact RT _ _ dX9_cafe_54
    · replace h := if_n h q6
      refine v_bipush (v := (-2 : Int32)) K dX9_cafe_21 (by decide) ?_
      obtain rfl := Option.some.inj h
      exact RT _ _ dX9_cafe_23
  · replace h := if_n h q3
    refine v_iconst (v := (-1 : Int32)) K dX9_cafe_12 (by decide) ?_
    obtain rfl := Option.some.inj h
    exact RT _ _ dX9_cafe_13
theorem cCT_cafe {l : Launch} {D : va_G} {c : Nat → ClassId} {s s' : SS} {ad : Nat → Nat} {G : GG} (hG : gok G)  {x1 : Int32} {x2 : Int32} {x3 : Int32} {x4 : Int32} {r : Int32} (h : CT_cafe G s x1 x2 x3 x4 = some (r, s')) : Ci l D c yX9_cafe cX9_cafe 7 (some .int) 3 [.ref (ad 0), .int x1, .int x2, .int x3, .int x4] (wC ad c G s) r (wC ad c G s') := Ci.of (by decide) (Nat.le_of_ble_eq_true rfl) (fun X K RT => wCT_cafe hG K (r := (r, s')) RT s x1 x2 x3 x4 h)
set_option maxHeartbeats 4000000 in
set_option maxRecDepth 100000 in
theorem wCD_callWaiting_81 {ad : Nat → Nat} {G : GG} {o : Nat} {X : Cx} {c : Nat → ClassId} (hG : gok G) (ho : isD o = true) (K : Ok X cX0_callWaiting RX0 4 3 c) {r : SS} (RT : ∀ pc ls, decode cX0_callWaiting pc = .ok (.return_, 1) → V X 4 0 0 pc ls [] (wC ad c G r)) {k2 : Int32 → Int32 → SS → Option SS} (hk2 : ∀ (x1 : Int32) (x2 : Int32) (s : SS), k2 x1 x2 s = some r → V X 4 0 0 2 [(0, .ref (ad o)), (1, .int x1), (2, .int x2)] [] (wC ad c G s)) : ∀ (x1 : Int32) (x2 : Int32) (s : SS), CD_callWaiting_81 G o k2 x1 x2 s = some r → V X 4 0 0 81 [(0, .ref (ad o)), (1, .int x1), (2, .int x2)] [] (wC ad c G s) := by
  intro x1 x2 s h
  rw [CD_callWaiting_81] at h
  refine v_iinc (v := (x2 + (1 : Int32))) K 2 [(0, .ref (ad o)), (1, .int x1), (2, .int (x2 + (1 : Int32)))] [1, 2, 0] dX0_callWaiting_81 rfl rfl (by decide) rfl ?_
  refine v_goto K 2 dX0_callWaiting_84 (by decide) ?_
  exact hk2 _ _ _ h
set_option maxHeartbeats 4000000 in
set_option maxRecDepth 100000 in
theorem wCD_callWaiting_2 {ad : Nat → Nat} {G : GG} {o : Nat} {X : Cx} {c : Nat → ClassId} (hG : gok G) (ho : isD o = true) (K : Ok X cX0_callWaiting RX0 4 3 c) {r : SS} (RT : ∀ pc ls, decode cX0_callWaiting pc = .ok (.return_, 1) → V X 4 0 0 pc ls [] (wC ad c G r)) : ∀ (n : Nat) (x1 : Int32) (x2 : Int32) (s : SS), CD_callWaiting_2 G o n x1 x2 s = some r → V X 4 0 0 2 [(0, .ref (ad o)), (1, .int x1), (2, .int x2)] [] (wC ad c G s) := by
  intro n
  induction n with
  | zero => intro _ _ _ h; cases h
  | succ n ih =>
    intro x1 x2 s h
    rw [CD_callWaiting_2] at h
    refine v_iload_n K 2 rfl dX0_callWaiting_2 ?_
    refine v_aload_n K 0 rfl dX0_callWaiting_3 ?_
    refine gC_RX0_86 ho (v := (s o 10)) K dX0_callWaiting_4 rfl ?_
    refine v_icmp_ge K 87 dX0_callWaiting_7 (by decide) (fun q1 => ?_) (fun q1 => ?_)
    · replace h := if_e h q1
      obtain rfl := Option.some.inj h
      exact RT _ _ dX0_callWaiting_87
    · replace h := if_n h q1
      refine v_aload_n K 0 rfl dX0_callWaiting_10 ?_
      refine gC_RX0_27 ho K dX0_callWaiting_11 ?_
      refine v_iload_n K 2 rfl dX0_callWaiting_14 ?_
      obtain ⟨b2, h⟩ := ob_e h
      refine lC (v := (s (o + 6) x2.toNatClampNeg)) K (aD_6 ho) b2 dX0_callWaiting_15 rfl ?_
      refine v_istore_n K [(0, .ref (ad o)), (1, .int x1), (2, .int x2), (3, .int (s (o + 6) x2.toNatClampNeg))] [1, 2, 3, 0] dX0_callWaiting_16 rfl (by decide) rfl ?_
      refine v_aload_n K 0 rfl dX0_callWaiting_17 ?_
      refine gC_RX0_9 ho K dX0_callWaiting_18 ?_
      refine v_iload_n K 3 rfl dX0_callWaiting_21 ?_
      obtain ⟨b3, h⟩ := ob_e h
      refine lC (v := (s (o + 1) (s (o + 6) x2.toNatClampNeg).toNatClampNeg)) K (aD_1 ho) b3 dX0_callWaiting_22 rfl ?_
      refine v_iconst (v := (4 : Int32)) K dX0_callWaiting_23 (by decide) ?_
      refine v_icmp_ne K 81 dX0_callWaiting_24 (by decide) (fun q4 => ?_) (fun q4 => ?_)
      · replace h := if_n h q4
        refine v_drop [(0, .ref (ad o)), (1, .int x1), (2, .int x2)] [0, 1, 2] rfl ?_
        exact wCD_callWaiting_81 hG ho K RT (fun a0 a1 a2 e => ih a0 a1 a2 e) _ _ _ h
      · replace h := if_e h q4
        refine v_aload_n K 0 rfl dX0_callWaiting_27 ?_
        refine v_iload_n K 3 rfl dX0_callWaiting_28 ?_
        refine v_iload_n K 1 rfl dX0_callWaiting_29 ?_
        obtain ⟨r7, s6, e5, h⟩ := bnd_e h
        refine vC_calli K [.int (s (o + 6) x2.toNatClampNeg), .int x1] [] cw_RX0_130 (cCD_sitDown hG ho e5) (rcD ho) rfl rfl (Nat.le_of_ble_eq_true rfl) (by decide) dX0_callWaiting_30 ?_
        refine v_if_ne K 81 dX0_callWaiting_33 (by decide) (fun q8 => ?_) (fun q8 => ?_)
        · replace h := if_n h q8
          refine v_drop [(0, .ref (ad o)), (1, .int x1), (2, .int x2)] [0, 1, 2] rfl ?_
          exact wCD_callWaiting_81 hG ho K RT (fun a0 a1 a2 e => ih a0 a1 a2 e) _ _ _ h
        · replace h := if_e h q8
          refine v_iload_n K 1 rfl dX0_callWaiting_36 ?_
          refine v_aload_n K 0 rfl dX0_callWaiting_37 ?_
          refine gC_RX0_47 ho K dX0_callWaiting_38 ?_
          refine v_iload_n K 3 rfl dX0_callWaiting_41 ?_
          obtain ⟨b9, h⟩ := ob_e h
          obtain ⟨a10, e11, h⟩ := gld_e h
          refine qG K e11 b9 dX0_callWaiting_42 ?_
          refine gC_RX0_112 (hG _ _ e11) K dX0_callWaiting_43 ?_
          refine v_isub K dX0_callWaiting_46 ?_
          refine v_aload_n K 0 rfl dX0_callWaiting_47 ?_
          refine gC_RX0_33 ho (v := (s6 o 9)) K dX0_callWaiting_48 rfl ?_
          refine gC_RX0_118 (hou_ok (s6 o 9)) (v := (s6 (hou (s6 o 9)) 4)) K dX0_callWaiting_51 rfl ?_
          refine v_icmp_lt K 81 dX0_callWaiting_54 (by decide) (fun q12 => ?_) (fun q12 => ?_)
          · replace h := if_e h q12
            refine v_drop [(0, .ref (ad o)), (1, .int x1), (2, .int x2)] [0, 1, 2] rfl ?_
            exact wCD_callWaiting_81 hG ho K RT (fun a0 a1 a2 e => ih a0 a1 a2 e) _ _ _ h
          · replace h := if_n h q12
            refine v_aload_n K 0 rfl dX0_callWaiting_57 ?_
            refine gC_RX0_9 ho K dX0_callWaiting_58 ?_
            refine v_iload_n K 3 rfl dX0_callWaiting_61 ?_
            refine v_iconst (v := (1 : Int32)) K dX0_callWaiting_62 (by decide) ?_
            obtain ⟨b13, h⟩ := ob_e h
            refine sC K (aD_1 ho) b13 dX0_callWaiting_63 ?_
            refine v_aload_n K 0 rfl dX0_callWaiting_64 ?_
            refine gC_RX0_24 ho K dX0_callWaiting_65 ?_
            refine v_iload_n K 3 rfl dX0_callWaiting_68 ?_
            refine v_iload_n K 1 rfl dX0_callWaiting_69 ?_
            refine v_aload_n K 0 rfl dX0_callWaiting_70 ?_
            refine gC_RX0_47 ho K dX0_callWaiting_71 ?_
            refine v_iload_n K 3 rfl dX0_callWaiting_74 ?_
            obtain ⟨b14, h⟩ := ob_e h
            obtain ⟨a15, e16, h⟩ := gld_e h
            refine qG K e16 b14 dX0_callWaiting_75 ?_
            refine gC_RX0_112 (hG _ _ e16) K dX0_callWaiting_76 ?_
            refine v_isub K dX0_callWaiting_79 ?_
            obtain ⟨b17, h⟩ := ob_e h
            refine sC K (aD_5 ho) b17 dX0_callWaiting_80 ?_
            refine v_drop [(0, .ref (ad o)), (1, .int x1), (2, .int x2)] [0, 1, 2] rfl ?_
            exact wCD_callWaiting_81 hG ho K RT (fun a0 a1 a2 e => ih a0 a1 a2 e) _ _ _ h
set_option maxHeartbeats 4000000 in
set_option maxRecDepth 100000 in
theorem wCD_callWaiting {ad : Nat → Nat} {G : GG} {o : Nat} {X : Cx} {c : Nat → ClassId} (hG : gok G) (ho : isD o = true) (K : Ok X cX0_callWaiting RX0 4 3 c) {r : SS} (RT : ∀ pc ls, decode cX0_callWaiting pc = .ok (.return_, 1) → V X 4 0 0 pc ls [] (wC ad c G r)) (s : SS) (x1 : Int32) (h : CD_callWaiting G o s x1 = some r) : V X 4 0 0 0 [(0, .ref (ad o)), (1, .int x1)] [] (wC ad c G s) := by
  rw [CD_callWaiting] at h
  refine v_iconst (v := (0 : Int32)) K dX0_callWaiting_0 (by decide) ?_
  refine v_istore_n K [(0, .ref (ad o)), (1, .int x1), (2, .int (0 : Int32))] [1, 2, 0] dX0_callWaiting_1 rfl (by decide) rfl ?_
  exact wCD_callWaiting_2 hG ho K RT fuel _ _ _ h
theorem cCD_callWaiting {l : Launch} {D : va_G} {c : Nat → ClassId} {s s' : SS} {ad : Nat → Nat} {G : GG} {o : Nat} (hG : gok G) (ho : isD o = true)  {x1 : Int32} (h : CD_callWaiting G o s x1 = some s') : Cv l D c yX0_callWaiting cX0_callWaiting 4 none 3 [.ref (ad o), .int x1] (wC ad c G s) (wC ad c G s') := Cv.of (by decide) (Nat.le_of_ble_eq_true rfl) (fun X K RT => wCD_callWaiting hG ho K RT s x1 h)
set_option maxHeartbeats 4000000 in
set_option maxRecDepth 100000 in
theorem wCD_letCome_99 {ad : Nat → Nat} {G : GG} {o : Nat} {X : Cx} {c : Nat → ClassId} (hG : gok G) (ho : isD o = true) (K : Ok X cX0_letCome RX0 4 3 c) {r : SS} (RT : ∀ pc ls, decode cX0_letCome pc = .ok (.return_, 1) → V X 4 0 0 pc ls [] (wC ad c G r)) {k2 : Int32 → Int32 → SS → Option SS} (hk2 : ∀ (x1 : Int32) (x2 : Int32) (s : SS), k2 x1 x2 s = some r → V X 4 0 0 2 [(0, .ref (ad o)), (1, .int x1), (2, .int x2)] [] (wC ad c G s)) : ∀ (x1 : Int32) (x2 : Int32) (s : SS), CD_letCome_99 G o k2 x1 x2 s = some r → V X 4 0 0 99 [(0, .ref (ad o)), (1, .int x1), (2, .int x2)] [] (wC ad c G s) := by
  intro x1 x2 s h
  rw [CD_letCome_99] at h
  refine v_iinc (v := (x2 + (1 : Int32))) K 2 [(0, .ref (ad o)), (1, .int x1), (2, .int (x2 + (1 : Int32)))] [1, 2, 0] dX0_letCome_99 rfl rfl (by decide) rfl ?_
  refine v_goto K 2 dX0_letCome_102 (by decide) ?_
  exact hk2 _ _ _ h
set_option maxHeartbeats 4000000 in
set_option maxRecDepth 100000 in
theorem wCD_letCome_98 {ad : Nat → Nat} {G : GG} {o : Nat} {X : Cx} {c : Nat → ClassId} (hG : gok G) (ho : isD o = true) (K : Ok X cX0_letCome RX0 4 3 c) {r : SS} (RT : ∀ pc ls, decode cX0_letCome pc = .ok (.return_, 1) → V X 4 0 0 pc ls [] (wC ad c G r)) {k2 : Int32 → Int32 → SS → Option SS} (hk2 : ∀ (x1 : Int32) (x2 : Int32) (s : SS), k2 x1 x2 s = some r → V X 4 0 0 2 [(0, .ref (ad o)), (1, .int x1), (2, .int x2)] [] (wC ad c G s)) : ∀ (y1 : Int32) (y2 : Int32) (x1 : Int32) (x2 : Int32) (s : SS), CD_letCome_98 G o k2 y1 y2 x1 x2 s = some r → V X 4 0 0 98 [(0, .ref (ad o)), (1, .int x1), (2, .int x2)] [.int y2, .int y1, .ref (ad (o + 1))] (wC ad c G s) := by
  intro y1 y2 x1 x2 s h
  rw [CD_letCome_98] at h
  obtain ⟨b22, h⟩ := ob_e h
  refine sC K (aD_1 ho) b22 dX0_letCome_98 ?_
  exact wCD_letCome_99 hG ho K RT hk2 _ _ _ h
set_option maxHeartbeats 4000000 in
set_option maxRecDepth 100000 in
theorem wCD_letCome_2 {ad : Nat → Nat} {G : GG} {o : Nat} {X : Cx} {c : Nat → ClassId} (hG : gok G) (ho : isD o = true) (K : Ok X cX0_letCome RX0 4 3 c) {r : SS} (RT : ∀ pc ls, decode cX0_letCome pc = .ok (.return_, 1) → V X 4 0 0 pc ls [] (wC ad c G r)) : ∀ (n : Nat) (x1 : Int32) (x2 : Int32) (s : SS), CD_letCome_2 G o n x1 x2 s = some r → V X 4 0 0 2 [(0, .ref (ad o)), (1, .int x1), (2, .int x2)] [] (wC ad c G s) := by
  intro n
  induction n with
  | zero => intro _ _ _ h; cases h
  | succ n ih =>
    intro x1 x2 s h
    rw [CD_letCome_2] at h
    refine v_iload_n K 2 rfl dX0_letCome_2 ?_
    refine v_aload_n K 0 rfl dX0_letCome_3 ?_
    refine gC_RX0_86 ho (v := (s o 10)) K dX0_letCome_4 rfl ?_
    refine v_icmp_ge K 105 dX0_letCome_7 (by decide) (fun q1 => ?_) (fun q1 => ?_)
    · replace h := if_e h q1
      obtain rfl := Option.some.inj h
      exact RT _ _ dX0_letCome_105
    · replace h := if_n h q1
      refine v_aload_n K 0 rfl dX0_letCome_10 ?_
      refine gC_RX0_27 ho K dX0_letCome_11 ?_
      refine v_iload_n K 2 rfl dX0_letCome_14 ?_
      obtain ⟨b2, h⟩ := ob_e h
      refine lC (v := (s (o + 6) x2.toNatClampNeg)) K (aD_6 ho) b2 dX0_letCome_15 rfl ?_
      refine v_istore_n K [(0, .ref (ad o)), (1, .int x1), (2, .int x2), (3, .int (s (o + 6) x2.toNatClampNeg))] [1, 2, 3, 0] dX0_letCome_16 rfl (by decide) rfl ?_
      refine v_aload_n K 0 rfl dX0_letCome_17 ?_
      refine gC_RX0_9 ho K dX0_letCome_18 ?_
      refine v_iload_n K 3 rfl dX0_letCome_21 ?_
      obtain ⟨b3, h⟩ := ob_e h
      refine lC (v := (s (o + 1) (s (o + 6) x2.toNatClampNeg).toNatClampNeg)) K (aD_1 ho) b3 dX0_letCome_22 rfl ?_
      refine v_iconst (v := (3 : Int32)) K dX0_letCome_23 (by decide) ?_
      refine v_icmp_ne K 99 dX0_letCome_24 (by decide) (fun q4 => ?_) (fun q4 => ?_)
      · replace h := if_n h q4
        refine v_drop [(0, .ref (ad o)), (1, .int x1), (2, .int x2)] [0, 1, 2] rfl ?_
        exact wCD_letCome_99 hG ho K RT (fun a0 a1 a2 e => ih a0 a1 a2 e) _ _ _ h
      · replace h := if_e h q4
        refine v_aload_n K 0 rfl dX0_letCome_27 ?_
        refine gC_RX0_47 ho K dX0_letCome_28 ?_
        refine v_iload_n K 3 rfl dX0_letCome_31 ?_
        obtain ⟨b5, h⟩ := ob_e h
        obtain ⟨a6, e7, h⟩ := gld_e h
        refine qG K e7 b5 dX0_letCome_32 ?_
        refine gC_RX0_112 (hG _ _ e7) K dX0_letCome_33 ?_
        refine v_iload_n K 1 rfl dX0_letCome_36 ?_
        refine v_icmp_eq K 43 dX0_letCome_37 (by decide) (fun q8 => ?_) (fun q8 => ?_)
        · replace h := if_e h q8
          refine v_aload_n K 0 rfl dX0_letCome_43 ?_
          obtain ⟨r11, s10, e9, h⟩ := bnd_e h
          refine vC_calli K [] [] cw_RX0_134 (cCD_tablesTaken hG ho e9) (rcD ho) rfl rfl (Nat.le_of_ble_eq_true rfl) (by decide) dX0_letCome_44 ?_
          refine v_aload_n K 0 rfl dX0_letCome_47 ?_
          refine gC_RX0_47 ho K dX0_letCome_48 ?_
          refine v_iload_n K 3 rfl dX0_letCome_51 ?_
          obtain ⟨b12, h⟩ := ob_e h
          obtain ⟨a13, e14, h⟩ := gld_e h
          refine qG K e14 b12 dX0_letCome_52 ?_
          refine gC_RX0_137 (hG _ _ e14) K dX0_letCome_53 ?_
          refine v_icmp_ge K 69 dX0_letCome_56 (by decide) (fun q15 => ?_) (fun q15 => ?_)
          · replace h := if_e h q15
            refine v_aload_n K 0 rfl dX0_letCome_69 ?_
            refine v_iload_n K 3 rfl dX0_letCome_70 ?_
            refine v_iload_n K 1 rfl dX0_letCome_71 ?_
            obtain ⟨r18, s17, e16, h⟩ := bnd_e h
            refine vC_calli K [.int (s (o + 6) x2.toNatClampNeg), .int x1] [] cw_RX0_130 (cCD_sitDown hG ho e16) (rcD ho) rfl rfl (Nat.le_of_ble_eq_true rfl) (by decide) dX0_letCome_72 ?_
            refine v_if_ne K 99 dX0_letCome_75 (by decide) (fun q19 => ?_) (fun q19 => ?_)
            · replace h := if_n h q19
              refine v_drop [(0, .ref (ad o)), (1, .int x1), (2, .int x2)] [0, 1, 2] rfl ?_
              exact wCD_letCome_99 hG ho K RT (fun a0 a1 a2 e => ih a0 a1 a2 e) _ _ _ h
            · replace h := if_e h q19
              refine v_aload_n K 0 rfl dX0_letCome_78 ?_
              refine gC_RX0_9 ho K dX0_letCome_79 ?_
              refine v_iload_n K 3 rfl dX0_letCome_82 ?_
              refine v_aload_n K 0 rfl dX0_letCome_83 ?_
              refine gC_RX0_33 ho (v := (s17 o 9)) K dX0_letCome_84 rfl ?_
              refine gC_RX0_118 (hou_ok (s17 o 9)) (v := (s17 (hou (s17 o 9)) 4)) K dX0_letCome_87 rfl ?_
              refine v_if_le K 97 dX0_letCome_90 (by decide) (fun q20 => ?_) (fun q20 => ?_)
              · replace h := if_e h q20
                refine v_iconst (v := (1 : Int32)) K dX0_letCome_97 (by decide) ?_
                refine v_drop [(0, .ref (ad o)), (1, .int x1), (2, .int x2)] [0, 1, 2] rfl ?_
                exact wCD_letCome_98 hG ho K RT (fun a0 a1 a2 e => ih a0 a1 a2 e) _ _ _ _ _ h
              · replace h := if_n h q20
                refine v_iconst (v := (4 : Int32)) K dX0_letCome_93 (by decide) ?_
                refine v_goto K 98 dX0_letCome_94 (by decide) ?_
                refine v_drop [(0, .ref (ad o)), (1, .int x1), (2, .int x2)] [0, 1, 2] rfl ?_
                exact wCD_letCome_98 hG ho K RT (fun a0 a1 a2 e => ih a0 a1 a2 e) _ _ _ _ _ h
          · replace h := if_n h q15
            refine v_aload_n K 0 rfl dX0_letCome_59 ?_
            refine gC_RX0_9 ho K dX0_letCome_60 ?_
            refine v_iload_n K 3 rfl dX0_letCome_63 ?_
            refine v_iconst (v := (2 : Int32)) K dX0_letCome_64 (by decide) ?_
            obtain ⟨b21, h⟩ := ob_e h
            refine sC K (aD_1 ho) b21 dX0_letCome_65 ?_
            refine v_goto K 99 dX0_letCome_66 (by decide) ?_
            refine v_drop [(0, .ref (ad o)), (1, .int x1), (2, .int x2)] [0, 1, 2] rfl ?_
            exact wCD_letCome_99 hG ho K RT (fun a0 a1 a2 e => ih a0 a1 a2 e) _ _ _ h
        · replace h := if_n h q8
          refine v_goto K 99 dX0_letCome_40 (by decide) ?_
          refine v_drop [(0, .ref (ad o)), (1, .int x1), (2, .int x2)] [0, 1, 2] rfl ?_
          exact wCD_letCome_99 hG ho K RT (fun a0 a1 a2 e => ih a0 a1 a2 e) _ _ _ h
set_option maxHeartbeats 4000000 in
set_option maxRecDepth 100000 in
theorem wCD_letCome {ad : Nat → Nat} {G : GG} {o : Nat} {X : Cx} {c : Nat → ClassId} (hG : gok G) (ho : isD o = true) (K : Ok X cX0_letCome RX0 4 3 c) {r : SS} (RT : ∀ pc ls, decode cX0_letCome pc = .ok (.return_, 1) → V X 4 0 0 pc ls [] (wC ad c G r)) (s : SS) (x1 : Int32) (h : CD_letCome G o s x1 = some r) : V X 4 0 0 0 [(0, .ref (ad o)), (1, .int x1)] [] (wC ad c G s) := by
  rw [CD_letCome] at h
  refine v_iconst (v := (0 : Int32)) K dX0_letCome_0 (by decide) ?_
  refine v_istore_n K [(0, .ref (ad o)), (1, .int x1), (2, .int (0 : Int32))] [1, 2, 0] dX0_letCome_1 rfl (by decide) rfl ?_
  exact wCD_letCome_2 hG ho K RT fuel _ _ _ h
theorem cCD_letCome {l : Launch} {D : va_G} {c : Nat → ClassId} {s s' : SS} {ad : Nat → Nat} {G : GG} {o : Nat} (hG : gok G) (ho : isD o = true)  {x1 : Int32} (h : CD_letCome G o s x1 = some s') : Cv l D c yX0_letCome cX0_letCome 4 none 3 [.ref (ad o), .int x1] (wC ad c G s) (wC ad c G s') := Cv.of (by decide) (Nat.le_of_ble_eq_true rfl) (fun X K RT => wCD_letCome hG ho K RT s x1 h)
theorem cp_RX7_22 : cwPok RX7 22 yX2_telling cX2_telling 2 (some .int) 1 := ⟨⟨by decide, by decide +kernel⟩, by decide, all5 (BG_ix 738 (by decide +kernel) rfl) (BG_ix 726 (by decide +kernel) rfl) (BG_ix 439 (by decide +kernel) rfl) (BG_ix 724 (by decide +kernel) rfl) (BG_ix 69 (by decide +kernel) rfl), (BG_ix 747 (by decide +kernel) rfl)⟩
theorem vP_RX7_22 {X : Cx} {cc : ByteArray} {nL d pc : Nat} {c : Nat → ClassId} {ls : List (Nat × Value)} {ad : Nat → Nat} {G : GG} {s s' : SS} {a : Nat} {r : Int32} (hG : gok G) (ha : gm G a = true) (K : Ok X cc RX7 nL d c) (rest : List Value) (h : CG_telling G a s = some (r, s')) (hrm : (rest.map fun v => v.category).sum ≤ 8) (hdc : 2 + 1 ≤ d) (hd : decode cc pc = .ok (.invokespecial 22, 3)) (k : V X nL 0 0 (pc + 3) ls (.int r :: rest) (wC ad c G s')) : V X nL 0 0 pc ls (.ref (ad 18) :: .ref a :: rest) (wC ad c G s) := by
  obtain ⟨q, hq⟩ := gpos (ad := ad) (c := c) (s := s) ha
  rcases gk3 G a with e | e | e <;> rw [e] at hq
  · exact v_callP K [.ref (ad 18)] rest cp_RX7_22 (cCG_telling hG ha h) q hq rfl (wC_same ad c G s s') rfl rfl hrm (by omega) z0 hd k
  · exact v_callP K [.ref (ad 18)] rest cp_RX7_22 (cCG_telling hG ha h) q hq rfl (wC_same ad c G s s') rfl rfl hrm (by omega) z0 hd k
  · exact v_callP K [.ref (ad 18)] rest cp_RX7_22 (cCG_telling hG ha h) q hq rfl (wC_same ad c G s s') rfl rfl hrm (by omega) z0 hd k
