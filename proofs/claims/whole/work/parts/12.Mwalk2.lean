set_option maxHeartbeats 4000000 in
set_option maxRecDepth 100000 in
theorem wM_areNames_45 {X : Cx} {c : Nat → ClassId} (K : Ok X cX10_areNames RX10 4 1 c) {r : Int32} (RT : nb r = true → ∀ pc ls, decode cX10_areNames pc = .ok (.ireturn, 1) → V X 4 0 0 pc ls [.int r] []) : ∀ (y0 : Int32), M_areNames_45 y0 = some r → V X 4 0 0 45 [] [.int y0] [] := by
  intro y0 h
  rw [M_areNames_45] at h
  obtain ⟨b13, h⟩ := ob_e h
  obtain rfl := Option.some.inj h
  exact RT b13 _ _ dX10_areNames_45
set_option maxHeartbeats 4000000 in
set_option maxRecDepth 100000 in
theorem wM_areNames_44 {X : Cx} {c : Nat → ClassId} (K : Ok X cX10_areNames RX10 4 1 c) {r : Int32} (RT : nb r = true → ∀ pc ls, decode cX10_areNames pc = .ok (.ireturn, 1) → V X 4 0 0 pc ls [.int r] []) : M_areNames_44 = some r → V X 4 0 0 44 [] [] [] := by
  intro  h
  rw [M_areNames_44] at h
  refine v_iconst (v := (0 : Int32)) K dX10_areNames_44 (by decide) ?_
  exact wM_areNames_45 K RT _ h
set_option maxHeartbeats 4000000 in
set_option maxRecDepth 100000 in
theorem wM_areNames {X : Cx} {c : Nat → ClassId} (K : Ok X cX10_areNames RX10 4 1 c) {r : Int32} (RT : nb r = true → ∀ pc ls, decode cX10_areNames pc = .ok (.ireturn, 1) → V X 4 0 0 pc ls [.int r] []) (x0 : Int32) (x1 : Int32) (x2 : Int32) (x3 : Int32) (h : M_areNames x0 x1 x2 x3 = some r) : V X 4 0 0 0 [(0, .int x0), (1, .int x1), (2, .int x2), (3, .int x3)] [] [] := by
  rw [M_areNames] at h
  refine v_iload_n K 0 rfl dX10_areNames_0 ?_
  refine v_iconst (v := (0 : Int32)) K dX10_areNames_1 (by decide) ?_
  refine v_bipush (v := (100 : Int32)) K dX10_areNames_2 (by decide) ?_
  obtain ⟨r2, e1, h⟩ := bnd0_e h
  refine v_callsi K [.int x0, .int (0 : Int32), .int (100 : Int32)] [] cw_RX10_104 (cM_within e1) rfl rfl (Nat.le_of_ble_eq_true rfl) (by decide) z0 dX10_areNames_4 ?_
  refine v_if_eq K 44 dX10_areNames_7 (by decide) (fun q3 => ?_) (fun q3 => ?_)
  · replace h := if_e h q3
    refine v_drop [] [] rfl ?_
    exact wM_areNames_44 K RT  h
  · replace h := if_n h q3
    refine v_iload_n K 1 rfl dX10_areNames_10 ?_
    refine v_iconst (v := (0 : Int32)) K dX10_areNames_11 (by decide) ?_
    refine v_bipush (v := (8 : Int32)) K dX10_areNames_12 (by decide) ?_
    obtain ⟨r5, e4, h⟩ := bnd0_e h
    refine v_callsi K [.int x1, .int (0 : Int32), .int (8 : Int32)] [] cw_RX10_104 (cM_within e4) rfl rfl (Nat.le_of_ble_eq_true rfl) (by decide) z0 dX10_areNames_14 ?_
    refine v_if_eq K 44 dX10_areNames_17 (by decide) (fun q6 => ?_) (fun q6 => ?_)
    · replace h := if_e h q6
      refine v_drop [] [] rfl ?_
      exact wM_areNames_44 K RT  h
    · replace h := if_n h q6
      refine v_iload_n K 2 rfl dX10_areNames_20 ?_
      refine v_iconst (v := (0 : Int32)) K dX10_areNames_21 (by decide) ?_
      refine v_bipush (v := (9 : Int32)) K dX10_areNames_22 (by decide) ?_
      obtain ⟨r8, e7, h⟩ := bnd0_e h
      refine v_callsi K [.int x2, .int (0 : Int32), .int (9 : Int32)] [] cw_RX10_104 (cM_within e7) rfl rfl (Nat.le_of_ble_eq_true rfl) (by decide) z0 dX10_areNames_24 ?_
      refine v_if_eq K 44 dX10_areNames_27 (by decide) (fun q9 => ?_) (fun q9 => ?_)
      · replace h := if_e h q9
        refine v_drop [] [] rfl ?_
        exact wM_areNames_44 K RT  h
      · replace h := if_n h q9
        refine v_iload_n K 3 rfl dX10_areNames_30 ?_
        refine v_iconst (v := (0 : Int32)) K dX10_areNames_31 (by decide) ?_
        refine v_bipush (v := (9 : Int32)) K dX10_areNames_32 (by decide) ?_
        obtain ⟨r11, e10, h⟩ := bnd0_e h
        refine v_callsi K [.int x3, .int (0 : Int32), .int (9 : Int32)] [] cw_RX10_104 (cM_within e10) rfl rfl (Nat.le_of_ble_eq_true rfl) (by decide) z0 dX10_areNames_34 ?_
        refine v_if_eq K 44 dX10_areNames_37 (by decide) (fun q12 => ?_) (fun q12 => ?_)
        · replace h := if_e h q12
          refine v_drop [] [] rfl ?_
          exact wM_areNames_44 K RT  h
        · replace h := if_n h q12
          refine v_iconst (v := (1 : Int32)) K dX10_areNames_40 (by decide) ?_
          refine v_goto K 45 dX10_areNames_41 (by decide) ?_
          refine v_drop [] [] rfl ?_
          exact wM_areNames_45 K RT _ h
theorem cM_areNames {l : Launch} {D : va_G} {c : Nat → ClassId} {x0 : Int32} {x1 : Int32} {x2 : Int32} {x3 : Int32} {r : Int32} (h : M_areNames x0 x1 x2 x3 = some r) : Ci l D c yX10_areNames cX10_areNames 4 (some .boolean) 1 [.int x0, .int x1, .int x2, .int x3] [] r [] := Ci.ofZ (by decide) (Nat.le_of_ble_eq_true rfl) (fun X K RT => wM_areNames K RT x0 x1 x2 x3 h)
set_option maxHeartbeats 4000000 in
set_option maxRecDepth 100000 in
theorem wM_as_46 {ad : Nat → Nat} {X : Cx} {c : Nat → ClassId} (K : Ok X cX10_as RX10 3 1 c) {r : Int32 × SS} (RT : ∀ pc ls, decode cX10_as pc = .ok (.ireturn, 1) → V X 3 0 0 pc ls [.int r.1] (wM ad c r.2)) : ∀ (y0 : Int32) (s : SS), M_as_46 y0 s = some r → V X 3 0 0 46 [] [.int y0] (wM ad c s) := by
  intro y0 s h
  rw [M_as_46] at h
  obtain rfl := Option.some.inj h
  exact RT _ _ dX10_as_46
set_option maxHeartbeats 4000000 in
set_option maxRecDepth 100000 in
theorem wM_as {ad : Nat → Nat} {X : Cx} {c : Nat → ClassId} (K : Ok X cX10_as RX10 3 1 c) {r : Int32 × SS} (RT : ∀ pc ls, decode cX10_as pc = .ok (.ireturn, 1) → V X 3 0 0 pc ls [.int r.1] (wM ad c r.2)) (s : SS) (x1 : Int32) (x2 : Int32) (h : M_as s x1 x2 = some r) : V X 3 0 0 0 [(0, .ref (ad 0)), (1, .int x1), (2, .int x2)] [] (wM ad c s) := by
  rw [M_as] at h
  refine v_aload_n K 0 rfl dX10_as_0 ?_
  refine v_iconst (v := (0 : Int32)) K dX10_as_1 (by decide) ?_
  refine pM_0 K dX10_as_2 ?_
  refine v_aload_n K 0 rfl dX10_as_5 ?_
  refine v_iload_n K 1 rfl dX10_as_6 ?_
  obtain ⟨r3, s2, e1, h⟩ := bnd_e h
  refine vM_calli K [.int x1] [] cw_RX10_156 (cM_isGroup e1) rfl rfl (Nat.le_of_ble_eq_true rfl) (by decide) dX10_as_7 ?_
  refine v_if_ne K 15 dX10_as_10 (by decide) (fun q4 => ?_) (fun q4 => ?_)
  · replace h := if_n h q4
    refine v_iload_n K 2 rfl dX10_as_15 ?_
    refine v_iconst (v := (0 : Int32)) K dX10_as_16 (by decide) ?_
    refine v_iconst (v := (2 : Int32)) K dX10_as_17 (by decide) ?_
    obtain ⟨r6, e5, h⟩ := bnd0_e h
    refine v_callsi K [.int x2, .int (0 : Int32), .int (2 : Int32)] [] cw_RX10_104 (cM_within e5) rfl rfl (Nat.le_of_ble_eq_true rfl) (by decide) z0 dX10_as_18 ?_
    refine v_if_ne K 27 dX10_as_21 (by decide) (fun q7 => ?_) (fun q7 => ?_)
    · replace h := if_n h q7
      refine v_aload_n K 0 rfl dX10_as_27 ?_
      refine gM_17 K dX10_as_28 ?_
      refine v_iload_n K 1 rfl dX10_as_31 ?_
      obtain ⟨b8, h⟩ := ob_e h
      refine lM_17 (v := (s2 17 x1.toNatClampNeg)) K b8 dX10_as_32 rfl ?_
      refine v_iload_n K 2 rfl dX10_as_33 ?_
      refine v_icmp_lt K 41 dX10_as_34 (by decide) (fun q9 => ?_) (fun q9 => ?_)
      · replace h := if_e h q9
        refine v_aload_n K 0 rfl dX10_as_41 ?_
        refine v_iconst (v := (2 : Int32)) K dX10_as_42 (by decide) ?_
        obtain ⟨r12, s11, e10, h⟩ := bnd_e h
        refine vM_calli K [.int (2 : Int32)] [] cw_RX10_125 (cM_fails e10) rfl rfl (Nat.le_of_ble_eq_true rfl) (by decide) dX10_as_43 ?_
        refine v_drop [] [] rfl ?_
        exact wM_as_46 K RT _ _ h
      · replace h := if_n h q9
        refine v_iconst (v := (1 : Int32)) K dX10_as_37 (by decide) ?_
        refine v_goto K 46 dX10_as_38 (by decide) ?_
        refine v_drop [] [] rfl ?_
        exact wM_as_46 K RT _ _ h
    · replace h := if_e h q7
      refine v_bipush (v := (-2 : Int32)) K dX10_as_24 (by decide) ?_
      obtain rfl := Option.some.inj h
      exact RT _ _ dX10_as_26
  · replace h := if_e h q4
    refine v_iconst (v := (-1 : Int32)) K dX10_as_13 (by decide) ?_
    obtain rfl := Option.some.inj h
    exact RT _ _ dX10_as_14
theorem cM_as {l : Launch} {D : va_G} {c : Nat → ClassId} {ad : Nat → Nat} {s s' : SS} {x1 : Int32} {x2 : Int32} {r : Int32} (h : M_as s x1 x2 = some (r, s')) : Ci l D c yX10_as cX10_as 3 (some .int) 1 [.ref (ad 0), .int x1, .int x2] (wM ad c s) r (wM ad c s') := Ci.of (by decide) (Nat.le_of_ble_eq_true rfl) (fun X K RT => wM_as K (r := (r, s')) RT s x1 x2 h)
set_option maxHeartbeats 4000000 in
set_option maxRecDepth 100000 in
theorem wM_firstFor_35 {ad : Nat → Nat} {X : Cx} {c : Nat → ClassId} (K : Ok X cX10_firstFor RX10 3 1 c) {r : Int32 × SS} (RT : ∀ pc ls, decode cX10_firstFor pc = .ok (.ireturn, 1) → V X 3 0 0 pc ls [.int r.1] (wM ad c r.2)) {k2 : Int32 → Int32 → SS → Option (Int32 × SS)} (hk2 : ∀ (x1 : Int32) (x2 : Int32) (s : SS), k2 x1 x2 s = some r → V X 3 0 0 2 [(0, .ref (ad 0)), (1, .int x1), (2, .int x2)] [] (wM ad c s)) : ∀ (x1 : Int32) (x2 : Int32) (s : SS), M_firstFor_35 k2 x1 x2 s = some r → V X 3 0 0 35 [(0, .ref (ad 0)), (1, .int x1), (2, .int x2)] [] (wM ad c s) := by
  intro x1 x2 s h
  rw [M_firstFor_35] at h
  refine v_iinc (v := (x2 + (1 : Int32))) K 2 [(0, .ref (ad 0)), (1, .int x1), (2, .int (x2 + (1 : Int32)))] [1, 2, 0] dX10_firstFor_35 rfl rfl (by decide) rfl ?_
  refine v_goto K 2 dX10_firstFor_38 (by decide) ?_
  exact hk2 _ _ _ h
set_option maxHeartbeats 4000000 in
set_option maxRecDepth 100000 in
theorem wM_firstFor_2 {ad : Nat → Nat} {X : Cx} {c : Nat → ClassId} (K : Ok X cX10_firstFor RX10 3 1 c) {r : Int32 × SS} (RT : ∀ pc ls, decode cX10_firstFor pc = .ok (.ireturn, 1) → V X 3 0 0 pc ls [.int r.1] (wM ad c r.2)) : ∀ (n : Nat) (x1 : Int32) (x2 : Int32) (s : SS), M_firstFor_2 n x1 x2 s = some r → V X 3 0 0 2 [(0, .ref (ad 0)), (1, .int x1), (2, .int x2)] [] (wM ad c s) := by
  intro n
  induction n with
  | zero => intro _ _ _ h; cases h
  | succ n ih =>
    intro x1 x2 s h
    rw [M_firstFor_2] at h
    refine v_iload_n K 2 rfl dX10_firstFor_2 ?_
    refine v_aload_n K 0 rfl dX10_firstFor_3 ?_
    refine gM_23 (v := (s 0 23)) K dX10_firstFor_4 rfl ?_
    refine v_icmp_ge K 41 dX10_firstFor_7 (by decide) (fun q1 => ?_) (fun q1 => ?_)
    · replace h := if_e h q1
      refine v_bipush (v := (-9 : Int32)) K dX10_firstFor_41 (by decide) ?_
      obtain rfl := Option.some.inj h
      exact RT _ _ dX10_firstFor_43
    · replace h := if_n h q1
      refine v_aload_n K 0 rfl dX10_firstFor_10 ?_
      refine v_iload_n K 2 rfl dX10_firstFor_11 ?_
      obtain ⟨r4, s3, e2, h⟩ := bnd_e h
      refine vM_calli K [.int x2] [] cw_RX10_230 (cM_isFree e2) rfl rfl (Nat.le_of_ble_eq_true rfl) (by decide) dX10_firstFor_12 ?_
      refine v_if_eq K 35 dX10_firstFor_15 (by decide) (fun q5 => ?_) (fun q5 => ?_)
      · replace h := if_e h q5
        exact wM_firstFor_35 K RT (fun a0 a1 a2 e => ih a0 a1 a2 e) _ _ _ h
      · replace h := if_n h q5
        refine v_aload_n K 0 rfl dX10_firstFor_18 ?_
        refine gM_25 K dX10_firstFor_19 ?_
        refine v_iload_n K 2 rfl dX10_firstFor_22 ?_
        obtain ⟨b6, h⟩ := ob_e h
        refine lM_25 (v := (s3 25 x2.toNatClampNeg)) K b6 dX10_firstFor_23 rfl ?_
        refine v_aload_n K 0 rfl dX10_firstFor_24 ?_
        refine gM_18 K dX10_firstFor_25 ?_
        refine v_iload_n K 1 rfl dX10_firstFor_28 ?_
        obtain ⟨b7, h⟩ := ob_e h
        refine lM_18 (v := (s3 18 x1.toNatClampNeg)) K b7 dX10_firstFor_29 rfl ?_
        refine v_icmp_lt K 35 dX10_firstFor_30 (by decide) (fun q8 => ?_) (fun q8 => ?_)
        · replace h := if_e h q8
          exact wM_firstFor_35 K RT (fun a0 a1 a2 e => ih a0 a1 a2 e) _ _ _ h
        · replace h := if_n h q8
          refine v_iload_n K 2 rfl dX10_firstFor_33 ?_
          obtain rfl := Option.some.inj h
          exact RT _ _ dX10_firstFor_34
set_option maxHeartbeats 4000000 in
set_option maxRecDepth 100000 in
theorem wM_firstFor {ad : Nat → Nat} {X : Cx} {c : Nat → ClassId} (K : Ok X cX10_firstFor RX10 3 1 c) {r : Int32 × SS} (RT : ∀ pc ls, decode cX10_firstFor pc = .ok (.ireturn, 1) → V X 3 0 0 pc ls [.int r.1] (wM ad c r.2)) (s : SS) (x1 : Int32) (h : M_firstFor s x1 = some r) : V X 3 0 0 0 [(0, .ref (ad 0)), (1, .int x1)] [] (wM ad c s) := by
  rw [M_firstFor] at h
  refine v_iconst (v := (0 : Int32)) K dX10_firstFor_0 (by decide) ?_
  refine v_istore_n K [(0, .ref (ad 0)), (1, .int x1), (2, .int (0 : Int32))] [1, 2, 0] dX10_firstFor_1 rfl (by decide) rfl ?_
  exact wM_firstFor_2 K RT fuel _ _ _ h
theorem cM_firstFor {l : Launch} {D : va_G} {c : Nat → ClassId} {ad : Nat → Nat} {s s' : SS} {x1 : Int32} {r : Int32} (h : M_firstFor s x1 = some (r, s')) : Ci l D c yX10_firstFor cX10_firstFor 3 (some .int) 1 [.ref (ad 0), .int x1] (wM ad c s) r (wM ad c s') := Ci.of (by decide) (Nat.le_of_ble_eq_true rfl) (fun X K RT => wM_firstFor K (r := (r, s')) RT s x1 h)
set_option maxHeartbeats 4000000 in
set_option maxRecDepth 100000 in
theorem wM_goes {ad : Nat → Nat} {X : Cx} {c : Nat → ClassId} (K : Ok X cX10_goes RX10 3 1 c) {r : SS} (RT : ∀ pc ls, decode cX10_goes pc = .ok (.return_, 1) → V X 3 0 0 pc ls [] (wM ad c r)) (s : SS) (x1 : Int32) (x2 : Int32) (h : M_goes s x1 x2 = some r) : V X 3 0 0 0 [(0, .ref (ad 0)), (1, .int x1), (2, .int x2)] [] (wM ad c s) := by
  rw [M_goes] at h
  refine v_aload_n K 0 rfl dX10_goes_0 ?_
  refine gM_32 K dX10_goes_1 ?_
  refine v_iload_n K 1 rfl dX10_goes_4 ?_
  refine v_iconst (v := (5 : Int32)) K dX10_goes_5 (by decide) ?_
  obtain ⟨b1, h⟩ := ob_e h
  refine sM_32 K b1 dX10_goes_6 ?_
  refine v_aload_n K 0 rfl dX10_goes_7 ?_
  refine gM_36 K dX10_goes_8 ?_
  refine v_iload_n K 1 rfl dX10_goes_11 ?_
  refine v_aload_n K 0 rfl dX10_goes_12 ?_
  refine v_iload_n K 1 rfl dX10_goes_13 ?_
  refine v_iload_n K 2 rfl dX10_goes_14 ?_
  refine v_aload_n K 0 rfl dX10_goes_15 ?_
  refine gM_34 K dX10_goes_16 ?_
  refine v_iload_n K 1 rfl dX10_goes_19 ?_
  obtain ⟨b2, h⟩ := ob_e h
  refine lM_34 (v := (s 34 x1.toNatClampNeg)) K b2 dX10_goes_20 rfl ?_
  refine v_isub K dX10_goes_21 ?_
  obtain ⟨r5, s4, e3, h⟩ := bnd_e h
  refine vM_calli K [.int x1, .int (x2 - (s 34 x1.toNatClampNeg))] [.int x1, .ref (ad 36)] cw_RX10_204 (cM_coinOf e3) rfl rfl (Nat.le_of_ble_eq_true rfl) (by decide) dX10_goes_22 ?_
  obtain ⟨b6, h⟩ := ob_e h
  refine sM_36 K b6 dX10_goes_25 ?_
  obtain rfl := Option.some.inj h
  exact RT _ _ dX10_goes_26
theorem cM_goes {l : Launch} {D : va_G} {c : Nat → ClassId} {ad : Nat → Nat} {s s' : SS} {x1 : Int32} {x2 : Int32} (h : M_goes s x1 x2 = some s') : Cv l D c yX10_goes cX10_goes 3 none 1 [.ref (ad 0), .int x1, .int x2] (wM ad c s) (wM ad c s') := Cv.of (by decide) (Nat.le_of_ble_eq_true rfl) (fun X K RT => wM_goes K RT s x1 x2 h)
set_option maxHeartbeats 4000000 in
set_option maxRecDepth 100000 in
theorem wM_group_61 {ad : Nat → Nat} {X : Cx} {c : Nat → ClassId} (K : Ok X cX10_group RX10 7 1 c) {r : Int32 × SS} (RT : ∀ pc ls, decode cX10_group pc = .ok (.ireturn, 1) → V X 7 0 0 pc ls [.int r.1] (wM ad c r.2)) : ∀ (s : SS), M_group_61 s = some r → V X 7 0 0 61 [] [] (wM ad c s) := by
  intro s h
  rw [M_group_61] at h
  refine v_bipush (v := (-2 : Int32)) K dX10_group_61 (by decide) ?_
  obtain rfl := Option.some.inj h
  exact RT _ _ dX10_group_63
set_option maxHeartbeats 4000000 in
set_option maxRecDepth 100000 in
theorem wM_group {ad : Nat → Nat} {X : Cx} {c : Nat → ClassId} (K : Ok X cX10_group RX10 7 1 c) {r : Int32 × SS} (RT : ∀ pc ls, decode cX10_group pc = .ok (.ireturn, 1) → V X 7 0 0 pc ls [.int r.1] (wM ad c r.2)) (s : SS) (x1 : Int32) (x2 : Int32) (x3 : Int32) (x4 : Int32) (x5 : Int32) (x6 : Int32) (h : M_group s x1 x2 x3 x4 x5 x6 = some r) : V X 7 0 0 0 [(0, .ref (ad 0)), (1, .int x1), (2, .int x2), (3, .int x3), (4, .int x4), (5, .int x5), (6, .int x6)] [] (wM ad c s) := by
  rw [M_group] at h
  refine v_iload_n K 1 rfl dX10_group_0 ?_
  refine v_iconst (v := (0 : Int32)) K dX10_group_1 (by decide) ?_
  refine v_iconst (v := (2 : Int32)) K dX10_group_2 (by decide) ?_
  obtain ⟨r2, e1, h⟩ := bnd0_e h
  refine v_callsi K [.int x1, .int (0 : Int32), .int (2 : Int32)] [] cw_RX10_104 (cM_within e1) rfl rfl (Nat.le_of_ble_eq_true rfl) (by decide) z0 dX10_group_3 ?_
  refine v_if_eq K 61 dX10_group_6 (by decide) (fun q3 => ?_) (fun q3 => ?_)
  · replace h := if_e h q3
    refine v_drop [] [] rfl ?_
    exact wM_group_61 K RT _ h
  · replace h := if_n h q3
    refine v_iload_n K 2 rfl dX10_group_9 ?_
    refine v_iconst (v := (1 : Int32)) K dX10_group_10 (by decide) ?_
    refine v_bipush (v := (6 : Int32)) K dX10_group_11 (by decide) ?_
    obtain ⟨r5, e4, h⟩ := bnd0_e h
    refine v_callsi K [.int x2, .int (1 : Int32), .int (6 : Int32)] [] cw_RX10_104 (cM_within e4) rfl rfl (Nat.le_of_ble_eq_true rfl) (by decide) z0 dX10_group_13 ?_
    refine v_if_eq K 61 dX10_group_16 (by decide) (fun q6 => ?_) (fun q6 => ?_)
    · replace h := if_e h q6
      refine v_drop [] [] rfl ?_
      exact wM_group_61 K RT _ h
    · replace h := if_n h q6
      refine v_iload_n K 3 rfl dX10_group_19 ?_
      refine v_iconst (v := (0 : Int32)) K dX10_group_20 (by decide) ?_
      refine v_bipush (v := (99 : Int32)) K dX10_group_21 (by decide) ?_
      obtain ⟨r8, e7, h⟩ := bnd0_e h
      refine v_callsi K [.int x3, .int (0 : Int32), .int (99 : Int32)] [] cw_RX10_104 (cM_within e7) rfl rfl (Nat.le_of_ble_eq_true rfl) (by decide) z0 dX10_group_23 ?_
      refine v_if_eq K 61 dX10_group_26 (by decide) (fun q9 => ?_) (fun q9 => ?_)
      · replace h := if_e h q9
        refine v_drop [] [] rfl ?_
        exact wM_group_61 K RT _ h
      · replace h := if_n h q9
        refine v_iload K 4 rfl dX10_group_29 ?_
        refine v_iconst (v := (1 : Int32)) K dX10_group_31 (by decide) ?_
        refine v_bipush (v := (60 : Int32)) K dX10_group_32 (by decide) ?_
        obtain ⟨r11, e10, h⟩ := bnd0_e h
        refine v_callsi K [.int x4, .int (1 : Int32), .int (60 : Int32)] [] cw_RX10_104 (cM_within e10) rfl rfl (Nat.le_of_ble_eq_true rfl) (by decide) z0 dX10_group_34 ?_
        refine v_if_eq K 61 dX10_group_37 (by decide) (fun q12 => ?_) (fun q12 => ?_)
        · replace h := if_e h q12
          refine v_drop [] [] rfl ?_
          exact wM_group_61 K RT _ h
        · replace h := if_n h q12
          refine v_iload K 5 rfl dX10_group_40 ?_
          refine v_iconst (v := (0 : Int32)) K dX10_group_42 (by decide) ?_
          refine v_iconst (v := (2 : Int32)) K dX10_group_43 (by decide) ?_
          obtain ⟨r14, e13, h⟩ := bnd0_e h
          refine v_callsi K [.int x5, .int (0 : Int32), .int (2 : Int32)] [] cw_RX10_104 (cM_within e13) rfl rfl (Nat.le_of_ble_eq_true rfl) (by decide) z0 dX10_group_44 ?_
          refine v_if_eq K 61 dX10_group_47 (by decide) (fun q15 => ?_) (fun q15 => ?_)
          · replace h := if_e h q15
            refine v_drop [] [] rfl ?_
            exact wM_group_61 K RT _ h
          · replace h := if_n h q15
            refine v_iload K 6 rfl dX10_group_50 ?_
            refine v_iconst (v := (0 : Int32)) K dX10_group_52 (by decide) ?_
            refine v_bipush (v := (6 : Int32)) K dX10_group_53 (by decide) ?_
            obtain ⟨r17, e16, h⟩ := bnd0_e h
            refine v_callsi K [.int x6, .int (0 : Int32), .int (6 : Int32)] [] cw_RX10_104 (cM_within e16) rfl rfl (Nat.le_of_ble_eq_true rfl) (by decide) z0 dX10_group_55 ?_
            refine v_if_ne K 64 dX10_group_58 (by decide) (fun q18 => ?_) (fun q18 => ?_)
            · replace h := if_n h q18
              refine v_aload_n K 0 rfl dX10_group_64 ?_
              obtain ⟨r21, s20, e19, h⟩ := bnd_e h
              refine vM_calli K [] [] cw_RX10_152 (cM_isCafe e19) rfl rfl (Nat.le_of_ble_eq_true rfl) (by decide) dX10_group_65 ?_
              refine v_if_ne K 74 dX10_group_68 (by decide) (fun q22 => ?_) (fun q22 => ?_)
              · replace h := if_n h q22
                refine v_aload_n K 0 rfl dX10_group_74 ?_
                refine gM_16 (v := (s20 0 16)) K dX10_group_75 rfl ?_
                refine v_bipush (v := (8 : Int32)) K dX10_group_78 (by decide) ?_
                refine v_icmp_ne K 86 dX10_group_80 (by decide) (fun q23 => ?_) (fun q23 => ?_)
                · replace h := if_n h q23
                  refine v_aload_n K 0 rfl dX10_group_86 ?_
                  refine gM_17 K dX10_group_87 ?_
                  refine v_aload_n K 0 rfl dX10_group_90 ?_
                  refine gM_16 (v := (s20 0 16)) K dX10_group_91 rfl ?_
                  refine v_iload_n K 1 rfl dX10_group_94 ?_
                  obtain ⟨b24, h⟩ := ob_e h
                  refine sM_17 K b24 dX10_group_95 ?_
                  refine v_aload_n K 0 rfl dX10_group_96 ?_
                  refine gM_18 K dX10_group_97 ?_
                  refine v_aload_n K 0 rfl dX10_group_100 ?_
                  refine gM_16 (v := (s20 0 16)) K dX10_group_101 rfl ?_
                  refine v_iload_n K 2 rfl dX10_group_104 ?_
                  obtain ⟨b25, h⟩ := ob_e h
                  refine sM_18 K b25 dX10_group_105 ?_
                  refine v_aload_n K 0 rfl dX10_group_106 ?_
                  refine gM_19 K dX10_group_107 ?_
                  refine v_aload_n K 0 rfl dX10_group_110 ?_
                  refine gM_16 (v := (s20 0 16)) K dX10_group_111 rfl ?_
                  refine v_iload_n K 3 rfl dX10_group_114 ?_
                  obtain ⟨b26, h⟩ := ob_e h
                  refine sM_19 K b26 dX10_group_115 ?_
                  refine v_aload_n K 0 rfl dX10_group_116 ?_
                  refine gM_20 K dX10_group_117 ?_
                  refine v_aload_n K 0 rfl dX10_group_120 ?_
                  refine gM_16 (v := (s20 0 16)) K dX10_group_121 rfl ?_
                  refine v_iload K 4 rfl dX10_group_124 ?_
                  obtain ⟨b27, h⟩ := ob_e h
                  refine sM_20 K b27 dX10_group_126 ?_
                  refine v_aload_n K 0 rfl dX10_group_127 ?_
                  refine gM_21 K dX10_group_128 ?_
                  refine v_aload_n K 0 rfl dX10_group_131 ?_
                  refine gM_16 (v := (s20 0 16)) K dX10_group_132 rfl ?_
                  refine v_iload K 5 rfl dX10_group_135 ?_
                  obtain ⟨b28, h⟩ := ob_e h
                  refine sM_21 K b28 dX10_group_137 ?_
                  refine v_aload_n K 0 rfl dX10_group_138 ?_
                  refine gM_22 K dX10_group_139 ?_
                  refine v_aload_n K 0 rfl dX10_group_142 ?_
                  refine gM_16 (v := (s20 0 16)) K dX10_group_143 rfl ?_
                  refine v_iload K 6 rfl dX10_group_146 ?_
                  obtain ⟨b29, h⟩ := ob_e h
                  refine sM_22 K b29 dX10_group_148 ?_
                  refine v_aload_n K 0 rfl dX10_group_149 ?_
                  refine v_dup K dX10_group_150 rfl ?_
                  refine gM_16 (v := (s20 0 16)) K dX10_group_151 rfl ?_
                  refine v_iconst (v := (1 : Int32)) K dX10_group_154 (by decide) ?_
                  refine v_iadd K dX10_group_155 ?_
                  refine pM_16 K dX10_group_156 ?_
                  refine v_aload_n K 0 rfl dX10_group_159 ?_
                  refine gM_16 (v := ((s20 0 16) + (1 : Int32))) K dX10_group_160 rfl ?_
                  refine v_iconst (v := (1 : Int32)) K dX10_group_163 (by decide) ?_
                  refine v_isub K dX10_group_164 ?_
                  obtain rfl := Option.some.inj h
                  exact RT _ _ dX10_group_165
                · replace h := if_e h q23
                  refine v_bipush (v := (-4 : Int32)) K dX10_group_83 (by decide) ?_
                  obtain rfl := Option.some.inj h
                  exact RT _ _ dX10_group_85
              · replace h := if_e h q22
                refine v_bipush (v := (-3 : Int32)) K dX10_group_71 (by decide) ?_
                obtain rfl := Option.some.inj h
                exact RT _ _ dX10_group_73
            · replace h := if_e h q18
              refine v_drop [] [] rfl ?_
              exact wM_group_61 K RT _ h
theorem cM_group {l : Launch} {D : va_G} {c : Nat → ClassId} {ad : Nat → Nat} {s s' : SS} {x1 : Int32} {x2 : Int32} {x3 : Int32} {x4 : Int32} {x5 : Int32} {x6 : Int32} {r : Int32} (h : M_group s x1 x2 x3 x4 x5 x6 = some (r, s')) : Ci l D c yX10_group cX10_group 7 (some .int) 1 [.ref (ad 0), .int x1, .int x2, .int x3, .int x4, .int x5, .int x6] (wM ad c s) r (wM ad c s') := Ci.of (by decide) (Nat.le_of_ble_eq_true rfl) (fun X K RT => wM_group K (r := (r, s')) RT s x1 x2 x3 x4 x5 x6 h)
set_option maxHeartbeats 4000000 in
set_option maxRecDepth 100000 in
theorem wM_isSheet {X : Cx} {c : Nat → ClassId} (K : Ok X cX10_isSheet RX10 1 1 c) {r : Int32} (RT : nb r = true → ∀ pc ls, decode cX10_isSheet pc = .ok (.ireturn, 1) → V X 1 0 0 pc ls [.int r] []) (x0 : Int32) (h : M_isSheet x0 = some r) : V X 1 0 0 0 [(0, .int x0)] [] [] := by
  rw [M_isSheet] at h
  refine v_iload_n K 0 rfl dX10_isSheet_0 ?_
  refine v_iconst (v := (0 : Int32)) K dX10_isSheet_1 (by decide) ?_
  refine v_iconst (v := (3 : Int32)) K dX10_isSheet_2 (by decide) ?_
  obtain ⟨r2, e1, h⟩ := bnd0_e h
  refine v_callsi K [.int x0, .int (0 : Int32), .int (3 : Int32)] [] cw_RX10_104 (cM_within e1) rfl rfl (Nat.le_of_ble_eq_true rfl) (by decide) z0 dX10_isSheet_3 ?_
  obtain ⟨b3, h⟩ := ob_e h
  obtain rfl := Option.some.inj h
  exact RT b3 _ _ dX10_isSheet_6
theorem cM_isSheet {l : Launch} {D : va_G} {c : Nat → ClassId} {x0 : Int32} {r : Int32} (h : M_isSheet x0 = some r) : Ci l D c yX10_isSheet cX10_isSheet 1 (some .boolean) 1 [.int x0] [] r [] := Ci.ofZ (by decide) (Nat.le_of_ble_eq_true rfl) (fun X K RT => wM_isSheet K RT x0 h)
set_option maxHeartbeats 4000000 in
set_option maxRecDepth 100000 in
theorem wM_isSort {X : Cx} {c : Nat → ClassId} (K : Ok X cX10_isSort RX10 1 1 c) {r : Int32} (RT : nb r = true → ∀ pc ls, decode cX10_isSort pc = .ok (.ireturn, 1) → V X 1 0 0 pc ls [.int r] []) (x0 : Int32) (h : M_isSort x0 = some r) : V X 1 0 0 0 [(0, .int x0)] [] [] := by
  rw [M_isSort] at h
  refine v_iload_n K 0 rfl dX10_isSort_0 ?_
  refine v_iconst (v := (0 : Int32)) K dX10_isSort_1 (by decide) ?_
  refine v_iconst (v := (2 : Int32)) K dX10_isSort_2 (by decide) ?_
  obtain ⟨r2, e1, h⟩ := bnd0_e h
  refine v_callsi K [.int x0, .int (0 : Int32), .int (2 : Int32)] [] cw_RX10_104 (cM_within e1) rfl rfl (Nat.le_of_ble_eq_true rfl) (by decide) z0 dX10_isSort_3 ?_
  obtain ⟨b3, h⟩ := ob_e h
  obtain rfl := Option.some.inj h
  exact RT b3 _ _ dX10_isSort_6
theorem cM_isSort {l : Launch} {D : va_G} {c : Nat → ClassId} {x0 : Int32} {r : Int32} (h : M_isSort x0 = some r) : Ci l D c yX10_isSort cX10_isSort 1 (some .boolean) 1 [.int x0] [] r [] := Ci.ofZ (by decide) (Nat.le_of_ble_eq_true rfl) (fun X K RT => wM_isSort K RT x0 h)
set_option maxHeartbeats 4000000 in
set_option maxRecDepth 100000 in
theorem wM_joining_30 {ad : Nat → Nat} {X : Cx} {c : Nat → ClassId} (K : Ok X cX10_joining RX10 3 1 c) {r : Int32 × SS} (RT : ∀ pc ls, decode cX10_joining pc = .ok (.ireturn, 1) → V X 3 0 0 pc ls [.int r.1] (wM ad c r.2)) : ∀ (y0 : Int32) (s : SS), M_joining_30 y0 s = some r → V X 3 0 0 30 [] [.int y0] (wM ad c s) := by
  intro y0 s h
  rw [M_joining_30] at h
  obtain rfl := Option.some.inj h
  exact RT _ _ dX10_joining_30
set_option maxHeartbeats 4000000 in
set_option maxRecDepth 100000 in
theorem wM_joining {ad : Nat → Nat} {X : Cx} {c : Nat → ClassId} (K : Ok X cX10_joining RX10 3 1 c) {r : Int32 × SS} (RT : ∀ pc ls, decode cX10_joining pc = .ok (.ireturn, 1) → V X 3 0 0 pc ls [.int r.1] (wM ad c r.2)) (s : SS) (x1 : Int32) (h : M_joining s x1 = some r) : V X 3 0 0 0 [(0, .ref (ad 0)), (1, .int x1)] [] (wM ad c s) := by
  rw [M_joining] at h
  refine v_aload_n K 0 rfl dX10_joining_0 ?_
  obtain ⟨r3, s2, e1, h⟩ := bnd_e h
  refine vM_calli K [] [] cw_RX10_152 (cM_isCafe e1) rfl rfl (Nat.le_of_ble_eq_true rfl) (by decide) dX10_joining_1 ?_
  refine v_if_ne K 10 dX10_joining_4 (by decide) (fun q4 => ?_) (fun q4 => ?_)
  · replace h := if_n h q4
    refine v_aload_n K 0 rfl dX10_joining_10 ?_
    refine gM_10 (v := (s2 0 10)) K dX10_joining_11 rfl ?_
    refine v_istore_n K [(0, .ref (ad 0)), (1, .int x1), (2, .int (s2 0 10))] [1, 2, 0] dX10_joining_14 rfl (by decide) rfl ?_
    refine v_aload_n K 0 rfl dX10_joining_15 ?_
    refine v_iload_n K 1 rfl dX10_joining_16 ?_
    obtain ⟨b5, h⟩ := ob_e h
    refine pM_10 K b5 dX10_joining_17 ?_
    refine v_iload_n K 2 rfl dX10_joining_20 ?_
    refine v_iload_n K 1 rfl dX10_joining_21 ?_
    refine v_icmp_ne K 29 dX10_joining_22 (by decide) (fun q6 => ?_) (fun q6 => ?_)
    · replace h := if_n h q6
      refine v_iconst (v := (1 : Int32)) K dX10_joining_29 (by decide) ?_
      refine v_drop [] [] rfl ?_
      exact wM_joining_30 K RT _ _ h
    · replace h := if_e h q6
      refine v_iconst (v := (0 : Int32)) K dX10_joining_25 (by decide) ?_
      refine v_goto K 30 dX10_joining_26 (by decide) ?_
      refine v_drop [] [] rfl ?_
      exact wM_joining_30 K RT _ _ h
  · replace h := if_e h q4
    refine v_bipush (v := (-3 : Int32)) K dX10_joining_7 (by decide) ?_
    obtain rfl := Option.some.inj h
    exact RT _ _ dX10_joining_9
theorem cM_joining {l : Launch} {D : va_G} {c : Nat → ClassId} {ad : Nat → Nat} {s s' : SS} {x1 : Int32} {r : Int32} (h : M_joining s x1 = some (r, s')) : Ci l D c yX10_joining cX10_joining 3 (some .int) 1 [.ref (ad 0), .int x1] (wM ad c s) r (wM ad c s') := Ci.of (by decide) (Nat.le_of_ble_eq_true rfl) (fun X K RT => wM_joining K (r := (r, s')) RT s x1 h)
set_option maxHeartbeats 4000000 in
set_option maxRecDepth 100000 in
theorem wM_joinsTwo_72 {ad : Nat → Nat} {X : Cx} {c : Nat → ClassId} (K : Ok X cX10_joinsTwo RX10 3 1 c) {r : Int32 × SS} (RT : nb r.1 = true → ∀ pc ls, decode cX10_joinsTwo pc = .ok (.ireturn, 1) → V X 3 0 0 pc ls [.int r.1] (wM ad c r.2)) {k2 : Int32 → Int32 → SS → Option (Int32 × SS)} (hk2 : ∀ (x1 : Int32) (x2 : Int32) (s : SS), k2 x1 x2 s = some r → V X 3 0 0 2 [(0, .ref (ad 0)), (1, .int x1), (2, .int x2)] [] (wM ad c s)) : ∀ (x1 : Int32) (x2 : Int32) (s : SS), M_joinsTwo_72 k2 x1 x2 s = some r → V X 3 0 0 72 [(0, .ref (ad 0)), (1, .int x1), (2, .int x2)] [] (wM ad c s) := by
  intro x1 x2 s h
  rw [M_joinsTwo_72] at h
  refine v_iinc (v := (x2 + (1 : Int32))) K 2 [(0, .ref (ad 0)), (1, .int x1), (2, .int (x2 + (1 : Int32)))] [1, 2, 0] dX10_joinsTwo_72 rfl rfl (by decide) rfl ?_
  refine v_goto K 2 dX10_joinsTwo_75 (by decide) ?_
  exact hk2 _ _ _ h
set_option maxHeartbeats 4000000 in
set_option maxRecDepth 100000 in
theorem wM_joinsTwo_2 {ad : Nat → Nat} {X : Cx} {c : Nat → ClassId} (K : Ok X cX10_joinsTwo RX10 3 1 c) {r : Int32 × SS} (RT : nb r.1 = true → ∀ pc ls, decode cX10_joinsTwo pc = .ok (.ireturn, 1) → V X 3 0 0 pc ls [.int r.1] (wM ad c r.2)) : ∀ (n : Nat) (x1 : Int32) (x2 : Int32) (s : SS), M_joinsTwo_2 n x1 x2 s = some r → V X 3 0 0 2 [(0, .ref (ad 0)), (1, .int x1), (2, .int x2)] [] (wM ad c s) := by
  intro n
  induction n with
  | zero => intro _ _ _ h; cases h
  | succ n ih =>
    intro x1 x2 s h
    rw [M_joinsTwo_2] at h
    refine v_iload_n K 2 rfl dX10_joinsTwo_2 ?_
    refine v_iconst (v := (1 : Int32)) K dX10_joinsTwo_3 (by decide) ?_
    refine v_iadd K dX10_joinsTwo_4 ?_
    refine v_aload_n K 0 rfl dX10_joinsTwo_5 ?_
    refine gM_23 (v := (s 0 23)) K dX10_joinsTwo_6 rfl ?_
    refine v_icmp_ge K 78 dX10_joinsTwo_9 (by decide) (fun q1 => ?_) (fun q1 => ?_)
    · replace h := if_e h q1
      refine v_iconst (v := (0 : Int32)) K dX10_joinsTwo_78 (by decide) ?_
      obtain ⟨b2, h⟩ := ob_e h
      obtain rfl := Option.some.inj h
      exact RT b2 _ _ dX10_joinsTwo_79
    · replace h := if_n h q1
      refine v_aload_n K 0 rfl dX10_joinsTwo_12 ?_
      refine v_iload_n K 2 rfl dX10_joinsTwo_13 ?_
      obtain ⟨r5, s4, e3, h⟩ := bnd_e h
      refine vM_calli K [.int x2] [] cw_RX10_230 (cM_isFree e3) rfl rfl (Nat.le_of_ble_eq_true rfl) (by decide) dX10_joinsTwo_14 ?_
      refine v_if_eq K 72 dX10_joinsTwo_17 (by decide) (fun q6 => ?_) (fun q6 => ?_)
      · replace h := if_e h q6
        exact wM_joinsTwo_72 K RT (fun a0 a1 a2 e => ih a0 a1 a2 e) _ _ _ h
      · replace h := if_n h q6
        refine v_aload_n K 0 rfl dX10_joinsTwo_20 ?_
        refine v_iload_n K 2 rfl dX10_joinsTwo_21 ?_
        refine v_iconst (v := (1 : Int32)) K dX10_joinsTwo_22 (by decide) ?_
        refine v_iadd K dX10_joinsTwo_23 ?_
        obtain ⟨r9, s8, e7, h⟩ := bnd_e h
        refine vM_calli K [.int (x2 + (1 : Int32))] [] cw_RX10_230 (cM_isFree e7) rfl rfl (Nat.le_of_ble_eq_true rfl) (by decide) dX10_joinsTwo_24 ?_
        refine v_if_eq K 72 dX10_joinsTwo_27 (by decide) (fun q10 => ?_) (fun q10 => ?_)
        · replace h := if_e h q10
          exact wM_joinsTwo_72 K RT (fun a0 a1 a2 e => ih a0 a1 a2 e) _ _ _ h
        · replace h := if_n h q10
          refine v_aload_n K 0 rfl dX10_joinsTwo_30 ?_
          refine gM_25 K dX10_joinsTwo_31 ?_
          refine v_iload_n K 2 rfl dX10_joinsTwo_34 ?_
          obtain ⟨b11, h⟩ := ob_e h
          refine lM_25 (v := (s8 25 x2.toNatClampNeg)) K b11 dX10_joinsTwo_35 rfl ?_
          refine v_aload_n K 0 rfl dX10_joinsTwo_36 ?_
          refine gM_25 K dX10_joinsTwo_37 ?_
          refine v_iload_n K 2 rfl dX10_joinsTwo_40 ?_
          refine v_iconst (v := (1 : Int32)) K dX10_joinsTwo_41 (by decide) ?_
          refine v_iadd K dX10_joinsTwo_42 ?_
          obtain ⟨b12, h⟩ := ob_e h
          refine lM_25 (v := (s8 25 (x2 + (1 : Int32)).toNatClampNeg)) K b12 dX10_joinsTwo_43 rfl ?_
          refine v_iadd K dX10_joinsTwo_44 ?_
          refine v_aload_n K 0 rfl dX10_joinsTwo_45 ?_
          refine gM_18 K dX10_joinsTwo_46 ?_
          refine v_iload_n K 1 rfl dX10_joinsTwo_49 ?_
          obtain ⟨b13, h⟩ := ob_e h
          refine lM_18 (v := (s8 18 x1.toNatClampNeg)) K b13 dX10_joinsTwo_50 rfl ?_
          refine v_icmp_lt K 72 dX10_joinsTwo_51 (by decide) (fun q14 => ?_) (fun q14 => ?_)
          · replace h := if_e h q14
            exact wM_joinsTwo_72 K RT (fun a0 a1 a2 e => ih a0 a1 a2 e) _ _ _ h
          · replace h := if_n h q14
            refine v_aload_n K 0 rfl dX10_joinsTwo_54 ?_
            refine gM_30 K dX10_joinsTwo_55 ?_
            refine v_iload_n K 2 rfl dX10_joinsTwo_58 ?_
            refine v_iload_n K 1 rfl dX10_joinsTwo_59 ?_
            obtain ⟨b15, h⟩ := ob_e h
            refine sM_30 K b15 dX10_joinsTwo_60 ?_
            refine v_aload_n K 0 rfl dX10_joinsTwo_61 ?_
            refine gM_30 K dX10_joinsTwo_62 ?_
            refine v_iload_n K 2 rfl dX10_joinsTwo_65 ?_
            refine v_iconst (v := (1 : Int32)) K dX10_joinsTwo_66 (by decide) ?_
            refine v_iadd K dX10_joinsTwo_67 ?_
            refine v_iload_n K 1 rfl dX10_joinsTwo_68 ?_
            obtain ⟨b16, h⟩ := ob_e h
            refine sM_30 K b16 dX10_joinsTwo_69 ?_
            refine v_iconst (v := (1 : Int32)) K dX10_joinsTwo_70 (by decide) ?_
            obtain ⟨b17, h⟩ := ob_e h
            obtain rfl := Option.some.inj h
            exact RT b17 _ _ dX10_joinsTwo_71
set_option maxHeartbeats 4000000 in
set_option maxRecDepth 100000 in
theorem wM_joinsTwo {ad : Nat → Nat} {X : Cx} {c : Nat → ClassId} (K : Ok X cX10_joinsTwo RX10 3 1 c) {r : Int32 × SS} (RT : nb r.1 = true → ∀ pc ls, decode cX10_joinsTwo pc = .ok (.ireturn, 1) → V X 3 0 0 pc ls [.int r.1] (wM ad c r.2)) (s : SS) (x1 : Int32) (h : M_joinsTwo s x1 = some r) : V X 3 0 0 0 [(0, .ref (ad 0)), (1, .int x1)] [] (wM ad c s) := by
  rw [M_joinsTwo] at h
  refine v_iconst (v := (0 : Int32)) K dX10_joinsTwo_0 (by decide) ?_
  refine v_istore_n K [(0, .ref (ad 0)), (1, .int x1), (2, .int (0 : Int32))] [1, 2, 0] dX10_joinsTwo_1 rfl (by decide) rfl ?_
  exact wM_joinsTwo_2 K RT fuel _ _ _ h
theorem cM_joinsTwo {l : Launch} {D : va_G} {c : Nat → ClassId} {ad : Nat → Nat} {s s' : SS} {x1 : Int32} {r : Int32} (h : M_joinsTwo s x1 = some (r, s')) : Ci l D c yX10_joinsTwo cX10_joinsTwo 3 (some .boolean) 1 [.ref (ad 0), .int x1] (wM ad c s) r (wM ad c s') := Ci.ofZ (by decide) (Nat.le_of_ble_eq_true rfl) (fun X K RT => wM_joinsTwo K (r := (r, s')) RT s x1 h)
set_option maxHeartbeats 4000000 in
set_option maxRecDepth 100000 in
theorem wM_maySit_88 {ad : Nat → Nat} {X : Cx} {c : Nat → ClassId} (K : Ok X cX10_maySit RX10 4 1 c) {r : Int32 × SS} (RT : nb r.1 = true → ∀ pc ls, decode cX10_maySit pc = .ok (.ireturn, 1) → V X 4 0 0 pc ls [.int r.1] (wM ad c r.2)) {k29 : Int32 → Int32 → Int32 → SS → Option (Int32 × SS)} (hk29 : ∀ (x1 : Int32) (x2 : Int32) (x3 : Int32) (s : SS), k29 x1 x2 x3 s = some r → V X 4 0 0 29 [(0, .ref (ad 0)), (1, .int x1), (2, .int x2), (3, .int x3)] [] (wM ad c s)) : ∀ (x1 : Int32) (x2 : Int32) (x3 : Int32) (s : SS), M_maySit_88 k29 x1 x2 x3 s = some r → V X 4 0 0 88 [(0, .ref (ad 0)), (1, .int x1), (2, .int x2), (3, .int x3)] [] (wM ad c s) := by
  intro x1 x2 x3 s h
  rw [M_maySit_88] at h
  refine v_iinc (v := (x3 + (1 : Int32))) K 3 [(0, .ref (ad 0)), (1, .int x1), (2, .int x2), (3, .int (x3 + (1 : Int32)))] [1, 2, 3, 0] dX10_maySit_88 rfl rfl (by decide) rfl ?_
  refine v_goto K 29 dX10_maySit_91 (by decide) ?_
  exact hk29 _ _ _ _ h
set_option maxHeartbeats 4000000 in
set_option maxRecDepth 100000 in
theorem wM_maySit_29 {ad : Nat → Nat} {X : Cx} {c : Nat → ClassId} (K : Ok X cX10_maySit RX10 4 1 c) {r : Int32 × SS} (RT : nb r.1 = true → ∀ pc ls, decode cX10_maySit pc = .ok (.ireturn, 1) → V X 4 0 0 pc ls [.int r.1] (wM ad c r.2)) : ∀ (n : Nat) (x1 : Int32) (x2 : Int32) (x3 : Int32) (s : SS), M_maySit_29 n x1 x2 x3 s = some r → V X 4 0 0 29 [(0, .ref (ad 0)), (1, .int x1), (2, .int x2), (3, .int x3)] [] (wM ad c s) := by
  intro n
  induction n with
  | zero => intro _ _ _ _ h; cases h
  | succ n ih =>
    intro x1 x2 x3 s h
    rw [M_maySit_29] at h
    refine v_iload_n K 3 rfl dX10_maySit_29 ?_
    refine v_iload_n K 1 rfl dX10_maySit_30 ?_
    refine v_icmp_ge K 94 dX10_maySit_31 (by decide) (fun q7 => ?_) (fun q7 => ?_)
    · replace h := if_e h q7
      refine v_iconst (v := (1 : Int32)) K dX10_maySit_94 (by decide) ?_
      obtain ⟨b8, h⟩ := ob_e h
      obtain rfl := Option.some.inj h
      exact RT b8 _ _ dX10_maySit_95
    · replace h := if_n h q7
      refine v_aload_n K 0 rfl dX10_maySit_34 ?_
      refine gM_41 K dX10_maySit_35 ?_
      refine v_iload_n K 3 rfl dX10_maySit_38 ?_
      obtain ⟨b9, h⟩ := ob_e h
      refine lM_41 (v := (s 41 x3.toNatClampNeg)) K b9 dX10_maySit_39 rfl ?_
      refine v_iload_n K 2 rfl dX10_maySit_40 ?_
      refine v_icmp_ne K 88 dX10_maySit_41 (by decide) (fun q10 => ?_) (fun q10 => ?_)
      · replace h := if_n h q10
        exact wM_maySit_88 K RT (fun a0 a1 a2 a3 e => ih a0 a1 a2 a3 e) _ _ _ _ h
      · replace h := if_e h q10
        refine v_aload_n K 0 rfl dX10_maySit_44 ?_
        refine gM_19 K dX10_maySit_45 ?_
        refine v_iload_n K 3 rfl dX10_maySit_48 ?_
        obtain ⟨b11, h⟩ := ob_e h
        refine lM_19 (v := (s 19 x3.toNatClampNeg)) K b11 dX10_maySit_49 rfl ?_
        refine v_aload_n K 0 rfl dX10_maySit_50 ?_
        refine gM_19 K dX10_maySit_51 ?_
        refine v_iload_n K 1 rfl dX10_maySit_54 ?_
        obtain ⟨b12, h⟩ := ob_e h
        refine lM_19 (v := (s 19 x1.toNatClampNeg)) K b12 dX10_maySit_55 rfl ?_
        refine v_aload_n K 0 rfl dX10_maySit_56 ?_
        refine v_iload_n K 1 rfl dX10_maySit_57 ?_
        obtain ⟨r15, s14, e13, h⟩ := bnd_e h
        refine vM_calli K [.int x1] [.int (s 19 x1.toNatClampNeg), .int (s 19 x3.toNatClampNeg)] cw_RX10_159 (cM_stays e13) rfl rfl (Nat.le_of_ble_eq_true rfl) (by decide) dX10_maySit_58 ?_
        refine v_iadd K dX10_maySit_61 ?_
        refine v_icmp_ge K 88 dX10_maySit_62 (by decide) (fun q16 => ?_) (fun q16 => ?_)
        · replace h := if_e h q16
          exact wM_maySit_88 K RT (fun a0 a1 a2 a3 e => ih a0 a1 a2 a3 e) _ _ _ _ h
        · replace h := if_n h q16
          refine v_aload_n K 0 rfl dX10_maySit_65 ?_
          refine gM_19 K dX10_maySit_66 ?_
          refine v_iload_n K 1 rfl dX10_maySit_69 ?_
          obtain ⟨b17, h⟩ := ob_e h
          refine lM_19 (v := (s14 19 x1.toNatClampNeg)) K b17 dX10_maySit_70 rfl ?_
          refine v_aload_n K 0 rfl dX10_maySit_71 ?_
          refine gM_19 K dX10_maySit_72 ?_
          refine v_iload_n K 3 rfl dX10_maySit_75 ?_
          obtain ⟨b18, h⟩ := ob_e h
          refine lM_19 (v := (s14 19 x3.toNatClampNeg)) K b18 dX10_maySit_76 rfl ?_
          refine v_aload_n K 0 rfl dX10_maySit_77 ?_
          refine v_iload_n K 3 rfl dX10_maySit_78 ?_
          obtain ⟨r21, s20, e19, h⟩ := bnd_e h
          refine vM_calli K [.int x3] [.int (s14 19 x3.toNatClampNeg), .int (s14 19 x1.toNatClampNeg)] cw_RX10_159 (cM_stays e19) rfl rfl (Nat.le_of_ble_eq_true rfl) (by decide) dX10_maySit_79 ?_
          refine v_iadd K dX10_maySit_82 ?_
          refine v_icmp_ge K 88 dX10_maySit_83 (by decide) (fun q22 => ?_) (fun q22 => ?_)
          · replace h := if_e h q22
            exact wM_maySit_88 K RT (fun a0 a1 a2 a3 e => ih a0 a1 a2 a3 e) _ _ _ _ h
          · replace h := if_n h q22
            refine v_iconst (v := (0 : Int32)) K dX10_maySit_86 (by decide) ?_
            obtain ⟨b23, h⟩ := ob_e h
            obtain rfl := Option.some.inj h
            exact RT b23 _ _ dX10_maySit_87
set_option maxHeartbeats 4000000 in
set_option maxRecDepth 100000 in
theorem wM_maySit {ad : Nat → Nat} {X : Cx} {c : Nat → ClassId} (K : Ok X cX10_maySit RX10 4 1 c) {r : Int32 × SS} (RT : nb r.1 = true → ∀ pc ls, decode cX10_maySit pc = .ok (.ireturn, 1) → V X 4 0 0 pc ls [.int r.1] (wM ad c r.2)) (s : SS) (x1 : Int32) (x2 : Int32) (h : M_maySit s x1 x2 = some r) : V X 4 0 0 0 [(0, .ref (ad 0)), (1, .int x1), (2, .int x2)] [] (wM ad c s) := by
  rw [M_maySit] at h
  refine v_iload_n K 2 rfl dX10_maySit_0 ?_
  refine v_aload_n K 0 rfl dX10_maySit_1 ?_
  refine gM_5 (v := (s 0 5)) K dX10_maySit_2 rfl ?_
  refine v_icmp_ne K 10 dX10_maySit_5 (by decide) (fun q1 => ?_) (fun q1 => ?_)
  · replace h := if_n h q1
    refine v_aload_n K 0 rfl dX10_maySit_10 ?_
    refine gM_7 K dX10_maySit_11 ?_
    refine v_iload_n K 2 rfl dX10_maySit_14 ?_
    obtain ⟨b2, h⟩ := ob_e h
    refine lM_7 (v := (s 7 x2.toNatClampNeg)) K b2 dX10_maySit_15 rfl ?_
    refine v_aload_n K 0 rfl dX10_maySit_16 ?_
    refine gM_18 K dX10_maySit_17 ?_
    refine v_iload_n K 1 rfl dX10_maySit_20 ?_
    obtain ⟨b3, h⟩ := ob_e h
    refine lM_18 (v := (s 18 x1.toNatClampNeg)) K b3 dX10_maySit_21 rfl ?_
    refine v_icmp_ge K 27 dX10_maySit_22 (by decide) (fun q4 => ?_) (fun q4 => ?_)
    · replace h := if_e h q4
      refine v_iconst (v := (0 : Int32)) K dX10_maySit_27 (by decide) ?_
      refine v_istore_n K [(0, .ref (ad 0)), (1, .int x1), (2, .int x2), (3, .int (0 : Int32))] [1, 2, 3, 0] dX10_maySit_28 rfl (by decide) rfl ?_
      exact wM_maySit_29 K RT fuel _ _ _ _ h
    · replace h := if_n h q4
      refine v_iconst (v := (0 : Int32)) K dX10_maySit_25 (by decide) ?_
      obtain ⟨b5, h⟩ := ob_e h
      obtain rfl := Option.some.inj h
      exact RT b5 _ _ dX10_maySit_26
  · replace h := if_e h q1
    refine v_iconst (v := (1 : Int32)) K dX10_maySit_8 (by decide) ?_
    obtain ⟨b6, h⟩ := ob_e h
    obtain rfl := Option.some.inj h
    exact RT b6 _ _ dX10_maySit_9
theorem cM_maySit {l : Launch} {D : va_G} {c : Nat → ClassId} {ad : Nat → Nat} {s s' : SS} {x1 : Int32} {x2 : Int32} {r : Int32} (h : M_maySit s x1 x2 = some (r, s')) : Ci l D c yX10_maySit cX10_maySit 4 (some .boolean) 1 [.ref (ad 0), .int x1, .int x2] (wM ad c s) r (wM ad c s') := Ci.ofZ (by decide) (Nat.le_of_ble_eq_true rfl) (fun X K RT => wM_maySit K (r := (r, s')) RT s x1 x2 h)
set_option maxHeartbeats 4000000 in
set_option maxRecDepth 100000 in
theorem wM_ofGroup {ad : Nat → Nat} {X : Cx} {c : Nat → ClassId} (K : Ok X cX10_ofGroup RX10 3 1 c) {r : Int32 × SS} (RT : ∀ pc ls, decode cX10_ofGroup pc = .ok (.ireturn, 1) → V X 3 0 0 pc ls [.int r.1] (wM ad c r.2)) (s : SS) (x1 : Int32) (x2 : Int32) (h : M_ofGroup s x1 x2 = some r) : V X 3 0 0 0 [(0, .ref (ad 0)), (1, .int x1), (2, .int x2)] [] (wM ad c s) := by
  rw [M_ofGroup] at h
  refine v_aload_n K 0 rfl dX10_ofGroup_0 ?_
  refine v_iload_n K 1 rfl dX10_ofGroup_1 ?_
  obtain ⟨r3, s2, e1, h⟩ := bnd_e h
  refine vM_calli K [.int x1] [] cw_RX10_156 (cM_isGroup e1) rfl rfl (Nat.le_of_ble_eq_true rfl) (by decide) dX10_ofGroup_2 ?_
  refine v_if_ne K 10 dX10_ofGroup_5 (by decide) (fun q4 => ?_) (fun q4 => ?_)
  · replace h := if_n h q4
    refine v_iload_n K 2 rfl dX10_ofGroup_10 ?_
    by_cases q5 : x2 = (0 : Int32)
    · replace h := if_e h q5
      refine v_tableIn (off := 41) K 52 dX10_ofGroup_11 (by rw [q5]; decide) (by rw [q5]; decide) (by rw [q5]; rfl) (by decide) ?_
      refine v_aload_n K 0 rfl dX10_ofGroup_52 ?_
      refine gM_17 K dX10_ofGroup_53 ?_
      refine v_iload_n K 1 rfl dX10_ofGroup_56 ?_
      obtain ⟨b6, h⟩ := ob_e h
      refine lM_17 (v := (s2 17 x1.toNatClampNeg)) K b6 dX10_ofGroup_57 rfl ?_
      obtain rfl := Option.some.inj h
      exact RT _ _ dX10_ofGroup_58
    · replace h := if_n h q5
      by_cases q7 : x2 = (1 : Int32)
      · replace h := if_e h q7
        refine v_tableIn (off := 48) K 59 dX10_ofGroup_11 (by rw [q7]; decide) (by rw [q7]; decide) (by rw [q7]; rfl) (by decide) ?_
        refine v_aload_n K 0 rfl dX10_ofGroup_59 ?_
        refine gM_18 K dX10_ofGroup_60 ?_
        refine v_iload_n K 1 rfl dX10_ofGroup_63 ?_
        obtain ⟨b8, h⟩ := ob_e h
        refine lM_18 (v := (s2 18 x1.toNatClampNeg)) K b8 dX10_ofGroup_64 rfl ?_
        obtain rfl := Option.some.inj h
        exact RT _ _ dX10_ofGroup_65
      · replace h := if_n h q7
        by_cases q9 : x2 = (2 : Int32)
        · replace h := if_e h q9
          refine v_tableIn (off := 55) K 66 dX10_ofGroup_11 (by rw [q9]; decide) (by rw [q9]; decide) (by rw [q9]; rfl) (by decide) ?_
          refine v_aload_n K 0 rfl dX10_ofGroup_66 ?_
          refine gM_19 K dX10_ofGroup_67 ?_
          refine v_iload_n K 1 rfl dX10_ofGroup_70 ?_
          obtain ⟨b10, h⟩ := ob_e h
          refine lM_19 (v := (s2 19 x1.toNatClampNeg)) K b10 dX10_ofGroup_71 rfl ?_
          obtain rfl := Option.some.inj h
          exact RT _ _ dX10_ofGroup_72
        · replace h := if_n h q9
          by_cases q11 : x2 = (3 : Int32)
          · replace h := if_e h q11
            refine v_tableIn (off := 62) K 73 dX10_ofGroup_11 (by rw [q11]; decide) (by rw [q11]; decide) (by rw [q11]; rfl) (by decide) ?_
            refine v_aload_n K 0 rfl dX10_ofGroup_73 ?_
            refine gM_20 K dX10_ofGroup_74 ?_
            refine v_iload_n K 1 rfl dX10_ofGroup_77 ?_
            obtain ⟨b12, h⟩ := ob_e h
            refine lM_20 (v := (s2 20 x1.toNatClampNeg)) K b12 dX10_ofGroup_78 rfl ?_
            obtain rfl := Option.some.inj h
            exact RT _ _ dX10_ofGroup_79
          · replace h := if_n h q11
            by_cases q13 : x2 = (4 : Int32)
            · replace h := if_e h q13
              refine v_tableIn (off := 69) K 80 dX10_ofGroup_11 (by rw [q13]; decide) (by rw [q13]; decide) (by rw [q13]; rfl) (by decide) ?_
              refine v_aload_n K 0 rfl dX10_ofGroup_80 ?_
              refine gM_21 K dX10_ofGroup_81 ?_
              refine v_iload_n K 1 rfl dX10_ofGroup_84 ?_
              obtain ⟨b14, h⟩ := ob_e h
              refine lM_21 (v := (s2 21 x1.toNatClampNeg)) K b14 dX10_ofGroup_85 rfl ?_
              obtain rfl := Option.some.inj h
              exact RT _ _ dX10_ofGroup_86
            · replace h := if_n h q13
              by_cases q15 : x2 = (5 : Int32)
              · replace h := if_e h q15
                refine v_tableIn (off := 76) K 87 dX10_ofGroup_11 (by rw [q15]; decide) (by rw [q15]; decide) (by rw [q15]; rfl) (by decide) ?_
                refine v_aload_n K 0 rfl dX10_ofGroup_87 ?_
                refine gM_22 K dX10_ofGroup_88 ?_
                refine v_iload_n K 1 rfl dX10_ofGroup_91 ?_
                obtain ⟨b16, h⟩ := ob_e h
                refine lM_22 (v := (s2 22 x1.toNatClampNeg)) K b16 dX10_ofGroup_92 rfl ?_
                obtain rfl := Option.some.inj h
                exact RT _ _ dX10_ofGroup_93
              · replace h := if_n h q15
                by_cases q17 : x2 = (6 : Int32)
                · replace h := if_e h q17
                  refine v_tableIn (off := 83) K 94 dX10_ofGroup_11 (by rw [q17]; decide) (by rw [q17]; decide) (by rw [q17]; rfl) (by decide) ?_
                  refine v_aload_n K 0 rfl dX10_ofGroup_94 ?_
                  refine v_iload_n K 1 rfl dX10_ofGroup_95 ?_
                  obtain ⟨r20, s19, e18, h⟩ := bnd_e h
                  refine vM_calli K [.int x1] [] cw_RX10_159 (cM_stays e18) rfl rfl (Nat.le_of_ble_eq_true rfl) (by decide) dX10_ofGroup_96 ?_
                  obtain rfl := Option.some.inj h
                  exact RT _ _ dX10_ofGroup_99
                · replace h := if_n h q17
                  refine v_tableOut K 100 dX10_ofGroup_11 (by have eq5 := lv_neT q5 (show ((0 : Int32)).toInt = 0 from by decide); have eq7 := lv_neT q7 (show ((1 : Int32)).toInt = 1 from by decide); have eq9 := lv_neT q9 (show ((2 : Int32)).toInt = 2 from by decide); have eq11 := lv_neT q11 (show ((3 : Int32)).toInt = 3 from by decide); have eq13 := lv_neT q13 (show ((4 : Int32)).toInt = 4 from by decide); have eq15 := lv_neT q15 (show ((5 : Int32)).toInt = 5 from by decide); have eq17 := lv_neT q17 (show ((6 : Int32)).toInt = 6 from by decide); omega) (by decide) ?_
                  refine v_bipush (v := (-2 : Int32)) K dX10_ofGroup_100 (by decide) ?_
                  obtain rfl := Option.some.inj h
                  exact RT _ _ dX10_ofGroup_102
  · replace h := if_e h q4
    refine v_iconst (v := (-1 : Int32)) K dX10_ofGroup_8 (by decide) ?_
    obtain rfl := Option.some.inj h
    exact RT _ _ dX10_ofGroup_9
theorem cM_ofGroup {l : Launch} {D : va_G} {c : Nat → ClassId} {ad : Nat → Nat} {s s' : SS} {x1 : Int32} {x2 : Int32} {r : Int32} (h : M_ofGroup s x1 x2 = some (r, s')) : Ci l D c yX10_ofGroup cX10_ofGroup 3 (some .int) 1 [.ref (ad 0), .int x1, .int x2] (wM ad c s) r (wM ad c s') := Ci.of (by decide) (Nat.le_of_ble_eq_true rfl) (fun X K RT => wM_ofGroup K (r := (r, s')) RT s x1 x2 h)
set_option maxHeartbeats 4000000 in
set_option maxRecDepth 100000 in
theorem wM_offer_101 {ad : Nat → Nat} {X : Cx} {c : Nat → ClassId} (K : Ok X cX10_offer RX10 4 1 c) {r : SS} (RT : ∀ pc ls, decode cX10_offer pc = .ok (.return_, 1) → V X 4 0 0 pc ls [] (wM ad c r)) : ∀ (s : SS), M_offer_101 s = some r → V X 4 0 0 101 [] [] (wM ad c s) := by
  intro s h
  rw [M_offer_101] at h
  obtain rfl := Option.some.inj h
  exact RT _ _ dX10_offer_101
set_option maxHeartbeats 4000000 in
set_option maxRecDepth 100000 in
theorem wM_offer_94 {ad : Nat → Nat} {X : Cx} {c : Nat → ClassId} (K : Ok X cX10_offer RX10 4 1 c) {r : SS} (RT : ∀ pc ls, decode cX10_offer pc = .ok (.return_, 1) → V X 4 0 0 pc ls [] (wM ad c r)) {k60 : Int32 → Int32 → SS → Option SS} (hk60 : ∀ (x1 : Int32) (x3 : Int32) (s : SS), k60 x1 x3 s = some r → V X 4 0 0 60 [(0, .ref (ad 0)), (1, .int x1), (3, .int x3)] [] (wM ad c s)) : ∀ (y1 : Int32) (y2 : Int32) (x1 : Int32) (x3 : Int32) (s : SS), M_offer_94 k60 y1 y2 x1 x3 s = some r → V X 4 0 0 94 [(0, .ref (ad 0)), (1, .int x1), (3, .int x3)] [.int y2, .int y1, .ref (ad 42)] (wM ad c s) := by
  intro y1 y2 x1 x3 s h
  rw [M_offer_94] at h
  obtain ⟨b15, h⟩ := ob_e h
  refine sM_42 K b15 dX10_offer_94 ?_
  refine v_iinc (v := (x3 + (1 : Int32))) K 2 [(0, .ref (ad 0)), (1, .int x1), (3, .int (x3 + (1 : Int32)))] [1, 2, 0] dX10_offer_95 rfl rfl (by decide) rfl ?_
  refine v_goto K 60 dX10_offer_98 (by decide) ?_
  exact hk60 _ _ _ h
set_option maxHeartbeats 4000000 in
set_option maxRecDepth 100000 in
theorem wM_offer_60 {ad : Nat → Nat} {X : Cx} {c : Nat → ClassId} (K : Ok X cX10_offer RX10 4 1 c) {r : SS} (RT : ∀ pc ls, decode cX10_offer pc = .ok (.return_, 1) → V X 4 0 0 pc ls [] (wM ad c r)) : ∀ (n : Nat) (x1 : Int32) (x3 : Int32) (s : SS), M_offer_60 n x1 x3 s = some r → V X 4 0 0 60 [(0, .ref (ad 0)), (1, .int x1), (3, .int x3)] [] (wM ad c s) := by
  intro n
  induction n with
  | zero => intro _ _ _ h; cases h
  | succ n ih =>
    intro x1 x3 s h
    rw [M_offer_60] at h
    refine v_iload_n K 2 rfl dX10_offer_60 ?_
    refine v_iload_n K 1 rfl dX10_offer_61 ?_
    refine v_icmp_ge K 101 dX10_offer_62 (by decide) (fun q11 => ?_) (fun q11 => ?_)
    · replace h := if_e h q11
      refine v_drop [] [] rfl ?_
      exact wM_offer_101 K RT _ h
    · replace h := if_n h q11
      refine v_aload_n K 0 rfl dX10_offer_65 ?_
      refine gM_42 K dX10_offer_66 ?_
      refine v_iload_n K 2 rfl dX10_offer_69 ?_
      refine v_aload_n K 0 rfl dX10_offer_70 ?_
      refine gM_41 K dX10_offer_71 ?_
      refine v_iload_n K 2 rfl dX10_offer_74 ?_
      obtain ⟨b12, h⟩ := ob_e h
      refine lM_41 (v := (s 41 x3.toNatClampNeg)) K b12 dX10_offer_75 rfl ?_
      refine v_aload_n K 0 rfl dX10_offer_76 ?_
      refine gM_5 (v := (s 0 5)) K dX10_offer_77 rfl ?_
      refine v_icmp_ne K 88 dX10_offer_80 (by decide) (fun q13 => ?_) (fun q13 => ?_)
      · replace h := if_n h q13
        refine v_aload_n K 0 rfl dX10_offer_88 ?_
        refine gM_41 K dX10_offer_89 ?_
        refine v_iload_n K 2 rfl dX10_offer_92 ?_
        obtain ⟨b14, h⟩ := ob_e h
        refine lM_41 (v := (s 41 x3.toNatClampNeg)) K b14 dX10_offer_93 rfl ?_
        exact wM_offer_94 K RT (fun a0 a1 a2 e => ih a0 a1 a2 e) _ _ _ _ _ h
      · replace h := if_e h q13
        refine v_bipush (v := (-9 : Int32)) K dX10_offer_83 (by decide) ?_
        refine v_goto K 94 dX10_offer_85 (by decide) ?_
        exact wM_offer_94 K RT (fun a0 a1 a2 e => ih a0 a1 a2 e) _ _ _ _ _ h
set_option maxHeartbeats 4000000 in
set_option maxRecDepth 100000 in
theorem wM_offer_37 {ad : Nat → Nat} {X : Cx} {c : Nat → ClassId} (K : Ok X cX10_offer RX10 4 1 c) {r : SS} (RT : ∀ pc ls, decode cX10_offer pc = .ok (.return_, 1) → V X 4 0 0 pc ls [] (wM ad c r)) {k4 : Int32 → Int32 → Int32 → SS → Option SS} (hk4 : ∀ (x1 : Int32) (x2 : Int32) (x3 : Int32) (s : SS), k4 x1 x2 x3 s = some r → V X 4 0 0 4 [(0, .ref (ad 0)), (1, .int x1), (2, .int x2), (3, .int x3)] [] (wM ad c s)) : ∀ (y0 : Int32) (y1 : Int32) (x1 : Int32) (x3 : Int32) (s : SS), M_offer_37 k4 y0 y1 x1 x3 s = some r → V X 4 0 0 37 [(0, .ref (ad 0)), (1, .int x1), (3, .int x3)] [.int y1, .int y0] (wM ad c s) := by
  intro y0 y1 x1 x3 s h
  rw [M_offer_37] at h
  refine v_iadd K dX10_offer_37 ?_
  refine v_istore_n K [(0, .ref (ad 0)), (1, .int x1), (2, .int (y0 + y1)), (3, .int x3)] [1, 2, 0, 3] dX10_offer_38 rfl (by decide) rfl ?_
  refine v_iinc (v := (x3 + (1 : Int32))) K 3 [(0, .ref (ad 0)), (1, .int x1), (2, .int (y0 + y1)), (3, .int (x3 + (1 : Int32)))] [1, 2, 3, 0] dX10_offer_39 rfl rfl (by decide) rfl ?_
  refine v_goto K 4 dX10_offer_42 (by decide) ?_
  exact hk4 _ _ _ _ h
set_option maxHeartbeats 4000000 in
set_option maxRecDepth 100000 in
theorem wM_offer_4 {ad : Nat → Nat} {X : Cx} {c : Nat → ClassId} (K : Ok X cX10_offer RX10 4 1 c) {r : SS} (RT : ∀ pc ls, decode cX10_offer pc = .ok (.return_, 1) → V X 4 0 0 pc ls [] (wM ad c r)) : ∀ (n : Nat) (x1 : Int32) (x2 : Int32) (x3 : Int32) (s : SS), M_offer_4 n x1 x2 x3 s = some r → V X 4 0 0 4 [(0, .ref (ad 0)), (1, .int x1), (2, .int x2), (3, .int x3)] [] (wM ad c s) := by
  intro n
  induction n with
  | zero => intro _ _ _ _ h; cases h
  | succ n ih =>
    intro x1 x2 x3 s h
    rw [M_offer_4] at h
    refine v_iload_n K 3 rfl dX10_offer_4 ?_
    refine v_iload_n K 1 rfl dX10_offer_5 ?_
    refine v_icmp_ge K 45 dX10_offer_6 (by decide) (fun q1 => ?_) (fun q1 => ?_)
    · replace h := if_e h q1
      refine v_iload_n K 2 rfl dX10_offer_45 ?_
      refine v_aload_n K 0 rfl dX10_offer_46 ?_
      refine gM_43 (v := (s 0 43)) K dX10_offer_47 rfl ?_
      refine v_icmp_le K 101 dX10_offer_50 (by decide) (fun q2 => ?_) (fun q2 => ?_)
      · replace h := if_e h q2
        refine v_drop [] [] rfl ?_
        exact wM_offer_101 K RT _ h
      · replace h := if_n h q2
        refine v_aload_n K 0 rfl dX10_offer_53 ?_
        refine v_iload_n K 2 rfl dX10_offer_54 ?_
        refine pM_43 K dX10_offer_55 ?_
        refine v_iconst (v := (0 : Int32)) K dX10_offer_58 (by decide) ?_
        refine v_istore_n K [(0, .ref (ad 0)), (1, .int x1), (3, .int (0 : Int32))] [1, 2, 0] dX10_offer_59 rfl (by decide) rfl ?_
        exact wM_offer_60 K RT fuel _ _ _ h
    · replace h := if_n h q1
      refine v_iload_n K 2 rfl dX10_offer_9 ?_
      refine v_aload_n K 0 rfl dX10_offer_10 ?_
      refine gM_41 K dX10_offer_11 ?_
      refine v_iload_n K 3 rfl dX10_offer_14 ?_
      obtain ⟨b3, h⟩ := ob_e h
      refine lM_41 (v := (s 41 x3.toNatClampNeg)) K b3 dX10_offer_15 rfl ?_
      refine v_aload_n K 0 rfl dX10_offer_16 ?_
      refine gM_5 (v := (s 0 5)) K dX10_offer_17 rfl ?_
      refine v_icmp_ne K 27 dX10_offer_20 (by decide) (fun q4 => ?_) (fun q4 => ?_)
      · replace h := if_n h q4
        refine v_aload_n K 0 rfl dX10_offer_27 ?_
        refine v_iload_n K 3 rfl dX10_offer_28 ?_
        refine v_aload_n K 0 rfl dX10_offer_29 ?_
        refine v_iload_n K 3 rfl dX10_offer_30 ?_
        obtain ⟨r7, s6, e5, h⟩ := bnd_e h
        refine vM_calli K [.int x3] [.int x3, .ref (ad 0), .int x2] cw_RX10_159 (cM_stays e5) rfl rfl (Nat.le_of_ble_eq_true rfl) (by decide) dX10_offer_31 ?_
        obtain ⟨r10, s9, e8, h⟩ := bnd_e h
        refine vM_calli K [.int x3, .int r7] [.int x2] cw_RX10_204 (cM_coinOf e8) rfl rfl (Nat.le_of_ble_eq_true rfl) (by decide) dX10_offer_34 ?_
        refine v_drop [(0, .ref (ad 0)), (1, .int x1), (3, .int x3)] [0, 1, 3] rfl ?_
        exact wM_offer_37 K RT (fun a0 a1 a2 a3 e => ih a0 a1 a2 a3 e) _ _ _ _ _ h
      · replace h := if_e h q4
        refine v_iconst (v := (0 : Int32)) K dX10_offer_23 (by decide) ?_
        refine v_goto K 37 dX10_offer_24 (by decide) ?_
        refine v_drop [(0, .ref (ad 0)), (1, .int x1), (3, .int x3)] [0, 1, 3] rfl ?_
        exact wM_offer_37 K RT (fun a0 a1 a2 a3 e => ih a0 a1 a2 a3 e) _ _ _ _ _ h
set_option maxHeartbeats 4000000 in
set_option maxRecDepth 100000 in
theorem wM_offer {ad : Nat → Nat} {X : Cx} {c : Nat → ClassId} (K : Ok X cX10_offer RX10 4 1 c) {r : SS} (RT : ∀ pc ls, decode cX10_offer pc = .ok (.return_, 1) → V X 4 0 0 pc ls [] (wM ad c r)) (s : SS) (x1 : Int32) (h : M_offer s x1 = some r) : V X 4 0 0 0 [(0, .ref (ad 0)), (1, .int x1)] [] (wM ad c s) := by
  rw [M_offer] at h
  refine v_iconst (v := (0 : Int32)) K dX10_offer_0 (by decide) ?_
  refine v_istore_n K [(0, .ref (ad 0)), (1, .int x1), (2, .int (0 : Int32))] [1, 2, 0] dX10_offer_1 rfl (by decide) rfl ?_
  refine v_iconst (v := (0 : Int32)) K dX10_offer_2 (by decide) ?_
  refine v_istore_n K [(0, .ref (ad 0)), (1, .int x1), (2, .int (0 : Int32)), (3, .int (0 : Int32))] [1, 2, 3, 0] dX10_offer_3 rfl (by decide) rfl ?_
  exact wM_offer_4 K RT fuel _ _ _ _ h
theorem cM_offer {l : Launch} {D : va_G} {c : Nat → ClassId} {ad : Nat → Nat} {s s' : SS} {x1 : Int32} (h : M_offer s x1 = some s') : Cv l D c yX10_offer cX10_offer 4 none 1 [.ref (ad 0), .int x1] (wM ad c s) (wM ad c s') := Cv.of (by decide) (Nat.le_of_ble_eq_true rfl) (fun X K RT => wM_offer K RT s x1 h)
set_option maxHeartbeats 4000000 in
set_option maxRecDepth 100000 in
theorem wM_patience {ad : Nat → Nat} {X : Cx} {c : Nat → ClassId} (K : Ok X cX10_patience RX10 3 1 c) {r : Int32 × SS} (RT : ∀ pc ls, decode cX10_patience pc = .ok (.ireturn, 1) → V X 3 0 0 pc ls [.int r.1] (wM ad c r.2)) (s : SS) (x1 : Int32) (h : M_patience s x1 = some r) : V X 3 0 0 0 [(0, .ref (ad 0)), (1, .int x1)] [] (wM ad c s) := by
  rw [M_patience] at h
  refine v_iload_n K 1 rfl dX10_patience_0 ?_
  refine v_iconst (v := (0 : Int32)) K dX10_patience_1 (by decide) ?_
  refine v_bipush (v := (30 : Int32)) K dX10_patience_2 (by decide) ?_
  obtain ⟨r2, e1, h⟩ := bnd0_e h
  refine v_callsi K [.int x1, .int (0 : Int32), .int (30 : Int32)] [] cw_RX10_104 (cM_within e1) rfl rfl (Nat.le_of_ble_eq_true rfl) (by decide) z0 dX10_patience_4 ?_
  refine v_if_ne K 13 dX10_patience_7 (by decide) (fun q3 => ?_) (fun q3 => ?_)
  · replace h := if_n h q3
    refine v_aload_n K 0 rfl dX10_patience_13 ?_
    obtain ⟨r6, s5, e4, h⟩ := bnd_e h
    refine vM_calli K [] [] cw_RX10_152 (cM_isCafe e4) rfl rfl (Nat.le_of_ble_eq_true rfl) (by decide) dX10_patience_14 ?_
    refine v_if_ne K 23 dX10_patience_17 (by decide) (fun q7 => ?_) (fun q7 => ?_)
    · replace h := if_n h q7
      refine v_aload_n K 0 rfl dX10_patience_23 ?_
      refine gM_9 (v := (s5 0 9)) K dX10_patience_24 rfl ?_
      refine v_istore_n K [(0, .ref (ad 0)), (1, .int x1), (2, .int (s5 0 9))] [1, 2, 0] dX10_patience_27 rfl (by decide) rfl ?_
      refine v_aload_n K 0 rfl dX10_patience_28 ?_
      refine v_iload_n K 1 rfl dX10_patience_29 ?_
      refine pM_9 K dX10_patience_30 ?_
      refine v_iload_n K 2 rfl dX10_patience_33 ?_
      obtain rfl := Option.some.inj h
      exact RT _ _ dX10_patience_34
    · replace h := if_e h q7
      refine v_bipush (v := (-3 : Int32)) K dX10_patience_20 (by decide) ?_
      obtain rfl := Option.some.inj h
      exact RT _ _ dX10_patience_22
  · replace h := if_e h q3
    refine v_bipush (v := (-2 : Int32)) K dX10_patience_10 (by decide) ?_
    obtain rfl := Option.some.inj h
    exact RT _ _ dX10_patience_12
theorem cM_patience {l : Launch} {D : va_G} {c : Nat → ClassId} {ad : Nat → Nat} {s s' : SS} {x1 : Int32} {r : Int32} (h : M_patience s x1 = some (r, s')) : Ci l D c yX10_patience cX10_patience 3 (some .int) 1 [.ref (ad 0), .int x1] (wM ad c s) r (wM ad c s') := Ci.of (by decide) (Nat.le_of_ble_eq_true rfl) (fun X K RT => wM_patience K (r := (r, s')) RT s x1 h)
set_option maxHeartbeats 4000000 in
set_option maxRecDepth 100000 in
theorem wM_rain_20 {ad : Nat → Nat} {X : Cx} {c : Nat → ClassId} (K : Ok X cX10_rain RX10 2 1 c) {r : Int32 × SS} (RT : ∀ pc ls, decode cX10_rain pc = .ok (.ireturn, 1) → V X 2 0 0 pc ls [.int r.1] (wM ad c r.2)) : ∀ (x1 : Int32) (s : SS), M_rain_20 x1 s = some r → V X 2 0 0 20 [(0, .ref (ad 0)), (1, .int x1)] [] (wM ad c s) := by
  intro x1 s h
  rw [M_rain_20] at h
  refine v_aload_n K 0 rfl dX10_rain_20 ?_
  obtain ⟨r7, s6, e5, h⟩ := bnd_e h
  refine vM_calli K [] [] cw_RX10_152 (cM_isCafe e5) rfl rfl (Nat.le_of_ble_eq_true rfl) (by decide) dX10_rain_21 ?_
  refine v_if_ne K 30 dX10_rain_24 (by decide) (fun q8 => ?_) (fun q8 => ?_)
  · replace h := if_n h q8
    refine v_aload_n K 0 rfl dX10_rain_30 ?_
    refine v_iload_n K 1 rfl dX10_rain_31 ?_
    refine pM_11 K dX10_rain_32 ?_
    refine v_iconst (v := (1 : Int32)) K dX10_rain_35 (by decide) ?_
    obtain rfl := Option.some.inj h
    exact RT _ _ dX10_rain_36
  · replace h := if_e h q8
    refine v_bipush (v := (-3 : Int32)) K dX10_rain_27 (by decide) ?_
    obtain rfl := Option.some.inj h
    exact RT _ _ dX10_rain_29
set_option maxHeartbeats 4000000 in
set_option maxRecDepth 100000 in
theorem wM_rain {ad : Nat → Nat} {X : Cx} {c : Nat → ClassId} (K : Ok X cX10_rain RX10 2 1 c) {r : Int32 × SS} (RT : ∀ pc ls, decode cX10_rain pc = .ok (.ireturn, 1) → V X 2 0 0 pc ls [.int r.1] (wM ad c r.2)) (s : SS) (x1 : Int32) (h : M_rain s x1 = some r) : V X 2 0 0 0 [(0, .ref (ad 0)), (1, .int x1)] [] (wM ad c s) := by
  rw [M_rain] at h
  refine v_iload_n K 1 rfl dX10_rain_0 ?_
  refine v_bipush (v := (-9 : Int32)) K dX10_rain_1 (by decide) ?_
  refine v_icmp_eq K 20 dX10_rain_3 (by decide) (fun q1 => ?_) (fun q1 => ?_)
  · replace h := if_e h q1
    exact wM_rain_20 K RT _ _ h
  · replace h := if_n h q1
    refine v_iload_n K 1 rfl dX10_rain_6 ?_
    refine v_iconst (v := (0 : Int32)) K dX10_rain_7 (by decide) ?_
    refine v_sipush (v := (399 : Int32)) K dX10_rain_8 (by decide) ?_
    obtain ⟨r3, e2, h⟩ := bnd0_e h
    refine v_callsi K [.int x1, .int (0 : Int32), .int (399 : Int32)] [] cw_RX10_104 (cM_within e2) rfl rfl (Nat.le_of_ble_eq_true rfl) (by decide) z0 dX10_rain_11 ?_
    refine v_if_ne K 20 dX10_rain_14 (by decide) (fun q4 => ?_) (fun q4 => ?_)
    · replace h := if_n h q4
      exact wM_rain_20 K RT _ _ h
    · replace h := if_e h q4
      refine v_bipush (v := (-2 : Int32)) K dX10_rain_17 (by decide) ?_
      obtain rfl := Option.some.inj h
      exact RT _ _ dX10_rain_19
theorem cM_rain {l : Launch} {D : va_G} {c : Nat → ClassId} {ad : Nat → Nat} {s s' : SS} {x1 : Int32} {r : Int32} (h : M_rain s x1 = some (r, s')) : Ci l D c yX10_rain cX10_rain 2 (some .int) 1 [.ref (ad 0), .int x1] (wM ad c s) r (wM ad c s') := Ci.of (by decide) (Nat.le_of_ble_eq_true rfl) (fun X K RT => wM_rain K (r := (r, s')) RT s x1 h)
set_option maxHeartbeats 4000000 in
set_option maxRecDepth 100000 in
theorem wM_readCafe_166 {ad : Nat → Nat} {X : Cx} {c : Nat → ClassId} (K : Ok X cX10_readCafe RX10 2 1 c) {r : Int32 × SS} (RT : nb r.1 = true → ∀ pc ls, decode cX10_readCafe pc = .ok (.ireturn, 1) → V X 2 0 0 pc ls [.int r.1] (wM ad c r.2)) : ∀ (s : SS), M_readCafe_166 s = some r → V X 2 0 0 166 [] [] (wM ad c s) := by
  intro s h
  rw [M_readCafe_166] at h
  refine v_iconst (v := (0 : Int32)) K dX10_readCafe_166 (by decide) ?_
  obtain ⟨b34, h⟩ := ob_e h
  obtain rfl := Option.some.inj h
  exact RT b34 _ _ dX10_readCafe_167
set_option maxHeartbeats 4000000 in
set_option maxRecDepth 100000 in
theorem wM_readCafe_129 {ad : Nat → Nat} {X : Cx} {c : Nat → ClassId} (K : Ok X cX10_readCafe RX10 2 1 c) {r : Int32 × SS} (RT : nb r.1 = true → ∀ pc ls, decode cX10_readCafe pc = .ok (.ireturn, 1) → V X 2 0 0 pc ls [.int r.1] (wM ad c r.2)) {k5 : Int32 → SS → Option (Int32 × SS)} (hk5 : ∀ (x1 : Int32) (s : SS), k5 x1 s = some r → V X 2 0 0 5 [(0, .ref (ad 0)), (1, .int x1)] [] (wM ad c s)) : ∀ (x1 : Int32) (s : SS), M_readCafe_129 k5 x1 s = some r → V X 2 0 0 129 [(0, .ref (ad 0)), (1, .int x1)] [] (wM ad c s) := by
  intro x1 s h
  rw [M_readCafe_129] at h
  refine v_aload_n K 0 rfl dX10_readCafe_129 ?_
  refine v_dup K dX10_readCafe_130 rfl ?_
  refine gM_12 (v := (s 0 12)) K dX10_readCafe_131 rfl ?_
  refine v_iconst (v := (1 : Int32)) K dX10_readCafe_134 (by decide) ?_
  refine v_iadd K dX10_readCafe_135 ?_
  refine pM_12 K dX10_readCafe_136 ?_
  refine v_aload_n K 0 rfl dX10_readCafe_139 ?_
  refine gM_12 (v := ((s 0 12) + (1 : Int32))) K dX10_readCafe_140 rfl ?_
  refine v_iload_n K 1 rfl dX10_readCafe_143 ?_
  refine v_icmp_ge K 166 dX10_readCafe_144 (by decide) (fun q27 => ?_) (fun q27 => ?_)
  · replace h := if_e h q27
    refine v_drop [] [] rfl ?_
    exact wM_readCafe_166 K RT _ h
  · replace h := if_n h q27
    refine v_aload_n K 0 rfl dX10_readCafe_147 ?_
    refine gM_4 K dX10_readCafe_148 ?_
    refine v_aload_n K 0 rfl dX10_readCafe_151 ?_
    refine gM_12 (v := ((s 0 12) + (1 : Int32))) K dX10_readCafe_152 rfl ?_
    obtain ⟨b28, h⟩ := ob_e h
    refine lM_4 (v := (s 4 ((s 0 12) + (1 : Int32)).toNatClampNeg)) K b28 dX10_readCafe_155 rfl ?_
    refine v_bipush (v := (49 : Int32)) K dX10_readCafe_156 (by decide) ?_
    refine v_bipush (v := (54 : Int32)) K dX10_readCafe_158 (by decide) ?_
    obtain ⟨r30, e29, h⟩ := bnd0_e h
    refine v_callsi K [.int (s 4 ((s 0 12) + (1 : Int32)).toNatClampNeg), .int (49 : Int32), .int (54 : Int32)] [] cw_RX10_104 (cM_within e29) rfl rfl (Nat.le_of_ble_eq_true rfl) (by decide) z0 dX10_readCafe_160 ?_
    refine v_if_ne K 168 dX10_readCafe_163 (by decide) (fun q31 => ?_) (fun q31 => ?_)
    · replace h := if_n h q31
      refine v_aload_n K 0 rfl dX10_readCafe_168 ?_
      refine gM_15 K dX10_readCafe_169 ?_
      refine v_aload_n K 0 rfl dX10_readCafe_172 ?_
      refine gM_13 (v := (s 0 13)) K dX10_readCafe_173 rfl ?_
      refine v_aload_n K 0 rfl dX10_readCafe_176 ?_
      refine gM_4 K dX10_readCafe_177 ?_
      refine v_aload_n K 0 rfl dX10_readCafe_180 ?_
      refine gM_12 (v := ((s 0 12) + (1 : Int32))) K dX10_readCafe_181 rfl ?_
      obtain ⟨b32, h⟩ := ob_e h
      refine lM_4 (v := (s 4 ((s 0 12) + (1 : Int32)).toNatClampNeg)) K b32 dX10_readCafe_184 rfl ?_
      refine v_bipush (v := (48 : Int32)) K dX10_readCafe_185 (by decide) ?_
      refine v_isub K dX10_readCafe_187 ?_
      obtain ⟨b33, h⟩ := ob_e h
      refine sM_15 K b33 dX10_readCafe_188 ?_
      refine v_aload_n K 0 rfl dX10_readCafe_189 ?_
      refine v_dup K dX10_readCafe_190 rfl ?_
      refine gM_13 (v := (s 0 13)) K dX10_readCafe_191 rfl ?_
      refine v_iconst (v := (1 : Int32)) K dX10_readCafe_194 (by decide) ?_
      refine v_iadd K dX10_readCafe_195 ?_
      refine pM_13 K dX10_readCafe_196 ?_
      refine v_aload_n K 0 rfl dX10_readCafe_199 ?_
      refine v_dup K dX10_readCafe_200 rfl ?_
      refine gM_12 (v := ((s 0 12) + (1 : Int32))) K dX10_readCafe_201 rfl ?_
      refine v_iconst (v := (1 : Int32)) K dX10_readCafe_204 (by decide) ?_
      refine v_iadd K dX10_readCafe_205 ?_
      refine pM_12 K dX10_readCafe_206 ?_
      refine v_goto K 5 dX10_readCafe_209 (by decide) ?_
      exact hk5 _ _ h
    · replace h := if_e h q31
      refine v_drop [] [] rfl ?_
      exact wM_readCafe_166 K RT _ h
set_option maxHeartbeats 4000000 in
set_option maxRecDepth 100000 in
theorem wM_readCafe_58 {ad : Nat → Nat} {X : Cx} {c : Nat → ClassId} (K : Ok X cX10_readCafe RX10 2 1 c) {r : Int32 × SS} (RT : nb r.1 = true → ∀ pc ls, decode cX10_readCafe pc = .ok (.ireturn, 1) → V X 2 0 0 pc ls [.int r.1] (wM ad c r.2)) {k5 : Int32 → SS → Option (Int32 × SS)} (hk5 : ∀ (x1 : Int32) (s : SS), k5 x1 s = some r → V X 2 0 0 5 [(0, .ref (ad 0)), (1, .int x1)] [] (wM ad c s)) : ∀ (x1 : Int32) (s : SS), M_readCafe_58 k5 x1 s = some r → V X 2 0 0 58 [(0, .ref (ad 0)), (1, .int x1)] [] (wM ad c s) := by
  intro x1 s h
  rw [M_readCafe_58] at h
  refine v_aload_n K 0 rfl dX10_readCafe_58 ?_
  refine v_bipush (v := (115 : Int32)) K dX10_readCafe_59 (by decide) ?_
  refine v_iload_n K 1 rfl dX10_readCafe_61 ?_
  obtain ⟨r13, s12, e11, h⟩ := bnd_e h
  refine vM_calli K [.int (115 : Int32), .int x1] [] cw_RX10_148 (cM_isCode e11) rfl rfl (Nat.le_of_ble_eq_true rfl) (by decide) dX10_readCafe_62 ?_
  refine v_if_eq K 81 dX10_readCafe_65 (by decide) (fun q14 => ?_) (fun q14 => ?_)
  · replace h := if_e h q14
    refine v_aload_n K 0 rfl dX10_readCafe_81 ?_
    refine v_bipush (v := (119 : Int32)) K dX10_readCafe_82 (by decide) ?_
    refine v_iload_n K 1 rfl dX10_readCafe_84 ?_
    obtain ⟨r17, s16, e15, h⟩ := bnd_e h
    refine vM_calli K [.int (119 : Int32), .int x1] [] cw_RX10_148 (cM_isCode e15) rfl rfl (Nat.le_of_ble_eq_true rfl) (by decide) dX10_readCafe_85 ?_
    refine v_if_eq K 104 dX10_readCafe_88 (by decide) (fun q18 => ?_) (fun q18 => ?_)
    · replace h := if_e h q18
      refine v_aload_n K 0 rfl dX10_readCafe_104 ?_
      refine v_bipush (v := (105 : Int32)) K dX10_readCafe_105 (by decide) ?_
      refine v_iload_n K 1 rfl dX10_readCafe_107 ?_
      obtain ⟨r21, s20, e19, h⟩ := bnd_e h
      refine vM_calli K [.int (105 : Int32), .int x1] [] cw_RX10_148 (cM_isCode e19) rfl rfl (Nat.le_of_ble_eq_true rfl) (by decide) dX10_readCafe_108 ?_
      refine v_if_eq K 127 dX10_readCafe_111 (by decide) (fun q22 => ?_) (fun q22 => ?_)
      · replace h := if_e h q22
        refine v_iconst (v := (0 : Int32)) K dX10_readCafe_127 (by decide) ?_
        obtain ⟨b23, h⟩ := ob_e h
        obtain rfl := Option.some.inj h
        exact RT b23 _ _ dX10_readCafe_128
      · replace h := if_n h q22
        refine v_aload_n K 0 rfl dX10_readCafe_114 ?_
        refine gM_14 K dX10_readCafe_115 ?_
        refine v_aload_n K 0 rfl dX10_readCafe_118 ?_
        refine gM_13 (v := (s20 0 13)) K dX10_readCafe_119 rfl ?_
        refine v_iconst (v := (2 : Int32)) K dX10_readCafe_122 (by decide) ?_
        obtain ⟨b24, h⟩ := ob_e h
        refine sM_14 K b24 dX10_readCafe_123 ?_
        refine v_goto K 129 dX10_readCafe_124 (by decide) ?_
        exact wM_readCafe_129 K RT hk5 _ _ h
    · replace h := if_n h q18
      refine v_aload_n K 0 rfl dX10_readCafe_91 ?_
      refine gM_14 K dX10_readCafe_92 ?_
      refine v_aload_n K 0 rfl dX10_readCafe_95 ?_
      refine gM_13 (v := (s16 0 13)) K dX10_readCafe_96 rfl ?_
      refine v_iconst (v := (1 : Int32)) K dX10_readCafe_99 (by decide) ?_
      obtain ⟨b25, h⟩ := ob_e h
      refine sM_14 K b25 dX10_readCafe_100 ?_
      refine v_goto K 129 dX10_readCafe_101 (by decide) ?_
      exact wM_readCafe_129 K RT hk5 _ _ h
  · replace h := if_n h q14
    refine v_aload_n K 0 rfl dX10_readCafe_68 ?_
    refine gM_14 K dX10_readCafe_69 ?_
    refine v_aload_n K 0 rfl dX10_readCafe_72 ?_
    refine gM_13 (v := (s12 0 13)) K dX10_readCafe_73 rfl ?_
    refine v_iconst (v := (0 : Int32)) K dX10_readCafe_76 (by decide) ?_
    obtain ⟨b26, h⟩ := ob_e h
    refine sM_14 K b26 dX10_readCafe_77 ?_
    refine v_goto K 129 dX10_readCafe_78 (by decide) ?_
    exact wM_readCafe_129 K RT hk5 _ _ h
set_option maxHeartbeats 4000000 in
set_option maxRecDepth 100000 in
theorem wM_readCafe_46 {ad : Nat → Nat} {X : Cx} {c : Nat → ClassId} (K : Ok X cX10_readCafe RX10 2 1 c) {r : Int32 × SS} (RT : nb r.1 = true → ∀ pc ls, decode cX10_readCafe pc = .ok (.ireturn, 1) → V X 2 0 0 pc ls [.int r.1] (wM ad c r.2)) : ∀ (s : SS), M_readCafe_46 s = some r → V X 2 0 0 46 [] [] (wM ad c s) := by
  intro s h
  rw [M_readCafe_46] at h
  refine v_iconst (v := (0 : Int32)) K dX10_readCafe_46 (by decide) ?_
  obtain ⟨b10, h⟩ := ob_e h
  obtain rfl := Option.some.inj h
  exact RT b10 _ _ dX10_readCafe_47
set_option maxHeartbeats 4000000 in
set_option maxRecDepth 100000 in
theorem wM_readCafe_20 {ad : Nat → Nat} {X : Cx} {c : Nat → ClassId} (K : Ok X cX10_readCafe RX10 2 1 c) {r : Int32 × SS} (RT : nb r.1 = true → ∀ pc ls, decode cX10_readCafe pc = .ok (.ireturn, 1) → V X 2 0 0 pc ls [.int r.1] (wM ad c r.2)) {k5 : Int32 → SS → Option (Int32 × SS)} (hk5 : ∀ (x1 : Int32) (s : SS), k5 x1 s = some r → V X 2 0 0 5 [(0, .ref (ad 0)), (1, .int x1)] [] (wM ad c s)) : ∀ (x1 : Int32) (s : SS), M_readCafe_20 k5 x1 s = some r → V X 2 0 0 20 [(0, .ref (ad 0)), (1, .int x1)] [] (wM ad c s) := by
  intro x1 s h
  rw [M_readCafe_20] at h
  refine v_aload_n K 0 rfl dX10_readCafe_20 ?_
  refine gM_13 (v := (s 0 13)) K dX10_readCafe_21 rfl ?_
  refine v_if_le K 58 dX10_readCafe_24 (by decide) (fun q4 => ?_) (fun q4 => ?_)
  · replace h := if_e h q4
    exact wM_readCafe_58 K RT hk5 _ _ h
  · replace h := if_n h q4
    refine v_aload_n K 0 rfl dX10_readCafe_27 ?_
    refine gM_13 (v := (s 0 13)) K dX10_readCafe_28 rfl ?_
    refine v_bipush (v := (6 : Int32)) K dX10_readCafe_31 (by decide) ?_
    refine v_icmp_eq K 46 dX10_readCafe_33 (by decide) (fun q5 => ?_) (fun q5 => ?_)
    · replace h := if_e h q5
      refine v_drop [] [] rfl ?_
      exact wM_readCafe_46 K RT _ h
    · replace h := if_n h q5
      refine v_aload_n K 0 rfl dX10_readCafe_36 ?_
      refine v_bipush (v := (59 : Int32)) K dX10_readCafe_37 (by decide) ?_
      refine v_iload_n K 1 rfl dX10_readCafe_39 ?_
      obtain ⟨r8, s7, e6, h⟩ := bnd_e h
      refine vM_calli K [.int (59 : Int32), .int x1] [] cw_RX10_148 (cM_isCode e6) rfl rfl (Nat.le_of_ble_eq_true rfl) (by decide) dX10_readCafe_40 ?_
      refine v_if_ne K 48 dX10_readCafe_43 (by decide) (fun q9 => ?_) (fun q9 => ?_)
      · replace h := if_n h q9
        refine v_aload_n K 0 rfl dX10_readCafe_48 ?_
        refine v_dup K dX10_readCafe_49 rfl ?_
        refine gM_12 (v := (s7 0 12)) K dX10_readCafe_50 rfl ?_
        refine v_iconst (v := (1 : Int32)) K dX10_readCafe_53 (by decide) ?_
        refine v_iadd K dX10_readCafe_54 ?_
        refine pM_12 K dX10_readCafe_55 ?_
        exact wM_readCafe_58 K RT hk5 _ _ h
      · replace h := if_e h q9
        refine v_drop [] [] rfl ?_
        exact wM_readCafe_46 K RT _ h
set_option maxHeartbeats 4000000 in
set_option maxRecDepth 100000 in
theorem wM_readCafe_5 {ad : Nat → Nat} {X : Cx} {c : Nat → ClassId} (K : Ok X cX10_readCafe RX10 2 1 c) {r : Int32 × SS} (RT : nb r.1 = true → ∀ pc ls, decode cX10_readCafe pc = .ok (.ireturn, 1) → V X 2 0 0 pc ls [.int r.1] (wM ad c r.2)) : ∀ (n : Nat) (x1 : Int32) (s : SS), M_readCafe_5 n x1 s = some r → V X 2 0 0 5 [(0, .ref (ad 0)), (1, .int x1)] [] (wM ad c s) := by
  intro n
  induction n with
  | zero => intro _ _ h; cases h
  | succ n ih =>
    intro x1 s h
    rw [M_readCafe_5] at h
    refine v_aload_n K 0 rfl dX10_readCafe_5 ?_
    refine gM_13 (v := (s 0 13)) K dX10_readCafe_6 rfl ?_
    refine v_if_eq K 20 dX10_readCafe_9 (by decide) (fun q1 => ?_) (fun q1 => ?_)
    · replace h := if_e h q1
      exact wM_readCafe_20 K RT (fun a0 a1 e => ih a0 a1 e) _ _ h
    · replace h := if_n h q1
      refine v_aload_n K 0 rfl dX10_readCafe_12 ?_
      refine gM_12 (v := (s 0 12)) K dX10_readCafe_13 rfl ?_
      refine v_iload_n K 1 rfl dX10_readCafe_16 ?_
      refine v_icmp_ge K 212 dX10_readCafe_17 (by decide) (fun q2 => ?_) (fun q2 => ?_)
      · replace h := if_e h q2
        refine v_iconst (v := (1 : Int32)) K dX10_readCafe_212 (by decide) ?_
        obtain ⟨b3, h⟩ := ob_e h
        obtain rfl := Option.some.inj h
        exact RT b3 _ _ dX10_readCafe_213
      · replace h := if_n h q2
        exact wM_readCafe_20 K RT (fun a0 a1 e => ih a0 a1 e) _ _ h
set_option maxHeartbeats 4000000 in
set_option maxRecDepth 100000 in
theorem wM_readCafe {ad : Nat → Nat} {X : Cx} {c : Nat → ClassId} (K : Ok X cX10_readCafe RX10 2 1 c) {r : Int32 × SS} (RT : nb r.1 = true → ∀ pc ls, decode cX10_readCafe pc = .ok (.ireturn, 1) → V X 2 0 0 pc ls [.int r.1] (wM ad c r.2)) (s : SS) (x1 : Int32) (h : M_readCafe s x1 = some r) : V X 2 0 0 0 [(0, .ref (ad 0)), (1, .int x1)] [] (wM ad c s) := by
  rw [M_readCafe] at h
  refine v_aload_n K 0 rfl dX10_readCafe_0 ?_
  refine v_iconst (v := (0 : Int32)) K dX10_readCafe_1 (by decide) ?_
  refine pM_13 K dX10_readCafe_2 ?_
  exact wM_readCafe_5 K RT fuel _ _ h
theorem cM_readCafe {l : Launch} {D : va_G} {c : Nat → ClassId} {ad : Nat → Nat} {s s' : SS} {x1 : Int32} {r : Int32} (h : M_readCafe s x1 = some (r, s')) : Ci l D c yX10_readCafe cX10_readCafe 2 (some .boolean) 1 [.ref (ad 0), .int x1] (wM ad c s) r (wM ad c s') := Ci.ofZ (by decide) (Nat.le_of_ble_eq_true rfl) (fun X K RT => wM_readCafe K (r := (r, s')) RT s x1 h)
set_option maxHeartbeats 4000000 in
set_option maxRecDepth 100000 in
theorem wM_rule {ad : Nat → Nat} {X : Cx} {c : Nat → ClassId} (K : Ok X cX10_rule RX10 3 1 c) {r : Int32 × SS} (RT : ∀ pc ls, decode cX10_rule pc = .ok (.ireturn, 1) → V X 3 0 0 pc ls [.int r.1] (wM ad c r.2)) (s : SS) (x1 : Int32) (h : M_rule s x1 = some r) : V X 3 0 0 0 [(0, .ref (ad 0)), (1, .int x1)] [] (wM ad c s) := by
  rw [M_rule] at h
  refine v_iload_n K 1 rfl dX10_rule_0 ?_
  refine v_iconst (v := (0 : Int32)) K dX10_rule_1 (by decide) ?_
  refine v_iconst (v := (2 : Int32)) K dX10_rule_2 (by decide) ?_
  obtain ⟨r2, e1, h⟩ := bnd0_e h
  refine v_callsi K [.int x1, .int (0 : Int32), .int (2 : Int32)] [] cw_RX10_104 (cM_within e1) rfl rfl (Nat.le_of_ble_eq_true rfl) (by decide) z0 dX10_rule_3 ?_
  refine v_if_ne K 12 dX10_rule_6 (by decide) (fun q3 => ?_) (fun q3 => ?_)
  · replace h := if_n h q3
    refine v_aload_n K 0 rfl dX10_rule_12 ?_
    obtain ⟨r6, s5, e4, h⟩ := bnd_e h
    refine vM_calli K [] [] cw_RX10_152 (cM_isCafe e4) rfl rfl (Nat.le_of_ble_eq_true rfl) (by decide) dX10_rule_13 ?_
    refine v_if_ne K 22 dX10_rule_16 (by decide) (fun q7 => ?_) (fun q7 => ?_)
    · replace h := if_n h q7
      refine v_aload_n K 0 rfl dX10_rule_22 ?_
      refine gM_8 (v := (s5 0 8)) K dX10_rule_23 rfl ?_
      refine v_istore_n K [(0, .ref (ad 0)), (1, .int x1), (2, .int (s5 0 8))] [1, 2, 0] dX10_rule_26 rfl (by decide) rfl ?_
      refine v_aload_n K 0 rfl dX10_rule_27 ?_
      refine v_iload_n K 1 rfl dX10_rule_28 ?_
      refine pM_8 K dX10_rule_29 ?_
      refine v_iload_n K 2 rfl dX10_rule_32 ?_
      obtain rfl := Option.some.inj h
      exact RT _ _ dX10_rule_33
    · replace h := if_e h q7
      refine v_bipush (v := (-3 : Int32)) K dX10_rule_19 (by decide) ?_
      obtain rfl := Option.some.inj h
      exact RT _ _ dX10_rule_21
  · replace h := if_e h q3
    refine v_bipush (v := (-2 : Int32)) K dX10_rule_9 (by decide) ?_
    obtain rfl := Option.some.inj h
    exact RT _ _ dX10_rule_11
theorem cM_rule {l : Launch} {D : va_G} {c : Nat → ClassId} {ad : Nat → Nat} {s s' : SS} {x1 : Int32} {r : Int32} (h : M_rule s x1 = some (r, s')) : Ci l D c yX10_rule cX10_rule 3 (some .int) 1 [.ref (ad 0), .int x1] (wM ad c s) r (wM ad c s') := Ci.of (by decide) (Nat.le_of_ble_eq_true rfl) (fun X K RT => wM_rule K (r := (r, s')) RT s x1 h)
set_option maxHeartbeats 4000000 in
set_option maxRecDepth 100000 in
theorem wM_serve_45 {ad : Nat → Nat} {X : Cx} {c : Nat → ClassId} (K : Ok X cX10_serve RX10 2 1 c) {r : Int32 × SS} (RT : ∀ pc ls, decode cX10_serve pc = .ok (.ireturn, 1) → V X 2 0 0 pc ls [.int r.1] (wM ad c r.2)) : ∀ (y0 : Int32) (s : SS), M_serve_45 y0 s = some r → V X 2 0 0 45 [] [.int y0] (wM ad c s) := by
  intro y0 s h
  rw [M_serve_45] at h
  obtain rfl := Option.some.inj h
  exact RT _ _ dX10_serve_45
set_option maxHeartbeats 4000000 in
set_option maxRecDepth 100000 in
theorem wM_serve_26 {ad : Nat → Nat} {X : Cx} {c : Nat → ClassId} (K : Ok X cX10_serve RX10 2 1 c) {r : Int32 × SS} (RT : ∀ pc ls, decode cX10_serve pc = .ok (.ireturn, 1) → V X 2 0 0 pc ls [.int r.1] (wM ad c r.2)) : ∀ (y1 : Int32) (x1 : Int32) (s : SS), M_serve_26 y1 x1 s = some r → V X 2 0 0 26 [(0, .ref (ad 0)), (1, .int x1)] [.int y1, .ref (ad 0)] (wM ad c s) := by
  intro y1 x1 s h
  rw [M_serve_26] at h
  obtain ⟨s8, e7, h⟩ := bnd0_e h
  refine vM_callv K [.int y1] [] cw_RX10_291 (cM_begins e7) rfl rfl (Nat.le_of_ble_eq_true rfl) (by decide) dX10_serve_26 ?_
  refine v_aload_n K 0 rfl dX10_serve_29 ?_
  refine gM_17 K dX10_serve_30 ?_
  refine v_iload_n K 1 rfl dX10_serve_33 ?_
  obtain ⟨b9, h⟩ := ob_e h
  refine lM_17 (v := (s8 17 x1.toNatClampNeg)) K b9 dX10_serve_34 rfl ?_
  refine v_iconst (v := (2 : Int32)) K dX10_serve_35 (by decide) ?_
  refine v_icmp_ne K 44 dX10_serve_36 (by decide) (fun q10 => ?_) (fun q10 => ?_)
  · replace h := if_n h q10
    refine v_iload_n K 1 rfl dX10_serve_44 ?_
    refine v_drop [] [] rfl ?_
    exact wM_serve_45 K RT _ _ h
  · replace h := if_e h q10
    refine v_bipush (v := (50 : Int32)) K dX10_serve_39 (by decide) ?_
    refine v_goto K 45 dX10_serve_41 (by decide) ?_
    refine v_drop [] [] rfl ?_
    exact wM_serve_45 K RT _ _ h
set_option maxHeartbeats 4000000 in
set_option maxRecDepth 100000 in
theorem wM_serve {ad : Nat → Nat} {X : Cx} {c : Nat → ClassId} (K : Ok X cX10_serve RX10 2 1 c) {r : Int32 × SS} (RT : ∀ pc ls, decode cX10_serve pc = .ok (.ireturn, 1) → V X 2 0 0 pc ls [.int r.1] (wM ad c r.2)) (s : SS) (x1 : Int32) (h : M_serve s x1 = some r) : V X 2 0 0 0 [(0, .ref (ad 0)), (1, .int x1)] [] (wM ad c s) := by
  rw [M_serve] at h
  refine v_aload_n K 0 rfl dX10_serve_0 ?_
  refine v_iload_n K 1 rfl dX10_serve_1 ?_
  obtain ⟨r3, s2, e1, h⟩ := bnd_e h
  refine vM_calli K [.int x1] [] cw_RX10_156 (cM_isGroup e1) rfl rfl (Nat.le_of_ble_eq_true rfl) (by decide) dX10_serve_2 ?_
  refine v_if_ne K 10 dX10_serve_5 (by decide) (fun q4 => ?_) (fun q4 => ?_)
  · replace h := if_n h q4
    refine v_aload_n K 0 rfl dX10_serve_10 ?_
    refine v_aload_n K 0 rfl dX10_serve_11 ?_
    refine gM_17 K dX10_serve_12 ?_
    refine v_iload_n K 1 rfl dX10_serve_15 ?_
    obtain ⟨b5, h⟩ := ob_e h
    refine lM_17 (v := (s2 17 x1.toNatClampNeg)) K b5 dX10_serve_16 rfl ?_
    refine v_iconst (v := (2 : Int32)) K dX10_serve_17 (by decide) ?_
    refine v_icmp_ne K 25 dX10_serve_18 (by decide) (fun q6 => ?_) (fun q6 => ?_)
    · replace h := if_n h q6
      refine v_iconst (v := (4 : Int32)) K dX10_serve_25 (by decide) ?_
      exact wM_serve_26 K RT _ _ _ h
    · replace h := if_e h q6
      refine v_iconst (v := (5 : Int32)) K dX10_serve_21 (by decide) ?_
      refine v_goto K 26 dX10_serve_22 (by decide) ?_
      exact wM_serve_26 K RT _ _ _ h
  · replace h := if_e h q4
    refine v_iconst (v := (-1 : Int32)) K dX10_serve_8 (by decide) ?_
    obtain rfl := Option.some.inj h
    exact RT _ _ dX10_serve_9
theorem cM_serve {l : Launch} {D : va_G} {c : Nat → ClassId} {ad : Nat → Nat} {s s' : SS} {x1 : Int32} {r : Int32} (h : M_serve s x1 = some (r, s')) : Ci l D c yX10_serve cX10_serve 2 (some .int) 1 [.ref (ad 0), .int x1] (wM ad c s) r (wM ad c s') := Ci.of (by decide) (Nat.le_of_ble_eq_true rfl) (fun X K RT => wM_serve K (r := (r, s')) RT s x1 h)
set_option maxHeartbeats 4000000 in
set_option maxRecDepth 100000 in
theorem wM_smallest_97 {ad : Nat → Nat} {X : Cx} {c : Nat → ClassId} (K : Ok X cX10_smallest RX10 6 1 c) {r : Int32 × SS} (RT : ∀ pc ls, decode cX10_smallest pc = .ok (.ireturn, 1) → V X 6 0 0 pc ls [.int r.1] (wM ad c r.2)) {k6 : Int32 → Int32 → Int32 → Int32 → SS → Option (Int32 × SS)} (hk6 : ∀ (x1 : Int32) (x2 : Int32) (x3 : Int32) (x4 : Int32) (s : SS), k6 x1 x2 x3 x4 s = some r → V X 6 0 0 6 [(0, .ref (ad 0)), (1, .int x1), (2, .int x2), (3, .int x3), (4, .int x4)] [] (wM ad c s)) : ∀ (x1 : Int32) (x2 : Int32) (x3 : Int32) (x4 : Int32) (s : SS), M_smallest_97 k6 x1 x2 x3 x4 s = some r → V X 6 0 0 97 [(0, .ref (ad 0)), (1, .int x1), (2, .int x2), (3, .int x3), (4, .int x4)] [] (wM ad c s) := by
  intro x1 x2 x3 x4 s h
  rw [M_smallest_97] at h
  refine v_iinc (v := (x4 + (1 : Int32))) K 4 [(0, .ref (ad 0)), (1, .int x1), (2, .int x2), (3, .int x3), (4, .int (x4 + (1 : Int32)))] [1, 2, 3, 4, 0] dX10_smallest_97 rfl rfl (by decide) rfl ?_
  refine v_goto K 6 dX10_smallest_100 (by decide) ?_
  exact hk6 _ _ _ _ _ h
set_option maxHeartbeats 4000000 in
set_option maxRecDepth 100000 in
theorem wM_smallest_94 {ad : Nat → Nat} {X : Cx} {c : Nat → ClassId} (K : Ok X cX10_smallest RX10 6 1 c) {r : Int32 × SS} (RT : ∀ pc ls, decode cX10_smallest pc = .ok (.ireturn, 1) → V X 6 0 0 pc ls [.int r.1] (wM ad c r.2)) {k6 : Int32 → Int32 → Int32 → Int32 → SS → Option (Int32 × SS)} (hk6 : ∀ (x1 : Int32) (x2 : Int32) (x3 : Int32) (x4 : Int32) (s : SS), k6 x1 x2 x3 x4 s = some r → V X 6 0 0 6 [(0, .ref (ad 0)), (1, .int x1), (2, .int x2), (3, .int x3), (4, .int x4)] [] (wM ad c s)) : ∀ (x1 : Int32) (x2 : Int32) (x4 : Int32) (s : SS), M_smallest_94 k6 x1 x2 x4 s = some r → V X 6 0 0 94 [(0, .ref (ad 0)), (1, .int x1), (2, .int x2), (4, .int x4)] [] (wM ad c s) := by
  intro x1 x2 x4 s h
  rw [M_smallest_94] at h
  refine v_iload K 3 rfl dX10_smallest_94 ?_
  refine v_istore_n K [(0, .ref (ad 0)), (1, .int x1), (2, .int x2), (3, .int x4), (4, .int x4)] [1, 2, 3, 0, 4] dX10_smallest_96 rfl (by decide) rfl ?_
  exact wM_smallest_97 K RT hk6 _ _ _ _ _ h
set_option maxHeartbeats 4000000 in
set_option maxRecDepth 100000 in
theorem wM_smallest_65 {ad : Nat → Nat} {X : Cx} {c : Nat → ClassId} (K : Ok X cX10_smallest RX10 6 1 c) {r : Int32 × SS} (RT : ∀ pc ls, decode cX10_smallest pc = .ok (.ireturn, 1) → V X 6 0 0 pc ls [.int r.1] (wM ad c r.2)) {k6 : Int32 → Int32 → Int32 → Int32 → SS → Option (Int32 × SS)} (hk6 : ∀ (x1 : Int32) (x2 : Int32) (x3 : Int32) (x4 : Int32) (s : SS), k6 x1 x2 x3 x4 s = some r → V X 6 0 0 6 [(0, .ref (ad 0)), (1, .int x1), (2, .int x2), (3, .int x3), (4, .int x4)] [] (wM ad c s)) : ∀ (y0 : Int32) (x1 : Int32) (x2 : Int32) (x3 : Int32) (x4 : Int32) (s : SS), M_smallest_65 k6 y0 x1 x2 x3 x4 s = some r → V X 6 0 0 65 [(0, .ref (ad 0)), (1, .int x1), (2, .int x2), (3, .int x3), (4, .int x4)] [.int y0] (wM ad c s) := by
  intro y0 x1 x2 x3 x4 s h
  rw [M_smallest_65] at h
  refine v_istore K [(0, .ref (ad 0)), (1, .int x1), (2, .int x2), (3, .int x3), (4, .int x4), (5, .int y0)] [1, 2, 3, 4, 5, 0] dX10_smallest_65 (by decide) rfl ?_
  refine v_iload K 5 rfl dX10_smallest_67 ?_
  refine v_if_eq K 97 dX10_smallest_69 (by decide) (fun q13 => ?_) (fun q13 => ?_)
  · replace h := if_e h q13
    refine v_drop [(0, .ref (ad 0)), (1, .int x1), (2, .int x2), (3, .int x3), (4, .int x4)] [0, 1, 2, 3, 4] rfl ?_
    exact wM_smallest_97 K RT hk6 _ _ _ _ _ h
  · replace h := if_n h q13
    refine v_iload_n K 3 rfl dX10_smallest_72 ?_
    refine v_bipush (v := (-9 : Int32)) K dX10_smallest_73 (by decide) ?_
    refine v_icmp_eq K 94 dX10_smallest_75 (by decide) (fun q14 => ?_) (fun q14 => ?_)
    · replace h := if_e h q14
      refine v_drop [(0, .ref (ad 0)), (1, .int x1), (2, .int x2), (4, .int x4)] [0, 1, 2, 4] rfl ?_
      exact wM_smallest_94 K RT hk6 _ _ _ _ h
    · replace h := if_n h q14
      refine v_aload_n K 0 rfl dX10_smallest_78 ?_
      refine gM_25 K dX10_smallest_79 ?_
      refine v_iload K 4 rfl dX10_smallest_82 ?_
      obtain ⟨b15, h⟩ := ob_e h
      refine lM_25 (v := (s 25 x4.toNatClampNeg)) K b15 dX10_smallest_84 rfl ?_
      refine v_aload_n K 0 rfl dX10_smallest_85 ?_
      refine gM_25 K dX10_smallest_86 ?_
      refine v_iload_n K 3 rfl dX10_smallest_89 ?_
      obtain ⟨b16, h⟩ := ob_e h
      refine lM_25 (v := (s 25 x3.toNatClampNeg)) K b16 dX10_smallest_90 rfl ?_
      refine v_icmp_ge K 97 dX10_smallest_91 (by decide) (fun q17 => ?_) (fun q17 => ?_)
      · replace h := if_e h q17
        refine v_drop [(0, .ref (ad 0)), (1, .int x1), (2, .int x2), (3, .int x3), (4, .int x4)] [0, 1, 2, 3, 4] rfl ?_
        exact wM_smallest_97 K RT hk6 _ _ _ _ _ h
      · replace h := if_n h q17
        refine v_drop [(0, .ref (ad 0)), (1, .int x1), (2, .int x2), (4, .int x4)] [0, 1, 2, 4] rfl ?_
        exact wM_smallest_94 K RT hk6 _ _ _ _ h
set_option maxHeartbeats 4000000 in
set_option maxRecDepth 100000 in
theorem wM_smallest_64 {ad : Nat → Nat} {X : Cx} {c : Nat → ClassId} (K : Ok X cX10_smallest RX10 6 1 c) {r : Int32 × SS} (RT : ∀ pc ls, decode cX10_smallest pc = .ok (.ireturn, 1) → V X 6 0 0 pc ls [.int r.1] (wM ad c r.2)) {k6 : Int32 → Int32 → Int32 → Int32 → SS → Option (Int32 × SS)} (hk6 : ∀ (x1 : Int32) (x2 : Int32) (x3 : Int32) (x4 : Int32) (s : SS), k6 x1 x2 x3 x4 s = some r → V X 6 0 0 6 [(0, .ref (ad 0)), (1, .int x1), (2, .int x2), (3, .int x3), (4, .int x4)] [] (wM ad c s)) : ∀ (x1 : Int32) (x2 : Int32) (x3 : Int32) (x4 : Int32) (s : SS), M_smallest_64 k6 x1 x2 x3 x4 s = some r → V X 6 0 0 64 [(0, .ref (ad 0)), (1, .int x1), (2, .int x2), (3, .int x3), (4, .int x4)] [] (wM ad c s) := by
  intro x1 x2 x3 x4 s h
  rw [M_smallest_64] at h
  refine v_iconst (v := (0 : Int32)) K dX10_smallest_64 (by decide) ?_
  exact wM_smallest_65 K RT hk6 _ _ _ _ _ _ h
set_option maxHeartbeats 4000000 in
set_option maxRecDepth 100000 in
theorem wM_smallest_60 {ad : Nat → Nat} {X : Cx} {c : Nat → ClassId} (K : Ok X cX10_smallest RX10 6 1 c) {r : Int32 × SS} (RT : ∀ pc ls, decode cX10_smallest pc = .ok (.ireturn, 1) → V X 6 0 0 pc ls [.int r.1] (wM ad c r.2)) {k6 : Int32 → Int32 → Int32 → Int32 → SS → Option (Int32 × SS)} (hk6 : ∀ (x1 : Int32) (x2 : Int32) (x3 : Int32) (x4 : Int32) (s : SS), k6 x1 x2 x3 x4 s = some r → V X 6 0 0 6 [(0, .ref (ad 0)), (1, .int x1), (2, .int x2), (3, .int x3), (4, .int x4)] [] (wM ad c s)) : ∀ (x1 : Int32) (x2 : Int32) (x3 : Int32) (x4 : Int32) (s : SS), M_smallest_60 k6 x1 x2 x3 x4 s = some r → V X 6 0 0 60 [(0, .ref (ad 0)), (1, .int x1), (2, .int x2), (3, .int x3), (4, .int x4)] [] (wM ad c s) := by
  intro x1 x2 x3 x4 s h
  rw [M_smallest_60] at h
  refine v_iconst (v := (1 : Int32)) K dX10_smallest_60 (by decide) ?_
  refine v_goto K 65 dX10_smallest_61 (by decide) ?_
  exact wM_smallest_65 K RT hk6 _ _ _ _ _ _ h
set_option maxHeartbeats 4000000 in
set_option maxRecDepth 100000 in
theorem wM_smallest_6 {ad : Nat → Nat} {X : Cx} {c : Nat → ClassId} (K : Ok X cX10_smallest RX10 6 1 c) {r : Int32 × SS} (RT : ∀ pc ls, decode cX10_smallest pc = .ok (.ireturn, 1) → V X 6 0 0 pc ls [.int r.1] (wM ad c r.2)) : ∀ (n : Nat) (x1 : Int32) (x2 : Int32) (x3 : Int32) (x4 : Int32) (s : SS), M_smallest_6 n x1 x2 x3 x4 s = some r → V X 6 0 0 6 [(0, .ref (ad 0)), (1, .int x1), (2, .int x2), (3, .int x3), (4, .int x4)] [] (wM ad c s) := by
  intro n
  induction n with
  | zero => intro _ _ _ _ _ h; cases h
  | succ n ih =>
    intro x1 x2 x3 x4 s h
    rw [M_smallest_6] at h
    refine v_iload K 4 rfl dX10_smallest_6 ?_
    refine v_aload_n K 0 rfl dX10_smallest_8 ?_
    refine gM_23 (v := (s 0 23)) K dX10_smallest_9 rfl ?_
    refine v_icmp_ge K 103 dX10_smallest_12 (by decide) (fun q1 => ?_) (fun q1 => ?_)
    · replace h := if_e h q1
      refine v_iload_n K 3 rfl dX10_smallest_103 ?_
      obtain rfl := Option.some.inj h
      exact RT _ _ dX10_smallest_104
    · replace h := if_n h q1
      refine v_aload_n K 0 rfl dX10_smallest_15 ?_
      refine v_iload K 4 rfl dX10_smallest_16 ?_
      obtain ⟨r4, s3, e2, h⟩ := bnd_e h
      refine vM_calli K [.int x4] [] cw_RX10_230 (cM_isFree e2) rfl rfl (Nat.le_of_ble_eq_true rfl) (by decide) dX10_smallest_18 ?_
      refine v_if_eq K 64 dX10_smallest_21 (by decide) (fun q5 => ?_) (fun q5 => ?_)
      · replace h := if_e h q5
        exact wM_smallest_64 K RT (fun a0 a1 a2 a3 a4 e => ih a0 a1 a2 a3 a4 e) _ _ _ _ _ h
      · replace h := if_n h q5
        refine v_aload_n K 0 rfl dX10_smallest_24 ?_
        refine gM_25 K dX10_smallest_25 ?_
        refine v_iload K 4 rfl dX10_smallest_28 ?_
        obtain ⟨b6, h⟩ := ob_e h
        refine lM_25 (v := (s3 25 x4.toNatClampNeg)) K b6 dX10_smallest_30 rfl ?_
        refine v_aload_n K 0 rfl dX10_smallest_31 ?_
        refine gM_18 K dX10_smallest_32 ?_
        refine v_iload_n K 1 rfl dX10_smallest_35 ?_
        obtain ⟨b7, h⟩ := ob_e h
        refine lM_18 (v := (s3 18 x1.toNatClampNeg)) K b7 dX10_smallest_36 rfl ?_
        refine v_icmp_lt K 64 dX10_smallest_37 (by decide) (fun q8 => ?_) (fun q8 => ?_)
        · replace h := if_e h q8
          exact wM_smallest_64 K RT (fun a0 a1 a2 a3 a4 e => ih a0 a1 a2 a3 a4 e) _ _ _ _ _ h
        · replace h := if_n h q8
          refine v_iload_n K 2 rfl dX10_smallest_40 ?_
          refine v_if_eq K 60 dX10_smallest_41 (by decide) (fun q9 => ?_) (fun q9 => ?_)
          · replace h := if_e h q9
            exact wM_smallest_60 K RT (fun a0 a1 a2 a3 a4 e => ih a0 a1 a2 a3 a4 e) _ _ _ _ _ h
          · replace h := if_n h q9
            refine v_aload_n K 0 rfl dX10_smallest_44 ?_
            refine gM_24 K dX10_smallest_45 ?_
            refine v_iload K 4 rfl dX10_smallest_48 ?_
            obtain ⟨b10, h⟩ := ob_e h
            refine lM_24 (v := (s3 24 x4.toNatClampNeg)) K b10 dX10_smallest_50 rfl ?_
            refine v_aload_n K 0 rfl dX10_smallest_51 ?_
            refine gM_21 K dX10_smallest_52 ?_
            refine v_iload_n K 1 rfl dX10_smallest_55 ?_
            obtain ⟨b11, h⟩ := ob_e h
            refine lM_21 (v := (s3 21 x1.toNatClampNeg)) K b11 dX10_smallest_56 rfl ?_
            refine v_icmp_ne K 64 dX10_smallest_57 (by decide) (fun q12 => ?_) (fun q12 => ?_)
            · replace h := if_n h q12
              exact wM_smallest_64 K RT (fun a0 a1 a2 a3 a4 e => ih a0 a1 a2 a3 a4 e) _ _ _ _ _ h
            · replace h := if_e h q12
              exact wM_smallest_60 K RT (fun a0 a1 a2 a3 a4 e => ih a0 a1 a2 a3 a4 e) _ _ _ _ _ h
set_option maxHeartbeats 4000000 in
set_option maxRecDepth 100000 in
theorem wM_smallest {ad : Nat → Nat} {X : Cx} {c : Nat → ClassId} (K : Ok X cX10_smallest RX10 6 1 c) {r : Int32 × SS} (RT : ∀ pc ls, decode cX10_smallest pc = .ok (.ireturn, 1) → V X 6 0 0 pc ls [.int r.1] (wM ad c r.2)) (s : SS) (x1 : Int32) (x2 : Int32) (h : M_smallest s x1 x2 = some r) : V X 6 0 0 0 [(0, .ref (ad 0)), (1, .int x1), (2, .int x2)] [] (wM ad c s) := by
  rw [M_smallest] at h
  refine v_bipush (v := (-9 : Int32)) K dX10_smallest_0 (by decide) ?_
  refine v_istore_n K [(0, .ref (ad 0)), (1, .int x1), (2, .int x2), (3, .int (-9 : Int32))] [1, 2, 3, 0] dX10_smallest_2 rfl (by decide) rfl ?_
  refine v_iconst (v := (0 : Int32)) K dX10_smallest_3 (by decide) ?_
  refine v_istore K [(0, .ref (ad 0)), (1, .int x1), (2, .int x2), (3, .int (-9 : Int32)), (4, .int (0 : Int32))] [1, 2, 3, 4, 0] dX10_smallest_4 (by decide) rfl ?_
  exact wM_smallest_6 K RT fuel _ _ _ _ _ h
theorem cM_smallest {l : Launch} {D : va_G} {c : Nat → ClassId} {ad : Nat → Nat} {s s' : SS} {x1 : Int32} {x2 : Int32} {r : Int32} (h : M_smallest s x1 x2 = some (r, s')) : Ci l D c yX10_smallest cX10_smallest 6 (some .int) 1 [.ref (ad 0), .int x1, .int x2] (wM ad c s) r (wM ad c s') := Ci.of (by decide) (Nat.le_of_ble_eq_true rfl) (fun X K RT => wM_smallest K (r := (r, s')) RT s x1 x2 h)
set_option maxHeartbeats 4000000 in
set_option maxRecDepth 100000 in
theorem wM_tell {ad : Nat → Nat} {X : Cx} {c : Nat → ClassId} (K : Ok X cX10_tell RX10 3 1 c) {r : Int32 × SS} (RT : ∀ pc ls, decode cX10_tell pc = .ok (.ireturn, 1) → V X 3 0 0 pc ls [.int r.1] (wM ad c r.2)) (s : SS) (x1 : Int32) (h : M_tell s x1 = some r) : V X 3 0 0 0 [(0, .ref (ad 0)), (1, .int x1)] [] (wM ad c s) := by
  rw [M_tell] at h
  refine v_aload_n K 0 rfl dX10_tell_0 ?_
  refine v_iload_n K 1 rfl dX10_tell_1 ?_
  obtain ⟨r3, s2, e1, h⟩ := bnd_e h
  refine vM_calli K [.int x1] [] cw_RX10_156 (cM_isGroup e1) rfl rfl (Nat.le_of_ble_eq_true rfl) (by decide) dX10_tell_2 ?_
  refine v_if_ne K 10 dX10_tell_5 (by decide) (fun q4 => ?_) (fun q4 => ?_)
  · replace h := if_n h q4
    refine v_aload_n K 0 rfl dX10_tell_10 ?_
    refine gM_18 K dX10_tell_11 ?_
    refine v_iload_n K 1 rfl dX10_tell_14 ?_
    obtain ⟨b5, h⟩ := ob_e h
    refine lM_18 (v := (s2 18 x1.toNatClampNeg)) K b5 dX10_tell_15 rfl ?_
    refine v_istore_n K [(0, .ref (ad 0)), (1, .int x1), (2, .int (s2 18 x1.toNatClampNeg))] [1, 2, 0] dX10_tell_16 rfl (by decide) rfl ?_
    refine v_aload_n K 0 rfl dX10_tell_17 ?_
    refine gM_17 K dX10_tell_18 ?_
    refine v_iload_n K 1 rfl dX10_tell_21 ?_
    obtain ⟨b6, h⟩ := ob_e h
    refine lM_17 (v := (s2 17 x1.toNatClampNeg)) K b6 dX10_tell_22 rfl ?_
    by_cases q7 : (s2 17 x1.toNatClampNeg) = (1 : Int32)
    · replace h := if_e h q7
      refine v_lookup (off := 25) K 48 dX10_tell_23 (by decide) (by rw [q7]; rfl) (by decide) ?_
      refine v_aload_n K 0 rfl dX10_tell_48 ?_
      refine v_iconst (v := (2 : Int32)) K dX10_tell_49 (by decide) ?_
      obtain ⟨s9, e8, h⟩ := bnd0_e h
      refine vM_callv K [.int (2 : Int32)] [] cw_RX10_291 (cM_begins e8) rfl rfl (Nat.le_of_ble_eq_true rfl) (by decide) dX10_tell_50 ?_
      refine v_aload_n K 0 rfl dX10_tell_53 ?_
      refine v_iconst (v := (1 : Int32)) K dX10_tell_54 (by decide) ?_
      obtain ⟨s11, e10, h⟩ := bnd0_e h
      refine vM_callv K [.int (1 : Int32)] [] cw_RX10_291 (cM_begins e10) rfl rfl (Nat.le_of_ble_eq_true rfl) (by decide) dX10_tell_55 ?_
      refine v_iload_n K 2 rfl dX10_tell_58 ?_
      refine v_bipush (v := (100 : Int32)) K dX10_tell_59 (by decide) ?_
      refine v_iadd K dX10_tell_61 ?_
      obtain rfl := Option.some.inj h
      exact RT _ _ dX10_tell_62
    · replace h := if_n h q7
      by_cases q12 : (s2 17 x1.toNatClampNeg) = (2 : Int32)
      · replace h := if_e h q12
        refine v_lookup (off := 40) K 63 dX10_tell_23 (by decide) (by rw [q12]; rfl) (by decide) ?_
        refine v_aload_n K 0 rfl dX10_tell_63 ?_
        refine v_iconst (v := (3 : Int32)) K dX10_tell_64 (by decide) ?_
        obtain ⟨s14, e13, h⟩ := bnd0_e h
        refine vM_callv K [.int (3 : Int32)] [] cw_RX10_291 (cM_begins e13) rfl rfl (Nat.le_of_ble_eq_true rfl) (by decide) dX10_tell_65 ?_
        refine v_aload_n K 0 rfl dX10_tell_68 ?_
        refine v_iconst (v := (2 : Int32)) K dX10_tell_69 (by decide) ?_
        obtain ⟨s16, e15, h⟩ := bnd0_e h
        refine vM_callv K [.int (2 : Int32)] [] cw_RX10_291 (cM_begins e15) rfl rfl (Nat.le_of_ble_eq_true rfl) (by decide) dX10_tell_70 ?_
        refine v_aload_n K 0 rfl dX10_tell_73 ?_
        refine v_iconst (v := (1 : Int32)) K dX10_tell_74 (by decide) ?_
        obtain ⟨s18, e17, h⟩ := bnd0_e h
        refine vM_callv K [.int (1 : Int32)] [] cw_RX10_291 (cM_begins e17) rfl rfl (Nat.le_of_ble_eq_true rfl) (by decide) dX10_tell_75 ?_
        refine v_aload_n K 0 rfl dX10_tell_78 ?_
        refine v_iconst (v := (1 : Int32)) K dX10_tell_79 (by decide) ?_
        obtain ⟨s20, e19, h⟩ := bnd0_e h
        refine vM_callv K [.int (1 : Int32)] [] cw_RX10_291 (cM_begins e19) rfl rfl (Nat.le_of_ble_eq_true rfl) (by decide) dX10_tell_80 ?_
        refine v_iconst (v := (2 : Int32)) K dX10_tell_83 (by decide) ?_
        refine v_iload_n K 2 rfl dX10_tell_84 ?_
        refine v_imul K dX10_tell_85 ?_
        refine v_bipush (v := (100 : Int32)) K dX10_tell_86 (by decide) ?_
        refine v_iadd K dX10_tell_88 ?_
        obtain rfl := Option.some.inj h
        exact RT _ _ dX10_tell_89
      · replace h := if_n h q12
        refine v_lookup (off := 67) K 90 dX10_tell_23 (by decide) (by show Op.lookupswitch.offset [(1, 25), (2, 40)] 67 _ = _; rw [lv_osw q7 (show ((1 : Int32)).toInt = 1 from by decide), lv_osw q12 (show ((2 : Int32)).toInt = 2 from by decide)]; rfl) (by decide) ?_
        refine v_aload_n K 0 rfl dX10_tell_90 ?_
        refine v_iconst (v := (1 : Int32)) K dX10_tell_91 (by decide) ?_
        obtain ⟨s22, e21, h⟩ := bnd0_e h
        refine vM_callv K [.int (1 : Int32)] [] cw_RX10_291 (cM_begins e21) rfl rfl (Nat.le_of_ble_eq_true rfl) (by decide) dX10_tell_92 ?_
        refine v_iload_n K 2 rfl dX10_tell_95 ?_
        obtain rfl := Option.some.inj h
        exact RT _ _ dX10_tell_96
  · replace h := if_e h q4
    refine v_iconst (v := (-1 : Int32)) K dX10_tell_8 (by decide) ?_
    obtain rfl := Option.some.inj h
    exact RT _ _ dX10_tell_9
theorem cM_tell {l : Launch} {D : va_G} {c : Nat → ClassId} {ad : Nat → Nat} {s s' : SS} {x1 : Int32} {r : Int32} (h : M_tell s x1 = some (r, s')) : Ci l D c yX10_tell cX10_tell 3 (some .int) 1 [.ref (ad 0), .int x1] (wM ad c s) r (wM ad c s') := Ci.of (by decide) (Nat.le_of_ble_eq_true rfl) (fun X K RT => wM_tell K (r := (r, s')) RT s x1 h)
