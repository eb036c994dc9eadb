set_option maxHeartbeats 4000000 in
set_option maxRecDepth 100000 in
theorem wM_cafe_95 {ad : Nat → Nat} {X : Cx} {c : Nat → ClassId} (K : Ok X cX10_cafe RX10 8 2 c) {r : Int32 × SS} (RT : ∀ pc ls, decode cX10_cafe pc = .ok (.ireturn, 1) → V X 8 0 0 pc ls [.int r.1] (wM ad c r.2)) : ∀ (n : Nat) (x7 : Int32) (s : SS), M_cafe_95 n x7 s = some r → V X 8 0 0 95 [(0, .ref (ad 0)), (7, .int x7)] [] (wM ad c s) := by
  intro n
  induction n with
  | zero => intro _ _ h; cases h
  | succ n ih =>
    intro x7 s h
    rw [M_cafe_95] at h
    refine v_iload K 1 rfl dX10_cafe_95 ?_
    refine v_aload_n K 0 rfl dX10_cafe_97 ?_
    refine gM_5 (v := (s 0 5)) K dX10_cafe_98 rfl ?_
    refine v_icmp_ge K 138 dX10_cafe_101 (by decide) (fun q18 => ?_) (fun q18 => ?_)
    · replace h := if_e h q18
      refine v_aload_n K 0 rfl dX10_cafe_138 ?_
      refine v_iconst (v := (0 : Int32)) K dX10_cafe_139 (by decide) ?_
      refine pM_16 K dX10_cafe_140 ?_
      refine v_aload_n K 0 rfl dX10_cafe_143 ?_
      refine v_iconst (v := (0 : Int32)) K dX10_cafe_144 (by decide) ?_
      refine pM_8 K dX10_cafe_145 ?_
      refine v_aload_n K 0 rfl dX10_cafe_148 ?_
      refine v_iconst (v := (0 : Int32)) K dX10_cafe_149 (by decide) ?_
      refine pM_9 K dX10_cafe_150 ?_
      refine v_aload_n K 0 rfl dX10_cafe_153 ?_
      refine v_iconst (v := (0 : Int32)) K dX10_cafe_154 (by decide) ?_
      obtain ⟨b19, h⟩ := ob_e h
      refine pM_10 K b19 dX10_cafe_155 ?_
      refine v_aload_n K 0 rfl dX10_cafe_158 ?_
      refine v_bipush (v := (-9 : Int32)) K dX10_cafe_159 (by decide) ?_
      refine pM_11 K dX10_cafe_161 ?_
      refine v_aload_n K 0 rfl dX10_cafe_164 ?_
      refine gM_5 (v := (s 0 5)) K dX10_cafe_165 rfl ?_
      obtain rfl := Option.some.inj h
      exact RT _ _ dX10_cafe_168
    · replace h := if_n h q18
      refine v_aload_n K 0 rfl dX10_cafe_104 ?_
      refine gM_6 K dX10_cafe_105 ?_
      refine v_iload K 1 rfl dX10_cafe_108 ?_
      refine v_aload_n K 0 rfl dX10_cafe_110 ?_
      refine gM_14 K dX10_cafe_111 ?_
      refine v_iload K 1 rfl dX10_cafe_114 ?_
      obtain ⟨b20, h⟩ := ob_e h
      refine lM_14 (v := (s 14 x7.toNatClampNeg)) K b20 dX10_cafe_116 rfl ?_
      obtain ⟨b21, h⟩ := ob_e h
      refine sM_6 K b21 dX10_cafe_117 ?_
      refine v_aload_n K 0 rfl dX10_cafe_118 ?_
      refine gM_7 K dX10_cafe_119 ?_
      refine v_iload K 1 rfl dX10_cafe_122 ?_
      refine v_aload_n K 0 rfl dX10_cafe_124 ?_
      refine gM_15 K dX10_cafe_125 ?_
      refine v_iload K 1 rfl dX10_cafe_128 ?_
      obtain ⟨b22, h⟩ := ob_e h
      refine lM_15 (v := (s 15 x7.toNatClampNeg)) K b22 dX10_cafe_130 rfl ?_
      obtain ⟨b23, h⟩ := ob_e h
      refine sM_7 K b23 dX10_cafe_131 ?_
      refine v_iinc (v := (x7 + (1 : Int32))) K 1 [(0, .ref (ad 0)), (7, .int (x7 + (1 : Int32)))] [1, 0] dX10_cafe_132 rfl rfl (by decide) rfl ?_
      refine v_goto K 95 dX10_cafe_135 (by decide) ?_
      exact ih _ _ h
set_option maxHeartbeats 4000000 in
set_option maxRecDepth 100000 in
theorem wM_cafe {ad : Nat → Nat} {X : Cx} {c : Nat → ClassId} (K : Ok X cX10_cafe RX10 8 2 c) {r : Int32 × SS} (RT : ∀ pc ls, decode cX10_cafe pc = .ok (.ireturn, 1) → V X 8 0 0 pc ls [.int r.1] (wM ad c r.2)) (s : SS) (x1 : Int32) (x2 : Int32) (x3 : Int32) (x4 : Int32) (h : M_cafe s x1 x2 x3 x4 = some r) : V X 8 0 0 0 [(0, .ref (ad 0)), (1, .int x1), (2, .int x2), (3, .int x3), (4, .int x4)] [] (wM ad c s) := by
  rw [M_cafe] at h
  refine v_aload_n K 0 rfl dX10_cafe_0 ?_
  refine v_iconst (v := (0 : Int32)) K dX10_cafe_1 (by decide) ?_
  refine pM_0 K dX10_cafe_2 ?_
  refine v_iload_n K 1 rfl dX10_cafe_5 ?_
  obtain ⟨r2, e1, h⟩ := bnd0_e h
  refine v_callsi K [.int x1] [] cw_RX10_114 (cM_isSheet e1) rfl rfl (Nat.le_of_ble_eq_true rfl) (by decide) z0 dX10_cafe_6 ?_
  refine v_if_ne K 14 dX10_cafe_9 (by decide) (fun q3 => ?_) (fun q3 => ?_)
  · replace h := if_n h q3
    refine v_iload_n K 2 rfl dX10_cafe_14 ?_
    obtain ⟨r5, e4, h⟩ := bnd0_e h
    refine v_callsi K [.int x2] [] cw_RX10_118 (cM_isSort e4) rfl rfl (Nat.le_of_ble_eq_true rfl) (by decide) z0 dX10_cafe_15 ?_
    refine v_if_ne K 24 dX10_cafe_18 (by decide) (fun q6 => ?_) (fun q6 => ?_)
    · replace h := if_n h q6
      refine v_aload_n K 0 rfl dX10_cafe_24 ?_
      refine v_iload_n K 1 rfl dX10_cafe_25 ?_
      refine v_iload_n K 2 rfl dX10_cafe_26 ?_
      refine v_iload_n K 3 rfl dX10_cafe_27 ?_
      refine v_iload K 4 rfl dX10_cafe_28 ?_
      obtain ⟨r9, s8, e7, h⟩ := bnd_e h
      refine vM_calli K [.int x1, .int x2, .int x3, .int x4] [] cw_RX10_121 (cM_against e7) rfl rfl (Nat.le_of_ble_eq_true rfl) (by decide) dX10_cafe_30 ?_
      refine v_istore K [(0, .ref (ad 0)), (1, .int x1), (3, .int x3), (4, .int x4), (5, .int r9)] [1, 2, 4, 5, 0] dX10_cafe_33 (by decide) rfl ?_
      refine v_iload K 4 rfl dX10_cafe_35 ?_
      refine v_if_eq K 47 dX10_cafe_37 (by decide) (fun q10 => ?_) (fun q10 => ?_)
      · replace h := if_e h q10
        refine v_bipush (v := (40 : Int32)) K dX10_cafe_47 (by decide) ?_
        refine v_iload_n K 1 rfl dX10_cafe_49 ?_
        refine v_imul K dX10_cafe_50 ?_
        refine v_iload_n K 2 rfl dX10_cafe_51 ?_
        refine v_iadd K dX10_cafe_52 ?_
        refine v_istore K [(0, .ref (ad 0)), (4, .int x4), (6, .int (((40 : Int32) * x1) + x3))] [1, 4, 0] dX10_cafe_53 (by decide) rfl ?_
        refine v_aload_n K 0 rfl dX10_cafe_55 ?_
        refine v_iload K 2 rfl dX10_cafe_56 ?_
        refine pM_12 K dX10_cafe_58 ?_
        refine v_aload_n K 0 rfl dX10_cafe_61 ?_
        refine v_iload K 2 rfl dX10_cafe_62 ?_
        refine v_iload K 1 rfl dX10_cafe_64 ?_
        refine v_iadd K dX10_cafe_66 ?_
        obtain ⟨r13, s12, e11, h⟩ := bnd_e h
        refine vM_calli K [.int ((((40 : Int32) * x1) + x3) + x4)] [] cw_RX10_129 (cM_readCafe e11) rfl rfl (Nat.le_of_ble_eq_true rfl) (by decide) dX10_cafe_67 ?_
        refine v_if_ne K 84 dX10_cafe_70 (by decide) (fun q14 => ?_) (fun q14 => ?_)
        · replace h := if_n h q14
          refine v_aload_n K 0 rfl dX10_cafe_84 ?_
          refine v_aload_n K 0 rfl dX10_cafe_85 ?_
          refine gM_13 (v := (s12 0 13)) K dX10_cafe_86 rfl ?_
          refine pM_5 K dX10_cafe_89 ?_
          refine v_iconst (v := (0 : Int32)) K dX10_cafe_92 (by decide) ?_
          refine v_istore K [(0, .ref (ad 0)), (7, .int (0 : Int32))] [1, 0] dX10_cafe_93 (by decide) rfl ?_
          exact wM_cafe_95 K RT fuel _ _ h
        · replace h := if_e h q14
          refine v_bipush (v := (-100 : Int32)) K dX10_cafe_73 (by decide) ?_
          refine v_aload_n K 0 rfl dX10_cafe_75 ?_
          refine gM_12 (v := (s12 0 12)) K dX10_cafe_76 rfl ?_
          refine v_iload K 2 rfl dX10_cafe_79 ?_
          refine v_isub K dX10_cafe_81 ?_
          refine v_isub K dX10_cafe_82 ?_
          obtain rfl := Option.some.inj h
          exact RT _ _ dX10_cafe_83
      · replace h := if_n h q10
        refine v_aload_n K 0 rfl dX10_cafe_40 ?_
        refine v_iload K 4 rfl dX10_cafe_41 ?_
        obtain ⟨r17, s16, e15, h⟩ := bnd_e h
        refine vM_calli K [.int r9] [] cw_RX10_125 (cM_fails e15) rfl rfl (Nat.le_of_ble_eq_true rfl) (by decide) dX10_cafe_43 ?_
        obtain rfl := Option.some.inj h
        exact RT _ _ dX10_cafe_46
    · replace h := if_e h q6
      refine v_bipush (v := (-2 : Int32)) K dX10_cafe_21 (by decide) ?_
      obtain rfl := Option.some.inj h
      exact RT _ _ dX10_cafe_23
  · replace h := if_e h q3
    refine v_iconst (v := (-1 : Int32)) K dX10_cafe_12 (by decide) ?_
    obtain rfl := Option.some.inj h
    exact RT _ _ dX10_cafe_13
theorem cM_cafe {l : Launch} {D : va_G} {c : Nat → ClassId} {ad : Nat → Nat} {s s' : SS} {x1 : Int32} {x2 : Int32} {x3 : Int32} {x4 : Int32} {r : Int32} (h : M_cafe s x1 x2 x3 x4 = some (r, s')) : Ci l D c yX10_cafe cX10_cafe 8 (some .int) 2 [.ref (ad 0), .int x1, .int x2, .int x3, .int x4] (wM ad c s) r (wM ad c s') := Ci.of (by decide) (Nat.le_of_ble_eq_true rfl) (fun X K RT => wM_cafe K (r := (r, s')) RT s x1 x2 x3 x4 h)
set_option maxHeartbeats 4000000 in
set_option maxRecDepth 100000 in
theorem wM_cell_50 {ad : Nat → Nat} {X : Cx} {c : Nat → ClassId} (K : Ok X cX10_cell RX10 4 2 c) {r : Int64 × SS} (RT : ∀ pc ls, decode cX10_cell pc = .ok (.lreturn, 1) → V X 4 0 0 pc ls [.long r.1] (wM ad c r.2)) : ∀ (x1 : Int32) (x2 : Int32) (s : SS), M_cell_50 x1 x2 s = some r → V X 4 0 0 50 [(0, .ref (ad 0)), (1, .int x1), (2, .int x2)] [] (wM ad c s) := by
  intro x1 x2 s h
  rw [M_cell_50] at h
  refine v_aload_n K 0 rfl dX10_cell_50 ?_
  refine gM_2 K dX10_cell_51 ?_
  refine v_iload_n K 1 rfl dX10_cell_54 ?_
  obtain ⟨b14, h⟩ := ob_e h
  refine lM_2 (v := (s 2 x1.toNatClampNeg)) K b14 dX10_cell_55 rfl ?_
  refine v_bipush (v := (-9 : Int32)) K dX10_cell_56 (by decide) ?_
  refine v_icmp_ne K 67 dX10_cell_58 (by decide) (fun q15 => ?_) (fun q15 => ?_)
  · replace h := if_n h q15
    refine v_iload_n K 2 rfl dX10_cell_67 ?_
    refine v_iconst (v := (0 : Int32)) K dX10_cell_68 (by decide) ?_
    refine v_aload_n K 0 rfl dX10_cell_69 ?_
    refine gM_3 K dX10_cell_70 ?_
    refine v_iload_n K 1 rfl dX10_cell_73 ?_
    obtain ⟨b16, h⟩ := ob_e h
    refine lM_3 (v := (s 3 x1.toNatClampNeg)) K b16 dX10_cell_74 rfl ?_
    refine v_iconst (v := (1 : Int32)) K dX10_cell_75 (by decide) ?_
    refine v_isub K dX10_cell_76 ?_
    obtain ⟨r18, e17, h⟩ := bnd0_e h
    refine v_callsi K [.int x2, .int (0 : Int32), .int ((s 3 x1.toNatClampNeg) - (1 : Int32))] [] cw_RX10_104 (cM_within e17) rfl rfl (Nat.le_of_ble_eq_true rfl) (by decide) z0 dX10_cell_77 ?_
    refine v_if_ne K 89 dX10_cell_80 (by decide) (fun q19 => ?_) (fun q19 => ?_)
    · replace h := if_n h q19
      refine v_aload_n K 0 rfl dX10_cell_89 ?_
      refine gM_4 K dX10_cell_90 ?_
      refine v_bipush (v := (40 : Int32)) K dX10_cell_93 (by decide) ?_
      refine v_iload_n K 1 rfl dX10_cell_95 ?_
      refine v_imul K dX10_cell_96 ?_
      refine v_iload_n K 2 rfl dX10_cell_97 ?_
      refine v_iadd K dX10_cell_98 ?_
      obtain ⟨b20, h⟩ := ob_e h
      refine lM_4 (v := (s 4 (((40 : Int32) * x1) + x2).toNatClampNeg)) K b20 dX10_cell_99 rfl ?_
      refine v_i2l K dX10_cell_100 ?_
      obtain rfl := Option.some.inj h
      exact RT _ _ dX10_cell_101
    · replace h := if_e h q19
      refine v_aload_n K 0 rfl dX10_cell_83 ?_
      refine v_iconst (v := (3 : Int32)) K dX10_cell_84 (by decide) ?_
      obtain ⟨r23, s22, e21, h⟩ := bnd_e h
      refine vM_calll K [.int (3 : Int32)] [] cw_RX10_285 (cM_lost e21) rfl rfl (Nat.le_of_ble_eq_true rfl) (by decide) dX10_cell_85 ?_
      obtain rfl := Option.some.inj h
      exact RT _ _ dX10_cell_88
  · replace h := if_e h q15
    refine v_aload_n K 0 rfl dX10_cell_61 ?_
    refine v_iconst (v := (1 : Int32)) K dX10_cell_62 (by decide) ?_
    obtain ⟨r26, s25, e24, h⟩ := bnd_e h
    refine vM_calll K [.int (1 : Int32)] [] cw_RX10_285 (cM_lost e24) rfl rfl (Nat.le_of_ble_eq_true rfl) (by decide) dX10_cell_63 ?_
    obtain rfl := Option.some.inj h
    exact RT _ _ dX10_cell_66
set_option maxHeartbeats 4000000 in
set_option maxRecDepth 100000 in
theorem wM_cell_19 {ad : Nat → Nat} {X : Cx} {c : Nat → ClassId} (K : Ok X cX10_cell RX10 4 2 c) {r : Int64 × SS} (RT : ∀ pc ls, decode cX10_cell pc = .ok (.lreturn, 1) → V X 4 0 0 pc ls [.long r.1] (wM ad c r.2)) : ∀ (s : SS), M_cell_19 s = some r → V X 4 0 0 19 [] [] (wM ad c s) := by
  intro s h
  rw [M_cell_19] at h
  refine v_ldc2 (v := (-9223372036854775808 : Int64)) K kM_102 dX10_cell_19 ?_
  obtain rfl := Option.some.inj h
  exact RT _ _ dX10_cell_22
set_option maxHeartbeats 4000000 in
set_option maxRecDepth 100000 in
theorem wM_cell {ad : Nat → Nat} {X : Cx} {c : Nat → ClassId} (K : Ok X cX10_cell RX10 4 2 c) {r : Int64 × SS} (RT : ∀ pc ls, decode cX10_cell pc = .ok (.lreturn, 1) → V X 4 0 0 pc ls [.long r.1] (wM ad c r.2)) (s : SS) (x1 : Int32) (x2 : Int32) (x3 : Int32) (h : M_cell s x1 x2 x3 = some r) : V X 4 0 0 0 [(0, .ref (ad 0)), (1, .int x1), (2, .int x2), (3, .int x3)] [] (wM ad c s) := by
  rw [M_cell] at h
  refine v_aload_n K 0 rfl dX10_cell_0 ?_
  refine v_iconst (v := (0 : Int32)) K dX10_cell_1 (by decide) ?_
  refine pM_0 K dX10_cell_2 ?_
  refine v_iload_n K 1 rfl dX10_cell_5 ?_
  obtain ⟨r2, e1, h⟩ := bnd0_e h
  refine v_callsi K [.int x1] [] cw_RX10_114 (cM_isSheet e1) rfl rfl (Nat.le_of_ble_eq_true rfl) (by decide) z0 dX10_cell_6 ?_
  refine v_if_eq K 19 dX10_cell_9 (by decide) (fun q3 => ?_) (fun q3 => ?_)
  · replace h := if_e h q3
    refine v_drop [] [] rfl ?_
    exact wM_cell_19 K RT _ h
  · replace h := if_n h q3
    refine v_iload_n K 3 rfl dX10_cell_12 ?_
    obtain ⟨r5, e4, h⟩ := bnd0_e h
    refine v_callsi K [.int x3] [] cw_RX10_118 (cM_isSort e4) rfl rfl (Nat.le_of_ble_eq_true rfl) (by decide) z0 dX10_cell_13 ?_
    refine v_if_ne K 23 dX10_cell_16 (by decide) (fun q6 => ?_) (fun q6 => ?_)
    · replace h := if_n h q6
      refine v_aload_n K 0 rfl dX10_cell_23 ?_
      refine gM_2 K dX10_cell_24 ?_
      refine v_iload_n K 1 rfl dX10_cell_27 ?_
      obtain ⟨b7, h⟩ := ob_e h
      refine lM_2 (v := (s 2 x1.toNatClampNeg)) K b7 dX10_cell_28 rfl ?_
      refine v_bipush (v := (-9 : Int32)) K dX10_cell_29 (by decide) ?_
      refine v_icmp_eq K 50 dX10_cell_31 (by decide) (fun q8 => ?_) (fun q8 => ?_)
      · replace h := if_e h q8
        refine v_drop [(0, .ref (ad 0)), (1, .int x1), (2, .int x2)] [0, 1, 2] rfl ?_
        exact wM_cell_50 K RT _ _ _ h
      · replace h := if_n h q8
        refine v_aload_n K 0 rfl dX10_cell_34 ?_
        refine gM_2 K dX10_cell_35 ?_
        refine v_iload_n K 1 rfl dX10_cell_38 ?_
        obtain ⟨b9, h⟩ := ob_e h
        refine lM_2 (v := (s 2 x1.toNatClampNeg)) K b9 dX10_cell_39 rfl ?_
        refine v_iload_n K 3 rfl dX10_cell_40 ?_
        refine v_icmp_eq K 50 dX10_cell_41 (by decide) (fun q10 => ?_) (fun q10 => ?_)
        · replace h := if_e h q10
          refine v_drop [(0, .ref (ad 0)), (1, .int x1), (2, .int x2)] [0, 1, 2] rfl ?_
          exact wM_cell_50 K RT _ _ _ h
        · replace h := if_n h q10
          refine v_aload_n K 0 rfl dX10_cell_44 ?_
          refine v_iconst (v := (2 : Int32)) K dX10_cell_45 (by decide) ?_
          obtain ⟨r13, s12, e11, h⟩ := bnd_e h
          refine vM_calll K [.int (2 : Int32)] [] cw_RX10_285 (cM_lost e11) rfl rfl (Nat.le_of_ble_eq_true rfl) (by decide) dX10_cell_46 ?_
          obtain rfl := Option.some.inj h
          exact RT _ _ dX10_cell_49
    · replace h := if_e h q6
      refine v_drop [] [] rfl ?_
      exact wM_cell_19 K RT _ h
theorem cM_cell {l : Launch} {D : va_G} {c : Nat → ClassId} {ad : Nat → Nat} {s s' : SS} {x1 : Int32} {x2 : Int32} {x3 : Int32} {r : Int64} (h : M_cell s x1 x2 x3 = some (r, s')) : Cl l D c yX10_cell cX10_cell 4 (some .long) 2 [.ref (ad 0), .int x1, .int x2, .int x3] (wM ad c s) r (wM ad c s') := Cl.of (by decide) (Nat.le_of_ble_eq_true rfl) (fun X K RT => wM_cell K (r := (r, s')) RT s x1 x2 x3 h)
set_option maxHeartbeats 4000000 in
set_option maxRecDepth 100000 in
theorem wM_copy_190 {ad : Nat → Nat} {X : Cx} {c : Nat → ClassId} (K : Ok X cX10_copy RX10 10 2 c) {r : Int32 × SS} (RT : ∀ pc ls, decode cX10_copy pc = .ok (.ireturn, 1) → V X 10 0 0 pc ls [.int r.1] (wM ad c r.2)) {k166 : Int32 → Int32 → Int32 → Int32 → Int32 → Int32 → Int32 → SS → Option (Int32 × SS)} (hk166 : ∀ (x1 : Int32) (x2 : Int32) (x3 : Int32) (x4 : Int32) (x5 : Int32) (x7 : Int32) (x8 : Int32) (s : SS), k166 x1 x2 x3 x4 x5 x7 x8 s = some r → V X 10 0 0 166 [(0, .ref (ad 0)), (1, .int x1), (2, .int x2), (3, .int x3), (4, .int x4), (5, .int x5), (7, .int x7), (8, .int x8)] [] (wM ad c s)) : ∀ (y0 : Int32) (x1 : Int32) (x2 : Int32) (x3 : Int32) (x4 : Int32) (x5 : Int32) (x7 : Int32) (x8 : Int32) (s : SS), M_copy_190 k166 y0 x1 x2 x3 x4 x5 x7 x8 s = some r → V X 10 0 0 190 [(0, .ref (ad 0)), (1, .int x1), (2, .int x2), (3, .int x3), (4, .int x4), (5, .int x5), (7, .int x7), (8, .int x8)] [.int y0] (wM ad c s) := by
  intro y0 x1 x2 x3 x4 x5 x7 x8 s h
  rw [M_copy_190] at h
  refine v_istore K [(0, .ref (ad 0)), (1, .int x1), (2, .int x2), (3, .int x3), (4, .int x4), (5, .int x5), (7, .int x7), (8, .int x8), (9, .int y0)] [1, 2, 3, 4, 5, 6, 7, 8, 0] dX10_copy_190 (by decide) rfl ?_
  refine v_aload_n K 0 rfl dX10_copy_192 ?_
  refine gM_4 K dX10_copy_193 ?_
  refine v_bipush (v := (40 : Int32)) K dX10_copy_196 (by decide) ?_
  refine v_iload_n K 3 rfl dX10_copy_198 ?_
  refine v_imul K dX10_copy_199 ?_
  refine v_iload K 4 rfl dX10_copy_200 ?_
  refine v_iadd K dX10_copy_202 ?_
  refine v_iload K 8 rfl dX10_copy_203 ?_
  refine v_iadd K dX10_copy_205 ?_
  refine v_aload_n K 0 rfl dX10_copy_206 ?_
  refine gM_4 K dX10_copy_207 ?_
  refine v_bipush (v := (40 : Int32)) K dX10_copy_210 (by decide) ?_
  refine v_iload_n K 1 rfl dX10_copy_212 ?_
  refine v_imul K dX10_copy_213 ?_
  refine v_iload_n K 2 rfl dX10_copy_214 ?_
  refine v_iadd K dX10_copy_215 ?_
  refine v_iload K 8 rfl dX10_copy_216 ?_
  refine v_iadd K dX10_copy_218 ?_
  obtain ⟨b32, h⟩ := ob_e h
  refine lM_4 (v := (s 4 ((((40 : Int32) * x1) + x2) + y0).toNatClampNeg)) K b32 dX10_copy_219 rfl ?_
  obtain ⟨b33, h⟩ := ob_e h
  refine sM_4 K b33 dX10_copy_220 ?_
  refine v_iinc (v := (x8 + (1 : Int32))) K 7 [(0, .ref (ad 0)), (1, .int x1), (2, .int x2), (3, .int x3), (4, .int x4), (5, .int x5), (7, .int x7), (8, .int (x8 + (1 : Int32))), (9, .int y0)] [1, 2, 3, 4, 5, 6, 7, 0, 8] dX10_copy_221 rfl rfl (by decide) rfl ?_
  refine v_goto K 166 dX10_copy_224 (by decide) ?_
  refine v_drop [(0, .ref (ad 0)), (1, .int x1), (2, .int x2), (3, .int x3), (4, .int x4), (5, .int x5), (7, .int x7), (8, .int (x8 + (1 : Int32)))] [0, 1, 2, 3, 4, 5, 6, 7] rfl ?_
  exact hk166 _ _ _ _ _ _ _ _ h
set_option maxHeartbeats 4000000 in
set_option maxRecDepth 100000 in
theorem wM_copy_166 {ad : Nat → Nat} {X : Cx} {c : Nat → ClassId} (K : Ok X cX10_copy RX10 10 2 c) {r : Int32 × SS} (RT : ∀ pc ls, decode cX10_copy pc = .ok (.ireturn, 1) → V X 10 0 0 pc ls [.int r.1] (wM ad c r.2)) : ∀ (n : Nat) (x1 : Int32) (x2 : Int32) (x3 : Int32) (x4 : Int32) (x5 : Int32) (x7 : Int32) (x8 : Int32) (s : SS), M_copy_166 n x1 x2 x3 x4 x5 x7 x8 s = some r → V X 10 0 0 166 [(0, .ref (ad 0)), (1, .int x1), (2, .int x2), (3, .int x3), (4, .int x4), (5, .int x5), (7, .int x7), (8, .int x8)] [] (wM ad c s) := by
  intro n
  induction n with
  | zero => intro _ _ _ _ _ _ _ _ h; cases h
  | succ n ih =>
    intro x1 x2 x3 x4 x5 x7 x8 s h
    rw [M_copy_166] at h
    refine v_iload K 7 rfl dX10_copy_166 ?_
    refine v_iload K 5 rfl dX10_copy_168 ?_
    refine v_icmp_ge K 227 dX10_copy_170 (by decide) (fun q30 => ?_) (fun q30 => ?_)
    · replace h := if_e h q30
      refine v_iload K 5 rfl dX10_copy_227 ?_
      obtain rfl := Option.some.inj h
      exact RT _ _ dX10_copy_229
    · replace h := if_n h q30
      refine v_iload K 6 rfl dX10_copy_173 ?_
      refine v_if_eq K 188 dX10_copy_175 (by decide) (fun q31 => ?_) (fun q31 => ?_)
      · replace h := if_e h q31
        refine v_iload K 7 rfl dX10_copy_188 ?_
        exact wM_copy_190 K RT (fun a0 a1 a2 a3 a4 a5 a6 a7 e => ih a0 a1 a2 a3 a4 a5 a6 a7 e) _ _ _ _ _ _ _ _ _ h
      · replace h := if_n h q31
        refine v_iload K 5 rfl dX10_copy_178 ?_
        refine v_iconst (v := (1 : Int32)) K dX10_copy_180 (by decide) ?_
        refine v_isub K dX10_copy_181 ?_
        refine v_iload K 7 rfl dX10_copy_182 ?_
        refine v_isub K dX10_copy_184 ?_
        refine v_goto K 190 dX10_copy_185 (by decide) ?_
        exact wM_copy_190 K RT (fun a0 a1 a2 a3 a4 a5 a6 a7 e => ih a0 a1 a2 a3 a4 a5 a6 a7 e) _ _ _ _ _ _ _ _ _ h
set_option maxHeartbeats 4000000 in
set_option maxRecDepth 100000 in
theorem wM_copy_161 {ad : Nat → Nat} {X : Cx} {c : Nat → ClassId} (K : Ok X cX10_copy RX10 10 2 c) {r : Int32 × SS} (RT : ∀ pc ls, decode cX10_copy pc = .ok (.ireturn, 1) → V X 10 0 0 pc ls [.int r.1] (wM ad c r.2)) : ∀ (y0 : Int32) (x1 : Int32) (x2 : Int32) (x3 : Int32) (x4 : Int32) (x5 : Int32) (s : SS), M_copy_161 y0 x1 x2 x3 x4 x5 s = some r → V X 10 0 0 161 [(0, .ref (ad 0)), (1, .int x1), (2, .int x2), (3, .int x3), (4, .int x4), (5, .int x5)] [.int y0] (wM ad c s) := by
  intro y0 x1 x2 x3 x4 x5 s h
  rw [M_copy_161] at h
  refine v_istore K [(0, .ref (ad 0)), (1, .int x1), (2, .int x2), (3, .int x3), (4, .int x4), (5, .int x5), (7, .int y0)] [1, 2, 3, 4, 5, 6, 0] dX10_copy_161 (by decide) rfl ?_
  refine v_iconst (v := (0 : Int32)) K dX10_copy_163 (by decide) ?_
  refine v_istore K [(0, .ref (ad 0)), (1, .int x1), (2, .int x2), (3, .int x3), (4, .int x4), (5, .int x5), (7, .int y0), (8, .int (0 : Int32))] [1, 2, 3, 4, 5, 6, 7, 0] dX10_copy_164 (by decide) rfl ?_
  exact wM_copy_166 K RT fuel _ _ _ _ _ _ _ _ h
set_option maxHeartbeats 4000000 in
set_option maxRecDepth 100000 in
theorem wM_copy_144 {ad : Nat → Nat} {X : Cx} {c : Nat → ClassId} (K : Ok X cX10_copy RX10 10 2 c) {r : Int32 × SS} (RT : ∀ pc ls, decode cX10_copy pc = .ok (.ireturn, 1) → V X 10 0 0 pc ls [.int r.1] (wM ad c r.2)) : ∀ (s : SS), M_copy_144 s = some r → V X 10 0 0 144 [(0, .ref (ad 0))] [] (wM ad c s) := by
  intro s h
  rw [M_copy_144] at h
  refine v_aload_n K 0 rfl dX10_copy_144 ?_
  refine v_iconst (v := (3 : Int32)) K dX10_copy_145 (by decide) ?_
  obtain ⟨r36, s35, e34, h⟩ := bnd_e h
  refine vM_calli K [.int (3 : Int32)] [] cw_RX10_125 (cM_fails e34) rfl rfl (Nat.le_of_ble_eq_true rfl) (by decide) dX10_copy_146 ?_
  obtain rfl := Option.some.inj h
  exact RT _ _ dX10_copy_149
set_option maxHeartbeats 4000000 in
set_option maxRecDepth 100000 in
theorem wM_copy_110 {ad : Nat → Nat} {X : Cx} {c : Nat → ClassId} (K : Ok X cX10_copy RX10 10 2 c) {r : Int32 × SS} (RT : ∀ pc ls, decode cX10_copy pc = .ok (.ireturn, 1) → V X 10 0 0 pc ls [.int r.1] (wM ad c r.2)) : ∀ (y0 : Int32) (x1 : Int32) (x2 : Int32) (x3 : Int32) (x4 : Int32) (x5 : Int32) (s : SS), M_copy_110 y0 x1 x2 x3 x4 x5 s = some r → V X 10 0 0 110 [(0, .ref (ad 0)), (1, .int x1), (2, .int x2), (3, .int x3), (4, .int x4), (5, .int x5)] [.int y0] (wM ad c s) := by
  intro y0 x1 x2 x3 x4 x5 s h
  rw [M_copy_110] at h
  refine v_istore K [(0, .ref (ad 0)), (1, .int x1), (2, .int x2), (3, .int x3), (4, .int x4), (5, .int x5), (6, .int y0)] [1, 2, 3, 4, 5, 6, 0] dX10_copy_110 (by decide) rfl ?_
  refine v_iload K 6 rfl dX10_copy_112 ?_
  refine v_if_eq K 144 dX10_copy_114 (by decide) (fun q24 => ?_) (fun q24 => ?_)
  · replace h := if_e h q24
    refine v_drop [(0, .ref (ad 0))] [0] rfl ?_
    exact wM_copy_144 K RT _ h
  · replace h := if_n h q24
    refine v_iload K 5 rfl dX10_copy_117 ?_
    refine v_aload_n K 0 rfl dX10_copy_119 ?_
    refine gM_3 K dX10_copy_120 ?_
    refine v_iload_n K 1 rfl dX10_copy_123 ?_
    obtain ⟨b25, h⟩ := ob_e h
    refine lM_3 (v := (s 3 x1.toNatClampNeg)) K b25 dX10_copy_124 rfl ?_
    refine v_iload_n K 2 rfl dX10_copy_125 ?_
    refine v_isub K dX10_copy_126 ?_
    refine v_icmp_gt K 144 dX10_copy_127 (by decide) (fun q26 => ?_) (fun q26 => ?_)
    · replace h := if_e h q26
      refine v_drop [(0, .ref (ad 0))] [0] rfl ?_
      exact wM_copy_144 K RT _ h
    · replace h := if_n h q26
      refine v_iload K 5 rfl dX10_copy_130 ?_
      refine v_aload_n K 0 rfl dX10_copy_132 ?_
      refine gM_3 K dX10_copy_133 ?_
      refine v_iload_n K 3 rfl dX10_copy_136 ?_
      obtain ⟨b27, h⟩ := ob_e h
      refine lM_3 (v := (s 3 x3.toNatClampNeg)) K b27 dX10_copy_137 rfl ?_
      refine v_iload K 4 rfl dX10_copy_138 ?_
      refine v_isub K dX10_copy_140 ?_
      refine v_icmp_le K 150 dX10_copy_141 (by decide) (fun q28 => ?_) (fun q28 => ?_)
      · replace h := if_e h q28
        refine v_iload_n K 2 rfl dX10_copy_150 ?_
        refine v_iload K 4 rfl dX10_copy_151 ?_
        refine v_icmp_ge K 160 dX10_copy_153 (by decide) (fun q29 => ?_) (fun q29 => ?_)
        · replace h := if_e h q29
          refine v_iconst (v := (0 : Int32)) K dX10_copy_160 (by decide) ?_
          refine v_drop [(0, .ref (ad 0)), (1, .int x1), (2, .int x2), (3, .int x3), (4, .int x4), (5, .int x5)] [0, 1, 2, 3, 4, 5] rfl ?_
          exact wM_copy_161 K RT _ _ _ _ _ _ _ h
        · replace h := if_n h q29
          refine v_iconst (v := (1 : Int32)) K dX10_copy_156 (by decide) ?_
          refine v_goto K 161 dX10_copy_157 (by decide) ?_
          refine v_drop [(0, .ref (ad 0)), (1, .int x1), (2, .int x2), (3, .int x3), (4, .int x4), (5, .int x5)] [0, 1, 2, 3, 4, 5] rfl ?_
          exact wM_copy_161 K RT _ _ _ _ _ _ _ h
      · replace h := if_n h q28
        refine v_drop [(0, .ref (ad 0))] [0] rfl ?_
        exact wM_copy_144 K RT _ h
set_option maxHeartbeats 4000000 in
set_option maxRecDepth 100000 in
theorem wM_copy_109 {ad : Nat → Nat} {X : Cx} {c : Nat → ClassId} (K : Ok X cX10_copy RX10 10 2 c) {r : Int32 × SS} (RT : ∀ pc ls, decode cX10_copy pc = .ok (.ireturn, 1) → V X 10 0 0 pc ls [.int r.1] (wM ad c r.2)) : ∀ (x1 : Int32) (x2 : Int32) (x3 : Int32) (x4 : Int32) (x5 : Int32) (s : SS), M_copy_109 x1 x2 x3 x4 x5 s = some r → V X 10 0 0 109 [(0, .ref (ad 0)), (1, .int x1), (2, .int x2), (3, .int x3), (4, .int x4), (5, .int x5)] [] (wM ad c s) := by
  intro x1 x2 x3 x4 x5 s h
  rw [M_copy_109] at h
  refine v_iconst (v := (0 : Int32)) K dX10_copy_109 (by decide) ?_
  exact wM_copy_110 K RT _ _ _ _ _ _ _ h
set_option maxHeartbeats 4000000 in
set_option maxRecDepth 100000 in
theorem wM_copy_43 {ad : Nat → Nat} {X : Cx} {c : Nat → ClassId} (K : Ok X cX10_copy RX10 10 2 c) {r : Int32 × SS} (RT : ∀ pc ls, decode cX10_copy pc = .ok (.ireturn, 1) → V X 10 0 0 pc ls [.int r.1] (wM ad c r.2)) : ∀ (s : SS), M_copy_43 s = some r → V X 10 0 0 43 [(0, .ref (ad 0))] [] (wM ad c s) := by
  intro s h
  rw [M_copy_43] at h
  refine v_aload_n K 0 rfl dX10_copy_43 ?_
  refine v_iconst (v := (1 : Int32)) K dX10_copy_44 (by decide) ?_
  obtain ⟨r39, s38, e37, h⟩ := bnd_e h
  refine vM_calli K [.int (1 : Int32)] [] cw_RX10_125 (cM_fails e37) rfl rfl (Nat.le_of_ble_eq_true rfl) (by decide) dX10_copy_45 ?_
  obtain rfl := Option.some.inj h
  exact RT _ _ dX10_copy_48
set_option maxHeartbeats 4000000 in
set_option maxRecDepth 100000 in
theorem wM_copy_19 {ad : Nat → Nat} {X : Cx} {c : Nat → ClassId} (K : Ok X cX10_copy RX10 10 2 c) {r : Int32 × SS} (RT : ∀ pc ls, decode cX10_copy pc = .ok (.ireturn, 1) → V X 10 0 0 pc ls [.int r.1] (wM ad c r.2)) : ∀ (s : SS), M_copy_19 s = some r → V X 10 0 0 19 [] [] (wM ad c s) := by
  intro s h
  rw [M_copy_19] at h
  refine v_iconst (v := (-1 : Int32)) K dX10_copy_19 (by decide) ?_
  obtain rfl := Option.some.inj h
  exact RT _ _ dX10_copy_20
set_option maxHeartbeats 4000000 in
set_option maxRecDepth 100000 in
theorem wM_copy {ad : Nat → Nat} {X : Cx} {c : Nat → ClassId} (K : Ok X cX10_copy RX10 10 2 c) {r : Int32 × SS} (RT : ∀ pc ls, decode cX10_copy pc = .ok (.ireturn, 1) → V X 10 0 0 pc ls [.int r.1] (wM ad c r.2)) (s : SS) (x1 : Int32) (x2 : Int32) (x3 : Int32) (x4 : Int32) (x5 : Int32) (h : M_copy s x1 x2 x3 x4 x5 = some r) : V X 10 0 0 0 [(0, .ref (ad 0)), (1, .int x1), (2, .int x2), (3, .int x3), (4, .int x4), (5, .int x5)] [] (wM ad c s) := by
  rw [M_copy] at h
  refine v_aload_n K 0 rfl dX10_copy_0 ?_
  refine v_iconst (v := (0 : Int32)) K dX10_copy_1 (by decide) ?_
  refine pM_0 K dX10_copy_2 ?_
  refine v_iload_n K 1 rfl dX10_copy_5 ?_
  obtain ⟨r2, e1, h⟩ := bnd0_e h
  refine v_callsi K [.int x1] [] cw_RX10_114 (cM_isSheet e1) rfl rfl (Nat.le_of_ble_eq_true rfl) (by decide) z0 dX10_copy_6 ?_
  refine v_if_eq K 19 dX10_copy_9 (by decide) (fun q3 => ?_) (fun q3 => ?_)
  · replace h := if_e h q3
    refine v_drop [] [] rfl ?_
    exact wM_copy_19 K RT _ h
  · replace h := if_n h q3
    refine v_iload_n K 3 rfl dX10_copy_12 ?_
    obtain ⟨r5, e4, h⟩ := bnd0_e h
    refine v_callsi K [.int x3] [] cw_RX10_114 (cM_isSheet e4) rfl rfl (Nat.le_of_ble_eq_true rfl) (by decide) z0 dX10_copy_13 ?_
    refine v_if_ne K 21 dX10_copy_16 (by decide) (fun q6 => ?_) (fun q6 => ?_)
    · replace h := if_n h q6
      refine v_aload_n K 0 rfl dX10_copy_21 ?_
      refine gM_2 K dX10_copy_22 ?_
      refine v_iload_n K 1 rfl dX10_copy_25 ?_
      obtain ⟨b7, h⟩ := ob_e h
      refine lM_2 (v := (s 2 x1.toNatClampNeg)) K b7 dX10_copy_26 rfl ?_
      refine v_bipush (v := (-9 : Int32)) K dX10_copy_27 (by decide) ?_
      refine v_icmp_eq K 43 dX10_copy_29 (by decide) (fun q8 => ?_) (fun q8 => ?_)
      · replace h := if_e h q8
        refine v_drop [(0, .ref (ad 0))] [0] rfl ?_
        exact wM_copy_43 K RT _ h
      · replace h := if_n h q8
        refine v_aload_n K 0 rfl dX10_copy_32 ?_
        refine gM_2 K dX10_copy_33 ?_
        refine v_iload_n K 3 rfl dX10_copy_36 ?_
        obtain ⟨b9, h⟩ := ob_e h
        refine lM_2 (v := (s 2 x3.toNatClampNeg)) K b9 dX10_copy_37 rfl ?_
        refine v_bipush (v := (-9 : Int32)) K dX10_copy_38 (by decide) ?_
        refine v_icmp_ne K 49 dX10_copy_40 (by decide) (fun q10 => ?_) (fun q10 => ?_)
        · replace h := if_n h q10
          refine v_aload_n K 0 rfl dX10_copy_49 ?_
          refine gM_2 K dX10_copy_50 ?_
          refine v_iload_n K 1 rfl dX10_copy_53 ?_
          obtain ⟨b11, h⟩ := ob_e h
          refine lM_2 (v := (s 2 x1.toNatClampNeg)) K b11 dX10_copy_54 rfl ?_
          refine v_aload_n K 0 rfl dX10_copy_55 ?_
          refine gM_2 K dX10_copy_56 ?_
          refine v_iload_n K 3 rfl dX10_copy_59 ?_
          obtain ⟨b12, h⟩ := ob_e h
          refine lM_2 (v := (s 2 x3.toNatClampNeg)) K b12 dX10_copy_60 rfl ?_
          refine v_icmp_eq K 70 dX10_copy_61 (by decide) (fun q13 => ?_) (fun q13 => ?_)
          · replace h := if_e h q13
            refine v_iload_n K 2 rfl dX10_copy_70 ?_
            refine v_if_lt K 109 dX10_copy_71 (by decide) (fun q14 => ?_) (fun q14 => ?_)
            · replace h := if_e h q14
              exact wM_copy_109 K RT _ _ _ _ _ _ h
            · replace h := if_n h q14
              refine v_iload K 4 rfl dX10_copy_74 ?_
              refine v_if_lt K 109 dX10_copy_76 (by decide) (fun q15 => ?_) (fun q15 => ?_)
              · replace h := if_e h q15
                exact wM_copy_109 K RT _ _ _ _ _ _ h
              · replace h := if_n h q15
                refine v_iload K 5 rfl dX10_copy_79 ?_
                refine v_if_lt K 109 dX10_copy_81 (by decide) (fun q16 => ?_) (fun q16 => ?_)
                · replace h := if_e h q16
                  exact wM_copy_109 K RT _ _ _ _ _ _ h
                · replace h := if_n h q16
                  refine v_iload_n K 2 rfl dX10_copy_84 ?_
                  refine v_aload_n K 0 rfl dX10_copy_85 ?_
                  refine gM_3 K dX10_copy_86 ?_
                  refine v_iload_n K 1 rfl dX10_copy_89 ?_
                  obtain ⟨b17, h⟩ := ob_e h
                  refine lM_3 (v := (s 3 x1.toNatClampNeg)) K b17 dX10_copy_90 rfl ?_
                  refine v_icmp_gt K 109 dX10_copy_91 (by decide) (fun q18 => ?_) (fun q18 => ?_)
                  · replace h := if_e h q18
                    exact wM_copy_109 K RT _ _ _ _ _ _ h
                  · replace h := if_n h q18
                    refine v_iload K 4 rfl dX10_copy_94 ?_
                    refine v_aload_n K 0 rfl dX10_copy_96 ?_
                    refine gM_3 K dX10_copy_97 ?_
                    refine v_iload_n K 3 rfl dX10_copy_100 ?_
                    obtain ⟨b19, h⟩ := ob_e h
                    refine lM_3 (v := (s 3 x3.toNatClampNeg)) K b19 dX10_copy_101 rfl ?_
                    refine v_icmp_gt K 109 dX10_copy_102 (by decide) (fun q20 => ?_) (fun q20 => ?_)
                    · replace h := if_e h q20
                      exact wM_copy_109 K RT _ _ _ _ _ _ h
                    · replace h := if_n h q20
                      refine v_iconst (v := (1 : Int32)) K dX10_copy_105 (by decide) ?_
                      refine v_goto K 110 dX10_copy_106 (by decide) ?_
                      exact wM_copy_110 K RT _ _ _ _ _ _ _ h
          · replace h := if_n h q13
            refine v_aload_n K 0 rfl dX10_copy_64 ?_
            refine v_iconst (v := (2 : Int32)) K dX10_copy_65 (by decide) ?_
            obtain ⟨r23, s22, e21, h⟩ := bnd_e h
            refine vM_calli K [.int (2 : Int32)] [] cw_RX10_125 (cM_fails e21) rfl rfl (Nat.le_of_ble_eq_true rfl) (by decide) dX10_copy_66 ?_
            obtain rfl := Option.some.inj h
            exact RT _ _ dX10_copy_69
        · replace h := if_e h q10
          refine v_drop [(0, .ref (ad 0))] [0] rfl ?_
          exact wM_copy_43 K RT _ h
    · replace h := if_e h q6
      refine v_drop [] [] rfl ?_
      exact wM_copy_19 K RT _ h
theorem cM_copy {l : Launch} {D : va_G} {c : Nat → ClassId} {ad : Nat → Nat} {s s' : SS} {x1 : Int32} {x2 : Int32} {x3 : Int32} {x4 : Int32} {x5 : Int32} {r : Int32} (h : M_copy s x1 x2 x3 x4 x5 = some (r, s')) : Ci l D c yX10_copy cX10_copy 10 (some .int) 2 [.ref (ad 0), .int x1, .int x2, .int x3, .int x4, .int x5] (wM ad c s) r (wM ad c s') := Ci.of (by decide) (Nat.le_of_ble_eq_true rfl) (fun X K RT => wM_copy K (r := (r, s')) RT s x1 x2 x3 x4 x5 h)
set_option maxHeartbeats 4000000 in
set_option maxRecDepth 100000 in
theorem wM_findPlan_83 {ad : Nat → Nat} {X : Cx} {c : Nat → ClassId} (K : Ok X cX10_findPlan RX10 3 2 c) {r : SS} (RT : ∀ pc ls, decode cX10_findPlan pc = .ok (.return_, 1) → V X 3 0 0 pc ls [] (wM ad c r)) {k29 : Int32 → Int32 → SS → Option SS} (hk29 : ∀ (x1 : Int32) (x2 : Int32) (s : SS), k29 x1 x2 s = some r → V X 3 0 0 29 [(0, .ref (ad 0)), (1, .int x1), (2, .int x2)] [] (wM ad c s)) : ∀ (x1 : Int32) (x2 : Int32) (s : SS), M_findPlan_83 k29 x1 x2 s = some r → V X 3 0 0 83 [(0, .ref (ad 0)), (1, .int x1), (2, .int x2)] [] (wM ad c s) := by
  intro x1 x2 s h
  rw [M_findPlan_83] at h
  refine v_aload_n K 0 rfl dX10_findPlan_83 ?_
  refine gM_41 K dX10_findPlan_84 ?_
  refine v_iload_n K 2 rfl dX10_findPlan_87 ?_
  obtain ⟨b18, h⟩ := ob_e h
  refine lM_41 (v := (s 41 x2.toNatClampNeg)) K b18 dX10_findPlan_88 rfl ?_
  refine v_aload_n K 0 rfl dX10_findPlan_89 ?_
  refine gM_5 (v := (s 0 5)) K dX10_findPlan_90 rfl ?_
  refine v_icmp_le K 102 dX10_findPlan_93 (by decide) (fun q19 => ?_) (fun q19 => ?_)
  · replace h := if_e h q19
    refine v_iload_n K 2 rfl dX10_findPlan_102 ?_
    refine v_iload_n K 1 rfl dX10_findPlan_103 ?_
    refine v_iconst (v := (1 : Int32)) K dX10_findPlan_104 (by decide) ?_
    refine v_isub K dX10_findPlan_105 ?_
    refine v_icmp_ge K 122 dX10_findPlan_106 (by decide) (fun q20 => ?_) (fun q20 => ?_)
    · replace h := if_e h q20
      refine v_aload_n K 0 rfl dX10_findPlan_122 ?_
      refine v_iload_n K 1 rfl dX10_findPlan_123 ?_
      obtain ⟨s22, e21, h⟩ := bnd0_e h
      refine vM_callv K [.int x1] [] cw_RX10_254 (cM_offer e21) rfl rfl (Nat.le_of_ble_eq_true rfl) (by decide) dX10_findPlan_124 ?_
      refine v_goto K 29 dX10_findPlan_127 (by decide) ?_
      exact hk29 _ _ _ h
    · replace h := if_n h q20
      refine v_iinc (v := (x2 + (1 : Int32))) K 2 [(0, .ref (ad 0)), (1, .int x1), (2, .int (x2 + (1 : Int32)))] [1, 2, 0] dX10_findPlan_109 rfl rfl (by decide) rfl ?_
      refine v_aload_n K 0 rfl dX10_findPlan_112 ?_
      refine gM_41 K dX10_findPlan_113 ?_
      refine v_iload_n K 2 rfl dX10_findPlan_116 ?_
      refine v_iconst (v := (-1 : Int32)) K dX10_findPlan_117 (by decide) ?_
      obtain ⟨b23, h⟩ := ob_e h
      refine sM_41 K b23 dX10_findPlan_118 ?_
      refine v_goto K 29 dX10_findPlan_119 (by decide) ?_
      exact hk29 _ _ _ h
  · replace h := if_n h q19
    refine v_iinc (v := (x2 + (-1 : Int32))) K 2 [(0, .ref (ad 0)), (1, .int x1), (2, .int (x2 + (-1 : Int32)))] [1, 2, 0] dX10_findPlan_96 rfl rfl (by decide) rfl ?_
    refine v_goto K 29 dX10_findPlan_99 (by decide) ?_
    exact hk29 _ _ _ h
set_option maxHeartbeats 4000000 in
set_option maxRecDepth 100000 in
theorem wM_findPlan_43 {ad : Nat → Nat} {X : Cx} {c : Nat → ClassId} (K : Ok X cX10_findPlan RX10 3 2 c) {r : SS} (RT : ∀ pc ls, decode cX10_findPlan pc = .ok (.return_, 1) → V X 3 0 0 pc ls [] (wM ad c r)) {k29 : Int32 → Int32 → SS → Option SS} (hk29 : ∀ (x1 : Int32) (x2 : Int32) (s : SS), k29 x1 x2 s = some r → V X 3 0 0 29 [(0, .ref (ad 0)), (1, .int x1), (2, .int x2)] [] (wM ad c s)) : ∀ (n : Nat) (x1 : Int32) (x2 : Int32) (s : SS), M_findPlan_43 k29 n x1 x2 s = some r → V X 3 0 0 43 [(0, .ref (ad 0)), (1, .int x1), (2, .int x2)] [] (wM ad c s) := by
  intro n
  induction n with
  | zero => intro _ _ _ h; cases h
  | succ n ih =>
    intro x1 x2 s h
    rw [M_findPlan_43] at h
    refine v_aload_n K 0 rfl dX10_findPlan_43 ?_
    refine gM_41 K dX10_findPlan_44 ?_
    refine v_iload_n K 2 rfl dX10_findPlan_47 ?_
    obtain ⟨b9, h⟩ := ob_e h
    refine lM_41 (v := (s 41 x2.toNatClampNeg)) K b9 dX10_findPlan_48 rfl ?_
    refine v_aload_n K 0 rfl dX10_findPlan_49 ?_
    refine gM_5 (v := (s 0 5)) K dX10_findPlan_50 rfl ?_
    refine v_icmp_gt K 83 dX10_findPlan_53 (by decide) (fun q10 => ?_) (fun q10 => ?_)
    · replace h := if_e h q10
      exact wM_findPlan_83 K RT hk29 _ _ _ h
    · replace h := if_n h q10
      refine v_aload_n K 0 rfl dX10_findPlan_56 ?_
      refine v_iload_n K 2 rfl dX10_findPlan_57 ?_
      refine v_aload_n K 0 rfl dX10_findPlan_58 ?_
      refine gM_41 K dX10_findPlan_59 ?_
      refine v_iload_n K 2 rfl dX10_findPlan_62 ?_
      obtain ⟨b11, h⟩ := ob_e h
      refine lM_41 (v := (s 41 x2.toNatClampNeg)) K b11 dX10_findPlan_63 rfl ?_
      obtain ⟨r14, s13, e12, h⟩ := bnd_e h
      refine vM_calli K [.int x2, .int (s 41 x2.toNatClampNeg)] [] cw_RX10_251 (cM_maySit e12) rfl rfl (Nat.le_of_ble_eq_true rfl) (by decide) dX10_findPlan_64 ?_
      refine v_if_ne K 83 dX10_findPlan_67 (by decide) (fun q15 => ?_) (fun q15 => ?_)
      · replace h := if_n h q15
        exact wM_findPlan_83 K RT hk29 _ _ _ h
      · replace h := if_e h q15
        refine v_aload_n K 0 rfl dX10_findPlan_70 ?_
        refine gM_41 K dX10_findPlan_71 ?_
        refine v_iload_n K 2 rfl dX10_findPlan_74 ?_
        refine v_dup2_11 K dX10_findPlan_75 rfl rfl ?_
        obtain ⟨b16, h⟩ := ob_e h
        refine lM_41 (v := (s13 41 x2.toNatClampNeg)) K b16 dX10_findPlan_76 rfl ?_
        refine v_iconst (v := (1 : Int32)) K dX10_findPlan_77 (by decide) ?_
        refine v_iadd K dX10_findPlan_78 ?_
        obtain ⟨b17, h⟩ := ob_e h
        refine sM_41 K b17 dX10_findPlan_79 ?_
        refine v_goto K 43 dX10_findPlan_80 (by decide) ?_
        exact ih _ _ _ h
set_option maxHeartbeats 4000000 in
set_option maxRecDepth 100000 in
theorem wM_findPlan_29 {ad : Nat → Nat} {X : Cx} {c : Nat → ClassId} (K : Ok X cX10_findPlan RX10 3 2 c) {r : SS} (RT : ∀ pc ls, decode cX10_findPlan pc = .ok (.return_, 1) → V X 3 0 0 pc ls [] (wM ad c r)) : ∀ (n : Nat) (x1 : Int32) (x2 : Int32) (s : SS), M_findPlan_29 n x1 x2 s = some r → V X 3 0 0 29 [(0, .ref (ad 0)), (1, .int x1), (2, .int x2)] [] (wM ad c s) := by
  intro n
  induction n with
  | zero => intro _ _ _ h; cases h
  | succ n ih =>
    intro x1 x2 s h
    rw [M_findPlan_29] at h
    refine v_iload_n K 2 rfl dX10_findPlan_29 ?_
    refine v_if_lt K 130 dX10_findPlan_30 (by decide) (fun q6 => ?_) (fun q6 => ?_)
    · replace h := if_e h q6
      obtain rfl := Option.some.inj h
      exact RT _ _ dX10_findPlan_130
    · replace h := if_n h q6
      refine v_aload_n K 0 rfl dX10_findPlan_33 ?_
      refine gM_41 K dX10_findPlan_34 ?_
      refine v_iload_n K 2 rfl dX10_findPlan_37 ?_
      refine v_dup2_11 K dX10_findPlan_38 rfl rfl ?_
      obtain ⟨b7, h⟩ := ob_e h
      refine lM_41 (v := (s 41 x2.toNatClampNeg)) K b7 dX10_findPlan_39 rfl ?_
      refine v_iconst (v := (1 : Int32)) K dX10_findPlan_40 (by decide) ?_
      refine v_iadd K dX10_findPlan_41 ?_
      obtain ⟨b8, h⟩ := ob_e h
      refine sM_41 K b8 dX10_findPlan_42 ?_
      exact wM_findPlan_43 K RT (fun a0 a1 a2 e => ih a0 a1 a2 e) fuel _ _ _ h
set_option maxHeartbeats 4000000 in
set_option maxRecDepth 100000 in
theorem wM_findPlan {ad : Nat → Nat} {X : Cx} {c : Nat → ClassId} (K : Ok X cX10_findPlan RX10 3 2 c) {r : SS} (RT : ∀ pc ls, decode cX10_findPlan pc = .ok (.return_, 1) → V X 3 0 0 pc ls [] (wM ad c r)) (s : SS) (h : M_findPlan s = some r) : V X 3 0 0 0 [(0, .ref (ad 0))] [] (wM ad c s) := by
  rw [M_findPlan] at h
  refine v_aload_n K 0 rfl dX10_findPlan_0 ?_
  obtain ⟨r3, s2, e1, h⟩ := bnd_e h
  refine vM_calli K [] [] cw_RX10_245 (cM_planned e1) rfl rfl (Nat.le_of_ble_eq_true rfl) (by decide) dX10_findPlan_1 ?_
  refine v_istore_n K [(0, .ref (ad 0)), (1, .int r3)] [1, 0] dX10_findPlan_4 rfl (by decide) rfl ?_
  refine v_aload_n K 0 rfl dX10_findPlan_5 ?_
  refine v_iconst (v := (-1 : Int32)) K dX10_findPlan_6 (by decide) ?_
  refine pM_43 K dX10_findPlan_7 ?_
  refine v_iload_n K 1 rfl dX10_findPlan_10 ?_
  refine v_if_ne K 20 dX10_findPlan_11 (by decide) (fun q4 => ?_) (fun q4 => ?_)
  · replace h := if_n h q4
    refine v_iconst (v := (0 : Int32)) K dX10_findPlan_20 (by decide) ?_
    refine v_istore_n K [(0, .ref (ad 0)), (1, .int r3), (2, .int (0 : Int32))] [1, 2, 0] dX10_findPlan_21 rfl (by decide) rfl ?_
    refine v_aload_n K 0 rfl dX10_findPlan_22 ?_
    refine gM_41 K dX10_findPlan_23 ?_
    refine v_iconst (v := (0 : Int32)) K dX10_findPlan_26 (by decide) ?_
    refine v_iconst (v := (-1 : Int32)) K dX10_findPlan_27 (by decide) ?_
    obtain ⟨b5, h⟩ := ob_e h
    refine sM_41 K b5 dX10_findPlan_28 ?_
    exact wM_findPlan_29 K RT fuel _ _ _ h
  · replace h := if_e h q4
    refine v_aload_n K 0 rfl dX10_findPlan_14 ?_
    refine v_iconst (v := (0 : Int32)) K dX10_findPlan_15 (by decide) ?_
    refine pM_43 K dX10_findPlan_16 ?_
    obtain rfl := Option.some.inj h
    exact RT _ _ dX10_findPlan_19
theorem cM_findPlan {l : Launch} {D : va_G} {c : Nat → ClassId} {ad : Nat → Nat} {s s' : SS} (h : M_findPlan s = some s') : Cv l D c yX10_findPlan cX10_findPlan 3 none 2 [.ref (ad 0)] (wM ad c s) (wM ad c s') := Cv.of (by decide) (Nat.le_of_ble_eq_true rfl) (fun X K RT => wM_findPlan K RT s  h)
set_option maxHeartbeats 4000000 in
set_option maxRecDepth 100000 in
theorem wM_lose_25 {ad : Nat → Nat} {X : Cx} {c : Nat → ClassId} (K : Ok X cX10_lose RX10 3 2 c) {r : Int32 × SS} (RT : ∀ pc ls, decode cX10_lose pc = .ok (.ireturn, 1) → V X 3 0 0 pc ls [.int r.1] (wM ad c r.2)) : ∀ (y0 : Int32) (x1 : Int32) (s : SS), M_lose_25 y0 x1 s = some r → V X 3 0 0 25 [(0, .ref (ad 0)), (1, .int x1)] [.int y0] (wM ad c s) := by
  intro y0 x1 s h
  rw [M_lose_25] at h
  refine v_istore_n K [(0, .ref (ad 0)), (1, .int x1), (2, .int y0)] [1, 2, 0] dX10_lose_25 rfl (by decide) rfl ?_
  refine v_aload_n K 0 rfl dX10_lose_26 ?_
  refine gM_2 K dX10_lose_27 ?_
  refine v_iload_n K 1 rfl dX10_lose_30 ?_
  refine v_bipush (v := (-9 : Int32)) K dX10_lose_31 (by decide) ?_
  obtain ⟨b6, h⟩ := ob_e h
  refine sM_2 K b6 dX10_lose_33 ?_
  refine v_iload_n K 2 rfl dX10_lose_34 ?_
  obtain rfl := Option.some.inj h
  exact RT _ _ dX10_lose_35
set_option maxHeartbeats 4000000 in
set_option maxRecDepth 100000 in
theorem wM_lose {ad : Nat → Nat} {X : Cx} {c : Nat → ClassId} (K : Ok X cX10_lose RX10 3 2 c) {r : Int32 × SS} (RT : ∀ pc ls, decode cX10_lose pc = .ok (.ireturn, 1) → V X 3 0 0 pc ls [.int r.1] (wM ad c r.2)) (s : SS) (x1 : Int32) (h : M_lose s x1 = some r) : V X 3 0 0 0 [(0, .ref (ad 0)), (1, .int x1)] [] (wM ad c s) := by
  rw [M_lose] at h
  refine v_iload_n K 1 rfl dX10_lose_0 ?_
  obtain ⟨r2, e1, h⟩ := bnd0_e h
  refine v_callsi K [.int x1] [] cw_RX10_114 (cM_isSheet e1) rfl rfl (Nat.le_of_ble_eq_true rfl) (by decide) z0 dX10_lose_1 ?_
  refine v_if_ne K 9 dX10_lose_4 (by decide) (fun q3 => ?_) (fun q3 => ?_)
  · replace h := if_n h q3
    refine v_aload_n K 0 rfl dX10_lose_9 ?_
    refine gM_2 K dX10_lose_10 ?_
    refine v_iload_n K 1 rfl dX10_lose_13 ?_
    obtain ⟨b4, h⟩ := ob_e h
    refine lM_2 (v := (s 2 x1.toNatClampNeg)) K b4 dX10_lose_14 rfl ?_
    refine v_bipush (v := (-9 : Int32)) K dX10_lose_15 (by decide) ?_
    refine v_icmp_ne K 24 dX10_lose_17 (by decide) (fun q5 => ?_) (fun q5 => ?_)
    · replace h := if_n h q5
      refine v_iconst (v := (1 : Int32)) K dX10_lose_24 (by decide) ?_
      exact wM_lose_25 K RT _ _ _ h
    · replace h := if_e h q5
      refine v_iconst (v := (0 : Int32)) K dX10_lose_20 (by decide) ?_
      refine v_goto K 25 dX10_lose_21 (by decide) ?_
      exact wM_lose_25 K RT _ _ _ h
  · replace h := if_e h q3
    refine v_iconst (v := (-1 : Int32)) K dX10_lose_7 (by decide) ?_
    obtain rfl := Option.some.inj h
    exact RT _ _ dX10_lose_8
theorem cM_lose {l : Launch} {D : va_G} {c : Nat → ClassId} {ad : Nat → Nat} {s s' : SS} {x1 : Int32} {r : Int32} (h : M_lose s x1 = some (r, s')) : Ci l D c yX10_lose cX10_lose 3 (some .int) 2 [.ref (ad 0), .int x1] (wM ad c s) r (wM ad c s') := Ci.of (by decide) (Nat.le_of_ble_eq_true rfl) (fun X K RT => wM_lose K (r := (r, s')) RT s x1 h)
set_option maxHeartbeats 4000000 in
set_option maxRecDepth 100000 in
theorem wM_names_32 {ad : Nat → Nat} {X : Cx} {c : Nat → ClassId} (K : Ok X cX10_names RX10 7 2 c) {r : Int64 × SS} (RT : ∀ pc ls, decode cX10_names pc = .ok (.lreturn, 1) → V X 7 0 0 pc ls [.long r.1] (wM ad c r.2)) : ∀ (s : SS), M_names_32 s = some r → V X 7 0 0 32 [] [] (wM ad c s) := by
  intro s h
  rw [M_names_32] at h
  refine v_ldc2 (v := (-9223372036854775808 : Int64)) K kM_102 dX10_names_32 ?_
  obtain rfl := Option.some.inj h
  exact RT _ _ dX10_names_35
set_option maxHeartbeats 4000000 in
set_option maxRecDepth 100000 in
theorem wM_names {ad : Nat → Nat} {X : Cx} {c : Nat → ClassId} (K : Ok X cX10_names RX10 7 2 c) {r : Int64 × SS} (RT : ∀ pc ls, decode cX10_names pc = .ok (.lreturn, 1) → V X 7 0 0 pc ls [.long r.1] (wM ad c r.2)) (s : SS) (x1 : Int32) (x2 : Int32) (x3 : Int32) (x4 : Int32) (x5 : Int32) (x6 : Int32) (h : M_names s x1 x2 x3 x4 x5 x6 = some r) : V X 7 0 0 0 [(0, .ref (ad 0)), (1, .int x1), (2, .int x2), (3, .int x3), (4, .int x4), (5, .int x5), (6, .int x6)] [] (wM ad c s) := by
  rw [M_names] at h
  refine v_iload_n K 1 rfl dX10_names_0 ?_
  refine v_iconst (v := (0 : Int32)) K dX10_names_1 (by decide) ?_
  refine v_bipush (v := (8 : Int32)) K dX10_names_2 (by decide) ?_
  obtain ⟨r2, e1, h⟩ := bnd0_e h
  refine v_callsi K [.int x1, .int (0 : Int32), .int (8 : Int32)] [] cw_RX10_104 (cM_within e1) rfl rfl (Nat.le_of_ble_eq_true rfl) (by decide) z0 dX10_names_4 ?_
  refine v_if_eq K 32 dX10_names_7 (by decide) (fun q3 => ?_) (fun q3 => ?_)
  · replace h := if_e h q3
    refine v_drop [] [] rfl ?_
    exact wM_names_32 K RT _ h
  · replace h := if_n h q3
    refine v_iload_n K 2 rfl dX10_names_10 ?_
    refine v_iload_n K 3 rfl dX10_names_11 ?_
    refine v_iload K 4 rfl dX10_names_12 ?_
    refine v_iload K 5 rfl dX10_names_14 ?_
    obtain ⟨r5, e4, h⟩ := bnd0_e h
    refine v_callsi K [.int x2, .int x3, .int x4, .int x5] [] cw_RX10_269 (cM_areNames e4) rfl rfl (Nat.le_of_ble_eq_true rfl) (by decide) z0 dX10_names_16 ?_
    refine v_if_eq K 32 dX10_names_19 (by decide) (fun q6 => ?_) (fun q6 => ?_)
    · replace h := if_e h q6
      refine v_drop [] [] rfl ?_
      exact wM_names_32 K RT _ h
    · replace h := if_n h q6
      refine v_iload K 6 rfl dX10_names_22 ?_
      refine v_iconst (v := (0 : Int32)) K dX10_names_24 (by decide) ?_
      refine v_iconst (v := (1 : Int32)) K dX10_names_25 (by decide) ?_
      obtain ⟨r8, e7, h⟩ := bnd0_e h
      refine v_callsi K [.int x6, .int (0 : Int32), .int (1 : Int32)] [] cw_RX10_104 (cM_within e7) rfl rfl (Nat.le_of_ble_eq_true rfl) (by decide) z0 dX10_names_26 ?_
      refine v_if_ne K 36 dX10_names_29 (by decide) (fun q9 => ?_) (fun q9 => ?_)
      · replace h := if_n h q9
        refine v_iload_n K 1 rfl dX10_names_36 ?_
        refine v_iload_n K 2 rfl dX10_names_37 ?_
        refine v_iload_n K 3 rfl dX10_names_38 ?_
        refine v_iload K 4 rfl dX10_names_39 ?_
        refine v_iload K 5 rfl dX10_names_41 ?_
        obtain ⟨r11, e10, h⟩ := bnd0_e h
        refine v_callsl K [.int x1, .int x2, .int x3, .int x4, .int x5] [] cw_RX10_273 (cM_awaited e10) rfl rfl (Nat.le_of_ble_eq_true rfl) (by decide) z0 dX10_names_43 ?_
        refine v_iload_n K 1 rfl dX10_names_46 ?_
        obtain ⟨r13, e12, h⟩ := bnd0_e h
        refine v_callsl K [.int x1] [.long r11] cw_RX10_277 (cM_hundreds e12) rfl rfl (Nat.le_of_ble_eq_true rfl) (by decide) z0 dX10_names_47 ?_
        refine v_iload K 6 rfl dX10_names_50 ?_
        obtain ⟨r15, e14, h⟩ := bnd0_e h
        refine v_callsl K [.long r11, .long r13, .int x6] [] cw_RX10_281 (cM_share e14) rfl rfl (Nat.le_of_ble_eq_true rfl) (by decide) z0 dX10_names_52 ?_
        obtain rfl := Option.some.inj h
        exact RT _ _ dX10_names_55
      · replace h := if_e h q9
        refine v_drop [] [] rfl ?_
        exact wM_names_32 K RT _ h
theorem cM_names {l : Launch} {D : va_G} {c : Nat → ClassId} {ad : Nat → Nat} {s s' : SS} {x1 : Int32} {x2 : Int32} {x3 : Int32} {x4 : Int32} {x5 : Int32} {x6 : Int32} {r : Int64} (h : M_names s x1 x2 x3 x4 x5 x6 = some (r, s')) : Cl l D c yX10_names cX10_names 7 (some .long) 2 [.ref (ad 0), .int x1, .int x2, .int x3, .int x4, .int x5, .int x6] (wM ad c s) r (wM ad c s') := Cl.of (by decide) (Nat.le_of_ble_eq_true rfl) (fun X K RT => wM_names K (r := (r, s')) RT s x1 x2 x3 x4 x5 x6 h)
set_option maxHeartbeats 4000000 in
set_option maxRecDepth 100000 in
theorem wM_put_93 {ad : Nat → Nat} {X : Cx} {c : Nat → ClassId} (K : Ok X cX10_put RX10 4 2 c) {r : Int32 × SS} (RT : ∀ pc ls, decode cX10_put pc = .ok (.ireturn, 1) → V X 4 0 0 pc ls [.int r.1] (wM ad c r.2)) : ∀ (y1 : Int32) (y2 : Int32) (s : SS), M_put_93 y1 y2 s = some r → V X 4 0 0 93 [] [.int y2, .int y1, .ref (ad 4)] (wM ad c s) := by
  intro y1 y2 s h
  rw [M_put_93] at h
  obtain ⟨b20, h⟩ := ob_e h
  refine sM_4 K b20 dX10_put_93 ?_
  refine v_iconst (v := (1 : Int32)) K dX10_put_94 (by decide) ?_
  obtain rfl := Option.some.inj h
  exact RT _ _ dX10_put_95
set_option maxHeartbeats 4000000 in
set_option maxRecDepth 100000 in
theorem wM_put {ad : Nat → Nat} {X : Cx} {c : Nat → ClassId} (K : Ok X cX10_put RX10 4 2 c) {r : Int32 × SS} (RT : ∀ pc ls, decode cX10_put pc = .ok (.ireturn, 1) → V X 4 0 0 pc ls [.int r.1] (wM ad c r.2)) (s : SS) (x1 : Int32) (x2 : Int32) (x3 : Int32) (h : M_put s x1 x2 x3 = some r) : V X 4 0 0 0 [(0, .ref (ad 0)), (1, .int x1), (2, .int x2), (3, .int x3)] [] (wM ad c s) := by
  rw [M_put] at h
  refine v_aload_n K 0 rfl dX10_put_0 ?_
  refine v_iconst (v := (0 : Int32)) K dX10_put_1 (by decide) ?_
  refine pM_0 K dX10_put_2 ?_
  refine v_iload_n K 1 rfl dX10_put_5 ?_
  obtain ⟨r2, e1, h⟩ := bnd0_e h
  refine v_callsi K [.int x1] [] cw_RX10_114 (cM_isSheet e1) rfl rfl (Nat.le_of_ble_eq_true rfl) (by decide) z0 dX10_put_6 ?_
  refine v_if_ne K 14 dX10_put_9 (by decide) (fun q3 => ?_) (fun q3 => ?_)
  · replace h := if_n h q3
    refine v_aload_n K 0 rfl dX10_put_14 ?_
    refine gM_2 K dX10_put_15 ?_
    refine v_iload_n K 1 rfl dX10_put_18 ?_
    obtain ⟨b4, h⟩ := ob_e h
    refine lM_2 (v := (s 2 x1.toNatClampNeg)) K b4 dX10_put_19 rfl ?_
    refine v_bipush (v := (-9 : Int32)) K dX10_put_20 (by decide) ?_
    refine v_icmp_ne K 31 dX10_put_22 (by decide) (fun q5 => ?_) (fun q5 => ?_)
    · replace h := if_n h q5
      refine v_iload_n K 2 rfl dX10_put_31 ?_
      refine v_iconst (v := (0 : Int32)) K dX10_put_32 (by decide) ?_
      refine v_aload_n K 0 rfl dX10_put_33 ?_
      refine gM_3 K dX10_put_34 ?_
      refine v_iload_n K 1 rfl dX10_put_37 ?_
      obtain ⟨b6, h⟩ := ob_e h
      refine lM_3 (v := (s 3 x1.toNatClampNeg)) K b6 dX10_put_38 rfl ?_
      refine v_iconst (v := (1 : Int32)) K dX10_put_39 (by decide) ?_
      refine v_isub K dX10_put_40 ?_
      obtain ⟨r8, e7, h⟩ := bnd0_e h
      refine v_callsi K [.int x2, .int (0 : Int32), .int ((s 3 x1.toNatClampNeg) - (1 : Int32))] [] cw_RX10_104 (cM_within e7) rfl rfl (Nat.le_of_ble_eq_true rfl) (by decide) z0 dX10_put_41 ?_
      refine v_if_ne K 53 dX10_put_44 (by decide) (fun q9 => ?_) (fun q9 => ?_)
      · replace h := if_n h q9
        refine v_aload_n K 0 rfl dX10_put_53 ?_
        refine gM_4 K dX10_put_54 ?_
        refine v_bipush (v := (40 : Int32)) K dX10_put_57 (by decide) ?_
        refine v_iload_n K 1 rfl dX10_put_59 ?_
        refine v_imul K dX10_put_60 ?_
        refine v_iload_n K 2 rfl dX10_put_61 ?_
        refine v_iadd K dX10_put_62 ?_
        refine v_aload_n K 0 rfl dX10_put_63 ?_
        refine gM_2 K dX10_put_64 ?_
        refine v_iload_n K 1 rfl dX10_put_67 ?_
        obtain ⟨b10, h⟩ := ob_e h
        refine lM_2 (v := (s 2 x1.toNatClampNeg)) K b10 dX10_put_68 rfl ?_
        refine v_if_ne K 77 dX10_put_69 (by decide) (fun q11 => ?_) (fun q11 => ?_)
        · replace h := if_n h q11
          refine v_aload_n K 0 rfl dX10_put_77 ?_
          refine gM_2 K dX10_put_78 ?_
          refine v_iload_n K 1 rfl dX10_put_81 ?_
          obtain ⟨b12, h⟩ := ob_e h
          refine lM_2 (v := (s 2 x1.toNatClampNeg)) K b12 dX10_put_82 rfl ?_
          refine v_iconst (v := (1 : Int32)) K dX10_put_83 (by decide) ?_
          refine v_icmp_ne K 92 dX10_put_84 (by decide) (fun q13 => ?_) (fun q13 => ?_)
          · replace h := if_n h q13
            refine v_iload_n K 3 rfl dX10_put_92 ?_
            refine v_drop [] [] rfl ?_
            exact wM_put_93 K RT _ _ _ h
          · replace h := if_e h q13
            refine v_iload_n K 3 rfl dX10_put_87 ?_
            refine v_i2s K dX10_put_88 ?_
            refine v_goto K 93 dX10_put_89 (by decide) ?_
            refine v_drop [] [] rfl ?_
            exact wM_put_93 K RT _ _ _ h
        · replace h := if_e h q11
          refine v_iload_n K 3 rfl dX10_put_72 ?_
          refine v_i2b K dX10_put_73 ?_
          refine v_goto K 93 dX10_put_74 (by decide) ?_
          refine v_drop [] [] rfl ?_
          exact wM_put_93 K RT _ _ _ h
      · replace h := if_e h q9
        refine v_aload_n K 0 rfl dX10_put_47 ?_
        refine v_iconst (v := (3 : Int32)) K dX10_put_48 (by decide) ?_
        obtain ⟨r16, s15, e14, h⟩ := bnd_e h
        refine vM_calli K [.int (3 : Int32)] [] cw_RX10_125 (cM_fails e14) rfl rfl (Nat.le_of_ble_eq_true rfl) (by decide) dX10_put_49 ?_
        obtain rfl := Option.some.inj h
        exact RT _ _ dX10_put_52
    · replace h := if_e h q5
      refine v_aload_n K 0 rfl dX10_put_25 ?_
      refine v_iconst (v := (1 : Int32)) K dX10_put_26 (by decide) ?_
      obtain ⟨r19, s18, e17, h⟩ := bnd_e h
      refine vM_calli K [.int (1 : Int32)] [] cw_RX10_125 (cM_fails e17) rfl rfl (Nat.le_of_ble_eq_true rfl) (by decide) dX10_put_27 ?_
      obtain rfl := Option.some.inj h
      exact RT _ _ dX10_put_30
  · replace h := if_e h q3
    refine v_iconst (v := (-1 : Int32)) K dX10_put_12 (by decide) ?_
    obtain rfl := Option.some.inj h
    exact RT _ _ dX10_put_13
theorem cM_put {l : Launch} {D : va_G} {c : Nat → ClassId} {ad : Nat → Nat} {s s' : SS} {x1 : Int32} {x2 : Int32} {x3 : Int32} {r : Int32} (h : M_put s x1 x2 x3 = some (r, s')) : Ci l D c yX10_put cX10_put 4 (some .int) 2 [.ref (ad 0), .int x1, .int x2, .int x3] (wM ad c s) r (wM ad c s') := Ci.of (by decide) (Nat.le_of_ble_eq_true rfl) (fun X K RT => wM_put K (r := (r, s')) RT s x1 x2 x3 h)
set_option maxHeartbeats 4000000 in
set_option maxRecDepth 100000 in
theorem wM_sheet_57 {ad : Nat → Nat} {X : Cx} {c : Nat → ClassId} (K : Ok X cX10_sheet RX10 5 2 c) {r : Int32 × SS} (RT : ∀ pc ls, decode cX10_sheet pc = .ok (.ireturn, 1) → V X 5 0 0 pc ls [.int r.1] (wM ad c r.2)) : ∀ (n : Nat) (x1 : Int32) (x4 : Int32) (s : SS), M_sheet_57 n x1 x4 s = some r → V X 5 0 0 57 [(0, .ref (ad 0)), (1, .int x1), (4, .int x4)] [] (wM ad c s) := by
  intro n
  induction n with
  | zero => intro _ _ _ h; cases h
  | succ n ih =>
    intro x1 x4 s h
    rw [M_sheet_57] at h
    refine v_iload K 2 rfl dX10_sheet_57 ?_
    refine v_bipush (v := (40 : Int32)) K dX10_sheet_59 (by decide) ?_
    refine v_icmp_ge K 83 dX10_sheet_61 (by decide) (fun q14 => ?_) (fun q14 => ?_)
    · replace h := if_e h q14
      refine v_iconst (v := (1 : Int32)) K dX10_sheet_83 (by decide) ?_
      obtain rfl := Option.some.inj h
      exact RT _ _ dX10_sheet_84
    · replace h := if_n h q14
      refine v_aload_n K 0 rfl dX10_sheet_64 ?_
      refine gM_4 K dX10_sheet_65 ?_
      refine v_bipush (v := (40 : Int32)) K dX10_sheet_68 (by decide) ?_
      refine v_iload_n K 1 rfl dX10_sheet_70 ?_
      refine v_imul K dX10_sheet_71 ?_
      refine v_iload K 2 rfl dX10_sheet_72 ?_
      refine v_iadd K dX10_sheet_74 ?_
      refine v_iconst (v := (0 : Int32)) K dX10_sheet_75 (by decide) ?_
      obtain ⟨b15, h⟩ := ob_e h
      refine sM_4 K b15 dX10_sheet_76 ?_
      refine v_iinc (v := (x4 + (1 : Int32))) K 2 [(0, .ref (ad 0)), (1, .int x1), (4, .int (x4 + (1 : Int32)))] [1, 2, 0] dX10_sheet_77 rfl rfl (by decide) rfl ?_
      refine v_goto K 57 dX10_sheet_80 (by decide) ?_
      exact ih _ _ _ h
set_option maxHeartbeats 4000000 in
set_option maxRecDepth 100000 in
theorem wM_sheet_27 {ad : Nat → Nat} {X : Cx} {c : Nat → ClassId} (K : Ok X cX10_sheet RX10 5 2 c) {r : Int32 × SS} (RT : ∀ pc ls, decode cX10_sheet pc = .ok (.ireturn, 1) → V X 5 0 0 pc ls [.int r.1] (wM ad c r.2)) : ∀ (s : SS), M_sheet_27 s = some r → V X 5 0 0 27 [] [] (wM ad c s) := by
  intro s h
  rw [M_sheet_27] at h
  refine v_bipush (v := (-2 : Int32)) K dX10_sheet_27 (by decide) ?_
  obtain rfl := Option.some.inj h
  exact RT _ _ dX10_sheet_29
set_option maxHeartbeats 4000000 in
set_option maxRecDepth 100000 in
theorem wM_sheet {ad : Nat → Nat} {X : Cx} {c : Nat → ClassId} (K : Ok X cX10_sheet RX10 5 2 c) {r : Int32 × SS} (RT : ∀ pc ls, decode cX10_sheet pc = .ok (.ireturn, 1) → V X 5 0 0 pc ls [.int r.1] (wM ad c r.2)) (s : SS) (x1 : Int32) (x2 : Int32) (x3 : Int32) (h : M_sheet s x1 x2 x3 = some r) : V X 5 0 0 0 [(0, .ref (ad 0)), (1, .int x1), (2, .int x2), (3, .int x3)] [] (wM ad c s) := by
  rw [M_sheet] at h
  refine v_aload_n K 0 rfl dX10_sheet_0 ?_
  refine v_iconst (v := (0 : Int32)) K dX10_sheet_1 (by decide) ?_
  refine pM_0 K dX10_sheet_2 ?_
  refine v_iload_n K 1 rfl dX10_sheet_5 ?_
  obtain ⟨r2, e1, h⟩ := bnd0_e h
  refine v_callsi K [.int x1] [] cw_RX10_114 (cM_isSheet e1) rfl rfl (Nat.le_of_ble_eq_true rfl) (by decide) z0 dX10_sheet_6 ?_
  refine v_if_ne K 14 dX10_sheet_9 (by decide) (fun q3 => ?_) (fun q3 => ?_)
  · replace h := if_n h q3
    refine v_iload_n K 2 rfl dX10_sheet_14 ?_
    obtain ⟨r5, e4, h⟩ := bnd0_e h
    refine v_callsi K [.int x2] [] cw_RX10_118 (cM_isSort e4) rfl rfl (Nat.le_of_ble_eq_true rfl) (by decide) z0 dX10_sheet_15 ?_
    refine v_if_eq K 27 dX10_sheet_18 (by decide) (fun q6 => ?_) (fun q6 => ?_)
    · replace h := if_e h q6
      refine v_drop [] [] rfl ?_
      exact wM_sheet_27 K RT _ h
    · replace h := if_n h q6
      refine v_iload_n K 3 rfl dX10_sheet_21 ?_
      refine v_bipush (v := (40 : Int32)) K dX10_sheet_22 (by decide) ?_
      refine v_icmp_le K 30 dX10_sheet_24 (by decide) (fun q7 => ?_) (fun q7 => ?_)
      · replace h := if_e h q7
        refine v_iload_n K 3 rfl dX10_sheet_30 ?_
        refine v_if_ge K 40 dX10_sheet_31 (by decide) (fun q8 => ?_) (fun q8 => ?_)
        · replace h := if_e h q8
          refine v_aload_n K 0 rfl dX10_sheet_40 ?_
          refine gM_2 K dX10_sheet_41 ?_
          refine v_iload_n K 1 rfl dX10_sheet_44 ?_
          refine v_iload_n K 2 rfl dX10_sheet_45 ?_
          obtain ⟨b9, h⟩ := ob_e h
          refine sM_2 K b9 dX10_sheet_46 ?_
          refine v_aload_n K 0 rfl dX10_sheet_47 ?_
          refine gM_3 K dX10_sheet_48 ?_
          refine v_iload_n K 1 rfl dX10_sheet_51 ?_
          refine v_iload_n K 3 rfl dX10_sheet_52 ?_
          obtain ⟨b10, h⟩ := ob_e h
          refine sM_3 K b10 dX10_sheet_53 ?_
          refine v_iconst (v := (0 : Int32)) K dX10_sheet_54 (by decide) ?_
          refine v_istore K [(0, .ref (ad 0)), (1, .int x1), (4, .int (0 : Int32))] [1, 2, 0] dX10_sheet_55 (by decide) rfl ?_
          exact wM_sheet_57 K RT fuel _ _ _ h
        · replace h := if_n h q8
          refine v_aload_n K 0 rfl dX10_sheet_34 ?_
          refine v_iconst (v := (4 : Int32)) K dX10_sheet_35 (by decide) ?_
          obtain ⟨r13, s12, e11, h⟩ := bnd_e h
          refine vM_calli K [.int (4 : Int32)] [] cw_RX10_125 (cM_fails e11) rfl rfl (Nat.le_of_ble_eq_true rfl) (by decide) dX10_sheet_36 ?_
          obtain rfl := Option.some.inj h
          exact RT _ _ dX10_sheet_39
      · replace h := if_n h q7
        refine v_drop [] [] rfl ?_
        exact wM_sheet_27 K RT _ h
  · replace h := if_e h q3
    refine v_iconst (v := (-1 : Int32)) K dX10_sheet_12 (by decide) ?_
    obtain rfl := Option.some.inj h
    exact RT _ _ dX10_sheet_13
theorem cM_sheet {l : Launch} {D : va_G} {c : Nat → ClassId} {ad : Nat → Nat} {s s' : SS} {x1 : Int32} {x2 : Int32} {x3 : Int32} {r : Int32} (h : M_sheet s x1 x2 x3 = some (r, s')) : Ci l D c yX10_sheet cX10_sheet 5 (some .int) 2 [.ref (ad 0), .int x1, .int x2, .int x3] (wM ad c s) r (wM ad c s') := Ci.of (by decide) (Nat.le_of_ble_eq_true rfl) (fun X K RT => wM_sheet K (r := (r, s')) RT s x1 x2 x3 h)
set_option maxHeartbeats 4000000 in
set_option maxRecDepth 100000 in
theorem wM_take_67 {ad : Nat → Nat} {X : Cx} {c : Nat → ClassId} (K : Ok X cX10_take RX10 11 2 c) {r : Int32 × SS} (RT : ∀ pc ls, decode cX10_take pc = .ok (.ireturn, 1) → V X 11 0 0 pc ls [.int r.1] (wM ad c r.2)) {k23 : Int32 → Int32 → Int32 → Int32 → Int32 → Int64 → Int32 → SS → Option (Int32 × SS)} (hk23 : ∀ (x1 : Int32) (x2 : Int32) (x3 : Int32) (x4 : Int32) (x5 : Int32) (x6 : Int64) (x8 : Int32) (s : SS), k23 x1 x2 x3 x4 x5 x6 x8 s = some r → V X 11 0 0 23 [(1, .int x1), (2, .int x2), (3, .int x3), (4, .int x4), (5, .int x5), (6, .long x6), (8, .int x8)] [] (wM ad c s)) : ∀ (x1 : Int32) (x2 : Int32) (x3 : Int32) (x4 : Int32) (x5 : Int32) (x6 : Int64) (x8 : Int32) (s : SS), M_take_67 k23 x1 x2 x3 x4 x5 x6 x8 s = some r → V X 11 0 0 67 [(1, .int x1), (2, .int x2), (3, .int x3), (4, .int x4), (5, .int x5), (6, .long x6), (8, .int x8)] [] (wM ad c s) := by
  intro x1 x2 x3 x4 x5 x6 x8 s h
  rw [M_take_67] at h
  refine v_iinc (v := (x8 + (1 : Int32))) K 6 [(1, .int x1), (2, .int x2), (3, .int x3), (4, .int x4), (5, .int x5), (6, .long x6), (8, .int (x8 + (1 : Int32)))] [1, 2, 3, 4, 5, 6, 0] dX10_take_67 rfl rfl (by decide) rfl ?_
  refine v_goto K 23 dX10_take_70 (by decide) ?_
  exact hk23 _ _ _ _ _ _ _ _ h
set_option maxHeartbeats 4000000 in
set_option maxRecDepth 100000 in
theorem wM_take_23 {ad : Nat → Nat} {X : Cx} {c : Nat → ClassId} (K : Ok X cX10_take RX10 11 2 c) {r : Int32 × SS} (RT : ∀ pc ls, decode cX10_take pc = .ok (.ireturn, 1) → V X 11 0 0 pc ls [.int r.1] (wM ad c r.2)) : ∀ (n : Nat) (x1 : Int32) (x2 : Int32) (x3 : Int32) (x4 : Int32) (x5 : Int32) (x6 : Int64) (x8 : Int32) (s : SS), M_take_23 n x1 x2 x3 x4 x5 x6 x8 s = some r → V X 11 0 0 23 [(1, .int x1), (2, .int x2), (3, .int x3), (4, .int x4), (5, .int x5), (6, .long x6), (8, .int x8)] [] (wM ad c s) := by
  intro n
  induction n with
  | zero => intro _ _ _ _ _ _ _ _ h; cases h
  | succ n ih =>
    intro x1 x2 x3 x4 x5 x6 x8 s h
    rw [M_take_23] at h
    refine v_iload K 6 rfl dX10_take_23 ?_
    refine v_bipush (v := (8 : Int32)) K dX10_take_25 (by decide) ?_
    refine v_icmp_gt K 73 dX10_take_27 (by decide) (fun q4 => ?_) (fun q4 => ?_)
    · replace h := if_e h q4
      refine v_iload K 4 rfl dX10_take_73 ?_
      obtain rfl := Option.some.inj h
      exact RT _ _ dX10_take_75
    · replace h := if_n h q4
      refine v_iload K 6 rfl dX10_take_30 ?_
      refine v_iload_n K 0 rfl dX10_take_32 ?_
      refine v_iload_n K 1 rfl dX10_take_33 ?_
      refine v_iload_n K 2 rfl dX10_take_34 ?_
      refine v_iload K 3 rfl dX10_take_35 ?_
      obtain ⟨r6, e5, h⟩ := bnd0_e h
      refine v_callsl K [.int x8, .int x1, .int x2, .int x3, .int x4] [] cw_RX10_273 (cM_awaited e5) rfl rfl (Nat.le_of_ble_eq_true rfl) (by decide) z0 dX10_take_37 ?_
      refine v_bipush (v := (8 : Int32)) K dX10_take_40 (by decide) ?_
      refine v_iload K 6 rfl dX10_take_42 ?_
      refine v_isub K dX10_take_44 ?_
      obtain ⟨r8, e7, h⟩ := bnd0_e h
      refine v_callsl K [.int ((8 : Int32) - x8)] [.long r6] cw_RX10_277 (cM_hundreds e7) rfl rfl (Nat.le_of_ble_eq_true rfl) (by decide) z0 dX10_take_45 ?_
      refine v_lmul K dX10_take_48 ?_
      refine v_lstore K [(1, .int x1), (2, .int x2), (3, .int x3), (4, .int x4), (5, .int x5), (6, .long x6), (8, .int x8), (9, .long (r6 * r8))] [1, 2, 3, 4, 5, 6, 7, 0] dX10_take_49 (by decide) rfl ?_
      refine v_lload K 7 rfl dX10_take_51 ?_
      refine v_lload K 5 rfl dX10_take_53 ?_
      refine v_lcmp K dX10_take_55 ?_
      refine v_if_le K 67 dX10_take_56 (by decide) (fun q9 => ?_) (fun q9 => ?_)
      · replace h := if_e h q9
        refine v_drop [(1, .int x1), (2, .int x2), (3, .int x3), (4, .int x4), (5, .int x5), (6, .long x6), (8, .int x8)] [0, 1, 2, 3, 4, 5, 6] rfl ?_
        exact wM_take_67 K RT (fun a0 a1 a2 a3 a4 a5 a6 a7 e => ih a0 a1 a2 a3 a4 a5 a6 a7 e) _ _ _ _ _ _ _ _ h
      · replace h := if_n h q9
        refine v_lload K 7 rfl dX10_take_59 ?_
        refine v_lstore K [(1, .int x1), (2, .int x2), (3, .int x3), (4, .int x4), (6, .long (r6 * r8)), (8, .int x8)] [1, 2, 3, 4, 0, 6] dX10_take_61 (by decide) rfl ?_
        refine v_iload K 5 rfl dX10_take_63 ?_
        refine v_istore K [(1, .int x1), (2, .int x2), (3, .int x3), (4, .int x4), (5, .int x8), (6, .long (r6 * r8)), (8, .int x8)] [1, 2, 3, 4, 0, 5, 6] dX10_take_65 (by decide) rfl ?_
        exact wM_take_67 K RT (fun a0 a1 a2 a3 a4 a5 a6 a7 e => ih a0 a1 a2 a3 a4 a5 a6 a7 e) _ _ _ _ _ _ _ _ h
set_option maxHeartbeats 4000000 in
set_option maxRecDepth 100000 in
theorem wM_take {ad : Nat → Nat} {X : Cx} {c : Nat → ClassId} (K : Ok X cX10_take RX10 11 2 c) {r : Int32 × SS} (RT : ∀ pc ls, decode cX10_take pc = .ok (.ireturn, 1) → V X 11 0 0 pc ls [.int r.1] (wM ad c r.2)) (s : SS) (x1 : Int32) (x2 : Int32) (x3 : Int32) (x4 : Int32) (h : M_take s x1 x2 x3 x4 = some r) : V X 11 0 0 0 [(0, .ref (ad 0)), (1, .int x1), (2, .int x2), (3, .int x3), (4, .int x4)] [] (wM ad c s) := by
  rw [M_take] at h
  refine v_iload_n K 1 rfl dX10_take_0 ?_
  refine v_iload_n K 2 rfl dX10_take_1 ?_
  refine v_iload_n K 3 rfl dX10_take_2 ?_
  refine v_iload K 4 rfl dX10_take_3 ?_
  obtain ⟨r2, e1, h⟩ := bnd0_e h
  refine v_callsi K [.int x1, .int x2, .int x3, .int x4] [] cw_RX10_269 (cM_areNames e1) rfl rfl (Nat.le_of_ble_eq_true rfl) (by decide) z0 dX10_take_5 ?_
  refine v_if_ne K 14 dX10_take_8 (by decide) (fun q3 => ?_) (fun q3 => ?_)
  · replace h := if_n h q3
    refine v_iconst (v := (0 : Int32)) K dX10_take_14 (by decide) ?_
    refine v_istore K [(0, .ref (ad 0)), (1, .int x1), (2, .int x2), (3, .int x3), (4, .int x4), (5, .int (0 : Int32))] [1, 2, 3, 4, 5, 0] dX10_take_15 (by decide) rfl ?_
    refine v_lconst (v := (0 : Int64)) K dX10_take_17 (by decide) ?_
    refine v_lstore K [(0, .ref (ad 0)), (1, .int x1), (2, .int x2), (3, .int x3), (4, .int x4), (5, .int (0 : Int32)), (6, .long (0 : Int64))] [1, 2, 3, 4, 5, 6, 0] dX10_take_18 (by decide) rfl ?_
    refine v_iconst (v := (1 : Int32)) K dX10_take_20 (by decide) ?_
    refine v_istore K [(0, .ref (ad 0)), (1, .int x1), (2, .int x2), (3, .int x3), (4, .int x4), (5, .int (0 : Int32)), (6, .long (0 : Int64)), (8, .int (1 : Int32))] [1, 2, 3, 4, 5, 6, 7, 0] dX10_take_21 (by decide) rfl ?_
    refine v_drop [(1, .int x1), (2, .int x2), (3, .int x3), (4, .int x4), (5, .int (0 : Int32)), (6, .long (0 : Int64)), (8, .int (1 : Int32))] [1, 2, 3, 4, 5, 6, 7] rfl ?_
    exact wM_take_23 K RT fuel _ _ _ _ _ _ _ _ h
  · replace h := if_e h q3
    refine v_bipush (v := (-2 : Int32)) K dX10_take_11 (by decide) ?_
    obtain rfl := Option.some.inj h
    exact RT _ _ dX10_take_13
theorem cM_take {l : Launch} {D : va_G} {c : Nat → ClassId} {ad : Nat → Nat} {s s' : SS} {x1 : Int32} {x2 : Int32} {x3 : Int32} {x4 : Int32} {r : Int32} (h : M_take s x1 x2 x3 x4 = some (r, s')) : Ci l D c yX10_take cX10_take 11 (some .int) 2 [.ref (ad 0), .int x1, .int x2, .int x3, .int x4] (wM ad c s) r (wM ad c s') := Ci.of (by decide) (Nat.le_of_ble_eq_true rfl) (fun X K RT => wM_take K (r := (r, s')) RT s x1 x2 x3 x4 h)
set_option maxHeartbeats 4000000 in
set_option maxRecDepth 100000 in
theorem wM_takesTable_81 {ad : Nat → Nat} {X : Cx} {c : Nat → ClassId} (K : Ok X cX10_takesTable RX10 3 2 c) {r : Int32 × SS} (RT : nb r.1 = true → ∀ pc ls, decode cX10_takesTable pc = .ok (.ireturn, 1) → V X 3 0 0 pc ls [.int r.1] (wM ad c r.2)) : ∀ (y0 : Int32) (s : SS), M_takesTable_81 y0 s = some r → V X 3 0 0 81 [] [.int y0] (wM ad c s) := by
  intro y0 s h
  rw [M_takesTable_81] at h
  obtain ⟨b21, h⟩ := ob_e h
  obtain rfl := Option.some.inj h
  exact RT b21 _ _ dX10_takesTable_81
set_option maxHeartbeats 4000000 in
set_option maxRecDepth 100000 in
theorem wM_takesTable_80 {ad : Nat → Nat} {X : Cx} {c : Nat → ClassId} (K : Ok X cX10_takesTable RX10 3 2 c) {r : Int32 × SS} (RT : nb r.1 = true → ∀ pc ls, decode cX10_takesTable pc = .ok (.ireturn, 1) → V X 3 0 0 pc ls [.int r.1] (wM ad c r.2)) : ∀ (s : SS), M_takesTable_80 s = some r → V X 3 0 0 80 [] [] (wM ad c s) := by
  intro s h
  rw [M_takesTable_80] at h
  refine v_iconst (v := (0 : Int32)) K dX10_takesTable_80 (by decide) ?_
  exact wM_takesTable_81 K RT _ _ h
set_option maxHeartbeats 4000000 in
set_option maxRecDepth 100000 in
theorem wM_takesTable_46 {ad : Nat → Nat} {X : Cx} {c : Nat → ClassId} (K : Ok X cX10_takesTable RX10 3 2 c) {r : Int32 × SS} (RT : nb r.1 = true → ∀ pc ls, decode cX10_takesTable pc = .ok (.ireturn, 1) → V X 3 0 0 pc ls [.int r.1] (wM ad c r.2)) : ∀ (x1 : Int32) (x2 : Int32) (s : SS), M_takesTable_46 x1 x2 s = some r → V X 3 0 0 46 [(0, .ref (ad 0)), (1, .int x1), (2, .int x2)] [] (wM ad c s) := by
  intro x1 x2 s h
  rw [M_takesTable_46] at h
  refine v_iload_n K 2 rfl dX10_takesTable_46 ?_
  refine v_bipush (v := (-9 : Int32)) K dX10_takesTable_47 (by decide) ?_
  refine v_icmp_eq K 61 dX10_takesTable_49 (by decide) (fun q13 => ?_) (fun q13 => ?_)
  · replace h := if_e h q13
    refine v_aload_n K 0 rfl dX10_takesTable_61 ?_
    refine gM_10 (v := (s 0 10)) K dX10_takesTable_62 rfl ?_
    refine v_if_eq K 80 dX10_takesTable_65 (by decide) (fun q14 => ?_) (fun q14 => ?_)
    · replace h := if_e h q14
      refine v_drop [] [] rfl ?_
      exact wM_takesTable_80 K RT _ h
    · replace h := if_n h q14
      refine v_aload_n K 0 rfl dX10_takesTable_68 ?_
      refine v_iload_n K 1 rfl dX10_takesTable_69 ?_
      obtain ⟨r17, s16, e15, h⟩ := bnd_e h
      refine vM_calli K [.int x1] [] cw_RX10_227 (cM_joinsTwo e15) rfl rfl (Nat.le_of_ble_eq_true rfl) (by decide) dX10_takesTable_70 ?_
      refine v_if_eq K 80 dX10_takesTable_73 (by decide) (fun q18 => ?_) (fun q18 => ?_)
      · replace h := if_e h q18
        refine v_drop [] [] rfl ?_
        exact wM_takesTable_80 K RT _ h
      · replace h := if_n h q18
        refine v_iconst (v := (1 : Int32)) K dX10_takesTable_76 (by decide) ?_
        refine v_goto K 81 dX10_takesTable_77 (by decide) ?_
        refine v_drop [] [] rfl ?_
        exact wM_takesTable_81 K RT _ _ h
  · replace h := if_n h q13
    refine v_aload_n K 0 rfl dX10_takesTable_52 ?_
    refine gM_30 K dX10_takesTable_53 ?_
    refine v_iload_n K 2 rfl dX10_takesTable_56 ?_
    refine v_iload_n K 1 rfl dX10_takesTable_57 ?_
    obtain ⟨b19, h⟩ := ob_e h
    refine sM_30 K b19 dX10_takesTable_58 ?_
    refine v_iconst (v := (1 : Int32)) K dX10_takesTable_59 (by decide) ?_
    obtain ⟨b20, h⟩ := ob_e h
    obtain rfl := Option.some.inj h
    exact RT b20 _ _ dX10_takesTable_60
set_option maxHeartbeats 4000000 in
set_option maxRecDepth 100000 in
theorem wM_takesTable_45 {ad : Nat → Nat} {X : Cx} {c : Nat → ClassId} (K : Ok X cX10_takesTable RX10 3 2 c) {r : Int32 × SS} (RT : nb r.1 = true → ∀ pc ls, decode cX10_takesTable pc = .ok (.ireturn, 1) → V X 3 0 0 pc ls [.int r.1] (wM ad c r.2)) : ∀ (y0 : Int32) (x1 : Int32) (s : SS), M_takesTable_45 y0 x1 s = some r → V X 3 0 0 45 [(0, .ref (ad 0)), (1, .int x1)] [.int y0] (wM ad c s) := by
  intro y0 x1 s h
  rw [M_takesTable_45] at h
  refine v_istore_n K [(0, .ref (ad 0)), (1, .int x1), (2, .int y0)] [1, 2, 0] dX10_takesTable_45 rfl (by decide) rfl ?_
  exact wM_takesTable_46 K RT _ _ _ h
set_option maxHeartbeats 4000000 in
set_option maxRecDepth 100000 in
theorem wM_takesTable_18 {ad : Nat → Nat} {X : Cx} {c : Nat → ClassId} (K : Ok X cX10_takesTable RX10 3 2 c) {r : Int32 × SS} (RT : nb r.1 = true → ∀ pc ls, decode cX10_takesTable pc = .ok (.ireturn, 1) → V X 3 0 0 pc ls [.int r.1] (wM ad c r.2)) : ∀ (x1 : Int32) (x2 : Int32) (s : SS), M_takesTable_18 x1 x2 s = some r → V X 3 0 0 18 [(0, .ref (ad 0)), (1, .int x1), (2, .int x2)] [] (wM ad c s) := by
  intro x1 x2 s h
  rw [M_takesTable_18] at h
  refine v_iload_n K 2 rfl dX10_takesTable_18 ?_
  refine v_bipush (v := (-9 : Int32)) K dX10_takesTable_19 (by decide) ?_
  refine v_icmp_ne K 46 dX10_takesTable_21 (by decide) (fun q5 => ?_) (fun q5 => ?_)
  · replace h := if_n h q5
    exact wM_takesTable_46 K RT _ _ _ h
  · replace h := if_e h q5
    refine v_aload_n K 0 rfl dX10_takesTable_24 ?_
    refine gM_26 (v := (s 0 26)) K dX10_takesTable_25 rfl ?_
    refine v_if_ne K 39 dX10_takesTable_28 (by decide) (fun q6 => ?_) (fun q6 => ?_)
    · replace h := if_n h q6
      refine v_aload_n K 0 rfl dX10_takesTable_39 ?_
      refine v_iload_n K 1 rfl dX10_takesTable_40 ?_
      refine v_iconst (v := (0 : Int32)) K dX10_takesTable_41 (by decide) ?_
      obtain ⟨r9, s8, e7, h⟩ := bnd_e h
      refine vM_calli K [.int x1, .int (0 : Int32)] [] cw_RX10_220 (cM_smallest e7) rfl rfl (Nat.le_of_ble_eq_true rfl) (by decide) dX10_takesTable_42 ?_
      refine v_drop [(0, .ref (ad 0)), (1, .int x1)] [0, 1] rfl ?_
      exact wM_takesTable_45 K RT _ _ _ h
    · replace h := if_e h q6
      refine v_aload_n K 0 rfl dX10_takesTable_31 ?_
      refine v_iload_n K 1 rfl dX10_takesTable_32 ?_
      obtain ⟨r12, s11, e10, h⟩ := bnd_e h
      refine vM_calli K [.int x1] [] cw_RX10_224 (cM_firstFor e10) rfl rfl (Nat.le_of_ble_eq_true rfl) (by decide) dX10_takesTable_33 ?_
      refine v_goto K 45 dX10_takesTable_36 (by decide) ?_
      refine v_drop [(0, .ref (ad 0)), (1, .int x1)] [0, 1] rfl ?_
      exact wM_takesTable_45 K RT _ _ _ h
set_option maxHeartbeats 4000000 in
set_option maxRecDepth 100000 in
theorem wM_takesTable {ad : Nat → Nat} {X : Cx} {c : Nat → ClassId} (K : Ok X cX10_takesTable RX10 3 2 c) {r : Int32 × SS} (RT : nb r.1 = true → ∀ pc ls, decode cX10_takesTable pc = .ok (.ireturn, 1) → V X 3 0 0 pc ls [.int r.1] (wM ad c r.2)) (s : SS) (x1 : Int32) (h : M_takesTable s x1 = some r) : V X 3 0 0 0 [(0, .ref (ad 0)), (1, .int x1)] [] (wM ad c s) := by
  rw [M_takesTable] at h
  refine v_bipush (v := (-9 : Int32)) K dX10_takesTable_0 (by decide) ?_
  refine v_istore_n K [(0, .ref (ad 0)), (1, .int x1), (2, .int (-9 : Int32))] [1, 2, 0] dX10_takesTable_2 rfl (by decide) rfl ?_
  refine v_aload_n K 0 rfl dX10_takesTable_3 ?_
  refine gM_26 (v := (s 0 26)) K dX10_takesTable_4 rfl ?_
  refine v_iconst (v := (2 : Int32)) K dX10_takesTable_7 (by decide) ?_
  refine v_icmp_ne K 18 dX10_takesTable_8 (by decide) (fun q1 => ?_) (fun q1 => ?_)
  · replace h := if_n h q1
    exact wM_takesTable_18 K RT _ _ _ h
  · replace h := if_e h q1
    refine v_aload_n K 0 rfl dX10_takesTable_11 ?_
    refine v_iload_n K 1 rfl dX10_takesTable_12 ?_
    refine v_iconst (v := (1 : Int32)) K dX10_takesTable_13 (by decide) ?_
    obtain ⟨r4, s3, e2, h⟩ := bnd_e h
    refine vM_calli K [.int x1, .int (1 : Int32)] [] cw_RX10_220 (cM_smallest e2) rfl rfl (Nat.le_of_ble_eq_true rfl) (by decide) dX10_takesTable_14 ?_
    refine v_istore_n K [(0, .ref (ad 0)), (1, .int x1), (2, .int r4)] [1, 2, 0] dX10_takesTable_17 rfl (by decide) rfl ?_
    exact wM_takesTable_18 K RT _ _ _ h
theorem cM_takesTable {l : Launch} {D : va_G} {c : Nat → ClassId} {ad : Nat → Nat} {s s' : SS} {x1 : Int32} {r : Int32} (h : M_takesTable s x1 = some (r, s')) : Ci l D c yX10_takesTable cX10_takesTable 3 (some .boolean) 2 [.ref (ad 0), .int x1] (wM ad c s) r (wM ad c s') := Ci.ofZ (by decide) (Nat.le_of_ble_eq_true rfl) (fun X K RT => wM_takesTable K (r := (r, s')) RT s x1 h)
set_option maxHeartbeats 4000000 in
set_option maxRecDepth 100000 in
theorem wM_plan_47 {ad : Nat → Nat} {X : Cx} {c : Nat → ClassId} (K : Ok X cX10_plan RX10 2 3 c) {r : Int32 × SS} (RT : ∀ pc ls, decode cX10_plan pc = .ok (.ireturn, 1) → V X 2 0 0 pc ls [.int r.1] (wM ad c r.2)) : ∀ (y0 : Int32) (s : SS), M_plan_47 y0 s = some r → V X 2 0 0 47 [] [.int y0] (wM ad c s) := by
  intro y0 s h
  rw [M_plan_47] at h
  obtain rfl := Option.some.inj h
  exact RT _ _ dX10_plan_47
set_option maxHeartbeats 4000000 in
set_option maxRecDepth 100000 in
theorem wM_plan {ad : Nat → Nat} {X : Cx} {c : Nat → ClassId} (K : Ok X cX10_plan RX10 2 3 c) {r : Int32 × SS} (RT : ∀ pc ls, decode cX10_plan pc = .ok (.ireturn, 1) → V X 2 0 0 pc ls [.int r.1] (wM ad c r.2)) (s : SS) (x1 : Int32) (h : M_plan s x1 = some r) : V X 2 0 0 0 [(0, .ref (ad 0)), (1, .int x1)] [] (wM ad c s) := by
  rw [M_plan] at h
  refine v_iload_n K 1 rfl dX10_plan_0 ?_
  refine v_iconst (v := (-1 : Int32)) K dX10_plan_1 (by decide) ?_
  refine v_aload_n K 0 rfl dX10_plan_2 ?_
  obtain ⟨r3, s2, e1, h⟩ := bnd_e h
  refine vM_calli K [] [.int (-1 : Int32), .int x1] cw_RX10_245 (cM_planned e1) rfl rfl (Nat.le_of_ble_eq_true rfl) (by decide) dX10_plan_3 ?_
  refine v_iconst (v := (1 : Int32)) K dX10_plan_6 (by decide) ?_
  refine v_isub K dX10_plan_7 ?_
  obtain ⟨r5, e4, h⟩ := bnd0_e h
  refine v_callsi K [.int x1, .int (-1 : Int32), .int (r3 - (1 : Int32))] [] cw_RX10_104 (cM_within e4) rfl rfl (Nat.le_of_ble_eq_true rfl) (by decide) z0 dX10_plan_8 ?_
  refine v_if_ne K 16 dX10_plan_11 (by decide) (fun q6 => ?_) (fun q6 => ?_)
  · replace h := if_n h q6
    refine v_aload_n K 0 rfl dX10_plan_16 ?_
    obtain ⟨r9, s8, e7, h⟩ := bnd_e h
    refine vM_calli K [] [] cw_RX10_152 (cM_isCafe e7) rfl rfl (Nat.le_of_ble_eq_true rfl) (by decide) dX10_plan_17 ?_
    refine v_if_ne K 26 dX10_plan_20 (by decide) (fun q10 => ?_) (fun q10 => ?_)
    · replace h := if_n h q10
      refine v_aload_n K 0 rfl dX10_plan_26 ?_
      obtain ⟨s12, e11, h⟩ := bnd0_e h
      refine vM_callv K [] [] cw_RX10_257 (cM_findPlan e11) rfl rfl (Nat.le_of_ble_eq_true rfl) (by decide) dX10_plan_27 ?_
      refine v_iload_n K 1 rfl dX10_plan_30 ?_
      refine v_if_ge K 41 dX10_plan_31 (by decide) (fun q13 => ?_) (fun q13 => ?_)
      · replace h := if_e h q13
        refine v_aload_n K 0 rfl dX10_plan_41 ?_
        refine gM_42 K dX10_plan_42 ?_
        refine v_iload_n K 1 rfl dX10_plan_45 ?_
        obtain ⟨b14, h⟩ := ob_e h
        refine lM_42 (v := (s12 42 x1.toNatClampNeg)) K b14 dX10_plan_46 rfl ?_
        refine v_drop [] [] rfl ?_
        exact wM_plan_47 K RT _ _ h
      · replace h := if_n h q13
        refine v_aload_n K 0 rfl dX10_plan_34 ?_
        refine gM_43 (v := (s12 0 43)) K dX10_plan_35 rfl ?_
        refine v_goto K 47 dX10_plan_38 (by decide) ?_
        refine v_drop [] [] rfl ?_
        exact wM_plan_47 K RT _ _ h
    · replace h := if_e h q10
      refine v_bipush (v := (-3 : Int32)) K dX10_plan_23 (by decide) ?_
      obtain rfl := Option.some.inj h
      exact RT _ _ dX10_plan_25
  · replace h := if_e h q6
    refine v_iconst (v := (-1 : Int32)) K dX10_plan_14 (by decide) ?_
    obtain rfl := Option.some.inj h
    exact RT _ _ dX10_plan_15
theorem cM_plan {l : Launch} {D : va_G} {c : Nat → ClassId} {ad : Nat → Nat} {s s' : SS} {x1 : Int32} {r : Int32} (h : M_plan s x1 = some (r, s')) : Ci l D c yX10_plan cX10_plan 2 (some .int) 3 [.ref (ad 0), .int x1] (wM ad c s) r (wM ad c s') := Ci.of (by decide) (Nat.le_of_ble_eq_true rfl) (fun X K RT => wM_plan K (r := (r, s')) RT s x1 h)
set_option maxHeartbeats 4000000 in
set_option maxRecDepth 100000 in
theorem wM_rainsOn_151 {ad : Nat → Nat} {X : Cx} {c : Nat → ClassId} (K : Ok X cX10_rainsOn RX10 3 3 c) {r : SS} (RT : ∀ pc ls, decode cX10_rainsOn pc = .ok (.return_, 1) → V X 3 0 0 pc ls [] (wM ad c r)) {k113 : Int32 → Int32 → SS → Option SS} (hk113 : ∀ (x1 : Int32) (x2 : Int32) (s : SS), k113 x1 x2 s = some r → V X 3 0 0 113 [(0, .ref (ad 0)), (1, .int x1), (2, .int x2)] [] (wM ad c s)) : ∀ (x1 : Int32) (x2 : Int32) (s : SS), M_rainsOn_151 k113 x1 x2 s = some r → V X 3 0 0 151 [(0, .ref (ad 0)), (1, .int x1), (2, .int x2)] [] (wM ad c s) := by
  intro x1 x2 s h
  rw [M_rainsOn_151] at h
  refine v_iinc (v := (x2 + (1 : Int32))) K 2 [(0, .ref (ad 0)), (1, .int x1), (2, .int (x2 + (1 : Int32)))] [1, 2, 0] dX10_rainsOn_151 rfl rfl (by decide) rfl ?_
  refine v_goto K 113 dX10_rainsOn_154 (by decide) ?_
  exact hk113 _ _ _ h
set_option maxHeartbeats 4000000 in
set_option maxRecDepth 100000 in
theorem wM_rainsOn_113 {ad : Nat → Nat} {X : Cx} {c : Nat → ClassId} (K : Ok X cX10_rainsOn RX10 3 3 c) {r : SS} (RT : ∀ pc ls, decode cX10_rainsOn pc = .ok (.return_, 1) → V X 3 0 0 pc ls [] (wM ad c r)) : ∀ (n : Nat) (x1 : Int32) (x2 : Int32) (s : SS), M_rainsOn_113 n x1 x2 s = some r → V X 3 0 0 113 [(0, .ref (ad 0)), (1, .int x1), (2, .int x2)] [] (wM ad c s) := by
  intro n
  induction n with
  | zero => intro _ _ _ h; cases h
  | succ n ih =>
    intro x1 x2 s h
    rw [M_rainsOn_113] at h
    refine v_iload_n K 2 rfl dX10_rainsOn_113 ?_
    refine v_aload_n K 0 rfl dX10_rainsOn_114 ?_
    refine gM_16 (v := (s 0 16)) K dX10_rainsOn_115 rfl ?_
    refine v_icmp_ge K 157 dX10_rainsOn_118 (by decide) (fun q18 => ?_) (fun q18 => ?_)
    · replace h := if_e h q18
      obtain rfl := Option.some.inj h
      exact RT _ _ dX10_rainsOn_157
    · replace h := if_n h q18
      refine v_aload_n K 0 rfl dX10_rainsOn_121 ?_
      refine gM_40 K dX10_rainsOn_122 ?_
      refine v_iload_n K 2 rfl dX10_rainsOn_125 ?_
      obtain ⟨b19, h⟩ := ob_e h
      refine lM_40 (v := (s 40 x2.toNatClampNeg)) K b19 dX10_rainsOn_126 rfl ?_
      refine v_if_eq K 151 dX10_rainsOn_127 (by decide) (fun q20 => ?_) (fun q20 => ?_)
      · replace h := if_e h q20
        exact wM_rainsOn_151 K RT (fun a0 a1 a2 e => ih a0 a1 a2 e) _ _ _ h
      · replace h := if_n h q20
        refine v_aload_n K 0 rfl dX10_rainsOn_130 ?_
        refine v_iload_n K 2 rfl dX10_rainsOn_131 ?_
        obtain ⟨r23, s22, e21, h⟩ := bnd_e h
        refine vM_calli K [.int x2] [] cw_RX10_211 (cM_takesTable e21) rfl rfl (Nat.le_of_ble_eq_true rfl) (by decide) dX10_rainsOn_132 ?_
        refine v_if_ne K 151 dX10_rainsOn_135 (by decide) (fun q24 => ?_) (fun q24 => ?_)
        · replace h := if_n h q24
          exact wM_rainsOn_151 K RT (fun a0 a1 a2 e => ih a0 a1 a2 e) _ _ _ h
        · replace h := if_e h q24
          refine v_aload_n K 0 rfl dX10_rainsOn_138 ?_
          refine v_iload_n K 2 rfl dX10_rainsOn_139 ?_
          refine v_iload_n K 1 rfl dX10_rainsOn_140 ?_
          obtain ⟨s26, e25, h⟩ := bnd0_e h
          refine vM_callv K [.int x2, .int x1] [] cw_RX10_191 (cM_goes e25) rfl rfl (Nat.le_of_ble_eq_true rfl) (by decide) dX10_rainsOn_141 ?_
          refine v_aload_n K 0 rfl dX10_rainsOn_144 ?_
          refine gM_35 K dX10_rainsOn_145 ?_
          refine v_iload_n K 2 rfl dX10_rainsOn_148 ?_
          refine v_iload_n K 1 rfl dX10_rainsOn_149 ?_
          obtain ⟨b27, h⟩ := ob_e h
          refine sM_35 K b27 dX10_rainsOn_150 ?_
          exact wM_rainsOn_151 K RT (fun a0 a1 a2 e => ih a0 a1 a2 e) _ _ _ h
set_option maxHeartbeats 4000000 in
set_option maxRecDepth 100000 in
theorem wM_rainsOn_104 {ad : Nat → Nat} {X : Cx} {c : Nat → ClassId} (K : Ok X cX10_rainsOn RX10 3 3 c) {r : SS} (RT : ∀ pc ls, decode cX10_rainsOn pc = .ok (.return_, 1) → V X 3 0 0 pc ls [] (wM ad c r)) {k77 : Int32 → Int32 → SS → Option SS} (hk77 : ∀ (x1 : Int32) (x2 : Int32) (s : SS), k77 x1 x2 s = some r → V X 3 0 0 77 [(0, .ref (ad 0)), (1, .int x1), (2, .int x2)] [] (wM ad c s)) : ∀ (y1 : Int32) (y2 : Int32) (x1 : Int32) (x2 : Int32) (s : SS), M_rainsOn_104 k77 y1 y2 x1 x2 s = some r → V X 3 0 0 104 [(0, .ref (ad 0)), (1, .int x1), (2, .int x2)] [.int y2, .int y1, .ref (ad 31)] (wM ad c s) := by
  intro y1 y2 x1 x2 s h
  rw [M_rainsOn_104] at h
  obtain ⟨b17, h⟩ := ob_e h
  refine sM_31 K b17 dX10_rainsOn_104 ?_
  refine v_iinc (v := (x2 + (1 : Int32))) K 2 [(0, .ref (ad 0)), (1, .int x1), (2, .int (x2 + (1 : Int32)))] [1, 2, 0] dX10_rainsOn_105 rfl rfl (by decide) rfl ?_
  refine v_goto K 77 dX10_rainsOn_108 (by decide) ?_
  exact hk77 _ _ _ h
set_option maxHeartbeats 4000000 in
set_option maxRecDepth 100000 in
theorem wM_rainsOn_77 {ad : Nat → Nat} {X : Cx} {c : Nat → ClassId} (K : Ok X cX10_rainsOn RX10 3 3 c) {r : SS} (RT : ∀ pc ls, decode cX10_rainsOn pc = .ok (.return_, 1) → V X 3 0 0 pc ls [] (wM ad c r)) : ∀ (n : Nat) (x1 : Int32) (x2 : Int32) (s : SS), M_rainsOn_77 n x1 x2 s = some r → V X 3 0 0 77 [(0, .ref (ad 0)), (1, .int x1), (2, .int x2)] [] (wM ad c s) := by
  intro n
  induction n with
  | zero => intro _ _ _ h; cases h
  | succ n ih =>
    intro x1 x2 s h
    rw [M_rainsOn_77] at h
    refine v_iload_n K 2 rfl dX10_rainsOn_77 ?_
    refine v_aload_n K 0 rfl dX10_rainsOn_78 ?_
    refine gM_23 (v := (s 0 23)) K dX10_rainsOn_79 rfl ?_
    refine v_icmp_ge K 111 dX10_rainsOn_82 (by decide) (fun q14 => ?_) (fun q14 => ?_)
    · replace h := if_e h q14
      refine v_iconst (v := (0 : Int32)) K dX10_rainsOn_111 (by decide) ?_
      refine v_istore_n K [(0, .ref (ad 0)), (1, .int x1), (2, .int (0 : Int32))] [1, 2, 0] dX10_rainsOn_112 rfl (by decide) rfl ?_
      exact wM_rainsOn_113 K RT fuel _ _ _ h
    · replace h := if_n h q14
      refine v_aload_n K 0 rfl dX10_rainsOn_85 ?_
      refine gM_31 K dX10_rainsOn_86 ?_
      refine v_iload_n K 2 rfl dX10_rainsOn_89 ?_
      refine v_aload_n K 0 rfl dX10_rainsOn_90 ?_
      refine gM_24 K dX10_rainsOn_91 ?_
      refine v_iload_n K 2 rfl dX10_rainsOn_94 ?_
      obtain ⟨b15, h⟩ := ob_e h
      refine lM_24 (v := (s 24 x2.toNatClampNeg)) K b15 dX10_rainsOn_95 rfl ?_
      refine v_if_ne K 103 dX10_rainsOn_96 (by decide) (fun q16 => ?_) (fun q16 => ?_)
      · replace h := if_n h q16
        refine v_iconst (v := (0 : Int32)) K dX10_rainsOn_103 (by decide) ?_
        exact wM_rainsOn_104 K RT (fun a0 a1 a2 e => ih a0 a1 a2 e) _ _ _ _ _ h
      · replace h := if_e h q16
        refine v_iconst (v := (1 : Int32)) K dX10_rainsOn_99 (by decide) ?_
        refine v_goto K 104 dX10_rainsOn_100 (by decide) ?_
        exact wM_rainsOn_104 K RT (fun a0 a1 a2 e => ih a0 a1 a2 e) _ _ _ _ _ h
set_option maxHeartbeats 4000000 in
set_option maxRecDepth 100000 in
theorem wM_rainsOn_69 {ad : Nat → Nat} {X : Cx} {c : Nat → ClassId} (K : Ok X cX10_rainsOn RX10 3 3 c) {r : SS} (RT : ∀ pc ls, decode cX10_rainsOn pc = .ok (.return_, 1) → V X 3 0 0 pc ls [] (wM ad c r)) {k47 : Int32 → Int32 → SS → Option SS} (hk47 : ∀ (x1 : Int32) (x2 : Int32) (s : SS), k47 x1 x2 s = some r → V X 3 0 0 47 [(0, .ref (ad 0)), (1, .int x1), (2, .int x2)] [] (wM ad c s)) : ∀ (x1 : Int32) (x2 : Int32) (s : SS), M_rainsOn_69 k47 x1 x2 s = some r → V X 3 0 0 69 [(0, .ref (ad 0)), (1, .int x1), (2, .int x2)] [] (wM ad c s) := by
  intro x1 x2 s h
  rw [M_rainsOn_69] at h
  refine v_iinc (v := (x2 + (1 : Int32))) K 2 [(0, .ref (ad 0)), (1, .int x1), (2, .int (x2 + (1 : Int32)))] [1, 2, 0] dX10_rainsOn_69 rfl rfl (by decide) rfl ?_
  refine v_goto K 47 dX10_rainsOn_72 (by decide) ?_
  exact hk47 _ _ _ h
set_option maxHeartbeats 4000000 in
set_option maxRecDepth 100000 in
theorem wM_rainsOn_47 {ad : Nat → Nat} {X : Cx} {c : Nat → ClassId} (K : Ok X cX10_rainsOn RX10 3 3 c) {r : SS} (RT : ∀ pc ls, decode cX10_rainsOn pc = .ok (.return_, 1) → V X 3 0 0 pc ls [] (wM ad c r)) : ∀ (n : Nat) (x1 : Int32) (x2 : Int32) (s : SS), M_rainsOn_47 n x1 x2 s = some r → V X 3 0 0 47 [(0, .ref (ad 0)), (1, .int x1), (2, .int x2)] [] (wM ad c s) := by
  intro n
  induction n with
  | zero => intro _ _ _ h; cases h
  | succ n ih =>
    intro x1 x2 s h
    rw [M_rainsOn_47] at h
    refine v_iload_n K 2 rfl dX10_rainsOn_47 ?_
    refine v_aload_n K 0 rfl dX10_rainsOn_48 ?_
    refine gM_16 (v := (s 0 16)) K dX10_rainsOn_49 rfl ?_
    refine v_icmp_ge K 75 dX10_rainsOn_52 (by decide) (fun q9 => ?_) (fun q9 => ?_)
    · replace h := if_e h q9
      refine v_iconst (v := (0 : Int32)) K dX10_rainsOn_75 (by decide) ?_
      refine v_istore_n K [(0, .ref (ad 0)), (1, .int x1), (2, .int (0 : Int32))] [1, 2, 0] dX10_rainsOn_76 rfl (by decide) rfl ?_
      exact wM_rainsOn_77 K RT fuel _ _ _ h
    · replace h := if_n h q9
      refine v_aload_n K 0 rfl dX10_rainsOn_55 ?_
      refine gM_40 K dX10_rainsOn_56 ?_
      refine v_iload_n K 2 rfl dX10_rainsOn_59 ?_
      obtain ⟨b10, h⟩ := ob_e h
      refine lM_40 (v := (s 40 x2.toNatClampNeg)) K b10 dX10_rainsOn_60 rfl ?_
      refine v_if_eq K 69 dX10_rainsOn_61 (by decide) (fun q11 => ?_) (fun q11 => ?_)
      · replace h := if_e h q11
        exact wM_rainsOn_69 K RT (fun a0 a1 a2 e => ih a0 a1 a2 e) _ _ _ h
      · replace h := if_n h q11
        refine v_aload_n K 0 rfl dX10_rainsOn_64 ?_
        refine v_iload_n K 2 rfl dX10_rainsOn_65 ?_
        obtain ⟨s13, e12, h⟩ := bnd0_e h
        refine vM_callv K [.int x2] [] cw_RX10_188 (cM_getsUp e12) rfl rfl (Nat.le_of_ble_eq_true rfl) (by decide) dX10_rainsOn_66 ?_
        exact wM_rainsOn_69 K RT (fun a0 a1 a2 e => ih a0 a1 a2 e) _ _ _ h
set_option maxHeartbeats 4000000 in
set_option maxRecDepth 100000 in
theorem wM_rainsOn_38 {ad : Nat → Nat} {X : Cx} {c : Nat → ClassId} (K : Ok X cX10_rainsOn RX10 3 3 c) {r : SS} (RT : ∀ pc ls, decode cX10_rainsOn pc = .ok (.return_, 1) → V X 3 0 0 pc ls [] (wM ad c r)) {k2 : Int32 → Int32 → SS → Option SS} (hk2 : ∀ (x1 : Int32) (x2 : Int32) (s : SS), k2 x1 x2 s = some r → V X 3 0 0 2 [(0, .ref (ad 0)), (1, .int x1), (2, .int x2)] [] (wM ad c s)) : ∀ (y1 : Int32) (y2 : Int32) (x1 : Int32) (x2 : Int32) (s : SS), M_rainsOn_38 k2 y1 y2 x1 x2 s = some r → V X 3 0 0 38 [(0, .ref (ad 0)), (1, .int x1), (2, .int x2)] [.int y2, .int y1, .ref (ad 40)] (wM ad c s) := by
  intro y1 y2 x1 x2 s h
  rw [M_rainsOn_38] at h
  obtain ⟨b8, h⟩ := ob_e h
  refine sM_40 K b8 dX10_rainsOn_38 ?_
  refine v_iinc (v := (x2 + (1 : Int32))) K 2 [(0, .ref (ad 0)), (1, .int x1), (2, .int (x2 + (1 : Int32)))] [1, 2, 0] dX10_rainsOn_39 rfl rfl (by decide) rfl ?_
  refine v_goto K 2 dX10_rainsOn_42 (by decide) ?_
  exact hk2 _ _ _ h
set_option maxHeartbeats 4000000 in
set_option maxRecDepth 100000 in
theorem wM_rainsOn_37 {ad : Nat → Nat} {X : Cx} {c : Nat → ClassId} (K : Ok X cX10_rainsOn RX10 3 3 c) {r : SS} (RT : ∀ pc ls, decode cX10_rainsOn pc = .ok (.return_, 1) → V X 3 0 0 pc ls [] (wM ad c r)) {k2 : Int32 → Int32 → SS → Option SS} (hk2 : ∀ (x1 : Int32) (x2 : Int32) (s : SS), k2 x1 x2 s = some r → V X 3 0 0 2 [(0, .ref (ad 0)), (1, .int x1), (2, .int x2)] [] (wM ad c s)) : ∀ (y1 : Int32) (x1 : Int32) (x2 : Int32) (s : SS), M_rainsOn_37 k2 y1 x1 x2 s = some r → V X 3 0 0 37 [(0, .ref (ad 0)), (1, .int x1), (2, .int x2)] [.int y1, .ref (ad 40)] (wM ad c s) := by
  intro y1 x1 x2 s h
  rw [M_rainsOn_37] at h
  refine v_iconst (v := (0 : Int32)) K dX10_rainsOn_37 (by decide) ?_
  exact wM_rainsOn_38 K RT hk2 _ _ _ _ _ h
set_option maxHeartbeats 4000000 in
set_option maxRecDepth 100000 in
theorem wM_rainsOn_2 {ad : Nat → Nat} {X : Cx} {c : Nat → ClassId} (K : Ok X cX10_rainsOn RX10 3 3 c) {r : SS} (RT : ∀ pc ls, decode cX10_rainsOn pc = .ok (.return_, 1) → V X 3 0 0 pc ls [] (wM ad c r)) : ∀ (n : Nat) (x1 : Int32) (x2 : Int32) (s : SS), M_rainsOn_2 n x1 x2 s = some r → V X 3 0 0 2 [(0, .ref (ad 0)), (1, .int x1), (2, .int x2)] [] (wM ad c s) := by
  intro n
  induction n with
  | zero => intro _ _ _ h; cases h
  | succ n ih =>
    intro x1 x2 s h
    rw [M_rainsOn_2] at h
    refine v_iload_n K 2 rfl dX10_rainsOn_2 ?_
    refine v_aload_n K 0 rfl dX10_rainsOn_3 ?_
    refine gM_16 (v := (s 0 16)) K dX10_rainsOn_4 rfl ?_
    refine v_icmp_ge K 45 dX10_rainsOn_7 (by decide) (fun q1 => ?_) (fun q1 => ?_)
    · replace h := if_e h q1
      refine v_iconst (v := (0 : Int32)) K dX10_rainsOn_45 (by decide) ?_
      refine v_istore_n K [(0, .ref (ad 0)), (1, .int x1), (2, .int (0 : Int32))] [1, 2, 0] dX10_rainsOn_46 rfl (by decide) rfl ?_
      exact wM_rainsOn_47 K RT fuel _ _ _ h
    · replace h := if_n h q1
      refine v_aload_n K 0 rfl dX10_rainsOn_10 ?_
      refine gM_40 K dX10_rainsOn_11 ?_
      refine v_iload_n K 2 rfl dX10_rainsOn_14 ?_
      refine v_aload_n K 0 rfl dX10_rainsOn_15 ?_
      refine gM_32 K dX10_rainsOn_16 ?_
      refine v_iload_n K 2 rfl dX10_rainsOn_19 ?_
      obtain ⟨b2, h⟩ := ob_e h
      refine lM_32 (v := (s 32 x2.toNatClampNeg)) K b2 dX10_rainsOn_20 rfl ?_
      refine v_iconst (v := (1 : Int32)) K dX10_rainsOn_21 (by decide) ?_
      refine v_icmp_ne K 37 dX10_rainsOn_22 (by decide) (fun q3 => ?_) (fun q3 => ?_)
      · replace h := if_n h q3
        exact wM_rainsOn_37 K RT (fun a0 a1 a2 e => ih a0 a1 a2 e) _ _ _ _ h
      · replace h := if_e h q3
        refine v_aload_n K 0 rfl dX10_rainsOn_25 ?_
        refine v_iload_n K 2 rfl dX10_rainsOn_26 ?_
        obtain ⟨r6, s5, e4, h⟩ := bnd_e h
        refine vM_calli K [.int x2] [.int x2, .ref (ad 40)] cw_RX10_208 (cM_isInSun e4) rfl rfl (Nat.le_of_ble_eq_true rfl) (by decide) dX10_rainsOn_27 ?_
        refine v_if_eq K 37 dX10_rainsOn_30 (by decide) (fun q7 => ?_) (fun q7 => ?_)
        · replace h := if_e h q7
          exact wM_rainsOn_37 K RT (fun a0 a1 a2 e => ih a0 a1 a2 e) _ _ _ _ h
        · replace h := if_n h q7
          refine v_iconst (v := (1 : Int32)) K dX10_rainsOn_33 (by decide) ?_
          refine v_goto K 38 dX10_rainsOn_34 (by decide) ?_
          exact wM_rainsOn_38 K RT (fun a0 a1 a2 e => ih a0 a1 a2 e) _ _ _ _ _ h
set_option maxHeartbeats 4000000 in
set_option maxRecDepth 100000 in
theorem wM_rainsOn {ad : Nat → Nat} {X : Cx} {c : Nat → ClassId} (K : Ok X cX10_rainsOn RX10 3 3 c) {r : SS} (RT : ∀ pc ls, decode cX10_rainsOn pc = .ok (.return_, 1) → V X 3 0 0 pc ls [] (wM ad c r)) (s : SS) (x1 : Int32) (h : M_rainsOn s x1 = some r) : V X 3 0 0 0 [(0, .ref (ad 0)), (1, .int x1)] [] (wM ad c s) := by
  rw [M_rainsOn] at h
  refine v_iconst (v := (0 : Int32)) K dX10_rainsOn_0 (by decide) ?_
  refine v_istore_n K [(0, .ref (ad 0)), (1, .int x1), (2, .int (0 : Int32))] [1, 2, 0] dX10_rainsOn_1 rfl (by decide) rfl ?_
  exact wM_rainsOn_2 K RT fuel _ _ _ h
theorem cM_rainsOn {l : Launch} {D : va_G} {c : Nat → ClassId} {ad : Nat → Nat} {s s' : SS} {x1 : Int32} (h : M_rainsOn s x1 = some s') : Cv l D c yX10_rainsOn cX10_rainsOn 3 none 3 [.ref (ad 0), .int x1] (wM ad c s) (wM ad c s') := Cv.of (by decide) (Nat.le_of_ble_eq_true rfl) (fun X K RT => wM_rainsOn K RT s x1 h)
set_option maxHeartbeats 4000000 in
set_option maxRecDepth 100000 in
theorem wM_sitsDown_110 {ad : Nat → Nat} {X : Cx} {c : Nat → ClassId} (K : Ok X cX10_sitsDown RX10 5 3 c) {r : Int32 × SS} (RT : nb r.1 = true → ∀ pc ls, decode cX10_sitsDown pc = .ok (.ireturn, 1) → V X 5 0 0 pc ls [.int r.1] (wM ad c r.2)) {k78 : Int32 → Int32 → SS → Option (Int32 × SS)} (hk78 : ∀ (x1 : Int32) (x4 : Int32) (s : SS), k78 x1 x4 s = some r → V X 5 0 0 78 [(0, .ref (ad 0)), (1, .int x1), (4, .int x4)] [] (wM ad c s)) : ∀ (y1 : Int32) (y2 : Int32) (x1 : Int32) (x4 : Int32) (s : SS), M_sitsDown_110 k78 y1 y2 x1 x4 s = some r → V X 5 0 0 110 [(0, .ref (ad 0)), (1, .int x1), (4, .int x4)] [.int y2, .int y1, .ref (ad 33)] (wM ad c s) := by
  intro y1 y2 x1 x4 s h
  rw [M_sitsDown_110] at h
  obtain ⟨b27, h⟩ := ob_e h
  refine sM_33 K b27 dX10_sitsDown_110 ?_
  refine v_iinc (v := (x4 + (-1 : Int32))) K 2 [(0, .ref (ad 0)), (1, .int x1), (4, .int (x4 + (-1 : Int32)))] [1, 2, 0] dX10_sitsDown_111 rfl rfl (by decide) rfl ?_
  refine v_goto K 78 dX10_sitsDown_114 (by decide) ?_
  exact hk78 _ _ _ h
set_option maxHeartbeats 4000000 in
set_option maxRecDepth 100000 in
theorem wM_sitsDown_78 {ad : Nat → Nat} {X : Cx} {c : Nat → ClassId} (K : Ok X cX10_sitsDown RX10 5 3 c) {r : Int32 × SS} (RT : nb r.1 = true → ∀ pc ls, decode cX10_sitsDown pc = .ok (.ireturn, 1) → V X 5 0 0 pc ls [.int r.1] (wM ad c r.2)) : ∀ (n : Nat) (x1 : Int32) (x4 : Int32) (s : SS), M_sitsDown_78 n x1 x4 s = some r → V X 5 0 0 78 [(0, .ref (ad 0)), (1, .int x1), (4, .int x4)] [] (wM ad c s) := by
  intro n
  induction n with
  | zero => intro _ _ _ h; cases h
  | succ n ih =>
    intro x1 x4 s h
    rw [M_sitsDown_78] at h
    refine v_iload K 2 rfl dX10_sitsDown_78 ?_
    refine v_if_lt K 117 dX10_sitsDown_80 (by decide) (fun q22 => ?_) (fun q22 => ?_)
    · replace h := if_e h q22
      refine v_iconst (v := (1 : Int32)) K dX10_sitsDown_117 (by decide) ?_
      obtain ⟨b23, h⟩ := ob_e h
      obtain rfl := Option.some.inj h
      exact RT b23 _ _ dX10_sitsDown_118
    · replace h := if_n h q22
      refine v_aload_n K 0 rfl dX10_sitsDown_83 ?_
      refine gM_33 K dX10_sitsDown_84 ?_
      refine v_iload_n K 1 rfl dX10_sitsDown_87 ?_
      refine v_aload_n K 0 rfl dX10_sitsDown_88 ?_
      refine gM_30 K dX10_sitsDown_89 ?_
      refine v_iload K 2 rfl dX10_sitsDown_92 ?_
      obtain ⟨b24, h⟩ := ob_e h
      refine lM_30 (v := (s 30 x4.toNatClampNeg)) K b24 dX10_sitsDown_94 rfl ?_
      refine v_iload_n K 1 rfl dX10_sitsDown_95 ?_
      refine v_icmp_ne K 104 dX10_sitsDown_96 (by decide) (fun q25 => ?_) (fun q25 => ?_)
      · replace h := if_n h q25
        refine v_aload_n K 0 rfl dX10_sitsDown_104 ?_
        refine gM_33 K dX10_sitsDown_105 ?_
        refine v_iload_n K 1 rfl dX10_sitsDown_108 ?_
        obtain ⟨b26, h⟩ := ob_e h
        refine lM_33 (v := (s 33 x1.toNatClampNeg)) K b26 dX10_sitsDown_109 rfl ?_
        exact wM_sitsDown_110 K RT (fun a0 a1 a2 e => ih a0 a1 a2 e) _ _ _ _ _ h
      · replace h := if_e h q25
        refine v_iload K 2 rfl dX10_sitsDown_99 ?_
        refine v_goto K 110 dX10_sitsDown_101 (by decide) ?_
        exact wM_sitsDown_110 K RT (fun a0 a1 a2 e => ih a0 a1 a2 e) _ _ _ _ _ h
set_option maxHeartbeats 4000000 in
set_option maxRecDepth 100000 in
theorem wM_sitsDown_30 {ad : Nat → Nat} {X : Cx} {c : Nat → ClassId} (K : Ok X cX10_sitsDown RX10 5 3 c) {r : Int32 × SS} (RT : nb r.1 = true → ∀ pc ls, decode cX10_sitsDown pc = .ok (.ireturn, 1) → V X 5 0 0 pc ls [.int r.1] (wM ad c r.2)) : ∀ (y0 : Int32) (x1 : Int32) (x2 : Int32) (s : SS), M_sitsDown_30 y0 x1 x2 s = some r → V X 5 0 0 30 [(0, .ref (ad 0)), (1, .int x1), (2, .int x2)] [.int y0] (wM ad c s) := by
  intro y0 x1 x2 s h
  rw [M_sitsDown_30] at h
  refine v_istore_n K [(0, .ref (ad 0)), (1, .int x1), (2, .int x2), (3, .int y0)] [1, 2, 3, 0] dX10_sitsDown_30 rfl (by decide) rfl ?_
  refine v_aload_n K 0 rfl dX10_sitsDown_31 ?_
  refine v_iload_n K 1 rfl dX10_sitsDown_32 ?_
  obtain ⟨r13, s12, e11, h⟩ := bnd_e h
  refine vM_calli K [.int x1] [] cw_RX10_211 (cM_takesTable e11) rfl rfl (Nat.le_of_ble_eq_true rfl) (by decide) dX10_sitsDown_33 ?_
  refine v_if_ne K 41 dX10_sitsDown_36 (by decide) (fun q14 => ?_) (fun q14 => ?_)
  · replace h := if_n h q14
    refine v_aload_n K 0 rfl dX10_sitsDown_41 ?_
    refine gM_32 K dX10_sitsDown_42 ?_
    refine v_iload_n K 1 rfl dX10_sitsDown_45 ?_
    refine v_iconst (v := (1 : Int32)) K dX10_sitsDown_46 (by decide) ?_
    obtain ⟨b15, h⟩ := ob_e h
    refine sM_32 K b15 dX10_sitsDown_47 ?_
    refine v_aload_n K 0 rfl dX10_sitsDown_48 ?_
    refine gM_34 K dX10_sitsDown_49 ?_
    refine v_iload_n K 1 rfl dX10_sitsDown_52 ?_
    refine v_iload_n K 2 rfl dX10_sitsDown_53 ?_
    obtain ⟨b16, h⟩ := ob_e h
    refine sM_34 K b16 dX10_sitsDown_54 ?_
    refine v_aload_n K 0 rfl dX10_sitsDown_55 ?_
    refine gM_35 K dX10_sitsDown_56 ?_
    refine v_iload_n K 1 rfl dX10_sitsDown_59 ?_
    refine v_iload_n K 2 rfl dX10_sitsDown_60 ?_
    refine v_aload_n K 0 rfl dX10_sitsDown_61 ?_
    refine v_iload_n K 1 rfl dX10_sitsDown_62 ?_
    obtain ⟨r19, s18, e17, h⟩ := bnd_e h
    refine vM_calli K [.int x1] [.int x2, .int x1, .ref (ad 35)] cw_RX10_159 (cM_stays e17) rfl rfl (Nat.le_of_ble_eq_true rfl) (by decide) dX10_sitsDown_63 ?_
    refine v_iadd K dX10_sitsDown_66 ?_
    refine v_iload_n K 3 rfl dX10_sitsDown_67 ?_
    refine v_iadd K dX10_sitsDown_68 ?_
    obtain ⟨b20, h⟩ := ob_e h
    refine sM_35 K b20 dX10_sitsDown_69 ?_
    refine v_aload_n K 0 rfl dX10_sitsDown_70 ?_
    refine gM_23 (v := (s18 0 23)) K dX10_sitsDown_71 rfl ?_
    refine v_iconst (v := (1 : Int32)) K dX10_sitsDown_74 (by decide) ?_
    refine v_isub K dX10_sitsDown_75 ?_
    refine v_istore K [(0, .ref (ad 0)), (1, .int x1), (4, .int ((s18 0 23) - (1 : Int32)))] [1, 2, 0] dX10_sitsDown_76 (by decide) rfl ?_
    exact wM_sitsDown_78 K RT fuel _ _ _ h
  · replace h := if_e h q14
    refine v_iconst (v := (0 : Int32)) K dX10_sitsDown_39 (by decide) ?_
    obtain ⟨b21, h⟩ := ob_e h
    obtain rfl := Option.some.inj h
    exact RT b21 _ _ dX10_sitsDown_40
set_option maxHeartbeats 4000000 in
set_option maxRecDepth 100000 in
theorem wM_sitsDown_29 {ad : Nat → Nat} {X : Cx} {c : Nat → ClassId} (K : Ok X cX10_sitsDown RX10 5 3 c) {r : Int32 × SS} (RT : nb r.1 = true → ∀ pc ls, decode cX10_sitsDown pc = .ok (.ireturn, 1) → V X 5 0 0 pc ls [.int r.1] (wM ad c r.2)) : ∀ (x1 : Int32) (x2 : Int32) (s : SS), M_sitsDown_29 x1 x2 s = some r → V X 5 0 0 29 [(0, .ref (ad 0)), (1, .int x1), (2, .int x2)] [] (wM ad c s) := by
  intro x1 x2 s h
  rw [M_sitsDown_29] at h
  refine v_iconst (v := (0 : Int32)) K dX10_sitsDown_29 (by decide) ?_
  exact wM_sitsDown_30 K RT _ _ _ _ h
set_option maxHeartbeats 4000000 in
set_option maxRecDepth 100000 in
theorem wM_sitsDown {ad : Nat → Nat} {X : Cx} {c : Nat → ClassId} (K : Ok X cX10_sitsDown RX10 5 3 c) {r : Int32 × SS} (RT : nb r.1 = true → ∀ pc ls, decode cX10_sitsDown pc = .ok (.ireturn, 1) → V X 5 0 0 pc ls [.int r.1] (wM ad c r.2)) (s : SS) (x1 : Int32) (x2 : Int32) (h : M_sitsDown s x1 x2 = some r) : V X 5 0 0 0 [(0, .ref (ad 0)), (1, .int x1), (2, .int x2)] [] (wM ad c s) := by
  rw [M_sitsDown] at h
  refine v_aload_n K 0 rfl dX10_sitsDown_0 ?_
  refine gM_17 K dX10_sitsDown_1 ?_
  refine v_iload_n K 1 rfl dX10_sitsDown_4 ?_
  obtain ⟨b1, h⟩ := ob_e h
  refine lM_17 (v := (s 17 x1.toNatClampNeg)) K b1 dX10_sitsDown_5 rfl ?_
  refine v_iconst (v := (2 : Int32)) K dX10_sitsDown_6 (by decide) ?_
  refine v_icmp_ne K 29 dX10_sitsDown_7 (by decide) (fun q2 => ?_) (fun q2 => ?_)
  · replace h := if_n h q2
    exact wM_sitsDown_29 K RT _ _ _ h
  · replace h := if_e h q2
    refine v_aload_n K 0 rfl dX10_sitsDown_10 ?_
    refine v_iload_n K 1 rfl dX10_sitsDown_11 ?_
    obtain ⟨r5, s4, e3, h⟩ := bnd_e h
    refine vM_calli K [.int x1] [] cw_RX10_185 (cM_manyWait e3) rfl rfl (Nat.le_of_ble_eq_true rfl) (by decide) dX10_sitsDown_12 ?_
    refine v_if_le K 29 dX10_sitsDown_15 (by decide) (fun q6 => ?_) (fun q6 => ?_)
    · replace h := if_e h q6
      exact wM_sitsDown_29 K RT _ _ _ h
    · replace h := if_n h q6
      refine v_aload_n K 0 rfl dX10_sitsDown_18 ?_
      refine v_iload_n K 1 rfl dX10_sitsDown_19 ?_
      obtain ⟨r9, s8, e7, h⟩ := bnd_e h
      refine vM_calli K [.int x1] [] cw_RX10_159 (cM_stays e7) rfl rfl (Nat.le_of_ble_eq_true rfl) (by decide) dX10_sitsDown_20 ?_
      refine v_bipush (v := (9 : Int32)) K dX10_sitsDown_23 (by decide) ?_
      obtain ⟨b10, h⟩ := ob_e h
      refine v_idiv K dX10_sitsDown_25 b10 ?_
      refine v_goto K 30 dX10_sitsDown_26 (by decide) ?_
      exact wM_sitsDown_30 K RT _ _ _ _ h
theorem cM_sitsDown {l : Launch} {D : va_G} {c : Nat → ClassId} {ad : Nat → Nat} {s s' : SS} {x1 : Int32} {x2 : Int32} {r : Int32} (h : M_sitsDown s x1 x2 = some (r, s')) : Ci l D c yX10_sitsDown cX10_sitsDown 5 (some .boolean) 3 [.ref (ad 0), .int x1, .int x2] (wM ad c s) r (wM ad c s') := Ci.ofZ (by decide) (Nat.le_of_ble_eq_true rfl) (fun X K RT => wM_sitsDown K (r := (r, s')) RT s x1 x2 h)
