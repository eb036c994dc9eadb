theorem allSteps : AllSteps Rel := by
  refine ⟨?_, ?_, ?_, ?_, ?_, ?_, ?_, ?_, ?_, ?_, ?_, ?_, ?_, ?_, ?_, ?_, ?_, ?_, ?_, ?_, ?_, ?_, ?_, ?_, ?_, ?_, ?_, ?_, ?_, ?_⟩
  -- cafe
  · intro G s m a1 a2 a3 a4 h
    obtain ⟨r, s', m', e1, e2, c⟩ := cafe_ev G s m a1 a2 a3 a4 h.2.2.2.1
    exact ⟨r, s', m', e1, e2, h.caf c⟩
  -- ofTable
  · intro G s m a1 a2 h
    obtain ⟨r, e1, e2⟩ := ofTable_ev G s m a1 a2 h.2.1
    exact ⟨r, s, m, e1, e2, h⟩
  -- rule
  · intro G s m a1 h
    rcases rule_ev G s m a1 h.2.1 with ⟨r, e1, e2⟩ | ⟨q1, q2, -, e1, e2⟩
    · exact ⟨r, s, m, e1, e2, h⟩
    · have hr : s 1 3 = m 0 8 := by obtain ⟨n, -, -, -, -, ⟨h4, -⟩, -⟩ := h.2.1; exact h4
      rw [hr] at e1
      exact ⟨_, _, _, e1, e2, h.set (by omega) (RCf_ru h.2.1 q1 q2)⟩
  -- patience
  · intro G s m a1 h
    rcases patience_ev G s m a1 h.2.1 with ⟨r, e1, e2⟩ | ⟨q1, q2, -, e1, e2⟩
    · exact ⟨r, s, m, e1, e2, h⟩
    · have hr : s 1 4 = m 0 9 := by obtain ⟨n, -, -, -, -, -, ⟨h4, -⟩, -⟩ := h.2.1; exact h4
      rw [hr] at e1
      exact ⟨_, _, _, e1, e2, h.set (by omega) (RCf_pa h.2.1 q1 q2)⟩
  -- joining
  · intro G s m a1 hx h
    rcases joining_ev G s m a1 hx h.2.1 with ⟨r, e1, e2⟩ | ⟨-, e1, e2, e3⟩ | ⟨-, e1, e2⟩
    · exact ⟨r, s, m, e1, e2, h⟩
    · rw [up2_sm m 0 10 a1 e3] at e2
      exact ⟨0, s, m, e1, e2, h⟩
    · exact ⟨_, _, _, e1, e2, h.set (by omega) (RCf_jo h.2.1 hx)⟩
  -- rain
  · intro G s m a1 h
    rcases rain_ev G s m a1 h.2.1 with ⟨r, e1, e2⟩ | ⟨q1, -, e1, e2⟩
    · exact ⟨r, s, m, e1, e2, h⟩
    · exact ⟨_, _, _, e1, e2, h.set (by omega) (RCf_ra h.2.1 q1)⟩
  -- group
  · intro G s m a1 a2 a3 a4 a5 a6 h
    rcases group_ev G s m a1 a2 a3 a4 a5 a6 h.2.1 h.2.2.1 with ⟨r, e1, e2⟩ | ⟨n, k, m', hn, hk, h7, h16, e1, e2, e3, e4, b2, b3, b4, b5, b6⟩
    · exact ⟨_, r, m, e1, e2, Or.inl ⟨s, rfl, h⟩⟩
    · refine ⟨_, nI n, m', e1, e2, Or.inr ⟨k, s, rfl, inb_nI hn (by omega), ?_⟩⟩
      intro q s2 hq ef
      rw [forget_ev] at ef
      injection ef with ef
      rw [cl_nI (by omega), ← ef, e3, e4]
      exact h.grp hn hk h7 h16 hq b2 b3 b4 b5 b6
  -- ofGroup
  · intro G s m a1 a2 h
    obtain ⟨r, e1, e2⟩ := ofGroup_ev G s m a1 a2 h.2.2.1
    exact ⟨r, s, m, e1, e2, h⟩
  -- day
  · intro G s m a1 a2 h
    obtain ⟨n, k, hcf⟩ := cfg_mk h.2.1 h.2.2.1
    obtain ⟨d1, d2, d3, d4⟩ := h.2.2.2.2.2.2 n k hcf
    obtain ⟨r, s', m', e1, e2, f, g, d⟩ := day_ev hcf h.2.2.1 d1 a1 a2
    exact ⟨r, s', m', e1, e2, h.dayR hcf f g d (fun a z => by unfold pDay at z; omega)⟩
  -- taken
  · intro G s m a1 a2 h
    obtain ⟨n, k, hcf⟩ := cfg_mk h.2.1 h.2.2.1
    obtain ⟨r, s', m', e1, e2, f, g⟩ := taken_all hcf a1 a2
    exact ⟨r, s', m', e1, e2, h.triR f g (fun a => id) (fun _ z => z.elim)⟩
  -- coin
  · intro G s m h
    obtain ⟨n, k, hcf⟩ := cfg_mk h.2.1 h.2.2.1
    obtain ⟨d1, d2, d3, d4⟩ := h.2.2.2.2.2.2 n k hcf
    obtain ⟨r, s', m', e1, e2, f, g, d⟩ := coin_ev hcf d1
    exact ⟨r, s', m', e1, e2, h.dayR hcf f g d (fun a z => by unfold pDay at z; omega)⟩
  -- worth
  · intro G s m a1 h
    obtain ⟨n, k, hcf⟩ := cfg_mk h.2.1 h.2.2.1
    obtain ⟨d1, d2, d3, d4⟩ := h.2.2.2.2.2.2 n k hcf
    obtain ⟨r, s', m', e1, e2, f, g, d⟩ := worth_ev hcf h.2.2.1 d1 a1
    exact ⟨r, s', m', e1, e2, h.dayR hcf f g d (fun a z => by unfold pDay pTri at z; omega)⟩
  -- plan
  · intro G s m a1 h
    obtain ⟨n, k, hcf⟩ := cfg_mk h.2.1 h.2.2.1
    obtain ⟨d1, d2, d3, d4⟩ := h.2.2.2.2.2.2 n k hcf
    obtain ⟨r, s', m', e1, e2, f, g, d⟩ := plan_ev hcf d2 a1
    exact ⟨r, s', m', e1, e2, h.plaR hcf f g d⟩
  -- bestRule
  · intro G s m a1 h
    obtain ⟨n, k, hcf⟩ := cfg_mk h.2.1 h.2.2.1
    obtain ⟨r, s', m', e1, e2, f, g⟩ := bestRule_ev hcf (hj_of h.2.1) a1
    exact ⟨r, s', m', e1, e2, h.othR f g⟩
  -- waiting
  · intro G s m a1 h
    obtain ⟨n, k, hcf⟩ := cfg_mk h.2.1 h.2.2.1
    obtain ⟨d1, d2, d3, d4⟩ := h.2.2.2.2.2.2 n k hcf
    obtain ⟨r, s', m', e1, e2, f, g, d⟩ := waiting_ev hcf (hj_of h.2.1) d3 a1
    exact ⟨r, s', m', e1, e2, h.coiR hcf f g d⟩
  -- mix
  · intro G s m a1 a2 h
    obtain ⟨n, k, hcf⟩ := cfg_mk h.2.1 h.2.2.1
    obtain ⟨d1, d2, d3, d4⟩ := h.2.2.2.2.2.2 n k hcf
    obtain ⟨r, s', m', e1, e2, f, g, d⟩ := mix_ev hcf (hj_of h.2.1) d4 a1 a2
    exact ⟨r, s', m', e1, e2, h.mixR hcf f g d⟩
  -- till
  · intro G s m a1 a2 h
    obtain ⟨n, k, hcf⟩ := cfg_mk h.2.1 h.2.2.1
    obtain ⟨d1, d2, d3, d4⟩ := h.2.2.2.2.2.2 n k hcf
    obtain ⟨r, s', m', e1, e2, f, g, d⟩ := till_ev hcf (hj_of h.2.1) d3 a1 a2
    exact ⟨r, s', m', e1, e2, h.coiR hcf f g d⟩
  -- names
  · intro G s m a1 a2 a3 a4 a5 a6 h
    obtain ⟨r, e1, e2⟩ := names_ev G s m a1 a2 a3 a4 a5 a6
    exact ⟨r, s, m, e1, e2, h⟩
  -- take
  · intro G s m a1 a2 a3 a4 h
    obtain ⟨r, e1, e2⟩ := take_ev G s m a1 a2 a3 a4
    exact ⟨r, s, m, e1, e2, h⟩
  -- sheet
  · intro G s m a1 a2 a3 h
    obtain ⟨r, s', m', e1, e2, hS, f, g, h10⟩ := sheet_ev G s m a1 a2 a3 h.2.2.2.1
    exact ⟨r, s', m', e1, e2, h.sm hS f g h10⟩
  -- lose
  · intro G s m a1 h
    obtain ⟨r, s', m', e1, e2, hS, f, g, h10⟩ := lose_ev G s m a1 h.2.2.2.1 h.2.2.2.2.1
    exact ⟨r, s', m', e1, e2, h.sm hS f g h10⟩
  -- put
  · intro G s m a1 a2 a3 h
    obtain ⟨r, s', m', e1, e2, hS, f, g, h10⟩ := put_ev G s m a1 a2 a3 h.2.2.2.1
    exact ⟨r, s', m', e1, e2, h.sm hS f g h10⟩
  -- cell
  · intro G s m a1 a2 a3 h
    obtain ⟨r, v, e1, e2⟩ := cell_ev G s m a1 a2 a3 h.2.2.2.1
    exact ⟨r, _, _, e1, e2, h.fl v⟩
  -- copy
  · intro G s m a1 a2 a3 a4 a5 h
    obtain ⟨r, s', m', e1, e2, hS, f, g, h10⟩ := copy_ev G s m a1 a2 a3 a4 a5 h.2.2.2.1
    exact ⟨r, s', m', e1, e2, h.sm hS f g h10⟩
  -- tell
  · intro G s m a1 h
    obtain ⟨r, v, ⟨e1, e2⟩ | ⟨s', m', e1, e2, e3, e4⟩⟩ := tell_ev G s m a1 h.2.2.1 h.2.2.2.2.2.1
    · exact ⟨r, s, m, e1, e2, h⟩
    · refine ⟨r, s', m', e1, e2, h.tr (fun a ha => by rw [e3]; exact ups_row ha) (fun a ha => by rw [e4]; exact up2_row ha) (fun c hc => by rw [e4, up2_el, if_neg (fun z => hc z.2)]) ?_⟩
      rw [e3, e4, ups_at, up2_at]
      simp [upd]
  -- serve
  · intro G s m a1 h
    obtain ⟨r, v, ⟨e1, e2⟩ | ⟨e1, e2⟩⟩ := serve_ev G s m a1 h.2.2.1
    · exact ⟨r, s, m, e1, e2, h⟩
    · refine ⟨r, _, _, e1, e2, h.tr (fun a ha => up2_row ha) (fun a ha => up2_row ha) (fun c hc => by rw [up2_el, if_neg (fun z => hc z.2)]) ?_⟩
      rw [up2_at, up2_at, h.2.2.2.2.2.1]
  -- as
  · intro G s m a1 a2 h
    obtain ⟨r, v, e1, e2⟩ := as_ev G s m a1 a2 h.2.2.1
    exact ⟨r, _, _, e1, e2, h.fl v⟩
  -- trace
  · intro G s m h
    refine ⟨s 18 0, s, m, rfl, ?_, h⟩
    unfold M_trace
    rw [h.2.2.2.2.2.1]
  -- fault
  · intro G s m h
    refine ⟨s 0 10, s, m, rfl, ?_, h⟩
    unfold M_fault
    rw [h.2.2.2.2.1]
  -- many
  · intro G s m a1 h
    obtain ⟨r, e1, e2⟩ := many_ev G s m a1 h.2.1 h.2.2.1
    exact ⟨r, s, m, e1, e2, h⟩
theorem rel0 : Rel G0 s0C s0M := by
  refine Rel.new (fun i a h => by cases h) ?_ ⟨0, by omega, rfl, rfl, fun j hj => by omega⟩ ?_ rfl rfl rfl rfl rfl rfl
  · refine ⟨0, by omega, rfl, rfl, fun j hj => by omega, ⟨rfl, 0, by omega, rfl⟩, ⟨rfl, 0, by omega, rfl⟩, ⟨rfl, Or.inl rfl⟩, ⟨rfl, Or.inl rfl⟩⟩
  · intro k hk
    refine ⟨fun i hi => ?_, Or.inl ⟨?_, ?_⟩⟩
    · show s0C (10 + k + 4) i = s0M 4 (40 * k + i)
      unfold s0C s0M
      rw [up2_row (by omega), up2_row (by omega), ups_row (by omega), up2_row (by omega)]
    · unfold s0C
      rw [up2_row (by omega), up2_row (by omega)]
    · have : k = 0 ∨ k = 1 ∨ k = 2 ∨ k = 3 := by omega
      rcases this with rfl | rfl | rfl | rfl <;> rfl
