/-! THE LAW'S OWN cell, col, mean -/
def lwX (h : hH) (out : Int) : Option Int → Option vV × hH
  | some v => (some (0, 0), hup h out 0 v)
  | none => (some (0, 1), h)
theorem dL_cell_0 : decode cL_cell 0 = .ok (.aload_n 3, 1) := by decide +kernel
theorem dL_cell_1 : decode cL_cell 1 = .ok (.iconst 0, 1) := by decide +kernel
theorem dL_cell_2 : decode cL_cell 2 = .ok (.aload_n 0, 1) := by decide +kernel
theorem dL_cell_3 : decode cL_cell 3 = .ok (.iload_n 1, 1) := by decide +kernel
theorem dL_cell_4 : decode cL_cell 4 = .ok (.iload_n 2, 1) := by decide +kernel
theorem dL_cell_5 : decode cL_cell 5 = .ok (.invokevirtual 7, 3) := by decide +kernel
theorem dL_cell_8 : decode cL_cell 8 = .ok (.i2l, 1) := by decide +kernel
theorem dL_cell_9 : decode cL_cell 9 = .ok (.lastore, 1) := by decide +kernel
theorem dL_cell_10 : decode cL_cell 10 = .ok (.goto 7, 3) := by decide +kernel
theorem dL_cell_13 : decode cL_cell 13 = .ok (.astore 4, 2) := by decide +kernel
theorem dL_cell_15 : decode cL_cell 15 = .ok (.iconst 1, 1) := by decide +kernel
theorem dL_cell_16 : decode cL_cell 16 = .ok (.ireturn, 1) := by decide +kernel
theorem dL_cell_17 : decode cL_cell 17 = .ok (.iconst 0, 1) := by decide +kernel
theorem dL_cell_18 : decode cL_cell 18 = .ok (.ireturn, 1) := by decide +kernel
abbrev M_L_cell : mM := (cL_cell, 5, RL, some .int, false, 7, 140, 1, 6)
set_option maxRecDepth 100000 in
set_option maxHeartbeats 4000000 in
theorem oL_cell {l : Launch} (htr : l.stackTraces = false) {D : va_G} {G : gG} {h : hH} {a0 a1 a2 a3 : Int} {o : Option Int} (hr : fX11_cell h a0 a1 a2 = some o) (h1 : 0 < h a3 (-1)) : CtT l D G true yL_cell M_L_cell [(0, 10, 13, 13)] [(21, a0), (0, a1), (0, a2), (51, a3)] h (lwX h a3 o) :=
  CtT_of (by decide) rfl (fun z => by cases z) (nl rfl) (fun {p e R s m args below meth c A H0} htb hzs => by
    refine r_aload_n dL_cell_0 rfl 3 rfl (nl rfl) ?_
    refine r_iconst dL_cell_1 (by decide) ?_
    refine r_aload_n dL_cell_2 rfl 0 rfl (nl rfl) ?_
    refine r_iload_n dL_cell_3 rfl 1 rfl (Or.inl rfl) ?_
    refine r_iload_n dL_cell_4 rfl 2 rfl (Or.inl rfl) ?_
    refine r_callX (ci := 11) (o9 := a0) (T := TX11) (as := [(0, a1), (0, a2)]) (rest := [(0, 0), (51, a3)]) (o := o) (hp := 13) (kl := 4) (cx := 13) (xe := ⟨0, 10, 13, 13⟩) (oX11_cell htr hr) gX11_cell rfl (by decide) rfl (wsl_54 _ (List.mem_of_getElem? (i := 21) rfl)) rfl dL_cell_5 rfl hzs htb (by decide) ⟨rfl, rfl, by decide⟩ (wsl_54 _ (List.mem_of_getElem? (i := 20) rfl)) dL_cell_13 (by decide) (fun r hor => ?_) (fun hon => ?_)
    · subst hor
      refine r_i2l dL_cell_8 ?_
      refine r_last dL_cell_9 (aput_in (by decide) h1) ?_
      refine r_goto dL_cell_10 (tgt := 17) (by decide) ?_
      refine r_iconst dL_cell_17 (by decide) ?_
      exact r_ret dL_cell_18 rfl (Or.inl ⟨rfl, rfl⟩) rfl ⟨rfl, rfl⟩
    · subst hon
      refine r_iconst dL_cell_15 (by decide) ?_
      exact r_ret dL_cell_16 rfl (Or.inl ⟨rfl, rfl⟩) rfl ⟨rfl, rfl⟩)
theorem dL_col_0 : decode cL_col 0 = .ok (.aload 4, 2) := by decide +kernel
theorem dL_col_2 : decode cL_col 2 = .ok (.iconst 0, 1) := by decide +kernel
theorem dL_col_3 : decode cL_col 3 = .ok (.aload_n 0, 1) := by decide +kernel
theorem dL_col_4 : decode cL_col 4 = .ok (.iload_n 1, 1) := by decide +kernel
theorem dL_col_5 : decode cL_col 5 = .ok (.iload_n 2, 1) := by decide +kernel
theorem dL_col_6 : decode cL_col 6 = .ok (.iload_n 3, 1) := by decide +kernel
theorem dL_col_7 : decode cL_col 7 = .ok (.invokevirtual 15, 3) := by decide +kernel
theorem dL_col_10 : decode cL_col 10 = .ok (.i2l, 1) := by decide +kernel
theorem dL_col_11 : decode cL_col 11 = .ok (.lastore, 1) := by decide +kernel
theorem dL_col_12 : decode cL_col 12 = .ok (.goto 7, 3) := by decide +kernel
theorem dL_col_15 : decode cL_col 15 = .ok (.astore 5, 2) := by decide +kernel
theorem dL_col_17 : decode cL_col 17 = .ok (.iconst 1, 1) := by decide +kernel
theorem dL_col_18 : decode cL_col 18 = .ok (.ireturn, 1) := by decide +kernel
theorem dL_col_19 : decode cL_col 19 = .ok (.iconst 0, 1) := by decide +kernel
theorem dL_col_20 : decode cL_col 20 = .ok (.ireturn, 1) := by decide +kernel
abbrev M_L_col : mM := (cL_col, 6, RL, some .int, false, 7, 140, 1, 6)
set_option maxRecDepth 100000 in
set_option maxHeartbeats 4000000 in
theorem oL_col {l : Launch} (htr : l.stackTraces = false) {D : va_G} {G : gG} {h : hH} {a0 a1 a2 a3 a4 : Int} {o : Option Int} (hr : fX11_col h a0 a1 a2 a3 = some o) (h1 : 0 < h a4 (-1)) : CtT l D G true yL_col M_L_col [(0, 12, 15, 13)] [(21, a0), (0, a1), (0, a2), (0, a3), (51, a4)] h (lwX h a4 o) :=
  CtT_of (by decide) rfl (fun z => by cases z) (nl rfl) (fun {p e R s m args below meth c A H0} htb hzs => by
    refine r_aload dL_col_0 4 rfl (nl rfl) ?_
    refine r_iconst dL_col_2 (by decide) ?_
    refine r_aload_n dL_col_3 rfl 0 rfl (nl rfl) ?_
    refine r_iload_n dL_col_4 rfl 1 rfl (Or.inl rfl) ?_
    refine r_iload_n dL_col_5 rfl 2 rfl (Or.inl rfl) ?_
    refine r_iload_n dL_col_6 rfl 3 rfl (Or.inl rfl) ?_
    refine r_callX (ci := 11) (o9 := a0) (T := TX11) (as := [(0, a1), (0, a2), (0, a3)]) (rest := [(0, 0), (51, a4)]) (o := o) (hp := 15) (kl := 5) (cx := 13) (xe := ⟨0, 12, 15, 13⟩) (oX11_col htr hr) gX11_col rfl (by decide) rfl (wsl_58 _ (List.mem_of_getElem? (i := 9) rfl)) rfl dL_col_7 rfl hzs htb (by decide) ⟨rfl, rfl, by decide⟩ (wsl_54 _ (List.mem_of_getElem? (i := 20) rfl)) dL_col_15 (by decide) (fun r hor => ?_) (fun hon => ?_)
    · subst hor
      refine r_i2l dL_col_10 ?_
      refine r_last dL_col_11 (aput_in (by decide) h1) ?_
      refine r_goto dL_col_12 (tgt := 19) (by decide) ?_
      refine r_iconst dL_col_19 (by decide) ?_
      exact r_ret dL_col_20 rfl (Or.inl ⟨rfl, rfl⟩) rfl ⟨rfl, rfl⟩
    · subst hon
      refine r_iconst dL_col_17 (by decide) ?_
      exact r_ret dL_col_18 rfl (Or.inl ⟨rfl, rfl⟩) rfl ⟨rfl, rfl⟩)
theorem dL_mean_0 : decode cL_mean 0 = .ok (.aload 4, 2) := by decide +kernel
theorem dL_mean_2 : decode cL_mean 2 = .ok (.iconst 0, 1) := by decide +kernel
theorem dL_mean_3 : decode cL_mean 3 = .ok (.aload_n 0, 1) := by decide +kernel
theorem dL_mean_4 : decode cL_mean 4 = .ok (.iload_n 1, 1) := by decide +kernel
theorem dL_mean_5 : decode cL_mean 5 = .ok (.iload_n 2, 1) := by decide +kernel
theorem dL_mean_6 : decode cL_mean 6 = .ok (.iload_n 3, 1) := by decide +kernel
theorem dL_mean_7 : decode cL_mean 7 = .ok (.invokevirtual 19, 3) := by decide +kernel
theorem dL_mean_10 : decode cL_mean 10 = .ok (.i2l, 1) := by decide +kernel
theorem dL_mean_11 : decode cL_mean 11 = .ok (.lastore, 1) := by decide +kernel
theorem dL_mean_12 : decode cL_mean 12 = .ok (.goto 7, 3) := by decide +kernel
theorem dL_mean_15 : decode cL_mean 15 = .ok (.astore 5, 2) := by decide +kernel
theorem dL_mean_17 : decode cL_mean 17 = .ok (.iconst 1, 1) := by decide +kernel
theorem dL_mean_18 : decode cL_mean 18 = .ok (.ireturn, 1) := by decide +kernel
theorem dL_mean_19 : decode cL_mean 19 = .ok (.iconst 0, 1) := by decide +kernel
theorem dL_mean_20 : decode cL_mean 20 = .ok (.ireturn, 1) := by decide +kernel
abbrev M_L_mean : mM := (cL_mean, 6, RL, some .int, false, 7, 140, 1, 6)
set_option maxRecDepth 100000 in
set_option maxHeartbeats 4000000 in
theorem oL_mean {l : Launch} (htr : l.stackTraces = false) {D : va_G} {G : gG} {h : hH} {a0 a1 a2 a3 a4 : Int} {o : Option Int} (hr : fX11_mean h a0 a1 a2 a3 = some o) (h1 : 0 < h a4 (-1)) : CtT l D G true yL_mean M_L_mean [(0, 12, 15, 13)] [(21, a0), (0, a1), (0, a2), (0, a3), (51, a4)] h (lwX h a4 o) :=
  CtT_of (by decide) rfl (fun z => by cases z) (nl rfl) (fun {p e R s m args below meth c A H0} htb hzs => by
    refine r_aload dL_mean_0 4 rfl (nl rfl) ?_
    refine r_iconst dL_mean_2 (by decide) ?_
    refine r_aload_n dL_mean_3 rfl 0 rfl (nl rfl) ?_
    refine r_iload_n dL_mean_4 rfl 1 rfl (Or.inl rfl) ?_
    refine r_iload_n dL_mean_5 rfl 2 rfl (Or.inl rfl) ?_
    refine r_iload_n dL_mean_6 rfl 3 rfl (Or.inl rfl) ?_
    refine r_callX (ci := 11) (o9 := a0) (T := TX11) (as := [(0, a1), (0, a2), (0, a3)]) (rest := [(0, 0), (51, a4)]) (o := o) (hp := 15) (kl := 5) (cx := 13) (xe := ⟨0, 12, 15, 13⟩) (oX11_mean htr hr) gX11_mean rfl (by decide) rfl (wsl_60 _ (List.mem_of_getElem? (i := 19) rfl)) rfl dL_mean_7 rfl hzs htb (by decide) ⟨rfl, rfl, by decide⟩ (wsl_54 _ (List.mem_of_getElem? (i := 20) rfl)) dL_mean_15 (by decide) (fun r hor => ?_) (fun hon => ?_)
    · subst hor
      refine r_i2l dL_mean_10 ?_
      refine r_last dL_mean_11 (aput_in (by decide) h1) ?_
      refine r_goto dL_mean_12 (tgt := 19) (by decide) ?_
      refine r_iconst dL_mean_19 (by decide) ?_
      exact r_ret dL_mean_20 rfl (Or.inl ⟨rfl, rfl⟩) rfl ⟨rfl, rfl⟩
    · subst hon
      refine r_iconst dL_mean_17 (by decide) ?_
      exact r_ret dL_mean_18 rfl (Or.inl ⟨rfl, rfl⟩) rfl ⟨rfl, rfl⟩)
theorem cellF {h : hH} (hL : Lay h) {q c : Int} {o : Option Int} (hc : cellC h q c = some o) : fX11_cell h 0 q c = some o := by
  unfold cellC at hc
  unfold fX11_cell fX11_cell_b43
  rw [ly_0_2 hL, ly_13_0 hL, ly_0_1 hL]
  obtain ⟨i, e1, hc⟩ := bnd hc
  rw [e1]
  simp only [Option.bind_some]
  by_cases z1 : i = -1
  · rw [if_pos z1] at hc ⊢; exact hc
  · rw [if_neg z1] at hc ⊢
    by_cases z2 : c < 0
    · rw [if_pos z2] at hc ⊢; exact hc
    · rw [if_neg z2] at hc ⊢
      obtain ⟨t, e2, hc⟩ := bnd hc
      rw [e2]
      simp only [Option.bind_some]
      obtain ⟨w, e3, hc⟩ := bnd hc
      rw [e3]
      simp only [Option.bind_some]
      by_cases z3 : c < w
      · rw [if_pos z3] at hc ⊢
        rw [← hc]
        cases fX3_value h 14 i c <;> rfl
      · rw [if_neg z3] at hc ⊢; exact hc
theorem colF {h : hH} (hL : Lay h) (h1 : SchI h) {t c w : Int} {o : Option Int} (hc : colC h t c w = some o) : fX11_col h 0 t c w = some o := by
  unfold colC at hc
  unfold fX11_col fX11_col_b21
  rw [ly_0_1 hL]
  obtain ⟨b, e1, hc⟩ := bnd hc
  rw [e1]
  simp only [Option.bind_some]
  by_cases z1 : b = 0
  · rw [if_pos z1] at hc ⊢; exact hc
  · rw [if_neg z1] at hc ⊢
    by_cases z2 : w < 0
    · rw [if_pos z2] at hc ⊢; exact hc
    · rw [if_neg z2] at hc ⊢
      by_cases z3 : 3 < w
      · rw [if_pos z3] at hc ⊢; exact hc
      · rw [if_neg z3] at hc ⊢
        by_cases z4 : w = 0
        · rw [if_pos z4] at hc ⊢
          rw [← hc]
          cases fX4_defaultOf h 4 t c <;> rfl
        · rw [if_neg z4] at hc ⊢
          by_cases z5 : w = 1
          · rw [if_pos z5] at hc ⊢
            have hT : (0 ≤ t ∧ t < h 194 0) ∧ 0 ≤ c ∧ c < h 194 (4 + t) := by
              rw [has_ok (schAt_4 hL) h1.1 h1.2] at e1
              by_cases y : (0 ≤ t ∧ t < h 194 0) ∧ 0 ≤ c ∧ c < h 194 (4 + t)
              · exact y
              · rw [if_neg y] at e1
                exact absurd (Option.some.inj e1).symm z1
            have T4 := h1.2.1
            have w4 := h1.2.2.2.2.2.1 t hT.1.1 hT.1.2
            rw [needed_ok9 (schAt_4 hL) h1.1 h1.2 hT.1.1 (by omega) hT.2.1 (by omega)] at hc ⊢
            simp only [Option.bind_some]
            rw [← hc]
            unfold ndV9
            by_cases x1 : h 194 (24 + (4 * t + c)) = 1
            · rw [if_pos x1]; rfl
            · rw [if_neg x1]
              by_cases x2 : wkF9 40 46 (h 194) t c (h 194 1) = 0
              · rw [if_pos x2]; rfl
              · rw [if_neg x2]; rfl
          · rw [if_neg z5] at hc ⊢
            by_cases z6 : w = 2
            · rw [if_pos z6] at hc ⊢
              rw [← hc]
              cases fX4_keysWith h 4 t c <;> rfl
            · rw [if_neg z6] at hc ⊢
              rw [← hc]
              cases fX4_refsWith h 4 t c <;> rfl
theorem meanF {h : hH} (hL : Lay h) {t c w : Int} {o : Option Int} (hc : meanC h t c w = some o) : fX11_mean h 0 t c w = some o := by
  unfold meanC at hc
  obtain ⟨b, e1, hc⟩ := bnd hc
  obtain ⟨n, e2, hc⟩ := bnd hc
  have key : fX11_mean_b28 h 0 t c w n = some o := by
    unfold fX11_mean_b28 fX11_mean_b44 fX11_mean_b86
    rw [ly_0_2 hL, ly_13_0 hL]
    by_cases z1 : n = 0
    · rw [if_pos z1] at hc ⊢; exact hc
    · rw [if_neg z1] at hc ⊢
      by_cases z2 : w < 0
      · rw [if_pos z2] at hc ⊢; exact hc
      · rw [if_neg z2] at hc ⊢
        by_cases z3 : 1 < w
        · rw [if_pos z3] at hc ⊢; exact hc
        · rw [if_neg z3] at hc ⊢
          obtain ⟨s, e3, hc⟩ := bnd hc
          rw [e3]
          simp only [Option.bind_some]
          obtain ⟨g, e4, hc⟩ := bnd hc
          rw [e4]
          simp only [Option.bind_some]
          by_cases z4 : w = 0
          · rw [if_pos z4]
            rw [if_pos z4] at hc
            exact hc
          · rw [if_neg z4]
            rw [if_neg z4] at hc
            exact hc
  unfold fX11_mean
  rw [ly_0_1 hL, e1]
  simp only [Option.bind_some]
  by_cases z : b = 0
  · rw [if_pos z] at e2 ⊢
    obtain rfl := Option.some.inj e2
    exact key
  · rw [if_neg z] at e2 ⊢
    rw [ly_0_2 hL, ly_13_0 hL, e2]
    exact key
