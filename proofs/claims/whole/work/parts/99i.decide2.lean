/-! STATEMENT, WOULD: the text reads; as calls -/
theorem JudI.of {h e : hH} (hJ : JudI h) (e39 : e 39 = h 39) (e46 : e 46 = h 46) (e47 : e 47 = h 47) (e207 : e 207 = h 207) (e208 : e 208 = h 208) (e42 : e 192 42 = h 192 42) : JudI e := by
  unfold JudI GoR at hJ ⊢
  rw [e39, e46, e47, e207, e208, e42]
  exact hJ
theorem LatV.of {h e : hH} (hV : LatV h) (e44 : e 44 = h 44) (e45 : e 45 = h 45) (e209 : e 209 = h 209) (e210 : e 210 = h 210) (e211 : e 211 = h 211) (e41 : e 192 41 = h 192 41) : LatV e := by
  unfold LatV VioC at hV ⊢
  rw [e44, show (44 : Int) + 1 = 45 from rfl, e45, e209, e210, e211, e41]
  exact hV
theorem seg_fr2 {h : hH} {A off n : Int} {src : Int → Int} {C : Int → Int → Bool} (hc : ∀ b, off ≤ b → b < off + n → C A b = true) : Fr C h (seg h A off n src) := fun a b z => by
  unfold seg
  rw [if_neg (fun y => by
    rw [y.1, hc b y.2.1 y.2.2] at z
    cases z)]
def deA (a b : Int) : Bool := deF a b || jugC 39 a b || a == 44 || a == 45 || undC a b || rwC 14 a b || stM a b || onF a b
theorem decideGo {h c : hH} (hL : Lay h) (hT : TapeR h) (hR : Res0 h) (h1 : SchI h) (h2 : StI h) (h3 : UndI h) (hn : NamR h h 4 0 (h 194)) (hr : fX2_readStatement h 37 = some (1, c)) (keep : Int) : ∃ r k e, fX11_decide h 0 keep = some (r, k) ∧ (if keep = 0 then fX12_would k 192 else fX12_statement k 192) = some (r, e) ∧ Lay e ∧ Fr deA h e ∧ e 1 1 = 0 ∧ e 192 2 = 0 ∧ FauI e ∧ StI e ∧ UndI e ∧ JudI e ∧ LatV e := by
  have hP := PI.of hL h1 hn
  obtain ⟨b, c', p1, Lc, p3, p4, -⟩ := readOne1 hL hT hR hP
  have ee := hr.symm.trans p1
  have ee1 : 1 = b ∧ c = c' := by injection ee with x; injection x with x y; exact ⟨x, y⟩
  obtain ⟨rfl, rfl⟩ := ee1
  rcases p4 with ⟨z, -⟩ | ⟨-, c18, T0, lo0, li0⟩
  · omega
  -- the class
  have Ld : Lay (hup c 1 1 0) := Lc.upF (by decide)
  have fd0 : Fr deA h (hup c 1 1 0) := (p3.mono (fun a b z => by unfold deA deF; rw [z]; rfl)).tr (Fr.up (by decide))
  generalize hd : hup c 1 1 0 = d at Ld fd0
  have da : ∀ a, a ≠ 1 → d a = c a := fun a ha => by rw [← hd, hup_off ha]
  have d11 : d 1 1 = 0 := by rw [← hd, hup_at]
  have d18 : d 1 8 = 0 := by rw [← hd, hup_ne (by omega)]; exact c18
  have dr : ∀ a, a ≠ 1 → a ≠ 3 → a ≠ 37 → a ≠ 38 → d a = h a := fun a a1 a3 a37 a38 => by rw [da a a1, rsC_row p3 a1 a3 a37 a38]
  have es : d 194 = h 194 := dr 194 (by decide) (by decide) (by decide) (by decide)
  have D1 : SchI d := h1.of (fun a a0 a1 => dr a (by omega) (by omega) (by omega) (by omega)) (fun i _ _ => by rw [es])
  have D2 : StI d := h2.of (fun a a0 a1 => dr a (by omega) (by omega) (by omega) (by omega)) es
  have jj : ∀ T, LOk (h 194) T → LinC (h 194) c 0 T → ∃ k, fX1_judge d 39 37 0 = some (whyS (h 194) T, k) ∧ Lay k ∧ Fr (fun a b => jugC 39 a b || a == 39 + 5 || a == 39 + 6) d k ∧ JudK 39 (h 194) T k := fun T lo li => by
    have := judgeC_ok (v := 39) (l := 0) (T := T) (Or.inl rfl) Ld D1 D2 (by rw [es]; exact lo) (by rw [es]; exact li.of (da 38 (by decide)))
    rw [es] at this
    exact this
  obtain ⟨k, k1, Lk, k3, k4⟩ := jj T0 lo0 li0
  generalize hw : whyS (h 194) T0 = w at k1
  have hk : ∀ T, LOk (h 194) T → LinC (h 194) c 0 T → JudK 39 (h 194) T k ∧ w = whyS (h 194) T := fun T lo li => by
    obtain ⟨k', a1, -, -, a4⟩ := jj T lo li
    have e := k1.symm.trans a1
    have e1 : w = whyS (h 194) T ∧ k = k' := by injection e with x; injection x with x y; exact ⟨x, y⟩
    rw [e1.2]
    exact ⟨a4, e1.1⟩
  have kr : ∀ a, (a < 39 ∨ 51 < a) → k a = d a := fun a ha => k3.row a (fun b => by unfold jugC rwC; simp; omega)
  have krh : ∀ a, (a < 39 ∨ 51 < a) → a ≠ 1 → a ≠ 3 → a ≠ 37 → a ≠ 38 → k a = h a := fun a ha a1 a3 a37 a38 => by rw [kr a ha, dr a a1 a3 a37 a38]
  have fk : Fr deA h k := fd0.tr (k3.mono (fun a b z => by
    simp only [Bool.or_eq_true, beq_iff_eq] at z
    unfold deA
    rcases z with (z | z) | z
    · rw [z]; simp
    · simp [z]
    · simp [z]))
  have hcl : fX11_decide h 0 keep = if w = 0 then (if keep = 0 then fX11_decide_b83 k 0 else (fX11_keepForUndo k 0 13).bind fun h63 => (fX3_copyFrom h63 (h63 (h63 0 2) 0) (h63 (h63 0 7) 2)).bind fun h80 => fX11_decide_b83 h80 0) else some (w32 (-1000 - w), k) := by
    unfold fX11_decide
    rw [ly_0_6 hL, p1]
    simp only [Option.bind_some, pput]
    rw [ly_0_0 Lc, hd, if_neg (show ¬ (1 : Int) = 0 by decide), ly_0_7 Ld, ly_0_6 Ld, k1]
    simp only [Option.bind_some]
    rw [ly_0_2 Lk]
  have hS := h1.2
  have hb := h2.2.2.2.2.2.2.1
  have on_de : ∀ {K e : hH}, Fr onF K e → Fr deA K e := fun f => f.mono (fun a b z => by unfold deA; rw [z]; simp)
  -- why, and the model's beginning
  by_cases hz : w = 0
  · by_cases kz : keep = 0
    · -- would
      obtain ⟨T, g, m, e, lo, J, hwT, vr, q1, q2, q3, Le, fe, e2, e16, ji, lv, e194, e206, e32, e33, e197⟩ := oneM hL hT hR h1 h2 hn hr hk Lk (fun a _ _ => rfl) (fun a ha => krh a (by omega) (by omega) (by omega) (by omega) (by omega))
      have hwz : whyS (h 194) T = 0 := by rw [← hwT]; exact hz
      obtain ⟨nn, nc⟩ := why0 hwz
      rw [if_pos hz] at e194
      have gb := go_b (T := T) hb
      have cb := ch5_b (T := T) hb
      have wk := wouldBack (x0 := e) Le e32 e33 e197 (by omega) (by omega)
      rw [tc_eq hwz hS lo] at wk
      generalize hx : seg e 194 148 1091 (e 206) = x at wk
      have xa : ∀ a, a ≠ 194 → x a = e a := fun a ha => by rw [← hx, seg_off ha]
      have x194 : x 194 = h 194 := by
        funext i
        rw [← hx]
        by_cases y : 148 ≤ i ∧ i < 1239
        · rw [seg_in y.1 (by omega), e206 _ (by omega) (by omega)]
          congr 1
          omega
        · rw [seg_out (by omega), e194, new_lo h2.2.1 nn (by omega)]
      have Lx : Lay x := by rw [← hx]; exact lay_seg194 Le (by decide)
      have er : ∀ a, a < 192 ∨ 211 < a → e a = k a := fun a ha => onF_row fe (by omega)
      have fxe : Fr deA e x := by
        rw [← hx]
        exact seg_fr2 (fun b b0 b1 => by unfold deA onF jmF; simp; omega)
      refine ⟨tcS (h 194) T, k, x, ?_, ?_, Lx, (fk.tr (on_de fe)).tr fxe, ?_, ?_, ?_, ?_, ?_, ?_, ?_⟩
      · rw [hcl, if_pos hz, if_pos kz]
        unfold fX11_decide_b83
        rw [ly_0_7 Lk, J.2.2.2.2.2.2.1 hwz]
      · rw [if_pos kz]
        unfold fX12_would
        rw [q1]
        simp only [Option.bind_some]
        rw [if_neg (show ¬ (1 : Int) = 0 by decide), q2]
        simp only [Option.bind_some]
        rw [q3]
        simp only [Option.bind_some]
        rw [if_neg (by omega), wk]
      · rw [xa 1 (by decide), er 1 (by decide), kr 1 (by decide)]; exact d11
      · rw [xa 192 (by decide)]; exact e2
      · unfold FauI
        rw [xa 1 (by decide), er 1 (by decide), kr 1 (by decide), xa 192 (by decide), d18, e16]
      · exact h2.of (fun a a0 a1 => by rw [xa a (by omega), er a (by omega), krh a (by omega) (by omega) (by omega) (by omega) (by omega)]) x194
      · exact h3.of (by rw [xa 0 (by decide), er 0 (by decide), krh 0 (by omega) (by omega) (by omega) (by omega) (by omega)]) (fun a a0 a1 => by rw [xa a (by omega), er a (by omega), krh a (by omega) (by omega) (by omega) (by omega) (by omega)]) (by rw [xa 192 (by decide), fe 192 44 (by decide), krh 192 (by omega) (by omega) (by omega) (by omega) (by omega)]) (by rw [xa 212 (by decide), er 212 (by decide), krh 212 (by omega) (by omega) (by omega) (by omega) (by omega)]) (fun i _ => by rw [x194]) h1.2.1.2
      · exact ji.of (xa _ (by decide)) (xa _ (by decide)) (xa _ (by decide)) (xa _ (by decide)) (xa _ (by decide)) (by rw [xa 192 (by decide)])
      · exact lv.of (xa _ (by decide)) (xa _ (by decide)) (xa _ (by decide)) (xa _ (by decide)) (xa _ (by decide)) (by rw [xa 192 (by decide)])
    · -- statement
      obtain ⟨u, U1, U2, U3⟩ := h3
      have U1k : UndC k u (sl h) := U1.fr (by rw [krh 0 (by omega) (by omega) (by omega) (by omega) (by omega)]) (fun a ha => krh a (by omega) (by omega) (by omega) (by omega) (by omega))
      have kst : StH k 13 (h 194) := StH.sameL (fun a a0 a1 => krh a (by omega) (by omega) (by omega) (by omega) (by omega)) h2.1
      obtain ⟨n, n1, n2, n3⟩ := keep_ok Lk U1k (Or.inl rfl) kst
      have Ln : Lay n := n3.lay Lk undC_lay1 undC_lay2
      have nr : ∀ a, ((a < 74 ∨ 150 ≤ a) ∧ a ≠ 0) → n a = k a := fun a ha => n3.row a (fun b => undC_out ha)
      have nst : StH n 13 (h 194) := StH.sameL (fun a a0 a1 => nr a (by omega)) kst
      have tt : ∀ T, LOk (h 194) T → JudK 39 (h 194) T k → w = whyS (h 194) T → ∃ o, fX3_copyFrom n 14 40 = some o ∧ StH o 13 (newS (h 194) T) ∧ StOk (newS (h 194) T) ∧ Fr (rwC 14) n o := fun T lo J e => by
        obtain ⟨nn, nc⟩ := why0 (S := h 194) (T := T) (by rw [← e]; exact hz)
        have hh := J.2.2.2.2.2.2.2.2 nn nc
        exact takeThen (v := 39) (Or.inl rfl) Ln hS lo nst h2.2 nn (RowsR.same hh.1 (by rw [nr _ (by omega)]) (nr _ (by omega)) (nr _ (by omega)) (nr _ (by omega))) (by rw [nr _ (by omega)]; exact hh.2)
      obtain ⟨o, o1, -, -, o4⟩ := tt T0 lo0 k4 hw.symm
      have Lo : Lay o := o4.lay Ln (by decide +kernel) (by decide +kernel)
      have oa : ∀ a, (a < 14 ∨ 17 < a) → o a = n a := fun a ha => o4.row a (fun b => rwC_far (by omega))
      have ok : ∀ a, (17 < a ∧ a < 74) ∨ 150 ≤ a → o a = k a := fun a ha => by rw [oa a (by omega), nr a (by omega)]
      obtain ⟨T, g, m, e, lo, J, hwT, vr, q1, q2, q3, Le, fe, e2, e16, ji, lv, e194, e206, e32, e33, e197⟩ := oneM hL hT hR h1 h2 hn hr hk Lo (fun a _ _ => ok a (by omega)) (fun a ha => by rw [ok a (by omega), krh a (by omega) (by omega) (by omega) (by omega) (by omega)])
      obtain ⟨o', o1', os, ook, -⟩ := tt T lo J hwT
      have oe : o = o' := by
        have := o1.symm.trans o1'
        injection this
      rw [← oe] at os
      have hwz : whyS (h 194) T = 0 := by rw [← hwT]; exact hz
      obtain ⟨nn, nc⟩ := why0 hwz
      rw [if_pos hz] at e194
      have er : ∀ a, a < 192 ∨ 211 < a → e a = o a := fun a ha => onF_row fe (by omega)
      have e44 : e 192 44 = u := by rw [fe 192 44 (by decide), ok 192 (by omega), krh 192 (by omega) (by omega) (by omega) (by omega) (by omega)]; exact U2
      have elo : ∀ i, i < 148 → e 194 i = h 194 i := fun i hi => by rw [e194, new_lo h2.2.1 nn (Or.inl hi)]
      obtain ⟨x, x1, x2, x3⟩ := stores3 (A := 206) (U := sl h) (X := h 194) Le (ll_206 Le) ⟨by decide, by decide⟩ e44 U1.2.1 U1.2.2.1 (sl_eq (by rw [er 212 (by decide), ok 212 (by omega), krh 212 (by omega) (by omega) (by omega) (by omega) (by omega)]) elo) (fun i _ i1 => elo i i1) e206
      have Lx : Lay x := x2.lay Le stM_lay1 stM_lay2
      have xr : ∀ a, a ≠ 192 → a ≠ 212 → x a = e a := fun a a1 a2 => stM_row x2 a1 a2
      have gb := go_b (T := T) hb
      have cb := ch5_b (T := T) hb
      have ht := touched_ok (k := x) (to := 0) (a := ((goS (h 194) T).length : Int)) (b := chS5 (h 194) T) (t := T 0) Lx (by decide) (by decide) (by rw [x2 192 32 (by decide)]; exact e32) (by rw [x2 192 33 (by decide)]; exact e33) (by rw [xr 197 (by decide) (by decide)]; exact e197) (by omega) (by omega)
      rw [tc_eq hwz hS lo] at ht
      have x194 : x 194 = newS (h 194) T := by rw [xr 194 (by decide) (by decide)]; exact e194
      refine ⟨tcS (h 194) T, o, x, ?_, ?_, Lx, ?_, ?_, ?_, ?_, ⟨?_, ?_⟩, ?_, ?_, ?_⟩
      · rw [hcl, if_pos hz, if_neg kz, n1]
        simp only [Option.bind_some]
        rw [ly_0_2 Ln, ly_13_0 Ln, ly_0_7 Ln, ly_39_2 Ln, o1]
        simp only [Option.bind_some]
        unfold fX11_decide_b83
        rw [ly_0_7 Lo, ok 39 (by omega), J.2.2.2.2.2.2.1 hwz]
      · rw [if_neg kz]
        unfold fX12_statement
        rw [q1]
        simp only [Option.bind_some]
        rw [if_neg (show ¬ (1 : Int) = 0 by decide), q2]
        simp only [Option.bind_some]
        rw [q3]
        simp only [Option.bind_some]
        rw [if_neg (by omega), ly_192_30 Le, x1]
        simp only [Option.bind_some]
        rw [ht]
        rfl
      · exact fk.tr ((n3.mono (fun a b z => by unfold deA; rw [z]; simp)).tr ((o4.mono (fun a b z => by unfold deA; rw [z]; simp)).tr ((on_de fe).tr (x2.mono (fun a b z => by unfold deA; rw [z]; simp)))))
      · rw [xr 1 (by decide) (by decide), er 1 (by decide), oa 1 (by decide), nr 1 (by decide), kr 1 (by decide)]; exact d11
      · rw [x2 192 2 (by decide)]; exact e2
      · unfold FauI
        rw [xr 1 (by decide) (by decide), er 1 (by decide), oa 1 (by decide), nr 1 (by decide), kr 1 (by decide), x2 192 16 (by decide), d18, e16]
      · rw [x194]
        exact StH.sameL (fun a a0 a1 => by rw [xr a (by omega) (by omega), er a (by omega)]) os
      · rw [x194]; exact ook
      · refine und_asm (V := push u (sl h) (h 194)) n2 ?_ (fun a ha => ?_) x3 (fun j j0 j1 => push_ok U3 h2.2 j j0 j1) ?_
        · rw [xr 0 (by decide) (by decide), er 0 (by decide), oa 0 (by decide)]
        · rw [xr a (by omega) (by omega), er a (by omega), oa a (by omega)]
        · rw [xr 194 (by decide) (by decide), elo 0 (by decide)]; exact h1.2.1.2
      · exact ji.of (xr _ (by decide) (by decide)) (xr _ (by decide) (by decide)) (xr _ (by decide) (by decide)) (xr _ (by decide) (by decide)) (xr _ (by decide) (by decide)) (x2 192 42 (by decide))
      · exact lv.of (xr _ (by decide) (by decide)) (xr _ (by decide) (by decide)) (xr _ (by decide) (by decide)) (xr _ (by decide) (by decide)) (xr _ (by decide) (by decide)) (x2 192 41 (by decide))
  · obtain ⟨T, g, m, e, lo, J, hwT, vr, q1, q2, q3, Le, fe, e2, e16, ji, lv, e194, e206, e32, e33, e197⟩ := oneM hL hT hR h1 h2 hn hr hk Lk (fun a _ _ => rfl) (fun a ha => krh a (by omega) (by omega) (by omega) (by omega) (by omega))
    have wb := why_b vr
    rw [← hwT] at wb
    rw [if_neg hz] at e194
    have er : ∀ a, a < 192 ∨ 211 < a → e a = k a := fun a ha => onF_row fe (by omega)
    refine ⟨w32 (-1000 - w), k, e, by rw [hcl, if_neg hz], ?_, Le, fk.tr (on_de fe), ?_, e2, ?_, ?_, ?_, ji, lv⟩
    · split
      · unfold fX12_would
        rw [q1]
        simp only [Option.bind_some]
        rw [if_neg (show ¬ (1 : Int) = 0 by decide), q2]
        simp only [Option.bind_some]
        rw [q3]
        simp only [Option.bind_some]
        rw [if_pos (by omega)]
      · unfold fX12_statement
        rw [q1]
        simp only [Option.bind_some]
        rw [if_neg (show ¬ (1 : Int) = 0 by decide), q2]
        simp only [Option.bind_some]
        rw [q3]
        simp only [Option.bind_some]
        rw [if_pos (by omega)]
    · rw [er 1 (by decide), kr 1 (by decide)]; exact d11
    · unfold FauI
      rw [er 1 (by decide), kr 1 (by decide), d18, e16]
    · exact h2.of (fun a a0 a1 => by rw [er a (by omega), krh a (by omega) (by omega) (by omega) (by omega) (by omega)]) e194
    · exact h3.of (by rw [er 0 (by decide), krh 0 (by omega) (by omega) (by omega) (by omega) (by omega)]) (fun a a0 a1 => by rw [er a (by omega), krh a (by omega) (by omega) (by omega) (by omega) (by omega)]) (by rw [fe 192 44 (by decide), krh 192 (by omega) (by omega) (by omega) (by omega) (by omega)]) (by rw [er 212 (by decide), krh 212 (by omega) (by omega) (by omega) (by omega) (by omega)]) (fun i _ => by rw [e194]) h1.2.1.2
