/-! A SENTENCE: ONE, ALL, COND, both ways -/
section SIM
variable {B : Int → Int} {L M n : Int} {K A V E : Int → Int}
def OneQ (B : Int → Int) (L M n : Int) (K A V E : Int → Int) (x0 : hH) (one : hH → Int → Int → Option (Int × hH)) (w : Int) : Prop := ∀ (j : Int) (c g : hH) (γ : List CT) (σ : List Int) (o : Int), SF B L M n K A V E j c g γ σ w o → ∃ b c', one c 34 w = some (b, c') ∧ Lay c' ∧ Fr snC c c' ∧ ((b = 0 ∧ FLD x0 g c') ∨ (b = 1 ∧ ∃ j' g' γ' o', j < j' ∧ Ext γ γ' ∧ SW B L M n K A V E j' c' g' γ' σ [] [] w o' ∧ Fr snM g g' ∧ RUNL x0 g g'))
def AllQ (B : Int → Int) (L M n : Int) (K A V E : Int → Int) (x0 : hH) (one : hH → Int → Int → Option (Int × hH)) (w : Int) : Prop := ∀ (j : Int) (c g : hH) (γ : List CT) (σ : List Int) (o : Int), SF B L M n K A V E j c g γ σ w o → nTop σ (fun x => x = 20 ∨ x = 21) → ∃ b c', fX7_readAll one c 34 w = some (b, c') ∧ Lay c' ∧ Fr snC c c' ∧ ((b = 0 ∧ FLD x0 g c') ∨ (b = 1 ∧ ∃ j' g' γ' o' Q, j < j' ∧ Ext γ γ' ∧ SW B L M n K A V E j' c' g' γ' σ [] Q w o' ∧ K j' ≠ 144 ∧ Fr snM g g' ∧ RUNL x0 g g'))
def CondQ (B : Int → Int) (L M n : Int) (K A V E : Int → Int) (x0 : hH) (one : hH → Int → Int → Option (Int × hH)) (w : Int) : Prop := ∀ (j : Int) (c g : hH) (γ : List CT) (σ : List Int) (o : Int), SF B L M n K A V E j c g γ σ w o → nTop σ (fun x => x = 20 ∨ x = 21 ∨ x = 22) → ∃ b c', fX7_readCond one c 34 w = some (b, c') ∧ Lay c' ∧ Fr snC c c' ∧ ((b = 0 ∧ FLD x0 g c') ∨ (b = 1 ∧ ∃ j' g' γ' o' O Q, j < j' ∧ Ext γ γ' ∧ SW B L M n K A V E j' c' g' γ' σ O Q w o' ∧ K j' ≠ 144 ∧ K j' ≠ 150 ∧ Fr snM g g' ∧ RUNL x0 g g'))
theorem RUNL.rf {x0 g : hH} : RUNL x0 g g := fun _ h => h
theorem RUNL.tr {x0 a b c : hH} (h1 : RUNL x0 a b) (h2 : RUNL x0 b c) : RUNL x0 a c := fun r h => h1 r (h2 r h)
theorem opt_no {c : hH} {j k : Int} (hc : SC n K A V j c) (hk : K j ≠ k) : fX9_option c 1 k = some (0, c) := by
  unfold fX9_option
  rw [hc.k, if_neg hk]
theorem opt_yes {c : hH} {j k : Int} (hC : Chain B L M n K A V E) (hc : SC n K A V j c) (hk : K j = k) : ∃ c', fX9_option c 1 k = some (1, c') ∧ SC n K A V (nx n j) c' ∧ Fr tkF c c' ∧ c' 1 8 = c 1 8 := by
  obtain ⟨c1, k1, k2, k3, k4, -⟩ := stepC hC hc
  refine ⟨c1, ?_, k2, k3, k4⟩
  unfold fX9_option
  rw [hc.k, if_pos hk, k1]
  rfl
/-- the class lays an act for what waits in the model -/
theorem lay_and {j : Int} {c c' g : hH} {γ : List CT} {σ : List Int} {w o x : Int} (hx : x = 21 ∨ x = 22) {O Q : List Int} (hQ : Q = [] ∨ Q = [21]) (h : SW B L M n K A V E j c g γ (σ ++ [x]) [] Q w o) (hq : x = 21 → Q = []) (hL : Lay c') (hD : DS c' (γ ++ [opc x]) o) (hf : Fr adF c c') : SW B L M n K A V E j c' g (γ ++ [opc x]) σ (if x = 22 then [22] else []) (if x = 21 then [21] else Q) w o := by
  obtain ⟨γ0, k, h1, h2, h3, h4, h5, h6, h7, h8, h9, h10, h11, h12, h13⟩ := h
  refine ⟨γ0, k, h1.ad hL hf, h2, h3.ln2 (fun a a0 a1 => ad_row hf (by omega) (by omega)) rfl rfl, hD, ?_, ?_, h7, by rw [ad_row hf (by decide) (by decide)]; exact h8, h9, ?_, h11, ?_, ?_⟩
  · rcases hx with rfl | rfl
    · rw [if_neg (by decide), if_pos rfl]
      have := hq rfl
      subst this
      simpa using h5
    · rw [if_pos rfl, if_neg (by decide)]
      simpa using h5
  · rcases hx with rfl | rfl
    · have := hq rfl
      subst this
      rw [h6]
      simp
    · rw [h6]
      simp
  · rw [List.length_append] at h10 ⊢
    simp at h10 ⊢
    omega
  · rcases hx with rfl | rfl
    · exact Or.inr (by rw [if_pos rfl])
    · rw [if_neg (by decide)]; exact h12
  · rcases hx with rfl | rfl
    · exact Or.inl (by rw [if_neg (by decide)])
    · exact Or.inr (by rw [if_pos rfl])
theorem SW.len {j : Int} {c g : hH} {γ : List CT} {σ O Q : List Int} {w o : Int} (h : SW B L M n K A V E j c g γ σ O Q w o) : (γ.length : Int) + σ.length + 1 ≤ 40 := by
  obtain ⟨γ0, k, h1, h2, h3, h4, h5, h6, h7, h8, h9, h10, h11, h12, h13⟩ := h
  omega
theorem SW.sc {j : Int} {c g : hH} {γ : List CT} {σ O Q : List Int} {w o : Int} (h : SW B L M n K A V E j c g γ σ O Q w o) : SC n K A V j c ∧ DS c γ o ∧ c 1 8 = 0 ∧ PI c g := by
  obtain ⟨γ0, k, h1, h2, h3, h4, h5, h6, h7, h8, h9, h10, h11, h12, h13⟩ := h
  exact ⟨h1, h4, h8, h3⟩
/-- behind AND, OR: an operand again -/
theorem SF.next {j : Int} {c c' g g' : hH} {γ : List CT} {σ O Q : List Int} {w o x : Int} (h : SW B L M n K A V E j c g γ σ O Q w o) (hc : SC n K A V (nx n j) c') (hf : Fr tkF c c') (he : c' 1 8 = c 1 8) (hg : SM B L M n K A V E (nx n j) g') (hK : KX g' γ (σ ++ [x]) w o) (h61 : g' 192 61 = 0) (hfm : Fr snM g g') : SF B L M n K A V E (nx n j) c' g' γ (σ ++ [x]) w o := by
  obtain ⟨γ0, k, h1, h2, h3, h4, h5, h6, h7, h8, h9, h10, h11, h12, h13⟩ := h
  refine ⟨hc, hg, h3.sn (hf.mono (fun a b z => tk_sn z)) hfm, h4.fr hf, hK, h61, by rw [he]; exact h8, h9, ?_, h11⟩
  rw [List.length_append]
  simp
  omega
theorem allLoop {x0 x1 : hH} {one : hH → Int → Int → Option (Int × hH)} {w : Int} (hC : Chain B L M n K A V E) (hM : M ≤ 200) (hone : OneQ B L M n K A V E x0 one w) {σ : List Int} (hn : nTop σ (fun x => x = 20 ∨ x = 21)) : ∀ (d : Nat) (j l : Int) (c g : hH) (γ : List CT) (o : Int) (Q : List Int), (n - j).toNat ≤ d → 0 ≤ l → 2 * l ≤ j → SW B L M n K A V E j c g γ σ [] Q w o → ∃ b c', lpO (fX7_readAll_s8 one x1 34 w) (c, 1, l) = some (b, c') ∧ Lay c' ∧ Fr snC c c' ∧ ((b = 0 ∧ FLD x0 g c') ∨ (b = 1 ∧ ∃ j' g' γ' o' Q, j ≤ j' ∧ ExtL γ γ' ∧ SW B L M n K A V E j' c' g' γ' σ [] Q w o' ∧ K j' ≠ 144 ∧ Fr snM g g' ∧ RUNL x0 g g')) := by
  have n9 := hC.1.2
  intro d
  induction d with
  | zero =>
    intro j l c g γ o Q hd l0 lj h
    exfalso
    have := h.sc.1.2.2.2.2
    omega
  | succ d ih =>
    intro j l c g γ o Q hd l0 lj h
    obtain ⟨hc, hD, e8, hP⟩ := h.sc
    have jn := hc.2.2.2.2
    have j0 := hc.2.2.2.1
    by_cases hk : K j = 144
    · obtain ⟨c1, y1, y2, y3, y4⟩ := opt_yes hC hc hk
      obtain ⟨g1, m1, m2, m3, m4, m5⟩ := beh_and (x0 := x0) hC h hk hn
      have hSF := SF.next h y2 y3 y4 m2 m3 m4 m5
      have nj := nx_s hC jn (by omega) (by omega)
      obtain ⟨b, c2, z1, zL, z2, z3⟩ := hone _ _ _ _ _ _ hSF
      have hs : ∀ c3, fX6_add c2 35 144 0 0 = some c3 → fX7_readAll_s8 one x1 34 w (c, 1, l) = some (.inl (c3, b, l + 1)) := fun c3 h3 => by
        unfold fX7_readAll_s8
        dsimp only
        rw [if_pos (by omega), if_neg (show ¬ (1 : Int) = 0 by decide), ly_34_0 hc.1, y1]
        simp only [Option.bind_some]
        rw [if_neg (show ¬ (1 : Int) = 0 by decide), z1]
        simp only [Option.bind_some]
        rw [ly_34_2 zL, h3]
        simp only [Option.bind_some]
        rw [w1 (by omega) (by omega)]
      have fc2 : Fr snC c c2 := (y3.mono (fun a b z => tk_sn z)).tr z2
      rcases z3 with ⟨rfl, hf⟩ | ⟨rfl, j', g', γ', o', jj, ex, hw, fm, hr⟩
      · obtain ⟨c3, a1, a2, a3⟩ := add_any zL 144 0 0
        refine ⟨0, c3, ?_, a2, fc2.tr (ad_sn a3), Or.inl ⟨rfl, (hf.cls a3).from m1 m5⟩⟩
        rw [lpO_inl (hs c3 a1)]
        refine lpO_inr ?_
        unfold fX7_readAll_s8
        dsimp only
        rw [if_pos (show (0 : Int) = 0 from rfl)]
        split <;> rfl
      · obtain ⟨hc', hD', -, -⟩ := hw.sc
        have hl := hw.len
        rw [List.length_append] at hl
        obtain ⟨c3, a1, a2, a3, a4⟩ := add_ok2 (a := 144) (b := 0) (d := 0) zL hD' (by simp at hl; omega) (opc 21) rfl
        have hw' := lay_and (O := []) (Or.inl rfl) (Or.inl rfl) hw (fun _ => rfl) a3 a2 a4
        rw [if_neg (show ¬ (21 : Int) = 22 by decide), if_pos rfl] at hw'
        obtain ⟨b9, c9, q1, q2, q3, q4⟩ := ih j' (l + 1) c3 g' _ o' [21] (by omega) (by omega) (by omega) hw'
        refine ⟨b9, c9, by rw [lpO_inl (hs c3 a1)]; exact q1, q2, (fc2.tr (ad_sn a4)).tr q3, ?_⟩
        rcases q4 with ⟨p1, p2⟩ | ⟨p1, j9, g9, γ9, o9, Q9, p2, ex9, p3, p4, p5, p6⟩
        · exact Or.inl ⟨p1, p2.from (m1.tr hr) (m5.tr fm)⟩
        · exact Or.inr ⟨p1, j9, g9, γ9, o9, Q9, by omega, (ex.two (Or.inl rfl)).tr ex9, p3, p4, (m5.tr fm).tr p5, (m1.tr hr).tr p6⟩
    · refine ⟨1, c, lpO_inr ?_, hc.1, Fr.rf, Or.inr ⟨rfl, j, g, γ, o, Q, Int.le_refl _, ExtL.rf, h, hk, Fr.rf, RUNL.rf⟩⟩
      unfold fX7_readAll_s8
      dsimp only
      rw [if_pos (by omega), if_neg (show ¬ (1 : Int) = 0 by decide), ly_34_0 hc.1, opt_no hc hk]
      simp only [Option.bind_some, if_true]
theorem allQ {x0 : hH} {one : hH → Int → Int → Option (Int × hH)} {w : Int} (hC : Chain B L M n K A V E) (hM : M ≤ 200) (hone : OneQ B L M n K A V E x0 one w) : AllQ B L M n K A V E x0 one w := by
  intro j c g γ σ o hSF hn
  obtain ⟨b, c1, z1, zL, z2, z3⟩ := hone _ _ _ _ _ _ hSF
  unfold fX7_readAll
  rw [z1]
  simp only [Option.bind_some]
  rcases z3 with ⟨rfl, hf⟩ | ⟨rfl, j', g', γ', o', jj, ex, hw, fm, hr⟩
  · refine ⟨0, c1, lpO_inr ?_, zL, z2, Or.inl ⟨rfl, hf⟩⟩
    unfold fX7_readAll_s8
    dsimp only
    rw [if_pos (by decide), if_pos (show (0 : Int) = 0 from rfl)]
  · have j0 := hw.sc.1.2.2.2.1
    obtain ⟨b9, c9, q1, q2, q3, q4⟩ := allLoop (x1 := c1) hC hM hone hn (n - j').toNat j' 0 c1 g' γ' o' [] (Nat.le_refl _) (Int.le_refl _) (by omega) hw
    refine ⟨b9, c9, q1, q2, z2.tr q3, ?_⟩
    rcases q4 with ⟨p1, p2⟩ | ⟨p1, j9, g9, γ9, o9, Q9, p2, ex9, p3, p4, p5, p6⟩
    · exact Or.inl ⟨p1, p2.from hr fm⟩
    · exact Or.inr ⟨p1, j9, g9, γ9, o9, Q9, by omega, ex.tr ex9, p3, p4, fm.tr p5, hr.tr p6⟩
theorem condLoopS {x0 x1 : hH} {one : hH → Int → Int → Option (Int × hH)} {w : Int} (hC : Chain B L M n K A V E) (hM : M ≤ 200) (hall : AllQ B L M n K A V E x0 one w) {σ : List Int} (hn : nTop σ (fun x => x = 20 ∨ x = 21 ∨ x = 22)) : ∀ (d : Nat) (j l : Int) (c g : hH) (γ : List CT) (o : Int) (O Q : List Int), (n - j).toNat ≤ d → 0 ≤ l → 2 * l ≤ j → SW B L M n K A V E j c g γ σ O Q w o → K j ≠ 144 → ∃ b c', lpO (fX7_readCond_s8 one x1 34 w) (c, 1, l) = some (b, c') ∧ Lay c' ∧ Fr snC c c' ∧ ((b = 0 ∧ FLD x0 g c') ∨ (b = 1 ∧ ∃ j' g' γ' o' O Q, j ≤ j' ∧ ExtL γ γ' ∧ SW B L M n K A V E j' c' g' γ' σ O Q w o' ∧ K j' ≠ 144 ∧ K j' ≠ 150 ∧ Fr snM g g' ∧ RUNL x0 g g')) := by
  have n9 := hC.1.2
  intro d
  induction d with
  | zero =>
    intro j l c g γ o O Q hd l0 lj h
    exfalso
    have := h.sc.1.2.2.2.2
    omega
  | succ d ih =>
    intro j l c g γ o O Q hd l0 lj h hk4
    obtain ⟨hc, hD, e8, hP⟩ := h.sc
    have jn := hc.2.2.2.2
    have j0 := hc.2.2.2.1
    by_cases hk : K j = 150
    · obtain ⟨c1, y1, y2, y3, y4⟩ := opt_yes hC hc hk
      obtain ⟨g1, m1, m2, m3, m4, m5⟩ := beh_or (x0 := x0) hC h hk hn
      have hSF := SF.next h y2 y3 y4 m2 m3 m4 m5
      have nj := nx_s hC jn (by omega) (by omega)
      obtain ⟨b, c2, z1, zL, z2, z3⟩ := hall _ _ _ _ _ _ hSF (nTop_snoc (by decide))
      have hs : ∀ c3, fX6_add c2 35 150 0 0 = some c3 → fX7_readCond_s8 one x1 34 w (c, 1, l) = some (.inl (c3, b, l + 1)) := fun c3 h3 => by
        unfold fX7_readCond_s8
        dsimp only
        rw [if_pos (by omega), if_neg (show ¬ (1 : Int) = 0 by decide), ly_34_0 hc.1, y1]
        simp only [Option.bind_some]
        rw [if_neg (show ¬ (1 : Int) = 0 by decide), z1]
        simp only [Option.bind_some]
        rw [ly_34_2 zL, h3]
        simp only [Option.bind_some]
        rw [w1 (by omega) (by omega)]
      have fc2 : Fr snC c c2 := (y3.mono (fun a b z => tk_sn z)).tr z2
      rcases z3 with ⟨rfl, hf⟩ | ⟨rfl, j', g', γ', o', Q', jj, ex, hw, hk', fm, hr⟩
      · obtain ⟨c3, a1, a2, a3⟩ := add_any zL 150 0 0
        refine ⟨0, c3, ?_, a2, fc2.tr (ad_sn a3), Or.inl ⟨rfl, (hf.cls a3).from m1 m5⟩⟩
        rw [lpO_inl (hs c3 a1)]
        refine lpO_inr ?_
        unfold fX7_readCond_s8
        dsimp only
        rw [if_pos (show (0 : Int) = 0 from rfl)]
        split <;> rfl
      · obtain ⟨hc', hD', -, -⟩ := hw.sc
        have hl := hw.len
        have hQ : Q' = [] ∨ Q' = [21] := by
          obtain ⟨_, _, _, _, _, _, _, _, _, _, _, _, _, h12, _⟩ := hw
          exact h12
        rw [List.length_append] at hl
        obtain ⟨c3, a1, a2, a3, a4⟩ := add_ok2 (a := 150) (b := 0) (d := 0) zL hD' (by simp at hl; omega) (opc 22) rfl
        have hw' := lay_and (O := []) (Or.inr rfl) hQ hw (fun z => by omega) a3 a2 a4
        rw [if_pos rfl, if_neg (show ¬ (22 : Int) = 21 by decide)] at hw'
        obtain ⟨b9, c9, q1, q2, q3, q4⟩ := ih j' (l + 1) c3 g' _ o' [22] Q' (by omega) (by omega) (by omega) hw' hk'
        refine ⟨b9, c9, by rw [lpO_inl (hs c3 a1)]; exact q1, q2, (fc2.tr (ad_sn a4)).tr q3, ?_⟩
        rcases q4 with ⟨p1, p2⟩ | ⟨p1, j9, g9, γ9, o9, O9, Q9, p2, ex9, p3, p4, p4', p5, p6⟩
        · exact Or.inl ⟨p1, p2.from (m1.tr hr) (m5.tr fm)⟩
        · exact Or.inr ⟨p1, j9, g9, γ9, o9, O9, Q9, by omega, (ex.two (Or.inr rfl)).tr ex9, p3, p4, p4', (m5.tr fm).tr p5, (m1.tr hr).tr p6⟩
    · refine ⟨1, c, lpO_inr ?_, hc.1, Fr.rf, Or.inr ⟨rfl, j, g, γ, o, O, Q, Int.le_refl _, ExtL.rf, h, hk4, hk, Fr.rf, RUNL.rf⟩⟩
      unfold fX7_readCond_s8
      dsimp only
      rw [if_pos (by omega), if_neg (show ¬ (1 : Int) = 0 by decide), ly_34_0 hc.1, opt_no hc hk]
      simp only [Option.bind_some, if_true]
theorem condQ {x0 : hH} {one : hH → Int → Int → Option (Int × hH)} {w : Int} (hC : Chain B L M n K A V E) (hM : M ≤ 200) (hone : OneQ B L M n K A V E x0 one w) : CondQ B L M n K A V E x0 one w := by
  have hall := allQ hC hM hone
  intro j c g γ σ o hSF hn
  obtain ⟨b, c1, z1, zL, z2, z3⟩ := hall _ _ _ _ _ _ hSF (hn.mono (fun x z => by omega))
  unfold fX7_readCond
  rw [z1]
  simp only [Option.bind_some]
  rcases z3 with ⟨rfl, hf⟩ | ⟨rfl, j', g', γ', o', Q', jj, ex, hw, hk', fm, hr⟩
  · refine ⟨0, c1, lpO_inr ?_, zL, z2, Or.inl ⟨rfl, hf⟩⟩
    unfold fX7_readCond_s8
    dsimp only
    rw [if_pos (by decide), if_pos (show (0 : Int) = 0 from rfl)]
  · have j0 := hw.sc.1.2.2.2.1
    obtain ⟨b9, c9, q1, q2, q3, q4⟩ := condLoopS (x1 := c1) hC hM hall hn (n - j').toNat j' 0 c1 g' γ' o' [] Q' (Nat.le_refl _) (Int.le_refl _) (by omega) hw hk'
    refine ⟨b9, c9, q1, q2, z2.tr q3, ?_⟩
    rcases q4 with ⟨p1, p2⟩ | ⟨p1, j9, g9, γ9, o9, O9, Q9, p2, ex9, p3, p4, p4', p5, p6⟩
    · exact Or.inl ⟨p1, p2.from hr fm⟩
    · exact Or.inr ⟨p1, j9, g9, γ9, o9, O9, Q9, by omega, ex.tr ex9, p3, p4, p4', fm.tr p5, hr.tr p6⟩
/-- the model piles up a not or a bracket -/
theorem piled {g : hH} {γ : List CT} {σ : List Int} {j w o x : Int} (hg : SM B L M n K A V E j g) (hK : KX g γ σ w o) (hl : σ.length < 45) (hw : 0 ≤ w ∧ w ≤ 100) : ∃ g', fX12_operand_b115 g 192 x (g 192 59) (g 192 56) = some (1, g') ∧ SM B L M n K A V E j g' ∧ KX g' γ (σ ++ [x]) (w + 1) o ∧ g' 192 61 = g 192 61 ∧ Fr snM g g' := by
  have e59 := hK.2.2.1
  have e60 := hK.2.2.2.2.1
  have L1 : Lay (hup g 219 σ.length x) := hg.1.1.upA (by decide) (by omega)
  have L3 : Lay (hup (hup (hup g 219 σ.length x) 192 59 (σ.length + 1)) 192 60 (w + 1)) := (L1.upF (by decide)).upF (by decide)
  refine ⟨hup (hup (hup g 219 σ.length x) 192 59 (σ.length + 1)) 192 60 (w + 1), ?_, hg.per L3 (by rw [hup_off (by decide), hup_off (by decide), hup_off (by decide)]) (by rw [hup_off (by decide), hup_off (by decide), hup_off (by decide)]) (fun b hb => by rw [hup_ne (by omega), hup_ne (by omega), hup_off (by decide)]), hK.push (by rw [hup_ne (by omega), hup_ne (by omega), hup_off (by decide)]) (by rw [hup_off (by decide), hup_off (by decide), hup_off (by decide)]) (by rw [hup_ne (by omega), hup_at]) (fun b => by
    rw [hup_off (by decide), hup_off (by decide), hup_row]
    rfl) hup_at (by rw [hup_ne (by omega), hup_ne (by omega), hup_off (by decide)]; exact hK.2.2.2.2.2), by rw [hup_ne (by omega), hup_ne (by omega), hup_off (by decide)], ((Fr.up (by unfold snM; simp)).tr (Fr.up (by decide))).tr (Fr.up (by decide))⟩
  unfold fX12_operand_b115
  rw [e59, ly_192_56 hg.1.1, aput_in (by omega) (by rw [ll_219 hg.1.1]; omega)]
  simp only [Option.bind_some, pput]
  rw [hup_off (a := 192) (by decide), e59, w32_id (x := (σ.length : Int) + 1) (by omega) (by omega), hup_ne (by omega), hup_off (by decide), e60, w32_id (x := w + 1) (by omega) (by omega)]
theorem oneG {x0 : hH} {one : hH → Int → Int → Option (Int × hH)} {w : Int} (hC : Chain B L M n K A V E) (hM : M ≤ 200) (hone : w ≤ 8 → OneQ B L M n K A V E x0 one (w + 1)) : OneQ B L M n K A V E x0 (fX7_readOneG one) w := by
  intro j c g γ σ o hSF
  obtain ⟨hc, hg, hP, hD, hK, h61, e8, ho, hT, hw⟩ := id hSF
  obtain ⟨p, p0, p1, pq, pm, pc⟩ : ∃ p, 0 ≤ p ∧ p < 4096 ∧ (K j = 4 → PkOk p) ∧ (K j = 4 → fX12_packOf g 192 = some p) ∧ (K j = 4 → fX6_colsNamed c 4 (V j) = some (-p)) := by
    by_cases k4 : K j = 4
    · obtain ⟨p, a0, a1, a2, a3, a4⟩ := pack2 hg hP k4
      exact ⟨p, a1, a2, fun _ => a0, fun _ => a3, fun _ => a4⟩
    · exact ⟨0, by decide, by decide, fun z => absurd z k4, fun z => absurd z k4, fun z => absurd z k4⟩
  have hop := operand_eq hg p0 p1 pm hK.2.2.2.2.2 hK.2.2.2.2.1
  have hro := readOneG_eq (one := one) (w := w) hc pc hD.2.1
  have both : ∀ k : Int, 1 ≤ k → fX7_readOneG one c 34 w = fX9_fail c 1 k → fX12_operand g 192 = fX12_bad g 192 k → ∃ b c', fX7_readOneG one c 34 w = some (b, c') ∧ Lay c' ∧ Fr snC c c' ∧ ((b = 0 ∧ FLD x0 g c') ∨ (b = 1 ∧ ∃ j' g' γ' o', j < j' ∧ Ext γ γ' ∧ SW B L M n K A V E j' c' g' γ' σ [] [] w o' ∧ Fr snM g g' ∧ RUNL x0 g g')) := fun k hk e1 e2 => by
    obtain ⟨c1, f1, f2, f3⟩ := failC (k := k) hc
    obtain ⟨g1, f4, f5, f6⟩ := badM (k := k) hg
    rw [f1] at e1
    rw [f4] at e2
    exact ⟨0, c1, e1, f3.lay hc.1 tkF_lay1 tkF_lay2, f3.mono (fun a b z => tk_sn z), Or.inl ⟨rfl, opFail h61 e2 f2 f5 hk (f6.mono (fun a b z => tx_sn z))⟩⟩
  by_cases hs : stOne (K j)
  · rw [if_pos hs] at hop hro
    by_cases z3 : K j = 4 ∧ p = 0
    · rw [if_pos z3] at hop hro
      exact both 3 (by decide) hro hop
    · rw [if_neg z3] at hop hro
      by_cases z20 : o = 20
      · rw [if_pos z20] at hop
        rw [if_neg (by omega)] at hro
        exact both 4 (by decide) hro hop
      · rw [if_neg z20] at hop
        rw [if_pos (by omega)] at hro
        by_cases z8 : 8 < w
        · rw [if_pos z8] at hop hro
          exact both 4 (by decide) hro hop
        · rw [if_neg z8] at hop hro
          rw [w32_id (x := o + 1) (by omega) (by omega)] at hop hro
          have nj := nx_s hC hc.2.2.2.2 (by omega) (by omega)
          -- the class's first step
          have hc0 : SC n K A V j (hup c 35 1 (o + 1)) := hc.per (hc.1.upF (by decide)) (by rw [hup_off (by decide)]) (fun b _ _ => by rw [hup_off (by decide)])
          obtain ⟨c1, k1, k2, k3, k4, -⟩ := stepC hC hc0
          have fc1 : Fr snC c c1 := (Fr.up (by decide)).tr (k3.mono (fun a b z => tk_sn z))
          have e81 : c1 1 8 = 0 := by rw [k4, hup_off (by decide)]; exact e8
          have D1 : DS c1 γ (o + 1) := by
            refine DS.fr (c := hup c 35 1 (o + 1)) ⟨?_, hup_at, ?_⟩ k3
            · rw [hup_ne (by omega)]; exact hD.1
            · rw [hup_off (by decide)]; exact hD.2.2
          rw [k1] at hro
          simp only [Option.bind_some] at hro
          -- the model's
          have hg0 : SM B L M n K A V E j (hup g 192 58 (o + 1)) := hg.per (hg.1.1.upF (by decide)) (by rw [hup_off (by decide)]) (by rw [hup_off (by decide)]) (fun b hb => hup_ne (by omega))
          obtain ⟨g1, m1, m2, m3⟩ := nextM hC hg0
          have fg1 : Fr snM g g1 := (Fr.up (by decide)).tr (m3.mono (fun a b z => tx_sn (nx_tx z)))
          have K1 : KX g1 γ σ w (o + 1) := by
            obtain ⟨q1, q2, q3, q4, q5, q6⟩ := hK
            refine KX.fr (g := hup g 192 58 (o + 1)) ⟨by rw [hup_ne (by omega)]; exact q1, by rw [hup_off (by decide)]; exact q2, by rw [hup_ne (by omega)]; exact q3, by rw [hup_off (by decide)]; exact q4, by rw [hup_ne (by omega)]; exact q5, hup_at⟩ (m3.mono (fun a b z => nx_tx z))
          have g161 : g1 192 61 = 0 := by rw [m3 192 61 (by decide), hup_ne (by omega)]; exact h61
          rw [m1] at hop
          simp only [Option.bind_some] at hop
          have hP1 : PI c1 g1 := hP.sn fc1 fg1
          have lσ : σ.length < 45 := by omega
          by_cases k151 : K j = 151
          · -- not
            unfold opTail at hop
            rw [if_pos k151] at hop
            obtain ⟨g2, b1, b2, b3, b4, b5⟩ := piled (x := 20) m2 K1 lσ (by omega)
            rw [b1] at hop
            have hSF2 : SF B L M n K A V E (nx n j) c1 g2 γ (σ ++ [20]) (w + 1) (o + 1) := ⟨k2, b2, hP1.sn Fr.rf b5, D1, b3, by rw [b4]; exact g161, e81, by omega, by rw [List.length_append]; simp; omega, by omega⟩
            obtain ⟨b, c2, z1, zL, z2, z3'⟩ := hone (by omega) _ _ _ _ _ _ hSF2
            have hr1 : RUNL x0 g g2 := opGo h61 hop
            have hrd : fX7_readOneG one c 34 w = if b = 0 then some (0, c2) else (fX6_add c2 35 151 0 0).bind fun h185 => some (1, h185) := by
              rw [hro]
              unfold rdTail
              rw [if_neg (by omega), if_neg (by omega), if_pos k151, w32_id (x := w + 1) (by omega) (by omega), z1]
              simp only [Option.bind_some]
              rw [ly_34_2 zL]
            rcases z3' with ⟨rfl, hf⟩ | ⟨rfl, j', g', γ', o', jj, ex, hsw, fm, hr⟩
            · rw [if_pos rfl] at hrd
              exact ⟨0, c2, hrd, zL, fc1.tr z2, Or.inl ⟨rfl, hf.from hr1 (fg1.tr b5)⟩⟩
            · rw [if_neg (show ¬ (1 : Int) = 0 by decide)] at hrd
              obtain ⟨γ0, k, h1, h2, h3, h4, h5, h6, h7, h8, h9, h10, h11, h12, h13⟩ := hsw
              rw [List.length_append] at h10
              obtain ⟨c3, a1, a2, a3, a4⟩ := add_ok2 (a := 151) (b := 0) (d := 0) zL h4 (by simp at h10; omega) (opc 20) rfl
              rw [a1] at hrd
              refine ⟨1, c3, hrd, a3, (fc1.tr z2).tr (ad_sn a4), Or.inr ⟨rfl, j', g', γ' ++ [opc 20], o', by omega, ex.not, ⟨γ0, k + 1, h1.ad a3 a4, h2, h3.ln2 (fun a a0 a1 => ad_row a4 (by omega) (by omega)) rfl rfl, a2, ?_, ?_, h7, by rw [ad_row a4 (by decide) (by decide)]; exact h8, h9, ?_, hw, h12, h13⟩, (fg1.tr b5).tr fm, hr1.tr hr⟩⟩
              · rw [show w + ((k + 1 : Nat) : Int) = w + 1 + k by omega, List.replicate_succ]
                simpa using h5
              · rw [h6, List.replicate_succ']
                simp
              · rw [List.length_append]
                simp at h10 ⊢
                omega
          · by_cases k40 : K j = 40
            · -- a bracket
              unfold opTail at hop
              rw [if_neg k151, if_pos k40] at hop
              obtain ⟨g2, b1, b2, b3, b4, b5⟩ := piled (x := 23) m2 K1 lσ (by omega)
              rw [b1] at hop
              have hSF2 : SF B L M n K A V E (nx n j) c1 g2 γ (σ ++ [23]) (w + 1) (o + 1) := ⟨k2, b2, hP1.sn Fr.rf b5, D1, b3, by rw [b4]; exact g161, e81, by omega, by rw [List.length_append]; simp; omega, by omega⟩
              obtain ⟨b, c2, z1, zL, z2, z3'⟩ := condQ hC hM (hone (by omega)) _ _ _ _ _ _ hSF2 (nTop_snoc (by decide))
              have hr1 : RUNL x0 g g2 := opGo h61 hop
              have hrd : fX7_readOneG one c 34 w = if b = 0 then some (0, c2) else (fX9_take c2 1 41).bind fun q206 => if q206.1 = 0 then some (0, q206.2) else some (1, q206.2) := by
                rw [hro]
                unfold rdTail
                rw [if_neg (by omega), if_pos k40, w32_id (x := w + 1) (by omega) (by omega), z1]
                simp only [Option.bind_some]
                rw [ly_34_0 zL]
              rcases z3' with ⟨rfl, hf⟩ | ⟨rfl, j', g', γ', o', O, Q, jj, ex, hsw, hk1, hk2, fm, hr⟩
              · rw [if_pos rfl] at hrd
                exact ⟨0, c2, hrd, zL, fc1.tr z2, Or.inl ⟨rfl, hf.from hr1 (fg1.tr b5)⟩⟩
              · rw [if_neg (show ¬ (1 : Int) = 0 by decide)] at hrd
                obtain ⟨hc2, hD2, e82, hP2⟩ := hsw.sc
                by_cases z41 : K j' = 41
                · obtain ⟨c3, v1, v2, v3, v4, -⟩ := stepC hC hc2
                  obtain ⟨g3, u1, u2, u3, u4, u5⟩ := beh_close (x0 := x0) hC hsw (by omega) z41
                  have ht : fX9_take c2 1 41 = some (1, c3) := by
                    unfold fX9_take
                    rw [hc2.k, if_pos z41, v1]
                    rfl
                  rw [ht] at hrd
                  simp only [Option.bind_some] at hrd
                  rw [if_neg (show ¬ (1 : Int) = 0 by decide)] at hrd
                  have nj' := nx_s hC hc2.2.2.2.2 (by omega) (by omega)
                  have hl := hsw
                  obtain ⟨γ0, k, h1, h2, h3, h4, h5, h6, h7, h8, h9, h10, h11, h12, h13⟩ := hl
                  rw [List.length_append] at h10
                  refine ⟨1, c3, hrd, v2.1, (fc1.tr z2).tr (v3.mono (fun a b z => tk_sn z)), Or.inr ⟨rfl, nx n j', g3, γ', o', by omega, ex, ⟨γ', 0, v2, u2, hP2.sn (v3.mono (fun a b z => tk_sn z)) u5, hD2.fr v3, by simpa using u3, by simp, u4, by rw [v4]; exact h8, h9, by simp at h10; omega, hw, Or.inl rfl, Or.inl rfl⟩, ((fg1.tr b5).tr fm).tr u5, (hr1.tr hr).tr u1⟩⟩
                · obtain ⟨c3, f1, f2, f3⟩ := failC (k := 1) hc2
                  have ht : fX9_take c2 1 41 = some (0, c3) := by
                    unfold fX9_take
                    rw [hc2.k, if_neg z41, f1]
                    rfl
                  rw [ht] at hrd
                  simp only [Option.bind_some, if_true] at hrd
                  have hb : FLD x0 g' c3 := beh_bad hsw hk1 hk2 (nTop_snoc (by decide)) (by
                    by_cases z0 : K j' = 0
                    · exact Or.inl ⟨z0, by simp⟩
                    · exact Or.inr ⟨z0, fun z => absurd z z41⟩) f2
                  exact ⟨0, c3, hrd, f3.lay zL tkF_lay1 tkF_lay2, (fc1.tr z2).tr (f3.mono (fun a b z => tk_sn z)), Or.inl ⟨rfl, hb.from (hr1.tr hr) ((fg1.tr b5).tr fm)⟩⟩
            · -- a plain one
              unfold opTail at hop
              rw [if_neg k151, if_neg k40] at hop
              have U2 : SM B L M n K A V E (nx n j) (hup g1 192 61 1) := m2.per (m2.1.1.upF (by decide)) (by rw [hup_off (by decide)]) (by rw [hup_off (by decide)]) (fun b hb => hup_ne (by omega))
              have K2 : KX (hup g1 192 61 1) γ σ w (o + 1) := K1.tx (fun b hb => hup_ne (by omega)) (hup_off (by decide)) (hup_off (by decide))
              have P2 : PI c1 (hup g1 192 61 1) := hP1.ln2 (fun _ _ _ => rfl) (hup_off (by decide)) (hup_off (by decide))
              obtain ⟨b, b', c2, g2, y1, y2, y3, y4, y5⟩ := leaf2 (one := one) (w' := w) (p := p) hC k2 U2 P2 D1 K2 (by omega) hs k151 k40 (fun z => ⟨by have : ¬ p = 0 := fun y => z3 ⟨z, y⟩; omega, p1, pq z⟩)
              rw [y2] at hop
              rw [y1] at hro
              have fg2 : Fr snM g g2 := fg1.tr ((Fr.up (by decide)).tr y4)
              have L2 : Lay c2 := y3.lay k2.1 snC_1 snC_2
              rcases y5 with ⟨rfl, rfl, k, a, f1, f2, f3⟩ | ⟨rfl, rfl, x, j', jj, x1, x2, x3, x4, x5, x6, x7⟩
              · exact ⟨0, c2, hro, L2, fc1.tr y3, Or.inl ⟨rfl, opFail h61 hop f1 f2 f3 fg2⟩⟩
              · refine ⟨1, c2, hro, L2, fc1.tr y3, Or.inr ⟨rfl, j', g2, γ ++ [x], o + 1, by omega, Ext.leaf x7, ⟨γ ++ [x], 0, x1, x2, P2.sn y3 y4, x3, by simpa using x4, by simp, by rw [x6, hup_at], by rw [x5]; exact e81, by omega, by rw [List.length_append]; simp; omega, hw, Or.inl rfl, Or.inl rfl⟩, fg2, opGo h61 hop⟩⟩
  · rw [if_neg hs] at hop hro
    exact both 1 (by decide) hro hop
theorem oneAll {x0 : hH} (hC : Chain B L M n K A V E) (hM : M ≤ 200) : ∀ (d : Nat) (w : Int), 1 ≤ w → w ≤ 9 → 10 ≤ w + d → OneQ B L M n K A V E x0 (fX7_readOne d) w := by
  intro d
  induction d with
  | zero =>
    intro w w1 w9 hd
    exfalso
    omega
  | succ d ih =>
    intro w w1 w9 hd
    exact oneG hC hM (fun h8 => ih (w + 1) (by omega) (by omega) (by omega))
end SIM
