/-! A SENTENCE: comparisons and the other plain ONES, both ways -/
section SIM
variable {B : Int → Int} {L M n : Int} {K A V E : Int → Int}
def adF (a b : Int) : Bool := (a == 35 && b == 2) || (a == 36 && decide (0 ≤ b))
def cdF (a b : Int) : Bool := (a == 192 && b == 57) || (a == 196 && decide (0 ≤ b))
theorem ad_sn {c c' : hH} (h : Fr adF c c') : Fr snC c c' := h.mono (fun a b z => by unfold adF at z; unfold snC; simp at z ⊢; omega)
theorem cd_sn {c c' : hH} (h : Fr cdF c c') : Fr snM c c' := h.mono (fun a b z => by unfold cdF at z; unfold snM; simp at z ⊢; omega)
theorem ad_row {c c' : hH} (h : Fr adF c c') {a : Int} (h1 : a ≠ 35) (h2 : a ≠ 36) : c' a = c a := h.row a (fun b => by unfold adF; simp; omega)
theorem cd_row {c c' : hH} (h : Fr cdF c c') {a : Int} (h1 : a ≠ 192) (h2 : a ≠ 196) : c' a = c a := h.row a (fun b => by unfold cdF; simp; omega)
theorem SC.ad {j : Int} {c c' : hH} (h : SC n K A V j c) (hL : Lay c') (hf : Fr adF c c') : SC n K A V j c' := h.per hL (ad_row hf (by decide) (by decide)) (fun b _ _ => by rw [ad_row hf (by decide) (by decide)])
theorem SM.cd {j : Int} {g g' : hH} (h : SM B L M n K A V E j g) (hL : Lay g') (hf : Fr cdF g g') : SM B L M n K A V E j g' := h.per hL (cd_row hf (by decide) (by decide)) (cd_row hf (by decide) (by decide)) (fun b hb => hf 192 b (by unfold cdF; simp; omega))
theorem lcm99 {a : Int} : 0 < lcmD a 99 ↔ 99 < a := by
  unfold lcmD
  split
  · omega
  · split <;> omega
theorem SC.vb {j : Int} {c : hH} (h : SC n K A V j c) : 0 ≤ V j := (h.2.1.2.2 j h.2.2.2.1 h.2.2.2.2).2.2.2.1
theorem cmpS {c g : hH} {γ : List CT} {σ : List Int} {w o j act lf : Int} (hC : Chain B L M n K A V E) (hc : SC n K A V j c) (hg : SM B L M n K A V E j g) (hD : DS c γ o) (hK : KX g γ σ w o) (hl : γ.length < 40) (hx : ∀ s v, clsT (lf, s, v) = (act, s, v)) (h3 : ¬ lf < 3 ∧ lf ≠ 3) (h4 : lf = 4 ∨ (100 ≤ lf ∧ PkOk (lf - 100))) : ∃ (b b' : Int) (c' g' : hH), fX7_readComparison c 34 act = some (b, c') ∧ opLeaf g lf = some (b', g') ∧ Fr snC c c' ∧ Fr snM g g' ∧ ((b = 0 ∧ b' = 0 ∧ FF c' g') ∨ (b = 1 ∧ b' = 1 ∧ ∃ x j', j ≤ j' ∧ SC n K A V j' c' ∧ SM B L M n K A V E j' g' ∧ DS c' (γ ++ [x]) o ∧ KX g' (γ ++ [x]) σ w o ∧ c' 1 8 = c 1 8 ∧ g' 192 61 = g 192 61 ∧ LeafOk x)) := by
  have htk := hg.tok
  have hm : opLeaf g lf = if sgn (K j) then (if K j < 60 then fX12_bad g 192 1 else if 62 < K j then fX12_bad g 192 1 else (fX12_next g 192).bind fun h233 => if h233 192 12 = 2 then (if 99 < h233 192 15 then fX12_bad h233 192 2 else (fX12_code h233 192 lf (K j) (h233 192 15)).bind fun h273 => (fX12_next h273 192).bind fun h277 => some (1, h277)) else fX12_bad h233 192 1) else fX12_bad g 192 1 := by
    unfold opLeaf
    rw [if_neg h3.1, if_neg h3.2]
    by_cases s : sgn (K j)
    · rw [if_pos s, if_pos (htk.2.2.2.1.mpr s), htk.2.2.2.2.1 s]
    · rw [if_neg s, if_neg (fun z => s (htk.2.2.2.1.mp z))]
  -- the class fails, and lays something that doesn't count
  have cfail : ∀ (c1 : hH) (s v : Int), Lay c1 → v = -1 → ∃ c2, fX7_readComparison_b24 c1 34 act s v = some (0, c2) ∧ Lay c2 ∧ Fr adF c1 c2 := fun c1 s v L1 hv => by
    obtain ⟨c2, x1, x2, x3⟩ := add_any L1 act s v
    refine ⟨c2, ?_, x2, x3⟩
    unfold fX7_readComparison_b24
    rw [ly_34_2 L1, x1]
    simp only [Option.bind_some]
    rw [if_pos hv]
  have frc : ∀ {k a : Int} {c1 c2 : hH}, FRc k a c1 → Fr adF c1 c2 → FRc k a c2 := fun h f => by
    unfold FRc at h ⊢
    rw [ad_row f (by decide) (by decide)]
    exact h
  by_cases hs : K j = 60 ∨ K j = 61 ∨ K j = 62
  · have hsg : sgn (K j) := by unfold sgn; omega
    obtain ⟨c1, k1, k2, k3, k4, -⟩ := stepC hC hc
    obtain ⟨g1, m1, m2, m3⟩ := nextM hC hg
    rw [if_pos hsg, if_neg (by omega), if_neg (by omega), m1] at hm
    simp only [Option.bind_some] at hm
    have htc : fX9_takeComparison c 1 = some (K j, c1) := by
      unfold fX9_takeComparison fX9_takeComparison_b31
      rw [hc.k, k1]
      rcases hs with z | z | z
      · rw [if_pos z]; rfl
      · rw [if_neg (by omega), if_pos z]; rfl
      · rw [if_neg (by omega), if_neg (by omega), if_pos z]; rfl
    have htk1 := m2.tok
    have hcl : fX7_readComparison c 34 act = (fX9_takeNumber c1 1).bind fun q21 => fX7_readComparison_b24 q21.2 34 act (K j) q21.1 := by
      unfold fX7_readComparison
      rw [ly_34_0 hc.1, htc]
      simp only [Option.bind_some]
      rw [if_neg (by omega), ly_34_0 k2.1]
    have jle := @nx_le n j
    by_cases h2 : K (nx n j) = 3
    · have hv := k2.vb
      rw [if_pos (htk1.2.1.mpr h2), htk1.2.2.1 h2] at hm
      by_cases h99 : 99 < V (nx n j)
      · obtain ⟨c2, f1, f2, f3⟩ := failC (k := 2) k2
        obtain ⟨g2, f4, f5, f6⟩ := badM (k := 2) m2
        rw [if_pos h99, f4] at hm
        have : fX9_takeNumber c1 1 = some (-1, c2) := by
          unfold fX9_takeNumber
          rw [k2.k, if_pos h2, k2.v, if_pos (lcm99.mpr h99), f1]
          rfl
        rw [this] at hcl
        simp only [Option.bind_some] at hcl
        obtain ⟨c3, x1, x2, x3⟩ := cfail c2 (K j) (-1) (f3.lay k2.1 tkF_lay1 tkF_lay2) rfl
        exact ⟨0, 0, c3, g2, hcl.trans x1, hm, ((k3.tr f3).mono (fun a b z => tk_sn z)).tr (ad_sn x3), ((m3.mono (fun a b z => nx_tx z)).tr f6).mono (fun a b z => tx_sn z), Or.inl ⟨rfl, rfl, 2, A (nx n j), frc f2 x3, f5, by decide⟩⟩
      · obtain ⟨c2, k1', k2', k3', k4', -⟩ := stepC hC k2
        rw [if_neg h99] at hm
        have : fX9_takeNumber c1 1 = some (V (nx n j), c2) := by
          unfold fX9_takeNumber
          rw [k2.k, if_pos h2, k2.v, if_neg (fun z => h99 (lcm99.mp z)), k1']
          simp only [Option.bind_some]
          rw [w32_id (by omega) (by omega)]
        rw [this] at hcl
        simp only [Option.bind_some] at hcl
        have D2 : DS c2 γ o := hD.fr (k3.tr k3')
        obtain ⟨c3, a1, a2, a3, a4⟩ := add_ok2 k2'.1 D2 hl (lf, K j, V (nx n j)) (hx _ _)
        have hb : fX7_readComparison_b24 c2 34 act (K j) (V (nx n j)) = some (1, c3) := by
          unfold fX7_readComparison_b24
          rw [ly_34_2 k2'.1, a1]
          simp only [Option.bind_some]
          rw [if_neg (by omega)]
        have K1 : KX g1 γ σ w o := hK.fr (m3.mono (fun a b z => nx_tx z))
        obtain ⟨g2, b1, b2, b3, b4⟩ := code_ok m2.1.1 K1 (by omega) (lf, K j, V (nx n j))
        have b1' : fX12_code g1 192 lf (K j) (V (nx n j)) = some g2 := b1
        have U2 : SM B L M n K A V E (nx n j) g2 := m2.cd b3 b4
        obtain ⟨g3, m1', m2', m3'⟩ := nextM hC U2
        rw [b1'] at hm
        simp only [Option.bind_some] at hm
        rw [m1'] at hm
        have jle2 := @nx_le n (nx n j)
        refine ⟨1, 1, c3, g3, hcl.trans hb, hm, ((k3.tr k3').mono (fun a b z => tk_sn z)).tr (ad_sn a4), ((m3.mono (fun a b z => tx_sn (nx_tx z))).tr (cd_sn b4)).tr (m3'.mono (fun a b z => tx_sn (nx_tx z))), Or.inr ⟨rfl, rfl, (lf, K j, V (nx n j)), nx n (nx n j), by omega, k2'.ad a3 a4, m2', a2, b2.fr (m3'.mono (fun a b z => nx_tx z)), ?_, ?_⟩⟩
        · rw [ad_row a4 (by decide) (by decide), k4', k4]
        · exact ⟨by rw [m3' 192 61 (by decide), b4 192 61 (by decide), m3 192 61 (by decide)], Or.inr ⟨h4, by show K j = 60 ∨ K j = 61 ∨ K j = 62; omega, by show 0 ≤ V (nx n j) ∧ V (nx n j) ≤ 99; omega⟩⟩
    · obtain ⟨c2, f1, f2, f3⟩ := failC (k := 1) k2
      obtain ⟨g2, f4, f5, f6⟩ := badM (k := 1) m2
      rw [if_neg (fun z => h2 (htk1.2.1.mp z)), f4] at hm
      have : fX9_takeNumber c1 1 = some (-1, c2) := by
        unfold fX9_takeNumber
        rw [k2.k, if_neg h2, f1]
        rfl
      rw [this] at hcl
      simp only [Option.bind_some] at hcl
      obtain ⟨c3, x1, x2, x3⟩ := cfail c2 (K j) (-1) (f3.lay k2.1 tkF_lay1 tkF_lay2) rfl
      exact ⟨0, 0, c3, g2, hcl.trans x1, hm, ((k3.tr f3).mono (fun a b z => tk_sn z)).tr (ad_sn x3), ((m3.mono (fun a b z => nx_tx z)).tr f6).mono (fun a b z => tx_sn z), Or.inl ⟨rfl, rfl, 1, A (nx n j), frc f2 x3, f5, by decide⟩⟩
  · obtain ⟨c2, f1, f2, f3⟩ := failC (k := 1) hc
    obtain ⟨g2, f4, f5, f6⟩ := badM (k := 1) hg
    have hm' : opLeaf g lf = some (0, g2) := by
      rw [hm, f4]
      by_cases s : sgn (K j)
      · rw [if_pos s]
        by_cases z : K j < 60
        · rw [if_pos z]
        · rw [if_neg z, if_pos (by unfold sgn at s; omega)]
      · rw [if_neg s]
    have htc : fX9_takeComparison c 1 = some (-1, c2) := by
      unfold fX9_takeComparison
      rw [hc.k, if_neg (by omega), if_neg (by omega), if_neg (by omega), f1]
      rfl
    obtain ⟨c3, x1, x2, x3⟩ := cfail c2 (-1) (-1) (f3.lay hc.1 tkF_lay1 tkF_lay2) rfl
    refine ⟨0, 0, c3, g2, ?_, hm', (f3.mono (fun a b z => tk_sn z)).tr (ad_sn x3), f6.mono (fun a b z => tx_sn z), Or.inl ⟨rfl, rfl, 1, A j, frc f2 x3, f5, by decide⟩⟩
    unfold fX7_readComparison
    rw [ly_34_0 hc.1, htc]
    simp only [Option.bind_some]
    rw [if_pos trivial, x1]
/-- IN and a TABLE -/
theorem inTab2 {c g : hH} {γ : List CT} {σ : List Int} {w o j : Int} (hC : Chain B L M n K A V E) (hc : SC n K A V j c) (hg : SM B L M n K A V E j g) (hP : PI c g) (hD : DS c γ o) (hK : KX g γ σ w o) (hl : γ.length < 40) : ∃ (b b' : Int) (c' g' : hH), ((fX9_takeTable c (c 34 0) (c 34 1)).bind fun q226 => (fX6_add q226.2 (q226.2 34 2) 155 q226.1 0).bind fun h241 => if q226.1 = -1 then some (0, h241) else some (1, h241)) = some (b, c') ∧ opLeaf g 3 = some (b', g') ∧ Fr snC c c' ∧ Fr snM g g' ∧ ((b = 0 ∧ b' = 0 ∧ FF c' g') ∨ (b = 1 ∧ b' = 1 ∧ ∃ x j', j ≤ j' ∧ SC n K A V j' c' ∧ SM B L M n K A V E j' g' ∧ DS c' (γ ++ [x]) o ∧ KX g' (γ ++ [x]) σ w o ∧ c' 1 8 = c 1 8 ∧ g' 192 61 = g 192 61 ∧ LeafOk x)) := by
  have frc : ∀ {k a : Int} {c1 c2 : hH}, FRc k a c1 → Fr adF c1 c2 → FRc k a c2 := fun h f => by
    unfold FRc at h ⊢
    rw [ad_row f (by decide) (by decide)]
    exact h
  obtain ⟨r, hr⟩ : ∃ r, K j = 4 → fX4_tableNamed c 4 (V j) = some r ∧ fX12_seek g 192 0 (g 194 0) = some r ∧ (r = -1 ∨ (0 ≤ r ∧ r < g 194 0)) := by
    by_cases k4 : K j = 4
    · obtain ⟨r, a⟩ := table_find hP hg k4
      exact ⟨r, fun _ => a⟩
    · exact ⟨0, fun z => absurd z k4⟩
  obtain ⟨b, g1, y1, y2, y3⟩ := looks_m (from_ := 0) (m := g 194 0) hg r (fun z => ⟨(hr z).2.1, by rcases (hr z).2.2 with a | a; exact Or.inl a; exact Or.inr a.1⟩)
  have hm : opLeaf g 3 = if b = 0 then some (0, g1) else (fX12_code g1 192 3 0 (g1 192 19)).bind fun h185 => (fX12_next h185 192).bind fun h189 => some (1, h189) := by
    unfold opLeaf
    rw [if_neg (by decide), if_pos rfl, sgk hg.1.1 (by decide) (by decide)]
    simp only [Option.bind_some]
    rw [y1]
    rfl
  rw [ly_34_0 hc.1, ly_34_1 hc.1]
  have cfail : ∀ (c1 : hH), Lay c1 → ∃ c2, (fX6_add c1 (c1 34 2) 155 (-1) 0) = some c2 ∧ Fr adF c1 c2 := fun c1 L1 => by
    obtain ⟨c2, x1, x2, x3⟩ := add_any L1 155 (-1) 0
    exact ⟨c2, by rw [ly_34_2 L1]; exact x1, x3⟩
  rcases y3 with ⟨k4, rfl, f⟩ | ⟨k4, rm, rfl, f⟩ | ⟨k4, rp, rfl, e19, U1⟩
  · obtain ⟨c2, f1, f2, f3⟩ := failC (k := 1) hc
    have : fX9_takeTable c 1 4 = some (-1, c2) := by
      unfold fX9_takeTable
      rw [hc.k, if_neg k4, f1]
      rfl
    rw [this]
    simp only [Option.bind_some]
    obtain ⟨c3, x1, x3⟩ := cfail c2 (f3.lay hc.1 tkF_lay1 tkF_lay2)
    rw [x1]
    simp only [Option.bind_some, if_true]
    exact ⟨0, 0, c3, g1, rfl, by rw [hm, if_pos rfl], (f3.mono (fun a b z => tk_sn z)).tr (ad_sn x3), y2.mono (fun a b z => tx_sn z), Or.inl ⟨rfl, rfl, 1, A j, frc f2 x3, f, by decide⟩⟩
  · obtain ⟨c2, f1, f2, f3⟩ := failC (k := 3) hc
    have : fX9_takeTable c 1 4 = some (-1, c2) := by
      unfold fX9_takeTable
      rw [hc.k, if_pos k4, hc.v, (hr k4).1]
      simp only [Option.bind_some]
      rw [if_pos rm, f1]
      rfl
    rw [this]
    simp only [Option.bind_some]
    obtain ⟨c3, x1, x3⟩ := cfail c2 (f3.lay hc.1 tkF_lay1 tkF_lay2)
    rw [x1]
    simp only [Option.bind_some, if_true]
    exact ⟨0, 0, c3, g1, rfl, by rw [hm, if_pos rfl], (f3.mono (fun a b z => tk_sn z)).tr (ad_sn x3), y2.mono (fun a b z => tx_sn z), Or.inl ⟨rfl, rfl, 3, A j, frc f2 x3, f, by decide⟩⟩
  · obtain ⟨c1, k1, k2, k3, k5, -⟩ := stepC hC hc
    have : fX9_takeTable c 1 4 = some (r, c1) := by
      unfold fX9_takeTable
      rw [hc.k, if_pos k4, hc.v, (hr k4).1]
      simp only [Option.bind_some]
      rw [if_neg (by omega), k1]
      rfl
    rw [this]
    simp only [Option.bind_some]
    have D1 : DS c1 γ o := hD.fr k3
    obtain ⟨c2, a1, a2, a3, a4⟩ := add_ok2 (a := 155) (b := r) (d := 0) k2.1 D1 hl (3, 0, r) (by unfold clsT; rw [if_pos rfl])
    rw [ly_34_2 k2.1, a1]
    simp only [Option.bind_some]
    rw [if_neg (show ¬ r = -1 by omega)]
    have K1 : KX g1 γ σ w o := hK.fr y2
    obtain ⟨g2, b1, b2, b3, b4⟩ := code_ok U1.1.1 K1 (by omega) (3, 0, r)
    have b1' : fX12_code g1 192 3 0 (g1 192 19) = some g2 := by rw [e19]; exact b1
    have U2 : SM B L M n K A V E j g2 := U1.cd b3 b4
    obtain ⟨g3, m1', m2', m3'⟩ := nextM hC U2
    have jle := @nx_le n j
    refine ⟨1, 1, c2, g3, rfl, ?_, (k3.mono (fun a b z => tk_sn z)).tr (ad_sn a4), ((y2.mono (fun a b z => tx_sn z)).tr (cd_sn b4)).tr (m3'.mono (fun a b z => tx_sn (nx_tx z))), Or.inr ⟨rfl, rfl, (3, 0, r), nx n j, by omega, k2.ad a3 a4, m2', a2, b2.fr (m3'.mono (fun a b z => nx_tx z)), ?_, ?_⟩⟩
    · rw [hm, if_neg (by decide), b1']
      simp only [Option.bind_some]
      rw [m1']
      rfl
    · rw [ad_row a4 (by decide) (by decide), k5]
    · exact ⟨by rw [m3' 192 61 (by decide), b4 192 61 (by decide), y2 192 61 (by decide)], Or.inl (Or.inr (Or.inr (Or.inr rfl)))⟩
/-- a plain ONE, behind its first token -/
theorem leaf2 {one : hH → Int → Int → Option (Int × hH)} {c g : hH} {γ : List CT} {σ : List Int} {w w' o j k p : Int} (hC : Chain B L M n K A V E) (hc : SC n K A V j c) (hg : SM B L M n K A V E j g) (hP : PI c g) (hD : DS c γ o) (hK : KX g γ σ w o) (hl : γ.length < 40) (hk : stOne k) (k1 : k ≠ 151) (k2 : k ≠ 40) (p0 : k = 4 → 1 ≤ p ∧ p < 4096 ∧ PkOk p) : ∃ (b b' : Int) (c' g' : hH), rdTail one c k (if k = 4 then -p else 0) w' = some (b, c') ∧ opLeaf g (lfK k p) = some (b', g') ∧ Fr snC c c' ∧ Fr snM g g' ∧ ((b = 0 ∧ b' = 0 ∧ FF c' g') ∨ (b = 1 ∧ b' = 1 ∧ ∃ x j', j ≤ j' ∧ SC n K A V j' c' ∧ SM B L M n K A V E j' g' ∧ DS c' (γ ++ [x]) o ∧ KX g' (γ ++ [x]) σ w o ∧ c' 1 8 = c 1 8 ∧ g' 192 61 = g 192 61 ∧ LeafOk x)) := by
  unfold rdTail lfK
  by_cases a6 : k = 4
  · obtain ⟨q0, q1, q2⟩ := p0 a6
    rw [if_pos a6, if_pos a6, if_neg (by omega), if_neg (by omega), if_neg (by omega), if_neg (by omega), if_neg (by omega), if_pos a6]
    refine cmpS hC hc hg hD hK hl (fun s v => ?_) ⟨by omega, by omega⟩ (Or.inr ⟨by omega, by rw [show 100 + p - 100 = p by omega]; exact q2⟩)
    unfold clsT cA
    dsimp only
    rw [if_neg (by omega), if_neg (by omega), if_neg (by omega), if_neg (by omega), if_neg (by omega), if_neg (by omega)]
    rw [show 100 - (100 + p) = -p by omega]
  · rw [if_neg a6, if_neg k2, if_neg k1]
    by_cases a4 : k = 155
    · rw [if_pos a4, if_neg (by omega), if_neg (by omega), if_neg (by omega), if_pos a4]
      exact inTab2 hC hc hg hP hD hK hl
    · rw [if_neg a4]
      by_cases a5 : k = 156
      · rw [if_pos a5, if_neg (by omega), if_neg (by omega), if_neg (by omega), if_neg a4, if_pos a5]
        exact cmpS hC hc hg hD hK hl (fun s v => by unfold clsT cA; rfl) ⟨by decide, by decide⟩ (Or.inl rfl)
      · rw [if_neg a5]
        obtain ⟨x, hx, hx2⟩ : ∃ x : Int, (0 ≤ x ∧ x < 3) ∧ k = 152 + x := ⟨k - 152, by omega, by omega⟩
        have e : (if k = 152 then (0 : Int) else if k = 153 then 1 else if k = 154 then 2 else if k = 155 then 3 else if k = 156 then 4 else if k = 4 then 100 + p else -1) = x := by
          rcases (show x = 0 ∨ x = 1 ∨ x = 2 by omega) with z | z | z
          · rw [if_pos (by omega), z]
          · rw [if_neg (by omega), if_pos (by omega), z]
          · rw [if_neg (by omega), if_neg (by omega), if_pos (by omega), z]
        rw [e]
        obtain ⟨c2, a1, a2, a3, a4'⟩ := add_ok2 (a := k) (b := 0) (d := 0) hc.1 hD hl (x, 0, 0) (by
          unfold clsT cA
          dsimp only
          rw [if_neg (by omega), if_pos (by omega), hx2])
        obtain ⟨g2, b1, b2, b3, b4⟩ := code_ok hg.1.1 hK (by omega) (x, 0, 0)
        have b1' : fX12_code g 192 x 0 0 = some g2 := b1
        refine ⟨1, 1, c2, g2, by rw [ly_34_2 hc.1, a1]; rfl, ?_, ad_sn a4', cd_sn b4, Or.inr ⟨rfl, rfl, (x, 0, 0), j, Int.le_refl _, hc.ad a3 a4', hg.cd b3 b4, a2, b2, by rw [ad_row a4' (by decide) (by decide)], b4 192 61 (by decide), Or.inl (by show x = 0 ∨ x = 1 ∨ x = 2 ∨ x = 3; omega)⟩⟩
        unfold opLeaf
        rw [if_pos (by omega), b1']
        rfl
end SIM
