/-! A SENTENCE: the class goes down, the model piles up: the same -/
section SIM
variable {B : Int → Int} {L M n : Int} {K A V E : Int → Int}
def RUNL (x0 g g' : hH) : Prop := ∀ r, lpO (fX12_sentence_s48 x0 192) (g', 1) = some r → lpO (fX12_sentence_s48 x0 192) (g, 1) = some r
def FLD (x0 g c' : hH) : Prop := ∃ k a g', FRc k a c' ∧ FRm k a g' ∧ 1 ≤ k ∧ Fr snM g g' ∧ lpO (fX12_sentence_s48 x0 192) (g, 1) = some (w32 (-1 - a), g')
theorem FLD.from {x0 g g1 c' : hH} (h : FLD x0 g1 c') (hr : RUNL x0 g g1) (hf : Fr snM g g1) : FLD x0 g c' := by
  obtain ⟨k, a, g', h1, h2, h3, h4, h5⟩ := h
  exact ⟨k, a, g', h1, h2, h3, hf.tr h4, hr _ h5⟩
theorem FLD.cls {x0 g c c' : hH} (h : FLD x0 g c) (hf : Fr adF c c') : FLD x0 g c' := by
  obtain ⟨k, a, g', h1, h2, h3, h4, h5⟩ := h
  refine ⟨k, a, g', ?_, h2, h3, h4, h5⟩
  unfold FRc at h1 ⊢
  rw [ad_row hf (by decide) (by decide)]
  exact h1
def SF (B : Int → Int) (L M n : Int) (K A V E : Int → Int) (j : Int) (c g : hH) (γ : List CT) (σ : List Int) (w o : Int) : Prop := SC n K A V j c ∧ SM B L M n K A V E j g ∧ PI c g ∧ DS c γ o ∧ KX g γ σ w o ∧ g 192 61 = 0 ∧ c 1 8 = 0 ∧ (0 ≤ o ∧ o ≤ 20) ∧ (γ.length : Int) + σ.length ≤ 2 * o ∧ (1 ≤ w ∧ w ≤ 9)
def SW (B : Int → Int) (L M n : Int) (K A V E : Int → Int) (j : Int) (c g : hH) (γ : List CT) (σ O Q : List Int) (w o : Int) : Prop := ∃ (γ0 : List CT) (k : Nat), SC n K A V j c ∧ SM B L M n K A V E j g ∧ PI c g ∧ DS c γ o ∧ KX g γ0 (σ ++ O ++ Q ++ List.replicate k 20) (w + k) o ∧ γ = γ0 ++ List.replicate k (opc 20) ++ Q.map opc ++ O.map opc ∧ g 192 61 = 1 ∧ c 1 8 = 0 ∧ (0 ≤ o ∧ o ≤ 20) ∧ (γ.length : Int) + σ.length + 1 ≤ 2 * o ∧ (1 ≤ w ∧ w ≤ 9) ∧ (Q = [] ∨ Q = [21]) ∧ (O = [] ∨ O = [22])
theorem kn_per {j : Int} {g g' : hH} (h : SM B L M n K A V E j g) (hL : Lay g') (hf : Fr knF g g') : SM B L M n K A V E j g' := h.per hL (kn_row hf (by decide) (by decide)) (kn_row hf (by decide) (by decide)) (fun b hb => hf 192 b (by unfold knF; simp; omega))
theorem kn_snF {g g' : hH} (hf : Fr knF g g') : Fr snM g g' := hf.mono (fun a b z => kn_sn z)
theorem nTop_oq {σ O Q : List Int} (hQ : Q = [] ∨ Q = [21]) (hO : O = [] ∨ O = [22]) (h : nTop σ (fun x => x = 20)) : nTop (σ ++ O ++ Q) (fun x => x = 20) := by
  rcases hQ with rfl | rfl
  · rw [List.append_nil]
    rcases hO with rfl | rfl
    · rw [List.append_nil]; exact h
    · exact nTop_snoc (by decide)
  · exact nTop_snoc (by decide)
theorem nTop.mono {σ : List Int} {P Q : Int → Prop} (h : nTop σ P) (e : ∀ x, Q x → P x) : nTop σ Q := fun ρ x z y => h ρ x z (e x y)
theorem turnOp {x0 g : hH} (h : g 192 61 = 0) : fX12_sentence_s48 x0 192 (g, 1) = (fX12_operand g 192).bind fun q119 => if q119.1 = 0 then (fX12_sentence_b125 q119.2 192).map (fun z9 => .inr (z9)) else some (.inl (q119.2, 1)) := by
  unfold fX12_sentence_s48 fX12_sentence_b101
  dsimp only
  rw [if_neg (show ¬ (1 : Int) = 0 by decide), if_pos h, if_pos h]
theorem turnBe {x0 g : hH} (h : g 192 61 = 1) (h0 : g 192 12 ≠ 0) : fX12_sentence_s48 x0 192 (g, 1) = (fX12_behind g 192).bind fun q109 => if q109.1 = 0 then (fX12_sentence_b125 q109.2 192).map (fun z9 => .inr (z9)) else some (.inl (q109.2, 1)) := by
  unfold fX12_sentence_s48 fX12_sentence_b101
  dsimp only
  rw [if_neg (show ¬ (1 : Int) = 0 by decide), h, if_neg (show ¬ (1 : Int) = 0 by decide), if_neg h0, if_neg (show ¬ (1 : Int) = 0 by decide)]
theorem opGo {x0 g g' : hH} (h : g 192 61 = 0) (ho : fX12_operand g 192 = some (1, g')) : RUNL x0 g g' := fun r hr => by
  have : fX12_sentence_s48 x0 192 (g, 1) = some (.inl (g', 1)) := by
    rw [turnOp h, ho]
    rfl
  rw [lpO_inl this]
  exact hr
theorem opFail {x0 g g' c' : hH} {k a : Int} (h : g 192 61 = 0) (ho : fX12_operand g 192 = some (0, g')) (fc : FRc k a c') (fm : FRm k a g') (hk : 1 ≤ k) (hf : Fr snM g g') : FLD x0 g c' := ⟨k, a, g', fc, fm, hk, hf, lpO_inr (by
  rw [turnOp h, ho]
  simp only [Option.bind_some, if_true]
  unfold fX12_sentence_b125
  rw [fm.2]
  rfl)⟩
theorem beFail {x0 g g' c' : hH} {k a : Int} (h : g 192 61 = 1) (h0 : g 192 12 ≠ 0) (ho : fX12_behind g 192 = some (0, g')) (fc : FRc k a c') (fm : FRm k a g') (hk : 1 ≤ k) (hf : Fr snM g g') : FLD x0 g c' := ⟨k, a, g', fc, fm, hk, hf, lpO_inr (by
  rw [turnBe h h0, ho]
  simp only [Option.bind_some, if_true]
  unfold fX12_sentence_b125
  rw [fm.2]
  rfl)⟩
theorem beGo {x0 g g' : hH} (h : g 192 61 = 1) (h0 : g 192 12 ≠ 0) (ho : fX12_behind g 192 = some (1, g')) : RUNL x0 g g' := fun r hr => by
  have : fX12_sentence_s48 x0 192 (g, 1) = some (.inl (g', 1)) := by
    rw [turnBe h h0, ho]
    rfl
  rw [lpO_inl this]
  exact hr
/-- the nots that wait are done -/
theorem SW.nots {j : Int} {c g : hH} {γ : List CT} {σ O Q : List Int} {w o : Int} (h : SW B L M n K A V E j c g γ σ O Q w o) (hn : nTop σ (fun x => x = 20)) (x0 : hH) : ∃ γ1 g1, lpO (fX12_nots_s0 x0 192) g = some g1 ∧ SM B L M n K A V E j g1 ∧ Fr knF g g1 ∧ KX g1 γ1 (σ ++ O ++ Q) w o ∧ γ = γ1 ++ Q.map opc ++ O.map opc ∧ g1 192 61 = 1 ∧ (γ1.length : Int) + σ.length + Q.length + O.length + 1 ≤ 40 := by
  obtain ⟨γ0, k, h1, h2, h3, h4, h5, h6, h7, h8, h9, h10, h11, h12, h13⟩ := h
  have lQ : Q.length ≤ 1 := by rcases h12 with rfl | rfl <;> decide
  have lO : O.length ≤ 1 := by rcases h13 with rfl | rfl <;> decide
  have lg : (γ.length : Int) = γ0.length + k + Q.length + O.length := by
    rw [h6]
    simp only [List.length_append, List.length_replicate, List.length_map]
    omega
  obtain ⟨g1, a1, a2, a3, a4⟩ := nots_ok (x0 := x0) k h2.1.1 h5 ⟨by omega, by omega⟩ (by simp only [List.length_append]; omega) (by omega) (nTop_oq h12 h13 hn)
  refine ⟨_, g1, a1, kn_per h2 a3 a4, a4, a2, h6, ?_, ?_⟩
  · rw [a4 192 61 (by decide)]; exact h7
  · rw [List.length_append, List.length_replicate]
    omega
theorem pushed {g : hH} {γ : List CT} {σ : List Int} {j w o x : Int} (hC : Chain B L M n K A V E) (hg : SM B L M n K A V E j g) (hK : KX g γ σ w o) (hl : σ.length < 45) : ∃ g', fX12_behind_b70 g 192 x (g 192 59) (g 192 56) = some (1, g') ∧ SM B L M n K A V E (nx n j) g' ∧ KX g' γ (σ ++ [x]) w o ∧ g' 192 61 = 0 ∧ Fr snM g g' := by
  have e59 := hK.2.2.1
  have L1 : Lay (hup g 219 σ.length x) := hg.1.1.upA (by decide) (by omega)
  have L2 : Lay (hup (hup g 219 σ.length x) 192 59 (σ.length + 1)) := L1.upF (by decide)
  have L3 : Lay (hup (hup (hup g 219 σ.length x) 192 59 (σ.length + 1)) 192 61 0) := L2.upF (by decide)
  have U3 : SM B L M n K A V E j (hup (hup (hup g 219 σ.length x) 192 59 (σ.length + 1)) 192 61 0) := hg.per L3 (by rw [hup_off (by decide), hup_off (by decide), hup_off (by decide)]) (by rw [hup_off (by decide), hup_off (by decide), hup_off (by decide)]) (fun b hb => by rw [hup_ne (by omega), hup_ne (by omega), hup_off (by decide)])
  have K3 : KX (hup (hup (hup g 219 σ.length x) 192 59 (σ.length + 1)) 192 61 0) γ (σ ++ [x]) w o := hK.push (by rw [hup_ne (by omega), hup_ne (by omega), hup_off (by decide)]) (by rw [hup_off (by decide), hup_off (by decide), hup_off (by decide)]) (by rw [hup_ne (by omega), hup_at]) (fun b => by
    rw [hup_off (by decide), hup_off (by decide), hup_row]
    rfl) (by rw [hup_ne (by omega), hup_ne (by omega), hup_off (by decide)]; exact hK.2.2.2.2.1) (by rw [hup_ne (by omega), hup_ne (by omega), hup_off (by decide)]; exact hK.2.2.2.2.2)
  obtain ⟨g', m1, m2, m3⟩ := nextM hC U3
  refine ⟨g', ?_, m2, K3.fr (m3.mono (fun a b z => nx_tx z)), by rw [m3 192 61 (by decide), hup_at], (((Fr.up (by unfold snM; simp)).tr (Fr.up (by decide))).tr (Fr.up (by decide))).tr (m3.mono (fun a b z => tx_sn (nx_tx z)))⟩
  unfold fX12_behind_b70
  rw [e59, ly_192_56 hg.1.1, aput_in (by omega) (by rw [ll_219 hg.1.1]; omega)]
  simp only [Option.bind_some, pput]
  rw [hup_off (a := 192) (by decide), e59, w32_id (x := (σ.length : Int) + 1) (by omega) (by omega), m1]
  rfl
/-- AND behind a whole -/
theorem beh_and {j : Int} {c g x0 : hH} {γ : List CT} {σ Q : List Int} {w o : Int} (hC : Chain B L M n K A V E) (h : SW B L M n K A V E j c g γ σ [] Q w o) (hk : K j = 144) (hn : nTop σ (fun x => x = 20 ∨ x = 21)) : ∃ g', RUNL x0 g g' ∧ SM B L M n K A V E (nx n j) g' ∧ KX g' γ (σ ++ [21]) w o ∧ g' 192 61 = 0 ∧ Fr snM g g' := by
  obtain ⟨γ1, g1, a1, a2, a3, a4, a5, a6, a7⟩ := h.nots (hn.mono (fun x z => Or.inl z)) g
  obtain ⟨γ0, k, h1, h2, h3, h4, h5, h6, h7, h8, h9, h10, h11, h12, h13⟩ := h
  have lQ : Q.length ≤ 1 := by rcases h12 with rfl | rfl <;> decide
  rw [List.append_nil] at a4
  obtain ⟨g2, b1, b2, b3, b4⟩ := joinAnd (x0 := g1) a2.1.1 h12 a4 (by simp at a7; omega) (by simp at a7; omega) (hn.mono (fun x z => Or.inr z))
  have U2 := kn_per a2 b3 b4
  obtain ⟨g3, d1, d2, d3, d4, d5⟩ := pushed (x := 21) hC U2 b2 (by simp at a7; omega)
  rw [List.map_nil, List.append_nil] at a5
  rw [a5]
  refine ⟨g3, beGo h7 (fun z => by have := h2.tok.1.mp z; omega) ?_, d2, d3, d4, ((kn_snF a3).tr (kn_snF b4)).tr d5⟩
  unfold fX12_behind fX12_nots
  rw [a1]
  simp only [Option.bind_some]
  rw [sw_w.2.2.2.2.2.2.2, isWordM a2 (by decide) (by decide)]
  simp only [Option.bind_some]
  rw [if_pos (show K j = 128 + 16 by omega), if_neg (show ¬ (1 : Int) = 0 by decide)]
  unfold fX12_behind_b24 fX12_behind_b42
  rw [sw_w.2.2.2.2.2.2.2, isWordM a2 (by decide) (by decide)]
  simp only [Option.bind_some]
  rw [if_pos (show K j = 128 + 16 by omega), if_neg (show ¬ (1 : Int) = 0 by decide)]
  unfold fX12_joins
  rw [b1]
  simp only [Option.bind_some]
  rw [isWordM U2 (by decide) (by decide)]
  simp only [Option.bind_some]
  rw [if_pos (show K j = 128 + 16 by omega), if_neg (show ¬ (1 : Int) = 0 by decide), d1]
/-- OR behind a whole -/
theorem beh_or {j : Int} {c g x0 : hH} {γ : List CT} {σ O Q : List Int} {w o : Int} (hC : Chain B L M n K A V E) (h : SW B L M n K A V E j c g γ σ O Q w o) (hk : K j = 150) (hn : nTop σ (fun x => x = 20 ∨ x = 21 ∨ x = 22)) : ∃ g', RUNL x0 g g' ∧ SM B L M n K A V E (nx n j) g' ∧ KX g' γ (σ ++ [22]) w o ∧ g' 192 61 = 0 ∧ Fr snM g g' := by
  obtain ⟨γ1, g1, a1, a2, a3, a4, a5, a6, a7⟩ := h.nots (hn.mono (fun x z => Or.inl z)) g
  obtain ⟨γ0, k, h1, h2, h3, h4, h5, h6, h7, h8, h9, h10, h11, h12, h13⟩ := h
  have lQ : Q.length ≤ 1 := by rcases h12 with rfl | rfl <;> decide
  obtain ⟨g2, b1, b2, b3, b4⟩ := joinOr (x0 := g1) a2.1.1 h12 h13 a4 (by omega) (by omega) (hn.mono (fun x z => Or.inr z))
  have U2 := kn_per a2 b3 b4
  obtain ⟨g3, d1, d2, d3, d4, d5⟩ := pushed (x := 22) hC U2 b2 (by omega)
  rw [a5]
  refine ⟨g3, beGo h7 (fun z => by have := h2.tok.1.mp z; omega) ?_, d2, d3, d4, ((kn_snF a3).tr (kn_snF b4)).tr d5⟩
  unfold fX12_behind fX12_nots
  rw [a1]
  simp only [Option.bind_some]
  rw [sw_w.2.2.2.2.2.2.2, sw_w.2.2.2.2.2.2.1, isWordM a2 (by decide) (by decide), isWordM a2 (by decide) (by decide)]
  simp only [Option.bind_some]
  rw [if_neg (show ¬ K j = 128 + 16 by omega), if_pos (show (0 : Int) = 0 from rfl), if_pos (show K j = 128 + 22 by omega), if_neg (show ¬ (1 : Int) = 0 by decide)]
  unfold fX12_behind_b24 fX12_behind_b42
  rw [sw_w.2.2.2.2.2.2.2, isWordM a2 (by decide) (by decide)]
  simp only [Option.bind_some]
  rw [if_neg (show ¬ K j = 128 + 16 by omega), if_pos (show (0 : Int) = 0 from rfl)]
  unfold fX12_joins
  rw [b1]
  simp only [Option.bind_some]
  rw [isWordM U2 (by decide) (by decide)]
  simp only [Option.bind_some]
  rw [if_neg (show ¬ K j = 128 + 16 by omega), if_pos (show (0 : Int) = 0 from rfl), d1]
/-- something else behind a whole -/
theorem beh_else {j : Int} {c g : hH} {γ : List CT} {σ O Q : List Int} {w o : Int} (h : SW B L M n K A V E j c g γ σ O Q w o) (h1 : K j ≠ 144) (h2 : K j ≠ 150) (hn : nTop σ (fun x => x = 20 ∨ x = 21 ∨ x = 22)) : ∃ g2, SM B L M n K A V E j g2 ∧ KX g2 γ σ w o ∧ g2 192 61 = 1 ∧ Fr snM g g2 ∧ fX12_behind g 192 = (if K j = 41 then (if g2 192 59 = 0 then fX12_behind_b114 g2 192 else (pput g2 192 59 (w32 ((g2 192 59) - 1))).bind fun h127 => (pput h127 192 60 (w32 ((h127 192 60) - 1))).bind fun h137 => (fX12_next h137 192).bind fun h141 => some (1, h141)) else fX12_behind_b114 g2 192) ∧ (fX12_nots g 192).bind (fun h67 => fX12_joins h67 192 22) = some g2 := by
  obtain ⟨γ1, g1, a1, a2, a3, a4, a5, a6, a7⟩ := h.nots (hn.mono (fun x z => Or.inl z)) g
  obtain ⟨γ0, k, q1, q2, q3, q4, q5, q6, q7, q8, q9, q10, q11, q12, q13⟩ := h
  have lQ : Q.length ≤ 1 := by rcases q12 with rfl | rfl <;> decide
  obtain ⟨g2, b1, b2, b3, b4⟩ := joinOr (x0 := g1) a2.1.1 q12 q13 a4 (by omega) (by omega) (hn.mono (fun x z => Or.inr z))
  have U2 := kn_per a2 b3 b4
  refine ⟨g2, U2, by rw [a5]; exact b2, by rw [b4 192 61 (by decide)]; exact a6, (kn_snF a3).tr (kn_snF b4), ?_, ?_⟩
  · unfold fX12_behind fX12_nots
    rw [a1]
    simp only [Option.bind_some]
    rw [sw_w.2.2.2.2.2.2.2, sw_w.2.2.2.2.2.2.1, isWordM a2 (by decide) (by decide), isWordM a2 (by decide) (by decide)]
    simp only [Option.bind_some]
    rw [if_neg (show ¬ K j = 128 + 16 by omega), if_pos (show (0 : Int) = 0 from rfl), if_neg (show ¬ K j = 128 + 22 by omega), if_pos (show (0 : Int) = 0 from rfl)]
    unfold fX12_joins
    rw [b1]
    simp only [Option.bind_some]
    rw [isSignM U2 (by unfold sgn; decide)]
    simp only [Option.bind_some]
    by_cases z : K j = 41
    · rw [if_pos z, if_neg (show ¬ (1 : Int) = 0 by decide), if_pos z]
    · rw [if_neg z, if_pos (show (0 : Int) = 0 from rfl), if_neg z]
  · unfold fX12_nots
    rw [a1]
    simp only [Option.bind_some]
    unfold fX12_joins
    exact b1
theorem badB {g : hH} {j : Int} (hg : SM B L M n K A V E j g) : ∃ g', fX12_behind_b114 g 192 = some (0, g') ∧ FRm 1 (A j) g' ∧ Fr snM g g' := by
  obtain ⟨g2, f4, f5, f6⟩ := badM (k := 1) hg
  refine ⟨g2, ?_, f5, f6.mono (fun a b z => tx_sn z)⟩
  unfold fX12_behind_b114
  rw [f4]
  rfl
/-- a bracket is closed -/
theorem beh_close {j : Int} {c g x0 : hH} {γ : List CT} {σ O Q : List Int} {w o : Int} (hC : Chain B L M n K A V E) (h : SW B L M n K A V E j c g γ (σ ++ [23]) O Q (w + 1) o) (hw : 0 ≤ w) (hk : K j = 41) : ∃ g', RUNL x0 g g' ∧ SM B L M n K A V E (nx n j) g' ∧ KX g' γ σ w o ∧ g' 192 61 = 1 ∧ Fr snM g g' := by
  obtain ⟨g2, b1, b2, b3, b4, b5, -⟩ := beh_else h (by omega) (by omega) (nTop_snoc (by decide))
  obtain ⟨γ0, k, q1, q2, q3, q4, q5, q6, q7, q8, q9, q10, q11, q12, q13⟩ := h
  have hl : (σ.length : Int) + 1 ≤ 40 := by rw [List.length_append] at q10; simp at q10; omega
  have e59 : g2 192 59 = σ.length + 1 := by rw [b2.2.2.1, List.length_append]; simp
  have L3 : Lay (hup (hup g2 192 59 σ.length) 192 60 w) := (b1.1.1.upF (by decide)).upF (by decide)
  have U3 : SM B L M n K A V E j (hup (hup g2 192 59 σ.length) 192 60 w) := b1.per L3 (by rw [hup_off (by decide), hup_off (by decide)]) (by rw [hup_off (by decide), hup_off (by decide)]) (fun b hb => by rw [hup_ne (by omega), hup_ne (by omega)])
  have K3 : KX (hup (hup g2 192 59 σ.length) 192 60 w) γ σ w o := b2.pop (by rw [hup_ne (by omega), hup_ne (by omega)]) (by rw [hup_off (by decide), hup_off (by decide)]) (by rw [hup_ne (by omega), hup_at]) (by rw [hup_off (by decide), hup_off (by decide)]) hup_at (by rw [hup_ne (by omega), hup_ne (by omega)])
  obtain ⟨g', m1, m2, m3⟩ := nextM hC U3
  refine ⟨g', beGo q7 (fun z => by have := q2.tok.1.mp z; omega) ?_, m2, K3.fr (m3.mono (fun a b z => nx_tx z)), by rw [m3 192 61 (by decide), hup_ne (by omega), hup_ne (by omega)]; exact b3, b4.tr (((Fr.up (by decide)).tr (Fr.up (by decide))).tr (m3.mono (fun a b z => tx_sn (nx_tx z))))⟩
  rw [b5, if_pos hk, if_neg (by omega)]
  simp only [pput, Option.bind_some]
  rw [e59, show (σ.length : Int) + 1 - 1 = σ.length by omega, w32_id (x := (σ.length : Int)) (by omega) (by omega), show hup g2 192 59 (σ.length : Int) 192 60 = w + 1 by rw [hup_ne (by omega)]; exact b2.2.2.2.2.1, show w + 1 - 1 = w by omega, w32_id (x := w) (by omega) (by omega), m1]
  rfl
/-- a whole, and what can't come: both fail -/
theorem beh_bad {j : Int} {c c' g x0 : hH} {γ : List CT} {σ O Q : List Int} {w o : Int} (h : SW B L M n K A V E j c g γ σ O Q w o) (h1 : K j ≠ 144) (h2 : K j ≠ 150) (hn : nTop σ (fun x => x = 20 ∨ x = 21 ∨ x = 22)) (h3 : (K j = 0 ∧ σ ≠ []) ∨ (K j ≠ 0 ∧ (K j = 41 → σ = []))) (fc : FRc 1 (A j) c') : FLD x0 g c' := by
  obtain ⟨g2, b1, b2, b3, b4, b5, b6⟩ := beh_else h h1 h2 hn
  obtain ⟨γ0, k, q1, q2, q3, q4, q5, q6, q7, q8, q9, q10, q11, q12, q13⟩ := h
  rcases h3 with ⟨k0, ks⟩ | ⟨k0, k41⟩
  · obtain ⟨g3, f4, f5, f6⟩ := badM (k := 1) b1
    refine ⟨1, A j, g3, fc, f5, by decide, b4.tr (f6.mono (fun a b z => tx_sn z)), lpO_inr ?_⟩
    have e59 := b2.2.2.1
    have : 0 < σ.length := Nat.pos_of_ne_zero (fun z => ks (List.eq_nil_of_length_eq_zero z))
    unfold fX12_sentence_s48
    dsimp only
    rw [if_neg (show ¬ (1 : Int) = 0 by decide), q7, if_neg (show ¬ (1 : Int) = 0 by decide), if_pos (q2.tok.1.mpr k0)]
    cases hN : fX12_nots g 192 with
    | none => rw [hN] at b6; cases b6
    | some y =>
      rw [hN] at b6
      simp only [Option.bind_some] at b6 ⊢
      rw [b6]
      simp only [Option.bind_some]
      rw [if_pos (by omega), f4]
      simp only [Option.bind_some]
      rw [f5.2]
  · obtain ⟨g3, f4, f5, f6⟩ := badB b1
    refine beFail q7 (fun z => k0 (q2.tok.1.mp z)) ?_ fc f5 (by decide) (b4.tr f6)
    rw [b5]
    by_cases z : K j = 41
    · have e59 := b2.2.2.1
      rw [k41 z] at e59
      rw [if_pos z, if_pos (by simpa using e59), f4]
    · rw [if_neg z, f4]
end SIM
