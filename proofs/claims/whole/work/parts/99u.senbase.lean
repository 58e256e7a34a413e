/-! A SENTENCE: acts of the class, codes and pile of the model -/
abbrev CT : Type := Int × Int × Int
def cA (x : Int) : Int := if x < 3 then 152 + x else if x = 4 then 156 else if x = 20 then 151 else if x = 21 then 144 else if x = 22 then 150 else 100 - x
def clsT (x : CT) : CT := if x.1 = 3 then (155, x.2.2, 0) else (cA x.1, x.2.1, x.2.2)
def opc (x : Int) : CT := (x, 0, 0)
def KX (g : hH) (γ : List CT) (σ : List Int) (w o : Int) : Prop := g 192 57 = γ.length ∧ (∀ (i : Nat) (x : CT), γ[i]? = some x → g 196 (3 * i) = x.1 ∧ g 196 (3 * i + 1) = x.2.1 ∧ g 196 (3 * i + 2) = x.2.2) ∧ g 192 59 = σ.length ∧ (∀ (i : Nat) (x : Int), σ[i]? = some x → g 219 i = x) ∧ g 192 60 = w ∧ g 192 58 = o
def DS (c : hH) (γ : List CT) (o : Int) : Prop := c 35 2 = γ.length ∧ c 35 1 = o ∧ ∀ (i : Nat) (x : CT), γ[i]? = some x → c 36 (3 * i) = (clsT x).1 ∧ c 36 (3 * i + 1) = (clsT x).2.1 ∧ c 36 (3 * i + 2) = (clsT x).2.2
def snC (a b : Int) : Bool := tkF a b || (a == 35 && (b == 1 || b == 2)) || (a == 36 && decide (0 ≤ b))
def snM (a b : Int) : Bool := txF a b || (a == 192 && decide (57 ≤ b) && decide (b ≤ 61)) || ((a == 196 || a == 219) && decide (0 ≤ b))
theorem snC_1 : refT.all (fun q => !(snC q.1 q.2.1)) = true := by decide +kernel
theorem snC_2 : lenT.all (fun q => !(snC q.1 (-1))) = true := by decide +kernel
theorem snM_1 : refT.all (fun q => !(snM q.1 q.2.1)) = true := by decide +kernel
theorem snM_2 : lenT.all (fun q => !(snM q.1 (-1))) = true := by decide +kernel
theorem tk_sn {a b : Int} (z : tkF a b = true) : snC a b = true := by unfold snC; rw [z]; rfl
theorem tx_sn {a b : Int} (z : txF a b = true) : snM a b = true := by unfold snM; rw [z]; rfl
theorem snC_row {c c' : hH} (hf : Fr snC c c') {a : Int} (h1 : a ≠ 1) (h2 : a ≠ 35) (h3 : a ≠ 36) : c' a = c a := hf.row a (fun b => by unfold snC tkF; simp; omega)
theorem snM_row {g g' : hH} (hf : Fr snM g g') {a : Int} (h1 : a ≠ 192) (h2 : a ≠ 196) (h3 : a ≠ 219) : g' a = g a := hf.row a (fun b => by unfold snM txF nxC; simp; omega)
theorem PI.sn {c g c' g' : hH} (h : PI c g) (hc : Fr snC c c') (hg : Fr snM g g') : PI c' g' := h.ln2 (fun a a0 a1 => snC_row hc (by omega) (by omega) (by omega)) (snM_row hg (by decide) (by decide) (by decide)) (snM_row hg (by decide) (by decide) (by decide))
theorem DS.tk {c c' : hH} {γ : List CT} {o : Int} (h : DS c γ o) (e35 : c' 35 = c 35) (e36 : c' 36 = c 36) : DS c' γ o := by
  unfold DS at h ⊢
  rw [e35, e36]
  exact h
theorem KX.tx {g g' : hH} {γ : List CT} {σ : List Int} {w o : Int} (h : KX g γ σ w o) (e : ∀ b, (57 ≤ b ∧ b ≤ 60) → g' 192 b = g 192 b) (e196 : g' 196 = g 196) (e219 : g' 219 = g 219) : KX g' γ σ w o := by
  unfold KX at h ⊢
  rw [e 57 (by decide), e 58 (by decide), e 59 (by decide), e 60 (by decide), e196, e219]
  exact h
theorem KX.fr {g g' : hH} {γ : List CT} {σ : List Int} {w o : Int} (h : KX g γ σ w o) (hf : Fr txF g g') : KX g' γ σ w o := h.tx (fun b hb => hf 192 b (by unfold txF nxC; simp; omega)) (txF_row hf (by decide)) (txF_row hf (by decide))
theorem DS.fr {c c' : hH} {γ : List CT} {o : Int} (h : DS c γ o) (hf : Fr tkF c c') : DS c' γ o := h.tk (tkF_row hf (by decide)) (tkF_row hf (by decide))
theorem snoc_at {α : Type} {l : List α} {x y : α} {i : Nat} (h : (l ++ [x])[i]? = some y) : (i < l.length ∧ l[i]? = some y) ∨ (i = l.length ∧ y = x) := by
  by_cases e : i < l.length
  · rw [List.getElem?_append_left e] at h
    exact Or.inl ⟨e, h⟩
  · have e2 : i = l.length := by
      have := (List.getElem?_eq_some_iff.mp h).1
      rw [List.length_append] at this
      simp at this
      omega
    rw [e2, List.getElem?_append_right (Nat.le_refl _), Nat.sub_self] at h
    injection h with h
    exact Or.inr ⟨e2, h.symm⟩
theorem code_ok {g : hH} {γ : List CT} {σ : List Int} {w o : Int} (hL : Lay g) (hK : KX g γ σ w o) (hl : γ.length < 45) (x : CT) : ∃ g', fX12_code g 192 x.1 x.2.1 x.2.2 = some g' ∧ KX g' (γ ++ [x]) σ w o ∧ Lay g' ∧ Fr (fun a b => (a == 192 && b == 57) || (a == 196 && decide (0 ≤ b))) g g' := by
  obtain ⟨k1, k2, k3, k4, k5, k6⟩ := hK
  have L1 : Lay (hup g 196 (3 * γ.length) x.1) := hL.upA (by decide) (by omega)
  have L2 : Lay (hup (hup g 196 (3 * γ.length) x.1) 196 (3 * γ.length + 1) x.2.1) := L1.upA (by decide) (by omega)
  have L3 : Lay (hup (hup (hup g 196 (3 * γ.length) x.1) 196 (3 * γ.length + 1) x.2.1) 196 (3 * γ.length + 2) x.2.2) := L2.upA (by decide) (by omega)
  refine ⟨hup (hup (hup (hup g 196 (3 * γ.length) x.1) 196 (3 * γ.length + 1) x.2.1) 196 (3 * γ.length + 2) x.2.2) 192 57 (γ.length + 1), ?_, ⟨?_, fun i y hy => ?_, ?_, ?_, ?_, ?_⟩, L3.upF (by decide), ?_⟩
  · unfold fX12_code
    rw [k1, w32_id (x := 3 * (γ.length : Int)) (by omega) (by omega), ly_192_8 hL, aput_in (by omega) (by rw [ll_196 hL]; omega)]
    simp only [Option.bind_some]
    rw [hup_off (a := 192) (by decide), k1, w32_id (x := 3 * (γ.length : Int)) (by omega) (by omega), w32_id (x := 3 * (γ.length : Int) + 1) (by omega) (by omega), ly_192_8 hL, aput_in (by omega) (by rw [ll_196 L1]; omega)]
    simp only [Option.bind_some]
    rw [hup_off (a := 192) (by decide), hup_off (a := 192) (by decide), k1, w32_id (x := 3 * (γ.length : Int)) (by omega) (by omega), w32_id (x := 3 * (γ.length : Int) + 2) (by omega) (by omega), ly_192_8 hL, aput_in (by omega) (by rw [ll_196 L2]; omega)]
    simp only [Option.bind_some, pput]
    rw [hup_off (a := 192) (by decide), hup_off (a := 192) (by decide), hup_off (a := 192) (by decide), k1, w32_id (x := (γ.length : Int) + 1) (by omega) (by omega)]
  · rw [hup_at, List.length_append]
    simp
  · rw [hup_off (a := 196) (by decide)]
    rcases snoc_at hy with ⟨a, b⟩ | ⟨a, b⟩
    · rw [hup_ne (by omega), hup_ne (by omega), hup_ne (by omega), hup_ne (by omega), hup_ne (by omega), hup_ne (by omega), hup_ne (by omega), hup_ne (by omega), hup_ne (by omega)]
      exact k2 i y b
    · rw [a, b, hup_ne (by omega), hup_ne (by omega), hup_at, hup_ne (by omega), hup_at, hup_at]
      exact ⟨rfl, rfl, rfl⟩
  · rw [hup_ne (by omega), hup_off (by decide), hup_off (by decide), hup_off (by decide)]; exact k3
  · rw [hup_off (a := 219) (by decide), hup_off (a := 219) (by decide), hup_off (a := 219) (by decide), hup_off (a := 219) (by decide)]; exact k4
  · rw [hup_ne (by omega), hup_off (by decide), hup_off (by decide), hup_off (by decide)]; exact k5
  · rw [hup_ne (by omega), hup_off (by decide), hup_off (by decide), hup_off (by decide)]; exact k6
  · refine (((Fr.up ?_).tr (Fr.up ?_)).tr (Fr.up ?_)).tr (Fr.up ?_) <;> simp <;> omega
theorem put_any {h : hH} {o i v : Int} : fX11_put h o i v = some (if 0 ≤ i ∧ i < h o (-1) then hup h o i v else h) := by
  by_cases e : 0 ≤ i ∧ i < h o (-1)
  · rw [if_pos e, put_in e.1 e.2]
  · rw [if_neg e, put_out (by omega)]
theorem add_any {c : hH} (hL : Lay c) (a b d : Int) : ∃ c', fX6_add c 35 a b d = some c' ∧ Lay c' ∧ Fr (fun a b => (a == 35 && b == 2) || (a == 36 && decide (0 ≤ b))) c c' := by
  have st : ∀ (h : hH) (i v : Int), Lay h → ∃ h', fX11_put h (h 35 3) i v = some h' ∧ Lay h' ∧ Fr (fun a b => (a == 35 && b == 2) || (a == 36 && decide (0 ≤ b))) h h' := fun h i v Lh => by
    rw [put_any, ly_35_3 Lh]
    by_cases e : 0 ≤ i ∧ i < h 36 (-1)
    · rw [if_pos e]
      exact ⟨_, rfl, Lh.upA (by decide) (by omega), Fr.up (by simp; exact e.1)⟩
    · rw [if_neg e]
      exact ⟨h, rfl, Lh, Fr.rf⟩
  unfold fX6_add
  obtain ⟨c1, x1, x2, x3⟩ := st c (w32 (3 * c 35 2)) a hL
  obtain ⟨c2, y1, y2, y3⟩ := st c1 (w32 (w32 (3 * c1 35 2) + 1)) b x2
  obtain ⟨c3, z1, z2, z3⟩ := st c2 (w32 (w32 (3 * c2 35 2) + 2)) d y2
  rw [x1]
  simp only [Option.bind_some]
  rw [y1]
  simp only [Option.bind_some]
  rw [z1]
  simp only [Option.bind_some, pput]
  exact ⟨_, rfl, z2.upF (by decide), ((x3.tr y3).tr z3).tr (Fr.up (by decide))⟩
theorem add_ok2 {c : hH} {γ : List CT} {o : Int} (hL : Lay c) (hD : DS c γ o) (hl : γ.length < 40) {a b d : Int} (x : CT) (hx : clsT x = (a, b, d)) : ∃ c', fX6_add c 35 a b d = some c' ∧ DS c' (γ ++ [x]) o ∧ Lay c' ∧ Fr (fun a b => (a == 35 && b == 2) || (a == 36 && decide (0 ≤ b))) c c' := by
  obtain ⟨k1, k5, k2⟩ := hD
  have L1 : Lay (hup c 36 (3 * γ.length) a) := hL.upA (by decide) (by omega)
  have L2 : Lay (hup (hup c 36 (3 * γ.length) a) 36 (3 * γ.length + 1) b) := L1.upA (by decide) (by omega)
  have L3 : Lay (hup (hup (hup c 36 (3 * γ.length) a) 36 (3 * γ.length + 1) b) 36 (3 * γ.length + 2) d) := L2.upA (by decide) (by omega)
  refine ⟨hup (hup (hup (hup c 36 (3 * γ.length) a) 36 (3 * γ.length + 1) b) 36 (3 * γ.length + 2) d) 35 2 (γ.length + 1), ?_, ⟨?_, ?_, fun i y hy => ?_⟩, L3.upF (by decide), ?_⟩
  · unfold fX6_add
    rw [k1, w32_id (x := 3 * (γ.length : Int)) (by omega) (by omega), ly_35_3 hL, put_in (by omega) (by rw [ll_36 hL]; omega)]
    simp only [Option.bind_some]
    rw [hup_off (a := 35) (by decide), k1, w32_id (x := 3 * (γ.length : Int)) (by omega) (by omega), w32_id (x := 3 * (γ.length : Int) + 1) (by omega) (by omega), ly_35_3 hL, put_in (by omega) (by rw [ll_36 L1]; omega)]
    simp only [Option.bind_some]
    rw [hup_off (a := 35) (by decide), hup_off (a := 35) (by decide), k1, w32_id (x := 3 * (γ.length : Int)) (by omega) (by omega), w32_id (x := 3 * (γ.length : Int) + 2) (by omega) (by omega), ly_35_3 hL, put_in (by omega) (by rw [ll_36 L2]; omega)]
    simp only [Option.bind_some, pput]
    rw [hup_off (a := 35) (by decide), hup_off (a := 35) (by decide), hup_off (a := 35) (by decide), k1, w32_id (x := (γ.length : Int) + 1) (by omega) (by omega)]
  · rw [hup_at, List.length_append]
    simp
  · rw [hup_ne (by omega), hup_off (by decide), hup_off (by decide), hup_off (by decide)]; exact k5
  · rw [hup_off (a := 36) (by decide)]
    rcases snoc_at hy with ⟨a, b⟩ | ⟨a, b⟩
    · rw [hup_ne (by omega), hup_ne (by omega), hup_ne (by omega), hup_ne (by omega), hup_ne (by omega), hup_ne (by omega), hup_ne (by omega), hup_ne (by omega), hup_ne (by omega)]
      exact k2 i y b
    · rw [a, b, hx, hup_ne (by omega), hup_ne (by omega), hup_at, hup_ne (by omega), hup_at, hup_at]
      exact ⟨rfl, rfl, rfl⟩
  · refine (((Fr.up ?_).tr (Fr.up ?_)).tr (Fr.up ?_)).tr (Fr.up ?_) <;> simp <;> omega
def knF (a b : Int) : Bool := (a == 192 && (b == 57 || b == 59 || b == 60)) || (a == 196 && decide (0 ≤ b))
theorem kn_row {g g' : hH} (hf : Fr knF g g') {a : Int} (h1 : a ≠ 192) (h2 : a ≠ 196) : g' a = g a := hf.row a (fun b => by unfold knF; simp; omega)
theorem kn_sn {a b : Int} (z : knF a b = true) : snM a b = true := by
  unfold knF at z
  unfold snM
  simp at z ⊢
  omega
/-- the top of the pile -/
theorem top_at {g : hH} {γ : List CT} {σ : List Int} {w o x : Int} (hL : Lay g) (hK : KX g γ (σ ++ [x]) w o) (hl : σ.length < 45) : g 192 59 = σ.length + 1 ∧ aget g (g 192 56) (w32 (g 192 59 - 1)) = some x := by
  have e : g 192 59 = σ.length + 1 := by rw [hK.2.2.1, List.length_append]; simp
  refine ⟨e, ?_⟩
  rw [e, show (σ.length : Int) + 1 - 1 = σ.length by omega, w32_id (by omega) (by omega), ly_192_56 hL, aget_in (by omega) (by rw [ll_219 hL]; omega)]
  have := hK.2.2.2.1 σ.length x (by rw [List.getElem?_append_right (Nat.le_refl _), Nat.sub_self]; rfl)
  rw [this]
theorem KX.pop {g g' : hH} {γ : List CT} {σ : List Int} {w w' o x : Int} (hK : KX g γ (σ ++ [x]) w o) (e57 : g' 192 57 = g 192 57) (e196 : g' 196 = g 196) (e59 : g' 192 59 = σ.length) (e219 : g' 219 = g 219) (e60 : g' 192 60 = w') (e58 : g' 192 58 = g 192 58) : KX g' γ σ w' o := by
  obtain ⟨k1, k2, k3, k4, k5, k6⟩ := hK
  refine ⟨e57.trans k1, by rw [e196]; exact k2, e59, fun i y hy => ?_, e60, e58.trans k6⟩
  rw [e219]
  refine k4 i y ?_
  rw [List.getElem?_append_left (List.getElem?_eq_some_iff.mp hy).1]
  exact hy
def nTop (σ : List Int) (P : Int → Prop) : Prop := ∀ ρ x, σ = ρ ++ [x] → ¬ P x
theorem nTop_nil {P : Int → Prop} : nTop [] P := fun ρ x h => by simp at h
theorem nTop_snoc {σ : List Int} {x : Int} {P : Int → Prop} (h : ¬ P x) : nTop (σ ++ [x]) P := fun ρ y e => by
  have := List.append_inj' e rfl
  have h2 := this.2
  injection h2 with h2
  rw [← h2]
  exact h
theorem σ_or (σ : List Int) : σ = [] ∨ ∃ ρ x, σ = ρ ++ [x] := by
  rcases List.eq_nil_or_concat σ with h | ⟨ρ, x, h⟩
  · exact Or.inl h
  · exact Or.inr ⟨ρ, x, by rw [h, List.concat_eq_append]⟩
theorem nots_stop {g x0 : hH} {γ : List CT} {σ : List Int} {w o : Int} (hL : Lay g) (hK : KX g γ σ w o) (hl : σ.length ≤ 45) (hn : nTop σ (fun x => x = 20)) : fX12_nots_s0 x0 192 g = some (.inr g) := by
  unfold fX12_nots_s0
  rcases σ_or σ with rfl | ⟨ρ, x, rfl⟩
  · rw [if_neg (by have := hK.2.2.1; simp at this; omega)]
  · rw [List.length_append] at hl
    simp at hl
    obtain ⟨t1, t2⟩ := top_at hL hK (by omega)
    rw [if_pos (by omega), t2]
    simp only [Option.bind_some]
    rw [if_neg (hn ρ x rfl)]
theorem nots_pop {g x0 : hH} {γ : List CT} {σ : List Int} {w o : Int} (hL : Lay g) (hK : KX g γ (σ ++ [20]) (w + 1) o) (hw : -1000 ≤ w ∧ w ≤ 1000) (hl : σ.length < 45) (hg : γ.length < 45) : ∃ g', fX12_nots_s0 x0 192 g = some (.inl g') ∧ KX g' (γ ++ [opc 20]) σ w o ∧ Lay g' ∧ Fr knF g g' := by
  obtain ⟨t1, t2⟩ := top_at hL hK hl
  have L1 : Lay (hup (hup g 192 59 σ.length) 192 60 w) := (hL.upF (by decide)).upF (by decide)
  have K1 : KX (hup (hup g 192 59 σ.length) 192 60 w) γ σ w o := hK.pop (by rw [hup_ne (by omega), hup_ne (by omega)]) (by rw [hup_off (by decide), hup_off (by decide)]) (by rw [hup_ne (by omega), hup_at]) (by rw [hup_off (by decide), hup_off (by decide)]) hup_at (by rw [hup_ne (by omega), hup_ne (by omega)])
  obtain ⟨g', c1, c2, c3, c4⟩ := code_ok L1 K1 hg (opc 20)
  refine ⟨g', ?_, c2, c3, ((Fr.up (by decide)).tr (Fr.up (by decide))).tr (c4.mono (fun a b z => by unfold knF; simp at z ⊢; omega))⟩
  unfold fX12_nots_s0
  rw [if_pos (by omega), t2]
  simp only [Option.bind_some, pput]
  rw [if_pos trivial, t1, show (σ.length : Int) + 1 - 1 = σ.length by omega, w32_id (x := (σ.length : Int)) (by omega) (by omega), show hup g 192 59 (σ.length : Int) 192 60 = w + 1 by rw [hup_ne (by omega)]; exact hK.2.2.2.2.1, show w + 1 - 1 = w by omega, w32_id (x := w) (by omega) (by omega)]
  have : fX12_code (hup (hup g 192 59 σ.length) 192 60 w) 192 20 0 0 = some g' := c1
  rw [this]
  rfl
theorem nots_ok {x0 : hH} : ∀ (k : Nat) {g : hH} {γ : List CT} {σ : List Int} {w o : Int}, Lay g → KX g γ (σ ++ List.replicate k 20) (w + k) o → (0 ≤ w ∧ w ≤ 100) → σ.length + k ≤ 45 → γ.length + k ≤ 45 → nTop σ (fun x => x = 20) → ∃ g', lpO (fX12_nots_s0 x0 192) g = some g' ∧ KX g' (γ ++ List.replicate k (opc 20)) σ w o ∧ Lay g' ∧ Fr knF g g' := by
  intro k
  induction k with
  | zero =>
    intro g γ σ w o hL hK hw hl hg hn
    simp only [List.replicate_zero, List.append_nil, Int.natCast_zero, Int.add_zero] at hK ⊢
    exact ⟨g, lpO_inr (nots_stop hL hK (by omega) hn), hK, hL, Fr.rf⟩
  | succ k ih =>
    intro g γ σ w o hL hK hw hl hg hn
    rw [List.replicate_succ', ← List.append_assoc] at hK
    have hK' : KX g γ ((σ ++ List.replicate k 20) ++ [20]) (w + k + 1) o := by
      rw [show w + ((k + 1 : Nat) : Int) = w + k + 1 by omega] at hK
      exact hK
    obtain ⟨g1, a1, a2, a3, a4⟩ := nots_pop (x0 := x0) hL hK' (by omega) (by rw [List.length_append, List.length_replicate]; omega) (by omega)
    obtain ⟨g', b1, b2, b3, b4⟩ := ih a3 a2 hw (by omega) (by rw [List.length_append]; simp; omega) hn
    refine ⟨g', by rw [lpO_inl a1]; exact b1, ?_, b3, a4.tr b4⟩
    rw [List.append_assoc, ← List.singleton_append, ] at b2
    rw [List.replicate_succ]
    exact b2
theorem join_stop {g x0 : hH} {γ : List CT} {σ : List Int} {w o till : Int} (hL : Lay g) (hK : KX g γ σ w o) (hl : σ.length ≤ 45) (hn : nTop σ (fun x => x = 21 ∨ (x = 22 ∧ till = 22))) : fX12_joins_s0 x0 192 till g = some (.inr g) := by
  unfold fX12_joins_s0
  rcases σ_or σ with rfl | ⟨ρ, x, rfl⟩
  · rw [if_neg (by have := hK.2.2.1; simp at this; omega)]
  · rw [List.length_append] at hl
    simp at hl
    obtain ⟨t1, t2⟩ := top_at hL hK (by omega)
    have nn := hn ρ x rfl
    rw [if_pos (by omega), t2]
    simp only [Option.bind_some]
    rw [if_neg (fun z => nn (Or.inl z))]
    by_cases z : x = 22
    · rw [if_pos z, if_neg (fun y => nn (Or.inr ⟨z, y⟩))]
    · rw [if_neg z]
theorem join_pop {g x0 : hH} {γ : List CT} {σ : List Int} {w o x till : Int} (hL : Lay g) (hK : KX g γ (σ ++ [x]) w o) (hl : σ.length < 45) (hg : γ.length < 45) (hx : x = 21 ∨ (x = 22 ∧ till = 22)) : ∃ g', fX12_joins_s0 x0 192 till g = some (.inl g') ∧ KX g' (γ ++ [opc x]) σ w o ∧ Lay g' ∧ Fr knF g g' := by
  obtain ⟨t1, t2⟩ := top_at hL hK hl
  have L1 : Lay (hup g 192 59 σ.length) := hL.upF (by decide)
  have K1 : KX (hup g 192 59 σ.length) γ σ w o := hK.pop (by rw [hup_ne (by omega)]) (by rw [hup_off (by decide)]) hup_at (by rw [hup_off (by decide)]) (by rw [hup_ne (by omega)]; exact hK.2.2.2.2.1) (by rw [hup_ne (by omega)])
  obtain ⟨g', c1, c2, c3, c4⟩ := code_ok L1 K1 hg (opc x)
  refine ⟨g', ?_, c2, c3, (Fr.up (by decide)).tr (c4.mono (fun a b z => by unfold knF; simp at z ⊢; omega))⟩
  have hb : fX12_joins_b45 g 192 till = some (.inl g') := by
    unfold fX12_joins_b45
    simp only [Option.bind_some, pput]
    rw [t1, show (σ.length : Int) + 1 - 1 = σ.length by omega, w32_id (x := (σ.length : Int)) (by omega) (by omega), hup_at, ly_192_56 L1, aget_in (by omega) (by rw [ll_219 L1]; omega), hup_off (a := 219) (by decide)]
    have := hK.2.2.2.1 σ.length x (by rw [List.getElem?_append_right (Nat.le_refl _), Nat.sub_self]; rfl)
    rw [this]
    simp only [Option.bind_some]
    have c1' : fX12_code (hup g 192 59 σ.length) 192 x 0 0 = some g' := c1
    rw [c1']
    rfl
  unfold fX12_joins_s0
  rw [if_pos (by omega), t2]
  simp only [Option.bind_some]
  rcases hx with rfl | ⟨rfl, rfl⟩
  · rw [if_pos rfl, hb]
  · rw [if_neg (by decide), if_pos rfl, if_pos rfl, hb]
/-- what lies above: AND, OR once each, if at all -/
theorem joinAnd {x0 g : hH} {γ : List CT} {σ A : List Int} {w o : Int} (hL : Lay g) (hA : A = [] ∨ A = [21]) (hK : KX g γ (σ ++ A) w o) (hl : σ.length + 1 ≤ 45) (hg : γ.length + 1 ≤ 45) (hn : nTop σ (fun x => x = 21)) : ∃ g', lpO (fX12_joins_s0 x0 192 21) g = some g' ∧ KX g' (γ ++ A.map opc) σ w o ∧ Lay g' ∧ Fr knF g g' := by
  have hn' : nTop σ (fun x => x = 21 ∨ (x = 22 ∧ (21 : Int) = 22)) := fun ρ x e z => by
    rcases z with z | z
    · exact hn ρ x e z
    · omega
  rcases hA with rfl | rfl
  · simp only [List.append_nil, List.map_nil] at hK ⊢
    exact ⟨g, lpO_inr (join_stop hL hK (by omega) hn'), hK, hL, Fr.rf⟩
  · obtain ⟨g1, a1, a2, a3, a4⟩ := join_pop (x0 := x0) hL hK (by omega) (by omega) (Or.inl rfl : (21 : Int) = 21 ∨ ((21 : Int) = 22 ∧ (21 : Int) = 22))
    exact ⟨g1, by rw [lpO_inl a1]; exact lpO_inr (join_stop a3 a2 (by omega) hn'), a2, a3, a4⟩
theorem joinOr {x0 g : hH} {γ : List CT} {σ A O : List Int} {w o : Int} (hL : Lay g) (hA : A = [] ∨ A = [21]) (hO : O = [] ∨ O = [22]) (hK : KX g γ (σ ++ O ++ A) w o) (hl : σ.length + 2 ≤ 45) (hg : γ.length + 2 ≤ 45) (hn : nTop σ (fun x => x = 21 ∨ x = 22)) : ∃ g', lpO (fX12_joins_s0 x0 192 22) g = some g' ∧ KX g' (γ ++ A.map opc ++ O.map opc) σ w o ∧ Lay g' ∧ Fr knF g g' := by
  have hn' : nTop σ (fun x => x = 21 ∨ (x = 22 ∧ (22 : Int) = 22)) := fun ρ x e z => hn ρ x e (by omega)
  have two : ∀ {g : hH} {γ : List CT}, Lay g → γ.length + 1 ≤ 45 → KX g γ (σ ++ O) w o → ∃ g', lpO (fX12_joins_s0 x0 192 22) g = some g' ∧ KX g' (γ ++ O.map opc) σ w o ∧ Lay g' ∧ Fr knF g g' := fun {g γ} hL hg hK => by
    rcases hO with rfl | rfl
    · simp only [List.append_nil, List.map_nil] at hK ⊢
      exact ⟨g, lpO_inr (join_stop hL hK (by omega) hn'), hK, hL, Fr.rf⟩
    · obtain ⟨g1, a1, a2, a3, a4⟩ := join_pop (x0 := x0) hL hK (by omega) (by omega) (Or.inr ⟨rfl, rfl⟩ : (22 : Int) = 21 ∨ ((22 : Int) = 22 ∧ (22 : Int) = 22))
      exact ⟨g1, by rw [lpO_inl a1]; exact lpO_inr (join_stop a3 a2 (by omega) hn'), a2, a3, a4⟩
  have lO : O.length ≤ 1 := by rcases hO with rfl | rfl <;> decide
  rcases hA with rfl | rfl
  · simp only [List.append_nil, List.map_nil] at hK ⊢
    exact two hL (by omega) hK
  · obtain ⟨g1, a1, a2, a3, a4⟩ := join_pop (x0 := x0) (till := 22) hL hK (by rw [List.length_append]; omega) (by omega) (Or.inl rfl)
    obtain ⟨g2, b1, b2, b3, b4⟩ := two a3 (by rw [List.length_append]; simp; omega) a2
    exact ⟨g2, by rw [lpO_inl a1]; exact b1, b2, b3, a4.tr b4⟩
theorem KX.push {g g' : hH} {γ : List CT} {σ : List Int} {w w' o o' x : Int} (hK : KX g γ σ w o) (e57 : g' 192 57 = g 192 57) (e196 : g' 196 = g 196) (e59 : g' 192 59 = σ.length + 1) (e219 : ∀ b, g' 219 b = if b = σ.length then x else g 219 b) (e60 : g' 192 60 = w') (e58 : g' 192 58 = o') : KX g' γ (σ ++ [x]) w' o' := by
  obtain ⟨k1, k2, k3, k4, k5, k6⟩ := hK
  refine ⟨e57.trans k1, by rw [e196]; exact k2, by rw [e59, List.length_append]; simp, fun i y hy => ?_, e60, e58⟩
  rw [e219]
  rcases snoc_at hy with ⟨a, b⟩ | ⟨a, b⟩
  · rw [if_neg (by omega)]
    exact k4 i y b
  · rw [a, if_pos rfl, b]
