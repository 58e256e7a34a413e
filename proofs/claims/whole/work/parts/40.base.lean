/-! LAYER 2: what the functions answer. First: reads and writes of the heap, rows, small loops. -/
theorem hup_at {h : hH} {k j v : Int} : hup h k j v k j = v := if_pos ⟨rfl, rfl⟩
theorem hup_ne {h : hH} {k j v a b : Int} (hn : ¬ (a = k ∧ b = j)) : hup h k j v a b = h a b := if_neg hn
theorem hup_off {h : hH} {k j v a : Int} (hn : a ≠ k) : hup h k j v a = h a := by
  funext b
  exact if_neg (fun z => hn z.1)
theorem aget_in {h : hH} {o j : Int} (h0 : 0 ≤ j) (h1 : j < h o (-1)) : aget h o j = some (h o j) := if_pos ⟨h0, h1⟩
theorem aput_in {h : hH} {o j v : Int} (h0 : 0 ≤ j) (h1 : j < h o (-1)) : aput h o j v = some (hup h o j v) := if_pos ⟨h0, h1⟩
theorem at_in {h : hH} {o j : Int} (h0 : 0 ≤ j) (h1 : j < h o (-1)) : fX11_at h o j = some (h o j) := by
  unfold fX11_at
  rw [if_neg (by omega), if_pos h1, aget_in h0 h1]
  rfl
theorem at_out {h : hH} {o j : Int} (hn : j < 0 ∨ h o (-1) ≤ j) : fX11_at h o j = some (-1) := by
  unfold fX11_at
  by_cases h0 : j < 0
  · rw [if_pos h0]
  · rw [if_neg h0, if_neg (by omega)]
theorem put_in {h : hH} {o j v : Int} (h0 : 0 ≤ j) (h1 : j < h o (-1)) : fX11_put h o j v = some (hup h o j v) := by
  unfold fX11_put
  rw [if_neg (by omega), if_pos h1, aput_in h0 h1]
  rfl
theorem put_out {h : hH} {o j v : Int} (hn : j < 0 ∨ h o (-1) ≤ j) : fX11_put h o j v = some h := by
  unfold fX11_put
  by_cases h0 : j < 0
  · rw [if_pos h0]
  · rw [if_neg h0, if_neg (by omega)]
/-- a loop that counts up, a place at a time, and keeps an account -/
theorem lpO_up {α ρ σ : Type} {f : σ → Option (σ ⊕ ρ)} (mk : Int → α → σ) (n : Int) (g : Int → α → α) (fin : α → ρ) (I : Int → α → Prop)
    (hs : ∀ i a, 0 ≤ i → i < n → I i a → f (mk i a) = some (.inl (mk (i + 1) (g i a))) ∧ I (i + 1) (g i a)) (he : ∀ a, I n a → f (mk n a) = some (.inr (fin a))) {i : Int} {a : α} (h0 : 0 ≤ i) (hi : i ≤ n) (ha : I i a) :
    ∃ b, lpO f (mk i a) = some (fin b) ∧ I n b := by
  generalize hd : (n - i).toNat = d
  induction d generalizing i a with
  | zero =>
    have : i = n := by omega
    subst this
    exact ⟨a, lpO_inr (he a ha), ha⟩
  | succ d ih =>
    obtain ⟨h1, h2⟩ := hs i a h0 (by omega) ha
    obtain ⟨b, h3, h4⟩ := ih (i := i + 1) (a := g i a) (by omega) (by omega) h2 (by omega)
    exact ⟨b, by rw [lpO_inl h1]; exact h3, h4⟩
/-- a search that counts up: the first place that is so -/
theorem lpO_find {σ ρ : Type} {f : σ → Option (σ ⊕ ρ)} (mk : Int → σ) (n : Int) (P : Int → Prop) (hit : Int → ρ) (miss : ρ)
    (hs : ∀ i, 0 ≤ i → i < n → (P i → f (mk i) = some (.inr (hit i))) ∧ (¬ P i → f (mk i) = some (.inl (mk (i + 1))))) (he : f (mk n) = some (.inr miss)) {i : Int} (h0 : 0 ≤ i) (hi : i ≤ n) :
    (∃ j, i ≤ j ∧ j < n ∧ P j ∧ (∀ k, i ≤ k → k < j → ¬ P k) ∧ lpO f (mk i) = some (hit j)) ∨ ((∀ k, i ≤ k → k < n → ¬ P k) ∧ lpO f (mk i) = some miss) := by
  generalize hd : (n - i).toNat = d
  induction d generalizing i with
  | zero =>
    have : i = n := by omega
    subst this
    exact Or.inr ⟨fun k h1 h2 => by omega, lpO_inr he⟩
  | succ d ih =>
    obtain ⟨h1, h2⟩ := hs i h0 (by omega)
    by_cases hp : P i
    · exact Or.inl ⟨i, Int.le_refl _, by omega, hp, fun k h3 h4 => by omega, lpO_inr (h1 hp)⟩
    · rcases ih (i := i + 1) (by omega) (by omega) (by omega) with ⟨j, h3, h4, h5, h6, h7⟩ | ⟨h3, h4⟩
      · refine Or.inl ⟨j, by omega, h4, h5, fun k h8 h9 => ?_, by rw [lpO_inl (h2 hp)]; exact h7⟩
        by_cases hk : k = i
        · rw [hk]; exact hp
        · exact h6 k (by omega) h9
      · refine Or.inr ⟨fun k h8 h9 => ?_, by rw [lpO_inl (h2 hp)]; exact h4⟩
        by_cases hk : k = i
        · rw [hk]; exact hp
        · exact h3 k (by omega) h9
theorem w1 {i : Int} (h0 : -1000 ≤ i) (h1 : i < 1000000) : w32 (i + 1) = i + 1 := w32_id (by omega) (by omega)
/-- the bytes of a number, by either shift -/
theorem tr8 (x : BitVec 32) (k : Nat) (hk : k ≤ 24) : (x >>> k).setWidth 8 = (x.sshiftRight k).setWidth 8 := by
  apply BitVec.eq_of_getLsbD_eq
  intro i hi
  simp only [BitVec.getLsbD_setWidth, BitVec.getLsbD_ushiftRight, BitVec.getLsbD_sshiftRight]
  have : k + i < 32 := by omega
  have h2 : ¬ 32 ≤ i := by omega
  simp [this, h2, hi]
theorem sx8 (x : BitVec 32) : x.signExtend 8 = x.setWidth 8 := by
  apply BitVec.eq_of_getLsbD_eq
  intro i hi
  rw [BitVec.getLsbD_signExtend, BitVec.getLsbD_setWidth]
  have : i < 32 := by omega
  simp [hi, this]
theorem by_ish (v : Int) {c : Int} (hc : c = 24 ∨ c = 16 ∨ c = 8 ∨ c = 0) : i2bD (iusD v c) = i2bD (isrD v c) := by
  unfold i2bD iusD isrD
  rw [w32_ofInt, w32_ofInt, Int32.ofInt_toInt, Int32.ofInt_toInt]
  generalize Int32.ofInt v = x
  have key : ((x.toUInt32 >>> ((Int32.ofInt c).toUInt32 &&& Int32.toUInt32 31)).toInt32).toInt8 = (x >>> (Int32.ofInt c &&& 31)).toInt8 := by
    apply Int8.toBitVec_inj.mp
    rcases hc with rfl | rfl | rfl | rfl
    · have h9 := tr8 x.toBitVec 24 (by decide)
      rw [← sx8, ← sx8] at h9
      exact h9
    · have h9 := tr8 x.toBitVec 16 (by decide)
      rw [← sx8, ← sx8] at h9
      exact h9
    · have h9 := tr8 x.toBitVec 8 (by decide)
      rw [← sx8, ← sx8] at h9
      exact h9
    · have h9 := tr8 x.toBitVec 0 (by decide)
      rw [← sx8, ← sx8] at h9
      exact h9
  rw [key]
