/-! WHAT WAS TOLD; ORDER -/
theorem lpO_invG {α σ ρ : Type} {f : σ → Option (σ ⊕ ρ)} (mk : Int → α → σ) (n : Int) (I : Int → α → Prop) (P : ρ → Prop) (hs : ∀ i a, 0 ≤ i → i < n → I i a → (∃ a', f (mk i a) = some (.inl (mk (i + 1) a')) ∧ I (i + 1) a') ∨ ∃ r, f (mk i a) = some (.inr r) ∧ P r) (he : ∀ a, I n a → ∃ r, f (mk n a) = some (.inr r) ∧ P r) {i : Int} {a : α} (h0 : 0 ≤ i) (hi : i ≤ n) (ha : I i a) : ∃ r, lpO f (mk i a) = some r ∧ P r := by
  generalize hd : (n - i).toNat = d
  induction d generalizing i a with
  | zero =>
    have : i = n := by omega
    subst this
    obtain ⟨r, h1, h2⟩ := he a ha
    exact ⟨r, lpO_inr h1, h2⟩
  | succ d ih =>
    rcases hs i a h0 (by omega) ha with ⟨a', h1, h2⟩ | ⟨r, h1, h2⟩
    · obtain ⟨r, h3, h4⟩ := ih (by omega) (by omega) h2 (by omega)
      exact ⟨r, by rw [lpO_inl h1]; exact h3, h4⟩
    · exact ⟨r, lpO_inr h1, h2⟩
def FauI (h : hH) : Prop := h 1 8 = h 192 16
def TolI (h : hH) : Prop := (h 192 55 = 0 ∧ ∀ j, 0 ≤ j → j < 4 → h 76 j = -1) ∨ (h 192 55 = 1 ∧ ∀ j, 0 ≤ j → j < 4 → h 76 j = h 217 j)
def GoR (h : hH) : Prop := 0 ≤ h 39 7 ∧ h 39 7 ≤ 40 ∧ (rng 0 99).filter (fun q => decide (0 ≤ h 208 q)) = (rng 0 (h 39 7)).map (h 46) ∧ (∀ k, 0 ≤ k → k < h 39 7 → h 47 k = h 208 (h 46 k)) ∧ ∀ q, 0 ≤ q → q < 99 → h 208 q < 0 → h 208 q = -1
def JudI (h : hH) : Prop := (h 39 4 = 0 ∧ h 192 42 = 0 ∧ h 39 7 = 0) ∨ (h 39 4 = 1 ∧ h 192 42 = 1 ∧ h 39 5 = h 207 0 ∧ h 39 6 = h 207 1 ∧ h 39 7 = h 207 2 ∧ h 39 8 = h 207 3 ∧ GoR h)
def OrdI (h : hH) : Prop := (h 0 16 = 0 ∧ h 192 48 = -1) ∨ (0 ≤ h 0 16 ∧ h 0 16 ≤ 4 ∧ h 192 48 = h 0 16 ∧ ∀ k, 0 ≤ k → k < h 0 16 → iadD (iusD (h 0 17) (4 * k)) 15 = h 214 k)
def TagI (h : hH) : Prop := h 192 50 = h 0 15 ∧ 0 ≤ h 0 15 ∧ h 0 15 ≤ 24 ∧ ∀ i, 0 ≤ i → i < h 0 15 → h 216 i = h 77 i ∧ 0 ≤ h 77 i ∧ h 77 i < 128
section TOLD
variable {h : hH}
theorem fault_ok (hL : Lay h) (hF : FauI h) : ∃ r, fX11_fault h 0 = some r ∧ fX12_fault h 192 = some (r, Th h) := by
  unfold fX11_fault fX12_fault
  rw [ly_0_0 hL, th_p]
  simp only [Option.bind_some]
  rw [th_ne (by decide), hF]
  exact ⟨_, rfl, rfl⟩
theorem told_ok (hL : Lay h) (hT : TolI h) (what : Int) : ∃ r, fX11_told h 0 what = some r ∧ fX12_told h 192 what = some (r, Th h) := by
  have Lt := th_lay hL
  unfold fX11_told fX12_told
  rw [ly_0_13 hL, th_p]
  simp only [Option.bind_some]
  rw [th_ne (by decide)]
  rcases hT with ⟨t0, t1⟩ | ⟨t0, t1⟩
  · rw [if_pos t0]
    by_cases a : 0 ≤ what ∧ what < 4
    · rw [at_in a.1 (by rw [ll_76 hL]; exact a.2), t1 _ a.1 a.2]
      exact ⟨-1, rfl, rfl⟩
    · rw [at_out (by rw [ll_76 hL]; omega)]
      exact ⟨-1, rfl, rfl⟩
  · rw [if_neg (by omega), isIn_ok]
    simp only [Option.bind_some, ifb]
    by_cases a : 0 ≤ what ∧ what < 4
    · rw [at_in a.1 (by rw [ll_76 hL]; exact a.2), t1 _ a.1 a.2, if_pos (by omega), ly_192_53 Lt, aget_in a.1 (by rw [ll_217 Lt]; exact a.2), th_off (by decide)]
      exact ⟨_, rfl, rfl⟩
    · rw [at_out (by rw [ll_76 hL]; omega), if_neg (by omega)]
      exact ⟨-1, rfl, rfl⟩
theorem judged_ok (hL : Lay h) (hJ : JudI h) (what : Int) : ∃ r, fX11_judged h 0 what = some r ∧ fX12_judged h 192 what = some (r, Th h) := by
  have Lt := th_lay hL
  unfold fX11_judged fX12_judged
  rw [ly_0_7 hL, th_p]
  simp only [Option.bind_some]
  rw [th_ne (by decide)]
  rcases hJ with ⟨t0, t1, t2⟩ | ⟨t0, t1, t2, t3, t4, t5, t6⟩
  · rw [if_pos t0, if_pos t1]
    exact ⟨-1, rfl, rfl⟩
  · rw [if_neg (show ¬ h 39 4 = 0 by omega), if_neg (show ¬ h 192 42 = 0 by omega), isIn_ok]
    simp only [Option.bind_some, ifb]
    by_cases a : 0 ≤ what ∧ what < 4
    · rw [if_pos (show 0 ≤ what ∧ what ≤ 3 by omega), ly_192_36 Lt, aget_in a.1 (by rw [ll_207 Lt]; exact a.2), th_off (by decide)]
      have : what = 0 ∨ what = 1 ∨ what = 2 ∨ what = 3 := by omega
      rcases this with rfl | rfl | rfl | rfl
      · rw [if_pos rfl, t2]; exact ⟨_, rfl, rfl⟩
      · rw [if_neg (by decide), if_pos rfl, t3]; exact ⟨_, rfl, rfl⟩
      · rw [if_neg (by decide), if_neg (by decide), if_pos rfl, t4]; exact ⟨_, rfl, rfl⟩
      · rw [if_neg (by decide), if_neg (by decide), if_neg (by decide), if_pos rfl, t5]; exact ⟨_, rfl, rfl⟩
    · rw [if_neg (show ¬ (0 ≤ what ∧ what ≤ 3) by omega), if_neg (by omega), if_neg (by omega), if_neg (by omega), if_neg (by omega)]
      exact ⟨-1, rfl, rfl⟩
theorem goes_ok (hL : Lay h) (hJ : JudI h) (k : Int) : ∃ r, fX11_goes h 0 k = some r ∧ fX12_goes h 192 k = some (r, Th h) := by
  have Lt := th_lay hL
  unfold fX11_goes fX12_goes
  rw [ly_0_7 hL, th_p]
  simp only [Option.bind_some]
  rcases hJ with ⟨t0, t1, t2⟩ | ⟨t0, t1, t2, t3, t4, t5, g0, g1, g2, g3, g4⟩
  · rw [t2]
    refine ⟨-1, ?_, lpO_inr ?_⟩
    · by_cases a : k < 0
      · rw [if_pos a]
      · rw [if_neg a, if_neg (by omega)]
    · unfold fX12_goes_s9
      dsimp only
      rw [if_pos (by decide), th_ne (by decide), if_pos t1]
  · have m := lpO_nth (f := fX12_goes_s9 (Th h) 192 k) (fun n i => (n, i)) 99 k (fun q => decide (0 ≤ h 208 q)) (fun i => (i, Th h)) (-1, Th h) (fun i n i0 i1 n0 n1 hk => by
      unfold fX12_goes_s9
      dsimp only
      rw [if_pos i1, th_ne (by decide), if_neg (by omega), ly_192_37 Lt, aget_in i0 (by rw [ll_208 Lt]; exact i1), th_off (by decide)]
      simp (disch := omega) only [Option.bind_some, w32_id]
      refine ⟨fun hp hn => ?_, fun hp hn => ?_, fun hp => ?_⟩
      · have : 0 ≤ h 208 i := by simpa using hp
        rw [if_neg (by omega), if_pos hn]
      · have : 0 ≤ h 208 i := by simpa using hp
        rw [if_neg (by omega), if_neg hn]
      · have : h 208 i < 0 := by simpa using hp
        rw [if_pos this]) (fun n _ _ => by
      unfold fX12_goes_s9
      dsimp only
      rw [if_neg (by decide)]) (by decide)
    rw [m, g2, nthR_map]
    have l46 := ll_46 hL
    unfold nthR nthD
    by_cases a : k < 0
    · rw [if_pos a, if_pos a]; exact ⟨-1, rfl, rfl⟩
    · rw [if_neg a, if_neg a]
      by_cases b : k < h 39 7
      · rw [if_pos b, ly_39_11 hL, at_in (by omega) (by omega)]
        have e : (rng 0 (h 39 7))[k.toNat]? = some k := by
          rw [List.getElem?_eq_some_iff]
          refine ⟨by rw [rng_len]; omega, ?_⟩
          unfold rng
          rw [List.getElem_map, List.getElem_range]
          omega
        rw [e]
        exact ⟨_, rfl, rfl⟩
      · rw [if_neg b, List.getElem?_eq_none (by rw [rng_len]; omega)]
        exact ⟨-1, rfl, rfl⟩
theorem steps_ok (hL : Lay h) (hJ : JudI h) (q : Int) : ∃ r, fX11_steps h 0 q = some r ∧ fX12_steps h 192 q = some (r, Th h) := by
  have Lt := th_lay hL
  unfold fX11_steps fX12_steps
  rw [th_p]
  simp only [Option.bind_some]
  rw [th_ne (by decide)]
  rcases hJ with ⟨t0, t1, t2⟩ | ⟨t0, t1, t2, t3, t4, t5, g0, g1, g2, g3, g4⟩
  · rw [if_pos t1]
    refine ⟨-1, lpO_inr ?_, rfl⟩
    unfold fX11_steps_s2
    rw [ly_0_7 hL, t2, if_neg (by decide)]
  · rw [if_neg (by omega), isIn_ok]
    simp only [Option.bind_some, ifb]
    have l46 := ll_46 hL
    have l47 := ll_47 hL
    have mem : ∀ x, (∃ k, 0 ≤ k ∧ k < h 39 7 ∧ h 46 k = x) ↔ (0 ≤ x ∧ x < 99 ∧ 0 ≤ h 208 x) := by
      intro x
      have : x ∈ (rng 0 99).filter (fun q => decide (0 ≤ h 208 q)) ↔ x ∈ (rng 0 (h 39 7)).map (h 46) := by rw [g2]
      rw [List.mem_filter, List.mem_map, mem_rng] at this
      simp only [mem_rng, decide_eq_true_eq] at this
      constructor
      · rintro ⟨k, k0, k1, k2⟩
        have := this.mpr ⟨k, ⟨k0, k1⟩, k2⟩
        exact ⟨this.1.1, this.1.2, this.2⟩
      · rintro ⟨a, b, c⟩
        obtain ⟨k, ⟨k0, k1⟩, k2⟩ := this.mp ⟨⟨a, b⟩, c⟩
        exact ⟨k, k0, k1, k2⟩
    rcases lpO_find (f := fX11_steps_s2 h 0 q) (fun i => i) (h 39 7) (fun i => h 46 i = q) (fun i => h 47 i) (-1) (fun i i0 i1 => by
      unfold fX11_steps_s2
      rw [ly_0_7 hL, if_pos i1, ly_39_11 hL, at_in i0 (by omega), ly_39_12 hL]
      simp only [Option.bind_some]
      constructor
      · intro z
        rw [if_pos z, at_in i0 (by omega)]
        rfl
      · intro z
        rw [if_neg z, w32_id (by omega) (by omega)]) (by
      unfold fX11_steps_s2
      rw [ly_0_7 hL, if_neg (Int.lt_irrefl _)]) (i := 0) (Int.le_refl _) g0 with ⟨j, j0, j1, j2, -, j3⟩ | ⟨j1, j2⟩
    · have := (mem q).mp ⟨j, j0, j1, j2⟩
      rw [j3, if_pos (by omega), ly_192_37 Lt, aget_in (by omega) (by rw [ll_208 Lt]; omega), th_off (by decide), g3 j j0 j1, j2]
      exact ⟨_, rfl, rfl⟩
    · rw [j2]
      by_cases a : 0 ≤ q ∧ q ≤ 98
      · rw [if_pos a, ly_192_37 Lt, aget_in (by omega) (by rw [ll_208 Lt]; omega), th_off (by decide), g4 q (by omega) (by omega) (Int.lt_of_not_ge (fun z => by
          obtain ⟨k, k0, k1, k2⟩ := (mem q).mpr ⟨by omega, by omega, z⟩
          exact j1 k k0 k1 k2))]
        exact ⟨_, rfl, rfl⟩
      · rw [if_neg a]; exact ⟨_, rfl, rfl⟩
theorem orderAt_ok (hL : Lay h) (hO : OrdI h) (k : Int) : ∃ r, fX11_orderAt h 0 k = some r ∧ fX12_orderAt h 192 k = some (r, Th h) := by
  have Lt := th_lay hL
  unfold fX11_orderAt fX12_orderAt fX11_orderAt_b12
  rw [th_p]
  simp only [Option.bind_some]
  rw [th_ne (by decide)]
  rcases hO with ⟨o1, o2⟩ | ⟨o1, o2, o3, o4⟩
  · rw [o2, o1, isIn_ok]
    simp only [Option.bind_some, ifb]
    rw [show w32 (-1 - 1) = -2 from w32_id (by decide) (by decide), if_neg (show ¬ (0 ≤ k ∧ k ≤ -2) by omega)]
    by_cases a : k < 0
    · rw [if_pos a]; exact ⟨-1, rfl, rfl⟩
    · rw [if_neg a, if_neg a]; exact ⟨-1, rfl, rfl⟩
  · rw [o3, w32_id (x := h 0 16 - 1) (by omega) (by omega), isIn_ok]
    simp only [Option.bind_some, ifb]
    by_cases a : 0 ≤ k ∧ k < h 0 16
    · rw [if_neg (show ¬ k < 0 by omega), if_pos a.2, if_pos (show 0 ≤ k ∧ k ≤ h 0 16 - 1 by omega), ly_192_46 Lt, aget_in a.1 (by rw [ll_214 Lt]; omega), th_off (by decide), w32_id (x := 4 * k) (by omega) (by omega), o4 k a.1 a.2]
      exact ⟨_, rfl, rfl⟩
    · rw [if_neg (show ¬ (0 ≤ k ∧ k ≤ h 0 16 - 1) by omega)]
      by_cases b : k < 0
      · rw [if_pos b]; exact ⟨-1, rfl, rfl⟩
      · rw [if_neg b, if_neg (by omega)]; exact ⟨-1, rfl, rfl⟩
theorem iad255 : ∀ a : Fin 256, iadD (a.1 : Int) 255 = a.1 := by decide +kernel
theorem iad_255 {a : Int} (h0 : 0 ≤ a) (h1 : a < 256) : iadD a 255 = a := by
  have := iad255 ⟨a.toNat, by omega⟩
  dsimp only at this
  rwa [show ((a.toNat : Nat) : Int) = a by omega] at this
theorem byteAt_ok (hL : Lay h) (hT : TagI h) (k : Int) : ∃ r, fX11_byteAt h 0 k = some r ∧ fX12_byteAt h 192 k = some (r, Th h) := by
  have Lt := th_lay hL
  obtain ⟨t1, t2, t3, t4⟩ := hT
  unfold fX11_byteAt fX12_byteAt
  rw [th_p, ly_0_14 hL, ll_77 hL]
  simp only [Option.bind_some]
  rw [th_ne (by decide), t1, w32_id (by omega) (by omega), isIn_ok]
  simp only [Option.bind_some, ifb]
  by_cases a : 0 ≤ k ∧ k < h 0 15
  · obtain ⟨u1, u2, u3⟩ := t4 k a.1 a.2
    rw [if_neg (show ¬ k < 0 by omega), if_pos a.2, if_pos (show k < 24 by omega), if_pos (show 0 ≤ k ∧ k ≤ h 0 15 - 1 by omega), aget_in a.1 (by rw [ll_77 hL]; omega), ly_192_49 Lt, aget_in a.1 (by rw [ll_216 Lt]; omega), th_off (by decide), u1]
    simp only [Option.bind_some]
    rw [iad_255 u2 (by omega)]
    exact ⟨_, rfl, rfl⟩
  · rw [if_neg (show ¬ (0 ≤ k ∧ k ≤ h 0 15 - 1) by omega)]
    by_cases b : k < 0
    · rw [if_pos b]; exact ⟨-1, rfl, rfl⟩
    · rw [if_neg b, if_neg (by omega)]; exact ⟨-1, rfl, rfl⟩
end TOLD
/-! order -/
def bitP (a t : Int) : Prop := iadD (iusD a t) 1 = 1
theorem bit_tab : ∀ a : Fin 16, ∀ t : Fin 4, (iadD (iusD (a.1 : Int) (t.1 : Int)) 1 = 0 ∨ iadD (iusD (a.1 : Int) (t.1 : Int)) 1 = 1) ∧ isrD (a.1 : Int) (t.1 : Int) = iusD (a.1 : Int) (t.1 : Int) ∧ (∀ u : Fin 4, (iadD (iusD (iorD (a.1 : Int) (ishD 1 (t.1 : Int))) (u.1 : Int)) 1 = 1 ↔ u = t ∨ iadD (iusD (a.1 : Int) (u.1 : Int)) 1 = 1)) := by decide +kernel
theorem sub_tab : ∀ a : Fin 16, ∀ p : Fin 16, (iadD (a.1 : Int) (ixoD (p.1 : Int) (-1)) = 0 ↔ ∀ u : Fin 4, iadD (iusD (a.1 : Int) (u.1 : Int)) 1 = 1 → iadD (iusD (p.1 : Int) (u.1 : Int)) 1 = 1) := by decide +kernel
theorem bit01 {a t : Int} (a0 : 0 ≤ a) (a1 : a < 16) (t0 : 0 ≤ t) (t1 : t < 4) : (iadD (iusD a t) 1 = 0 ↔ ¬ bitP a t) ∧ isrD a t = iusD a t := by
  have := bit_tab ⟨a.toNat, by omega⟩ ⟨t.toNat, by omega⟩
  dsimp only at this
  rw [show ((a.toNat : Nat) : Int) = a by omega, show ((t.toNat : Nat) : Int) = t by omega] at this
  unfold bitP
  exact ⟨by omega, this.2.1⟩
theorem bit_or {a t u : Int} (a0 : 0 ≤ a) (a1 : a < 16) (t0 : 0 ≤ t) (t1 : t < 4) (u0 : 0 ≤ u) (u1 : u < 4) : bitP (iorD a (ishD 1 t)) u ↔ u = t ∨ bitP a u := by
  have := (bit_tab ⟨a.toNat, by omega⟩ ⟨t.toNat, by omega⟩).2.2 ⟨u.toNat, by omega⟩
  dsimp only at this
  rw [show ((a.toNat : Nat) : Int) = a by omega, show ((t.toNat : Nat) : Int) = t by omega, show ((u.toNat : Nat) : Int) = u by omega] at this
  unfold bitP
  rw [this]
  have : ((⟨u.toNat, by omega⟩ : Fin 4) = ⟨t.toNat, by omega⟩) ↔ u = t := by
    rw [Fin.mk.injEq]
    omega
  rw [this]
theorem bit_sub {a p : Int} (a0 : 0 ≤ a) (a1 : a < 16) (p0 : 0 ≤ p) (p1 : p < 16) : iadD a (ixoD p (-1)) = 0 ↔ ∀ u, 0 ≤ u → u < 4 → bitP a u → bitP p u := by
  have := sub_tab ⟨a.toNat, by omega⟩ ⟨p.toNat, by omega⟩
  dsimp only at this
  rw [show ((a.toNat : Nat) : Int) = a by omega, show ((p.toNat : Nat) : Int) = p by omega] at this
  rw [this]
  constructor
  · intro z u u0 u1
    have := z ⟨u.toNat, by omega⟩
    dsimp only at this
    rw [show ((u.toNat : Nat) : Int) = u by omega] at this
    exact this
  · intro z u
    exact z u.1 (by omega) (by omega)
theorem bit_0 : ∀ u : Int, 0 ≤ u → u < 4 → ¬ bitP 0 u := by
  intro u u0 u1
  have : u = 0 ∨ u = 1 ∨ u = 2 ∨ u = 3 := by omega
  unfold bitP
  rcases this with rfl | rfl | rfl | rfl <;> decide +kernel
/-- a table that may come next -/
def freeS (S : Int → Int) (had t : Int) : Prop := ¬ bitP had t ∧ ∀ f, 0 ≤ f → f < S 2 → S (58 + f) = t → S (76 + f) = t ∨ bitP had (S (76 + f))
def pkL (l : List Int) : Int := (l.foldl (fun (x : Int × Int) t => (iorD x.1 (ishD t (4 * x.2)), x.2 + 1)) (0, 0)).1
def hadL (l : List Int) : Int := l.foldl (fun a t => iorD a (ishD 1 t)) 0
theorem pkL_snd (l : List Int) : ∀ a b : Int, (l.foldl (fun (x : Int × Int) t => (iorD x.1 (ishD t (4 * x.2)), x.2 + 1)) (a, b)).2 = b + l.length := by
  induction l with
  | nil => intro a b; simp
  | cons t l ih => intro a b; rw [List.foldl_cons, ih, List.length_cons]; omega
theorem pkL_s (l : List Int) (t : Int) : pkL (l ++ [t]) = iorD (pkL l) (ishD t (4 * l.length)) := by
  unfold pkL
  rw [List.foldl_append, List.foldl_cons, List.foldl_nil, pkL_snd, Int.zero_add]
theorem hadL_s (l : List Int) (t : Int) : hadL (l ++ [t]) = iorD (hadL l) (ishD 1 t) := by
  unfold hadL
  rw [List.foldl_append]
  rfl
theorem pk4 : ∀ a b c d : Fin 4, (let x := pkL [(a.1 : Int)]; 0 ≤ x ∧ iadD (iusD x 0) 15 = a.1) ∧ (let x := pkL [(a.1 : Int), (b.1 : Int)]; 0 ≤ x ∧ iadD (iusD x 0) 15 = a.1 ∧ iadD (iusD x 4) 15 = b.1) ∧ (let x := pkL [(a.1 : Int), (b.1 : Int), (c.1 : Int)]; 0 ≤ x ∧ iadD (iusD x 0) 15 = a.1 ∧ iadD (iusD x 4) 15 = b.1 ∧ iadD (iusD x 8) 15 = c.1) ∧ (let x := pkL [(a.1 : Int), (b.1 : Int), (c.1 : Int), (d.1 : Int)]; 0 ≤ x ∧ iadD (iusD x 0) 15 = a.1 ∧ iadD (iusD x 4) 15 = b.1 ∧ iadD (iusD x 8) 15 = c.1 ∧ iadD (iusD x 12) 15 = d.1) := by decide +kernel
theorem pkL_ok {l : List Int} (hl : l.length ≤ 4) (hr : ∀ t ∈ l, 0 ≤ t ∧ t < 4) : 0 ≤ pkL l ∧ ∀ (k : Nat) (t : Int), l[k]? = some t → iadD (iusD (pkL l) (4 * k)) 15 = t := by
  have z4 : ∀ a b c d : Int, (0 ≤ a ∧ a < 4) → (0 ≤ b ∧ b < 4) → (0 ≤ c ∧ c < 4) → (0 ≤ d ∧ d < 4) → (0 ≤ pkL [a] ∧ iadD (iusD (pkL [a]) 0) 15 = a) ∧ (0 ≤ pkL [a, b] ∧ iadD (iusD (pkL [a, b]) 0) 15 = a ∧ iadD (iusD (pkL [a, b]) 4) 15 = b) ∧ (0 ≤ pkL [a, b, c] ∧ iadD (iusD (pkL [a, b, c]) 0) 15 = a ∧ iadD (iusD (pkL [a, b, c]) 4) 15 = b ∧ iadD (iusD (pkL [a, b, c]) 8) 15 = c) ∧ (0 ≤ pkL [a, b, c, d] ∧ iadD (iusD (pkL [a, b, c, d]) 0) 15 = a ∧ iadD (iusD (pkL [a, b, c, d]) 4) 15 = b ∧ iadD (iusD (pkL [a, b, c, d]) 8) 15 = c ∧ iadD (iusD (pkL [a, b, c, d]) 12) 15 = d) := by
    intro a b c d ha hb hc hd
    have := pk4 ⟨a.toNat, by omega⟩ ⟨b.toNat, by omega⟩ ⟨c.toNat, by omega⟩ ⟨d.toNat, by omega⟩
    dsimp only at this
    rw [show ((a.toNat : Nat) : Int) = a by omega, show ((b.toNat : Nat) : Int) = b by omega, show ((c.toNat : Nat) : Int) = c by omega, show ((d.toNat : Nat) : Int) = d by omega] at this
    exact this
  match l, hl, hr with
  | [], _, _ => exact ⟨Int.le_refl _, fun k t h => by simp at h⟩
  | [a], _, hr =>
    have ha := hr a (by simp)
    obtain ⟨x, -⟩ := z4 a a a a ha ha ha ha
    refine ⟨x.1, fun k t h => ?_⟩
    match k, h with
    | 0, h => cases h; exact x.2
    | k + 1, h => simp at h
  | [a, b], _, hr =>
    have ha := hr a (by simp)
    have hb := hr b (by simp)
    obtain ⟨-, x, -⟩ := z4 a b a a ha hb ha ha
    refine ⟨x.1, fun k t h => ?_⟩
    match k, h with
    | 0, h => cases h; exact x.2.1
    | 1, h => cases h; exact x.2.2
    | k + 2, h => simp at h
  | [a, b, c], _, hr =>
    have ha := hr a (by simp)
    have hb := hr b (by simp)
    have hc := hr c (by simp)
    obtain ⟨-, -, x, -⟩ := z4 a b c a ha hb hc ha
    refine ⟨x.1, fun k t h => ?_⟩
    match k, h with
    | 0, h => cases h; exact x.2.1
    | 1, h => cases h; exact x.2.2.1
    | 2, h => cases h; exact x.2.2.2
    | k + 3, h => simp at h
  | [a, b, c, d], _, hr =>
    have ha := hr a (by simp)
    have hb := hr b (by simp)
    have hc := hr c (by simp)
    have hd := hr d (by simp)
    obtain ⟨-, -, -, x⟩ := z4 a b c d ha hb hc hd
    refine ⟨x.1, fun k t h => ?_⟩
    match k, h with
    | 0, h => cases h; exact x.2.1
    | 1, h => cases h; exact x.2.2.1
    | 2, h => cases h; exact x.2.2.2.1
    | 3, h => cases h; exact x.2.2.2.2
    | k + 4, h => simp at h
  | _ :: _ :: _ :: _ :: _ :: _, hl, _ => simp at hl
