/-! UNDO, COMMIT, VIOLATED as calls -/
section CALLS
variable {h : hH}
theorem undoS_ok {u : Int} {U : Int → Int → Int} (hL : Lay h) (hU : UndC h u U) (hu : 1 ≤ u) : ∃ h', fX11_undo h 0 = some (u - 1, h') ∧ StH h' 13 (U (u - 1)) ∧ UndC h' (u - 1) U ∧ Fr (fun a b => stC 13 a b || (a == 0 && b == 11)) h h' := by
  obtain ⟨u1, u0, u2, u3, u4, u5⟩ := hU
  obtain ⟨k, k8, hk⟩ := u3 (u - 1) (by omega) (by omega)
  have e2 := ly_0_2 hL
  unfold fX11_undo
  rw [ly_0_10 hL, ll_74 hL, u1, if_neg (by omega), if_neg (by omega), w32_id (by omega) (by omega), aget_in (by omega) (by rw [ll_74 hL]; omega)]
  simp only [Option.bind_some, pput]
  rw [hk, if_neg (by omega)]
  generalize hg : hup h 0 11 (u - 1) = g
  have ga : ∀ a, a ≠ 0 → g a = h a := fun a ha => by rw [← hg, hup_off ha]
  have Lg : Lay g := by rw [← hg]; exact hL.upF (by decide)
  have hX : StH g (78 + 9 * (k : Int)) (U (u - 1)) := by
    have := u5 (u - 1) (by omega) (by omega)
    rw [hk] at this
    exact StH.sameL (fun a a0 a1 => ga a (by omega)) this
  obtain ⟨h', c1, c2, c3⟩ := copyState_ok (stAt_und Lg k8) (stAt_13 Lg) (by omega) hX
  rw [ly_0_2 Lg, c1]
  simp only [Option.bind_some]
  have cs : ∀ a, (a < 13 ∨ 21 < a) → h' a = g a := fun a ha => c3.row a (fun b => stC13_out ha)
  have g11 : g 0 11 = u - 1 := by rw [← hg, hup_at]
  refine ⟨h', by rw [cs 0 (by decide), g11], c2, ⟨by rw [cs 0 (by decide), g11], by omega, by omega, ?_, ?_, fun j j0 j1 => ?_⟩, ?_⟩
  · rw [cs 74 (by decide), ga 74 (by decide)]; exact u3
  · rw [cs 74 (by decide), ga 74 (by decide)]; exact u4
  · rw [cs 74 (by decide), ga 74 (by decide)]
    exact StH.same74 (fun a a0 a1 => by rw [cs a (by omega), ga a (by omega)]) (u3 j j0 (by omega)) (u5 j j0 (by omega))
  · refine Fr.tr (by rw [← hg]; exact Fr.up (by decide)) (c3.mono (fun a b z => ?_))
    simp only [z, Bool.true_or]
theorem undo_ok (hL : Lay h) (h1 : SchI h) (h2 : StI h) (h3 : UndI h) : ∃ r h' h'', fX11_undo h 0 = some (r, h') ∧ fX12_undo h' 192 = some (r, h'') ∧ StI h'' ∧ UndI h'' ∧ Fr trC h h'' := by
  obtain ⟨u, c1, c2, c3⟩ := h3
  by_cases z : u = 0
  · refine ⟨-1, h, ?_⟩
    unfold fX11_undo fX12_undo
    simp only [pput, Option.bind_some]
    rw [c1.1, if_pos (by omega), hup_ne (by decide), c2, if_pos z]
    have qa : ∀ a, a ≠ 192 → hup h 192 0 0 a = h a := fun a ha => hup_off ha
    refine ⟨_, rfl, rfl, ?_, ?_, Fr.up (by decide)⟩
    · unfold StI
      rw [qa _ (by decide)]
      exact ⟨StH.sameL (fun a a0 a1 => qa a (by omega)) h2.1, h2.2⟩
    · exact und_asm c1 (by rw [qa _ (by decide)]) (fun a ha => qa a (by omega)) ⟨by rw [hup_ne (by decide)]; exact c2, fun j j0 j1 => by
        rw [sl_eq (h := h) (qa _ (by decide)) (fun i hi => by rw [qa _ (by decide)])]
        exact fun _ _ _ => rfl⟩ c3 (by rw [qa _ (by decide)]; exact h1.2.1.2)
  · have u8 := c1.2.2.1
    have u0 := c1.2.1
    obtain ⟨k, k1, k2, k3, k4⟩ := undoS_ok hL c1 (by have := c1.2.1; omega)
    refine ⟨u - 1, k, ?_⟩
    rw [k1]
    have ks : ∀ a, a ≠ 0 → (a < 13 ∨ 21 < a) → k a = h a := fun a h0 ha => k4.row a (fun b => by rw [stC13_out ha]; simp; omega)
    have Lk : Lay k := k4.lay hL (by decide +kernel) (by decide +kernel)
    unfold fX12_undo
    simp only [pput, Option.bind_some]
    rw [hup_ne (by decide), ks _ (by decide) (by decide), c2, if_neg z, w32_id (by omega) (by omega)]
    generalize hq : hup (hup k 192 0 0) 192 44 (u - 1) = q
    have qa : ∀ a, a ≠ 192 → q a = k a := fun a ha => by rw [← hq, hup_off ha, hup_off ha]
    have Lq : Lay q := by rw [← hq]; exact (Lk.upF (by decide)).upF (by decide)
    have q44 : q 192 44 = u - 1 := by rw [← hq, hup_at]
    have key := cp_loop (f := fX12_undo_s26 q 192) (h := q) 194 148 1091 (fun i => h 212 (1091 * (u - 1) + i)) (fun x => x.1 = u - 1 ∧ x.2 = seg q 194 148 1091 (fun i => h 212 (1091 * (u - 1) + i))) (by decide) (fun i h' i0 i1 hI => ?_) ?_
    · obtain ⟨⟨x1, y⟩, r1, r2, y0⟩ := key
      rw [r1]
      dsimp only at r2 y0
      subst r2
      have ya : ∀ a, a ≠ 194 → y a = q a := fun a ha => by rw [y0, seg_off ha]
      have ys : ∀ i, y 194 i = if 148 ≤ i ∧ i < 1239 then sl h (u - 1) i else h 194 i := fun i => by
        rw [y0]
        by_cases c : 148 ≤ i ∧ i < 1239
        · rw [seg_in (by omega) (by omega), if_pos c]
          unfold sl slA
          rw [if_neg (by omega)]
        · rw [seg_out (by omega), if_neg c, qa _ (by decide), ks _ (by decide) (by decide)]
      have eS : EqS (sl h (u - 1)) (y 194) := fun i i0 i1 => by
        rw [ys]
        by_cases c : 148 ≤ i
        · rw [if_pos ⟨c, i1⟩]
        · rw [if_neg (fun z => c z.1)]
          unfold sl slA
          rw [if_pos (by omega)]
      refine ⟨y, trivial, rfl, ⟨?_, ?_⟩, ?_, ?_⟩
      · exact StH.cong (StH.sameL (fun a a0 a1 => by rw [ya _ (by omega), qa _ (by omega)]) k2) eS
      · refine StOk.cong (c3 (u - 1) (by have := c1.2.1; omega) (by omega)) eS ?_
        unfold sl slA
        rw [if_pos (by decide)]
        exact h1.2.1.2
      · refine und_asm (V := sl h) k3 (by rw [ya _ (by decide), qa _ (by decide)]) (fun a ha => by rw [ya _ (by omega), qa _ (by omega)]) ⟨by rw [ya _ (by decide), q44], fun j j0 j1 => ?_⟩ (fun j j0 j1 => c3 j j0 (by omega)) ?_
        · rw [sl_eq (h := h) (by rw [ya _ (by decide), qa _ (by decide), ks _ (by decide) (by decide)]) (fun i hi => by rw [ys, if_neg (by omega)])]
          exact fun _ _ _ => rfl
        · rw [ys, if_neg (by decide)]; exact h1.2.1.2
      · refine ((k4.mono (fun a b w => ?_)).tr (?_ : Fr trC k q)).tr ?_
        · unfold trC
          simp only [Bool.or_eq_true] at w ⊢
          rcases w with w | w
          · exact Or.inl (Or.inl (Or.inl (Or.inl w)))
          · exact Or.inl (Or.inl (Or.inl (Or.inr (by unfold undC; rw [w]; rfl))))
        · rw [← hq]; exact Fr.tr (Fr.up (by decide)) (Fr.up (by decide))
        · exact fr_s ya (fun i hi => by rw [ys, if_neg (by omega), qa _ (by decide), ks _ (by decide) (by decide)]) (fun b b0 b1 => by unfold trC; simp; omega)
    · have L' : Lay h' := by rw [hI]; exact lay_seg194 Lq (by decide)
      have g : ∀ a, a ≠ 194 → h' a = q a := fun a ha => by rw [hI, seg_off ha]
      unfold fX12_undo_s26
      simp (disch := omega) only [if_pos i1, w32_id, g 192 (by decide), q44]
      rw [← g 192 (by decide), ly_192_43 L', aget_in (by omega) (by rw [ll_212 L']; omega), g 212 (by decide), qa 212 (by decide), ks 212 (by decide) (by decide)]
      simp (disch := omega) only [Option.bind_some, aup_s L']
    · unfold fX12_undo_s26
      simp only [if_neg (show ¬ (1091 : Int) < 1091 by decide)]
      exact ⟨_, rfl, by rw [seg_off (by decide), q44], rfl⟩
def VRng (L : List (Int × Int × Int)) : Prop := ∀ x ∈ L, (1 ≤ x.1 ∧ x.1 ≤ 4) ∧ (0 ≤ x.2.1 ∧ x.2.1 < 6) ∧ 0 ≤ x.2.2 ∧ x.2.2 < 99
theorem pickL_rng {S : Int → Int} {k n : Int} {P : Int → Prop} {x : Int × Int × Int} (hx : x ∈ pickL S k n P) : x.1 = k ∧ x.2.1 = n ∧ 0 ≤ x.2.2 ∧ x.2.2 < 99 := by
  unfold pickL at hx
  obtain ⟨q, hq, rfl⟩ := List.mem_map.mp hx
  have := (List.mem_filter.mp hq).1
  unfold liv alv at this
  have := mem_rng.mp (List.mem_filter.mp this).1
  exact ⟨rfl, rfl, this.1, this.2⟩
theorem vioL_rng {S : Int → Int} {late : Int} (hs : SOk S) : VRng (vioL S late) := by
  have h1 := hs.2.1
  have h2 := hs.2.2.1
  have h3 := hs.2.2.2.1
  intro x hx
  unfold vioL at hx
  simp only [List.mem_append, List.mem_flatMap] at hx
  rcases hx with ((hx | ⟨k, hk, hx⟩) | ⟨k, hk, hx⟩) | ⟨k, hk, hx⟩
  · unfold needsL at hx
    obtain ⟨t, ht, hx⟩ := List.mem_flatMap.mp hx
    unfold needT at hx
    obtain ⟨c, hc, hx⟩ := List.mem_flatMap.mp hx
    have hw := hs.2.2.2.2.1 t (mem_rng.mp ht).1 (mem_rng.mp ht).2
    have := mem_rng.mp hc
    unfold needC at hx
    by_cases z : nedS S t c
    · rw [if_pos z] at hx
      obtain ⟨a, b, c⟩ := pickL_rng hx
      exact ⟨by omega, by omega, c⟩
    · rw [if_neg z] at hx
      exact absurd hx List.not_mem_nil
  · have := mem_rng.mp hk
    obtain ⟨a, b, c⟩ := pickL_rng hx
    exact ⟨by omega, by omega, c⟩
  · have := mem_rng.mp hk
    unfold refL1 at hx
    split at hx
    · exact absurd hx List.not_mem_nil
    · obtain ⟨a, b, c⟩ := pickL_rng hx
      exact ⟨by omega, by omega, c⟩
  · have := mem_rng.mp hk
    unfold chkL1 at hx
    split at hx
    · exact absurd hx List.not_mem_nil
    · obtain ⟨a, b, c⟩ := pickL_rng hx
      exact ⟨by omega, by omega, c⟩
theorem vioL_len {S : Int → Int} {late : Int} (hs : SOk S) (hb : (liv S).length ≤ 40) : (vioL S late).length ≤ 880 := by
  have h0 := hs.1
  have h1 := hs.2.1
  have h2 := hs.2.2.1
  have h3 := hs.2.2.2.1
  have nl := needs_len hs (S 0).toNat (by omega)
  rw [show (((S 0).toNat : Nat) : Int) = S 0 by omega] at nl
  have cl := csum_le (S := S) (t := S 0)
  have p1 := ph_len (G := keyL1 S) (fun _ => pickL_len) hb h1.1
  have p2 := ph_len (G := refL1 S late) (fun _ => refL1_len) hb h2.1
  have p3 := ph_len (G := chkL1 S late) (fun _ => chkL1_len) hb h3.1
  unfold vioL needsL
  simp only [List.length_append]
  omega
/-- the violations that were told last -/
def LatV (h : hH) : Prop := ∃ L, VioC h 44 L ∧ L.length ≤ 880 ∧ VRng L ∧ h 192 41 = L.length ∧ ∀ (i : Nat) (x : Int × Int × Int), L[i]? = some x → h 209 i = x.1 ∧ h 210 i = x.2.1 ∧ h 211 i = x.2.2
theorem pk_tell : ∀ a : Fin 5, ∀ b : Fin 6, ∀ c : Fin 99, iusD (pk ((a.1 : Int), (b.1 : Int), (c.1 : Int))) 16 = a.1 ∧ iadD (iusD (pk ((a.1 : Int), (b.1 : Int), (c.1 : Int))) 8) 255 = b.1 ∧ iadD (pk ((a.1 : Int), (b.1 : Int), (c.1 : Int))) 255 = c.1 := by decide +kernel
theorem pk_dec {x : Int × Int × Int} (h : (1 ≤ x.1 ∧ x.1 ≤ 4) ∧ (0 ≤ x.2.1 ∧ x.2.1 < 6) ∧ 0 ≤ x.2.2 ∧ x.2.2 < 99) : iusD (pk x) 16 = x.1 ∧ iadD (iusD (pk x) 8) 255 = x.2.1 ∧ iadD (pk x) 255 = x.2.2 := by
  obtain ⟨a, b, c⟩ := x
  dsimp only at h
  have := pk_tell ⟨a.toNat, by omega⟩ ⟨b.toNat, by omega⟩ ⟨c.toNat, by omega⟩
  dsimp only at this
  rw [show ((a.toNat : Nat) : Int) = a by omega, show ((b.toNat : Nat) : Int) = b by omega, show ((c.toNat : Nat) : Int) = c by omega] at this
  exact this
theorem violated_ok (hL : Lay h) (hV : LatV h) (k what : Int) : ∃ r, fX11_violated h 0 k what = some r ∧ fX12_violated h 192 k what = some (r, hup h 192 0 0) := by
  obtain ⟨L, v1, v2, v3, v4, v5⟩ := hV
  have e7 := ly_0_7 hL
  have e3 := ly_39_3 hL
  have e44 := ly_44_1 hL
  have l45 := ll_45 hL
  have L0 : Lay (hup h 192 0 0) := hL.upF (by decide)
  have ga : ∀ a, a ≠ 192 → hup h 192 0 0 a = h a := fun a ha => hup_off ha
  have g0 : ∀ b, b ≠ 0 → hup h 192 0 0 192 b = h 192 b := fun b hb => hup_ne (fun z => hb z.2)
  unfold fX11_violated fX12_violated fX10_tell
  rw [e7, e3, v1.1]
  simp only [pput, Option.bind_some, isIn_ok]
  rw [g0 41 (by decide), v4, w32_id (by omega) (by omega)]
  by_cases a : k < 0
  · simp only [if_pos a, if_neg (show ¬ (0 ≤ k ∧ k ≤ (L.length : Int) - 1) by omega), if_true, Option.bind_some]
    exact ⟨-1, rfl, rfl⟩
  · simp only [if_neg a]
    by_cases b : k < L.length
    · simp only [if_pos b, if_pos (show 0 ≤ k ∧ k ≤ (L.length : Int) - 1 by omega), if_neg (show ¬ (1 : Int) = 0 by decide)]
      obtain ⟨i, hi⟩ : ∃ i : Nat, k = i := ⟨k.toNat, by omega⟩
      have hi2 : i < L.length := by omega
      have hx := v1.2 i _ (List.getElem?_eq_getElem hi2)
      have hy := v5 i _ (List.getElem?_eq_getElem hi2)
      obtain ⟨d1, d2, d3⟩ := pk_dec (v3 _ (List.getElem_mem hi2))
      have rd : ∀ o slot, hup h 192 0 0 192 slot = o → o ≠ 192 → h o (-1) = 960 → aget (hup h 192 0 0) (hup h 192 0 0 192 slot) k = some (h o k) := fun o slot ho hn hl => by
        rw [ho, aget_in (by omega) (by rw [ga o hn, hl]; omega), ga o hn]
      rw [rd 209 38 (by rw [g0 _ (by decide)]; exact ly_192_38 hL) (by decide) (ll_209 hL), rd 210 39 (by rw [g0 _ (by decide)]; exact ly_192_39 hL) (by decide) (ll_210 hL), rd 211 40 (by rw [g0 _ (by decide)]; exact ly_192_40 hL) (by decide) (ll_211 hL), e44, at_in (by omega) (by omega)]
      simp only [Option.bind_some]
      rw [show (44 : Int) + 1 = 45 from rfl] at hx
      rw [hi, hx, hy.1, hy.2.1, hy.2.2, d1, d2, d3]
      by_cases w0 : what = 0
      · simp (disch := omega) only [if_neg (show ¬ what < 0 by omega), if_neg (show ¬ 2 < what by omega), if_pos w0, Option.bind_some]
        exact ⟨_, rfl, rfl⟩
      · by_cases w1 : what = 1
        · simp (disch := omega) only [if_neg (show ¬ what < 0 by omega), if_neg (show ¬ 2 < what by omega), if_neg w0, if_pos w1, Option.bind_some]
          exact ⟨_, rfl, rfl⟩
        · by_cases w2 : what = 2
          · simp (disch := omega) only [if_neg (show ¬ what < 0 by omega), if_neg (show ¬ 2 < what by omega), if_neg w0, if_neg w1, if_pos w2, Option.bind_some]
            exact ⟨_, rfl, rfl⟩
          · simp only [if_neg w0, if_neg w1, if_neg w2]
            by_cases y : what < 0
            · simp only [if_pos y, Option.bind_some]; exact ⟨_, rfl, rfl⟩
            · simp only [if_neg y, if_pos (show 2 < what by omega), Option.bind_some]; exact ⟨_, rfl, rfl⟩
    · simp only [if_neg b, if_neg (show ¬ (0 ≤ k ∧ k ≤ (L.length : Int) - 1) by omega), if_true, Option.bind_some]
      exact ⟨-1, rfl, rfl⟩
end CALLS
