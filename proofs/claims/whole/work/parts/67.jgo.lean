/-! JUDGING, the class's: who goes -/
section JUDGE
variable {v n : Int} {S N : Int → Int} {h : hH}
def spC (v a b : Int) : Bool := (a == v && b == 10) || (a == v + 9 && decide (0 ≤ b))
theorem sp_jug {v a b : Int} (z : spC v a b = true) : jugC v a b = true := by
  unfold spC at z; unfold jugC; simp at z ⊢; omega
theorem AimE.fr {h' : hH} {i f : Int} (hA : AimE v S N n h i f) (e : h' (v + 10) = h (v + 10)) : AimE v S N n h' i f := by
  unfold AimE at hA ⊢
  rw [e]; exact hA
theorem followsGoer_ok (hv : JV v) (hs : SOk S) (hJ : JC v S N n h) (hA : ∀ i f, 0 ≤ i → i < n → 0 ≤ f → f < S 2 → AimE v S N n h i f) {i s : Int} (i0 : 0 ≤ i) (i1 : i < n) : ∃ b, fX1_followsGoer h v i s = some b ∧ Bt b (∃ f, 0 ≤ f ∧ f < S 2 ∧ S (88 + f) = 1 ∧ 0 ≤ aheadS S (N i) f ∧ h (v + 9) (h (v + 10) (6 * i + f)) = s) := by
  obtain ⟨hL, ⟨⟨v0, v1, -, -, -, -, v13, v14, -⟩, ⟨-, -, l9, l10, -⟩, -⟩, hc, e14, e15, hRD, e13⟩ := hJ
  have h2 := hs.2.2.1
  have n40 := hRD.2.2.1
  have ra := hRD.2.2.2.2.2.2.1
  have e2 : h 4 2 = S 2 := hc.2.2.2.1.2.2.1
  unfold fX1_followsGoer
  rcases lpO_find (f := fX1_followsGoer_s2 h v i s) (fun k => k) (S 2) (fun f => S (88 + f) = 1 ∧ 0 ≤ aheadS S (N i) f ∧ h (v + 9) (h (v + 10) (6 * i + f)) = s) (fun _ => 1) 0 (fun f f0 f1 => by
    have hf := hA i f i0 i1 f0 f1
    unfold fX1_followsGoer_s2
    rw [v0, e2, if_pos f1, v14, show w32 (w32 (i * 6) + f) = 6 * i + f by rw [w32_id (x := i * 6) (by omega) (by omega), w32_id (by omega) (by omega)]; omega, at_in (by omega) (by omega)]
    simp only [Option.bind_some]
    rw [w1 (by omega) (by omega)]
    rcases hf with ⟨a, b⟩ | ⟨a, b, c⟩
    · rw [if_pos b]
      exact ⟨fun z => by omega, fun _ => rfl⟩
    · rw [if_neg (by omega), v13, at_in a (by omega)]
      simp only [Option.bind_some]
      have hc0 := (ra _ a b).1
      rw [c] at hc0
      by_cases x : h (v + 9) (h (v + 10) (6 * i + f)) = s
      · rw [if_pos x, (refPart_ok hc.2.2.1 hc.2.2.2 hs f0 f1).2.2.2.1]
        simp only [Option.bind_some]
        by_cases y : S (88 + f) = 1
        · rw [if_pos y]
          exact ⟨fun _ => rfl, fun z => absurd ⟨y, hc0, x⟩ z⟩
        · rw [if_neg y]
          exact ⟨fun z => absurd z.1 y, fun _ => rfl⟩
      · rw [if_neg x]
        exact ⟨fun z => absurd z.2.2 x, fun _ => rfl⟩) (by
    unfold fX1_followsGoer_s2
    rw [v0, e2, if_neg (Int.lt_irrefl _)]) (i := 0) (Int.le_refl _) h2.1 with ⟨j, j0, j1, j2, -, j3⟩ | ⟨j1, j2⟩
  · exact ⟨1, j3, Or.inl ⟨rfl, j, j0, j1, j2⟩⟩
  · exact ⟨0, j2, Or.inr ⟨rfl, fun ⟨f, f0, f1, f2⟩ => j1 f f0 f1 f2⟩⟩
theorem spread_ok (hv : JV v) (hs : SOk S) (hJ : JC v S N n h) (hA : ∀ i f, 0 ≤ i → i < n → 0 ≤ f → f < S 2 → AimE v S N n h i f) {G0 : Int → Int} (hG : GOk S G0 0) (hE : ∀ i, 0 ≤ i → i < n → h (v + 9) i = G0 (N i)) {K : Nat} (hK : StopG S G0 K) (hK40 : K ≤ 40) :
    ∃ h', fX1_spreadGoing h v = some h' ∧ Fr (spC v) h h' ∧ ∀ i, 0 ≤ i → i < n → h' (v + 9) i = Rk S G0 K (N i) := by
  have n0 := hJ.2.2.2.2.2.1.2.1
  have n40 := hJ.2.2.2.2.2.1.2.2.1
  have ra := hJ.2.2.2.2.2.1.2.2.2.2.2.2.1
  have rall := hJ.2.2.2.2.2.1.2.2.2.2.2.2.2.2
  unfold fX1_spreadGoing
  simp only [pput, Option.bind_some]
  have f0 : Fr (spC v) h (hup h v 10 1) := Fr.up (by unfold spC; simp)
  refine lpO_invG (f := fX1_spreadGoing_s7 (hup h v 10 1) v) (fun i h => (h, i)) 41 (fun l h' => Fr (spC v) h h' ∧ ((∃ k : Nat, (k : Int) + 1 = l ∧ k ≤ K ∧ h' v 10 = 1 ∧ ∀ i, 0 ≤ i → i < n → h' (v + 9) i = Rk S G0 k (N i)) ∨ (h' v 10 = 0 ∧ ∀ i, 0 ≤ i → i < n → h' (v + 9) i = Rk S G0 K (N i)))) (fun h' => Fr (spC v) h h' ∧ ∀ i, 0 ≤ i → i < n → h' (v + 9) i = Rk S G0 K (N i)) (fun l h' l0 l1 hI => ?_) (fun h' hI => ?_) (by decide) (by decide) ⟨f0, Or.inl ⟨0, rfl, by omega, hup_at, fun i i0 i1 => by rw [hup_off (by omega)]; exact hE i i0 i1⟩⟩
  · obtain ⟨I1, I2⟩ := hI
    unfold fX1_spreadGoing_s7
    dsimp only
    rw [if_neg (by omega)]
    rcases I2 with ⟨k, k1, k2, k3, k4⟩ | ⟨k3, k4⟩
    · rw [k3, if_neg (by decide)]
      simp only [pput, Option.bind_some]
      have hGk := Rk_ok hG k
      generalize hGd : Rk S G0 k = G at *
      generalize hg : hup h' v 10 0 = g
      have fg : Fr (spC v) h g := I1.tr (by rw [← hg]; exact Fr.up (by unfold spC; simp))
      have inner := lpO_inv (f := fX1_spreadGoing_s27 g v l) (h := g) n (fun j h'' => Fr (spC v) h h'' ∧ (∀ i, 0 ≤ i → i < n → h'' (v + 9) i = if i < j then stG S l G (N i) else G (N i)) ∧ Bt (h'' v 10) (∃ i, 0 ≤ i ∧ i < j ∧ cand S G (N i))) (fun r => ∃ h'', r = .inl (h'', l + 1) ∧ Fr (spC v) h h'' ∧ (∀ i, 0 ≤ i → i < n → h'' (v + 9) i = stG S l G (N i)) ∧ Bt (h'' v 10) (∃ i, 0 ≤ i ∧ i < n ∧ cand S G (N i))) (fun j h'' j0 j1 hM => ?_) (fun h'' hM => ?_) (Int.le_refl _) n0 ⟨fg, fun i i0 i1 => by rw [if_neg (by omega), ← hg, hup_off (by omega)]; exact k4 i i0 i1, Or.inr ⟨by rw [← hg, hup_at], fun ⟨i, a, b, _⟩ => by omega⟩⟩
      · obtain ⟨r, r1, h'', r2, r3, r4, r5⟩ := inner
        refine Or.inl ⟨h'', by rw [r1, r2], r3, ?_⟩
        rcases r5 with ⟨m, ⟨i, i0, i1, ic⟩⟩ | ⟨m, nc⟩
        · refine Or.inl ⟨k + 1, by omega, ?_, m, fun i i0 i1 => ?_⟩
          · refine Classical.byContradiction (fun z => hK.2 ?_)
            have : k = K := by omega
            subst this
            rw [hGd]
            obtain ⟨m0, m1, -⟩ := ra i i0 i1
            exact ⟨N i, m0, m1, ic⟩
          · rw [r4 i i0 i1, ← k1, ← hGd]
            rfl
        · refine Or.inr ⟨m, fun i i0 i1 => ?_⟩
          have hkK : k = K := by
            refine Classical.byContradiction (fun z => ?_)
            obtain ⟨q, q0, q1, q2⟩ := hK.1 k (by omega)
            rw [hGd] at q2
            obtain ⟨i, i0, i1, i2⟩ := rall q q0 q1 q2.1
            exact nc ⟨i, i0, i1, by rw [i2]; exact q2⟩
          rw [r4 i i0 i1, ← hkK, hGd]
          unfold stG
          rw [if_neg (fun z => nc ⟨i, i0, i1, z.2.2⟩)]
      · obtain ⟨M1, M2, M3⟩ := hM
        have fj : Fr (jugC v) h h'' := M1.mono (fun a b z => sp_jug z)
        have hJ'' := hJ.fr hv fj
        have e10 : h'' (v + 10) = h (v + 10) := M1.row _ (fun b => by unfold spC; simp; omega)
        obtain ⟨b, b1, b2⟩ := followsGoer_ok (s := l - 1) hv hs hJ'' (fun i f a0 a1 a2 a3 => (hA i f a0 a1 a2 a3).fr e10) j0 j1
        obtain ⟨L'', ⟨⟨v0, v1, -, -, -, -, v13, -⟩, ⟨-, -, l9, -⟩, -⟩, hc, e14, e15, hRD, e13⟩ := hJ''
        obtain ⟨m0, m1, m2⟩ := ra j j0 j1
        unfold fX1_spreadGoing_s27
        dsimp only
        rw [v1, e13, e14, if_pos j1, v13, at_in j0 (by omega), M2 j j0 j1, if_neg (Int.lt_irrefl _)]
        simp only [Option.bind_some]
        rw [w1 (by omega) (by omega), w32_id (x := l - 1) (by omega) (by omega)]
        obtain ⟨g1, g2⟩ := hGk.1 (N j) m0 m1
        have next : ∀ x : hH, Fr (spC v) h x → (∀ i, i ≠ j → x (v + 9) i = h'' (v + 9) i) → x (v + 9) j = stG S l G (N j) → ∀ i, 0 ≤ i → i < n → x (v + 9) i = if i < j + 1 then stG S l G (N i) else G (N i) := fun x _ x2 x3 i i0 i1 => by
          by_cases e : i = j
          · rw [e, if_pos (by omega)]; exact x3
          · rw [x2 i e, M2 i i0 i1]
            by_cases f : i < j
            · rw [if_pos f, if_pos (by omega)]
            · rw [if_neg f, if_neg (by omega)]
        have bits : ¬ cand S G (N j) → Bt (h'' v 10) (∃ i, 0 ≤ i ∧ i < j + 1 ∧ cand S G (N i)) := fun nc => M3.iff ⟨fun ⟨i, a, b, c⟩ => ⟨i, a, by omega, c⟩, fun ⟨i, a, b, c⟩ => ⟨i, a, by
          by_cases e : i = j
          · rw [e] at c; exact absurd c nc
          · omega, c⟩⟩
        by_cases a : G (N j) = -1
        · rw [if_pos a, b1]
          simp only [Option.bind_some]
          have hcand : cand S G (N j) ↔ ∃ f, 0 ≤ f ∧ f < S 2 ∧ S (88 + f) = 1 ∧ 0 ≤ aheadS S (N j) f ∧ h'' (v + 9) (h'' (v + 10) (6 * j + f)) = l - 1 := by
            have tr : ∀ f, 0 ≤ f → f < S 2 → 0 ≤ aheadS S (N j) f → (h'' (v + 9) (h'' (v + 10) (6 * j + f)) = l - 1 ↔ G (aheadS S (N j) f) = l - 1) := fun f f0 f1 fa => by
              rcases (hA j f j0 j1 f0 f1).fr e10 with ⟨c1, c2⟩ | ⟨c1, c2, c3⟩
              · omega
              · rw [M2 _ c1 c2, c3]
                by_cases y : h'' (v + 10) (6 * j + f) < j
                · rw [if_pos y]
                  unfold stG
                  by_cases x : 0 ≤ aheadS S (N j) f ∧ aheadS S (N j) f < 99 ∧ cand S G (aheadS S (N j) f)
                  · rw [if_pos x]
                    have := x.2.2.2.1
                    omega
                  · rw [if_neg x]
                · rw [if_neg y]
            constructor
            · rintro ⟨c1, c2, f, f0, f1, f2, f3, f4⟩
              refine ⟨f, f0, f1, f2, f3, (tr f f0 f1 f3).mpr ?_⟩
              have := hGk.2 (N j) f m0 m1 c1 c2 f0 f1 f2 f3 f4
              omega
            · rintro ⟨f, f0, f1, f2, f3, f4⟩
              have := (tr f f0 f1 f3).mp f4
              exact ⟨m2, by omega, f, f0, f1, f2, f3, by omega⟩
          rcases b2 with ⟨rfl, bc⟩ | ⟨rfl, bc⟩
          · have cd := hcand.mpr bc
            rw [if_neg (by decide), put_in j0 (by omega)]
            simp only [Option.bind_some]
            refine ⟨_, rfl, M1.tr (Fr.tr (Fr.up (by unfold spC; simp; omega)) (Fr.up (by unfold spC; simp))), next _ (M1.tr (Fr.tr (Fr.up (by unfold spC; simp; omega)) (Fr.up (by unfold spC; simp)))) (fun i hi => ?_) ?_, Or.inl ⟨hup_at, j, j0, by omega, cd⟩⟩
            · rw [hup_off (by omega), hup_ne (fun z => hi z.2)]
            · rw [hup_off (by omega), hup_at]
              unfold stG
              rw [if_pos ⟨m0, m1, cd⟩]
          · have cd : ¬ cand S G (N j) := fun z => bc (hcand.mp z)
            rw [if_pos rfl]
            refine ⟨h'', rfl, M1, next h'' M1 (fun _ _ => rfl) ?_, bits cd⟩
            rw [M2 j j0 j1, if_neg (Int.lt_irrefl _)]
            unfold stG
            rw [if_neg (fun z => cd z.2.2)]
        · rw [if_neg a]
          have cd : ¬ cand S G (N j) := fun z => by have := z.2.1; omega
          refine ⟨h'', rfl, M1, next h'' M1 (fun _ _ => rfl) ?_, bits cd⟩
          rw [M2 j j0 j1, if_neg (Int.lt_irrefl _)]
          unfold stG
          rw [if_neg (fun z => cd z.2.2)]
      · obtain ⟨M1, M2, M3⟩ := hM
        have hJ'' := hJ.fr hv (M1.mono (fun a b z => sp_jug z))
        obtain ⟨-, ⟨⟨-, v1, -⟩, -⟩, -, e14, -, -, e13⟩ := hJ''
        unfold fX1_spreadGoing_s27
        dsimp only
        rw [v1, e13, e14, if_neg (Int.lt_irrefl _), w1 (by omega) (by omega)]
        exact ⟨_, rfl, h'', rfl, M1, fun i i0 i1 => by rw [M2 i i0 i1, if_pos i1], M3⟩
    · rw [k3, if_pos rfl]
      exact Or.inr ⟨h', rfl, I1, k4⟩
  · obtain ⟨I1, I2⟩ := hI
    unfold fX1_spreadGoing_s7
    dsimp only
    rw [if_pos (by decide)]
    refine ⟨h', rfl, I1, ?_⟩
    rcases I2 with ⟨k, k1, k2, k3, k4⟩ | ⟨k3, k4⟩
    · have : k = K := by omega
      rw [← this]; exact k4
    · exact k4
/-- those who go, in order -/
def goLn (X N : Int → Int) (n : Int) : List Int := ((rng 0 n).filter (fun i => decide (0 ≤ X (N i)))).map N
def lgC (v a b : Int) : Bool := (a == v && b == 7) || ((a == v + 7 || a == v + 8) && decide (0 ≤ b))
theorem lg_jug {v a b : Int} (z : lgC v a b = true) : jugC v a b = true := by
  unfold lgC at z; unfold jugC; simp at z ⊢; omega
theorem listGoing_ok (hv : JV v) (hJ : JC v S N n h) {X : Int → Int} (hX : ∀ i, 0 ≤ i → i < n → h (v + 9) i = X (N i)) (hb : ∀ i, 0 ≤ i → i < n → X (N i) = -1 ∨ 0 ≤ X (N i)) (z7 : h v 7 = 0) :
    ∃ h', fX1_listGoing h v = some h' ∧ Fr (lgC v) h h' ∧ h' v 7 = (goLn X N n).length ∧ ∀ (k : Nat) (q : Int), (goLn X N n)[k]? = some q → h' (v + 7) k = q ∧ h' (v + 8) k = X q := by
  have n0 := hJ.2.2.2.2.2.1.2.1
  have n40 := hJ.2.2.2.2.2.1.2.2.1
  have len : ∀ l, 0 ≤ l → ((goLn X N l).length : Int) ≤ l := fun l l0 => by
    have : ((rng 0 l).filter (fun i => decide (0 ≤ X (N i)))).length ≤ (rng 0 l).length := List.length_filter_le _ _
    rw [rng_len] at this
    unfold goLn
    rw [List.length_map]
    omega
  have snoc : ∀ l, 0 ≤ l → goLn X N (l + 1) = goLn X N l ++ (if 0 ≤ X (N l) then [N l] else []) := fun l l0 => by
    unfold goLn
    rw [rng_snoc l0, List.filter_append, List.map_append]
    by_cases z : 0 ≤ X (N l)
    · rw [if_pos z, List.filter_cons_of_pos (by simpa using z)]
      rfl
    · rw [if_neg z, List.filter_cons_of_neg (by simpa using z)]
      rfl
  unfold fX1_listGoing
  refine lpO_inv (f := fX1_listGoing_s2 h v) (h := h) n (fun l h' => Fr (lgC v) h h' ∧ h' v 7 = (goLn X N l).length ∧ ∀ (k : Nat) (q : Int), (goLn X N l)[k]? = some q → h' (v + 7) k = q ∧ h' (v + 8) k = X q) _ (fun l h' l0 l1 hI => ?_) (fun h' hI => ?_) (Int.le_refl _) n0 ⟨Fr.rf, by rw [z7]; rfl, fun k q hq => by
    have : goLn X N 0 = [] := rfl
    rw [this] at hq
    simp at hq⟩
  · obtain ⟨I1, I2, I3⟩ := hI
    have hJ' := hJ.fr hv (I1.mono (fun a b z => lg_jug z))
    have e9 : h' (v + 9) = h (v + 9) := I1.row _ (fun b => by unfold lgC; simp; omega)
    have ll := len l l0
    have sn := snoc l l0
    obtain ⟨L', ⟨⟨v0, v1, -, -, v11, v12, v13, -⟩, ⟨l7, l8, l9, -⟩, -⟩, hc, e14, e15, hRD, e13⟩ := hJ'
    unfold fX1_listGoing_s2
    dsimp only
    rw [v1, e13, e14, if_pos l1, v13, at_in l0 (by omega), e9, hX l l0 l1]
    simp only [Option.bind_some]
    rw [w1 (by omega) (by omega)]
    by_cases a : X (N l) = -1
    · rw [if_pos a]
      rw [if_neg (by omega), List.append_nil] at sn
      rw [sn]
      exact ⟨h', rfl, I1, I2, I3⟩
    · rw [if_neg a, hRD.2.2.2.2.1 l l0 l1]
      have a2 : 0 ≤ X (N l) := (hb l l0 l1).resolve_left a
      rw [if_pos a2] at sn
      simp only [Option.bind_some]
      rw [I2, v11, put_in (by omega) (by omega)]
      simp only [Option.bind_some]
      generalize hg : hup h' (v + 7) ((goLn X N l).length : Int) (N l) = g
      have ga : ∀ a, a ≠ v + 7 → g a = h' a := fun a ha => by rw [← hg, hup_off ha]
      rw [ga v (by omega), v13, at_in l0 (by rw [ga _ (by omega)]; omega), ga (v + 9) (by omega), e9, hX l l0 l1]
      simp only [Option.bind_some]
      rw [v12, I2, put_in (by omega) (by rw [ga _ (by omega)]; omega)]
      simp only [Option.bind_some, pput]
      rw [hup_off (a := v) (by omega), ga v (by omega), I2, w32_id (by omega) (by omega)]
      refine ⟨_, rfl, I1.tr (Fr.tr (by rw [← hg]; exact Fr.up (by unfold lgC; simp)) (Fr.tr (Fr.up (by unfold lgC; simp)) (Fr.up (by unfold lgC; simp)))), ?_, fun k q hq => ?_⟩
      · rw [hup_at, sn, List.length_append]
        rfl
      · rw [hup_off (a := v + 7) (by omega), hup_off (a := v + 7) (by omega), hup_off (a := v + 8) (by omega)]
        rw [sn] at hq
        by_cases hk : k < (goLn X N l).length
        · rw [List.getElem?_append_left hk] at hq
          obtain ⟨b1, b2⟩ := I3 k q hq
          rw [hup_ne (by omega), ga (v + 8) (by omega), ← hg, hup_ne (by omega)]
          exact ⟨b1, b2⟩
        · rw [List.getElem?_append_right (by omega)] at hq
          have hz := (List.getElem?_eq_some_iff.mp hq).1
          simp at hz
          have hk2 : k = (goLn X N l).length := by omega
          subst hk2
          simp at hq
          rw [hup_at, ← hg, hup_at, hq]
          exact ⟨rfl, rfl⟩
  · obtain ⟨I1, I2, I3⟩ := hI
    have hJ' := hJ.fr hv (I1.mono (fun a b z => lg_jug z))
    obtain ⟨-, ⟨⟨-, v1, -⟩, -⟩, -, e14, -, -, e13⟩ := hJ'
    unfold fX1_listGoing_s2
    dsimp only
    rw [v1, e13, e14, if_neg (Int.lt_irrefl _)]
    exact ⟨h', rfl, I1, I2, I3⟩
end JUDGE
