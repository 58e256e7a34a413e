/-! JUDGING, the class's: what is to be -/
theorem rng_app {j n : Int} (h0 : 0 ≤ j) (h1 : j ≤ n) : rng 0 n = rng 0 j ++ rng j n := by
  have key : ∀ (d : Nat) (j : Int), (n - j).toNat = d → 0 ≤ j → j ≤ n → rng 0 n = rng 0 j ++ rng j n := by
    intro d
    induction d with
    | zero =>
      intro j hd j0 j1
      have : j = n := by omega
      subst this
      rw [rng_nil (Int.le_refl j), List.append_nil]
    | succ d ih =>
      intro j hd j0 j1
      have := ih (j + 1) (by omega) (by omega) (by omega)
      rw [this, rng_snoc j0, rng_cons (show j < n by omega), List.append_assoc]
      rfl
  exact key _ j rfl h0 h1
theorem wantS_cl {st : WS} {q c x : Int} (h : st.2.2 = 1) : (wantS st q c x).2.2 = 1 := by
  unfold wantS
  by_cases a : c < 0
  · rw [if_pos a]; exact h
  · rw [if_neg a]
    by_cases b : st.1 (4 * q + c) = -9
    · rw [if_pos b]; exact h
    · rw [if_neg b]
      dsimp only
      rw [if_neg (by omega)]
theorem wantS_keep {st : WS} {q c x j : Int} (h : st.1 j ≠ -9) : (wantS st q c x).1 j = st.1 j := by
  unfold wantS
  by_cases a : c < 0
  · rw [if_pos a]
  · rw [if_neg a]
    by_cases b : st.1 (4 * q + c) = -9
    · rw [if_pos b]
      dsimp only [upW]
      rw [if_neg (fun e => h (by rw [e]; exact b))]
    · rw [if_neg b]
def EncS (v n : Int) (N : Int → Int) (h : hH) (st : WS) : Prop := (∀ i c, 0 ≤ i → i < n → 0 ≤ c → c < 4 → encA (st.1 (4 * N i + c)) (h (v + 11) (4 * i + c)) (h (v + 12) (4 * i + c))) ∧ h v 10 = st.2.1
def wC (v a b : Int) : Bool := (a == v && b == 10) || ((a == v + 11 || a == v + 12) && decide (0 ≤ b))
theorem w_jug {v a b : Int} (z : wC v a b = true) : jugC v a b = true := by
  unfold wC at z; unfold jugC; simp at z ⊢; omega
def RW (v n : Int) (N : Int → Int) (h h' : hH) (b : Int) (st : WS) : Prop := Fr (wC v) h h' ∧ ((b = 1 ∧ st.2.2 = 0 ∧ EncS v n N h' st) ∨ (b = 0 ∧ st.2.2 = 1))
section JUDGE
variable {v n : Int} {S N G : Int → Int} {h : hH}
theorem N_inj {r : Int} (hD : RD h r S n N) {i j : Int} (i0 : 0 ≤ i) (i1 : i < n) (j0 : 0 ≤ j) (j1 : j < n) (e : N i = N j) : i = j := by
  have inc := hD.2.2.2.2.2.2.2.1
  rcases Int.lt_trichotomy i j with z | z | z
  · have := inc i j i0 z j1; omega
  · exact z
  · have := inc j i j0 z i1; omega
theorem wish_ok (hv : JV v) (hJ : JC v S N n h) {st : WS} (hE : EncS v n N h st) (hc0 : st.2.2 = 0) {i c x : Int} (i0 : 0 ≤ i) (i1 : i < n) (hc : c = -1 ∨ (0 ≤ c ∧ c < 4)) (hx : x ≠ -9) : ∃ b h', fX1_wish h v i c x = some (b, h') ∧ RW v n N h h' b (wantS st (N i) c x) := by
  have hD := hJ.2.2.2.2.2.1
  have n40 := hD.2.2.1
  unfold wantS
  rcases hc with rfl | ⟨c0, c1⟩
  · rw [if_pos (by decide)]
    refine ⟨1, h, ?_, Fr.rf, Or.inl ⟨rfl, hc0, hE⟩⟩
    unfold fX1_wish
    rw [if_pos rfl]
  · rw [if_neg (by omega), wish_raw hJ.1 hv i0 (by omega) c0 c1]
    have he := hE.1 i c i0 i1 c0 c1
    rcases he with ⟨a, b⟩ | ⟨a, b, d⟩
    · rw [if_pos a, b, if_neg (by decide)]
      refine ⟨1, _, rfl, Fr.tr (Fr.tr (Fr.up (by unfold wC; simp; omega)) (Fr.up (by unfold wC; simp; omega))) (Fr.up (by unfold wC; simp)), Or.inl ⟨rfl, hc0, fun j d j0 j1 d0 d1 => ?_, hup_at⟩⟩
      have := hE.1 j d j0 j1 d0 d1
      dsimp only [upW]
      rw [hup_off (a := v + 11) (by omega), hup_off (a := v + 11) (by omega), hup_off (a := v + 12) (by omega)]
      by_cases e : 4 * j + d = 4 * i + c
      · have e1 : j = i := by omega
        have e2 : d = c := by omega
        rw [e1, e2, if_pos rfl, hup_at, hup_at]
        exact Or.inr ⟨hx, rfl, rfl⟩
      · have ne : ¬ (4 * N j + d = 4 * N i + c) := fun z => by
          have z1 : N j = N i := by omega
          have := N_inj hD j0 j1 i0 i1 z1
          omega
        rw [if_neg ne, hup_ne (fun z => e z.2), hup_ne (fun z => e z.2), hup_off (by omega)]
        exact this
    · rw [if_neg a, if_pos b, d]
      by_cases e : st.1 (4 * N i + c) = x
      · rw [if_pos e]
        refine ⟨1, h, rfl, Fr.rf, Or.inl ⟨rfl, ?_, hE⟩⟩
        dsimp only
        rw [if_pos ⟨hc0, e⟩]
      · rw [if_neg e]
        refine ⟨0, h, rfl, Fr.rf, Or.inr ⟨rfl, ?_⟩⟩
        dsimp only
        rw [if_neg (fun z => e z.2)]
theorem wantedOf_ok (hv : JV v) (hJ : JC v S N n h) {i c : Int} (i0 : 0 ≤ i) (i1 : i < n) (c0 : 0 ≤ c) (c1 : c < 4) : fX1_wantedOf h v i c = some (h (v + 12) (4 * i + c)) := by
  obtain ⟨hL, ⟨⟨-, -, -, -, -, -, -, -, -, v16⟩, ⟨-, -, -, -, -, l12⟩, -, -⟩, -, -, -, hRD, -⟩ := hJ
  have n40 := hRD.2.2.1
  unfold fX1_wantedOf
  rw [show w32 (w32 (i * 4) + c) = 4 * i + c by rw [w32_id (x := i * 4) (by omega) (by omega), w32_id (by omega) (by omega)]; omega, v16, at_in (by omega) (by omega)]
  rfl
theorem becomesAnother_ok (hv : JV v) (hJ : JC v S N n h) {W : Int → Int} (hE : ∀ i c, 0 ≤ i → i < n → 0 ≤ c → c < 4 → encA (W (4 * N i + c)) (h (v + 11) (4 * i + c)) (h (v + 12) (4 * i + c))) {i c : Int} (i0 : 0 ≤ i) (i1 : i < n) (hc : c = -1 ∨ (0 ≤ c ∧ c < 4)) : ∃ b, fX1_becomesAnother h v i c = some b ∧ Bt b (0 ≤ c ∧ othS S W (N i) c) := by
  unfold fX1_becomesAnother
  rcases hc with rfl | ⟨c0, c1⟩
  · rw [if_pos rfl]
    exact ⟨0, rfl, Or.inr ⟨rfl, fun z => absurd z.1 (by decide)⟩⟩
  · have hw := wantedOf_ok hv hJ i0 i1 c0 c1
    obtain ⟨hL, ⟨⟨-, v1, -, -, -, -, -, -, v15, -⟩, ⟨-, -, -, -, l11, -⟩, -, -⟩, -, -, -, hRD, e13⟩ := hJ
    have n40 := hRD.2.2.1
    rw [if_neg (by omega), show w32 (w32 (i * 4) + c) = 4 * i + c by rw [w32_id (x := i * 4) (by omega) (by omega), w32_id (by omega) (by omega)]; omega, v15, at_in (by omega) (by omega)]
    simp only [Option.bind_some]
    rw [hw, v1, e13, hRD.2.2.2.2.2.1 i c i0 i1 c0 c1]
    simp only [Option.bind_some]
    unfold othS
    rcases hE i c i0 i1 c0 c1 with ⟨a, b⟩ | ⟨a, b, d⟩
    · rw [b, if_neg (by decide)]
      exact ⟨0, rfl, Or.inr ⟨rfl, fun z => z.2.1 a⟩⟩
    · rw [b, if_pos rfl, d]
      by_cases e : W (4 * N i + c) = S (348 + (4 * N i + c))
      · rw [if_pos e]
        exact ⟨0, rfl, Or.inr ⟨rfl, fun z => z.2.2 e⟩⟩
      · rw [if_neg e]
        exact ⟨1, rfl, Or.inl ⟨rfl, c0, a, e⟩⟩
theorem defaultOf_ok {p : Int} (hA : SchemaAt h p) (hR : SchR h p S) (hs : SOk S) {t c : Int} (ht : 0 ≤ t ∧ t < S 0) (hc : c < S (4 + t)) (hc1 : -1 ≤ c) : fX4_defaultOf h p t c = some (if c < 0 then -1 else S (8 + (4 * t + c))) := by
  have h0 := hs.1
  have hw := hs.2.2.2.2.1 t ht.1 ht.2
  have a7 := hA.2.2.2.1
  have l4 := hA.2.2.2.2.2.2.2.2.2.2.2.1
  unfold fX4_defaultOf
  rw [has_ok hA hR hs]
  simp only [Option.bind_some]
  by_cases z : c < 0
  · rw [if_pos z, show (if (0 ≤ t ∧ t < S 0) ∧ 0 ≤ c ∧ c < S (4 + t) then (1 : Int) else 0) = 0 from if_neg (by omega), if_pos rfl]
  · rw [if_neg z, show (if (0 ≤ t ∧ t < S 0) ∧ 0 ≤ c ∧ c < S (4 + t) then (1 : Int) else 0) = 1 from if_pos ⟨ht, by omega, hc⟩, if_neg (by decide), a7, show w32 (w32 (t * 4) + c) = 4 * t + c by rw [w32_id (x := t * 4) (by omega) (by omega), w32_id (by omega) (by omega)]; omega, at_in (by omega) (by omega), hR.2.2.1 _ (by omega) (by omega)]
    rfl
theorem RW.fr {h' : hH} {b : Int} {st : WS} (hR : RW v n N h h' b st) : Fr (wC v) h h' := hR.1
/-- two wishes, one behind the other -/
theorem wish2_ok (hv : JV v) (hJ : JC v S N n h) {st : WS} (hE : EncS v n N h st) (hc0 : st.2.2 = 0) {i c d x y : Int} (i0 : 0 ≤ i) (i1 : i < n) (hc : c = -1 ∨ (0 ≤ c ∧ c < 4)) (hx : x ≠ -9) (hd : d = -1 ∨ (0 ≤ d ∧ d < 4)) (hy : y ≠ -9) : ∃ b h', RW v n N h h' b (wantS (wantS st (N i) c x) (N i) d y) ∧ ∀ {K : Int × hH → Option (Int × hH)}, (∀ q, K q = if q.1 = 0 then some (0, q.2) else (fX1_wish q.2 v i d y).bind fun r => if r.1 = 0 then some (0, r.2) else some (1, r.2)) → (fX1_wish h v i c x).bind K = some (b, h') := by
  obtain ⟨b1, k, k1, k2⟩ := wish_ok hv hJ hE hc0 i0 i1 hc hx
  obtain ⟨kf, hk⟩ := k2
  rcases hk with ⟨rfl, kc, kE⟩ | ⟨rfl, kc⟩
  · have hJk := hJ.fr hv (kf.mono (fun a b z => w_jug z))
    obtain ⟨b2, m, m1, m2⟩ := wish_ok hv hJk kE kc i0 i1 hd hy
    obtain ⟨mf, hm⟩ := m2
    refine ⟨b2, m, ⟨kf.tr mf, hm⟩, fun hK => ?_⟩
    rw [k1]
    simp only [Option.bind_some]
    rw [hK]
    dsimp only
    rw [if_neg (by decide), m1]
    simp only [Option.bind_some]
    rcases hm with ⟨rfl, -⟩ | ⟨rfl, -⟩
    · rw [if_neg (by decide)]
    · rw [if_pos rfl]
  · refine ⟨0, k, ⟨kf, Or.inr ⟨rfl, wantS_cl kc⟩⟩, fun hK => ?_⟩
    rw [k1]
    simp only [Option.bind_some]
    rw [hK, if_pos rfl]
theorem all_ok (hv : JV v) (hs : SOk S) (hJ : JC v S N n h) {st : WS} (hE : EncS v n N h st) (hc0 : st.2.2 = 0) {i f on : Int} (i0 : 0 ≤ i) (i1 : i < n) (f0 : 0 ≤ f) (f1 : f < S 2) : ∃ b h', fX1_adapt_b200 h v i f (S (64 + f)) (S (70 + f)) on = some (b, h') ∧ RW v n N h h' b (allS S st (N i) f on) := by
  have hF := hs.2.2.2.2.2.2.2.2.1 f f0 f1
  have hw := hs.2.2.2.2.1 _ hF.1.1 hF.1.2
  have hd := hs.2.2.2.2.2.1
  have h4 := hs.1
  have c1 : S (64 + f) = -1 ∨ (0 ≤ S (64 + f) ∧ S (64 + f) < 4) := by omega
  have c2 : S (70 + f) = -1 ∨ (0 ≤ S (70 + f) ∧ S (70 + f) < 4) := by omega
  have hc := hJ.2.2.1
  have v0 := hJ.2.1.1.1
  unfold fX1_adapt_b200 allS fX1_adapt_b293
  by_cases a : on = 2
  · rw [if_pos a, if_pos a]
    obtain ⟨b, h', k1, k2⟩ := wish2_ok (x := -1) (y := -1) hv hJ hE hc0 i0 i1 c1 (by decide) c2 (by decide)
    exact ⟨b, h', k2 (fun q => rfl), k1⟩
  · rw [if_neg a, if_neg a, v0, (refPart_ok hc.2.2.1 hc.2.2.2 hs f0 f1).1]
    simp only [Option.bind_some]
    by_cases b : on = 3
    · rw [if_pos b, if_pos b, defaultOf_ok hc.2.2.1 hc.2.2.2 hs hF.1 (by omega) (by omega), if_neg (show ¬ S (64 + f) < 0 by omega)]
      simp only [Option.bind_some]
      have d1 := hd (4 * S (58 + f) + S (64 + f)) (by omega) (by omega)
      obtain ⟨b1, k, k1, k2⟩ := wish_ok (x := S (8 + (4 * S (58 + f) + S (64 + f)))) hv hJ hE hc0 i0 i1 c1 (by omega)
      obtain ⟨kf, hk⟩ := k2
      rw [k1]
      simp only [Option.bind_some]
      rcases hk with ⟨rfl, kc, kE⟩ | ⟨rfl, kc⟩
      · have hJk := hJ.fr hv (kf.mono (fun a b z => w_jug z))
        have hck := hJk.2.2.1
        rw [if_neg (by decide), hJk.2.1.1.1, defaultOf_ok hck.2.2.1 hck.2.2.2 hs hF.1 (by omega) (by omega)]
        simp only [Option.bind_some]
        have hy : (if S (70 + f) < 0 then (-1 : Int) else S (8 + (4 * S (58 + f) + S (70 + f)))) ≠ -9 := by
          by_cases z : S (70 + f) < 0
          · rw [if_pos z]; decide
          · rw [if_neg z]
            have := hd (4 * S (58 + f) + S (70 + f)) (by omega) (by omega)
            omega
        obtain ⟨b2, m, m1, m2⟩ := wish_ok hv hJk kE kc i0 i1 c2 hy
        obtain ⟨mf, hm⟩ := m2
        rw [m1]
        simp only [Option.bind_some]
        have es : wantS (wantS st (N i) (S (64 + f)) (S (8 + (4 * S (58 + f) + S (64 + f))))) (N i) (S (70 + f)) (if S (70 + f) < 0 then (-1 : Int) else S (8 + (4 * S (58 + f) + S (70 + f)))) = wantS (wantS st (N i) (S (64 + f)) (S (8 + (4 * S (58 + f) + S (64 + f))))) (N i) (S (70 + f)) (S (8 + (4 * S (58 + f) + S (70 + f)))) := by
          by_cases z : S (70 + f) < 0
          · unfold wantS; rw [if_pos z, if_pos z]
          · rw [if_neg z]
        rw [es] at hm
        refine ⟨b2, m, ?_, kf.tr mf, hm⟩
        rcases hm with ⟨rfl, -⟩ | ⟨rfl, -⟩
        · rw [if_neg (by decide)]
        · rw [if_pos rfl]
      · rw [if_pos rfl]
        exact ⟨0, k, rfl, kf, Or.inr ⟨rfl, wantS_cl kc⟩⟩
    · rw [if_neg b, if_neg b]
      exact ⟨1, h, rfl, Fr.rf, Or.inl ⟨rfl, hc0, hE⟩⟩
theorem adapt_ok (hv : JV v) (hs : SOk S) (hJ : JC v S N n h) (hA : ∀ i f, 0 ≤ i → i < n → 0 ≤ f → f < S 2 → AimE v S N n h i f) (hG : ∀ i, 0 ≤ i → i < n → h (v + 9) i = G (N i) ∧ (G (N i) = -1 ∨ 0 ≤ G (N i))) {st : WS} (hW : WFl S st) (hE : EncS v n N h st) (hc0 : st.2.2 = 0) {i f : Int} (i0 : 0 ≤ i) (i1 : i < n) (f0 : 0 ≤ f) (f1 : f < S 2) : ∃ b h', fX1_adapt h v i f = some (b, h') ∧ RW v n N h h' b (adS S G st (N i) f) := by
  have hF := hs.2.2.2.2.2.2.2.2.1 f f0 f1
  have hw := hs.2.2.2.2.1 _ hF.1.1 hF.1.2
  have hk := hs.2.2.2.2.2.2.2.1 _ hF.2.2.2.2.1.1 hF.2.2.2.2.1.2
  have hw2 := hs.2.2.2.2.1 _ hk.1.1 hk.1.2
  have h2 := hs.2.2.1
  have c1 : S (64 + f) = -1 ∨ (0 ≤ S (64 + f) ∧ S (64 + f) < 4) := by omega
  have c2 : S (70 + f) = -1 ∨ (0 ≤ S (70 + f) ∧ S (70 + f) < 4) := by omega
  have hc := hJ.2.2.1
  have hD := hJ.2.2.2.2.2.1
  have n40 := hD.2.2.1
  obtain ⟨⟨v0, v1, -, -, -, -, v13, v14, -⟩, ⟨-, -, l9, l10, -⟩, -⟩ := hJ.2.1
  obtain ⟨p0, p1, p2, p3, p4, -, -, p7, p8⟩ := refPart_ok hc.2.2.1 hc.2.2.2 hs f0 f1
  obtain ⟨-, k1, k2⟩ := keyPart_ok hc.2.2.1 hc.2.2.2 hs hF.2.2.2.2.1.1 hF.2.2.2.2.1.2
  have aE := hA i f i0 i1 f0 f1
  unfold fX1_adapt
  rw [v14, show w32 (w32 (i * 6) + f) = 6 * i + f by rw [w32_id (x := i * 6) (by omega) (by omega), w32_id (by omega) (by omega)]; omega, at_in (by omega) (by omega)]
  simp only [Option.bind_some]
  unfold adS
  rcases aE with ⟨a1, a2⟩ | ⟨a1, a2, a3⟩
  · rw [if_pos a2, if_pos (by omega)]
    exact ⟨1, h, rfl, Fr.rf, Or.inl ⟨rfl, hc0, hE⟩⟩
  · generalize h (v + 10) (6 * i + f) = j at *
    obtain ⟨m0, m1, m2⟩ := hD.2.2.2.2.2.2.1 j a1 a2
    rw [if_neg (by omega), v0, p7, p8, p2]
    simp only [Option.bind_some]
    rw [k1, k2, p3]
    simp only [Option.bind_some]
    obtain ⟨g1, g2⟩ := hG j a1 a2
    rw [v13, at_in a1 (by omega), g1]
    simp only [Option.bind_some]
    rw [← a3, if_neg (show ¬ N j < 0 by omega)]
    by_cases b : G (N j) = -1
    · rw [if_pos b, if_pos (show G (N j) < 0 by omega)]
      obtain ⟨x, x1, x2⟩ := becomesAnother_ok (c := S (46 + S (82 + f))) hv hJ hE.1 a1 a2 (by omega)
      obtain ⟨y, y1, y2⟩ := becomesAnother_ok (c := S (52 + S (82 + f))) hv hJ hE.1 a1 a2 (by omega)
      rw [x1, y1]
      simp only [Option.bind_some]
      have x3 : Bt x (oneS S st.1 f (N j)) := x2.iff ⟨fun z => z.2, fun z => ⟨by omega, z⟩⟩
      have y3 : Bt y (twoS S st.1 f (N j)) := y2
      have go : (oneS S st.1 f (N j) ∨ twoS S st.1 f (N j)) → ∃ b h', fX1_adapt_b133 h v i f j (S (64 + f)) (S (70 + f)) (S (46 + S (82 + f))) (S (52 + S (82 + f))) x y = some (b, h') ∧ RW v n N h h' b (if S (94 + f) = 1 then folS S st (N i) f (N j) else allS S st (N i) f (S (94 + f))) := by
        intro _
        unfold fX1_adapt_b133
        rw [v0, p4]
        simp only [Option.bind_some]
        by_cases d : S (94 + f) = 1
        · rw [if_pos d, if_pos d]
          have second : ∀ (k : hH) (st1 : WS), Fr (wC v) h k → EncS v n N k st1 → st1.2.2 = 0 → (∀ j, st.1 j ≠ -9 → st1.1 j = st.1 j) → ∃ b h', fX1_adapt_b172 k v i j (S (70 + f)) (S (52 + S (82 + f))) y = some (b, h') ∧ RW v n N h h' b (@ite WS (twoS S st.1 f (N j)) (Classical.propDecidable _) (wantS st1 (N i) (S (70 + f)) (st1.1 (4 * N j + S (52 + S (82 + f))))) st1) := by
            intro k st1 fk kE kc kk
            unfold fX1_adapt_b172 fX1_adapt_b194
            have hJk := hJ.fr hv (fk.mono (fun a b z => w_jug z))
            rcases y3 with ⟨rfl, z⟩ | ⟨rfl, z⟩
            · rw [if_neg (by decide), if_pos z, wantedOf_ok hv hJk a1 a2 z.1 (by omega)]
              simp only [Option.bind_some]
              have e1 := kk _ z.2.1
              have e2 : k (v + 12) (4 * j + S (52 + S (82 + f))) = st1.1 (4 * N j + S (52 + S (82 + f))) := by
                rcases kE.1 j (S (52 + S (82 + f))) a1 a2 z.1 (by omega) with ⟨u, _⟩ | ⟨_, _, u⟩
                · exact absurd (e1.symm.trans u) z.2.1
                · exact u
              rw [e2]
              obtain ⟨b2, m, m1, mf, hm⟩ := wish_ok (x := st1.1 (4 * N j + S (52 + S (82 + f)))) hv hJk kE kc i0 i1 c2 (by rw [e1]; exact z.2.1)
              rw [m1]
              simp only [Option.bind_some]
              refine ⟨b2, m, ?_, fk.tr mf, hm⟩
              rcases hm with ⟨rfl, -⟩ | ⟨rfl, -⟩
              · rw [if_neg (by decide)]
              · rw [if_pos rfl]
            · rw [if_pos rfl, if_neg z]
              exact ⟨1, k, rfl, fk, Or.inl ⟨rfl, kc, kE⟩⟩
          unfold folS
          rcases x3 with ⟨rfl, z⟩ | ⟨rfl, z⟩
          · have eA : folA S st (N i) f (N j) = wantS st (N i) (S (64 + f)) (st.1 (4 * N j + S (46 + S (82 + f)))) := by unfold folA; rw [if_pos z]
            rw [eA, if_neg (by decide), wantedOf_ok hv hJ a1 a2 hk.2.1.1 (by omega)]
            simp only [Option.bind_some]
            have e2 : h (v + 12) (4 * j + S (46 + S (82 + f))) = st.1 (4 * N j + S (46 + S (82 + f))) := by
              rcases hE.1 j (S (46 + S (82 + f))) a1 a2 hk.2.1.1 (by omega) with ⟨u, _⟩ | ⟨_, _, u⟩
              · exact absurd u z.1
              · exact u
            rw [e2]
            obtain ⟨b2, m, m1, mf, hm⟩ := wish_ok (x := st.1 (4 * N j + S (46 + S (82 + f)))) hv hJ hE hc0 i0 i1 c1 z.1
            rw [m1]
            simp only [Option.bind_some]
            rcases hm with ⟨rfl, mc, mE⟩ | ⟨rfl, mc⟩
            · rw [if_neg (by decide)]
              exact second m _ mf mE mc (fun j hj => wantS_keep hj)
            · rw [if_pos rfl]
              refine ⟨0, m, rfl, mf, Or.inr ⟨rfl, ?_⟩⟩
              split
              · exact wantS_cl mc
              · exact mc
          · have eA : folA S st (N i) f (N j) = st := by unfold folA; rw [if_neg z]
            rw [eA, if_pos rfl]
            exact second h st Fr.rf hE hc0 (fun _ _ => rfl)
        · rw [if_neg d, if_neg d]
          exact all_ok hv hs hJ hE hc0 i0 i1 f0 f1
      by_cases e : oneS S st.1 f (N j) ∨ twoS S st.1 f (N j)
      · rw [if_pos e]
        obtain ⟨b, h', r1, r2⟩ := go e
        refine ⟨b, h', ?_, r2⟩
        rcases x3 with ⟨rfl, z⟩ | ⟨rfl, z⟩
        · rw [if_neg (by decide)]; exact r1
        · rcases y3 with ⟨rfl, w⟩ | ⟨rfl, w⟩
          · rw [if_pos rfl, if_neg (by decide)]; exact r1
          · exact absurd e (fun u => u.elim z w)
      · rw [if_neg e]
        rcases x3 with ⟨rfl, z⟩ | ⟨rfl, z⟩
        · exact absurd (Or.inl z) e
        · rcases y3 with ⟨rfl, w⟩ | ⟨rfl, w⟩
          · exact absurd (Or.inr w) e
          · rw [if_pos rfl, if_pos rfl]
            exact ⟨1, h, rfl, Fr.rf, Or.inl ⟨rfl, hc0, hE⟩⟩
    · rw [if_neg b, if_neg (show ¬ G (N j) < 0 by omega)]
      exact all_ok hv hs hJ hE hc0 i0 i1 f0 f1
end JUDGE
