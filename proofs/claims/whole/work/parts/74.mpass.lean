/-! JUDGING, the model's: over and over; what is found; who goes -/
def AhM (S : Int → Int) (h : hH) : Prop := ∀ q f, 0 ≤ q → q < 99 → 0 ≤ f → f < S 2 → h 204 (6 * q + f) = if S (150 + q) = 1 then aheadS S q f else -1
def GoM (G : Int → Int) (h : hH) : Prop := ∀ q, 0 ≤ q → q < 99 → h 205 q = G q
section MJ
variable {S T G : Int → Int} {to : Int} {h : hH}
theorem follows_ok (hs : SOk S) (hM : MC S T to h) (hA : AhM S h) (hG : GoM G h) {st : WS} (hE : EncM h st) {q : Int} (q0 : 0 ≤ q) (q1 : q < 99) (ha : S (150 + q) = 1) : ∃ h', fX12_follows h 192 q = some h' ∧ Fr wtC h h' ∧ EncM h' ((rng 0 (S 2)).foldl (fun st f => adS S G st q f) st) := by
  have h2 := hs.2.2.1
  unfold fX12_follows
  refine lpO_inv (f := fX12_follows_s2 h 192 q) (h := h) (S 2) (fun f k => Fr wtC h k ∧ EncM k ((rng 0 f).foldl (fun st f => adS S G st q f) st)) (fun k => Fr wtC h k ∧ EncM k ((rng 0 (S 2)).foldl (fun st f => adS S G st q f) st)) (fun f k f0 f1 hI => ?_) (fun k hI => ?_) (Int.le_refl _) h2.1 ⟨Fr.rf, by rw [rng_nil (Int.le_refl _)]; exact hE⟩
  · obtain ⟨I1, I2⟩ := hI
    have hMk := hM.fr (I1.mono (fun a b z => wt_jm z))
    have Lk := hMk.1
    have e4 : k 204 = h 204 := I1.row _ (fun b => by unfold wtC; simp)
    have e5 : k 205 = h 205 := I1.row _ (fun b => by unfold wtC; simp)
    have hF := hs.2.2.2.2.2.2.2.2.1 f f0 f1
    have eS : (rng 0 (f + 1)).foldl (fun st f => adS S G st q f) st = adS S G ((rng 0 f).foldl (fun st f => adS S G st q f) st) q f := by
      rw [rng_snoc f0, List.foldl_append]
      rfl
    rw [eS]
    generalize (rng 0 f).foldl (fun st f => adS S G st q f) st = st at *
    have s88 : aget k (k 192 6) (w32 (88 + f)) = some (S (88 + f)) := by rw [w32_id (by omega) (by omega), hMk.s (by omega) (by omega)]
    have main : ∀ a, a = aheadS S q f → ∃ h', fX12_follows_b49 k 192 q f a = some (.inl (h', f + 1)) ∧ Fr wtC h h' ∧ EncM h' (adS S G st q f) := by
      intro a ea
      unfold fX12_follows_b49 fX12_follows_b110 adS
      rw [← ea, w1 (by omega) (by omega)]
      by_cases a0 : a < 0
      · rw [if_pos a0, if_pos a0]
        exact ⟨k, rfl, I1, I2⟩
      · have a1 : a < 99 := by rcases aheadS_or (S := S) (q := q) (f := f) with z | z <;> omega
        rw [if_neg a0, if_neg a0, ly_192_29 Lk, aget_in (by omega) (by rw [ll_205 Lk]; exact a1), e5, hG a (by omega) a1]
        simp only [Option.bind_some]
        by_cases g0 : G a < 0
        · rw [if_pos g0, if_pos g0]
          obtain ⟨x, x1, x2, x3⟩ := followsKey_ok (st := st) hs hMk I2 q0 q1 f0 f1 (show 0 ≤ a by omega) a1
          rw [x1]
          exact ⟨x, rfl, I1.tr x2, x3⟩
        · rw [if_neg g0, if_neg g0, s88]
          simp only [Option.bind_some]
          have all : ∀ re, (re = 0 ∨ re = 1) → S (88 + f) = 2 + re → ∃ h', ((fX12_wantsAll k 192 q f re).bind fun h110 => some (Sum.inl (β := hH) (h110, f + 1))) = some (.inl (h', f + 1)) ∧ Fr wtC h h' ∧ EncM h' (allS S st q f (S (88 + f))) := fun re hre e => by
            obtain ⟨x, x1, x2, x3⟩ := wantsAll_ok (st := st) hs hMk I2 q0 q1 f0 f1 hre
            rw [x1, e]
            exact ⟨x, rfl, I1.tr x2, x3⟩
          by_cases o1 : 1 < S (88 + f)
          · rw [if_pos o1]
            by_cases o3 : S (88 + f) = 3
            · rw [if_pos o3]
              exact all 1 (Or.inr rfl) (by omega)
            · rw [if_neg o3]
              exact all 0 (Or.inl rfl) (by omega)
          · rw [if_neg o1]
            refine ⟨k, rfl, I1, ?_⟩
            unfold allS
            rw [if_neg (by omega), if_neg (by omega)]
            exact I2
    unfold fX12_follows_s2
    dsimp only
    rw [hMk.s (by decide) (by decide)]
    simp only [Option.bind_some]
    rw [if_pos f1, w32_id (x := 58 + f) (by omega) (by omega), hMk.s (by omega) (by omega), w32_id (x := 249 + q) (by omega) (by omega), hMk.s (by omega) (by omega)]
    simp only [Option.bind_some]
    by_cases b : S (58 + f) = S (249 + q)
    · rw [if_pos b, w32_id (x := 6 * q) (by omega) (by omega), w32_id (by omega) (by omega), ly_192_28 Lk, aget_in (by omega) (by rw [ll_204 Lk]; omega), e4, hA q f q0 q1 f0 f1, if_pos ha]
      exact main _ rfl
    · rw [if_neg b]
      refine main (-1) ?_
      unfold aheadS
      rw [if_neg (fun z => b z.symm)]
  · obtain ⟨I1, I2⟩ := hI
    have hMk := hM.fr (I1.mono (fun a b z => wt_jm z))
    unfold fX12_follows_s2
    dsimp only
    rw [hMk.s (by decide) (by decide)]
    simp only [Option.bind_some]
    rw [if_neg (Int.lt_irrefl _)]
    exact ⟨k, rfl, I1, I2⟩
theorem pass_alt {st : WS} : passS S G st = (rng 0 99).foldl (fun st q => if S (150 + q) = 1 then rowW S G st q else st) st := by
  unfold passS liv alv
  rw [List.foldl_filter]
  congr 1
  funext a q
  by_cases z : S (150 + q) = 1
  · simp [z]
  · simp [z]
theorem passM_ok {x0 : hH} (hs : SOk S) (hM : MC S T to h) (hA : AhM S h) (hG : GoM G h) {st : WS} (hE : EncM h st) : ∃ h', lpO (fX12_judges_s272 x0 192 to) (h, 0) = some (.inl h') ∧ Fr wtC h h' ∧ EncM h' (passS S G st) := by
  rw [pass_alt]
  have key := lpO_inv (f := fX12_judges_s272 x0 192 to) (h := h) 99 (fun r k => Fr wtC h k ∧ EncM k ((rng 0 r).foldl (fun st q => if S (150 + q) = 1 then rowW S G st q else st) st)) (fun res => ∃ k, res = .inl k ∧ Fr wtC h k ∧ EncM k ((rng 0 99).foldl (fun st q => if S (150 + q) = 1 then rowW S G st q else st) st)) (fun r k r0 r1 hI => ?_) (fun k hI => ?_) (Int.le_refl _) (by decide) ⟨Fr.rf, by rw [rng_nil (Int.le_refl _)]; exact hE⟩
  · obtain ⟨r, r1, k, r2, r3⟩ := key
    exact ⟨k, by rw [r1, r2], r3⟩
  · obtain ⟨I1, I2⟩ := hI
    have hMk := hM.fr (I1.mono (fun a b z => wt_jm z))
    have Lk := hMk.1
    have e4 : k 204 = h 204 := I1.row _ (fun b => by unfold wtC; simp)
    have e5 : k 205 = h 205 := I1.row _ (fun b => by unfold wtC; simp)
    have hAk : AhM S k := fun q f a b c d => by rw [e4]; exact hA q f a b c d
    have hGk : GoM G k := fun q a b => by rw [e5]; exact hG q a b
    have eS : (rng 0 (r + 1)).foldl (fun st q => if S (150 + q) = 1 then rowW S G st q else st) st = (if S (150 + r) = 1 then rowW S G ((rng 0 r).foldl (fun st q => if S (150 + q) = 1 then rowW S G st q else st) st) r else ((rng 0 r).foldl (fun st q => if S (150 + q) = 1 then rowW S G st q else st) st)) := by
      rw [rng_snoc r0, List.foldl_append]
      rfl
    rw [eS]
    generalize (rng 0 r).foldl (fun st q => if S (150 + q) = 1 then rowW S G st q else st) st = st at *
    unfold fX12_judges_s272
    dsimp only
    rw [if_pos r1, w32_id (x := 150 + r) (by omega) (by omega), hMk.s (by omega) (by omega)]
    simp only [Option.bind_some]
    rw [w1 (by omega) (by omega)]
    by_cases a : S (150 + r) = 1
    · rw [if_pos a, if_pos a, ly_192_29 Lk, aget_in r0 (by rw [ll_205 Lk]; exact r1), hGk r r0 r1]
      simp only [Option.bind_some]
      unfold rowW
      by_cases b : G r < 0
      · rw [if_pos b, if_pos b]
        obtain ⟨x, x1, x2, x3⟩ := follows_ok (G := G) (st := st) hs hMk hAk hGk I2 r0 r1 a
        rw [x1]
        exact ⟨x, rfl, I1.tr x2, x3⟩
      · rw [if_neg b, if_neg b]
        exact ⟨k, rfl, I1, I2⟩
    · rw [if_neg a, if_neg a]
      exact ⟨k, rfl, I1, I2⟩
  · obtain ⟨I1, I2⟩ := hI
    unfold fX12_judges_s272
    dsimp only
    rw [if_neg (by decide)]
    exact ⟨_, rfl, k, rfl, I1, I2⟩
theorem while_ok {x0 : hH} {W0 : Int → Int} {m : Nat} {Q : Int × hH → Prop} (hs : SOk S) (hM : MC S T to h) (hA : AhM S h) (hG : GoM G h) (hE : EncM h (Pk S G W0 0)) (hS : StopW S G W0 m)
    (hQ : ∀ k, Fr wtC h k → EncM k (Pk S G W0 m) → ∃ r, fX12_judges_b315 k 192 to = some r ∧ Q r) : ∃ r, lpO (fX12_judges_s251 x0 192 to) h = some r ∧ Q r := by
  have key : ∀ (d k : Nat) (g : hH), k + d = m → Fr wtC h g → EncM g (Pk S G W0 k) → ∃ r, lpO (fX12_judges_s251 x0 192 to) g = some r ∧ Q r := by
    intro d
    induction d with
    | zero =>
      intro k g hk fg gE
      have : k = m := by omega
      subst this
      obtain ⟨r, r1, r2⟩ := hQ g fg gE
      refine ⟨r, lpO_inr ?_, r2⟩
      unfold fX12_judges_s251
      rw [gE.2.1, gE.2.2, r1]
      by_cases a : (Pk S G W0 k).2.1 = 0
      · rw [if_pos a]; rfl
      · have b : (Pk S G W0 k).2.2 = 1 := hS.2.resolve_left a
        rw [if_neg a, if_neg (by omega)]; rfl
    | succ d ih =>
      intro k g hk fg gE
      obtain ⟨s1, s2⟩ := hS.1 k (by omega)
      generalize hq : hup g 192 35 0 = q
      have fq : Fr wtC h q := fg.tr (by rw [← hq]; exact Fr.up (by decide))
      have qa : ∀ a, a ≠ 192 → q a = g a := fun a ha => by rw [← hq, hup_off ha]
      have qE : EncM q ((Pk S G W0 k).1, 0, (Pk S G W0 k).2.2) := ⟨by rw [qa _ (by decide)]; exact gE.1, by rw [← hq, hup_at], by rw [← hq, hup_ne (by decide)]; exact gE.2.2⟩
      have hMq := hM.fr (fq.mono (fun a b z => wt_jm z))
      have e4 : q 204 = h 204 := fq.row _ (fun b => by unfold wtC; simp)
      have e5 : q 205 = h 205 := fq.row _ (fun b => by unfold wtC; simp)
      obtain ⟨x, x1, x2, x3⟩ := passM_ok (G := G) (x0 := q) hs hMq (fun q f a b c d => by rw [e4]; exact hA q f a b c d) (fun q a b => by rw [e5]; exact hG q a b) qE
      have st : fX12_judges_s251 x0 192 to g = some (.inl x) := by
        unfold fX12_judges_s251
        rw [gE.2.1, gE.2.2, s1, s2, if_neg (by decide), if_pos rfl]
        simp only [pput, Option.bind_some]
        rw [hq, x1]
      rw [lpO_inl st]
      exact ih (k + 1) x (by omega) (fq.tr x2) x3
  exact key m 0 h (by omega) Fr.rf hE
/-- what a line finds -/
noncomputable def fmS (S T : Int → Int) (l : Int) : Int := ((rng 0 l).filter (fun q => @decide (S (150 + q) = 1 ∧ fndS S T q) (Classical.propDecidable _))).length
theorem fmS_s {l : Int} (l0 : 0 ≤ l) : fmS S T (l + 1) = fmS S T l + @ite _ (S (150 + l) = 1 ∧ fndS S T l) (Classical.propDecidable _) 1 0 := by
  unfold fmS
  rw [rng_snoc l0, List.filter_append, List.length_append]
  by_cases z : S (150 + l) = 1 ∧ fndS S T l
  · rw [if_pos z, List.filter_cons_of_pos (by simpa using z)]
    rfl
  · rw [if_neg z, List.filter_cons_of_neg (by simpa using z)]
    rfl
theorem fmS_b {l : Int} (l0 : 0 ≤ l) : 0 ≤ fmS S T l ∧ fmS S T l ≤ l := by
  have : ((rng 0 l).filter (fun q => @decide (S (150 + q) = 1 ∧ fndS S T q) (Classical.propDecidable _))).length ≤ (rng 0 l).length := List.length_filter_le _ _
  rw [rng_len] at this
  unfold fmS
  omega
theorem fmS_fo (hk : T 0 ≠ 0) : fmS S T 99 = foS S T := by
  unfold fmS foS liv alv
  rw [if_neg hk, List.filter_filter]
  congr 2
  apply List.filter_congr
  intro q _
  by_cases a : S (150 + q) = 1
  · by_cases b : fndS S T q <;> simp [a, b]
  · simp [a]
def foC (a b : Int) : Bool := wtC a b || (a == 205 && decide (0 ≤ b)) || (a == 192 && b == 31)
theorem fo_jm {a b : Int} (z : foC a b = true) : jmC a b = true := by
  unfold foC wtC at z; unfold jmC; simp at z ⊢; omega
theorem findM_ok {Q : Int × hH → Prop} (hs : SOk S) (hT : LOk S T) (hM : MC S T to h) (hk : T 0 ≠ 0) (g5 : ∀ q, 0 ≤ q → q < 99 → h 205 q = -1) (g3 : ∀ j, 0 ≤ j → j < 396 → h 203 j = -9) (z31 : h 192 31 = 0) (z34 : h 192 34 = 0)
    (hQ : ∀ k, Fr foC h k → GoM (G0S S T) k → (∀ j, 0 ≤ j → j < 396 → k 203 j = W0S S T j) → k 192 31 = foS S T → k 192 34 = 0 → ∃ r, fX12_judges_b205 k 192 to = some r ∧ Q r) : ∃ r, fX12_judges_b94 h 192 to = some r ∧ Q r := by
  have hT0 := hT.1
  have hto := hM.2.2.1
  have hw := hs.2.2.2.2.1 _ hT.2.1.1 hT.2.1.2
  unfold fX12_judges_b94
  refine lpO_invG (f := fX12_judges_s96 h 192 to) (fun i h => (h, i)) 99 (fun r k => Fr foC h k ∧ (∀ q, 0 ≤ q → q < 99 → k 205 q = if q < r then G0S S T q else -1) ∧ (∀ j, 0 ≤ j → j < 396 → k 203 j = if j < 4 * r then W0S S T j else -9) ∧ k 192 31 = fmS S T r ∧ k 192 34 = 0) Q (fun r k r0 r1 hI => ?_) (fun k hI => ?_) (Int.le_refl _) (by decide) ⟨Fr.rf, fun q a b => by rw [if_neg (by omega)]; exact g5 q a b, fun j a b => by rw [if_neg (by omega)]; exact g3 j a b, z31, z34⟩
  · obtain ⟨I1, I2, I3, I4, I5⟩ := hI
    have hMk := hM.fr (I1.mono (fun a b z => fo_jm z))
    have Lk := hMk.1
    obtain ⟨b, b1, b2⟩ := isFound_ok hs hT hMk r0 r1
    have fb := fmS_b (S := S) (T := T) r0
    have sn := fmS_s (S := S) (T := T) r0
    have dv : ∀ c, 0 ≤ c → c < 4 → (4 * r + c) / 4 = r ∧ (4 * r + c) % 4 = c := fun c _ _ => by omega
    unfold fX12_judges_s96
    dsimp only
    rw [if_pos r1, hMk.l0]
    simp only [Option.bind_some]
    rw [if_pos (by omega), b1]
    simp only [Option.bind_some]
    rw [w1 (by omega) (by omega)]
    rcases b2 with ⟨rfl, fd⟩ | ⟨rfl, fd⟩
    · rw [if_neg (by decide)]
      rw [if_pos fd] at sn
      simp only [pput, Option.bind_some]
      rw [I4, w32_id (by omega) (by omega), ← sn]
      generalize hg : hup k 192 31 (fmS S T (r + 1)) = g
      have fg : Fr foC h g := I1.tr (by rw [← hg]; exact Fr.up (by decide))
      have ga : ∀ a, a ≠ 192 → g a = k a := fun a ha => by rw [← hg, hup_off ha]
      have gb : ∀ b, b ≠ 31 → g 192 b = k 192 b := fun b hb => by rw [← hg, hup_ne (fun z => hb z.2)]
      have g31 : g 192 31 = fmS S T (r + 1) := by rw [← hg, hup_at]
      have hMg := hM.fr (fg.mono (fun a b z => fo_jm z))
      have Lg := hMg.1
      rw [hMg.l0]
      simp only [Option.bind_some]
      -- the wishes of a row that is found
      have wl : ∀ (x : hH), Fr foC h x → (∀ j, 0 ≤ j → j < 396 → x 203 j = if j < 4 * r then W0S S T j else -9) → x 192 31 = fmS S T (r + 1) → x 192 34 = 0 → ∃ y, fX12_judges_b150 x 192 to r = some (.inl (y, r + 1)) ∧ Fr wtC x y ∧ (∀ j, 0 ≤ j → j < 396 → y 203 j = if j < 4 * (r + 1) then W0S S T j else -9) ∧ y 192 34 = 0 := by
        intro x fx x3 x31 x34
        have hMx := hM.fr (fx.mono (fun a b z => fo_jm z))
        unfold fX12_judges_b150
        have e2 : ∀ y, Fr wtC x y → aget y (y 192 9) (w32 (to + 2)) = some (T 2) := fun y fy => by
          rw [w32_id (by omega) (by omega), (hMx.fr (fy.mono (fun a b z => wt_jm z))).ln (by decide) (by decide)]
        have stop : ∀ y, Fr wtC x y → fX12_judges_s152 x 192 to r (y, T 2) = some (.inr (.inl (y, r + 1))) := fun y fy => by
          unfold fX12_judges_s152
          dsimp only
          rw [e2 y fy]
          simp only [Option.bind_some]
          rw [if_neg (Int.lt_irrefl _), w1 (by omega) (by omega)]
        have step : ∀ (y : hH) (j c v : Int), Fr wtC x y → (j = 0 ∨ j = 1) → j < T 2 → T (3 + 2 * j) = c → T (4 + 2 * j) = v → 0 ≤ c → c < 4 → y 203 (4 * r + c) = -9 → fX12_judges_s152 x 192 to r (y, j) = some (.inl (hup (hup y 203 (4 * r + c) v) 192 35 1, j + 1)) := fun y j c v fy hj jt ec ev c0 c1 y9 => by
          have hMy := hMx.fr (fy.mono (fun a b z => wt_jm z))
          unfold fX12_judges_s152
          dsimp only
          rw [e2 y fy]
          simp only [Option.bind_some]
          rw [if_pos jt, w32_id (x := 2 * j) (by omega) (by omega), w32_id (x := to + 3) (by omega) (by omega), w32_id (x := to + 4) (by omega) (by omega), w32_id (x := to + 3 + 2 * j) (by omega) (by omega), w32_id (x := to + 4 + 2 * j) (by omega) (by omega), show to + 3 + 2 * j = to + (3 + 2 * j) by omega, show to + 4 + 2 * j = to + (4 + 2 * j) by omega, hMy.ln (by omega) (by omega), hMy.ln (by omega) (by omega), ec, ev]
          simp only [Option.bind_some]
          unfold fX12_wants
          rw [w32_id (x := 4 * r) (by omega) (by omega), w32_id (x := 4 * r + c) (by omega) (by omega), ly_192_27 hMy.1, aget_in (by omega) (by rw [ll_203 hMy.1]; omega), y9]
          simp only [Option.bind_some, if_true]
          rw [aput_in (by omega) (by rw [ll_203 hMy.1]; omega)]
          simp only [Option.bind_some, pput]
          rw [w1 (by omega) (by omega)]
        have wv : T 0 = 2 → ∀ c, 0 ≤ c → c < 4 → W0S S T (4 * r + c) = if c = T 3 then T 4 else if T 2 = 2 ∧ c = T 5 then T 6 else -9 := fun h2 c c0 c1 => by
          obtain ⟨d1, d2⟩ := dv c c0 c1
          unfold W0S
          rw [d1, d2, if_pos ⟨h2, by omega, by omega, fd.1, fd.2⟩]
        have w9 : T 0 ≠ 2 → ∀ j, W0S S T j = -9 := fun h2 j => by
          unfold W0S
          rw [if_neg (fun z => h2 z.1)]
        by_cases k2 : T 0 = 2
        · obtain ⟨q1, q2, q3, q4⟩ := hT.2.2.2.2.2.2 k2
          have s0 := step x 0 (T 3) (T 4) Fr.rf (Or.inl rfl) (by omega) rfl rfl q2.1 (by omega) (by rw [x3 _ (by omega) (by omega), if_neg (by omega)])
          rw [lpO_inl s0]
          generalize hy : hup (hup x 203 (4 * r + T 3) (T 4)) 192 35 1 = y at s0 ⊢
          have fy : Fr wtC x y := by rw [← hy]; exact Fr.tr (Fr.up (by unfold wtC; simp; omega)) (Fr.up (by decide))
          have y3 : ∀ j, y 203 j = if j = 4 * r + T 3 then T 4 else x 203 j := fun j => by
            rw [← hy, hup_off (by decide)]
            by_cases e : j = 4 * r + T 3
            · rw [e, hup_at, if_pos rfl]
            · rw [hup_ne (fun z => e z.2), if_neg e]
          have y34 : y 192 34 = 0 := by rw [← hy, hup_ne (by decide), hup_off (by decide)]; exact x34
          rcases q1 with t2 | t2
          · have := stop y fy
            rw [t2] at this
            refine ⟨y, lpO_inr this, fy, fun j j0 j1 => ?_, y34⟩
            rw [y3]
            by_cases e : 4 * r ≤ j ∧ j < 4 * r + 4
            · have ew := wv k2 (j - 4 * r) (by omega) (by omega)
              rw [show 4 * r + (j - 4 * r) = j by omega] at ew
              rw [if_pos (show j < 4 * (r + 1) by omega), ew]
              by_cases f : j = 4 * r + T 3
              · rw [if_pos f, if_pos (by omega)]
              · rw [if_neg f, if_neg (by omega), if_neg (by omega), x3 j j0 j1, if_neg (by omega)]
            · rw [if_neg (by omega), x3 j j0 j1]
              by_cases f : j < 4 * r
              · rw [if_pos f, if_pos (by omega)]
              · rw [if_neg f, if_neg (by omega)]
          · obtain ⟨q5, q6, q7, q8⟩ := q4 t2
            have s1 := step y 1 (T 5) (T 6) fy (Or.inr rfl) (by omega) rfl rfl q5.1 (by omega) (by rw [y3, if_neg (by omega), x3 _ (by omega) (by omega), if_neg (by omega)])
            rw [show (0 : Int) + 1 = 1 from rfl, lpO_inl s1]
            generalize hz : hup (hup y 203 (4 * r + T 5) (T 6)) 192 35 1 = z at s1 ⊢
            have fz : Fr wtC x z := fy.tr (by rw [← hz]; exact Fr.tr (Fr.up (by unfold wtC; simp; omega)) (Fr.up (by decide)))
            have := stop z fz
            rw [t2] at this
            refine ⟨z, lpO_inr this, fz, fun j j0 j1 => ?_, by rw [← hz, hup_ne (by decide), hup_off (by decide)]; exact y34⟩
            have z3 : z 203 j = if j = 4 * r + T 5 then T 6 else y 203 j := by
              rw [← hz, hup_off (by decide)]
              by_cases e : j = 4 * r + T 5
              · rw [e, hup_at, if_pos rfl]
              · rw [hup_ne (fun z => e z.2), if_neg e]
            rw [z3, y3]
            by_cases e : 4 * r ≤ j ∧ j < 4 * r + 4
            · have ew := wv k2 (j - 4 * r) (by omega) (by omega)
              rw [show 4 * r + (j - 4 * r) = j by omega] at ew
              rw [if_pos (show j < 4 * (r + 1) by omega), ew]
              by_cases f : j = 4 * r + T 3
              · rw [if_neg (by omega), if_pos f, if_pos (by omega)]
              · by_cases f2 : j = 4 * r + T 5
                · rw [if_pos f2, if_neg (by omega), if_pos ⟨t2, by omega⟩]
                · rw [if_neg f2, if_neg f, if_neg (by omega), if_neg (by omega), x3 j j0 j1, if_neg (by omega)]
            · rw [if_neg (by omega), if_neg (by omega), x3 j j0 j1]
              by_cases f : j < 4 * r
              · rw [if_pos f, if_pos (by omega)]
              · rw [if_neg f, if_neg (by omega)]
        · have t2 : T 2 = 0 := hT.2.2.2.2.2.1 (by omega)
          have := stop x Fr.rf
          rw [t2] at this
          refine ⟨x, lpO_inr this, Fr.rf, fun j j0 j1 => ?_, x34⟩
          rw [x3 j j0 j1, w9 k2]
          split <;> split <;> rfl
      have toI : ∀ (x y : hH), Fr foC h x → Fr wtC x y → (∀ q, 0 ≤ q → q < 99 → x 205 q = if q < r + 1 then G0S S T q else -1) → x 192 31 = fmS S T (r + 1) → (∀ j, 0 ≤ j → j < 396 → y 203 j = if j < 4 * (r + 1) then W0S S T j else -9) → y 192 34 = 0 → (Fr foC h y ∧ (∀ q, 0 ≤ q → q < 99 → y 205 q = if q < r + 1 then G0S S T q else -1) ∧ (∀ j, 0 ≤ j → j < 396 → y 203 j = if j < 4 * (r + 1) then W0S S T j else -9) ∧ y 192 31 = fmS S T (r + 1) ∧ y 192 34 = 0) := fun x y fx fy x5 x31 y3 y34 => by
        have e5 : y 205 = x 205 := fy.row _ (fun b => by unfold wtC; simp)
        refine ⟨fx.tr (fy.mono (fun a b z => by unfold foC; rw [z]; rfl)), fun q a b => by rw [e5]; exact x5 q a b, y3, ?_, y34⟩
        rw [fy 192 31 (by decide)]; exact x31
      by_cases a : T 0 = 1
      · rw [if_pos a, ly_192_29 Lg, aput_in r0 (by rw [ll_205 Lg]; exact r1)]
        simp only [Option.bind_some]
        generalize hx : hup g 205 r 0 = x
        have fx : Fr foC h x := fg.tr (by rw [← hx]; exact Fr.up (by unfold foC; simp; omega))
        have xa : ∀ a, a ≠ 205 → x a = g a := fun a ha => by rw [← hx, hup_off ha]
        have x5 : ∀ q, 0 ≤ q → q < 99 → x 205 q = if q < r + 1 then G0S S T q else -1 := fun q q0 q1 => by
          rw [← hx]
          by_cases e : q = r
          · rw [e, hup_at, if_pos (by omega)]
            unfold G0S
            rw [if_pos ⟨a, r0, r1, fd.1, fd.2⟩]
          · rw [hup_ne (fun z => e z.2), ga _ (by decide), I2 q q0 q1]
            by_cases f : q < r
            · rw [if_pos f, if_pos (by omega)]
            · rw [if_neg f, if_neg (by omega)]
        obtain ⟨y, y1, y2, y3, y4⟩ := wl x fx (by rw [xa _ (by decide), ga _ (by decide)]; exact I3) (by rw [xa _ (by decide)]; exact g31) (by rw [xa _ (by decide), gb _ (by decide)]; exact I5)
        exact Or.inl ⟨y, y1, toI x y fx y2 x5 (by rw [xa _ (by decide)]; exact g31) y3 y4⟩
      · rw [if_neg a]
        have x5 : ∀ q, 0 ≤ q → q < 99 → g 205 q = if q < r + 1 then G0S S T q else -1 := fun q q0 q1 => by
          have eg : G0S S T q = -1 := by unfold G0S; rw [if_neg (fun z => a z.1)]
          rw [ga _ (by decide), I2 q q0 q1, eg]
          split <;> split <;> rfl
        obtain ⟨y, y1, y2, y3, y4⟩ := wl g fg (by rw [ga _ (by decide)]; exact I3) g31 (by rw [gb _ (by decide)]; exact I5)
        exact Or.inl ⟨y, y1, toI g y fg y2 x5 g31 y3 y4⟩
    · rw [if_pos rfl]
      rw [if_neg fd, Int.add_zero] at sn
      refine Or.inl ⟨k, rfl, I1, fun q q0 q1 => ?_, fun j j0 j1 => ?_, by rw [sn]; exact I4, I5⟩
      · rw [I2 q q0 q1]
        by_cases e : q = r
        · rw [if_neg (by omega), if_pos (by omega)]
          unfold G0S
          rw [if_neg (fun z => by rw [e] at z; exact fd z.2.2.2)]
        · by_cases f : q < r
          · rw [if_pos f, if_pos (by omega)]
          · rw [if_neg f, if_neg (by omega)]
      · rw [I3 j j0 j1]
        by_cases e : 4 * r ≤ j ∧ j < 4 * r + 4
        · rw [if_neg (by omega), if_pos (by omega)]
          unfold W0S
          rw [if_neg (fun z => by
            have : j / 4 = r := by omega
            rw [this] at z
            exact fd z.2.2.2)]
        · by_cases f : j < 4 * r
          · rw [if_pos f, if_pos (by omega)]
          · rw [if_neg f, if_neg (by omega)]
  · obtain ⟨I1, I2, I3, I4, I5⟩ := hI
    obtain ⟨r, r1, r2⟩ := hQ k I1 (fun q a b => by rw [I2 q a b, if_pos b]) (fun j a b => by rw [I3 j a b, if_pos (by omega)]) (by rw [I4]; exact fmS_fo hk) I5
    unfold fX12_judges_s96
    dsimp only
    rw [if_neg (by decide), r1]
    exact ⟨r, rfl, r2⟩
def cl5C (a b : Int) : Bool := a == 205 && decide (0 ≤ b)
theorem closes_ok (hs : SOk S) (hM : MC S T to h) (hA : AhM S h) {G0 : Int → Int} (hG : GOk S G0 0) (hE : GoM G0 h) {K : Nat} (hbit : ∀ q, 0 ≤ q → q < 99 → S (150 + q) = 0 ∨ S (150 + q) = 1) (hK : StopG S G0 K) (hK40 : K ≤ 40) : ∃ h', fX12_closes h 192 = some h' ∧ Fr cl5C h h' ∧ GoM (Rk S G0 K) h' := by
  have h2 := hs.2.2.1
  have cjm : ∀ {a b : Int}, cl5C a b = true → jmC a b = true := fun {a b} z => by unfold cl5C at z; unfold jmC; simp at z ⊢; omega
  unfold fX12_closes
  have key := lpO_run (f := fX12_closes_s4 h 192) (fun (q : hH × Int × Int) => Fr cl5C h q.1 ∧ ((∃ k : Nat, (k : Int) + 1 = q.2.2 ∧ k ≤ K ∧ q.2.1 = 1 ∧ GoM (Rk S G0 k) q.1) ∨ (q.2.1 = 0 ∧ GoM (Rk S G0 K) q.1))) (fun q => if q.2.1 = 0 then 0 else ((K : Int) + 2 - q.2.2).toNat) (fun r => Fr cl5C h r ∧ GoM (Rk S G0 K) r) (fun q hI => ?_) (q := (h, 1, 1)) ⟨Fr.rf, Or.inl ⟨0, rfl, by omega, rfl, hE⟩⟩
  · obtain ⟨r, r1, r2⟩ := key
    exact ⟨r, r1, r2⟩
  · obtain ⟨g, u, n⟩ := q
    obtain ⟨I1, I2⟩ := hI
    dsimp only at I1 I2 ⊢
    unfold fX12_closes_s4
    dsimp only
    rcases I2 with ⟨k, k1, k2, rfl, k3⟩ | ⟨rfl, k3⟩
    · rw [if_neg (by decide)]
      have hGk := Rk_ok hG k
      generalize hGd : Rk S G0 k = G at *
      have round := lpO_invG (f := fX12_closes_s12 g 192 n) (fun l (a : hH × Int) => (a.1, a.2, l)) 99 (fun l a => Fr cl5C h a.1 ∧ (∀ q, 0 ≤ q → q < 99 → a.1 205 q = if q < l then stG S n G q else G q) ∧ Bt a.2 (∃ q, 0 ≤ q ∧ q < l ∧ cand S G q)) (fun r => ∃ x b, r = .inl (x, b, n + 1) ∧ Fr cl5C h x ∧ (∀ q, 0 ≤ q → q < 99 → x 205 q = stG S n G q) ∧ Bt b (∃ q, 0 ≤ q ∧ q < 99 ∧ cand S G q)) (fun l a l0 l1 hJ => ?_) (fun a hJ => ?_) (Int.le_refl 0) (by decide) (a := (g, 0)) ⟨I1, fun q a b => by rw [if_neg (by omega)]; exact k3 q a b, Or.inr ⟨rfl, fun ⟨q, a, b, _⟩ => by omega⟩⟩
      · obtain ⟨r, r1, x, b, r2, r3, r4, r5⟩ := round
        refine ⟨r, r1, ?_⟩
        rw [r2]
        dsimp only
        rcases r5 with ⟨rfl, q, q0, q1, qc⟩ | ⟨rfl, nc⟩
        · have kK : k < K := by
            refine Classical.byContradiction (fun z => hK.2 ?_)
            have : k = K := by omega
            subst this
            rw [hGd]
            exact ⟨q, q0, q1, qc⟩
          refine ⟨⟨r3, Or.inl ⟨k + 1, by omega, by omega, rfl, fun q a b => ?_⟩⟩, ?_⟩
          · rw [r4 q a b, ← k1, ← hGd]
            rfl
          · rw [if_neg (by decide), if_neg (by decide)]
            omega
        · have kK : k = K := by
            refine Classical.byContradiction (fun z => ?_)
            obtain ⟨q, q0, q1, q2⟩ := hK.1 k (by omega)
            rw [hGd] at q2
            exact nc ⟨q, q0, q1, q2⟩
          refine ⟨⟨r3, Or.inr ⟨rfl, fun q a b => ?_⟩⟩, ?_⟩
          · rw [r4 q a b, ← kK, hGd]
            unfold stG
            rw [if_neg (fun z => nc ⟨q, z⟩)]
          · rw [if_pos rfl, if_neg (by decide)]
            omega
      · obtain ⟨x, b⟩ := a
        obtain ⟨J1, J2, J3⟩ := hJ
        dsimp only at J1 J2 J3 ⊢
        have hMx := hM.fr (J1.mono (fun a b z => cjm z))
        have Lx := hMx.1
        have e4 : x 204 = h 204 := J1.row _ (fun b => by unfold cl5C; simp)
        have hAx : AhM S x := fun q f a b c d => by rw [e4]; exact hA q f a b c d
        obtain ⟨g1, g2⟩ := hGk.1 l l0 l1
        have nxt : ∀ y : hH, (∀ q, q ≠ l → y 205 q = x 205 q) → y 205 l = stG S n G l → ∀ q, 0 ≤ q → q < 99 → y 205 q = if q < l + 1 then stG S n G q else G q := fun y y1 y2 q q0 q1 => by
          by_cases e : q = l
          · rw [e, if_pos (by omega)]; exact y2
          · rw [y1 q e, J2 q q0 q1]
            by_cases f : q < l
            · rw [if_pos f, if_pos (by omega)]
            · rw [if_neg f, if_neg (by omega)]
        have bits : ¬ cand S G l → Bt b (∃ q, 0 ≤ q ∧ q < l + 1 ∧ cand S G q) := fun nc => J3.iff ⟨fun ⟨q, a, c, d⟩ => ⟨q, a, by omega, d⟩, fun ⟨q, a, c, d⟩ => ⟨q, a, by
          by_cases e : q = l
          · rw [e] at d; exact absurd d nc
          · omega, d⟩⟩
        have same : ¬ cand S G l → ∀ q, 0 ≤ q → q < 99 → x 205 q = if q < l + 1 then stG S n G q else G q := fun nc => nxt x (fun _ _ => rfl) (by
          rw [J2 l l0 l1, if_neg (Int.lt_irrefl _)]
          unfold stG
          rw [if_neg (fun z => nc z.2.2)])
        unfold fX12_closes_s12
        dsimp only
        rw [if_pos l1, w32_id (x := 150 + l) (by omega) (by omega), hMx.s (by omega) (by omega)]
        simp only [Option.bind_some]
        rw [w1 (by omega) (by omega)]
        by_cases a : S (150 + l) = 0
        · rw [if_pos a]
          have nc : ¬ cand S G l := fun z => by have := z.1; omega
          exact Or.inl ⟨(x, b), rfl, J1, same nc, bits nc⟩
        · have al : S (150 + l) = 1 := (hbit l l0 l1).resolve_left a
          rw [if_neg a, ly_192_29 Lx, aget_in l0 (by rw [ll_205 Lx]; exact l1), J2 l l0 l1, if_neg (Int.lt_irrefl _)]
          simp only [Option.bind_some]
          by_cases c : G l < 0
          · rw [if_pos c]
            have cur : ∀ a, 0 ≤ a → a < 99 → ((0 ≤ x 205 a ∧ x 205 a ≤ n - 1) ↔ 0 ≤ G a) := fun a a0 a1 => by
              rw [J2 a a0 a1]
              have ga := (hGk.1 a a0 a1).1
              by_cases f : a < l
              · rw [if_pos f]
                unfold stG
                by_cases w : 0 ≤ a ∧ a < 99 ∧ cand S G a
                · rw [if_pos w]
                  have := w.2.2.2.1
                  omega
                · rw [if_neg w]; omega
              · rw [if_neg f]; omega
            have inner := lpO_invG (f := fX12_closes_s49 x 192 b n l) (fun f (w : Int) => (w, f)) (S 2) (fun f w => Bt w (∃ f', 0 ≤ f' ∧ f' < f ∧ S (88 + f') = 1 ∧ 0 ≤ aheadS S l f' ∧ 0 ≤ G (aheadS S l f'))) (fun r => ∃ y b', r = .inl (y, b', l + 1) ∧ Fr cl5C h y ∧ (∀ q, 0 ≤ q → q < 99 → y 205 q = if q < l + 1 then stG S n G q else G q) ∧ Bt b' (∃ q, 0 ≤ q ∧ q < l + 1 ∧ cand S G q)) (fun f w f0 f1 hN => ?_) (fun w hN => ?_) (Int.le_refl 0) h2.1 (a := 0) (Or.inr ⟨rfl, fun ⟨f', a, b, _⟩ => by omega⟩)
            · obtain ⟨r, r1, y, b', r2, r3⟩ := inner
              exact Or.inl ⟨(y, b'), by rw [r1, r2], r3⟩
            · have nx : ∀ w', Bt w' ((∃ f', 0 ≤ f' ∧ f' < f ∧ S (88 + f') = 1 ∧ 0 ≤ aheadS S l f' ∧ 0 ≤ G (aheadS S l f')) ∨ (S (88 + f) = 1 ∧ 0 ≤ aheadS S l f ∧ 0 ≤ G (aheadS S l f))) → Bt w' (∃ f', 0 ≤ f' ∧ f' < f + 1 ∧ S (88 + f') = 1 ∧ 0 ≤ aheadS S l f' ∧ 0 ≤ G (aheadS S l f')) := fun w' hw' => hw'.iff ⟨fun z => by
                rcases z with ⟨f', a, b, c⟩ | z
                · exact ⟨f', a, by omega, c⟩
                · exact ⟨f, f0, by omega, z⟩, fun ⟨f', a, b, c⟩ => by
                by_cases e : f' = f
                · rw [e] at c; exact Or.inr c
                · exact Or.inl ⟨f', a, by omega, c⟩⟩
              have fin1 : ∃ a', fX12_closes_b142 x 192 b n l f = some (.inl (a', f + 1)) ∧ a' = 1 := ⟨1, by unfold fX12_closes_b142; rw [w1 (by omega) (by omega)], rfl⟩
              have pass : ∀ s0, s0 < 0 → ¬ (S (88 + f) = 1 ∧ 0 ≤ aheadS S l f ∧ 0 ≤ G (aheadS S l f)) → ∃ a', fX12_closes_b113 x 192 b n l w f s0 = some (.inl (a', f + 1)) ∧ Bt a' (∃ f', 0 ≤ f' ∧ f' < f + 1 ∧ S (88 + f') = 1 ∧ 0 ≤ aheadS S l f' ∧ 0 ≤ G (aheadS S l f')) := by
                intro s0 hs0 hno
                unfold fX12_closes_b113
                rcases hN with ⟨rfl, z⟩ | ⟨rfl, z⟩
                · rw [if_neg (by decide)]
                  obtain ⟨a', e1, rfl⟩ := fin1
                  exact ⟨1, e1, nx 1 (Or.inl ⟨rfl, Or.inl z⟩)⟩
                · rw [if_pos rfl, if_pos hs0, w1 (by omega) (by omega)]
                  exact ⟨0, rfl, nx 0 (Or.inr ⟨rfl, fun y => y.elim z hno⟩)⟩
              unfold fX12_closes_s49 fX12_closes_b112
              dsimp only
              rw [hMx.s (by decide) (by decide)]
              simp only [Option.bind_some]
              rw [if_pos f1, w32_id (x := 58 + f) (by omega) (by omega), hMx.s (by omega) (by omega), w32_id (x := 249 + l) (by omega) (by omega), hMx.s (by omega) (by omega)]
              simp only [Option.bind_some]
              by_cases t : S (58 + f) = S (249 + l)
              · rw [if_pos t, w32_id (x := 88 + f) (by omega) (by omega), hMx.s (by omega) (by omega)]
                simp only [Option.bind_some]
                by_cases o : S (88 + f) = 1
                · rw [if_pos o, w32_id (x := 6 * l) (by omega) (by omega), w32_id (x := 6 * l + f) (by omega) (by omega), ly_192_28 Lx, aget_in (by omega) (by rw [ll_204 Lx]; omega), hAx l f l0 l1 f0 f1, if_pos al]
                  simp only [Option.bind_some]
                  by_cases a0 : aheadS S l f < 0
                  · exact Or.inl (pass _ a0 (fun z => by omega))
                  · have a1 : aheadS S l f < 99 := by rcases aheadS_or (S := S) (q := l) (f := f) with z | z <;> omega
                    have hcur := cur (aheadS S l f) (by omega) a1
                    unfold fX12_closes_b113
                    rcases hN with ⟨rfl, z⟩ | ⟨rfl, z⟩
                    · rw [if_neg (by decide)]
                      obtain ⟨a', e1, rfl⟩ := fin1
                      exact Or.inl ⟨1, e1, nx 1 (Or.inl ⟨rfl, Or.inl z⟩)⟩
                    · rw [if_pos rfl, if_neg a0, ly_192_29 Lx, aget_in (by omega) (by rw [ll_205 Lx]; exact a1)]
                      simp only [Option.bind_some]
                      rw [isIn_ok]
                      simp only [Option.bind_some]
                      have ewn : (0 ≤ x 205 (aheadS S l f) ∧ x 205 (aheadS S l f) ≤ w32 (n - 1)) ↔ 0 ≤ G (aheadS S l f) := by
                        rw [w32_id (by omega) (by omega)]
                        exact hcur
                      by_cases gg : 0 ≤ G (aheadS S l f)
                      · rw [if_pos (ewn.mpr gg), if_neg (by decide)]
                        obtain ⟨a', e1, rfl⟩ := fin1
                        exact Or.inl ⟨1, e1, nx 1 (Or.inl ⟨rfl, Or.inr ⟨o, by omega, gg⟩⟩)⟩
                      · rw [if_neg (fun y => gg (ewn.mp y)), if_pos rfl, w1 (by omega) (by omega)]
                        exact Or.inl ⟨0, rfl, nx 0 (Or.inr ⟨rfl, fun y => y.elim z (fun u => gg u.2.2)⟩)⟩
                · rw [if_neg o]
                  exact Or.inl (pass _ (by decide) (fun z => o z.1))
              · rw [if_neg t]
                refine Or.inl (pass _ (by decide) (fun z => ?_))
                have := z.2.1
                unfold aheadS at this
                rw [if_neg (fun y => t y.symm)] at this
                exact absurd this (by decide)
            · have hc : Bt w (cand S G l) := hN.iff ⟨fun ⟨f', a, b, d⟩ => ⟨al, c, f', a, b, d⟩, fun z => z.2.2⟩
              unfold fX12_closes_s49
              dsimp only
              rw [hMx.s (by decide) (by decide)]
              simp only [Option.bind_some]
              rw [if_neg (Int.lt_irrefl _)]
              rcases hc with ⟨rfl, z⟩ | ⟨rfl, z⟩
              · rw [if_neg (by decide), ly_192_29 Lx, aput_in l0 (by rw [ll_205 Lx]; exact l1)]
                simp only [Option.bind_some]
                rw [w1 (by omega) (by omega)]
                refine ⟨_, rfl, _, 1, rfl, J1.tr (Fr.up (by unfold cl5C; simp; omega)), nxt _ (fun q hq => hup_ne (fun z => hq z.2)) ?_, Or.inl ⟨rfl, l, l0, by omega, z⟩⟩
                rw [hup_at]
                unfold stG
                rw [if_pos ⟨l0, l1, z⟩]
              · rw [if_pos rfl, w1 (by omega) (by omega)]
                exact ⟨_, rfl, x, b, rfl, J1, same z, bits z⟩
          · rw [if_neg c]
            have nc : ¬ cand S G l := fun z => c z.2.1
            exact Or.inl ⟨(x, b), rfl, J1, same nc, bits nc⟩
      · obtain ⟨x, b⟩ := a
        obtain ⟨J1, J2, J3⟩ := hJ
        dsimp only at J1 J2 J3 ⊢
        unfold fX12_closes_s12
        dsimp only
        rw [if_neg (by decide)]
        have ewn : w32 (n + 1) = n + 1 := w32_id (by omega) (by omega)
        rw [ewn]
        exact ⟨_, rfl, x, b, rfl, J1, fun q a c => by rw [J2 q a c, if_pos c], J3⟩
    · rw [if_pos rfl]
      exact ⟨_, rfl, I1, k3⟩
end MJ
