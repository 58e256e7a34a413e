/-! JUDGING, the class's: what is to be, over and over -/
theorem foldl_map' {α : Type} {g : α → Int → α} {N : Int → Int} : ∀ {l : List Int} {a : α}, (l.map N).foldl g a = l.foldl (fun a i => g a (N i)) a
  | [], _ => rfl
  | i :: l, a => by
    rw [List.map_cons, List.foldl_cons, List.foldl_cons]
    exact foldl_map'
section JUDGE
variable {v n : Int} {S N G : Int → Int} {h : hH}
theorem JC.liv (hJ : JC v S N n h) : liv S = (rng 0 n).map N := by
  obtain ⟨-, -, hc, e14, e15, -, -⟩ := hJ
  have := alv_eq hc.2.1
  rw [show (14 : Int) + 1 = 15 from rfl, e14, e15] at this
  exact this
theorem wcut {l : List Int} {g : WS → Int → WS} {st : WS} (hg : ∀ x ∈ l, ∀ st, WFl S st → WFl S (g st x) ∧ Gro S st (g st x)) (hW : WFl S st) (h1 : st.2.2 = 1) : (l.foldl g st).2.2 = 1 := (fold_gro hg hW).2.2.2.1 h1
theorem spRow_ok {l1 l : Int} {x0 : hH} (hv : JV v) (hs : SOk S) (hJ : JC v S N n h) (hA : ∀ i f, 0 ≤ i → i < n → 0 ≤ f → f < S 2 → AimE v S N n h i f) (hG : ∀ i, 0 ≤ i → i < n → h (v + 9) i = G (N i) ∧ (G (N i) = -1 ∨ 0 ≤ G (N i))) {st : WS} (hW : WFl S st) (hE : EncS v n N h st) (hc0 : st.2.2 = 0) (l0 : 0 ≤ l) (ln : l < n) :
    ∃ r, lpO (fX1_spreadValues_s46 x0 v l1 l) (h, 0) = some r ∧ ((∃ k, r = .inl (k, l + 1) ∧ Fr (wC v) h k ∧ (rowW S G st (N l)).2.2 = 0 ∧ EncS v n N k (rowW S G st (N l))) ∨ (∃ k, r = .inr (.inr (0, k)) ∧ Fr (wC v) h k ∧ (rowW S G st (N l)).2.2 = 1)) := by
  have h2 := hs.2.2.1
  have n40 := hJ.2.2.2.2.2.1.2.2.1
  obtain ⟨m0, m1, m2⟩ := hJ.2.2.2.2.2.1.2.2.2.2.2.2.1 l l0 ln
  have hgl := hG l l0 ln
  have gro : ∀ (a b : Int), 0 ≤ a → ∀ x ∈ rng a (S 2), ∀ st, WFl S st → WFl S (adS S G st (N l) x) ∧ Gro S st (adS S G st (N l) x) := fun a b ha x hx st hst => ad_gro hs hst m0 m1 m2 (by have := (mem_rng.mp hx).1; omega) (mem_rng.mp hx).2
  unfold rowW
  by_cases a : G (N l) = -1
  · rw [if_pos (by omega)]
    refine lpO_invG (f := fX1_spreadValues_s46 x0 v l1 l) (fun i h => (h, i)) (S 2) (fun f k => Fr (wC v) h k ∧ WFl S ((rng 0 f).foldl (fun st f => adS S G st (N l) f) st) ∧ ((rng 0 f).foldl (fun st f => adS S G st (N l) f) st).2.2 = 0 ∧ EncS v n N k ((rng 0 f).foldl (fun st f => adS S G st (N l) f) st)) _ (fun f k f0 f1 hI => ?_) (fun k hI => ?_) (Int.le_refl _) h2.1 ⟨Fr.rf, by rw [rng_nil (Int.le_refl _)]; exact hW, by rw [rng_nil (Int.le_refl _)]; exact hc0, by rw [rng_nil (Int.le_refl _)]; exact hE⟩
    · obtain ⟨I1, I2, I3, I4⟩ := hI
      have hJk := hJ.fr hv (I1.mono (fun a b z => w_jug z))
      have e9 : k (v + 9) = h (v + 9) := I1.row _ (fun b => by unfold wC; simp; omega)
      have e10 : k (v + 10) = h (v + 10) := I1.row _ (fun b => by unfold wC; simp; omega)
      obtain ⟨b, k', q1, q2, q3⟩ := adapt_ok (G := G) hv hs hJk (fun i f a b c d => (hA i f a b c d).fr e10) (fun i a b => by rw [e9]; exact hG i a b) I2 I4 I3 l0 ln f0 f1
      obtain ⟨-, ⟨⟨v0, -, -, -, -, -, v13, -⟩, ⟨-, -, l9, -⟩, -⟩, hc, -⟩ := hJk
      have e2 : k 4 2 = S 2 := hc.2.2.2.1.2.2.1
      unfold fX1_spreadValues_s46
      dsimp only
      rw [v0, e2, if_pos f1, v13, at_in l0 (by omega), e9, hgl.1, a]
      simp only [Option.bind_some, if_true]
      rw [q1]
      simp only [Option.bind_some]
      rw [w1 (by omega) (by omega)]
      have eS : (rng 0 (f + 1)).foldl (fun st f => adS S G st (N l) f) st = adS S G ((rng 0 f).foldl (fun st f => adS S G st (N l) f) st) (N l) f := by
        rw [rng_snoc f0, List.foldl_append]
        rfl
      rcases q3 with ⟨rfl, r1, r2⟩ | ⟨rfl, r1⟩
      · rw [if_neg (by decide)]
        refine Or.inl ⟨k', rfl, I1.tr q2, ?_, ?_, ?_⟩
        · rw [eS]; exact (ad_gro hs I2 m0 m1 m2 f0 f1).1
        · rw [eS]; exact r1
        · rw [eS]; exact r2
      · rw [if_pos rfl]
        refine Or.inr ⟨_, rfl, Or.inr ⟨k', rfl, I1.tr q2, ?_⟩⟩
        rw [rng_app (j := f + 1) (by omega) (by omega), List.foldl_append, eS]
        exact wcut (gro (f + 1) 0 (by omega)) (ad_gro hs I2 m0 m1 m2 f0 f1).1 r1
    · obtain ⟨I1, I2, I3, I4⟩ := hI
      have hJk := hJ.fr hv (I1.mono (fun a b z => w_jug z))
      obtain ⟨-, ⟨⟨v0, -⟩, -⟩, hc, -⟩ := hJk
      have e2 : k 4 2 = S 2 := hc.2.2.2.1.2.2.1
      unfold fX1_spreadValues_s46
      dsimp only
      rw [v0, e2, if_neg (Int.lt_irrefl _), w1 (by omega) (by omega)]
      exact ⟨_, rfl, Or.inl ⟨k, rfl, I1, I3, I4⟩⟩
  · rw [if_neg (by omega)]
    refine lpO_invG (f := fX1_spreadValues_s46 x0 v l1 l) (fun i h => (h, i)) (S 2) (fun f k => k = h) _ (fun f k f0 f1 hI => ?_) (fun k hI => ?_) (Int.le_refl _) h2.1 rfl
    · subst hI
      obtain ⟨-, ⟨⟨v0, -, -, -, -, -, v13, -⟩, ⟨-, -, l9, -⟩, -⟩, hc, -⟩ := hJ
      have e2 : k 4 2 = S 2 := hc.2.2.2.1.2.2.1
      unfold fX1_spreadValues_s46
      dsimp only
      rw [v0, e2, if_pos f1, v13, at_in l0 (by omega), hgl.1]
      simp only [Option.bind_some]
      rw [if_neg a, w1 (by omega) (by omega)]
      exact Or.inl ⟨k, rfl, rfl⟩
    · subst hI
      obtain ⟨-, ⟨⟨v0, -⟩, -⟩, hc, -⟩ := hJ
      have e2 : k 4 2 = S 2 := hc.2.2.2.1.2.2.1
      unfold fX1_spreadValues_s46
      dsimp only
      rw [v0, e2, if_neg (Int.lt_irrefl _), w1 (by omega) (by omega)]
      exact ⟨_, rfl, Or.inl ⟨k, rfl, Fr.rf, hc0, hE⟩⟩
theorem spPass_ok {l1 : Int} {x0 : hH} (hv : JV v) (hs : SOk S) (hJ : JC v S N n h) (hA : ∀ i f, 0 ≤ i → i < n → 0 ≤ f → f < S 2 → AimE v S N n h i f) (hG : ∀ i, 0 ≤ i → i < n → h (v + 9) i = G (N i) ∧ (G (N i) = -1 ∨ 0 ≤ G (N i))) {st : WS} (hW : WFl S st) (hE : EncS v n N h st) (hc0 : st.2.2 = 0) (hl : 0 ≤ l1) (hl2 : l1 < 1000) :
    ∃ r, lpO (fX1_spreadValues_s30 x0 v l1) (h, 0) = some r ∧ ((∃ k, r = .inl (k, l1 + 1) ∧ Fr (wC v) h k ∧ (passS S G st).2.2 = 0 ∧ EncS v n N k (passS S G st)) ∨ (∃ k, r = .inr (0, k) ∧ Fr (wC v) h k ∧ (passS S G st).2.2 = 1)) := by
  have n0 := hJ.2.2.2.2.2.1.2.1
  have n40 := hJ.2.2.2.2.2.1.2.2.1
  have ep : ∀ st, passS S G st = (rng 0 n).foldl (fun st i => rowW S G st (N i)) st := fun st => by
    unfold passS
    rw [hJ.liv, foldl_map']
  have mem : ∀ i, 0 ≤ i → i < n → N i ∈ liv S := fun i i0 i1 => by
    rw [hJ.liv]
    exact List.mem_map.mpr ⟨i, mem_rng.mpr ⟨i0, i1⟩, rfl⟩
  rw [ep]
  refine lpO_invG (f := fX1_spreadValues_s30 x0 v l1) (fun i h => (h, i)) n (fun i k => Fr (wC v) h k ∧ WFl S ((rng 0 i).foldl (fun st i => rowW S G st (N i)) st) ∧ ((rng 0 i).foldl (fun st i => rowW S G st (N i)) st).2.2 = 0 ∧ EncS v n N k ((rng 0 i).foldl (fun st i => rowW S G st (N i)) st)) _ (fun i k i0 i1 hI => ?_) (fun k hI => ?_) (Int.le_refl _) n0 ⟨Fr.rf, by rw [rng_nil (Int.le_refl _)]; exact hW, by rw [rng_nil (Int.le_refl _)]; exact hc0, by rw [rng_nil (Int.le_refl _)]; exact hE⟩
  · obtain ⟨I1, I2, I3, I4⟩ := hI
    have hJk := hJ.fr hv (I1.mono (fun a b z => w_jug z))
    have e9 : k (v + 9) = h (v + 9) := I1.row _ (fun b => by unfold wC; simp; omega)
    have e10 : k (v + 10) = h (v + 10) := I1.row _ (fun b => by unfold wC; simp; omega)
    obtain ⟨r, r1, r2⟩ := spRow_ok (G := G) (l1 := l1) (x0 := k) hv hs hJk (fun i f a b c d => (hA i f a b c d).fr e10) (fun i a b => by rw [e9]; exact hG i a b) I2 I4 I3 i0 i1
    obtain ⟨-, ⟨⟨-, v1, -⟩, -⟩, -, e14, -, -, e13⟩ := hJk
    have eS : (rng 0 (i + 1)).foldl (fun st i => rowW S G st (N i)) st = rowW S G ((rng 0 i).foldl (fun st i => rowW S G st (N i)) st) (N i) := by
      rw [rng_snoc i0, List.foldl_append]
      rfl
    unfold fX1_spreadValues_s30
    dsimp only
    rw [v1, e13, e14, if_pos i1, r1]
    rcases r2 with ⟨k', rfl, q1, q2, q3⟩ | ⟨k', rfl, q1, q2⟩
    · refine Or.inl ⟨k', rfl, I1.tr q1, ?_, ?_, ?_⟩
      · rw [eS]; exact (row_gro hs (mem i i0 i1) I2).1
      · rw [eS]; exact q2
      · rw [eS]; exact q3
    · refine Or.inr ⟨_, rfl, Or.inr ⟨k', rfl, I1.tr q1, ?_⟩⟩
      rw [rng_app (j := i + 1) (by omega) (by omega), List.foldl_append, eS]
      exact wcut (fun x hx st hst => row_gro hs (mem x (by have := (mem_rng.mp hx).1; omega) (mem_rng.mp hx).2) hst) (row_gro hs (mem i i0 i1) I2).1 q2
  · obtain ⟨I1, I2, I3, I4⟩ := hI
    have hJk := hJ.fr hv (I1.mono (fun a b z => w_jug z))
    obtain ⟨-, ⟨⟨-, v1, -⟩, -⟩, -, e14, -, -, e13⟩ := hJk
    unfold fX1_spreadValues_s30
    dsimp only
    rw [v1, e13, e14, if_neg (Int.lt_irrefl _), w1 (by omega) (by omega)]
    exact ⟨_, rfl, Or.inl ⟨k, rfl, I1, I3, I4⟩⟩
theorem spreadV_ok (hv : JV v) (hs : SOk S) (hJ : JC v S N n h) (hA : ∀ i f, 0 ≤ i → i < n → 0 ≤ f → f < S 2 → AimE v S N n h i f) (hG : ∀ i, 0 ≤ i → i < n → h (v + 9) i = G (N i) ∧ (G (N i) = -1 ∨ 0 ≤ G (N i))) {W0 : Int → Int} (hW : WOk S W0) (hE : ∀ i c, 0 ≤ i → i < n → 0 ≤ c → c < 4 → encA (W0 (4 * N i + c)) (h (v + 11) (4 * i + c)) (h (v + 12) (4 * i + c))) {m : Nat} (hm : m ≤ 161) (hS : StopW S G W0 m) :
    ∃ k, fX1_spreadValues h v = some (if (Pk S G W0 m).2.2 = 1 then 0 else 1, k) ∧ Fr (wC v) h k ∧ ((Pk S G W0 m).2.2 = 0 → EncS v n N k (Pk S G W0 m)) := by
  unfold fX1_spreadValues
  simp only [pput, Option.bind_some]
  have f0 : Fr (wC v) h (hup h v 10 1) := Fr.up (by unfold wC; simp)
  have l15 : ∀ k, Fr (wC v) h k → JC v S N n k ∧ (k v 15 = v + 11 ∧ k (v + 11) (-1) = 160) ∧ k (v + 9) = h (v + 9) ∧ k (v + 10) = h (v + 10) := fun k fk => by
    have hJk := hJ.fr hv (fk.mono (fun a b z => w_jug z))
    exact ⟨hJk, ⟨hJk.2.1.1.2.2.2.2.2.2.2.2.1, hJk.2.1.2.1.2.2.2.2.1⟩, fk.row _ (fun b => by unfold wC; simp; omega), fk.row _ (fun b => by unfold wC; simp; omega)⟩
  have key := lpO_invG (f := fX1_spreadValues_s7 (hup h v 10 1) v) (fun i h => (h, i)) 161 (fun l k => Fr (wC v) h k ∧ ∃ j : Nat, (j : Int) = l ∧ j ≤ m ∧ (Pk S G W0 j).2.2 = 0 ∧ EncS v n N k (Pk S G W0 j)) (fun r => ∃ k, r = (if (Pk S G W0 m).2.2 = 1 then 0 else 1, k) ∧ Fr (wC v) h k ∧ ((Pk S G W0 m).2.2 = 0 → EncS v n N k (Pk S G W0 m))) (fun l k l0 l1 hI => ?_) (fun k hI => ?_) (Int.le_refl 0) (by decide) (a := hup h v 10 1) ⟨f0, 0, rfl, by omega, rfl, fun i c i0 i1 c0 c1 => ?_, hup_at⟩
  · obtain ⟨r, r1, k, r2, r3, r4⟩ := key
    exact ⟨k, by rw [r1, r2], r3, r4⟩
  · obtain ⟨I1, j, j1, j2, j3, j4⟩ := hI
    obtain ⟨hJk, ⟨e15, l11⟩, -, -⟩ := l15 k I1
    unfold fX1_spreadValues_s7
    dsimp only
    rw [e15, l11, if_neg (by omega), j4.2]
    by_cases a : j = m
    · subst a
      have mv0 : (Pk S G W0 j).2.1 = 0 := hS.2.resolve_right (by omega)
      rw [mv0, if_pos rfl]
      exact Or.inr ⟨_, rfl, k, by rw [if_neg (by omega)], I1, fun _ => j4⟩
    · have mv1 := (hS.1 j (by omega)).1
      rw [mv1, if_neg (by decide)]
      simp only [pput, Option.bind_some]
      generalize hg : hup k v 10 0 = g
      have fg : Fr (wC v) h g := I1.tr (by rw [← hg]; exact Fr.up (by unfold wC; simp))
      obtain ⟨hJg, -, e9, e10⟩ := l15 g fg
      have gE : EncS v n N g ((Pk S G W0 j).1, 0, (Pk S G W0 j).2.2) := by
        refine ⟨fun i c i0 i1 c0 c1 => ?_, by rw [← hg, hup_at]⟩
        rw [← hg, hup_off (by omega), hup_off (by omega)]
        exact j4.1 i c i0 i1 c0 c1
      have fl := Pk_fl (G := G) hs hW j
      obtain ⟨r, r1, r2⟩ := spPass_ok (G := G) (x0 := g) (l1 := l) hv hs hJg (fun i f a b c d => (hA i f a b c d).fr e10) (fun i a b => by rw [e9]; exact hG i a b) (st := ((Pk S G W0 j).1, 0, (Pk S G W0 j).2.2)) ⟨fl.1, Or.inl rfl, fl.2.2⟩ gE j3 l0 (by omega)
      rw [r1]
      rcases r2 with ⟨k', rfl, q1, q2, q3⟩ | ⟨k', rfl, q1, q2⟩
      · exact Or.inl ⟨k', rfl, fg.tr q1, j + 1, by omega, by omega, q2, q3⟩
      · have em : j + 1 = m := by
          refine Classical.byContradiction (fun z => ?_)
          have := (hS.1 (j + 1) (by omega)).2
          have q2' : (Pk S G W0 (j + 1)).2.2 = 1 := q2
          omega
        have q2' : (Pk S G W0 m).2.2 = 1 := by rw [← em]; exact q2
        exact Or.inr ⟨_, rfl, k', by rw [if_pos q2'], fg.tr q1, fun z => by omega⟩
  · obtain ⟨I1, j, j1, j2, j3, j4⟩ := hI
    obtain ⟨hJk, ⟨e15, l11⟩, -, -⟩ := l15 k I1
    unfold fX1_spreadValues_s7
    dsimp only
    rw [e15, l11, if_pos (by decide)]
    have : j = m := by omega
    subst this
    exact ⟨_, rfl, k, by rw [if_neg (by omega)], I1, fun _ => j4⟩
  · rw [hup_off (by omega), hup_off (by omega)]
    exact hE i c i0 i1 c0 c1
end JUDGE
