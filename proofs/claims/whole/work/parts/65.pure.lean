/-! JUDGING, as numbers: who goes, what is to be, what is so then -/
abbrev WS : Type := (Int → Int) × Int × Int
noncomputable def aheadS (S : Int → Int) (q f : Int) : Int := if S (249 + q) = S (58 + f) then tgS S q f else -1
def upW (W : Int → Int) (j v : Int) : Int → Int := fun i => if i = j then v else W i
def wantS (st : WS) (q c v : Int) : WS := if c < 0 then st else if st.1 (4 * q + c) = -9 then (upW st.1 (4 * q + c) v, 1, st.2.2) else (st.1, st.2.1, if st.2.2 = 0 ∧ st.1 (4 * q + c) = v then 0 else 1)
def othS (S W : Int → Int) (q c : Int) : Prop := W (4 * q + c) ≠ -9 ∧ W (4 * q + c) ≠ S (348 + (4 * q + c))
def allS (S : Int → Int) (st : WS) (q f on : Int) : WS := if on = 2 then wantS (wantS st q (S (64 + f)) (-1)) q (S (70 + f)) (-1) else if on = 3 then wantS (wantS st q (S (64 + f)) (S (8 + (4 * S (58 + f) + S (64 + f))))) q (S (70 + f)) (S (8 + (4 * S (58 + f) + S (70 + f)))) else st
def oneS (S : Int → Int) (W : Int → Int) (f a : Int) : Prop := othS S W a (S (46 + S (82 + f)))
def twoS (S : Int → Int) (W : Int → Int) (f a : Int) : Prop := 0 ≤ S (52 + S (82 + f)) ∧ othS S W a (S (52 + S (82 + f)))
noncomputable def folA (S : Int → Int) (st : WS) (q f a : Int) : WS := @ite WS (oneS S st.1 f a) (Classical.propDecidable _) (wantS st q (S (64 + f)) (st.1 (4 * a + S (46 + S (82 + f))))) st
noncomputable def folS (S : Int → Int) (st : WS) (q f a : Int) : WS := @ite WS (twoS S st.1 f a) (Classical.propDecidable _) (wantS (folA S st q f a) q (S (70 + f)) ((folA S st q f a).1 (4 * a + S (52 + S (82 + f))))) (folA S st q f a)
noncomputable def adS (S G : Int → Int) (st : WS) (q f : Int) : WS :=
  if aheadS S q f < 0 then st else if G (aheadS S q f) < 0 then
    (@ite WS (oneS S st.1 f (aheadS S q f) ∨ twoS S st.1 f (aheadS S q f)) (Classical.propDecidable _) (if S (94 + f) = 1 then folS S st q f (aheadS S q f) else allS S st q f (S (94 + f))) st)
  else allS S st q f (S (88 + f))
theorem lrun_or {P : Int → Prop} : ∀ {l : List Int}, lrun (fun i (_ : Unit) => @ite _ (P i) (Classical.propDecidable _) (.inr i) (.inl ())) (fun _ => (-1 : Int)) l () = -1 ∨ ∃ j, j ∈ l ∧ P j ∧ lrun (fun i (_ : Unit) => @ite _ (P i) (Classical.propDecidable _) (.inr i) (.inl ())) (fun _ => (-1 : Int)) l () = j
  | [] => Or.inl rfl
  | i :: l => by
    unfold lrun
    by_cases h : P i
    · rw [if_pos h]
      exact Or.inr ⟨i, List.mem_cons_self, h, rfl⟩
    · rw [if_neg h]
      rcases lrun_or (P := P) (l := l) with z | ⟨j, j1, j2, j3⟩
      · exact Or.inl z
      · exact Or.inr ⟨j, List.mem_cons_of_mem _ j1, j2, j3⟩
theorem tgS_or {S : Int → Int} {q f : Int} : tgS S q f = -1 ∨ (0 ≤ tgS S q f ∧ tgS S q f < 99 ∧ S (150 + tgS S q f) = 1 ∧ S (249 + tgS S q f) = S (76 + f)) := by
  unfold tgS
  split
  · exact Or.inl rfl
  · rcases lrun_or (l := rng 0 99) (P := fun j => S (150 + j) = 1 ∧ S (249 + j) = S (76 + f) ∧ kyS S j (S (82 + f)) (S (348 + (4 * q + S (64 + f)))) (if S (70 + f) < 0 then 0 else S (348 + (4 * q + S (70 + f))))) with z | ⟨j, j1, j2, j3⟩
    · exact Or.inl z
    · refine Or.inr ?_
      rw [j3]
      obtain ⟨a, b⟩ := mem_rng.mp j1
      exact ⟨a, b, j2.1, j2.2.1⟩
theorem aheadS_or {S : Int → Int} {q f : Int} : aheadS S q f = -1 ∨ (0 ≤ aheadS S q f ∧ aheadS S q f < 99 ∧ S (150 + aheadS S q f) = 1 ∧ S (249 + aheadS S q f) = S (76 + f) ∧ S (249 + q) = S (58 + f)) := by
  unfold aheadS
  by_cases z : S (249 + q) = S (58 + f)
  · rw [if_pos z]
    rcases tgS_or (S := S) (q := q) (f := f) with y | ⟨a, b, c, d⟩
    · exact Or.inl y
    · exact Or.inr ⟨a, b, c, d, z⟩
  · rw [if_neg z]; exact Or.inl rfl
/-- the places of all that lives -/
def prS (S : Int → Int) : List Int := (liv S).flatMap (fun q => (rng 0 4).map (fun c => 4 * q + c))
def muS (S W : Int → Int) : Nat := ((prS S).filter (fun j => decide (W j = -9))).length
theorem mem_liv {S : Int → Int} {q : Int} : q ∈ liv S ↔ (0 ≤ q ∧ q < 99) ∧ S (150 + q) = 1 := by
  unfold liv alv
  rw [List.mem_filter, mem_rng]
  simp
theorem prS_len {S : Int → Int} (hb : (liv S).length ≤ 40) : (prS S).length ≤ 160 := by
  have := flat_len (k := 4) (G := fun q => (rng 0 4).map (fun c => 4 * q + c)) (l := liv S) (fun i _ => by rw [List.length_map, rng_len]; decide)
  unfold prS
  omega
theorem filter_le {α : Type} {p p' : α → Bool} : ∀ {l : List α}, (∀ x ∈ l, p' x = true → p x = true) → (l.filter p').length ≤ (l.filter p).length
  | [], _ => Nat.le_refl _
  | x :: l, h => by
    have ih := filter_le (p := p) (p' := p') (l := l) (fun y hy => h y (List.mem_cons_of_mem _ hy))
    by_cases a : p' x = true
    · rw [List.filter_cons_of_pos a, List.filter_cons_of_pos (h x List.mem_cons_self a)]
      exact Nat.succ_le_succ ih
    · rw [List.filter_cons_of_neg a]
      by_cases b : p x = true
      · rw [List.filter_cons_of_pos b]
        exact Nat.le_succ_of_le ih
      · rw [List.filter_cons_of_neg b]; exact ih
theorem filter_lt {α : Type} {p p' : α → Bool} {x0 : α} : ∀ {l : List α}, (∀ x ∈ l, p' x = true → p x = true) → x0 ∈ l → p x0 = true → p' x0 = false → (l.filter p').length < (l.filter p).length
  | [], _, h0, _, _ => absurd h0 List.not_mem_nil
  | x :: l, h, h0, hp, hp' => by
    have hh : ∀ y ∈ l, p' y = true → p y = true := fun y hy => h y (List.mem_cons_of_mem _ hy)
    rcases List.mem_cons.mp h0 with e | e
    · subst e
      rw [List.filter_cons_of_neg (by rw [hp']; decide), List.filter_cons_of_pos hp]
      exact Nat.lt_succ_of_le (filter_le hh)
    · have ih := filter_lt (p := p) (p' := p') hh e hp hp'
      by_cases a : p' x = true
      · rw [List.filter_cons_of_pos a, List.filter_cons_of_pos (h x List.mem_cons_self a)]
        exact Nat.succ_lt_succ ih
      · rw [List.filter_cons_of_neg a]
        by_cases b : p x = true
        · rw [List.filter_cons_of_pos b]
          exact Nat.lt_succ_of_lt ih
        · rw [List.filter_cons_of_neg b]; exact ih
theorem least_ex {P : Nat → Prop} : ∀ {n : Nat}, (∃ k, k ≤ n ∧ P k) → ∃ m, m ≤ n ∧ P m ∧ ∀ k, k < m → ¬ P k
  | 0, ⟨k, k0, k1⟩ => by
    have : k = 0 := by omega
    subst this
    exact ⟨0, k0, k1, fun k hk => by omega⟩
  | n + 1, ⟨k, k0, k1⟩ => by
    by_cases z : ∃ k, k ≤ n ∧ P k
    · obtain ⟨m, m0, m1, m2⟩ := least_ex z
      exact ⟨m, by omega, m1, m2⟩
    · have : k = n + 1 := Classical.byContradiction (fun y => z ⟨k, by omega, k1⟩)
      subst this
      exact ⟨n + 1, Nat.le_refl _, k1, fun k hk hp => z ⟨k, by omega, hp⟩⟩
def WOk (S W : Int → Int) : Prop := ∀ q c, 0 ≤ q → q < 99 → 0 ≤ c → c < 4 → W (4 * q + c) = -9 ∨ ((-1 ≤ W (4 * q + c) ∧ W (4 * q + c) ≤ 99) ∧ S (150 + q) = 1 ∧ c < S (4 + S (249 + q)))
def WFl (S : Int → Int) (st : WS) : Prop := WOk S st.1 ∧ (st.2.1 = 0 ∨ st.2.1 = 1) ∧ (st.2.2 = 0 ∨ st.2.2 = 1)
def Gro (S : Int → Int) (st st' : WS) : Prop := muS S st'.1 ≤ muS S st.1 ∧ (st'.2.1 = 1 → st.2.1 = 1 ∨ muS S st'.1 < muS S st.1) ∧ (st.2.2 = 1 → st'.2.2 = 1) ∧ (∀ j, st.1 j ≠ -9 → st'.1 j = st.1 j)
theorem Gro.rf {S : Int → Int} {st : WS} : Gro S st st := ⟨Nat.le_refl _, fun z => Or.inl z, fun z => z, fun _ _ => rfl⟩
theorem Gro.tr {S : Int → Int} {a b c : WS} (h1 : Gro S a b) (h2 : Gro S b c) : Gro S a c := by
  obtain ⟨p1, p2, p3, p4⟩ := h1
  obtain ⟨q1, q2, q3, q4⟩ := h2
  refine ⟨Nat.le_trans q1 p1, fun z => ?_, fun z => q3 (p3 z), fun j hj => ?_⟩
  · rcases q2 z with y | y
    · rcases p2 y with x | x
      · exact Or.inl x
      · exact Or.inr (by omega)
    · exact Or.inr (by omega)
  · rw [q4 j (by rw [p4 j hj]; exact hj), p4 j hj]
theorem want_gro {S : Int → Int} {st : WS} {q c v : Int} (hf : WFl S st) (q0 : 0 ≤ q) (q1 : q < 99) (ha : S (150 + q) = 1) (hc : c < 0 ∨ (0 ≤ c ∧ c < 4 ∧ c < S (4 + S (249 + q)))) (v0 : -1 ≤ v) (v1 : v ≤ 99) : WFl S (wantS st q c v) ∧ Gro S st (wantS st q c v) := by
  obtain ⟨f1, f2, f3⟩ := hf
  unfold wantS
  by_cases a : c < 0
  · rw [if_pos a]; exact ⟨⟨f1, f2, f3⟩, Gro.rf⟩
  · rw [if_neg a]
    by_cases b : st.1 (4 * q + c) = -9
    · rw [if_pos b]
      have hm : 4 * q + c ∈ prS S := by
        unfold prS
        rw [List.mem_flatMap]
        exact ⟨q, mem_liv.mpr ⟨⟨q0, q1⟩, ha⟩, List.mem_map.mpr ⟨c, mem_rng.mpr (by omega), rfl⟩⟩
      have hlt : muS S (upW st.1 (4 * q + c) v) < muS S st.1 := by
        unfold muS
        refine filter_lt (x0 := 4 * q + c) (fun x _ hx => ?_) hm (by simpa using b) ?_
        · unfold upW at hx
          by_cases e : x = 4 * q + c
          · rw [e]; simpa using b
          · rw [if_neg e] at hx; exact hx
        · unfold upW
          rw [if_pos rfl]
          simp
          omega
      refine ⟨⟨fun q' c' a0 a1 b0 b1 => ?_, Or.inr rfl, f3⟩, Nat.le_of_lt hlt, fun _ => Or.inr hlt, fun z => z, fun j hj => ?_⟩
      · dsimp only [upW]
        by_cases e : 4 * q' + c' = 4 * q + c
        · rw [if_pos e]
          have e1 : q' = q := by omega
          have e2 : c' = c := by omega
          rw [e1, e2]
          exact Or.inr ⟨⟨v0, v1⟩, ha, by omega⟩
        · rw [if_neg e]
          exact f1 q' c' a0 a1 b0 b1
      · dsimp only [upW]
        rw [if_neg (fun e => hj (by rw [e]; exact b))]
    · rw [if_neg b]
      refine ⟨⟨f1, f2, ?_⟩, Nat.le_refl _, fun z => Or.inl z, fun z => ?_, fun _ _ => rfl⟩
      · dsimp only; split
        · exact Or.inl rfl
        · exact Or.inr rfl
      · dsimp only; rw [if_neg (by omega)]
section PURE
variable {S G : Int → Int}
theorem all_gro {st : WS} {q f on : Int} (hs : SOk S) (hf : WFl S st) (q0 : 0 ≤ q) (q1 : q < 99) (ha : S (150 + q) = 1) (f0 : 0 ≤ f) (f1 : f < S 2) (ht : S (249 + q) = S (58 + f)) : WFl S (allS S st q f on) ∧ Gro S st (allS S st q f on) := by
  have hF := hs.2.2.2.2.2.2.2.2.1 f f0 f1
  have hw := hs.2.2.2.2.1 _ hF.1.1 hF.1.2
  have hd := hs.2.2.2.2.2.1
  have c1 : S (64 + f) < 0 ∨ (0 ≤ S (64 + f) ∧ S (64 + f) < 4 ∧ S (64 + f) < S (4 + S (249 + q))) := by rw [ht]; omega
  have c2 : S (70 + f) < 0 ∨ (0 ≤ S (70 + f) ∧ S (70 + f) < 4 ∧ S (70 + f) < S (4 + S (249 + q))) := by rw [ht]; omega
  have h4 := hs.1
  have two : ∀ {v w : Int}, -1 ≤ v → v ≤ 99 → (S (70 + f) < 0 ∨ (-1 ≤ w ∧ w ≤ 99)) → WFl S (wantS (wantS st q (S (64 + f)) v) q (S (70 + f)) w) ∧ Gro S st (wantS (wantS st q (S (64 + f)) v) q (S (70 + f)) w) := by
    intro v w a b c
    obtain ⟨x1, x2⟩ := want_gro hf q0 q1 ha c1 a b
    by_cases z : S (70 + f) < 0
    · have e : wantS (wantS st q (S (64 + f)) v) q (S (70 + f)) w = wantS st q (S (64 + f)) v := if_pos z
      rw [e]; exact ⟨x1, x2⟩
    · obtain ⟨y1, y2⟩ := want_gro x1 q0 q1 ha c2 (c.resolve_left z).1 (c.resolve_left z).2
      exact ⟨y1, x2.tr y2⟩
  unfold allS
  by_cases a : on = 2
  · rw [if_pos a]; exact two (by decide) (by decide) (Or.inr (by decide))
  · rw [if_neg a]
    by_cases b : on = 3
    · rw [if_pos b]
      have d1 := hd (4 * S (58 + f) + S (64 + f)) (by omega) (by omega)
      refine two d1.1 d1.2 ?_
      by_cases z : S (70 + f) < 0
      · exact Or.inl z
      · exact Or.inr (hd (4 * S (58 + f) + S (70 + f)) (by omega) (by omega))
    · rw [if_neg b]; exact ⟨hf, Gro.rf⟩
theorem ad_gro {st : WS} {q f : Int} (hs : SOk S) (hf : WFl S st) (q0 : 0 ≤ q) (q1 : q < 99) (ha : S (150 + q) = 1) (f0 : 0 ≤ f) (f1 : f < S 2) : WFl S (adS S G st q f) ∧ Gro S st (adS S G st q f) := by
  have hF := hs.2.2.2.2.2.2.2.2.1 f f0 f1
  have hw := hs.2.2.2.2.1 _ hF.1.1 hF.1.2
  have hk := hs.2.2.2.2.2.2.2.1 _ hF.2.2.2.2.1.1 hF.2.2.2.2.1.2
  have hw2 := hs.2.2.2.2.1 _ hk.1.1 hk.1.2
  unfold adS
  rcases aheadS_or (S := S) (q := q) (f := f) with z | ⟨a0, a1, a2, a3, a4⟩
  · rw [if_pos (by omega)]; exact ⟨hf, Gro.rf⟩
  · rw [if_neg (by omega)]
    have c1 : S (64 + f) < 0 ∨ (0 ≤ S (64 + f) ∧ S (64 + f) < 4 ∧ S (64 + f) < S (4 + S (249 + q))) := by rw [a4]; omega
    have c2 : S (70 + f) < 0 ∨ (0 ≤ S (70 + f) ∧ S (70 + f) < 4 ∧ S (70 + f) < S (4 + S (249 + q))) := by rw [a4]; omega
    generalize aheadS S q f = a at *
    have hA : ∀ on, WFl S (allS S st q f on) ∧ Gro S st (allS S st q f on) := fun on => all_gro hs hf q0 q1 ha f0 f1 a4
    by_cases b : G a < 0
    · rw [if_pos b]
      by_cases c : oneS S st.1 f a ∨ twoS S st.1 f a
      · rw [if_pos c]
        by_cases d : S (94 + f) = 1
        · rw [if_pos d]
          have hA1 : WFl S (folA S st q f a) ∧ Gro S st (folA S st q f a) := by
            unfold folA
            by_cases e : oneS S st.1 f a
            · rw [if_pos e]
              have := (hf.1 a (S (46 + S (82 + f))) a0 a1 (by omega) (by omega)).resolve_left e.1
              exact want_gro hf q0 q1 ha c1 this.1.1 this.1.2
            · rw [if_neg e]; exact ⟨hf, Gro.rf⟩
          unfold folS
          by_cases e : twoS S st.1 f a
          · rw [if_pos e]
            have k1 := hA1.2.2.2.2 _ e.2.1
            have := (hA1.1.1 a (S (52 + S (82 + f))) a0 a1 e.1 (by omega)).resolve_left (by rw [k1]; exact e.2.1)
            obtain ⟨y1, y2⟩ := want_gro hA1.1 q0 q1 ha c2 this.1.1 this.1.2
            exact ⟨y1, hA1.2.tr y2⟩
          · rw [if_neg e]; exact hA1
        · rw [if_neg d]; exact hA _
      · rw [if_neg c]; exact ⟨hf, Gro.rf⟩
    · rw [if_neg b]; exact hA _
theorem fold_gro {g : WS → Int → WS} : ∀ {l : List Int} {st : WS}, (∀ x ∈ l, ∀ st, WFl S st → WFl S (g st x) ∧ Gro S st (g st x)) → WFl S st → WFl S (l.foldl g st) ∧ Gro S st (l.foldl g st)
  | [], _, _, hf => ⟨hf, Gro.rf⟩
  | x :: l, st, h, hf => by
    obtain ⟨a, b⟩ := h x List.mem_cons_self st hf
    obtain ⟨c, d⟩ := fold_gro (l := l) (fun y hy => h y (List.mem_cons_of_mem _ hy)) a
    exact ⟨c, b.tr d⟩
noncomputable def rowW (S G : Int → Int) (st : WS) (q : Int) : WS := if G q < 0 then (rng 0 (S 2)).foldl (fun st f => adS S G st q f) st else st
noncomputable def passS (S G : Int → Int) (st : WS) : WS := (liv S).foldl (rowW S G) st
theorem row_gro (hs : SOk S) {q : Int} (hq : q ∈ liv S) {st : WS} (hf : WFl S st) : WFl S (rowW S G st q) ∧ Gro S st (rowW S G st q) := by
  obtain ⟨⟨q0, q1⟩, ha⟩ := mem_liv.mp hq
  unfold rowW
  by_cases z : G q < 0
  · rw [if_pos z]
    exact fold_gro (fun f hf' st hst => ad_gro hs hst q0 q1 ha (mem_rng.mp hf').1 (mem_rng.mp hf').2) hf
  · rw [if_neg z]; exact ⟨hf, Gro.rf⟩
theorem pass_gro (hs : SOk S) {st : WS} (hf : WFl S st) : WFl S (passS S G st) ∧ Gro S st (passS S G st) := fold_gro (fun _ hq _ hst => row_gro hs hq hst) hf
noncomputable def Pk (S G W0 : Int → Int) : Nat → WS
  | 0 => (W0, 1, 0)
  | k + 1 => passS S G ((Pk S G W0 k).1, 0, (Pk S G W0 k).2.2)
def StopW (S G W0 : Int → Int) (m : Nat) : Prop := (∀ k, k < m → (Pk S G W0 k).2.1 = 1 ∧ (Pk S G W0 k).2.2 = 0) ∧ ((Pk S G W0 m).2.1 = 0 ∨ (Pk S G W0 m).2.2 = 1)
theorem Pk_fl {W0 : Int → Int} (hs : SOk S) (hW : WOk S W0) : ∀ k, WFl S (Pk S G W0 k)
  | 0 => ⟨hW, Or.inr rfl, Or.inl rfl⟩
  | k + 1 => by
    have := Pk_fl hs hW k
    exact (pass_gro hs (st := ((Pk S G W0 k).1, 0, (Pk S G W0 k).2.2)) ⟨this.1, Or.inl rfl, this.2.2⟩).1
theorem stopW_ex {W0 : Int → Int} (hs : SOk S) (hb : (liv S).length ≤ 40) (hW : WOk S W0) : ∃ m, m ≤ 161 ∧ StopW S G W0 m := by
  have ex : ∃ k, k ≤ 161 ∧ ((Pk S G W0 k).2.1 = 0 ∨ (Pk S G W0 k).2.2 = 1) := by
    refine Classical.byContradiction (fun z => ?_)
    have all : ∀ k, k ≤ 161 → (Pk S G W0 k).2.1 = 1 ∧ (Pk S G W0 k).2.2 = 0 := fun k hk => by
      have f := Pk_fl (G := G) hs hW k
      exact ⟨f.2.1.resolve_left (fun y => z ⟨k, hk, Or.inl y⟩), f.2.2.resolve_right (fun y => z ⟨k, hk, Or.inr y⟩)⟩
    have dec : ∀ k, k ≤ 161 → muS S (Pk S G W0 k).1 + k ≤ 160 := by
      intro k
      induction k with
      | zero =>
        intro _
        have := prS_len hb
        have : muS S (Pk S G W0 0).1 ≤ (prS S).length := List.length_filter_le _ _
        omega
      | succ k ih =>
        intro hk
        have i := ih (by omega)
        have f := Pk_fl (G := G) hs hW k
        obtain ⟨-, p2⟩ := pass_gro (G := G) hs (st := ((Pk S G W0 k).1, 0, (Pk S G W0 k).2.2)) ⟨f.1, Or.inl rfl, f.2.2⟩
        have e1 := (all (k + 1) hk).1
        have := (p2.2.1 e1).resolve_left (fun z => by cases z)
        have e2 : muS S (Pk S G W0 (k + 1)).1 < muS S (Pk S G W0 k).1 := this
        omega
    have := dec 161 (Nat.le_refl _)
    omega
  obtain ⟨m, m0, m1, m2⟩ := least_ex ex
  refine ⟨m, m0, fun k hk => ?_, m1⟩
  have f := Pk_fl (G := G) hs hW k
  have := m2 k hk
  exact ⟨f.2.1.resolve_left (fun y => this (Or.inl y)), f.2.2.resolve_right (fun y => this (Or.inr y))⟩
/-- who goes -/
def cand (S G : Int → Int) (q : Int) : Prop := S (150 + q) = 1 ∧ G q < 0 ∧ ∃ f, 0 ≤ f ∧ f < S 2 ∧ S (88 + f) = 1 ∧ 0 ≤ aheadS S q f ∧ 0 ≤ G (aheadS S q f)
noncomputable def stG (S : Int → Int) (n : Int) (G : Int → Int) : Int → Int := fun q => @ite _ (0 ≤ q ∧ q < 99 ∧ cand S G q) (Classical.propDecidable _) n (G q)
noncomputable def Rk (S G0 : Int → Int) : Nat → Int → Int
  | 0 => G0
  | k + 1 => stG S ((k : Int) + 1) (Rk S G0 k)
def StopG (S G0 : Int → Int) (K : Nat) : Prop := (∀ k, k < K → ∃ q, 0 ≤ q ∧ q < 99 ∧ cand S (Rk S G0 k) q) ∧ ¬ ∃ q, 0 ≤ q ∧ q < 99 ∧ cand S (Rk S G0 K) q
def GOk (S G : Int → Int) (k : Int) : Prop := (∀ q, 0 ≤ q → q < 99 → (G q = -1 ∨ (0 ≤ G q ∧ G q ≤ k)) ∧ (S (150 + q) ≠ 1 → G q = -1)) ∧ ∀ q f, 0 ≤ q → q < 99 → S (150 + q) = 1 → G q < 0 → 0 ≤ f → f < S 2 → S (88 + f) = 1 → 0 ≤ aheadS S q f → 0 ≤ G (aheadS S q f) → G (aheadS S q f) = k
theorem stG_ok {k : Int} (k0 : 0 ≤ k) (hG : GOk S G k) : GOk S (stG S (k + 1) G) (k + 1) := by
  obtain ⟨g1, g2⟩ := hG
  refine ⟨fun q q0 q1 => ?_, fun q f q0 q1 ha hq f0 f1 h88 ha0 hg => ?_⟩
  · unfold stG
    by_cases z : 0 ≤ q ∧ q < 99 ∧ cand S G q
    · rw [if_pos z]
      exact ⟨Or.inr (by omega), fun y => absurd z.2.2.1 y⟩
    · rw [if_neg z]
      obtain ⟨a, b⟩ := g1 q q0 q1
      exact ⟨by omega, b⟩
  · have nc : ¬ (0 ≤ q ∧ q < 99 ∧ cand S G q) := fun z => by
      unfold stG at hq; rw [if_pos z] at hq; omega
    have hq2 : G q < 0 := by unfold stG at hq; rw [if_neg nc] at hq; exact hq
    have hn : G (aheadS S q f) < 0 := Int.lt_of_not_ge (fun y => nc ⟨q0, q1, ha, hq2, f, f0, f1, h88, ha0, y⟩)
    unfold stG at hg ⊢
    by_cases z : 0 ≤ aheadS S q f ∧ aheadS S q f < 99 ∧ cand S G (aheadS S q f)
    · rw [if_pos z]
    · rw [if_neg z] at hg; omega
theorem Rk_ok {G0 : Int → Int} (h0 : GOk S G0 0) : ∀ k : Nat, GOk S (Rk S G0 k) k
  | 0 => h0
  | k + 1 => stG_ok (by omega) (Rk_ok h0 k)
theorem stopG_ex {G0 : Int → Int} (hb : (liv S).length ≤ 40) : ∃ K, K ≤ 40 ∧ StopG S G0 K := by
  have ex : ∃ k, k ≤ 40 ∧ ¬ ∃ q, 0 ≤ q ∧ q < 99 ∧ cand S (Rk S G0 k) q := by
    refine Classical.byContradiction (fun z => ?_)
    have all : ∀ k, k ≤ 40 → ∃ q, 0 ≤ q ∧ q < 99 ∧ cand S (Rk S G0 k) q := fun k hk => Classical.byContradiction (fun y => z ⟨k, hk, y⟩)
    have dec : ∀ k, k ≤ 41 → ((liv S).filter (fun q => decide (Rk S G0 k q < 0))).length + k ≤ 40 := by
      intro k
      induction k with
      | zero =>
        intro _
        have : ((liv S).filter (fun q => decide (Rk S G0 0 q < 0))).length ≤ (liv S).length := List.length_filter_le _ _
        omega
      | succ k ih =>
        intro hk
        have i := ih (by omega)
        obtain ⟨q, q0, q1, q2⟩ := all k (by omega)
        have : ((liv S).filter (fun q => decide (Rk S G0 (k + 1) q < 0))).length < ((liv S).filter (fun q => decide (Rk S G0 k q < 0))).length := by
          refine filter_lt (x0 := q) (fun x _ hx => ?_) (mem_liv.mpr ⟨⟨q0, q1⟩, q2.1⟩) (by simpa using q2.2.1) ?_
          · have hx2 : stG S ((k : Int) + 1) (Rk S G0 k) x < 0 := of_decide_eq_true hx
            unfold stG at hx2
            by_cases y : 0 ≤ x ∧ x < 99 ∧ cand S (Rk S G0 k) x
            · rw [if_pos y] at hx2; omega
            · rw [if_neg y] at hx2; simpa using hx2
          · have : ¬ stG S ((k : Int) + 1) (Rk S G0 k) q < 0 := by
              unfold stG; rw [if_pos ⟨q0, q1, q2⟩]; omega
            exact decide_eq_false this
        omega
    have := dec 41 (Nat.le_refl _)
    omega
  obtain ⟨m, m0, m1, m2⟩ := least_ex ex
  exact ⟨m, m0, fun k hk => Classical.byContradiction (fun y => m2 k hk y), m1⟩
end PURE
