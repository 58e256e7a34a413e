/-! JUDGING, the class's: a row more; all of it -/
def insS (S T : Int → Int) : Int → Int := fun i => if i = 148 then S 148 + 1 else if i = 150 + S 148 then 1 else if i = 249 + S 148 then T 1 else if 348 + 4 * S 148 ≤ i ∧ i < 352 + 4 * S 148 then (if i - (348 + 4 * S 148) < S (4 + T 1) then T (3 + (i - (348 + 4 * S 148))) else -1) else S i
section INS
variable {S T : Int → Int}
theorem is_al {q : Int} (h0 : 0 ≤ S 148) (h1 : S 148 < 99) (q0 : 0 ≤ q) (q1 : q < 99) : insS S T (150 + q) = if q = S 148 then 1 else S (150 + q) := by
  unfold insS
  by_cases z : q = S 148
  · rw [if_neg (by omega), if_pos (by omega), if_pos z]
  · rw [if_neg (by omega), if_neg (by omega), if_neg (by omega), if_neg (by omega), if_neg z]
theorem is_tb {q : Int} (h0 : 0 ≤ S 148) (h1 : S 148 < 99) (q0 : 0 ≤ q) (q1 : q < 99) : insS S T (249 + q) = if q = S 148 then T 1 else S (249 + q) := by
  unfold insS
  by_cases z : q = S 148
  · rw [if_neg (by omega), if_neg (by omega), if_pos (by omega), if_pos z]
  · rw [if_neg (by omega), if_neg (by omega), if_neg (by omega), if_neg (by omega), if_neg z]
theorem is_ce {q c : Int} (h0 : 0 ≤ S 148) (h1 : S 148 < 99) (q0 : 0 ≤ q) (q1 : q < 99) (c0 : 0 ≤ c) (c1 : c < 4) : insS S T (348 + (4 * q + c)) = if q = S 148 then (if c < S (4 + T 1) then T (3 + c) else -1) else S (348 + (4 * q + c)) := by
  unfold insS
  by_cases z : q = S 148
  · rw [if_neg (by omega), if_neg (by omega), if_neg (by omega), if_pos (by omega), if_pos z, show 348 + (4 * q + c) - (348 + 4 * S 148) = c by omega]
  · rw [if_neg (by omega), if_neg (by omega), if_neg (by omega), if_neg (by omega), if_neg z]
theorem is_lo {i : Int} (h0 : 0 ≤ S 148) (h1 : S 148 < 99) (h : i < 150 ∨ 744 ≤ i) (h2 : i ≠ 148) : insS S T i = S i := by
  unfold insS
  rw [if_neg h2, if_neg (by omega), if_neg (by omega), if_neg (by omega)]
end INS
def fullS (S : Int → Int) : Prop := 40 ≤ (liv S).length ∨ 99 ≤ S 148
def inC (v a b : Int) : Bool := (a == v && b == 9) || rwC (v + 1) a b
theorem in_jug {v a b : Int} (z : inC v a b = true) : jugC v a b = true := by
  unfold inC rwC at z; unfold jugC rwC; simp at z ⊢; omega
section JUDGE
variable {v n : Int} {S N T : Int → Int} {h : hH}
theorem insert_ok {l : Int} (hv : JV v) (hJ : JC v S N n h) (h14 : h 14 1 = S 148) (h148 : 0 ≤ S 148 ∧ S 148 ≤ 99) (hal : ∀ q, 0 ≤ q → q < 99 → S (150 + q) = 1 → q < S 148) (hT : LOk S T) (hl : LinC S h l T) (hk : T 0 = 0) : ∃ b k, fX1_insert h v 37 l = some (b, k) ∧ Fr (inC v) h k ∧ ((fullS S ∧ b = 0 ∧ k = h) ∨ (¬ fullS S ∧ b = 1 ∧ k v 9 = 1 ∧ RowsS k (v + 1) (insS S T) ∧ k (v + 1) 1 = S 148 + 1)) := by
  have hJ' := hJ
  have hliv := hJ.liv
  obtain ⟨hL, ⟨⟨v0, v1, v2, -⟩, -, hAr, -⟩, hc, e14, e15, hD, e13⟩ := hJ
  have n0 := hD.2.1
  have n40 := hD.2.2.1
  have ra := hD.2.2.2.2.2.2.1
  have hR := hc.2.1
  have hlen : ((liv S).length : Int) = n := by
    rw [hliv, List.length_map, rng_len]; omega
  obtain ⟨⟨l0, l1⟩, -, p1, -, -, pv, -⟩ := hl
  unfold fX1_insert fX3_hasRoom
  rw [v1, e13, e14, h14]
  by_cases a : n < 40
  · rw [if_pos a]
    by_cases b : S 148 < 99
    · rw [if_pos b]
      simp only [Option.bind_some, if_neg (show ¬ (1 : Int) = 0 by decide)]
      have farv : v + 1 + 3 < 14 ∨ 14 + 3 < v + 1 := by rcases hv with rfl | rfl <;> omega
      obtain ⟨g, g1, ⟨c0, c1, c2, c3, c4⟩, g3⟩ := copyRows_ok hc.1 hAr farv
      rw [v2, g1]
      simp only [Option.bind_some]
      have fg : Fr (inC v) h g := g3.mono (fun a b z => by unfold inC; rw [z]; simp)
      have Ag : RowsAt g (v + 1) := hAr.rw g3
      have gr : ∀ x : hH, Fr (inC v) h x → Lay x ∧ x 38 = h 38 := fun x fx => ⟨(hJ'.fr hv (fx.mono (fun a b z => in_jug z))).1, jug_row (fx.mono (fun a b z => in_jug z)) (by rcases hv with rfl | rfl <;> omega)⟩
      obtain ⟨Lg, g38⟩ := gr g fg
      have gv : g v = h v := g3.row v (fun b => rwC_far (by omega))
      rw [part_ok Lg l0 l1 (by decide) (by decide), g38, p1, gv, v2]
      simp only [Option.bind_some]
      unfold fX3_add
      rw [Ag.1, c0, c1, e14, h14, put_in n0 (by rw [Ag.2.2.2.1]; omega)]
      simp only [Option.bind_some]
      generalize hq : hup g (v + 1 + 1) n (S 148) = q
      have fq : Fr (rwC (v + 1)) g q := by rw [← hq]; exact Fr.up (by unfold rwC; simp; omega)
      have Aq := Ag.rw fq
      have q0 : q (v + 1) = g (v + 1) := by rw [← hq, hup_off (by omega)]
      rw [Aq.2.1, q0, c0, e14, put_in n0 (by rw [Aq.2.2.2.2.1]; omega)]
      simp only [Option.bind_some]
      generalize hk' : hup q (v + 1 + 2) n (T 1) = k
      have fk : Fr (rwC (v + 1)) q k := by rw [← hk']; exact Fr.up (by unfold rwC; simp; omega)
      have k0 : k (v + 1) = g (v + 1) := by rw [← hk', hup_off (by omega), q0]
      have k1 : ∀ i, k (v + 1 + 1) i = if i = n then S 148 else g (v + 1 + 1) i := fun i => by
        rw [← hk', hup_off (by omega), ← hq]
        by_cases e : i = n
        · rw [e, hup_at, if_pos rfl]
        · rw [hup_ne (fun z => e z.2), if_neg e]
      have k2 : ∀ i, k (v + 1 + 2) i = if i = n then T 1 else g (v + 1 + 2) i := fun i => by
        rw [← hk']
        by_cases e : i = n
        · rw [e, hup_at, if_pos rfl]
        · rw [hup_ne (fun z => e z.2), if_neg e, ← hq, hup_off (by omega)]
      have k3 : k (v + 1 + 3) = g (v + 1 + 3) := by rw [← hk', hup_off (by omega), ← hq, hup_off (by omega)]
      have hw : ∀ c, 0 ≤ c → c < 4 → h 38 (19 * l + (3 + c)) = if c < S (4 + T 1) then T (3 + c) else -1 := pv hk
      have loop := lpO_inv (f := fX3_add_s30 k (v + 1) 37 l) (h := k) 4 (fun j x => Fr (rwC (v + 1)) k x ∧ x (v + 1) = k (v + 1) ∧ x (v + 1 + 1) = k (v + 1 + 1) ∧ x (v + 1 + 2) = k (v + 1 + 2) ∧ ∀ i, 0 ≤ i → i < 160 → x (v + 1 + 3) i = if 4 * n ≤ i ∧ i < 4 * n + j then (if i - 4 * n < S (4 + T 1) then T (3 + (i - 4 * n)) else -1) else k (v + 1 + 3) i) (fun r => Fr (rwC (v + 1)) k r ∧ r (v + 1) 0 = n + 1 ∧ r (v + 1) 1 = S 148 + 1 ∧ r (v + 1 + 1) = k (v + 1 + 1) ∧ r (v + 1 + 2) = k (v + 1 + 2) ∧ ∀ i, 0 ≤ i → i < 160 → r (v + 1 + 3) i = if 4 * n ≤ i ∧ i < 4 * n + 4 then (if i - 4 * n < S (4 + T 1) then T (3 + (i - 4 * n)) else -1) else k (v + 1 + 3) i) (fun j x j0 j1 hI => ?_) (fun x hI => ?_) (Int.le_refl _) (by decide) ⟨Fr.rf, rfl, rfl, rfl, fun i i0 i1 => by rw [if_neg (by omega)]⟩
      · obtain ⟨r, r1, r2, r3, r4, r5, r6, r7⟩ := loop
        rw [r1]
        simp only [Option.bind_some, pput]
        have fr : Fr (rwC (v + 1)) h r := g3.tr (fq.tr (fk.tr r2))
        have rv : r v = h v := fr.row v (fun b => rwC_far (by omega))
        refine ⟨1, _, rfl, (fr.mono (fun a b z => by unfold inC; rw [z]; simp)).tr (Fr.up (by unfold inC; simp)), Or.inr ⟨fun z => by unfold fullS at z; omega, rfl, hup_at, ?_, ?_⟩⟩
        · have gN : ∀ i, 0 ≤ i → i < n → g (v + 1 + 1) i = N i ∧ g (v + 1 + 2) i = S (249 + N i) ∧ ∀ c, 0 ≤ c → c < 4 → g (v + 1 + 3) (4 * i + c) = S (348 + (4 * N i + c)) := fun i i0 i1 => by
            obtain ⟨m0, m1, m2, m3, m4⟩ := hR.2.2.1 i i0 (by rw [e14]; exact i1)
            rw [show (14 : Int) + 1 = 15 from rfl, e15] at m3 m4
            refine ⟨?_, ?_, fun c x y => ?_⟩
            · have := c2 i i0 (by omega)
              rw [show (14 : Int) + 1 = 15 from rfl, e15] at this
              exact this
            · rw [c3 i i0 (by omega)]; exact m3
            · rw [c4 (4 * i + c) (by omega) (by omega)]; exact m4 c x y
          unfold RowsS RowsR
          rw [hup_off (by omega), hup_off (by omega), hup_off (by omega), hup_off (by omega), r3, r5, r6]
          refine ⟨by omega, by omega, fun i i0 i1 => ?_, fun i j i0 ij j1 => ?_, fun u u0 u1 => ?_, fun u u0 u1 hu => ?_⟩
          · rw [k1, k2]
            dsimp only
            by_cases e : i = n
            · rw [if_pos e, if_pos e, is_al h148.1 b h148.1 b, if_pos rfl, is_tb h148.1 b h148.1 b, if_pos rfl]
              refine ⟨h148.1, b, rfl, rfl, fun c d0 d1 => ?_⟩
              rw [is_ce h148.1 b h148.1 b d0 d1, if_pos rfl, r7 _ (by omega) (by omega), if_pos (by omega), e, show 4 * n + c - 4 * n = c by omega]
            · obtain ⟨g1, g2, g4⟩ := gN i i0 (by omega)
              obtain ⟨m0, m1, m2⟩ := ra i i0 (by omega)
              have ne : N i ≠ S 148 := by have := hal _ m0 m1 m2; omega
              rw [if_neg e, if_neg e, g1, g2, is_al h148.1 b m0 m1, if_neg ne, is_tb h148.1 b m0 m1, if_neg ne]
              refine ⟨m0, m1, m2, rfl, fun c d0 d1 => ?_⟩
              rw [is_ce h148.1 b m0 m1 d0 d1, if_neg ne, r7 _ (by omega) (by omega), if_neg (by omega), k3, g4 c d0 d1]
          · rw [k1, k1, if_neg (show ¬ i = n by omega)]
            obtain ⟨g1, -, -⟩ := gN i i0 (by omega)
            obtain ⟨m0, m1, m2⟩ := ra i i0 (by omega)
            by_cases e : j = n
            · rw [if_pos e, g1]; exact hal _ m0 m1 m2
            · obtain ⟨g2, -, -⟩ := gN j (by omega) (by omega)
              rw [if_neg e, g1, g2]
              exact hD.2.2.2.2.2.2.2.1 i j i0 ij (by omega)
          · dsimp only
            rw [is_al h148.1 b u0 u1]
            split
            · exact Or.inr rfl
            · exact hR.2.2.2.2.1 u u0 u1
          · dsimp only at hu
            rw [is_al h148.1 b u0 u1] at hu
            by_cases e : u = S 148
            · exact ⟨n, n0, by omega, by rw [k1, if_pos rfl, e]⟩
            · rw [if_neg e] at hu
              obtain ⟨i, i0, i1, i2⟩ := hD.2.2.2.2.2.2.2.2 u u0 u1 hu
              obtain ⟨g1, -, -⟩ := gN i i0 i1
              exact ⟨i, i0, by omega, by rw [k1, if_neg (by omega), g1, i2]⟩
        · rw [hup_off (by omega), r4]
      · obtain ⟨I1, I2, I3, I4, I5⟩ := hI
        have fx : Fr (inC v) h x := (g3.tr (fq.tr (fk.tr I1))).mono (fun a b z => by unfold inC; rw [z]; simp)
        obtain ⟨Lx, x38⟩ := gr x fx
        have Ax : RowsAt x (v + 1) := (Aq.rw fk).rw I1
        unfold fX3_add_s30
        dsimp only
        rw [if_pos j1, w32_id (by omega) (by omega), part_ok Lx l0 l1 (by omega) (by omega), x38, hw j j0 j1, I2, k0, c0, e14]
        simp only [Option.bind_some]
        rw [setValue_ok Ax n0 a j0 j1]
        simp only [Option.bind_some]
        rw [w1 (by omega) (by omega)]
        refine ⟨_, rfl, I1.tr (Fr.up (by unfold rwC; simp; omega)), ?_, ?_, ?_, fun i i0 i1 => ?_⟩
        · rw [hup_off (by omega), I2, k0]
        · rw [hup_off (by omega)]; exact I3
        · rw [hup_off (by omega)]; exact I4
        · by_cases e : i = 4 * n + j
          · rw [e, hup_at, if_pos (show 4 * n ≤ 4 * n + j ∧ 4 * n + j < 4 * n + (j + 1) by omega), show 4 * n + j - 4 * n = j by omega]
          · rw [hup_ne (fun z => e z.2), I5 i i0 i1]
            by_cases y : 4 * n ≤ i ∧ i < 4 * n + j
            · rw [if_pos y, if_pos (show 4 * n ≤ i ∧ i < 4 * n + (j + 1) by omega)]
            · rw [if_neg y, if_neg (show ¬ (4 * n ≤ i ∧ i < 4 * n + (j + 1)) by omega)]
      · obtain ⟨I1, I2, I3, I4, I5⟩ := hI
        unfold fX3_add_s30
        dsimp only
        rw [if_neg (by decide), I2, k0, c0, e14]
        simp only [pput, Option.bind_some]
        rw [w32_id (by omega) (by omega), hup_ne (by omega), I2, k0, c1, h14, w32_id (by omega) (by omega)]
        refine ⟨_, rfl, I1.tr (Fr.tr (Fr.up (by unfold rwC; simp)) (Fr.up (by unfold rwC; simp))), ?_, hup_at, ?_, ?_, fun i i0 i1 => ?_⟩
        · rw [hup_ne (by omega), hup_at]
        · rw [hup_off (by omega), hup_off (by omega)]; exact I3
        · rw [hup_off (by omega), hup_off (by omega)]; exact I4
        · rw [hup_off (by omega), hup_off (by omega)]; exact I5 i i0 i1
    · rw [if_neg b]
      exact ⟨0, h, rfl, Fr.rf, Or.inl ⟨by unfold fullS; omega, rfl, rfl⟩⟩
  · rw [if_neg a]
    exact ⟨0, h, rfl, Fr.rf, Or.inl ⟨by unfold fullS; omega, rfl, rfl⟩⟩
end JUDGE
/-! what is so then is sound -/
section SOUND
variable {S T : Int → Int}
theorem W0_ok (hs : SOk S) (hT : LOk S T) : WOk S (W0S S T) := by
  intro q c q0 q1 c0 c1
  have e1 : (4 * q + c) / 4 = q := by omega
  have e2 : (4 * q + c) % 4 = c := by omega
  unfold W0S
  rw [e1, e2]
  by_cases z : T 0 = 2 ∧ 0 ≤ 4 * q + c ∧ 4 * q + c < 396 ∧ S (150 + q) = 1 ∧ fndS S T q
  · rw [if_pos z]
    obtain ⟨-, a, b, d⟩ := hT.2.2.2.2.2.2 z.1
    have et : S (249 + q) = T 1 := z.2.2.2.2.1
    by_cases y : c = T 3
    · rw [if_pos y]
      exact Or.inr ⟨b, z.2.2.2.1, by rw [et]; omega⟩
    · rw [if_neg y]
      by_cases x : T 2 = 2 ∧ c = T 5
      · rw [if_pos x]
        obtain ⟨d1, -, d2⟩ := d x.1
        exact Or.inr ⟨d2, z.2.2.2.1, by rw [et]; omega⟩
      · rw [if_neg x]; exact Or.inl rfl
  · rw [if_neg z]; exact Or.inl rfl
theorem G0_ok : GOk S (G0S S T) 0 := by
  refine ⟨fun q q0 q1 => ?_, fun q f q0 q1 ha hq f0 f1 h88 ha0 hg => ?_⟩
  · unfold G0S
    by_cases z : T 0 = 1 ∧ 0 ≤ q ∧ q < 99 ∧ S (150 + q) = 1 ∧ fndS S T q
    · rw [if_pos z]; exact ⟨Or.inr (by decide), fun y => absurd z.2.2.2.1 y⟩
    · rw [if_neg z]; exact ⟨Or.inl rfl, fun _ => rfl⟩
  · unfold G0S at hg ⊢
    split at hg
    · rename_i z; rw [if_pos z]
    · omega
noncomputable def KS (S T : Int → Int) : Nat := @dite _ (∃ K, K ≤ 40 ∧ StopG S (G0S S T) K) (Classical.propDecidable _) (fun z => z.choose) (fun _ => 0)
noncomputable def GS (S T : Int → Int) : Int → Int := Rk S (G0S S T) (KS S T)
noncomputable def mS (S T : Int → Int) : Nat := @dite _ (∃ m, m ≤ 161 ∧ StopW S (GS S T) (W0S S T) m) (Classical.propDecidable _) (fun z => z.choose) (fun _ => 0)
noncomputable def PS (S T : Int → Int) : WS := Pk S (GS S T) (W0S S T) (mS S T)
theorem KS_ok (hb : (liv S).length ≤ 40) : KS S T ≤ 40 ∧ StopG S (G0S S T) (KS S T) := by
  have z := stopG_ex (S := S) (G0 := G0S S T) hb
  unfold KS
  rw [dif_pos z]
  exact z.choose_spec
theorem mS_ok (hs : SOk S) (hb : (liv S).length ≤ 40) (hT : LOk S T) : mS S T ≤ 161 ∧ StopW S (GS S T) (W0S S T) (mS S T) := by
  have z := stopW_ex (S := S) (G := GS S T) (W0 := W0S S T) hs hb (W0_ok hs hT)
  unfold mS
  rw [dif_pos z]
  exact z.choose_spec
theorem GS_ok (hb : (liv S).length ≤ 40) (q : Int) (q0 : 0 ≤ q) (q1 : q < 99) : (GS S T q = -1 ∨ (0 ≤ GS S T q ∧ GS S T q ≤ 40)) ∧ (S (150 + q) ≠ 1 → GS S T q = -1) := by
  have := (Rk_ok (G0_ok (S := S) (T := T)) (KS S T)).1 q q0 q1
  have k := (KS_ok (T := T) hb).1
  unfold GS
  exact ⟨by omega, this.2⟩
theorem PS_fl (hs : SOk S) (hT : LOk S T) : WFl S (PS S T) := Pk_fl hs (W0_ok hs hT) _
/-- with nothing found nothing goes, nothing is to be -/
theorem GS_ins (hk : T 0 = 0) (q : Int) : GS S T q = -1 := by
  have key : ∀ k : Nat, ∀ q, Rk S (G0S S T) k q = -1 := by
    intro k
    induction k with
    | zero =>
      intro q
      show G0S S T q = -1
      unfold G0S
      rw [if_neg (fun z => by omega)]
    | succ k ih =>
      intro q
      show stG S ((k : Int) + 1) (Rk S (G0S S T) k) q = -1
      unfold stG
      rw [if_neg]
      · exact ih q
      · rintro ⟨-, -, -, -, f, -, -, -, -, z⟩
        rw [ih] at z
        exact absurd z (by decide)
  exact key _ q
theorem PS_ins (hk : T 0 = 0) : (∀ j, (PS S T).1 j = -9) ∧ (PS S T).2.2 = 0 := by
  have row : ∀ (st : WS), (∀ j, st.1 j = -9) → ∀ q f, adS S (GS S T) st q f = st := fun st h0 q f => by
    unfold adS
    by_cases a : aheadS S q f < 0
    · rw [if_pos a]
    · rw [if_neg a, if_pos (by rw [GS_ins hk]; decide), if_neg]
      rintro (z | z)
      · exact z.1 (h0 _)
      · exact z.2.1 (h0 _)
  have fold : ∀ (l : List Int) (st : WS), (∀ j, st.1 j = -9) → ∀ q, l.foldl (fun st f => adS S (GS S T) st q f) st = st := by
    intro l
    induction l with
    | nil => intros; rfl
    | cons x l ih =>
      intro st h0 q
      rw [List.foldl_cons, row st h0]
      exact ih st h0 q
  have pass : ∀ (l : List Int) (st : WS), (∀ j, st.1 j = -9) → l.foldl (rowW S (GS S T)) st = st := by
    intro l
    induction l with
    | nil => intros; rfl
    | cons x l ih =>
      intro st h0
      have e : rowW S (GS S T) st x = st := by
        unfold rowW
        split
        · exact fold _ st h0 x
        · rfl
      rw [List.foldl_cons, e]
      exact ih st h0
  have key : ∀ k : Nat, (∀ j, (Pk S (GS S T) (W0S S T) k).1 j = -9) ∧ (Pk S (GS S T) (W0S S T) k).2.2 = 0 := by
    intro k
    induction k with
    | zero =>
      refine ⟨fun j => ?_, rfl⟩
      show W0S S T j = -9
      unfold W0S
      rw [if_neg (fun z => by omega)]
    | succ k ih =>
      have e : Pk S (GS S T) (W0S S T) (k + 1) = ((Pk S (GS S T) (W0S S T) k).1, 0, (Pk S (GS S T) (W0S S T) k).2.2) := pass (liv S) _ ih.1
      rw [e]
      exact ih
  exact key _
noncomputable def newS (S T : Int → Int) : Int → Int := if T 0 = 0 then insS S T else bldS S (GS S T) (PS S T).1
def lateS (S : Int → Int) : Int := if S 149 = 0 then 1 else 0
def noRm (S T : Int → Int) : Prop := T 0 = 0 ∧ fullS S
def clsh (S T : Int → Int) : Prop := T 0 ≠ 0 ∧ (PS S T).2.2 = 1
noncomputable def vioN (S T : Int → Int) : List (Int × Int × Int) := @ite _ (noRm S T ∨ clsh S T) (Classical.propDecidable _) [] (vioL (newS S T) (lateS S))
def hdK (L : List (Int × Int × Int)) : Int := match L with
  | [] => 0
  | x :: _ => x.1
noncomputable def whyS (S T : Int → Int) : Int := @ite _ (noRm S T) (Classical.propDecidable _) 6 (@ite _ (clsh S T) (Classical.propDecidable _) 5 (hdK (vioN S T)))
noncomputable def foS (S T : Int → Int) : Int := if T 0 = 0 then 0 else ((liv S).filter (fun q => @decide (fndS S T q) (Classical.propDecidable _))).length
noncomputable def goS (S T : Int → Int) : List Int := (liv S).filter (fun q => decide (0 ≤ GS S T q))
noncomputable def chgS (S T : Int → Int) : Int := ((liv S).filter (fun q => @decide (GS S T q < 0 ∧ ∃ c, 0 ≤ c ∧ c < 4 ∧ othS S (PS S T).1 q c) (Classical.propDecidable _))).length
noncomputable def chS5 (S T : Int → Int) : Int := @ite _ (T 0 = 0 ∨ (PS S T).2.2 = 1) (Classical.propDecidable _) 0 (chgS S T)
noncomputable def tcS (S T : Int → Int) : Int := if T 0 = 0 then 1 else (goS S T).length + chgS S T
theorem new_lo (h148 : 0 ≤ S 148 ∧ S 148 ≤ 99) (hn : ¬ noRm S T) {i : Int} (hi : i < 148 ∨ i = 149 ∨ 744 ≤ i) : newS S T i = S i := by
  unfold newS
  by_cases z : T 0 = 0
  · rw [if_pos z]
    have : S 148 < 99 := Int.lt_of_not_ge (fun y => hn ⟨z, Or.inr y⟩)
    exact is_lo h148.1 this (by omega) (by omega)
  · rw [if_neg z]
    exact bl_lo (by omega)
theorem new_val (hs : SOk S) (hO : StOk S) (hT : LOk S T) (hn : ¬ noRm S T) : SVal (newS S T) ∧ (∀ q, 0 ≤ q → q < 99 → newS S T (150 + q) = 1 → q < newS S T 148) ∧ (∀ q, 0 ≤ q → q < 99 → newS S T (150 + q) = 0 ∨ newS S T (150 + q) = 1) ∧ (0 ≤ newS S T 148 ∧ newS S T 148 ≤ 99) ∧ ∀ q, 0 ≤ q → q < S 148 → newS S T (249 + q) = S (249 + q) := by
  obtain ⟨o1, o2, o3, o4, o5, o6, o7⟩ := hO
  have h0 := hs.1
  have elo : ∀ i, i < 148 → newS S T i = S i := fun i hi => new_lo o1 hn (Or.inl hi)
  have hw := hs.2.2.2.2.1
  unfold SVal
  have e0 := elo 0 (by decide)
  by_cases z : T 0 = 0
  · have b : S 148 < 99 := Int.lt_of_not_ge (fun y => hn ⟨z, Or.inr y⟩)
    have en : newS S T = insS S T := by unfold newS; rw [if_pos z]
    rw [en] at e0 ⊢
    have elo' : ∀ i, i < 148 → insS S T i = S i := fun i hi => by rw [← en]; exact elo i hi
    have e148 : insS S T 148 = S 148 + 1 := by unfold insS; rw [if_pos rfl]
    refine ⟨fun q q0 q1 hq => ?_, fun q q0 q1 hq => ?_, fun q q0 q1 => ?_, ?_, fun q q0 q1 => ?_⟩
    · rw [is_al o1.1 b q0 q1] at hq
      rw [is_tb o1.1 b q0 q1, e0]
      by_cases e : q = S 148
      · rw [if_pos e]
        refine ⟨hT.2.1, fun c c0 c1 => ?_⟩
        rw [is_ce o1.1 b q0 q1 c0 c1, if_pos e, elo' _ (by have := hT.2.1; omega)]
        by_cases y : c < S (4 + T 1)
        · rw [if_pos y]
          exact ⟨(hT.2.2.2.2.1 z).2.2 c c0 y, fun x => by omega⟩
        · rw [if_neg y]
          exact ⟨by omega, fun _ => rfl⟩
      · rw [if_neg e] at hq ⊢
        obtain ⟨a1, a2⟩ := o3 q q0 q1 hq
        refine ⟨a1, fun c c0 c1 => ?_⟩
        rw [is_ce o1.1 b q0 q1 c0 c1, if_neg e, elo' _ (by omega)]
        exact a2 c c0 c1
    · rw [is_al o1.1 b q0 q1] at hq
      rw [e148]
      by_cases e : q = S 148
      · omega
      · rw [if_neg e] at hq
        have := o4 q q0 q1 hq
        omega
    · rw [is_al o1.1 b q0 q1]
      split
      · exact Or.inr rfl
      · exact o5 q q0 q1
    · rw [e148]; omega
    · rw [is_tb o1.1 b q0 (by omega), if_neg (by omega)]
  · have en : newS S T = bldS S (GS S T) (PS S T).1 := by unfold newS; rw [if_neg z]
    have fl := (PS_fl hs hT).1
    rw [en] at e0 ⊢
    have elo' : ∀ i, i < 150 → bldS S (GS S T) (PS S T).1 i = S i := fun i hi => bl_lo (Or.inl hi)
    refine ⟨fun q q0 q1 hq => ?_, fun q q0 q1 hq => ?_, fun q q0 q1 => ?_, ?_, fun q q0 q1 => ?_⟩
    · rw [bl_al q0 q1] at hq
      by_cases w : S (150 + q) = 1 ∧ 0 ≤ GS S T q
      · rw [if_pos w] at hq; exact absurd hq (by decide)
      · rw [if_neg w] at hq
        obtain ⟨a1, a2⟩ := o3 q q0 q1 hq
        rw [bl_tb q0 q1, e0, elo' _ (by omega)]
        refine ⟨a1, fun c c0 c1 => ?_⟩
        rw [bl_ce q0 q1 c0 c1]
        by_cases y : S (150 + q) = 1 ∧ GS S T q < 0 ∧ (PS S T).1 (4 * q + c) ≠ -9
        · rw [if_pos y]
          obtain ⟨b1, b2, b3⟩ := (fl q c q0 q1 c0 c1).resolve_left y.2.2
          exact ⟨b1, fun x => by omega⟩
        · rw [if_neg y]; exact a2 c c0 c1
    · rw [bl_al q0 q1] at hq
      rw [elo' 148 (by decide)]
      by_cases w : S (150 + q) = 1 ∧ 0 ≤ GS S T q
      · rw [if_pos w] at hq; exact absurd hq (by decide)
      · rw [if_neg w] at hq; exact o4 q q0 q1 hq
    · rw [bl_al q0 q1]
      split
      · exact Or.inl rfl
      · exact o5 q q0 q1
    · rw [elo' 148 (by decide)]; exact o1
    · exact bl_tb q0 (by omega)
theorem new_st (hs : SOk S) (hO : StOk S) (hT : LOk S T) (hn : ¬ noRm S T) (hl : (liv (newS S T)).length ≤ 40) : StOk (newS S T) := by
  obtain ⟨a1, a2, a3, a4, a5⟩ := new_val hs hO hT hn
  obtain ⟨o1, o2, o3, o4, o5, o6, o7⟩ := hO
  have e : ∀ i, i < 148 ∨ i = 149 ∨ 744 ≤ i → newS S T i = S i := fun i hi => new_lo o1 hn hi
  refine ⟨a4, by rw [e 149 (by omega)]; exact o2, a1, a2, a3, hl, fun z => ?_⟩
  rw [e 149 (by omega)] at z
  obtain ⟨p1, p2, p3, p4⟩ := o7 z
  have h0 := hs.1
  have a148 : S 148 ≤ newS S T 148 := by
    unfold newS
    split
    · unfold insS; rw [if_pos rfl]; omega
    · rw [bl_lo (by decide)]; exact Int.le_refl _
  refine ⟨fun q q0 q1 hq => ?_, fun q q0 q1 hq => ?_, fun q q0 q1 => ?_, ?_⟩
  · dsimp only at hq ⊢
    rw [e _ (by omega)] at hq
    have := p2 q q0 q1 hq
    obtain ⟨b1, b2⟩ := p1 q q0 q1 hq
    dsimp only at b1 b2
    rw [a5 q q0 this, e 0 (by omega), e (4 + S (249 + q)) (by omega)]
    refine ⟨b1, fun c c0 c1 => ?_⟩
    rw [e (843 + (4 * q + c)) (by omega)]
    exact b2 c c0 c1
  · rw [e _ (by omega)] at hq
    have := p2 q q0 q1 hq
    omega
  · rw [e _ (by omega)]; exact p3 q q0 q1
  · rw [alv_cong (al' := fun q => S (744 + q)) (fun q a b => e (744 + q) (by omega))]
    exact p4
end SOUND
