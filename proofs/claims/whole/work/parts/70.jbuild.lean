/-! JUDGING, the class's: what is so then -/
theorem setValue_ok {h : hH} {r : Int} (hA : RowsAt h r) {i c x : Int} (i0 : 0 ≤ i) (i1 : i < 40) (c0 : 0 ≤ c) (c1 : c < 4) : fX3_setValue h r i c x = some (hup h (r + 3) (4 * i + c) x) := by
  unfold fX3_setValue
  rw [show w32 (w32 (i * 4) + c) = 4 * i + c by rw [w32_id (x := i * 4) (by omega) (by omega), w32_id (by omega) (by omega)]; omega, hA.2.2.1, put_in (by omega) (by rw [hA.2.2.2.2.2]; omega)]
  rfl
theorem RowsAt.rw {h h' : hH} {r : Int} (hA : RowsAt h r) (hf : Fr (rwC r) h h') : RowsAt h' r := hA.fr hf rwC_at
def keepL (X : Int → Int) (n : Int) : List Int := (rng 0 n).filter (fun i => decide (X i = -1))
theorem keepL_s {X : Int → Int} {l : Int} (l0 : 0 ≤ l) : keepL X (l + 1) = keepL X l ++ (if X l = -1 then [l] else []) := by
  unfold keepL
  rw [rng_snoc l0, List.filter_append]
  by_cases z : X l = -1
  · rw [if_pos z, List.filter_cons_of_pos (by simpa using z)]
    rfl
  · rw [if_neg z, List.filter_cons_of_neg (by simpa using z)]
    rfl
theorem keepL_len {X : Int → Int} {l : Int} (l0 : 0 ≤ l) : ((keepL X l).length : Int) ≤ l := by
  have : ((rng 0 l).filter (fun i => decide (X i = -1))).length ≤ (rng 0 l).length := List.length_filter_le _ _
  rw [rng_len] at this
  unfold keepL
  omega
/-- the marked rows go; the others close up -/
theorem keepOnly_ok {h : hH} {r m n : Int} (hA : RowsAt h r) (hn : h r 0 = n) (n0 : 0 ≤ n) (n40 : n ≤ 40) (hm : h m (-1) = 40) (hmr : m < r ∨ r + 3 < m) :
    ∃ h', fX3_keepOnly h r m = some h' ∧ Fr (rwC r) h h' ∧ h' r 0 = (keepL (h m) n).length ∧ h' r 1 = h r 1 ∧ ∀ (k : Nat) (i : Int), (keepL (h m) n)[k]? = some i → h' (r + 1) k = h (r + 1) i ∧ h' (r + 2) k = h (r + 2) i ∧ ∀ c, 0 ≤ c → c < 4 → h' (r + 3) (4 * k + c) = h (r + 3) (4 * i + c) := by
  unfold fX3_keepOnly
  refine lpO_invG (f := fX3_keepOnly_s4 h r m) (fun i (a : hH × Int) => (a.1, a.2, i)) n (fun l a => Fr (rwC r) h a.1 ∧ a.2 = (keepL (h m) l).length ∧ a.1 r 0 = n ∧ a.1 r 1 = h r 1 ∧ (∀ (k : Nat) (i : Int), (keepL (h m) l)[k]? = some i → a.1 (r + 1) k = h (r + 1) i ∧ a.1 (r + 2) k = h (r + 2) i ∧ ∀ c, 0 ≤ c → c < 4 → a.1 (r + 3) (4 * k + c) = h (r + 3) (4 * i + c)) ∧ ∀ i, l ≤ i → i < n → a.1 (r + 1) i = h (r + 1) i ∧ a.1 (r + 2) i = h (r + 2) i ∧ ∀ c, 0 ≤ c → c < 4 → a.1 (r + 3) (4 * i + c) = h (r + 3) (4 * i + c)) _ (fun l a l0 l1 hI => ?_) (fun a hI => ?_) (Int.le_refl 0) n0 (a := (h, 0)) ⟨Fr.rf, rfl, hn, rfl, fun k i hk => by
      have e : keepL (h m) 0 = [] := rfl
      rw [e] at hk
      simp at hk, fun i _ _ => ⟨rfl, rfl, fun _ _ _ => rfl⟩⟩
  · obtain ⟨g, u⟩ := a
    obtain ⟨I1, I2, I3, I4, I5, I6⟩ := hI
    dsimp only at I1 I2 I3 I4 I5 I6 ⊢
    have Ag := hA.rw I1
    have em : g m = h m := I1.row m (fun b => rwC_far hmr)
    have ul := keepL_len (X := h m) l0
    have sn := keepL_s (X := h m) l0
    unfold fX3_keepOnly_s4
    dsimp only
    rw [I3, if_pos l1, at_in l0 (by rw [em]; omega), em]
    simp only [Option.bind_some]
    rw [w1 (by omega) (by omega)]
    by_cases z : h m l = -1
    · rw [if_pos z, Ag.1, at_in l0 (by rw [Ag.2.2.2.1]; omega)]
      rw [if_pos z] at sn
      simp only [Option.bind_some]
      rw [put_in (by omega) (by rw [Ag.2.2.2.1]; omega)]
      simp only [Option.bind_some]
      generalize hq : hup g (r + 1) u (g (r + 1) l) = q
      have fq : Fr (rwC r) g q := by rw [← hq]; exact Fr.up (by unfold rwC; simp; omega)
      have Aq := Ag.rw fq
      rw [Aq.2.1, at_in l0 (by rw [Aq.2.2.2.2.1]; omega)]
      simp only [Option.bind_some]
      rw [put_in (by omega) (by rw [Aq.2.2.2.2.1]; omega)]
      simp only [Option.bind_some]
      generalize hk : hup q (r + 2) u (q (r + 2) l) = k
      have fk : Fr (rwC r) q k := by rw [← hk]; exact Fr.up (by unfold rwC; simp; omega)
      have k3 : k (r + 3) = g (r + 3) := by rw [← hk, hup_off (by omega), ← hq, hup_off (by omega)]
      have k2 : ∀ i, k (r + 2) i = if i = u then g (r + 2) l else g (r + 2) i := fun i => by
        have q2 : q (r + 2) = g (r + 2) := by rw [← hq, hup_off (by omega)]
        rw [← hk]
        by_cases e : i = u
        · rw [e, hup_at, if_pos rfl, q2]
        · rw [hup_ne (fun y => e y.2), if_neg e, q2]
      have k1 : ∀ i, k (r + 1) i = if i = u then g (r + 1) l else g (r + 1) i := fun i => by
        rw [← hk, hup_off (by omega), ← hq]
        by_cases e : i = u
        · rw [e, hup_at, if_pos rfl]
        · rw [hup_ne (fun y => e y.2), if_neg e]
      have k0 : k r = g r := by rw [← hk, hup_off (by omega), ← hq, hup_off (by omega)]
      have inner := lpO_inv (f := fX3_keepOnly_s56 k r m u l) (h := k) 4 (fun j x => Fr (rwC r) k x ∧ (∀ a, a ≠ r + 3 → x a = k a) ∧ (∀ j', 0 ≤ j' → j' < 160 → x (r + 3) j' = if 4 * u ≤ j' ∧ j' < 4 * u + j then g (r + 3) (4 * l + (j' - 4 * u)) else g (r + 3) j')) (fun res => ∃ x, res = .inl (x, u + 1, l + 1) ∧ Fr (rwC r) k x ∧ (∀ a, a ≠ r + 3 → x a = k a) ∧ (∀ j', 0 ≤ j' → j' < 160 → x (r + 3) j' = if 4 * u ≤ j' ∧ j' < 4 * u + 4 then g (r + 3) (4 * l + (j' - 4 * u)) else g (r + 3) j')) (fun j x j0 j1 hM => ?_) (fun x hM => ?_) (Int.le_refl _) (by decide) ⟨Fr.rf, fun _ _ => rfl, fun j' a b => by rw [k3, if_neg (by omega)]⟩
      · obtain ⟨res, r1, x, r2, r3, r4, r5⟩ := inner
        refine Or.inl ⟨(x, u + 1), by rw [r1, r2], I1.tr (fq.tr (fk.tr r3)), ?_, ?_, ?_, fun k' i hk' => ?_, fun i i0 i1 => ?_⟩
        · rw [sn, List.length_append, I2]
          rfl
        · dsimp only; rw [r4 _ (by omega), k0]; exact I3
        · dsimp only; rw [r4 _ (by omega), k0]; exact I4
        · dsimp only
          rw [r4 _ (by omega), r4 _ (by omega), k1, k2]
          rw [sn] at hk'
          by_cases y : k' < (keepL (h m) l).length
          · rw [List.getElem?_append_left y] at hk'
            obtain ⟨b1, b2, b3⟩ := I5 k' i hk'
            have nu : ¬ ((k' : Int) = u) := by omega
            rw [if_neg nu, if_neg nu]
            refine ⟨b1, b2, fun c c0 c1 => ?_⟩
            rw [r5 _ (by omega) (by omega), if_neg (by omega)]
            exact b3 c c0 c1
          · rw [List.getElem?_append_right (by omega)] at hk'
            have hz := (List.getElem?_eq_some_iff.mp hk').1
            simp at hz
            have hk2 : k' = (keepL (h m) l).length := by omega
            subst hk2
            simp at hk'
            subst hk'
            have nu : ((keepL (h m) l).length : Int) = u := I2.symm
            obtain ⟨b1, b2, b3⟩ := I6 l (Int.le_refl _) l1
            rw [if_pos nu, if_pos nu]
            refine ⟨b1, b2, fun c c0 c1 => ?_⟩
            rw [r5 _ (by omega) (by omega), if_pos (by omega), ← b3 c c0 c1]
            congr 1
            omega
        · dsimp only
          rw [r4 _ (by omega), r4 _ (by omega), k1, k2]
          have nu : ¬ (i = u) := by omega
          obtain ⟨b1, b2, b3⟩ := I6 i (by omega) i1
          rw [if_neg nu, if_neg nu]
          refine ⟨b1, b2, fun c c0 c1 => ?_⟩
          rw [r5 _ (by omega) (by omega), if_neg (by omega)]
          exact b3 c c0 c1
      · obtain ⟨M1, M2, M3⟩ := hM
        have Ax := (Ag.rw (fq.tr fk)).rw M1
        unfold fX3_keepOnly_s56
        dsimp only
        rw [if_pos j1, value_in Ax l0 (by omega) j0 j1]
        simp only [Option.bind_some]
        rw [setValue_ok Ax (by omega) (by omega) j0 j1, M3 _ (by omega) (by omega)]
        simp only [Option.bind_some]
        rw [w1 (by omega) (by omega)]
        have ev : (if 4 * u ≤ 4 * l + j ∧ 4 * l + j < 4 * u + j then g (r + 3) (4 * l + (4 * l + j - 4 * u)) else g (r + 3) (4 * l + j)) = g (r + 3) (4 * l + j) := if_neg (by omega)
        rw [ev]
        refine ⟨_, rfl, M1.tr (Fr.up (by unfold rwC; simp; omega)), fun a ha => by rw [hup_off ha]; exact M2 a ha, fun j' a0 a1 => ?_⟩
        by_cases e : j' = 4 * u + j
        · rw [e, hup_at, if_pos (by omega)]
          congr 1
          omega
        · rw [hup_ne (fun y => e y.2), M3 j' a0 a1]
          by_cases y : 4 * u ≤ j' ∧ j' < 4 * u + j
          · rw [if_pos y, if_pos (by omega)]
          · rw [if_neg y, if_neg (by omega)]
      · obtain ⟨M1, M2, M3⟩ := hM
        unfold fX3_keepOnly_s56
        dsimp only
        rw [if_neg (by decide), w1 (i := u) (by omega) (by omega), w1 (by omega) (by omega)]
        exact ⟨_, rfl, x, rfl, M1, M2, M3⟩
    · rw [if_neg z]
      rw [if_neg z, List.append_nil] at sn
      refine Or.inl ⟨(g, u), rfl, I1, by rw [sn]; exact I2, I3, I4, by rw [sn]; exact I5, fun i i0 i1 => I6 i (by omega) i1⟩
  · obtain ⟨g, u⟩ := a
    obtain ⟨I1, I2, I3, I4, I5, I6⟩ := hI
    dsimp only at I1 I2 I3 I4 I5 I6 ⊢
    unfold fX3_keepOnly_s4
    dsimp only
    rw [I3, if_neg (Int.lt_irrefl _)]
    simp only [pput, Option.bind_some]
    refine ⟨_, rfl, I1.tr (Fr.up (by unfold rwC; simp)), by rw [hup_at]; exact I2, by rw [hup_ne (by omega)]; exact I4, fun k i hk => ?_⟩
    rw [hup_off (by omega), hup_off (by omega), hup_off (by omega)]
    exact I5 k i hk
/-- what is so then -/
noncomputable def bldS (S G W : Int → Int) : Int → Int := fun i => if 150 ≤ i ∧ i < 249 then (if S i = 1 ∧ 0 ≤ G (i - 150) then 0 else S i) else if 348 ≤ i ∧ i < 744 then (if S (150 + (i - 348) / 4) = 1 ∧ G ((i - 348) / 4) < 0 ∧ W (i - 348) ≠ -9 then W (i - 348) else S i) else S i
theorem bl_al {S G W : Int → Int} {q : Int} (q0 : 0 ≤ q) (q1 : q < 99) : bldS S G W (150 + q) = if S (150 + q) = 1 ∧ 0 ≤ G q then 0 else S (150 + q) := by
  unfold bldS
  rw [if_pos (by omega), show 150 + q - 150 = q by omega]
theorem bl_tb {S G W : Int → Int} {q : Int} (q0 : 0 ≤ q) (q1 : q < 99) : bldS S G W (249 + q) = S (249 + q) := by
  unfold bldS
  rw [if_neg (by omega), if_neg (by omega)]
theorem bl_ce {S G W : Int → Int} {q c : Int} (q0 : 0 ≤ q) (q1 : q < 99) (c0 : 0 ≤ c) (c1 : c < 4) : bldS S G W (348 + (4 * q + c)) = if S (150 + q) = 1 ∧ G q < 0 ∧ W (4 * q + c) ≠ -9 then W (4 * q + c) else S (348 + (4 * q + c)) := by
  unfold bldS
  rw [if_neg (by omega), if_pos (by omega), show (348 + (4 * q + c) - 348) = 4 * q + c by omega, show (4 * q + c) / 4 = q by omega]
theorem bl_lo {S G W : Int → Int} {i : Int} (h : i < 150 ∨ 744 ≤ i) : bldS S G W i = S i := by
  unfold bldS
  rw [if_neg (by omega), if_neg (by omega)]
noncomputable def chS (S G W N : Int → Int) (l : Int) : Int := ((rng 0 l).filter (fun i => @decide (G (N i) < 0 ∧ ∃ c, 0 ≤ c ∧ c < 4 ∧ othS S W (N i) c) (Classical.propDecidable _))).length
theorem chS_s {S G W N : Int → Int} {l : Int} (l0 : 0 ≤ l) : chS S G W N (l + 1) = chS S G W N l + @ite _ (G (N l) < 0 ∧ ∃ c, 0 ≤ c ∧ c < 4 ∧ othS S W (N l) c) (Classical.propDecidable _) 1 0 := by
  unfold chS
  rw [rng_snoc l0, List.filter_append, List.length_append]
  by_cases z : G (N l) < 0 ∧ ∃ c, 0 ≤ c ∧ c < 4 ∧ othS S W (N l) c
  · rw [if_pos z, List.filter_cons_of_pos (by simpa using z)]
    rfl
  · rw [if_neg z, List.filter_cons_of_neg (by simpa using z)]
    rfl
theorem chS_b {S G W N : Int → Int} {l : Int} (l0 : 0 ≤ l) : 0 ≤ chS S G W N l ∧ chS S G W N l ≤ l := by
  have : ((rng 0 l).filter (fun i => @decide (G (N i) < 0 ∧ ∃ c, 0 ≤ c ∧ c < 4 ∧ othS S W (N i) c) (Classical.propDecidable _))).length ≤ (rng 0 l).length := List.length_filter_le _ _
  rw [rng_len] at this
  unfold chS
  omega
section JUDGE
variable {v n : Int} {S N G W : Int → Int} {h : hH}
def crC (v a b : Int) : Bool := a == v + 4 && decide (0 ≤ b)
theorem cr_jug {v a b : Int} (z : crC v a b = true) : jugC v a b = true := by
  unfold crC at z; unfold jugC rwC; simp at z ⊢; omega
def nwS (S W : Int → Int) (q c : Int) : Int := if W (4 * q + c) ≠ -9 then W (4 * q + c) else S (348 + (4 * q + c))
theorem changeRow_ok (hv : JV v) (hJ : JC v S N n h) (hE : ∀ i c, 0 ≤ i → i < n → 0 ≤ c → c < 4 → encA (W (4 * N i + c)) (h (v + 11) (4 * i + c)) (h (v + 12) (4 * i + c))) {i : Int} (i0 : 0 ≤ i) (i1 : i < n) (hval : ∀ c, 0 ≤ c → c < 4 → h (v + 4) (4 * i + c) = S (348 + (4 * N i + c))) :
    ∃ b k, fX1_changeRow h v i = some (b, k) ∧ Bt b (∃ c, 0 ≤ c ∧ c < 4 ∧ othS S W (N i) c) ∧ Fr (crC v) h k ∧ ∀ j, 0 ≤ j → j < 160 → k (v + 4) j = if 4 * i ≤ j ∧ j < 4 * i + 4 then nwS S W (N i) (j - 4 * i) else h (v + 4) j := by
  have n40 := hJ.2.2.2.2.2.1.2.2.1
  unfold fX1_changeRow
  have key := lpO_invG (f := fX1_changeRow_s4 h v i) (fun c (a : hH × Int) => (a.1, a.2, c)) 4 (fun l a => Fr (crC v) h a.1 ∧ Bt a.2 (∃ c, 0 ≤ c ∧ c < l ∧ othS S W (N i) c) ∧ ∀ j, 0 ≤ j → j < 160 → a.1 (v + 4) j = if 4 * i ≤ j ∧ j < 4 * i + l then nwS S W (N i) (j - 4 * i) else h (v + 4) j) (fun r => ∃ b k, r = (b, k) ∧ Bt b (∃ c, 0 ≤ c ∧ c < 4 ∧ othS S W (N i) c) ∧ Fr (crC v) h k ∧ ∀ j, 0 ≤ j → j < 160 → k (v + 4) j = if 4 * i ≤ j ∧ j < 4 * i + 4 then nwS S W (N i) (j - 4 * i) else h (v + 4) j) (fun l a l0 l1 hI => ?_) (fun a hI => ?_) (Int.le_refl 0) (by decide) (a := (h, 0)) ⟨Fr.rf, Or.inr ⟨rfl, fun ⟨c, a, b, _⟩ => by omega⟩, fun j j0 j1 => by rw [if_neg (by omega)]⟩
  · obtain ⟨r, r1, b, k, r2, r3⟩ := key
    exact ⟨b, k, by rw [r1, r2], r3⟩
  · obtain ⟨g, u⟩ := a
    obtain ⟨I1, I2, I3⟩ := hI
    dsimp only at I1 I2 I3 ⊢
    have hJg := hJ.fr hv (I1.mono (fun a b z => cr_jug z))
    have e11 : g (v + 11) = h (v + 11) := I1.row _ (fun b => by unfold crC; simp)
    have e12 : g (v + 12) = h (v + 12) := I1.row _ (fun b => by unfold crC; simp)
    obtain ⟨b, b1, b2⟩ := becomesAnother_ok (W := W) (c := l) hv hJg (fun i c a0 a1 a2 a3 => by rw [e11, e12]; exact hE i c a0 a1 a2 a3) i0 i1 (Or.inr ⟨l0, l1⟩)
    have hwv := wantedOf_ok hv hJg i0 i1 l0 l1
    have Ar := hJg.2.1.2.2.1
    unfold fX1_changeRow_s4
    dsimp only
    rw [if_pos l1, b1]
    simp only [Option.bind_some]
    rw [w1 (by omega) (by omega)]
    rcases b2 with ⟨rfl, c0, z⟩ | ⟨rfl, z⟩
    · rw [if_neg (by decide), hwv, hJg.2.1.1.2.2.1]
      simp only [Option.bind_some]
      rw [setValue_ok Ar i0 (by omega) l0 l1]
      simp only [Option.bind_some]
      have ev : g (v + 12) (4 * i + l) = W (4 * N i + l) := by
        rw [e12]
        rcases hE i l i0 i1 l0 l1 with ⟨u, _⟩ | ⟨_, _, u⟩
        · exact absurd u z.1
        · exact u
      rw [show v + 1 + 3 = v + 4 by omega]
      generalize hy : hup g (v + 4) (4 * i + l) (g (v + 12) (4 * i + l)) = y
      refine Or.inl ⟨(y, 1), rfl, I1.tr (by rw [← hy]; exact Fr.up (by unfold crC; simp; omega)), Or.inl ⟨rfl, l, l0, by omega, z⟩, fun j j0 j1 => ?_⟩
      dsimp only
      rw [← hy]
      by_cases e : j = 4 * i + l
      · rw [e, hup_at, if_pos (by omega), ev, show 4 * i + l - 4 * i = l by omega]
        unfold nwS
        rw [if_pos z.1]
      · rw [hup_ne (fun y => e y.2), I3 j j0 j1]
        by_cases y : 4 * i ≤ j ∧ j < 4 * i + l
        · rw [if_pos y, if_pos (by omega)]
        · rw [if_neg y, if_neg (by omega)]
    · rw [if_pos rfl]
      refine Or.inl ⟨(g, u), rfl, I1, I2.iff ⟨fun ⟨c, a, b, d⟩ => ⟨c, a, by omega, d⟩, fun ⟨c, a, b, d⟩ => ⟨c, a, by
        by_cases e : c = l
        · rw [e] at d; exact absurd ⟨l0, d⟩ z
        · omega, d⟩⟩, fun j j0 j1 => ?_⟩
      dsimp only
      rw [I3 j j0 j1]
      by_cases e : j = 4 * i + l
      · rw [if_neg (by omega), if_pos (by omega), e, hval l l0 l1, show 4 * i + l - 4 * i = l by omega]
        unfold nwS
        by_cases y : W (4 * N i + l) ≠ -9
        · rw [if_pos y]
          exact (Classical.byContradiction (fun x => z ⟨l0, y, fun w => x w.symm⟩))
        · rw [if_neg y]
      · by_cases y : 4 * i ≤ j ∧ j < 4 * i + l
        · rw [if_pos y, if_pos (by omega)]
        · rw [if_neg y, if_neg (by omega)]
  · obtain ⟨g, u⟩ := a
    obtain ⟨I1, I2, I3⟩ := hI
    dsimp only at I1 I2 I3 ⊢
    unfold fX1_changeRow_s4
    dsimp only
    rw [if_neg (by decide)]
    exact ⟨_, rfl, u, g, rfl, I2, I1, I3⟩
def buC (v a b : Int) : Bool := (a == v && (b == 8 || b == 9)) || rwC (v + 1) a b
theorem bu_jug {v a b : Int} (z : buC v a b = true) : jugC v a b = true := by
  unfold buC rwC at z; unfold jugC rwC; simp at z ⊢; omega
theorem build_ok (hv : JV v) (hva : SVal S) (hJ : JC v S N n h) (hG : ∀ i, 0 ≤ i → i < n → h (v + 9) i = G (N i) ∧ (G (N i) = -1 ∨ 0 ≤ G (N i))) (hE : ∀ i c, 0 ≤ i → i < n → 0 ≤ c → c < 4 → encA (W (4 * N i + c)) (h (v + 11) (4 * i + c)) (h (v + 12) (4 * i + c))) (z8 : h v 8 = 0) (hgo : 0 ≤ h v 7 ∧ h v 7 ≤ 40) :
    ∃ k, fX1_build h v = some k ∧ Fr (buC v) h k ∧ k v 8 = chS S G W N n ∧ k v 9 = h v 7 + chS S G W N n ∧ k (v + 1) 1 = h 14 1 ∧ RowsS k (v + 1) (bldS S G W) := by
  have hD := hJ.2.2.2.2.2.1
  have n0 := hD.2.1
  have n40 := hD.2.2.1
  have rall := hD.2.2.2.2.2.2.2.2
  have inc := hD.2.2.2.2.2.2.2.1
  have ra := hD.2.2.2.2.2.2.1
  have hJ' := hJ
  obtain ⟨-, ⟨⟨v0, v1, v2, -, -, -, v13, -⟩, -, hAr, -⟩, hc, e14, e15, -, e13⟩ := hJ
  have hR := hc.2.1
  have farv : v + 1 + 3 < 14 ∨ 14 + 3 < v + 1 := by rcases hv with rfl | rfl <;> omega
  obtain ⟨g, g1, g2, g3⟩ := copyRows_ok hc.1 hAr farv
  unfold fX1_build
  rw [v2, v1, e13, g1]
  simp only [Option.bind_some]
  have fg : Fr (buC v) h g := g3.mono (fun a b z => by unfold buC; rw [z]; simp)
  obtain ⟨c0, c1, c2, c3, c4⟩ := g2
  have gN : ∀ i, 0 ≤ i → i < n → g (v + 2) i = N i ∧ g (v + 3) i = S (249 + N i) ∧ ∀ c, 0 ≤ c → c < 4 → g (v + 4) (4 * i + c) = S (348 + (4 * N i + c)) := fun i i0 i1 => by
    obtain ⟨m0, m1, m2, m3, m4⟩ := hR.2.2.1 i i0 (by rw [e14]; exact i1)
    rw [show (14 : Int) + 1 = 15 from rfl, e15] at m3 m4
    refine ⟨?_, ?_, fun c x y => ?_⟩
    · have := c2 i i0 (by omega)
      rw [show v + 1 + 1 = v + 2 by omega, show (14 : Int) + 1 = 15 from rfl, e15] at this
      exact this
    · have := c3 i i0 (by omega)
      rw [show v + 1 + 2 = v + 3 by omega] at this
      rw [this]; exact m3
    · have := c4 (4 * i + c) (by omega) (by omega)
      rw [show v + 1 + 3 = v + 4 by omega] at this
      rw [this]; exact m4 c x y
  have main := lpO_inv (f := fX1_build_s16 g v) (h := g) n (fun l x => Fr (buC v) h x ∧ x (v + 2) = g (v + 2) ∧ x (v + 3) = g (v + 3) ∧ x (v + 1) = g (v + 1) ∧ x v 7 = h v 7 ∧ x v 8 = chS S G W N l ∧ x (v + 9) = h (v + 9) ∧ x (v + 11) = h (v + 11) ∧ x (v + 12) = h (v + 12) ∧ ∀ i c, 0 ≤ i → i < n → 0 ≤ c → c < 4 → x (v + 4) (4 * i + c) = if i < l ∧ G (N i) < 0 then nwS S W (N i) c else S (348 + (4 * N i + c))) (fun k => Fr (buC v) h k ∧ k v 8 = chS S G W N n ∧ k v 9 = h v 7 + chS S G W N n ∧ k (v + 1) 1 = h 14 1 ∧ RowsS k (v + 1) (bldS S G W)) (fun l x l0 l1 hI => ?_) (fun x hI => ?_) (Int.le_refl _) n0 ⟨fg, rfl, rfl, rfl, ?_, ?_, ?_, ?_, ?_, fun i c i0 i1 d0 d1 => by rw [if_neg (by omega)]; exact (gN i i0 i1).2.2 c d0 d1⟩
  · exact main
  · obtain ⟨I1, I2, I3, I4, I5, I6, I7, I8, I9, I10⟩ := hI
    have hJx := hJ'.fr hv (I1.mono (fun a b z => bu_jug z))
    have hJx' := hJx
    obtain ⟨-, ⟨⟨-, -, w2, -, -, -, w13, -⟩, ⟨-, -, l9, -⟩, -, -⟩, -⟩ := hJx'
    have hcb := chS_b (S := S) (G := G) (W := W) (N := N) l0
    have e10 : x (v + 1) 0 = n := by rw [I4, c0, e14]
    unfold fX1_build_s16
    dsimp only
    rw [w2, e10, if_pos l1, w13, at_in l0 (by omega), I7, (hG l l0 l1).1]
    simp only [Option.bind_some]
    rw [w1 (by omega) (by omega)]
    by_cases a : G (N l) = -1
    · rw [if_pos a]
      obtain ⟨b, k, b1, b2, b3, b4⟩ := changeRow_ok (W := W) hv hJx (fun i c a0 a1 a2 a3 => by rw [I8, I9]; exact hE i c a0 a1 a2 a3) l0 l1 (fun c d0 d1 => by rw [I10 l c l0 l1 d0 d1, if_neg (by omega)])
      rw [b1]
      simp only [Option.bind_some]
      have fk : Fr (buC v) h k := I1.tr (b3.mono (fun a b z => by unfold crC at z; unfold buC rwC; simp at z ⊢; omega))
      have ka : ∀ a, a ≠ v + 4 → k a = x a := fun a ha => b3.row a (fun b => by unfold crC; simp; omega)
      have kv : ∀ i c, 0 ≤ i → i < n → 0 ≤ c → c < 4 → k (v + 4) (4 * i + c) = if i < l + 1 ∧ G (N i) < 0 then nwS S W (N i) c else S (348 + (4 * N i + c)) := fun i c i0 i1 d0 d1 => by
        rw [b4 _ (by omega) (by omega)]
        by_cases e : i = l
        · subst e
          rw [if_pos (by omega), if_pos (by omega), show 4 * i + c - 4 * i = c by omega]
        · rw [if_neg (by omega), I10 i c i0 i1 d0 d1]
          by_cases y : i < l ∧ G (N i) < 0
          · rw [if_pos y, if_pos (by omega)]
          · rw [if_neg y, if_neg (by omega)]
      have sn := chS_s (S := S) (G := G) (W := W) (N := N) l0
      rcases b2 with ⟨rfl, z⟩ | ⟨rfl, z⟩
      · rw [if_neg (by decide)]
        rw [if_pos ⟨by omega, z⟩] at sn
        simp only [pput, Option.bind_some]
        rw [ka v (by omega), I6, w32_id (by omega) (by omega)]
        refine ⟨_, rfl, fk.tr (Fr.up (by unfold buC; simp)), ?_, ?_, ?_, ?_, ?_, ?_, ?_, ?_, fun i c i0 i1 d0 d1 => ?_⟩
        · rw [hup_off (by omega), ka _ (by omega)]; exact I2
        · rw [hup_off (by omega), ka _ (by omega)]; exact I3
        · rw [hup_off (by omega), ka _ (by omega)]; exact I4
        · rw [hup_ne (by omega), ka _ (by omega)]; exact I5
        · rw [hup_at, sn]
        · rw [hup_off (by omega), ka _ (by omega)]; exact I7
        · rw [hup_off (by omega), ka _ (by omega)]; exact I8
        · rw [hup_off (by omega), ka _ (by omega)]; exact I9
        · rw [hup_off (by omega)]; exact kv i c i0 i1 d0 d1
      · rw [if_pos rfl]
        rw [if_neg (fun y => z y.2), Int.add_zero] at sn
        refine ⟨k, rfl, fk, ?_, ?_, ?_, ?_, ?_, ?_, ?_, ?_, kv⟩
        · rw [ka _ (by omega)]; exact I2
        · rw [ka _ (by omega)]; exact I3
        · rw [ka _ (by omega)]; exact I4
        · rw [ka _ (by omega)]; exact I5
        · rw [ka _ (by omega), sn]; exact I6
        · rw [ka _ (by omega)]; exact I7
        · rw [ka _ (by omega)]; exact I8
        · rw [ka _ (by omega)]; exact I9
    · rw [if_neg a]
      have a2 : 0 ≤ G (N l) := (hG l l0 l1).2.resolve_left a
      refine ⟨x, rfl, I1, I2, I3, I4, I5, ?_, I7, I8, I9, fun i c i0 i1 d0 d1 => ?_⟩
      · rw [chS_s l0, if_neg (fun y => by omega), Int.add_zero]; exact I6
      · rw [I10 i c i0 i1 d0 d1]
        by_cases y : i < l ∧ G (N i) < 0
        · rw [if_pos y, if_pos (by omega)]
        · rw [if_neg y, if_neg (fun w => y ⟨by
            by_cases e : i = l
            · subst e; omega
            · omega, w.2⟩)]
  · obtain ⟨I1, I2, I3, I4, I5, I6, I7, I8, I9, I10⟩ := hI
    have hJx := hJ'.fr hv (I1.mono (fun a b z => bu_jug z))
    obtain ⟨-, ⟨⟨-, -, w2, -, -, -, w13, -⟩, ⟨-, -, l9, -⟩, Ax, -⟩, -⟩ := hJx
    have e10 : x (v + 1) 0 = n := by rw [I4, c0, e14]
    have hcb := chS_b (S := S) (G := G) (W := W) (N := N) n0
    unfold fX1_build_s16
    dsimp only
    rw [w2, e10, if_neg (Int.lt_irrefl _), w13]
    obtain ⟨k, k1, k2, k3, k4, k5⟩ := keepOnly_ok (m := v + 9) Ax e10 n0 n40 l9 (by omega)
    rw [k1]
    simp only [pput, Option.bind_some]
    have kv : ∀ b, k v b = x v b := fun b => k2 v b (rwC_far (by omega))
    rw [kv, kv, I5, I6, w32_id (by omega) (by omega)]
    generalize hy : hup k v 9 (h v 7 + chS S G W N n) = y
    have ya : ∀ a, a ≠ v → y a = k a := fun a ha => by rw [← hy, hup_off ha]
    refine ⟨y, rfl, I1.tr ((k2.mono (fun a b z => by unfold buC; rw [z]; simp)).tr (by rw [← hy]; exact Fr.up (by unfold buC; simp))), ?_, by rw [← hy, hup_at], ?_, ?_⟩
    · rw [← hy, hup_ne (by omega), kv, I6]
    · rw [ya _ (by omega), k4, I4, c1]
    · have mk : ∀ i, i ∈ keepL (x (v + 9)) n ↔ (0 ≤ i ∧ i < n) ∧ G (N i) < 0 := fun i => by
        unfold keepL
        rw [List.mem_filter, mem_rng]
        constructor
        · rintro ⟨a, b⟩
          have b2 := of_decide_eq_true b
          rw [I7, (hG i a.1 a.2).1] at b2
          exact ⟨a, by omega⟩
        · rintro ⟨a, b⟩
          refine ⟨a, decide_eq_true ?_⟩
          rw [I7, (hG i a.1 a.2).1]
          exact (hG i a.1 a.2).2.resolve_right (by omega)
      have xg : ∀ i, 0 ≤ i → i < n → x (v + 1 + 1) i = N i ∧ x (v + 1 + 2) i = S (249 + N i) := fun i i0 i1 => by
        rw [show v + 1 + 1 = v + 2 by omega, show v + 1 + 2 = v + 3 by omega, I2, I3]
        exact ⟨(gN i i0 i1).1, (gN i i0 i1).2.1⟩
      have hlen := keepL_len (X := x (v + 9)) n0
      have srt : (keepL (x (v + 9)) n).Pairwise (· < ·) := rng_sorted.filter _
      have get : ∀ k' : Int, 0 ≤ k' → k' < (keepL (x (v + 9)) n).length → ∃ i, (keepL (x (v + 9)) n)[k'.toNat]? = some i ∧ (0 ≤ i ∧ i < n) ∧ G (N i) < 0 ∧ k (v + 1 + 1) k' = N i ∧ k (v + 1 + 2) k' = S (249 + N i) ∧ ∀ c, 0 ≤ c → c < 4 → k (v + 1 + 3) (4 * k' + c) = nwS S W (N i) c := fun k' k0 k1' => by
        have hk : k'.toNat < (keepL (x (v + 9)) n).length := by omega
        have hx := List.getElem?_eq_getElem hk
        generalize (keepL (x (v + 9)) n)[k'.toNat] = i at hx
        obtain ⟨a, b⟩ := (mk i).mp (List.mem_of_getElem? hx)
        obtain ⟨d1, d2, d3⟩ := k5 _ _ hx
        rw [show ((k'.toNat : Nat) : Int) = k' by omega] at d1 d2 d3
        obtain ⟨x1, x2⟩ := xg i a.1 a.2
        refine ⟨i, hx, a, b, d1.trans x1, d2.trans x2, fun c e0 e1 => ?_⟩
        rw [d3 c e0 e1, show v + 1 + 3 = v + 4 by omega, I10 i c a.1 a.2 e0 e1, if_pos ⟨a.2, b⟩]
      unfold RowsS RowsR
      rw [ya _ (by omega), ya _ (by omega), ya _ (by omega), ya _ (by omega), k3]
      refine ⟨by omega, by omega, fun k' k0 k1' => ?_, fun i j i0 ij j1 => ?_, fun q q0 q1 => ?_, fun q q0 q1 hq => ?_⟩
      · obtain ⟨i, -, a, b, d1, d2, d3⟩ := get k' k0 k1'
        obtain ⟨m0, m1, m2⟩ := ra i a.1 a.2
        rw [d1, d2]
        dsimp only
        rw [bl_al m0 m1, if_neg (by omega), bl_tb m0 m1]
        refine ⟨m0, m1, m2, rfl, fun c e0 e1 => ?_⟩
        rw [d3 c e0 e1]
        rw [bl_ce m0 m1 e0 e1]
        unfold nwS
        by_cases w : W (4 * N i + c) ≠ -9
        · rw [if_pos w, if_pos ⟨m2, b, w⟩]
        · rw [if_neg w, if_neg (fun u => w u.2.2)]
      · obtain ⟨a, a1, a2, -, a3, -⟩ := get i i0 (by omega)
        obtain ⟨b, b1, b2, -, b3, -⟩ := get j (by omega) j1
        rw [a3, b3]
        refine inc a b a2.1 ?_ b2.2
        obtain ⟨p1, p2⟩ := List.getElem?_eq_some_iff.mp a1
        obtain ⟨p3, p4⟩ := List.getElem?_eq_some_iff.mp b1
        rw [← p2, ← p4]
        exact List.pairwise_iff_getElem.mp srt _ _ p1 p3 (by omega)
      · dsimp only
        rw [bl_al q0 q1]
        split
        · exact Or.inl rfl
        · exact hR.2.2.2.2.1 q q0 q1
      · dsimp only at hq
        rw [bl_al q0 q1] at hq
        by_cases w : S (150 + q) = 1 ∧ 0 ≤ G q
        · rw [if_pos w] at hq; exact absurd hq (by decide)
        · rw [if_neg w] at hq
          obtain ⟨i, i0, i1, i2⟩ := rall q q0 q1 hq
          have hm := (mk i).mpr ⟨⟨i0, i1⟩, by
            rw [i2]
            exact Int.lt_of_not_ge (fun u => w ⟨hq, u⟩)⟩
          obtain ⟨k', hk⟩ := List.mem_iff_getElem?.mp hm
          have hk2 := (List.getElem?_eq_some_iff.mp hk).1
          obtain ⟨i', a1, a2, -, a3, -⟩ := get k' (by omega) (by omega)
          rw [Int.toNat_natCast, hk] at a1
          cases a1
          exact ⟨k', by omega, by omega, by rw [a3, i2]⟩
  · exact g3 v 7 (rwC_far (by omega))
  · rw [g3 v 8 (rwC_far (by omega)), z8]
    rfl
  · exact g3.row _ (fun b => rwC_far (by omega))
  · exact g3.row _ (fun b => rwC_far (by omega))
  · exact g3.row _ (fun b => rwC_far (by omega))
end JUDGE
