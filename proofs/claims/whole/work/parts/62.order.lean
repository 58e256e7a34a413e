/-! ORDER as a call -/
def ordC (a b : Int) : Bool := (a == 0 && (b == 16 || b == 17)) || (a == 192 && (b == 0 || b == 48)) || ((a == 214 || a == 215) && decide (0 ≤ b))
theorem ordC_lay1 : refT.all (fun q => !(ordC q.1 q.2.1)) = true := by decide +kernel
theorem ordC_lay2 : lenT.all (fun q => !(ordC q.1 (-1))) = true := by decide +kernel
theorem orderM_ok {h : hH} (hL : Lay h) (hs : SOk (h 194)) : ∃ r h', fX12_order h 192 = some (r, h') ∧ Fr ordC h h' ∧ match ordK (h 194) (h 194 0).toNat with
    | some l => r = h 194 0 ∧ h' 192 48 = h 194 0 ∧ h' 0 = h 0 ∧ ∀ (k : Nat) (t : Int), l[k]? = some t → h' 214 k = t
    | none => r = -1 ∧ h' 192 48 = h 192 48 ∧ h' 214 = h 214 ∧ h' 0 = h 0 := by
  have h0 := hs.1
  have fin : ∀ h', Fr (fun a b => (a == 192 && b == 0) || (a == 215 && decide (0 ≤ b))) h h' → Lay h' ∧ h' 194 = h 194 := fun h' hf => ⟨hf.lay hL (by decide +kernel) (by decide +kernel), hf.row 194 (fun b => by simp)⟩
  unfold fX12_order
  rw [th_p]
  simp only [Option.bind_some]
  have key := lpO_invG (f := fX12_order_s9 (Th h) 192) (fun k (x : hH × Int) => (x.1, x.2, k)) (h 194 0) (fun k x => Fr (fun a b => (a == 192 && b == 0) || (a == 215 && decide (0 ≤ b))) h x.1 ∧ ∃ l, ordK (h 194) k.toNat = some l ∧ x.2 = hadL l ∧ ∀ (j : Nat) (t : Int), l[j]? = some t → x.1 215 j = t) (fun x => Fr ordC h x.2 ∧ match ordK (h 194) (h 194 0).toNat with
    | some l => x.1 = h 194 0 ∧ x.2 192 48 = h 194 0 ∧ x.2 0 = h 0 ∧ ∀ (k : Nat) (t : Int), l[k]? = some t → x.2 214 k = t
    | none => x.1 = -1 ∧ x.2 192 48 = h 192 48 ∧ x.2 214 = h 214 ∧ x.2 0 = h 0) (fun k x k0 k1 hI => ?_) (fun x hI => ?_) (i := 0) (a := (Th h, 0)) (Int.le_refl _) h0.1 ⟨th_fr.mono (fun a b z => by rw [z]; rfl), [], rfl, rfl, fun j t hj => by simp at hj⟩
  · obtain ⟨⟨r, h'⟩, r1, r2, r3⟩ := key
    exact ⟨r, h', r1, r2, r3⟩
  · obtain ⟨g, had⟩ := x
    obtain ⟨hf, l, l1, l2, l3⟩ := hI
    dsimp only at hf l2 l3
    subst l2
    obtain ⟨Lg, eg⟩ := fin g hf
    obtain ⟨m1, m2, m3, m4⟩ := ordK_len h0 l1
    have hs' : SOk (g 194) := by rw [eg]; exact hs
    have b46 : ∀ t, 0 ≤ t → t ≤ h 194 0 → fX12_order_b46 g 192 (hadL l) k t = if t = h 194 0 then some (.inr (-1, g)) else some (.inl (hup g 215 k t, iorD (hadL l) (ishD 1 t), k + 1)) := by
      intro t t0 t1
      unfold fX12_order_b46
      rw [sgk Lg (k := 0) (by decide) (by decide), eg]
      simp only [Option.bind_some]
      by_cases z : t = h 194 0
      · rw [if_pos z, if_pos z]
      · rw [if_neg z, if_neg z, ly_192_47 Lg, aput_in k0 (by rw [ll_215 Lg]; omega)]
        simp only [Option.bind_some]
        rw [w32_id (by omega) (by omega)]
    have fd := lpO_find (f := fX12_order_s21 g 192 (hadL l) k) (fun t => t) (h 194 0) (fun t => freeS (h 194) (hadL l) t) (fun t => if t = h 194 0 then .inr (-1, g) else .inl (hup g 215 k t, iorD (hadL l) (ishD 1 t), k + 1)) (.inr (-1, g)) (fun t t0 t1 => by
      obtain ⟨b, b1, b2⟩ := isFree_ok Lg hs' m3 m4 t0 (show t < 4 by omega)
      rw [eg] at b2
      unfold fX12_order_s21
      rw [sgk Lg (k := 0) (by decide) (by decide), eg]
      simp only [Option.bind_some]
      rw [if_pos t1, b1]
      simp only [Option.bind_some]
      rcases b2 with ⟨rfl, y⟩ | ⟨rfl, y⟩
      · refine ⟨fun _ => ?_, fun z => absurd y z⟩
        rw [if_neg (by decide), b46 t t0 (by omega)]
        split <;> rfl
      · refine ⟨fun z => absurd z y, fun _ => ?_⟩
        rw [if_pos rfl, w32_id (by omega) (by omega)]) (by
      unfold fX12_order_s21
      rw [sgk Lg (k := 0) (by decide) (by decide), eg]
      simp only [Option.bind_some]
      rw [if_neg (Int.lt_irrefl _), b46 _ h0.1 (Int.le_refl _), if_pos rfl]
      rfl) (i := 0) (Int.le_refl _) h0.1
    have nx := nextT_or (S := h 194) (had := hadL l) h0.1
    unfold fX12_order_s9
    dsimp only
    rw [sgk Lg (k := 0) (by decide) (by decide), eg]
    simp only [Option.bind_some]
    rw [if_pos k1]
    rcases fd with ⟨t, t0, t1, t2, t3, t4⟩ | ⟨t1, t2⟩
    · rw [t4, if_neg (by omega)]
      have e : nextT (h 194) (hadL l) = t := by
        rcases nx with ⟨n1, n2, n3, n4⟩ | ⟨n1, n2⟩
        · rcases Int.lt_trichotomy (nextT (h 194) (hadL l)) t with z | z | z
          · exact absurd n3 (t3 _ n1 z)
          · exact z
          · exact absurd t2 (n4 t t0 z)
        · exact absurd t2 (n2 t t0 t1)
      refine Or.inl ⟨(hup g 215 k t, iorD (hadL l) (ishD 1 t)), rfl, hf.tr (Fr.up (by simp; omega)), l ++ [t], ?_, ?_, fun j x hj => ?_⟩
      · rw [show (k + 1).toNat = k.toNat + 1 by omega]
        show (match ordK (h 194) k.toNat with | none => none | some l => if nextT (h 194) (hadL l) = -1 then none else some (l ++ [nextT (h 194) (hadL l)])) = _
        rw [l1]
        dsimp only
        rw [e, if_neg (by omega)]
      · rw [hadL_s]
      · dsimp only
        by_cases hjl : j < l.length
        · rw [List.getElem?_append_left hjl] at hj
          rw [hup_ne (by omega)]
          exact l3 j x hj
        · rw [List.getElem?_append_right (by omega)] at hj
          have hz : j - l.length < 1 := (List.getElem?_eq_some_iff.mp hj).1
          have hz2 : j = l.length := by omega
          subst hz2
          rw [Nat.sub_self] at hj
          cases hj
          rw [show ((l.length : Nat) : Int) = k by omega, hup_at]
    · rw [t2]
      refine Or.inr ⟨(-1, g), rfl, hf.mono (fun a b z => ?_), ?_⟩
      · unfold ordC
        simp at z ⊢
        omega
      · have z : nextT (h 194) (hadL l) = -1 := by
          rcases nx with ⟨n1, n2, n3, n4⟩ | ⟨n1, n2⟩
          · exact absurd n3 (t1 _ n1 n2)
          · exact n1
        have : ∀ d : Nat, ordK (h 194) (k.toNat + 1 + d) = none := by
          intro d
          induction d with
          | zero =>
            show (match ordK (h 194) k.toNat with | none => none | some l => if nextT (h 194) (hadL l) = -1 then none else some (l ++ [nextT (h 194) (hadL l)])) = none
            rw [l1]
            exact if_pos z
          | succ d ih =>
            show (match ordK (h 194) (k.toNat + 1 + d) with | none => none | some l => if nextT (h 194) (hadL l) = -1 then none else some (l ++ [nextT (h 194) (hadL l)])) = none
            rw [ih]
        have := this ((h 194 0).toNat - (k.toNat + 1))
        rw [show k.toNat + 1 + ((h 194 0).toNat - (k.toNat + 1)) = (h 194 0).toNat by omega] at this
        rw [this]
        exact ⟨rfl, hf 192 48 (by decide), hf.row 214 (fun b => by simp), hf.row 0 (fun b => by simp)⟩
  · obtain ⟨g, had⟩ := x
    obtain ⟨hf, l, l1, l2, l3⟩ := hI
    dsimp only at hf l2 l3
    obtain ⟨Lg, eg⟩ := fin g hf
    obtain ⟨m1, m2, m3, m4⟩ := ordK_len h0 l1
    unfold fX12_order_s9
    dsimp only
    rw [sgk Lg (k := 0) (by decide) (by decide), eg]
    simp only [Option.bind_some, pput, if_neg (Int.lt_irrefl _)]
    generalize hq : hup g 192 48 (h 194 0) = q
    have qa : ∀ a, a ≠ 192 → q a = g a := fun a ha => by rw [← hq, hup_off ha]
    have Lq : Lay q := by rw [← hq]; exact Lg.upF (by decide)
    have q48 : q 192 48 = h 194 0 := by rw [← hq, hup_at]
    have cp := cp_loop (f := fX12_order_s89 q 192) (h := q) 214 0 4 (fun i => g 215 i) (fun x => x.1 = h 194 0 ∧ x.2 = seg q 214 0 4 (fun i => g 215 i)) (by decide) (fun i h' i0 i1 hI => ?_) ?_
    · obtain ⟨⟨x1, y⟩, c1, c2, c3⟩ := cp
      dsimp only at c2 c3
      refine ⟨(x1, y), by rw [c1]; rfl, ?_, ?_⟩
      · dsimp only
        rw [c3]
        refine ((hf.mono (fun a b z => ?_)).tr (?_ : Fr ordC g q)).tr (seg_fr (fun b hb => ?_) (by decide))
        · unfold ordC
          simp at z ⊢
          omega
        · rw [← hq]; exact Fr.up (by decide)
        · unfold ordC; simp; omega
      · rw [l1]
        dsimp only
        refine ⟨c2, ?_, ?_, fun k t hk => ?_⟩
        · rw [c3, seg_off (by decide), q48]
        · rw [c3, seg_off (by decide), qa 0 (by decide)]
          exact hf.row 0 (fun b => by simp)
        · have hk2 := (List.getElem?_eq_some_iff.mp hk).1
          rw [c3, seg_in (by omega) (by omega), Int.sub_zero]
          exact l3 k t hk
    · have ha : ∀ a, a ≠ 214 → h' a = q a := fun a ha => by rw [hI, seg_off ha]
      have L' : Lay h' := by
        rw [hI]
        exact (seg_fr (C := ordC) (fun b hb => by unfold ordC; simp; omega) (by decide)).lay Lq ordC_lay1 ordC_lay2
      unfold fX12_order_s89
      dsimp only
      rw [if_pos i1, ly_192_47 L', aget_in i0 (by rw [ll_215 L']; exact i1), ha 215 (by decide), qa 215 (by decide)]
      simp only [Option.bind_some]
      rw [ly_192_46 L', aput_in i0 (by rw [ll_214 L']; exact i1), w32_id (by omega) (by omega), Int.zero_add]
      rfl
    · unfold fX12_order_s89
      dsimp only
      rw [if_neg (by decide)]
      exact ⟨_, rfl, by rw [seg_off (by decide), q48], rfl⟩
theorem order_ok {h : hH} (hL : Lay h) (h1 : SchI h) (hO : OrdI h) : ∃ r h' h'', fX11_order h 0 = some (r, h') ∧ fX12_order h' 192 = some (r, h'') ∧ OrdI h'' ∧ Fr ordC h h'' := by
  have h0 := h1.2.1
  unfold fX11_order
  rw [ly_0_1 hL, packedOrder_ok (schAt4 hL) h1.1 h1.2]
  simp only [Option.bind_some]
  cases hk : ordK (h 194) (h 194 0).toNat with
  | none =>
    obtain ⟨r, h', c1, c2, c3⟩ := orderM_ok hL h1.2
    rw [hk] at c3
    obtain ⟨d1, d2, d3, d4⟩ := c3
    rw [d1] at c1
    refine ⟨-1, h, h', by simp, c1, ?_, c2⟩
    unfold OrdI at hO ⊢
    rw [d2, d3, d4]
    exact hO
  | some l =>
    obtain ⟨m1, m2, m3, m4⟩ := ordK_len h0 hk
    obtain ⟨p1, p2⟩ := pkL_ok (l := l) (by omega) m2
    dsimp only
    rw [if_neg (by omega)]
    simp only [pput, Option.bind_some]
    rw [show hup h 0 17 (pkL l) 0 1 = 4 by rw [hup_ne (by decide)]; exact ly_0_1 hL, show hup h 0 17 (pkL l) 4 0 = h 194 0 by rw [hup_off (by decide)]; exact h1.1.1.1, hup_at]
    generalize hq : hup (hup h 0 17 (pkL l)) 0 16 (h 194 0) = q
    have qa : ∀ a, a ≠ 0 → q a = h a := fun a ha => by rw [← hq, hup_off ha, hup_off ha]
    have fq : Fr ordC h q := by rw [← hq]; exact Fr.tr (Fr.up (by decide)) (Fr.up (by decide))
    have Lq := fq.lay hL ordC_lay1 ordC_lay2
    have e194 := qa 194 (by decide)
    obtain ⟨r, h', c1, c2, c3⟩ := orderM_ok Lq (by rw [e194]; exact h1.2)
    rw [e194, hk] at c3
    obtain ⟨d1, d2, d3, d4⟩ := c3
    have e16 : q 0 16 = h 194 0 := by rw [← hq, hup_at]
    have e17 : q 0 17 = pkL l := by rw [← hq, hup_ne (by decide), hup_at]
    refine ⟨h 194 0, q, h', rfl, by rw [c1, d1], Or.inr ?_, fq.tr c2⟩
    rw [d3, d2, e16, e17]
    refine ⟨h0.1, h0.2, rfl, fun k k0 k1 => ?_⟩
    have hkl : k.toNat < l.length := by omega
    have x1 := p2 k.toNat _ (List.getElem?_eq_getElem hkl)
    have x2 := d4 k.toNat _ (List.getElem?_eq_getElem hkl)
    rw [show ((k.toNat : Nat) : Int) = k by omega] at x1 x2
    rw [x1, x2]
