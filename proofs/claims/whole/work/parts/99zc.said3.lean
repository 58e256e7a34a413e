/-! THE CALL said -/
theorem p2_le {n : Nat} (h : n ≤ 20) : (2 : Int) ^ n ≤ 1048576 := by
  have : ∀ k : Fin 21, (2 : Int) ^ k.1 ≤ 1048576 := by decide
  exact this ⟨n, by omega⟩
theorem headD_1 {b : Int} : [b].headD 0 = b := rfl
theorem at_mid {α : Type} {γ1 γ3 : List α} {x : α} : (γ1 ++ x :: γ3)[γ1.length]? = some x := by
  rw [List.getElem?_append_right (Nat.le_refl _), Nat.sub_self]
  rfl
theorem holds_run {h : hH} {S : Int → Int} {γ : List CT} {i : Int} (hL : Lay h) (hc : Ctx4 h 14 4 S) (hs : SOk S) (hv : SVal S) (hV : VioC h 57 (vioL S 1)) (hl : (vioL S 1).length ≤ 880) (i0 : 0 ≤ i) (i1 : i < h 14 0) (hn : h 22 2 = γ.length) (h40 : γ.length ≤ 40) (hγ : ∀ (k : Nat) (x : CT), γ[k]? = some x → h 23 (3 * k) = (clsT x).1 ∧ h 23 (3 * k + 1) = (clsT x).2.1 ∧ h 23 (3 * k + 2) = (clsT x).2.2) : ∀ (γ2 γ1 : List CT) (bs : List Int), γ = γ1 ++ γ2 → bitsB bs → WFr γ2 bs.length 1 → bs.length ≤ γ1.length → lpO (fX6_holds_s6 h 22 4 14 i 57) (pileV bs, (γ1.length : Int)) = some ((evL S (h 15 i) γ2 bs).headD 0) := by
  intro γ2
  induction γ2 with
  | nil =>
    intro γ1 bs e hb hw hd
    rw [List.append_nil] at e
    have h1 : bs.length = 1 := hw
    match bs, hb, h1 with
    | [b], hb, _ =>
      have hb0 := hb b List.mem_cons_self
      refine lpO_inr ?_
      unfold fX6_holds_s6 fX6_holds_b129
      dsimp only
      rw [hn, e, if_neg (Int.lt_irrefl _)]
      show Option.map (fun z9 => (Sum.inr z9 : (Int × Int) ⊕ Int)) (if iadD (b + 2 * 0) 1 = 1 then some 1 else some 0) = some (Sum.inr b)
      rcases hb0 with rfl | rfl
      · rfl
      · rfl
  | cons x γ3 ih =>
    intro γ1 bs e hb hw hd
    have hmid : γ[γ1.length]? = some x := by rw [e]; exact at_mid
    obtain ⟨e1, e2, e3⟩ := hγ _ _ hmid
    have hlen : γ.length = γ1.length + γ3.length + 1 := by rw [e, List.length_append, List.length_cons]; omega
    have hdep := hw.dep
    rw [List.length_cons] at hdep
    have hat : fX11_at h (h 22 3) (w32 (3 * (γ1.length : Int))) = some (clsT x).1 := by
      rw [ly_22_3 hL, w32_id (by omega) (by omega), at_in (by omega) (by rw [ll_23 hL]; omega), e1]
    have hstep : fX6_holds_s6 h 22 4 14 i 57 (pileV bs, (γ1.length : Int)) = if (clsT x).1 = 151 then some (.inl (ixoD (pileV bs) 1, (γ1.length : Int) + 1)) else if (clsT x).1 = 144 then some (.inl (iadD (iusD (pileV bs) 1) (iorD (pileV bs) (-2)), (γ1.length : Int) + 1)) else if (clsT x).1 = 150 then some (.inl (iorD (iusD (pileV bs) 1) (iadD (pileV bs) 1), (γ1.length : Int) + 1)) else (fX6_holdsOne h 22 4 14 i 57 (γ1.length : Int)).bind fun r109 => if r109 = 0 then some (.inl (iorD (ishD (pileV bs) 1) 0, (γ1.length : Int) + 1)) else some (.inl (iorD (ishD (pileV bs) 1) 1, (γ1.length : Int) + 1)) := by
      unfold fX6_holds_s6 fX6_holds_b120
      dsimp only
      rw [hn, if_pos (by omega), if_pos (by omega), hat]
      simp only [Option.bind_some]
      rw [w1 (by omega) (by omega)]
    have pb := pileV_b hb
    have p20 : (2 : Int) ^ bs.length ≤ 1048576 := p2_le (by omega)
    obtain ⟨hb', hw', hcase⟩ := ev_cases (S := S) (q := h 15 i) hb hw
    have go : ∀ v, v = pileV (evC S (h 15 i) x bs) → fX6_holds_s6 h 22 4 14 i 57 (pileV bs, (γ1.length : Int)) = some (.inl (v, (γ1.length : Int) + 1)) → (evC S (h 15 i) x bs).length ≤ γ1.length + 1 → lpO (fX6_holds_s6 h 22 4 14 i 57) (pileV bs, (γ1.length : Int)) = some ((evL S (h 15 i) (x :: γ3) bs).headD 0) := fun v hv' hst hle => by
      rw [lpO_inl hst, hv']
      have := ih (γ1 ++ [x]) (evC S (h 15 i) x bs) (by rw [e]; simp) hb' hw' (by rw [List.length_append]; simpa using hle)
      rw [List.length_append] at this
      simp only [List.length_cons, List.length_nil] at this
      rw [show ((γ1.length : Int) + 1) = ((γ1.length + (0 + 1) : Nat) : Int) by push_cast; omega]
      exact this
    rcases hcase with ⟨hx, he⟩ | ⟨rfl, b, l, rfl, hb0, he⟩ | ⟨rfl, a, b, l, rfl, ha0, hb0, he⟩ | ⟨rfl, a, b, l, rfl, ha0, hb0, he⟩
    · obtain ⟨n1, n2, n3⟩ := cls_ne hx
      obtain ⟨r, r1, r2⟩ := leafC_ok hL hc hs hv hV hl hx (k := (γ1.length : Int)) (by omega) (by omega) e1 e2 e3 i0 i1
      rw [if_neg n1, if_neg n2, if_neg n3, r1] at hstep
      simp only [Option.bind_some] at hstep
      rcases r2 with ⟨rfl, r2⟩ | ⟨rfl, r2⟩
      · rw [if_neg (by decide), pu_ok pb.1 (by omega) (Or.inr rfl)] at hstep
        rw [if_pos r2] at he
        exact go _ (by rw [he]; rfl) hstep (by rw [he, List.length_cons]; omega)
      · rw [if_pos rfl, pu_ok pb.1 (by omega) (Or.inl rfl)] at hstep
        rw [if_neg r2] at he
        exact go _ (by rw [he]; rfl) hstep (by rw [he, List.length_cons]; omega)
    · have plb := pileV_b (bs := l) (fun y hy => hb y (List.mem_cons_of_mem _ hy))
      have pv : pileV (b :: l) = b + 2 * pileV l := rfl
      have hl2 : (2 : Int) ^ (b :: l).length = 2 ^ l.length * 2 := by rw [List.length_cons, Int.pow_succ]
      rw [if_pos (show (clsT (opc 20)).1 = 151 from rfl), pv, xo_ok hb0 plb.1 (by omega)] at hstep
      exact go _ (by rw [he, pileV]) (by rw [pv]; exact hstep) (by rw [he]; simp only [List.length_cons] at hd ⊢; omega)
    · have plb := pileV_b (bs := l) (fun y hy => hb y (List.mem_cons_of_mem _ (List.mem_cons_of_mem _ hy)))
      have pv : pileV (a :: b :: l) = a + 2 * (b + 2 * pileV l) := rfl
      have hl2 : (2 : Int) ^ (a :: b :: l).length = 2 ^ l.length * 2 * 2 := by rw [List.length_cons, List.length_cons, Int.pow_succ, Int.pow_succ]
      rw [if_neg (show ¬ (clsT (opc 21)).1 = 151 by decide), if_pos (show (clsT (opc 21)).1 = 144 from rfl), pv, an_ok ha0 hb0 plb.1 (by omega)] at hstep
      exact go _ (by rw [he, pileV]) (by rw [pv]; exact hstep) (by rw [he]; simp only [List.length_cons] at hd ⊢; omega)
    · have plb := pileV_b (bs := l) (fun y hy => hb y (List.mem_cons_of_mem _ (List.mem_cons_of_mem _ hy)))
      have pv : pileV (a :: b :: l) = a + 2 * (b + 2 * pileV l) := rfl
      have hl2 : (2 : Int) ^ (a :: b :: l).length = 2 ^ l.length * 2 * 2 := by rw [List.length_cons, List.length_cons, Int.pow_succ, Int.pow_succ]
      rw [if_neg (show ¬ (clsT (opc 22)).1 = 151 by decide), if_neg (show ¬ (clsT (opc 22)).1 = 144 by decide), if_pos (show (clsT (opc 22)).1 = 150 from rfl), pv, orr_ok ha0 hb0 plb.1 (by omega)] at hstep
      exact go _ (by rw [he, pileV]) (by rw [pv]; exact hstep) (by rw [he]; simp only [List.length_cons] at hd ⊢; omega)
def sdM (a b : Int) : Bool := a == 200 || a == 201 || a == 202 || (a == 192 && b == 26) || (a == 220 && decide (0 ≤ b))
theorem only_sd {h h' : hH} (ho : OnlyM h h') : Fr sdM h h' := fun a b z => by
  unfold sdM at z
  simp at z
  by_cases e : a = 192
  · rw [e]; exact ho.2 b (by omega)
  · rw [ho.1 a e (by omega) (by omega) (by omega)]
theorem sd_row {h h' : hH} (hf : Fr sdM h h') {a : Int} (h1 : a ≠ 192) (h2 : a ≠ 200) (h3 : a ≠ 201) (h4 : a ≠ 202) (h5 : a ≠ 220) : h' a = h a := hf.row a (fun b => by unfold sdM; simp; omega)
def Tru (h : hH) (bs : List Int) : Prop := ∀ (i : Nat) (b : Int), bs.reverse[i]? = some b → h 220 i = b
theorem Tru.set {h : hH} {bs l : List Int} {r : Int} (ht : Tru h l) : Tru (hup h 220 l.length r) (r :: l) := fun i b hb => by
  rw [List.reverse_cons] at hb
  rcases snoc_at hb with ⟨a, c⟩ | ⟨a, c⟩
  · rw [hup_ne (by rw [List.length_reverse] at a; omega)]
    exact ht i b c
  · rw [a, List.length_reverse, hup_at, c]
theorem Tru.top {h : hH} {l : List Int} {b : Int} (ht : Tru h (b :: l)) : h 220 l.length = b ∧ Tru h l := by
  constructor
  · refine ht l.length b ?_
    rw [List.reverse_cons, List.getElem?_append_right (by rw [List.length_reverse]; exact Nat.le_refl _), List.length_reverse, Nat.sub_self]
    rfl
  · intro i c hc
    refine ht i c ?_
    rw [List.reverse_cons, List.getElem?_append_left (List.getElem?_eq_some_iff.mp hc).1]
    exact hc
theorem isSaid_run {S : Int → Int} {γ : List CT} {q : Int} (x0 : hH) (hs : SOk S) (hv : SVal S) (hb40 : (liv S).length ≤ 40) (q0 : 0 ≤ q) (q1 : q < 99) (qa : S (150 + q) = 1) (hn : S 1239 = γ.length) (h40 : γ.length ≤ 40) (hγ : ∀ (k : Nat) (x : CT), γ[k]? = some x → S (1240 + 3 * k) = x.1 ∧ S (1240 + 3 * k + 1) = x.2.1 ∧ S (1240 + 3 * k + 2) = x.2.2) : ∀ (γ2 γ1 : List CT) (bs : List Int) (h : hH), Lay h → h 194 = S → Tru h bs → γ = γ1 ++ γ2 → bitsB bs → WFr γ2 bs.length 1 → bs.length ≤ γ1.length → ∃ h', lpO (fX12_isSaid_s4 x0 192 q) (h, (bs.length : Int), (γ1.length : Int)) = some ((evL S q γ2 bs).headD 0, h') ∧ Lay h' ∧ Fr sdM h h' := by
  intro γ2
  induction γ2 with
  | nil =>
    intro γ1 bs h hL hS ht e hb hw hd
    rw [List.append_nil] at e
    have h1 : bs.length = 1 := hw
    match bs, hb, h1, ht with
    | [b], hb, _, ht =>
      refine ⟨h, lpO_inr ?_, hL, Fr.rf⟩
      unfold fX12_isSaid_s4
      dsimp only
      rw [sgk hL (by decide) (by decide), hS, hn, e]
      simp only [Option.bind_some]
      rw [if_neg (Int.lt_irrefl _), ly_192_62 hL, aget_in (by decide) (by rw [ll_220 hL]; decide)]
      simp only [Option.bind_some]
      have := ht.top.1
      simp only [List.length_nil, Int.natCast_zero] at this
      rw [show h 220 0 = b from this]
      rfl
  | cons x γ3 ih =>
    intro γ1 bs h hL hS ht e hb hw hd
    have hmid : γ[γ1.length]? = some x := by rw [e]; exact at_mid
    obtain ⟨e1, e2, e3⟩ := hγ _ _ hmid
    have hlen : γ.length = γ1.length + γ3.length + 1 := by rw [e, List.length_append, List.length_cons]; omega
    have hdep := hw.dep
    rw [List.length_cons] at hdep
    have g0 : aget h (h 192 6) (w32 (1240 + w32 (3 * (γ1.length : Int)))) = some x.1 := by
      rw [w32_id (x := 3 * (γ1.length : Int)) (by omega) (by omega), w32_id (by omega) (by omega), sgk hL (by omega) (by omega), hS, e1]
    have hstep : fX12_isSaid_s4 x0 192 q (h, (bs.length : Int), (γ1.length : Int)) = if x.1 = 20 then (aget h 220 (w32 ((bs.length : Int) - 1))).bind fun v51 => if v51 = 0 then fX12_isSaid_b60 h 192 q (bs.length : Int) (γ1.length : Int) 1 (w32 ((bs.length : Int) - 1)) 220 else fX12_isSaid_b60 h 192 q (bs.length : Int) (γ1.length : Int) 0 (w32 ((bs.length : Int) - 1)) 220 else if x.1 = 21 then fX12_isSaid_b88 h 192 q (bs.length : Int) (γ1.length : Int) (w32 (1240 + w32 (3 * (γ1.length : Int)))) else if x.1 = 22 then fX12_isSaid_b88 h 192 q (bs.length : Int) (γ1.length : Int) (w32 (1240 + w32 (3 * (γ1.length : Int)))) else (fX12_isLeaf h 192 q x.1 x.2.1 x.2.2).bind fun q199 => (aput q199.2 220 (bs.length : Int) q199.1).bind fun h202 => some (.inl (h202, w32 ((bs.length : Int) + 1), w32 ((γ1.length : Int) + 1))) := by
      unfold fX12_isSaid_s4
      dsimp only
      rw [sgk hL (by decide) (by decide), hS, hn]
      simp only [Option.bind_some]
      rw [if_pos (by omega), g0]
      simp only [Option.bind_some]
      have g1 : aget h (h 192 6) (w32 (w32 (1240 + w32 (3 * (γ1.length : Int))) + 1)) = some x.2.1 := by
        rw [w32_id (x := 3 * (γ1.length : Int)) (by omega) (by omega), w32_id (x := 1240 + 3 * (γ1.length : Int)) (by omega) (by omega), w32_id (by omega) (by omega), sgk hL (by omega) (by omega), hS, e2]
      have g2 : aget h (h 192 6) (w32 (w32 (1240 + w32 (3 * (γ1.length : Int))) + 2)) = some x.2.2 := by
        rw [w32_id (x := 3 * (γ1.length : Int)) (by omega) (by omega), w32_id (x := 1240 + 3 * (γ1.length : Int)) (by omega) (by omega), w32_id (by omega) (by omega), sgk hL (by omega) (by omega), hS, e3]
      rw [g1, g2, ly_192_62 hL]
      simp only [Option.bind_some]
    obtain ⟨hb', hw', hcase⟩ := ev_cases (S := S) (q := q) hb hw
    have go : ∀ h1, Lay h1 → Fr sdM h h1 → Tru h1 (evC S q x bs) → fX12_isSaid_s4 x0 192 q (h, (bs.length : Int), (γ1.length : Int)) = some (.inl (h1, ((evC S q x bs).length : Int), (γ1.length : Int) + 1)) → (evC S q x bs).length ≤ γ1.length + 1 → ∃ h', lpO (fX12_isSaid_s4 x0 192 q) (h, (bs.length : Int), (γ1.length : Int)) = some ((evL S q (x :: γ3) bs).headD 0, h') ∧ Lay h' ∧ Fr sdM h h' := fun h1 L1 f1 t1 hst hle => by
      obtain ⟨h', a1, a2, a3⟩ := ih (γ1 ++ [x]) (evC S q x bs) h1 L1 (by rw [sd_row f1 (by decide) (by decide) (by decide) (by decide) (by decide)]; exact hS) t1 (by rw [e]; simp) hb' hw' (by rw [List.length_append]; simpa using hle)
      refine ⟨h', ?_, a2, f1.tr a3⟩
      rw [lpO_inl hst]
      rw [List.length_append] at a1
      simp only [List.length_cons, List.length_nil] at a1
      rw [show ((γ1.length : Int) + 1) = ((γ1.length + (0 + 1) : Nat) : Int) by push_cast; omega]
      exact a1
    have put : ∀ (g : hH) (i v : Int), Lay g → 0 ≤ i → i < 45 → aput g 220 i v = some (hup g 220 i v) := fun g i v Lg i0 i1 => aput_in i0 (by rw [ll_220 Lg]; exact i1)
    have get : ∀ (i : Int), 0 ≤ i → i < 45 → aget h 220 i = some (h 220 i) := fun i i0 i1 => aget_in i0 (by rw [ll_220 hL]; exact i1)
    have fup : ∀ (i v : Int), 0 ≤ i → Fr sdM h (hup h 220 i v) := fun i v i0 => Fr.up (by unfold sdM; simp; exact i0)
    rcases hcase with ⟨hx, he⟩ | ⟨rfl, b, l, rfl, hb0, he⟩ | ⟨rfl, a, b, l, rfl, ha0, hb0, he⟩ | ⟨rfl, a, b, l, rfl, ha0, hb0, he⟩
    · obtain ⟨n1, n2, n3⟩ := leaf_ne hx
      obtain ⟨r, h1, r1, r2, r3, r4⟩ := leafM_ok hL (by rw [hS]; exact hs) (by rw [hS]; exact hv) (by rw [hS]; exact hb40) hx q0 q1 (by rw [hS]; exact qa)
      rw [hS] at r2
      rw [if_neg n1, if_neg n2, if_neg n3, r1] at hstep
      simp only [Option.bind_some] at hstep
      rw [put h1 _ _ r3 (by omega) (by omega)] at hstep
      simp only [Option.bind_some] at hstep
      rw [w1 (by omega) (by omega), w1 (by omega) (by omega)] at hstep
      have t1 : Tru h1 bs := fun i b hi => by
        rw [r4.1 220 (by decide) (by decide) (by decide) (by decide)]
        exact ht i b hi
      have he' : evC S q x bs = r :: bs := by
        rw [he]
        rcases r2 with ⟨rfl, r2⟩ | ⟨rfl, r2⟩
        · rw [if_pos r2]
        · rw [if_neg r2]
      refine go (hup h1 220 (bs.length : Int) r) (r3.upA (by decide) (by omega)) ((only_sd r4).tr (Fr.up (by unfold sdM; simp))) (by rw [he']; exact Tru.set (bs := bs) t1) ?_ (by rw [he', List.length_cons]; omega)
      rw [hstep, he', List.length_cons]
      push_cast
      rfl
    · obtain ⟨t1, t2⟩ := ht.top
      rw [if_pos (show (opc 20).1 = 20 from rfl), List.length_cons, show (((l.length + 1 : Nat) : Int) - 1) = (l.length : Int) by push_cast; omega, w32_id (x := (l.length : Int)) (by omega) (by simp only [List.length_cons] at hd; omega), get _ (by omega) (by simp only [List.length_cons] at hd; omega), t1] at hstep
      simp only [Option.bind_some] at hstep
      have hl40 : l.length < 40 := by simp only [List.length_cons] at hd; omega
      have hst : fX12_isSaid_s4 x0 192 q (h, (((b :: l).length : Nat) : Int), (γ1.length : Int)) = some (.inl (hup h 220 l.length (1 - b), (l.length : Int) + 1, (γ1.length : Int) + 1)) := by
        rw [List.length_cons, hstep]
        unfold fX12_isSaid_b60
        rw [put h _ _ hL (by omega) (by omega), put h _ _ hL (by omega) (by omega), w1 (i := (γ1.length : Int)) (by omega) (by omega)]
        rcases hb0 with rfl | rfl
        · rw [if_pos rfl]; push_cast; rfl
        · rw [if_neg (by decide)]; push_cast; rfl
      refine go (hup h 220 (l.length : Int) (1 - b)) (hL.upA (by decide) (by omega)) (fup _ _ (by omega)) (by rw [he]; exact Tru.set (bs := l) t2) ?_ (by rw [he]; simp only [List.length_cons] at hd ⊢; omega)
      rw [hst, he, List.length_cons]
      push_cast
      rfl
    · obtain ⟨t1, t2⟩ := ht.top
      obtain ⟨t3, t4⟩ := t2.top
      have hl40 : l.length < 38 := by simp only [List.length_cons] at hd; omega
      rw [List.length_cons] at t1
      have hst : fX12_isSaid_s4 x0 192 q (h, (((a :: b :: l).length : Nat) : Int), (γ1.length : Int)) = some (.inl (hup h 220 l.length (a * b), (l.length : Int) + 1, (γ1.length : Int) + 1)) := by
        rw [hstep, if_neg (show ¬ (opc 21).1 = 20 by decide), if_pos (show (opc 21).1 = 21 from rfl)]
        simp only [List.length_cons]
        unfold fX12_isSaid_b88 fX12_isSaid_b134 fX12_isSaid_b163
        rw [g0, ly_192_62 hL, show (((l.length + 1 + 1 : Nat) : Int) + (-1)) = (l.length : Int) + 1 by push_cast; omega, w32_id (x := (l.length : Int) + 1) (by omega) (by omega), show (l.length : Int) + 1 - 1 = l.length by omega, w32_id (x := (l.length : Int)) (by omega) (by omega)]
        simp only [Option.bind_some]
        rw [if_pos (show (opc 21).1 = 21 from rfl), get _ (by omega) (by omega), t3, get _ (by omega) (by omega), show h 220 ((l.length : Int) + 1) = a by rw [← t1]; push_cast; rfl, put h _ _ hL (by omega) (by omega), put h _ _ hL (by omega) (by omega), w1 (i := (γ1.length : Int)) (by omega) (by omega)]
        simp only [Option.bind_some]
        rcases hb0 with rfl | rfl
        · rw [if_pos rfl, Int.mul_zero]
        · rw [if_neg (by decide), Int.mul_one]
          rcases ha0 with rfl | rfl
          · rw [if_pos rfl]
          · rw [if_neg (by decide)]
      refine go (hup h 220 (l.length : Int) (a * b)) (hL.upA (by decide) (by omega)) (fup _ _ (by omega)) (by rw [he]; exact Tru.set (bs := l) t4) ?_ (by rw [he]; simp only [List.length_cons] at hd ⊢; omega)
      rw [hst, he, List.length_cons]
      push_cast
      rfl
    · obtain ⟨t1, t2⟩ := ht.top
      obtain ⟨t3, t4⟩ := t2.top
      have hl40 : l.length < 38 := by simp only [List.length_cons] at hd; omega
      rw [List.length_cons] at t1
      have hst : fX12_isSaid_s4 x0 192 q (h, (((a :: b :: l).length : Nat) : Int), (γ1.length : Int)) = some (.inl (hup h 220 l.length (if b = 0 then a else 1), (l.length : Int) + 1, (γ1.length : Int) + 1)) := by
        rw [hstep, if_neg (show ¬ (opc 22).1 = 20 by decide), if_neg (show ¬ (opc 22).1 = 21 by decide), if_pos (show (opc 22).1 = 22 from rfl)]
        simp only [List.length_cons]
        unfold fX12_isSaid_b88 fX12_isSaid_b158 fX12_isSaid_b163
        rw [g0, ly_192_62 hL, show (((l.length + 1 + 1 : Nat) : Int) + (-1)) = (l.length : Int) + 1 by push_cast; omega, w32_id (x := (l.length : Int) + 1) (by omega) (by omega), show (l.length : Int) + 1 - 1 = l.length by omega, w32_id (x := (l.length : Int)) (by omega) (by omega)]
        simp only [Option.bind_some]
        rw [if_neg (show ¬ (opc 22).1 = 21 by decide), get _ (by omega) (by omega), t3, get _ (by omega) (by omega), show h 220 ((l.length : Int) + 1) = a by rw [← t1]; push_cast; rfl, put h _ _ hL (by omega) (by omega), put h _ _ hL (by omega) (by omega), w1 (i := (γ1.length : Int)) (by omega) (by omega)]
        simp only [Option.bind_some]
        rcases hb0 with rfl | rfl
        · rw [if_pos rfl, if_pos rfl]
          rcases ha0 with rfl | rfl
          · rw [if_pos rfl]
          · rw [if_neg (by decide)]
        · rw [if_neg (by decide), if_neg (by decide)]
      refine go (hup h 220 (l.length : Int) (if b = 0 then a else 1)) (hL.upA (by decide) (by omega)) (fup _ _ (by omega)) (by rw [he]; exact Tru.set (bs := l) t4) ?_ (by rw [he]; simp only [List.length_cons] at hd ⊢; omega)
      rw [hst, he, List.length_cons]
      push_cast
      rfl
/-- a list is gone along: the k-th that is so, or how many are -/
def scanL (p : Int → Bool) (k : Int) : List Int → Int → Int ⊕ Int
  | [], n => .inr n
  | i :: l, n => if p i = true then (if n = k then .inl i else scanL p k l (n + 1)) else scanL p k l n
theorem scanL_filter {p : Int → Bool} {k : Int} : ∀ {l : List Int} {n : Int}, scanL p k l n = scanL (fun _ => true) k (l.filter p) n
  | [], _ => rfl
  | i :: l, n => by
    by_cases h : p i = true
    · rw [List.filter_cons_of_pos h]
      show (if p i = true then (if n = k then .inl i else scanL p k l (n + 1)) else scanL p k l n) = (if true = true then (if n = k then Sum.inl i else scanL (fun _ => true) k (l.filter p) (n + 1)) else scanL (fun _ => true) k (l.filter p) n)
      rw [if_pos h, if_pos rfl, scanL_filter]
    · rw [List.filter_cons_of_neg h]
      show (if p i = true then (if n = k then .inl i else scanL p k l (n + 1)) else scanL p k l n) = _
      rw [if_neg h, scanL_filter]
theorem scanL_map {k : Int} {f : Int → Int} : ∀ {l : List Int} {n : Int}, scanL (fun _ => true) k (l.map f) n = (match scanL (fun _ => true) k l n with | .inl i => .inl (f i) | .inr m => .inr m)
  | [], _ => rfl
  | i :: l, n => by
    show (if true = true then (if n = k then Sum.inl (f i) else scanL (fun _ => true) k (l.map f) (n + 1)) else scanL (fun _ => true) k (l.map f) n) = (match (if true = true then (if n = k then Sum.inl i else scanL (fun _ => true) k l (n + 1)) else scanL (fun _ => true) k l n) with | .inl i => .inl (f i) | .inr m => .inr m)
    rw [if_pos rfl, if_pos rfl]
    by_cases h : n = k
    · rw [if_pos h, if_pos h]
    · rw [if_neg h, if_neg h, scanL_map]
def sayR (k : Int) (r : Int ⊕ Int) : Int := match r with | .inl i => i | .inr m => if k = -1 then m else -1
def sdA (a b : Int) : Bool := a == 57 || a == 58 || sdM a b || (a == 192 && b == 0)
theorem said_ok {h : hH} (hL : Lay h) (h1 : SchI h) (h2 : StI h) (hS : SenR h 22 (h 194)) (k : Int) : ∃ r c e, fX11_said h 0 k = some (r, c) ∧ fX12_said c 192 k = some (r, e) ∧ Lay e ∧ Fr sdA h e := by
  have thr : ∀ c : hH, Lay c → (∀ a, 191 < a → c a = h a) → fX12_said c 192 k = if h 194 1239 = 0 then some (-1, Th c) else if k < -1 then some (-1, Th c) else lpO (fX12_said_s27 (Th c) 192 k) (Th c, 0, 0) := fun c Lc ec => by
    unfold fX12_said
    rw [th_p]
    simp only [Option.bind_some]
    rw [sgk (th_lay Lc) (by decide) (by decide), th_off (by decide), ec 194 (by decide)]
    rfl
  have thF : ∀ c : hH, Fr sdA h c → Fr sdA h (Th c) := fun c hc => hc.tr (Fr.up (by decide))
  rcases hS with ⟨s1, s2⟩ | ⟨γ, g1, g40, gw, s1, s2, s3, gγ⟩
  · refine ⟨-1, h, Th h, ?_, ?_, th_lay hL, thF h Fr.rf⟩
    · unfold fX11_said
      rw [ly_0_3 hL, s1, if_pos rfl]
    · rw [thr h hL (fun _ _ => rfl), if_pos s2]
  · by_cases kn : k < -1
    · refine ⟨-1, h, Th h, ?_, ?_, th_lay hL, thF h Fr.rf⟩
      · unfold fX11_said
        rw [ly_0_3 hL, s1, if_neg (by decide), if_pos kn]
      · rw [thr h hL (fun _ _ => rfl), if_neg (by omega), if_pos kn]
    · obtain ⟨c, c1, c2, c3, c4, c5, c6⟩ := scanNow (Or.inr rfl) hL h1 h2
      have cr : ∀ a, a ≠ 57 → a ≠ 58 → c a = h a := fun a a1 a2 => c3.row a1 a2
      have es : c 194 = h 194 := cr 194 (by decide) (by decide)
      have hs := h1.2
      have hv := h2.2.2.2.1
      have hb40 := h2.2.2.2.2.2.2.1
      have hbit := h2.2.2.2.2.2.1
      have hc : Ctx4 c 14 4 (h 194) := by rw [← es]; exact ctx14 c4 c5 c6
      have hvl := vioL_len (late := 1) hs hb40
      -- the class
      have hcl : fX11_said h 0 k = lpO (fX11_said_s44 c 0 k) (0, 0) := by
        unfold fX11_said
        rw [ly_0_3 hL, s1, if_neg (by decide), if_neg kn, ly_0_8 hL, ly_52_3 hL, ly_0_1 hL, ly_0_2 hL, ly_13_0 hL, c1]
        rfl
      have n0 : 0 ≤ c 14 0 := hc.2.1.1
      have n40 : c 14 0 ≤ 40 := hc.2.1.2.1
      have hold : ∀ i, 0 ≤ i → i < c 14 0 → fX6_holds c 22 4 14 i 57 = some ((evL (h 194) (c 15 i) γ []).headD 0) := fun i i0 i1 => by
        have := holds_run (γ := γ) c4 hc hs hv c2 hvl i0 i1 (by rw [cr 22 (by decide) (by decide)]; exact s2) g40 (fun k x hx => by
          rw [cr 23 (by decide) (by decide)]
          exact (gγ k x hx).1) γ [] [] rfl (fun b hb => by cases hb) gw (Nat.le_refl _)
        exact this
      have lp : ∀ (d : Nat) (i m : Int), (c 14 0 - i).toNat = d → 0 ≤ i → i ≤ c 14 0 → 0 ≤ m → m ≤ i → lpO (fX11_said_s44 c 0 k) (m, i) = some (sayR k (match scanL (fun i => (evL (h 194) (c 15 i) γ []).headD 0 == 1) k (rng i (c 14 0)) m with | .inl i => .inl (c 15 i) | .inr m => .inr m), c) := by
        intro d
        induction d with
        | zero =>
          intro i m hd i0 i1 m0 m1
          have e : i = c 14 0 := by omega
          rw [rng_nil (by omega)]
          refine lpO_inr ?_
          unfold fX11_said_s44
          dsimp only
          rw [ly_0_2 c4, ly_13_0 c4, if_neg (by omega)]
          show (if k = -1 then some (Sum.inr (m, c)) else some (Sum.inr (-1, c))) = some (Sum.inr ((if k = -1 then m else -1), c))
          split <;> rfl
        | succ d ih =>
          intro i m hd i0 i1 m0 m1
          obtain ⟨b, hb1, hb2⟩ := ev_end (S := h 194) (q := c 15 i) (γ := γ) (bs := []) (fun b hb => by cases hb) gw
          have hho := hold i i0 (by omega)
          rw [hb1, headD_1] at hho
          have hsx : fX11_said_s44 c 0 k (m, i) = if b = 0 then some (.inl (m, i + 1)) else if m = k then some (.inr (c 15 i, c)) else some (.inl (m + 1, i + 1)) := by
            unfold fX11_said_s44
            dsimp only
            rw [ly_0_2 c4, ly_13_0 c4, if_pos (by omega), ly_0_3 c4, ly_0_1 c4, ly_0_8 c4, ly_52_3 c4, hho]
            simp only [Option.bind_some]
            rw [numberAt_in hc.1 n40 i0 (by omega), w1 (i := i) (by omega) (by omega), w1 (i := m) (by omega) (by omega)]
            rfl
          rw [rng_cons (by omega)]
          unfold scanL
          rw [hb1, headD_1]
          rcases hb2 with rfl | rfl
          · rw [if_pos rfl] at hsx
            rw [lpO_inl hsx, if_neg (by decide)]
            exact ih (i + 1) m (by omega) (by omega) (by omega) m0 (by omega)
          · rw [if_neg (by decide)] at hsx
            rw [if_pos (by decide)]
            by_cases z : m = k
            · rw [if_pos z] at hsx ⊢
              exact lpO_inr hsx
            · rw [if_neg z] at hsx ⊢
              rw [lpO_inl hsx]
              exact ih (i + 1) (m + 1) (by omega) (by omega) (by omega) (by omega) (by omega)
      -- the model
      have lpm : ∀ (d : Nat) (i m : Int) (g : hH), (99 - i).toNat = d → 0 ≤ i → i ≤ 99 → 0 ≤ m → m ≤ i → Lay g → g 194 = h 194 → ∃ e, lpO (fX12_said_s27 (Th c) 192 k) (g, m, i) = some (sayR k (scanL (fun q => (h 194 (150 + q) == 1) && ((evL (h 194) q γ []).headD 0 == 1)) k (rng i 99) m), e) ∧ Lay e ∧ Fr sdM g e := by
        intro d
        induction d with
        | zero =>
          intro i m g hd i0 i1 m0 m1 Lg eg
          have e : i = 99 := by omega
          rw [rng_nil (by omega)]
          refine ⟨g, lpO_inr ?_, Lg, Fr.rf⟩
          unfold fX12_said_s27
          dsimp only
          rw [if_neg (by omega)]
          show (if k = -1 then some (Sum.inr (m, g)) else some (Sum.inr (-1, g))) = some (Sum.inr ((if k = -1 then m else -1), g))
          split <;> rfl
        | succ d ih =>
          intro i m g hd i0 i1 m0 m1 Lg eg
          have hsx : fX12_said_s27 (Th c) 192 k (g, m, i) = if h 194 (150 + i) = 0 then some (.inl (g, m, i + 1)) else (fX12_isSaid g 192 i).bind fun q48 => if q48.1 = 0 then some (.inl (q48.2, m, i + 1)) else if m = k then some (.inr (i, q48.2)) else some (.inl (q48.2, m + 1, i + 1)) := by
            unfold fX12_said_s27
            dsimp only
            rw [if_pos (by omega), w32_id (x := 150 + i) (by omega) (by omega), sgk Lg (by omega) (by omega), eg]
            simp only [Option.bind_some]
            rw [w1 (i := i) (by omega) (by omega), w1 (i := m) (by omega) (by omega)]
          rw [rng_cons (by omega)]
          unfold scanL
          rcases hbit i i0 (by omega) with z | z
          · rw [if_pos z] at hsx
            rw [z, lpO_inl hsx, show ((0 : Int) == 1) = false from rfl, Bool.false_and, if_neg (by decide)]
            exact ih (i + 1) m g (by omega) (by omega) (by omega) m0 (by omega) Lg eg
          · rw [if_neg (by omega)] at hsx
            obtain ⟨b, hb1, hb2⟩ := ev_end (S := h 194) (q := i) (γ := γ) (bs := []) (fun b hb => by cases hb) gw
            obtain ⟨g', x1, x2, x3⟩ := isSaid_run (S := h 194) (γ := γ) (q := i) g hs hv hb40 i0 (by omega) z s3 g40 (fun k x hx => (gγ k x hx).2) γ [] [] g Lg eg (fun i b hi => by simp at hi) rfl (fun b hb => by cases hb) gw (Nat.le_refl _)
            have hss : fX12_isSaid g 192 i = some (b, g') := by
              unfold fX12_isSaid
              rw [hb1, headD_1] at x1
              exact x1
            rw [hss] at hsx
            simp only [Option.bind_some] at hsx
            have eg' : g' 194 = h 194 := by rw [sd_row x3 (by decide) (by decide) (by decide) (by decide) (by decide)]; exact eg
            rw [z, hb1, headD_1, show ((1 : Int) == 1) = true from rfl, Bool.true_and]
            rcases hb2 with rfl | rfl
            · rw [if_pos rfl] at hsx
              obtain ⟨e, q1, q2, q3⟩ := ih (i + 1) m g' (by omega) (by omega) (by omega) m0 (by omega) x2 eg'
              exact ⟨e, by rw [lpO_inl hsx, if_neg (by decide)]; exact q1, q2, x3.tr q3⟩
            · rw [if_neg (by decide)] at hsx
              rw [if_pos (by decide)]
              by_cases w : m = k
              · rw [if_pos w] at hsx ⊢
                exact ⟨g', lpO_inr hsx, x2, x3⟩
              · rw [if_neg w] at hsx ⊢
                obtain ⟨e, q1, q2, q3⟩ := ih (i + 1) (m + 1) g' (by omega) (by omega) (by omega) (by omega) (by omega) x2 eg'
                exact ⟨e, by rw [lpO_inl hsx]; exact q1, q2, x3.tr q3⟩
      obtain ⟨e, q1, q2, q3⟩ := lpm 99 0 0 (Th c) (by decide) (Int.le_refl _) (by decide) (Int.le_refl _) (Int.le_refl _) (th_lay c4) (by rw [th_off (by decide)]; exact es)
      have hliv : liv (h 194) = (rng 0 (c 14 0)).map (c 15) := by rw [← es]; exact c6.liv
      have heq : scanL (fun q => (h 194 (150 + q) == 1) && ((evL (h 194) q γ []).headD 0 == 1)) k (rng 0 99) 0 = (match scanL (fun i => (evL (h 194) (c 15 i) γ []).headD 0 == 1) k (rng 0 (c 14 0)) 0 with | .inl i => .inl (c 15 i) | .inr m => .inr m) := by
        rw [scanL_filter, filter_rows (p := fun q => (evL (h 194) q γ []).headD 0 == 1) hliv, scanL_map, ← scanL_filter]
      refine ⟨_, c, e, hcl.trans (lp (c 14 0).toNat 0 0 (by omega) (Int.le_refl _) n0 (Int.le_refl _) (Int.le_refl _)), ?_, q2, ?_⟩
      · rw [thr c c4 (fun a ha => cr a (by omega) (by omega)), if_neg (by omega), if_neg kn, q1, heq]
      · have fc : Fr sdA h c := fun a b z => by
          unfold sdA at z
          simp at z
          rw [cr a z.1.1.1 z.1.1.2]
        exact (thF c fc).tr (q3.mono (fun a b z => by unfold sdA; rw [z]; simp))
