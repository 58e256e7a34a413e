/-! THE RULES OF CONSTRUCTORS WITH ANY END, for the law's first acts -/
def Wy (p : Program) (l : Launch) (e : Env) (R : Room) (s : State) (m : MethodId) (args : Array Value) (below : List Frame) (meth : Method) (c : Code) (D : va_G) (G G0 : gG) (A : Nat → Prop) (H0 : Heap) (sg : Bool) (n0 : Int) (M : mM) (Q : State → Prop) (cells slots : Nat) (pc : Nat) (lv : List (Nat × vV)) (st : List vV) (h : hH) : Prop :=
  cxOk p R s m args meth c D G A H0 M → hOk sg h → ((agG n0 (nn h) G G0 ∧ (∀ q : Nat, A q → (∃ k : Nat, (k : Int) < n0 ∧ q = G0.1 k) ∨ H0.size ≤ q)) ∧ n0 ≤ nn h) → (∀ q ∈ lv, hT (nn h) q.2.1 q.2.2) → (∀ q ∈ st, hT (nn h) q.1 q.2) → ∀ (H : Heap) (locs : List Loc) (ls : Array Slot), wOk D G A h H → va_S A H0 H locs → lv_has ls M.2.1 (lv.map (fun q => (q.1, cv G.1 q.2))) →
    W p l e R s m args below meth c H locs cells slots Q (F0 m pc ls (st.map (cv G.1)))
section YR
variable {p : Program} {l : Launch} {e : Env} {R : Room} {s : State} {m : MethodId} {args : Array Value} {below : List Frame} {meth : Method} {c : Code} {D : va_G} {G G0 : gG} {A : Nat → Prop} {H0 : Heap} {sg : Bool} {n0 : Int} {M : mM} {Q : State → Prop} {cells slots : Nat} {pc : Nat} {lv : List (Nat × vV)} {st : List vV} {h : hH}
theorem y_pure {v : vV} {pc' : Nat} (hv : hT (nn h) v.1 v.2) (step : ∀ {Q : State → Prop} {H : Heap} {locs : List Loc} {ls : Array Slot}, p.tables.exec = Jvm.exec → c.code = M.1 → s.vm.findClass M.2.2.1 = some m.cls → (∀ w ∈ wsL_law, w.before args s = true) → lv_has ls M.2.1 (lv.map (fun q => (q.1, cv G.1 q.2))) →
      W p l e R s m args below meth c H locs cells slots Q (F0 m pc' ls (cv G.1 v :: st.map (cv G.1))) → W p l e R s m args below meth c H locs cells slots Q (F0 m pc ls (st.map (cv G.1))))
    (kk : Wy p l e R s m args below meth c D G G0 A H0 sg n0 M Q cells slots pc' lv (v :: st) h) : Wy p l e R s m args below meth c D G G0 A H0 sg n0 M Q cells slots pc lv st h := by
  intro hC hh hn hlv hst H locs ls hw hS hls
  exact step hC.1 hC.2.1 hC.2.2.2.1 hC.2.2.2.2.2.2.2.2.1 hls (kk hC hh hn hlv (stc hv hst) H locs ls hw hS hls)
theorem y_iconst {n : Int} (hd : decode M.1 pc = .ok (.iconst n, 1)) (hr : R32 n) (kk : Wy p l e R s m args below meth c D G G0 A H0 sg n0 M Q cells slots (pc + 1) lv ((0, n) :: st) h) : Wy p l e R s m args below meth c D G G0 A H0 sg n0 M Q cells slots pc lv st h :=
  y_pure (v := (0, n)) hr (fun hx hb _ _ _ k => lv_iconst hx hb hd rfl k) kk
theorem y_istore_n {k : Fin 4} {i : Nat} {v : vV} {lv' : List (Nat × vV)} (hd : decode M.1 pc = .ok (.istore_n k, 1)) (hi : (k : Nat) = i) (hv : v.1 = 0 ∨ v.1 = 2) (hn9 : i < M.2.1) (hl : (i, v) :: lv.filter (fl1 i) = lv') (kk : Wy p l e R s m args below meth c D G G0 A H0 sg n0 M Q cells slots (pc + 1) lv' st h) : Wy p l e R s m args below meth c D G G0 A H0 sg n0 M Q cells slots pc lv (v :: st) h := by
  obtain ⟨t, y⟩ := v
  intro hC hh hn hlv hst H locs ls hw hS hls
  have hv9 := hst _ List.mem_cons_self
  have hm := lvm (G := G) (v := (t, y)) (fl1 i) (fun q => !(q.1 == i) && !(q.1 + 1 == i && q.2.category == 2)) (fun q => by simp only [fl1, cv_cat]) hl
  rcases hv with e9 | e9 <;> (dsimp only at e9; subst e9; exact lv_istore_n hC.1 hC.2.1 hd hi hls hn9 hm (fun ls' hls' => kk hC hh hn (lvc hv9 hlv _ hl) (fun q hq => hst q (List.mem_cons_of_mem _ hq)) H locs ls' hw hS hls'))
theorem y_astore_n {k : Fin 4} {i : Nat} {v : vV} {lv' : List (Nat × vV)} (hd : decode M.1 pc = .ok (.astore_n k, 1)) (hi : (k : Nat) = i) (hv : 3 ≤ v.1) (hn9 : i < M.2.1) (hl : (i, v) :: lv.filter (fl1 i) = lv') (kk : Wy p l e R s m args below meth c D G G0 A H0 sg n0 M Q cells slots (pc + 1) lv' st h) : Wy p l e R s m args below meth c D G G0 A H0 sg n0 M Q cells slots pc lv (v :: st) h := by
  intro hC hh hn hlv hst H locs ls hw hS hls
  have hv9 := hst _ List.mem_cons_self
  have hm := lvm (G := G) (v := v) (fl1 i) (fun q => !(q.1 == i) && !(q.1 + 1 == i && q.2.category == 2)) (fun q => by simp only [fl1, cv_cat]) hl
  rw [List.map_cons]
  rcases cv_ref G.1 hv with e9 | e9
  · rw [e9] at hm ⊢; exact lv_astore_nN hC.1 hC.2.1 hd hi hls hn9 hm (fun ls' hls' => kk hC hh hn (lvc hv9 hlv _ hl) (fun q hq => hst q (List.mem_cons_of_mem _ hq)) H locs ls' hw hS hls')
  · rw [e9] at hm ⊢; exact lv_astore_n hC.1 hC.2.1 hd hi hls hn9 hm (fun ls' hls' => kk hC hh hn (lvc hv9 hlv _ hl) (fun q hq => hst q (List.mem_cons_of_mem _ hq)) H locs ls' hw hS hls')
theorem y_dup {v : vV} (hd : decode M.1 pc = .ok (.dup, 1)) (hv : v.1 ≠ 1) (kk : Wy p l e R s m args below meth c D G G0 A H0 sg n0 M Q cells slots (pc + 1) lv (v :: v :: st) h) : Wy p l e R s m args below meth c D G G0 A H0 sg n0 M Q cells slots pc lv (v :: st) h := by
  intro hC hh hn hlv hst H locs ls hw hS hls
  exact lv_dup hC.1 hC.2.1 hd (cv_cat1 _ hv) (kk hC hh hn hlv (stc (hst v List.mem_cons_self) hst) H locs ls hw hS hls)
theorem al_goY {n len : Int} {T cs ss : Nat} {pc' : Nat} {H H1 : Heap} {locs : List Loc} {ls : Array Slot} {st2 : List vV} (hC : cxOk p R s m args meth c D G A H0 M) (hh : hOk false h) (hn : (agG n0 (nn h) G G0 ∧ (∀ q : Nat, A q → (∃ k : Nat, (k : Int) < n0 ∧ q = G0.1 k) ∨ H0.size ≤ q)) ∧ n0 ≤ nn h) (hlv : ∀ q ∈ lv, hT (nn h) q.2.1 q.2.2) (hst : ∀ q ∈ st2, hT (nn h) q.1 q.2) (hw : wOk D G A h H) (hS : va_S A H0 H locs) (hls : lv_has ls M.2.1 (lv.map (fun q => (q.1, cv G.1 q.2))))
    (hal : nn h = n ∧ 0 ≤ n ∧ n < lay.length ∧ kd n.toNat = T ∧ 0 ≤ len ∧ len < 100000) (ht3 : 10 ≤ T ∧ T < 60) (z1 : H1.size = H.size + 1) (o1 : ∀ a : Nat, a < H.size → H1[a]? = H[a]?) (hnew : va_at D vwCl (H.size, cel (gup G n.toNat H.size) T (fun b => if b = -1 then len else dfl T b)) H1)
    (kk : ∀ G' : gG, Wy p l e R s m args below meth c D G' G0 A H0 false n0 M Q cs ss pc' lv ((T, n) :: st2) (alH h n T len)) :
    W p l e R s m args below meth c H1 locs cs ss Q (F0 m pc' ls (.ref H.size :: st2.map (cv G.1))) := by
  obtain ⟨a1, a2, a3, a4, a5, a6⟩ := hal
  have hA := hC.2.2.2.2.2.2.2.2.2.2.2.1
  have hw1 := wld_al (q := H.size) hh a1 a2 a3 a4 hw rfl (hA _ hS.1) o1 hnew
  have hup : ∀ {T : Nat} {y : Int}, hT (nn h) T y → hT (nn (alH h n T len)) T y := fun hy => by rw [alH_nn, ← a1]; exact hT_up hy
  have hup2 : ∀ {T9 : Nat} {y : Int}, hT (nn h) T9 y → hT (nn (alH h n T len)) T9 y := fun hy => by rw [alH_nn, ← a1]; exact hT_up hy
  have hnT : hT (nn (alH h n T len)) T n := by
    rw [alH_nn]
    obtain ⟨t3, t60⟩ := ht3
    match T, t3, t60, a4 with
    | T + 3, t3, t60, a4 => exact Or.inr (Or.inl ⟨a2, by omega, by rw [a4]; omega⟩)
  have k2 := kk (gup G n.toNat H.size) (cx_g hC a3 a2 (by omega) hn.1.2 (by rw [← a1]; exact hn.1.1.1) hS.1) (hOk_al hh a1 a2 a3 a4 a5 a6) ⟨⟨by rw [alH_nn]; exact ag_g a2 (by omega) (by rw [← a1]; exact hn.1.1), hn.1.2⟩, by rw [alH_nn]; omega⟩ (fun q hq => hup2 (hlv q hq)) (fun q hq => by
    rcases List.mem_cons.mp hq with e9 | hq
    · rw [e9]; exact hnT
    · exact hup2 (hst q hq)) H1 locs ls hw1 ⟨by have := hS.1; omega, fun y h1 h2 => (o1 y (Nat.lt_of_lt_of_le h1 hS.1)).trans (hS.2.1 y h1 h2), hS.2.2⟩ (lv_g a3 (by rw [← a1]; exact hlv) hls)
  rw [List.map_cons, st_g a3 (by rw [← a1]; exact hst), cv_refn (gup G n.toNat H.size).1 (by omega) a2] at k2
  have e9 : (gup G n.toNat H.size).1 n.toNat = H.size := if_pos rfl
  rw [e9] at k2
  exact k2
theorem y_new (ci : Nat) {T : u_T} {C : String} {N i : Nat} {n : Int} {h1 : hH} (hd : decode M.1 pc = .ok (.new i, 3)) (hg : alc h n (10 + ci) 0 = some h1) (hc : vwCl[ci]? = some (C, T, N)) (hci : ci < 13) (hN : nf ci = N) (ty0 : Nat → FieldType) (hty0 : ∀ k, k < N → parseFieldDescriptor (T k).2.2.1 = some (ty0 k)) (hin : ∀ w ∈ u_ws C T N, w ∈ wsL_law) (w1 : Cond.classLink M.2.2.1 i C ∈ wsL_law) (w2 : Cond.instantiable C N ∈ wsL_law) (w3 : Cond.initialized C ∈ wsL_law)
    (hcs : cells + 1 ≤ M.2.2.2.2.2.2.2.1 ∧ slots + N ≤ M.2.2.2.2.2.2.2.2) (hdf : ∀ j, j < N → defaultValue (ty0 j) = cv (fun _ => 0) (fT true ci j, dfl (10 + ci) j))
    (kk : ∀ G' : gG, Wy p l e R s m args below meth c D G' G0 A H0 false n0 M Q (cells + 1) (slots + N) (pc + 3) lv ((10 + ci, n) :: st) h1) : Wy p l e R s m args below meth c D G G0 A H0 false n0 M Q cells slots pc lv st h := by
  intro hC hh hn hlv hst H locs ls hw hS hls
  obtain ⟨hal, rfl⟩ := alc_some hg
  have hts := hC.2.2.2.2.2.2.2.2.1
  have hRR := hC.2.2.2.2.2.2.1
  have hK := hC.2.2.2.2.2.2.2.2.2.2.1
  have hKn := hK.1 ci _ hc
  refine W.newcK hC.1 hC.2.1 hC.2.2.2.1 (hts _ w1) (hts _ w2) (hts _ w3) rfl hd (by rw [hRR]; exact hcs.1) (by rw [hRR]; exact hcs.2) hKn.2.1 rfl (fun H1 kC hkC e1 z1 o1 => ?_)
  refine al_goY (st2 := st) hC hh hn hlv hst hw hS hls hal ⟨by omega, by omega⟩ z1 o1 ?_ kk
  rw [cel_obj hci]
  refine ⟨_, hc, (u_born ty0 hts hin hKn hkC e1 hty0).to (fun j hj => ?_)⟩
  rw [hdf j hj]
  unfold vp_V
  rw [List.getD_eq_getElem?_getD, List.getElem?_map, List.getElem?_range (by rw [hN]; exact hj)]
  simp only [Option.map_some, Option.getD_some]
  rw [if_neg (by omega)]
  exact (dfl_cv hci).symm
theorem y_newa {atype : ArrayType} {T : Nat} {n len : Int} {h1 : hH} (hd : decode M.1 pc = .ok (.newarray atype, 2)) (hg : alc h n T len = some h1) (w1 : Cond.arrayClass (newarray.typeOf atype) ∈ wsL_law) (hcase : (atype = .int ∧ T = 50) ∨ (atype = .long ∧ T = 51) ∨ (atype = .byte ∧ T = 52) ∨ (atype = .boolean ∧ T = 53)) (hcs : cells + 1 ≤ M.2.2.2.2.2.2.2.1 ∧ slots + len.toNat ≤ M.2.2.2.2.2.2.2.2)
    (kk : ∀ G' : gG, Wy p l e R s m args below meth c D G' G0 A H0 false n0 M Q (cells + 1) (slots + len.toNat) (pc + 2) lv ((T, n) :: st) h1) : Wy p l e R s m args below meth c D G G0 A H0 false n0 M Q cells slots pc lv ((0, len) :: st) h := by
  intro hC hh hn hlv hst H locs ls hw hS hls
  obtain ⟨hal, rfl⟩ := alc_some hg
  have hts := hC.2.2.2.2.2.2.2.2.1
  have hRR := hC.2.2.2.2.2.2.1
  have hK := hC.2.2.2.2.2.2.2.2.2.2.1
  have hlen : R32 len := hst _ List.mem_cons_self
  obtain ⟨c1, d1⟩ := cnI hlen hal.2.2.2.2.1
  have hl5 := hal.2.2.2.2.2
  refine va_newaK (N := len.toNat) hC.1 hC.2.1 (hts _ w1) rfl hd rfl c1 d1 ?_ (by rw [hRR]; exact hcs.1) (by rw [hRR]; exact hcs.2) rfl (fun H1 cA e1 z1 o1 hAr hNm => ?_)
  · rcases hcase with ⟨rfl, -⟩ | ⟨rfl, -⟩ | ⟨rfl, -⟩ | ⟨rfl, -⟩ <;> simp only [newarray.typeOf, componentBytes] <;> omega
  refine al_goY (st2 := st) hC hh hn hlv (fun q hq => hst q (List.mem_cons_of_mem _ hq)) hw hS hls hal (by rcases hcase with ⟨-, rfl⟩ | ⟨-, rfl⟩ | ⟨-, rfl⟩ | ⟨-, rfl⟩ <;> decide) z1 o1 ?_ kk
  rcases hcase with ⟨rfl, rfl⟩ | ⟨rfl, rfl⟩ | ⟨rfl, rfl⟩ | ⟨rfl, rfl⟩
  · have hcA : cA = G.2 50 := Option.some.inj (hNm.symm.trans (hK.2 0 _ rfl).2)
    rw [cel_arr (Or.inl rfl)]
    refine e1.trans ?_
    rw [hcA]
    show some (arrV _ _ _) = some (vp_cell _ _)
    rw [vp_cell_i]
    rfl
  · have hcA : cA = G.2 51 := Option.some.inj (hNm.symm.trans (hK.2 1 _ rfl).2)
    rw [cel_lon]
    refine e1.trans ?_
    rw [hcA]
    show some (arrV _ _ _) = some (vp_cell _ _)
    rw [vp_cell_l]
    rfl
  · have hcA : cA = G.2 52 := Option.some.inj (hNm.symm.trans (hK.2 2 _ rfl).2)
    rw [cel_arr (Or.inr (Or.inl rfl))]
    refine e1.trans ?_
    rw [hcA]
    show some (arrV _ _ _) = some (vp_cell _ _)
    rw [vp_cell_i]
    rfl
  · have hcA : cA = G.2 53 := Option.some.inj (hNm.symm.trans (hK.2 3 _ rfl).2)
    rw [cel_arr (Or.inr (Or.inr rfl))]
    refine e1.trans ?_
    rw [hcA]
    show some (arrV _ _ _) = some (vp_cell _ _)
    rw [vp_cell_i]
    rfl
theorem call_gcY {My : mM} {X : Option vV × hH} {rest : List vV} {H : Heap} {locs : List Loc} {ls : Array Slot} {av : Array Value} (hC : cxOk p R s m args meth c D G A H0 M) (hag : (agG n0 (nn h) G G0 ∧ (∀ q : Nat, A q → (∃ k : Nat, (k : Int) < n0 ∧ q = G0.1 k) ∨ H0.size ≤ q)) ∧ n0 ≤ nn h) (hlv : ∀ q ∈ lv, hT (nn h) q.2.1 q.2.2) (hst : ∀ q ∈ rest, hT (nn h) q.1 q.2) (hw : wOk D G A h H) (hS : va_S A H0 H locs) (hls : lv_has ls M.2.1 (lv.map (fun q => (q.1, cv G.1 q.2))))
    (hr : va_Run p l e R s m args below meth c H locs cells slots My.2.2.2.2.2.2.2.1 My.2.2.2.2.2.2.2.2 (F0 m pc ls (st.map (cv G.1))) (rest.map (cv G.1)) (qC D G (va_A (wld G h) H.size) false (nn h) X av) (va_A (wld G h) H.size))
    (kk : ∀ G' : gG, Wy p l e R s m args below meth c D G' G0 A H0 false n0 M Q (cells + My.2.2.2.2.2.2.2.1) (slots + My.2.2.2.2.2.2.2.2) (pc + 3) lv (X.1.toList ++ rest) X.2) :
    W p l e R s m args below meth c H locs cells slots Q (F0 m pc ls (st.map (cv G.1))) := by
  have hA := hC.2.2.2.2.2.2.2.2.2.2.2.1
  have hl : lay.length = 225 := rfl
  have hAA : ∀ q, va_A (wld G h) H.size q → A q := by
    intro q hq
    rcases hq with ⟨k, e, hk⟩ | hk
    · exact hw.2.2 k (q, e) hk
    · exact hA q (Nat.le_trans hS.1 hk)
  intro T9 hT9 X9
  obtain ⟨v, st₀, t, T', L, h0, X', hL, e1, e2, ⟨G', ⟨hg1, hg2⟩, ⟨ho, hwt, hht, hnt, hz9⟩, hz, hk⟩, stp⟩ := hr T9 hT9 X9
  rw [h0] at hz hk
  have hv : v = X.1.map (cv G'.1) := by injection ho
  subst hv
  have hlv2 : lv.map (fun q => (q.1, cv G'.1 q.2)) = lv.map (fun q => (q.1, cv G.1 q.2)) := by
    apply List.map_congr_left
    intro q hq
    rw [cv_ag hht.2.1 hg1 (hlv q hq)]
  have hst2 : rest.map (cv G'.1) = rest.map (cv G.1) := by
    apply List.map_congr_left
    intro q hq
    exact cv_ag hht.2.1 hg1 (hst q hq)
  obtain ⟨c1, c2, c3, c4, c5, c6, c7, c8, c9, c10, c11, c12, c13, c14, c15⟩ := hC
  have hT2 : tyG G' = tyG G := by unfold tyG; rw [hg2]
  have hC' : cxOk p R s m args meth c D G' A H0 M := by
    refine ⟨c1, c2, c3, c4, c5, c6, c7, c8, c9, c10, by rw [hT2]; exact c11, c12, c13, fun y hy => ?_, ?_⟩
    · rcases hag.1.2 y hy with ⟨k, k1, k2⟩ | z
      · refine Or.inl ⟨k, by have := hht.2.1; omega, ?_⟩
        rw [hg1 k (Or.inl (by omega)), hag.1.1.1 k (Or.inl k1)]
        exact k2
      · exact Or.inr z
    · unfold skOk skF at c15 ⊢
      have hle := hht.2.1
      rw [hg1 1000 (Or.inr (by omega)), hg1 1001 (Or.inr (by omega)), hg1 1002 (Or.inr (by omega))]
      have hsub : ∀ y, (skB G' y ∨ s.heap.size ≤ y) → (skB G y ∨ s.heap.size ≤ y) := by
        intro y hy
        rcases hy with ⟨k, k1, k2⟩ | z
        · by_cases hk9 : (k : Int) < nn h ∨ nn X.2 ≤ (k : Int)
          · exact Or.inl ⟨k, k1, by rw [← hg1 k hk9]; exact k2⟩
          · have hk3 : (wld G' X.2)[k]? = some (G'.1 k, cel G' (kd k) (X.2 k)) := by
              have := wld_get (G := G') (h := X.2) (k := (k : Int)) (by omega) (by omega)
              simpa using this
            rcases hwt.2.2 k _ hk3 with ⟨k', e9, hk4⟩ | z
            · obtain ⟨b1, b2⟩ := wld_mem hk4
              have b3 : G'.1 k = G.1 k' := (Prod.mk.inj b2).1
              have hk5 : (wld G' X.2)[k']? = some (G'.1 k', cel G' (kd k') (X.2 k')) := by
                have := wld_get (G := G') (h := X.2) (k := (k' : Int)) (by omega) (by omega)
                simpa using this
              have := hwt.2.1 k k' _ _ hk3 hk5 (b3.trans (hg1 k' (Or.inl b1)).symm)
              omega
            · refine Or.inr ?_
              have h4 := hS.1
              rw [c13] at h4
              have z' : H.size ≤ G'.1 k := z
              omega
        · exact Or.inr z
      exact ⟨c15.1, c15.2.1.narrow hsub, c15.2.2.1.narrow hsub, c15.2.2.2.imp (fun z => z.narrow hsub) (fun z => z.narrow hsub)⟩
  have k2 := kk G' hC' hht ⟨⟨⟨fun k hk => by
      rcases hk with z | z
      · rw [hg1 k (Or.inl (by omega))]; exact hag.1.1.1 k (Or.inl z)
      · rw [hg1 k (Or.inr z)]; exact hag.1.1.1 k (Or.inr (by omega)), hg2.trans hag.1.1.2⟩, hag.1.2⟩, by omega⟩ (fun q hq => hT_mono hnt (hlv q hq)) (fun q hq => by
    rcases List.mem_append.mp hq with z | z
    · exact hz9 q (Option.mem_toList.mp z)
    · exact hT_mono hnt (hst q z)) T'.heap (locs ++ L) ls ⟨by rw [e1]; exact hwt.1, hwt.2.weaken (fun _ _ _ z => hAA _ z)⟩
    ⟨Nat.le_trans hS.1 (by rw [e1]; exact hz), fun q h1 h2 => by rw [e1, hk q (Nat.lt_of_lt_of_le h1 hS.1) (fun z => h2 (hAA q z))]; exact hS.2.1 q h1 h2, fun q hq => by
      rcases List.mem_append.mp hq with z | z
      · exact hS.2.2 q z
      · exact hAA _ (hL q z)⟩ (by rw [hlv2]; exact hls)
  obtain ⟨t2, a1, b1⟩ := k2 T' rfl X'
  refine ⟨t2, stp t2 ?_, b1⟩
  have hstk : (X.1.toList ++ rest).map (cv G'.1) = (X.1.map (cv G'.1)).toList ++ rest.map (cv G.1) := by
    rw [← hst2]
    cases X.1 <;> rfl
  rw [hstk] at a1
  exact a1
theorem y_callI {t i n : Nat} {y : MethodName} {My : mM} {o : Int} {as rest : List vV} {X : Option vV × hH} (hM : Ctc l D y My ((t, o) :: as) h X) (ht : 3 ≤ t) (ht9 : t < 90) (hI : cN y My n) (hn9 : n = as.length)
    (w1 : Cond.methodLink M.2.2.1 i y ∈ wsL_law) (hR : (Nat.ble (My.2.2.2.2.2.1 + 1) M.2.2.2.2.2.1 && Nat.ble (8 + (My.2.1 + 11) + My.2.2.2.2.2.2.1) M.2.2.2.2.2.2.1 && Nat.ble (cells + My.2.2.2.2.2.2.2.1) M.2.2.2.2.2.2.2.1 && Nat.ble (slots + My.2.2.2.2.2.2.2.2) M.2.2.2.2.2.2.2.2 && Nat.ble (szA rest) 8) = true)
    (hd : decode M.1 pc = .ok (.invokespecial i, 3)) (hrev : as.reverse ++ (t, o) :: rest = st)
    (kk : ∀ G' : gG, Wy p l e R s m args below meth c D G' G0 A H0 false n0 M Q (cells + My.2.2.2.2.2.2.2.1) (slots + My.2.2.2.2.2.2.2.2) (pc + 3) lv (X.1.toList ++ rest) X.2) : Wy p l e R s m args below meth c D G G0 A H0 false n0 M Q cells slots pc lv st h := by
  subst hn9
  subst hrev
  simp only [Bool.and_eq_true, Nat.ble_eq] at hR
  intro hC hh hn hlv hst H locs ls hw hS hls
  have hts := hC.2.2.2.2.2.2.2.2.1
  have hRR := hC.2.2.2.2.2.2.1
  have hK := hC.2.2.2.2.2.2.2.2.2.2.1
  have ho : hT (nn h) t o := hst (t, o) (List.mem_append_right _ List.mem_cons_self)
  have h0 : 0 ≤ o := by rcases hT_ref ht ho with z | z | z <;> omega
  have hM9 := hM hh (fun v hv => by
    rcases List.mem_cons.mp hv with e9 | hv
    · rw [e9]; exact ho
    · exact hst v (List.mem_append_left _ (List.mem_reverse.mpr hv))) G H.size
  refine call_gcY (av := (Value.ref (G.1 o.toNat) :: as.map (cv G.1)).toArray) (rest := rest) hC hn hlv (fun q hq => hst q (List.mem_append_right _ (List.mem_cons_of_mem _ hq))) hw hS hls ?_ kk
  refine va_runI (y := y) (own := M.2.2.1) (index := i) (bytes := My.1) (maxL := My.2.1) (ws := wsM y My) (rm := rmM My) (Ts := wsL_law) (cc := M.1) (nL := M.2.1) (n := as.length) (b := G.1 o.toNat) (As := as.map (cv G.1)) ⟨hC.1, hC.2.1, hC.2.2.1, hC.2.2.2.1, hts⟩ hM9
    ⟨callB_of as.length hts (goodN hI.2.2.1 hI.2.2.2.1) (by unfold wsM; rw [hI.2.2.2.1]) rfl rfl (hts _ hI.2.1) (hts _ w1) hI.2.2.2.2.2 (by rw [hRR]; exact ⟨hR.1.1.1.1, hR.1.1.1.2⟩), hI.2.2.2.2.1, hts _ hI.1⟩
    ⟨pc_blind, fun U hU hW => ⟨?_, by rw [hU], by rw [hU]; exact hw.1, va_K.moved hW.alike hK, hw.2.weaken (fun _ _ _ _ => trivial), hC.2.2.2.2.2.2.2.2.2.1.warm hW, by rw [hU]; exact (hC.2.2.2.2.2.2.2.2.2.2.2.2.1 ▸ hC.2.2.2.2.2.2.2.2.2.2.2.2.2.2 : skOk G s H0).go hC.2.2.2.2.2.2.2.2.2.2.2.2.2.1 hS hW⟩⟩ rfl (by simp) hls.1 ?_ (lv_room (by rw [cat_sum]; exact hR.2)) hd (by rw [hRR]; exact ⟨hR.1.1.2, hR.1.2⟩)
  · rw [List.map_cons, cv_refn G.1 ht h0]
  · show (as.reverse ++ (t, o) :: rest).map (cv G.1) = _
    rw [List.map_append, List.map_reverse, List.map_cons, cv_refn G.1 ht h0]
theorem y_istore {i : Nat} {v : vV} {lv' : List (Nat × vV)} (hd : decode M.1 pc = .ok (.istore i, 2)) (hv : v.1 = 0 ∨ v.1 = 2) (hn9 : i < M.2.1) (hl : (i, v) :: lv.filter (fl1 i) = lv') (kk : Wy p l e R s m args below meth c D G G0 A H0 sg n0 M Q cells slots (pc + 2) lv' st h) : Wy p l e R s m args below meth c D G G0 A H0 sg n0 M Q cells slots pc lv (v :: st) h := by
  obtain ⟨t, y⟩ := v
  intro hC hh hn hlv hst H locs ls hw hS hls
  have hv9 := hst _ List.mem_cons_self
  have hm := lvm (G := G) (v := (t, y)) (fl1 i) (fun q => !(q.1 == i) && !(q.1 + 1 == i && q.2.category == 2)) (fun q => by simp only [fl1, cv_cat]) hl
  rcases hv with e9 | e9 <;> (dsimp only at e9; subst e9; exact lv_istore hC.1 hC.2.1 hd hls hn9 hm (fun ls' hls' => kk hC hh hn (lvc hv9 hlv _ hl) (fun q hq => hst q (List.mem_cons_of_mem _ hq)) H locs ls' hw hS hls'))
/-- contracts of a constructor that makes rows of references -/
def pcR (D : va_G) (G : gG) (h : hH) (sz : Nat) (U : State) : Prop := pcM D G h sz U ∧ va_AO RX8 U ∧ va_AO RX0 U
theorem pcR_blind {as : List Value} {sz : Nat} : FrameBlind (va_Pc as (pcR D G h sz)) := by
  intro a U g mk q
  obtain ⟨q0, q1, q2, q3⟩ := q
  have k := pc_blind (D := D) (G := G) (h := h) (as := as) (sz := sz) a U g mk ⟨q0, q1⟩
  exact ⟨k.1, k.2, va_AO.moved (u := U) (U := U.calling g mk a) (Vm.Alike.refl U.vm) q2, va_AO.moved (u := U) (U := U.calling g mk a) (Vm.Alike.refl U.vm) q3⟩
def Ctd (l : Launch) (D : va_G) (y : MethodName) (M : mM) (as : List vV) (h : hH) (x : Option vV × hH) : Prop :=
  hOk false h → (∀ v ∈ as, hT (nn h) v.1 v.2) → ∀ (G : gG) (sz : Nat), Met l y (wsM y M) (rmM M) (va_Pc (as.map (cv G.1)) (pcR D G h sz)) (qC D G (va_A (wld G h) sz) false (nn h) x) M.2.2.2.2.2.2.2.1 M.2.2.2.2.2.2.2.2 (va_A (wld G h) sz)
theorem Ctd_of {l : Launch} {D : va_G} {y : MethodName} {M : mM} {as : List vV} {h : hH} {x : Option vV × hH} (hy : plainName y.cls = true) (hown : M.2.2.1 = y.cls) (hin : M.2.2.2.2.1 = true → y.name = "<init>") (hsz : szA as ≤ M.2.1)
    (body : ∀ {p : Program} {e : Env} {R : Room} {s : State} {m : MethodId} {args : Array Value} {below : List Frame} {meth : Method} {c : Code} {G : gG} {A : Nat → Prop} {H0 : Heap}, va_AO RX8 s → va_AO RX0 s → Wc p l e R s m args below meth c D G G A H0 false (nn h) M x 0 0 0 (avA 0 as) [] h) : Ctd l D y M as h x := by
  intro hh has G sz
  refine Met.ofW (cc := M.1) (maxL := M.2.1) (ret := M.2.2.2.1) hy rfl ?_
  intro p e s m args below meth c s₁ B hml hv
  obtain ⟨rfl, ⟨hsz', hP, hK, hD0, hns, hsk⟩, hao8, hao0⟩ := hv
  have hts := atoms_spec (ws := wsM y M) B.pre
  have hown' : s.vm.findClass y.cls = some m.cls := findClass_of_methodNamed B.named
  subst hsz'
  rw [lg_entry_eq]
  have hl := lv_entry (as.map (cv G.1)) (n := M.2.1) (by rw [szA_eq]; exact hsz)
  rw [avA_eq] at hl
  have hA2 : ∀ q : Nat, va_A (wld G h) s.heap.size q → (∃ k : Nat, (k : Int) < nn h ∧ q = G.1 k) ∨ s.heap.size ≤ q := fun q hq => hq.imp (fun z => by obtain ⟨k, e9, hk⟩ := z; have hk2 := wld_mem hk; exact ⟨k, hk2.1, (Prod.mk.inj hk2.2).1⟩) id
  exact body (e := e) (R := (headSpec (wsM y M) (rmM M)).room) (H0 := s.heap) hao8 hao0 ⟨B.exec, B.bytes, hml, by rw [hown]; exact hown', B.returns, fun z => (name_of_methodNamed B.named B.method).1.trans (hin z), rfl, B.notSynchronized, fun w hw => hts w (List.mem_cons_of_mem _ hw), hns, hK, fun q hq => Or.inr hq, rfl, fun q hq => (hA2 q hq).imp (fun z => by obtain ⟨k, k1, k2⟩ := z; have := hh.2.1; exact ⟨k, by omega, k2⟩) id, hsk⟩ hh ⟨⟨⟨fun _ _ => rfl, rfl⟩, hA2⟩, Int.le_refl _⟩ (fun q hq => has _ (avA_in as 0 q hq)) (fun _ h => absurd h List.not_mem_nil) s.heap [] _ ⟨hP, hD0.self⟩ va_S.rf hl
theorem y_callR {t i n : Nat} {y : MethodName} {My : mM} {o : Int} {as rest : List vV} {X : Option vV × hH} (hAO8 : va_AO RX8 s) (hAO0 : va_AO RX0 s) (hM : Ctd l D y My ((t, o) :: as) h X) (ht : 3 ≤ t) (ht9 : t < 90) (hI : cN y My n) (hn9 : n = as.length)
    (w1 : Cond.methodLink M.2.2.1 i y ∈ wsL_law) (hR : (Nat.ble (My.2.2.2.2.2.1 + 1) M.2.2.2.2.2.1 && Nat.ble (8 + (My.2.1 + 11) + My.2.2.2.2.2.2.1) M.2.2.2.2.2.2.1 && Nat.ble (cells + My.2.2.2.2.2.2.2.1) M.2.2.2.2.2.2.2.1 && Nat.ble (slots + My.2.2.2.2.2.2.2.2) M.2.2.2.2.2.2.2.2 && Nat.ble (szA rest) 8) = true)
    (hd : decode M.1 pc = .ok (.invokespecial i, 3)) (hrev : as.reverse ++ (t, o) :: rest = st)
    (kk : ∀ G' : gG, Wy p l e R s m args below meth c D G' G0 A H0 false n0 M Q (cells + My.2.2.2.2.2.2.2.1) (slots + My.2.2.2.2.2.2.2.2) (pc + 3) lv (X.1.toList ++ rest) X.2) : Wy p l e R s m args below meth c D G G0 A H0 false n0 M Q cells slots pc lv st h := by
  subst hn9
  subst hrev
  simp only [Bool.and_eq_true, Nat.ble_eq] at hR
  intro hC hh hn hlv hst H locs ls hw hS hls
  have hts := hC.2.2.2.2.2.2.2.2.1
  have hRR := hC.2.2.2.2.2.2.1
  have hK := hC.2.2.2.2.2.2.2.2.2.2.1
  have ho : hT (nn h) t o := hst (t, o) (List.mem_append_right _ List.mem_cons_self)
  have h0 : 0 ≤ o := by rcases hT_ref ht ho with z | z | z <;> omega
  have hM9 := hM hh (fun v hv => by
    rcases List.mem_cons.mp hv with e9 | hv
    · rw [e9]; exact ho
    · exact hst v (List.mem_append_left _ (List.mem_reverse.mpr hv))) G H.size
  refine call_gcY (av := (Value.ref (G.1 o.toNat) :: as.map (cv G.1)).toArray) (rest := rest) hC hn hlv (fun q hq => hst q (List.mem_append_right _ (List.mem_cons_of_mem _ hq))) hw hS hls ?_ kk
  refine va_runI (y := y) (own := M.2.2.1) (index := i) (bytes := My.1) (maxL := My.2.1) (ws := wsM y My) (rm := rmM My) (Ts := wsL_law) (cc := M.1) (nL := M.2.1) (n := as.length) (b := G.1 o.toNat) (As := as.map (cv G.1)) ⟨hC.1, hC.2.1, hC.2.2.1, hC.2.2.2.1, hts⟩ hM9
    ⟨callB_of as.length hts (goodN hI.2.2.1 hI.2.2.2.1) (by unfold wsM; rw [hI.2.2.2.1]) rfl rfl (hts _ hI.2.1) (hts _ w1) hI.2.2.2.2.2 (by rw [hRR]; exact ⟨hR.1.1.1.1, hR.1.1.1.2⟩), hI.2.2.2.2.1, hts _ hI.1⟩
    ⟨pcR_blind, fun U hU hW => ⟨?_, ⟨by rw [hU], by rw [hU]; exact hw.1, va_K.moved hW.alike hK, hw.2.weaken (fun _ _ _ _ => trivial), hC.2.2.2.2.2.2.2.2.2.1.warm hW, by rw [hU]; exact (hC.2.2.2.2.2.2.2.2.2.2.2.2.1 ▸ hC.2.2.2.2.2.2.2.2.2.2.2.2.2.2 : skOk G s H0).go hC.2.2.2.2.2.2.2.2.2.2.2.2.2.1 hS hW⟩, va_AO.moved hW.alike hAO8, va_AO.moved hW.alike hAO0⟩⟩ rfl (by simp) hls.1 ?_ (lv_room (by rw [cat_sum]; exact hR.2)) hd (by rw [hRR]; exact ⟨hR.1.1.2, hR.1.2⟩)
  · rw [List.map_cons, cv_refn G.1 ht h0]
  · show (as.reverse ++ (t, o) :: rest).map (cv G.1) = _
    rw [List.map_append, List.map_reverse, List.map_cons, cv_refn G.1 ht h0]
end YR
theorem oX11_initR {l : Launch} {D : va_G} {n : Int} {h r : hH} {a0 : Int} (hr : fX11_init n h a0 = some r) : Ctd l D yX11_init M_X11_init [(21, a0)] h (none, r) := Ctd_of (by decide) rfl (fun _ => rfl) (nl rfl) (fun {p e R s m args below meth c G A H0} h8 h0 => oX11_init_w h8 h0 hr)
