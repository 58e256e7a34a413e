/-! THE CLAIM OUT OF ONE WALK OF THE LAW'S BODY. Your part is whole_start (and what it stands on); all else here is the same for every law, but numbers. -/
def R_law : String := "FollowingRefsLaw"
def lw_P (b : Addr) (xs : List Int32) (args : Array Value) (s : State) : Prop := args = #[.ref b] ∧ s.IntsAt b xs ∧ xs.length ≤ 3072 ∧ (Jvm.Cond.and given_1 narrow_1).before args s = true
def lw_Q (_ : Array Value) (s : State) (o : Outcome) (t : State) : Prop := o = .returned (some (.int 1)) ∧ Framed s o t [] 601024 7293033
def lw_Z (below : List Frame) (a : Array Value) (s : State) : State → Prop := fun t => ∃ o, t.status = .running ∧ Ended t below o ∧ lw_Q a s o t
/-- the law's own end, with 1 on the stack, nothing written that was there before, its room as the claim has it -/
theorem lw_ret {p : Program} {l : Launch} {e : Env} {s : State} {m : MethodId} {below : List Frame} {meth : Method} {c : Code} {b : Nat} (hx : p.tables.exec = Jvm.exec) (hb : c.code = code) (hr : meth.sig.returnType = ret) (hlocks : meth.locks = false) {pc : Nat} {H : Heap} {ls : Array Slot} (hdg : decode code pc = .ok (.ireturn, 1)) : W p l e room_1 s m #[Value.ref b] below meth c H [] 601024 7293033 (lw_Z below #[Value.ref b] s) (F0 m pc ls [.int 1]) := by
  intro T hT X
  obtain ⟨fs, hret, hrun, hended, hW, hframe⟩ := X.leave (v := some (.int 1)) (hlocks := hlocks) (fun h => by rw [hr] at h; cases h)
  have hmeth' : T.vm.method? m = some meth := X.method'
  refine ⟨T.setFrames fs, ?_, .returned (some (.int 1)), hrun, hended, rfl, ⟨_, rfl⟩, hW, hframe⟩
  jvm_step X.here [X.here.top, hx, hb, hdg, hmeth', hr, ret, narrow_b1]
  (try refine ⟨rfl, ?_⟩); (try refine ⟨rfl, ?_⟩)
  first | (intro acts; rw [hret _ acts rfl rfl rfl]) | rw [hret _ _ rfl rfl rfl]
  exact Steps.refl _
/-- what holds at the law's entry: the machine, the code, the tables' words (any of lw_tbl by 'hts w (by decide +kernel)'), the script of L ints xs at the cell b, what the Statement gives of the start (any of its parts by flat_of_before) -/
def lw_At (p : Program) (s : State) (m : MethodId) (meth : Method) (c : Code) (b L : Nat) (xs : Nat → Int32) : Prop :=
  p.tables.exec = Jvm.exec ∧ c.code = code ∧ meth.sig.returnType = ret ∧ c.maxLocals = 7 ∧ s.vm.findClass R_law = some m.cls ∧ (∀ w ∈ lw_tbl, w.before #[Value.ref b] s = true) ∧ va_X b L xs s s.heap ∧ b < s.heap.size ∧ meth.locks = false ∧ (Jvm.Cond.and given_1 narrow_1).before #[Value.ref b] s = true
section FIN9
variable {p : Program} {l : Launch} {e : Env} {s : State} {m : MethodId} {below : List Frame} {meth : Method} {c : Code} {D : va_G} {G G0 : gG} {n0 : Int} {cells slots : Nat} {lv : List (Nat × vV)} {h : hH} {b L : Nat} {xs : Nat → Int32}
theorem one32 : Int32.ofInt 1 = 1 := by decide
theorem z_fin (hcs : cells ≤ 601024 ∧ slots ≤ 7293033) : Wz p l e room_1 s m #[Value.ref b] below meth c D G (fun q : Nat => s.heap.size ≤ q) s.heap true n0 M_L_law (lw_Z below #[Value.ref b] s) cells slots 1288 lv [] h := by
  refine z_iconst dL_law_1288 (by decide) ?_
  intro hC hh hn hlv hst H locs ls hw hS hls
  refine va_forget (fun q hq => hS.2.2 q hq) ?_
  refine W.widen hcs.1 hcs.2 ?_
  show W p l e room_1 s m #[Value.ref b] below meth c H [] 601024 7293033 (lw_Z below #[Value.ref b] s) (F0 m 1289 ls [Value.int (Int32.ofInt 1)])
  rw [one32]
  exact lw_ret hC.1 hC.2.1 hC.2.2.2.2.1 hC.2.2.2.2.2.2.2.1 dL_law_1289
set_option maxRecDepth 100000 in
set_option maxHeartbeats 4000000 in
/-- from the entry to the head of the loop -/
theorem y_begin {A : Nat → Prop} {H0 : Heap} {Q : State → Prop} {args : Array Value} {R : Room} (h8 : va_AO RX8 s) (h0 : va_AO RX0 s) (kk : ∀ G : gG, Wy p l e R s m args below meth c D G G0 A H0 false 0 M_L_law Q 225 38999 23 [(4, (0, 0)), (3, (51, 224)), (2, (22, 192)), (1, (21, 0)), (0, (95, 1005))] [] hM4) : Wy p l e R s m args below meth c D G0 G0 A H0 false 0 M_L_law Q 0 0 0 [(0, (95, 1005))] [] (fun _ _ => 0) := by
  refine y_new 11 (N := 19) dL_law_0 mk_0 rfl (by decide) rfl tyX11 tyX11_ok inlX11 (wsl_1 _ (List.mem_of_getElem? (i := 0) rfl)) (wsl_1 _ (List.mem_of_getElem? (i := 1) rfl)) (wsl_1 _ (List.mem_of_getElem? (i := 2) rfl)) ⟨nl rfl, nl rfl⟩ (by decide +kernel) (fun G => ?_)
  refine y_dup dL_law_3 (Nat.ne_of_beq_eq_false rfl) ?_
  refine y_callR (t := 21) (o := 0) (as := []) (rest := [(21, 0)]) (X := (none, hM1)) h8 h0 (oX11_initR mk_1) (by decide) (by decide) gX11_init rfl (wsl_1 _ (List.mem_of_getElem? (i := 7) rfl)) rfl dL_law_4 rfl (fun G => ?_)
  refine y_astore_n dL_law_7 rfl (nl rfl) (by decide) (lv' := [(1, (21, 0)), (0, (95, 1005))]) rfl ?_
  refine y_new 12 (N := 66) dL_law_8 mk_2 rfl (by decide) rfl tyX12 tyX12_ok inlX12 (wsl_1 _ (List.mem_of_getElem? (i := 3) rfl)) (wsl_1 _ (List.mem_of_getElem? (i := 4) rfl)) (wsl_1 _ (List.mem_of_getElem? (i := 5) rfl)) ⟨nl rfl, nl rfl⟩ (by decide +kernel) (fun G => ?_)
  refine y_dup dL_law_11 (Nat.ne_of_beq_eq_false rfl) ?_
  refine y_callI (t := 22) (o := 192) (as := []) (rest := [(22, 192)]) (X := (none, hM3)) (oX12_init mk_3) (by decide) (by decide) gX12_init rfl (wsl_7 _ (List.mem_of_getElem? (i := 3) rfl)) rfl dL_law_12 rfl (fun G => ?_)
  refine y_astore_n dL_law_15 rfl (nl rfl) (by decide) (lv' := [(2, (22, 192)), (1, (21, 0)), (0, (95, 1005))]) rfl ?_
  refine y_iconst dL_law_16 (by decide) ?_
  refine y_newa (atype := .long) (T := 51) dL_law_17 mk_4 (wsl_1 _ (List.mem_of_getElem? (i := 6) rfl)) (Or.inr (Or.inl ⟨rfl, rfl⟩)) ⟨nl rfl, nl rfl⟩ (fun G => ?_)
  refine y_astore_n dL_law_19 rfl (nl rfl) (by decide) (lv' := [(3, (51, 224)), (2, (22, 192)), (1, (21, 0)), (0, (95, 1005))]) rfl ?_
  refine y_iconst dL_law_20 (by decide) ?_
  refine y_istore dL_law_21 (Or.inl rfl) (by decide) (lv' := [(4, (0, 0)), (3, (51, 224)), (2, (22, 192)), (1, (21, 0)), (0, (95, 1005))]) rfl ?_
  exact kk G
/-- the loop from the made heap -/
theorem y_law (htr : l.stackTraces = false) (hX : va_X b L xs s s.heap) (hbl : b < s.heap.size) (hL : L ≤ 3072) (hG5 : G0.1 1005 = b) (hxs : xsOk s) (hzs : zsF (fun q : Nat => s.heap.size ≤ q) s s.heap) : Wy p l e room_1 s m #[Value.ref b] below meth c D G G0 (fun q : Nat => s.heap.size ≤ q) s.heap false 0 M_L_law (lw_Z below #[Value.ref b] s) 225 38999 23 [(4, (0, 0)), (3, (51, 224)), (2, (22, 192)), (1, (21, 0)), (0, (95, 1005))] [] hM4 := by
  intro hC hh hn hlv hst H locs ls hw hS hls
  have hG9 : G.1 1005 = b := (hn.1.1.1 1005 (Or.inr (by rw [mk_nn]; decide))).trans hG5
  have hnr : ∀ q : Nat, (skB G q ∨ s.heap.size ≤ q) → s.heap.size ≤ q := fun q hq => by
    rcases hq with ⟨k, k1, k2⟩ | z
    · have hl : lay.length = 225 := rfl
      have h9 := wld_get (G := G) (h := hM4) (k := (k : Int)) (by omega) (by rw [mk_nn]; omega)
      have h8 : s.heap.size ≤ G.1 ((k : Int)).toNat := hw.2.2 _ _ h9
      rw [k2]
      simpa using h8
    · exact z
  have lc : lcOk G (fun q : Nat => s.heap.size ≤ q) s b L xs := ⟨hX, hbl, Nat.not_le.mpr hbl, hG9, hL, hxs, hzs.1.narrow hnr, hzs.2.narrow hnr⟩
  refine z_sub (p := p) (l := l) (e := e) (R := room_1) (s := s) (m := m) (args := #[Value.ref b]) (below := below) (meth := meth) (c := c) (D := D) (G := G) (A := fun q : Nat => s.heap.size ≤ q) (H0 := s.heap) (sg := true) (n0 := 0) (M := M_L_law) (Q := lw_Z below #[Value.ref b] s) (cells := 225) (slots := 38999) (pc := 23) (lv := [(4, (0, 0)), (3, (51, 224)), (2, (22, 192)), (1, (21, 0)), (0, (95, 1005))]) (st := []) (h := hM4) [4, 3, 2, 1, 0] (lv' := lvL 0) rfl ?_ hC (mk_ok hh) hn.2 hlv hst H locs ls hw hS hls
  exact z_loop htr lc (fun e9 cells9 slots9 i9 _ q1 q2 => z_fin ⟨q1, q2⟩) 512 0 225 38999 hM4 mk_inv (by decide) (by omega) (by omega) (nl rfl) (nl rfl)
end FIN9

theorem whole_start {p : Program} {e : Env} {s : State} {m : MethodId} {below : List Frame} {meth : Method} {c : Code} (l : Launch) (hflags : l.flags = flags0) {b L : Nat} {xs : Nat → Int32} (hL : L ≤ 3072) (C0 : lw_At p s m meth c b L xs) : W p l e room_1 s m #[Value.ref b] below meth c s.heap [] 0 0 (lw_Z below #[Value.ref b] s) (entryFrame m ([Value.ref b] : List Value).toArray 7) := by
  obtain ⟨hx, hb, hr, hml, hown, hts, hX, hbl, hlocks, hgv⟩ := id C0
  have htr : l.stackTraces = false := by
    unfold Launch.stackTraces
    rw [hflags]
    decide +kernel
  have hws : ∀ w ∈ wsL_law, w.before #[Value.ref b] s = true := fun w hw => hts w (wsL_law_in w hw)
  have hg := flat_of_before _ hgv
  have hA : ∀ a : Nat, a < s.heap.size → ¬ (fun q : Nat => s.heap.size ≤ q) a := fun a h => Nat.not_le.mpr h
  obtain ⟨aK, aV, hS1, hS2⟩ := tx_S (args := #[Value.ref b]) (s := s) (A := fun q : Nat => s.heap.size ≤ q) hg hA
  have hcs := va_Zof (A := fun q : Nat => s.heap.size ≤ q) (hts _ sC_in) (hts _ sC_ini) (va_eqt (hg _ sC_giv)) hA
  have hfm := va_Zqof (A := fun q : Nat => s.heap.size ≤ q) (hts _ sF_in) (hts _ sF_ini) (hg _ sF_giv) hA
  have hus := vx_Zqof (A := fun q : Nat => s.heap.size ≤ q) (hts _ sU_in) (hts _ sU_ini) (hg _ sU_giv) hA
  have hse := vx_Zqof (A := fun q : Nat => s.heap.size ≤ q) (hts _ sS_in) (hts _ sS_ini) (hg _ sS_giv) hA
  obtain ⟨aF, hfm⟩ : ∃ aF : Nat, va_Z "jdk/internal/util/Preconditions" "SIOOBE_FORMATTER" "Ljava/util/function/BiFunction;" (.ref aF) (fun q : Nat => s.heap.size ≤ q) s s.heap ∨ va_Z "jdk/internal/util/Preconditions" "SIOOBE_FORMATTER" "Ljava/util/function/BiFunction;" .null (fun q : Nat => s.heap.size ≤ q) s s.heap := by
    rcases hfm with z | ⟨t, z⟩
    · exact ⟨0, Or.inr z⟩
    · exact ⟨t, Or.inl z⟩
  obtain ⟨D, hD⟩ := kn_cls hts hws
  obtain ⟨cI, hI⟩ := kn_arr (Or.inl rfl) (hws _ ar_inI)
  obtain ⟨cJ, hJ⟩ := kn_arr (Or.inr (Or.inl rfl)) (hws _ ar_inJ)
  obtain ⟨cB, hB⟩ := kn_arr (Or.inr (Or.inr (Or.inl rfl))) (hws _ ar_inB)
  obtain ⟨cZ, hZ⟩ := kn_arr (Or.inr (Or.inr (Or.inr rfl))) (hws _ ar_inZ)
  obtain ⟨c8, h8⟩ := kn_obj (hts _ ao_in8)
  obtain ⟨c0, hO⟩ := kn_obj (hts _ ao_in0)
  have hK := kn_all (ad := aA5 s.heap.size aK aV aF b) hD hI hJ hB hZ h8 hO
  have hns : nsOk s := fun q hq => va_Nw.of rfl (hts _ (nest_in q hq))
  have hxs : xsOk s := fun w hw => va_Nw.of (xw4_tab w hw) (hts w (xw4_in w hw))
  have hnr : ∀ q : Nat, (skB (aA5 s.heap.size aK aV aF b, aT6 cI cJ cB cZ c8 c0) q ∨ s.heap.size ≤ q) → s.heap.size ≤ q := fun q hq => by
    rcases hq with ⟨k, k1, k2⟩ | z
    · have hl : lay.length = 225 := rfl
      rw [k2]
      exact aA5_lo (by omega)
    · exact z
  have hsk : skOk (aA5 s.heap.size aK aV aF b, aT6 cI cJ cB cZ c8 c0) s s.heap := ⟨vk_R.of (hts _ tx_in) hS2, hS1.narrow hnr, hcs.narrow hnr, hfm.imp (fun z => z.narrow hnr) (fun z => z.narrow hnr)⟩
  have hl := lv_entry ([Value.ref b]) (n := 7) (Nat.le_of_ble_eq_true rfl)
  rw [lg_entry_eq]
  generalize (lg_sl ([Value.ref b]) ++ List.replicate (7 - (lg_sl ([Value.ref b])).length) Slot.unset).toArray = ls at hl ⊢
  have hl : lv_has ls 7 [(0, Value.ref b)] := hl
  have key : ∀ G0 : gG, G0.1 1005 = b → va_K D vwCl (tyG G0) s → skOk G0 s s.heap → W p l e room_1 s m #[Value.ref b] below meth c s.heap [] 0 0 (lw_Z below #[Value.ref b] s) (F0 m 0 ls []) := by
    intro G0 hG5 hK9 hsk9
    have e95 : cv G0.1 (95, 1005) = Value.ref b := cv_scr hG5
    have hl9 : lv_has ls 7 [(0, cv G0.1 (95, 1005))] := by
      rw [e95]
      exact hl
    have hlv : ∀ q ∈ [((0, (95, 1005)) : Nat × vV)], hT (nn (fun _ _ => 0)) q.2.1 q.2.2 := fun q hq => by
      rcases List.mem_cons.mp hq with e9 | hq
      · subst e9
        exact Or.inr (Or.inr ⟨by decide, by decide, by decide⟩)
      · exact absurd hq List.not_mem_nil
    have hw0 : wOk D G0 (fun q : Nat => s.heap.size ≤ q) (fun _ _ => 0) s.heap := ⟨fun k q hq => by simp [wld, nn] at hq, ⟨fun i j p9 q hp => by simp [wld, nn] at hp, fun k q hq => by simp [wld, nn] at hq⟩⟩
    have hC : cxOk p room_1 s m #[Value.ref b] meth c D G0 (fun q : Nat => s.heap.size ≤ q) s.heap M_L_law := ⟨hx, hb, hml, hown, hr, fun z => (by cases z), rfl, hlocks, hws, hns, hK9, fun q hq => hq, rfl, fun q hq => Or.inr hq, hsk9⟩
    have hh0 : hOk false (fun _ _ => 0) := ⟨Int.le_refl _, by decide +kernel, fun k hk => absurd hk (by show ¬ ((k : Int) < 0); omega)⟩
    exact y_begin (G0 := G0) (D := D) (H0 := s.heap) (A := fun q : Nat => s.heap.size ≤ q) (R := room_1) (args := #[Value.ref b]) (Q := lw_Z below #[Value.ref b] s) (va_AO.of (hts _ ao_in8)) (va_AO.of (hts _ ao_in0)) (fun G => y_law htr hX hbl hL hG5 hxs ⟨hus, hse⟩) hC hh0 ⟨⟨⟨fun _ _ => rfl, rfl⟩, fun q hq => Or.inr hq⟩, Int.le_refl _⟩ hlv (fun q hq => absurd hq List.not_mem_nil) s.heap [] ls hw0 va_S.rf hl9
  exact key _ rfl hK hsk
