/-! THE WORDS OF THE CLAIM'S BEGINNING -/
theorem wsL_law_x0 : ∀ w ∈ (vx_at0 RX11 249 "java/util/NoSuchElementException" ["java/lang/RuntimeException", "java/lang/Exception"]).filter goodWord, w ∈ lw_tbl := by decide +kernel
theorem wsL_law_in : ∀ w ∈ wsL_law, w ∈ lw_tbl := fun w h => (List.mem_append.mp h).elim (fun h => wsL_law_in0 w h) (fun h => wsL_law_x0 w h)
theorem nest_in : ∀ q ∈ nestL, Cond.methodLinkNest q.1 q.2.1 q.2.2.1 q.2.2.2 ∈ lw_tbl := by decide +kernel
theorem xw4_in : ∀ w ∈ xw4, w ∈ lw_tbl := by decide +kernel
theorem ao_in8 : Cond.arrayOver (.object RX8) ∈ lw_tbl := by decide +kernel
theorem ao_in0 : Cond.arrayOver (.object RX0) ∈ lw_tbl := by decide +kernel
theorem sC_in : Cond.laysStatic "java/lang/String" "COMPACT_STRINGS" "Z" ∈ lw_tbl := by decide +kernel
theorem sC_ini : Cond.initialized "java/lang/String" ∈ lw_tbl := by decide +kernel
theorem sF_in : Cond.laysStatic "jdk/internal/util/Preconditions" "SIOOBE_FORMATTER" "Ljava/util/function/BiFunction;" ∈ lw_tbl := by decide +kernel
theorem sF_ini : Cond.initialized "jdk/internal/util/Preconditions" ∈ lw_tbl := by decide +kernel
theorem sU_in : Cond.laysStatic "java/lang/Throwable" "UNASSIGNED_STACK" "[Ljava/lang/StackTraceElement;" ∈ lw_tbl := by decide +kernel
theorem sU_ini : Cond.initialized "java/lang/Throwable" ∈ lw_tbl := by decide +kernel
theorem sS_in : Cond.laysStatic "java/lang/Throwable" "SUPPRESSED_SENTINEL" "Ljava/util/List;" ∈ lw_tbl := by decide +kernel
theorem sS_ini : Cond.initialized "java/lang/Throwable" ∈ lw_tbl := by decide +kernel
theorem sC_giv : Cond.eq (.static "java/lang/String" "COMPACT_STRINGS" "Z") (.int 1) ∈ flatC (Jvm.Cond.and given_1 narrow_1) := by decide +kernel
theorem sF_giv : Cond.isRef (.static "jdk/internal/util/Preconditions" "SIOOBE_FORMATTER" "Ljava/util/function/BiFunction;") ∈ flatC (Jvm.Cond.and given_1 narrow_1) := by decide +kernel
theorem sU_giv : Cond.isRef (.static "java/lang/Throwable" "UNASSIGNED_STACK" "[Ljava/lang/StackTraceElement;") ∈ flatC (Jvm.Cond.and given_1 narrow_1) := by decide +kernel
theorem sS_giv : Cond.isRef (.static "java/lang/Throwable" "SUPPRESSED_SENTINEL" "Ljava/util/List;") ∈ flatC (Jvm.Cond.and given_1 narrow_1) := by decide +kernel
theorem tx_in : Cond.stringRef RX9 88 kTx ∈ lw_tbl := by decide +kernel
def tmS : Term := .string RX9 88
def tmV : Term := .field tmS "java/lang/String" "value" "[B"
theorem tx_ex : Cond.exactly tmS "java/lang/String" ∈ flatC (Jvm.Cond.and given_1 narrow_1) := by decide +kernel
theorem tx_co : Cond.eq (.field tmS "java/lang/String" "coder" "B") (.int 0) ∈ flatC (Jvm.Cond.and given_1 narrow_1) := by decide +kernel
theorem tx_ar : Cond.arrayOf tmV .byte ∈ flatC (Jvm.Cond.and given_1 narrow_1) := by decide +kernel
theorem tx_le : Cond.eq (.length tmV) (.int (Int32.ofNat 152)) ∈ flatC (Jvm.Cond.and given_1 narrow_1) := by decide +kernel
theorem tx_all : (flatC (Jvm.Cond.and given_1 narrow_1)).drop 58 = (List.range 152).map (fun j => Cond.eq (.elem tmV (.int (Int32.ofNat j))) (.int (kBy.getD j 0))) := by decide +kernel
theorem tx_el (j : Fin 152) : Cond.eq (.elem tmV (.int (Int32.ofNat j.1))) (.int (kBy.getD j.1 0)) ∈ flatC (Jvm.Cond.and given_1 narrow_1) := by
  refine List.mem_of_mem_drop (i := 58) ?_
  rw [tx_all]
  exact List.mem_map.mpr ⟨j.1, List.mem_range.mpr j.2, rfl⟩
theorem tx_S {args : Array Value} {s : State} {A : Nat → Prop} (hg : ∀ w ∈ flatC (Jvm.Cond.and given_1 narrow_1), w.before args s = true) (hA : ∀ a : Nat, a < s.heap.size → ¬ A a) : ∃ a b : Nat, vk_S 1 [152] [kBy] (fun _ => a) (fun _ => b) A s s.heap ∧ tmS.eval args s none [] s = some (.ref a) := by
  obtain ⟨adK, adV, h1, h2⟩ := vk_Sof (args := args) (s := s) (N := 1) (tm := fun _ => tmS) (len := [152]) (byt := [kBy]) (A := A) (fun i hi => by
      obtain rfl : i = 0 := by omega
      decide) (fun i _ => hg _ tx_ex) (fun i _ => hg _ tx_co) (fun i _ => hg _ tx_ar) (fun i hi => by
      obtain rfl : i = 0 := by omega
      exact hg _ tx_le) (fun i hi j hj => by
      obtain rfl : i = 0 := by omega
      exact hg _ (tx_el ⟨j, hj⟩)) (fun i j hi hj hij => by omega) hA
  refine ⟨adK 0, adV 0, ⟨fun i hi => ?_, fun i j hi hj _ => by omega⟩, h2 0 (by decide)⟩
  obtain rfl : i = 0 := by omega
  exact h1.1 0 (by decide)
theorem ins_0 : Cond.instantiable RX0 4 ∈ lw_tbl := by decide +kernel
theorem ins_1 : Cond.instantiable RX1 17 ∈ lw_tbl := by decide +kernel
theorem ins_2 : Cond.instantiable RX2 4 ∈ lw_tbl := by decide +kernel
theorem ins_3 : Cond.instantiable RX3 5 ∈ lw_tbl := by decide +kernel
theorem ins_4 : Cond.instantiable RX4 12 ∈ lw_tbl := by decide +kernel
theorem ins_5 : Cond.instantiable RX5 6 ∈ lw_tbl := by decide +kernel
theorem ins_6 : Cond.instantiable RX6 4 ∈ lw_tbl := by decide +kernel
theorem ins_7 : Cond.instantiable RX7 3 ∈ lw_tbl := by decide +kernel
theorem ins_8 : Cond.instantiable RX8 3 ∈ lw_tbl := by decide +kernel
theorem ins_9 : Cond.instantiable RX9 10 ∈ lw_tbl := by decide +kernel
theorem ins_10 : Cond.instantiable RX10 2 ∈ lw_tbl := by decide +kernel
theorem ins_11 : Cond.instantiable RX11 19 ∈ lw_tbl := by decide +kernel
theorem ins_12 : Cond.instantiable RX12 66 ∈ lw_tbl := by decide +kernel
/-- the classes are known -/
theorem kn_cls {args : Array Value} {s : State} (hts : ∀ w ∈ lw_tbl, w.before args s = true) (hws : ∀ w ∈ wsL_law, w.before args s = true) : ∃ D : va_G, ∀ (c : Nat) (q : vw_C), vwCl[c]? = some q → u_Kn s q.1 q.2.1 q.2.2 (D.1 c) (D.2 c) := by
  have h0 : ∀ c : Nat, ∃ z : ClassId × (Nat → Nat), ∀ q : vw_C, vwCl[c]? = some q → u_Kn s q.1 q.2.1 q.2.2 z.1 z.2 := by
    intro c
    match c with
    | 0 => obtain ⟨x1, x2, x3⟩ := u_known (C := RX0) (T := TX0) (N := 4) hws inlX0 (hts _ ins_0); exact ⟨(x1, x2), fun q hq => by cases hq; exact x3⟩
    | 1 => obtain ⟨x1, x2, x3⟩ := u_known (C := RX1) (T := TX1) (N := 17) hws inlX1 (hts _ ins_1); exact ⟨(x1, x2), fun q hq => by cases hq; exact x3⟩
    | 2 => obtain ⟨x1, x2, x3⟩ := u_known (C := RX2) (T := TX2) (N := 4) hws inlX2 (hts _ ins_2); exact ⟨(x1, x2), fun q hq => by cases hq; exact x3⟩
    | 3 => obtain ⟨x1, x2, x3⟩ := u_known (C := RX3) (T := TX3) (N := 5) hws inlX3 (hts _ ins_3); exact ⟨(x1, x2), fun q hq => by cases hq; exact x3⟩
    | 4 => obtain ⟨x1, x2, x3⟩ := u_known (C := RX4) (T := TX4) (N := 12) hws inlX4 (hts _ ins_4); exact ⟨(x1, x2), fun q hq => by cases hq; exact x3⟩
    | 5 => obtain ⟨x1, x2, x3⟩ := u_known (C := RX5) (T := TX5) (N := 6) hws inlX5 (hts _ ins_5); exact ⟨(x1, x2), fun q hq => by cases hq; exact x3⟩
    | 6 => obtain ⟨x1, x2, x3⟩ := u_known (C := RX6) (T := TX6) (N := 4) hws inlX6 (hts _ ins_6); exact ⟨(x1, x2), fun q hq => by cases hq; exact x3⟩
    | 7 => obtain ⟨x1, x2, x3⟩ := u_known (C := RX7) (T := TX7) (N := 3) hws inlX7 (hts _ ins_7); exact ⟨(x1, x2), fun q hq => by cases hq; exact x3⟩
    | 8 => obtain ⟨x1, x2, x3⟩ := u_known (C := RX8) (T := TX8) (N := 3) hws inlX8 (hts _ ins_8); exact ⟨(x1, x2), fun q hq => by cases hq; exact x3⟩
    | 9 => obtain ⟨x1, x2, x3⟩ := u_known (C := RX9) (T := TX9) (N := 10) hws inlX9 (hts _ ins_9); exact ⟨(x1, x2), fun q hq => by cases hq; exact x3⟩
    | 10 => obtain ⟨x1, x2, x3⟩ := u_known (C := RX10) (T := TX10) (N := 2) hws inlX10 (hts _ ins_10); exact ⟨(x1, x2), fun q hq => by cases hq; exact x3⟩
    | 11 => obtain ⟨x1, x2, x3⟩ := u_known (C := RX11) (T := TX11) (N := 19) hws inlX11 (hts _ ins_11); exact ⟨(x1, x2), fun q hq => by cases hq; exact x3⟩
    | 12 => obtain ⟨x1, x2, x3⟩ := u_known (C := RX12) (T := TX12) (N := 66) hws inlX12 (hts _ ins_12); exact ⟨(x1, x2), fun q hq => by cases hq; exact x3⟩
    | n + 13 => exact ⟨(0, fun _ => 0), fun q hq => by simp [vwCl] at hq⟩
  obtain ⟨f, hf⟩ := Classical.axiomOfChoice h0
  exact ⟨(fun c => (f c).1, fun c => (f c).2), fun c q hq => hf c q hq⟩
theorem ar_inI : Cond.arrayClass .int ∈ wsL_law := by decide +kernel
theorem ar_inJ : Cond.arrayClass .long ∈ wsL_law := by decide +kernel
theorem ar_inB : Cond.arrayClass .byte ∈ wsL_law := by decide +kernel
theorem ar_inZ : Cond.arrayClass .boolean ∈ wsL_law := by decide +kernel
theorem kn_arr {args : Array Value} {s : State} {ty : FieldType} (hty : ty = .int ∨ ty = .long ∨ ty = .byte ∨ ty = .boolean) (h : (Cond.arrayClass ty).before args s = true) : ∃ cA : ClassId, ArrOfT s cA ty ∧ va_RA s cA ty := by
  obtain ⟨cA, kA, comp, f1, f2, f3⟩ := Cond.arrayClass_spec h
  refine ⟨cA, fun n z => ⟨fun k h9 => (by cases h9), kA, f2, comp, f3⟩, ?_⟩
  rcases hty with rfl | rfl | rfl | rfl <;> exact f1
theorem kn_obj {args : Array Value} {s : State} {C : String} (h : (Cond.arrayOver (.object C)).before args s = true) : ∃ cA : ClassId, ArrOfT s cA (.object C) ∧ va_RA s cA (.object C) := by
  obtain ⟨comp, cA, kA, f1, f2, f3, f4, f5⟩ := Cond.arrayOver_spec h
  exact ⟨cA, fun n z => ⟨fun k h9 => (by cases h9), kA, f3, comp, f4⟩, kA, comp, f3, f4, f1, f5⟩
def aT6 (cI cJ cB cZ c8 c0 : ClassId) : Nat → ClassId := fun T => if T = 50 then cI else if T = 51 then cJ else if T = 52 then cB else if T = 53 then cZ else if T = 54 then c8 else c0
def aA5 (sz aK aV aF b : Nat) : Nat → Nat := fun k => if k = 1000 then aK else if k = 1001 then aV else if k = 1002 then aF else if k = 1005 then b else sz + k
theorem aA5_lo {sz aK aV aF b k : Nat} (h : k < 225) : sz ≤ aA5 sz aK aV aF b k := by
  unfold aA5
  rw [if_neg (by omega), if_neg (by omega), if_neg (by omega), if_neg (by omega)]
  omega
theorem kn_all {D : va_G} {s : State} {ad : Nat → Nat} {cI cJ cB cZ c8 c0 : ClassId} (h0 : ∀ (c : Nat) (q : vw_C), vwCl[c]? = some q → u_Kn s q.1 q.2.1 q.2.2 (D.1 c) (D.2 c)) (hI : ArrOfT s cI .int ∧ va_RA s cI .int) (hJ : ArrOfT s cJ .long ∧ va_RA s cJ .long) (hB : ArrOfT s cB .byte ∧ va_RA s cB .byte) (hZ : ArrOfT s cZ .boolean ∧ va_RA s cZ .boolean) (h8 : ArrOfT s c8 (.object RX8) ∧ va_RA s c8 (.object RX8)) (hO : ArrOfT s c0 (.object RX0) ∧ va_RA s c0 (.object RX0)) : va_K D vwCl (tyG (ad, aT6 cI cJ cB cZ c8 c0)) s := by
  refine ⟨h0, fun k q hk => ?_⟩
  match k, hk with
  | 0, hk => cases hk; exact hI
  | 1, hk => cases hk; exact hJ
  | 2, hk => cases hk; exact hB
  | 3, hk => cases hk; exact hZ
  | 4, hk => cases hk; exact h8
  | 5, hk => cases hk; exact hO
  | k + 6, hk => simp [tyG] at hk
