/-! TOKENS: the class begins to read, steps, fails -/
def tokC (a b : Int) : Bool := (a == 1 && decide (3 ≤ b) && decide (b ≤ 9)) || (a == 3 && decide (0 ≤ b))
theorem tok_lay1 : refT.all (fun q => !(tokC q.1 q.2.1)) = true := by decide +kernel
theorem tok_lay2 : lenT.all (fun q => !(tokC q.1 (-1))) = true := by decide +kernel
def up1 (K : Int → Int) (j v : Int) : Int → Int := fun i => if i = j then v else K i
/-- the tokens so far: c of them, to the place e -/
def Part (B : Int → Int) (L M c e : Int) (K A V E : Int → Int) : Prop := (∀ j, 0 ≤ j → j < c → Tk B L M (if j = 0 then 0 else E (j - 1)) (K j) (A j) (V j) (E j) ∧ (K j ≠ 0 ∧ K j ≠ 1) ∧ TkB (K j) (A j) (V j)) ∧ e = if c = 0 then 0 else E (c - 1)
theorem Part.more {B : Int → Int} {L M c e k a v e' : Int} {K A V E : Int → Int} (hP : Part B L M c e K A V E) (c0 : 0 ≤ c) (ht : Tk B L M e k a v e') (hk : k ≠ 0 ∧ k ≠ 1) (hb : TkB k a v) : Part B L M (c + 1) e' (up1 K c k) (up1 A c a) (up1 V c v) (up1 E c e') := by
  obtain ⟨p1, p2⟩ := hP
  refine ⟨fun j j0 j1 => ?_, ?_⟩
  · unfold up1
    by_cases e0 : j = c
    · rw [if_pos e0, if_pos e0, if_pos e0, if_pos e0]
      refine ⟨?_, hk, hb⟩
      rw [e0]
      have : (if c = 0 then (0 : Int) else if c - 1 = c then e' else E (c - 1)) = e := by
        rw [p2, if_neg (show ¬ c - 1 = c by omega)]
      rw [this]
      exact ht
    · rw [if_neg e0, if_neg e0, if_neg e0, if_neg e0, if_neg (show ¬ j - 1 = c by omega)]
      exact p1 j j0 (by omega)
  · unfold up1
    rw [if_neg (by omega), if_pos (by omega)]
section TOK
variable {h : hH}
theorem step_c (hL : Lay h) {n j : Int} {K A V : Int → Int} (hT : TokC h n K A V) (hn : h 1 4 = j) (j0 : 0 ≤ j) (jn : j < n) : ∃ h', fX9_step h 1 = some h' ∧ CurC h' j K A V ∧ ∀ a b, ¬ (a = 1 ∧ 4 ≤ b ∧ b ≤ 7) → h' a b = h a b := by
  obtain ⟨t1, t2, t3⟩ := hT
  obtain ⟨e, b1, b2, b3, b4⟩ := t3 j j0 jn
  obtain ⟨u1, u2, u3⟩ := pkT_un b1.1 b1.2 b2.1 b2.2 b3 b4
  unfold fX9_step
  rw [hn, if_neg (by omega), t1, if_pos jn, ly_1_2 hL, if_pos (by rw [ll_3 hL]; omega), aget_in j0 (by rw [ll_3 hL]; omega), e]
  simp only [Option.bind_some, pput]
  rw [u1, u2, u3]
  generalize hg : hup (hup (hup h 1 5 (K j)) 1 6 (A j)) 1 7 (V j) = g
  have g4 : g 1 4 = j := by rw [← hg, hup_ne (by decide), hup_ne (by decide), hup_ne (by decide), hn]
  rw [g4, w1 (by omega) (by omega)]
  refine ⟨_, rfl, ⟨hup_at, ?_, ?_, ?_⟩, fun a b hab => ?_⟩
  · rw [hup_ne (by decide), ← hg, hup_ne (by decide), hup_ne (by decide), hup_at]
  · rw [hup_ne (by decide), ← hg, hup_ne (by decide), hup_at]
  · rw [hup_ne (by decide), ← hg, hup_at]
  · rw [hup_ne (by omega), ← hg, hup_ne (by omega), hup_ne (by omega), hup_ne (by omega)]
theorem step_last (hL : Lay h) {n : Int} {K A V : Int → Int} (hT : TokC h n K A V) (hn : h 1 4 = n) (n0 : 0 ≤ n) : fX9_step h 1 = some h := by
  unfold fX9_step
  rw [hn, if_neg (by omega), hT.1, if_neg (Int.lt_irrefl _)]
theorem start_ok9 (hL : Lay h) {L M : Int} (h1 : h 1 1 = L) (L0 : 0 ≤ L) (hLb : L ≤ 940) (M0 : 0 ≤ M) (hM : M ≤ 900) : ∃ h' n K A V E, fX9_start h 1 M = some h' ∧ Fr tokC h h' ∧ Chain (bB h) L M n K A V E ∧ TokC h' n K A V ∧ CurC h' 0 K A V ∧ h' 1 8 = 0 ∧ h' 1 9 = 0 := by
  unfold fX9_start
  simp only [pput, Option.bind_some]
  generalize hg : hup (hup (hup h 1 8 0) 1 9 0) 1 3 0 = g
  have fg : Fr tokC h g := by rw [← hg]; exact ((Fr.up (by decide)).tr (Fr.up (by decide))).tr (Fr.up (by decide))
  have Lg : Lay g := fg.lay hL tok_lay1 tok_lay2
  have g1 : g 1 1 = L := by rw [← hg, hup_ne (by decide), hup_ne (by decide), hup_ne (by decide), h1]
  have g3 : g 1 3 = 0 := by rw [← hg, hup_at]
  have g8 : g 1 8 = 0 ∧ g 1 9 = 0 := by
    rw [← hg]
    exact ⟨by rw [hup_ne (by decide), hup_ne (by decide), hup_at], by rw [hup_ne (by decide), hup_at]⟩
  have g2 : g 2 = h 2 := by rw [← hg, hup_off (by decide), hup_off (by decide), hup_off (by decide)]
  have bg : ∀ (x : hH), x 2 = h 2 → bB x = bB h := fun x hx => by funext i; unfold bB; rw [hx]
  rw [g1]
  have hedge : ∃ ed, miD L M = ed ∧ ed ≤ L ∧ ed ≤ M ∧ (ed = L ∨ ed = M) := by
    unfold miD
    by_cases z : M < L
    · rw [if_pos z]; exact ⟨M, rfl, by omega, by omega, Or.inr rfl⟩
    · rw [if_neg z]; exact ⟨L, rfl, by omega, by omega, Or.inl rfl⟩
  obtain ⟨ed, e0, e1, e2, e3⟩ := hedge
  have e4 : L ≤ M → ed = L := fun z => by unfold miD at e0; rw [if_neg (by omega)] at e0; exact e0.symm
  have e5 : M < L → ed = M := fun z => by unfold miD at e0; rw [if_pos z] at e0; exact e0.symm
  rw [e0]
  -- the end
  have fin : ∀ (x : hH) (c e from_ : Int) (K A V E : Int → Int), Fr tokC g x → x 1 3 = c → 0 ≤ c → c ≤ from_ → c ≤ M → ed ≤ from_ → from_ ≤ L → Part (bB h) L M c e K A V E → e ≤ from_ → (∀ i, e ≤ i → i < from_ → blnk (bB h i)) → (∀ j, 0 ≤ j → j < c → x 3 j = pkT (K j) (A j) (V j)) → x 1 8 = 0 → x 1 9 = 0 → ∃ r, fX9_start_b111 x 1 M ed = some r ∧ ∃ n K A V E, Fr tokC h r ∧ Chain (bB h) L M n K A V E ∧ TokC r n K A V ∧ CurC r 0 K A V ∧ r 1 8 = 0 ∧ r 1 9 = 0 := by
    intro x c e from_ K A V E fx xc c0 cf cM ef fL hP he hbl x3 x8 x9
    have Lx := fx.lay Lg tok_lay1 tok_lay2
    have x1 : x 1 1 = L := by rw [fx 1 1 (by decide)]; exact g1
    -- the place behind the last blanks
    have skip : ∃ q, SkipT (bB h) L e q ∧ from_ ≤ q ∧ (from_ = L → q = L) := by
      have ex : ∀ d : Nat, ∀ f, (L - f).toNat = d → from_ ≤ f → f ≤ L → (∀ i, e ≤ i → i < f → blnk (bB h i)) → ∃ q, SkipT (bB h) L e q ∧ from_ ≤ q ∧ (from_ = L → q = L) := by
        intro d
        induction d with
        | zero =>
          intro f hd f0 f1 hb
          have : f = L := by omega
          subst this
          exact ⟨f, ⟨by omega, Int.le_refl _, hb, fun z => by omega⟩, f0, fun _ => rfl⟩
        | succ d ih =>
          intro f hd f0 f1 hb
          by_cases z : blnk (bB h f)
          · refine ih (f + 1) (by omega) (by omega) (by omega) (fun i i0 i1 => ?_)
            by_cases y : i = f
            · rw [y]; exact z
            · exact hb i i0 (by omega)
          · exact ⟨f, ⟨by omega, by omega, hb, fun _ => z⟩, f0, fun y => by omega⟩
      exact ex _ from_ rfl (Int.le_refl _) fL hbl
    obtain ⟨q, sq, fq, lq⟩ := skip
    have main : ∀ kk, ((kk = 1 ∧ M < L) ∨ (kk = 0 ∧ L ≤ M)) → ∃ r, fX9_start_b125 x 1 ed kk 1 = some r ∧ ∃ n K A V E, Fr tokC h r ∧ Chain (bB h) L M n K A V E ∧ TokC r n K A V ∧ CurC r 0 K A V ∧ r 1 8 = 0 ∧ r 1 9 = 0 := by
      intro kk hkk
      have htk : Tk (bB h) L M e kk ed 0 q := by
        refine ⟨q, sq, ?_⟩
        rcases hkk with ⟨rfl, z⟩ | ⟨rfl, z⟩
        · have := e5 z
          exact Or.inl ⟨z, by omega, rfl, by omega, rfl, rfl⟩
        · have := e4 z
          have := lq (by omega)
          exact Or.inr ⟨by omega, Or.inl ⟨by omega, rfl, by omega, rfl, by omega⟩⟩
      have hb : TkB kk ed 0 := ⟨by omega, by omega, by omega, by omega⟩
      obtain ⟨p1, p2⟩ := hP
      unfold fX9_start_b125
      rw [keep_ok' Lx xc c0 (by omega)]
      simp only [Option.bind_some, pput]
      generalize hy : hup (hup (hup x 3 c (pkT kk ed 0)) 1 3 (c + 1)) 1 4 0 = y
      have fy : Fr tokC x y := by rw [← hy]; exact ((Fr.up (by unfold tokC; simp; omega)).tr (Fr.up (by decide))).tr (Fr.up (by decide))
      have Ly := fy.lay Lx tok_lay1 tok_lay2
      have y3 : ∀ i, y 3 i = if i = c then pkT kk ed 0 else x 3 i := fun i => by
        rw [← hy, hup_off (by decide), hup_off (by decide)]
        by_cases z : i = c
        · rw [z, hup_at, if_pos rfl]
        · rw [hup_ne (fun w => z w.2), if_neg z]
      have y13 : y 1 3 = c + 1 := by rw [← hy, hup_ne (by decide), hup_at]
      have y14 : y 1 4 = 0 := by rw [← hy, hup_at]
      have y89 : y 1 8 = 0 ∧ y 1 9 = 0 := by
        rw [← hy]
        refine ⟨?_, ?_⟩
        · rw [hup_ne (by decide), hup_ne (by decide), hup_off (by decide)]; exact x8
        · rw [hup_ne (by decide), hup_ne (by decide), hup_off (by decide)]; exact x9
      have hTy : TokC y (c + 1) (up1 K c kk) (up1 A c ed) (up1 V c 0) := by
        refine ⟨y13, by omega, fun j j0 j1 => ?_⟩
        rw [y3]
        unfold up1
        by_cases z : j = c
        · rw [if_pos z, if_pos z, if_pos z, if_pos z]; exact ⟨rfl, hb⟩
        · rw [if_neg z, if_neg z, if_neg z, if_neg z]
          exact ⟨x3 j j0 (by omega), (p1 j j0 (by omega)).2.2⟩
      obtain ⟨r, r1, r2, r3⟩ := step_c Ly hTy y14 (Int.le_refl _) (by omega)
      rw [r1]
      refine ⟨r, rfl, c + 1, up1 K c kk, up1 A c ed, up1 V c 0, up1 E c q, ?_, ⟨by omega, fun j j0 j1 => ?_, fun j j0 j1 => ?_, ?_⟩, ?_, r2, ?_, ?_⟩
      · refine (fg.tr (fx.tr fy)).tr (fun a b w => r3 a b (fun z => ?_))
        obtain ⟨rfl, z1, z2⟩ := z
        unfold tokC at w
        simp at w
        omega
      · unfold up1
        by_cases z : j = c
        · rw [if_pos z, if_pos z, if_pos z, if_pos z, z]
          have : (if c = 0 then (0 : Int) else if c - 1 = c then q else E (c - 1)) = e := by
            rw [p2, if_neg (show ¬ c - 1 = c by omega)]
          rw [this]
          exact htk
        · rw [if_neg z, if_neg z, if_neg z, if_neg z, if_neg (show ¬ j - 1 = c by omega)]
          exact (p1 j j0 (by omega)).1
      · unfold up1
        rw [if_neg (by omega)]
        exact (p1 j j0 (by omega)).2.1
      · unfold up1
        rw [if_pos (by omega)]
        omega
      · obtain ⟨t1, t2, t3⟩ := hTy
        refine ⟨by rw [r3 1 3 (by omega)]; exact t1, t2, fun j j0 j1 => ?_⟩
        rw [r3 3 j (by omega)]
        exact t3 j j0 j1
      · rw [r3 1 8 (by omega)]; exact y89.1
      · rw [r3 1 9 (by omega)]; exact y89.2
    unfold fX9_start_b111
    rw [x1]
    by_cases z : M < L
    · rw [if_pos z]; exact main 1 (Or.inl ⟨rfl, z⟩)
    · rw [if_neg z]; exact main 0 (Or.inr ⟨rfl, by omega⟩)
  have key := lpO_invG (f := fX9_start_s29 g 1 M ed) (fun i (a : hH × Int) => (a.1, a.2, i)) 940 (fun i a => Fr tokC g a.1 ∧ i ≤ a.2 ∧ a.2 ≤ L ∧ (∃ (c e : Int) (K A V E : Int → Int), a.1 1 3 = c ∧ 0 ≤ c ∧ c ≤ a.2 ∧ c ≤ M ∧ Part (bB h) L M c e K A V E ∧ e ≤ a.2 ∧ (∀ i, e ≤ i → i < a.2 → blnk (bB h i)) ∧ (∀ j, 0 ≤ j → j < c → a.1 3 j = pkT (K j) (A j) (V j)) ∧ (a.2 < ed → c < M)) ∧ a.1 1 8 = 0 ∧ a.1 1 9 = 0) (fun r => ∃ n K A V E, Fr tokC h r ∧ Chain (bB h) L M n K A V E ∧ TokC r n K A V ∧ CurC r 0 K A V ∧ r 1 8 = 0 ∧ r 1 9 = 0) (fun i a i0 i1 hI => ?_) (fun a hI => ?_) (i := 0) (a := (g, 0)) (Int.le_refl _) (by decide) ⟨Fr.rf, Int.le_refl _, L0, ⟨0, 0, fun _ => 0, fun _ => 0, fun _ => 0, fun _ => 0, g3, Int.le_refl _, Int.le_refl _, M0, ⟨fun j a b => by omega, by rw [if_pos rfl]⟩, Int.le_refl _, fun i a b => by dsimp only at b; omega, fun j a b => by omega, fun z => by dsimp only at z; omega⟩, g8⟩
  · obtain ⟨r, r1, n, K, A, V, E, r2⟩ := key
    exact ⟨r, n, K, A, V, E, r1, r2⟩
  · obtain ⟨x, f⟩ := a
    obtain ⟨I1, I2, I3, ⟨c, e, K, A, V, E, J1, J2, J3, J4, J5, J6, J7, J8, J9⟩, I5, I6⟩ := hI
    dsimp only at I1 I2 I3 J1 J3 J6 J7 J8 J9 I5 I6 ⊢
    have Lx := I1.lay Lg tok_lay1 tok_lay2
    have x1 : x 1 1 = L := by rw [I1 1 1 (by decide)]; exact g1
    have x2 : x 2 = h 2 := (I1.row 2 (fun b => by unfold tokC; simp)).trans g2
    have bx := bg x x2
    unfold fX9_start_s29
    dsimp only
    rw [if_pos i1]
    by_cases z : f < ed
    · rw [if_pos z, byteIn_ok Lx (by omega) (by omega), bx]
      simp only [Option.bind_some]
      rw [isLetter_ok, isDigit_ok, isBlank_ok, isSignC_ok]
      simp only [Option.bind_some]
      have cM := J9 z
      have sk : ¬ blnk (bB h f) → SkipT (bB h) L e f := fun nb => ⟨J6, I3, J7, fun _ => nb⟩
      have nM : ¬ (M < L ∧ M ≤ f) := by omega
      -- one more token
      have one : ∀ (k v e' : Int) (x' : hH), Tk (bB h) L M e k f v e' → (k ≠ 0 ∧ k ≠ 1) → TkB k f v → f < e' → e' ≤ L → x' = hup (hup x 3 c (pkT k f v)) 1 3 (c + 1) → Fr tokC g x' ∧ i + 1 ≤ e' ∧ e' ≤ L ∧ (∃ (c e : Int) (K A V E : Int → Int), x' 1 3 = c ∧ 0 ≤ c ∧ c ≤ e' ∧ c ≤ M ∧ Part (bB h) L M c e K A V E ∧ e ≤ e' ∧ (∀ i, e ≤ i → i < e' → blnk (bB h i)) ∧ (∀ j, 0 ≤ j → j < c → x' 3 j = pkT (K j) (A j) (V j)) ∧ (e' < ed → c < M)) ∧ x' 1 8 = 0 ∧ x' 1 9 = 0 := by
        intro k v e' x' ht hk hb hfe heL hx'
        have f' : Fr tokC x x' := by rw [hx']; exact (Fr.up (by unfold tokC; simp; omega)).tr (Fr.up (by decide))
        refine ⟨I1.tr f', by omega, heL, ⟨c + 1, e', up1 K c k, up1 A c f, up1 V c v, up1 E c e', by rw [hx', hup_at], by omega, by omega, by omega, J5.more J2 ht hk hb, Int.le_refl _, fun i a b => by omega, fun j j0 j1 => ?_, fun w => by omega⟩, ?_, ?_⟩
        · rw [hx', hup_off (by decide)]
          unfold up1
          by_cases y : j = c
          · rw [if_pos y, if_pos y, if_pos y, y, hup_at]
          · rw [if_neg y, if_neg y, if_neg y, hup_ne (fun w => y w.2)]
            exact J8 j j0 (by omega)
        · rw [hx', hup_ne (by decide), hup_off (by decide)]; exact I5
        · rw [hx', hup_ne (by decide), hup_off (by decide)]; exact I6
      have run : aln (bB h f) → (∃ a' : hH × Int, fX9_start_b65 x 1 M ed f i = some (.inl (a'.1, a'.2, i + 1)) ∧ Fr tokC g a'.1 ∧ i + 1 ≤ a'.2 ∧ a'.2 ≤ L ∧ (∃ (c e : Int) (K A V E : Int → Int), a'.1 1 3 = c ∧ 0 ≤ c ∧ c ≤ a'.2 ∧ c ≤ M ∧ Part (bB h) L M c e K A V E ∧ e ≤ a'.2 ∧ (∀ i, e ≤ i → i < a'.2 → blnk (bB h i)) ∧ (∀ j, 0 ≤ j → j < c → a'.1 3 j = pkT (K j) (A j) (V j)) ∧ (a'.2 < ed → c < M)) ∧ a'.1 1 8 = 0 ∧ a'.1 1 9 = 0) := by
        intro ha
        obtain ⟨n, k, v, k1, k2, k3, k4, k5, k6⟩ := keepRun_ok (q := f) Lx x1 hLb (by omega) (by omega) (by rw [bx]; exact ha) J1 J2 (by omega)
        rw [bx] at k4 k5 k6
        have nb : ¬ blnk (bB h f) := by omega
        have hb := k6.tb k4 (a := f) (by omega) (by omega)
        have hk01 : k ≠ 0 ∧ k ≠ 1 := by
          unfold RunT at k6
          by_cases y : cL (bB h) f n = n ∧ n ≤ 7
          · rw [if_pos y] at k6
            rcases kwF_or (w := r32 (lsB (bB h) f n)) with ⟨i, i0, i1, w, -⟩ | ⟨w, -⟩ <;> omega
          · rw [if_neg y] at k6
            by_cases y2 : cL (bB h) f n = 0 ∧ n ≤ 3
            · rw [if_pos y2] at k6; omega
            · rw [if_neg y2] at k6; omega
        unfold fX9_start_b65
        rw [k1]
        simp only [Option.bind_some]
        rw [w1 (by omega) (by omega)]
        exact ⟨(_, f + n), rfl, one k v (f + n) _ ⟨f, sk nb, Or.inr ⟨nM, Or.inr (Or.inr ⟨by omega, ha, n, k2, rfl, k3, k4, k5, k6, rfl⟩)⟩⟩ hk01 hb (by omega) k3 rfl⟩
      by_cases l : lett (bB h f)
      · rw [if_pos l, if_neg (by decide)]
        exact Or.inl (run (Or.inl l))
      · rw [if_neg l, if_pos rfl]
        by_cases d : digt (bB h f)
        · rw [if_pos d, if_neg (by decide)]
          exact Or.inl (run (Or.inr d))
        · rw [if_neg d, if_pos rfl]
          have nal : ¬ aln (bB h f) := fun w => w.elim l d
          by_cases b : blnk (bB h f)
          · rw [if_pos b, if_neg (by decide), w1 (i := f) (by omega) (by omega), w1 (by omega) (by omega)]
            refine Or.inl ⟨(x, f + 1), rfl, I1, by dsimp only; omega, by dsimp only; omega, ⟨c, e, K, A, V, E, J1, J2, by dsimp only; omega, J4, J5, by dsimp only; omega, fun i a w => ?_, J8, fun w => cM⟩, I5, I6⟩
            dsimp only at w
            by_cases y : i = f
            · rw [y]; exact b
            · exact J7 i a (by omega)
          · rw [if_neg b, if_pos rfl]
            have hbf := iad255b (h 2 f)
            have hbf2 : 0 ≤ bB h f ∧ bB h f < 256 := hbf
            have sign : ∀ k, k = (if sgn (bB h f) then bB h f else 2) → ∃ a' : hH × Int, fX9_start_b97 x 1 M ed f i k 1 = some (.inl (a'.1, a'.2, i + 1)) ∧ Fr tokC g a'.1 ∧ i + 1 ≤ a'.2 ∧ a'.2 ≤ L ∧ (∃ (c e : Int) (K A V E : Int → Int), a'.1 1 3 = c ∧ 0 ≤ c ∧ c ≤ a'.2 ∧ c ≤ M ∧ Part (bB h) L M c e K A V E ∧ e ≤ a'.2 ∧ (∀ i, e ≤ i → i < a'.2 → blnk (bB h i)) ∧ (∀ j, 0 ≤ j → j < c → a'.1 3 j = pkT (K j) (A j) (V j)) ∧ (a'.2 < ed → c < M)) ∧ a'.1 1 8 = 0 ∧ a'.1 1 9 = 0 := by
              intro k hk
              have hk01 : (k ≠ 0 ∧ k ≠ 1) ∧ 0 ≤ k ∧ k < 256 := by
                rw [hk]
                split
                · rename_i w; omega
                · omega
              unfold fX9_start_b97
              rw [keep_ok' Lx J1 J2 (by omega)]
              simp only [Option.bind_some]
              rw [w1 (i := f) (by omega) (by omega), w1 (by omega) (by omega)]
              exact ⟨(_, f + 1), rfl, one k 0 (f + 1) _ ⟨f, sk b, Or.inr ⟨nM, Or.inr (Or.inl ⟨by omega, nal, hk, rfl, rfl, rfl⟩)⟩⟩ hk01.1 ⟨hk01.2, by omega, by omega, by omega⟩ (by omega) (by omega) rfl⟩
            by_cases s : sgn (bB h f)
            · rw [if_pos s, if_neg (by decide)]
              exact Or.inl (sign _ (by rw [if_pos s]))
            · rw [if_neg s, if_pos rfl]
              exact Or.inl (sign _ (by rw [if_neg s]))
    · rw [if_neg z]
      obtain ⟨r, r1, r2⟩ := fin x c e f K A V E I1 J1 J2 J3 J4 (by omega) I3 J5 J6 J7 J8 I5 I6
      rw [r1]
      exact Or.inr ⟨r, rfl, r2⟩
  · obtain ⟨x, f⟩ := a
    obtain ⟨I1, I2, I3, ⟨c, e, K, A, V, E, J1, J2, J3, J4, J5, J6, J7, J8, J9⟩, I5, I6⟩ := hI
    dsimp only at I1 I2 I3 J1 J3 J6 J7 J8 J9 I5 I6 ⊢
    unfold fX9_start_s29
    dsimp only
    rw [if_neg (by decide)]
    obtain ⟨r, r1, r2⟩ := fin x c e f K A V E I1 J1 J2 J3 J4 (by omega) I3 J5 J6 J7 J8 I5 I6
    rw [r1]
    exact ⟨r, rfl, r2⟩
end TOK
