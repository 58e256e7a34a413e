/-! WHAT IS TOLD, ALIKE -/
theorem why5 {S T : Int → Int} (hr : VRng (vioN S T)) (h : whyS S T = 5) : chS5 S T = 0 := by
  unfold whyS at h
  by_cases n : noRm S T
  · rw [if_pos n] at h; omega
  · rw [if_neg n] at h
    by_cases c : clsh S T
    · unfold chS5
      rw [if_pos (Or.inr c.2)]
    · rw [if_neg c] at h
      exfalso
      unfold hdK at h
      split at h
      · omega
      · rename_i x l hx
        have := hr x (by rw [hx]; exact List.mem_cons_self)
        omega
theorem told_inv {e : hH} {S T : Int → Int} (hK : JudK 39 S T e) (hb : (liv S).length ≤ 40) (hl : (vioN S T).length ≤ 880) (hr : VRng (vioN S T))
    (e42 : e 192 42 = 1) (r0 : e 207 0 = whyS S T) (r1 : e 207 1 = foS S T) (r2 : e 207 2 = (goS S T).length) (r3 : e 207 3 = if whyS S T = 5 then 0 else chS5 S T) (r8 : ∀ q, 0 ≤ q → q < 99 → e 208 q = GS S T q) (r41 : e 192 41 = (vioN S T).length) (rv : ∀ (i : Nat) (x : Int × Int × Int), (vioN S T)[i]? = some x → e 209 i = x.1 ∧ e 210 i = x.2.1 ∧ e 211 i = x.2.2) : JudI e ∧ LatV e := by
  obtain ⟨k4, k5, k6, k7, k8, k9, k10, k11, -⟩ := hK
  refine ⟨Or.inr ⟨k4, e42, by rw [k5, r0], by rw [k6, r1], by rw [k7, r2], ?_, ?_⟩, vioN S T, k11, hl, hr, r41, rv⟩
  · rw [k9, r3]
    by_cases z : whyS S T = 5
    · rw [if_pos z]; exact why5 hr z
    · rw [if_neg z]
  · have hlen : (goS S T).length ≤ 40 := Nat.le_trans (List.length_filter_le _ _) hb
    have halt := goS_alt (T := T) hb
    have hmem : ∀ (i : Nat) (q : Int), (goS S T)[i]? = some q → 0 ≤ q ∧ q < 99 := fun i q h => by
      have := List.mem_of_getElem? h
      rw [halt] at this
      exact mem_rng.mp (List.mem_filter.mp this).1
    refine ⟨by rw [k7]; omega, by rw [k7]; omega, ?_, fun k k0 k1 => ?_, fun q q0 q1 hq => ?_⟩
    · have e1 : (rng 0 99).filter (fun q => decide (0 ≤ e 208 q)) = (rng 0 99).filter (fun q => decide (0 ≤ GS S T q)) := by
        refine List.filter_congr (fun q hq => ?_)
        rw [r8 q (mem_rng.mp hq).1 (mem_rng.mp hq).2]
      rw [e1, ← halt]
      refine List.ext_getElem? (fun i => ?_)
      rw [List.getElem?_map]
      by_cases y : i < (goS S T).length
      · have hg : (goS S T)[i]? = some (goS S T)[i] := List.getElem?_eq_getElem y
        have h1 := k8 i _ hg
        have hrg : (rng 0 (e 39 7))[i]? = some (i : Int) := by
          unfold rng
          rw [List.getElem?_map, List.getElem?_range (by rw [k7]; omega)]
          simp
        rw [hg, hrg]
        show some _ = some (e 46 i)
        rw [← h1.1]
        rfl
      · rw [List.getElem?_eq_none (by omega), List.getElem?_eq_none (by rw [rng_len, k7]; omega)]
        rfl
    · rw [k7] at k1
      have hy : k.toNat < (goS S T).length := by omega
      have hg : (goS S T)[k.toNat]? = some (goS S T)[k.toNat] := List.getElem?_eq_getElem hy
      have h1 := k8 k.toNat _ hg
      have hq := hmem _ _ hg
      rw [show ((k.toNat : Nat) : Int) = k by omega] at h1
      have h2 : e 46 k = (goS S T)[k.toNat] := h1.1
      have h3 : e 47 k = GS S T (goS S T)[k.toNat] := h1.2
      rw [h2, h3, r8 _ hq.1 hq.2]
    · rw [r8 q q0 q1] at hq ⊢
      rcases (GS_ok (T := T) hb q q0 q1).1 with z | z <;> omega
