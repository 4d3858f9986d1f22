/-! ===== specs ===== -/
theorem upf_2 {M : MM} {a b : Nat} : upf (upf M a (M a)) b (M b) = M := by
  rw [upf_eta, upf_eta]
theorem s_85 {d0 : Nat} (hd : 4 ≤ d0) {M : MM} {R : RR} (hL : Lay R) {t p d : Nat} {kd tl : Int} (hT : txOk M R t) (ht : (t : Int) < M 13 5) (ht6 : t < 6) (hp : (p : Int) < M 4 0) (hp7 : p < 7) (hdd : (d : Int) < M 2 0) (hd24 : d < 24) (hY : M 2 0 ≤ 24) (hk : 0 ≤ kd ∧ kd < 6) (htl : 0 ≤ tl ∧ tl < 24) (hmo : 0 ≤ M 6 p ∧ M 6 p ≤ 9) : ∃ f g, call d0 85 [vA 22, vI t, vI p, vI kd, vI tl, vI d] M R = some (vI (wgt kd (M 6 p) tl (M 2 0) d (lvw (segm M t 0) 0 d (M 3 d) (M 2 0) (M 6 p) tl p)), upf (upf M 15 f) 16 g, R) := by
  obtain ⟨e, rfl⟩ := s_le hd
  obtain ⟨f, g, q⟩ := s_6 (d0 := e + 3) (by omega) hL (part := 0) (told := tl) hT ht ht6 (by omega) hp hp7 hdd hd24
  have hv := @lvw_r (segm M t 0) 0 d (M 3 d) (M 2 0) (M 6 p) tl p
  rw [if_pos rfl] at hv
  have hm : Int.tmod (d : Int) 2 = ((d % 2 : Nat) : Int) := rfl
  rw [show ((0 : Nat) : Int) = 0 from rfl] at q
  generalize lvw (segm M t 0) 0 d (M 3 d) (M 2 0) (M 6 p) tl p = pl at q hv ⊢
  have hcall : ∀ (f' g' : Nat → Int), run (call (e + 3)) 85 0 [vA 22, vI t, vI p, vI kd, vI tl, vI d, vX 0, vX 0, vX 0] [] M R = some (vI (wgt kd (M 6 p) tl (M 2 0) d pl), upf (upf M 15 f') 16 g', R) → ∃ f g, call (e + 4) 85 [vA 22, vI t, vI p, vI kd, vI tl, vI d] M R = some (vI (wgt kd (M 6 p) tl (M 2 0) d pl), upf (upf M 15 f) 16 g, R) := fun f' g' h => ⟨f', g', call_of 9 [vA 22, vI t, vI p, vI kd, vI tl, vI d, vX 0, vX 0, vX 0] (by decide) rfl (Nat.le_of_ble_eq_true rfl) rfl h rfl⟩
  by_cases c5 : kd = 5
  · refine hcall (M 15) (M 16) ?_
    rw [upf_2, b_85_0 hL, if_pos (by omega), if_neg (by omega), b_85_16]
    unfold wgt
    rw [if_pos c5]
  by_cases c24 : kd = 2 ∨ kd = 4
  · refine hcall (M 15) (M 16) ?_
    rw [upf_2, b_85_0 hL, if_pos (by omega), if_pos (by omega), b_85_18, s_17 (by omega) _ _ hk, Option.bind_some, pushv_I, b_85_23, b2_t (by omega), if_neg (by decide), b_85_26 hL, w32_i (by omega), Int.toNat_natCast, b_85_40, b_85_47, w32_i (by omega)]
    simp only [b_85_48, b_85_55, b_85_62, b_85_74, b_85_81, b_85_85, b_85_86]
    unfold wgt
    rw [if_neg c5, if_pos c24, w32_i (by omega)]
    repeat' split
    all_goals first
      | rfl
      | (exfalso; omega)
  by_cases c3 : kd = 3 ∧ (d : Int) % 2 = 0
  · refine hcall (M 15) (M 16) ?_
    rw [upf_2, b_85_0 hL, if_pos (by omega), if_pos (by omega), b_85_18, s_17 (by omega) _ _ hk, Option.bind_some, pushv_I, b_85_23, b2_f (by omega), if_pos rfl, b_85_87, if_neg (by omega), b_85_92, if_pos (by decide), hm, if_neg (by omega), b_85_99]
    unfold wgt
    rw [if_neg c5, if_neg c24, if_pos c3]
  · refine hcall f g ?_
    have hlast : run (call (e + 3)) 85 101 [vA 22, vI t, vI p, vI kd, vI tl, vI d, vI (M 6 p), vX 0, vX 0] [] M R = some (vI (wgt kd (M 6 p) tl (M 2 0) d pl), upf (upf M 15 f) 16 g, R) := by
      rw [b_85_101 hL, q, Option.bind_some, pushv_I]
      dsimp only
      rw [b_85_115, s_17 (by omega) _ _ hk, Option.bind_some, pushv_I]
      dsimp only
      rw [b_85_122]
      by_cases c13 : kd = 1 ∨ kd = 3
      · rw [b2_t (by omega), if_neg (by decide), b_85_125 hL, upf_n (by decide), upf_n (by decide), w32_i (x := 2 * (d : Int)) (by omega)]
        by_cases c2 : 2 * (d : Int) < M 2 0
        · rw [if_neg (by omega), b_85_139, b_85_144, if_neg (by decide), b_85_151, b_85_166, w32_i (by omega)]
          unfold wgt
          rw [if_neg c5, if_neg c24, if_neg c3, if_pos ⟨c13, c2⟩]
        · rw [if_pos (by omega), b_85_143, b_85_144, if_pos rfl, b_85_164, b_85_166]
          unfold wgt
          rw [if_neg c5, if_neg c24, if_neg c3, if_neg (fun h => c2 h.2)]
      · rw [b2_f (by omega), if_pos rfl, b_85_143, b_85_144, if_pos rfl, b_85_164, b_85_166]
        unfold wgt
        rw [if_neg c5, if_neg c24, if_neg c3, if_neg (fun h => c13 h.1)]
    rw [b_85_0 hL, if_pos (by omega), if_pos (by omega), b_85_18, s_17 (by omega) _ _ hk, Option.bind_some, pushv_I, b_85_23, b2_f (by omega), if_pos rfl, b_85_87, Int.toNat_natCast]
    by_cases c33 : kd = 3
    · rw [if_neg (by omega), b_85_92, if_pos (by decide), hm, if_pos (by omega), hlast]
    · rw [if_pos (by omega), hlast]
theorem s_192 {d0 : Nat} (hd : 4 ≤ d0) {M : MM} {R : RR} (hL : Lay R) {t p d : Nat} (hT : txOk M R t) (ht : M 57 11 = (t : Int)) (ht6 : t < 6) (hp7 : p < 7) (hd24 : (d : Int) < M 57 0) (hY : M 57 0 ≤ 24) (hk : 0 ≤ M 59 p ∧ M 59 p < 6) (htl : 0 ≤ M 61 p ∧ M 61 p < M 57 0) (hmo : 0 ≤ M 60 p ∧ M 60 p ≤ 9) : ∃ f g, call d0 192 [vA 57, vI p, vI d] M R = some (vI (wgt (M 59 p) (M 60 p) (M 61 p) (M 57 0) d (lvw (segm M t 0) 0 d (M 58 d) (M 57 0) (M 60 p) (M 61 p) p)), upf (upf M 73 f) 72 g, R) := by
  obtain ⟨e, rfl⟩ := s_le hd
  obtain ⟨f, g, q⟩ := s_188 (d0 := e + 3) (by omega) hL (part := 0) hT ht ht6 (by omega) hp7 (by omega : d < 24)
  have hv := @lvw_r (segm M t 0) 0 d (M 58 d) (M 57 0) (M 60 p) (M 61 p) p
  rw [if_pos rfl] at hv
  have hm : Int.tmod (d : Int) 2 = ((d % 2 : Nat) : Int) := rfl
  rw [show ((0 : Nat) : Int) = 0 from rfl] at q
  generalize lvw (segm M t 0) 0 d (M 58 d) (M 57 0) (M 60 p) (M 61 p) p = pl at q hv ⊢
  refine ⟨f, g, ?_⟩
  refine call_of 8 [vA 57, vI p, vI d, vX 0, vX 0, vX 0, vX 0, vX 0] (by decide) rfl (Nat.le_of_ble_eq_true rfl) rfl ?_ rfl
  have u1 : ∀ o, o ≠ 72 → o ≠ 73 → upf (upf M 73 f) 72 g o = M o := by intro o h1 h2; rw [upf_n h1, upf_n h2]
  have u57 := u1 57 (by decide) (by decide)
  have u61 := u1 61 (by decide) (by decide)
  have htm : Int.tmod (M 61 p + 1) (M 57 0) = if M 61 p + 1 < M 57 0 then M 61 p + 1 else 0 := by
    split
    · rw [Int.tmod_eq_emod_of_nonneg (by omega), Int.emod_eq_of_lt (by omega) (by omega)]
    · rw [show M 61 p + 1 = M 57 0 by omega, Int.tmod_self]
  have fin : ∀ sp t0 v w : Int, (if v < 0 then 0 else if 9 < v then 9 else v) = w → run (call (e + 3)) 192 168 [vA 57, vI p, vI d, vI (M 59 p), vI (M 60 p), vI v, vI sp, vI t0] [] (upf (upf M 73 f) 72 g) R = some (vI w, upf (upf M 73 f) 72 g, R) := by
    intro sp t0 v w h
    rw [b_192_168, s_163 (by omega), Option.bind_some, pushv_I, b_192_176, h]
  have mid : ∀ sp t0 : Int, ((2 * (d : Int) < M 57 0 ∧ sp = pl + M 60 p) ∨ (¬ 2 * (d : Int) < M 57 0 ∧ sp = pl)) → (((d : Int) = M 61 p ∧ t0 = 1) ∨ (¬ (d : Int) = M 61 p ∧ t0 = 0)) → run (call (e + 3)) 192 64 [vA 57, vI p, vI d, vI (M 59 p), vI (M 60 p), vI pl, vI sp, vI t0] [vI (M 59 p)] (upf (upf M 73 f) 72 g) R = some (vI (wgt (M 59 p) (M 60 p) (M 61 p) (M 57 0) d pl), upf (upf M 73 f) 72 g, R) := by
    intro sp t0 hsp ht0
    rw [b_192_64]
    rcases (by omega : M 59 p = 0 ∨ M 59 p = 1 ∨ M 59 p = 2 ∨ M 59 p = 3 ∨ M 59 p = 4 ∨ M 59 p = 5) with h | h | h | h | h | h
    · rw [if_neg (by omega), if_neg (by omega), if_neg (by omega), if_neg (by omega), if_neg (by omega)]
      refine fin _ _ _ _ ?_
      unfold wgt
      repeat' split
      all_goals omega
    · rw [if_pos h, b_192_100]
      refine fin _ _ _ _ ?_
      unfold wgt
      repeat' split
      all_goals omega
    · rw [if_neg (by omega), if_pos h, b_192_107]
      refine fin _ _ _ _ ?_
      unfold wgt
      repeat' split
      all_goals omega
    · rw [if_neg (by omega), if_neg (by omega), if_pos h, b_192_114, if_pos (by decide), hm]
      by_cases c0 : d % 2 = 0
      · rw [if_neg (by omega), b_192_120, b_192_126]
        refine fin _ _ _ _ ?_
        unfold wgt
        repeat' split
        all_goals omega
      · rw [if_pos (by omega), b_192_124, b_192_126]
        refine fin _ _ _ _ ?_
        unfold wgt
        repeat' split
        all_goals omega
    · rw [if_neg (by omega), if_neg (by omega), if_neg (by omega), if_pos h, b_192_131 hL, if_pos (by omega), u57, u61, if_pos (by omega), Int.toNat_natCast, w32_i (x := M 61 p + 1) (by omega), htm]
      by_cases c : (d : Int) = (if M 61 p + 1 < M 57 0 then M 61 p + 1 else 0)
      · rw [if_neg (fun h => h c), b_192_148, b_192_157, w32_i (by omega)]
        refine fin _ _ _ _ ?_
        unfold wgt
        rw [if_neg (by omega : ¬ M 59 p = 5), if_pos (Or.inr h : M 59 p = 2 ∨ M 59 p = 4), if_pos (And.intro h c)]
        repeat' split
        all_goals omega
      · rw [if_pos c, b_192_155, b_192_157]
        refine fin _ _ _ _ ?_
        unfold wgt
        rw [if_neg (by omega : ¬ M 59 p = 5), if_pos (Or.inr h : M 59 p = 2 ∨ M 59 p = 4), if_neg (fun h => c h.2 : ¬ (M 59 p = 4 ∧ (d : Int) = (if M 61 p + 1 < M 57 0 then M 61 p + 1 else 0)))]
        repeat' split
        all_goals omega
    · rw [if_neg (by omega), if_neg (by omega), if_neg (by omega), if_neg (by omega), if_pos h, b_192_162]
      refine fin _ _ _ _ ?_
      unfold wgt
      rw [if_pos h]
      decide
  rw [b_192_0 hL, if_pos (by omega), if_pos (by omega), q, Option.bind_some, pushv_I, Int.toNat_natCast]
  dsimp only
  rw [b_192_22, u57, w32_i (x := 2 * (d : Int)) (by omega), b_192_34, b_192_42, w32_i (by omega)]
  by_cases c : 2 * (d : Int) < M 57 0
  · rw [if_neg (by omega), b_192_44 hL, if_pos (by omega), u61, Int.toNat_natCast]
    by_cases c' : (d : Int) = M 61 p
    · rw [if_neg (by omega), b_192_56, b_192_61]
      exact mid _ _ (.inl ⟨c, rfl⟩) (.inl ⟨c', rfl⟩)
    · rw [if_pos (by omega), b_192_60, b_192_61]
      exact mid _ _ (.inl ⟨c, rfl⟩) (.inr ⟨c', rfl⟩)
  · rw [if_pos (by omega), b_192_44 hL, if_pos (by omega), u61, Int.toNat_natCast]
    by_cases c' : (d : Int) = M 61 p
    · rw [if_neg (by omega), b_192_56, b_192_61]
      exact mid _ _ (.inr ⟨c, rfl⟩) (.inl ⟨c', rfl⟩)
    · rw [if_pos (by omega), b_192_60, b_192_61]
      exact mid _ _ (.inr ⟨c, rfl⟩) (.inr ⟨c', rfl⟩)
