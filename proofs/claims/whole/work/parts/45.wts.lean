/-! ===== specs ===== -/
theorem loop_nat {α β : Type} (g : Nat → α → β) (I : Nat → α → Prop) : ∀ n : Nat, (∀ i a, i < n → I i a → ∃ a', I (i + 1) a' ∧ g i a = g (i + 1) a') → ∀ a, I 0 a → ∃ a', I n a' ∧ g 0 a = g n a'
  | 0, _, a, h => ⟨a, h, rfl⟩
  | n + 1, hs, a, h => by
    obtain ⟨b, hb, e⟩ := loop_nat g I n (fun i a hi => hs i a (Nat.lt_succ_of_lt hi)) a h
    obtain ⟨c, hc, e'⟩ := hs n b (Nat.lt_succ_self n) hb
    exact ⟨c, hc, e.trans e'⟩
/-- only these objects may have changed -/
def Fx (S : List Nat) (M M' : MM) : Prop := ∀ o, o ∉ S → M' o = M o
theorem Fx_r {S : List Nat} {M : MM} : Fx S M M := fun _ _ => rfl
theorem Fx_t {S : List Nat} {M M' M'' : MM} (h : Fx S M M') (h' : Fx S M' M'') : Fx S M M'' := fun o ho => (h' o ho).trans (h o ho)
theorem Fx_s {S S' : List Nat} {M M' : MM} (h : Fx S M M') (hs : ∀ o ∈ S, o ∈ S') : Fx S' M M' := fun o ho => h o (fun h' => ho (hs o h'))
theorem Fx_u {S : List Nat} {M : MM} {o : Nat} {f : Nat → Int} (h : o ∈ S) : Fx S M (upf M o f) := fun o' ho => upf_n (by intro e; exact ho (e ▸ h))
theorem Fx_p {S : List Nat} {M : MM} {o i : Nat} {v : Int} (h : o ∈ S) : Fx S M (up M o i v) := fun o' ho => up_o (by intro e; exact ho (e ▸ h))
/-- what the first n are together -/
def sm (f : Nat → Int) : Nat → Int
  | 0 => 0
  | n + 1 => sm f n + f n
theorem sm_c {f f' : Nat → Int} : ∀ n, (∀ i, i < n → f i = f' i) → sm f n = sm f' n
  | 0, _ => rfl
  | n + 1, h => by
    show sm f n + f n = sm f' n + f' n
    rw [sm_c n (fun i hi => h i (by omega)), h n (by omega)]
theorem sm_r {f : Nat → Int} {b : Int} : ∀ n : Nat, (∀ i, i < n → 0 ≤ f i ∧ f i ≤ b) → 0 ≤ sm f n ∧ sm f n ≤ n * b
  | 0, _ => ⟨Int.le_refl 0, by show (0 : Int) ≤ ((0 : Nat) : Int) * b; rw [Int.natCast_zero, Int.zero_mul]; exact Int.le_refl 0⟩
  | n + 1, h => by
    have a := sm_r n (fun i hi => h i (by omega))
    have c := h n (by omega)
    show 0 ≤ sm f n + f n ∧ sm f n + f n ≤ ((n + 1 : Nat) : Int) * b
    rw [Int.natCast_add, Int.add_mul]
    omega
/-- the texts lie where no question writes -/
theorem txOk_f {M M' : MM} {R : RR} {t : Nat} (h : ∀ o, o = 20 ∨ o = 21 ∨ o = 63 ∨ o = 64 ∨ 83 ≤ o → M' o = M o) (hT : txOk M R t) : txOk M' R t := by
  obtain ⟨T, co, en, L, s, r1, r2, r3, r4, r5, r6, r7, r8, r9, r10, r11, r12, m1, m2, m3, r13, r14, r15⟩ := hT
  have h63 := h 63 (by omega)
  have h64 := h 64 (by omega)
  have hco := h co (by omega)
  have hen := h en (by omega)
  refine ⟨T, co, en, L, s, r1, r2, r3, r4, r5, r6, r7, r8, r9, r10, r11, r12, m1, m2, m3, ?_, ?_, ?_⟩
  · rw [hen, h64]; exact r13
  · rw [hco, h63]; exact r14
  · unfold segm
    rw [h63, h64]
    exact r15
/-- WEIGHT as the class tells it -/
def Wx (M : MM) (p d : Nat) : Int := wgt (M 5 p) (M 6 p) (M 7 p) (M 2 0) d (lvw (segm M (M 13 6).toNat 0) 0 d (M 3 d) (M 2 0) (M 6 p) (M 7 p) p)
theorem Wx_f {M M' : MM} (h : ∀ o, o ∈ [2, 3, 5, 6, 7, 13, 63, 64] → M' o = M o) : Wx M' = Wx M := by
  funext p d
  unfold Wx segm
  rw [h 2 (by decide), h 3 (by decide), h 5 (by decide), h 6 (by decide), h 7 (by decide), h 13 (by decide), h 63 (by decide), h 64 (by decide)]
/-- the class, where its weights can be told: so many PEOPLE, DAYS, and THE LAW -/
def XW (M : MM) (R : RR) (P Y t : Nat) : Prop := M 4 0 = (P : Int) ∧ P ≤ 7 ∧ M 2 0 = (Y : Int) ∧ 1 ≤ Y ∧ Y ≤ 24 ∧ M 13 6 = (t : Int) ∧ (t : Int) < M 13 5 ∧ t < 6 ∧ txOk M R t ∧ ∀ p, p < P → (0 ≤ M 5 p ∧ M 5 p < 6) ∧ (0 ≤ M 6 p ∧ M 6 p ≤ 9) ∧ (0 ≤ M 7 p ∧ M 7 p < (Y : Int))
def clsO : List Nat := [15, 16, 23, 24, 25, 26, 27, 28, 29, 30, 31, 32, 33, 34, 35, 36, 37, 38, 39, 40, 41, 42, 43, 44]
theorem clsO_n {o : Nat} (h : o ≤ 14 ∨ (17 ≤ o ∧ o ≤ 21) ∨ 45 ≤ o) : o ∉ clsO := by
  intro e
  simp only [clsO, List.mem_cons, List.not_mem_nil, or_false] at e
  omega
theorem XW_f {M M' : MM} {R : RR} {P Y t : Nat} (h : Fx clsO M M') (hX : XW M R P Y t) : XW M' R P Y t := by
  obtain ⟨h1, h2, h3, h4, h5, h6, h7, h8, h9, h10⟩ := hX
  have g := fun o (ho : o ≤ 14 ∨ (17 ≤ o ∧ o ≤ 21) ∨ 45 ≤ o) => h o (clsO_n ho)
  refine ⟨by rw [g 4 (by omega)]; exact h1, h2, by rw [g 2 (by omega)]; exact h3, h4, h5, by rw [g 13 (by omega)]; exact h6, by rw [g 13 (by omega)]; exact h7, h8, txOk_f (fun o ho => g o (by omega)) h9, ?_⟩
  rw [g 5 (by omega), g 6 (by omega), g 7 (by omega)]
  exact h10
theorem Wx_x {M M' : MM} (h : Fx clsO M M') : Wx M' = Wx M := Wx_f (fun o ho => h o (clsO_n (by
  simp only [List.mem_cons, List.not_mem_nil, or_false] at ho
  omega)))
theorem wgt_r {kd mo tl y d pl : Int} (hm : 0 ≤ mo) (hp : 0 ≤ pl ∧ pl ≤ 9) : 0 ≤ wgt kd mo tl y d pl ∧ wgt kd mo tl y d pl ≤ 9 := by
  unfold wgt
  repeat' split
  all_goals omega
theorem Wx_r {M : MM} {R : RR} {P Y t p d : Nat} (hX : XW M R P Y t) (hp : p < P) : 0 ≤ Wx M p d ∧ Wx M p d ≤ 9 := by
  obtain ⟨h1, h2, h3, h4, h5, h6, h7, h8, h9, h10⟩ := hX
  have q := @lvw_r (segm M (M 13 6).toNat 0) 0 d (M 3 d) (M 2 0) (M 6 p) (M 7 p) p
  rw [if_pos rfl] at q
  exact wgt_r (h10 p hp).2.1.1 q
/-- one's weights, day by day -/
theorem t_80 {e : Nat} (he : 4 ≤ e) {M : MM} {R : RR} (hL : Lay R) {P Y t p : Nat} (hX : XW M R P Y t) (hp : p < P) (u : AV) (M0 : MM) (h0 : Fx [15, 16, 23, 24, 25] M M0) (h1 : M0 24 p = 0) : ∃ (u' : AV) (M1 : MM), run (call e) 80 34 [vA 22, vI p, vI 0, u] [] M0 R = run (call e) 80 34 [vA 22, vI p, vI Y, u'] [] M1 R ∧ Fx [15, 16, 23, 24] M0 M1 ∧ (∀ d, d < Y → M1 23 (24 * p + d) = Wx M p d) ∧ M1 24 p = sm (Wx M p) Y ∧ (∀ j, ¬ (24 * p ≤ j ∧ j < 24 * p + 24) → M1 23 j = M0 23 j) ∧ (∀ j, ¬ j = p → M1 24 j = M0 24 j) := by
  have hXs := hX
  obtain ⟨hP, hP7, hY, hY1, hY2, ht, ht5, ht6, hT, hr⟩ := hXs
  have key := loop_nat (fun d (a : AV × MM) => run (call e) 80 34 [vA 22, vI p, vI d, a.1] [] a.2 R) (fun i a => Fx [15, 16, 23, 24] M0 a.2 ∧ (∀ d, d < i → a.2 23 (24 * p + d) = Wx M p d) ∧ a.2 24 p = sm (Wx M p) i ∧ (∀ j, ¬ (24 * p ≤ j ∧ j < 24 * p + 24) → a.2 23 j = M0 23 j) ∧ (∀ j, ¬ j = p → a.2 24 j = M0 24 j)) Y ?_ (u, M0) ?_
  · obtain ⟨⟨u', M1⟩, hI, hq⟩ := key
    exact ⟨u', M1, hq, hI⟩
  · rintro d ⟨v, M1⟩ hd ⟨a1, a2, a3, a4, a5⟩
    dsimp only at a1 a2 a3 a4 a5
    have aF : Fx clsO M M1 := Fx_t (Fx_s h0 (by decide)) (Fx_s a1 (by decide))
    have hX1 := XW_f aF hX
    obtain ⟨gP, _, gY, _, _, gt, gt5, _, gT, gr⟩ := hX1
    have hW := Wx_x aF
    obtain ⟨f, g, q⟩ := s_85 (d0 := e) he (M := M1) hL (t := t) (p := p) (d := d) (kd := M1 5 p) (tl := M1 7 p) gT gt5 ht6 (by omega) (by omega) (by omega) (by omega) (by omega) (gr p hp).1 (by have := (gr p hp).2.2; omega) (gr p hp).2.1
    have hw : wgt (M1 5 p) (M1 6 p) (M1 7 p) (M1 2 0) d (lvw (segm M1 t 0) 0 d (M1 3 d) (M1 2 0) (M1 6 p) (M1 7 p) p) = Wx M p d := by
      rw [← hW]
      unfold Wx
      rw [gt, Int.toNat_natCast]
    have hwr := Wx_r (d := d) hX hp
    have hsr := sm_r (f := Wx M p) (b := 9) d (fun i _ => Wx_r hX hp)
    rw [hw] at q
    have ei : w32 (w32 ((p : Int) * 24) + (d : Int)) = ((24 * p + d : Nat) : Int) := by
      simp (disch := omega) only [w32_i]; omega
    have ed : w32 ((d : Int) + 1) = ((d + 1 : Nat) : Int) := by rw [w32_i (by omega)]; omega
    refine ⟨(vI (Wx M p d), up (up (upf (upf M1 15 f) 16 g) 23 (24 * p + d) (Wx M p d)) 24 p (sm (Wx M p) (d + 1))), ⟨?_, ?_, ?_, ?_, ?_⟩, ?_⟩
    · exact Fx_t a1 (Fx_t (Fx_t (Fx_t (Fx_u (by decide)) (Fx_u (by decide))) (Fx_p (by decide))) (Fx_p (by decide)))
    · intro d' hd'
      dsimp only
      rw [up_o (by decide)]
      by_cases h : d' = d
      · subst h; rw [up_s]
      · rw [up_i (by omega), upf_n (by decide), upf_n (by decide)]; exact a2 d' (by omega)
    · dsimp only
      rw [up_s]
    · intro j hj
      dsimp only
      rw [up_o (by decide), up_i (by omega), upf_n (by decide), upf_n (by decide)]; exact a4 j hj
    · intro j hj
      dsimp only
      rw [up_i hj, up_o (by decide), upf_n (by decide), upf_n (by decide)]; exact a5 j hj
    · show run (call e) 80 34 [vA 22, vI p, vI d, v] [] M1 R = _
      rw [b_80_34 hL, gY, if_neg (by omega), b_80_45 hL, if_pos (by omega), if_pos (by omega), gt, Int.toNat_natCast, q, Option.bind_some, pushv_I]
      dsimp only
      rw [b_80_76 hL, ei, if_pos (by omega), if_pos (by omega), if_pos (by omega), ed, Int.toNat_natCast, Int.toNat_natCast, up_o (o' := 24) (by decide), upf_n (by decide), upf_n (by decide), a3, w32_i (by omega)]
      rfl
  · exact ⟨Fx_r, fun d hd => absurd hd (by omega), h1, fun _ _ => rfl, fun _ _ => rfl⟩
/-- what is kept of the weights is right for each whose mark is set -/
def CW (M : MM) (P Y : Nat) : Prop := ∀ p, p < P → ¬ M 25 p = 0 → (∀ d, d < Y → M 23 (24 * p + d) = Wx M p d) ∧ M 24 p = sm (Wx M p) Y
theorem s_80 {d0 : Nat} (hd : 5 ≤ d0) {M : MM} {R : RR} (hL : Lay R) {P Y t : Nat} (hX : XW M R P Y t) (hC : CW M P Y) : ∃ M', call d0 80 [vA 22] M R = some (vX 0, M', R) ∧ Fx [15, 16, 23, 24, 25] M M' ∧ (∀ p, p < P → M' 25 p ≠ 0 ∧ (∀ d, d < Y → M' 23 (24 * p + d) = Wx M p d) ∧ M' 24 p = sm (Wx M p) Y) ∧ ∀ p, P ≤ p → M' 25 p = M 25 p := by
  obtain ⟨e, rfl⟩ := s_le hd
  have hXs := hX
  obtain ⟨hP, hP7, hY, hY1, hY2, ht, ht5, ht6, hT, hr⟩ := hXs
  have key := loop_nat (fun p (a : (AV × AV) × MM) => run (call (e + 4)) 80 2 [vA 22, vI p, a.1.1, a.1.2] [] a.2 R) (fun i a => Fx [15, 16, 23, 24, 25] M a.2 ∧ (∀ p, p < i → a.2 25 p ≠ 0 ∧ (∀ d, d < Y → a.2 23 (24 * p + d) = Wx M p d) ∧ a.2 24 p = sm (Wx M p) Y) ∧ (∀ p, i ≤ p → a.2 25 p = M 25 p ∧ a.2 24 p = M 24 p ∧ ∀ d, d < 24 → a.2 23 (24 * p + d) = M 23 (24 * p + d))) P ?_ ((vX 0, vX 0), M) ?_
  · obtain ⟨⟨⟨u, u'⟩, M1⟩, ⟨a1, a2, a3⟩, hq⟩ := key
    refine ⟨M1, ?_, a1, a2, fun p hp => (a3 p hp).1⟩
    refine call_of 4 [vA 22, vX 0, vX 0, vX 0] (by decide) rfl (Nat.le_of_ble_eq_true rfl) rfl ?_ rfl
    rw [b_80_0]
    refine hq.trans ?_
    dsimp only at a1 ⊢
    rw [b_80_2 hL, a1 4 (by decide), hP, if_pos (by omega), b_80_118]
  · rintro p ⟨⟨u, u'⟩, M1⟩ hp ⟨a1, a2, a3⟩
    dsimp only at a1 a2 a3
    have e1 : w32 ((p : Int) + 1) = ((p + 1 : Nat) : Int) := by rw [w32_i (by omega)]; omega
    have b3 := a3 p (Nat.le_refl p)
    by_cases hz : M 25 p = 0
    · obtain ⟨w, M2, q, c1, c2, c3, c4, c5⟩ := t_80 (e := e + 4) (by omega) hL hX hp u' (up M1 24 p 0) (Fx_t a1 (Fx_p (by decide))) up_s
      have cF : Fx [15, 16, 23, 24, 25] M M2 := Fx_t (Fx_t a1 (Fx_p (by decide))) (Fx_s c1 (by decide))
      refine ⟨((vI Y, w), up M2 25 p 1), ⟨?_, ?_, ?_⟩, ?_⟩
      · exact Fx_t cF (Fx_p (by decide))
      · intro p' hp'
        dsimp only
        rw [up_o (o' := 23) (by decide), up_o (o' := 24) (by decide)]
        by_cases h : p' = p
        · subst h
          rw [up_s]
          exact ⟨by decide, c2, c3⟩
        · have b2' := a2 p' (by omega)
          rw [up_i h, c1 25 (by decide), up_o (by decide), c5 p' h, up_i h]
          refine ⟨b2'.1, ?_, b2'.2.2⟩
          intro d hd
          rw [c4 _ (by omega), up_o (by decide)]
          exact b2'.2.1 d hd
      · intro p' hp'
        have b2' := a3 p' (by omega)
        dsimp only
        rw [up_o (o' := 23) (by decide), up_o (o' := 24) (by decide), up_i (by omega), c1 25 (by decide), up_o (by decide), c5 p' (by omega), up_i (by omega)]
        refine ⟨b2'.1, b2'.2.1, ?_⟩
        intro d hd
        rw [c4 _ (by omega), up_o (by decide)]
        exact b2'.2.2 d hd
      · show run (call (e + 4)) 80 2 [vA 22, vI p, u, u'] [] M1 R = run (call (e + 4)) 80 2 [vA 22, vI ((p + 1 : Nat) : Int), vI Y, w] [] (up M2 25 p 1) R
        rw [b_80_2 hL, a1 4 (by decide), hP, if_neg (by omega), b_80_13 hL, if_pos (by omega), Int.toNat_natCast, b3.1, if_pos hz, b_80_25 hL, if_pos (by omega), Int.toNat_natCast]
        refine q.trans ?_
        rw [b_80_34 hL, cF 2 (by decide), hY, if_pos (by omega), b_80_105 hL, if_pos (by omega), b_80_112, e1, Int.toNat_natCast]
    · have hCp := hC p hp hz
      refine ⟨((u, u'), M1), ⟨a1, ?_, fun p' hp' => a3 p' (by omega)⟩, ?_⟩
      · intro p' hp'
        by_cases h : p' = p
        · subst h
          dsimp only
          rw [b3.1, b3.2.1]
          exact ⟨hz, fun d hd => (b3.2.2 d (by omega)).trans (hCp.1 d hd), hCp.2⟩
        · exact a2 p' (by omega)
      · show run (call (e + 4)) 80 2 [vA 22, vI p, u, u'] [] M1 R = run (call (e + 4)) 80 2 [vA 22, vI ((p + 1 : Nat) : Int), u, u'] [] M1 R
        rw [b_80_2 hL, a1 4 (by decide), hP, if_neg (by omega), b_80_13 hL, if_pos (by omega), Int.toNat_natCast, b3.1, if_neg hz, b_80_22, b_80_112, e1]
  · exact ⟨Fx_r, fun p hp => absurd hp (by omega), fun _ _ => ⟨rfl, rfl, fun _ _ => rfl⟩⟩
