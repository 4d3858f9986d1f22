section
/-! ===== the reference reads a TEXT ===== -/
def mH (T : Nat) (M M' : MM) : Prop := Fx [57, 63, 64, 71] M M' ∧ (∀ i, ¬ (21 ≤ i ∧ i ≤ 29) → M' 57 i = M 57 i) ∧ ∀ k, k < 200 * T → M' 63 k = M 63 k
theorem mH_t {T : Nat} {M M' M'' : MM} (h : mH T M M') (h' : mH T M' M'') : mH T M M'' := ⟨Fx_t h.1 h'.1, fun i hi => (h'.2.1 i hi).trans (h.2.1 i hi), fun k hk => (h'.2.2 k hk).trans (h.2.2 k hk)⟩
theorem mH_F {T : Nat} {M M' : MM} (h : mF 21 T M M') : mH T M M' := ⟨Fx_s h.1 (by decide), h.2.1, h.2.2⟩
theorem mH_6 {T i : Nat} {M : MM} {v : Int} : mH T M (up M 64 i v) := ⟨Fx_p (by decide), fun j _ => by rw [up_o (by decide)], fun k _ => by rw [up_o (by decide)]⟩
theorem mB_h {B : Nat → Int} {Z T : Nat} {M M' : MM} (h : mB B Z M) (F : mH T M M') : mB B Z M' := by
  obtain ⟨h1, h2, h3⟩ := h
  exact ⟨⟨h1.1, fun i hi => by rw [F.1 62 (by decide)]; exact h1.2 i hi⟩, fun i hi => by rw [F.1 70 (by decide)]; exact h2 i hi, by rw [F.2.1 7 (by omega)]; exact h3⟩
theorem mK_3 {k : Int} (hr : (0 ≤ k ∧ k ≤ 9) ∨ 40 ≤ k) : mK k = 3 ↔ (k = 4 ∨ k = 5 ∨ k = 6) := by
  unfold mK
  constructor
  · intro h
    (repeat' split at h) <;> omega
  · intro h
    rcases h with h | h | h <;> subst h <;> decide
theorem mK_0 {k : Int} (hr : (0 ≤ k ∧ k ≤ 9) ∨ 40 ≤ k) : mK k = 0 ↔ k = 0 := by
  unfold mK
  constructor
  · intro h
    (repeat' split at h) <;> omega
  · intro h
    subst h
    decide
theorem m_part {e : Nat} (he : 4 ≤ e) {N : MM} {R : RR} (hL : Lay R) {B : Nat → Int} {Z T j q : Nat} {o : List Int} (hZ : Z ≤ 160) (hj : j < 3) (hq : q ≤ Z) (hB : mB B Z N) (h10 : N 57 10 = (T : Int)) (hT : T < 6) (h21 : N 57 21 = (q : Int)) (h29 : N 57 29 = (o.length : Int)) (hs : seg (fun k => N 63 (200 * T + k)) 0 o) (hlen : o.length ≤ q) :
    (∃ (N' : MM) (q' : Nat) (o' : List Int), run (call e) 184 26 [vA 57, vI 1, vI j] [] N R = run (call e) 184 26 [vA 57, vI 1, vI ((j + 1 : Nat) : Int)] [] N' R ∧ PR B Z j q o = .inr (q', o') ∧ mH T N N' ∧ N' 57 21 = (q' : Int) ∧ q' ≤ Z ∧ o'.length ≤ q' ∧ N' 57 29 = (o'.length : Int) ∧ seg (fun k => N' 63 (200 * T + k)) 0 o' ∧ N' 64 (4 * T + j) = (o.length : Int) ∧ ∀ k, ¬ k = 4 * T + j → N' 64 k = N 64 k) ∨
    (∃ (N' : MM) (f : Nat), run (call e) 184 26 [vA 57, vI 1, vI j] [] N R = run (call e) 184 101 [vA 57, vI 0, vI ((j + 1 : Nat) : Int)] [] N' R ∧ PR B Z j q o = .inl f ∧ mH T N N' ∧ N' 57 22 = (f : Int) ∧ ∀ k, ¬ k = 4 * T + j → N' 64 k = N 64 k) := by
  have e1 : w32 ((j : Int) + 1) = ((j + 1 : Nat) : Int) := by rw [w32_i (by omega)]; omega
  have e2 : w32 (w32 (4 * (T : Int)) + (j : Int)) = ((4 * T + j : Nat) : Int) := by
    simp (disch := omega) only [w32_i]; omega
  obtain ⟨N1, r1, F1, m0, m21, m22, m23, m24, m24'⟩ := s_175 (d0 := e) (by omega) hL hB.1 hB.2.1 hB.2.2 h21 hq
  have hb := tk_b B hq
  have hr := tk_r B hq
  have G1 : mF 21 T N N1 := ⟨Fx_s F1 (by decide), fun i hi => m0 i (by omega) (by omega) (by omega) (by omega), fun k _ => by rw [F1 63 (by decide)]⟩
  have n10 : N1 57 10 = (T : Int) := by rw [G1.2.1 10 (by omega)]; exact h10
  have n29 : N1 57 29 = (o.length : Int) := by rw [m0 29 (by decide) (by decide) (by decide) (by decide)]; exact h29
  obtain ⟨N2, hN2⟩ : ∃ N2, N2 = up N1 64 (4 * T + j) (o.length : Int) := ⟨_, rfl⟩
  have G2 : mH T N N2 := by rw [hN2]; exact mH_t (mH_F G1) mH_6
  have s2 : ∀ k, ¬ k = 4 * T + j → N2 64 k = N 64 k := fun k hk => by rw [hN2, up_i hk, F1 64 (by decide)]
  have t2 : N2 64 (4 * T + j) = (o.length : Int) := by rw [hN2, up_s]
  have go60 : ∀ b : Int, run (call e) 184 60 [vA 57, vI 1, vI j] [vI b] N1 R = if b = 0 then run (call e) 184 93 [vA 57, vI b, vI j] [] N2 R else run (call e) 184 82 [vA 57, vI b, vI j] [] N2 R := by
    intro b
    rw [b_184_60 hL, n10, e2, if_pos (by omega), Int.toNat_natCast, n29, ← hN2]
  have back : ∀ (x : Int) (N' : MM), run (call e) 184 93 [vA 57, vI x, vI j] [] N' R = run (call e) 184 101 [vA 57, vI 0, vI ((j + 1 : Nat) : Int)] [] N' R := by
    intro x N'
    rw [b_184_93, b_184_94, e1, b_184_26]
    by_cases g : (3 : Int) ≤ ((j + 1 : Nat) : Int)
    · rw [if_pos g]
    · rw [if_neg g, b_184_31, if_pos rfl]
  have go39 : run (call e) 184 26 [vA 57, vI 1, vI j] [] N R = run (call e) 184 39 [vA 57, vI 1, vI j] [] N1 R := by
    rw [b_184_26, if_neg (by omega), b_184_31, if_neg (by decide), b_184_35, r1, bsX]
  have mk3 := mK_3 hr
  by_cases ht : tkK B Z q = 4 + (j : Int)
  · have lt := tk_lt (B := B) hq (by omega)
    have hPR : PR B Z j q o = YR B Z (tkE B Z q) true true [] o := if_pos ht
    have k3 : N1 57 23 = 3 := by rw [m23]; exact mk3.2 (by omega)
    have k4 : N1 57 24 = (j : Int) := by rw [m24' (by omega), ht]; omega
    have go82 : run (call e) 184 26 [vA 57, vI 1, vI j] [] N R = run (call e) 184 82 [vA 57, vI 1, vI j] [] N2 R := by
      rw [go39, b_184_39, k3, if_neg (by decide), b_184_47, k4, if_neg (not_not_intro rfl), b_184_55, go60, if_neg (by decide)]
    have seg2 : seg (fun k => N2 63 (200 * T + k)) 0 o := by
      refine seg_c (fun i _ _ => ?_) hs
      show N2 63 (200 * T + i) = N 63 (200 * T + i)
      rw [hN2, up_o (by decide), F1 63 (by decide)]
    rcases s_183 (d0 := e) he hL hZ hb.2.2.2.1 (mB_h hB G2) (by rw [G2.2.1 10 (by omega)]; exact h10) hT (by rw [hN2, up_o (by decide)]; exact m21) (by rw [hN2, up_o (by decide)]; exact n29) seg2 (by omega) with ⟨N3, q', o', r3, y3, F3, p21, l1, l2, l3, p29, sg⟩ | ⟨N3, f, r3, y3, F3, p22⟩
    · refine .inl ⟨N3, q', o', ?_, by rw [hPR]; exact y3, mH_t G2 (mH_F F3), p21, l2, l3, p29, sg, by rw [F3.1 64 (by decide)]; exact t2, fun k hk => by rw [F3.1 64 (by decide)]; exact s2 k hk⟩
      rw [go82, b_184_82, r3, bsI, b_184_86, if_neg (by decide), b_184_89, b_184_94, e1]
    · refine .inr ⟨N3, f, ?_, by rw [hPR]; exact y3, mH_t G2 (mH_F F3), p22, fun k hk => by rw [F3.1 64 (by decide)]; exact s2 k hk⟩
      rw [go82, b_184_82, r3, bsI, b_184_86, if_pos rfl, back]
  · refine .inr ⟨N2, tkS B Z q, ?_, if_neg ht, G2, by rw [hN2, up_o (by decide)]; exact m22, s2⟩
    have go59 : run (call e) 184 26 [vA 57, vI 1, vI j] [] N R = run (call e) 184 60 [vA 57, vI 1, vI j] [vI 0] N1 R := by
      rw [go39, b_184_39]
      by_cases k3 : N1 57 23 = 3
      · rw [if_neg (not_not_intro k3), b_184_47]
        have h456 := mk3.1 (by rw [← m23]; exact k3)
        rw [if_pos (by rw [m24' h456]; omega), b_184_59]
      · rw [if_pos k3, b_184_59]
    rw [go59, go60, if_pos rfl, back]
def mG (T : Nat) (M M' : MM) : Prop := Fx [57, 63, 64, 71] M M' ∧ (∀ i, ¬ (21 ≤ i ∧ i ≤ 29) → ¬ i = 7 → ¬ i = 10 → M' 57 i = M 57 i) ∧ (∀ k, k < 200 * T → M' 63 k = M 63 k) ∧ ∀ k, k < 4 * T → M' 64 k = M 64 k
/-- the reference reads the TAPE -/
theorem s_184 {d0 : Nat} (hd : 5 ≤ d0) {M : MM} {R : RR} (hL : Lay R) {B : Nat → Int} {Z T : Nat} (hB : mB B Z M) (h10 : M 57 10 = (T : Int)) (hT : T < 6) :
    (∃ (M' : MM) (o : List Int) (e1 e2 e3 : Nat), call d0 184 [vA 57] M R = some (vI T, M', R) ∧ TR B Z = .inr (o, e1, e2, e3) ∧ mG T M M' ∧ M' 57 7 = 0 ∧ M' 57 10 = ((T + 1 : Nat) : Int) ∧ seg (fun k => M' 63 (200 * T + k)) 0 o ∧ M' 64 (4 * T) = 0 ∧ M' 64 (4 * T + 1) = (e1 : Int) ∧ M' 64 (4 * T + 2) = (e2 : Int) ∧ M' 64 (4 * T + 3) = (e3 : Int)) ∨
    (∃ (M' : MM) (f : Nat), call d0 184 [vA 57] M R = some (vI (w32 (-100 - (f : Int))), M', R) ∧ TR B Z = .inl f ∧ mG T M M' ∧ M' 57 7 = 0 ∧ M' 57 10 = (T : Int)) := by
  obtain ⟨e, rfl⟩ := s_le hd
  have hZ := hB.1.1
  have e3 : w32 (w32 (4 * (T : Int)) + 3) = ((4 * T + 3 : Nat) : Int) := by
    simp (disch := omega) only [w32_i]; omega
  have eT : w32 ((T : Int) + 1) = ((T + 1 : Nat) : Int) := by rw [w32_i (by omega)]; omega
  have eT' : w32 (((T + 1 : Nat) : Int) - 1) = (T : Int) := by rw [w32_i (by omega)]; omega
  obtain ⟨N, hN⟩ : ∃ N, N = up (up M 57 21 0) 57 29 0 := ⟨_, rfl⟩
  have F0 : mF 21 T M N := by rw [hN]; exact mF_t (mF_5 (by omega)) (mF_5 (by omega))
  have b0 : mB B Z N := mB_f hB (by omega) F0
  have start : ∀ q, run (call (e + 4)) 184 26 [vA 57, vI 1, vI 0] [] N R = some q → retOk 184 q.1 = true → call (e + 5) 184 [vA 57] M R = some q := by
    intro q h g
    refine call_of 3 [vA 57, vX 0, vX 0] (by decide) rfl (Nat.le_of_ble_eq_true rfl) rfl ?_ g
    rw [b_184_0, if_pos (by omega), b_184_12, ← hN]
    exact h
  have gH : ∀ N' : MM, mH T N N' → (∀ k, k < 4 * T → N' 64 k = N 64 k) → ∀ v w : Int, (mG T M (up (up N' 64 (4 * T + 3) v) 57 7 0) ∧ mG T M (up (up (up N' 64 (4 * T + 3) v) 57 7 0) 57 10 w)) := by
    intro N' h h' v w
    have hh := mH_t (mH_F F0) h
    refine ⟨⟨Fx_t hh.1 (Fx_t (Fx_p (by decide)) (Fx_p (by decide))), fun i i1 i2 i3 => by rw [up_i i2, up_o (by decide)]; exact hh.2.1 i i1, fun k hk => by rw [up_o (by decide), up_o (by decide)]; exact hh.2.2 k hk, fun k hk => by rw [up_o (by decide), up_i (by omega), h' k hk, F0.1 64 (by decide)]⟩, ⟨Fx_t hh.1 (Fx_t (Fx_p (by decide)) (Fx_t (Fx_p (by decide)) (Fx_p (by decide)))), fun i i1 i2 i3 => by rw [up_i i3, up_i i2, up_o (by decide)]; exact hh.2.1 i i1, fun k hk => by rw [up_o (by decide), up_o (by decide), up_o (by decide)]; exact hh.2.2 k hk, fun k hk => by rw [up_o (by decide), up_o (by decide), up_i (by omega), h' k hk, F0.1 64 (by decide)]⟩⟩
  have ten : ∀ N' : MM, mH T N N' → N' 57 10 = (T : Int) := fun N' h => by rw [h.2.1 10 (by omega), F0.2.1 10 (by omega)]; exact h10
  -- it has failed
  have bad : ∀ (N' : MM) (f : Nat) (x : Int), mH T N N' → (∀ k, k < 4 * T → N' 64 k = N 64 k) → N' 57 22 = (f : Int) → run (call (e + 4)) 184 26 [vA 57, vI 1, vI 0] [] N R = run (call (e + 4)) 184 122 [vA 57, vI 0, vI x] [] N' R → ∃ M', call (e + 5) 184 [vA 57] M R = some (vI (w32 (-100 - (f : Int))), M', R) ∧ mG T M M' ∧ M' 57 7 = 0 ∧ M' 57 10 = (T : Int) := by
    intro N' f x h1 h2 h3 h4
    refine ⟨_, start _ ?_ rfl, (gH N' h1 h2 (N' 57 29) 0).1, up_s, by rw [up_i (by decide), up_o (by decide)]; exact ten N' h1⟩
    rw [h4, b_184_122 hL, ten N' h1, e3, if_pos (by omega), if_neg (by decide), Int.toNat_natCast, b_184_148, up_i (by decide), up_o (by decide), h3]
  have k101 : ∀ (x : Int) (N' : MM), run (call (e + 4)) 184 101 [vA 57, vI 0, vI x] [] N' R = run (call (e + 4)) 184 122 [vA 57, vI 0, vI x] [] N' R := fun x N' => by rw [b_184_101, if_pos rfl]
  rcases m_part (e := e + 4) (by omega) hL (j := 0) (o := []) hZ (by omega) (Nat.zero_le _) b0 (ten N ⟨Fx_r, fun _ _ => rfl, fun _ _ => rfl⟩) hT (by rw [hN, up_i (by decide), up_s]; rfl) (by rw [hN, up_s]; rfl) trivial (Nat.le_refl 0) with ⟨N1, q1, o1, r1, y1, F1, p1, l1, b1, n1, s1, t1, g1⟩ | ⟨N1, f, r1, y1, F1, p1, g1⟩
  · rcases m_part (e := e + 4) (by omega) hL (j := 1) hZ (by omega) l1 (mB_h b0 F1) (ten N1 F1) hT p1 n1 s1 b1 with ⟨N2, q2, o2, r2, y2, F2, p2, l2, b2', n2, s2, t2, g2⟩ | ⟨N2, f, r2, y2, F2, p2, g2⟩
    · rcases m_part (e := e + 4) (by omega) hL (j := 2) hZ (by omega) l2 (mB_h b0 (mH_t F1 F2)) (ten N2 (mH_t F1 F2)) hT p2 n2 s2 b2' with ⟨N3, q3, o3, r3, y3, F3, p3, l3, b3, n3, s3, t3, g3⟩ | ⟨N3, f, r3, y3, F3, p3, g3⟩
      · have F123 := mH_t F1 (mH_t F2 F3)
        obtain ⟨N4, r4, F4, m0, m21, m22, m23, m24, m24'⟩ := s_175 (d0 := e + 4) (by omega) hL (mB_h b0 F123).1 (mB_h b0 F123).2.1 (mB_h b0 F123).2.2 p3 l3
        have hr := tk_r B l3
        have G4 : mF 21 T N3 N4 := ⟨Fx_s F4 (by decide), fun i hi => m0 i (by omega) (by omega) (by omega) (by omega), fun k _ => by rw [F4 63 (by decide)]⟩
        have F1234 := mH_t F123 (mH_F G4)
        have k64 : ∀ k, k < 4 * T → N4 64 k = N 64 k := fun k hk => by rw [F4 64 (by decide), g3 k (by omega), g2 k (by omega), g1 k (by omega)]
        have n4 : N4 57 29 = (o3.length : Int) := by rw [m0 29 (by decide) (by decide) (by decide) (by decide)]; exact n3
        have go : run (call (e + 4)) 184 26 [vA 57, vI 1, vI 0] [] N R = run (call (e + 4)) 184 109 [vA 57, vI 1, vI ((2 + 1 : Nat) : Int)] [] N4 R := by
          refine r1.trans (r2.trans (r3.trans ?_))
          rw [b_184_26, if_pos (by decide), b_184_101, if_neg (by decide), b_184_105, r4, bsX]
        have hT1 : TR B Z = (if tkK B Z q3 = 0 then .inr (o3, o1.length, o2.length, o3.length) else .inl (tkS B Z q3)) := by
          unfold TR
          rw [y1]
          show sbd (PR B Z 1 q1 o1) _ = _
          rw [y2]
          show sbd (PR B Z 2 q2 o2) _ = _
          rw [y3]
          rfl
        by_cases t0 : tkK B Z q3 = 0
        · left
          refine ⟨_, o3, o1.length, o2.length, o3.length, start _ ?_ rfl, by rw [hT1, if_pos t0], (gH N4 F1234 k64 (o3.length : Int) ((T + 1 : Nat) : Int)).2, by rw [up_i (by decide), up_s], up_s, ?_, ?_, ?_, ?_, ?_⟩
          · rw [go, b_184_109, m23, if_neg (not_not_intro ((mK_0 hr).2 t0)), b_184_116, b_184_121, b_184_122 hL, ten N4 F1234, e3, if_pos (by omega), if_pos (by decide), Int.toNat_natCast, b_184_156, up_s, up_i (by decide), up_o (by decide), ten N4 F1234, n4, eT, eT']
          · refine seg_c (fun i _ _ => ?_) s3
            show up (up (up N4 64 (4 * T + 3) (o3.length : Int)) 57 7 0) 57 10 ((T + 1 : Nat) : Int) 63 (200 * T + i) = N3 63 (200 * T + i)
            rw [up_o (by decide), up_o (by decide), up_o (by decide), F4 63 (by decide)]
          · rw [up_o (by decide), up_o (by decide), up_i (by omega), F4 64 (by decide), g3 _ (by omega), g2 _ (by omega)]
            exact t1
          · rw [up_o (by decide), up_o (by decide), up_i (by omega), F4 64 (by decide), g3 _ (by omega)]
            exact t2
          · rw [up_o (by decide), up_o (by decide), up_i (by omega), F4 64 (by decide)]
            exact t3
          · rw [up_o (by decide), up_o (by decide), up_s]
        · right
          obtain ⟨M', a1, a2, a3, a4⟩ := bad N4 (tkS B Z q3) _ F1234 k64 m22 (go.trans (by rw [b_184_109, m23, if_pos (fun g => t0 ((mK_0 hr).1 g)), b_184_120, b_184_121]))
          exact ⟨M', tkS B Z q3, a1, by rw [hT1, if_neg t0], a2, a3, a4⟩
      · right
        obtain ⟨M', a1, a2, a3, a4⟩ := bad N3 f _ (mH_t F1 (mH_t F2 F3)) (fun k hk => by rw [g3 k (by omega), g2 k (by omega), g1 k (by omega)]) p3 (r1.trans (r2.trans (r3.trans (k101 _ N3))))
        refine ⟨M', f, a1, ?_, a2, a3, a4⟩
        unfold TR
        rw [y1]
        show sbd (PR B Z 1 q1 o1) _ = _
        rw [y2]
        show sbd (PR B Z 2 q2 o2) _ = _
        rw [y3]
        rfl
    · right
      obtain ⟨M', a1, a2, a3, a4⟩ := bad N2 f _ (mH_t F1 F2) (fun k hk => by rw [g2 k (by omega), g1 k (by omega)]) p2 (r1.trans (r2.trans (k101 _ N2)))
      refine ⟨M', f, a1, ?_, a2, a3, a4⟩
      unfold TR
      rw [y1]
      show sbd (PR B Z 1 q1 o1) _ = _
      rw [y2]
      rfl
  · right
    obtain ⟨M', a1, a2, a3, a4⟩ := bad N1 f _ F1 (fun k hk => g1 k (by omega)) p1 (r1.trans (k101 _ N1))
    refine ⟨M', f, a1, ?_, a2, a3, a4⟩
    unfold TR
    rw [y1]
    rfl
end
