section
/-! ===== the class reads a TEXT ===== -/
def sbd {α β : Type} (x : Nat ⊕ α) (k : α → Nat ⊕ β) : Nat ⊕ β := match x with
  | .inl f => .inl f
  | .inr a => k a
/-- a part of a TEXT: its word, its E -/
def PR (B : Nat → Int) (Z j q : Nat) (o : List Int) : Nat ⊕ (Nat × List Int) := if tkK B Z q = 4 + (j : Int) then YR B Z (tkE B Z q) true true [] o else .inl (tkS B Z q)
/-- a TEXT: its fault's place, or its codes and where its parts end -/
def TR (B : Nat → Int) (Z : Nat) : Nat ⊕ (List Int × Nat × Nat × Nat) := sbd (PR B Z 0 0 []) (fun a => sbd (PR B Z 1 a.1 a.2) (fun b => sbd (PR B Z 2 b.1 b.2) (fun c => if tkK B Z c.1 = 0 then .inr (c.2, a.2.length, b.2.length, c.2.length) else .inl (tkS B Z c.1))))
abbrev raO : List Nat := [8, 10, 11, 12]
theorem p_start {d0 : Nat} (hd : 4 ≤ d0) {M : MM} {R : RR} (hL : Lay R) {B : Nat → Int} {Z : Nat} (hB : BY M 9 B Z) (h1 : M 8 1 = (Z : Int)) (h3 : M 10 3 = 0) (h4 : M 10 4 = -1) : ∃ M', call d0 48 [vA 8] M R = some (vX 0, M', R) ∧ Fx [8] M M' ∧ cOk B Z 0 [] M' := by
  obtain ⟨e, rfl⟩ := s_le hd
  obtain ⟨M', q, F, m0, m5, m4, m2, m3⟩ := s_49 (d0 := e + 3) (by omega) (M := up M 8 5 0) hL (B := B) (Z := Z) (q := 0) ⟨hB.1, fun i hi => by rw [up_o (by decide)]; exact hB.2 i hi⟩ (by rw [up_i (by decide)]; exact h1) up_s (Nat.zero_le _)
  refine ⟨M', ?_, Fx_t (Fx_p (by decide)) F, ⟨hB.1, fun i hi => by rw [F 9 (by decide), up_o (by decide)]; exact hB.2 i hi⟩, by rw [m0 1 (by decide) (by decide) (by decide) (by decide), up_i (by decide)]; exact h1, m5, m4, m2, m3, by rw [F 10 (by decide), up_o (by decide)]; exact h4, by rw [F 10 (by decide), up_o (by decide)]; exact h3, trivial⟩
  refine call_of 1 [vA 8] (by decide) rfl (Nat.le_of_ble_eq_true rfl) rfl ?_ rfl
  rw [b_48_0, q, bsX, b_48_9]
theorem p_part {e : Nat} (he : 48 ≤ e) {N : MM} {R : RR} (hL : Lay R) {B : Nat → Int} {Z j q : Nat} {o : List Int} (hZ : Z ≤ 160) (hj : j < 3) (hq : q ≤ Z) (h : cOk B Z q o N) (hlen : o.length ≤ q) :
    (∃ (N' : MM) (q' : Nat) (o' c : List Int), run (call e) 22 19 [vA 10, vI j] [] N R = run (call e) 22 19 [vA 10, vI ((j + 1 : Nat) : Int)] [] N' R ∧ Fx raO N N' ∧ (∀ i, ¬ i = j + 1 → N' 12 i = N 12 i) ∧ N' 12 (j + 1) = (o'.length : Int) ∧ cOk B Z q' o' N' ∧ PR B Z j q o = .inr (q', o') ∧ o' = o ++ c ∧ wfa c ∧ q' ≤ Z ∧ o'.length ≤ q') ∨
    (∃ (N' : MM) (f : Nat), run (call e) 22 19 [vA 10, vI j] [] N R = run (call e) 22 19 [vA 10, vI ((j + 1 : Nat) : Int)] [] N' R ∧ Fx raO N N' ∧ (∀ i, ¬ i = j + 1 → N' 12 i = N 12 i) ∧ cNo f N' ∧ PR B Z j q o = .inl f) := by
  have e4 : w32 (4 + (j : Int)) = 4 + (j : Int) := w32_i (by omega)
  have e1 : w32 ((j : Int) + 1) = ((j + 1 : Nat) : Int) := by rw [w32_i (by omega)]; omega
  have fin : ∀ (N1 N2 N3 : MM), call e 24 [vA 10, vI (4 + (j : Int))] N R = some (vX 0, N1, R) → call e 26 [vA 10, vI 0] N1 R = some (vX 0, N2, R) → call e 24 [vA 10, vI 59] N2 R = some (vX 0, N3, R) → run (call e) 22 19 [vA 10, vI j] [] N R = run (call e) 22 19 [vA 10, vI ((j + 1 : Nat) : Int)] [] (up N3 12 (j + 1) (N3 10 3)) R := by
    intro N1 N2 N3 q1 q2 q3
    rw [b_22_19, if_neg (by omega), b_22_24, e4, q1, bsX, b_22_31, q2, bsX, b_22_36, q3, bsX, b_22_42 hL, e1, if_pos (by omega), Int.toNat_natCast]
  have frm : ∀ (N3 : MM) (v : Int), Fx rdO N N3 → Fx raO N (up N3 12 (j + 1) v) ∧ ∀ i, ¬ i = j + 1 → up N3 12 (j + 1) v 12 i = N 12 i := fun N3 v F => ⟨Fx_t (Fx_s F (by decide)) (Fx_p (by decide)), fun i hi => by rw [up_i hi, F 12 (by decide)]⟩
  have bad : ∀ (N3 : MM) (f : Nat), cNo f N3 → cNo f (up N3 12 (j + 1) (N3 10 3)) := fun N3 f h => ⟨by rw [up_o (by decide)]; exact h.1, by rw [up_o (by decide)]; exact h.2.1, by rw [up_o (by decide)]; exact h.2.2.1, by rw [up_o (by decide)]; exact h.2.2.2⟩
  by_cases ht : tkK B Z q = 4 + (j : Int)
  · obtain ⟨N1, q1, F1, k1⟩ := p_take (d0 := e) (by omega) hL hq h _ ht
    have hb := tk_b B hq
    have lt := tk_lt (B := B) hq (by omega)
    have hPR : PR B Z j q o = YR B Z (tkE B Z q) true true [] o := if_pos ht
    rcases w_any e N1 R B Z (tkE B Z q) [] o true (by omega) hL hZ k1 rfl trivial hb.2.2.2.1 (by rw [List.length_nil]; omega) rfl with ⟨N2, q', P, o', c, q2, F2, k2, p2, e2, w2, l1, l2, l3, y2, n2⟩ | ⟨N2, f, q2, F2, k2, y2⟩
    · rw [List.append_nil] at y2 n2
      rw [List.length_nil] at l3
      have hu : un 1 P o' = ([], o' ++ P) := by
        have := un_app (r := 1) (H := []) (o := o') p2
        rw [List.append_nil] at this
        exact this
      by_cases t59 : tkK B Z q' = 59
      · have lt2 := tk_lt (B := B) l2 (by omega)
        have hb2 := tk_b B l2
        obtain ⟨N3, q3, F3, k3⟩ := p_take (d0 := e) (by omega) hL l2 k2 59 t59
        have F := Fx_t F1 (Fx_t F2 F3)
        obtain ⟨f1, f2⟩ := frm N3 (N3 10 3) F
        refine .inl ⟨_, tkE B Z q', o' ++ P, c, fin N1 N2 N3 q1 q2 q3, f1, f2, ?_, ?_, ?_, e2, w2, hb2.2.2.2.1, by rw [List.length_append]; omega⟩
        · rw [up_s]; exact k3.2.2.2.2.2.2.2.1
        · obtain ⟨g0, g1, g2, g3, g4, g5, g6, g7, g8⟩ := k3
          exact ⟨⟨g0.1, fun i hi => by rw [up_o (by decide)]; exact g0.2 i hi⟩, by rw [up_o (by decide)]; exact g1, by rw [up_o (by decide)]; exact g2, by rw [up_o (by decide)]; exact g3, by rw [up_o (by decide)]; exact g4, by rw [up_o (by decide)]; exact g5, by rw [up_o (by decide)]; exact g6, by rw [up_o (by decide)]; exact g7, by rw [up_o (by decide)]; exact g8⟩
        · rw [hPR, y2]
          refine YR_end l2 ?_
          unfold yst
          rw [if_neg (by decide), if_pos t59, hu, if_pos rfl]
      · obtain ⟨N3, q3, F3, k3⟩ := p_notake (d0 := e) (by omega) hL (by rw [List.length_append]; omega) k2 59 t59
        have F := Fx_t F1 (Fx_t F2 F3)
        obtain ⟨f1, f2⟩ := frm N3 (N3 10 3) F
        refine .inr ⟨_, tkS B Z q', fin N1 N2 N3 q1 q2 q3, f1, f2, bad N3 _ k3, ?_⟩
        rw [hPR, y2]
        refine YR_no l2 ?_
        by_cases gs : so (tkK B Z q') = -1
        · unfold yst
          rw [if_neg (by decide), if_neg t59, hu]
          by_cases t41 : tkK B Z q' = 41
          · rw [if_pos t41, if_pos rfl]
          · rw [if_neg t41, if_pos gs]
        · exact n2 _ gs (by have := so_c gs; omega)
    · obtain ⟨N3, q3, F3, k3⟩ := f_24 (d0 := e) (by omega) hL k2 59 (by decide)
      have F := Fx_t F1 (Fx_t F2 F3)
      obtain ⟨f1, f2⟩ := frm N3 (N3 10 3) F
      exact .inr ⟨_, f, fin N1 N2 N3 q1 q2 q3, f1, f2, bad N3 f k3, by rw [hPR]; exact y2⟩
  · obtain ⟨N1, q1, F1, k1⟩ := p_notake (d0 := e) (by omega) hL (by omega) h _ ht
    obtain ⟨N2, q2, F2, k2⟩ := f_26 (d0 := e) (by omega) hL k1 0
    obtain ⟨N3, q3, F3, k3⟩ := f_24 (d0 := e) (by omega) hL k2 59 (by decide)
    have F := Fx_t F1 (Fx_t F2 F3)
    obtain ⟨f1, f2⟩ := frm N3 (N3 10 3) F
    exact .inr ⟨_, tkS B Z q, fin N1 N2 N3 q1 q2 q3, f1, f2, bad N3 _ k3, if_neg ht⟩
theorem p_bad {e : Nat} (he : 48 ≤ e) {N : MM} {R : RR} (hL : Lay R) {j f : Nat} (hj : j < 3) (h : cNo f N) : ∃ N' : MM, run (call e) 22 19 [vA 10, vI j] [] N R = run (call e) 22 19 [vA 10, vI ((j + 1 : Nat) : Int)] [] N' R ∧ Fx raO N N' ∧ (∀ i, ¬ i = j + 1 → N' 12 i = N 12 i) ∧ cNo f N' := by
  have e4 : w32 (4 + (j : Int)) = 4 + (j : Int) := w32_i (by omega)
  have e1 : w32 ((j : Int) + 1) = ((j + 1 : Nat) : Int) := by rw [w32_i (by omega)]; omega
  obtain ⟨N1, q1, F1, k1⟩ := f_24 (d0 := e) (by omega) hL h (4 + (j : Int)) (by omega)
  obtain ⟨N2, q2, F2, k2⟩ := f_26 (d0 := e) (by omega) hL k1 0
  obtain ⟨N3, q3, F3, k3⟩ := f_24 (d0 := e) (by omega) hL k2 59 (by decide)
  have F := Fx_t F1 (Fx_t F2 F3)
  refine ⟨up N3 12 (j + 1) (N3 10 3), ?_, Fx_t (Fx_s F (by decide)) (Fx_p (by decide)), fun i hi => by rw [up_i hi, F 12 (by decide)], by rw [up_o (by decide)]; exact k3.1, by rw [up_o (by decide)]; exact k3.2.1, by rw [up_o (by decide)]; exact k3.2.2.1, by rw [up_o (by decide)]; exact k3.2.2.2⟩
  rw [b_22_19, if_neg (by omega), b_22_24, e4, q1, bsX, b_22_31, q2, bsX, b_22_36, q3, bsX, b_22_42 hL, e1, if_pos (by omega), Int.toNat_natCast]
/-- all parts are read -/
theorem p_all {e : Nat} (he : 48 ≤ e) {N : MM} {R : RR} (hL : Lay R) {B : Nat → Int} {Z : Nat} (hZ : Z ≤ 160) (h : cOk B Z 0 [] N) (h0 : N 12 0 = 0) :
    (∃ (N' : MM) (o c1 c2 c3 : List Int), run (call e) 22 19 [vA 10, vI 0] [] N R = run (call e) 22 74 [vA 10, vI 3] [] N' R ∧ Fx raO N N' ∧ N' 12 0 = 0 ∧ N' 12 1 = (c1.length : Int) ∧ N' 12 2 = ((c1.length + c2.length : Nat) : Int) ∧ N' 12 3 = (o.length : Int) ∧ N' 10 4 = -1 ∧ seg (N' 11) 0 (o.map xop) ∧ o = c1 ++ c2 ++ c3 ∧ wfa c1 ∧ wfa c2 ∧ wfa c3 ∧ o.length ≤ 160 ∧ TR B Z = .inr (o, c1.length, c1.length + c2.length, o.length)) ∨
    (∃ (N' : MM) (f : Nat), run (call e) 22 19 [vA 10, vI 0] [] N R = run (call e) 22 74 [vA 10, vI 3] [] N' R ∧ Fx raO N N' ∧ N' 12 0 = 0 ∧ N' 10 4 = (f : Int) ∧ TR B Z = .inl f) := by
  -- behind a fault
  have bad : ∀ (n : Nat) (N1 : MM) (j f : Nat), j + n = 3 → cNo f N1 → ∃ N', run (call e) 22 19 [vA 10, vI j] [] N1 R = run (call e) 22 74 [vA 10, vI 3] [] N' R ∧ Fx raO N1 N' ∧ N' 12 0 = N1 12 0 ∧ N' 10 4 = (f : Int) := by
    intro n
    induction n with
    | zero =>
      intro N1 j f hj k1
      obtain ⟨N2, q2, F2, k2⟩ := f_23 (d0 := e) (by omega) hL k1
      have : j = 3 := by omega
      subst this
      refine ⟨N2, ?_, Fx_s F2 (by decide), by rw [F2 12 (by decide)], k2.2.1⟩
      rw [b_22_19, if_pos (by decide), b_22_60 hL, k1.1, if_neg (by decide), b_22_70, q2, bsX]
      rfl
    | succ n ih =>
      intro N1 j f hj k1
      obtain ⟨N2, q2, F2, g2, k2⟩ := p_bad (e := e) he hL (j := j) (by omega) k1
      obtain ⟨N3, q3, F3, g3, k3⟩ := ih N2 (j + 1) f (by omega) k2
      exact ⟨N3, q2.trans q3, Fx_t F2 F3, by rw [g3, g2 0 (by omega)], k3⟩
  rcases p_part he hL (j := 0) hZ (by omega) (Nat.zero_le _) h (Nat.le_refl 0) with ⟨N1, q1, o1, c1, r1, F1, g1, s1, k1, y1, a1, w1, b1, l1⟩ | ⟨N1, f, r1, F1, g1, k1, y1⟩
  · rcases p_part he hL (j := 1) hZ (by omega) b1 k1 l1 with ⟨N2, q2, o2, c2, r2, F2, g2, s2, k2, y2, a2, w2, b2', l2⟩ | ⟨N2, f, r2, F2, g2, k2, y2⟩
    · rcases p_part he hL (j := 2) hZ (by omega) b2' k2 l2 with ⟨N3, q3, o3, c3, r3, F3, g3, s3, k3, y3, a3, w3, b3, l3⟩ | ⟨N3, f, r3, F3, g3, k3, y3⟩
      · have hr : run (call e) 22 19 [vA 10, vI 0] [] N R = run (call e) 22 60 [vA 10, vI 3] [] N3 R := by
          refine r1.trans (r2.trans (r3.trans ?_))
          rw [b_22_19, if_pos (by decide)]
          rfl
        have z0 : N3 12 0 = 0 := by rw [g3 0 (by omega), g2 0 (by omega), g1 0 (by omega), h0]
        by_cases t0 : tkK B Z q3 = 0
        · refine .inl ⟨N3, o3, c1, c2, c3, ?_, Fx_t F1 (Fx_t F2 F3), z0, ?_, ?_, s3, k3.2.2.2.2.2.2.1, k3.2.2.2.2.2.2.2.2, ?_, w1, w2, w3, by omega, ?_⟩
          · rw [hr, b_22_60 hL, k3.2.2.2.2.1, if_pos t0]
          · rw [g3 1 (by omega), g2 1 (by omega)]
            rw [a1] at s1
            exact s1
          · rw [g3 2 (by omega)]
            rw [a2, a1] at s2
            rw [s2, List.nil_append, List.length_append]
          · rw [a3, a2, a1, List.nil_append]
          · unfold TR
            rw [y1]
            show sbd (PR B Z 1 q1 o1) _ = _
            rw [y2]
            show sbd (PR B Z 2 q2 o2) _ = _
            rw [y3]
            show (if tkK B Z q3 = 0 then _ else _) = _
            rw [if_pos t0]
            show Sum.inr (o3, o1.length, o2.length, o3.length) = _
            rw [a2, a1, List.nil_append, List.length_append]
        · obtain ⟨N4, q4, F4, k4⟩ := p_fail (d0 := e) (by omega) hL (by omega) k3
          refine .inr ⟨N4, tkS B Z q3, ?_, Fx_t F1 (Fx_t F2 (Fx_t F3 (Fx_s F4 (by decide)))), by rw [F4 12 (by decide)]; exact z0, k4.2.1, ?_⟩
          · rw [hr, b_22_60 hL, k3.2.2.2.2.1, if_neg t0, b_22_70, q4, bsX]
          · unfold TR
            rw [y1]
            show sbd (PR B Z 1 q1 o1) _ = _
            rw [y2]
            show sbd (PR B Z 2 q2 o2) _ = _
            rw [y3]
            show (if tkK B Z q3 = 0 then _ else _) = _
            rw [if_neg t0]
      · obtain ⟨N4, q4, F4, g4, k4⟩ := bad 0 N3 3 f rfl k3
        refine .inr ⟨N4, f, r1.trans (r2.trans (r3.trans q4)), Fx_t F1 (Fx_t F2 (Fx_t F3 F4)), by rw [g4, g3 0 (by omega), g2 0 (by omega), g1 0 (by omega), h0], k4, ?_⟩
        unfold TR
        rw [y1]
        show sbd (PR B Z 1 q1 o1) _ = _
        rw [y2]
        show sbd (PR B Z 2 q2 o2) _ = _
        rw [y3]
        rfl
    · obtain ⟨N4, q4, F4, g4, k4⟩ := bad 1 N2 2 f rfl k2
      refine .inr ⟨N4, f, r1.trans (r2.trans q4), Fx_t F1 (Fx_t F2 F4), by rw [g4, g2 0 (by omega), g1 0 (by omega), h0], k4, ?_⟩
      unfold TR
      rw [y1]
      show sbd (PR B Z 1 q1 o1) _ = _
      rw [y2]
      rfl
  · obtain ⟨N4, q4, F4, g4, k4⟩ := bad 2 N1 1 f rfl k1
    refine .inr ⟨N4, f, r1.trans q4, Fx_t F1 F4, by rw [g4, g1 0 (by omega), h0], k4, ?_⟩
    unfold TR
    rw [y1]
    rfl
/-- the class reads the TAPE -/
theorem s_22 {d0 : Nat} (hd : 49 ≤ d0) {M : MM} {R : RR} (hL : Lay R) {B : Nat → Int} {Z t : Nat} (hB : BY M 9 B Z) (h1 : M 8 1 = (Z : Int)) (h0 : M 12 0 = 0) (ht : nu R = t) (ht2 : 82 < t) (kt : kindOf t = 7) (k1 : kindOf (t + 1) = 13) (k2 : kindOf (t + 2) = 13) :
    (∃ (M' : MM) (f : Nat), call d0 22 [vA 10] M R = some (vA 0, M', R) ∧ Fx raO M M' ∧ M' 12 0 = 0 ∧ M' 10 4 = (f : Int) ∧ TR B Z = .inl f) ∨
    (∃ (M' : MM) (R' : RR) (o c1 c2 c3 : List Int), call d0 22 [vA 10] M R = some (vA t, M', R') ∧ Fx [8, 10, 11, 12, t, t + 1, t + 2] M M' ∧ M' 12 0 = 0 ∧ (M' (t + 1) 0 = 0 ∧ M' (t + 1) 1 = (c1.length : Int) ∧ M' (t + 1) 2 = ((c1.length + c2.length : Nat) : Int) ∧ M' (t + 1) 3 = (o.length : Int)) ∧ seg (M' (t + 2)) 0 (o.map xop) ∧ o = c1 ++ c2 ++ c3 ∧ wfa c1 ∧ wfa c2 ∧ wfa c3 ∧ o.length ≤ 160 ∧ TR B Z = .inr (o, c1.length, c1.length + c2.length, o.length) ∧ rT (newR R 0 2) R' t o.length) := by
  obtain ⟨e, rfl⟩ := s_le hd
  have hZ := hB.1
  subst ht
  have F0 : Fx raO M (up (up M 10 3 0) 10 4 (-1)) := Fx_t (Fx_p (by decide)) (Fx_p (by decide))
  obtain ⟨M1, r1, F1, k0⟩ := p_start (d0 := e + 48) (by omega) (M := up (up M 10 3 0) 10 4 (-1)) hL (B := B) (Z := Z) ⟨hZ, fun i hi => by rw [F0 9 (by decide)]; exact hB.2 i hi⟩ (by rw [up_o (by decide), up_o (by decide)]; exact h1) (by rw [up_i (by decide), up_s]) up_s
  have G : Fx raO M M1 := Fx_t F0 (Fx_s F1 (by decide))
  have start : ∀ q, run (call (e + 48)) 22 19 [vA 10, vI 0] [] M1 R = some q → retOk 22 q.1 = true → call (e + 49) 22 [vA 10] M R = some q := by
    intro q h g
    refine call_of 2 [vA 10, vX 0] (by decide) rfl (Nat.le_of_ble_eq_true rfl) rfl ?_ g
    rw [b_22_0 hL, r1, bsX, b_22_17]
    exact h
  rcases p_all (e := e + 48) (by omega) hL hZ k0 (by rw [F1 12 (by decide), up_o (by decide), up_o (by decide)]; exact h0) with ⟨N, o, c1, c2, c3, r2, F2, z0, z1, z2, z3, hf, hs, ho, w1, w2, w3, hl, hT⟩ | ⟨N, f, r2, F2, z0, hf, hT⟩
  · right
    have l1 : R 10 1 = 11 := lay_at hL 15 rfl
    have l2 : R 10 2 = 12 := lay_at hL 16 rfl
    have l3 : R 0 13 = 160 := lay_at hL 89 rfl
    have l4 : R 0 14 = 4 := lay_at hL 90 rfl
    have n1 : newR R 0 2 10 1 = 11 := by rw [newR_o (by decide) (by omega), l1]
    have n2 : newR R 0 2 10 2 = 12 := by rw [newR_o (by decide) (by omega), l2]
    obtain ⟨f, g, R', q57, hf1, hg1, hr⟩ := s_57 (d0 := e + 48) (by omega) (M := newM N R) (R := newR R 0 2) (t := nu R) (w := 11) (e := 12) (z := o.length) (Lw := 160) (by rw [newR_0, if_neg (by omega), if_neg (by omega), if_pos rfl]) (by omega) kt k1 k2 rfl rfl (by omega) (by omega) (by rw [newR_0, if_neg (by omega), if_neg (by omega), if_neg (by omega)]; exact l3) (by rw [newR_0, if_neg (by omega), if_neg (by omega), if_neg (by omega)]; exact l4) (by rw [newM_o (by omega)]; exact z3) hl (by omega)
    have nm : ∀ i, ¬ i = nu R → newM N R i = N i := fun i hi => newM_o hi
    rw [nm 12 (by omega)] at hf1
    rw [nm 11 (by omega)] at hg1
    refine ⟨upf (upf (newM N R) (nu R + 1) f) (nu R + 2) g, R', o, c1, c2, c3, start _ ?_ rfl, ?_, ?_, ?_, ?_, ho, w1, w2, w3, hl, hT, hr⟩
    · rw [r2, b_22_74, hf, if_pos (by decide), b_22_85 _ kt, n1, n2, q57, bsX, b_22_100]
    · intro i hi
      simp only [List.mem_cons, List.not_mem_nil, or_false, not_or] at hi
      rw [upf_n hi.2.2.2.2.2.2, upf_n hi.2.2.2.2.2.1, nm i hi.2.2.2.2.1, F2 i (by simp only [List.mem_cons, List.not_mem_nil, or_false, not_or]; exact ⟨hi.1, hi.2.1, hi.2.2.1, hi.2.2.2.1⟩), G i (by simp only [List.mem_cons, List.not_mem_nil, or_false, not_or]; exact ⟨hi.1, hi.2.1, hi.2.2.1, hi.2.2.2.1⟩)]
    · rw [upf_n (by omega), upf_n (by omega), nm 12 (by omega)]; exact z0
    · rw [upf_n (by omega), upf_s, hf1 0 (by omega), hf1 1 (by omega), hf1 2 (by omega), hf1 3 (by omega)]
      exact ⟨z0, z1, z2, z3⟩
    · rw [upf_s]
      exact seg_c (fun j _ hj => hg1 j (by rw [List.length_map] at hj; omega)) hs
  · left
    refine ⟨N, f, start _ ?_ rfl, Fx_t G F2, z0, hf, hT⟩
    rw [r2, b_22_74, hf, if_neg (by omega), b_22_81, b_22_100]
end
