section
/-! ===== the class's reader and the yard, level by level ===== -/
/-- whatever sign that binds at least so comes: it can't stand there -/
def nop (lev : Int) (B : Nat → Int) (Z q : Nat) (S o : List Int) : Prop := ∀ v, ¬ so (tkK B Z q) = -1 → lev ≤ rk (so (tkK B Z q)) → yst (tkK B Z q) v false false S o = none
def lvG (X : Option Res) (lev : Int) (B : Nat → Int) (Z q : Nat) (mn : Bool) (H o : List Int) (M : MM) (R : RR) : Prop :=
  (∃ (M' : MM) (q' : Nat) (P o' c : List Int), X = some (vX 0, M', R) ∧ Fx rdO M M' ∧ cOk B Z q' (o' ++ P) M' ∧ (∀ x ∈ P, lev ≤ rk x) ∧ o' ++ P = o ++ c ∧ wfa c ∧ q < q' ∧ q' ≤ Z ∧ o'.length + P.length + H.length ≤ q' ∧ YR B Z q true mn H o = YR B Z q' false false (P ++ H) o' ∧ nop lev B Z q' (P ++ H) o') ∨
  (∃ (M' : MM) (f : Nat), X = some (vX 0, M', R) ∧ Fx rdO M M' ∧ cNo f M' ∧ YR B Z q true mn H o = .inl f)
abbrev C1 (mn : Bool) (_ : Int) : Prop := mn = true
abbrev C2 (mn : Bool) (k : Int) : Prop := mn = true → ¬ k = 9
def LVS (mi k : Nat) (lev pre : Int) (C : Bool → Int → Prop) (op : Int) : Prop := ∀ (d : Nat) (M : MM) (R : RR) (B : Nat → Int) (Z q : Nat) (H o : List Int) (mn : Bool), k ≤ d → Lay R → Z ≤ 160 → cOk B Z q o M → opn H = op → lo pre H → q ≤ Z → o.length + H.length ≤ q → C mn (tkK B Z q) → lvG (call d mi [vA 10, vI op] M R) lev B Z q mn H o M R
def lvO (X : Option Res) (B : Nat → Int) (Z q : Nat) (mn : Bool) (H o : List Int) (M : MM) (R : RR) : Prop :=
  (∃ (M' : MM) (q' : Nat) (o' c : List Int), X = some (vX 0, M', R) ∧ Fx rdO M M' ∧ cOk B Z q' o' M' ∧ o' = o ++ c ∧ wfa c ∧ q < q' ∧ q' ≤ Z ∧ o'.length + H.length ≤ q' ∧ YR B Z q true mn H o = YR B Z q' false false (un 7 H o').1 (un 7 H o').2) ∨
  (∃ (M' : MM) (f : Nat), X = some (vX 0, M', R) ∧ Fx rdO M M' ∧ cNo f M' ∧ YR B Z q true mn H o = .inl f)
def OVS (k : Nat) (op : Int) : Prop := ∀ (d : Nat) (M : MM) (R : RR) (B : Nat → Int) (Z q : Nat) (H o : List Int) (mn : Bool), k ≤ d → Lay R → Z ≤ 160 → cOk B Z q o M → opn H = op → q ≤ Z → o.length + H.length ≤ q → C2 mn (tkK B Z q) → lvO (call d 32 [vA 10, vI op] M R) B Z q mn H o M R
theorem so_c {k : Int} (h : ¬ so k = -1) : (k = 7 ∧ so k = 11 ∧ rk (so k) = 1) ∨ (k = 8 ∧ so k = 12 ∧ rk (so k) = 2) ∨ (k = 60 ∧ so k = 14 ∧ rk (so k) = 4) ∨ (k = 61 ∧ so k = 15 ∧ rk (so k) = 4) ∨ (k = 43 ∧ so k = 16 ∧ rk (so k) = 5) ∨ (k = 45 ∧ so k = 17 ∧ rk (so k) = 5) ∨ (k = 42 ∧ so k = 18 ∧ rk (so k) = 6) := by
  by_cases g : k = 7 ∨ k = 8 ∨ k = 60 ∨ k = 61 ∨ k = 43 ∨ k = 45 ∨ k = 42
  · rcases g with g | g | g | g | g | g | g <;> subst g <;> decide
  · exfalso
    apply h
    unfold so
    simp (disch := omega) only [if_neg]
theorem y_bin {k v c lev : Int} {P H o : List Int} (hs : so k = c) (hc : ¬ c = -1) (hr : rk c = lev) (h4 : ¬ lev = 4) (hP : ∀ x ∈ P, lev ≤ rk x) (hl : lo lev H) : yst k v false false (P ++ H) o = some (.inl (true, decide (c ≤ 12), c :: H, o ++ P)) := by
  have hk := so_c (k := k) (by rw [hs]; exact hc)
  unfold yst
  rw [if_neg (by decide), if_neg (by omega), if_neg (by omega), hs, if_neg hc, hr, if_neg (fun q => h4 q.1), if_neg h4, un_app hP, un_lo hl]
theorem y_cmp {k v c : Int} {P H o : List Int} (hs : so k = c) (hc : ¬ c = -1) (hr : rk c = 4) (hP : ∀ x ∈ P, 5 ≤ rk x) (hl : lo 4 H) : yst k v false false (P ++ H) o = some (.inl (true, decide (c ≤ 12), c :: H, o ++ P)) := by
  have hk := so_c (k := k) (by rw [hs]; exact hc)
  unfold yst
  rw [if_neg (by decide), if_neg (by omega), if_neg (by omega), hs, if_neg hc, hr, if_pos rfl, un_app hP, un_lo (lo_m hl (by decide)), if_neg]
  rintro ⟨_, h1, h2⟩
  cases H with
  | nil => exact h1 rfl
  | cons x H =>
    have hl : rk x < 4 := hl
    have h2 : rk x = 4 := h2
    omega
theorem y_no {k v c : Int} {P H o : List Int} (hs : rk (so k) = 4) (hc : ¬ so k = -1) (hr : rk c = 4) (hP : ∀ x ∈ P, 5 ≤ rk x) : yst k v false false (P ++ c :: H) o = none := by
  have hk := so_c (k := k) hc
  unfold yst
  rw [if_neg (by decide), if_neg (by omega), if_neg (by omega), if_neg hc, un_app hP, un_lo (show lo 5 (c :: H) from by show rk c < 5; omega), if_pos]
  exact ⟨hs, List.cons_ne_nil _ _, hr⟩
theorem ap1 {P H : List Int} {c : Int} : P ++ [c] ++ H = P ++ c :: H := by rw [List.append_assoc]; rfl
theorem apc {P : List Int} {c lev : Int} (hP : ∀ x ∈ P, lev ≤ rk x) (hc : lev ≤ rk c) : ∀ x ∈ P ++ [c], lev ≤ rk x := by
  intro x hx
  rcases List.mem_append.1 hx with h | h
  · exact hP x h
  · rw [List.mem_singleton.1 h]; exact hc
theorem r_m {P : List Int} {l l' : Int} (hP : ∀ x ∈ P, l ≤ rk x) (h : l' ≤ l) : ∀ x ∈ P, l' ≤ rk x := fun x hx => by have := hP x hx; omega
theorem nop_m {l l' : Int} {B : Nat → Int} {Z q : Nat} {S o : List Int} (hn : nop l B Z q S o) (h : ¬ so (tkK B Z q) = -1 → l' ≤ rk (so (tkK B Z q)) → l ≤ rk (so (tkK B Z q))) : nop l' B Z q S o := fun v h1 h2 => hn v h1 (h h1 h2)
theorem lvG_e {X X' : Option Res} {lev : Int} {B : Nat → Int} {Z q : Nat} {mn : Bool} {H o : List Int} {M : MM} {R : RR} (h : lvG X lev B Z q mn H o M R) (hx : ∀ M', X = some (vX 0, M', R) → X' = some (vX 0, M', R)) : lvG X' lev B Z q mn H o M R := by
  rcases h with ⟨M', q', P, o', c, h1, h2⟩ | ⟨M', f, h1, h2⟩
  · exact .inl ⟨M', q', P, o', c, hx M' h1, h2⟩
  · exact .inr ⟨M', f, hx M' h1, h2⟩
theorem tk_lt {B : Nat → Int} {Z q : Nat} (hq : q ≤ Z) (h : ¬ tkK B Z q = 0) : q < tkE B Z q ∧ q < Z := by
  have hb := tk_b B hq
  have := hb.2.2.2.2 h
  omega

theorem w_26 {k : Nat} {op : Int} (hs : LVS 27 k 2 2 C1 op) (h3 : 3 ≤ k) : LVS 26 (k + 1) 1 1 C1 op := by
  intro d M R B Z q H o mn hd hL hZ hC hop hlo hq hlen hc
  obtain ⟨e, rfl⟩ : ∃ e, d = e + 1 := ⟨d - 1, by omega⟩
  have start : ∀ M', run (call e) 26 0 [vA 10, vI op, vX 0] [] M R = some (vX 0, M', R) → call (e + 1) 26 [vA 10, vI op] M R = some (vX 0, M', R) := fun M' h => call_of 3 [vA 10, vI op, vX 0] (by decide) rfl (Nat.le_of_ble_eq_true rfl) rfl h rfl
  have bad : ∀ (N : MM) (f i : Nat), cNo f N → run (call e) 26 7 [vA 10, vI op, vI i] [] N R = some (vX 0, N, R) := by
    intro N f i h
    rw [b_26_7]
    by_cases g : (160 : Int) ≤ i
    · rw [if_pos g, b_26_51]
    · rw [if_neg g, b_26_14 hL, h.1, if_pos (by decide), b_26_51]
  have loop : ∀ (n : Nat) (N : MM) (q' i : Nat) (P o' c : List Int), Z - q' ≤ n → Fx rdO M N → cOk B Z q' (o' ++ P) N → (∀ x ∈ P, 1 ≤ rk x) → o' ++ P = o ++ c → wfa c → q < q' → q' ≤ Z → o'.length + P.length + H.length ≤ q' → YR B Z q true mn H o = YR B Z q' false false (P ++ H) o' → nop 2 B Z q' (P ++ H) o' → i ≤ q' → lvG (run (call e) 26 7 [vA 10, vI op, vI i] [] N R) 1 B Z q mn H o M R := by
    intro n
    induction n with
    | zero =>
      intro N q' i P o' c hn F k1 hP he hw l1 l2 l3 y1 n1 hi
      have ht : ¬ tkK B Z q' = 7 := by
        intro ht
        have := tk_lt (B := B) l2 (by rw [ht]; decide)
        omega
      refine .inl ⟨N, q', P, o', c, ?_, F, k1, hP, he, hw, l1, l2, l3, y1, nop_m n1 (fun g1 g2 => ?_)⟩
      · rw [b_26_7]
        by_cases g : (160 : Int) ≤ i
        · rw [if_pos g, b_26_51]
        · rw [if_neg g, b_26_14 hL, k1.2.2.2.2.1, if_pos ht, b_26_51]
      · have := so_c g1
        omega
    | succ n ih =>
      intro N q' i P o' c hn F k1 hP he hw l1 l2 l3 y1 n1 hi
      by_cases ht : tkK B Z q' = 7
      · have lt := tk_lt (B := B) l2 (by rw [ht]; decide)
        have hb := tk_b B l2
        have ei : w32 ((i : Int) + 1) = ((i + 1 : Nat) : Int) := by rw [w32_i (by omega)]; omega
        obtain ⟨M1, r0, F1, c1⟩ := p_next (d0 := e) (by omega) hL l2 k1
        have hy := YR_on l2 (y_bin (v := tkV B Z q') (c := 11) (o := o') (by rw [ht]; decide) (by decide) (show rk 11 = 1 by decide) (by decide) hP hlo)
        rcases hs e M1 R B Z (tkE B Z q') (11 :: H) (o' ++ P) (decide ((11 : Int) ≤ 12)) (by omega) hL hZ c1 (by rw [opn_n (by decide)]; exact hop) (show rk 11 < 2 by decide) hb.2.2.2.1 (by rw [List.length_append, List.length_cons]; omega) (rfl) with ⟨M2, q2, P2, o2, c2, r1, F2, k2, p2, e2, w2, m1, m2, m3, y2, n2⟩ | ⟨M2, f, r1, F2, k2, y2⟩
        · rw [List.length_cons] at m3
          obtain ⟨M3, r3, F3, k3⟩ := p_put (d0 := e) (by omega) hL k2 (by rw [List.length_append]; omega) 11 10012 (by decide)
          have E : run (call e) 26 7 [vA 10, vI op, vI i] [] N R = run (call e) 26 7 [vA 10, vI op, vI ((i + 1 : Nat) : Int)] [] M3 R := by
            rw [b_26_7, if_neg (by omega), b_26_14 hL, k1.2.2.2.2.1, if_neg (not_not_intro ht), b_26_26 hL, r0, bsX, b_26_33, r1, bsX, b_26_38, r3, bsX, b_26_45, ei]
          rw [E]
          refine ih M3 q2 (i + 1) (P2 ++ [11]) o2 (c ++ c2 ++ [11]) (by omega) (Fx_t F (Fx_t F1 (Fx_t F2 F3))) (by rw [← List.append_assoc]; exact k3) (apc (r_m p2 (by decide)) (by decide)) ?_ (wfa_b hw w2 (by unfold isB; decide)) (by omega) m2 (by rw [List.length_append, List.length_singleton]; omega) ?_ ?_ (by omega)
          · rw [← List.append_assoc, e2, he, List.append_assoc, List.append_assoc, List.append_assoc]
          · rw [y1, hy, y2, ap1]
          · rw [ap1]
            exact nop_m n2 (fun _ g => by omega)
        · obtain ⟨M3, r3, F3, k3⟩ := f_25 (d0 := e) (by omega) hL k2 10012
          refine .inr ⟨M3, f, ?_, Fx_t F (Fx_t F1 (Fx_t F2 F3)), k3, by rw [y1, hy]; exact y2⟩
          rw [b_26_7, if_neg (by omega), b_26_14 hL, k1.2.2.2.2.1, if_neg (not_not_intro ht), b_26_26 hL, r0, bsX, b_26_33, r1, bsX, b_26_38, r3, bsX, b_26_45, ei]
          exact bad M3 f (i + 1) k3
      · refine .inl ⟨N, q', P, o', c, ?_, F, k1, hP, he, hw, l1, l2, l3, y1, nop_m n1 (fun g1 g2 => ?_)⟩
        · rw [b_26_7]
          by_cases g : (160 : Int) ≤ i
          · rw [if_pos g, b_26_51]
          · rw [if_neg g, b_26_14 hL, k1.2.2.2.2.1, if_pos ht, b_26_51]
        · have := so_c g1
          omega
  refine lvG_e (X := run (call e) 26 0 [vA 10, vI op, vX 0] [] M R) ?_ start
  rcases hs e M R B Z q H o mn (by omega) hL hZ hC hop (lo_m hlo (by decide)) hq hlen hc with ⟨M2, q2, P2, o2, c2, r1, F2, k2, p2, e2, w2, m1, m2, m3, y2, n2⟩ | ⟨M2, f, r1, F2, k2, y2⟩
  · have E : run (call e) 26 0 [vA 10, vI op, vX 0] [] M R = run (call e) 26 7 [vA 10, vI op, vI ((0 : Nat) : Int)] [] M2 R := by
      rw [b_26_0, r1, bsX, b_26_5]
      rfl
    rw [E]
    exact loop (Z - q2) M2 q2 0 P2 o2 c2 (by omega) F2 k2 (r_m p2 (by decide)) e2 w2 m1 m2 m3 y2 n2 (by omega)
  · refine .inr ⟨M2, f, ?_, F2, k2, y2⟩
    rw [b_26_0, r1, bsX, b_26_5]
    exact bad M2 f 0 k2

theorem w_27 {k : Nat} {op : Int} (hs : LVS 28 k 3 4 C1 op) (h3 : 3 ≤ k) : LVS 27 (k + 1) 2 2 C1 op := by
  intro d M R B Z q H o mn hd hL hZ hC hop hlo hq hlen hc
  obtain ⟨e, rfl⟩ : ∃ e, d = e + 1 := ⟨d - 1, by omega⟩
  have start : ∀ M', run (call e) 27 0 [vA 10, vI op, vX 0] [] M R = some (vX 0, M', R) → call (e + 1) 27 [vA 10, vI op] M R = some (vX 0, M', R) := fun M' h => call_of 3 [vA 10, vI op, vX 0] (by decide) rfl (Nat.le_of_ble_eq_true rfl) rfl h rfl
  have bad : ∀ (N : MM) (f i : Nat), cNo f N → run (call e) 27 7 [vA 10, vI op, vI i] [] N R = some (vX 0, N, R) := by
    intro N f i h
    rw [b_27_7]
    by_cases g : (160 : Int) ≤ i
    · rw [if_pos g, b_27_51]
    · rw [if_neg g, b_27_14 hL, h.1, if_pos (by decide), b_27_51]
  have loop : ∀ (n : Nat) (N : MM) (q' i : Nat) (P o' c : List Int), Z - q' ≤ n → Fx rdO M N → cOk B Z q' (o' ++ P) N → (∀ x ∈ P, 2 ≤ rk x) → o' ++ P = o ++ c → wfa c → q < q' → q' ≤ Z → o'.length + P.length + H.length ≤ q' → YR B Z q true mn H o = YR B Z q' false false (P ++ H) o' → nop 3 B Z q' (P ++ H) o' → i ≤ q' → lvG (run (call e) 27 7 [vA 10, vI op, vI i] [] N R) 2 B Z q mn H o M R := by
    intro n
    induction n with
    | zero =>
      intro N q' i P o' c hn F k1 hP he hw l1 l2 l3 y1 n1 hi
      have ht : ¬ tkK B Z q' = 8 := by
        intro ht
        have := tk_lt (B := B) l2 (by rw [ht]; decide)
        omega
      refine .inl ⟨N, q', P, o', c, ?_, F, k1, hP, he, hw, l1, l2, l3, y1, nop_m n1 (fun g1 g2 => ?_)⟩
      · rw [b_27_7]
        by_cases g : (160 : Int) ≤ i
        · rw [if_pos g, b_27_51]
        · rw [if_neg g, b_27_14 hL, k1.2.2.2.2.1, if_pos ht, b_27_51]
      · have := so_c g1
        omega
    | succ n ih =>
      intro N q' i P o' c hn F k1 hP he hw l1 l2 l3 y1 n1 hi
      by_cases ht : tkK B Z q' = 8
      · have lt := tk_lt (B := B) l2 (by rw [ht]; decide)
        have hb := tk_b B l2
        have ei : w32 ((i : Int) + 1) = ((i + 1 : Nat) : Int) := by rw [w32_i (by omega)]; omega
        obtain ⟨M1, r0, F1, c1⟩ := p_next (d0 := e) (by omega) hL l2 k1
        have hy := YR_on l2 (y_bin (v := tkV B Z q') (c := 12) (o := o') (by rw [ht]; decide) (by decide) (show rk 12 = 2 by decide) (by decide) hP hlo)
        rcases hs e M1 R B Z (tkE B Z q') (12 :: H) (o' ++ P) (decide ((12 : Int) ≤ 12)) (by omega) hL hZ c1 (by rw [opn_n (by decide)]; exact hop) (show rk 12 < 4 by decide) hb.2.2.2.1 (by rw [List.length_append, List.length_cons]; omega) (rfl) with ⟨M2, q2, P2, o2, c2, r1, F2, k2, p2, e2, w2, m1, m2, m3, y2, n2⟩ | ⟨M2, f, r1, F2, k2, y2⟩
        · rw [List.length_cons] at m3
          obtain ⟨M3, r3, F3, k3⟩ := p_put (d0 := e) (by omega) hL k2 (by rw [List.length_append]; omega) 12 10013 (by decide)
          have E : run (call e) 27 7 [vA 10, vI op, vI i] [] N R = run (call e) 27 7 [vA 10, vI op, vI ((i + 1 : Nat) : Int)] [] M3 R := by
            rw [b_27_7, if_neg (by omega), b_27_14 hL, k1.2.2.2.2.1, if_neg (not_not_intro ht), b_27_26 hL, r0, bsX, b_27_33, r1, bsX, b_27_38, r3, bsX, b_27_45, ei]
          rw [E]
          refine ih M3 q2 (i + 1) (P2 ++ [12]) o2 (c ++ c2 ++ [12]) (by omega) (Fx_t F (Fx_t F1 (Fx_t F2 F3))) (by rw [← List.append_assoc]; exact k3) (apc (r_m p2 (by decide)) (by decide)) ?_ (wfa_b hw w2 (by unfold isB; decide)) (by omega) m2 (by rw [List.length_append, List.length_singleton]; omega) ?_ ?_ (by omega)
          · rw [← List.append_assoc, e2, he, List.append_assoc, List.append_assoc, List.append_assoc]
          · rw [y1, hy, y2, ap1]
          · rw [ap1]
            exact nop_m n2 (fun _ g => by omega)
        · obtain ⟨M3, r3, F3, k3⟩ := f_25 (d0 := e) (by omega) hL k2 10013
          refine .inr ⟨M3, f, ?_, Fx_t F (Fx_t F1 (Fx_t F2 F3)), k3, by rw [y1, hy]; exact y2⟩
          rw [b_27_7, if_neg (by omega), b_27_14 hL, k1.2.2.2.2.1, if_neg (not_not_intro ht), b_27_26 hL, r0, bsX, b_27_33, r1, bsX, b_27_38, r3, bsX, b_27_45, ei]
          exact bad M3 f (i + 1) k3
      · refine .inl ⟨N, q', P, o', c, ?_, F, k1, hP, he, hw, l1, l2, l3, y1, nop_m n1 (fun g1 g2 => ?_)⟩
        · rw [b_27_7]
          by_cases g : (160 : Int) ≤ i
          · rw [if_pos g, b_27_51]
          · rw [if_neg g, b_27_14 hL, k1.2.2.2.2.1, if_pos ht, b_27_51]
        · have := so_c g1
          omega
  refine lvG_e (X := run (call e) 27 0 [vA 10, vI op, vX 0] [] M R) ?_ start
  rcases hs e M R B Z q H o mn (by omega) hL hZ hC hop (lo_m hlo (by decide)) hq hlen hc with ⟨M2, q2, P2, o2, c2, r1, F2, k2, p2, e2, w2, m1, m2, m3, y2, n2⟩ | ⟨M2, f, r1, F2, k2, y2⟩
  · have E : run (call e) 27 0 [vA 10, vI op, vX 0] [] M R = run (call e) 27 7 [vA 10, vI op, vI ((0 : Nat) : Int)] [] M2 R := by
      rw [b_27_0, r1, bsX, b_27_5]
      rfl
    rw [E]
    exact loop (Z - q2) M2 q2 0 P2 o2 c2 (by omega) F2 k2 (r_m p2 (by decide)) e2 w2 m1 m2 m3 y2 n2 (by omega)
  · refine .inr ⟨M2, f, ?_, F2, k2, y2⟩
    rw [b_27_0, r1, bsX, b_27_5]
    exact bad M2 f 0 k2

/-- ONE, taken as a level -/
theorem w_one {k : Nat} {op : Int} (h : OVS k op) : LVS 32 k 7 7 C2 op := by
  intro d M R B Z q H o mn hd hL hZ hC hop hlo hq hlen hc
  rcases h d M R B Z q H o mn hd hL hZ hC hop hq hlen hc with ⟨M2, q2, o2, c2, r1, F2, k2, e2, w2, m1, m2, m3, y2⟩ | ⟨M2, f, r1, F2, k2, y2⟩
  · rw [un_lo hlo] at y2
    refine .inl ⟨M2, q2, [], o2, c2, r1, F2, by rw [List.append_nil]; exact k2, fun x hx => absurd hx List.not_mem_nil, by rw [List.append_nil]; exact e2, w2, m1, m2, m3, y2, fun v g1 g2 => ?_⟩
    have := so_c g1
    omega
  · exact .inr ⟨M2, f, r1, F2, k2, y2⟩

theorem w_31 {k : Nat} {op : Int} (hs : LVS 32 k 7 7 C2 op) (h3 : 3 ≤ k) : LVS 31 (k + 1) 6 6 C2 op := by
  intro d M R B Z q H o mn hd hL hZ hC hop hlo hq hlen hc
  obtain ⟨e, rfl⟩ : ∃ e, d = e + 1 := ⟨d - 1, by omega⟩
  have start : ∀ M', run (call e) 31 0 [vA 10, vI op, vX 0] [] M R = some (vX 0, M', R) → call (e + 1) 31 [vA 10, vI op] M R = some (vX 0, M', R) := fun M' h => call_of 3 [vA 10, vI op, vX 0] (by decide) rfl (Nat.le_of_ble_eq_true rfl) rfl h rfl
  have bad : ∀ (N : MM) (f i : Nat), cNo f N → run (call e) 31 7 [vA 10, vI op, vI i] [] N R = some (vX 0, N, R) := by
    intro N f i h
    rw [b_31_7]
    by_cases g : (160 : Int) ≤ i
    · rw [if_pos g, b_31_51]
    · rw [if_neg g, b_31_14 hL, h.1, if_pos (by decide), b_31_51]
  have loop : ∀ (n : Nat) (N : MM) (q' i : Nat) (P o' c : List Int), Z - q' ≤ n → Fx rdO M N → cOk B Z q' (o' ++ P) N → (∀ x ∈ P, 6 ≤ rk x) → o' ++ P = o ++ c → wfa c → q < q' → q' ≤ Z → o'.length + P.length + H.length ≤ q' → YR B Z q true mn H o = YR B Z q' false false (P ++ H) o' → nop 7 B Z q' (P ++ H) o' → i ≤ q' → lvG (run (call e) 31 7 [vA 10, vI op, vI i] [] N R) 6 B Z q mn H o M R := by
    intro n
    induction n with
    | zero =>
      intro N q' i P o' c hn F k1 hP he hw l1 l2 l3 y1 n1 hi
      have ht : ¬ tkK B Z q' = 42 := by
        intro ht
        have := tk_lt (B := B) l2 (by rw [ht]; decide)
        omega
      refine .inl ⟨N, q', P, o', c, ?_, F, k1, hP, he, hw, l1, l2, l3, y1, nop_m n1 (fun g1 g2 => ?_)⟩
      · rw [b_31_7]
        by_cases g : (160 : Int) ≤ i
        · rw [if_pos g, b_31_51]
        · rw [if_neg g, b_31_14 hL, k1.2.2.2.2.1, if_pos ht, b_31_51]
      · have := so_c g1
        omega
    | succ n ih =>
      intro N q' i P o' c hn F k1 hP he hw l1 l2 l3 y1 n1 hi
      by_cases ht : tkK B Z q' = 42
      · have lt := tk_lt (B := B) l2 (by rw [ht]; decide)
        have hb := tk_b B l2
        have ei : w32 ((i : Int) + 1) = ((i + 1 : Nat) : Int) := by rw [w32_i (by omega)]; omega
        obtain ⟨M1, r0, F1, c1⟩ := p_next (d0 := e) (by omega) hL l2 k1
        have hy := YR_on l2 (y_bin (v := tkV B Z q') (c := 18) (o := o') (by rw [ht]; decide) (by decide) (show rk 18 = 6 by decide) (by decide) hP hlo)
        rcases hs e M1 R B Z (tkE B Z q') (18 :: H) (o' ++ P) (decide ((18 : Int) ≤ 12)) (by omega) hL hZ c1 (by rw [opn_n (by decide)]; exact hop) (show rk 18 < 7 by decide) hb.2.2.2.1 (by rw [List.length_append, List.length_cons]; omega) (fun q => absurd q (by decide)) with ⟨M2, q2, P2, o2, c2, r1, F2, k2, p2, e2, w2, m1, m2, m3, y2, n2⟩ | ⟨M2, f, r1, F2, k2, y2⟩
        · rw [List.length_cons] at m3
          obtain ⟨M3, r3, F3, k3⟩ := p_put (d0 := e) (by omega) hL k2 (by rw [List.length_append]; omega) 18 10018 (by decide)
          have E : run (call e) 31 7 [vA 10, vI op, vI i] [] N R = run (call e) 31 7 [vA 10, vI op, vI ((i + 1 : Nat) : Int)] [] M3 R := by
            rw [b_31_7, if_neg (by omega), b_31_14 hL, k1.2.2.2.2.1, if_neg (not_not_intro ht), b_31_26 hL, r0, bsX, b_31_33, r1, bsX, b_31_38, r3, bsX, b_31_45, ei]
          rw [E]
          refine ih M3 q2 (i + 1) (P2 ++ [18]) o2 (c ++ c2 ++ [18]) (by omega) (Fx_t F (Fx_t F1 (Fx_t F2 F3))) (by rw [← List.append_assoc]; exact k3) (apc (r_m p2 (by decide)) (by decide)) ?_ (wfa_b hw w2 (by unfold isB; decide)) (by omega) m2 (by rw [List.length_append, List.length_singleton]; omega) ?_ ?_ (by omega)
          · rw [← List.append_assoc, e2, he, List.append_assoc, List.append_assoc, List.append_assoc]
          · rw [y1, hy, y2, ap1]
          · rw [ap1]
            exact nop_m n2 (fun _ g => by omega)
        · obtain ⟨M3, r3, F3, k3⟩ := f_25 (d0 := e) (by omega) hL k2 10018
          refine .inr ⟨M3, f, ?_, Fx_t F (Fx_t F1 (Fx_t F2 F3)), k3, by rw [y1, hy]; exact y2⟩
          rw [b_31_7, if_neg (by omega), b_31_14 hL, k1.2.2.2.2.1, if_neg (not_not_intro ht), b_31_26 hL, r0, bsX, b_31_33, r1, bsX, b_31_38, r3, bsX, b_31_45, ei]
          exact bad M3 f (i + 1) k3
      · refine .inl ⟨N, q', P, o', c, ?_, F, k1, hP, he, hw, l1, l2, l3, y1, nop_m n1 (fun g1 g2 => ?_)⟩
        · rw [b_31_7]
          by_cases g : (160 : Int) ≤ i
          · rw [if_pos g, b_31_51]
          · rw [if_neg g, b_31_14 hL, k1.2.2.2.2.1, if_pos ht, b_31_51]
        · have := so_c g1
          omega
  refine lvG_e (X := run (call e) 31 0 [vA 10, vI op, vX 0] [] M R) ?_ start
  rcases hs e M R B Z q H o mn (by omega) hL hZ hC hop (lo_m hlo (by decide)) hq hlen hc with ⟨M2, q2, P2, o2, c2, r1, F2, k2, p2, e2, w2, m1, m2, m3, y2, n2⟩ | ⟨M2, f, r1, F2, k2, y2⟩
  · have E : run (call e) 31 0 [vA 10, vI op, vX 0] [] M R = run (call e) 31 7 [vA 10, vI op, vI ((0 : Nat) : Int)] [] M2 R := by
      rw [b_31_0, r1, bsX, b_31_5]
      rfl
    rw [E]
    exact loop (Z - q2) M2 q2 0 P2 o2 c2 (by omega) F2 k2 (r_m p2 (by decide)) e2 w2 m1 m2 m3 y2 n2 (by omega)
  · refine .inr ⟨M2, f, ?_, F2, k2, y2⟩
    rw [b_31_0, r1, bsX, b_31_5]
    exact bad M2 f 0 k2

theorem w_30 {k : Nat} {op : Int} (hs : LVS 31 k 6 6 C2 op) (h3 : 3 ≤ k) : LVS 30 (k + 1) 5 5 C2 op := by
  intro d M R B Z q H o mn hd hL hZ hC hop hlo hq hlen hc
  obtain ⟨e, rfl⟩ : ∃ e, d = e + 1 := ⟨d - 1, by omega⟩
  have start : ∀ M', run (call e) 30 0 [vA 10, vI op, vX 0, vX 0] [] M R = some (vX 0, M', R) → call (e + 1) 30 [vA 10, vI op] M R = some (vX 0, M', R) := fun M' h => call_of 4 [vA 10, vI op, vX 0, vX 0] (by decide) rfl (Nat.le_of_ble_eq_true rfl) rfl h rfl
  have bad : ∀ (N : MM) (f i : Nat) (u : AV), cNo f N → run (call e) 30 7 [vA 10, vI op, vI i, u] [] N R = some (vX 0, N, R) := by
    intro N f i u h
    rw [b_30_7]
    by_cases g : (160 : Int) ≤ i
    · rw [if_pos g, b_30_83]
    · rw [if_neg g, b_30_14 hL, h.1, if_neg (by decide), b_30_26 hL, h.1, if_pos (by decide), b_30_83]
  have loop : ∀ (n : Nat) (N : MM) (q' i : Nat) (u : AV) (P o' c : List Int), Z - q' ≤ n → Fx rdO M N → cOk B Z q' (o' ++ P) N → (∀ x ∈ P, 5 ≤ rk x) → o' ++ P = o ++ c → wfa c → q < q' → q' ≤ Z → o'.length + P.length + H.length ≤ q' → YR B Z q true mn H o = YR B Z q' false false (P ++ H) o' → nop 6 B Z q' (P ++ H) o' → i ≤ q' → lvG (run (call e) 30 7 [vA 10, vI op, vI i, u] [] N R) 5 B Z q mn H o M R := by
    intro n
    induction n with
    | zero =>
      intro N q' i u P o' c hn F k1 hP he hw l1 l2 l3 y1 n1 hi
      have ht : ¬ (tkK B Z q' = 43 ∨ tkK B Z q' = 45) := by
        intro ht
        have := tk_lt (B := B) l2 (by omega)
        omega
      refine .inl ⟨N, q', P, o', c, ?_, F, k1, hP, he, hw, l1, l2, l3, y1, nop_m n1 (fun g1 g2 => ?_)⟩
      · rw [b_30_7]
        by_cases g : (160 : Int) ≤ i
        · rw [if_pos g, b_30_83]
        · rw [if_neg g, b_30_14 hL, k1.2.2.2.2.1, if_neg (by omega), b_30_26 hL, k1.2.2.2.2.1, if_pos (by omega), b_30_83]
      · have := so_c g1
        omega
    | succ n ih =>
      intro N q' i u P o' c hn F k1 hP he hw l1 l2 l3 y1 n1 hi
      by_cases ht : tkK B Z q' = 43 ∨ tkK B Z q' = 45
      · have lt := tk_lt (B := B) l2 (by omega)
        have hb := tk_b B l2
        have ei : w32 ((i : Int) + 1) = ((i + 1 : Nat) : Int) := by rw [w32_i (by omega)]; omega
        obtain ⟨s, hs1, hs2, hs3, hs4⟩ : ∃ s : Int, so (tkK B Z q') = s ∧ (s = 16 ∨ s = 17) ∧ rk s = 5 ∧ ((tkK B Z q' = 43 ∧ s = 16) ∨ (tkK B Z q' = 45 ∧ s = 17)) := by
          rcases ht with g | g
          · exact ⟨16, by rw [g]; decide, by decide, by decide, .inl ⟨g, rfl⟩⟩
          · exact ⟨17, by rw [g]; decide, by decide, by decide, .inr ⟨g, rfl⟩⟩
        obtain ⟨M1, r0, F1, c1⟩ := p_next (d0 := e) (by omega) hL l2 k1
        have hy := YR_on l2 (y_bin (v := tkV B Z q') (c := s) (o := o') hs1 (by omega) hs3 (by decide) hP hlo)
        have go0 : run (call e) 30 7 [vA 10, vI op, vI i, u] [] N R = run (call e) 30 53 [vA 10, vI op, vI i, vI (tkK B Z q')] [] M1 R := by
          have q38 : run (call e) 30 38 [vA 10, vI op, vI i, u] [] N R = run (call e) 30 53 [vA 10, vI op, vI i, vI (tkK B Z q')] [] M1 R := by
            rw [b_30_38 hL, r0, bsX, k1.2.2.2.2.1]
          rw [b_30_7, if_neg (by omega), b_30_14 hL, k1.2.2.2.2.1]
          rcases ht with g | g
          · rw [if_pos g, q38]
          · rw [if_neg (by omega), b_30_26 hL, k1.2.2.2.2.1, if_neg (by omega), q38]
        have go1 : ∀ N' : MM, run (call e) 30 58 [vA 10, vI op, vI i, vI (tkK B Z q')] [] N' R = (call e 25 [vA 10, vI (10000 + s)] N' R).bind (fun q => run (call e) 30 77 [vA 10, vI op, vI i, vI (tkK B Z q')] (pushv q.1 []) q.2.1 q.2.2) := by
          intro N'
          rw [b_30_58]
          rcases hs4 with ⟨g, g'⟩ | ⟨g, g'⟩
          · rw [if_neg (by omega), b_30_65, b_30_74, g']
            rfl
          · rw [if_pos (by omega), b_30_71, b_30_74, g']
            rfl
        rcases hs e M1 R B Z (tkE B Z q') (s :: H) (o' ++ P) (decide (s ≤ 12)) (by omega) hL hZ c1 (by rw [opn_n (by omega)]; exact hop) (show rk s < 6 by omega) hb.2.2.2.1 (by rw [List.length_append, List.length_cons]; omega) (fun q => absurd q (by rw [decide_eq_true_eq]; omega)) with ⟨M2, q2, P2, o2, c2, r1, F2, k2, p2, e2, w2, m1, m2, m3, y2, n2⟩ | ⟨M2, f, r1, F2, k2, y2⟩
        · have go : run (call e) 30 7 [vA 10, vI op, vI i, u] [] N R = (call e 25 [vA 10, vI (10000 + s)] M2 R).bind (fun q => run (call e) 30 77 [vA 10, vI op, vI i, vI (tkK B Z q')] (pushv q.1 []) q.2.1 q.2.2) := by
            rw [go0, b_30_53, r1, bsX, go1]
          rw [List.length_cons] at m3
          obtain ⟨M3, r3, F3, k3⟩ := p_put (d0 := e) (by omega) hL k2 (by rw [List.length_append]; omega) s (10000 + s) (by rcases hs2 with g | g <;> subst g <;> decide)
          have E : run (call e) 30 7 [vA 10, vI op, vI i, u] [] N R = run (call e) 30 7 [vA 10, vI op, vI ((i + 1 : Nat) : Int), vI (tkK B Z q')] [] M3 R := by
            rw [go, r3, bsX, b_30_77, ei]
          rw [E]
          refine ih M3 q2 (i + 1) _ (P2 ++ [s]) o2 (c ++ c2 ++ [s]) (by omega) (Fx_t F (Fx_t F1 (Fx_t F2 F3))) (by rw [← List.append_assoc]; exact k3) (apc (r_m p2 (by decide)) (by omega)) ?_ (wfa_b hw w2 (by unfold isB; omega)) (by omega) m2 (by rw [List.length_append, List.length_singleton]; omega) ?_ ?_ (by omega)
          · rw [← List.append_assoc, e2, he, List.append_assoc, List.append_assoc, List.append_assoc]
          · rw [y1, hy, y2, ap1]
          · rw [ap1]
            exact nop_m n2 (fun _ g => by omega)
        · have go : run (call e) 30 7 [vA 10, vI op, vI i, u] [] N R = (call e 25 [vA 10, vI (10000 + s)] M2 R).bind (fun q => run (call e) 30 77 [vA 10, vI op, vI i, vI (tkK B Z q')] (pushv q.1 []) q.2.1 q.2.2) := by
            rw [go0, b_30_53, r1, bsX, go1]
          obtain ⟨M3, r3, F3, k3⟩ := f_25 (d0 := e) (by omega) hL k2 (10000 + s)
          refine .inr ⟨M3, f, ?_, Fx_t F (Fx_t F1 (Fx_t F2 F3)), k3, by rw [y1, hy]; exact y2⟩
          rw [go, r3, bsX, b_30_77, ei]
          exact bad M3 f (i + 1) _ k3
      · refine .inl ⟨N, q', P, o', c, ?_, F, k1, hP, he, hw, l1, l2, l3, y1, nop_m n1 (fun g1 g2 => ?_)⟩
        · rw [b_30_7]
          by_cases g : (160 : Int) ≤ i
          · rw [if_pos g, b_30_83]
          · rw [if_neg g, b_30_14 hL, k1.2.2.2.2.1, if_neg (by omega), b_30_26 hL, k1.2.2.2.2.1, if_pos (by omega), b_30_83]
        · have := so_c g1
          omega
  refine lvG_e (X := run (call e) 30 0 [vA 10, vI op, vX 0, vX 0] [] M R) ?_ start
  rcases hs e M R B Z q H o mn (by omega) hL hZ hC hop (lo_m hlo (by decide)) hq hlen hc with ⟨M2, q2, P2, o2, c2, r1, F2, k2, p2, e2, w2, m1, m2, m3, y2, n2⟩ | ⟨M2, f, r1, F2, k2, y2⟩
  · have E : run (call e) 30 0 [vA 10, vI op, vX 0, vX 0] [] M R = run (call e) 30 7 [vA 10, vI op, vI ((0 : Nat) : Int), vX 0] [] M2 R := by
      rw [b_30_0, r1, bsX, b_30_5]
      rfl
    rw [E]
    exact loop (Z - q2) M2 q2 0 (vX 0) P2 o2 c2 (by omega) F2 k2 (r_m p2 (by decide)) e2 w2 m1 m2 m3 y2 n2 (by omega)
  · refine .inr ⟨M2, f, ?_, F2, k2, y2⟩
    rw [b_30_0, r1, bsX, b_30_5]
    exact bad M2 f 0 (vX 0) k2

theorem w_29 {k : Nat} {op : Int} (hs : LVS 30 k 5 5 C2 op) (h3 : 3 ≤ k) : LVS 29 (k + 1) 4 4 C2 op := by
  intro d M R B Z q H o mn hd hL hZ hC hop hlo hq hlen hc
  obtain ⟨e, rfl⟩ : ∃ e, d = e + 1 := ⟨d - 1, by omega⟩
  have start : ∀ M', run (call e) 29 0 [vA 10, vI op, vX 0] [] M R = some (vX 0, M', R) → call (e + 1) 29 [vA 10, vI op] M R = some (vX 0, M', R) := fun M' h => call_of 3 [vA 10, vI op, vX 0] (by decide) rfl (Nat.le_of_ble_eq_true rfl) rfl h rfl
  refine lvG_e (X := run (call e) 29 0 [vA 10, vI op, vX 0] [] M R) ?_ start
  rcases hs e M R B Z q H o mn (by omega) hL hZ hC hop (lo_m hlo (by decide)) hq hlen hc with ⟨N, q', P, o', c, r9, F, k1, hP, he, hw, l1, l2, l3, y1, n1⟩ | ⟨M2, f, r1, F2, k2, y2⟩
  · by_cases ht : tkK B Z q' = 60 ∨ tkK B Z q' = 61
    · have lt := tk_lt (B := B) l2 (by omega)
      have hb := tk_b B l2
      obtain ⟨s, hs1, hs2, hs3, hs4⟩ : ∃ s : Int, so (tkK B Z q') = s ∧ (s = 14 ∨ s = 15) ∧ rk s = 4 ∧ ((tkK B Z q' = 60 ∧ s = 14) ∨ (tkK B Z q' = 61 ∧ s = 15)) := by
        rcases ht with g | g
        · exact ⟨14, by rw [g]; decide, by decide, by decide, .inl ⟨g, rfl⟩⟩
        · exact ⟨15, by rw [g]; decide, by decide, by decide, .inr ⟨g, rfl⟩⟩
      obtain ⟨M1, r0, F1, c1⟩ := p_next (d0 := e) (by omega) hL l2 k1
      have go0 : run (call e) 29 0 [vA 10, vI op, vX 0] [] M R = run (call e) 29 32 [vA 10, vI op, vI (tkK B Z q')] [] M1 R := by
        have q25 : run (call e) 29 25 [vA 10, vI op, vI (tkK B Z q')] [] N R = run (call e) 29 32 [vA 10, vI op, vI (tkK B Z q')] [] M1 R := by
          rw [b_29_25 hL, r0, bsX]
        rw [b_29_0, r9, bsX, b_29_5 hL, k1.2.2.2.2.1]
        rcases ht with g | g
        · rw [if_pos g, q25]
        · rw [if_neg (by omega), b_29_19, if_neg (by omega), q25]
      have go1 : ∀ N' : MM, run (call e) 29 37 [vA 10, vI op, vI (tkK B Z q')] [] N' R = (call e 25 [vA 10, vI (10000 + s)] N' R).bind (fun q => run (call e) 29 56 [vA 10, vI op, vI (tkK B Z q')] (pushv q.1 []) q.2.1 q.2.2) := by
        intro N'
        rw [b_29_37]
        rcases hs4 with ⟨g, g'⟩ | ⟨g, g'⟩
        · rw [if_neg (by omega), b_29_44, b_29_53, g']
          rfl
        · rw [if_pos (by omega), b_29_50, b_29_53, g']
          rfl
      have hy := YR_on l2 (y_cmp (v := tkV B Z q') (c := s) (o := o') hs1 (by omega) hs3 hP hlo)
      rcases hs e M1 R B Z (tkE B Z q') (s :: H) (o' ++ P) (decide (s ≤ 12)) (by omega) hL hZ c1 (by rw [opn_n (by omega)]; exact hop) (show rk s < 5 by omega) hb.2.2.2.1 (by rw [List.length_append, List.length_cons]; omega) (fun q => absurd q (by rw [decide_eq_true_eq]; omega)) with ⟨M2, q2, P2, o2, c2, r1, F2, k2, p2, e2, w2, m1, m2, m3, y2, n2⟩ | ⟨M2, f, r1, F2, k2, y2⟩
      · rw [List.length_cons] at m3
        obtain ⟨M3, r3, F3, k3⟩ := p_put (d0 := e) (by omega) hL k2 (by rw [List.length_append]; omega) s (10000 + s) (by rcases hs2 with g | g <;> subst g <;> decide)
        refine .inl ⟨M3, q2, P2 ++ [s], o2, c ++ c2 ++ [s], ?_, Fx_t F (Fx_t F1 (Fx_t F2 F3)), by rw [← List.append_assoc]; exact k3, apc (r_m p2 (by decide)) (by omega), ?_, wfa_b hw w2 (by unfold isB; omega), by omega, m2, by rw [List.length_append, List.length_singleton]; omega, ?_, ?_⟩
        · rw [go0, b_29_32, r1, bsX, go1, r3, bsX, b_29_56]
        · rw [← List.append_assoc, e2, he, List.append_assoc, List.append_assoc, List.append_assoc]
        · rw [y1, hy, y2, ap1]
        · rw [ap1]
          intro v g1 g2
          by_cases g5 : 5 ≤ rk (so (tkK B Z q2))
          · exact n2 v g1 g5
          · exact y_no (by omega) g1 hs3 p2
      · obtain ⟨M3, r3, F3, k3⟩ := f_25 (d0 := e) (by omega) hL k2 (10000 + s)
        refine .inr ⟨M3, f, ?_, Fx_t F (Fx_t F1 (Fx_t F2 F3)), k3, by rw [y1, hy]; exact y2⟩
        rw [go0, b_29_32, r1, bsX, go1, r3, bsX, b_29_56]
    · refine .inl ⟨N, q', P, o', c, ?_, F, k1, r_m hP (by decide), he, hw, l1, l2, l3, y1, nop_m n1 (fun g1 g2 => ?_)⟩
      · rw [b_29_0, r9, bsX, b_29_5 hL, k1.2.2.2.2.1, if_neg (by omega), b_29_19, if_pos (by omega), b_29_56]
      · have := so_c g1
        omega
  · refine .inr ⟨M2, f, ?_, F2, k2, y2⟩
    rw [b_29_0, r1, bsX, b_29_5 hL, k2.1, if_neg (by decide), b_29_19, if_pos (by decide), b_29_56]
theorem w_28 {k : Nat} {op : Int} (h5 : op ≤ 5) (hs : LVS 29 k 4 4 C2 op) (hn : op < 5 → LVS 28 k 3 4 C1 (op + 1)) (h3 : 3 ≤ k) (h0 : 0 ≤ op) : LVS 28 (k + 1) 3 4 C1 op := by
  intro d M R B Z q H o mn hd hL hZ hC hop hlo hq hlen hc
  obtain ⟨e, rfl⟩ : ∃ e, d = e + 1 := ⟨d - 1, by omega⟩
  have start : ∀ M', run (call e) 28 0 [vA 10, vI op] [] M R = some (vX 0, M', R) → call (e + 1) 28 [vA 10, vI op] M R = some (vX 0, M', R) := fun M' h => call_of 2 [vA 10, vI op] (by decide) rfl (Nat.le_of_ble_eq_true rfl) rfl h rfl
  refine lvG_e (X := run (call e) 28 0 [vA 10, vI op] [] M R) ?_ start
  have hc : mn = true := hc
  subst hc
  by_cases ht : tkK B Z q = 9
  · have lt := tk_lt (B := B) hq (by rw [ht]; decide)
    have hb := tk_b B hq
    by_cases g5 : op < 5
    · obtain ⟨M1, r0, F1, c1⟩ := p_next (d0 := e) (by omega) hL hq hC
      have e1 : w32 (op + 1) = op + 1 := w32_i (by omega)
      have hy : YR B Z q true true H o = YR B Z (tkE B Z q) true true (13 :: H) o := YR_on hq (by
        unfold yst
        rw [if_pos rfl, if_neg (by omega), if_pos ⟨ht, rfl⟩, if_neg (by omega)])
      rcases hn g5 e M1 R B Z (tkE B Z q) (13 :: H) o true (by omega) hL hZ c1 (by rw [opn_o (by decide)]; omega) (show rk 13 < 4 by decide) hb.2.2.2.1 (by rw [List.length_cons]; omega) rfl with ⟨M2, q2, P2, o2, c2, r1, F2, k2, p2, e2, w2, m1, m2, m3, y2, n2⟩ | ⟨M2, f, r1, F2, k2, y2⟩
      · rw [List.length_cons] at m3
        obtain ⟨M3, r3, F3, k3⟩ := p_put (d0 := e) (by omega) hL k2 (by rw [List.length_append]; omega) 13 10011 (by decide)
        refine .inl ⟨M3, q2, P2 ++ [13], o2, c2 ++ [13], ?_, Fx_t F1 (Fx_t F2 F3), by rw [← List.append_assoc]; exact k3, apc p2 (by decide), ?_, wfa_u w2 (by unfold isU; decide), by omega, m2, by rw [List.length_append, List.length_singleton]; omega, by rw [hy, y2, ap1], by rw [ap1]; exact n2⟩
        · rw [b_28_0 hL, hC.2.2.2.2.1, if_pos ht, b_28_20, if_pos g5, b_28_32 hL, r0, bsX, b_28_39, e1, r1, bsX, b_28_46, r3, bsX, b_28_53]
        · rw [← List.append_assoc, e2, List.append_assoc]
      · obtain ⟨M3, r3, F3, k3⟩ := f_25 (d0 := e) (by omega) hL k2 10011
        refine .inr ⟨M3, f, ?_, Fx_t F1 (Fx_t F2 F3), k3, by rw [hy]; exact y2⟩
        rw [b_28_0 hL, hC.2.2.2.2.1, if_pos ht, b_28_20, if_pos g5, b_28_32 hL, r0, bsX, b_28_39, e1, r1, bsX, b_28_46, r3, bsX, b_28_53]
    · obtain ⟨M3, r3, F3, k3⟩ := p_fail (d0 := e) (by omega) hL (by omega) hC
      refine .inr ⟨M3, _, ?_, F3, k3, YR_no hq ?_⟩
      · rw [b_28_0 hL, hC.2.2.2.2.1, if_pos ht, b_28_20, if_neg g5, b_28_25, r3, bsX, b_28_29, b_28_53]
      · unfold yst
        rw [if_pos rfl, if_neg (by omega), if_pos ⟨ht, rfl⟩, if_pos (by omega)]
  · refine lvG_e (X := call e 29 [vA 10, vI op] M R) ?_ (fun M' h => by rw [b_28_0 hL, hC.2.2.2.2.1, if_neg ht, b_28_12, h, bsX, b_28_17, b_28_53])
    rcases hs e M R B Z q H o true (by omega) hL hZ hC hop hlo hq hlen (fun _ => ht) with ⟨M2, q2, P2, o2, c2, r1, F2, k2, p2, e2, w2, m1, m2, m3, y2, n2⟩ | ⟨M2, f, r1, F2, k2, y2⟩
    · refine .inl ⟨M2, q2, P2, o2, c2, r1, F2, k2, r_m p2 (by decide), e2, w2, m1, m2, m3, y2, nop_m n2 (fun g1 g2 => ?_)⟩
      have := so_c g1
      omega
    · exact .inr ⟨M2, f, r1, F2, k2, y2⟩
theorem un_c {x : Int} {H o : List Int} (h : 7 ≤ rk x) : un 7 (x :: H) o = un 7 H (o ++ [x]) := if_pos h
theorem lvO_e {X X' : Option Res} {B : Nat → Int} {Z q : Nat} {mn : Bool} {H o : List Int} {M : MM} {R : RR} (h : lvO X B Z q mn H o M R) (hx : ∀ M', X = some (vX 0, M', R) → X' = some (vX 0, M', R)) : lvO X' B Z q mn H o M R := by
  rcases h with ⟨M', q', o', c, h1, h2⟩ | ⟨M', f, h1, h2⟩
  · exact .inl ⟨M', q', o', c, hx M' h1, h2⟩
  · exact .inr ⟨M', f, hx M' h1, h2⟩
theorem w_32 {k : Nat} {op : Int} (h0 : 0 ≤ op) (h5 : op ≤ 5) (ha : op < 5 → LVS 26 k 1 1 C1 (op + 1)) (hn : op < 5 → OVS k (op + 1)) (h3 : 4 ≤ k) : OVS (k + 1) op := by
  intro d M R B Z q H o mn hd hL hZ hC hop hq hlen hc
  obtain ⟨e, rfl⟩ : ∃ e, d = e + 1 := ⟨d - 1, by omega⟩
  have start : ∀ M', run (call e) 32 0 [vA 10, vI op, vX 0] [] M R = some (vX 0, M', R) → call (e + 1) 32 [vA 10, vI op] M R = some (vX 0, M', R) := fun M' h => call_of 3 [vA 10, vI op, vX 0] (by decide) rfl (Nat.le_of_ble_eq_true rfl) rfl h rfl
  refine lvO_e (X := run (call e) 32 0 [vA 10, vI op, vX 0] [] M R) ?_ start
  have hb := tk_b B hq
  have hv := tk_v B hq
  have e1 : w32 (op + 1) = op + 1 := w32_i (by omega)
  have val : ∀ (N : MM) (v : Int), cOk B Z q (o ++ [v]) N → Fx rdO M N → isV v → ¬ tkK B Z q = 0 → yst (tkK B Z q) (tkV B Z q) true mn H o = some (.inl (false, false, un 7 H (o ++ [v]))) → (∀ M', call e 49 [vA 8] N R = some (vX 0, M', R) → run (call e) 32 0 [vA 10, vI op, vX 0] [] M R = some (vX 0, M', R)) → lvO (run (call e) 32 0 [vA 10, vI op, vX 0] [] M R) B Z q mn H o M R := by
    intro N v hN F hv k0 hy hr
    have lt := tk_lt (B := B) hq k0
    obtain ⟨M1, r0, F1, c1⟩ := p_next (d0 := e) (by omega) hL hq hN
    exact .inl ⟨M1, tkE B Z q, o ++ [v], [v], hr M1 r0, Fx_t F F1, c1, rfl, wfa_v hv, lt.1, hb.2.2.2.1, by rw [List.length_append, List.length_singleton]; omega, YR_on hq hy⟩
  have tok := hC.2.2.2.2.1
  by_cases t2 : tkK B Z q = 2
  · have lt := tk_lt (B := B) hq (by omega)
    have hv2 := hv.1 t2
    have hx : tkV B Z q = xop (100000 + tkV B Z q) := by
      unfold xop
      simp (disch := omega) only [if_neg, if_pos]
      omega
    obtain ⟨M1, r0, F1, c1⟩ := p_put (d0 := e) (by omega) hL hC (by omega) (100000 + tkV B Z q) (tkV B Z q) hx
    refine val M1 _ c1 F1 (by unfold isV; omega) (by omega) ?_ (fun M' h => ?_)
    · unfold yst
      rw [if_pos rfl, if_pos (.inl t2), if_pos t2]
    · rw [b_32_0 hL, tok, if_neg (not_not_intro t2), b_32_13 hL, hC.2.2.2.2.2.1 (.inl t2), r0, bsX, b_32_24 hL, h, bsX, b_32_31, b_32_137]
  by_cases t3 : tkK B Z q = 3
  · have lt := tk_lt (B := B) hq (by omega)
    have hv2 := hv.2 t3
    have hx : 10000 + tkV B Z q = xop (tkV B Z q) := by
      unfold xop
      simp (disch := omega) only [if_neg, if_pos]
      omega
    obtain ⟨M1, r0, F1, c1⟩ := p_put (d0 := e) (by omega) hL hC (by omega) (tkV B Z q) (10000 + tkV B Z q) hx
    refine val M1 _ c1 F1 (by unfold isV; omega) (by omega) ?_ (fun M' h => ?_)
    · unfold yst
      rw [if_pos rfl, if_pos (.inr t3), if_neg t2]
    · rw [b_32_0 hL, tok, if_pos t2, b_32_34, if_neg (not_not_intro t3), b_32_39 hL, hC.2.2.2.2.2.1 (.inr t3), w32_i (by omega), r0, bsX, b_32_54 hL, h, bsX, b_32_61, b_32_137]
  have q64 : run (call e) 32 0 [vA 10, vI op, vX 0] [] M R = run (call e) 32 64 [vA 10, vI op, vI (tkK B Z q)] [] M R := by
    rw [b_32_0 hL, tok, if_pos t2, b_32_34, if_pos t3]
  have hc9 : ¬ (tkK B Z q = 9 ∧ mn = true) := fun g => hc g.2 g.1
  have nofail : yst (tkK B Z q) (tkV B Z q) true mn H o = none → run (call e) 32 64 [vA 10, vI op, vI (tkK B Z q)] [] M R = run (call e) 32 133 [vA 10, vI op, vI (tkK B Z q)] [] M R → lvO (run (call e) 32 0 [vA 10, vI op, vX 0] [] M R) B Z q mn H o M R := by
    intro hy hr
    obtain ⟨M3, r3, F3, k3⟩ := p_fail (d0 := e) (by omega) hL (by omega) hC
    refine .inr ⟨M3, _, ?_, F3, k3, YR_no hq hy⟩
    rw [q64, hr, b_32_133, r3, bsX, b_32_137]
  by_cases g5 : op < 5
  · by_cases t45 : tkK B Z q = 45
    · have lt := tk_lt (B := B) hq (by omega)
      obtain ⟨M1, r0, F1, c1⟩ := p_next (d0 := e) (by omega) hL hq hC
      have hy : YR B Z q true mn H o = YR B Z (tkE B Z q) true false (19 :: H) o := YR_on hq (by
        unfold yst
        rw [if_pos rfl, if_neg (by omega), if_neg hc9, if_pos t45, if_neg (by omega)])
      rcases hn g5 e M1 R B Z (tkE B Z q) (19 :: H) o false (by omega) hL hZ c1 (by rw [opn_o (by decide)]; omega) hb.2.2.2.1 (by rw [List.length_cons]; omega) (fun g => absurd g (by decide)) with ⟨M2, q2, o2, c2, r1, F2, k2, e2, w2, m1, m2, m3, y2⟩ | ⟨M2, f, r1, F2, k2, y2⟩
      · rw [List.length_cons] at m3
        obtain ⟨M3, r3, F3, k3⟩ := p_put (d0 := e) (by omega) hL k2 (by omega) 19 10010 (by decide)
        refine .inl ⟨M3, q2, o2 ++ [19], c2 ++ [19], ?_, Fx_t F1 (Fx_t F2 F3), k3, ?_, wfa_u w2 (by unfold isU; decide), by omega, m2, by rw [List.length_append, List.length_singleton]; omega, ?_⟩
        · rw [q64, b_32_64, if_neg (not_not_intro t45), b_32_70, if_neg (by omega), b_32_75 hL, r0, bsX, b_32_82, e1, r1, bsX, b_32_89, r3, bsX, b_32_96, b_32_137]
        · rw [e2, List.append_assoc]
        · rw [hy, y2, un_c (by decide)]
      · obtain ⟨M3, r3, F3, k3⟩ := f_25 (d0 := e) (by omega) hL k2 10010
        refine .inr ⟨M3, f, ?_, Fx_t F1 (Fx_t F2 F3), k3, by rw [hy]; exact y2⟩
        rw [q64, b_32_64, if_neg (not_not_intro t45), b_32_70, if_neg (by omega), b_32_75 hL, r0, bsX, b_32_82, e1, r1, bsX, b_32_89, r3, bsX, b_32_96, b_32_137]
    by_cases t40 : tkK B Z q = 40
    · have lt := tk_lt (B := B) hq (by omega)
      obtain ⟨M1, r0, F1, c1⟩ := p_next (d0 := e) (by omega) hL hq hC
      have hy : YR B Z q true mn H o = YR B Z (tkE B Z q) true true (0 :: H) o := YR_on hq (by
        unfold yst
        rw [if_pos rfl, if_neg (by omega), if_neg hc9, if_neg t45, if_pos t40, if_neg (by omega)])
      have q117 : run (call e) 32 0 [vA 10, vI op, vX 0] [] M R = run (call e) 32 117 [vA 10, vI op, vI (tkK B Z q)] [] M1 R := by
        rw [q64, b_32_64, if_pos t45, b_32_99, if_neg (not_not_intro t40), b_32_105, if_neg (by omega), b_32_110 hL, r0, bsX]
      rcases ha g5 e M1 R B Z (tkE B Z q) (0 :: H) o true (by omega) hL hZ c1 (by rw [opn_o (by decide)]; omega) (show rk 0 < 1 by decide) hb.2.2.2.1 (by rw [List.length_cons]; omega) rfl with ⟨M2, q2, P2, o2, c2, r1, F2, k2, p2, e2, w2, m1, m2, m3, y2, n2⟩ | ⟨M2, f, r1, F2, k2, y2⟩
      · rw [List.length_cons] at m3
        have hu : un 1 (P2 ++ 0 :: H) o2 = (0 :: H, o2 ++ P2) := by rw [un_app p2, un_lo (show lo 1 (0 :: H) from by show rk 0 < 1; decide)]
        have hb2 := tk_b B m2
        by_cases t41 : tkK B Z q2 = 41
        · have lt2 := tk_lt (B := B) m2 (by omega)
          obtain ⟨M3, r3, F3, k3⟩ := p_take (d0 := e) (by omega) hL m2 k2 41 t41
          have hy2 : YR B Z q2 false false (P2 ++ 0 :: H) o2 = YR B Z (tkE B Z q2) false false (un 7 H (o2 ++ P2)).1 (un 7 H (o2 ++ P2)).2 := YR_on m2 (by
            unfold yst
            rw [if_neg (by decide), if_neg (by omega), if_pos t41, hu, if_neg (List.cons_ne_nil _ _)]
            rfl)
          refine .inl ⟨M3, tkE B Z q2, o2 ++ P2, c2, ?_, Fx_t F1 (Fx_t F2 F3), k3, e2, w2, by omega, hb2.2.2.2.1, by rw [List.length_append]; omega, by rw [hy, y2, hy2]⟩
          rw [q117, b_32_117, e1, r1, bsX, b_32_124, r3, bsX, b_32_130, b_32_137]
        · obtain ⟨M3, r3, F3, k3⟩ := p_notake (d0 := e) (by omega) hL (by rw [List.length_append]; omega) k2 41 t41
          refine .inr ⟨M3, _, ?_, Fx_t F1 (Fx_t F2 F3), k3, ?_⟩
          · rw [q117, b_32_117, e1, r1, bsX, b_32_124, r3, bsX, b_32_130, b_32_137]
          · rw [hy, y2]
            refine YR_no m2 ?_
            by_cases gs : so (tkK B Z q2) = -1
            · unfold yst
              rw [if_neg (by decide), hu]
              by_cases t59 : tkK B Z q2 = 59
              · rw [if_pos t59, if_neg (List.cons_ne_nil _ _)]
              · rw [if_neg t59, if_neg t41, if_pos gs]
            · exact n2 _ gs (by have := so_c gs; omega)
      · obtain ⟨M3, r3, F3, k3⟩ := f_24 (d0 := e) (by omega) hL k2 41 (by decide)
        refine .inr ⟨M3, f, ?_, Fx_t F1 (Fx_t F2 F3), k3, by rw [hy]; exact y2⟩
        rw [q117, b_32_117, e1, r1, bsX, b_32_124, r3, bsX, b_32_130, b_32_137]
    · refine nofail ?_ ?_
      · unfold yst
        rw [if_pos rfl, if_neg (by omega), if_neg hc9, if_neg t45, if_neg t40]
      · rw [b_32_64, if_pos t45, b_32_99, if_pos t40]
  · refine nofail ?_ ?_
    · unfold yst
      rw [if_pos rfl, if_neg (by omega), if_neg hc9]
      by_cases t45 : tkK B Z q = 45
      · rw [if_pos t45, if_pos (by omega)]
      · rw [if_neg t45]
        by_cases t40 : tkK B Z q = 40
        · rw [if_pos t40, if_pos (by omega)]
        · rw [if_neg t40]
    · rw [b_32_64]
      by_cases t45 : tkK B Z q = 45
      · rw [if_neg (not_not_intro t45), b_32_70, if_pos (by omega), b_32_99, if_pos (by omega)]
      · rw [if_pos t45, b_32_99]
        by_cases t40 : tkK B Z q = 40
        · rw [if_neg (not_not_intro t40), b_32_105, if_pos (by omega)]
        · rw [if_pos t40]
theorem lvs_m {mi k k' : Nat} {lev pre : Int} {C : Bool → Int → Prop} {op : Int} (h : LVS mi k lev pre C op) (hk : k ≤ k') : LVS mi k' lev pre C op := fun d M R B Z q H o mn hd => h d M R B Z q H o mn (by omega)
theorem ovs_m {k k' : Nat} {op : Int} (h : OVS k op) (hk : k ≤ k') : OVS k' op := fun d M R B Z q H o mn hd => h d M R B Z q H o mn (by omega)
/-- all levels, with so many open -/
theorem w_all : ∀ (m : Nat), m ≤ 5 → OVS (7 * m + 6) (5 - (m : Int)) ∧ LVS 28 (7 * m + 10) 3 4 C1 (5 - (m : Int)) ∧ LVS 26 (7 * m + 12) 1 1 C1 (5 - (m : Int)) := by
  intro m
  induction m with
  | zero =>
    intro _
    have h1 : OVS 6 (5 - ((0 : Nat) : Int)) := ovs_m (w_32 (k := 4) (by omega) (by omega) (fun h => absurd h (by omega)) (fun h => absurd h (by omega)) (by omega)) (by omega)
    have h2 := w_29 (w_30 (w_31 (w_one h1) (by omega)) (by omega)) (by omega)
    have h3 := w_28 (by omega) h2 (fun h => absurd h (by omega)) (by omega) (by omega)
    exact ⟨h1, h3, w_26 (w_27 h3 (by omega)) (by omega)⟩
  | succ m ih =>
    intro hm
    obtain ⟨i1, i2, i3⟩ := ih (by omega)
    have ho : 5 - ((m + 1 : Nat) : Int) + 1 = 5 - (m : Int) := by omega
    have h1 : OVS (7 * (m + 1) + 6) (5 - ((m + 1 : Nat) : Int)) := w_32 (by omega) (by omega) (fun _ => by rw [ho]; exact lvs_m i3 (by omega)) (fun _ => by rw [ho]; exact ovs_m i1 (by omega)) (by omega)
    have h2 := w_29 (w_30 (w_31 (w_one h1) (by omega)) (by omega)) (by omega)
    have h3 := w_28 (by omega) h2 (fun _ => by rw [ho]; exact lvs_m i2 (by omega)) (by omega) (by omega)
    exact ⟨h1, h3, w_26 (w_27 h3 (by omega)) (by omega)⟩
theorem w_any : LVS 26 47 1 1 C1 0 := (w_all 5 (by omega)).2.2
end
