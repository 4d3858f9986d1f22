section
/-! ===== the reference's reader: an E ===== -/
/-- the tape as the reference has it -/
def mB (B : Nat → Int) (Z : Nat) (M : MM) : Prop := BY M 62 B Z ∧ WT M ∧ M 57 7 = (Z : Int)
theorem mB_f {B : Nat → Int} {Z a T : Nat} {M M' : MM} (h : mB B Z M) (ha : 8 ≤ a) (F : mF a T M M') : mB B Z M' := by
  obtain ⟨h1, h2, h3⟩ := h
  exact ⟨⟨h1.1, fun i hi => by rw [F.1 62 (by decide)]; exact h1.2 i hi⟩, fun i hi => by rw [F.1 70 (by decide)]; exact h2 i hi, by rw [F.2.1 7 (by omega)]; exact h3⟩
theorem mOk_f {T : Nat} {H o : List Int} {M M' : MM} (h : mOk T H o M) (F : Fx [57] M M') (g : ∀ i, ¬ (21 ≤ i ∧ i ≤ 24) → M' 57 i = M 57 i) : mOk T H o M' := by
  obtain ⟨h0, h1, h2, h3, h4, h5⟩ := h
  exact ⟨⟨by rw [g 10 (by omega)]; exact h0.1, h0.2⟩, by rw [g 27 (by omega)]; exact h1, by rw [F 71 (by decide)]; exact h2, by rw [g 28 (by omega)]; exact h3, by rw [g 29 (by omega)]; exact h4, by rw [F 63 (by decide)]; exact h5⟩
/-- what an E's reading comes to -/
def mOut (X : Option Res) (B : Nat → Int) (Z T q : Nat) (Y : Nat ⊕ (Nat × List Int)) (M : MM) (R : RR) : Prop :=
  (∃ (M' : MM) (q' : Nat) (o' : List Int), X = some (vI 1, M', R) ∧ Y = .inr (q', o') ∧ mF 21 T M M' ∧ M' 57 21 = (q' : Int) ∧ q < q' ∧ q' ≤ Z ∧ o'.length ≤ q' ∧ M' 57 29 = (o'.length : Int) ∧ seg (fun k => M' 63 (200 * T + k)) 0 o') ∨
  (∃ (M' : MM) (f : Nat), X = some (vI 0, M', R) ∧ Y = .inl f ∧ mF 21 T M M' ∧ M' 57 22 = (f : Int))
theorem mOut_e {X X' : Option Res} {B : Nat → Int} {Z T q q1 : Nat} {Y Y' : Nat ⊕ (Nat × List Int)} {M M1 : MM} {R : RR} (h : mOut X B Z T q1 Y M1 R) (hx : X' = X) (hy : Y' = Y) (F : mF 21 T M M1) (hq : q ≤ q1) : mOut X' B Z T q Y' M R := by
  subst hx hy
  rcases h with ⟨M', q', o', h1, h2, h3, h4, h5, h6⟩ | ⟨M', f, h1, h2, h3, h4⟩
  · exact .inl ⟨M', q', o', h1, h2, mF_t F h3, h4, by omega, h6⟩
  · exact .inr ⟨M', f, h1, h2, mF_t F h3, h4⟩
theorem t_183 {e : Nat} (he : 3 ≤ e) {R : RR} (hL : Lay R) {B : Nat → Int} {Z T : Nat} (hZ : Z ≤ 160) : ∀ (n q : Nat) (w mn : Bool) (x2 : Int) (u3 : AV) (H o : List Int) (M : MM), Z - q < n → q ≤ Z → mB B Z M → mOk T H o M → M 57 21 = (q : Int) → o.length + H.length ≤ q → (w = true → x2 = b2 (mn = true)) → mOut (run (call e) 183 14 [vA 57, vI (b2 (w = true)), vI x2, u3] [] M R) B Z T q (YR B Z q w mn H o) M R := by
  intro n
  induction n with
  | zero => intro q w mn x2 u3 H o M h; omega
  | succ n ih =>
    intro q w mn x2 u3 H o M hn hq hB hO h21 hlen hx
    obtain ⟨M1, r1, F1, m0, m21, m22, m23, m24, m24'⟩ := s_175 (d0 := e) (by omega) hL hB.1 hB.2.1 hB.2.2 h21 hq
    have hb := tk_b B hq
    have hr := tk_r B hq
    have hv := tk_v B hq
    have hlt := fun h => tk_lt (B := B) hq h
    have k1 : mOk T H o M1 := mOk_f hO F1 (fun i hi => m0 i (by omega) (by omega) (by omega) (by omega))
    have G1 : mF 21 T M M1 := ⟨Fx_s F1 (by decide), fun i hi => m0 i (by omega) (by omega) (by omega) (by omega), fun k _ => by rw [F1 63 (by decide)]⟩
    have B1 : mB B Z M1 := mB_f hB (a := 21) (by omega) G1
    have go : run (call e) 183 14 [vA 57, vI (b2 (w = true)), vI x2, u3] [] M R = run (call e) 183 18 [vA 57, vI (b2 (w = true)), vI x2, u3] [] M1 R := by
      rw [b_183_14, r1, bsX]
    -- it fails here
    have bad : ∀ N, mF 27 T M1 N → run (call e) 183 18 [vA 57, vI (b2 (w = true)), vI x2, u3] [] M1 R = some (vI 0, N, R) → yst (tkK B Z q) (tkV B Z q) w mn H o = none → mOut (run (call e) 183 14 [vA 57, vI (b2 (w = true)), vI x2, u3] [] M R) B Z T q (YR B Z q w mn H o) M R := by
      intro N FN h1 h2
      exact .inr ⟨N, tkS B Z q, by rw [go, h1], YR_no hq h2, mF_t G1 (mF_m FN (by omega)), by rw [FN.2.1 22 (by omega)]; exact m22⟩
    -- it goes on
    have on : ∀ (N : MM) (w' mn' : Bool) (x2' : Int) (u3' : AV) (H' o' : List Int), mF 27 T M1 N → ¬ tkK B Z q = 0 → run (call e) 183 18 [vA 57, vI (b2 (w = true)), vI x2, u3] [] M1 R = run (call e) 183 14 [vA 57, vI (b2 (w' = true)), vI x2', u3'] [] N R → yst (tkK B Z q) (tkV B Z q) w mn H o = some (.inl (w', mn', H', o')) → mOk T H' o' N → o'.length + H'.length ≤ o.length + H.length + 1 → (w' = true → x2' = b2 (mn' = true)) → mOut (run (call e) 183 14 [vA 57, vI (b2 (w = true)), vI x2, u3] [] M R) B Z T q (YR B Z q w mn H o) M R := by
      intro N w' mn' x2' u3' H' o' FN k0 h1 h2 h3 h4 h5
      have lt := hlt k0
      exact mOut_e (ih (tkE B Z q) w' mn' x2' u3' H' o' N (by omega) hb.2.2.2.1 (mB_f B1 (by omega) FN) h3 (by rw [FN.2.1 21 (by omega)]; exact m21) (by omega) h5) (by rw [go, h1]) (YR_on hq h2) (mF_t G1 (mF_m FN (by omega))) (by omega)
    have fin : ∀ o', yst (tkK B Z q) (tkV B Z q) w mn H o = some (.inr o') → YR B Z q w mn H o = .inr (tkE B Z q, o') := fun o' h => YR_end hq h
    generalize tkS B Z q = sS at *
    generalize tkE B Z q = sE at *
    generalize tkK B Z q = k at *
    generalize tkV B Z q = v at *
    cases w with
    | true =>
      have hx : x2 = b2 (mn = true) := hx rfl
      have g22 : run (call e) 183 18 [vA 57, vI (b2 (true = true)), vI x2, u3] [] M1 R = run (call e) 183 22 [vA 57, vI 1, vI x2, u3] [] M1 R := by
        rw [b2_t rfl, b_183_18, if_neg (by decide)]
      by_cases t23 : k = 2 ∨ k = 3
      · have lt := hlt (by omega)
        have g61 : run (call e) 183 18 [vA 57, vI (b2 (true = true)), vI x2, u3] [] M1 R = run (call e) 183 61 [vA 57, vI 1, vI x2, u3] [vI (if k = 2 then 100000 + v else v), vA 57] M1 R := by
          rw [g22]
          rcases t23 with t | t
          · subst t
            have m23 : M1 57 23 = 1 := m23
            have hv := hv.1 rfl
            rw [b_183_22, m23, if_pos rfl, b_183_38, m23, if_neg (by decide), b_183_47, m24 (.inl rfl), w32_i (by omega), if_pos rfl]
          · subst t
            have m23 : M1 57 23 = 2 := m23
            rw [b_183_22, m23, if_neg (by decide), b_183_30, m23, if_neg (by decide), b_183_38, m23, if_pos (by decide), b_183_57, m24 (.inr rfl), if_neg (by decide)]
        obtain ⟨M2, r2, F2, k2⟩ := s_177 (d0 := e) (by omega) hL k1 (by omega) (if k = 2 then 100000 + v else v)
        obtain ⟨M3, r3, F3, k3⟩ := s_178 (d0 := e) (by omega) hL (r := 7) (by decide) k2 (by rw [List.length_append, List.length_singleton]; omega)
        have hl := un_len (r := 7) (H := H) (o := o ++ [if k = 2 then 100000 + v else v])
        rw [List.length_append, List.length_singleton] at hl
        refine on M3 false false x2 u3 _ _ (mF_t F2 F3) (by omega) ?_ ?_ k3 (by omega) (fun g => absurd g (by decide))
        · rw [g61, b_183_61, r2, bsX, b_183_64, r3, bsX, b_183_70, b2_f (by decide)]
        · unfold yst
          rw [if_pos rfl, if_pos t23]
      · have t2 : ¬ k = 2 := fun g => t23 (.inl g)
        have t3 : ¬ k = 3 := fun g => t23 (.inr g)
        have n1 : ¬ mK k = 1 ∧ ¬ mK k = 2 := by
          unfold mK
          constructor <;> (repeat' split) <;> omega
        have g75 : run (call e) 183 18 [vA 57, vI (b2 (true = true)), vI x2, u3] [] M1 R = run (call e) 183 75 [vA 57, vI 1, vI x2, u3] [] M1 R := by
          rw [g22, b_183_22, m23, if_neg n1.1, b_183_30, m23, if_pos n1.2]
        have n6 : mK k = 6 ↔ k = 9 := by
          unfold mK
          constructor
          · intro h
            (repeat' split at h) <;> omega
          · intro h
            subst h
            decide
        have n45 : mK k = 45 ↔ k = 45 := by
          unfold mK
          constructor
          · intro h
            (repeat' split at h) <;> omega
          · intro h
            subst h
            decide
        have n40 : mK k = 40 ↔ k = 40 := by
          unfold mK
          constructor
          · intro h
            (repeat' split at h) <;> omega
          · intro h
            subst h
            decide
        by_cases t9 : k = 9 ∧ mn = true
        · have hmn := t9.2
          subst hmn
          have hx : x2 = 1 := hx
          have g88 : run (call e) 183 18 [vA 57, vI (b2 (true = true)), vI x2, u3] [] M1 R = run (call e) 183 88 [vA 57, vI 1, vI x2, u3] [] M1 R := by
            rw [g75, b_183_75, m23, if_neg (not_not_intro (n6.2 t9.1)), b_183_84, if_neg (by omega)]
          have lt := hlt (by omega)
          rcases s_180 (d0 := e) (by omega) hL k1 (by omega) 13 (by decide) with ⟨g5, q5⟩ | ⟨g5, M2, q5, F2, k2⟩
          · refine bad M1 mF_r ?_ ?_
            · rw [g88, b_183_88, q5, bsI, b_183_94, if_neg (by decide), b_183_97]
            · unfold yst
              rw [if_pos rfl, if_neg t23, if_pos t9, if_pos g5]
          · refine on M2 true true x2 u3 (13 :: H) o F2 (by omega) ?_ ?_ k2 (by rw [List.length_cons]; omega) (fun _ => hx)
            · rw [g88, b_183_88, q5, bsI, b_183_94, if_pos (by decide), b2_t rfl]
            · unfold yst
              rw [if_pos rfl, if_neg t23, if_pos t9, if_neg g5]
        · have g99 : run (call e) 183 18 [vA 57, vI (b2 (true = true)), vI x2, u3] [] M1 R = run (call e) 183 99 [vA 57, vI 1, vI x2, u3] [] M1 R := by
            rw [g75, b_183_75, m23]
            by_cases t : k = 9
            · have hm : ¬ mn = true := fun g => t9 ⟨t, g⟩
              rw [b2_f hm] at hx
              rw [if_neg (not_not_intro (n6.2 t)), b_183_84, if_pos hx]
            · rw [if_pos (fun g => t (n6.1 g))]
          by_cases t45 : k = 45
          · have lt := hlt (by omega)
            have g108 : run (call e) 183 18 [vA 57, vI (b2 (true = true)), vI x2, u3] [] M1 R = run (call e) 183 108 [vA 57, vI 1, vI x2, u3] [] M1 R := by
              rw [g99, b_183_99, m23, if_neg (not_not_intro (n45.2 t45))]
            rcases s_180 (d0 := e) (by omega) hL k1 (by omega) 19 (by decide) with ⟨g5, q5⟩ | ⟨g5, M2, q5, F2, k2⟩
            · refine bad M1 mF_r ?_ ?_
              · rw [g108, b_183_108, q5, bsI, b_183_114, if_neg (by decide), b_183_117]
              · unfold yst
                rw [if_pos rfl, if_neg t23, if_neg t9, if_pos t45, if_pos g5]
            · refine on M2 true false 0 u3 (19 :: H) o F2 (by omega) ?_ ?_ k2 (by rw [List.length_cons]; omega) (fun _ => (b2_f (by decide)).symm)
              · rw [g108, b_183_108, q5, bsI, b_183_114, if_pos (by decide), b_183_119, b2_t rfl]
              · unfold yst
                rw [if_pos rfl, if_neg t23, if_neg t9, if_pos t45, if_neg g5]
          · have g124 : run (call e) 183 18 [vA 57, vI (b2 (true = true)), vI x2, u3] [] M1 R = run (call e) 183 124 [vA 57, vI 1, vI x2, u3] [] M1 R := by
              rw [g99, b_183_99, m23, if_pos (fun g => t45 (n45.1 g))]
            by_cases t40 : k = 40
            · have lt := hlt (by omega)
              have g133 : run (call e) 183 18 [vA 57, vI (b2 (true = true)), vI x2, u3] [] M1 R = run (call e) 183 133 [vA 57, vI 1, vI x2, u3] [] M1 R := by
                rw [g124, b_183_124, m23, if_neg (not_not_intro (n40.2 t40))]
              rcases s_180 (d0 := e) (by omega) hL k1 (by omega) 0 (by decide) with ⟨g5, q5⟩ | ⟨g5, M2, q5, F2, k2⟩
              · refine bad M1 mF_r ?_ ?_
                · rw [g133, b_183_133, q5, bsI, b_183_138, if_neg (by decide), b_183_141]
                · unfold yst
                  rw [if_pos rfl, if_neg t23, if_neg t9, if_neg t45, if_pos t40, if_pos g5]
              · refine on M2 true true 1 u3 (0 :: H) o F2 (by omega) ?_ ?_ k2 (by rw [List.length_cons]; omega) (fun _ => (b2_t rfl).symm)
                · rw [g133, b_183_133, q5, bsI, b_183_138, if_pos (by decide), b_183_143, b2_t rfl]
                · unfold yst
                  rw [if_pos rfl, if_neg t23, if_neg t9, if_neg t45, if_pos t40, if_neg g5]
            · refine bad M1 mF_r ?_ ?_
              · rw [g124, b_183_124, m23, if_pos (fun g => t40 (n40.1 g)), b_183_148]
              · unfold yst
                rw [if_pos rfl, if_neg t23, if_neg t9, if_neg t45, if_neg t40]
    | false =>
      have g150 : run (call e) 183 18 [vA 57, vI (b2 (false = true)), vI x2, u3] [] M1 R = run (call e) 183 150 [vA 57, vI 0, vI x2, u3] [] M1 R := by
        rw [b2_f (by decide), b_183_18, if_pos rfl]
      have n59 : mK k = 59 ↔ k = 59 := by
        unfold mK
        constructor
        · intro h
          (repeat' split at h) <;> omega
        · intro h
          subst h
          decide
      have n41 : mK k = 41 ↔ k = 41 := by
        unfold mK
        constructor
        · intro h
          (repeat' split at h) <;> omega
        · intro h
          subst h
          decide
      obtain ⟨M2, r2, F2, k2⟩ := s_178 (d0 := e) (by omega) hL (r := 1) (by decide) k1 (by omega)
      have hl := un_len (r := 1) (H := H) (o := o)
      have hc := un_clo (r := 1) (H := H) (o := o)
      by_cases t59 : k = 59
      · have lt := hlt (by omega)
        have g164 : run (call e) 183 18 [vA 57, vI (b2 (false = true)), vI x2, u3] [] M1 R = run (call e) 183 164 [vA 57, vI 0, vI x2, u3] [] M2 R := by
          rw [g150, b_183_150, m23, if_neg (not_not_intro (n59.2 t59)), b_183_159, r2, bsX]
        by_cases hz : (un 1 H o).1 = []
        · have k27 := k2.2.1
          rw [hz] at k27
          refine .inl ⟨M2, sE, (un 1 H o).2, ?_, ?_, mF_t G1 (mF_m F2 (by omega)), by rw [F2.2.1 21 (by omega)]; exact m21, by omega, hb.2.2.2.1, by omega, k2.2.2.2.2.1, k2.2.2.2.2.2⟩
          · rw [go, g164, b_183_164, k27, if_neg (by decide), b_183_171, b_183_176]
          · refine fin _ ?_
            unfold yst
            rw [if_neg (by decide), if_pos t59, if_pos hz]
        · refine bad M2 F2 ?_ ?_
          · have h0 : ¬ (((un 1 H o).1.length : Nat) : Int) = 0 := by
              intro g
              exact hz (List.eq_nil_of_length_eq_zero (by omega))
            rw [g164, b_183_164, k2.2.1, if_pos h0, b_183_175, b_183_176]
          · unfold yst
            rw [if_neg (by decide), if_pos t59, if_neg hz]
      · by_cases t41 : k = 41
        · have lt := hlt (by omega)
          have g191 : run (call e) 183 18 [vA 57, vI (b2 (false = true)), vI x2, u3] [] M1 R = run (call e) 183 191 [vA 57, vI 0, vI x2, u3] [] M2 R := by
            rw [g150, b_183_150, m23, if_pos (fun g => t59 (n59.1 g)), b_183_177, m23, if_neg (not_not_intro (n41.2 t41)), b_183_186, r2, bsX]
          have hy : yst k v false mn H o = (if (un 1 H o).1 = [] then none else some (.inl (false, false, un 7 (un 1 H o).1.tail (un 1 H o).2))) := by
            unfold yst
            rw [if_neg (by decide), if_neg t59, if_pos t41]
          generalize un 1 H o = u at hl hc k2 hy
          obtain ⟨S, o'⟩ := u
          cases S with
          | nil =>
            have k27 : M2 57 27 = 0 := k2.2.1
            refine bad M2 F2 ?_ (by rw [hy, if_pos rfl])
            rw [g191, b_183_191, k27, if_neg (by decide), b_183_198]
          | cons x S =>
            have hx0 : x = 0 := by
              have hc : rk x < 1 := hc
              unfold rk at hc
              by_cases g : x = 0
              · exact g
              · exfalso
                revert hc
                repeat' split
                all_goals omega
            subst hx0
            have hl : (S.length + 1) + o'.length = H.length + o.length := hl
            have k27 : M2 57 27 = ((S.length + 1 : Nat) : Int) := k2.2.1
            have k28 : M2 57 28 = opn S + 1 := by rw [k2.2.2.2.1]; exact opn_o (by decide)
            have ho := opn_0 (H := S)
            have hol := opn_l (H := S)
            have e1 : w32 (((S.length + 1 : Nat) : Int) - 1) = (S.length : Int) := by rw [w32_i (by omega)]; omega
            have e2 : w32 (opn S + 1 - 1) = opn S := by rw [w32_i (by omega)]; omega
            have m3 : mOk T S o' (up (up M2 57 27 (S.length : Int)) 57 28 (opn S)) := by
              obtain ⟨h0, h1, h2, h3, h4, h5⟩ := k2
              exact ⟨⟨by rw [up_i (by decide), up_i (by decide)]; exact h0.1, h0.2⟩, by rw [up_i (by decide), up_s], by rw [up_o (by decide), up_o (by decide)]; exact (stk_h h2).2, up_s, by rw [up_i (by decide), up_i (by decide)]; exact h4, by rw [up_o (by decide), up_o (by decide)]; exact h5⟩
            obtain ⟨M3, r3, F3, k3⟩ := s_178 (d0 := e) (by omega) hL (r := 7) (by decide) m3 (by omega)
            have hl7 := un_len (r := 7) (H := S) (o := o')
            refine on M3 false false x2 u3 _ _ (mF_t F2 (mF_t (mF_t (mF_5 (by omega)) (mF_5 (by omega))) F3)) (by omega) ?_ (by rw [hy, if_neg (List.cons_ne_nil _ _)]; rfl) k3 (by omega) (fun g => absurd g (by decide))
            rw [g191, b_183_191, k27, if_pos (by omega), b_183_200, k27, e1, up_i (by decide), k28, e2, r3, bsX, b_183_226, b2_f (by decide)]
        · have g233 : run (call e) 183 18 [vA 57, vI (b2 (false = true)), vI x2, u3] [] M1 R = run (call e) 183 233 [vA 57, vI 0, vI x2, u3] [vI (so k)] M1 R := by
            rw [g150, b_183_150, m23, if_pos (fun g => t59 (n59.1 g)), b_183_177, m23, if_pos (fun g => t41 (n41.1 g)), b_183_229, s_182 (by omega) m23 hr, bsI]
          by_cases hs : so k = -1
          · refine bad M1 mF_r ?_ ?_
            · rw [g233, b_183_233, if_pos hs, b_183_247]
            · unfold yst
              rw [if_neg (by decide), if_neg t59, if_neg t41, if_pos hs]
          · have hsc := so_c hs
            have lt := hlt (by omega)
            have hB : isB (so k) := by unfold isB; omega
            rcases s_181 (d0 := e) (by omega) hL k1 (by omega) (so k) hB with ⟨a1, a2, a3, M3, r3, F3⟩ | ⟨a1, M3, r3, F3, k3⟩
            · refine bad M3 F3 ?_ ?_
              · rw [g233, b_183_233, if_neg hs, b_183_239, r3, bsI, b_183_244, if_neg (by decide), b_183_247]
              · unfold yst
                rw [if_neg (by decide), if_neg t59, if_neg t41, if_neg hs, if_pos ⟨a1, a2, a3⟩]
            · have hlc := un_len (r := if rk (so k) = 4 then 5 else rk (so k)) (H := H) (o := o)
              refine on M3 true (decide (so k ≤ 12)) (b2 (so k ≤ 12)) (vI (so k)) _ _ F3 (by omega) ?_ ?_ k3 (by rw [List.length_cons]; omega) (fun _ => b2_c (by rw [decide_eq_true_eq]))
              · rw [g233, b_183_233, if_neg hs, b_183_239, r3, bsI, b_183_244, if_pos (by decide), b_183_249, b2_t rfl]
                by_cases g12 : so k ≤ 12
                · rw [if_neg (by omega), b_183_257, b_183_262, b2_t g12]
                · rw [if_pos (by omega), b_183_261, b_183_262, b2_f g12]
              · unfold yst
                rw [if_neg (by decide), if_neg t59, if_neg t41, if_neg hs, if_neg a1]
theorem s_183 {d0 : Nat} (hd : 4 ≤ d0) {M : MM} {R : RR} (hL : Lay R) {B : Nat → Int} {Z T q : Nat} {o : List Int} (hZ : Z ≤ 160) (hq : q ≤ Z) (hB : mB B Z M) (h10 : M 57 10 = (T : Int)) (hT : T < 6) (h21 : M 57 21 = (q : Int)) (h29 : M 57 29 = (o.length : Int)) (hs : seg (fun k => M 63 (200 * T + k)) 0 o) (hlen : o.length ≤ q) : mOut (call d0 183 [vA 57] M R) B Z T q (YR B Z q true true [] o) M R := by
  obtain ⟨e, rfl⟩ := s_le hd
  have start : ∀ q, run (call (e + 3)) 183 0 [vA 57, vX 0, vX 0, vX 0] [] M R = some q → (retOk 183 q.1 = true) → call (e + 4) 183 [vA 57] M R = some q := fun q h g => call_of 4 [vA 57, vX 0, vX 0, vX 0] (by decide) rfl (Nat.le_of_ble_eq_true rfl) rfl h g
  have F0 : mF 21 T M (up (up M 57 27 0) 57 28 0) := mF_t (mF_5 (by omega)) (mF_5 (by omega))
  have k0 : mOk T [] o (up (up M 57 27 0) 57 28 0) := ⟨⟨by rw [up_i (by decide), up_i (by decide)]; exact h10, hT⟩, by rw [up_i (by decide), up_s]; rfl, rfl, by rw [up_s]; rfl, by rw [up_i (by decide), up_i (by decide)]; exact h29, by rw [up_o (by decide), up_o (by decide)]; exact hs⟩
  have h := t_183 (e := e + 3) (by omega) hL (B := B) hZ (Z + 1 - q) q true true 1 (vX 0) [] o _ (by omega) hq (mB_f hB (by omega) F0) k0 (by rw [up_i (by decide), up_i (by decide)]; exact h21) (by rw [List.length_nil]; omega) (fun _ => (b2_t rfl).symm)
  have hr : run (call (e + 3)) 183 0 [vA 57, vX 0, vX 0, vX 0] [] M R = run (call (e + 3)) 183 14 [vA 57, vI (b2 (true = true)), vI 1, vX 0] [] (up (up M 57 27 0) 57 28 0) R := by
    rw [b_183_0, b2_t rfl]
  have h := mOut_e h hr (Y' := YR B Z q true true [] o) rfl F0 (Nat.le_refl q)
  rcases h with ⟨M', q', o', h1, h2⟩ | ⟨M', f, h1, h2⟩
  · exact .inl ⟨M', q', o', start _ h1 rfl, h2⟩
  · exact .inr ⟨M', f, start _ h1 rfl, h2⟩
end
