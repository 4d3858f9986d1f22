section
/-! ===== laws, can ===== -/
def hb (c : Nat → Bool) : Nat → Nat
  | 0 => 0
  | n + 1 => if c n = true then hb c n ||| 2 ^ n else hb c n
theorem hb_lt (c : Nat → Bool) : ∀ n, hb c n < 2 ^ n
  | 0 => by show 0 < 1; omega
  | n + 1 => by
    have ih := hb_lt c n
    have e : 2 ^ (n + 1) = 2 * 2 ^ n := by rw [Nat.pow_succ, Nat.mul_comm]
    show (if c n = true then hb c n ||| 2 ^ n else hb c n) < 2 ^ (n + 1)
    split
    · exact Nat.or_lt_two_pow (by omega) (by omega)
    · omega
theorem fi_v (c : Nat → Bool) : ∀ k n, fi c k n = -1 ∨ (n : Int) ≤ fi c k n
  | 0, _ => .inl rfl
  | k + 1, n => by
    have ih := fi_v c k (n + 1)
    show (if c n = true then (n : Int) else fi c k (n + 1)) = -1 ∨ (n : Int) ≤ (if c n = true then (n : Int) else fi c k (n + 1))
    split
    · exact .inr (Int.le_refl _)
    · omega
theorem c_hb {c : Nat → Bool} {n : Nat} (hn : n < 30) : c_or ((hb c n : Nat) : Int) (c_shl 1 (n : Int)) = ((hb c n ||| 2 ^ n : Nat) : Int) := by
  have h1 := hb_lt c n
  have h2 : 2 ^ n ≤ 2 ^ 30 := Nat.pow_le_pow_right (by omega) (by omega)
  rw [c_one (by omega), c_or_n (by omega) (by omega)]
theorem c_h0 {c : Nat → Bool} {n : Nat} (hn : n < 30) : c_or ((hb c n : Nat) : Int) 0 = ((hb c n : Nat) : Int) := by
  have h1 := hb_lt c n
  have h2 : 2 ^ n ≤ 2 ^ 30 := Nat.pow_le_pow_right (by omega) (by omega)
  rw [show (0 : Int) = ((0 : Nat) : Int) from rfl, c_or_n (by omega) (by omega), Nat.or_zero]
def lwB (wt : Nat → Nat → Nat → Int) (f : Nat → Int) (P t : Nat) : Bool := decide (fi (fun p => decide (wt t p (f p).toNat = 0)) P 0 < 0)
def v_laws (wt : Nat → Nat → Nat → Int) (P Y T : Nat) (so sz : Nat → Int) (nu : Nat → Nat → Int) (x : Int) : Int := if rfs P Y x so sz nu = 0 then (hb (lwB wt (nu x.toNat) P) T : Nat) else rfs P Y x so sz nu
theorem s_139 {d0 : Nat} (hd : 6 ≤ d0) {M : MM} {R : RR} (hL : Lay R) {P Y t T : Nat} (hX : XW M R P Y t) (hC : CJ M P Y) (hn : M 13 5 = (T : Int)) (hT6 : T ≤ 6) (hTx : ∀ t, t < T → txOk M R t) (x : Int) : ∃ M', call d0 139 [vA 1, vI x] M R = some (vI (v_laws (Wt M) P Y T (cS M) (cZ M) (cU M) x), M', R) ∧ Fx clsO M M' ∧ CJ M' P Y := by
  obtain ⟨e, rfl⟩ := s_le hd
  obtain ⟨hP, hP7, hY, hY1, hY24, ht, ht5, ht6, hT, hr⟩ := id hX
  have start : ∀ v M', run (call (e + 5)) 139 0 [vA 1, vI x, vX 0, vX 0, vX 0] [] M R = some (vI v, M', R) → call (e + 6) 139 [vA 1, vI x] M R = some (vI v, M', R) := fun v M' h => call_of 5 [vA 1, vI x, vX 0, vX 0, vX 0] (by decide) rfl (Nat.le_of_ble_eq_true rfl) rfl h rfl
  have q0 := s_129 (d0 := e + 5) (by omega) (M := M) hL hP hP7 hY x
  unfold v_laws
  by_cases h : rfs P Y x (cS M) (cZ M) (cU M) = 0
  · obtain ⟨s, rfl, hs, hf⟩ := rfs_0 h
    obtain ⟨l1, l2, l3, l4, l5⟩ := sh_l hL (s := s) hs
    obtain ⟨M1, f1, q⟩ := loop_nat (fun n (a : MM) => run (call (e + 5)) 139 17 [vA 1, vI s, vI 0, vI (hb (lwB (Wt M) (cU M s) P) n : Nat), vI n] [] a R) (fun _ a => Fx [15, 16] M a) T (by
      rintro n M1 hn' f1
      have aF : Fx clsO M M1 := Fx_s f1 (by decide)
      have X1 := XW_f aF hX
      have e1 : w32 ((n : Int) + 1) = ((n + 1 : Nat) : Int) := by rw [w32_i (by omega)]; omega
      have ko : M1 (47 + 2 * s) = M (47 + 2 * s) := aF _ (clsO_n (by omega))
      have k13 : M1 13 = M 13 := aF 13 (clsO_n (by omega))
      obtain ⟨M2, q2, f2⟩ := s_131 (d0 := e + 5) (by omega) hL (t' := n) (o := 47 + 2 * s) X1 (txOk_f (fun o ho => aF o (clsO_n (by omega))) (hTx n hn')) (by rw [k13, hn]; omega) (by omega) l5 l3 (by omega) (fun p hp => by rw [ko]; exact hf p hp)
      rw [Wt_x aF, ko] at q2
      have hv := fi_v (fun p => decide (Wt M n p (cU M s p).toNat = 0)) P 0
      have eh : hb (lwB (Wt M) (cU M s) P) (n + 1) = if lwB (Wt M) (cU M s) P n = true then hb (lwB (Wt M) (cU M s) P) n ||| 2 ^ n else hb (lwB (Wt M) (cU M s) P) n := rfl
      have hcu : (fun p => decide (Wt M n p (M (47 + 2 * s) p).toNat = 0)) = (fun p => decide (Wt M n p (cU M s p).toNat = 0)) := rfl
      rw [hcu] at q2
      refine ⟨M2, Fx_t f1 f2, ?_⟩
      rw [b_139_17 hL, k13, hn, if_neg (by omega), b_139_29 hL _ _ _ _ (by rw [Int.toNat_natCast, l1]; exact l4), if_pos (by omega), Int.toNat_natCast, l1, l2, q2, bsI, b_139_44, eh]
      by_cases g : fi (fun p => decide (Wt M n p (cU M s p).toNat = 0)) P 0 < 0
      · rw [if_neg (by omega), b_139_47, b_139_54, c_hb (by omega), e1, if_pos (show lwB (Wt M) (cU M s) P n = true from decide_eq_true g)]
      · rw [if_pos (by omega), b_139_54, e1, if_neg (show ¬ lwB (Wt M) (cU M s) P n = true from fun q => g (of_decide_eq_true q))]) M Fx_r
    have F1 : Fx clsO M M1 := Fx_s f1 (by decide)
    refine ⟨M1, start _ _ ?_, F1, CJ_f F1 (fun o ho => f1 o (by simp only [List.mem_cons, List.not_mem_nil, or_false] at ho ⊢; omega)) (by rw [f1 35 (by decide)]) (by rw [f1 35 (by decide)]) hC⟩
    rw [if_pos h, Int.toNat_natCast, b_139_0, q0, bsI, h, b_139_5, if_pos rfl, b_139_12]
    refine Eq.trans q ?_
    rw [b_139_17 hL, f1 13 (by decide), hn, if_pos (by omega), b_139_60]
  · refine ⟨M, start _ _ ?_, Fx_r, hC⟩
    rw [if_neg h, b_139_0, q0, bsI, b_139_5, if_neg h, b_139_10]
theorem s_240 {d0 : Nat} (hd : 6 ≤ d0) {M : MM} {R : RR} (hL : Lay R) {P Y t T : Nat} (hX : XM M R P Y t) (hn : M 57 10 = (T : Int)) (hT6 : T ≤ 6) (hTx : ∀ t, t < T → txOk M R t) (x : Int) : ∃ M', call d0 240 [vA 57, vI x] M R = some (vI (v_laws (Wtm M) P Y T (M 66) (M 67) (mU M) x), M', R) ∧ Fx modO M M' := by
  obtain ⟨e, rfl⟩ := s_le hd
  obtain ⟨hP, hP7, hY, hY1, hY24, ht, ht6, hT, hr⟩ := id hX
  have start : ∀ v M', run (call (e + 5)) 240 0 [vA 57, vI x, vX 0, vX 0, vX 0, vX 0] [] M R = some (vI v, M', R) → call (e + 6) 240 [vA 57, vI x] M R = some (vI v, M', R) := fun v M' h => call_of 6 [vA 57, vI x, vX 0, vX 0, vX 0, vX 0] (by decide) rfl (Nat.le_of_ble_eq_true rfl) rfl h rfl
  have q0 := s_230 (d0 := e + 5) (by omega) (M := M) hL hP hP7 hY ⟨hY1, hY24⟩ x
  unfold v_laws
  by_cases h : rfs P Y x (M 66) (M 67) (mU M) = 0
  · obtain ⟨s, rfl, hs, hf⟩ := rfs_0 h
    obtain ⟨M1, ⟨f1, g1⟩, q⟩ := loop_nat (fun n (a : MM) => run (call (e + 5)) 240 23 [vA 57, vI s, vI 0, vI (M 57 11), vI (hb (lwB (Wtm M) (mU M s) P) n : Nat), vI n] [] a R) (fun _ a => Fx [57, 72, 73] M a ∧ ∀ i, ¬ i = 11 → a 57 i = M 57 i) T (by
      rintro n M1 hn' ⟨f1, g1⟩
      have e1 : w32 ((n : Int) + 1) = ((n + 1 : Nat) : Int) := by rw [w32_i (by omega)]; omega
      have fu : Fx [57, 72, 73] M (up M1 57 11 (n : Int)) := Fx_t f1 (Fx_p (by decide))
      have gu : ∀ i, ¬ i = 11 → up M1 57 11 (n : Int) 57 i = M 57 i := fun i hi => by rw [up_i hi]; exact g1 i hi
      have XU : XM (up M1 57 11 (n : Int)) R P Y n := by
        refine ⟨by rw [gu 2 (by decide)]; exact hP, hP7, by rw [gu 0 (by decide)]; exact hY, hY1, hY24, up_s, by omega, txOk_f (fun o ho => fu o (by simp only [List.mem_cons, List.not_mem_nil, or_false]; omega)) (hTx n hn'), ?_⟩
        rw [fu 59 (by decide), fu 60 (by decide), fu 61 (by decide)]
        exact hr
      have hmu : mU (up M1 57 11 (n : Int)) = mU M := by unfold mU; rw [fu 68 (by decide)]
      obtain ⟨M2, q2, f2⟩ := s_231 (d0 := e + 5) (by omega) hL XU hs (fun p hp => by rw [hmu]; exact hf p hp)
      have hw : (fun p => decide (Wm (up M1 57 11 (n : Int)) p (mU (up M1 57 11 (n : Int)) s p).toNat = 0)) = (fun p => decide (Wtm M n p (mU M s p).toNat = 0)) := by
        funext p
        have : Wm (up M1 57 11 (n : Int)) p (mU (up M1 57 11 (n : Int)) s p).toNat = Wtm M n p (mU M s p).toNat := by
          rw [hmu]
          unfold Wm Wtm segm
          rw [up_s, gu 0 (by decide), fu 58 (by decide), fu 59 (by decide), fu 60 (by decide), fu 61 (by decide), fu 63 (by decide), fu 64 (by decide), Int.toNat_natCast]
        rw [this]
      rw [hw] at q2
      have hv := fi_v (fun p => decide (Wtm M n p (mU M s p).toNat = 0)) P 0
      have eh : hb (lwB (Wtm M) (mU M s) P) (n + 1) = if lwB (Wtm M) (mU M s) P n = true then hb (lwB (Wtm M) (mU M s) P) n ||| 2 ^ n else hb (lwB (Wtm M) (mU M s) P) n := rfl
      refine ⟨M2, ⟨Fx_t fu (Fx_s f2 (by decide)), fun i hi => by rw [f2 57 (by decide)]; exact gu i hi⟩, ?_⟩
      rw [b_240_23, g1 10 (by decide), hn, if_neg (by omega), b_240_32, q2, bsI, b_240_45, eh]
      by_cases g : fi (fun p => decide (Wtm M n p (mU M s p).toNat = 0)) P 0 < 0
      · rw [if_neg (by omega), b_240_49, b_240_57, c_hb (by omega), e1, if_pos (show lwB (Wtm M) (mU M s) P n = true from decide_eq_true g)]
      · rw [if_pos (by omega), b_240_56, b_240_57, c_h0 (by omega), e1, if_neg (show ¬ lwB (Wtm M) (mU M s) P n = true from fun q => g (of_decide_eq_true q))]) M ⟨Fx_r, fun _ _ => rfl⟩
    refine ⟨up M1 57 11 (M 57 11), start _ _ ?_, ?_⟩
    · rw [if_pos h, Int.toNat_natCast, b_240_0, q0, bsI, h, b_240_5, if_pos rfl, b_240_12]
      refine Eq.trans q ?_
      rw [b_240_23, g1 10 (by decide), hn, if_pos (by omega), b_240_66]
    · intro o ho
      by_cases h57 : o = 57
      · subst h57
        funext i
        by_cases hi : i = 11
        · subst hi; rw [up_s]
        · rw [up_i hi]; exact g1 i hi
      · rw [up_o h57]
        refine f1 o (fun hm => ho ?_)
        simp only [modO, List.mem_cons, List.not_mem_nil, or_false] at hm ⊢
        omega
  · refine ⟨M, start _ _ ?_, Fx_r⟩
    rw [if_neg h, b_240_0, q0, bsI, b_240_5, if_neg h, b_240_10]
/-- WEIGHT, were it of a kind and had a told day -/
def Wv (M : MM) (p d : Nat) (kd tl : Int) : Int := wgt kd (M 6 p) tl (M 2 0) d (lvw (segm M (M 13 6).toNat 0) 0 d (M 3 d) (M 2 0) (M 6 p) tl p)
def Wvm (M : MM) (p d : Nat) (kd tl : Int) : Int := wgt kd (M 60 p) tl (M 57 0) d (lvw (segm M (M 57 11).toNat 0) 0 d (M 58 d) (M 57 0) (M 60 p) tl p)
theorem Wv_x {M M' : MM} (h : Fx clsO M M') : Wv M' = Wv M := by
  funext p d kd tl
  have g := fun o (ho : o ≤ 14 ∨ (17 ≤ o ∧ o ≤ 21) ∨ 45 ≤ o) => h o (clsO_n ho)
  unfold Wv segm
  rw [g 2 (by omega), g 3 (by omega), g 6 (by omega), g 13 (by omega), g 63 (by omega), g 64 (by omega)]
def toB (wv : Nat → Nat → Int → Int → Int) (kd : Nat → Int) (p d v : Nat) : Bool := decide (0 < wv p d (kd p) v)
def kiB (wv : Nat → Nat → Int → Int → Int) (tl : Nat → Int) (p d v : Nat) : Bool := decide (0 < wv p d v (tl p))
def v_can (wv : Nat → Nat → Int → Int → Int) (kd tl : Nat → Int) (P Y : Nat) (so sz : Nat → Int) (nu : Nat → Nat → Int) (x p sort : Int) : Int := if rfs P Y x so sz nu = 0 then (if 0 ≤ p ∧ p < P then (if sort = 0 then (hb (toB wv kd p.toNat (nu x.toNat p.toNat).toNat) Y : Nat) else if sort = 1 then (hb (kiB wv tl p.toNat (nu x.toNat p.toNat).toNat) 6 : Nat) else -7) else -5) else rfs P Y x so sz nu
theorem s_141 {d0 : Nat} (hd : 5 ≤ d0) {M : MM} {R : RR} (hL : Lay R) {P Y t p d : Nat} (hX : XW M R P Y t) (hp : p < P) (hdY : d < Y) : ∃ M', call d0 141 [vA 1, vI p, vI d] M R = some (vI (hb (toB (Wv M) (M 5) p d) Y : Nat), M', R) ∧ Fx [15, 16] M M' := by
  obtain ⟨e, rfl⟩ := s_le hd
  have hYs := hX.2.2.2.2.1
  obtain ⟨M1, f1, q⟩ := loop_nat (fun n (a : MM) => run (call (e + 4)) 141 5 [vA 1, vI p, vI d, vI (hb (toB (Wv M) (M 5) p d) n : Nat), vI n] [] a R) (fun _ a => Fx [15, 16] M a) Y (by
    rintro n M1 hn f1
    have aF : Fx clsO M M1 := Fx_s f1 (by decide)
    obtain ⟨gP, gP7, gY, gY1, gY24, gt, gt5, gt6, gT, gr⟩ := XW_f aF hX
    have hr := gr p hp
    have e1 : w32 ((n : Int) + 1) = ((n + 1 : Nat) : Int) := by rw [w32_i (by omega)]; omega
    obtain ⟨f, g, q⟩ := s_85 (d0 := e + 4) (by omega) (M := M1) hL (t := t) (p := p) (d := d) (kd := M1 5 p) (tl := (n : Int)) gT gt5 gt6 (by omega) (by omega) (by omega) (by omega) (by omega) hr.1 (by omega) hr.2.1
    have hw : wgt (M1 5 p) (M1 6 p) (n : Int) (M1 2 0) d (lvw (segm M1 t 0) 0 d (M1 3 d) (M1 2 0) (M1 6 p) (n : Int) p) = Wv M p d (M 5 p) n := by
      rw [← Wv_x aF]
      unfold Wv
      rw [gt, Int.toNat_natCast, f1 5 (by decide)]
    rw [hw] at q
    have eh : hb (toB (Wv M) (M 5) p d) (n + 1) = if toB (Wv M) (M 5) p d n = true then hb (toB (Wv M) (M 5) p d) n ||| 2 ^ n else hb (toB (Wv M) (M 5) p d) n := rfl
    refine ⟨upf (upf M1 15 f) 16 g, Fx_t f1 (Fx_t (Fx_u (by decide)) (Fx_u (by decide))), ?_⟩
    rw [b_141_5 hL, gY, if_neg (by omega), b_141_17 hL, if_pos (by omega), Int.toNat_natCast, gt, q, bsI, b_141_44, eh]
    by_cases gz : 0 < Wv M p d (M 5 p) n
    · rw [if_neg (by omega), b_141_47, b_141_54, c_hb (by omega), e1, if_pos (show toB (Wv M) (M 5) p d n = true from decide_eq_true gz)]
    · rw [if_pos (by omega), b_141_54, e1, if_neg (show ¬ toB (Wv M) (M 5) p d n = true from fun q => gz (of_decide_eq_true q))]) M Fx_r
  refine ⟨M1, ?_, f1⟩
  refine call_of 5 [vA 1, vI p, vI d, vX 0, vX 0] (by decide) rfl (Nat.le_of_ble_eq_true rfl) rfl ?_ rfl
  rw [b_141_0]
  refine Eq.trans q ?_
  rw [b_141_5 hL, f1 2 (by decide), hX.2.2.1, if_pos (by omega), b_141_60]
theorem s_142 {d0 : Nat} (hd : 5 ≤ d0) {M : MM} {R : RR} (hL : Lay R) {P Y t p d : Nat} (hX : XW M R P Y t) (hp : p < P) (hdY : d < Y) : ∃ M', call d0 142 [vA 1, vI p, vI d] M R = some (vI (hb (kiB (Wv M) (M 7) p d) 6 : Nat), M', R) ∧ Fx [15, 16] M M' := by
  obtain ⟨e, rfl⟩ := s_le hd
  have hYs := hX.2.2.2.2.1
  obtain ⟨M1, f1, q⟩ := loop_nat (fun n (a : MM) => run (call (e + 4)) 142 5 [vA 1, vI p, vI d, vI (hb (kiB (Wv M) (M 7) p d) n : Nat), vI n] [] a R) (fun _ a => Fx [15, 16] M a) 6 (by
    rintro n M1 hn f1
    have aF : Fx clsO M M1 := Fx_s f1 (by decide)
    obtain ⟨gP, gP7, gY, gY1, gY24, gt, gt5, gt6, gT, gr⟩ := XW_f aF hX
    have hr := gr p hp
    have e1 : w32 ((n : Int) + 1) = ((n + 1 : Nat) : Int) := by rw [w32_i (by omega)]; omega
    obtain ⟨f, g, q⟩ := s_85 (d0 := e + 4) (by omega) (M := M1) hL (t := t) (p := p) (d := d) (kd := (n : Int)) (tl := M1 7 p) gT gt5 gt6 (by omega) (by omega) (by omega) (by omega) (by omega) (by omega) (by omega) hr.2.1
    have hw : wgt (n : Int) (M1 6 p) (M1 7 p) (M1 2 0) d (lvw (segm M1 t 0) 0 d (M1 3 d) (M1 2 0) (M1 6 p) (M1 7 p) p) = Wv M p d n (M 7 p) := by
      rw [← Wv_x aF]
      unfold Wv
      rw [gt, Int.toNat_natCast, f1 7 (by decide)]
    rw [hw] at q
    have eh : hb (kiB (Wv M) (M 7) p d) (n + 1) = if kiB (Wv M) (M 7) p d n = true then hb (kiB (Wv M) (M 7) p d) n ||| 2 ^ n else hb (kiB (Wv M) (M 7) p d) n := rfl
    refine ⟨upf (upf M1 15 f) 16 g, Fx_t f1 (Fx_t (Fx_u (by decide)) (Fx_u (by decide))), ?_⟩
    rw [b_142_5, if_neg (by omega), b_142_12 hL, if_pos (by omega), Int.toNat_natCast, gt, q, bsI, b_142_39, eh]
    by_cases gz : 0 < Wv M p d n (M 7 p)
    · rw [if_neg (by omega), b_142_42, b_142_49, c_hb (by omega), e1, if_pos (show kiB (Wv M) (M 7) p d n = true from decide_eq_true gz)]
    · rw [if_pos (by omega), b_142_49, e1, if_neg (show ¬ kiB (Wv M) (M 7) p d n = true from fun q => gz (of_decide_eq_true q))]) M Fx_r
  refine ⟨M1, ?_, f1⟩
  refine call_of 5 [vA 1, vI p, vI d, vX 0, vX 0] (by decide) rfl (Nat.le_of_ble_eq_true rfl) rfl ?_ rfl
  rw [b_142_0]
  refine Eq.trans q ?_
  rw [b_142_5, if_pos (by omega), b_142_55]
theorem s_140 {d0 : Nat} (hd : 6 ≤ d0) {M : MM} {R : RR} (hL : Lay R) {P Y t : Nat} (hX : XW M R P Y t) (hC : CJ M P Y) (x y z : Int) : ∃ M', call d0 140 [vA 1, vI x, vI y, vI z] M R = some (vI (v_can (Wv M) (M 5) (M 7) P Y (cS M) (cZ M) (cU M) x y z), M', R) ∧ Fx clsO M M' ∧ CJ M' P Y := by
  obtain ⟨e, rfl⟩ := s_le hd
  obtain ⟨hP, hP7, hY, hY1, hY24, ht, ht5, ht6, hT, hr⟩ := id hX
  have start : ∀ v M', run (call (e + 5)) 140 0 [vA 1, vI x, vI y, vI z, vX 0, vX 0] [] M R = some (vI v, M', R) → call (e + 6) 140 [vA 1, vI x, vI y, vI z] M R = some (vI v, M', R) := fun v M' h => call_of 6 [vA 1, vI x, vI y, vI z, vX 0, vX 0] (by decide) rfl (Nat.le_of_ble_eq_true rfl) rfl h rfl
  have q0 := s_129 (d0 := e + 5) (by omega) (M := M) hL hP hP7 hY x
  have fin : ∀ M1, Fx [15, 16] M M1 → CJ M1 P Y := fun M1 f1 => CJ_f (Fx_s f1 (by decide)) (fun o ho => f1 o (by simp only [List.mem_cons, List.not_mem_nil, or_false] at ho ⊢; omega)) (by rw [f1 35 (by decide)]) (by rw [f1 35 (by decide)]) hC
  unfold v_can
  by_cases h : rfs P Y x (cS M) (cZ M) (cU M) = 0
  · obtain ⟨s, rfl, hs, hf⟩ := rfs_0 h
    obtain ⟨l1, l2, l3, l4, l5⟩ := sh_l hL (s := s) hs
    rw [if_pos h, Int.toNat_natCast]
    by_cases hp : 0 ≤ y ∧ y < (P : Int)
    · obtain ⟨p, rfl⟩ : ∃ k : Nat, y = (k : Int) := ⟨y.toNat, by omega⟩
      have hfp : 0 ≤ M (47 + 2 * s) p ∧ M (47 + 2 * s) p < (Y : Int) := hf p (by omega)
      obtain ⟨dd, hdd⟩ : ∃ dd : Nat, M (47 + 2 * s) p = (dd : Int) := ⟨(M (47 + 2 * s) p).toNat, by omega⟩
      have hdd' : cU M s p = (dd : Int) := hdd
      rw [if_pos hp, Int.toNat_natCast, hdd', Int.toNat_natCast]
      have hgo : run (call (e + 5)) 140 0 [vA 1, vI s, vI p, vI z, vX 0, vX 0] [] M R = run (call (e + 5)) 140 29 [vA 1, vI s, vI p, vI z, vI 0, vX 0] [] M R := by
        rw [b_140_0, q0, bsI, h, b_140_5, if_pos rfl, b_140_15 hL, s_9 (by omega), bsI, b_140_23, hP, b2_t hp, if_pos (by decide)]
      have hgo2 : run (call (e + 5)) 140 41 [vA 1, vI s, vI p, vI z, vI 0, vX 0] [] M R = if z ≠ 0 then run (call (e + 5)) 140 68 [vA 1, vI s, vI p, vI z, vI 0, vI dd] [] M R else run (call (e + 5)) 140 58 [vA 1, vI s, vI p, vI z, vI 0, vI dd] [] M R := by
        rw [b_140_41 hL _ _ _ _ (by rw [Int.toNat_natCast, l1]; exact l4) (by rw [Int.toNat_natCast, l1, l2]; exact l5), if_pos (by omega), Int.toNat_natCast, l1, l2, l3, if_pos (by omega), Int.toNat_natCast, hdd]
      by_cases z0 : z = 0
      · obtain ⟨M1, q1, f1⟩ := s_141 (d0 := e + 5) (by omega) hL hX (p := p) (d := dd) (by omega) (by omega)
        refine ⟨M1, start _ _ ?_, Fx_s f1 (by decide), fin M1 f1⟩
        rw [hgo, b_140_29, if_pos z0, hgo2, if_neg (fun q => q z0), b_140_58, q1, bsI, b_140_65, b_140_75, if_pos z0]
      by_cases z1 : z = 1
      · obtain ⟨M1, q1, f1⟩ := s_142 (d0 := e + 5) (by omega) hL hX (p := p) (d := dd) (by omega) (by omega)
        refine ⟨M1, start _ _ ?_, Fx_s f1 (by decide), fin M1 f1⟩
        rw [hgo, b_140_29, if_neg z0, b_140_33, if_pos z1, hgo2, if_pos z0, b_140_68, q1, bsI, b_140_75, if_neg z0, if_pos z1]
      · refine ⟨M, start _ _ ?_, Fx_r, hC⟩
        rw [hgo, b_140_29, if_neg z0, b_140_33, if_neg z1, b_140_38, if_neg z0, if_neg z1]
    · refine ⟨M, start _ _ ?_, Fx_r, hC⟩
      rw [if_neg hp, b_140_0, q0, bsI, h, b_140_5, if_pos rfl, b_140_15 hL, s_9 (by omega), bsI, b_140_23, hP, b2_f hp, if_neg (by decide), b_140_26]
  · refine ⟨M, start _ _ ?_, Fx_r, hC⟩
    rw [if_neg h, b_140_0, q0, bsI, b_140_5, if_neg h, b_140_12]
theorem s_241 {d0 : Nat} (hd : 6 ≤ d0) {M : MM} {R : RR} (hL : Lay R) {P Y t : Nat} (hX : XM M R P Y t) (x y z : Int) : ∃ M', call d0 241 [vA 57, vI x, vI y, vI z] M R = some (vI (v_can (Wvm M) (M 59) (M 61) P Y (M 66) (M 67) (mU M) x y z), M', R) ∧ Fx modO M M' := by
  obtain ⟨e, rfl⟩ := s_le hd
  obtain ⟨hP, hP7, hY, hY1, hY24, ht, ht6, hT, hr⟩ := id hX
  have start : ∀ v M', run (call (e + 5)) 241 0 [vA 57, vI x, vI y, vI z, vX 0, vX 0, vX 0, vX 0, vX 0, vX 0] [] M R = some (vI v, M', R) → call (e + 6) 241 [vA 57, vI x, vI y, vI z] M R = some (vI v, M', R) := fun v M' h => call_of 10 [vA 57, vI x, vI y, vI z, vX 0, vX 0, vX 0, vX 0, vX 0, vX 0] (by decide) rfl (Nat.le_of_ble_eq_true rfl) rfl h rfl
  have q0 := s_230 (d0 := e + 5) (by omega) (M := M) hL hP hP7 hY ⟨hY1, hY24⟩ x
  have ep : w32 (M 57 2 - 1) = (P : Int) - 1 := by rw [hP, w32_i (by omega)]
  unfold v_can
  by_cases h : rfs P Y x (M 66) (M 67) (mU M) = 0
  · obtain ⟨s, rfl, hs, hf⟩ := rfs_0 h
    rw [if_pos h, Int.toNat_natCast]
    by_cases hp : 0 ≤ y ∧ y ≤ (P : Int) - 1
    · obtain ⟨p, rfl⟩ : ∃ k : Nat, y = (k : Int) := ⟨y.toNat, by omega⟩
      have hfp : 0 ≤ M 68 (40 * s + p) ∧ M 68 (40 * s + p) < (Y : Int) := hf p (by omega)
      obtain ⟨dd, hdd⟩ : ∃ dd : Nat, M 68 (40 * s + p) = (dd : Int) := ⟨(M 68 (40 * s + p)).toNat, by omega⟩
      have hdd' : mU M s p = (dd : Int) := hdd
      have hrp := hr p (by omega)
      have ei : w32 (w32 (40 * (s : Int)) + (p : Int)) = ((40 * s + p : Nat) : Int) := by
        simp (disch := omega) only [w32_i]; omega
      rw [if_pos (by omega), Int.toNat_natCast, hdd', Int.toNat_natCast]
      have hgo : run (call (e + 5)) 241 0 [vA 57, vI s, vI p, vI z, vX 0, vX 0, vX 0, vX 0, vX 0, vX 0] [] M R = run (call (e + 5)) 241 26 [vA 57, vI s, vI p, vI z, vI 0, vX 0, vX 0, vX 0, vX 0, vX 0] [] M R := by
        rw [b_241_0, q0, bsI, h, b_241_5, if_pos rfl, b_241_15, s_165 (by omega), bsI, ep, b2_t hp, b_241_20, if_pos (by decide)]
      by_cases hz : 0 ≤ z ∧ z ≤ 1
      · have hgo2 : run (call (e + 5)) 241 26 [vA 57, vI s, vI p, vI z, vI 0, vX 0, vX 0, vX 0, vX 0, vX 0] [] M R = run (call (e + 5)) 241 73 [vA 57, vI s, vI p, vI z, vI 0, vI dd, vI (M 61 p), vI (M 59 p), vI 0, vI 0] [] M R := by
          rw [b_241_26, s_162 (by omega), bsI, b2_t hz, b_241_32, if_pos (by decide), b_241_38 hL, ei, if_pos (by omega), if_pos (by omega), if_pos (by omega), Int.toNat_natCast, Int.toNat_natCast, hdd]
        -- one step of the loop
        have stp : ∀ (n : Nat) (c : Nat → Bool) (a : MM) (kd tl : Int), n < 24 → (kd = if z = 1 then (n : Int) else M 59 p) → (tl = if z = 0 then (n : Int) else M 61 p) → (0 ≤ kd ∧ kd < 6) → (0 ≤ tl ∧ tl < (Y : Int)) → Fx [59, 61, 72, 73] M a → (∀ i, ¬ i = p → a 59 i = M 59 i ∧ a 61 i = M 61 i) → c n = decide (0 < Wvm M p dd kd tl) → ∃ a' : MM, run (call (e + 5)) 241 91 [vA 57, vI s, vI p, vI z, vI 0, vI dd, vI (M 61 p), vI (M 59 p), vI (hb c n : Nat), vI n] [] a R = run (call (e + 5)) 241 73 [vA 57, vI s, vI p, vI z, vI 0, vI dd, vI (M 61 p), vI (M 59 p), vI (hb c (n + 1) : Nat), vI ((n + 1 : Nat) : Int)] [] a' R ∧ Fx [59, 61, 72, 73] M a' ∧ ∀ i, ¬ i = p → a' 59 i = M 59 i ∧ a' 61 i = M 61 i := by
          intro n c a kd tl hn hkd htl hk6 htY fa ga hc
          have e1 : w32 ((n : Int) + 1) = ((n + 1 : Nat) : Int) := by rw [w32_i (by omega)]; omega
          have fN : Fx [59, 61, 72, 73] M (up (up a 61 p tl) 59 p kd) := Fx_t fa (Fx_t (Fx_p (by decide)) (Fx_p (by decide)))
          have n59 : up (up a 61 p tl) 59 p kd 59 p = kd := up_s
          have n61 : up (up a 61 p tl) 59 p kd 61 p = tl := by rw [up_o (by decide), up_s]
          obtain ⟨f, g, q⟩ := s_192 (d0 := e + 5) (by omega) (M := up (up a 61 p tl) 59 p kd) hL (t := t) (p := p) (d := dd) (txOk_f (fun o ho => fN o (by simp only [List.mem_cons, List.not_mem_nil, or_false]; omega)) hT) (by rw [fN 57 (by decide)]; exact ht) ht6 (by omega) (by rw [fN 57 (by decide), hY]; omega) (by rw [fN 57 (by decide), hY]; omega) (by rw [n59]; exact hk6) (by rw [n61, fN 57 (by decide), hY]; exact htY) (by rw [fN 60 (by decide)]; exact hrp.2.1)
          have hw : wgt (up (up a 61 p tl) 59 p kd 59 p) (up (up a 61 p tl) 59 p kd 60 p) (up (up a 61 p tl) 59 p kd 61 p) (up (up a 61 p tl) 59 p kd 57 0) dd (lvw (segm (up (up a 61 p tl) 59 p kd) t 0) 0 dd (up (up a 61 p tl) 59 p kd 58 dd) (up (up a 61 p tl) 59 p kd 57 0) (up (up a 61 p tl) 59 p kd 60 p) (up (up a 61 p tl) 59 p kd 61 p) p) = Wvm M p dd kd tl := by
            rw [n59, n61]
            unfold Wvm segm
            rw [fN 57 (by decide), fN 58 (by decide), fN 60 (by decide), fN 63 (by decide), fN 64 (by decide), ht, Int.toNat_natCast]
          rw [hw] at q
          have eh : hb c (n + 1) = if c n = true then hb c n ||| 2 ^ n else hb c n := rfl
          have hd : run (call (e + 5)) 241 91 [vA 57, vI s, vI p, vI z, vI 0, vI dd, vI (M 61 p), vI (M 59 p), vI (hb c n : Nat), vI n] [] a R = run (call (e + 5)) 241 135 [vA 57, vI s, vI p, vI z, vI 0, vI dd, vI (M 61 p), vI (M 59 p), vI (hb c n : Nat), vI n] [vI (Wvm M p dd kd tl), vI (hb c n : Nat)] (upf (upf (up (up a 61 p tl) 59 p kd) 73 f) 72 g) R := by
            by_cases z0 : z = 0
            · rw [if_pos z0] at htl
              rw [if_neg (by omega)] at hkd
              subst htl hkd
              rw [b_241_91 hL, if_neg (fun q => q z0), b_241_100, b_241_107 hL, if_pos (by omega), if_pos (by omega), b_241_123, b_241_125 hL, if_pos (by omega), Int.toNat_natCast, q, bsI]
            · have z1 : z = 1 := by omega
              rw [if_neg z0] at htl
              rw [if_pos z1] at hkd
              subst htl hkd
              rw [b_241_91 hL, if_pos z0, b_241_105, b_241_107 hL, if_pos (by omega), if_neg (fun q => q z1), b_241_118, b_241_125 hL, if_pos (by omega), Int.toNat_natCast, q, bsI]
          refine ⟨upf (upf (up (up a 61 p tl) 59 p kd) 73 f) 72 g, ?_, Fx_t fN (Fx_t (Fx_u (by decide)) (Fx_u (by decide))), fun i hi => ?_⟩
          · rw [hd, b_241_135, eh, hc]
            by_cases gz : 0 < Wvm M p dd kd tl
            · rw [if_neg (by omega), b_241_138, b_241_146, c_hb (by omega), e1, if_pos (decide_eq_true gz)]
            · rw [if_pos (by omega), b_241_145, b_241_146, c_h0 (by omega), e1, if_neg (fun q => gz (of_decide_eq_true q))]
          · rw [upf_n (by decide), upf_n (by decide), upf_n (by decide), upf_n (by decide), up_i hi, up_o (by decide), up_o (by decide), up_i hi]
            exact ga i hi
        have endp : ∀ (a : MM) (v n : Int), Fx [59, 61, 72, 73] M a → (∀ i, ¬ i = p → a 59 i = M 59 i ∧ a 61 i = M 61 i) → run (call (e + 5)) 241 155 [vA 57, vI s, vI p, vI z, vI 0, vI dd, vI (M 61 p), vI (M 59 p), vI v, vI n] [] a R = some (vI v, up (up a 61 p (M 61 p)) 59 p (M 59 p), R) ∧ Fx modO M (up (up a 61 p (M 61 p)) 59 p (M 59 p)) := by
          intro a v n fa ga
          refine ⟨?_, ?_⟩
          · rw [b_241_155 hL, if_pos (by omega), if_pos (by omega), Int.toNat_natCast]
          · intro o ho
            by_cases h59 : o = 59
            · subst h59
              funext i
              by_cases hi : i = p
              · subst hi; rw [up_s]
              · rw [up_i hi, up_o (by decide)]; exact (ga i hi).1
            rw [up_o h59]
            by_cases h61 : o = 61
            · subst h61
              funext i
              by_cases hi : i = p
              · subst hi; rw [up_s]
              · rw [up_i hi]; exact (ga i hi).2
            rw [up_o h61]
            refine fa o (fun hm => ho ?_)
            simp only [modO, List.mem_cons, List.not_mem_nil, or_false] at hm ⊢
            omega
        by_cases z0 : z = 0
        · obtain ⟨M1, ⟨f1, g1⟩, q⟩ := loop_nat (fun n (a : MM) => run (call (e + 5)) 241 73 [vA 57, vI s, vI p, vI z, vI 0, vI dd, vI (M 61 p), vI (M 59 p), vI (hb (toB (Wvm M) (M 59) p dd) n : Nat), vI n] [] a R) (fun _ a => Fx [59, 61, 72, 73] M a ∧ ∀ i, ¬ i = p → a 59 i = M 59 i ∧ a 61 i = M 61 i) Y (by
            rintro n a hn ⟨fa, ga⟩
            obtain ⟨a', q, fa', ga'⟩ := stp n (toB (Wvm M) (M 59) p dd) a (M 59 p) n (by omega) (by rw [if_neg (by omega)]) (by rw [if_pos z0]) hrp.1 (by omega) fa ga rfl
            refine ⟨a', ⟨fa', ga'⟩, ?_⟩
            refine Eq.trans ?_ q
            rw [b_241_73, if_neg (fun q => q z0), b_241_79, b_241_88, fa 57 (by decide), hY, if_neg (by omega)]) M ⟨Fx_r, fun _ _ => ⟨rfl, rfl⟩⟩
          obtain ⟨q5, f5⟩ := endp M1 (hb (toB (Wvm M) (M 59) p dd) Y : Nat) Y f1 g1
          refine ⟨_, start _ _ ?_, f5⟩
          rw [hgo, hgo2]
          refine Eq.trans q ?_
          rw [b_241_73, if_neg (fun q => q z0), b_241_79, b_241_88, f1 57 (by decide), hY, if_pos (by omega), q5, if_pos z0]
        · have z1 : z = 1 := by omega
          obtain ⟨M1, ⟨f1, g1⟩, q⟩ := loop_nat (fun n (a : MM) => run (call (e + 5)) 241 73 [vA 57, vI s, vI p, vI z, vI 0, vI dd, vI (M 61 p), vI (M 59 p), vI (hb (kiB (Wvm M) (M 61) p dd) n : Nat), vI n] [] a R) (fun _ a => Fx [59, 61, 72, 73] M a ∧ ∀ i, ¬ i = p → a 59 i = M 59 i ∧ a 61 i = M 61 i) 6 (by
            rintro n a hn ⟨fa, ga⟩
            obtain ⟨a', q, fa', ga'⟩ := stp n (kiB (Wvm M) (M 61) p dd) a n (M 61 p) (by omega) (by rw [if_pos z1]) (by rw [if_neg z0]) (by omega) hrp.2.2 fa ga rfl
            refine ⟨a', ⟨fa', ga'⟩, ?_⟩
            refine Eq.trans ?_ q
            rw [b_241_73, if_pos z0, b_241_86, b_241_88, if_neg (by omega)]) M ⟨Fx_r, fun _ _ => ⟨rfl, rfl⟩⟩
          obtain ⟨q5, f5⟩ := endp M1 (hb (kiB (Wvm M) (M 61) p dd) 6 : Nat) ((6 : Nat) : Int) f1 g1
          refine ⟨_, start _ _ ?_, f5⟩
          rw [hgo, hgo2]
          refine Eq.trans q ?_
          rw [b_241_73, if_pos z0, b_241_86, b_241_88, if_pos (by omega), q5, if_neg z0, if_pos z1]
      · refine ⟨M, start _ _ ?_, Fx_r⟩
        rw [hgo, b_241_26, s_162 (by omega), bsI, b2_f hz, b_241_32, if_neg (by decide), b_241_35, if_neg (by omega), if_neg (by omega)]
    · refine ⟨M, start _ _ ?_, Fx_r⟩
      rw [if_neg (by omega), b_241_0, q0, bsI, h, b_241_5, if_pos rfl, b_241_15, s_165 (by omega), bsI, ep, b2_f hp, b_241_20, if_neg (by decide), b_241_23]
  · refine ⟨M, start _ _ ?_, Fx_r⟩
    rw [if_neg h, b_241_0, q0, bsI, b_241_5, if_neg h, b_241_12]
end
