section
/-! ===== told lists: judge, list, comes ===== -/
def cS (M : MM) (s : Nat) : Int := M (46 + 2 * s) 0
def cZ (M : MM) (s : Nat) : Int := M (46 + 2 * s) 1
def cU (M : MM) (s i : Nat) : Int := M (47 + 2 * s) i
def mU (M : MM) (s i : Nat) : Int := M 68 (40 * s + i)
theorem sh_l {R : RR} (hL : Lay R) {s : Nat} (hs : s < 4) : R 45 s = 46 + 2 * s ∧ R (46 + 2 * s) 2 = 47 + 2 * s ∧ R 0 (47 + 2 * s + 2) = 40 ∧ kindOf (46 + 2 * s) = 4 ∧ kindOf (47 + 2 * s) = 13 := by
  match s, hs with
  | 0, _ => exact ⟨lay_at hL 49 rfl, lay_at hL 53 rfl, lay_at hL 116 rfl, rfl, rfl⟩
  | 1, _ => exact ⟨lay_at hL 50 rfl, lay_at hL 54 rfl, lay_at hL 117 rfl, rfl, rfl⟩
  | 2, _ => exact ⟨lay_at hL 51 rfl, lay_at hL 55 rfl, lay_at hL 118 rfl, rfl, rfl⟩
  | 3, _ => exact ⟨lay_at hL 52 rfl, lay_at hL 56 rfl, lay_at hL 119 rfl, rfl, rfl⟩
  | s + 4, h => exact absurd h (by omega)
theorem fa_all {c : Nat → Bool} : ∀ k n, fa c k n = true → ∀ i, n ≤ i → i < n + k → c i = true
  | 0, n, _, i, h1, h2 => absurd h2 (by omega)
  | k + 1, n, h, i, h1, h2 => by
    have e : fa c (k + 1) n = if c n = true then fa c k (n + 1) else false := rfl
    rw [e] at h
    by_cases g : c n = true
    · rw [if_pos g] at h
      by_cases g2 : i = n
      · subst g2; exact g
      · exact fa_all k (n + 1) h i (by omega) (by omega)
    · rw [if_neg g] at h; exact absurd h (by decide)
def inY (f : Nat → Int) (Y p : Nat) : Bool := decide (0 ≤ f p ∧ f p < (Y : Int))
def rfs (P Y : Nat) (x : Int) (so sz : Nat → Int) (nu : Nat → Nat → Int) : Int := if 0 ≤ x ∧ x < 4 then (if so x.toNat = -1 then -11 else if sz x.toNat = (P : Int) ∧ fa (inY (nu x.toNat) Y) P 0 = true then 0 else -2) else -2
theorem rfs_0 {P Y : Nat} {x : Int} {so sz : Nat → Int} {nu : Nat → Nat → Int} (h : rfs P Y x so sz nu = 0) : ∃ s : Nat, x = (s : Int) ∧ s < 4 ∧ ∀ p, p < P → 0 ≤ nu s p ∧ nu s p < (Y : Int) := by
  unfold rfs at h
  by_cases g : 0 ≤ x ∧ x < 4
  · rw [if_pos g] at h
    by_cases g1 : so x.toNat = -1
    · rw [if_pos g1] at h; exact absurd h (by decide)
    · rw [if_neg g1] at h
      by_cases g2 : sz x.toNat = (P : Int) ∧ fa (inY (nu x.toNat) Y) P 0 = true
      · exact ⟨x.toNat, by omega, by omega, fun p hp => of_decide_eq_true (fa_all P 0 g2.2 p (by omega) (by omega))⟩
      · rw [if_neg g2] at h; exact absurd h (by decide)
  · rw [if_neg g] at h; exact absurd h (by decide)
theorem p_150 {d : Nat} (hd : 2 ≤ d) {M : MM} {R : RR} (hL : Lay R) (x : Int) : call d 150 [vA 1, vI x] M R = some (vI (if 0 ≤ x ∧ x < 4 then (if cS M x.toNat = -1 then -11 else 0) else -2), M, R) := by
  by_cases h : 0 ≤ x ∧ x < 4
  · obtain ⟨l1, l2, l3, l4, l5⟩ := sh_l hL (s := x.toNat) (by omega)
    have q := s_150 hd (M := M) hL x (by rw [l1]; exact l4)
    rw [l1] at q
    exact q
  · obtain ⟨e, rfl⟩ := s_le hd
    refine call_of 2 [vA 1, vI x] (by decide) rfl (Nat.le_of_ble_eq_true rfl) rfl ?_ rfl
    rw [if_neg h, b_150_0, s_149 (by omega), bsI, b_150_4, b2_f h, if_neg (by decide), b_150_7]
theorem s_129 {d0 : Nat} (hd : 3 ≤ d0) {M : MM} {R : RR} (hL : Lay R) {P Y : Nat} (hP : M 4 0 = (P : Int)) (hP7 : P ≤ 7) (hY : M 2 0 = (Y : Int)) (x : Int) : call d0 129 [vA 1, vI x] M R = some (vI (rfs P Y x (cS M) (cZ M) (cU M)), M, R) := by
  obtain ⟨e, rfl⟩ := s_le hd
  have start : ∀ v, run (call (e + 2)) 129 0 [vA 1, vI x, vX 0, vX 0] [] M R = some (vI v, M, R) → call (e + 3) 129 [vA 1, vI x] M R = some (vI v, M, R) := fun v h => call_of 4 [vA 1, vI x, vX 0, vX 0] (by decide) rfl (Nat.le_of_ble_eq_true rfl) rfl h rfl
  refine start _ ?_
  unfold rfs
  rw [b_129_0, p_150 (by omega) hL, bsI, b_129_5]
  by_cases h : 0 ≤ x ∧ x < 4
  · obtain ⟨s, rfl⟩ : ∃ k : Nat, x = (k : Int) := ⟨x.toNat, by omega⟩
    obtain ⟨l1, l2, l3, l4, l5⟩ := sh_l hL (s := s) (by omega)
    rw [if_pos h, if_pos h, Int.toNat_natCast]
    by_cases g : cS M s = -1
    · rw [if_pos g, if_neg (by decide), b_129_10, if_pos g]
    rw [if_neg g, if_pos rfl, if_neg g, b_129_12 hL _ _ (by rw [Int.toNat_natCast, l1]; exact l4), if_pos h, Int.toNat_natCast, l1, hP]
    by_cases g2 : M (46 + 2 * s) 1 = (P : Int)
    · have key : ∀ k n : Nat, n + k = P → run (call (e + 2)) 129 36 [vA 1, vI s, vI 0, vI n] [] M R = some (vI (if fa (inY (cU M s) Y) k n = true then 0 else -2), M, R) := by
        intro k
        induction k with
        | zero =>
          intro n hn
          rw [b_129_36 hL, hP, if_pos (by omega), b_129_77, if_pos (show fa (inY (cU M s) Y) 0 n = true from rfl)]
        | succ k ih =>
          intro n hn
          have e1 : w32 ((n : Int) + 1) = ((n + 1 : Nat) : Int) := by rw [w32_i (by omega)]; omega
          have ef : fa (inY (cU M s) Y) (k + 1) n = if inY (cU M s) Y n = true then fa (inY (cU M s) Y) k (n + 1) else false := rfl
          rw [b_129_36 hL, hP, if_neg (by omega), b_129_47 hL _ _ _ (by rw [Int.toNat_natCast, l1]; exact l4) (by rw [Int.toNat_natCast, l1, l2]; exact l5), if_pos h, Int.toNat_natCast, l1, l2, l3, if_pos (by omega), s_90 (by omega), bsI, b_129_65, hY, Int.toNat_natCast, ef]
          by_cases g3 : 0 ≤ M (47 + 2 * s) n ∧ M (47 + 2 * s) n < (Y : Int)
          · rw [b2_t g3, if_pos (by decide), b_129_71, e1, ih (n + 1) (by omega), if_pos (show inY (cU M s) Y n = true from decide_eq_true g3)]
          · rw [b2_f g3, if_neg (by decide), b_129_68, if_neg (show ¬ inY (cU M s) Y n = true from fun q => g3 (of_decide_eq_true q)), if_neg (by decide)]
      rw [if_pos g2, b_129_34]
      refine Eq.trans (key P 0 (by omega)) ?_
      by_cases g4 : fa (inY (cU M s) Y) P 0 = true
      · rw [if_pos g4, if_pos ⟨g2, g4⟩]
      · rw [if_neg g4, if_neg (fun q => g4 q.2)]
    · rw [if_neg g2, b_129_31, if_neg (fun q => g2 q.1)]
  · rw [if_neg h, if_neg h, if_neg (by decide), b_129_10]
theorem s_230 {d0 : Nat} (hd : 3 ≤ d0) {M : MM} {R : RR} (hL : Lay R) {P Y : Nat} (hP : M 57 2 = (P : Int)) (hP7 : P ≤ 7) (hY : M 57 0 = (Y : Int)) (hY1 : 1 ≤ Y ∧ Y ≤ 24) (x : Int) : call d0 230 [vA 57, vI x] M R = some (vI (rfs P Y x (M 66) (M 67) (mU M)), M, R) := by
  obtain ⟨e, rfl⟩ := s_le hd
  have start : ∀ v, run (call (e + 2)) 230 0 [vA 57, vI x, vX 0, vX 0] [] M R = some (vI v, M, R) → call (e + 3) 230 [vA 57, vI x] M R = some (vI v, M, R) := fun v h => call_of 4 [vA 57, vI x, vX 0, vX 0] (by decide) rfl (Nat.le_of_ble_eq_true rfl) rfl h rfl
  refine start _ ?_
  unfold rfs
  rw [b_230_0, s_162 (by omega), bsI, b_230_6]
  by_cases h : 0 ≤ x ∧ x ≤ 3
  · obtain ⟨s, rfl⟩ : ∃ k : Nat, x = (k : Int) := ⟨x.toNat, by omega⟩
    rw [b2_t h, if_pos (by decide), if_pos (by omega), b_230_12 hL, if_pos (by omega), Int.toNat_natCast]
    by_cases g : M 66 s = -1
    · rw [if_neg (fun q => q g), b_230_22, if_pos g]
    rw [if_pos g, if_neg g, b_230_25 hL, if_pos (by omega), Int.toNat_natCast, hP]
    have fin : ∀ (n : Nat) (i : Int), run (call (e + 2)) 230 80 [vA 57, vI s, vI i, vI n] [] M R = some (vI (if i = 0 then -2 else 0), M, R) := by
      intro n i
      rw [b_230_80]
      by_cases gi : i = 0
      · rw [if_pos gi, b_230_88, b_230_90, if_pos gi]
      · rw [if_neg gi, b_230_84, b_230_90, if_neg gi]
    by_cases g2 : M 67 s = (P : Int)
    · have key : ∀ k n : Nat, n + k = P → run (call (e + 2)) 230 46 [vA 57, vI s, vI 1, vI n] [] M R = some (vI (if fa (inY (mU M s) Y) k n = true then 0 else -2), M, R) := by
        intro k
        induction k with
        | zero =>
          intro n hn
          rw [b_230_46, hP, if_pos (by omega), fin, if_pos (show fa (inY (mU M s) Y) 0 n = true from rfl), if_neg (by decide)]
        | succ k ih =>
          intro n hn
          have e1 : w32 ((n : Int) + 1) = ((n + 1 : Nat) : Int) := by rw [w32_i (by omega)]; omega
          have ei : w32 (w32 (40 * (s : Int)) + (n : Int)) = ((40 * s + n : Nat) : Int) := by
            simp (disch := omega) only [w32_i]; omega
          have ey : w32 (M 57 0 - 1) = (Y : Int) - 1 := by rw [hY, w32_i (by omega)]
          have ef : fa (inY (mU M s) Y) (k + 1) n = if inY (mU M s) Y n = true then fa (inY (mU M s) Y) k (n + 1) else false := rfl
          rw [b_230_46, hP, if_neg (by omega), b_230_54, if_neg (by decide), b_230_58 hL, ei, if_pos (by omega), s_164 (by omega), bsI, b_230_73, ey, e1, Int.toNat_natCast, ef]
          by_cases g3 : 0 ≤ M 68 (40 * s + n) ∧ M 68 (40 * s + n) ≤ (Y : Int) - 1
          · rw [b2_t g3, ih (n + 1) (by omega), if_pos (show inY (mU M s) Y n = true from decide_eq_true ⟨g3.1, by show M 68 (40 * s + n) < (Y : Int); omega⟩)]
          · rw [b2_f g3, if_neg (show ¬ inY (mU M s) Y n = true from fun q => g3 (by have := of_decide_eq_true q; unfold mU at this; omega)), if_neg (by decide), b_230_46, hP]
            by_cases g5 : (P : Int) ≤ ((n + 1 : Nat) : Int)
            · rw [if_pos g5, fin, if_pos rfl]
            · rw [if_neg g5, b_230_54, if_pos rfl, fin, if_pos rfl]
      rw [if_neg (fun q => q g2), b_230_38, b_230_43]
      refine Eq.trans (key P 0 (by omega)) ?_
      by_cases g4 : fa (inY (mU M s) Y) P 0 = true
      · rw [if_pos g4, if_pos ⟨g2, g4⟩]
      · rw [if_neg g4, if_neg (fun q => g4 q.2)]
    · rw [if_pos g2, b_230_42, b_230_43, b_230_46, hP, if_neg (fun q : _ ∧ _ => g2 q.1)]
      have f0 := fin 0 0
      rw [if_pos rfl] at f0
      by_cases g5 : (P : Int) ≤ 0
      · rw [if_pos g5]; exact f0
      · rw [if_neg g5, b_230_54, if_pos rfl]; exact f0
  · rw [b2_f h, if_neg (by decide), b_230_9, if_neg (by omega)]
/-- WEIGHT under a text: the class, the reference -/
def Wt (M : MM) (t p d : Nat) : Int := wgt (M 5 p) (M 6 p) (M 7 p) (M 2 0) d (lvw (segm M t 0) 0 d (M 3 d) (M 2 0) (M 6 p) (M 7 p) p)
def Wtm (M : MM) (t p d : Nat) : Int := wgt (M 59 p) (M 60 p) (M 61 p) (M 57 0) d (lvw (segm M t 0) 0 d (M 58 d) (M 57 0) (M 60 p) (M 61 p) p)
theorem Wt_x {M M' : MM} (h : Fx clsO M M') : Wt M' = Wt M := by
  funext t p d
  have g := fun o (ho : o ≤ 14 ∨ (17 ≤ o ∧ o ≤ 21) ∨ 45 ≤ o) => h o (clsO_n ho)
  unfold Wt segm
  rw [g 2 (by omega), g 3 (by omega), g 5 (by omega), g 6 (by omega), g 7 (by omega), g 63 (by omega), g 64 (by omega)]
theorem s_131 {d0 : Nat} (hd : 5 ≤ d0) {M : MM} {R : RR} (hL : Lay R) {P Y t t' o : Nat} (hX : XW M R P Y t) (hT : txOk M R t') (ht : (t' : Int) < M 13 5) (ht6 : t' < 6) (hk : kindOf o = 13) (hR : R 0 (o + 2) = 40) (ho : o ≤ 14 ∨ 17 ≤ o) (hf : ∀ p, p < P → 0 ≤ M o p ∧ M o p < (Y : Int)) : ∃ M', call d0 131 [vA 1, vA o, vI t'] M R = some (vI (fi (fun p => decide (Wt M t' p (M o p).toNat = 0)) P 0), M', R) ∧ Fx [15, 16] M M' := by
  obtain ⟨e, rfl⟩ := s_le hd
  have hoc : o ∉ [15, 16] := by simp only [List.mem_cons, List.not_mem_nil, or_false]; omega
  have key : ∀ (k n : Nat) (M1 : MM), n + k = P → Fx [15, 16] M M1 → ∃ M', run (call (e + 4)) 131 2 [vA 1, vA o, vI t', vI n] [] M1 R = some (vI (fi (fun p => decide (Wt M t' p (M o p).toNat = 0)) k n), M', R) ∧ Fx [15, 16] M M' := by
    intro k
    induction k with
    | zero =>
      intro n M1 hn f1
      refine ⟨M1, ?_, f1⟩
      rw [b_131_2 hL, f1 4 (by decide), hX.1, if_pos (by omega), b_131_54]
      rfl
    | succ k ih =>
      intro n M1 hn f1
      have aF : Fx clsO M M1 := Fx_s f1 (by decide)
      obtain ⟨gP, gP7, gY, gY1, gY24, gt, gt5, _, gT, gr⟩ := XW_f aF hX
      have hr := gr n (by omega)
      have hfn := hf n (by omega)
      obtain ⟨dd, hdd⟩ : ∃ dd : Nat, M o n = (dd : Int) := ⟨(M o n).toNat, by omega⟩
      have e1 : w32 ((n : Int) + 1) = ((n + 1 : Nat) : Int) := by rw [w32_i (by omega)]; omega
      obtain ⟨f, g, q⟩ := s_85 (d0 := e + 4) (by omega) (M := M1) hL (t := t') (p := n) (d := dd) (kd := M1 5 n) (tl := M1 7 n) (txOk_f (fun o ho => aF o (clsO_n (by omega))) hT) (by rw [aF 13 (clsO_n (by omega))]; exact ht) ht6 (by omega) (by omega) (by omega) (by omega) (by omega) hr.1 (by omega) hr.2.1
      have hw : wgt (M1 5 n) (M1 6 n) (M1 7 n) (M1 2 0) dd (lvw (segm M1 t' 0) 0 dd (M1 3 dd) (M1 2 0) (M1 6 n) (M1 7 n) n) = Wt M t' n dd := by rw [← Wt_x aF]; rfl
      rw [hw] at q
      have hgo : run (call (e + 4)) 131 2 [vA 1, vA o, vI t', vI n] [] M1 R = run (call (e + 4)) 131 43 [vA 1, vA o, vI t', vI n] [vI (Wt M t' n dd)] (upf (upf M1 15 f) 16 g) R := by
        rw [b_131_2 hL, gP, if_neg (by omega), b_131_13 hL _ _ _ hk, if_pos (by omega), if_pos (by omega), hR, if_pos (by omega), Int.toNat_natCast, f1 o hoc, hdd, q, bsI]
      have ef : fi (fun p => decide (Wt M t' p (M o p).toNat = 0)) (k + 1) n = if decide (Wt M t' n (M o n).toNat = 0) = true then (n : Int) else fi (fun p => decide (Wt M t' p (M o p).toNat = 0)) k (n + 1) := rfl
      have f2 : Fx [15, 16] M (upf (upf M1 15 f) 16 g) := Fx_t f1 (Fx_t (Fx_u (by decide)) (Fx_u (by decide)))
      rw [hgo, ef, hdd, Int.toNat_natCast, b_131_43]
      by_cases gz : Wt M t' n dd = 0
      · rw [if_neg (fun q => q gz), b_131_46, if_pos (decide_eq_true gz)]
        exact ⟨_, rfl, f2⟩
      · rw [if_pos gz, b_131_48, e1, if_neg (fun q => gz (of_decide_eq_true q))]
        exact ih (n + 1) _ (by omega) f2
  obtain ⟨M', q, f⟩ := key P 0 M (by omega) Fx_r
  refine ⟨M', ?_, f⟩
  refine call_of 4 [vA 1, vA o, vI t', vX 0] (by decide) rfl (Nat.le_of_ble_eq_true rfl) rfl ?_ rfl
  rw [b_131_0]
  exact q
theorem s_231 {d0 : Nat} (hd : 5 ≤ d0) {M : MM} {R : RR} (hL : Lay R) {P Y t s : Nat} (hX : XM M R P Y t) (hs : s < 4) (hf : ∀ p, p < P → 0 ≤ mU M s p ∧ mU M s p < (Y : Int)) : ∃ M', call d0 231 [vA 57, vI s] M R = some (vI (fi (fun p => decide (Wm M p (mU M s p).toNat = 0)) P 0), M', R) ∧ Fx [72, 73] M M' := by
  obtain ⟨e, rfl⟩ := s_le hd
  have key : ∀ (k n : Nat) (M1 : MM), n + k = P → Fx [72, 73] M M1 → ∃ M', run (call (e + 4)) 231 2 [vA 57, vI s, vI n] [] M1 R = some (vI (fi (fun p => decide (Wm M p (mU M s p).toNat = 0)) k n), M', R) ∧ Fx [72, 73] M M' := by
    intro k
    induction k with
    | zero =>
      intro n M1 hn f1
      refine ⟨M1, ?_, f1⟩
      rw [b_231_2, f1 57 (by decide), hX.1, if_pos (by omega), b_231_37]
      rfl
    | succ k ih =>
      intro n M1 hn f1
      have aF : Fx modO M M1 := Fx_s f1 (by decide)
      obtain ⟨gP, gP7, gY, gY1, gY24, gt, gt6, gT, gr⟩ := XM_f aF hX
      have hr := gr n (by omega)
      have hfn := hf n (by omega)
      obtain ⟨dd, hdd⟩ : ∃ dd : Nat, mU M s n = (dd : Int) := ⟨(mU M s n).toNat, by omega⟩
      have hdd' : M 68 (40 * s + n) = (dd : Int) := hdd
      have e1 : w32 ((n : Int) + 1) = ((n + 1 : Nat) : Int) := by rw [w32_i (by omega)]; omega
      have ei : w32 (w32 (40 * (s : Int)) + (n : Int)) = ((40 * s + n : Nat) : Int) := by
        simp (disch := omega) only [w32_i]; omega
      obtain ⟨f, g, q⟩ := s_192 (d0 := e + 4) (by omega) (M := M1) hL (t := t) (p := n) (d := dd) gT gt gt6 (by omega) (by omega) (by omega) hr.1 (by omega) hr.2.1
      have hw : wgt (M1 59 n) (M1 60 n) (M1 61 n) (M1 57 0) dd (lvw (segm M1 t 0) 0 dd (M1 58 dd) (M1 57 0) (M1 60 n) (M1 61 n) n) = Wm M n dd := by
        rw [← Wm_x aF]
        unfold Wm
        rw [gt, Int.toNat_natCast]
      rw [hw] at q
      have hgo : run (call (e + 4)) 231 2 [vA 57, vI s, vI n] [] M1 R = run (call (e + 4)) 231 26 [vA 57, vI s, vI n] [vI (Wm M n dd)] (upf (upf M1 73 f) 72 g) R := by
        rw [b_231_2, gP, if_neg (by omega), b_231_10 hL, ei, if_pos (by omega), Int.toNat_natCast, f1 68 (by decide), hdd', q, bsI]
      have ef : fi (fun p => decide (Wm M p (mU M s p).toNat = 0)) (k + 1) n = if decide (Wm M n (mU M s n).toNat = 0) = true then (n : Int) else fi (fun p => decide (Wm M p (mU M s p).toNat = 0)) k (n + 1) := rfl
      have f2 : Fx [72, 73] M (upf (upf M1 73 f) 72 g) := Fx_t f1 (Fx_t (Fx_u (by decide)) (Fx_u (by decide)))
      rw [hgo, ef, hdd, Int.toNat_natCast, b_231_26]
      by_cases gz : Wm M n dd = 0
      · rw [if_neg (fun q => q gz), b_231_29, if_pos (decide_eq_true gz)]
        exact ⟨_, rfl, f2⟩
      · rw [if_pos gz, b_231_31, e1, if_neg (fun q => gz (of_decide_eq_true q))]
        exact ih (n + 1) _ (by omega) f2
  obtain ⟨M', q, f⟩ := key P 0 M (by omega) Fx_r
  refine ⟨M', ?_, f⟩
  refine call_of 3 [vA 57, vI s, vX 0] (by decide) rfl (Nat.le_of_ble_eq_true rfl) rfl ?_ rfl
  rw [b_231_0]
  exact q
def v_judge (w : Nat → Nat → Int) (P Y : Nat) (so sz : Nat → Int) (nu : Nat → Nat → Int) (x : Int) : Int := if rfs P Y x so sz nu = 0 then fi (fun p => decide (w (nu x.toNat p).toNat p = 0)) P 0 else rfs P Y x so sz nu
theorem s_130 {d0 : Nat} (hd : 6 ≤ d0) {M : MM} {R : RR} (hL : Lay R) {P Y t : Nat} (hX : XW M R P Y t) (hC : CJ M P Y) (x : Int) : ∃ M', call d0 130 [vA 1, vI x] M R = some (vI (v_judge (Wd M) P Y (cS M) (cZ M) (cU M) x), M', R) ∧ Fx clsO M M' ∧ CJ M' P Y := by
  obtain ⟨e, rfl⟩ := s_le hd
  obtain ⟨hP, hP7, hY, hY1, hY24, ht, ht5, ht6, hT, hr⟩ := id hX
  have start : ∀ v M', run (call (e + 5)) 130 0 [vA 1, vI x, vX 0] [] M R = some (vI v, M', R) → call (e + 6) 130 [vA 1, vI x] M R = some (vI v, M', R) := fun v M' h => call_of 3 [vA 1, vI x, vX 0] (by decide) rfl (Nat.le_of_ble_eq_true rfl) rfl h rfl
  have q0 := s_129 (d0 := e + 5) (by omega) (M := M) hL hP hP7 hY x
  unfold v_judge
  by_cases h : rfs P Y x (cS M) (cZ M) (cU M) = 0
  · obtain ⟨s, rfl, hs, hf⟩ := rfs_0 h
    obtain ⟨l1, l2, l3, l4, l5⟩ := sh_l hL (s := s) hs
    obtain ⟨M1, q1, f1⟩ := s_131 (d0 := e + 5) (by omega) hL (t' := t) (o := 47 + 2 * s) hX hT ht5 ht6 l5 l3 (by omega) hf
    have F1 : Fx clsO M M1 := Fx_s f1 (by decide)
    have hw : (fun p => decide (Wt M t p (M (47 + 2 * s) p).toNat = 0)) = (fun p => decide (Wd M (cU M s p).toNat p = 0)) := by
      funext p
      have : Wt M t p (M (47 + 2 * s) p).toNat = Wd M (cU M s p).toNat p := by
        unfold Wd Wx Wt cU
        rw [ht, Int.toNat_natCast]
      rw [this]
    rw [hw] at q1
    refine ⟨M1, start _ _ ?_, F1, CJ_f F1 (fun o ho => f1 o (by simp only [List.mem_cons, List.not_mem_nil, or_false] at ho ⊢; omega)) (by rw [f1 35 (by decide)]) (by rw [f1 35 (by decide)]) hC⟩
    rw [if_pos h, b_130_0, q0, bsI, b_130_5, if_pos h, b_130_14 hL _ _ (by rw [Int.toNat_natCast, l1]; exact l4), if_pos (by omega), Int.toNat_natCast, l1, l2, ht, q1, bsI, b_130_34]
  · refine ⟨M, start _ _ ?_, Fx_r, hC⟩
    rw [if_neg h, b_130_0, q0, bsI, b_130_5, if_neg h, b_130_10, b_130_34]
theorem s_232 {d0 : Nat} (hd : 6 ≤ d0) {M : MM} {R : RR} (hL : Lay R) {P Y t : Nat} (hX : XM M R P Y t) (x : Int) : ∃ M', call d0 232 [vA 57, vI x] M R = some (vI (v_judge (Wmd M) P Y (M 66) (M 67) (mU M) x), M', R) ∧ Fx modO M M' := by
  obtain ⟨e, rfl⟩ := s_le hd
  obtain ⟨hP, hP7, hY, hY1, hY24, ht, ht6, hT, hr⟩ := id hX
  have start : ∀ v M', run (call (e + 5)) 232 0 [vA 57, vI x, vX 0] [] M R = some (vI v, M', R) → call (e + 6) 232 [vA 57, vI x] M R = some (vI v, M', R) := fun v M' h => call_of 3 [vA 57, vI x, vX 0] (by decide) rfl (Nat.le_of_ble_eq_true rfl) rfl h rfl
  have q0 := s_230 (d0 := e + 5) (by omega) (M := M) hL hP hP7 hY ⟨hY1, hY24⟩ x
  unfold v_judge
  by_cases h : rfs P Y x (M 66) (M 67) (mU M) = 0
  · obtain ⟨s, rfl, hs, hf⟩ := rfs_0 h
    obtain ⟨M1, q1, f1⟩ := s_231 (d0 := e + 5) (by omega) hL hX hs hf
    refine ⟨M1, start _ _ ?_, Fx_s f1 (by decide)⟩
    rw [if_pos h, b_232_0, q0, bsI, b_232_5, if_neg (fun q => q h), b_232_10, q1, bsI, b_232_15, b_232_19]
    rfl
  · refine ⟨M, start _ _ ?_, Fx_r⟩
    rw [if_neg h, b_232_0, q0, bsI, b_232_5, if_pos h, b_232_18, b_232_19]
end
