section
/-! ===== both sides together ===== -/
def TP (M : MM) : Prop := M 8 1 = M 57 7 ∧ (0 ≤ M 57 7 ∧ M 57 7 ≤ 160) ∧ ∀ i : Nat, (i : Int) < M 57 7 → M 9 i = M 62 i ∧ 0 ≤ M 62 i ∧ M 62 i ≤ 255
def SH (M : MM) : Prop := ∀ s, s < 4 → M (46 + 2 * s) 0 = M 66 s ∧ M (46 + 2 * s) 1 = M 67 s ∧ (-1 ≤ M 66 s ∧ M 66 s ≤ 2) ∧ (0 ≤ M 67 s ∧ M 67 s ≤ 40) ∧ ∀ i, i < 40 → M (47 + 2 * s) i = M 68 (40 * s + i)
def IM (M : MM) (P T : Nat) : Prop := M 54 0 = M 57 12 ∧ (¬ M 57 12 = 0 → M 54 3 = M 57 14 ∧ M 54 4 = M 57 13 ∧ M 54 5 = M 57 15 ∧ (∀ d, d < 24 → M 55 d = M 65 d) ∧ (∀ p, p < 7 → M 56 p = M 65 (24 + p)) ∧ (1 ≤ M 57 14 ∧ M 57 14 ≤ 24) ∧ (0 ≤ M 57 13 ∧ M 57 13 ≤ (P : Int)) ∧ (0 ≤ M 57 15 ∧ M 57 15 < (T : Int)) ∧ ∀ p : Nat, (p : Int) < M 57 13 → 0 ≤ M 65 (24 + p) ∧ M 65 (24 + p) < M 57 14)
def SCL (M : MM) (P Y T t : Nat) : Prop := (M 4 0 = (P : Int) ∧ M 57 2 = (P : Int) ∧ P ≤ 7) ∧ (M 2 0 = (Y : Int) ∧ M 57 0 = (Y : Int) ∧ 1 ≤ Y ∧ Y ≤ 24) ∧ M 13 5 = (T : Int) ∧ M 57 10 = (T : Int) ∧ T ≤ 6 ∧ M 13 6 = (t : Int) ∧ M 57 11 = (t : Int) ∧ t < T
def PE (M : MM) (P Y : Nat) : Prop := M 3 = M 58 ∧ M 5 = M 59 ∧ M 6 = M 60 ∧ M 7 = M 61 ∧ ∀ p, p < P → (0 ≤ M 59 p ∧ M 59 p < 6) ∧ (0 ≤ M 60 p ∧ M 60 p ≤ 9) ∧ (0 ≤ M 61 p ∧ M 61 p < (Y : Int))
/-- the letters of the reference's WORDS -/
def wordsR : List Int := [119, 101, 105, 103, 104, 115, 32, 32, 112, 97, 121, 115, 32, 32, 32, 32, 97, 115, 107, 115, 32, 32, 32, 32, 100, 97, 121, 32, 32, 32, 32, 32, 98, 111, 114, 110, 32, 32, 32, 32, 121, 101, 97, 114, 32, 32, 32, 32, 109, 111, 114, 101, 32, 32, 32, 32, 116, 111, 108, 100, 32, 32, 32, 32, 119, 104, 111, 32, 32, 32, 32, 32, 111, 114, 32, 32, 32, 32, 32, 32, 97, 110, 100, 32, 32, 32, 32, 32, 110, 111, 116, 32, 32, 32, 32, 32]
def WT (M : MM) : Prop := ∀ i, i < 96 → M 70 i = wordsR.getD i 0
/-- the room that is used -/
def RM (R : RR) (T : Nat) : Prop := R 0 0 = 79 + 3 * T ∧ R 0 1 ≤ 20000 + 1000 * T ∧ ∀ i, i < T → R 14 i ≤ R 0 0 ∧ R (R 14 i) 0 ≤ R 0 0 ∧ R (R 14 i) 1 ≤ R 0 0
def IV (n P Y T t : Nat) (M : MM) (R : RR) : Prop := SCL M P Y T t ∧ PE M P Y ∧ (∀ i, i < T → txOk M R i) ∧ TP M ∧ SH M ∧ IM M P T ∧ Lay R ∧ CJ M P Y ∧ M 22 7 ≤ 1 + 7 * (n : Int) ∧ RM R T ∧ WT M ∧ M 12 0 = 0
theorem CJ_g {M M' : MM} {P Y : Nat} (h : ∀ o, o ∈ [2, 3, 5, 6, 7, 13, 63, 64, 22, 23, 24, 25, 27, 28, 29, 32, 33, 34, 35, 38, 39, 40, 41, 42, 43] → M' o = M o) (hC : CJ M P Y) : CJ M' P Y := by
  have hW : Wx M' = Wx M := Wx_f (fun o ho => h o (by
    simp only [List.mem_cons, List.not_mem_nil, or_false] at ho ⊢
    omega))
  unfold CJ CI CW spI aW fW Wd at *
  rw [hW, h 22 (by decide), h 23 (by decide), h 24 (by decide), h 25 (by decide), h 27 (by decide), h 28 (by decide), h 29 (by decide), h 32 (by decide), h 33 (by decide), h 34 (by decide), h 35 (by decide), h 38 (by decide), h 39 (by decide), h 40 (by decide), h 41 (by decide), h 42 (by decide), h 43 (by decide)]
  exact hC
/-- what neither side's questions write -/
def keepO (o : Nat) : Prop := o ≤ 14 ∨ (17 ≤ o ∧ o ≤ 22) ∨ (45 ≤ o ∧ o ≤ 70) ∨ 83 ≤ o
theorem IV_k {n P Y T t : Nat} {M M' : MM} {R : RR} (h : ∀ o, keepO o → M' o = M o) (hC : CJ M' P Y) (hI : IV n P Y T t M R) : IV (n + 1) P Y T t M' R := by
  obtain ⟨a1, a2, a3, a4, a5, a6, a7, a8, a9, a10⟩ := hI
  have g : ∀ o, o ≤ 14 ∨ (17 ≤ o ∧ o ≤ 22) ∨ (45 ≤ o ∧ o ≤ 70) ∨ 83 ≤ o → M' o = M o := fun o ho => h o ho
  refine ⟨?_, ?_, ?_, ?_, ?_, ?_, a7, hC, ?_, a10.1, ?_⟩
  · unfold SCL at *
    rw [g 4 (by omega), g 57 (by omega), g 2 (by omega), g 13 (by omega)]
    exact a1
  · unfold PE at *
    rw [g 3 (by omega), g 58 (by omega), g 5 (by omega), g 59 (by omega), g 6 (by omega), g 60 (by omega), g 7 (by omega), g 61 (by omega)]
    exact a2
  · exact fun i hi => txOk_f (fun o ho => g o (by omega)) (a3 i hi)
  · unfold TP at *
    rw [g 8 (by omega), g 9 (by omega), g 57 (by omega), g 62 (by omega)]
    exact a4
  · intro s hs
    have := a5 s hs
    rw [g (46 + 2 * s) (by omega), g (47 + 2 * s) (by omega), g 66 (by omega), g 67 (by omega), g 68 (by omega)]
    exact this
  · unfold IM at *
    rw [g 54 (by omega), g 55 (by omega), g 56 (by omega), g 57 (by omega), g 65 (by omega)]
    exact a6
  · rw [g 22 (by omega)]
    omega
  · exact ⟨by unfold WT; rw [g 70 (by omega)]; exact a10.2.1, by rw [g 12 (by omega)]; exact a10.2.2⟩
theorem iv_x {n P Y T t : Nat} {M : MM} {R : RR} (hI : IV n P Y T t M R) : XW M R P Y t := by
  obtain ⟨a1, a2, a3, _⟩ := hI
  obtain ⟨⟨b1, b2, b3⟩, ⟨b4, b5, b6, b7⟩, b8, b9, b10, b11, b12, b13⟩ := a1
  obtain ⟨c1, c2, c3, c4, c5⟩ := a2
  refine ⟨b1, b3, b4, b6, b7, b11, by omega, by omega, a3 t b13, ?_⟩
  rw [c2, c3, c4]
  exact c5
theorem iv_m0 {n P Y T t : Nat} {M : MM} {R : RR} (hI : IV n P Y T t M R) : XM M R P Y t := by
  obtain ⟨a1, a2, a3, _⟩ := hI
  obtain ⟨⟨b1, b2, b3⟩, ⟨b4, b5, b6, b7⟩, b8, b9, b10, b11, b12, b13⟩ := a1
  obtain ⟨c1, c2, c3, c4, c5⟩ := a2
  exact ⟨b2, b3, b5, b6, b7, b12, by omega, a3 t b13, c5⟩
/-- the reference's part is as it was -/
def refO (M M1 : MM) : Prop := ∀ o, o ∈ [57, 58, 59, 60, 61, 62, 63, 64, 65, 66, 67, 68, 69, 70] → M1 o = M o
theorem ref_c {M M1 : MM} (h : Fx clsO M M1) : refO M M1 := fun o ho => h o (clsO_n (by
  simp only [List.mem_cons, List.not_mem_nil, or_false] at ho
  omega))
theorem iv_m {n P Y T t : Nat} {M M1 : MM} {R : RR} (hI : IV n P Y T t M R) (f : Fx clsO M M1) : XM M1 R P Y t := by
  have g := fun o (ho : o ≤ 14 ∨ (17 ≤ o ∧ o ≤ 21) ∨ 45 ≤ o) => f o (clsO_n ho)
  obtain ⟨h1, h2, h3, h4, h5, h6, h8, h9, h10⟩ := iv_m0 hI
  refine ⟨by rw [g 57 (by omega)]; exact h1, h2, by rw [g 57 (by omega)]; exact h3, h4, h5, by rw [g 57 (by omega)]; exact h6, h8, txOk_f (fun o ho => g o (by omega)) h9, ?_⟩
  rw [g 59 (by omega), g 60 (by omega), g 61 (by omega)]
  exact h10
theorem iv_f {n P Y T t : Nat} {M M1 : MM} {R : RR} (hI : IV n P Y T t M R) (f : Fx clsO M M1) : M1 58 = M 3 ∧ M1 59 = M 5 ∧ M1 60 = M 6 ∧ M1 61 = M 7 ∧ M1 57 = M 57 ∧ segm M1 = segm M ∧ M1 66 = M 66 ∧ M1 67 = M 67 ∧ M1 68 = M 68 := by
  have g := fun o (ho : o ≤ 14 ∨ (17 ≤ o ∧ o ≤ 21) ∨ 45 ≤ o) => f o (clsO_n ho)
  obtain ⟨_, ⟨c1, c2, c3, c4, c5⟩, _⟩ := hI
  refine ⟨by rw [g 58 (by omega), c1], by rw [g 59 (by omega), c2], by rw [g 60 (by omega), c3], by rw [g 61 (by omega), c4], g 57 (by omega), ?_, g 66 (by omega), g 67 (by omega), g 68 (by omega)⟩
  funext t j
  unfold segm
  rw [g 63 (by omega), g 64 (by omega)]
theorem iv_w {n P Y T t : Nat} {M M1 : MM} {R : RR} (hI : IV n P Y T t M R) (f : Fx clsO M M1) : Wmd M1 = Wd M := by
  obtain ⟨e1, e2, e3, e4, e5, e6, _⟩ := iv_f hI f
  obtain ⟨⟨⟨b1, b2, b3⟩, ⟨b4, b5, b6, b7⟩, b8, b9, b10, b11, b12, b13⟩, _⟩ := hI
  funext d p
  show Wm M1 p d = Wx M p d
  unfold Wm Wx
  rw [e1, e2, e3, e4, e5, e6, b4, b5, b11, b12]
theorem iv_a {n P Y T t : Nat} {M M1 : MM} {R : RR} (hI : IV n P Y T t M R) (f : Fx clsO M M1) : Am M1 = Ax M := by
  obtain ⟨e1, e2, e3, e4, e5, e6, _⟩ := iv_f hI f
  obtain ⟨⟨⟨b1, b2, b3⟩, ⟨b4, b5, b6, b7⟩, b8, b9, b10, b11, b12, b13⟩, _⟩ := hI
  funext d p
  unfold Am Ax
  rw [e1, e3, e4, e5, e6, b4, b5, b11, b12]
theorem iv_t {n P Y T t : Nat} {M M1 : MM} {R : RR} (hI : IV n P Y T t M R) (f : Fx clsO M M1) : Wtm M1 = Wt M := by
  obtain ⟨e1, e2, e3, e4, e5, e6, _⟩ := iv_f hI f
  obtain ⟨⟨⟨b1, b2, b3⟩, ⟨b4, b5, b6, b7⟩, b8, b9, b10, b11, b12, b13⟩, _⟩ := hI
  funext x p d
  unfold Wtm Wt
  rw [e1, e2, e3, e4, e5, e6, b4, b5]
theorem iv_v {n P Y T t : Nat} {M M1 : MM} {R : RR} (hI : IV n P Y T t M R) (f : Fx clsO M M1) : Wvm M1 = Wv M := by
  obtain ⟨e1, e2, e3, e4, e5, e6, _⟩ := iv_f hI f
  obtain ⟨⟨⟨b1, b2, b3⟩, ⟨b4, b5, b6, b7⟩, b8, b9, b10, b11, b12, b13⟩, _⟩ := hI
  funext p d kd tl
  unfold Wvm Wv
  rw [e1, e3, e5, e6, b4, b5, b11, b12]
-- sheets are alike where they are looked at
def shE (so sz : Nat → Int) (nu : Nat → Nat → Int) (so' sz' : Nat → Int) (nu' : Nat → Nat → Int) : Prop := ∀ s, s < 4 → so s = so' s ∧ sz s = sz' s ∧ ∀ i, i < 40 → nu s i = nu' s i
theorem iv_s {n P Y T t : Nat} {M M1 : MM} {R : RR} (hI : IV n P Y T t M R) (f : Fx clsO M M1) : shE (M1 66) (M1 67) (mU M1) (cS M) (cZ M) (cU M) := by
  obtain ⟨e1, e2, e3, e4, e5, e6, e7, e8, e9⟩ := iv_f hI f
  obtain ⟨_, _, _, _, a5, _⟩ := hI
  intro s hs
  obtain ⟨h1, h2, _, _, h5⟩ := a5 s hs
  rw [e7, e8]
  refine ⟨h1.symm, h2.symm, fun i hi => ?_⟩
  unfold mU cU
  rw [e9]
  exact (h5 i hi).symm
theorem fi_c {c c' : Nat → Bool} : ∀ k n, (∀ i, n ≤ i → i < n + k → c i = c' i) → fi c k n = fi c' k n
  | 0, _, _ => rfl
  | k + 1, n, h => by
    show (if c n = true then (n : Int) else fi c k (n + 1)) = (if c' n = true then (n : Int) else fi c' k (n + 1))
    rw [h n (Nat.le_refl n) (by omega), fi_c k (n + 1) (fun i h1 h2 => h i (by omega) (by omega))]
theorem fa_c {c c' : Nat → Bool} : ∀ k n, (∀ i, n ≤ i → i < n + k → c i = c' i) → fa c k n = fa c' k n
  | 0, _, _ => rfl
  | k + 1, n, h => by
    show (if c n = true then fa c k (n + 1) else false) = (if c' n = true then fa c' k (n + 1) else false)
    rw [h n (Nat.le_refl n) (by omega), fa_c k (n + 1) (fun i h1 h2 => h i (by omega) (by omega))]
theorem had_c {f f' : Nat → Int} : ∀ n, (∀ i, i < n → f i = f' i) → had f n = had f' n
  | 0, _ => rfl
  | n + 1, h => by
    show had f n ||| 2 ^ (f n).toNat = had f' n ||| 2 ^ (f' n).toNat
    rw [had_c n (fun i hi => h i (by omega)), h n (by omega)]
theorem hb_c {c c' : Nat → Bool} : ∀ n, (∀ i, i < n → c i = c' i) → hb c n = hb c' n
  | 0, _ => rfl
  | n + 1, h => by
    show (if c n = true then hb c n ||| 2 ^ n else hb c n) = (if c' n = true then hb c' n ||| 2 ^ n else hb c' n)
    rw [hb_c n (fun i hi => h i (by omega)), h n (by omega)]
theorem pn_c {f f' : Nat → Int} : ∀ n, (∀ i, i < n → f i = f' i) → pn f n = pn f' n
  | 0, _ => rfl
  | n + 1, h => by
    show pn f n * f n = pn f' n * f' n
    rw [pn_c n (fun i hi => h i (by omega)), h n (by omega)]
section
variable {so sz so' sz' : Nat → Int} {nu nu' : Nat → Nat → Int}
theorem e_rfs (h : shE so sz nu so' sz' nu') {P : Nat} (hP : P ≤ 7) (Y : Nat) (x : Int) : rfs P Y x so sz nu = rfs P Y x so' sz' nu' := by
  unfold rfs
  by_cases g : 0 ≤ x ∧ x < 4
  · obtain ⟨h1, h2, h3⟩ := h x.toNat (by omega)
    rw [if_pos g, if_pos g, h1, h2, fa_c (c' := inY (nu' x.toNat) Y) P 0 (fun i _ hi => by unfold inY; rw [h3 i (by omega)])]
  · rw [if_neg g, if_neg g]
theorem e_judge (h : shE so sz nu so' sz' nu') {P : Nat} (hP : P ≤ 7) (Y : Nat) (w : Nat → Nat → Int) (x : Int) : v_judge w P Y so sz nu x = v_judge w P Y so' sz' nu' x := by
  unfold v_judge
  rw [e_rfs h hP Y x]
  by_cases g : rfs P Y x so' sz' nu' = 0
  · obtain ⟨s, hs, hs4, _⟩ := rfs_0 g
    obtain ⟨h1, h2, h3⟩ := h s hs4
    subst hs
    rw [if_pos g, if_pos g]
    try rw [Int.toNat_natCast]
    exact fi_c _ _ (fun i _ hi => by rw [h3 i (by omega)])
  · rw [if_neg g, if_neg g]
theorem e_list (h : shE so sz nu so' sz' nu') {P : Nat} (hP : P ≤ 7) (Y : Nat) (w : Nat → Nat → Int) (kd mo : Nat → Int) (x y : Int) : v_list w kd mo P Y so sz nu x y = v_list w kd mo P Y so' sz' nu' x y := by
  unfold v_list
  rw [e_rfs h hP Y x]
  by_cases g : rfs P Y x so' sz' nu' = 0
  · obtain ⟨s, hs, hs4, _⟩ := rfs_0 g
    obtain ⟨h1, h2, h3⟩ := h s hs4
    subst hs
    rw [if_pos g, if_pos g]
    try rw [Int.toNat_natCast]
    have e1 : fi (sec (nu s)) P 0 = fi (sec (nu' s)) P 0 := fi_c _ _ (fun i _ hi => by
      unfold sec
      rw [h3 i (by omega), had_c i (fun j hj => h3 j (by omega))])
    have e2 : prs (nu s) P = prs (nu' s) P := sm_c _ (fun i hi => sm_c _ (fun j hj => by rw [h3 i (by omega), h3 j (by omega)]))
    have e3 : had (nu s) P = had (nu' s) P := had_c _ (fun i hi => h3 i (by omega))
    have e4 : dbs w kd mo (nu s) P = dbs w kd mo (nu' s) P := sm_c _ (fun i hi => by rw [h3 i (by omega)])
    rw [e1, e2, e3, e4]
  · rw [if_neg g, if_neg g]
theorem e_comes (h : shE so sz nu so' sz' nu') {P : Nat} (hP : P ≤ 7) (Y : Nat) (w : Nat → Nat → Int) (x y : Int) : v_comes w P Y so sz nu x y = v_comes w P Y so' sz' nu' x y := by
  unfold v_comes
  rw [e_rfs h hP Y x]
  by_cases g : rfs P Y x so' sz' nu' = 0
  · obtain ⟨s, hs, hs4, _⟩ := rfs_0 g
    obtain ⟨h1, h2, h3⟩ := h s hs4
    subst hs
    rw [if_pos g, if_pos g]
    try rw [Int.toNat_natCast]
    rw [pn_c P (f' := fun p => w (nu' s p).toNat p) (fun i hi => by rw [h3 i (by omega)])]
  · rw [if_neg g, if_neg g]
theorem e_luck (h : shE so sz nu so' sz' nu') {P : Nat} (hP : P ≤ 7) (Y : Nat) (w : Nat → Nat → Int) (x y : Int) : v_luck w P Y so sz nu x y = v_luck w P Y so' sz' nu' x y := by
  unfold v_luck
  rw [e_rfs h hP Y x]
  by_cases g : rfs P Y x so' sz' nu' = 0
  · obtain ⟨s, hs, hs4, _⟩ := rfs_0 g
    obtain ⟨h1, h2, h3⟩ := h s hs4
    subst hs
    rw [if_pos g, if_pos g]
    try rw [Int.toNat_natCast]
    rw [had_c P (fun i hi => h3 i (by omega))]
  · rw [if_neg g, if_neg g]
theorem e_laws (h : shE so sz nu so' sz' nu') {P : Nat} (hP : P ≤ 7) (Y T : Nat) (w : Nat → Nat → Nat → Int) (x : Int) : v_laws w P Y T so sz nu x = v_laws w P Y T so' sz' nu' x := by
  unfold v_laws
  rw [e_rfs h hP Y x]
  by_cases g : rfs P Y x so' sz' nu' = 0
  · obtain ⟨s, hs, hs4, _⟩ := rfs_0 g
    obtain ⟨h1, h2, h3⟩ := h s hs4
    subst hs
    rw [if_pos g, if_pos g]
    try rw [Int.toNat_natCast]
    rw [hb_c T (c' := lwB w (nu' s) P) (fun t _ => by
      unfold lwB
      rw [fi_c P 0 (c' := fun p => decide (w t p (nu' s p).toNat = 0)) (fun i _ hi => by rw [h3 i (by omega)])])]
  · rw [if_neg g, if_neg g]
theorem e_can (h : shE so sz nu so' sz' nu') {P : Nat} (hP : P ≤ 7) (Y : Nat) (w : Nat → Nat → Int → Int → Int) (kd tl : Nat → Int) (x y z : Int) : v_can w kd tl P Y so sz nu x y z = v_can w kd tl P Y so' sz' nu' x y z := by
  unfold v_can
  rw [e_rfs h hP Y x]
  by_cases g : rfs P Y x so' sz' nu' = 0
  · obtain ⟨s, hs, hs4, _⟩ := rfs_0 g
    obtain ⟨h1, h2, h3⟩ := h s hs4
    subst hs
    rw [if_pos g, if_pos g]
    try rw [Int.toNat_natCast]
    by_cases gp : 0 ≤ y ∧ y < (P : Int)
    · rw [if_pos gp, if_pos gp, h3 y.toNat (by omega)]
    · rw [if_neg gp, if_neg gp]
  · rw [if_neg g, if_neg g]
end
def INV (n : Nat) (M : MM) (R : RR) : Prop := ∃ P Y T t, IV n P Y T t M R
/-- both sides answer alike, and go on alike -/
def ST (k : Int → AV) (d n mi mj : Nat) (as : List AV) (M : MM) (R : RR) : Prop := ∃ (x : Int) (M1 : MM) (R1 : RR) (M2 : MM), call d mi (vA 1 :: as) M R = some (k x, M1, R1) ∧ call d mj (vA 57 :: as) M1 R1 = some (k x, M2, R1) ∧ INV (n + 1) M2 R1
theorem st_q {k : Int → AV} {d n mi mj : Nat} {as : List AV} {M : MM} {R : RR} {P Y T t : Nat} (hI : IV n P Y T t M R) (x : Int) (h1 : ∃ M1, call d mi (vA 1 :: as) M R = some (k x, M1, R) ∧ Fx clsO M M1 ∧ CJ M1 P Y) (h2 : ∀ M1, Fx clsO M M1 → ∃ M2, call d mj (vA 57 :: as) M1 R = some (k x, M2, R) ∧ Fx modO M1 M2) : ST k d n mi mj as M R := by
  obtain ⟨M1, q1, f1, c1⟩ := h1
  obtain ⟨M2, q2, f2⟩ := h2 M1 f1
  refine ⟨x, M1, R, M2, q1, q2, P, Y, T, t, IV_k ?_ ?_ hI⟩
  · intro o ho
    unfold keepO at ho
    rw [f2 o (modO_n (by omega))]
    by_cases h : o = 22
    · subst h; exact f1 22 (by decide)
    · exact f1 o (clsO_n (by omega))
  · exact CJ_g (fun o ho => f2 o (modO_n (by
      simp only [List.mem_cons, List.not_mem_nil, or_false] at ho
      omega))) c1
end
