section
/-! ===== list ===== -/
def had (f : Nat → Int) : Nat → Nat
  | 0 => 0
  | n + 1 => had f n ||| 2 ^ (f n).toNat
theorem had_lt {f : Nat → Int} : ∀ n, (∀ i, i < n → 0 ≤ f i ∧ f i < 24) → had f n < 16777216
  | 0, _ => by show 0 < 16777216; decide
  | n + 1, h => by
    have a := had_lt n (fun i hi => h i (by omega))
    have b := h n (by omega)
    have c : 2 ^ (f n).toNat < 2 ^ 24 := Nat.pow_lt_pow_right (by omega) (by omega)
    exact Nat.or_lt_two_pow (n := 24) a c
theorem had_t {f : Nat → Int} {j : Nat} : ∀ n, (had f n).testBit j = true ↔ ∃ i, i < n ∧ (f i).toNat = j
  | 0 => by
    show (0 : Nat).testBit j = true ↔ _
    rw [Nat.zero_testBit]
    exact ⟨fun h => absurd h (by decide), fun ⟨i, hi, _⟩ => absurd hi (by omega)⟩
  | n + 1 => by
    show (had f n ||| 2 ^ (f n).toNat).testBit j = true ↔ _
    rw [Nat.testBit_or, Bool.or_eq_true, had_t n, Nat.testBit_two_pow, decide_eq_true_eq]
    constructor
    · rintro (⟨i, hi, h⟩ | h)
      · exact ⟨i, by omega, h⟩
      · exact ⟨n, by omega, h⟩
    · rintro ⟨i, hi, h⟩
      by_cases g : i = n
      · subst g; exact .inr h
      · exact .inl ⟨i, by omega, h⟩
/-- one's day was had by an earlier one -/
def ex (f : Nat → Int) (p : Nat) : Nat → Nat → Bool
  | 0, _ => false
  | k + 1, o => if f o = f p then true else ex f p k (o + 1)
theorem ex_t {f : Nat → Int} {p : Nat} : ∀ k o, ex f p k o = true ↔ ∃ i, o ≤ i ∧ i < o + k ∧ f i = f p
  | 0, o => ⟨fun h => absurd h (by show ¬ false = true; decide), fun ⟨i, h1, h2, _⟩ => absurd h2 (by omega)⟩
  | k + 1, o => by
    show (if f o = f p then true else ex f p k (o + 1)) = true ↔ _
    by_cases g : f o = f p
    · rw [if_pos g]
      exact ⟨fun _ => ⟨o, by omega, by omega, g⟩, fun _ => rfl⟩
    · rw [if_neg g, ex_t k (o + 1)]
      constructor
      · rintro ⟨i, h1, h2, h3⟩
        exact ⟨i, by omega, by omega, h3⟩
      · rintro ⟨i, h1, h2, h3⟩
        have : i ≠ o := fun e => g (e ▸ h3)
        exact ⟨i, by omega, by omega, h3⟩
theorem ex_had {f : Nat → Int} {p : Nat} (h : ∀ i, i ≤ p → 0 ≤ f i) : ex f p p 0 = (had f p).testBit (f p).toNat := by
  rw [Bool.eq_iff_iff, ex_t, had_t]
  constructor
  · rintro ⟨i, _, h2, h3⟩
    exact ⟨i, by omega, by rw [h3]⟩
  · rintro ⟨i, h1, h2⟩
    have a := h i (by omega)
    have b := h p (by omega)
    exact ⟨i, by omega, by omega, by omega⟩
def sec (f : Nat → Int) (p : Nat) : Bool := (had f p).testBit (f p).toNat
def prs (f : Nat → Int) (P : Nat) : Int := sm (fun p => sm (fun o => if f p = f o then 1 else 0) p) P
abbrev db (kd mo : Nat → Int) (p : Nat) : Int := if kd p = 2 then w32 (1 + mo p) else if kd p = 4 then w32 (2 * w32 (1 + mo p)) else 1
def dbs (w : Nat → Nat → Int) (kd mo f : Nat → Int) (P : Nat) : Int := sm (fun p => if w (f p).toNat p = 0 then db kd mo p else 0) P
def v_list (w : Nat → Nat → Int) (kd mo : Nat → Int) (P Y : Nat) (so sz : Nat → Int) (nu : Nat → Nat → Int) (x y : Int) : Int := if rfs P Y x so sz nu = 0 then (if y = 0 then fi (sec (nu x.toNat)) P 0 else if y = 1 then prs (nu x.toNat) P else if y = 2 then (had (nu x.toNat) P : Nat) else if y = 3 then dbs w kd mo (nu x.toNat) P else -2) else rfs P Y x so sz nu
theorem s_133 {d0 : Nat} (hd : 1 ≤ d0) {M : MM} {R : RR} (hL : Lay R) {P o : Nat} (hP : M 4 0 = (P : Int)) (hP7 : P ≤ 7) (hk : kindOf o = 13) (hR : R 0 (o + 2) = 40) (hf : ∀ p, p < P → 0 ≤ M o p ∧ M o p < 24) : call d0 133 [vA 1, vA o] M R = some (vI (fi (sec (M o)) P 0), M, R) := by
  obtain ⟨e, rfl⟩ := s_le hd
  have key : ∀ k n : Nat, n + k = P → run (call e) 133 4 [vA 1, vA o, vI (had (M o) n : Nat), vI n] [] M R = some (vI (fi (sec (M o)) k n), M, R) := by
    intro k
    induction k with
    | zero =>
      intro n hn
      rw [b_133_4 hL, hP, if_pos (by omega), b_133_41]
      rfl
    | succ k ih =>
      intro n hn
      have e1 : w32 ((n : Int) + 1) = ((n + 1 : Nat) : Int) := by rw [w32_i (by omega)]; omega
      have hh := had_lt n (fun i hi => hf i (by omega))
      have hh2 := had_lt (n + 1) (fun i hi => hf i (by omega))
      have hfn := hf n (by omega)
      obtain ⟨dd, hdd⟩ : ∃ dd : Nat, M o n = (dd : Int) := ⟨(M o n).toNat, by omega⟩
      have p2 : 2 ^ dd < 2 ^ 24 := Nat.pow_lt_pow_right (by omega) (by omega)
      have ef : fi (sec (M o)) (k + 1) n = if sec (M o) n = true then (n : Int) else fi (sec (M o)) k (n + 1) := rfl
      have es : sec (M o) n = (had (M o) n).testBit dd := by unfold sec; rw [hdd, Int.toNat_natCast]
      have eh : had (M o) (n + 1) = had (M o) n ||| 2 ^ dd := by show had (M o) n ||| 2 ^ (M o n).toNat = _; rw [hdd, Int.toNat_natCast]
      rw [b_133_4 hL, hP, if_neg (by omega), b_133_15 _ _ _ hk, hR, if_pos (by omega), Int.toNat_natCast, hdd, c_bit (by omega) (by omega), ef, es]
      by_cases g : (had (M o) n).testBit dd = true
      · rw [b2_t g, if_neg (by decide), b_133_25, if_pos g]
      · rw [b2_f g, if_pos rfl, b_133_27 _ _ _ hk, hR, if_pos (by omega), Int.toNat_natCast, hdd, c_one (by omega), c_or_n (by omega) (by omega), ← eh, e1, if_neg g]
        exact ih (n + 1) (by omega)
  refine call_of 4 [vA 1, vA o, vX 0, vX 0] (by decide) rfl (Nat.le_of_ble_eq_true rfl) rfl ?_ rfl
  rw [b_133_0]
  exact key P 0 (by omega)
theorem s_135 {d0 : Nat} (hd : 1 ≤ d0) {M : MM} {R : RR} (hL : Lay R) {P o : Nat} (hP : M 4 0 = (P : Int)) (hP7 : P ≤ 7) (hk : kindOf o = 13) (hR : R 0 (o + 2) = 40) (hf : ∀ p, p < P → 0 ≤ M o p ∧ M o p < 24) : call d0 135 [vA 1, vA o] M R = some (vI (had (M o) P : Nat), M, R) := by
  obtain ⟨e, rfl⟩ := s_le hd
  have q := iter_eq (fun n : Nat => run (call e) 135 4 [vA 1, vA o, vI (had (M o) n : Nat), vI n] [] M R) P (by
    intro n hn
    have e1 : w32 ((n : Int) + 1) = ((n + 1 : Nat) : Int) := by rw [w32_i (by omega)]; omega
    have hh := had_lt n (fun i hi => hf i (by omega))
    have hfn := hf n (by omega)
    obtain ⟨dd, hdd⟩ : ∃ dd : Nat, M o n = (dd : Int) := ⟨(M o n).toNat, by omega⟩
    have p2 : 2 ^ dd < 2 ^ 24 := Nat.pow_lt_pow_right (by omega) (by omega)
    have eh : had (M o) (n + 1) = had (M o) n ||| 2 ^ dd := by show had (M o) n ||| 2 ^ (M o n).toNat = _; rw [hdd, Int.toNat_natCast]
    rw [b_135_4 hL, hP, if_neg (by omega), b_135_15 _ _ _ hk, hR, if_pos (by omega), Int.toNat_natCast, hdd, c_one (by omega), c_or_n (by omega) (by omega), ← eh, e1])
  refine call_of 4 [vA 1, vA o, vX 0, vX 0] (by decide) rfl (Nat.le_of_ble_eq_true rfl) rfl ?_ rfl
  rw [b_135_0]
  refine Eq.trans q ?_
  rw [b_135_4 hL, hP, if_pos (by omega), b_135_29]
theorem s_235 {d0 : Nat} (hd : 1 ≤ d0) {M : MM} {R : RR} (hL : Lay R) {P s : Nat} (hP : M 57 2 = (P : Int)) (hP7 : P ≤ 7) (hs : s < 4) (hf : ∀ p, p < P → 0 ≤ mU M s p ∧ mU M s p < 24) : call d0 235 [vA 57, vI s] M R = some (vI (had (mU M s) P : Nat), M, R) := by
  obtain ⟨e, rfl⟩ := s_le hd
  have q := iter_eq (fun n : Nat => run (call e) 235 4 [vA 57, vI s, vI (had (mU M s) n : Nat), vI n] [] M R) P (by
    intro n hn
    have e1 : w32 ((n : Int) + 1) = ((n + 1 : Nat) : Int) := by rw [w32_i (by omega)]; omega
    have ei : w32 (w32 (40 * (s : Int)) + (n : Int)) = ((40 * s + n : Nat) : Int) := by
      simp (disch := omega) only [w32_i]; omega
    have hh := had_lt n (fun i hi => hf i (by omega))
    have hfn := hf n (by omega)
    obtain ⟨dd, hdd⟩ : ∃ dd : Nat, mU M s n = (dd : Int) := ⟨(mU M s n).toNat, by omega⟩
    have hdd' : M 68 (40 * s + n) = (dd : Int) := hdd
    have p2 : 2 ^ dd < 2 ^ 24 := Nat.pow_lt_pow_right (by omega) (by omega)
    have eh : had (mU M s) (n + 1) = had (mU M s) n ||| 2 ^ dd := by show had (mU M s) n ||| 2 ^ (mU M s n).toNat = _; rw [hdd, Int.toNat_natCast]
    rw [b_235_4, hP, if_neg (by omega), b_235_12 hL, ei, if_pos (by omega), Int.toNat_natCast, hdd', c_one (by omega), c_or_n (by omega) (by omega), ← eh, e1])
  refine call_of 4 [vA 57, vI s, vX 0, vX 0] (by decide) rfl (Nat.le_of_ble_eq_true rfl) rfl ?_ rfl
  rw [b_235_0]
  refine Eq.trans q ?_
  rw [b_235_4, hP, if_pos (by omega), b_235_34]
theorem s_234 {d0 : Nat} (hd : 1 ≤ d0) {M : MM} {R : RR} (hL : Lay R) {P s : Nat} (hP : M 57 2 = (P : Int)) (hP7 : P ≤ 7) (hs : s < 4) (hf : ∀ p, p < P → 0 ≤ mU M s p ∧ mU M s p < 24) : call d0 234 [vA 57, vI s] M R = some (vI (fi (sec (mU M s)) P 0), M, R) := by
  obtain ⟨e, rfl⟩ := s_le hd
  have inner : ∀ k p o : Nat, o + k = p → p < P → run (call e) 234 12 [vA 57, vI s, vI p, vI o] [] M R = if ex (mU M s) p k o = true then some (vI p, M, R) else run (call e) 234 50 [vA 57, vI s, vI p, vI p] [] M R := by
    intro k
    induction k with
    | zero =>
      intro p o ho hp
      have : o = p := by omega
      subst this
      rw [b_234_12, if_pos (by omega), if_neg (show ¬ ex (mU M s) o 0 o = true from by show ¬ false = true; decide)]
    | succ k ih =>
      intro p o ho hp
      have e1 : w32 ((o : Int) + 1) = ((o + 1 : Nat) : Int) := by rw [w32_i (by omega)]; omega
      have ei : ∀ n : Nat, n < 7 → w32 (w32 (40 * (s : Int)) + (n : Int)) = ((40 * s + n : Nat) : Int) := fun n hn => by
        simp (disch := omega) only [w32_i]; omega
      have ee : ex (mU M s) p (k + 1) o = if mU M s o = mU M s p then true else ex (mU M s) p k (o + 1) := rfl
      rw [b_234_12, if_neg (by omega), b_234_17 hL, ei _ (by omega), ei _ (by omega), if_pos (by omega), if_pos (by omega), Int.toNat_natCast, Int.toNat_natCast, ee]
      by_cases g : M 68 (40 * s + o) = M 68 (40 * s + p)
      · rw [if_neg (fun q => q g), b_234_42, if_pos (show mU M s o = mU M s p from g), if_pos rfl]
      · rw [if_pos g, b_234_44, e1, ih p (o + 1) (by omega) hp, if_neg (show ¬ mU M s o = mU M s p from g)]
  have key : ∀ (k n : Nat) (u : AV), n + k = P → run (call e) 234 2 [vA 57, vI s, vI n, u] [] M R = some (vI (fi (sec (mU M s)) k n), M, R) := by
    intro k
    induction k with
    | zero =>
      intro n u hn
      rw [b_234_2, hP, if_pos (by omega), b_234_56]
      rfl
    | succ k ih =>
      intro n u hn
      have e1 : w32 ((n : Int) + 1) = ((n + 1 : Nat) : Int) := by rw [w32_i (by omega)]; omega
      have ef : fi (sec (mU M s)) (k + 1) n = if sec (mU M s) n = true then (n : Int) else fi (sec (mU M s)) k (n + 1) := rfl
      have es : sec (mU M s) n = ex (mU M s) n n 0 := (ex_had (fun i hi => (hf i (by omega)).1)).symm
      have h0 := inner n n 0 (by omega) (by omega)
      rw [b_234_2, hP, if_neg (by omega), b_234_10]
      refine Eq.trans h0 ?_
      rw [ef, es]
      by_cases g : ex (mU M s) n n 0 = true
      · rw [if_pos g, if_pos g]
      · rw [if_neg g, if_neg g, b_234_50, e1]
        exact ih (n + 1) _ (by omega)
  refine call_of 4 [vA 57, vI s, vX 0, vX 0] (by decide) rfl (Nat.le_of_ble_eq_true rfl) rfl ?_ rfl
  rw [b_234_0]
  exact key P 0 _ (by omega)
theorem prs_i {f : Nat → Int} (p n : Nat) : 0 ≤ sm (fun o => if f p = f o then (1 : Int) else 0) n ∧ sm (fun o => if f p = f o then (1 : Int) else 0) n ≤ n * 1 := sm_r n (fun i _ => by split <;> omega)
theorem prs_r {f : Nat → Int} (n : Nat) (hn : n ≤ 7) : 0 ≤ prs f n ∧ prs f n ≤ n * 7 := sm_r n (fun i hi => by
  have := prs_i (f := f) i i
  try dsimp only
  omega)
theorem s_134 {d0 : Nat} (hd : 1 ≤ d0) {M : MM} {R : RR} (hL : Lay R) {P o : Nat} (hP : M 4 0 = (P : Int)) (hP7 : P ≤ 7) (hk : kindOf o = 13) (hR : R 0 (o + 2) = 40) : call d0 134 [vA 1, vA o] M R = some (vI (prs (M o) P), M, R) := by
  obtain ⟨e, rfl⟩ := s_le hd
  obtain ⟨u, _, q⟩ := loop_nat (fun n (u : AV) => run (call e) 134 4 [vA 1, vA o, vI (prs (M o) n), vI n, u] [] M R) (fun _ _ => True) P (by
    rintro n u hn _
    have e1 : w32 ((n : Int) + 1) = ((n + 1 : Nat) : Int) := by rw [w32_i (by omega)]; omega
    have hr := prs_r (f := M o) n (by omega)
    have q2 := iter_eq (fun i : Nat => run (call e) 134 18 [vA 1, vA o, vI (prs (M o) n + sm (fun o' => if M o n = M o o' then (1 : Int) else 0) i), vI n, vI i] [] M R) n (by
      intro i hi
      have e2 : w32 ((i : Int) + 1) = ((i + 1 : Nat) : Int) := by rw [w32_i (by omega)]; omega
      have hi2 := prs_i (f := M o) n i
      have es : sm (fun o' => if M o n = M o o' then (1 : Int) else 0) (i + 1) = sm (fun o' => if M o n = M o o' then (1 : Int) else 0) i + (if M o n = M o i then (1 : Int) else 0) := rfl
      rw [b_134_18, if_neg (by omega), b_134_24 _ _ _ _ hk, hR, if_pos (by omega), if_pos (by omega), Int.toNat_natCast, Int.toNat_natCast, es]
      by_cases g : M o n = M o i
      · rw [if_neg (fun q => q g), b_134_34, b_134_37, e2, if_pos g, w32_i (by omega), Int.add_assoc]
      · rw [if_pos g, b_134_37, e2, if_neg g, Int.add_zero])
    have h0 : sm (fun o' => if M o n = M o o' then (1 : Int) else 0) 0 = 0 := rfl
    rw [h0, Int.add_zero] at q2
    refine ⟨vI n, trivial, ?_⟩
    rw [b_134_4 hL, hP, if_neg (by omega), b_134_15]
    refine Eq.trans q2 ?_
    rw [b_134_18, if_pos (by omega), b_134_43, e1]
    rfl) (vX 0) trivial
  refine call_of 5 [vA 1, vA o, vX 0, vX 0, vX 0] (by decide) rfl (Nat.le_of_ble_eq_true rfl) rfl ?_ rfl
  rw [b_134_0]
  refine Eq.trans q ?_
  rw [b_134_4 hL, hP, if_pos (by omega), b_134_49]
theorem s_233 {d0 : Nat} (hd : 1 ≤ d0) {M : MM} {R : RR} (hL : Lay R) {P s : Nat} (hP : M 57 2 = (P : Int)) (hP7 : P ≤ 7) (hs : s < 4) : call d0 233 [vA 57, vI s] M R = some (vI (prs (mU M s) P), M, R) := by
  obtain ⟨e, rfl⟩ := s_le hd
  have ei : ∀ n : Nat, n < 7 → w32 (w32 (40 * (s : Int)) + (n : Int)) = ((40 * s + n : Nat) : Int) := fun n hn => by
    simp (disch := omega) only [w32_i]; omega
  obtain ⟨u, _, q⟩ := loop_nat (fun n (u : AV) => run (call e) 233 4 [vA 57, vI s, vI (prs (mU M s) n), vI n, u] [] M R) (fun _ _ => True) P (by
    rintro n u hn _
    have e1 : w32 ((n : Int) + 1) = ((n + 1 : Nat) : Int) := by rw [w32_i (by omega)]; omega
    have hr := prs_r (f := mU M s) n (by omega)
    have q2 := iter_eq (fun i : Nat => run (call e) 233 15 [vA 57, vI s, vI (prs (mU M s) n + sm (fun o' => if mU M s n = mU M s o' then (1 : Int) else 0) i), vI n, vI i] [] M R) n (by
      intro i hi
      have e2 : w32 ((i : Int) + 1) = ((i + 1 : Nat) : Int) := by rw [w32_i (by omega)]; omega
      have hi2 := prs_i (f := mU M s) n i
      have es : sm (fun o' => if mU M s n = mU M s o' then (1 : Int) else 0) (i + 1) = sm (fun o' => if mU M s n = mU M s o' then (1 : Int) else 0) i + (if mU M s n = mU M s i then (1 : Int) else 0) := rfl
      rw [b_233_15, if_neg (by omega), b_233_21 hL, ei _ (by omega), ei _ (by omega), if_pos (by omega), if_pos (by omega), Int.toNat_natCast, Int.toNat_natCast, es]
      by_cases g : M 68 (40 * s + i) = M 68 (40 * s + n)
      · rw [if_neg (fun q => q g), b_233_48, b_233_53, e2, if_pos (show mU M s n = mU M s i from g.symm), w32_i (by omega), Int.add_assoc]
      · rw [if_pos g, b_233_52, b_233_53, e2, if_neg (show ¬ mU M s n = mU M s i from fun h => g h.symm), w32_i (by omega), Int.add_zero, Int.add_zero])
    have h0 : sm (fun o' => if mU M s n = mU M s o' then (1 : Int) else 0) 0 = 0 := rfl
    rw [h0, Int.add_zero] at q2
    refine ⟨vI n, trivial, ?_⟩
    rw [b_233_4, hP, if_neg (by omega), b_233_12]
    refine Eq.trans q2 ?_
    rw [b_233_15, if_pos (by omega), b_233_61, e1]
    rfl) (vX 0) trivial
  refine call_of 5 [vA 57, vI s, vX 0, vX 0, vX 0] (by decide) rfl (Nat.le_of_ble_eq_true rfl) rfl ?_ rfl
  rw [b_233_0]
  refine Eq.trans q ?_
  rw [b_233_4, hP, if_pos (by omega), b_233_67]
theorem db_r {kd mo : Nat → Int} {p : Nat} (h : 0 ≤ mo p ∧ mo p ≤ 9) : 0 ≤ db kd mo p ∧ db kd mo p ≤ 20 := by
  unfold db
  rw [w32_i (x := 1 + mo p) (by omega), w32_i (x := 2 * (1 + mo p)) (by omega)]
  repeat' split
  all_goals omega
theorem dbs_r {w : Nat → Nat → Int} {kd mo f : Nat → Int} {P : Nat} (h : ∀ p, p < P → 0 ≤ mo p ∧ mo p ≤ 9) : ∀ n, n ≤ P → 0 ≤ dbs w kd mo f n ∧ dbs w kd mo f n ≤ n * 20 := fun n hn => sm_r n (fun i hi => by
  have := db_r (kd := kd) (h i (by omega))
  try dsimp only
  split <;> omega)
theorem s_136 {d0 : Nat} (hd : 6 ≤ d0) {M : MM} {R : RR} (hL : Lay R) {P Y t o : Nat} (hX : XW M R P Y t) (hC : CJ M P Y) (hk : kindOf o = 13) (hR : R 0 (o + 2) = 40) (ho : 45 ≤ o) (hf : ∀ p, p < P → 0 ≤ M o p ∧ M o p < (Y : Int)) : ∃ M', call d0 136 [vA 1, vA o] M R = some (vI (dbs (Wd M) (M 5) (M 6) (M o) P), M', R) ∧ Fx clsO M M' ∧ CJ M' P Y := by
  obtain ⟨e, rfl⟩ := s_le hd
  obtain ⟨M1, q1, f1, c1, r1⟩ := p_80 (d0 := e + 5) (by omega) hL hX hC
  have X1 := XW_f f1 hX
  obtain ⟨gP, gP7, gY, gY1, gY24, gt, gt5, _, gT, gr⟩ := id X1
  have W1 := Wd_e (Wx_x f1)
  have k5 : M1 5 = M 5 := f1 5 (clsO_n (by omega))
  have k6 : M1 6 = M 6 := f1 6 (clsO_n (by omega))
  have ko : M1 o = M o := f1 o (clsO_n (by omega))
  have hmo : ∀ p, p < P → 0 ≤ M 6 p ∧ M 6 p ≤ 9 := fun p hp => (hX.2.2.2.2.2.2.2.2.2 p hp).2.1
  have q := iter_eq (fun n : Nat => run (call (e + 5)) 136 11 [vA 1, vA o, vI (dbs (Wd M) (M 5) (M 6) (M o) n), vI n] [] M1 R) P (by
    intro n hn
    have e1 : w32 ((n : Int) + 1) = ((n + 1 : Nat) : Int) := by rw [w32_i (by omega)]; omega
    have hfn := hf n hn
    obtain ⟨dd, hdd⟩ : ∃ dd : Nat, M o n = (dd : Int) := ⟨(M o n).toNat, by omega⟩
    have hr := dbs_r (w := Wd M) (kd := M 5) (f := M o) hmo n (by omega)
    have hd2 := db_r (kd := M 5) (hmo n hn)
    have es : dbs (Wd M) (M 5) (M 6) (M o) (n + 1) = dbs (Wd M) (M 5) (M 6) (M o) n + (if Wd M (M o n).toNat n = 0 then db (M 5) (M 6) n else 0) := rfl
    have g23 : M1 23 (24 * n + dd) = Wd M dd n := by rw [(r1 n hn).2.1 dd (by omega), ← W1]; rfl
    rw [b_136_11 hL, gP, if_neg (by omega), b_136_22 hL _ _ _ hk, hR, if_pos (by omega), Int.toNat_natCast, ko, hdd, s_81 (by omega) hL (by omega) (by omega) (by omega) (by omega), bsI, b_136_33, g23, es, hdd, Int.toNat_natCast]
    by_cases g : Wd M dd n = 0
    · rw [if_neg (fun q => q g), b_136_36 hL, s_18 (by omega) hL _ (by omega), bsI, b_136_45, b_136_47, e1, if_pos g, Int.toNat_natCast, k5, k6]
      rw [show w32 (dbs (Wd M) (M 5) (M 6) (M o) n + (if M 5 n = 2 then w32 (1 + M 6 n) else if M 5 n = 4 then w32 (2 * w32 (1 + M 6 n)) else 1)) = dbs (Wd M) (M 5) (M 6) (M o) n + db (M 5) (M 6) n from w32_i (by show _ ≤ dbs (Wd M) (M 5) (M 6) (M o) n + db (M 5) (M 6) n ∧ dbs (Wd M) (M 5) (M 6) (M o) n + db (M 5) (M 6) n < _; omega)]
    · rw [if_pos g, b_136_47, e1, if_neg g, Int.add_zero])
  refine ⟨M1, ?_, f1, c1⟩
  refine call_of 4 [vA 1, vA o, vX 0, vX 0] (by decide) rfl (Nat.le_of_ble_eq_true rfl) rfl ?_ rfl
  rw [b_136_0 hL, q1, bsX, b_136_7]
  refine Eq.trans q ?_
  rw [b_136_11 hL, gP, if_pos (by omega), b_136_53]
theorem s_236 {d0 : Nat} (hd : 5 ≤ d0) {M : MM} {R : RR} (hL : Lay R) {P Y t s : Nat} (hX : XM M R P Y t) (hs : s < 4) (hf : ∀ p, p < P → 0 ≤ mU M s p ∧ mU M s p < (Y : Int)) : ∃ M', call d0 236 [vA 57, vI s] M R = some (vI (dbs (Wmd M) (M 59) (M 60) (mU M s) P), M', R) ∧ Fx modO M M' := by
  obtain ⟨e, rfl⟩ := s_le hd
  have hP7 := hX.2.1
  have hmo : ∀ p, p < P → 0 ≤ M 60 p ∧ M 60 p ≤ 9 := fun p hp => (hX.2.2.2.2.2.2.2.2 p hp).2.1
  obtain ⟨M1, f1, q⟩ := loop_nat (fun n (a : MM) => run (call (e + 4)) 236 4 [vA 57, vI s, vI (dbs (Wmd M) (M 59) (M 60) (mU M s) n), vI n] [] a R) (fun _ a => Fx [72, 73] M a) P (by
    rintro n M1 hn f1
    have aF : Fx modO M M1 := Fx_s f1 (by decide)
    obtain ⟨gP, gP7, gY, gY1, gY24, gt, gt6, gT, gr⟩ := XM_f aF hX
    have hrn := gr n (by omega)
    have e1 : w32 ((n : Int) + 1) = ((n + 1 : Nat) : Int) := by rw [w32_i (by omega)]; omega
    have ei : w32 (w32 (40 * (s : Int)) + (n : Int)) = ((40 * s + n : Nat) : Int) := by
      simp (disch := omega) only [w32_i]; omega
    have hfn := hf n hn
    obtain ⟨dd, hdd⟩ : ∃ dd : Nat, mU M s n = (dd : Int) := ⟨(mU M s n).toNat, by omega⟩
    have hdd' : M 68 (40 * s + n) = (dd : Int) := hdd
    have hr := dbs_r (w := Wmd M) (kd := M 59) (f := mU M s) hmo n (by omega)
    have hd2 := db_r (kd := M 59) (hmo n hn)
    have es : dbs (Wmd M) (M 59) (M 60) (mU M s) (n + 1) = dbs (Wmd M) (M 59) (M 60) (mU M s) n + (if Wmd M (mU M s n).toNat n = 0 then db (M 59) (M 60) n else 0) := rfl
    obtain ⟨f, g, q⟩ := s_192 (d0 := e + 4) (by omega) (M := M1) hL (t := t) (p := n) (d := dd) gT gt gt6 (by omega) (by omega) (by omega) hrn.1 (by omega) hrn.2.1
    have hw : wgt (M1 59 n) (M1 60 n) (M1 61 n) (M1 57 0) dd (lvw (segm M1 t 0) 0 dd (M1 58 dd) (M1 57 0) (M1 60 n) (M1 61 n) n) = Wmd M dd n := by
      rw [← Wmd_e (Wm_x aF)]
      unfold Wmd Wm
      rw [gt, Int.toNat_natCast]
    rw [hw] at q
    have f2 : Fx [72, 73] M (upf (upf M1 73 f) 72 g) := Fx_t f1 (Fx_t (Fx_u (by decide)) (Fx_u (by decide)))
    refine ⟨upf (upf M1 73 f) 72 g, f2, ?_⟩
    rw [b_236_4, gP, if_neg (by omega), b_236_12 hL, ei, if_pos (by omega), Int.toNat_natCast, f1 68 (by decide), hdd', q, bsI, b_236_29, es, hdd, Int.toNat_natCast]
    by_cases gz : Wmd M dd n = 0
    · rw [if_neg (fun q => q gz), b_236_32, s_193 (by omega) hL _ (by omega), bsI, b_236_37, b_236_41, e1, if_pos gz, Int.toNat_natCast, f2 59 (by decide), f2 60 (by decide)]
      rw [show w32 (dbs (Wmd M) (M 59) (M 60) (mU M s) n + (if M 59 n = 2 then w32 (1 + M 60 n) else if M 59 n = 4 then w32 (2 * w32 (1 + M 60 n)) else 1)) = dbs (Wmd M) (M 59) (M 60) (mU M s) n + db (M 59) (M 60) n from w32_i (by show _ ≤ dbs (Wmd M) (M 59) (M 60) (mU M s) n + db (M 59) (M 60) n ∧ dbs (Wmd M) (M 59) (M 60) (mU M s) n + db (M 59) (M 60) n < _; omega)]
    · rw [if_pos gz, b_236_40, b_236_41, e1, if_neg gz, Int.add_zero, w32_i (by omega)]) M Fx_r
  have aF : Fx modO M M1 := Fx_s f1 (by decide)
  refine ⟨M1, ?_, aF⟩
  refine call_of 4 [vA 57, vI s, vX 0, vX 0] (by decide) rfl (Nat.le_of_ble_eq_true rfl) rfl ?_ rfl
  rw [b_236_0]
  refine Eq.trans q ?_
  rw [b_236_4, (XM_f aF hX).1, if_pos (by omega), b_236_49]
theorem s_132 {d0 : Nat} (hd : 7 ≤ d0) {M : MM} {R : RR} (hL : Lay R) {P Y t : Nat} (hX : XW M R P Y t) (hC : CJ M P Y) (x y : Int) : ∃ M', call d0 132 [vA 1, vI x, vI y] M R = some (vI (v_list (Wd M) (M 5) (M 6) P Y (cS M) (cZ M) (cU M) x y), M', R) ∧ Fx clsO M M' ∧ CJ M' P Y := by
  obtain ⟨e, rfl⟩ := s_le hd
  obtain ⟨hP, hP7, hY, hY1, hY24, ht, ht5, ht6, hT, hr⟩ := id hX
  have start : ∀ v M', run (call (e + 6)) 132 0 [vA 1, vI x, vI y, vX 0, vX 0] [] M R = some (vI v, M', R) → call (e + 7) 132 [vA 1, vI x, vI y] M R = some (vI v, M', R) := fun v M' h => call_of 5 [vA 1, vI x, vI y, vX 0, vX 0] (by decide) rfl (Nat.le_of_ble_eq_true rfl) rfl h rfl
  have q0 := s_129 (d0 := e + 6) (by omega) (M := M) hL hP hP7 hY x
  unfold v_list
  by_cases h : rfs P Y x (cS M) (cZ M) (cU M) = 0
  · obtain ⟨s, rfl, hs, hf⟩ := rfs_0 h
    obtain ⟨l1, l2, l3, l4, l5⟩ := sh_l hL (s := s) hs
    have hf24 : ∀ p, p < P → 0 ≤ M (47 + 2 * s) p ∧ M (47 + 2 * s) p < 24 := fun p hp => by
      have h : 0 ≤ M (47 + 2 * s) p ∧ M (47 + 2 * s) p < (Y : Int) := hf p hp
      omega
    have hgo : run (call (e + 6)) 132 0 [vA 1, vI s, vI y, vX 0, vX 0] [] M R = run (call (e + 6)) 132 24 [vA 1, vI s, vI y, vI 0, vA (47 + 2 * s)] [vI y] M R := by
      rw [b_132_0, q0, bsI, h, b_132_5, if_pos rfl, b_132_12 hL _ _ _ (by rw [Int.toNat_natCast, l1]; exact l4), if_pos (by omega), Int.toNat_natCast, l1, l2]
    rw [if_pos h, Int.toNat_natCast]
    by_cases y0 : y = 0
    · refine ⟨M, start _ _ ?_, Fx_r, hC⟩
      rw [hgo, b_132_24, if_pos y0, b_132_56, s_133 (by omega) hL hP hP7 l5 l3 hf24, bsI, b_132_62, if_pos y0]
      rfl
    by_cases y1 : y = 1
    · refine ⟨M, start _ _ ?_, Fx_r, hC⟩
      rw [hgo, b_132_24, if_neg y0, if_pos y1, b_132_63, s_134 (by omega) hL hP hP7 l5 l3, bsI, b_132_69, if_neg y0, if_pos y1]
      rfl
    by_cases y2 : y = 2
    · refine ⟨M, start _ _ ?_, Fx_r, hC⟩
      rw [hgo, b_132_24, if_neg y0, if_neg y1, if_pos y2, b_132_70, s_135 (by omega) hL hP hP7 l5 l3 hf24, bsI, b_132_76, if_neg y0, if_neg y1, if_pos y2]
      rfl
    by_cases y3 : y = 3
    · obtain ⟨M1, q1, f1, c1⟩ := s_136 (d0 := e + 6) (by omega) hL hX hC l5 l3 (by omega) hf
      refine ⟨M1, start _ _ ?_, f1, c1⟩
      rw [hgo, b_132_24, if_neg y0, if_neg y1, if_neg y2, if_pos y3, b_132_77, q1, bsI, b_132_83, if_neg y0, if_neg y1, if_neg y2, if_pos y3]
      rfl
    · refine ⟨M, start _ _ ?_, Fx_r, hC⟩
      rw [hgo, b_132_24, if_neg y0, if_neg y1, if_neg y2, if_neg y3, b_132_84, if_neg y0, if_neg y1, if_neg y2, if_neg y3]
  · refine ⟨M, start _ _ ?_, Fx_r, hC⟩
    rw [if_neg h, b_132_0, q0, bsI, b_132_5, if_neg h, b_132_10]
theorem s_237 {d0 : Nat} (hd : 7 ≤ d0) {M : MM} {R : RR} (hL : Lay R) {P Y t : Nat} (hX : XM M R P Y t) (x y : Int) : ∃ M', call d0 237 [vA 57, vI x, vI y] M R = some (vI (v_list (Wmd M) (M 59) (M 60) P Y (M 66) (M 67) (mU M) x y), M', R) ∧ Fx modO M M' := by
  obtain ⟨e, rfl⟩ := s_le hd
  obtain ⟨hP, hP7, hY, hY1, hY24, ht, ht6, hT, hr⟩ := id hX
  have start : ∀ v M', run (call (e + 6)) 237 0 [vA 57, vI x, vI y, vX 0] [] M R = some (vI v, M', R) → call (e + 7) 237 [vA 57, vI x, vI y] M R = some (vI v, M', R) := fun v M' h => call_of 4 [vA 57, vI x, vI y, vX 0] (by decide) rfl (Nat.le_of_ble_eq_true rfl) rfl h rfl
  have q0 := s_230 (d0 := e + 6) (by omega) (M := M) hL hP hP7 hY ⟨hY1, hY24⟩ x
  unfold v_list
  by_cases h : rfs P Y x (M 66) (M 67) (mU M) = 0
  · obtain ⟨s, rfl, hs, hf⟩ := rfs_0 h
    have hf24 : ∀ p, p < P → 0 ≤ mU M s p ∧ mU M s p < 24 := fun p hp => by
      have h := hf p hp
      omega
    have hgo : run (call (e + 6)) 237 0 [vA 57, vI s, vI y, vX 0] [] M R = run (call (e + 6)) 237 13 [vA 57, vI s, vI y, vI 0] [vI y] M R := by
      rw [b_237_0, q0, bsI, h, b_237_5, if_pos rfl, b_237_12]
    rw [if_pos h, Int.toNat_natCast]
    by_cases y0 : y = 0
    · refine ⟨M, start _ _ ?_, Fx_r⟩
      rw [hgo, b_237_13, if_pos y0, b_237_44, s_234 (by omega) hL hP hP7 hs hf24, bsI, b_237_49, if_pos y0]
    by_cases y1 : y = 1
    · refine ⟨M, start _ _ ?_, Fx_r⟩
      rw [hgo, b_237_13, if_neg y0, if_pos y1, b_237_50, s_233 (by omega) hL hP hP7 hs, bsI, b_237_55, if_neg y0, if_pos y1]
    by_cases y2 : y = 2
    · refine ⟨M, start _ _ ?_, Fx_r⟩
      rw [hgo, b_237_13, if_neg y0, if_neg y1, if_pos y2, b_237_56, s_235 (by omega) hL hP hP7 hs hf24, bsI, b_237_61, if_neg y0, if_neg y1, if_pos y2]
    by_cases y3 : y = 3
    · obtain ⟨M1, q1, f1⟩ := s_236 (d0 := e + 6) (by omega) hL hX hs hf
      refine ⟨M1, start _ _ ?_, f1⟩
      rw [hgo, b_237_13, if_neg y0, if_neg y1, if_neg y2, if_pos y3, b_237_62, q1, bsI, b_237_67, if_neg y0, if_neg y1, if_neg y2, if_pos y3]
    · refine ⟨M, start _ _ ?_, Fx_r⟩
      rw [hgo, b_237_13, if_neg y0, if_neg y1, if_neg y2, if_neg y3, b_237_68, if_neg y0, if_neg y1, if_neg y2, if_neg y3]
  · refine ⟨M, start _ _ ?_, Fx_r⟩
    rw [if_neg h, b_237_0, q0, bsI, b_237_5, if_neg h, b_237_10]
end
