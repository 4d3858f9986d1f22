section
/-! ===== near: far apart, row by row ===== -/
/-- no two of a set nearer than so many, on so many days from one on -/
def qs (w : Nat → Nat → Int) (k f : Nat) : Nat → Nat → Int
  | 0, s => if s = 0 then 1 else 0
  | r + 1, s => qs w k f r s + su (fun p => w (f + r) p * qs w k f (r - k) (s ^^^ 2 ^ p)) (bl s)
termination_by r _ => r
/-- the same where one has the first of the days -/
def ap (w : Nat → Nat → Int) (k f : Nat) : Nat → Nat → Int
  | 0, s => su (fun p => w f p * (if s ^^^ 2 ^ p = 0 then 1 else 0)) (bl s)
  | j + 1, s => ap w k f j s + (if k ≤ j then su (fun p => w (f + 1 + j) p * ap w k f (j - k) (s ^^^ 2 ^ p)) (bl s) else 0)
termination_by j _ => j
theorem qs_0 (w : Nat → Nat → Int) (k f s : Nat) : qs w k f 0 s = if s = 0 then 1 else 0 := by rw [qs]
theorem qs_s (w : Nat → Nat → Int) (k f r s : Nat) : qs w k f (r + 1) s = qs w k f r s + su (fun p => w (f + r) p * qs w k f (r - k) (s ^^^ 2 ^ p)) (bl s) := by rw [qs]
theorem ap_0 (w : Nat → Nat → Int) (k f s : Nat) : ap w k f 0 s = su (fun p => w f p * (if s ^^^ 2 ^ p = 0 then 1 else 0)) (bl s) := by rw [ap]
theorem ap_s (w : Nat → Nat → Int) (k f j s : Nat) : ap w k f (j + 1) s = ap w k f j s + (if k ≤ j then su (fun p => w (f + 1 + j) p * ap w k f (j - k) (s ^^^ 2 ^ p)) (bl s) else 0) := by rw [ap]
theorem bl_x : ∀ s : Fin 128, ∀ q ∈ bl s, bl ((s : Nat) ^^^ 2 ^ q) = (bl s).filter (fun p => decide (p ≠ q)) := by decide +kernel
theorem bl_xl : ∀ s : Fin 128, ∀ q ∈ bl s, (s : Nat) ^^^ 2 ^ q < (s : Nat) ∧ (bl ((s : Nat) ^^^ 2 ^ q)).length + 1 = (bl s).length ∧ (s : Nat).testBit q = true := by decide +kernel
theorem su_if {α : Type} (g : α → Int) (P : α → Bool) : ∀ l : List α, su g (l.filter P) = su (fun p => if P p = true then g p else 0) l
  | [] => rfl
  | a :: l => by
    show su g (List.filter P (a :: l)) = (if P a = true then g a else 0) + su _ l
    rw [← su_if g P l]
    cases h : P a with
    | true => rw [List.filter_cons_of_pos h, if_pos rfl]; rfl
    | false => rw [List.filter_cons_of_neg (by rw [h]; decide), if_neg (by decide)]; omega
theorem su_sw {α β : Type} (G : α → β → Int) (l : List α) : ∀ l' : List β, su (fun q => su (fun p => G q p) l') l = su (fun p => su (fun q => G q p) l) l'
  | [] => su_z l (fun _ _ => rfl)
  | b :: l' => by
    show su (fun q => G q b + su (fun p => G q p) l') l = su (fun q => G q b) l + su (fun p => su (fun q => G q p) l) l'
    rw [su_add, su_sw G l l']
theorem su_x2 {s : Nat} (hs : s < 128) (F : Nat → Nat → Int) : su (fun q => su (fun p => F q p) (bl (s ^^^ 2 ^ q))) (bl s) = su (fun p => su (fun q => F q p) (bl (s ^^^ 2 ^ p))) (bl s) := by
  have h1 : su (fun q => su (fun p => F q p) (bl (s ^^^ 2 ^ q))) (bl s) = su (fun q => su (fun p => if p = q then 0 else F q p) (bl s)) (bl s) := by
    refine su_c _ (fun q hq => ?_)
    have := bl_x ⟨s, hs⟩ q hq
    try dsimp only at this
    rw [this, su_if]
    refine su_c _ (fun p _ => ?_)
    by_cases h : p = q
    · rw [if_neg (by simp [h]), if_pos h]
    · rw [if_pos (by simp [h]), if_neg h]
  have h2 : su (fun p => su (fun q => F q p) (bl (s ^^^ 2 ^ p))) (bl s) = su (fun p => su (fun q => if p = q then 0 else F q p) (bl s)) (bl s) := by
    refine su_c _ (fun q hq => ?_)
    have := bl_x ⟨s, hs⟩ q hq
    try dsimp only at this
    rw [this, su_if]
    refine su_c _ (fun p _ => ?_)
    by_cases h : p = q
    · rw [if_neg (by simp [h]), if_pos h.symm]
    · rw [if_pos (by simp [h]), if_neg (fun e => h e.symm)]
  rw [h1, h2, su_sw]
theorem sm_mul (k : Int) (f : Nat → Int) : ∀ n, k * sm f n = sm (fun i => k * f i) n
  | 0 => Int.mul_zero k
  | n + 1 => by
    show k * (sm f n + f n) = sm (fun i => k * f i) n + k * f n
    rw [Int.mul_add, sm_mul k f n]
theorem sm_add (f g : Nat → Int) : ∀ n, sm (fun i => f i + g i) n = sm f n + sm g n
  | 0 => rfl
  | n + 1 => by
    show sm (fun i => f i + g i) n + (f n + g n) = (sm f n + f n) + (sm g n + g n)
    rw [sm_add f g n]
    omega
theorem sm_cut (g : Nat → Int) (m : Nat) : ∀ n, m ≤ n → sm (fun i => if i < m then g i else 0) n = sm g m
  | 0, h => by rw [show m = 0 by omega]; rfl
  | n + 1, h => by
    show sm (fun i => if i < m then g i else 0) n + (if n < m then g n else 0) = sm g m
    by_cases e : m = n + 1
    · subst e
      rw [if_pos (by omega)]
      show _ = sm g n + g n
      congr 1
      exact sm_c n (fun i hi => by rw [if_pos (by omega)])
    · rw [if_neg (by omega), sm_cut g m n (by omega), Int.add_zero]
/-- the first one has a day, the others those that are far enough -/
theorem ap_qs {w : Nat → Nat → Int} {k f : Nat} : ∀ (j s : Nat), s < 128 → ap w k f j s = su (fun p => w f p * qs w k (f + k + 1) (j - k) (s ^^^ 2 ^ p)) (bl s) := by
  intro j
  induction j using Nat.strongRecOn with
  | ind j ih =>
    intro s hs
    cases j with
    | zero =>
      rw [ap_0, Nat.zero_sub]
      refine su_c _ (fun p _ => ?_)
      rw [qs_0]
    | succ j =>
      rw [ap_s, ih j (by omega) s hs]
      by_cases h : k ≤ j
      · rw [if_pos h]
        have e1 : su (fun q => w (f + 1 + j) q * ap w k f (j - k) (s ^^^ 2 ^ q)) (bl s) = su (fun q => su (fun p => w (f + 1 + j) q * (w f p * qs w k (f + k + 1) (j - k - k) (s ^^^ 2 ^ q ^^^ 2 ^ p))) (bl (s ^^^ 2 ^ q))) (bl s) := by
          refine su_c _ (fun q hq => ?_)
          have hx := bl_xl ⟨s, hs⟩ q hq
          try dsimp only at hx
          rw [ih (j - k) (by omega) _ (by omega), su_k]
        have e2 : su (fun p => w f p * qs w k (f + k + 1) (j + 1 - k) (s ^^^ 2 ^ p)) (bl s) = su (fun p => w f p * qs w k (f + k + 1) (j - k) (s ^^^ 2 ^ p) + su (fun q => w (f + 1 + j) q * (w f p * qs w k (f + k + 1) (j - k - k) (s ^^^ 2 ^ q ^^^ 2 ^ p))) (bl (s ^^^ 2 ^ p))) (bl s) := by
          refine su_c _ (fun p _ => ?_)
          rw [show j + 1 - k = (j - k) + 1 by omega, qs_s, Int.mul_add, ← su_k]
          congr 1
          refine su_c _ (fun q _ => ?_)
          rw [show f + k + 1 + (j - k) = f + 1 + j by omega, Int.mul_left_comm, Nat.xor_assoc, Nat.xor_comm (2 ^ p), ← Nat.xor_assoc]
        rw [e1, e2, su_add, su_x2 hs]
      · rw [if_neg h, Int.add_zero, show j + 1 - k = j - k by omega]
/-- somebody has the first day -/
theorem qs_ap {w : Nat → Nat → Int} {k f : Nat} : ∀ (n s : Nat), s < 128 → qs w k f n s = (if s = 0 then 1 else 0) + sm (fun i => ap w k (f + i) (n - 1 - i) s) n := by
  intro n
  induction n using Nat.strongRecOn with
  | ind n ih =>
    intro s hs
    cases n with
    | zero =>
      rw [qs_0]
      show _ = _ + (0 : Int)
      omega
    | succ n =>
      rw [qs_s, ih n (by omega) s hs]
      have e1 : sm (fun i => ap w k (f + i) (n + 1 - 1 - i) s) (n + 1) = sm (fun i => ap w k (f + i) (n - 1 - i) s + (if i < n - k then su (fun p => w (f + n) p * ap w k (f + i) (n - k - 1 - i) (s ^^^ 2 ^ p)) (bl s) else 0)) n + ap w k (f + n) 0 s := by
        show sm (fun i => ap w k (f + i) (n + 1 - 1 - i) s) n + ap w k (f + n) (n + 1 - 1 - n) s = _
        rw [show n + 1 - 1 - n = 0 by omega]
        congr 1
        refine sm_c n (fun i hi => ?_)
        rw [show n + 1 - 1 - i = (n - 1 - i) + 1 by omega, ap_s]
        congr 1
        by_cases h : k ≤ n - 1 - i
        · rw [if_pos h, if_pos (by omega), show f + i + 1 + (n - 1 - i) = f + n by omega, show n - 1 - i - k = n - k - 1 - i by omega]
        · rw [if_neg h, if_neg (by omega)]
      have e2 : su (fun p => w (f + n) p * qs w k f (n - k) (s ^^^ 2 ^ p)) (bl s) = su (fun p => w (f + n) p * (if s ^^^ 2 ^ p = 0 then 1 else 0) + sm (fun i => w (f + n) p * ap w k (f + i) (n - k - 1 - i) (s ^^^ 2 ^ p)) (n - k)) (bl s) := by
        refine su_c _ (fun p hp => ?_)
        have hx := bl_xl ⟨s, hs⟩ p hp
        try dsimp only at hx
        rw [ih (n - k) (by omega) _ (by omega), Int.mul_add, sm_mul]
      rw [e1, e2, su_add, sm_add, sm_cut _ _ _ (by omega), ← su_sm (fun i p => w (f + n) p * ap w k (f + i) (n - k - 1 - i) (s ^^^ 2 ^ p)), ap_0]
      omega
/-- too few days -/
theorem qs_z {w : Nat → Nat → Int} {k f : Nat} : ∀ (n s : Nat), s < 128 → 1 ≤ (bl s).length → n + k < (bl s).length * (k + 1) → qs w k f n s = 0 := by
  intro n
  induction n using Nat.strongRecOn with
  | ind n ih =>
    intro s hs h1 h2
    cases n with
    | zero =>
      rw [qs_0, if_neg]
      intro e
      subst e
      exact absurd h1 (by decide)
    | succ n =>
      rw [qs_s, ih n (by omega) s hs h1 (by omega), su_z]
      · rfl
      · intro p hp
        have hx := bl_xl ⟨s, hs⟩ p hp
        try dsimp only at hx
        have hm : (bl s).length * (k + 1) = (bl (s ^^^ 2 ^ p)).length * (k + 1) + (k + 1) := by rw [← hx.2.1, Nat.succ_mul]
        have h3 : 1 ≤ (bl (s ^^^ 2 ^ p)).length := by
          apply Nat.pos_of_ne_zero
          intro e
          rw [e, Nat.zero_mul] at hm
          omega
        have h4 : k + 1 ≤ (bl (s ^^^ 2 ^ p)).length * (k + 1) := Nat.le_mul_of_pos_left _ h3
        rw [ih (n - k) (by omega) _ (by omega) h3 (by omega), Int.mul_zero]
theorem su_b {α : Type} {f : α → Int} {B : Int} : ∀ l : List α, (∀ a, a ∈ l → 0 ≤ f a ∧ f a ≤ B) → 0 ≤ su f l ∧ su f l ≤ (l.length : Int) * B
  | [], _ => ⟨Int.le_refl 0, by show (0 : Int) ≤ ((0 : Nat) : Int) * B; rw [Int.natCast_zero, Int.zero_mul]; exact Int.le_refl 0⟩
  | a :: l, h => by
    have h1 := h a (List.mem_cons_self ..)
    have h2 := su_b l (fun b hb => h b (List.mem_cons_of_mem _ hb))
    show 0 ≤ f a + su f l ∧ f a + su f l ≤ ((l.length + 1 : Nat) : Int) * B
    rw [Int.natCast_add, Int.add_mul]
    omega
theorem pwb (a : Nat) : ∀ m, a ^ (m + 1) + (m + 1) * (9 * a ^ m) ≤ (a + 9) ^ (m + 1)
  | 0 => by
    rw [Nat.pow_zero, Nat.zero_add, Nat.pow_one, Nat.pow_one]
    omega
  | m + 1 => by
    have ih := pwb a m
    rw [Nat.pow_succ (n := a + 9) (m := m + 1)]
    refine Nat.le_trans ?_ (Nat.mul_le_mul_right (a + 9) ih)
    rw [Nat.pow_succ (n := a) (m := m + 1), Nat.add_mul (a ^ (m + 1)), Nat.mul_add (a ^ (m + 1)), Nat.mul_add ((m + 1) * (9 * a ^ m))]
    have e1 : (m + 1) * (9 * a ^ m) * a = (m + 1) * (9 * a ^ (m + 1)) := by
      rw [Nat.mul_assoc, Nat.mul_assoc, ← Nat.pow_succ]
    rw [e1, Nat.succ_mul (m + 1)]
    generalize (m + 1) * (9 * a ^ (m + 1)) = Z
    generalize a ^ (m + 1) = X
    generalize (m + 1) * (9 * a ^ m) * 9 = V
    omega
theorem qs_r {w : Nat → Nat → Int} {k f : Nat} : ∀ (n s : Nat), s < 128 → (∀ d p, p ∈ bl s → 0 ≤ w d p ∧ w d p ≤ 9) → 0 ≤ qs w k f n s ∧ qs w k f n s ≤ (((9 * n) ^ (bl s).length : Nat) : Int) := by
  intro n
  induction n using Nat.strongRecOn with
  | ind n ih =>
    intro s hs hw
    cases n with
    | zero =>
      rw [qs_0]
      by_cases h : s = 0
      · subst h
        rw [if_pos rfl]
        exact ⟨by decide, by decide⟩
      · rw [if_neg h]
        exact ⟨Int.le_refl 0, Int.natCast_nonneg _⟩
    | succ n =>
      have a := ih n (by omega) s hs hw
      by_cases hz : s = 0
      · subst hz
        rw [qs_s]
        show 0 ≤ qs w k f n 0 + 0 ∧ qs w k f n 0 + 0 ≤ ((1 : Nat) : Int)
        have : (bl 0).length = 0 := rfl
        rw [this, Nat.pow_zero] at a
        omega
      have hpos := bl_pos ⟨s, hs⟩ (by show 0 < s; omega)
      try dsimp only at hpos
      obtain ⟨m, hm⟩ : ∃ m, (bl s).length = m + 1 := ⟨(bl s).length - 1, by omega⟩
      have b := su_b (f := fun p => w (f + n) p * qs w k f (n - k) (s ^^^ 2 ^ p)) (B := ((9 * (9 * n) ^ m : Nat) : Int)) (bl s) (fun p hp => by
        have hx := bl_xl ⟨s, hs⟩ p hp
        have hb := bl_x ⟨s, hs⟩ p hp
        try dsimp only at hx hb
        have c := ih (n - k) (by omega) (s ^^^ 2 ^ p) (by omega) (fun d q hq => hw d q (by
          rw [hb] at hq
          exact (List.mem_filter.1 hq).1))
        have d := hw (f + n) p hp
        have hl : (bl (s ^^^ 2 ^ p)).length = m := by omega
        rw [hl] at c
        have hmn : (9 * (n - k)) ^ m ≤ (9 * n) ^ m := Nat.pow_le_pow_left (by omega) m
        refine ⟨Int.mul_nonneg d.1 c.1, ?_⟩
        rw [Int.natCast_mul]
        exact Int.mul_le_mul d.2 (Int.le_trans c.2 (Int.ofNat_le.2 hmn)) c.1 (by decide))
      have e := pwb (9 * n) m
      rw [hm] at a b ⊢
      rw [qs_s]
      rw [← Int.natCast_mul] at b
      rw [show 9 * (n + 1) = 9 * n + 9 by omega]
      generalize (9 * n) ^ (m + 1) = X at *
      generalize (m + 1) * (9 * (9 * n) ^ m) = Y at *
      generalize (9 * n + 9) ^ (m + 1) = Z at *
      omega
theorem p216_6 {n m : Nat} (hn : n ≤ 24) (hm : m ≤ 6) : (((9 * n) ^ m : Nat) : Int) ≤ 101559956668416 := by
  have h1 : (9 * n) ^ m ≤ 216 ^ m := Nat.pow_le_pow_left (by omega) m
  have h2 : 216 ^ m ≤ 216 ^ 6 := Nat.pow_le_pow_right (by omega) hm
  omega
theorem ap_r {w : Nat → Nat → Int} {k f j s : Nat} (hs : s < 128) (hj : j ≤ 24) (hw : ∀ d p, p ∈ bl s → 0 ≤ w d p ∧ w d p ≤ 9) : 0 ≤ ap w k f j s ∧ ap w k f j s ≤ 6398277270110208 := by
  rw [ap_qs j s hs]
  have hl := bl_len7 ⟨s, hs⟩
  try dsimp only at hl
  have b := su_b (f := fun p => w f p * qs w k (f + k + 1) (j - k) (s ^^^ 2 ^ p)) (B := 914039610015744) (bl s) (fun p hp => by
    have hx := bl_xl ⟨s, hs⟩ p hp
    have hb := bl_x ⟨s, hs⟩ p hp
    try dsimp only at hx hb
    have c := qs_r (w := w) (k := k) (f := f + k + 1) (j - k) (s ^^^ 2 ^ p) (by omega) (fun d q hq => hw d q (by
      rw [hb] at hq
      exact (List.mem_filter.1 hq).1))
    have d := hw f p hp
    have hmn := p216_6 (n := j - k) (m := (bl (s ^^^ 2 ^ p)).length) (by omega) (by omega)
    refine ⟨Int.mul_nonneg d.1 c.1, ?_⟩
    have := Int.mul_le_mul d.2 (Int.le_trans c.2 hmn) c.1 (by decide : (0 : Int) ≤ 9)
    exact this)
  have h7 : ((bl s).length : Int) * 914039610015744 ≤ 7 * 914039610015744 := by omega
  omega
/-- in how many ways no two are near -/
def far (w : Nat → Nat → Int) (P Y k : Nat) : Int := sm (fun f => ap w k f (if f < k then Y - k - 1 else Y - 1 - f) (EV P)) Y
theorem far_r {w : Nat → Nat → Int} {P Y k : Nat} (hP7 : P ≤ 7) (hY : Y ≤ 24) (hw : ∀ d p, p < P → 0 ≤ w d p ∧ w d p ≤ 9) : ∀ n, n ≤ Y → 0 ≤ sm (fun f => ap w k f (if f < k then Y - k - 1 else Y - 1 - f) (EV P)) n ∧ sm (fun f => ap w k f (if f < k then Y - k - 1 else Y - 1 - f) (EV P)) n ≤ 153558654482644992 := by
  intro n hn
  have hev := EV_b hP7
  have h := sm_r (f := fun f => ap w k f (if f < k then Y - k - 1 else Y - 1 - f) (EV P)) (b := 6398277270110208) n (fun f _ => ap_r (by omega) (by split <;> omega) (fun d p hp => hw d p (bl_lt (EV_lt P) hp)))
  omega
theorem far_z {w : Nat → Nat → Int} {P Y k : Nat} (hP2 : 2 ≤ P) (hP7 : P ≤ 7) (hz : Y < P * (k + 1)) : far w P Y k = 0 := by
  have hev := EV_b hP7
  have hlen := bl_evl hP7
  have hx : ∀ f j, j < (P - 1) * (k + 1) → k < (P - 1) * (k + 1) → ap w k f (j) (EV P) = su (fun p => w f p * qs w k (f + k + 1) (j - k) (EV P ^^^ 2 ^ p)) (bl (EV P)) := fun f j _ _ => ap_qs j _ (by omega)
  have hm : P * (k + 1) = (P - 1) * (k + 1) + (k + 1) := by
    rw [← Nat.succ_mul]
    congr 1
    omega
  have hk : k + 1 ≤ (P - 1) * (k + 1) := Nat.le_mul_of_pos_left _ (by omega)
  have first : ∀ f, ap w k f (Y - k - 1) (EV P) = 0 := by
    intro f
    rw [ap_qs _ _ (by omega)]
    refine su_z _ (fun p hp => ?_)
    have hx := bl_xl ⟨EV P, hev.2⟩ p hp
    try dsimp only at hx
    have hl : (bl (EV P ^^^ 2 ^ p)).length = P - 1 := by omega
    rw [qs_z _ _ (by omega) (by omega) (by rw [hl]; omega), Int.mul_zero]
  unfold far
  by_cases hYk : Y ≤ k
  · rw [sm_c (f' := fun _ => 0) Y (fun f hf => by rw [if_pos (by omega)]; exact first f)]
    have h0 := sm_r (f := fun _ => 0) (b := 0) Y (fun _ _ => ⟨Int.le_refl 0, Int.le_refl 0⟩)
    omega
  · have e : Y = k + (Y - k) := by omega
    have q := qs_ap (w := w) (k := k) (f := k) (Y - k) (EV P) hev.2
    rw [qs_z _ _ hev.2 (by omega) (by rw [hlen]; omega), if_neg (by intro h; rw [h] at hlen; have : (bl 0).length = 0 := rfl; omega)] at q
    have s1 : sm (fun f => ap w k f (if f < k then Y - k - 1 else Y - 1 - f) (EV P)) Y = sm (fun f => ap w k f (if f < k then Y - k - 1 else Y - 1 - f) (EV P)) k + sm (fun i => ap w k (k + i) (if k + i < k then Y - k - 1 else Y - 1 - (k + i)) (EV P)) (Y - k) := by
      have := sm_app (fun f => ap w k f (if f < k then Y - k - 1 else Y - 1 - f) (EV P)) k (Y - k)
      rw [← e] at this
      exact this
    rw [s1, sm_c (f' := fun i => ap w k (k + i) (Y - k - 1 - i) (EV P)) (Y - k) (fun i hi => by rw [if_neg (by omega), show Y - 1 - (k + i) = Y - k - 1 - i by omega]), sm_c (f' := fun _ => 0) k (fun f hf => by rw [if_pos hf]; exact first f)]
    have h0 := sm_r (f := fun _ => 0) (b := 0) k (fun _ _ => ⟨Int.le_refl 0, Int.le_refl 0⟩)
    omega
theorem far_n {w : Nat → Nat → Int} {P Y k : Nat} (hP2 : 2 ≤ P) (hP7 : P ≤ 7) (hz : P * (k + 1) ≤ Y) : far w P Y k = qs w k k (Y - k) (EV P) + sm (fun d => su (fun p => w d p * qs w k (d + k + 1) (Y - k - 1 - k) (EV P ^^^ 2 ^ p)) (bl (EV P))) k := by
  have hev := EV_b hP7
  have hlen := bl_evl hP7
  have hm : 2 * (k + 1) ≤ P * (k + 1) := Nat.mul_le_mul_right _ hP2
  have e : Y = k + (Y - k) := by omega
  have q := qs_ap (w := w) (k := k) (f := k) (Y - k) (EV P) hev.2
  rw [if_neg (by intro h; rw [h] at hlen; have : (bl 0).length = 0 := rfl; omega)] at q
  unfold far
  have s1 : sm (fun f => ap w k f (if f < k then Y - k - 1 else Y - 1 - f) (EV P)) Y = sm (fun f => ap w k f (if f < k then Y - k - 1 else Y - 1 - f) (EV P)) k + sm (fun i => ap w k (k + i) (if k + i < k then Y - k - 1 else Y - 1 - (k + i)) (EV P)) (Y - k) := by
    have := sm_app (fun f => ap w k f (if f < k then Y - k - 1 else Y - 1 - f) (EV P)) k (Y - k)
    rw [← e] at this
    exact this
  rw [s1, sm_c (f' := fun i => ap w k (k + i) (Y - k - 1 - i) (EV P)) (Y - k) (fun i hi => by rw [if_neg (by omega), show Y - 1 - (k + i) = Y - k - 1 - i by omega]), sm_c (f' := fun d => su (fun p => w d p * qs w k (d + k + 1) (Y - k - 1 - k) (EV P ^^^ 2 ^ p)) (bl (EV P))) k (fun f hf => by rw [if_pos hf, ap_qs _ _ hev.2]), q]
  omega
end
