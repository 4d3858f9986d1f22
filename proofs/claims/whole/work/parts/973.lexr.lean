section
/-! ===== tokens of the reference ===== -/
def rmB (B : Nat → Int) (s n w : Nat) : Bool := decide (n ≤ 8) && fa (fun i => decide (wordsR.getD (8 * w + i) 0 = pad B s n i)) 8 0
def rx (B : Nat → Int) (s n : Nat) : Int := fi (rmB B s n) 12 0
theorem fa_t {c : Nat → Bool} : ∀ k n, fa c k n = true ↔ ∀ i, n ≤ i → i < n + k → c i = true
  | 0, n => ⟨fun _ i h1 h2 => absurd h2 (by omega), fun _ => rfl⟩
  | k + 1, n => by
    show (if c n = true then fa c k (n + 1) else false) = true ↔ _
    by_cases h : c n = true
    · rw [if_pos h, fa_t k (n + 1)]
      refine ⟨fun q i h1 h2 => ?_, fun q i h1 h2 => q i (by omega) (by omega)⟩
      by_cases e : i = n
      · subst e; exact h
      · exact q i (by omega) (by omega)
    · rw [if_neg h]
      exact ⟨fun q => absurd q (by decide), fun q => absurd (q n (Nat.le_refl n) (by omega)) h⟩
theorem fi_no {c : Nat → Bool} : ∀ k n, fi c k n = -1 → ∀ i, n ≤ i → i < n + k → ¬ c i = true
  | 0, n, _, i, h1, h2 => absurd h2 (by omega)
  | k + 1, n, h, i, h1, h2 => by
    have e : fi c (k + 1) n = if c n = true then (n : Int) else fi c k (n + 1) := rfl
    rw [e] at h
    by_cases g : c n = true
    · rw [if_pos g] at h; omega
    · rw [if_neg g] at h
      by_cases q : i = n
      · subst q; exact g
      · exact fi_no k (n + 1) h i (by omega) (by omega)
theorem fi_at {c : Nat → Bool} : ∀ k n w, n ≤ w → w < n + k → c w = true → (∀ i, n ≤ i → i < n + k → c i = true → i = w) → fi c k n = (w : Int)
  | 0, n, w, h1, h2, _, _ => absurd h2 (by omega)
  | k + 1, n, w, h1, h2, hc, hu => by
    show (if c n = true then (n : Int) else fi c k (n + 1)) = w
    by_cases g : c n = true
    · rw [if_pos g, hu n (Nat.le_refl n) (by omega) g]
    · rw [if_neg g]
      have : ¬ n = w := fun e => g (e ▸ hc)
      exact fi_at k (n + 1) w (by omega) (by omega) hc (fun i h3 h4 => hu i (by omega) (by omega))
theorem fi_ex {c : Nat → Bool} : ∀ k n, ¬ fi c k n = -1 → ∃ w, n ≤ w ∧ w < n + k ∧ c w = true ∧ fi c k n = (w : Int)
  | 0, n, h => absurd rfl h
  | k + 1, n, h => by
    have e : fi c (k + 1) n = if c n = true then (n : Int) else fi c k (n + 1) := rfl
    rw [e] at h ⊢
    by_cases g : c n = true
    · rw [if_pos g]
      exact ⟨n, Nat.le_refl n, by omega, g, rfl⟩
    · rw [if_neg g] at h ⊢
      obtain ⟨w, h1, h2, h3, h4⟩ := fi_ex k (n + 1) h
      exact ⟨w, by omega, by omega, h3, h4⟩
/-- where the reference has a word of the class -/
def prm (w : Nat) : Nat := [0, 1, 2, 9, 10, 11, 3, 4, 5, 6, 7, 8].getD w 0
theorem words_e : ∀ w : Fin 12, prm w < 12 ∧ (∀ i : Fin 6, wordsR.getD (8 * prm w + (i : Nat)) 0 = wordsC.getD (6 * (w : Nat) + (i : Nat)) 0) ∧ wordsR.getD (8 * prm w + 6) 0 = 32 ∧ wordsR.getD (8 * prm w + 7) 0 = 32 := by decide +kernel
theorem words_u : ∀ w v : Fin 12, (∀ i : Fin 8, wordsR.getD (8 * (w : Nat) + (i : Nat)) 0 = wordsR.getD (8 * (v : Nat) + (i : Nat)) 0) → w = v := by decide +kernel
theorem prm_s : ∀ v : Fin 12, ∃ w : Fin 12, prm w = (v : Nat) := by decide +kernel
theorem wm_rm {B : Nat → Int} {s n w : Nat} (hw : w < 12) (hl : ∀ i, i < n → isLt (B (s + i)) = true) : wmB B s n w = true ↔ rmB B s n (prm w) = true := by
  obtain ⟨h1, h2, h3, h4⟩ := words_e ⟨w, hw⟩
  unfold wmB rmB
  rw [Bool.and_eq_true, Bool.and_eq_true, decide_eq_true_eq, decide_eq_true_eq, fa_t, fa_t]
  constructor
  · rintro ⟨a, b⟩
    refine ⟨by omega, fun i _ hi => ?_⟩
    rw [decide_eq_true_eq]
    by_cases g : i < 6
    · have := b i (Nat.zero_le _) (by omega)
      rw [decide_eq_true_eq] at this
      rw [this]
      exact h2 ⟨i, g⟩
    · unfold pad
      rw [if_neg (by omega)]
      rcases (by omega : i = 6 ∨ i = 7) with e | e
      · subst e; exact h3
      · subst e; exact h4
  · rintro ⟨a, b⟩
    have hn : n ≤ 6 := by
      apply Nat.le_of_not_lt
      intro g
      have := b 6 (by omega) (by omega)
      rw [decide_eq_true_eq] at this
      unfold pad at this
      rw [if_pos g] at this
      have q := hl 6 g
      unfold isLt at q
      rw [decide_eq_true_eq] at q
      have h3' : wordsR.getD (8 * prm w + 6) 0 = 32 := h3
      omega
    refine ⟨hn, fun i _ hi => ?_⟩
    have := b i (Nat.zero_le _) (by omega)
    rw [decide_eq_true_eq] at this ⊢
    rw [← this]
    exact h2 ⟨i, by omega⟩
theorem rm_u {B : Nat → Int} {s n v w : Nat} (hv : v < 12) (hw : w < 12) (h1 : rmB B s n v = true) (h2 : rmB B s n w = true) : v = w := by
  unfold rmB at h1 h2
  rw [Bool.and_eq_true, fa_t] at h1 h2
  have := words_u ⟨v, hv⟩ ⟨w, hw⟩ (fun i => by
    have a := h1.2 (i : Nat) (Nat.zero_le _) (by omega)
    have b := h2.2 (i : Nat) (Nat.zero_le _) (by omega)
    rw [decide_eq_true_eq] at a b
    show wordsR.getD (8 * v + (i : Nat)) 0 = wordsR.getD (8 * w + (i : Nat)) 0
    rw [a, b])
  exact Fin.mk.inj_iff.1 this
theorem wx_rx {B : Nat → Int} {s n : Nat} (hl : ∀ i, i < n → isLt (B (s + i)) = true) : (wx B s n = -1 ∧ rx B s n = -1) ∨ ∃ w : Nat, w < 12 ∧ wx B s n = (w : Int) ∧ rx B s n = (prm w : Int) := by
  by_cases h : wx B s n = -1
  · left
    refine ⟨h, ?_⟩
    have hn := fi_no 12 0 h
    apply Classical.byContradiction
    intro g
    obtain ⟨v, _, hv, hc, _⟩ := fi_ex 12 0 g
    obtain ⟨w, hw⟩ := prm_s ⟨v, by omega⟩
    have hw' : prm w = v := hw
    refine hn w (Nat.zero_le _) (by omega) ?_
    rw [wm_rm w.2 hl, hw']
    exact hc
  · right
    obtain ⟨w, _, hw, hc, he⟩ := fi_ex 12 0 h
    have hw12 : w < 12 := by omega
    refine ⟨w, hw12, he, ?_⟩
    have hp := (words_e ⟨w, hw12⟩).1
    have hr := (wm_rm hw12 hl).1 hc
    exact fi_at 12 0 (prm w) (Nat.zero_le _) (by show prm w < 0 + 12; have : prm w < 12 := hp; omega) hr (fun i _ hi hi2 => rm_u (by omega) hp hi2 hr)
/-- which WORD it is -/
theorem s_174 {d0 : Nat} (hd : 1 ≤ d0) {M : MM} {R : RR} (hL : Lay R) {B : Nat → Int} {Z s n : Nat} (hB : BY M 62 B Z) (hW : WT M) (hn : s + n ≤ Z) : call d0 174 [vA 57, vI s, vI ((s + n : Nat) : Int)] M R = some (vI (if rx B s n = -1 then 12 else rx B s n), M, R) := by
  obtain ⟨e, rfl⟩ := s_le hd
  have hZ := hB.1
  have en : w32 (((s + n : Nat) : Int) - (s : Int)) = (n : Int) := by rw [w32_i (by omega)]; omega
  -- the letters of one
  have inner : ∀ (w : Nat), w < 12 → ∀ (k i : Nat), i + k = 8 → ∃ u : Int, run (call e) 174 26 [vA 57, vI s, vI ((s + n : Nat) : Int), vI w, vI 1, vI i] [] M R = run (call e) 174 88 [vA 57, vI s, vI ((s + n : Nat) : Int), vI w, vI (b2 (fa (fun i => decide (wordsR.getD (8 * w + i) 0 = pad B s n i)) k i = true)), vI u] [] M R := by
    intro w hw k
    induction k with
    | zero =>
      intro i hi
      refine ⟨i, ?_⟩
      rw [b_174_26, if_pos (by omega)]
      rfl
    | succ k ih =>
      intro i hi
      have e1 : w32 ((i : Int) + 1) = ((i + 1 : Nat) : Int) := by rw [w32_i (by omega)]; omega
      have e2 : w32 (w32 (8 * (w : Int)) + (i : Int)) = ((8 * w + i : Nat) : Int) := by
        simp (disch := omega) only [w32_i]; omega
      have e3 : w32 ((s : Int) + (i : Int)) = ((s + i : Nat) : Int) := by rw [w32_i (by omega)]; omega
      have hfa : fa (fun i => decide (wordsR.getD (8 * w + i) 0 = pad B s n i)) (k + 1) i = if decide (wordsR.getD (8 * w + i) 0 = pad B s n i) = true then fa (fun i => decide (wordsR.getD (8 * w + i) 0 = pad B s n i)) k (i + 1) else false := rfl
      have hlet : run (call e) 174 26 [vA 57, vI s, vI ((s + n : Nat) : Int), vI w, vI 1, vI i] [] M R = run (call e) 174 72 [vA 57, vI s, vI ((s + n : Nat) : Int), vI w, vI 1, vI i] [vI (pad B s n i), vI (wordsR.getD (8 * w + i) 0)] M R := by
        rw [b_174_26, if_neg (by omega), b_174_33, if_neg (by decide), b_174_38 hL, e2, e3, if_pos (by omega), Int.toNat_natCast, hW _ (by omega)]
        unfold pad
        by_cases h : i < n
        · rw [if_neg (by omega), b_174_58 hL, e3, if_pos (by omega), Int.toNat_natCast, (hB.2 (s + i) (by omega)).1, if_pos h]
        · rw [if_pos (by omega), b_174_70, if_neg h]
      rw [hlet, b_174_72, hfa]
      by_cases h : wordsR.getD (8 * w + i) 0 = pad B s n i
      · rw [if_neg (not_not_intro h), b_174_75, b_174_80, e1, if_pos (decide_eq_true h)]
        exact ih (i + 1) (by omega)
      · refine ⟨((i + 1 : Nat) : Int), ?_⟩
        rw [if_pos h, b_174_79, b_174_80, e1, if_neg (by rw [decide_eq_true_eq]; exact h), b2_f (by decide), b_174_26]
        by_cases g : (8 : Int) ≤ ((i + 1 : Nat) : Int)
        · rw [if_pos g]
        · rw [if_neg g, b_174_33, if_pos rfl]
  have outer : ∀ (k w : Nat) (u4 u5 : AV), w + k = 12 → run (call e) 174 2 [vA 57, vI s, vI ((s + n : Nat) : Int), vI w, u4, u5] [] M R = some (vI (if fi (rmB B s n) k w = -1 then 12 else fi (rmB B s n) k w), M, R) := by
    intro k
    induction k with
    | zero =>
      intro w u4 u5 hw
      rw [b_174_2, if_pos (by omega), b_174_101]
      rfl
    | succ k ih =>
      intro w u4 u5 hw
      have e1 : w32 ((w : Int) + 1) = ((w + 1 : Nat) : Int) := by rw [w32_i (by omega)]; omega
      have hfi : fi (rmB B s n) (k + 1) w = if rmB B s n w = true then (w : Int) else fi (rmB B s n) k (w + 1) := rfl
      rw [b_174_2, if_neg (by omega), b_174_8, en, hfi]
      by_cases hn8 : n ≤ 8
      · obtain ⟨u, hu⟩ := inner w (by omega) 8 0 rfl
        have hrm : rmB B s n w = fa (fun i => decide (wordsR.getD (8 * w + i) 0 = pad B s n i)) 8 0 := by
          unfold rmB
          rw [show decide (n ≤ 8) = true from decide_eq_true hn8, Bool.true_and]
        rw [if_neg (by omega), b_174_16, b_174_21]
        refine Eq.trans hu ?_
        rw [← hrm]
        by_cases h : rmB B s n w = true
        · rw [b2_t h, if_pos h, if_neg (show ¬ (w : Int) = -1 by omega), b_174_88, if_neg (by decide), b_174_93]
        · rw [b2_f h, if_neg h, b_174_88, if_pos rfl, b_174_95, e1]
          exact ih (w + 1) _ _ (by omega)
      · have hrm : ¬ rmB B s n w = true := by
          unfold rmB
          rw [show decide (n ≤ 8) = false from decide_eq_false hn8, Bool.false_and]
          decide
        rw [if_pos (by omega), b_174_20, b_174_21, b_174_26, if_neg (by omega), b_174_33, if_pos rfl, b_174_88, if_pos rfl, b_174_95, e1, if_neg hrm]
        exact ih (w + 1) _ _ (by omega)
  refine call_of 6 [vA 57, vI s, vI ((s + n : Nat) : Int), vX 0, vX 0, vX 0] (by decide) rfl (Nat.le_of_ble_eq_true rfl) rfl ?_ rfl
  rw [b_174_0]
  exact outer 12 0 (vX 0) (vX 0) rfl
end
