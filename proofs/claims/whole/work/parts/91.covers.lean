section
/-! ===== covers: every DAY of a set is somebody's ===== -/
/-- a day's factor: somebody has it, if it is of the set -/
def fc (w : Nat → Nat → Int) (x : Nat) : Nat → List Nat → Nat → Int := fun d m n => if x.testBit d = true ∧ m = [] then 0 else wp (w d) m * one n
/-- how many of the first days are of the set -/
def nm (x D : Nat) : Nat := ((List.range D).filter (fun k => x.testBit k)).length
theorem nm_s (x D : Nat) : nm x (D + 1) = nm x D + (if x.testBit D = true then 1 else 0) := by
  unfold nm
  rw [List.range_succ, List.filter_append, List.length_append]
  by_cases h : x.testBit D = true
  · rw [if_pos h, List.filter_cons_of_pos (by simpa using h)]
    rfl
  · rw [if_neg h, List.filter_cons_of_neg (by simpa using h)]
    rfl
theorem nm_m (x D : Nat) : ∀ k, nm x D ≤ nm x (D + k)
  | 0 => Nat.le_refl _
  | k + 1 => by
    have := nm_m x D k
    have h := nm_s x (D + k)
    rw [show D + (k + 1) = D + k + 1 from rfl, h]
    omega
/-- what is left out of the first days' weights -/
def xE (w : Nat → Nat → Int) (x p : Nat) : Nat → Nat → Int
  | 0, _ => 0
  | D + 1, i => if x.testBit D = true then (if i < 2 ^ nm x D then xE w x p D i else xE w x p D (i - 2 ^ nm x D) + w D p) else xE w x p D i
theorem xE_k (w : Nat → Nat → Int) (x p D i : Nat) : ∀ k, nm x (D + k) = nm x D → xE w x p (D + k) i = xE w x p D i
  | 0, _ => rfl
  | k + 1, h => by
    have h1 := nm_s x (D + k)
    have h2 := nm_m x D k
    rw [show D + (k + 1) = D + k + 1 from rfl] at h
    have h3 : ¬ x.testBit (D + k) = true := by
      intro g
      rw [if_pos g] at h1
      omega
    rw [if_neg h3] at h1
    show (if x.testBit (D + k) = true then (if i < 2 ^ nm x (D + k) then xE w x p (D + k) i else xE w x p (D + k) (i - 2 ^ nm x (D + k)) + w (D + k) p) else xE w x p (D + k) i) = _
    rw [if_neg h3]
    exact xE_k w x p D i k (by omega)
theorem xE_r {w : Nat → Nat → Int} {x p : Nat} : ∀ (D i : Nat), (∀ d, d < D → 0 ≤ w d p) → 0 ≤ xE w x p D i ∧ xE w x p D i ≤ sm (fun d => w d p) D
  | 0, _, _ => ⟨Int.le_refl 0, Int.le_refl 0⟩
  | D + 1, i, h => by
    have h1 := h D (by omega)
    show 0 ≤ (if x.testBit D = true then (if i < 2 ^ nm x D then xE w x p D i else xE w x p D (i - 2 ^ nm x D) + w D p) else xE w x p D i) ∧ (if x.testBit D = true then (if i < 2 ^ nm x D then xE w x p D i else xE w x p D (i - 2 ^ nm x D) + w D p) else xE w x p D i) ≤ sm (fun d => w d p) D + w D p
    have a := xE_r (x := x) D i (fun d hd => h d (by omega))
    have b := xE_r (x := x) D (i - 2 ^ nm x D) (fun d hd => h d (by omega))
    split
    · split
      · omega
      · omega
    · omega
def sgn (i : Nat) : Int := if (bl i).length % 2 = 0 then 1 else -1
theorem sgn_x : ∀ c : Fin 7, ∀ i : Fin 128, (i : Nat) < 2 ^ (c : Nat) → sgn (2 ^ (c : Nat) + (i : Nat)) = - sgn i := by decide +kernel
theorem sm_app (f : Nat → Int) (a : Nat) : ∀ b, sm f (a + b) = sm f a + sm (fun i => f (a + i)) b
  | 0 => by show sm f a = sm f a + 0; omega
  | b + 1 => by
    show sm f (a + b) + f (a + b) = sm f a + (sm (fun i => f (a + i)) b + f (a + b))
    rw [sm_app f a b]
    omega
theorem su_add {α : Type} (f g : α → Int) : ∀ l : List α, su (fun z => f z + g z) l = su f l + su g l
  | [] => rfl
  | a :: l => by
    show (f a + g a) + su _ l = (f a + su f l) + (g a + su g l)
    rw [su_add f g l]
    omega
theorem sm_k (k : Int) (s f : Nat → Int) : ∀ n, k * sm (fun i => s i * f i) n = sm (fun i => s i * (k * f i)) n
  | 0 => Int.mul_zero k
  | n + 1 => by
    show k * (sm (fun i => s i * f i) n + s n * f n) = sm (fun i => s i * (k * f i)) n + s n * (k * f n)
    rw [Int.mul_add, sm_k k s f n, Int.mul_left_comm]
theorem su_sm {α : Type} (f : Nat → α → Int) (l : List α) : ∀ n, su (fun z => sm (fun i => f i z) n) l = sm (fun i => su (f i) l) n
  | 0 => by
    show su (fun _ => (0 : Int)) l = 0
    induction l with
    | nil => rfl
    | cons a l ih => show (0 : Int) + su _ l = 0; rw [ih]; rfl
  | n + 1 => by
    show su (fun z => sm (fun i => f i z) n + f n z) l = sm (fun i => su (f i) l) n + su (f n) l
    rw [← su_sm f l n]
    exact su_add (fun z => sm (fun i => f i z) n) (f n) l
theorem su_sub {α : Type} (f g : α → Int) : ∀ l : List α, su (fun z => f z - g z) l = su f l - su g l
  | [] => rfl
  | a :: l => by
    show (f a - g a) + su _ l = (f a + su f l) - (g a + su g l)
    rw [su_sub f g l]
    omega
theorem sm_sub (f g : Nat → Int) : ∀ n, sm f n - sm g n = sm (fun i => f i - g i) n
  | 0 => rfl
  | n + 1 => by
    show (sm f n + f n) - (sm g n + g n) = sm (fun i => f i - g i) n + (f n - g n)
    rw [← sm_sub f g n]
    omega
theorem sm_neg (f : Nat → Int) : ∀ n, sm (fun i => - f i) n = - sm f n
  | 0 => rfl
  | n + 1 => by
    show sm (fun i => - f i) n + - f n = - (sm f n + f n)
    rw [sm_neg f n]
    omega
theorem su_nil (G : List Nat → Int) : ∀ l, su (fun z : List Nat × List Nat => (if z.1 = [] then 1 else 0) * G z.2) (spl l) = G l
  | [] => by show (1 : Int) * G [] + 0 = G []; omega
  | a :: l => by
    show su _ (List.map _ (spl l) ++ List.map _ (spl l)) = _
    rw [su_app, su_map, su_map]
    have h1 : su (fun z : List Nat × List Nat => (if a :: z.1 = [] then (1 : Int) else 0) * G z.2) (spl l) = 0 := by
      have : ∀ l' : List (List Nat × List Nat), su (fun z : List Nat × List Nat => (if a :: z.1 = [] then (1 : Int) else 0) * G z.2) l' = 0 := by
        intro l'
        induction l' with
        | nil => rfl
        | cons z l' ih =>
          show (if a :: z.1 = [] then (1 : Int) else 0) * G z.2 + su _ l' = 0
          rw [ih, if_neg (by simp)]
          omega
      exact this _
    have h2 := su_nil (fun m => G (a :: m)) l
    try dsimp only at h1 h2 ⊢
    rw [h1, h2]
    omega
theorem Dl_n {φ : Nat → List Nat → Nat → Int} {d : Nat} (l : List Nat) : Dl φ (d + 1) l 0 = su (fun z => φ d z.1 0 * Dl φ d z.2 0) (spl l) := by
  show cnv (φ d) (Dl φ d) l 0 = _
  rw [cnv_spl]
  rfl
theorem fc_n (w : Nat → Nat → Int) (x d : Nat) (m : List Nat) : fc w x d m 0 = wp (w d) m - (if x.testBit d = true then (if m = [] then 1 else 0) else 0) := by
  unfold fc
  show (if x.testBit d = true ∧ m = [] then 0 else wp (w d) m * 1) = _
  by_cases h : x.testBit d = true
  · rw [if_pos h]
    by_cases g : m = []
    · subst g
      rw [if_pos ⟨h, rfl⟩, if_pos rfl]
      rfl
    · rw [if_neg (fun q => g q.2), if_neg g]
      omega
  · rw [if_neg h, if_neg (fun q => h q.1)]
    omega
/-- all and none of it, in turn -/
theorem Dl_cov (w : Nat → Nat → Int) (x : Nat) : ∀ (D : Nat) (l : List Nat), nm x D ≤ 7 → Dl (fc w x) D l 0 = sm (fun i => sgn i * wp (fun p => sm (fun d => w d p) D - xE w x p D i) l) (2 ^ nm x D)
  | 0, l, _ => by
    show (if l = [] then one else fun _ => 0) 0 = 0 + sgn 0 * wp (fun _ => (0 : Int) - 0) l
    cases l with
    | nil => rfl
    | cons a l =>
      rw [if_neg (by simp)]
      show (0 : Int) = 0 + sgn 0 * (((0 : Int) - 0) * wp _ l)
      rw [show ((0 : Int) - 0) = 0 from rfl, Int.zero_mul, Int.mul_zero]
      rfl
  | D + 1, l, h => by
    have hs := nm_s x D
    have hm : nm x D ≤ 7 := by omega
    have key : ∀ l', su (fun z : List Nat × List Nat => wp (w D) z.1 * Dl (fc w x) D z.2 0) (spl l') = sm (fun i => sgn i * wp (fun p => sm (fun d => w d p) (D + 1) - xE w x p D i) l') (2 ^ nm x D) := by
      intro l'
      have e1 : ∀ z : List Nat × List Nat, wp (w D) z.1 * Dl (fc w x) D z.2 0 = sm (fun i => sgn i * (wp (w D) z.1 * wp (fun p => sm (fun d => w d p) D - xE w x p D i) z.2)) (2 ^ nm x D) := by
        intro z
        rw [Dl_cov w x D z.2 hm]
        exact sm_k _ sgn _ _
      rw [su_c (f' := fun z => sm (fun i => sgn i * (wp (w D) z.1 * wp (fun p => sm (fun d => w d p) D - xE w x p D i) z.2)) (2 ^ nm x D)) _ (fun z _ => e1 z), su_sm]
      refine sm_c _ (fun i _ => ?_)
      rw [su_k, su_wp]
      congr 1
      refine wp_c l' (fun p _ => ?_)
      show w D p + (sm (fun d => w d p) D - xE w x p D i) = sm (fun d => w d p) D + w D p - xE w x p D i
      omega
    rw [Dl_n, su_c (f' := fun z => wp (w D) z.1 * Dl (fc w x) D z.2 0 - (if x.testBit D = true then (if z.1 = [] then 1 else 0) else 0) * Dl (fc w x) D z.2 0) _ (fun z _ => by rw [fc_n, Int.sub_mul])]
    by_cases hx : x.testBit D = true
    · rw [if_pos hx] at hs
      have e2 : su (fun z : List Nat × List Nat => wp (w D) z.1 * Dl (fc w x) D z.2 0 - (if x.testBit D = true then (if z.1 = [] then 1 else 0) else 0) * Dl (fc w x) D z.2 0) (spl l) = su (fun z : List Nat × List Nat => wp (w D) z.1 * Dl (fc w x) D z.2 0) (spl l) - Dl (fc w x) D l 0 := by
        rw [su_sub, ← su_nil (fun m => Dl (fc w x) D m 0) l]
        congr 1
        refine su_c _ (fun z _ => ?_)
        rw [if_pos hx]
      rw [e2, key, hs, Nat.pow_succ, Nat.mul_two, sm_app, Dl_cov w x D l hm, Int.sub_eq_add_neg, ← sm_neg]
      congr 1
      · refine sm_c _ (fun i hi => ?_)
        congr 1
        refine wp_c l (fun p _ => ?_)
        show _ = sm (fun d => w d p) D + w D p - (if x.testBit D = true then (if i < 2 ^ nm x D then xE w x p D i else _) else _)
        rw [if_pos hx, if_pos hi]
        rfl
      · refine sm_c _ (fun i hi => ?_)
        have h7 : nm x D < 7 := by omega
        have hp : 2 ^ nm x D ≤ 64 := Nat.pow_le_pow_right (n := 2) (by omega) (by omega : nm x D ≤ 6)
        have sg := sgn_x ⟨nm x D, h7⟩ ⟨i, by omega⟩ hi
        try dsimp only at sg
        rw [sg, Int.neg_mul]
        congr 2
        refine wp_c l (fun p _ => ?_)
        show _ = sm (fun d => w d p) D + w D p - (if x.testBit D = true then (if 2 ^ nm x D + i < 2 ^ nm x D then _ else xE w x p D (2 ^ nm x D + i - 2 ^ nm x D) + w D p) else _)
        rw [if_pos hx, if_neg (by omega), Nat.add_sub_cancel_left]
        omega
    · rw [if_neg hx] at hs
      have hs' : nm x (D + 1) = nm x D := hs
      rw [hs', ← show su (fun z : List Nat × List Nat => wp (w D) z.1 * Dl (fc w x) D z.2 0) (spl l) = sm (fun i => sgn i * wp (fun p => sm (fun d => w d p) (D + 1) - xE w x p (D + 1) i) l) (2 ^ nm x D) from by
        rw [key]
        refine sm_c _ (fun i _ => ?_)
        congr 1
        refine wp_c l (fun p _ => ?_)
        show _ = _ - (if x.testBit D = true then _ else xE w x p D i)
        rw [if_neg hx]]
      refine su_c _ (fun z _ => ?_)
      rw [if_neg hx]
      omega
theorem spl_len : ∀ (l : List Nat) (z : List Nat × List Nat), z ∈ spl l → z.1.length + z.2.length = l.length
  | [], z, h => by
    simp only [spl, List.mem_singleton] at h
    subst h
    rfl
  | a :: l, z, h => by
    simp only [spl, List.mem_append, List.mem_map] at h
    rcases h with ⟨y, hy, rfl⟩ | ⟨y, hy, rfl⟩
    · have := spl_len l y hy
      simp only [List.length_cons]
      omega
    · have := spl_len l y hy
      simp only [List.length_cons]
      omega
theorem Dl_few (w : Nat → Nat → Int) (x : Nat) : ∀ (D : Nat) (l : List Nat), l.length < nm x D → Dl (fc w x) D l 0 = 0
  | 0, l, h => absurd h (by show ¬ l.length < 0; omega)
  | D + 1, l, h => by
    have hs := nm_s x D
    rw [Dl_n]
    refine su_z _ (fun z hz => ?_)
    have hl := spl_len l z hz
    by_cases hx : x.testBit D = true
    · rw [if_pos hx] at hs
      by_cases h1 : z.1 = []
      · have : fc w x D z.1 0 = 0 := by unfold fc; rw [if_pos ⟨hx, h1⟩]
        rw [this, Int.zero_mul]
      · have h2 : 0 < z.1.length := List.length_pos_iff.2 h1
        rw [Dl_few w x D z.2 (by omega), Int.mul_zero]
    · rw [if_neg hx] at hs
      rw [Dl_few w x D z.2 (by omega), Int.mul_zero]
theorem Dl_cr {w : Nat → Nat → Int} {x : Nat} : ∀ (D : Nat) (l : List Nat), (∀ d p, d < D → p ∈ l → 0 ≤ w d p) → 0 ≤ Dl (fc w x) D l 0 ∧ Dl (fc w x) D l 0 ≤ wp (fun p => sm (fun d => w d p) D) l
  | 0, l, hw => by
    show 0 ≤ (if l = [] then one else fun _ => 0) 0 ∧ (if l = [] then one else fun _ => 0) 0 ≤ wp (fun _ => 0) l
    cases l with
    | nil => exact ⟨by decide, by decide⟩
    | cons a l =>
      rw [if_neg (by simp)]
      show (0 : Int) ≤ 0 ∧ 0 ≤ 0 * wp _ l
      rw [Int.zero_mul]
      exact ⟨by decide, by decide⟩
  | D + 1, l, hw => by
    have e1 : wp (fun p => sm (fun d => w d p) (D + 1)) l = su (fun z => wp (w D) z.1 * wp (fun p => sm (fun d => w d p) D) z.2) (spl l) := by
      rw [su_wp]
      refine wp_c l (fun p _ => ?_)
      show sm _ D + w D p = w D p + sm _ D
      omega
    rw [e1, Dl_n]
    refine su_r _ (fun z hz => ?_)
    have hz1 : ∀ p, p ∈ z.1 → p ∈ l := spl_in l z hz |>.1
    have hz2 : ∀ p, p ∈ z.2 → p ∈ l := spl_in l z hz |>.2
    have a1 := wp_nn z.1 (f := w D) (fun p hp => hw D p (by omega) (hz1 p hp))
    have a2 := Dl_cr (x := x) D z.2 (fun d p hd hp => hw d p (by omega) (hz2 p hp))
    have a3 := Int.mul_nonneg a1 a2.1
    have a4 := Int.mul_le_mul_of_nonneg_left a2.2 a1
    unfold fc
    split
    · rw [Int.zero_mul]
      exact ⟨Int.le_refl 0, Int.le_trans a3 a4⟩
    · rw [show one 0 = 1 from rfl, Int.mul_one]
      exact ⟨a3, a4⟩
/-- covers -/
def v_cov (w : Nat → Nat → Int) (P Y : Nat) (x part : Int) : Int := if 0 ≤ x ∧ x < ((2 ^ Y : Nat) : Int) then fr (Dl (fc w x.toNat) Y (bl (EV P)) 0) (AL w Y (EV P)) part else NO
-- the reference
theorem t_215 {e : Nat} {M : MM} {R : RR} (hL : Lay R) {x1 x2 x3 : Int} {mu s : Nat} {C f : Nat → Int} {u6 u8 : AV} (hs : s < 128) (hC : ∀ r, r ≤ s → M 79 r = w64 (C r)) (hf : ∀ on, on ≤ s → M 78 on = f on) (hf0 : f 0 = 1) : run (call e) 215 120 [vA 57, vI x1, vI x2, vI x3, vI mu, vI s, u6, vX 0, u8] [vJ (if mu = 0 then M 79 s else 0)] M R = run (call e) 215 177 [vA 57, vI x1, vI x2, vI x3, vI mu, vI s, vJ (w64 (su (fun on => if on = 0 ∧ ¬ mu = 0 then 0 else C (s ^^^ on) * f on) (filt s (s + 1)))), vX 0, vI ((s + 1 : Nat) : Int)] [] M R := by
  have h0 : w64 (su (fun on => if on = 0 ∧ ¬ mu = 0 then 0 else C (s ^^^ on) * f on) (filt s 1)) = (if mu = 0 then M 79 s else 0) := by
    rw [su_f1]
    try dsimp only
    by_cases h : mu = 0
    · rw [if_neg (fun q => q.2 h), if_pos h, hf0, Int.mul_one, Nat.xor_zero, hC s (Nat.le_refl s)]
    · rw [if_pos ⟨rfl, h⟩, if_neg h]
      rfl
  have key := iter_eq (fun i : Nat => run (call e) 215 125 [vA 57, vI x1, vI x2, vI x3, vI mu, vI s, vJ (w64 (su (fun on => if on = 0 ∧ ¬ mu = 0 then 0 else C (s ^^^ on) * f on) (filt s (i + 1)))), vX 0, vI ((i + 1 : Nat) : Int)] [] M R) s ?_
  · rw [b_215_120, ← h0]
    refine Eq.trans key ?_
    rw [b_215_125, if_pos (by omega)]
  · intro i hi
    have e1 : w32 (((i + 1 : Nat) : Int) + 1) = ((i + 1 + 1 : Nat) : Int) := by rw [w32_i (by omega)]; omega
    have c1 := sub_c ⟨s, hs⟩ ⟨i + 1, by omega⟩
    have c2 := sub_x ⟨s, hs⟩ ⟨i + 1, by omega⟩
    have c3 := sub_c ⟨i + 1, by omega⟩ ⟨s, hs⟩
    have hst := su_fs (fun on => if on = 0 ∧ ¬ mu = 0 then 0 else C (s ^^^ on) * f on) s (i + 1)
    try dsimp only at c1 c2 c3 hst ⊢
    rw [b_215_125, if_neg (by omega), b_215_132, c1]
    rw [if_neg (c := i + 1 = 0 ∧ ¬ mu = 0) (by omega)] at hst
    by_cases hz : (i + 1) &&& (127 ^^^ s) = 0
    · obtain ⟨c4, c5⟩ := c2 hz
      have c6 := c5 (by omega)
      rw [if_pos hz] at hst
      rw [hz, if_neg (by decide), b_215_144 hL, c3, c4, if_pos (by omega), if_pos (by omega), b_215_168, e1, Int.toNat_natCast, Int.toNat_natCast, hC _ (by omega), hf _ (by omega), w64_ml, w64_al, w64_ar, hst]
    · rw [if_neg hz, Int.add_zero] at hst
      rw [if_pos (by omega), b_215_167, b_215_168, e1, Int.add_zero, hst, w64_b, w64_b, Int.bmod_bmod]
theorem t2_215 {e : Nat} {M : MM} {R : RR} (hL : Lay R) {x1 x2 x3 : Int} {mu P : Nat} {C f : Nat → Int} {u6 u8 : AV} (hP7 : P ≤ 7) (hC : ∀ r, r < 2 ^ P → M 79 r = w64 (C r)) (hf : ∀ on, on < 2 ^ P → M 78 on = f on) (hf0 : f 0 = 1) : ∃ (M' : MM) (v6 v8 : AV), run (call e) 215 99 [vA 57, vI x1, vI x2, vI x3, vI mu, vI ((2 ^ P : Nat) - 1 : Int), u6, vX 0, u8] [] M R = run (call e) 215 192 [vA 57, vI x1, vI x2, vI x3, vI mu, vI (-1), v6, vX 0, v8] [] M' R ∧ Fx [79] M M' ∧ ∀ r, r < 2 ^ P → M' 79 r = w64 (su (fun on => if on = 0 ∧ ¬ mu = 0 then 0 else C (r ^^^ on) * f on) (filt r (r + 1))) := by
  have hpw := p2_7 hP7
  have hpp : 0 < 2 ^ P := Nat.two_pow_pos P
  have key := loop_nat (fun j (a : (AV × AV) × MM) => run (call e) 215 99 [vA 57, vI x1, vI x2, vI x3, vI mu, vI ((2 ^ P : Nat) - 1 - j : Int), a.1.1, vX 0, a.1.2] [] a.2 R) (fun j a => Fx [79] M a.2 ∧ ∀ r, r < 2 ^ P → a.2 79 r = w64 (if 2 ^ P ≤ r + j then su (fun on => if on = 0 ∧ ¬ mu = 0 then 0 else C (r ^^^ on) * f on) (filt r (r + 1)) else C r)) (2 ^ P) ?_ ((u6, u8), M) ?_
  · obtain ⟨⟨⟨v6, v8⟩, M1⟩, ⟨a1, a2⟩, hq⟩ := key
    try dsimp only at a1 a2
    refine ⟨M1, v6, v8, ?_, a1, ?_⟩
    · rw [show ((2 ^ P : Nat) - 1 : Int) = ((2 ^ P : Nat) : Int) - 1 - ((0 : Nat) : Int) by omega]
      refine Eq.trans hq ?_
      try dsimp only
      rw [show ((2 ^ P : Nat) : Int) - 1 - ((2 ^ P : Nat) : Int) = -1 by omega, b_215_99, if_pos (by decide)]
    · intro r hr
      rw [a2 r hr, if_pos (by omega)]
  · rintro j ⟨⟨v6, v8⟩, M1⟩ hj ⟨a1, a2⟩
    try dsimp only at a1 a2
    have e0 : ((2 ^ P : Nat) : Int) - 1 - (j : Int) = ((2 ^ P - 1 - j : Nat) : Int) := by omega
    have e1 : w32 (((2 ^ P - 1 - j : Nat) : Int) + (-1)) = ((2 ^ P : Nat) : Int) - 1 - ((j + 1 : Nat) : Int) := by rw [w32_i (by omega)]; omega
    have q1 := t_215 (e := e) (M := M1) hL (x1 := x1) (x2 := x2) (x3 := x3) (mu := mu) (u6 := v6) (u8 := v8) (s := 2 ^ P - 1 - j) (C := C) (f := f) (by omega) (fun r hr => by rw [a2 r (by omega), if_neg (by omega)]) (fun on ho => by rw [a1 78 (by decide)]; exact hf on (by omega)) hf0
    refine ⟨((vJ (w64 (su (fun on => if on = 0 ∧ ¬ mu = 0 then 0 else C ((2 ^ P - 1 - j) ^^^ on) * f on) (filt (2 ^ P - 1 - j) (2 ^ P - 1 - j + 1)))), vI ((2 ^ P - 1 - j + 1 : Nat) : Int)), up M1 79 (2 ^ P - 1 - j) (w64 (su (fun on => if on = 0 ∧ ¬ mu = 0 then 0 else C ((2 ^ P - 1 - j) ^^^ on) * f on) (filt (2 ^ P - 1 - j) (2 ^ P - 1 - j + 1))))), ⟨Fx_t a1 (Fx_p (by decide)), ?_⟩, ?_⟩
    rotate_left
    · show run (call e) 215 99 [vA 57, vI x1, vI x2, vI x3, vI mu, vI (((2 ^ P : Nat) : Int) - 1 - (j : Int)), v6, vX 0, v8] [] M1 R = _
      rw [e0, b_215_99, if_neg (by omega), b_215_104]
      by_cases h : mu = 0
      · rw [if_pos h] at q1
        rw [if_pos (by omega), b_215_113 hL, if_pos (by omega), Int.toNat_natCast]
        refine Eq.trans q1 ?_
        rw [b_215_177 hL, if_pos (by omega), e1, Int.toNat_natCast]
      · rw [if_neg h] at q1
        rw [if_neg (by omega), b_215_109]
        refine Eq.trans q1 ?_
        rw [b_215_177 hL, if_pos (by omega), e1, Int.toNat_natCast]
    · intro r hr
      try dsimp only
      by_cases h : r = 2 ^ P - 1 - j
      · subst h
        rw [up_s, if_pos (by omega)]
      · rw [up_i h, a2 r hr]
        by_cases g : 2 ^ P ≤ r + j
        · rw [if_pos g, if_pos (by omega)]
        · rw [if_neg g, if_neg (by omega)]
  · refine ⟨Fx_r, ?_⟩
    intro r hr
    rw [if_neg (by omega)]
    exact hC r hr
end
