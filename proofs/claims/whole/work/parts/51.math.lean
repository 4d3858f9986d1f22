/-! ===== ARITHMETIC OF SETS: sums over all ways to part a list in two, numbers kept apart by a second index ===== -/
def pm (p q : Nat → Int) : Nat → Int
  | 0 => p 0 * q 0
  | n + 1 => p 0 * q (n + 1) + pm (fun i => p (i + 1)) q n
theorem pm_al (p p' q : Nat → Int) : ∀ n, pm (fun i => p i + p' i) q n = pm p q n + pm p' q n := by
  intro n
  induction n generalizing p p' with
  | zero => simp only [pm, Int.add_mul]
  | succ n ih => simp only [pm, Int.add_mul, ih (fun i => p (i + 1)) (fun i => p' (i + 1))]; omega
theorem pm_sl (c : Int) (p q : Nat → Int) : ∀ n, pm (fun i => c * p i) q n = c * pm p q n := by
  intro n
  induction n generalizing p with
  | zero => simp only [pm, Int.mul_assoc]
  | succ n ih => simp only [pm, Int.mul_add, Int.mul_assoc, ih (fun i => p (i + 1))]
theorem pm_r (p q : Nat → Int) : ∀ n, pm p q (n + 1) = pm p (fun i => q (i + 1)) n + p (n + 1) * q 0 := by
  intro n
  induction n generalizing p with
  | zero => simp only [pm]
  | succ n ih =>
    have := ih (fun i => p (i + 1))
    rw [pm, this]
    simp only [pm]
    omega
theorem pm_c (p q : Nat → Int) : ∀ n, pm p q n = pm q p n := by
  intro n
  induction n generalizing p with
  | zero => simp only [pm, Int.mul_comm]
  | succ n ih => rw [pm, pm_r, ih, Int.mul_comm]; omega
theorem pm_ar (p q q' : Nat → Int) (n : Nat) : pm p (fun i => q i + q' i) n = pm p q n + pm p q' n := by
  rw [pm_c, pm_al, pm_c q, pm_c q']
theorem pm_as (p q r : Nat → Int) : ∀ n, pm (pm p q) r n = pm p (pm q r) n := by
  intro n
  induction n generalizing p with
  | zero => simp only [pm, Int.mul_assoc]
  | succ n ih =>
    have e : (fun i => pm p q (i + 1)) = (fun i => (fun i => p 0 * q (i + 1)) i + pm (fun i => p (i + 1)) q i) := by
      funext i
      rw [pm]
    rw [pm, e, pm_al, ih, pm, pm_sl (p 0) (fun i => q (i + 1))]
    simp only [pm, Int.mul_add, Int.mul_assoc]
    omega
def one : Nat → Int
  | 0 => 1
  | _ + 1 => 0
theorem pm_z (q : Nat → Int) : ∀ n, pm (fun _ => 0) q n = 0 := by
  intro n
  induction n with
  | zero => simp [pm]
  | succ n ih => simp only [pm, ih]; omega
theorem pm_1 (q : Nat → Int) : ∀ n, pm one q n = q n := by
  intro n
  cases n with
  | zero => simp [pm, one]
  | succ n =>
    have e : (fun i => one (i + 1)) = (fun _ => (0 : Int)) := rfl
    rw [pm, e, pm_z]
    simp [one]
def cnv (f g : List Nat → Nat → Int) : List Nat → Nat → Int
  | [] => pm (f []) (g [])
  | a :: l => fun n => cnv (fun m => f (a :: m)) g l n + cnv f (fun m => g (a :: m)) l n
theorem cv_c (f g : List Nat → Nat → Int) : ∀ l, cnv f g l = cnv g f l := by
  intro l
  induction l generalizing f g with
  | nil => funext n; exact pm_c _ _ n
  | cons a l ih =>
    funext n
    simp only [cnv]
    rw [ih (fun m => f (a :: m)), ih f]
    omega
theorem cv_al (f f' g : List Nat → Nat → Int) : ∀ l, cnv (fun m n => f m n + f' m n) g l = fun n => cnv f g l n + cnv f' g l n := by
  intro l
  induction l generalizing f f' g with
  | nil => funext n; exact pm_al _ _ _ n
  | cons a l ih =>
    funext n
    simp only [cnv]
    rw [ih (fun m => f (a :: m)) (fun m => f' (a :: m)), ih f f']
    dsimp only
    omega
theorem cv_ar (f g g' : List Nat → Nat → Int) (l : List Nat) : cnv f (fun m n => g m n + g' m n) l = fun n => cnv f g l n + cnv f g' l n := by
  rw [cv_c, cv_al, cv_c g, cv_c g']
theorem cv_as (f g h : List Nat → Nat → Int) : ∀ l, cnv (cnv f g) h l = cnv f (cnv g h) l := by
  intro l
  induction l generalizing f g h with
  | nil => funext n; exact pm_as _ _ _ n
  | cons a l ih =>
    funext n
    have e1 : (fun m => cnv f g (a :: m)) = (fun m n => cnv (fun m => f (a :: m)) g m n + cnv f (fun m => g (a :: m)) m n) := rfl
    have e2 : (fun m => cnv g h (a :: m)) = (fun m n => cnv (fun m => g (a :: m)) h m n + cnv g (fun m => h (a :: m)) m n) := rfl
    show cnv (fun m => cnv f g (a :: m)) h l n + cnv (cnv f g) (fun m => h (a :: m)) l n = cnv (fun m => f (a :: m)) (cnv g h) l n + cnv f (fun m => cnv g h (a :: m)) l n
    rw [e1, e2, cv_al, cv_ar, ih, ih, ih]
    dsimp only
    omega
theorem cv_g (f f' g g' : List Nat → Nat → Int) : ∀ l : List Nat, (∀ m : List Nat, m.length ≤ l.length → f m = f' m) → (∀ m : List Nat, m.length ≤ l.length → g m = g' m) → cnv f g l = cnv f' g' l := by
  intro l
  induction l generalizing f f' g g' with
  | nil =>
    intro h1 h2
    rw [cnv, cnv, h1 [] (Nat.le_refl 0), h2 [] (Nat.le_refl 0)]
  | cons a l ih =>
    intro h1 h2
    funext n
    simp only [cnv]
    rw [ih (fun m => f (a :: m)) (fun m => f' (a :: m)) g g' (fun m hm => h1 (a :: m) (Nat.succ_le_succ hm)) (fun m hm => h2 m (Nat.le_succ_of_le hm)), ih f f' (fun m => g (a :: m)) (fun m => g' (a :: m)) (fun m hm => h1 m (Nat.le_succ_of_le hm)) (fun m hm => h2 (a :: m) (Nat.succ_le_succ hm))]
/-- F comes of the pieces g, for lists of at most K: the piece of the first, and the rest beside it -/
def isE (K : Nat) (g F : List Nat → Nat → Int) : Prop := F [] = one ∧ ∀ (a : Nat) (l : List Nat), l.length < K → F (a :: l) = cnv (fun m => g (a :: m)) F l
theorem isE_m {K : Nat} {g h F H : List Nat → Nat → Int} (hF : isE K g F) (hH : isE K h H) : isE K (fun m n => g m n + h m n) (cnv F H) := by
  refine ⟨?_, ?_⟩
  · funext n
    rw [cnv, hF.1, hH.1, pm_1]
  · intro a l hl
    have e3 : cnv H F = cnv F H := by funext m; exact cv_c H F m
    funext n
    show cnv (fun m => F (a :: m)) H l n + cnv F (fun m => H (a :: m)) l n = _
    rw [cv_g (fun m => F (a :: m)) (cnv (fun m => g (a :: m)) F) H H l (fun m hm => hF.2 a m (by omega)) (fun _ _ => rfl), cv_g F F (fun m => H (a :: m)) (cnv (fun m => h (a :: m)) H) l (fun _ _ => rfl) (fun m hm => hH.2 a m (by omega)), cv_as, cv_c F, cv_as, e3, cv_al]
theorem isE_u {K : Nat} {g F H : List Nat → Nat → Int} (hF : isE K g F) (hH : isE K g H) : ∀ (k : Nat) (l : List Nat), k ≤ K → l.length ≤ k → F l = H l := by
  intro k
  induction k with
  | zero =>
    intro l _ hl
    cases l with
    | nil => rw [hF.1, hH.1]
    | cons a l => exact absurd hl (by simp)
  | succ k ih =>
    intro l hk hl
    cases l with
    | nil => rw [hF.1, hH.1]
    | cons a l =>
      have hl' : l.length ≤ k := by simpa using hl
      rw [hF.2 a l (by omega), hH.2 a l (by omega)]
      exact cv_g _ _ _ _ l (fun _ _ => rfl) (fun m hm => ih m (by omega) (by omega))
