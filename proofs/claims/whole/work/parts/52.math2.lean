/-! ===== a product of weights times what depends of the size alone ===== -/
theorem cv_sl (c : Int) (f g : List Nat → Nat → Int) : ∀ l, cnv (fun m n => c * f m n) g l = fun n => c * cnv f g l n := by
  intro l
  induction l generalizing f g with
  | nil => funext n; exact pm_sl c _ _ n
  | cons a l ih =>
    funext n
    show cnv (fun m n => c * f (a :: m) n) g l n + cnv (fun m n => c * f m n) (fun m => g (a :: m)) l n = c * (cnv (fun m => f (a :: m)) g l n + cnv f (fun m => g (a :: m)) l n)
    rw [ih (fun m => f (a :: m)), ih f]
    dsimp only
    rw [Int.mul_add]
theorem cv_sr (c : Int) (f g : List Nat → Nat → Int) (l : List Nat) : cnv f (fun m n => c * g m n) l = fun n => c * cnv f g l n := by
  rw [cv_c, cv_sl, cv_c g]
/-- weights multiplied -/
def wp (w : Nat → Int) : List Nat → Int
  | [] => 1
  | a :: l => w a * wp w l
/-- of k how many ways to part them by size -/
def bin (u v : Nat → Nat → Int) : Nat → Nat → Int
  | 0 => pm (u 0) (v 0)
  | k + 1 => fun n => bin (fun j => u (j + 1)) v k n + bin u (fun j => v (j + 1)) k n
theorem cv_w (w : Nat → Int) (u v : Nat → Nat → Int) : ∀ l, cnv (fun m n => wp w m * u m.length n) (fun m n => wp w m * v m.length n) l = fun n => wp w l * bin u v l.length n := by
  intro l
  induction l generalizing u v with
  | nil =>
    funext n
    show pm (fun n => 1 * u 0 n) (fun n => 1 * v 0 n) n = 1 * pm (u 0) (v 0) n
    simp only [Int.one_mul]
  | cons a l ih =>
    funext n
    have e1 : (fun (m : List Nat) (n : Nat) => wp w (a :: m) * u (a :: m).length n) = (fun m n => w a * (wp w m * (fun j => u (j + 1)) m.length n)) := by
      funext m n
      show w a * wp w m * u (m.length + 1) n = _
      rw [Int.mul_assoc]
    have e2 : (fun (m : List Nat) (n : Nat) => wp w (a :: m) * v (a :: m).length n) = (fun m n => w a * (wp w m * (fun j => v (j + 1)) m.length n)) := by
      funext m n
      show w a * wp w m * v (m.length + 1) n = _
      rw [Int.mul_assoc]
    show cnv (fun m n => wp w (a :: m) * u (a :: m).length n) (fun m n => wp w m * v m.length n) l n + cnv (fun m n => wp w m * u m.length n) (fun m n => wp w (a :: m) * v (a :: m).length n) l n = w a * wp w l * (bin (fun j => u (j + 1)) v l.length n + bin u (fun j => v (j + 1)) l.length n)
    rw [e1, e2, cv_sl, cv_sr, ih (fun j => u (j + 1)) v, ih u (fun j => v (j + 1))]
    dsimp only
    rw [Int.mul_add, Int.mul_assoc, Int.mul_assoc]
/-- a day's factor is the exponential of its pieces, if the sizes are so -/
theorem isE_w (K : Nat) (w : Nat → Int) (c e : Nat → Nat → Int) (h0 : e 0 = one) (h : ∀ k, k < K → e (k + 1) = bin (fun j => c (j + 1)) e k) : isE K (fun m n => wp w m * c m.length n) (fun m n => wp w m * e m.length n) := by
  refine ⟨?_, ?_⟩
  · funext n
    show 1 * e 0 n = one n
    rw [h0, Int.one_mul]
  · intro a l hl
    have e1 : (fun (m : List Nat) (n : Nat) => wp w (a :: m) * c (a :: m).length n) = (fun m n => w a * (wp w m * (fun j => c (j + 1)) m.length n)) := by
      funext m n
      show w a * wp w m * c (m.length + 1) n = _
      rw [Int.mul_assoc]
    show (fun n => w a * wp w l * e (l.length + 1) n) = cnv (fun m n => wp w (a :: m) * c (a :: m).length n) (fun m n => wp w m * e m.length n) l
    have e2 := cv_w w (fun j => c (j + 1)) e l
    funext n
    rw [e1, cv_sl, e2, h _ hl]
    dsimp only
    rw [Int.mul_assoc]
/-- nothing yet -/
theorem isE_0 {K : Nat} {F : List Nat → Nat → Int} (h : ∀ l, F l = if l = [] then one else fun _ => 0) : isE K (fun _ _ => 0) F := by
  have z : ∀ (g : List Nat → Nat → Int) (l : List Nat), cnv (fun _ _ => 0) g l = fun _ => 0 := by
    intro g l
    induction l generalizing g with
    | nil => funext n; exact pm_z _ n
    | cons a l ih =>
      funext n
      show cnv (fun _ _ => 0) g l n + cnv (fun _ _ => 0) (fun m => g (a :: m)) l n = 0
      rw [ih, ih]
      rfl
  refine ⟨by rw [h, if_pos rfl], ?_⟩
  intro a l _
  rw [h, if_neg (by simp), z]
