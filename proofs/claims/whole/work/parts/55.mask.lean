/-! ===== masks and lists ===== -/
def mk : List Nat → Nat
  | [] => 0
  | a :: l => 2 ^ a + mk l
def spl : List Nat → List (List Nat × List Nat)
  | [] => [([], [])]
  | a :: l => (spl l).map (fun q => (a :: q.1, q.2)) ++ (spl l).map (fun q => (q.1, a :: q.2))
/-- a sum over a list -/
def su {α : Type} (f : α → Int) : List α → Int
  | [] => 0
  | a :: l => f a + su f l
theorem su_app {α : Type} (f : α → Int) : ∀ l l' : List α, su f (l ++ l') = su f l + su f l'
  | [], l' => by show su f l' = 0 + su f l'; omega
  | a :: l, l' => by show f a + su f (l ++ l') = f a + su f l + su f l'; rw [su_app f l l']; omega
theorem su_map {α β : Type} (f : β → Int) (g : α → β) : ∀ l : List α, su f (l.map g) = su (fun a => f (g a)) l
  | [] => rfl
  | a :: l => by show f (g a) + su f (l.map g) = f (g a) + su (fun a => f (g a)) l; rw [su_map f g l]
theorem su_c {α : Type} {f f' : α → Int} : ∀ l : List α, (∀ a, a ∈ l → f a = f' a) → su f l = su f' l
  | [], _ => rfl
  | a :: l, h => by
    show f a + su f l = f' a + su f' l
    rw [h a (List.mem_cons_self ..), su_c l (fun b hb => h b (List.mem_cons_of_mem _ hb))]
theorem su_perm {α : Type} (f : α → Int) {l l' : List α} (h : l.Perm l') : su f l = su f l' := by
  induction h with
  | nil => rfl
  | cons x _ ih => show f x + su f _ = f x + su f _; rw [ih]
  | swap x y l => show f y + (f x + su f l) = f x + (f y + su f l); omega
  | trans _ _ ih1 ih2 => exact ih1.trans ih2
theorem cnv_spl (f g : List Nat → Nat → Int) (n : Nat) : ∀ l, cnv f g l n = su (fun q => pm (f q.1) (g q.2) n) (spl l) := by
  intro l
  induction l generalizing f g with
  | nil => show pm (f []) (g []) n = pm (f []) (g []) n + 0; omega
  | cons a l ih =>
    show cnv (fun m => f (a :: m)) g l n + cnv f (fun m => g (a :: m)) l n = su _ (List.map _ (spl l) ++ List.map _ (spl l))
    rw [su_app, su_map, su_map, ih, ih]
/-- the parts of a set -/
def subM (s : Nat) : List Nat := (spl (bl s)).map (fun q => mk q.1)
theorem mk_bl : ∀ s : Fin 128, mk (bl s) = (s : Nat) := by decide +kernel
theorem spl_ok : ∀ s : Fin 128, ∀ q ∈ spl (bl s), bl (mk q.1) = q.1 ∧ bl (mk q.2) = q.2 ∧ mk q.1 + mk q.2 = (s : Nat) ∧ (s : Nat) ^^^ mk q.1 = mk q.2 := by decide +kernel
/-- a sum over the parts of a set as a sum over partings of its list -/
theorem cnv_sub (f g : Nat → Nat → Int) {s : Nat} (hs : s < 128) (n : Nat) : cnv (fun l => f (mk l)) (fun l => g (mk l)) (bl s) n = su (fun a => pm (f a) (g (s ^^^ a)) n) (subM s) := by
  unfold subM
  rw [cnv_spl, su_map]
  refine su_c _ ?_
  intro q hq
  have h := spl_ok ⟨s, hs⟩ q hq
  dsimp only at h ⊢
  rw [h.2.2.2]
