section
/-! ===== day by day: what the reference counts ===== -/
def Dl (φ : Nat → List Nat → Nat → Int) : Nat → List Nat → Nat → Int
  | 0 => fun l => if l = [] then one else fun _ => 0
  | d + 1 => cnv (φ d) (Dl φ d)
/-- pieces of the first days together -/
def sl (g : Nat → List Nat → Nat → Int) : Nat → List Nat → Nat → Int
  | 0 => fun _ _ => 0
  | d + 1 => fun m n => g d m n + sl g d m n
theorem Dl_e {K : Nat} {φ g : Nat → List Nat → Nat → Int} (h : ∀ d, isE K (g d) (φ d)) : ∀ d, isE K (sl g d) (Dl φ d)
  | 0 => isE_0 (fun _ => rfl)
  | d + 1 => isE_m (h d) (Dl_e h d)
theorem sl_w (w : Nat → Nat → Int) (c : Nat → Nat → Int) (m : List Nat) (n : Nat) : ∀ D, sl (fun d m n => wp (w d) m * c m.length n) D m n = sm (fun d => wp (w d) m) D * c m.length n
  | 0 => by show (0 : Int) = 0 * _; rw [Int.zero_mul]
  | D + 1 => by
    show wp (w D) m * c m.length n + sl _ D m n = (sm _ D + wp (w D) m) * _
    rw [sl_w w c m n D, Int.add_mul]
    exact Int.add_comm _ _
theorem cv_gs {f f' g g' : List Nat → Nat → Int} : ∀ l : List Nat, (∀ m : List Nat, m.Sublist l → f m = f' m) → (∀ m : List Nat, m.Sublist l → g m = g' m) → cnv f g l = cnv f' g' l := by
  intro l
  induction l generalizing f f' g g' with
  | nil =>
    intro h1 h2
    rw [cnv, cnv, h1 [] (List.Sublist.refl _), h2 [] (List.Sublist.refl _)]
  | cons a l ih =>
    intro h1 h2
    funext n
    simp only [cnv]
    rw [ih (f := fun m => f (a :: m)) (f' := fun m => f' (a :: m)) (fun m hm => h1 (a :: m) (hm.cons₂ a)) (fun m hm => h2 m (hm.cons a)), ih (g := fun m => g (a :: m)) (g' := fun m => g' (a :: m)) (fun m hm => h1 m (hm.cons a)) (fun m hm => h2 (a :: m) (hm.cons₂ a))]
theorem EL_gs {g g' : List Nat → Nat → Int} : ∀ (k : Nat) (l : List Nat), (∀ (a : Nat) (m : List Nat), (a :: m).Sublist l → g (a :: m) = g' (a :: m)) → EL g k l = EL g' k l
  | 0, _, _ => rfl
  | k + 1, [], _ => rfl
  | k + 1, a :: l, h => by
    show cnv (fun m => g (a :: m)) (EL g k) l = cnv (fun m => g' (a :: m)) (EL g' k) l
    exact cv_gs l (fun m hm => h a m (hm.cons₂ a)) (fun m hm => EL_gs k m (fun b m' hb => h b m' ((hb.trans hm).cons a)))
theorem isE_le {K : Nat} {g F : List Nat → Nat → Int} (h : isE (K + 1) g F) : isE K g F := ⟨h.1, fun a l hl => h.2 a l (by omega)⟩
theorem spl_m {m l : List Nat} (h : m.Sublist l) : ∃ q, (m, q) ∈ spl l := by
  induction h with
  | slnil => exact ⟨[], by simp [spl]⟩
  | cons a _ ih =>
    obtain ⟨q, hq⟩ := ih
    exact ⟨a :: q, List.mem_append_right _ (List.mem_map.2 ⟨_, hq, rfl⟩)⟩
  | cons_cons a _ ih =>
    obtain ⟨q, hq⟩ := ih
    exact ⟨q, List.mem_append_left _ (List.mem_map.2 ⟨_, hq, rfl⟩)⟩
/-- a day's factor -/
def fac (w : Nat → Nat → Int) (e : Nat → Nat → Int) : Nat → List Nat → Nat → Int := fun d m n => wp (w d) m * e m.length n
theorem FS_D {oo : Nat → Int} {c e : Nat → Nat → Int} {w : Nat → Nat → Int} {D s : Nat} (hs : s < 128) (h0 : e 0 = one) (he : ∀ k, k < 7 → e (k + 1) = bin (fun j => c (j + 1)) e k) (hoo : ∀ A, 1 ≤ A → A ≤ s → oo A = sm (fun d => wp (w d) (bl A)) D) : FS oo c s = Dl (fac w e) D (bl s) := by
  have h1 : FS oo c s = EL (sl (fun d m n => wp (w d) m * c m.length n) D) 8 (bl s) := by
    unfold FS
    refine EL_gs 8 (bl s) (fun a m hm => ?_)
    obtain ⟨q, hq⟩ := spl_m hm
    have k := spl_ok ⟨s, hs⟩ _ hq
    dsimp only at k
    have k1 : 1 ≤ mk (a :: m) := by show 1 ≤ 2 ^ a + mk m; have := Nat.two_pow_pos a; omega
    funext n
    rw [sl_w]
    show oo (mk (a :: m)) * c (a :: m).length n = _
    rw [hoo _ k1 (by omega), k.1]
  rw [h1]
  have h2 : isE 7 (sl (fun d m n => wp (w d) m * c m.length n) D) (Dl (fac w e) D) := Dl_e (fun d => isE_w 7 (w d) c e h0 he) D
  exact isE_u (isE_le (EL_e _ 7)) h2 7 (bl s) (Nat.le_refl 7) (bl_len7 ⟨s, hs⟩)
theorem Dl_s {φ : Nat → List Nat → Nat → Int} {d s : Nat} (hs : s < 128) (n : Nat) : Dl φ (d + 1) (bl s) n = su (fun a => pm (φ d (bl a)) (Dl φ d (bl (s ^^^ a))) n) (subM s) := by
  show cnv (φ d) (Dl φ d) (bl s) n = _
  rw [cnv_spl, subM, su_map]
  refine su_c _ (fun q hq => ?_)
  have k := spl_ok ⟨s, hs⟩ q hq
  dsimp only at k ⊢
  rw [k.2.2.2, k.1, k.2.1]
theorem Dl_0 {φ : Nat → List Nat → Nat → Int} {s : Nat} (hs : s < 128) : Dl φ 0 (bl s) = if s = 0 then one else fun _ => 0 := by
  show (if bl s = [] then one else fun _ => 0) = _
  by_cases h : s = 0
  · subst h; rfl
  · rw [if_neg h, if_neg]
    intro h'
    have := bl_mk hs
    rw [h'] at this
    exact h this.symm
-- bounds
theorem su_r {α : Type} {f f' : α → Int} : ∀ l : List α, (∀ a, a ∈ l → 0 ≤ f a ∧ f a ≤ f' a) → 0 ≤ su f l ∧ su f l ≤ su f' l
  | [], _ => ⟨Int.le_refl 0, Int.le_refl 0⟩
  | a :: l, h => by
    have h1 := h a (List.mem_cons_self ..)
    have h2 := su_r l (fun b hb => h b (List.mem_cons_of_mem _ hb))
    show 0 ≤ f a + su f l ∧ f a + su f l ≤ f' a + su f' l
    omega
theorem su_k {α : Type} (k : Int) (f : α → Int) : ∀ l : List α, su (fun a => k * f a) l = k * su f l
  | [] => by show (0 : Int) = k * 0; omega
  | a :: l => by
    show k * f a + su (fun a => k * f a) l = k * (f a + su f l)
    rw [su_k k f l, Int.mul_add]
theorem su_wp (a b : Nat → Int) : ∀ l : List Nat, su (fun q => wp a q.1 * wp b q.2) (spl l) = wp (fun p => a p + b p) l
  | [] => by show (1 : Int) * 1 + 0 = 1; rfl
  | x :: l => by
    show su _ (List.map _ (spl l) ++ List.map _ (spl l)) = (a x + b x) * wp _ l
    rw [su_app, su_map, su_map, ← su_wp a b l, Int.add_mul, ← su_k, ← su_k]
    congr 1
    · refine su_c _ (fun q _ => ?_)
      show a x * wp a q.1 * wp b q.2 = a x * (wp a q.1 * wp b q.2)
      rw [Int.mul_assoc]
    · refine su_c _ (fun q _ => ?_)
      show wp a q.1 * (b x * wp b q.2) = b x * (wp a q.1 * wp b q.2)
      rw [← Int.mul_assoc, Int.mul_comm (wp a q.1), Int.mul_assoc]
theorem wp_nn {f : Nat → Int} : ∀ l : List Nat, (∀ p, p ∈ l → 0 ≤ f p) → 0 ≤ wp f l
  | [], _ => by show (0 : Int) ≤ 1; decide
  | a :: l, h => Int.mul_nonneg (h a (List.mem_cons_self ..)) (wp_nn l (fun p hp => h p (List.mem_cons_of_mem _ hp)))
theorem wp_c {f f' : Nat → Int} : ∀ l : List Nat, (∀ p, p ∈ l → f p = f' p) → wp f l = wp f' l
  | [], _ => rfl
  | a :: l, h => by
    show f a * wp f l = f' a * wp f' l
    rw [h a (List.mem_cons_self ..), wp_c l (fun p hp => h p (List.mem_cons_of_mem _ hp))]
theorem pm_mn (a : Int) (C : Prop) [Decidable C] (h : Nat) (f : Nat → Int) : ∀ n, pm (fun i => a * (if C ∧ i = h then 1 else 0)) f n = if C ∧ h ≤ n then a * f (n - h) else 0 := by
  intro n
  rw [← ps_pm]
  have key : ∀ m, ps (fun i => a * (if C ∧ i = h then 1 else 0)) f m n = if C ∧ h ≤ n ∧ h < m then a * f (n - h) else 0 := by
    intro m
    induction m with
    | zero => rw [if_neg (by omega)]; rfl
    | succ m ih =>
      show ps _ f m n + (if m ≤ n then a * (if C ∧ m = h then 1 else 0) * f (n - m) else 0) = _
      rw [ih]
      by_cases hC : C
      · by_cases g : m = h
        · subst g
          rw [if_neg (by omega)]
          by_cases g2 : m ≤ n
          · rw [if_pos g2, if_pos ⟨hC, rfl⟩, if_pos ⟨hC, g2, by omega⟩, Int.mul_one, Int.zero_add]
          · rw [if_neg g2, if_neg (by omega)]; rfl
        · rw [if_neg (fun q : C ∧ m = h => g q.2), Int.mul_zero, Int.zero_mul, ite_self, Int.add_zero]
          by_cases g2 : h ≤ n ∧ h < m
          · rw [if_pos ⟨hC, g2⟩, if_pos ⟨hC, g2.1, by omega⟩]
          · rw [if_neg (fun q => g2 q.2), if_neg (fun q => g2 ⟨q.2.1, by omega⟩)]
      · rw [if_neg (fun q : C ∧ m = h => hC q.1), Int.mul_zero, Int.zero_mul, ite_self, Int.add_zero, if_neg (fun q => hC q.1), if_neg (fun q => hC q.1)]
  rw [key]
  by_cases hC : C ∧ h ≤ n
  · rw [if_pos hC, if_pos ⟨hC.1, hC.2, by omega⟩]
  · rw [if_neg hC, if_neg (fun q => hC ⟨q.1, q.2.1⟩)]
/-- sizes: as long as q holds of it, one at the place h tells -/
def ez (q : Nat → Bool) (h : Nat → Nat) : Nat → Nat → Int := fun k n => if q k = true ∧ n = h k then 1 else 0
theorem spl_in : ∀ (l : List Nat) (z : List Nat × List Nat), z ∈ spl l → (∀ p, p ∈ z.1 → p ∈ l) ∧ (∀ p, p ∈ z.2 → p ∈ l)
  | [], z, h => by
    simp only [spl, List.mem_singleton] at h
    subst h
    exact ⟨fun p hp => hp, fun p hp => hp⟩
  | a :: l, z, h => by
    simp only [spl, List.mem_append, List.mem_map] at h
    rcases h with ⟨y, hy, rfl⟩ | ⟨y, hy, rfl⟩
    · have := spl_in l y hy
      refine ⟨fun p hp => ?_, fun p hp => List.mem_cons_of_mem _ (this.2 p hp)⟩
      rcases List.mem_cons.1 hp with rfl | h
      · exact List.mem_cons_self ..
      · exact List.mem_cons_of_mem _ (this.1 p h)
    · have := spl_in l y hy
      refine ⟨fun p hp => List.mem_cons_of_mem _ (this.1 p hp), fun p hp => ?_⟩
      rcases List.mem_cons.1 hp with rfl | h
      · exact List.mem_cons_self ..
      · exact List.mem_cons_of_mem _ (this.2 p h)
theorem Dl_r {w : Nat → Nat → Int} {q : Nat → Bool} {h : Nat → Nat} : ∀ (D : Nat) (l : List Nat) (n : Nat), (∀ d p, d < D → p ∈ l → 0 ≤ w d p) → 0 ≤ Dl (fac w (ez q h)) D l n ∧ Dl (fac w (ez q h)) D l n ≤ wp (fun p => sm (fun d => w d p) D) l
  | 0, l, n, hw => by
    show 0 ≤ (if l = [] then one else fun _ => 0) n ∧ (if l = [] then one else fun _ => 0) n ≤ wp (fun _ => 0) l
    cases l with
    | nil =>
      rw [if_pos rfl]
      show 0 ≤ one n ∧ one n ≤ 1
      cases n with
      | zero => exact ⟨by decide, by decide⟩
      | succ n => exact ⟨by show (0 : Int) ≤ 0; decide, by show (0 : Int) ≤ 1; decide⟩
    | cons a l =>
      rw [if_neg (by simp)]
      show (0 : Int) ≤ 0 ∧ 0 ≤ 0 * wp _ l
      rw [Int.zero_mul]
      exact ⟨by decide, by decide⟩
  | D + 1, l, n, hw => by
    show 0 ≤ cnv (fac w (ez q h) D) (Dl (fac w (ez q h)) D) l n ∧ cnv (fac w (ez q h) D) (Dl (fac w (ez q h)) D) l n ≤ _
    have e1 : wp (fun p => sm (fun d => w d p) (D + 1)) l = su (fun z => wp (w D) z.1 * wp (fun p => sm (fun d => w d p) D) z.2) (spl l) := by
      rw [su_wp]
      refine wp_c l (fun p _ => ?_)
      show sm _ D + w D p = w D p + sm _ D
      omega
    rw [e1, cnv_spl]
    refine su_r _ (fun z hz => ?_)
    have hz1 : ∀ p, p ∈ z.1 → p ∈ l := spl_in l z hz |>.1
    have hz2 : ∀ p, p ∈ z.2 → p ∈ l := spl_in l z hz |>.2
    have a1 := wp_nn z.1 (f := w D) (fun p hp => hw D p (by omega) (hz1 p hp))
    have a2 := Dl_r (q := q) (h := h) D z.2 (n - h z.1.length) (fun d p hd hp => hw d p (by omega) (hz2 p hp))
    show 0 ≤ pm (fun i => wp (w D) z.1 * (if q z.1.length = true ∧ i = h z.1.length then 1 else 0)) _ n ∧ pm (fun i => wp (w D) z.1 * (if q z.1.length = true ∧ i = h z.1.length then 1 else 0)) _ n ≤ _
    rw [pm_mn]
    have a3 := Int.mul_nonneg a1 a2.1
    have a4 := Int.mul_le_mul_of_nonneg_left a2.2 a1
    split
    · exact ⟨a3, a4⟩
    · exact ⟨Int.le_refl 0, Int.le_trans a3 a4⟩
theorem wp_le {f : Nat → Int} {b : Nat} : ∀ l : List Nat, (∀ p, p ∈ l → 0 ≤ f p ∧ f p ≤ b) → wp f l ≤ ((b ^ l.length : Nat) : Int)
  | [], _ => Int.le_refl 1
  | a :: l, h => by
    have h1 := h a (List.mem_cons_self ..)
    have h2 := wp_le l (fun p hp => h p (List.mem_cons_of_mem _ hp))
    have h3 := wp_nn l (f := f) (fun p hp => (h p (List.mem_cons_of_mem _ hp)).1)
    show f a * wp f l ≤ ((b ^ (l.length + 1) : Nat) : Int)
    rw [Nat.pow_succ, Nat.mul_comm, Int.natCast_mul]
    exact Int.mul_le_mul h1.2 h2 h3 (Int.natCast_nonneg _)
end
