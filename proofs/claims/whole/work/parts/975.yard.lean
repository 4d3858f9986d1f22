section
/-! ===== the yard: signs wait in a row till what binds less comes ===== -/
def rk (c : Int) : Int := if c = 0 then 0 else if c = 11 then 1 else if c = 12 then 2 else if c = 13 then 3 else if c ≤ 15 then 4 else if c ≤ 17 then 5 else if c = 18 then 6 else 7
/-- all that bind at least so leave the row -/
def un (r : Int) : List Int → List Int → List Int × List Int
  | [], o => ([], o)
  | x :: H, o => if r ≤ rk x then un r H (o ++ [x]) else (x :: H, o)
/-- how many are open -/
def opn : List Int → Int
  | [] => 0
  | x :: H => opn H + b2 (x = 0 ∨ x = 13 ∨ x = 19)
def so (k : Int) : Int := if k = 7 then 11 else if k = 8 then 12 else if k = 60 then 14 else if k = 61 then 15 else if k = 43 then 16 else if k = 45 then 17 else if k = 42 then 18 else -1
/-- the row's end binds less than that -/
def lo (r : Int) : List Int → Prop
  | [] => True
  | x :: _ => rk x < r
/-- a token comes: none: it can't; the next state; or the end -/
def yst (k v : Int) (w mn : Bool) (H o : List Int) : Option ((Bool × Bool × List Int × List Int) ⊕ List Int) :=
  if w = true then
    if k = 2 ∨ k = 3 then some (.inl (false, false, un 7 H (o ++ [if k = 2 then 100000 + v else v])))
    else if k = 9 ∧ mn = true then (if opn H = 5 then none else some (.inl (true, true, 13 :: H, o)))
    else if k = 45 then (if opn H = 5 then none else some (.inl (true, false, 19 :: H, o)))
    else if k = 40 then (if opn H = 5 then none else some (.inl (true, true, 0 :: H, o)))
    else none
  else if k = 59 then (if (un 1 H o).1 = [] then some (.inr (un 1 H o).2) else none)
  else if k = 41 then (if (un 1 H o).1 = [] then none else some (.inl (false, false, un 7 (un 1 H o).1.tail (un 1 H o).2)))
  else if so k = -1 then none
  else if rk (so k) = 4 ∧ (un 5 H o).1 ≠ [] ∧ rk ((un 5 H o).1.headD 0) = 4 then none
  else some (.inl (true, decide (so k ≤ 12), so k :: (un (if rk (so k) = 4 then 5 else rk (so k)) H o).1, (un (if rk (so k) = 4 then 5 else rk (so k)) H o).2))
def yrb (x : Option ((Bool × Bool × List Int × List Int) ⊕ List Int)) (f e : Nat) (k : Bool → Bool → List Int → List Int → Nat ⊕ (Nat × List Int)) : Nat ⊕ (Nat × List Int) := match x with
  | none => .inl f
  | some (.inl s) => k s.1 s.2.1 s.2.2.1 s.2.2.2
  | some (.inr o) => .inr (e, o)
/-- what becomes of it: the fault's place, or the end and all codes -/
def yrn (B : Nat → Int) (Z : Nat) : Nat → Nat → Bool → Bool → List Int → List Int → Nat ⊕ (Nat × List Int)
  | 0, q, _, _, _, _ => .inl (tkS B Z q)
  | n + 1, q, w, mn, H, o => yrb (yst (tkK B Z q) (tkV B Z q) w mn H o) (tkS B Z q) (tkE B Z q) (yrn B Z n (tkE B Z q))
def YR (B : Nat → Int) (Z q : Nat) (w mn : Bool) (H o : List Int) : Nat ⊕ (Nat × List Int) := yrn B Z (Z + 1 - q) q w mn H o
theorem yst_0 {v : Int} {w mn : Bool} {H o : List Int} : yst 0 v w mn H o = none := by
  cases w <;> simp [yst, so]
theorem yrn_m (B : Nat → Int) (Z : Nat) : ∀ n m q w mn H o, q ≤ Z → Z - q < n → Z - q < m → yrn B Z n q w mn H o = yrn B Z m q w mn H o
  | 0, _, _, _, _, _, _, _, h, _ => absurd h (by omega)
  | _ + 1, 0, _, _, _, _, _, _, _, h => absurd h (by omega)
  | n + 1, m + 1, q, w, mn, H, o, hq, h1, h2 => by
    show yrb (yst (tkK B Z q) (tkV B Z q) w mn H o) (tkS B Z q) (tkE B Z q) (yrn B Z n (tkE B Z q)) = yrb (yst (tkK B Z q) (tkV B Z q) w mn H o) (tkS B Z q) (tkE B Z q) (yrn B Z m (tkE B Z q))
    have hb := tk_b B hq
    by_cases k0 : tkK B Z q = 0
    · rw [k0, yst_0]
      rfl
    · have := hb.2.2.2.2 k0
      rcases yst (tkK B Z q) (tkV B Z q) w mn H o with _ | ⟨x | x⟩
      · rfl
      · exact yrn_m B Z n m _ _ _ _ _ (by omega) (by omega) (by omega)
      · rfl
theorem YR_no {B : Nat → Int} {Z q : Nat} {w mn : Bool} {H o : List Int} (hq : q ≤ Z) (h : yst (tkK B Z q) (tkV B Z q) w mn H o = none) : YR B Z q w mn H o = .inl (tkS B Z q) := by
  unfold YR
  rw [show Z + 1 - q = (Z - q) + 1 by omega]
  show yrb (yst (tkK B Z q) (tkV B Z q) w mn H o) (tkS B Z q) (tkE B Z q) (yrn B Z (Z - q) (tkE B Z q)) = _
  rw [h]
  rfl
theorem YR_on {B : Nat → Int} {Z q : Nat} {w mn w' mn' : Bool} {H o H' o' : List Int} (hq : q ≤ Z) (h : yst (tkK B Z q) (tkV B Z q) w mn H o = some (.inl (w', mn', H', o'))) : YR B Z q w mn H o = YR B Z (tkE B Z q) w' mn' H' o' := by
  have hb := tk_b B hq
  have k0 : ¬ tkK B Z q = 0 := by
    intro k0
    rw [k0, yst_0] at h
    cases h
  have := hb.2.2.2.2 k0
  unfold YR
  rw [show Z + 1 - q = (Z - q) + 1 by omega]
  show yrb (yst (tkK B Z q) (tkV B Z q) w mn H o) (tkS B Z q) (tkE B Z q) (yrn B Z (Z - q) (tkE B Z q)) = _
  rw [h]
  exact yrn_m B Z _ _ _ _ _ _ _ (by omega) (by omega) (by omega)
theorem YR_end {B : Nat → Int} {Z q : Nat} {w mn : Bool} {H o o' : List Int} (hq : q ≤ Z) (h : yst (tkK B Z q) (tkV B Z q) w mn H o = some (.inr o')) : YR B Z q w mn H o = .inr (tkE B Z q, o') := by
  unfold YR
  rw [show Z + 1 - q = (Z - q) + 1 by omega]
  show yrb (yst (tkK B Z q) (tkV B Z q) w mn H o) (tkS B Z q) (tkE B Z q) (yrn B Z (Z - q) (tkE B Z q)) = _
  rw [h]
  rfl
theorem un_lo {r : Int} : ∀ {H o : List Int}, lo r H → un r H o = (H, o)
  | [], _, _ => rfl
  | x :: H, o, h => by
    show (if r ≤ rk x then un r H (o ++ [x]) else (x :: H, o)) = _
    have h : rk x < r := h
    rw [if_neg (by omega)]
theorem un_app {r : Int} : ∀ {P H o : List Int}, (∀ x ∈ P, r ≤ rk x) → un r (P ++ H) o = un r H (o ++ P)
  | [], H, o, _ => by rw [List.nil_append, List.append_nil]
  | x :: P, H, o, h => by
    show (if r ≤ rk x then un r (P ++ H) (o ++ [x]) else (x :: (P ++ H), o)) = _
    rw [if_pos (h x List.mem_cons_self), un_app (fun y hy => h y (List.mem_cons_of_mem _ hy)), List.append_assoc]
    rfl
theorem un_len {r : Int} : ∀ {H o : List Int}, (un r H o).1.length + (un r H o).2.length = H.length + o.length
  | [], _ => rfl
  | x :: H, o => by
    show (if r ≤ rk x then un r H (o ++ [x]) else (x :: H, o)).1.length + (if r ≤ rk x then un r H (o ++ [x]) else (x :: H, o)).2.length = _
    split
    · rw [un_len, List.length_append, List.length_cons, List.length_cons, List.length_nil]
      omega
    · rfl
theorem un_clo {r : Int} : ∀ {H o : List Int}, lo r (un r H o).1
  | [], _ => trivial
  | x :: H, o => by
    show lo r (if r ≤ rk x then un r H (o ++ [x]) else (x :: H, o)).1
    split
    · exact un_clo
    · show rk x < r
      omega
theorem lo_m {r r' : Int} {H : List Int} (h : lo r H) (hr : r ≤ r') : lo r' H := by
  cases H with
  | nil => trivial
  | cons x H =>
    have h : rk x < r := h
    show rk x < r'
    omega
theorem opn_0 : ∀ {H : List Int}, 0 ≤ opn H
  | [] => Int.le_refl 0
  | x :: H => by
    have := opn_0 (H := H)
    show 0 ≤ opn H + b2 (x = 0 ∨ x = 13 ∨ x = 19)
    unfold b2
    split <;> omega
theorem opn_o {x : Int} {H : List Int} (h : x = 0 ∨ x = 13 ∨ x = 19) : opn (x :: H) = opn H + 1 := by
  show opn H + b2 (x = 0 ∨ x = 13 ∨ x = 19) = _
  rw [b2_t h]
theorem opn_n {x : Int} {H : List Int} (h : ¬ (x = 0 ∨ x = 13 ∨ x = 19)) : opn (x :: H) = opn H := by
  show opn H + b2 (x = 0 ∨ x = 13 ∨ x = 19) = _
  rw [b2_f h]
  omega
/-- codes that leave one value more -/
def wfa (c : List Int) : Prop := ∀ rest n, wfp rest (n + 1) → wfp (c ++ rest) n
theorem wfa_v {c : Int} (h : isV c) : wfa [c] := fun rest n hw => .inl ⟨h, hw⟩
theorem wfa_u {a : List Int} {c : Int} (ha : wfa a) (h : isU c) : wfa (a ++ [c]) := fun rest n hw => by
  rw [List.append_assoc]
  exact ha _ n (.inr (.inl ⟨h, by omega, hw⟩))
theorem wfa_b {a b : List Int} {c : Int} (ha : wfa a) (hb : wfa b) (h : isB c) : wfa (a ++ b ++ [c]) := fun rest n hw => by
  rw [List.append_assoc, List.append_assoc]
  refine ha _ n (hb _ (n + 1) (.inr (.inr ⟨h, by omega, ?_⟩)))
  exact hw
theorem wfa_w {a : List Int} (ha : wfa a) : wfp a 0 := by
  have := ha [] 0 rfl
  rw [List.append_nil] at this
  exact this
theorem seg_c {g g' : Nat → Int} : ∀ {l : List Int} {i : Nat}, (∀ j, i ≤ j → j < i + l.length → g' j = g j) → seg g i l → seg g' i l
  | [], _, _, _ => trivial
  | c :: l, i, h, hs => ⟨by rw [h i (Nat.le_refl i) (by rw [List.length_cons]; omega)]; exact hs.1, seg_c (fun j h1 h2 => h j (by omega) (by rw [List.length_cons]; omega)) hs.2⟩
theorem seg_a {g : Nat → Int} : ∀ {a b : List Int} {i : Nat}, seg g i (a ++ b) ↔ seg g i a ∧ seg g (i + a.length) b
  | [], b, i => ⟨fun h => ⟨trivial, h⟩, fun h => h.2⟩
  | c :: a, b, i => by
    have e : i + (c :: a).length = i + 1 + a.length := by rw [List.length_cons]; omega
    rw [e]
    constructor
    · intro h
      have := seg_a.1 h.2
      exact ⟨⟨h.1, this.1⟩, this.2⟩
    · intro h
      exact ⟨h.1.1, seg_a.2 ⟨h.1.2, h.2⟩⟩
end
