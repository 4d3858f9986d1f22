/-! ===== specs ===== -/
theorem iter_eq {α : Sort _} (f : Nat → α) : ∀ n : Nat, (∀ i, i < n → f i = f (i + 1)) → f 0 = f n
  | 0, _ => rfl
  | n + 1, h => (iter_eq f n (fun i hi => h i (Nat.lt_succ_of_lt hi))).trans (h n (Nat.lt_succ_self n))
theorem loop_ex {α β : Type} (g : α → β) (I : Nat → α → Prop) : ∀ n : Nat, (∀ i a, i < n → I i a → ∃ a', I (i + 1) a' ∧ g a = g a') → ∀ a, I 0 a → ∃ a', I n a' ∧ g a = g a'
  | 0, _, a, h => ⟨a, h, rfl⟩
  | n + 1, hs, a, h => by
    obtain ⟨b, hb, e⟩ := loop_ex g I n (fun i a hi => hs i a (Nat.lt_succ_of_lt hi)) a h
    obtain ⟨c, hc, e'⟩ := hs n b (Nat.lt_succ_self n) hb
    exact ⟨c, hc, e.trans e'⟩
theorem loop_exit {α β : Type} (g : α → β) (I : Nat → α → Prop) (Q : β → Prop) : ∀ n : Nat, (∀ i a, i < n → I i a → Q (g a) ∨ ∃ a', I (i + 1) a' ∧ g a = g a') → ∀ a, I 0 a → Q (g a) ∨ ∃ a', I n a' ∧ g a = g a'
  | 0, _, a, h => .inr ⟨a, h, rfl⟩
  | n + 1, hs, a, h => by
    rcases loop_exit g I Q n (fun i a hi => hs i a (Nat.lt_succ_of_lt hi)) a h with q | ⟨b, hb, e⟩
    · exact .inl q
    · rcases hs n b (Nat.lt_succ_self n) hb with q | ⟨c, hc, e'⟩
      · exact .inl (by rw [e]; exact q)
      · exact .inr ⟨c, hc, e.trans e'⟩
theorem up_upf {α : Type} {M : Nat → Nat → α} {o i : Nat} {f : Nat → α} {v : α} : up (upf M o f) o i v = upf M o (upf f i v) := by
  funext a
  simp only [up, upf]
  split <;> simp
theorem upf_eta {α : Type} {f : Nat → α} {i : Nat} : upf f i (f i) = f := by
  funext j
  by_cases h : j = i <;> simp [upf, h]
/-! the value of a text's part: codes of the reference; what the class has for each of them -/
def xop (c : Int) : Int := if c = 19 then 10010 else if c = 13 then 10011 else if c = 11 then 10012 else if c = 12 then 10013 else if 100000 ≤ c then c - 100000 else c + 10000
def op2 (c a b : Int) : Int := if c = 11 then b2 (¬ a = 0 ∨ ¬ b = 0) else if c = 12 then b2 (¬ a = 0 ∧ ¬ b = 0) else if c = 14 then b2 (a < b) else if c = 15 then b2 (a = b) else if c = 16 then w32 (a + b) else if c = 17 then w32 (a - b) else w32 (a * b)
def isV (c : Int) : Prop := (100000 ≤ c ∧ c < 110000) ∨ (0 ≤ c ∧ c < 6)
def isB (c : Int) : Prop := c = 11 ∨ c = 12 ∨ (14 ≤ c ∧ c ≤ 18)
def isU (c : Int) : Prop := c = 13 ∨ c = 19
/-- codes that leave just one value, begun with n of them -/
def wfp : List Int → Nat → Prop
  | [], n => n = 1
  | c :: cs, n => (isV c ∧ wfp cs (n + 1)) ∨ (isU c ∧ 1 ≤ n ∧ wfp cs n) ∨ (isB c ∧ 2 ≤ n ∧ wfp cs (n - 1))
def evs (nm : Nat → Int) (c : Int) (s : List Int) : List Int :=
  if 100000 ≤ c then (c - 100000) :: s else if c < 11 then nm c.toNat :: s else
  match s with
  | [] => []
  | a :: r => if c = 13 then b2 (a = 0) :: r else if c = 19 then w32 (-a) :: r else
    match r with
    | [] => []
    | b :: q => op2 c b a :: q
def ev (nm : Nat → Int) : List Int → List Int → List Int
  | [], s => s
  | c :: cs, s => ev nm cs (evs nm c s)
def evh (nm : Nat → Int) (cs : List Int) : Int := (ev nm cs []).headD 0
def stk (f : Nat → Int) : Nat → List Int
  | 0 => []
  | n + 1 => f n :: stk f n
theorem stk_up {f : Nat → Int} {v : Int} {i : Nat} : ∀ n, n ≤ i → stk (upf f i v) n = stk f n
  | 0, _ => rfl
  | n + 1, h => by
    show upf f i v n :: stk (upf f i v) n = f n :: stk f n
    rw [stk_up n (by omega), upf_n (by omega)]
def seg (g : Nat → Int) : Nat → List Int → Prop
  | _, [] => True
  | i, c :: cs => g i = c ∧ seg g (i + 1) cs
theorem s_185 {d : Nat} (hd : 1 ≤ d) {M : MM} {R : RR} (x0 : Int) (x1 : Int) (x2 : Int) (h1 : isB x0) : call d 185 [vI x0, vI x1, vI x2] M R = some (vI (op2 x0 x1 x2), M, R) := by
  obtain ⟨e, rfl⟩ := s_le hd
  refine call_of 3 [vI x0, vI x1, vI x2] (by decide) rfl (Nat.le_of_ble_eq_true rfl) rfl ?_ (rfl)
  unfold isB at h1
  simp only [b_185_0, b_185_1]
  rcases h1 with h | h | h
  · subst h
    rw [if_pos rfl, b_185_44, b_185_48, b_185_52, b_185_56]
    simp only [b_185_57, op2, if_pos, if_true]
    repeat' split
    all_goals first | rfl | (exfalso; omega) | (simp (disch := omega) only [b2_t, b2_f]; done)
  · subst h
    rw [if_neg (by decide), if_pos rfl, b_185_58, b_185_62, b_185_66, b_185_70]
    simp only [b_185_71, op2]
    by_cases g1 : x1 = 0 <;> by_cases g2 : x2 = 0 <;> simp [g1, g2, b2]
  · have h2 : x0 = 14 ∨ x0 = 15 ∨ x0 = 16 ∨ x0 = 17 ∨ x0 = 18 := by omega
    rcases h2 with rfl | rfl | rfl | rfl | rfl <;> simp (disch := decide) only [if_pos, if_neg, b_185_72, b_185_77, b_185_81, b_185_82, b_185_83, b_185_88, b_185_92, b_185_93, b_185_94, b_185_98, b_185_102, op2]
    all_goals first | rfl | skip
    all_goals repeat' split
    all_goals first | rfl | (exfalso; omega) | (simp (disch := omega) only [b2_t, b2_f]; done)
theorem s_59 {d : Nat} (hd : 1 ≤ d) {M : MM} {R : RR} (c : Int) (x1 : Int) (x2 : Int) (h1 : isB c) : call d 59 [vI (xop c), vI x1, vI x2] M R = some (vI (op2 c x1 x2), M, R) := by
  obtain ⟨e, rfl⟩ := s_le hd
  refine call_of 3 [vI (xop c), vI x1, vI x2] (by decide) rfl (Nat.le_of_ble_eq_true rfl) rfl ?_ (rfl)
  unfold isB at h1
  simp only [b_59_0, b_59_1]
  have h2 : c = 11 ∨ c = 12 ∨ c = 14 ∨ c = 15 ∨ c = 16 ∨ c = 17 ∨ c = 18 := by omega
  rcases h2 with rfl | rfl | rfl | rfl | rfl | rfl | rfl <;> simp (disch := decide) only [xop, Int.reduceAdd, if_pos, if_neg, b_59_40, b_59_44, b_59_48, b_59_52, b_59_53, b_59_54, b_59_58, b_59_62, b_59_66, b_59_67, b_59_68, b_59_73, b_59_77, b_59_78, b_59_79, b_59_84, b_59_88, b_59_89, b_59_90, b_59_94, b_59_98, op2]
  all_goals first | rfl | skip
  all_goals repeat' split
  all_goals first | rfl | (exfalso; omega) | (simp (disch := omega) only [b2_t, b2_f]; done)
theorem stk_len {f : Nat → Int} : ∀ n, (stk f n).length = n
  | 0 => rfl
  | n + 1 => congrArg (· + 1) (stk_len n)
theorem stk_1 {f : Nat → Int} {n : Nat} (h : 1 ≤ n) : stk f n = f (n - 1) :: stk f (n - 1) := by
  obtain ⟨m, rfl⟩ := s_le h
  rfl
theorem evs_v {nm : Nat → Int} {c : Int} {s : List Int} (h : isV c) : evs nm c s = (if c < 11 then nm c.toNat else c - 100000) :: s := by
  unfold isV at h
  unfold evs
  by_cases g : 100000 ≤ c
  · rw [if_pos g, if_neg (by omega)]
  · rw [if_neg g, if_pos (by omega), if_pos (by omega)]
theorem evs_u {nm : Nat → Int} {c : Int} {f : Nat → Int} {n : Nat} (h : isU c) (hn : 1 ≤ n) : evs nm c (stk f n) = stk (upf f (n - 1) (if c = 13 then b2 (f (n - 1) = 0) else w32 (-(f (n - 1))))) n := by
  unfold isU at h
  rw [stk_1 hn, stk_1 (f := upf f _ _) hn, stk_up _ (Nat.le_refl _), upf_s]
  unfold evs
  rw [if_neg (by omega), if_neg (by omega)]
  simp only
  by_cases g : c = 13
  · rw [if_pos g, if_pos g]
  · rw [if_neg g, if_neg g, if_pos (by omega)]
theorem evs_b {nm : Nat → Int} {c : Int} {f : Nat → Int} {n : Nat} (h : isB c) (hn : 2 ≤ n) : evs nm c (stk f n) = stk (upf f (n - 2) (op2 c (f (n - 2)) (f (n - 1)))) (n - 1) := by
  unfold isB at h
  have e1 : n - 1 - 1 = n - 2 := by omega
  rw [stk_1 (n := n) (by omega), stk_1 (n := n - 1) (by omega), stk_1 (f := upf f _ _) (n := n - 1) (by omega), e1, stk_up _ (Nat.le_refl _), upf_s]
  unfold evs
  rw [if_neg (by omega), if_neg (by omega)]
  simp only
  rw [if_neg (by omega), if_neg (by omega)]
theorem l_186 {e : Nat} (hd : 1 ≤ e) {M : MM} {R : RR} (hL : Lay R) {t p z : Nat} (ht : M 57 11 = (t : Int)) (ht6 : t < 6) (hp : p < 3) (hz : M 64 (4 * t + p + 1) = (z : Int)) (hz2 : z ≤ 160) : ∀ (cs : List Int) (i n : Nat) (f : Nat → Int) (u : AV), seg (fun k => M 63 (200 * t + k)) i cs → i + cs.length = z → n ≤ i → wfp cs n → ∃ f', run (call e) 186 16 [vA 57, vI p, vI n, vI i, u] [] (upf M 72 f) R = some (vI ((ev (M 73) cs (stk f n)).headD 0), upf M 72 f', R)
  | [], i, n, f, u, _, hi, _, hw => by
    have hn : n = 1 := hw
    have hi : i = z := hi
    subst hn hi
    refine ⟨f, ?_⟩
    have e1 : (w32 (w32 (w32 (4 * (t : Int)) + (p : Int)) + 1)) = ((4 * t + p + 1 : Nat) : Int) := by
      simp (disch := omega) only [w32_i]; omega
    rw [b_186_16 hL]
    simp only [upf_n (i := 72) (show ¬ 57 = 72 by decide), upf_n (i := 72) (show ¬ 64 = 72 by decide), ht, e1, Int.toNat_natCast, hz]
    rw [if_pos (by omega), if_pos (by omega), b_186_197 hL, if_pos (by decide), upf_s]
    rfl
  | c :: cs, i, n, f, u, hs, hi, hni, hw => by
    have hi : i + (cs.length + 1) = z := hi
    have e1 : (w32 (w32 (w32 (4 * (t : Int)) + (p : Int)) + 1)) = ((4 * t + p + 1 : Nat) : Int) := by
      simp (disch := omega) only [w32_i]; omega
    have e2 : (w32 (w32 (200 * (t : Int)) + (i : Int))) = ((200 * t + i : Nat) : Int) := by
      simp (disch := omega) only [w32_i]; omega
    have hc : M 63 (200 * t + i) = c := hs.1
    rw [b_186_16 hL]
    simp only [upf_n (i := 72) (show ¬ 57 = 72 by decide), upf_n (i := 72) (show ¬ 64 = 72 by decide), ht, e1, Int.toNat_natCast, hz]
    rw [if_pos (by omega), if_neg (by omega), b_186_35 hL]
    simp only [upf_n (i := 72) (show ¬ 57 = 72 by decide), upf_n (i := 72) (show ¬ 63 = 72 by decide), ht, e2, Int.toNat_natCast, hc]
    rw [if_pos (by omega)]
    have go := fun n' f' u' (h1 : n' ≤ i + 1) (h2 : wfp cs n') => l_186 hd hL ht ht6 hp hz hz2 cs (i + 1) n' f' u' hs.2 (by omega) h1 h2
    have e3 : w32 ((i : Int) + 1) = ((i + 1 : Nat) : Int) := by rw [w32_i (by omega)]; omega
    rcases hw with ⟨hv, hw⟩ | ⟨hv, hn1, hw⟩ | ⟨hv, hn2, hw⟩
    · obtain ⟨f', q⟩ := go (n + 1) (upf f n (if c < 11 then M 73 c.toNat else c - 100000)) (vI c) (by omega) hw
      refine ⟨f', ?_⟩
      have es : stk (upf f n (if c < 11 then M 73 c.toNat else c - 100000)) (n + 1) = evs (M 73) c (stk f n) := by
        rw [evs_v hv]
        show upf f n _ n :: stk (upf f n _) n = _
        rw [upf_s, stk_up n (Nat.le_refl n)]
      rw [es] at q
      have e4 : w32 ((n : Int) + 1) = ((n + 1 : Nat) : Int) := by rw [w32_i (by omega)]; omega
      show _ = some (vI ((ev (M 73) cs (evs (M 73) c (stk f n))).headD 0), upf M 72 f', R)
      rw [← q]
      unfold isV at hv
      by_cases g : c < 11
      · rw [if_neg (by omega), b_186_59, if_neg (by omega), b_186_66 hL, if_neg (by omega), b_186_78 hL, if_pos (by omega), b_186_93 hL, if_pos (by omega), b_186_191, e3, e4, Int.toNat_natCast, up_upf, upf_n (show ¬ 73 = 72 by decide), if_pos g]
      · rw [if_pos (by omega), b_186_66 hL, if_pos (by omega), b_186_88, b_186_93 hL, if_pos (by omega), b_186_191, e3, e4, Int.toNat_natCast, up_upf, if_neg g, w32_i (by omega)]
    · obtain ⟨f', q⟩ := go n (upf f (n - 1) (if c = 13 then b2 (f (n - 1) = 0) else w32 (-(f (n - 1))))) (vI c) (by omega) hw
      refine ⟨f', ?_⟩
      rw [← evs_u hv hn1] at q
      show _ = some (vI ((ev (M 73) cs (evs (M 73) c (stk f n))).headD 0), upf M 72 f', R)
      rw [← q]
      have e4 : w32 ((n : Int) - 1) = ((n - 1 : Nat) : Int) := by rw [w32_i (by omega)]; omega
      unfold isU at hv
      by_cases g : c = 13
      · subst g
        rw [if_neg (by omega), b_186_59, if_pos (by omega), b_186_100, if_neg (by decide), b_186_107 hL, e4, if_pos (by omega), upf_s, Int.toNat_natCast]
        by_cases h0 : f (n - 1) = 0
        · rw [if_neg (by omega), b_186_125, b_186_130 hL, if_pos (by omega), b_186_191, e3, Int.toNat_natCast, up_upf, if_pos rfl, b2_t h0]
        · rw [if_pos h0, b_186_129, b_186_130 hL, if_pos (by omega), b_186_191, e3, Int.toNat_natCast, up_upf, if_pos rfl, b2_f h0]
      · have g' : c = 19 := by omega
        subst g'
        rw [if_neg (by omega), b_186_59, if_pos (by omega), b_186_100, if_pos (by decide), b_186_134, if_neg (by decide), b_186_141 hL, e4, if_pos (by omega), if_pos (by omega), b_186_191, e3, upf_s, Int.toNat_natCast, up_upf, if_neg (by decide)]
    · obtain ⟨f', q⟩ := go (n - 1) (upf f (n - 2) (op2 c (f (n - 2)) (f (n - 1)))) (vI c) (by omega) hw
      refine ⟨f', ?_⟩
      rw [← evs_b hv hn2] at q
      show _ = some (vI ((ev (M 73) cs (evs (M 73) c (stk f n))).headD 0), upf M 72 f', R)
      rw [← q]
      have e4 : w32 ((n : Int) + (-1)) = ((n - 1 : Nat) : Int) := by rw [w32_i (by omega)]; omega
      have e5 : w32 (((n - 1 : Nat) : Int) - 1) = ((n - 2 : Nat) : Int) := by rw [w32_i (by omega)]; omega
      have hb := hv
      unfold isB at hv
      rw [if_neg (by omega), b_186_59, if_pos (by omega), b_186_100, if_pos (by omega), b_186_134, if_pos (by omega), b_186_161 hL, e4, e5, if_pos (by omega), if_pos (by omega), upf_s, Int.toNat_natCast, Int.toNat_natCast, s_185 hd _ _ _ hb, Option.bind_some, pushv_I, b_186_190 hL, if_pos (by omega), b_186_191, e3, Int.toNat_natCast, up_upf]
theorem s_186 {d : Nat} (hd : 2 ≤ d) {M : MM} {R : RR} (hL : Lay R) {t p a z : Nat} {cs : List Int} (ht : M 57 11 = (t : Int)) (ht6 : t < 6) (hp : p < 3) (ha : M 64 (4 * t + p) = (a : Int)) (hz : M 64 (4 * t + p + 1) = (z : Int)) (hz2 : z ≤ 160) (hs : seg (fun k => M 63 (200 * t + k)) a cs) (hc : a + cs.length = z) (hw : wfp cs 0) : ∃ f', call d 186 [vA 57, vI p] M R = some (vI (evh (M 73) cs), upf M 72 f', R) := by
  obtain ⟨e, rfl⟩ := s_le hd
  obtain ⟨f', q⟩ := l_186 (e := e + 1) (by omega) hL ht ht6 hp hz hz2 cs a 0 (M 72) (vX 0) hs hc (by omega) hw
  rw [upf_eta] at q
  refine ⟨f', ?_⟩
  refine call_of 5 [vA 57, vI p, vX 0, vX 0, vX 0] (by decide) rfl (Nat.le_of_ble_eq_true rfl) rfl ?_ rfl
  have e1 : w32 (w32 (4 * (t : Int)) + (p : Int)) = ((4 * t + p : Nat) : Int) := by
    simp (disch := omega) only [w32_i]; omega
  rw [b_186_0 hL, ht, e1, if_pos (by omega), Int.toNat_natCast, ha]
  exact q
theorem l_58 {e : Nat} (hd : 1 ≤ e) {M : MM} {R : RR} (hL : Lay R) {T co en L p z : Nat} {g : Nat → Int} (hk : kindOf T = 7) (h0 : R T 0 = co) (h1 : R T 1 = en) (hkc : kindOf co = 13) (hke : kindOf en = 13) (hlc : R 0 (co + 2) = L) (hle : R 0 (en + 2) = 4) (hco : ¬ co = 16) (hen : ¬ en = 16) (hp : p < 3) (hz : M en (p + 1) = (z : Int)) (hzL : z ≤ L) (hz2 : z ≤ 160) (hg : ∀ k, k < z → M co k = xop (g k)) : ∀ (cs : List Int) (i n : Nat) (f : Nat → Int) (u : AV), seg g i cs → i + cs.length = z → n ≤ i → wfp cs n → ∃ f', run (call e) 58 11 [vA T, vI p, vA 15, vA 16, vI n, vI i, u] [] (upf M 16 f) R = some (vI ((ev (M 15) cs (stk f n)).headD 0), upf M 16 f', R)
  | [], i, n, f, u, _, hi, _, hw => by
    have hn : n = 1 := hw
    have hi : i = z := hi
    subst hn hi
    refine ⟨f, ?_⟩
    have e1 : w32 ((p : Int) + 1) = ((p + 1 : Nat) : Int) := by rw [w32_i (by omega)]; omega
    rw [b_58_11 _ _ _ _ _ _ _ hk (by rw [h1]; exact hke), h1, hle, e1, if_pos (by omega), upf_n hen, Int.toNat_natCast, hz, if_pos (by omega), b_58_183, if_neg (by omega), b_58_188 _ _ _ _ _ _ _ rfl, lay_at hL 93 rfl, if_pos (by omega), b_58_195, upf_s]
    rfl
  | c :: cs, i, n, f, u, hs, hi, hni, hw => by
    have hi : i + (cs.length + 1) = z := hi
    have e1 : w32 ((p : Int) + 1) = ((p + 1 : Nat) : Int) := by rw [w32_i (by omega)]; omega
    have hc : g i = c := hs.1
    have hx := hg i (by omega)
    rw [hc] at hx
    have e6 : w32 (10000 + ((6 : Nat) : Int)) = 10006 := by rw [w32_i (by omega)]; rfl
    rw [b_58_11 _ _ _ _ _ _ _ hk (by rw [h1]; exact hke), h1, hle, e1, if_pos (by omega), upf_n hen, Int.toNat_natCast, hz, if_neg (by omega), b_58_24 _ _ _ _ _ _ _ hk (by rw [h0]; exact hkc) rfl, h0, hlc, if_pos (by omega), lay_at hL 92 rfl, e6, upf_n hco, Int.toNat_natCast, hx]
    have go := fun n' f' u' (h1' : n' ≤ i + 1) (h2 : wfp cs n') => l_58 hd hL hk h0 h1 hkc hke hlc hle hco hen hp hz hzL hz2 hg cs (i + 1) n' f' u' hs.2 (by omega) h1' h2
    have e3 : w32 ((i : Int) + 1) = ((i + 1 : Nat) : Int) := by rw [w32_i (by omega)]; omega
    rcases hw with ⟨hv, hw⟩ | ⟨hv, hn1, hw⟩ | ⟨hv, hn2, hw⟩
    · obtain ⟨f', q⟩ := go (n + 1) (upf f n (if c < 11 then M 15 c.toNat else c - 100000)) (vI (xop c)) (by omega) hw
      refine ⟨f', ?_⟩
      have es : stk (upf f n (if c < 11 then M 15 c.toNat else c - 100000)) (n + 1) = evs (M 15) c (stk f n) := by
        rw [evs_v hv]
        show upf f n _ n :: stk (upf f n _) n = _
        rw [upf_s, stk_up n (Nat.le_refl n)]
      rw [es] at q
      have e4 : w32 ((n : Int) + 1) = ((n + 1 : Nat) : Int) := by rw [w32_i (by omega)]; omega
      show _ = some (vI ((ev (M 15) cs (evs (M 15) c (stk f n))).headD 0), upf M 16 f', R)
      rw [← q]
      unfold isV at hv
      by_cases gg : c < 11
      · have ex : xop c = c + 10000 := by unfold xop; simp (disch := omega) only [if_neg]
        have e7 : w32 (xop c - 10000) = c := by rw [w32_i (by omega)]; omega
        rw [if_neg (by omega), b_58_44 _ _ _ _ _ _ _ rfl, lay_at hL 93 rfl, if_neg (by omega), b_58_51, if_pos (by omega), b_58_67 _ _ _ _ _ _ _ _ _ rfl, lay_at hL 92 rfl, e7, if_pos (by omega), b_58_75 _ _ _ _ _ _ _ _ _ _ rfl, lay_at hL 93 rfl, if_pos (by omega), b_58_177, e3, e4, Int.toNat_natCast, up_upf, upf_n (show ¬ 15 = 16 by decide), if_pos gg]
      · have ex : xop c = c - 100000 := by unfold xop; simp (disch := omega) only [if_neg, if_pos]
        rw [if_neg (by omega), b_58_44 _ _ _ _ _ _ _ rfl, lay_at hL 93 rfl, if_neg (by omega), b_58_51, if_neg (by omega), b_58_62, b_58_75 _ _ _ _ _ _ _ _ _ _ rfl, lay_at hL 93 rfl, if_pos (by omega), b_58_177, e3, e4, Int.toNat_natCast, up_upf, if_neg gg, ex]
    · obtain ⟨f', q⟩ := go n (upf f (n - 1) (if c = 13 then b2 (f (n - 1) = 0) else w32 (-(f (n - 1))))) (vI (xop c)) (by omega) hw
      refine ⟨f', ?_⟩
      rw [← evs_u hv hn1] at q
      show _ = some (vI ((ev (M 15) cs (evs (M 15) c (stk f n))).headD 0), upf M 16 f', R)
      rw [← q]
      have e4 : w32 ((n : Int) - 1) = ((n - 1 : Nat) : Int) := by rw [w32_i (by omega)]; omega
      unfold isU at hv
      by_cases gg : c = 13
      · subst gg
        have ex : xop 13 = 10011 := by decide
        rw [ex, if_pos (by omega), b_58_82, if_pos (by decide), b_58_111, if_neg (by decide), b_58_119, if_neg (by omega), b_58_124 _ _ _ _ _ _ _ rfl, lay_at hL 93 rfl, e4, if_pos (by omega), upf_s, Int.toNat_natCast]
        by_cases hz0 : f (n - 1) = 0
        · rw [if_neg (by omega), b_58_138, b_58_143 _ _ _ _ _ _ _ _ _ _ rfl, lay_at hL 93 rfl, if_pos (by omega), b_58_177, e3, Int.toNat_natCast, up_upf, if_pos rfl, b2_t hz0]
        · rw [if_pos hz0, b_58_142, b_58_143 _ _ _ _ _ _ _ _ _ _ rfl, lay_at hL 93 rfl, if_pos (by omega), b_58_177, e3, Int.toNat_natCast, up_upf, if_pos rfl, b2_f hz0]
      · have g' : c = 19 := by omega
        subst g'
        have ex : xop 19 = 10010 := by decide
        rw [ex, if_pos (by omega), b_58_82, if_neg (by decide), b_58_90, if_neg (by omega), b_58_95 _ _ _ _ _ _ _ rfl, lay_at hL 93 rfl, e4, if_pos (by omega), if_pos (by omega), b_58_177, e3, upf_s, Int.toNat_natCast, up_upf, if_neg (by decide)]
    · obtain ⟨f', q⟩ := go (n - 1) (upf f (n - 2) (op2 c (f (n - 2)) (f (n - 1)))) (vI (xop c)) (by omega) hw
      refine ⟨f', ?_⟩
      rw [← evs_b hv hn2] at q
      show _ = some (vI ((ev (M 15) cs (evs (M 15) c (stk f n))).headD 0), upf M 16 f', R)
      rw [← q]
      have e4 : w32 ((n : Int) + (-1)) = ((n - 1 : Nat) : Int) := by rw [w32_i (by omega)]; omega
      have e5 : w32 (((n - 1 : Nat) : Int) - 1) = ((n - 2 : Nat) : Int) := by rw [w32_i (by omega)]; omega
      have hb := hv
      unfold isB at hv
      have ex : 10012 ≤ xop c := by
        have h2 : c = 11 ∨ c = 12 ∨ c = 14 ∨ c = 15 ∨ c = 16 ∨ c = 17 ∨ c = 18 := by omega
        rcases h2 with rfl | rfl | rfl | rfl | rfl | rfl | rfl <;> decide
      rw [if_pos (by omega), b_58_82, if_pos (by omega), b_58_111, if_pos (by omega), b_58_147, if_neg (by omega), b_58_153 _ _ _ _ _ _ _ rfl, lay_at hL 93 rfl, e4, e5, if_pos (by omega), if_pos (by omega), upf_s, Int.toNat_natCast, Int.toNat_natCast, s_59 hd _ _ _ hb, Option.bind_some, pushv_I, b_58_176 _ _ _ _ _ _ _ _ _ _ rfl]
      have e18 : R 0 (16 + 2) = 160 := lay_at hL 93 rfl
      dsimp only
      rw [if_pos (by omega), b_58_177, e3, Int.toNat_natCast, up_upf]
theorem s_58 {d : Nat} (hd : 2 ≤ d) {M : MM} {R : RR} (hL : Lay R) {T co en L p a z : Nat} {g : Nat → Int} {cs : List Int} (hk : kindOf T = 7) (h0 : R T 0 = co) (h1 : R T 1 = en) (hkc : kindOf co = 13) (hke : kindOf en = 13) (hlc : R 0 (co + 2) = L) (hle : R 0 (en + 2) = 4) (hco : ¬ co = 16) (hen : ¬ en = 16) (hp : p < 3) (ha : M en p = (a : Int)) (hz : M en (p + 1) = (z : Int)) (hzL : z ≤ L) (hz2 : z ≤ 160) (hg : ∀ k, k < z → M co k = xop (g k)) (hs : seg g a cs) (hc : a + cs.length = z) (hw : wfp cs 0) : ∃ f', call d 58 [vA T, vI p, vA 15, vA 16] M R = some (vI (evh (M 15) cs), upf M 16 f', R) := by
  obtain ⟨e, rfl⟩ := s_le hd
  obtain ⟨f', q⟩ := l_58 (e := e + 1) (by omega) hL hk h0 h1 hkc hke hlc hle hco hen hp hz hzL hz2 hg cs a 0 (M 16) (vX 0) hs hc (by omega) hw
  rw [upf_eta] at q
  refine ⟨f', ?_⟩
  refine call_of 7 [vA T, vI p, vA 15, vA 16, vX 0, vX 0, vX 0] (by decide) rfl (Nat.le_of_ble_eq_true rfl) rfl ?_ rfl
  rw [b_58_0 _ _ _ _ hk (by rw [h1]; exact hke), h1, hle, if_pos (by omega), Int.toNat_natCast, ha]
  exact q
