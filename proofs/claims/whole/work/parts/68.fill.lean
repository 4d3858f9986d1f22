section
/-! ===== Spread.fill ===== -/
theorem ps_z {p f : Nat → Int} {q : Nat} : ∀ m, (∀ i, i < m → i ≤ q → p i * f (q - i) = 0) → ps p f m q = 0
  | 0, _ => rfl
  | m + 1, h => by
    show ps p f m q + (if m ≤ q then p m * f (q - m) else 0) = 0
    rw [ps_z m (fun i hi => h i (by omega))]
    split
    · rw [h m (by omega) (by assumption)]; rfl
    · rfl
theorem pm_z2 {p q : Nat → Int} {a b n : Nat} (hp : ∀ i, a < i → p i = 0) (hq : ∀ i, b < i → q i = 0) (h : a + b < n) : pm p q n = 0 := by
  rw [← ps_pm]
  refine ps_z _ (fun i hi hn => ?_)
  by_cases g : a < i
  · rw [hp i g, Int.zero_mul]
  · rw [hq (n - i) (by omega), Int.mul_zero]
theorem su_z {α : Type} {f : α → Int} : ∀ l : List α, (∀ a, a ∈ l → f a = 0) → su f l = 0
  | [], _ => rfl
  | a :: l, h => by
    show f a + su f l = 0
    rw [h a (List.mem_cons_self ..), su_z l (fun b hb => h b (List.mem_cons_of_mem _ hb))]
    rfl
theorem mo_add2 : ∀ so : Fin 3, ∀ a : Fin 8, ∀ b : Fin 8, (a : Nat) + b ≤ 7 → mo so a + mo so b ≤ mo so (a + b) := by decide +kernel
theorem enC_m {s : Nat} (hs : s < 128) {x : Nat} (hx : x ∈ enC s 128 s) : x ∈ subM s := (enC_p ⟨s, hs⟩).mem_iff.1 hx
theorem FS_z {oo : Nat → Int} {c : Nat → Nat → Int} {so : Nat} (hso : so < 3) (hc0 : ∀ k n, k ≤ 7 → mo so k < n → c k n = 0) : ∀ b s, s < b → s < 128 → ∀ n, mo so (bl s).length < n → FS oo c s n = 0
  | 0, s, h, _, _, _ => absurd h (by omega)
  | b + 1, s, hb, hs, n, hn => by
    rcases Nat.eq_zero_or_pos s with rfl | h0
    · rw [FS_0]
      cases n with
      | zero => exact absurd hn (by omega)
      | succ n => rfl
    · rw [FS_s h0 hs]
      have ho := (low_ok ⟨s, hs⟩ h0).2.2.2
      dsimp only at ho
      refine su_z _ (fun x hx => ?_)
      obtain ⟨b1, b2, b3, b4, b5, b6⟩ := sub_ok ⟨s, hs⟩ h0 x (enC_m ho hx)
      dsimp only at b2 b3 b4 b5 b6
      have l7 := bl_len7 ⟨s, hs⟩
      dsimp only at l7
      rw [b4]
      have m2 := mo_add2 ⟨so, hso⟩ ⟨(bl (low s ||| x)).length, by omega⟩ ⟨(bl ((s ^^^ low s) ^^^ x)).length, by omega⟩ (by dsimp only; omega)
      dsimp only at m2
      rw [pm_z2 (a := mo so (bl (low s ||| x)).length) (b := mo so (bl ((s ^^^ low s) ^^^ x)).length) (fun i hi => hc0 _ _ (by omega) hi) (fun i hi => FS_z hso hc0 b _ (by omega) (by omega) i hi) (by rw [b6] at hn; omega), Int.mul_zero]
theorem subs_ok : ∀ s : Fin 128, 0 < (s : Nat) → ∀ x ∈ subM ((s : Nat) ^^^ low s), low s ||| x ≤ (s : Nat) := by decide +kernel
/-- all pieces of a set, one behind the other -/
theorem t_43 {e : Nat} (he : 2 ≤ e) {R : RR} {o pi fo so w E s : Nat} {oo : Nat → Int} {c : Nat → Nat → Int} (hS : spO R o pi fo w) (hR : R 0 31 = 128) (hne : ¬ fo = 29) (hso3 : so < 3) (hwe : w = mo so 7 + 1) (hw22 : w ≤ 22) (hsE : s ≤ E) (hE : E < 128) (h0 : 0 < s) (hoo : ∀ A, A ≤ E → w64 (oo A) = oo A) (hc0 : ∀ k n, k ≤ 7 → mo so k < n → c k n = 0) {M0 : MM} (hso : M0 o 0 = (so : Int)) (hw : M0 o 1 = (w : Int)) (h29 : ∀ A, A ≤ E → M0 29 A = oo A) (hc : ∀ k, 1 ≤ k → k ≤ 7 → ∀ n, n < w → M0 pi (k * w + n) = w64 (c k n)) (hF : ∀ r, r < s → ∀ n, n < w → M0 fo (r * w + n) = w64 (FS oo c r n)) : ∀ (f x t : Nat) (M : MM) (G : Nat → Int), f + t = 128 → x < 128 → (∀ y ∈ enC (s ^^^ low s) f x, y ∈ subM (s ^^^ low s)) → Fx [fo] M0 M → (∀ j, ¬ (s * w ≤ j ∧ j < s * w + w) → M fo j = M0 fo j) → (∀ q, q < w → M fo (s * w + q) = w64 (G q)) → ∃ (M' : MM) (u v : Int), run (call e) 43 66 [vA o, vA 29, vI E, vI s, vI (low s), vI (s ^^^ low s : Nat), vI x, vI t] [] M R = run (call e) 43 114 [vA o, vA 29, vI E, vI s, vI (low s), vI (s ^^^ low s : Nat), vI u, vI v] [] M' R ∧ Fx [fo] M0 M' ∧ (∀ j, ¬ (s * w ≤ j ∧ j < s * w + w) → M' fo j = M0 fo j) ∧ ∀ q, q < w → M' fo (s * w + q) = w64 (G q + su (fun x => oo (low s ||| x) * pm (c (bl (low s ||| x)).length) (FS oo c (s ^^^ (low s ||| x))) q) (enC (s ^^^ low s) f x))
  | 0, x, t, M, G, ht, hx, hm, fx, hj, hG => by
    refine ⟨M, x, t, ?_, fx, hj, ?_⟩
    · rw [b_43_66, if_pos (by omega)]
    · intro q hq
      rw [hG q hq]
      show _ = w64 (G q + 0)
      rw [Int.add_zero]
  | f + 1, x, t, M, G, ht, hx, hm, fx, hj, hG => by
    have hs : s < 128 := by omega
    obtain ⟨k1, k2, k3, k4, k5, k6, k7, k8, k9, k10⟩ := id hS
    have hxm : x ∈ subM (s ^^^ low s) := hm x (by simp [enC])
    obtain ⟨b1, b2, b3, b4, b5, b6⟩ := sub_ok ⟨s, hs⟩ h0 x hxm
    have c1 := subs_ok ⟨s, hs⟩ h0 x hxm
    have ol := low_ok ⟨s, hs⟩ h0
    dsimp only at b2 b3 b4 b5 b6 c1 ol
    have l7 := bl_len7 ⟨s, hs⟩
    dsimp only at l7
    have m2 := mo_add2 ⟨so, hso3⟩ ⟨(bl (low s ||| x)).length, by omega⟩ ⟨(bl ((s ^^^ low s) ^^^ x)).length, by omega⟩ (by dsimp only; omega)
    dsimp only at m2
    have e1 : w32 ((t : Int) + 1) = ((t + 1 : Nat) : Int) := by rw [w32_i (by omega)]; omega
    have g29 : M 29 (low s ||| x) = oo (low s ||| x) := by rw [fx 29 (by simpa using fun h => hne h.symm)]; exact h29 _ (by omega)
    have hr : s ^^^ (low s ||| x) < s := by rw [b4]; exact b5
    have sw : s * w ≤ 127 * 22 := Nat.mul_le_mul (by omega) hw22
    obtain ⟨M1, q1, f1, f2, f3⟩ := s_44 (d0 := e) (by omega) (M := M) (A := low s ||| x) (r := s ^^^ (low s ||| x)) (s := s) (k := (bl (low s ||| x)).length) (kr := (bl ((s ^^^ low s) ^^^ x)).length) (T := oo (low s ||| x)) (c := c (bl (low s ||| x)).length) (F := FS oo c (s ^^^ (low s ||| x))) (G := G) (so := so) hS (by rw [fx o (by simpa using k9)]; exact hso) hso3 hwe (by rw [fx o (by simpa using k9)]; exact hw) hw22 hs b2 (by omega) rfl (by omega) rfl b6 (by omega) (hoo _ (by omega)) (fun n hn => by rw [fx pi (by simpa using k8)]; exact hc _ (by rw [b3]; simp) (by omega) n hn) (fun n hn => hc0 _ n (by omega) hn) (fun m hm => by
        rw [hj _ (fun h => row_ne (r := s ^^^ (low s ||| x)) (s := s) (w := w) (m := m) (q := (s ^^^ (low s ||| x)) * w + m - s * w) (by omega) hm (by omega) (by omega))]
        exact hF _ hr m hm) (fun m hm => FS_z hso3 hc0 128 _ (by omega) (by omega) m (by rw [b4]; exact hm)) hG
    have hst : ∀ M2 : MM, run (call e) 43 74 [vA o, vA 29, vI E, vI s, vI (low s), vI (s ^^^ low s : Nat), vI x, vI t] [] M R = run (call e) 43 91 [vA o, vA 29, vI E, vI s, vI (low s), vI (s ^^^ low s : Nat), vI x, vI t] [] M1 R := by
      intro _
      rw [b_43_74 _ _ _ _ _ _ _ _ rfl k1, c_or_n (by omega) (by omega), hR, if_pos (by omega), Int.toNat_natCast, g29, q1, bsX]
    have hj1 : ∀ j, ¬ (s * w ≤ j ∧ j < s * w + w) → M1 fo j = M0 fo j := fun j h => by rw [f3 j h, hj j h]
    by_cases hx0 : x = 0
    · refine ⟨M1, x, t, ?_, Fx_t fx f1, hj1, ?_⟩
      · rw [b_43_66, if_neg (by omega), hst M, b_43_91, if_neg (by omega), b_43_96]
      · intro q hq
        rw [f2 q hq]
        subst hx0
        rw [enC, if_pos rfl]
        show _ = w64 (G q + (_ + 0))
        rw [Int.add_zero]
    · have hx' : (x - 1) &&& (s ^^^ low s) < 128 := Nat.lt_of_le_of_lt Nat.and_le_left (by omega)
      have hw' : c_and (w32 ((x : Int) - 1)) ((s ^^^ low s : Nat) : Int) = ((((x - 1) &&& (s ^^^ low s)) : Nat) : Int) := by
        rw [w32_i (by omega), show (x : Int) - 1 = ((x - 1 : Nat) : Int) by omega, c_and_n (by omega) (by omega)]
      obtain ⟨M2, u, v, q2, g1, g2, g3⟩ := t_43 he hS hR hne hso3 hwe hw22 hsE hE h0 hoo hc0 hso hw h29 hc hF f ((x - 1) &&& (s ^^^ low s)) (t + 1) M1 (fun q => G q + oo (low s ||| x) * pm (c (bl (low s ||| x)).length) (FS oo c (s ^^^ (low s ||| x))) q) (by omega) hx' (fun y hy => hm y (by rw [enC, if_neg hx0]; exact List.mem_cons_of_mem _ hy)) (Fx_t fx f1) hj1 f2
      refine ⟨M2, u, v, ?_, g1, g2, ?_⟩
      · rw [b_43_66, if_neg (by omega), hst M, b_43_91, if_pos (by omega), b_43_99, hw', e1]
        exact q2
      · intro q hq
        rw [g3 q hq, enC, if_neg hx0]
        show _ = w64 (G q + (_ + su _ _))
        rw [Int.add_assoc]
/-- a row of zeros -/
theorem t2_43 {e : Nat} {R : RR} {o pi fo w s : Nat} {x2 : AV} {u5 u6 u7 : AV} (hS : spO R o pi fo w) (hw22 : w ≤ 22) (hs : s < 128) {E : Int} (M : MM) (hw : M o 1 = (w : Int)) : ∃ M' : MM, run (call e) 43 17 [vA o, vA 29, vI E, vI s, vI 0, u5, u6, u7] [] M R = run (call e) 43 17 [vA o, vA 29, vI E, vI s, vI w, u5, u6, u7] [] M' R ∧ Fx [fo] M M' ∧ (∀ q, q < w → M' fo (s * w + q) = 0) ∧ ∀ j, ¬ (s * w ≤ j ∧ j < s * w + w) → M' fo j = M fo j := by
  obtain ⟨k1, k2, k3, k4, k5, k6, k7, k8, k9, k10⟩ := id hS
  have key := loop_nat (fun n (a : MM) => run (call e) 43 17 [vA o, vA 29, vI E, vI s, vI n, u5, u6, u7] [] a R) (fun i a => Fx [fo] M a ∧ (∀ q, q < i → a fo (s * w + q) = 0) ∧ ∀ j, ¬ (s * w ≤ j ∧ j < s * w + w) → a fo j = M fo j) w ?_ M ?_
  · obtain ⟨M1, ⟨a1, a2, a3⟩, hq⟩ := key
    exact ⟨M1, hq, a1, a2, a3⟩
  · rintro n M1 hn ⟨a1, a2, a3⟩
    have e1 : w32 ((n : Int) + 1) = ((n + 1 : Nat) : Int) := by rw [w32_i (by omega)]; omega
    have sw : s * w ≤ 127 * 22 := Nat.mul_le_mul (by omega) hw22
    have sb := row_b (w := w) hs n hn
    have g1 : M1 o 1 = (w : Int) := by rw [a1 o (by simpa using k9)]; exact hw
    have ei : w32 (w32 ((s : Int) * (w : Int)) + (n : Int)) = ((s * w + n : Nat) : Int) := by
      rw [← Int.natCast_mul]
      simp (disch := omega) only [w32_i]
      omega
    refine ⟨up M1 fo (s * w + n) 0, ⟨Fx_t a1 (Fx_p (by simp)), ?_, ?_⟩, ?_⟩
    · intro q hq
      by_cases h : q = n
      · subst h; rw [up_s]
      · rw [up_i (by omega)]; exact a2 q (by omega)
    · intro j hj
      rw [up_i (by omega)]
      exact a3 j hj
    · show run (call e) 43 17 [vA o, vA 29, vI E, vI s, vI n, u5, u6, u7] [] M1 R = _
      rw [b_43_17 _ _ _ _ _ _ _ _ k1, g1, if_neg (by omega), b_43_26 _ _ _ _ _ _ _ _ k1 (by rw [k3]; exact k5), k3, k7, g1, ei, if_pos (by omega), e1, Int.toNat_natCast]
  · exact ⟨Fx_r, fun q hq => absurd hq (by omega), fun _ _ => rfl⟩
theorem s_43 {d0 : Nat} (hd : 3 ≤ d0) {M : MM} {R : RR} {o pi fo so w E : Nat} {oo : Nat → Int} {c : Nat → Nat → Int} (hS : spO R o pi fo w) (hR : R 0 31 = 128) (hne : ¬ fo = 29) (hso3 : so < 3) (hwe : w = mo so 7 + 1) (hw22 : w ≤ 22) (hE : E < 128) (hoo : ∀ A, A ≤ E → w64 (oo A) = oo A) (hc0 : ∀ k n, k ≤ 7 → mo so k < n → c k n = 0) (hso : M o 0 = (so : Int)) (hw : M o 1 = (w : Int)) (h29 : ∀ A, A ≤ E → M 29 A = oo A) (hc : ∀ k, 1 ≤ k → k ≤ 7 → ∀ n, n < w → M pi (k * w + n) = w64 (c k n)) (h0 : ∀ n, 1 ≤ n → n < w → M fo n = 0) : ∃ M', call d0 43 [vA o, vA 29, vI E] M R = some (vX 0, M', R) ∧ Fx [fo] M M' ∧ ∀ s, s ≤ E → ∀ n, n < w → M' fo (s * w + n) = w64 (FS oo c s n) := by
  obtain ⟨e, rfl⟩ := s_le hd
  obtain ⟨k1, k2, k3, k4, k5, k6, k7, k8, k9, k10⟩ := id hS
  have hw0 : 1 ≤ w := by omega
  have n29 : (29 : Nat) ∉ [fo] := by simpa using fun h => hne h.symm
  have nO : o ∉ [fo] := by simpa using k9
  have nP : pi ∉ [fo] := by simpa using k8
  have key := loop_nat (fun i (a : (AV × AV × AV × AV) × MM) => run (call (e + 2)) 43 9 [vA o, vA 29, vI E, vI ((i + 1 : Nat) : Int), a.1.1, a.1.2.1, a.1.2.2.1, a.1.2.2.2] [] a.2 R) (fun i a => Fx [fo] M a.2 ∧ ∀ s, s ≤ i → ∀ n, n < w → a.2 fo (s * w + n) = w64 (FS oo c s n)) E ?_ ((vX 0, vX 0, vX 0, vX 0), up M fo 0 1) ?_
  · obtain ⟨⟨⟨u1, u2, u3, u4⟩, M1⟩, ⟨a1, a2⟩, hq⟩ := key
    refine ⟨M1, ?_, a1, a2⟩
    refine call_of 8 [vA o, vA 29, vI E, vX 0, vX 0, vX 0, vX 0, vX 0] (by decide) rfl (Nat.le_of_ble_eq_true rfl) rfl ?_ rfl
    rw [b_43_0 _ _ _ k1 (by rw [k3]; exact k5), k3, k7, if_pos (by omega)]
    refine Eq.trans hq ?_
    dsimp only
    rw [b_43_9, if_pos (by omega), b_43_120]
  · rintro i ⟨⟨u1, u2, u3, u4⟩, M1⟩ hi ⟨a1, a2⟩
    dsimp only at a1 a2
    have hs : i + 1 < 128 := by omega
    have ol := low_ok ⟨i + 1, hs⟩ (by show 0 < i + 1; omega)
    dsimp only at ol
    have e1 : w32 (((i + 1 : Nat) : Int) + 1) = ((i + 1 + 1 : Nat) : Int) := by rw [w32_i (by omega)]; omega
    obtain ⟨M2, q2, f1, f2, f3⟩ := t2_43 (e := e + 2) (x2 := vX 0) (u5 := u2) (u6 := u3) (u7 := u4) hS hw22 hs (E := (E : Int)) M1 (by rw [a1 o nO]; exact hw)
    have F2 := Fx_t a1 f1
    have hF2 : ∀ r, r < i + 1 → ∀ n, n < w → M2 fo (r * w + n) = w64 (FS oo c r n) := by
      intro r hr n hn
      rw [f3 _ (fun h => row_ne (r := r) (s := i + 1) (w := w) (m := n) (q := r * w + n - (i + 1) * w) (by omega) hn (by omega) (by omega))]
      exact a2 r (by omega) n hn
    obtain ⟨M3, u, v, q3, g1, g2, g3⟩ := t_43 (e := e + 2) (by omega) hS hR hne hso3 hwe hw22 (s := i + 1) (E := E) (by omega) hE (by omega) hoo hc0 (M0 := M2) (by rw [F2 o nO]; exact hso) (by rw [F2 o nO]; exact hw) (fun A hA => by rw [F2 29 n29]; exact h29 A hA) (fun k h1 h7 n hn => by rw [F2 pi nP]; exact hc k h1 h7 n hn) hF2 128 ((i + 1) ^^^ low (i + 1)) 0 M2 (fun _ => 0) (by omega) (by omega) (fun y hy => enC_m (by omega) hy) Fx_r (fun _ _ => rfl) f2
    refine ⟨((vI (low (i + 1)), vI ((i + 1) ^^^ low (i + 1) : Nat), vI u, vI v), M3), ⟨Fx_t F2 g1, ?_⟩, ?_⟩
    · intro s hs2 n hn
      dsimp only
      by_cases h : s = i + 1
      · subst h
        rw [g3 n hn, FS_s (by omega) hs, Int.zero_add]
      · rw [g2 _ (fun h' => row_ne (r := s) (s := i + 1) (w := w) (m := n) (q := s * w + n - (i + 1) * w) h hn (by omega) (by omega))]
        exact hF2 s (by omega) n hn
    · show run (call (e + 2)) 43 9 [vA o, vA 29, vI E, vI ((i + 1 : Nat) : Int), u1, u2, u3, u4] [] M1 R = _
      rw [b_43_9, if_neg (by omega), b_43_14]
      refine Eq.trans q2 ?_
      rw [b_43_17 _ _ _ _ _ _ _ _ k1, F2 o nO, hw, if_pos (by omega), b_43_47, ol.2.1, c_xor_n (by omega) (by omega)]
      refine Eq.trans q3 ?_
      rw [b_43_114, e1]
  · refine ⟨Fx_p (by simp), ?_⟩
    intro s hs n hn
    have : s = 0 := by omega
    subst this
    rw [FS_0, Nat.zero_mul, Nat.zero_add]
    cases n with
    | zero => dsimp only; rw [up_s]; rfl
    | succ n => dsimp only; rw [up_i (by omega), h0 (n + 1) (by omega) hn]; rfl
end
