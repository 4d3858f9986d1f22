section
/-! ===== a copy, a TEXT ===== -/
theorem newR_0 {R : RR} {n w j : Nat} : newR R n w 0 j = if j = nu R + 2 then n else if j = 1 then R 0 1 + w else if j = 0 then nu R else R 0 j := by
  unfold newR upf
  simp
theorem newR_o {R : RR} {n w o : Nat} (h0 : ¬ o = 0) (h : ¬ o = nu R) : newR R n w o = R o := by
  unfold newR
  rw [upf_n h0, upf_n h]
theorem newM_o {M : MM} {R : RR} {o : Nat} (h : ¬ o = nu R) : newM M R o = M o := by
  unfold newM
  rw [upf_n h]
theorem s_260 {d0 : Nat} (hd : 1 ≤ d0) {M : MM} {R : RR} {a n t L : Nat} (ht : nu R = t) (ha : kindOf a = 13) (hk : kindOf t = 13) (hat : ¬ a = t) (hL : R 0 (a + 2) = L) (hn : n ≤ L) (hn2 : L ≤ 100000) : ∃ f, call d0 260 [vA a, vI n] M R = some (vA t, upf M t f, newR R n n) ∧ ∀ k, k < n → f k = M a k := by
  obtain ⟨e, rfl⟩ := s_le hd
  subst ht
  by_cases g : n = L
  · refine ⟨M a, ?_, fun _ _ => rfl⟩
    refine call_of 3 [vA a, vI n, vX 0] (by decide) rfl (Nat.le_of_ble_eq_true rfl) rfl ?_ rfl
    rw [b_260_0 _ _ ha, hL, if_neg (by omega), b_260_6 _ _ hk ha, hL, g]
  · have e1 : newR R n n 0 (a + 2) = L := by
      rw [newR_0, if_neg (by omega), if_neg (by omega), if_neg (by omega), hL]
    have e2 : newR R n n 0 (nu R + 2) = n := by rw [newR_0, if_pos rfl]
    have e3 : newM M R (nu R) = fun _ => 0 := by unfold newM; rw [upf_s]
    have e4 : newM M R a = M a := newM_o hat
    have e5 : min ((L : Nat) : Int) (n : Int) = (n : Int) := by omega
    have e6 : ∀ f, upf (newM M R) (nu R) f = upf M (nu R) f := fun f => by unfold newM; rw [upf_upf]
    refine ⟨cpf (M a) (fun _ => 0) 0 0 n, ?_, fun k hk => ?_⟩
    · refine call_of 3 [vA a, vI n, vX 0] (by decide) rfl (Nat.le_of_ble_eq_true rfl) rfl ?_ rfl
      rw [b_260_0 _ _ ha, hL, if_pos (by omega), b_260_14 _ _ hk (by omega) ha, Int.toNat_natCast, e1, e2, e5, if_pos (by omega), e4, e3, e6, Int.toNat_natCast]
      rfl
    · unfold cpf
      rw [if_pos (by omega)]
      congr 1
      omega
/-- what making a TEXT leaves of the references: its number t, its codes' length z -/
def rT (R R' : RR) (t z : Nat) : Prop := R' t 0 = t + 2 ∧ R' t 1 = t + 1 ∧ R' 0 (t + 3) = 4 ∧ R' 0 (t + 4) = z ∧ R' 0 0 = t + 2 ∧ R' 0 1 = R 0 1 + (4 + z) ∧ (∀ o, ¬ o = 0 → ¬ o = t → ¬ o = t + 1 → ¬ o = t + 2 → R' o = R o) ∧ ∀ j, ¬ j = 0 → ¬ j = 1 → ¬ j = t + 3 → ¬ j = t + 4 → R' 0 j = R 0 j
theorem s_57 {d0 : Nat} (hd : 2 ≤ d0) {M : MM} {R : RR} {t w e z Lw : Nat} (h0 : R 0 0 = t) (ht : 2 < t) (kt : kindOf t = 7) (k1 : kindOf (t + 1) = 13) (k2 : kindOf (t + 2) = 13) (kw : kindOf w = 13) (ke : kindOf e = 13) (w0 : ¬ w = 0 ∧ w < t) (e0 : ¬ e = 0 ∧ e < t) (lw : R 0 (w + 2) = Lw) (le : R 0 (e + 2) = 4) (hz : M e 3 = (z : Int)) (hzw : z ≤ Lw) (hw : Lw ≤ 100000) : ∃ f g R', call d0 57 [vA t, vA w, vA e] M R = some (vX 0, upf (upf M (t + 1) f) (t + 2) g, R') ∧ (∀ k, k < 4 → f k = M e k) ∧ (∀ k, k < z → g k = M w k) ∧ rT R R' t z := by
  obtain ⟨d, rfl⟩ := s_le hd
  obtain ⟨f, q1, hf⟩ := s_260 (d0 := d + 1) (by omega) (M := M) (R := R) (a := e) (n := 4) (t := t + 1) (by show R 0 0 + 1 = t + 1; omega) ke k1 (by omega) le (Nat.le_refl 4) (by omega)
  have r0 : ∀ j, newR R 4 4 0 j = if j = t + 3 then 4 else if j = 1 then R 0 1 + 4 else if j = 0 then t + 1 else R 0 j := by
    intro j
    rw [newR_0, show nu R = t + 1 from by show R 0 0 + 1 = t + 1; omega]
  have r1 : ∀ o, ¬ o = 0 → ¬ o = t + 1 → newR R 4 4 o = R o := fun o h1 h2 => newR_o h1 (by show ¬ o = R 0 0 + 1; omega)
  obtain ⟨R2, hR2⟩ : ∃ R2, R2 = up (newR R 4 4) t 1 (t + 1) := ⟨_, rfl⟩
  have u0 : ∀ j, R2 0 j = if j = t + 3 then 4 else if j = 1 then R 0 1 + 4 else if j = 0 then t + 1 else R 0 j := by
    intro j
    rw [hR2, up_o (by omega)]
    exact r0 j
  have hz3 : upf M (t + 1) f (t + 1) 3 = (z : Int) := by rw [upf_s, hf 3 (by omega), hz]
  obtain ⟨g, q2, hg⟩ := s_260 (d0 := d + 1) (by omega) (M := upf M (t + 1) f) (R := R2) (a := w) (n := z) (t := t + 2) (L := Lw) (by show R2 0 0 + 1 = t + 2; rw [u0, if_neg (by omega), if_neg (by omega), if_pos rfl]) kw k2 (by omega) (by rw [u0, if_neg (by omega), if_neg (by omega), if_neg (by omega)]; exact lw) hzw hw
  have v0 : ∀ j, newR R2 z z 0 j = if j = t + 4 then z else if j = t + 3 then 4 else if j = 1 then R 0 1 + 4 + z else if j = 0 then t + 2 else R 0 j := by
    intro j
    have hn : nu R2 = t + 2 := by show R2 0 0 + 1 = t + 2; rw [u0, if_neg (by omega), if_neg (by omega), if_pos rfl]
    rw [newR_0, hn]
    simp only [u0]
    repeat' split
    all_goals first | omega | (simp_all; done) | (simp_all; omega)
  have v1 : ∀ o, ¬ o = 0 → ¬ o = t + 2 → newR R2 z z o = R2 o := fun o h1 h2 => newR_o h1 (by show ¬ o = R2 0 0 + 1; rw [u0, if_neg (by omega), if_neg (by omega), if_pos rfl]; omega)
  refine ⟨f, g, up (newR R2 z z) t 0 (t + 2), ?_, hf, fun k hk => by rw [hg k hk, upf_n (by omega)], ?_⟩
  · refine call_of 3 [vA t, vA w, vA e] (by decide) rfl (Nat.le_of_ble_eq_true rfl) rfl ?_ rfl
    have hup : up (newR R 4 4) t 1 (t + 1) t 1 = t + 1 := up_s
    have hq1 : call (d + 1) 260 [vA e, vI 4] M R = some (vA (t + 1), upf M (t + 1) f, newR R 4 4) := q1
    rw [b_57_0 _ _ _ (by omega), hq1, bsA, b_57_10 _ _ _ _ kt (by rw [hup]; exact k1), hup, show Int.toNat 3 = 3 from rfl, hz3, ← hR2, u0, if_pos rfl, if_pos (by decide), q2, bsA, b_57_24 _ _ _ _ kt]
  · refine ⟨up_s, ?_, ?_, ?_, ?_, ?_, ?_, ?_⟩
    · rw [up_i (by decide), v1 t (by omega) (by omega), hR2, up_s]
    · rw [up_o (by omega), v0, if_neg (by omega), if_pos rfl]
    · rw [up_o (by omega), v0, if_pos rfl]
    · rw [up_o (by omega), v0, if_neg (by omega), if_neg (by omega), if_neg (by omega), if_pos rfl]
    · rw [up_o (by omega), v0, if_neg (by omega), if_neg (by omega), if_pos rfl]
      omega
    · intro o h1 h2 h3 h4
      rw [up_o h2, v1 o h1 h4, hR2, up_o h2, r1 o h1 h3]
    · intro j h1 h2 h3 h4
      rw [up_o (by omega), v0, if_neg h4, if_neg h3, if_neg h2, if_neg h1]
end
