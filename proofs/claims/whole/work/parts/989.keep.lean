section
/-! ===== what no run of the clean machine writes: object 0 (the script), its length ===== -/
def stM : St → MM × RR
  | .inl q => q.2
  | .inr q => (q.2.2.2.1, q.2.2.2.2)
def KP (M : MM) (R : RR) (x : Option St) : Prop := ∀ s, x = some s → (stM s).1 0 = M 0 ∧ (stM s).2 0 2 = R 0 2
variable {M M' : MM} {R R' : RR} {mi pc : Nat} {lv st : List AV}
theorem kn_none : KP M R none := fun s h => by cases h
theorem kn_nx {p : Nat} (h : M' 0 = M 0) (g : R' 0 2 = R 0 2) : KP M R (nx p lv st M' R') := fun s hs => by
  cases hs
  exact ⟨h, g⟩
theorem kn_ret {v : AV} : KP M R (some (.inl (v, M, R))) := fun s hs => by
  cases hs
  exact ⟨rfl, rfl⟩
theorem kn_popI {st : List AV} {k : Int → List AV → Option St} (h : ∀ a r, KP M R (k a r)) : KP M R (popI st k) := fun s hs => by
  obtain ⟨a, r, _, e⟩ := popI_inv hs
  exact h a r s e
theorem kn_popJ {st : List AV} {k : Int → List AV → Option St} (h : ∀ a r, KP M R (k a r)) : KP M R (popJ st k) := fun s hs => by
  obtain ⟨a, r, _, e⟩ := popJ_inv hs
  exact h a r s e
theorem kn_popA {st : List AV} {k : Nat → List AV → Option St} (h : ∀ a r, KP M R (k a r)) : KP M R (popA st k) := fun s hs => by
  obtain ⟨a, r, _, e⟩ := popA_inv hs
  exact h a r s e
theorem kn_popV {st : List AV} {k : AV → List AV → Option St} (h : ∀ a r, KP M R (k a r)) : KP M R (popV st k) := fun s hs => by
  obtain ⟨a, r, _, e⟩ := popV_inv hs
  exact h a r s e
theorem kn_popX {n : Nat} {st : List AV} {k : List AV → Option St} {k1 : Option St} (h : ∀ r, KP M R (k r)) (h1 : KP M R k1) : KP M R (popX n st k k1) := fun s hs => by
  rcases popX_inv hs with ⟨r, _, e⟩ | e
  · exact h r s e
  · exact h1 s e
theorem kn_gd {p : Prop} [Decidable p] {k : Option St} (h : p → KP M R k) : KP M R (gd p k) := fun s hs => by
  obtain ⟨hp, e⟩ := gd_inv hs
  exact h hp s e
theorem kn_ite {p : Prop} [Decidable p] {a b : Option St} (h : p → KP M R a) (g : ¬ p → KP M R b) : KP M R (if p then a else b) := by
  by_cases hp : p
  · rw [if_pos hp]; exact h hp
  · rw [if_neg hp]; exact g hp
theorem kn_i2 {f : Int → Int → Int} {st : List AV} {k : List AV → Option St} (h : ∀ s, KP M R (k s)) : KP M R (i2 f st k) := fun s hs => by
  obtain ⟨a, b, r, _, e⟩ := i2_inv hs
  exact h _ s e
theorem kn_i1 {f : Int → Int} {st : List AV} {k : List AV → Option St} (h : ∀ s, KP M R (k s)) : KP M R (i1 f st k) := fun s hs => by
  obtain ⟨a, r, _, e⟩ := i1_inv hs
  exact h _ s e
theorem kn_l2 {f : Int → Int → Int} {st : List AV} {k : List AV → Option St} (h : ∀ s, KP M R (k s)) : KP M R (l2 f st k) := fun s hs => by
  obtain ⟨a, b, r, _, e⟩ := l2_inv hs
  exact h _ s e
theorem kn_ldI {lv : List AV} {i : Nat} {k : AV → Option St} (h : ∀ v, KP M R (k v)) : KP M R (ldI lv i k) := fun s hs => by
  obtain ⟨a, _, e⟩ := ldI_inv hs
  exact h _ s e
theorem kn_ldJ {lv : List AV} {i : Nat} {k : AV → Option St} (h : ∀ v, KP M R (k v)) : KP M R (ldJ lv i k) := fun s hs => by
  obtain ⟨a, _, e⟩ := ldJ_inv hs
  exact h _ s e
theorem kn_ldA {lv : List AV} {i : Nat} {k : AV → Option St} (h : ∀ v, KP M R (k v)) : KP M R (ldA lv i k) := fun s hs => by
  rcases ldA_inv hs with ⟨a, _, e⟩ | ⟨_, e⟩
  · exact h _ s e
  · exact h _ s e
theorem kn_sto {lv : List AV} {i : Nat} {v : AV} {k : List AV → Option St} (h : ∀ l, KP M R (k l)) : KP M R (sto lv i v k) := fun s hs => by
  obtain ⟨_, e⟩ := sto_inv hs
  exact h _ s e
theorem kn_stoJ {lv : List AV} {i : Nat} {v : AV} {k : List AV → Option St} (h : ∀ l, KP M R (k l)) : KP M R (stoJ lv i v k) := fun s hs => by
  obtain ⟨_, e⟩ := stoJ_inv hs
  exact h _ s e
theorem kn_br {pc : Nat} {off : Int} {k : Nat → Option St} (h : ∀ t, KP M R (k t)) : KP M R (br pc off k) := fun s hs => by
  obtain ⟨t, _, e⟩ := br_inv hs
  exact h t s e
theorem kn_bind {α : Type} {o : Option α} {k : α → Option St} (h : ∀ a, o = some a → KP M R (k a)) : KP M R (o.bind k) := fun s hs => by
  cases o with
  | none => cases hs
  | some a => exact h a rfl s hs
theorem kn_up {o i p : Nat} {x : Int} (ho : 0 < o) : KP M R (nx p lv st (up M o i x) R) := kn_nx (up_o (by omega)) rfl
theorem kn_upR {o i p q : Nat} (ho : 0 < o) : KP M R (nx p lv st M (up R o i q)) := kn_nx rfl (by rw [up_o (show ¬ 0 = o by omega)])
theorem kn_upf {o p : Nat} {f : Nat → Int} (ho : 0 < o) : KP M R (nx p lv st (upf M o f) R) := kn_nx (upf_n (by omega)) rfl
theorem nu_0 : ¬ 0 = nu R := by show ¬ 0 = R 0 0 + 1; omega
theorem kn_new {n w p : Nat} {f : Nat → Int} : KP M R (nx p lv st (upf M (nu R) f) (newR R n w)) := by
  refine kn_nx (upf_n nu_0) ?_
  have : nu R = R 0 0 + 1 := rfl
  rw [newR_0, if_neg (by omega), if_neg (by decide), if_neg (by decide)]
theorem kn_newM {n w p : Nat} : KP M R (nx p lv st (newM M R) (newR R n w)) := kn_new
theorem fld_k : ∀ e ∈ fldL, e.2.2.1 ≠ 99 := by decide +kernel
theorem fldT_k {ci idx : Nat} {f : Nat × Nat} (h : fldT ci idx = some f) : f.1 ≠ 99 := fld_k _ (lk_mem h)
def KC (cf : CF) : Prop := ∀ (mi : Nat) (av : List AV) (M : MM) (R : RR) (v : AV) (M' : MM) (R' : RR), cf mi av M R = some (v, M', R') → M' 0 = M 0 ∧ R' 0 2 = R 0 2
theorem kn_call {cf : CF} (hc : KC cf) {mi pc mi' : Nat} {lv as rest : List AV} : KP M R (callK cf mi pc lv M R mi' as rest) := by
  unfold callK
  refine kn_gd (fun _ => kn_bind (fun q hq => ?_))
  obtain ⟨v, M', R'⟩ := q
  obtain ⟨h, g⟩ := hc mi' as M R v M' R' hq
  exact kn_nx h g
theorem sti_kp {cf : CF} (hc : KC cf) : ∀ ins : Instr, KP M R (sti cf mi pc lv st M R ins) := by
  intro ins
  cases ins
  case putfield i =>
    simp only [sti]
    refine kn_popV (fun v r => kn_popA (fun o r => kn_bind (fun f hf => kn_gd (fun hk => ?_))))
    have ho : 0 < o := k_pos hk.1 (fldT_k hf)
    refine kn_ite (fun _ => kn_popA (fun q _ => kn_upR ho)) (fun _ => kn_popI (fun x _ => kn_gd (fun _ => kn_up ho)))
  case iastore =>
    simp only [sti]
    exact kn_popI (fun x r => kn_popI (fun i r => kn_popA (fun o r => kn_gd (fun h => kn_up (k_pos h.1 (by decide))))))
  case bastore =>
    simp only [sti]
    exact kn_popI (fun x r => kn_popI (fun i r => kn_popA (fun o r => kn_gd (fun h => kn_up (k_pos h.1 (by decide))))))
  case lastore =>
    simp only [sti]
    exact kn_popJ (fun x r => kn_popI (fun i r => kn_popA (fun o r => kn_gd (fun h => kn_up (k_pos h.1 (by decide))))))
  case aastore =>
    simp only [sti]
    refine kn_popA (fun q r => kn_popI (fun i r => kn_popA (fun o r => kn_gd (fun h => kn_upR ?_))))
    rcases h.1 with g | g <;> exact k_pos g.1 (by decide)
  case newarray t =>
    simp only [sti]
    exact kn_popI (fun n r => kn_gd (fun _ => kn_newM))
  case anewarray i =>
    simp only [sti]
    exact kn_popI (fun n r => kn_bind (fun kd _ => kn_gd (fun _ => kn_newM)))
  case new i =>
    simp only [sti]
    exact kn_bind (fun k _ => kn_gd (fun _ => kn_newM))
  case invokespecial i =>
    simp only [sti]
    exact kn_ite (fun _ => kn_popA (fun o r => kn_gd (fun _ => kn_nx rfl rfl))) (fun _ => kn_bind (fun f _ => kn_popA (fun o r => kn_gd (fun _ => kn_call hc))))
  case invokevirtual i =>
    simp only [sti]
    exact kn_ite (fun _ => kn_popA (fun o r => kn_gd (fun _ => kn_new))) (fun _ => kn_ite (fun _ => kn_popX (fun r => kn_gd (fun _ => kn_nx rfl rfl)) kn_none) (fun _ => kn_ite (fun _ => kn_popI (fun j r => kn_popX (fun r => kn_gd (fun _ => kn_nx rfl rfl)) kn_none)) (fun _ => kn_bind (fun f _ => kn_popA (fun o r => kn_gd (fun _ => kn_call hc))))))
  case invokestatic i =>
    simp only [sti]
    exact kn_ite (fun _ => kn_popI (fun n r => kn_popI (fun dp r => kn_popA (fun b r => kn_popI (fun sp r => kn_popA (fun a r => kn_gd (fun h => kn_upf (k_pos h.2.1 (by decide))))))))) (fun _ => kn_ite (fun _ => kn_popI (fun b r => kn_popI (fun a r => kn_gd (fun _ => kn_nx rfl rfl)))) (fun _ => kn_ite (fun _ => kn_popI (fun b r => kn_popI (fun a r => kn_gd (fun _ => kn_nx rfl rfl)))) (fun _ => kn_ite (fun _ => kn_popJ (fun a r => kn_gd (fun _ => kn_nx rfl rfl))) (fun _ => kn_bind (fun f _ => kn_gd (fun _ => kn_call hc))))))
  all_goals first
    | exact kn_none
    | (simp only [sti]
       repeat' first
         | exact kn_ret
         | exact kn_nx rfl rfl
         | exact kn_none
         | refine kn_popI (fun _ _ => ?_)
         | refine kn_popJ (fun _ _ => ?_)
         | refine kn_popA (fun _ _ => ?_)
         | refine kn_popV (fun _ _ => ?_)
         | refine kn_popX (fun _ => ?_) ?_
         | refine kn_gd (fun _ => ?_)
         | refine kn_i2 (fun _ => ?_)
         | refine kn_i1 (fun _ => ?_)
         | refine kn_l2 (fun _ => ?_)
         | refine kn_ldI (fun _ => ?_)
         | refine kn_ldJ (fun _ => ?_)
         | refine kn_ldA (fun _ => ?_)
         | refine kn_sto (fun _ => ?_)
         | refine kn_stoJ (fun _ => ?_)
         | refine kn_br (fun _ => ?_)
         | refine kn_bind (fun _ _ => ?_)
         | refine kn_ite (fun _ => ?_) (fun _ => ?_))
theorem rn_kp {cf : CF} (hc : KC cf) : ∀ (n pc : Nat) (lv st : List AV) (M : MM) (R : RR) (v : AV) (M' : MM) (R' : RR), rn cf mi n pc lv st M R = some (v, M', R') → M' 0 = M 0 ∧ R' 0 2 = R 0 2
  | 0, _, _, _, _, _, _, _, _, h => by cases h
  | n + 1, pc, lv, st, M, R, v, M', R', h => by
    have hs : ∀ s, stp cf mi pc lv st M R = some s → (stM s).1 0 = M 0 ∧ (stM s).2 0 2 = R 0 2 := by
      intro s hs
      unfold stp at hs
      split at hs
      · split at hs
        · exact sti_kp hc _ s hs
        · cases hs
      · cases hs
    simp only [rn] at h
    split at h
    · cases h
    · rename_i r e
      cases h
      exact hs _ e
    · rename_i pc1 lv1 st1 M1 R1 e
      obtain ⟨a, b⟩ := hs _ e
      obtain ⟨c, d⟩ := rn_kp hc n _ _ _ _ _ _ _ _ h
      exact ⟨c.trans a, d.trans b⟩
theorem call_kp : ∀ d : Nat, KC (call d)
  | 0 => fun mi av M R v M' R' h => by cases h
  | d + 1 => fun mi av M R v M' R' h => by
    simp only [call] at h
    split at h
    · cases hr : run (call d) mi 0 (lv0 (maxLOf mi) av) [] M R with
      | none => rw [hr] at h; cases h
      | some q =>
        rw [hr] at h
        obtain ⟨n, hn⟩ := run_iff.mp hr
        obtain ⟨v1, M1, R1⟩ := q
        have hk := rn_kp (call_kp d) n _ _ _ _ _ _ _ _ hn
        simp only [Option.bind_some] at h
        split at h
        · cases h
          exact hk
        · cases h
    · cases h
end
