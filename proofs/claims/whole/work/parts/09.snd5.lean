/-! ===== SOUNDNESS: a step, a run, a method's contract, all of them ===== -/
section SND5
variable {p : Program} {l : Launch} {e : Env} {Rm : Room} {s : State} {m : MethodId} {args : Array Value} {below : List Frame} {meth : Method} {c : Code} {D : va_G} {cy : Nat → ClassId} {xa : Nat → Nat} {A : Nat → Prop} {sc : Nat → Int} {Ls mi d : Nat} {ad0 : Nat → Nat} {n0 s0 : Nat} {Q : State → Prop} {pc : Nat} {lv st r : List AV} {M : MM} {R : RR}
def retIs (ins : Instr) (v : AV) (st : List AV) : Prop := (∃ x, ins = .ireturn ∧ v = vI x ∧ st = [vI x]) ∨ (∃ x, ins = .lreturn ∧ v = vJ x ∧ st = [vJ x]) ∨ (∃ q, ins = .areturn ∧ v = vA q ∧ st = [vA q]) ∨ (ins = .return_ ∧ v = vX 0 ∧ st = [])
def GOOD (p : Program) (l : Launch) (e : Env) (Rm : Room) (s : State) (m : MethodId) (args : Array Value) (below : List Frame) (meth : Method) (c : Code) (D : va_G) (cy : Nat → ClassId) (xa : Nat → Nat) (A : Nat → Prop) (sc : Nat → Int) (Ls mi d : Nat) (ad0 : Nat → Nat) (n0 s0 : Nat) (Q : State → Prop) (cf : CF) (pc : Nat) (lv st : List AV) (M : MM) (R : RR) (ins : Instr) (len : Nat) (x : St) : Prop := match x with
  | .inl (v, M', R') => M' = M ∧ R' = R ∧ retIs ins v st
  | .inr (pc', lv', st', M', R') => mono R R' ∧ (SC l D cy xa A sc Ls d cf → CX p Rm s m args meth c D cy xa A sc Ls mi d → decode (codeOf mi) pc = .ok (ins, len) → R' 0 0 ≤ n0 + Rm.cells → R' 0 1 ≤ s0 + Rm.slots → GW p l e Rm s m args below meth c D cy xa A sc Ls mi ad0 n0 s0 Q pc' lv' st' M' R' → GW p l e Rm s m args below meth c D cy xa A sc Ls mi ad0 n0 s0 Q pc lv st M R)
theorem mono_up {o i q : Nat} (h : 0 < o) : mono R (up R o i q) := by
  unfold mono
  rw [up_ne _ _ _ (by omega)]
  exact mono.rf
theorem mono_new (R : RR) (n w : Nat) : mono R (newR R n w) := by
  unfold mono
  rw [newR_00, newR_01]
  omega
theorem sti_good {cf : CF} (hcm : CM cf) {ins : Instr} {len : Nat} {x : St} (hl : ilen ins = len ∨ ilen ins = 0) (h : sti cf mi pc lv st M R ins = some x) : GOOD p l e Rm s m args below meth c D cy xa A sc Ls mi d ad0 n0 s0 Q cf pc lv st M R ins len x := by
  cases ins
  case iload_n k =>
    obtain rfl := hl.resolve_right (show ¬ (_ : Nat) = 0 by simp [ilen])
    simp only [sti] at h
    obtain ⟨a, h1, h⟩ := ldI_inv h
    cases h
    exact ⟨mono.rf, fun hS C hd b1 b2 K => G_iload_n C hd h1 K⟩
  case iload i =>
    obtain rfl := hl.resolve_right (show ¬ (_ : Nat) = 0 by simp [ilen])
    simp only [sti] at h
    obtain ⟨a, h1, h⟩ := ldI_inv h
    cases h
    exact ⟨mono.rf, fun hS C hd b1 b2 K => G_iload C hd h1 K⟩
  case lload_n k =>
    obtain rfl := hl.resolve_right (show ¬ (_ : Nat) = 0 by simp [ilen])
    simp only [sti] at h
    obtain ⟨a, h1, h⟩ := ldJ_inv h
    cases h
    exact ⟨mono.rf, fun hS C hd b1 b2 K => G_lload_n C hd h1 K⟩
  case lload i =>
    obtain rfl := hl.resolve_right (show ¬ (_ : Nat) = 0 by simp [ilen])
    simp only [sti] at h
    obtain ⟨a, h1, h⟩ := ldJ_inv h
    cases h
    exact ⟨mono.rf, fun hS C hd b1 b2 K => G_lload C hd h1 K⟩
  case aload_n k =>
    obtain rfl := hl.resolve_right (show ¬ (_ : Nat) = 0 by simp [ilen])
    simp only [sti] at h
    rcases ldA_inv h with ⟨a, h1, h⟩ | ⟨h1, h⟩
    · cases h
      exact ⟨mono.rf, fun hS C hd b1 b2 K => G_aload_n C hd h1 K⟩
    · cases h
      exact ⟨mono.rf, fun hS C hd b1 b2 K => G_aloadX_n C hd h1 K⟩
  case aload i =>
    obtain rfl := hl.resolve_right (show ¬ (_ : Nat) = 0 by simp [ilen])
    simp only [sti] at h
    rcases ldA_inv h with ⟨a, h1, h⟩ | ⟨h1, h⟩
    · cases h
      exact ⟨mono.rf, fun hS C hd b1 b2 K => G_aload C hd h1 K⟩
    · cases h
      exact ⟨mono.rf, fun hS C hd b1 b2 K => G_aloadX C hd h1 K⟩
  case istore_n k =>
    obtain rfl := hl.resolve_right (show ¬ (_ : Nat) = 0 by simp [ilen])
    simp only [sti] at h
    obtain ⟨a, r, e_, h_⟩ := popI_inv h; clear h; subst e_; have h := h_; clear h_
    obtain ⟨hn, h⟩ := sto_inv h
    cases h
    exact ⟨mono.rf, fun hS C hd b1 b2 K => G_istore_n C hd hn K⟩
  case istore i =>
    obtain rfl := hl.resolve_right (show ¬ (_ : Nat) = 0 by simp [ilen])
    simp only [sti] at h
    obtain ⟨a, r, e_, h_⟩ := popI_inv h; clear h; subst e_; have h := h_; clear h_
    obtain ⟨hn, h⟩ := sto_inv h
    cases h
    exact ⟨mono.rf, fun hS C hd b1 b2 K => G_istore C hd hn K⟩
  case astore_n k =>
    obtain rfl := hl.resolve_right (show ¬ (_ : Nat) = 0 by simp [ilen])
    simp only [sti] at h
    obtain ⟨a, r, e_, h_⟩ := popA_inv h; clear h; subst e_; have h := h_; clear h_
    obtain ⟨hn, h⟩ := sto_inv h
    cases h
    exact ⟨mono.rf, fun hS C hd b1 b2 K => G_astore_n C hd hn K⟩
  case astore i =>
    obtain rfl := hl.resolve_right (show ¬ (_ : Nat) = 0 by simp [ilen])
    simp only [sti] at h
    obtain ⟨a, r, e_, h_⟩ := popA_inv h; clear h; subst e_; have h := h_; clear h_
    obtain ⟨hn, h⟩ := sto_inv h
    cases h
    exact ⟨mono.rf, fun hS C hd b1 b2 K => G_astore C hd hn K⟩
  case lstore_n k =>
    obtain rfl := hl.resolve_right (show ¬ (_ : Nat) = 0 by simp [ilen])
    simp only [sti] at h
    obtain ⟨a, r, e_, h_⟩ := popJ_inv h; clear h; subst e_; have h := h_; clear h_
    obtain ⟨hn, h⟩ := stoJ_inv h
    cases h
    exact ⟨mono.rf, fun hS C hd b1 b2 K => G_lstore_n C hd hn K⟩
  case lstore i =>
    obtain rfl := hl.resolve_right (show ¬ (_ : Nat) = 0 by simp [ilen])
    simp only [sti] at h
    obtain ⟨a, r, e_, h_⟩ := popJ_inv h; clear h; subst e_; have h := h_; clear h_
    obtain ⟨hn, h⟩ := stoJ_inv h
    cases h
    exact ⟨mono.rf, fun hS C hd b1 b2 K => G_lstore C hd hn K⟩
  case iconst n =>
    obtain rfl := hl.resolve_right (show ¬ (_ : Nat) = 0 by simp [ilen])
    simp only [sti] at h
    obtain ⟨hn, h⟩ := gd_inv h
    cases h
    exact ⟨mono.rf, fun hS C hd b1 b2 K => G_iconst C hd hn K⟩
  case bipush n =>
    obtain rfl := hl.resolve_right (show ¬ (_ : Nat) = 0 by simp [ilen])
    simp only [sti] at h
    obtain ⟨hn, h⟩ := gd_inv h
    cases h
    exact ⟨mono.rf, fun hS C hd b1 b2 K => G_bipush C hd hn K⟩
  case sipush n =>
    obtain rfl := hl.resolve_right (show ¬ (_ : Nat) = 0 by simp [ilen])
    simp only [sti] at h
    obtain ⟨hn, h⟩ := gd_inv h
    cases h
    exact ⟨mono.rf, fun hS C hd b1 b2 K => G_sipush C hd hn K⟩
  case lconst n =>
    obtain rfl := hl.resolve_right (show ¬ (_ : Nat) = 0 by simp [ilen])
    simp only [sti] at h
    cases h
    exact ⟨mono.rf, fun hS C hd b1 b2 K => G_lconst C hd K⟩
  case aconst_null =>
    obtain rfl := hl.resolve_right (show ¬ (_ : Nat) = 0 by simp [ilen])
    simp only [sti] at h
    cases h
    exact ⟨mono.rf, fun hS C hd b1 b2 K => G_null C hd K⟩
  case ldc i =>
    obtain rfl := hl.resolve_right (show ¬ (_ : Nat) = 0 by simp [ilen])
    simp only [sti] at h
    split at h
    · rename_i hc
      obtain ⟨hc1, rfl⟩ := hc
      cases h
      exact ⟨mono.rf, fun hS C hd b1 b2 K => G_ldcS C hd hc1 K⟩
    · obtain ⟨v, hv, h⟩ := Option.bind_eq_some_iff.mp h
      cases h
      exact ⟨mono.rf, fun hS C hd b1 b2 K => G_ldc C hd hv K⟩
  case ldc_w i =>
    obtain rfl := hl.resolve_right (show ¬ (_ : Nat) = 0 by simp [ilen])
    simp only [sti] at h
    obtain ⟨v, hv, h⟩ := Option.bind_eq_some_iff.mp h
    cases h
    exact ⟨mono.rf, fun hS C hd b1 b2 K => G_ldcw C hd hv K⟩
  case ldc2_w i =>
    obtain rfl := hl.resolve_right (show ¬ (_ : Nat) = 0 by simp [ilen])
    simp only [sti] at h
    obtain ⟨v, hv, h⟩ := Option.bind_eq_some_iff.mp h
    cases h
    exact ⟨mono.rf, fun hS C hd b1 b2 K => G_ldc2 C hd hv K⟩
  case iinc i n =>
    obtain rfl := hl.resolve_right (show ¬ (_ : Nat) = 0 by simp [ilen])
    simp only [sti] at h
    obtain ⟨a, h1, h⟩ := ldI_inv h
    simp only [popI] at h
    obtain ⟨hn, h⟩ := sto_inv h
    cases h
    exact ⟨mono.rf, fun hS C hd b1 b2 K => G_iinc C hd h1 K⟩
  case iadd =>
    obtain rfl := hl.resolve_right (show ¬ (_ : Nat) = 0 by simp [ilen])
    simp only [sti] at h
    obtain ⟨a, b, r, e_, h_⟩ := i2_inv h; clear h; subst e_; have h := h_; clear h_
    cases h
    exact ⟨mono.rf, fun hS C hd b1 b2 K => G_iadd C hd K⟩
  case isub =>
    obtain rfl := hl.resolve_right (show ¬ (_ : Nat) = 0 by simp [ilen])
    simp only [sti] at h
    obtain ⟨a, b, r, e_, h_⟩ := i2_inv h; clear h; subst e_; have h := h_; clear h_
    cases h
    exact ⟨mono.rf, fun hS C hd b1 b2 K => G_isub C hd K⟩
  case imul =>
    obtain rfl := hl.resolve_right (show ¬ (_ : Nat) = 0 by simp [ilen])
    simp only [sti] at h
    obtain ⟨a, b, r, e_, h_⟩ := i2_inv h; clear h; subst e_; have h := h_; clear h_
    cases h
    exact ⟨mono.rf, fun hS C hd b1 b2 K => G_imul C hd K⟩
  case iand =>
    obtain rfl := hl.resolve_right (show ¬ (_ : Nat) = 0 by simp [ilen])
    simp only [sti] at h
    obtain ⟨a, b, r, e_, h_⟩ := i2_inv h; clear h; subst e_; have h := h_; clear h_
    cases h
    exact ⟨mono.rf, fun hS C hd b1 b2 K => G_iand C hd K⟩
  case ior =>
    obtain rfl := hl.resolve_right (show ¬ (_ : Nat) = 0 by simp [ilen])
    simp only [sti] at h
    obtain ⟨a, b, r, e_, h_⟩ := i2_inv h; clear h; subst e_; have h := h_; clear h_
    cases h
    exact ⟨mono.rf, fun hS C hd b1 b2 K => G_ior C hd K⟩
  case ixor =>
    obtain rfl := hl.resolve_right (show ¬ (_ : Nat) = 0 by simp [ilen])
    simp only [sti] at h
    obtain ⟨a, b, r, e_, h_⟩ := i2_inv h; clear h; subst e_; have h := h_; clear h_
    cases h
    exact ⟨mono.rf, fun hS C hd b1 b2 K => G_ixor C hd K⟩
  case ishl =>
    obtain rfl := hl.resolve_right (show ¬ (_ : Nat) = 0 by simp [ilen])
    simp only [sti] at h
    obtain ⟨a, b, r, e_, h_⟩ := i2_inv h; clear h; subst e_; have h := h_; clear h_
    cases h
    exact ⟨mono.rf, fun hS C hd b1 b2 K => G_ishl C hd K⟩
  case ishr =>
    obtain rfl := hl.resolve_right (show ¬ (_ : Nat) = 0 by simp [ilen])
    simp only [sti] at h
    obtain ⟨a, b, r, e_, h_⟩ := i2_inv h; clear h; subst e_; have h := h_; clear h_
    cases h
    exact ⟨mono.rf, fun hS C hd b1 b2 K => G_ishr C hd K⟩
  case iushr =>
    obtain rfl := hl.resolve_right (show ¬ (_ : Nat) = 0 by simp [ilen])
    simp only [sti] at h
    obtain ⟨a, b, r, e_, h_⟩ := i2_inv h; clear h; subst e_; have h := h_; clear h_
    cases h
    exact ⟨mono.rf, fun hS C hd b1 b2 K => G_iushr C hd K⟩
  case ineg =>
    obtain rfl := hl.resolve_right (show ¬ (_ : Nat) = 0 by simp [ilen])
    simp only [sti] at h
    obtain ⟨a, r, e_, h_⟩ := i1_inv h; clear h; subst e_; have h := h_; clear h_
    cases h
    exact ⟨mono.rf, fun hS C hd b1 b2 K => G_ineg C hd K⟩
  case i2b =>
    obtain rfl := hl.resolve_right (show ¬ (_ : Nat) = 0 by simp [ilen])
    simp only [sti] at h
    obtain ⟨a, r, e_, h_⟩ := i1_inv h; clear h; subst e_; have h := h_; clear h_
    cases h
    exact ⟨mono.rf, fun hS C hd b1 b2 K => G_i2b C hd K⟩
  case i2s =>
    obtain rfl := hl.resolve_right (show ¬ (_ : Nat) = 0 by simp [ilen])
    simp only [sti] at h
    obtain ⟨a, r, e_, h_⟩ := i1_inv h; clear h; subst e_; have h := h_; clear h_
    cases h
    exact ⟨mono.rf, fun hS C hd b1 b2 K => G_i2s C hd K⟩
  case ladd =>
    obtain rfl := hl.resolve_right (show ¬ (_ : Nat) = 0 by simp [ilen])
    simp only [sti] at h
    obtain ⟨a, b, r, e_, h_⟩ := l2_inv h; clear h; subst e_; have h := h_; clear h_
    cases h
    exact ⟨mono.rf, fun hS C hd b1 b2 K => G_ladd C hd K⟩
  case lsub =>
    obtain rfl := hl.resolve_right (show ¬ (_ : Nat) = 0 by simp [ilen])
    simp only [sti] at h
    obtain ⟨a, b, r, e_, h_⟩ := l2_inv h; clear h; subst e_; have h := h_; clear h_
    cases h
    exact ⟨mono.rf, fun hS C hd b1 b2 K => G_lsub C hd K⟩
  case lmul =>
    obtain rfl := hl.resolve_right (show ¬ (_ : Nat) = 0 by simp [ilen])
    simp only [sti] at h
    obtain ⟨a, b, r, e_, h_⟩ := l2_inv h; clear h; subst e_; have h := h_; clear h_
    cases h
    exact ⟨mono.rf, fun hS C hd b1 b2 K => G_lmul C hd K⟩
  case idiv =>
    obtain rfl := hl.resolve_right (show ¬ (_ : Nat) = 0 by simp [ilen])
    simp only [sti] at h
    obtain ⟨b, r, e_, h_⟩ := popI_inv h; clear h; subst e_; have h := h_; clear h_
    obtain ⟨a, r, e_, h_⟩ := popI_inv h; clear h; subst e_; have h := h_; clear h_
    obtain ⟨hb, h⟩ := gd_inv h
    cases h
    exact ⟨mono.rf, fun hS C hd b1 b2 K => G_idiv C hd hb K⟩
  case irem =>
    obtain rfl := hl.resolve_right (show ¬ (_ : Nat) = 0 by simp [ilen])
    simp only [sti] at h
    obtain ⟨b, r, e_, h_⟩ := popI_inv h; clear h; subst e_; have h := h_; clear h_
    obtain ⟨a, r, e_, h_⟩ := popI_inv h; clear h; subst e_; have h := h_; clear h_
    obtain ⟨hb, h⟩ := gd_inv h
    cases h
    exact ⟨mono.rf, fun hS C hd b1 b2 K => G_irem C hd hb K⟩
  case ldiv =>
    obtain rfl := hl.resolve_right (show ¬ (_ : Nat) = 0 by simp [ilen])
    simp only [sti] at h
    obtain ⟨b, r, e_, h_⟩ := popJ_inv h; clear h; subst e_; have h := h_; clear h_
    obtain ⟨a, r, e_, h_⟩ := popJ_inv h; clear h; subst e_; have h := h_; clear h_
    obtain ⟨hb, h⟩ := gd_inv h
    cases h
    exact ⟨mono.rf, fun hS C hd b1 b2 K => G_ldiv C hd hb K⟩
  case lrem =>
    obtain rfl := hl.resolve_right (show ¬ (_ : Nat) = 0 by simp [ilen])
    simp only [sti] at h
    obtain ⟨b, r, e_, h_⟩ := popJ_inv h; clear h; subst e_; have h := h_; clear h_
    obtain ⟨a, r, e_, h_⟩ := popJ_inv h; clear h; subst e_; have h := h_; clear h_
    obtain ⟨hb, h⟩ := gd_inv h
    cases h
    exact ⟨mono.rf, fun hS C hd b1 b2 K => G_lrem C hd hb K⟩
  case lneg =>
    obtain rfl := hl.resolve_right (show ¬ (_ : Nat) = 0 by simp [ilen])
    simp only [sti] at h
    obtain ⟨a, r, e_, h_⟩ := popJ_inv h; clear h; subst e_; have h := h_; clear h_
    cases h
    exact ⟨mono.rf, fun hS C hd b1 b2 K => G_lneg C hd K⟩
  case lcmp =>
    obtain rfl := hl.resolve_right (show ¬ (_ : Nat) = 0 by simp [ilen])
    simp only [sti] at h
    obtain ⟨b, r, e_, h_⟩ := popJ_inv h; clear h; subst e_; have h := h_; clear h_
    obtain ⟨a, r, e_, h_⟩ := popJ_inv h; clear h; subst e_; have h := h_; clear h_
    cases h
    exact ⟨mono.rf, fun hS C hd b1 b2 K => G_lcmp C hd K⟩
  case i2l =>
    obtain rfl := hl.resolve_right (show ¬ (_ : Nat) = 0 by simp [ilen])
    simp only [sti] at h
    obtain ⟨a, r, e_, h_⟩ := popI_inv h; clear h; subst e_; have h := h_; clear h_
    cases h
    exact ⟨mono.rf, fun hS C hd b1 b2 K => G_i2l C hd K⟩
  case dup =>
    obtain rfl := hl.resolve_right (show ¬ (_ : Nat) = 0 by simp [ilen])
    simp only [sti] at h
    obtain ⟨a, r, e_, h_⟩ := popV_inv h; clear h; subst e_; have h := h_; clear h_
    obtain ⟨hb, h⟩ := gd_inv h
    cases h
    exact ⟨mono.rf, fun hS C hd b1 b2 K => G_dup C hd hb K⟩
  case pop =>
    obtain rfl := hl.resolve_right (show ¬ (_ : Nat) = 0 by simp [ilen])
    simp only [sti] at h
    obtain ⟨a, r, e_, h_⟩ := popV_inv h; clear h; subst e_; have h := h_; clear h_
    obtain ⟨hb, h⟩ := gd_inv h
    cases h
    exact ⟨mono.rf, fun hS C hd b1 b2 K => G_pop C hd hb K⟩
  case dup2 =>
    obtain rfl := hl.resolve_right (show ¬ (_ : Nat) = 0 by simp [ilen])
    simp only [sti] at h
    obtain ⟨a, r, e_, h_⟩ := popV_inv h; clear h; subst e_; have h := h_; clear h_
    obtain ⟨b, r, e_, h_⟩ := popV_inv h; clear h; subst e_; have h := h_; clear h_
    obtain ⟨hb, h⟩ := gd_inv h
    cases h
    exact ⟨mono.rf, fun hS C hd b1 b2 K => G_dup2 C hd hb.1 hb.2 K⟩
  case if_icmp cc off =>
    obtain rfl := hl.resolve_right (show ¬ (_ : Nat) = 0 by simp [ilen])
    simp only [sti] at h
    obtain ⟨b, r, e_, h_⟩ := popI_inv h; clear h; subst e_; have h := h_; clear h_
    obtain ⟨a, r, e_, h_⟩ := popI_inv h; clear h; subst e_; have h := h_; clear h_
    obtain ⟨t, ht, h⟩ := br_inv h
    split at h
    · rename_i hc
      cases h
      refine ⟨mono.rf, fun hS C hd b1 b2 K => ?_⟩
      cases cc <;> simp only [cnd, decide_eq_true_eq] at hc
      · exact G_icmp_eq C hd ht (fun _ => K) (fun q => absurd hc q)
      · exact G_icmp_ne C hd ht (fun _ => K) (fun q => absurd hc q)
      · exact G_icmp_lt C hd ht (fun _ => K) (fun q => absurd hc q)
      · exact G_icmp_ge C hd ht (fun _ => K) (fun q => absurd hc q)
      · exact G_icmp_gt C hd ht (fun _ => K) (fun q => absurd hc q)
      · exact G_icmp_le C hd ht (fun _ => K) (fun q => absurd hc q)
    · rename_i hc
      cases h
      refine ⟨mono.rf, fun hS C hd b1 b2 K => ?_⟩
      cases cc <;> simp only [cnd, decide_eq_true_eq] at hc
      · exact G_icmp_eq C hd ht (fun q => absurd q hc) (fun _ => K)
      · exact G_icmp_ne C hd ht (fun q => absurd q hc) (fun _ => K)
      · exact G_icmp_lt C hd ht (fun q => absurd q hc) (fun _ => K)
      · exact G_icmp_ge C hd ht (fun q => absurd q hc) (fun _ => K)
      · exact G_icmp_gt C hd ht (fun q => absurd q hc) (fun _ => K)
      · exact G_icmp_le C hd ht (fun q => absurd q hc) (fun _ => K)
  case ifCond cc off =>
    obtain rfl := hl.resolve_right (show ¬ (_ : Nat) = 0 by simp [ilen])
    simp only [sti] at h
    obtain ⟨a, r, e_, h_⟩ := popI_inv h; clear h; subst e_; have h := h_; clear h_
    obtain ⟨t, ht, h⟩ := br_inv h
    split at h
    · rename_i hc
      cases h
      refine ⟨mono.rf, fun hS C hd b1 b2 K => ?_⟩
      cases cc <;> simp only [cnd, decide_eq_true_eq] at hc
      · exact G_if_eq C hd ht (fun _ => K) (fun q => absurd hc q)
      · exact G_if_ne C hd ht (fun _ => K) (fun q => absurd hc q)
      · exact G_if_lt C hd ht (fun _ => K) (fun q => absurd hc q)
      · exact G_if_ge C hd ht (fun _ => K) (fun q => absurd hc q)
      · exact G_if_gt C hd ht (fun _ => K) (fun q => absurd hc q)
      · exact G_if_le C hd ht (fun _ => K) (fun q => absurd hc q)
    · rename_i hc
      cases h
      refine ⟨mono.rf, fun hS C hd b1 b2 K => ?_⟩
      cases cc <;> simp only [cnd, decide_eq_true_eq] at hc
      · exact G_if_eq C hd ht (fun q => absurd q hc) (fun _ => K)
      · exact G_if_ne C hd ht (fun q => absurd q hc) (fun _ => K)
      · exact G_if_lt C hd ht (fun q => absurd q hc) (fun _ => K)
      · exact G_if_ge C hd ht (fun q => absurd q hc) (fun _ => K)
      · exact G_if_gt C hd ht (fun q => absurd q hc) (fun _ => K)
      · exact G_if_le C hd ht (fun q => absurd q hc) (fun _ => K)
  case ifnonnull off =>
    obtain rfl := hl.resolve_right (show ¬ (_ : Nat) = 0 by simp [ilen])
    simp only [sti] at h
    obtain ⟨a, r, e_, h_⟩ := popA_inv h; clear h; subst e_; have h := h_; clear h_
    split at h
    · rename_i hc
      subst hc
      cases h
      exact ⟨mono.rf, fun hS C hd b1 b2 K => G_nonnull0 C hd K⟩
    · rename_i hc
      obtain ⟨t, ht, h⟩ := br_inv h
      cases h
      exact ⟨mono.rf, fun hS C hd b1 b2 K => G_nonnull1 C hd ht (by omega) K⟩
  case goto off =>
    obtain rfl := hl.resolve_right (show ¬ (_ : Nat) = 0 by simp [ilen])
    simp only [sti] at h
    obtain ⟨t, ht, h⟩ := br_inv h
    cases h
    exact ⟨mono.rf, fun hS C hd b1 b2 K => G_goto C hd ht K⟩
  case tableswitch dd lo hi offs =>
    simp only [sti] at h
    obtain ⟨a, r, e_, h_⟩ := popI_inv h; clear h; subst e_; have h := h_; clear h_
    split at h
    · rename_i hc
      obtain ⟨t, ht, h⟩ := br_inv h
      cases h
      exact ⟨mono.rf, fun hS C hd b1 b2 K => G_tabOut C hd hc ht K⟩
    · rename_i hc
      obtain ⟨off, ho, h⟩ := Option.bind_eq_some_iff.mp h
      obtain ⟨t, ht, h⟩ := br_inv h
      cases h
      exact ⟨mono.rf, fun hS C hd b1 b2 K => G_tabIn C hd hc ho ht K⟩
  case lookupswitch dd ps =>
    simp only [sti] at h
    obtain ⟨a, r, e_, h_⟩ := popI_inv h; clear h; subst e_; have h := h_; clear h_
    obtain ⟨hb, h⟩ := gd_inv h
    obtain ⟨t, ht, h⟩ := br_inv h
    cases h
    exact ⟨mono.rf, fun hS C hd b1 b2 K => G_lookup C hd hb ht K⟩
  case getfield i =>
    obtain rfl := hl.resolve_right (show ¬ (_ : Nat) = 0 by simp [ilen])
    simp only [sti] at h
    obtain ⟨a, r, e_, h_⟩ := popA_inv h; clear h; subst e_; have h := h_; clear h_
    obtain ⟨f, hf, h⟩ := Option.bind_eq_some_iff.mp h
    obtain ⟨hk, h⟩ := gd_inv h
    cases h
    exact ⟨mono.rf, fun hS C hd b1 b2 K => G_getfield C hd hf hk K⟩
  case putfield i =>
    obtain rfl := hl.resolve_right (show ¬ (_ : Nat) = 0 by simp [ilen])
    simp only [sti] at h
    obtain ⟨v, r, e_, h_⟩ := popV_inv h; clear h; subst e_; have h := h_; clear h_
    obtain ⟨o, r, e_, h_⟩ := popA_inv h; clear h; subst e_; have h := h_; clear h_
    obtain ⟨f, hf, h⟩ := Option.bind_eq_some_iff.mp h
    obtain ⟨hk, h⟩ := gd_inv h
    have f3 := (fok _ (lk_mem hf)).2.2
    simp only at f3
    split at h
    · rename_i ht
      obtain ⟨q, r', e, h⟩ := popA_inv h
      cases e
      cases h
      exact ⟨mono_up (k_pos hk.1 (by omega)), fun hS C hd b1 b2 K => G_putA C hd hf hk.1 hk.2 ht K⟩
    · obtain ⟨q, r', e, h⟩ := popI_inv h
      cases e
      obtain ⟨ht, h⟩ := gd_inv h
      cases h
      exact ⟨mono.rf, fun hS C hd b1 b2 K => G_putI C hd hf hk.1 hk.2 ht K⟩
  case iaload =>
    obtain rfl := hl.resolve_right (show ¬ (_ : Nat) = 0 by simp [ilen])
    simp only [sti] at h
    obtain ⟨i, r, e_, h_⟩ := popI_inv h; clear h; subst e_; have h := h_; clear h_
    rcases popX_inv h with ⟨r, e_, h_⟩ | h_ <;> clear h
    · subst e_; have h := h_; clear h_
      obtain ⟨hb, h⟩ := gd_inv h
      cases h
      exact ⟨mono.rf, fun hS C hd b1 b2 K => G_sload C hd hb.1 hb.2 K⟩
    · have h := h_; clear h_
      obtain ⟨a, r, e_, h_⟩ := popA_inv h; clear h; subst e_; have h := h_; clear h_
      obtain ⟨hb, h⟩ := gd_inv h
      cases h
      exact ⟨mono.rf, fun hS C hd b1 b2 K => G_iaload C hd hb.1 hb.2.1 hb.2.2 K⟩
  case arraylength =>
    obtain rfl := hl.resolve_right (show ¬ (_ : Nat) = 0 by simp [ilen])
    simp only [sti] at h
    rcases popX_inv h with ⟨r, e_, h_⟩ | h_ <;> clear h
    · subst e_; have h := h_; clear h_
      cases h
      exact ⟨mono.rf, fun hS C hd b1 b2 K => G_slen C hd K⟩
    · have h := h_; clear h_
      obtain ⟨a, r, e_, h_⟩ := popA_inv h; clear h; subst e_; have h := h_; clear h_
      obtain ⟨hb, h⟩ := gd_inv h
      cases h
      exact ⟨mono.rf, fun hS C hd b1 b2 K => G_alen C hd hb K⟩
  case baload =>
    obtain rfl := hl.resolve_right (show ¬ (_ : Nat) = 0 by simp [ilen])
    simp only [sti] at h
    obtain ⟨i, r, e_, h_⟩ := popI_inv h; clear h; subst e_; have h := h_; clear h_
    obtain ⟨a, r, e_, h_⟩ := popA_inv h; clear h; subst e_; have h := h_; clear h_
    obtain ⟨hb, h⟩ := gd_inv h
    cases h
    exact ⟨mono.rf, fun hS C hd b1 b2 K => G_baload C hd hb.1 hb.2.1 hb.2.2 K⟩
  case laload =>
    obtain rfl := hl.resolve_right (show ¬ (_ : Nat) = 0 by simp [ilen])
    simp only [sti] at h
    obtain ⟨i, r, e_, h_⟩ := popI_inv h; clear h; subst e_; have h := h_; clear h_
    obtain ⟨a, r, e_, h_⟩ := popA_inv h; clear h; subst e_; have h := h_; clear h_
    obtain ⟨hb, h⟩ := gd_inv h
    cases h
    exact ⟨mono.rf, fun hS C hd b1 b2 K => G_laload C hd hb.1 hb.2.1 hb.2.2 K⟩
  case aaload =>
    obtain rfl := hl.resolve_right (show ¬ (_ : Nat) = 0 by simp [ilen])
    simp only [sti] at h
    obtain ⟨i, r, e_, h_⟩ := popI_inv h; clear h; subst e_; have h := h_; clear h_
    obtain ⟨a, r, e_, h_⟩ := popA_inv h; clear h; subst e_; have h := h_; clear h_
    obtain ⟨hb, h⟩ := gd_inv h
    cases h
    exact ⟨mono.rf, fun hS C hd b1 b2 K => G_aaload C hd hb.1 hb.2.1 hb.2.2 K⟩
  case iastore =>
    obtain rfl := hl.resolve_right (show ¬ (_ : Nat) = 0 by simp [ilen])
    simp only [sti] at h
    obtain ⟨x, r, e_, h_⟩ := popI_inv h; clear h; subst e_; have h := h_; clear h_
    obtain ⟨i, r, e_, h_⟩ := popI_inv h; clear h; subst e_; have h := h_; clear h_
    obtain ⟨a, r, e_, h_⟩ := popA_inv h; clear h; subst e_; have h := h_; clear h_
    obtain ⟨hb, h⟩ := gd_inv h
    cases h
    exact ⟨mono.rf, fun hS C hd b1 b2 K => G_iastore C hd hb.1 hb.2.1 hb.2.2 K⟩
  case bastore =>
    obtain rfl := hl.resolve_right (show ¬ (_ : Nat) = 0 by simp [ilen])
    simp only [sti] at h
    obtain ⟨x, r, e_, h_⟩ := popI_inv h; clear h; subst e_; have h := h_; clear h_
    obtain ⟨i, r, e_, h_⟩ := popI_inv h; clear h; subst e_; have h := h_; clear h_
    obtain ⟨a, r, e_, h_⟩ := popA_inv h; clear h; subst e_; have h := h_; clear h_
    obtain ⟨hb, h⟩ := gd_inv h
    cases h
    exact ⟨mono.rf, fun hS C hd b1 b2 K => G_bastore C hd hb.1 hb.2.1 hb.2.2.1 hb.2.2.2 K⟩
  case lastore =>
    obtain rfl := hl.resolve_right (show ¬ (_ : Nat) = 0 by simp [ilen])
    simp only [sti] at h
    obtain ⟨x, r, e_, h_⟩ := popJ_inv h; clear h; subst e_; have h := h_; clear h_
    obtain ⟨i, r, e_, h_⟩ := popI_inv h; clear h; subst e_; have h := h_; clear h_
    obtain ⟨a, r, e_, h_⟩ := popA_inv h; clear h; subst e_; have h := h_; clear h_
    obtain ⟨hb, h⟩ := gd_inv h
    cases h
    exact ⟨mono.rf, fun hS C hd b1 b2 K => G_lastore C hd hb.1 hb.2.1 hb.2.2 K⟩
  case aastore =>
    obtain rfl := hl.resolve_right (show ¬ (_ : Nat) = 0 by simp [ilen])
    simp only [sti] at h
    obtain ⟨x, r, e_, h_⟩ := popA_inv h; clear h; subst e_; have h := h_; clear h_
    obtain ⟨i, r, e_, h_⟩ := popI_inv h; clear h; subst e_; have h := h_; clear h_
    obtain ⟨a, r, e_, h_⟩ := popA_inv h; clear h; subst e_; have h := h_; clear h_
    obtain ⟨hb, h⟩ := gd_inv h
    cases h
    exact ⟨mono_up (by rcases hb.1 with hk | hk <;> exact k_pos hk.1 (by omega)), fun hS C hd b1 b2 K => G_aastore C hd hb.1 hb.2.1 hb.2.2 K⟩
  case newarray t =>
    obtain rfl := hl.resolve_right (show ¬ (_ : Nat) = 0 by simp [ilen])
    simp only [sti] at h
    obtain ⟨n, r, e_, h_⟩ := popI_inv h; clear h; subst e_; have h := h_; clear h_
    obtain ⟨hb, h⟩ := gd_inv h
    cases h
    refine ⟨mono_new _ _ _, fun hS C hd b1 b2 K => ?_⟩
    rw [newR_00] at b1
    rw [newR_01] at b2
    rcases hb.2.2 with ⟨rfl, hk⟩ | ⟨rfl, hk⟩ | ⟨rfl, hk⟩
    · exact G_newa_int C hd hb.1 hb.2.1 hk b1 b2 K
    · exact G_newa_long C hd hb.1 hb.2.1 hk b1 b2 K
    · exact G_newa_boolean C hd hb.1 hb.2.1 hk b1 b2 K
  case anewarray i =>
    obtain rfl := hl.resolve_right (show ¬ (_ : Nat) = 0 by simp [ilen])
    simp only [sti] at h
    obtain ⟨n, r, e_, h_⟩ := popI_inv h; clear h; subst e_; have h := h_; clear h_
    obtain ⟨kd, hf, h⟩ := Option.bind_eq_some_iff.mp h
    obtain ⟨hb, h⟩ := gd_inv h
    cases h
    refine ⟨mono_new _ _ _, fun hS C hd b1 b2 K => ?_⟩
    rw [newR_00] at b1
    rw [newR_01] at b2
    rcases hb.2.2.2 with rfl | rfl
    · exact G_anew_16 C hd hf hb.1 hb.2.1 hb.2.2.1 b1 b2 K
    · exact G_anew_17 C hd hf hb.1 hb.2.1 hb.2.2.1 b1 b2 K
  case new i =>
    obtain rfl := hl.resolve_right (show ¬ (_ : Nat) = 0 by simp [ilen])
    simp only [sti] at h
    obtain ⟨kd, hf, h⟩ := Option.bind_eq_some_iff.mp h
    obtain ⟨hb, h⟩ := gd_inv h
    cases h
    refine ⟨mono_new _ _ _, fun hS C hd b1 b2 K => ?_⟩
    rw [newR_00] at b1
    rw [newR_01] at b2
    exact G_new C hd hf hb b1 b2 K
  case checkcast i =>
    obtain rfl := hl.resolve_right (show ¬ (_ : Nat) = 0 by simp [ilen])
    simp only [sti] at h
    obtain ⟨a, r, e_, h_⟩ := popA_inv h; clear h; subst e_; have h := h_; clear h_
    obtain ⟨⟨hb, e_, hk⟩, h_⟩ := gd_inv h
    cases h_
    subst e_
    exact ⟨mono.rf, fun hS C hd b1 b2 K => G_cast C hd hb hk K⟩
  case invokespecial i =>
    obtain rfl := hl.resolve_right (show ¬ (_ : Nat) = 0 by simp [ilen])
    simp only [sti] at h
    split at h
    · rename_i hbl
      obtain ⟨a, r, e_, h_⟩ := popA_inv h; clear h; subst e_; have h := h_; clear h_
      obtain ⟨hb, h⟩ := gd_inv h
      cases h
      exact ⟨mono.rf, fun hS C hd b1 b2 K => G_objInit C hd hbl hb.1 hb.2 K⟩
    · obtain ⟨f, hf, h⟩ := Option.bind_eq_some_iff.mp h
      obtain ⟨a, r, he, h⟩ := popA_inv h
      obtain ⟨hb, h⟩ := gd_inv h
      obtain ⟨hcat, h⟩ := gd_inv h
      obtain ⟨q, hq, h⟩ := Option.bind_eq_some_iff.mp h
      obtain ⟨v, M', R'⟩ := q
      cases h
      obtain ⟨f1, f2⟩ := f
      obtain ⟨rfl, hk⟩ := hb
      refine ⟨hcm _ _ _ _ _ _ _ hq, fun hS C hd b1 b2 K => ?_⟩
      have hst : st = (st.take (narOf f2)).reverse.reverse ++ vA a :: r := by rw [List.reverse_reverse, ← he, List.take_append_drop]
      have hlen : (st.take (narOf f2)).reverse.length = narOf f2 := by
        rw [List.length_reverse, List.length_take]
        have : (st.drop (narOf f2)).length = (vA a :: r).length := by rw [he]
        rw [List.length_drop] at this
        simp only [List.length_cons] at this
        omega
      rw [hst]
      exact G_callI C hS hd hf hq (hcm _ _ _ _ _ _ _ hq) b1 b2 hcat hlen hk K
  case invokevirtual i =>
    obtain rfl := hl.resolve_right (show ¬ (_ : Nat) = 0 by simp [ilen])
    simp only [sti] at h
    split at h
    · rename_i hbl
      obtain ⟨a, r, e_, h_⟩ := popA_inv h; clear h; subst e_; have h := h_; clear h_
      obtain ⟨hb, h⟩ := gd_inv h
      cases h
      refine ⟨mono_new _ _ _, fun hS C hd b1 b2 K => ?_⟩
      rw [newR_00] at b1
      rw [newR_01] at b2
      exact G_clone C hd hbl hb.1 hb.2.1 hb.2.2 b1 b2 K
    · split at h
      · rename_i hbl
        rcases popX_inv h with ⟨r, e_, h_⟩ | h_ <;> clear h
        · subst e_; have h := h_; clear h_
          obtain ⟨hb, h⟩ := gd_inv h
          cases h
          exact ⟨mono.rf, fun hS C hd b1 b2 K => G_strlen C hd hbl hb b1 b2 K⟩
        · cases h_
      · split at h
        · rename_i hbl
          obtain ⟨j, r, e_, h_⟩ := popI_inv h; clear h; subst e_; have h := h_; clear h_
          rcases popX_inv h with ⟨r, e_, h_⟩ | h_ <;> clear h
          · subst e_; have h := h_; clear h_
            obtain ⟨hb, h⟩ := gd_inv h
            cases h
            exact ⟨mono.rf, fun hS C hd b1 b2 K => G_charAt C hd hbl hb.1 hb.2.1 hb.2.2 b1 b2 K⟩
          · cases h_
        · obtain ⟨f, hf, h⟩ := Option.bind_eq_some_iff.mp h
          obtain ⟨a, r, he, h⟩ := popA_inv h
          obtain ⟨hb, h⟩ := gd_inv h
          obtain ⟨hcat, h⟩ := gd_inv h
          obtain ⟨q, hq, h⟩ := Option.bind_eq_some_iff.mp h
          obtain ⟨v, M', R'⟩ := q
          cases h
          obtain ⟨f1, f2⟩ := f
          obtain ⟨rfl, hk⟩ := hb
          refine ⟨hcm _ _ _ _ _ _ _ hq, fun hS C hd b1 b2 K => ?_⟩
          have hst : st = (st.take (narOf f2)).reverse.reverse ++ vA a :: r := by rw [List.reverse_reverse, ← he, List.take_append_drop]
          have hlen : (st.take (narOf f2)).reverse.length = narOf f2 := by
            rw [List.length_reverse, List.length_take]
            have : (st.drop (narOf f2)).length = (vA a :: r).length := by rw [he]
            rw [List.length_drop] at this
            simp only [List.length_cons] at this
            omega
          rw [hst]
          exact G_callV C hS hd hf hq (hcm _ _ _ _ _ _ _ hq) b1 b2 hcat hlen hk K
  case invokestatic i =>
    obtain rfl := hl.resolve_right (show ¬ (_ : Nat) = 0 by simp [ilen])
    simp only [sti] at h
    split at h
    · rename_i hbl
      obtain ⟨n, r, e_, h_⟩ := popI_inv h; clear h; subst e_; have h := h_; clear h_
      obtain ⟨dp, r, e_, h_⟩ := popI_inv h; clear h; subst e_; have h := h_; clear h_
      obtain ⟨b, r, e_, h_⟩ := popA_inv h; clear h; subst e_; have h := h_; clear h_
      obtain ⟨sp, r, e_, h_⟩ := popI_inv h; clear h; subst e_; have h := h_; clear h_
      obtain ⟨a, r, e_, h_⟩ := popA_inv h; clear h; subst e_; have h := h_; clear h_
      obtain ⟨⟨q1, q2, q3, q4, q5, q6, q7, q8⟩, h⟩ := gd_inv h
      cases h
      exact ⟨mono.rf, fun hS C hd b1 b2 K => G_acopy C hd hbl q1 q2 q3 q4 q5 q6 q7 q8 K⟩
    · split at h
      · rename_i hbl
        obtain ⟨b, r, e_, h_⟩ := popI_inv h; clear h; subst e_; have h := h_; clear h_
        obtain ⟨a, r, e_, h_⟩ := popI_inv h; clear h; subst e_; have h := h_; clear h_
        obtain ⟨hb, h⟩ := gd_inv h
        cases h
        exact ⟨mono.rf, fun hS C hd b1 b2 K => G_mmax C hd hbl hb b1 b2 K⟩
      · split at h
        · rename_i hbl
          obtain ⟨b, r, e_, h_⟩ := popI_inv h; clear h; subst e_; have h := h_; clear h_
          obtain ⟨a, r, e_, h_⟩ := popI_inv h; clear h; subst e_; have h := h_; clear h_
          obtain ⟨hb, h⟩ := gd_inv h
          cases h
          exact ⟨mono.rf, fun hS C hd b1 b2 K => G_mmin C hd hbl hb b1 b2 K⟩
        · split at h
          · rename_i hbl
            obtain ⟨a, r, e_, h_⟩ := popJ_inv h; clear h; subst e_; have h := h_; clear h_
            obtain ⟨hb, h⟩ := gd_inv h
            cases h
            exact ⟨mono.rf, fun hS C hd b1 b2 K => G_mabs C hd hbl hb b1 b2 K⟩
          · obtain ⟨f, hf, h⟩ := Option.bind_eq_some_iff.mp h
            obtain ⟨hb, h⟩ := gd_inv h
            obtain ⟨hcat, h⟩ := gd_inv h
            obtain ⟨q, hq, h⟩ := Option.bind_eq_some_iff.mp h
            obtain ⟨v, M', R'⟩ := q
            cases h
            obtain ⟨f1, f2⟩ := f
            obtain ⟨rfl, hk⟩ := hb
            refine ⟨hcm _ _ _ _ _ _ _ hq, fun hS C hd b1 b2 K => ?_⟩
            have hst : st = (st.take (narOf f2)).reverse.reverse ++ st.drop (narOf f2) := by rw [List.reverse_reverse, List.take_append_drop]
            have hlen : (st.take (narOf f2)).reverse.length = narOf f2 := by
              rw [List.length_reverse, List.length_take]
              simp only at hk
              omega
            have g := G_callS C hS hd hf hq (hcm _ _ _ _ _ _ _ hq) b1 b2 hcat hlen K
            rw [← hst] at g
            exact g
  case ireturn =>
    simp only [sti] at h
    obtain ⟨a, r, e_, h_⟩ := popI_inv h; clear h; subst e_; have h := h_; clear h_
    obtain ⟨rfl, h⟩ := gd_inv h
    cases h
    exact ⟨rfl, rfl, .inl ⟨_, rfl, rfl, rfl⟩⟩
  case lreturn =>
    simp only [sti] at h
    obtain ⟨a, r, e_, h_⟩ := popJ_inv h; clear h; subst e_; have h := h_; clear h_
    obtain ⟨rfl, h⟩ := gd_inv h
    cases h
    exact ⟨rfl, rfl, .inr (.inl ⟨_, rfl, rfl, rfl⟩)⟩
  case areturn =>
    simp only [sti] at h
    obtain ⟨a, r, e_, h_⟩ := popA_inv h; clear h; subst e_; have h := h_; clear h_
    obtain ⟨rfl, h⟩ := gd_inv h
    cases h
    exact ⟨rfl, rfl, .inr (.inr (.inl ⟨_, rfl, rfl, rfl⟩))⟩
  case return_ =>
    simp only [sti] at h
    obtain ⟨rfl, h⟩ := gd_inv h
    cases h
    exact ⟨rfl, rfl, .inr (.inr (.inr ⟨rfl, rfl, rfl⟩))⟩
  all_goals cases h
theorem rn_mono (p : Program) (l : Launch) (e : Env) (Rm : Room) (s : State) (m : MethodId) (meth : Method) (c : Code) {cf : CF} (hcm : CM cf) : ∀ (n : Nat) {pc : Nat} {lv st : List AV} {M : MM} {R : RR} {v : AV} {M' : MM} {R' : RR}, rn cf mi n pc lv st M R = some (v, M', R') → mono R R' := by
  intro n
  induction n with
  | zero => intro pc lv st M R v M' R' h; simp [rn] at h
  | succ n ih =>
    intro pc lv st M R v M' R' h
    simp only [rn] at h
    split at h
    · cases h
    · rename_i q hq
      cases h
      unfold stp at hq
      split at hq
      · split at hq
        · rename_i ins len hdec hl
          have g := sti_good (p := p) (l := l) (e := e) (Rm := Rm) (s := s) (m := m) (args := #[]) (below := []) (meth := meth) (c := c) (D := (fun _ => 0, fun _ _ => 0)) (cy := fun _ => 0) (xa := id) (A := fun _ => True) (sc := fun _ => 0) (Ls := 0) (d := 0) (ad0 := id) (n0 := 0) (s0 := 0) (Q := fun _ => True) hcm hl hq
          obtain ⟨-, rfl, -⟩ := g
          exact mono.rf
        · cases hq
      · cases hq
    · rename_i pc1 lv1 st1 M1 R1 hq
      unfold stp at hq
      split at hq
      · split at hq
        · rename_i ins len hdec hl
          have g := sti_good (p := p) (l := l) (e := e) (Rm := Rm) (s := s) (m := m) (args := #[]) (below := []) (meth := meth) (c := c) (D := (fun _ => 0, fun _ _ => 0)) (cy := fun _ => 0) (xa := id) (A := fun _ => True) (sc := fun _ => 0) (Ls := 0) (d := 0) (ad0 := id) (n0 := 0) (s0 := 0) (Q := fun _ => True) hcm hl hq
          have g2 := ih h
          exact ⟨Nat.le_trans g.1.1 g2.1, Nat.le_trans g.1.2 g2.2⟩
        · cases hq
      · cases hq
theorem rn_sound {cf : CF} (hcm : CM cf) (hS : SC l D cy xa A sc Ls d cf) (C : CX p Rm s m args meth c D cy xa A sc Ls mi d) {v : AV} {M' : MM} {R' : RR} (b1 : R' 0 0 ≤ n0 + Rm.cells) (b2 : R' 0 1 ≤ s0 + Rm.slots)
    (RT : ∀ (pc : Nat) (lv st : List AV) (ins : Instr), decode (codeOf mi) pc = .ok (ins, 1) → retIs ins v st → GW p l e Rm s m args below meth c D cy xa A sc Ls mi ad0 n0 s0 Q pc lv st M' R') :
    ∀ (n : Nat) {pc : Nat} {lv st : List AV} {M : MM} {R : RR}, rn cf mi n pc lv st M R = some (v, M', R') → GW p l e Rm s m args below meth c D cy xa A sc Ls mi ad0 n0 s0 Q pc lv st M R := by
  intro n
  induction n with
  | zero => intro pc lv st M R h; simp [rn] at h
  | succ n ih =>
    intro pc lv st M R h
    simp only [rn] at h
    split at h
    · cases h
    · rename_i q hq
      cases h
      unfold stp at hq
      split at hq
      · split at hq
        · rename_i ins len hdec hl
          have g := sti_good (p := p) (l := l) (e := e) (Rm := Rm) (s := s) (m := m) (args := args) (below := below) (meth := meth) (c := c) (D := D) (cy := cy) (xa := xa) (A := A) (sc := sc) (Ls := Ls) (d := d) (ad0 := ad0) (n0 := n0) (s0 := s0) (Q := Q) hcm hl hq
          obtain ⟨rfl, rfl, hr⟩ := g
          have hlen : len = 1 := by
            rcases hr with ⟨x, rfl, -⟩ | ⟨x, rfl, -⟩ | ⟨x, rfl, -⟩ | ⟨rfl, -⟩ <;> (simp [ilen] at hl; omega)
          subst hlen
          exact RT _ _ _ ins hdec hr
        · cases hq
      · cases hq
    · rename_i pc1 lv1 st1 M1 R1 hq
      unfold stp at hq
      split at hq
      · split at hq
        · rename_i ins len hdec hl
          have g := sti_good (p := p) (l := l) (e := e) (Rm := Rm) (s := s) (m := m) (args := args) (below := below) (meth := meth) (c := c) (D := D) (cy := cy) (xa := xa) (A := A) (sc := sc) (Ls := Ls) (d := d) (ad0 := ad0) (n0 := n0) (s0 := s0) (Q := Q) hcm hl hq
          have g2 := rn_mono (mi := mi) p l e Rm s m meth c hcm n h
          obtain ⟨q1, q2⟩ := g2
          exact g.2 hS C hdec (Nat.le_trans q1 b1) (Nat.le_trans q2 b2) (ih h)
        · cases hq
      · cases hq
theorem call_mono (p : Program) (l : Launch) (e : Env) (Rm : Room) (s : State) (m : MethodId) (meth : Method) (c : Code) : ∀ d, CM (call d) := by
  intro d
  induction d with
  | zero => intro mi av M R v M' R' h; cases h
  | succ d ih =>
    intro mi av M R v M' R' h
    simp only [call] at h
    split at h
    · obtain ⟨q, hq, h⟩ := Option.bind_eq_some_iff.mp h
      split at h
      · cases h
        obtain ⟨n, hn⟩ := run_iff.mp hq
        exact rn_mono p l e Rm s m meth c ih n hn
      · cases h
    · cases h
-- a method's entry
theorem lv_args_mem (vs : List Value) : ∀ (i : Nat) (q : Nat × Value), q ∈ lv_args i vs → True := fun _ _ _ => trivial
theorem flat_args {ad xa : Nat → Nat} : ∀ (av : List AV) (i : Nat) (pre : List AV) (k : Nat), pre.length = i → ∀ q : Nat × Value, i ≤ q.1 → (∃ v, (pre ++ flatA av ++ List.replicate k (vX 0))[q.1]? = some v ∧ v ≠ vX 0 ∧ q.2 = cv ad xa v) → q ∈ lv_args i (av.map (cv ad xa)) := by
  intro av
  induction av with
  | nil =>
    intro i pre k hp q hq ⟨v, h1, h2, h3⟩
    simp only [flatA, List.flatMap_nil, List.append_nil] at h1
    rw [List.getElem?_append_right (by omega), List.getElem?_replicate] at h1
    split at h1
    · cases h1; exact absurd rfl h2
    · cases h1
  | cons a t ih =>
    intro i pre k hp q hq ⟨v, h1, h2, h3⟩
    simp only [List.map_cons, lv_args, cv_cat]
    by_cases hc : catA a = 2
    · rw [if_pos hc]
      have hf : pre ++ flatA (a :: t) ++ List.replicate k (vX 0) = (pre ++ [a, vX 0]) ++ flatA t ++ List.replicate k (vX 0) := by
        simp [flatA, hc]
      by_cases h0 : q.1 = i
      · rw [h0, hf, List.append_assoc, List.append_assoc, List.getElem?_append_right (by omega), hp, Nat.sub_self] at h1
        cases h1
        exact List.mem_cons.mpr (.inl (by rw [← h0, ← h3]))
      · by_cases h1' : q.1 = i + 1
        · rw [h1', hf, List.append_assoc, List.append_assoc, List.getElem?_append_right (by omega), hp, Nat.add_sub_cancel_left] at h1
          cases h1
          exact absurd rfl h2
        · rw [hf] at h1
          exact List.mem_cons_of_mem _ (ih (i + 2) (pre ++ [a, vX 0]) k (by simp; omega) q (by omega) ⟨v, h1, h2, h3⟩)
    · rw [if_neg hc]
      have hf : pre ++ flatA (a :: t) ++ List.replicate k (vX 0) = (pre ++ [a]) ++ flatA t ++ List.replicate k (vX 0) := by
        simp [flatA, hc]
      by_cases h0 : q.1 = i
      · rw [h0, hf, List.append_assoc, List.append_assoc, List.getElem?_append_right (by omega), hp, Nat.sub_self] at h1
        cases h1
        exact List.mem_cons.mpr (.inl (by rw [← h0, ← h3]))
      · rw [hf] at h1
        exact List.mem_cons_of_mem _ (ih (i + 1) (pre ++ [a]) k (by simp; omega) q (by omega) ⟨v, h1, h2, h3⟩)
theorem flat_len {ad xa : Nat → Nat} (av : List AV) : (lg_sl (av.map (cv ad xa))).length = (flatA av).length := by
  unfold lg_sl flatA
  induction av with
  | nil => rfl
  | cons a t ih =>
    simp only [List.map_cons, List.flatMap_cons, List.length_append, ih, cv_cat]
    split <;> rfl
theorem LV_entry {ad xa : Nat → Nat} {av : List AV} {n : Nat} (h : (flatA av).length ≤ n) : LV ad xa ((lg_sl (av.map (cv ad xa)) ++ List.replicate (n - (lg_sl (av.map (cv ad xa))).length) Slot.unset).toArray) (lv0 n av) := by
  have hl : (lv0 n av).length = n := by unfold lv0; rw [List.length_append, List.length_replicate]; omega
  unfold LV
  rw [hl]
  refine lv_weak (lv_entry (av.map (cv ad xa)) (by rw [flat_len]; exact h)) fun q hq => ?_
  obtain ⟨v, h1, h2, h3⟩ := lvL_mem.mp hq
  exact flat_args av 0 [] (n - (flatA av).length) rfl q (Nat.zero_le _) ⟨v, by simpa [lv0] using h1, h2, h3⟩
theorem lv0_ok {n : Nat} {av : List AV} (h : ∀ a ∈ av, okV R a) : ∀ v ∈ lv0 n av, okV R v := by
  intro v hv
  unfold lv0 at hv
  rcases List.mem_append.mp hv with hv | hv
  · unfold flatA at hv
    obtain ⟨a, ha, hv⟩ := List.mem_flatMap.mp hv
    split at hv
    · rcases List.mem_cons.mp hv with rfl | hv
      · exact h _ ha
      · rcases List.mem_cons.mp hv with rfl | hv
        · trivial
        · cases hv
    · rcases List.mem_cons.mp hv with rfl | hv
      · exact h _ ha
      · cases hv
  · rw [(List.mem_replicate.mp hv).2]
    trivial
theorem sc_all (l : Launch) (D : va_G) (cy : Nat → ClassId) (xa : Nat → Nat) (A : Nat → Prop) (sc : Nat → Int) (Ls : Nat) : ∀ d, SC l D cy xa A sc Ls d (call d) := by
  intro d
  induction d with
  | zero => intro mi av M R v M' R' h; cases h
  | succ d ih =>
    intro mi av M R v M' R' h hM hav
    simp only [call] at h
    split at h
    case isFalse => cases h
    rename_i hmi
    obtain ⟨q, hq, h⟩ := Option.bind_eq_some_iff.mp h
    split at h
    case isFalse => cases h
    rename_i hret
    cases h
    obtain ⟨n, hn⟩ := run_iff.mp hq
    obtain ⟨m1, ⟨m2, m3, m4⟩, m5, m6, m7⟩ := mok hmi.1
    refine ⟨hmi.1, hret, fun ad => ?_⟩
    refine Met.ofW (cc := codeOf mi) (maxL := maxLOf mi) (ret := retOf mi) m2 rfl ?_
    intro p e s m args below meth c s₁ B hml hv
    obtain ⟨rfl, hP, hD, hK, hE, hA⟩ := hv
    have hcm := call_mono p l e (rmF d R R') s m meth c d
    have hmono := rn_mono p l e (rmF d R R') s m meth c hcm n hn
    have hts := atoms_spec (ws := wsF mi) B.pre
    have hown : s.vm.findClass (cname (clsOf mi)) = some m.cls := by rw [← m7]; exact findClass_of_methodNamed B.named
    have hlocks := B.notSynchronized
    have hname : meth.name = (nmOf mi).name := (name_of_methodNamed B.named B.method).1
    have C : CX p (rmF (d + 1) R R') s m (av.map (cv ad xa)).toArray meth c D cy xa A sc Ls mi d := ⟨B.exec, B.bytes, hml, hown, fun w hw => hts w (List.mem_cons_of_mem _ hw), hK, hA, hE, fun e => hname.trans e, Nat.le_refl _, Nat.le_refl _⟩
    rw [lg_entry_eq]
    refine rn_sound (n0 := R 0 0) (s0 := R 0 1) (ad0 := ad) hcm ih C (v := v) (M' := M') (R' := R') (by show _ ≤ R 0 0 + (R' 0 0 - R 0 0); omega) (by show _ ≤ R 0 1 + (R' 0 1 - R 0 1); omega) ?_ n hn ad s.heap [] 0 0 _ ⟨⟨hP, hD, va_S.rf⟩, hM, ⟨LV_entry hmi.2, by unfold lv0; rw [List.length_append, List.length_replicate]; omega, lv0_ok hav⟩, fun v hv => (by cases hv), ⟨Nat.le_refl _, Nat.le_refl _, by omega, by omega⟩, fun o _ => rfl⟩
    intro pc lv st ins hdec hr ad1 H locs cells slots ls X
    obtain ⟨g1, g2, g3, g4⟩ := X.2.2.2.2.1
    subst g3
    subst g4
    have hB := B.returns
    have post : ∀ t : State, t.heap = H → okV R' v → Qg D cy xa A sc Ls (R 0 0) ad v M' R' (av.map (cv ad xa)).toArray s (.returned ((pushv v []).head?.map (cv ad1 xa))) t := fun t ht hv => ⟨⟨ad1, rfl, X.2.2.2.2.2, by rw [ht]; exact X.1.1, X.1.2.1, X.2.1, hv⟩, X.1.2.2.F ht⟩
    rcases hr with ⟨x, rfl, rfl, rfl⟩ | ⟨x, rfl, rfl, rfl⟩ | ⟨x, rfl, rfl, rfl⟩ | ⟨rfl, rfl, rfl⟩
    · have hx := ok_hd X.2.2.2.1
      unfold retOk at hret
      split at hret <;> rename_i hz <;> try cases hz
      · rename_i h1
        rw [h1] at hB
        exact W.iret C.1 C.2.1 hB (fun t ht _ => post t ht hx) X.1.2.2.2.2 hdec
      · rename_i h1
        rw [h1] at hB
        exact W.zret C.1 C.2.1 hB (by
          simp only [Bool.or_eq_true, beq_iff_eq] at hret
          rcases hret with rfl | rfl <;> rfl) (fun t ht _ => post t ht hx) X.1.2.2.2.2 hdec
      · cases hret
    · have hx := ok_hd X.2.2.2.1
      unfold retOk at hret
      split at hret <;> rename_i hz <;> try cases hz
      · rename_i h1
        rw [h1] at hB
        exact W.lret C.1 C.2.1 hB (fun t ht _ => post t ht hx) X.1.2.2.2.2 hdec
      · cases hret
    · have hx := ok_hd X.2.2.2.1
      have hvv : cv ad1 xa (vA x) = .null ∨ ∃ a, cv ad1 xa (vA x) = .ref a := by
        simp only [cv, rfo]
        split
        · exact .inl rfl
        · exact .inr ⟨_, rfl⟩
      unfold retOk at hret
      split at hret <;> rename_i hz <;> try cases hz
      · rename_i h1
        rw [h1] at hB
        exact W.aret C.1 C.2.1 hB (.inl ⟨_, rfl⟩) hvv (fun t ht _ => post t ht hx) X.1.2.2.2.2 hdec
      · rename_i h1
        rw [h1] at hB
        exact W.aret C.1 C.2.1 hB (.inr ⟨_, rfl⟩) hvv (fun t ht _ => post t ht hx) X.1.2.2.2.2 hdec
      · cases hret
    · unfold retOk at hret
      split at hret <;> rename_i hz <;> try cases hz
      · rename_i h1
        rw [h1] at hB
        exact W.vret C.1 C.2.1 hB (fun t ht _ => post t ht trivial) X.1.2.2.2.2 hdec
      · cases hret
end SND5
