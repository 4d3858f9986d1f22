/-! ===== specs ===== -/
/-- the pieces of a spread, list by list: how many ways all of it have one day, times what its size alone gives -/
def gl (oo : Nat → Int) (c : Nat → Nat → Int) : List Nat → Nat → Int := fun m n => oo (mk m) * c m.length n
/-- what a spread finds, mask by mask -/
def FS (oo : Nat → Int) (c : Nat → Nat → Int) (s : Nat) : Nat → Int := EL (gl oo c) 8 (bl s)
theorem FS_0 {oo : Nat → Int} {c : Nat → Nat → Int} : FS oo c 0 = one := rfl
theorem FS_s {oo : Nat → Int} {c : Nat → Nat → Int} {s : Nat} (h0 : 0 < s) (hs : s < 128) (n : Nat) : FS oo c s n = su (fun x => oo (low s ||| x) * pm (c (bl (low s ||| x)).length) (FS oo c (s ^^^ (low s ||| x))) n) (enC (s ^^^ low s) 128 (s ^^^ low s)) := by
  obtain ⟨h1, _, _, ho⟩ := low_ok ⟨s, hs⟩ h0
  dsimp only at h1 ho
  rw [su_perm _ (enC_p ⟨s ^^^ low s, ho⟩)]
  unfold FS
  rw [h1]
  have hl : (bl (s ^^^ low s)).length ≤ 7 := bl_len7 ⟨_, ho⟩
  rw [(EL_e (gl oo c) 7).2 _ _ (by omega), cnv_spl]
  show _ = su _ (subM (s ^^^ low s))
  unfold subM
  rw [su_map]
  refine su_c _ ?_
  intro q hq
  have a1 := spl_ok ⟨s ^^^ low s, ho⟩ q hq
  have hm : mk q.1 ∈ subM (s ^^^ low s) := List.mem_map.2 ⟨q, hq, rfl⟩
  obtain ⟨b1, b2, b3, b4, b5, b6⟩ := sub_ok ⟨s, hs⟩ h0 _ hm
  dsimp only at a1 b2 b3 b4 b5 b6
  rw [b4, a1.2.2.2, a1.2.1]
  have e1 : gl oo c ((bl s).headD 0 :: q.1) = fun n => oo (low s ||| mk q.1) * c (bl (low s ||| mk q.1)).length n := by
    funext n
    unfold gl
    have : mk ((bl s).headD 0 :: q.1) = low s ||| mk q.1 := by
      have := bl_mk b2
      rw [b3, a1.1] at this
      exact this
    rw [this, b3, a1.1]
  rw [e1, pm_sl]
