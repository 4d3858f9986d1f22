/-! ===== THE RELATION between the clean machine's memory and the heap ===== -/
def i32 (x : Int) : Prop := -2147483648 ≤ x ∧ x < 2147483648
def i64 (x : Int) : Prop := -9223372036854775808 ≤ x ∧ x < 9223372036854775808
def okV (R : RR) : AV → Prop
  | .inl x => i32 x
  | .inr (.inl x) => i64 x
  | .inr (.inr (.inl o)) => o ≤ R 0 0
  | _ => True
def okS (M : MM) (R : RR) : Prop := (∀ o i, (kindOf o ≠ 14 → i32 (M o i)) ∧ i64 (M o i)) ∧ (∀ o i, 0 < o → R o i ≤ R 0 0) ∧ ∀ o, R 0 (o + 2) ≤ 100000
theorem i32_i64 {x : Int} (h : i32 x) : i64 x := by unfold i32 at h; unfold i64; omega
theorem w32_ok (x : Int) : i32 (w32 x) := ⟨by have := Int32.le_toInt (Int32.ofInt x); unfold w32; simpa using this, by have := Int32.toInt_lt (Int32.ofInt x); unfold w32; simpa using this⟩
theorem t32_ok (x : Int32) : i32 x.toInt := ⟨by have := Int32.le_toInt x; simpa using this, by have := Int32.toInt_lt x; simpa using this⟩
theorem t64_ok (x : Int64) : i64 x.toInt := ⟨by have := Int64.le_toInt x; simpa using this, by have := Int64.toInt_lt x; simpa using this⟩
theorem w64_ok (x : Int) : i64 (w64 x) := t64_ok _
theorem of32 (x : Int) : Int32.ofInt (w32 x) = Int32.ofInt x := by unfold w32; exact Int32.ofInt_toInt _
theorem of64 (x : Int) : Int64.ofInt (w64 x) = Int64.ofInt x := by unfold w64; exact Int64.ofInt_toInt _
theorem to32 {x : Int} (h : i32 x) : (Int32.ofInt x).toInt = x := Int32.toInt_ofInt_of_le (by have := h.1; simpa using this) (by have := h.2; simpa using this)
theorem to64 {x : Int} (h : i64 x) : (Int64.ofInt x).toInt = x := Int64.toInt_ofInt_of_le (by have := h.1; simpa using this) (by have := h.2; simpa using this)
theorem w32_id {x : Int} (h : i32 x) : w32 x = x := to32 h
theorem w64_id {x : Int} (h : i64 x) : w64 x = x := to64 h
theorem lt32 {x y : Int} (hx : i32 x) (hy : i32 y) : Int32.ofInt x < Int32.ofInt y ↔ x < y := by rw [Int32.lt_iff_toInt_lt, to32 hx, to32 hy]
theorem le32 {x y : Int} (hx : i32 x) (hy : i32 y) : Int32.ofInt x ≤ Int32.ofInt y ↔ x ≤ y := by rw [Int32.le_iff_toInt_le, to32 hx, to32 hy]
theorem eq32 {x y : Int} (hx : i32 x) (hy : i32 y) : Int32.ofInt x = Int32.ofInt y ↔ x = y := by
  constructor
  · intro h; have := congrArg Int32.toInt h; rwa [to32 hx, to32 hy] at this
  · intro h; rw [h]
theorem lt64 {x y : Int} (hx : i64 x) (hy : i64 y) : Int64.ofInt x < Int64.ofInt y ↔ x < y := by rw [Int64.lt_iff_toInt_lt, to64 hx, to64 hy]
theorem eq64 {x y : Int} (hx : i64 x) (hy : i64 y) : Int64.ofInt x = Int64.ofInt y ↔ x = y := by
  constructor
  · intro h; have := congrArg Int64.toInt h; rwa [to64 hx, to64 hy] at this
  · intro h; rw [h]
theorem z32 : i32 0 := by unfold i32; omega
theorem ne0_32 {x : Int} (hx : i32 x) (h : x ≠ 0) : ¬ Int32.ofInt x = 0 := fun e => h ((eq32 hx z32).mp e)
theorem ne0_64 {x : Int} (hx : i64 x) (h : x ≠ 0) : ¬ Int64.ofInt x = 0 := fun e => h ((eq64 hx (i32_i64 z32)).mp e)
theorem ge0_32 {x : Int} (hx : i32 x) (h : 0 ≤ x) : ¬ Int32.ofInt x < 0 := fun e => by have := (lt32 hx z32).mp e; omega
theorem cl32 {x : Int} (hx : i32 x) : (Int32.ofInt x).toNatClampNeg = x.toNat := by unfold Int32.toNatClampNeg; rw [to32 hx]
theorem vp_in32 {x : Int} {n : Nat} (hx : i32 x) (h0 : 0 ≤ x) (h1 : x < (n : Int)) : vp_in (Int32.ofInt x) n := by
  unfold vp_in
  rw [cl32 hx, lt32 hx z32 |> fun h => (show Int32.ofInt x < 0 ↔ x < 0 from h)]
  omega
theorem add32 (a b : Int) : Int32.ofInt a + Int32.ofInt b = Int32.ofInt (w32 (a + b)) := by rw [of32, Int32.ofInt_add]
theorem sub32 (a b : Int) : Int32.ofInt a - Int32.ofInt b = Int32.ofInt (w32 (a - b)) := by rw [of32, Int32.ofInt_sub]
theorem mul32 (a b : Int) : Int32.ofInt a * Int32.ofInt b = Int32.ofInt (w32 (a * b)) := by rw [of32, Int32.ofInt_mul]
theorem neg32 (a : Int) : -Int32.ofInt a = Int32.ofInt (w32 (-a)) := by rw [of32, Int32.ofInt_neg]
theorem add64 (a b : Int) : Int64.ofInt a + Int64.ofInt b = Int64.ofInt (w64 (a + b)) := by rw [of64, Int64.ofInt_add]
theorem sub64 (a b : Int) : Int64.ofInt a - Int64.ofInt b = Int64.ofInt (w64 (a - b)) := by rw [of64, Int64.ofInt_sub]
theorem mul64 (a b : Int) : Int64.ofInt a * Int64.ofInt b = Int64.ofInt (w64 (a * b)) := by rw [of64, Int64.ofInt_mul]
theorem neg64 (a : Int) : -Int64.ofInt a = Int64.ofInt (w64 (-a)) := by rw [of64, Int64.ofInt_neg]
theorem mx32 : Int32.maxValue.toInt = 2147483647 := by decide
theorem mx64 : Int64.maxValue.toInt = 9223372036854775807 := by decide
theorem div32 {a b : Int} (ha : i32 a) (hb : i32 b) : Int32.ofInt a / Int32.ofInt b = Int32.ofInt (w32 (a.tdiv b)) := by
  rw [of32, Int32.ofInt_tdiv (by have := ha.1; simpa using this) (by have := ha.2; rw [mx32]; omega) (by have := hb.1; simpa using this) (by have := hb.2; rw [mx32]; omega)]
theorem div64 {a b : Int} (ha : i64 a) (hb : i64 b) : Int64.ofInt a / Int64.ofInt b = Int64.ofInt (w64 (a.tdiv b)) := by
  rw [of64, Int64.ofInt_tdiv (by have := ha.1; simpa using this) (by have := ha.2; rw [mx64]; omega) (by have := hb.1; simpa using this) (by have := hb.2; rw [mx64]; omega)]
theorem rem32 {a b : Int} (ha : i32 a) (hb : i32 b) : Int32.ofInt a - Int32.ofInt a / Int32.ofInt b * Int32.ofInt b = Int32.ofInt (a.tmod b) := by
  rw [div32 ha hb, of32, ← Int32.ofInt_mul, ← Int32.ofInt_sub]
  congr 1
  have := Int.mul_tdiv_add_tmod a b
  rw [Int.mul_comm] at this
  omega
theorem rem64 {a b : Int} (ha : i64 a) (hb : i64 b) : Int64.ofInt a - Int64.ofInt a / Int64.ofInt b * Int64.ofInt b = Int64.ofInt (a.tmod b) := by
  rw [div64 ha hb, of64, ← Int64.ofInt_mul, ← Int64.ofInt_sub]
  congr 1
  have := Int.mul_tdiv_add_tmod a b
  rw [Int.mul_comm] at this
  omega
theorem tmod_ok32 {a b : Int} (ha : i32 a) : i32 (a.tmod b) := by
  have h1 := Int.natAbs_tmod a b
  have h2 := Nat.mod_le a.natAbs b.natAbs
  have h3 : 0 ≤ a → 0 ≤ a.tmod b := fun h => Int.tmod_nonneg b h
  have h4 : a ≤ 0 → a.tmod b ≤ 0 := fun h => by have := Int.tmod_nonneg b (a := -a) (by omega); rw [Int.neg_tmod] at this; omega
  unfold i32 at *
  omega
theorem tmod_ok64 {a b : Int} (ha : i64 a) : i64 (a.tmod b) := by
  have h1 := Int.natAbs_tmod a b
  have h2 := Nat.mod_le a.natAbs b.natAbs
  have h3 : 0 ≤ a → 0 ≤ a.tmod b := fun h => Int.tmod_nonneg b h
  have h4 : a ≤ 0 → a.tmod b ≤ 0 := fun h => by have := Int.tmod_nonneg b (a := -a) (by omega); rw [Int.neg_tmod] at this; omega
  unfold i64 at *
  omega
-- values and cells
def rfo (ad : Nat → Nat) (r : Nat) : Option Nat := if r = 0 then none else some (ad r)
def cv (ad xa : Nat → Nat) : AV → Value
  | .inl x => .int (Int32.ofInt x)
  | .inr (.inl x) => .long (Int64.ofInt x)
  | .inr (.inr (.inl o)) => va_rf (rfo ad o)
  | .inr (.inr (.inr k)) => .ref (xa k)
theorem cv_cat (ad xa : Nat → Nat) (v : AV) : (cv ad xa v).category = catA v := by
  rcases v with x | x | o | k
  · rfl
  · rfl
  · simp only [cv, rfo, catA]; split <;> rfl
  · rfl
theorem cv_A (ad xa : Nat → Nat) {o : Nat} (h : 0 < o) : cv ad xa (vA o) = .ref (ad o) := by simp only [cv, rfo]; rw [if_neg (by omega)]; rfl
theorem catS_map (ad xa : Nat → Nat) (st : List AV) : ((st.map (cv ad xa)).map fun v => v.category).sum = catS st := by
  unfold catS
  rw [List.map_map]
  congr 1
  apply List.map_congr_left
  intro v _
  exact cv_cat ad xa v
def fv (ad : Nat → Nat) (k : Nat) (M : MM) (R : RR) (o j : Nat) : Value := if ftyp k j = 1 then va_rf (rfo ad (R o j)) else .int (Int32.ofInt (M o j))
def ctt (cy : Nat → ClassId) (ad : Nat → Nat) (M : MM) (R : RR) (o : Nat) : va_E :=
  if kindOf o = 13 then .inl (cy 0, (R 0 (o + 2), .inl (fun j => Int32.ofInt (M o j))))
  else if kindOf o = 14 then .inl (cy 1, (R 0 (o + 2), .inr (.inl (fun j => Int64.ofInt (M o j)))))
  else if kindOf o = 15 then .inl (cy 2, (R 0 (o + 2), .inl (fun j => Int32.ofInt (M o j))))
  else if kindOf o = 16 then .inl (cy 3, (R 0 (o + 2), .inr (.inr (.inr (.inr (fun j => rfo ad (R o j)))))))
  else if kindOf o = 17 then .inl (cy 4, (R 0 (o + 2), .inr (.inr (.inr (.inr (fun j => rfo ad (R o j)))))))
  else .inr (kindOf o, (List.range (nF (kindOf o))).map (fun j => fv ad (kindOf o) M R o j))
theorem ctt_13 {cy ad M R o} (h : kindOf o = 13) : ctt cy ad M R o = .inl (cy 0, (R 0 (o + 2), .inl (fun j => Int32.ofInt (M o j)))) := by simp [ctt, h]
theorem ctt_14 {cy ad M R o} (h : kindOf o = 14) : ctt cy ad M R o = .inl (cy 1, (R 0 (o + 2), .inr (.inl (fun j => Int64.ofInt (M o j))))) := by simp [ctt, h]
theorem ctt_15 {cy ad M R o} (h : kindOf o = 15) : ctt cy ad M R o = .inl (cy 2, (R 0 (o + 2), .inl (fun j => Int32.ofInt (M o j)))) := by simp [ctt, h]
theorem ctt_16 {cy ad M R o} (h : kindOf o = 16) : ctt cy ad M R o = .inl (cy 3, (R 0 (o + 2), .inr (.inr (.inr (.inr (fun j => rfo ad (R o j))))))) := by simp [ctt, h]
theorem ctt_17 {cy ad M R o} (h : kindOf o = 17) : ctt cy ad M R o = .inl (cy 4, (R 0 (o + 2), .inr (.inr (.inr (.inr (fun j => rfo ad (R o j))))))) := by simp [ctt, h]
theorem ctt_o {cy ad M R o} (h : kindOf o < 13) : ctt cy ad M R o = .inr (kindOf o, (List.range (nF (kindOf o))).map (fun j => fv ad (kindOf o) M R o j)) := by
  unfold ctt
  rw [if_neg (by omega), if_neg (by omega), if_neg (by omega), if_neg (by omega), if_neg (by omega)]
/-- the same number of places, the same places: the same content -/
theorem ctt_same {cy ad M R M' R' o} (hM : M' o = M o) (hR : R' o = R o) (hl : R' 0 (o + 2) = R 0 (o + 2)) : ctt cy ad M' R' o = ctt cy ad M R o := by
  unfold ctt fv
  rw [hM, hR, hl]
theorem ctt_ad {cy ad ad' M R o} (h : ∀ i, rfo ad' (R o i) = rfo ad (R o i)) : ctt cy ad' M R o = ctt cy ad M R o := by
  unfold ctt fv
  simp only [h]
def wsOf (cy : Nat → ClassId) (ad : Nat → Nat) (M : MM) (R : RR) : va_W := (List.range (R 0 0)).map (fun j => (ad (j + 1), ctt cy ad M R (j + 1)))
theorem ws_get {cy ad M R} {o : Nat} (h0 : 0 < o) (h1 : o ≤ R 0 0) : (wsOf cy ad M R)[o - 1]? = some (ad o, ctt cy ad M R o) := by
  unfold wsOf
  rw [List.getElem?_map, List.getElem?_range (by omega)]
  simp only [Option.map_some]
  rw [show o - 1 + 1 = o by omega]
theorem ws_set {cy ad M R M' R'} {o : Nat} {e : va_E} (h0 : 0 < o) (hn : R' 0 0 = R 0 0) (he : ctt cy ad M' R' o = e) (hs : ∀ q, q ≠ o → 0 < q → ctt cy ad M' R' q = ctt cy ad M R q) : (wsOf cy ad M R).set (o - 1) (ad o, e) = wsOf cy ad M' R' := by
  unfold wsOf
  rw [hn]
  apply List.ext_getElem?
  intro j
  by_cases hj : j < R 0 0
  · by_cases hjo : j = o - 1
    · subst hjo
      rw [List.getElem?_set_self (by simpa using hj), List.getElem?_map, List.getElem?_range hj]
      simp only [Option.map_some]
      rw [show o - 1 + 1 = o by omega, he]
    · rw [List.getElem?_set_ne (by omega), List.getElem?_map, List.getElem?_map, List.getElem?_range hj]
      simp only [Option.map_some]
      rw [hs (j + 1) (by omega) (by omega)]
  · rw [List.getElem?_eq_none (by simp; omega), List.getElem?_eq_none (by simp; omega)]
theorem ws_push {cy ad ad' M R M' R'} {q : Nat} {e : va_E} (hn : R' 0 0 = R 0 0 + 1) (hq : ad' (R 0 0 + 1) = q) (he : ctt cy ad' M' R' (R 0 0 + 1) = e) (ha : ∀ o, o ≤ R 0 0 → ad' o = ad o) (hs : ∀ o, 0 < o → o ≤ R 0 0 → ctt cy ad' M' R' o = ctt cy ad M R o) : wsOf cy ad M R ++ [(q, e)] = wsOf cy ad' M' R' := by
  unfold wsOf
  rw [hn, List.range_succ, List.map_append]
  simp only [List.map_cons, List.map_nil, hq, he]
  congr 1
  apply List.map_congr_left
  intro j hj
  have hj := List.mem_range.mp hj
  rw [ha _ (by omega), hs _ (by omega) (by omega)]
-- locals
def lvL (ad xa : Nat → Nat) (lv : List AV) : List (Nat × Value) := (List.range lv.length).filterMap fun i => match lv[i]? with
  | some v => if v = vX 0 then none else some (i, cv ad xa v)
  | none => none
def LV (ad xa : Nat → Nat) (ls : Array Slot) (lv : List AV) : Prop := lv_has ls lv.length (lvL ad xa lv)
theorem lvL_mem {ad xa : Nat → Nat} {lv : List AV} {q : Nat × Value} : q ∈ lvL ad xa lv ↔ ∃ v, lv[q.1]? = some v ∧ v ≠ vX 0 ∧ q.2 = cv ad xa v := by
  unfold lvL
  simp only [List.mem_filterMap, List.mem_range]
  constructor
  · rintro ⟨i, hi, h⟩
    rw [List.getElem?_eq_getElem hi] at h
    simp only at h
    split at h
    · cases h
    · rename_i hne
      cases h
      exact ⟨lv[i], List.getElem?_eq_getElem hi, hne, rfl⟩
  · rintro ⟨v, hv, hne, hq⟩
    have hi := (List.getElem?_eq_some_iff.mp hv).1
    refine ⟨q.1, hi, ?_⟩
    rw [hv]
    simp only [if_neg hne, ← hq]
theorem LV.at {ad xa : Nat → Nat} {ls : Array Slot} {lv : List AV} (h : LV ad xa ls lv) {i : Nat} {v : AV} (hv : lv[i]? = some v) (hne : v ≠ vX 0) : ls[i]? = some (.val (cv ad xa v)) := h.2.2 (i, cv ad xa v) (lvL_mem.mpr ⟨v, hv, hne, rfl⟩)
theorem lv_weak {ls : Array Slot} {n : Nat} {l l' : List (Nat × Value)} (h : lv_has ls n l) (hl : ∀ q ∈ l', q ∈ l) : lv_has ls n l' := ⟨h.1, h.2.1, fun q hq => h.2.2 q (hl q hq)⟩
theorem clr_len (lv : List AV) (i : Nat) : (clr lv i).length = lv.length := by
  unfold clr
  split
  · rfl
  · split <;> simp
theorem clr_get {lv : List AV} {i j : Nat} {v : AV} (h : (clr lv i)[j]? = some v) (hne : v ≠ vX 0) : lv[j]? = some v ∧ (j + 1 = i → catA v = 1) := by
  unfold clr at h
  split at h
  · exact ⟨h, fun e => by omega⟩
  · rename_i k
    split at h
    · rename_i x hx
      rw [List.getElem?_set] at h
      split at h
      · split at h
        · cases h; exact absurd rfl hne
        · cases h
      · exact ⟨h, fun e => by omega⟩
    · rename_i hx
      refine ⟨h, fun e => ?_⟩
      have : j = k := by omega
      subst this
      rcases v with x | x | o | q
      · rfl
      · exact absurd h (hx x)
      · rfl
      · rfl
theorem LV.sto {ad xa : Nat → Nat} {ls' : Array Slot} {lv : List AV} {i : Nat} {v : AV} (h : lv_has ls' lv.length ((i, cv ad xa v) :: (lvL ad xa lv).filter (fun q => !(q.1 == i) && !(q.1 + 1 == i && q.2.category == 2)))) : LV ad xa ls' ((clr lv i).set i v) := by
  unfold LV
  rw [List.length_set, clr_len]
  refine lv_weak h fun q hq => ?_
  obtain ⟨w, hw, hne, he⟩ := lvL_mem.mp hq
  rw [List.getElem?_set] at hw
  split at hw
  · split at hw
    · cases hw
      rename_i h1 _
      exact List.mem_cons.mpr (.inl (by rw [h1, ← he]))
    · cases hw
  · rename_i h1
    obtain ⟨g1, g2⟩ := clr_get hw hne
    refine List.mem_cons_of_mem _ (List.mem_filter.mpr ⟨lvL_mem.mpr ⟨w, g1, hne, he⟩, ?_⟩)
    rw [he, cv_cat]
    have h2 : (q.1 == i) = false := by simp; omega
    rw [h2]
    by_cases h3 : q.1 + 1 = i
    · rw [g2 h3]; simp
    · have h4 : (q.1 + 1 == i) = false := by simp; exact h3
      rw [h4]; rfl
theorem LV.stoJ {ad xa : Nat → Nat} {ls' : Array Slot} {lv : List AV} {i : Nat} {v : AV} (h : lv_has ls' lv.length ((i, cv ad xa v) :: (lvL ad xa lv).filter (fun q => !(q.1 == i) && (!(q.1 == i + 1) && !(q.1 + 1 == i && q.2.category == 2))))) : LV ad xa ls' (((clr lv i).set i v).set (i + 1) (vX 0)) := by
  unfold LV
  rw [List.length_set, List.length_set, clr_len]
  refine lv_weak h fun q hq => ?_
  obtain ⟨w, hw, hne, he⟩ := lvL_mem.mp hq
  rw [List.getElem?_set] at hw
  split at hw
  · split at hw
    · cases hw; exact absurd rfl hne
    · cases hw
  · rename_i h0
    rw [List.getElem?_set] at hw
    split at hw
    · split at hw
      · cases hw
        rename_i h1 _
        exact List.mem_cons.mpr (.inl (by rw [h1, ← he]))
      · cases hw
    · rename_i h1
      obtain ⟨g1, g2⟩ := clr_get hw hne
      refine List.mem_cons_of_mem _ (List.mem_filter.mpr ⟨lvL_mem.mpr ⟨w, g1, hne, he⟩, ?_⟩)
      rw [he, cv_cat]
      have h2 : (q.1 == i) = false := by simp; omega
      have h5 : (q.1 == i + 1) = false := by simp; omega
      rw [h2, h5]
      by_cases h3 : q.1 + 1 = i
      · rw [g2 h3]; simp
      · have h4 : (q.1 + 1 == i) = false := by simp; exact h3
        rw [h4]; rfl
theorem LV.ad {ad ad' xa : Nat → Nat} {ls : Array Slot} {lv : List AV} (h : LV ad xa ls lv) (hv : ∀ v ∈ lv, cv ad' xa v = cv ad xa v) : LV ad' xa ls lv := lv_weak h fun q hq => by
  obtain ⟨w, hw, hne, he⟩ := lvL_mem.mp hq
  exact lvL_mem.mpr ⟨w, hw, hne, by rw [he, hv w (List.mem_of_getElem? hw)]⟩
