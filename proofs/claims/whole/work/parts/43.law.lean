/-! ===== specs ===== -/
theorem s_4 {d : Nat} (hd : 1 ≤ d) {M : MM} {R : RR} (x1 : Int) : call d 4 [vA 13, vI x1] M R = some (vI (b2 (0 ≤ x1 ∧ x1 < M 13 5)), M, R) := by
  obtain ⟨e, rfl⟩ := s_le hd
  refine call_of 2 [vA 13, vI x1] (by decide) rfl (Nat.le_of_ble_eq_true rfl) rfl ?_ (b2_ok)
  simp (disch := first | assumption | omega | rfl) only [b_4_0, b_4_4, b_4_12, b_4_16, b_4_17, Option.bind_some, pushv_I, pushv_J, pushv_A, pushv_X, b2_z, b2_o, ne_eq, Decidable.not_not]
  repeat' split
  all_goals first
    | rfl
    | (exfalso; omega)
    | (simp (disch := omega) only [b2_t, b2_f, if_pos, if_neg]; done)
theorem upf_upf {α : Type} {f : Nat → α} {i : Nat} {v w : α} : upf (upf f i v) i w = upf f i w := by
  funext j
  by_cases h : j = i <;> simp [upf, h]
/-- the names as a text is read with: DAY, its BORN, the YEAR, MORE, TOLD, WHO -/
def nms (d b y m t p : Int) : Nat → Int
  | 0 => d
  | 1 => b
  | 2 => y
  | 3 => m
  | 4 => t
  | _ => p
theorem seg_map (g : Nat → Int) : ∀ (n a : Nat), seg g a ((List.range n).map (fun k => g (a + k)))
  | 0, a => trivial
  | n + 1, a => by
    rw [List.range_succ_eq_map, List.map_cons, List.map_map]
    refine ⟨rfl, ?_⟩
    have e : ((fun k => g (a + k)) ∘ Nat.succ) = (fun k => g (a + 1 + k)) := by
      funext k
      show g (a + (k + 1)) = g (a + 1 + k)
      congr 1
      omega
    rw [e]
    exact seg_map g n (a + 1)
/-- part j of text t, as the reference has it -/
def segm (M : MM) (t j : Nat) : List Int := (List.range (M 64 (4 * t + j + 1) - M 64 (4 * t + j)).toNat).map (fun k => M 63 (200 * t + ((M 64 (4 * t + j)).toNat + k)))
/-- what part j of a text says -/
def lvw (sg : List Int) (part : Nat) (d b y m t p : Int) : Int := max 0 (min (if part = 0 then 9 else 40) (evh (nms d b y m t p) sg))
theorem ev_congr {nm nm' : Nat → Int} (h : ∀ c, c < 6 → nm c = nm' c) : ∀ (cs : List Int) (n : Nat) (s : List Int), wfp cs n → ev nm cs s = ev nm' cs s
  | [], _, _, _ => rfl
  | c :: cs, n, s, hw => by
    have e : evs nm c s = evs nm' c s := by
      unfold evs
      by_cases g1 : 100000 ≤ c
      · rw [if_pos g1, if_pos g1]
      rw [if_neg g1, if_neg g1]
      by_cases g2 : c < 11
      · rw [if_pos g2, if_pos g2, h c.toNat]
        rcases hw with ⟨hv, _⟩ | ⟨hv, _⟩ | ⟨hv, _⟩
        · unfold isV at hv; omega
        · unfold isU at hv; omega
        · unfold isB at hv; omega
      · rw [if_neg g2, if_neg g2]
    show ev nm cs (evs nm c s) = ev nm' cs (evs nm' c s)
    rw [e]
    rcases hw with ⟨_, hw⟩ | ⟨_, _, hw⟩ | ⟨_, _, hw⟩
    · exact ev_congr h cs _ _ hw
    · exact ev_congr h cs _ _ hw
    · exact ev_congr h cs _ _ hw
/-- text t: both sides have the same, and it can be read -/
def txOk (M : MM) (R : RR) (t : Nat) : Prop := ∃ (T co en L : Nat) (s : Nat → Nat), R 14 t = T ∧ kindOf T = 7 ∧ R T 0 = co ∧ R T 1 = en ∧ kindOf co = 13 ∧ kindOf en = 13 ∧ R 0 (co + 2) = L ∧ R 0 (en + 2) = 4 ∧ (co = 21 ∨ 83 ≤ co) ∧ (en = 20 ∨ 83 ≤ en) ∧ s 3 ≤ L ∧ s 3 ≤ 160 ∧ s 0 ≤ s 1 ∧ s 1 ≤ s 2 ∧ s 2 ≤ s 3 ∧ (∀ j, j < 4 → M en j = (s j : Int) ∧ M 64 (4 * t + j) = (s j : Int)) ∧ (∀ k, k < s 3 → M co k = xop (M 63 (200 * t + k))) ∧ ∀ j, j < 3 → wfp (segm M t j) 0
theorem s_6 {d0 : Nat} (hd : 3 ≤ d0) {M : MM} {R : RR} (hL : Lay R) {t part p d : Nat} {told : Int} (hT : txOk M R t) (ht : (t : Int) < M 13 5) (ht6 : t < 6) (hpt : part < 3) (hp : (p : Int) < M 4 0) (hp7 : p < 7) (hdd : (d : Int) < M 2 0) (hd24 : d < 24) : ∃ f g, call d0 6 [vA 13, vI t, vI part, vI p, vI told, vI d] M R = some (vI (lvw (segm M t part) part d (M 3 d) (M 2 0) (M 6 p) told p), upf (upf M 15 f) 16 g, R) := by
  obtain ⟨e, rfl⟩ := s_le hd
  obtain ⟨T, co, en, L, s, r1, r2, r3, r4, r5, r6, r7, r8, r9, r10, r11, r12, m1, m2, m3, r13, r14, r15⟩ := hT
  have j1 := r13 part (by omega)
  have j2 := r13 (part + 1) (by omega)
  have hw := r15 part hpt
  have mono : s part ≤ s (part + 1) ∧ s (part + 1) ≤ s 3 := by
    rcases (by omega : part = 0 ∨ part = 1 ∨ part = 2) with q | q | q <;> subst q <;> simp only [Nat.zero_add, Nat.reduceAdd] <;> omega
  have hsg : segm M t part = (List.range (s (part + 1) - s part)).map (fun k => M 63 (200 * t + (s part + k))) := by
    unfold segm
    rw [show 4 * t + part + 1 = 4 * t + (part + 1) from rfl, j1.2, j2.2, Int.toNat_natCast]
    congr 2
    omega
  let f : Nat → Int := upf (upf (upf (upf (upf (upf (M 15) 0 d) 1 (M 3 d)) 2 (M 2 0)) 3 (M 6 p)) 4 told) 5 p
  obtain ⟨g, q⟩ := s_58 (d := e + 2) (by omega) (M := upf M 15 f) hL (p := part) (g := fun k => M 63 (200 * t + k)) (cs := segm M t part) r2 r3 r4 r5 r6 r7 r8 (by omega) (by omega) hpt (by rw [upf_n (by omega)]; exact j1.1) (by rw [upf_n (by omega)]; exact j2.1) (by omega) (by omega) (by intro k hk; rw [upf_n (by omega)]; exact r14 k (by omega)) (by rw [hsg]; exact seg_map (fun k => M 63 (200 * t + k)) _ _) (by rw [hsg, List.length_map, List.length_range]; omega) hw
  have hev : evh (upf M 15 f 15) (segm M t part) = evh (nms d (M 3 d) (M 2 0) (M 6 p) told p) (segm M t part) := by
    unfold evh
    rw [ev_congr (nm' := nms d (M 3 d) (M 2 0) (M 6 p) told p) _ _ 0 _ hw]
    intro c hc
    rw [upf_s]
    rcases (by omega : c = 0 ∨ c = 1 ∨ c = 2 ∨ c = 3 ∨ c = 4 ∨ c = 5) with h | h | h | h | h | h <;> subst h <;> rfl
  rw [hev] at q
  refine ⟨f, g, ?_⟩
  refine call_of 7 [vA 13, vI t, vI part, vI p, vI told, vI d, vX 0] (by decide) rfl (Nat.le_of_ble_eq_true rfl) rfl ?_ rfl
  have hf : ∀ M', M' = upf M 15 f → (upf (upf (upf (upf (upf (upf (M 15) 0 (d : Int)) 1 (M 3 d)) 2 (M 2 0)) 3 (M 6 p)) 4 told) 5 (p : Int)) = f := fun _ _ => rfl
  by_cases g0 : part = 0
  · subst g0
    simp (disch := first | omega | decide | assumption) only [b_6_0, b_6_5, b_6_8 hL, b_6_16, b_6_19 hL, b_6_28, b_6_31, b_6_33 hL, b_6_104, b_6_109, b_6_111 hL, b_6_134, s_4, s_9, s_90, Option.bind_some, pushv_I, pushv_J, pushv_A, pushv_X, b2_z, b2_o, ne_eq, Decidable.not_not, if_pos, if_neg, up, upf_upf, upf_s, upf_n, Int.toNat_natCast, Int.reduceToNat, r1, hf _ rfl]
    rw [b_6_111 hL _ _ _ _ _ _ (by rw [Int.toNat_natCast, r1]; exact r2), if_pos (by omega), Int.toNat_natCast, r1, q, Option.bind_some, pushv_I, b_6_134]
    rfl
  · simp (disch := first | omega | decide | assumption) only [b_6_0, b_6_5, b_6_8 hL, b_6_16, b_6_19 hL, b_6_28, b_6_31, b_6_33 hL, b_6_104, b_6_109, b_6_111 hL, b_6_134, s_4, s_9, s_90, Option.bind_some, pushv_I, pushv_J, pushv_A, pushv_X, b2_z, b2_o, ne_eq, Decidable.not_not, if_pos, if_neg, up, upf_upf, upf_s, upf_n, Int.toNat_natCast, Int.reduceToNat, r1, hf _ rfl]
    rw [b_6_111 hL _ _ _ _ _ _ (by rw [Int.toNat_natCast, r1]; exact r2), if_pos (by omega), Int.toNat_natCast, r1, q, Option.bind_some, pushv_I, b_6_134]
    unfold lvw
    rw [if_neg g0]
theorem s_188 {d0 : Nat} (hd : 3 ≤ d0) {M : MM} {R : RR} (hL : Lay R) {t part p d : Nat} (hT : txOk M R t) (ht : M 57 11 = (t : Int)) (ht6 : t < 6) (hpt : part < 3) (hp7 : p < 7) (hd24 : d < 24) : ∃ f g, call d0 188 [vA 57, vI part, vI p, vI d] M R = some (vI (lvw (segm M t part) part d (M 58 d) (M 57 0) (M 60 p) (M 61 p) p), upf (upf M 73 f) 72 g, R) := by
  obtain ⟨e, rfl⟩ := s_le hd
  obtain ⟨T, co, en, L, s, r1, r2, r3, r4, r5, r6, r7, r8, r9, r10, r11, r12, m1, m2, m3, r13, r14, r15⟩ := hT
  have j1 := r13 part (by omega)
  have j2 := r13 (part + 1) (by omega)
  have hw := r15 part hpt
  have mono : s part ≤ s (part + 1) ∧ s (part + 1) ≤ s 3 := by
    rcases (by omega : part = 0 ∨ part = 1 ∨ part = 2) with q | q | q <;> subst q <;> simp only [Nat.zero_add, Nat.reduceAdd] <;> omega
  have hsg : segm M t part = (List.range (s (part + 1) - s part)).map (fun k => M 63 (200 * t + (s part + k))) := by
    unfold segm
    rw [show 4 * t + part + 1 = 4 * t + (part + 1) from rfl, j1.2, j2.2, Int.toNat_natCast]
    congr 2
    omega
  let f : Nat → Int := upf (upf (upf (upf (upf (upf (M 73) 0 d) 1 (M 58 d)) 2 (M 57 0)) 3 (M 60 p)) 4 (M 61 p)) 5 p
  obtain ⟨g, q⟩ := s_186 (d := e + 2) (by omega) (M := upf M 73 f) hL (p := part) (cs := segm M t part) (t := t) (a := s part) (z := s (part + 1)) (by rw [upf_n (by omega)]; exact ht) ht6 hpt (by rw [upf_n (by omega)]; exact j1.2) (by rw [upf_n (by omega)]; exact j2.2) (by omega) (by rw [upf_n (by omega), hsg]; exact seg_map (fun k => M 63 (200 * t + k)) _ _) (by rw [hsg, List.length_map, List.length_range]; omega) hw
  have hev : evh (upf M 73 f 73) (segm M t part) = evh (nms d (M 58 d) (M 57 0) (M 60 p) (M 61 p) p) (segm M t part) := by
    unfold evh
    rw [ev_congr (nm' := nms d (M 58 d) (M 57 0) (M 60 p) (M 61 p) p) _ _ 0 _ hw]
    intro c hc
    rw [upf_s]
    rcases (by omega : c = 0 ∨ c = 1 ∨ c = 2 ∨ c = 3 ∨ c = 4 ∨ c = 5) with h | h | h | h | h | h <;> subst h <;> rfl
  rw [hev] at q
  refine ⟨f, g, ?_⟩
  refine call_of 4 [vA 57, vI part, vI p, vI d] (by decide) rfl (Nat.le_of_ble_eq_true rfl) rfl ?_ rfl
  have hf : ∀ M', M' = upf M 73 f → (upf (upf (upf (upf (upf (upf (M 73) 0 (d : Int)) 1 (M 58 d)) 2 (M 57 0)) 3 (M 60 p)) 4 (M 61 p)) 5 (p : Int)) = f := fun _ _ => rfl
  have hcl : ∀ x m : Int, 0 ≤ m → (if x < 0 then 0 else if m < x then m else x) = max 0 (min m x) := by intro x m hm; split <;> (try split) <;> omega
  by_cases g0 : part = 0
  · subst g0
    simp (disch := first | omega | decide | assumption) only [b_188_0 hL, b_188_65, b_188_70, b_188_75, b_188_77, b_188_80, s_163, Option.bind_some, pushv_I, pushv_J, pushv_A, pushv_X, b2_z, b2_o, ne_eq, Decidable.not_not, if_pos, if_neg, up, upf_upf, upf_s, upf_n, Int.toNat_natCast, Int.reduceToNat, hf _ rfl, q]
    rw [hcl _ _ (by decide)]
    rfl
  · simp (disch := first | omega | decide | assumption) only [b_188_0 hL, b_188_65, b_188_70, b_188_75, b_188_77, b_188_80, s_163, Option.bind_some, pushv_I, pushv_J, pushv_A, pushv_X, b2_z, b2_o, ne_eq, Decidable.not_not, if_pos, if_neg, up, upf_upf, upf_s, upf_n, Int.toNat_natCast, Int.reduceToNat, hf _ rfl, q]
    rw [hcl _ _ (by decide)]
    unfold lvw
    rw [if_neg g0]
def kAb (x0 : Int) : Int := if x0 = 1 ∨ x0 = 2 ∨ x0 = 5 then 0 else if x0 = 3 then 1 else if x0 = 4 then 2 else -1
theorem t_17 {e : Nat} (he : 1 ≤ e) {M : MM} {R : RR} (a b x i : Int) (hi : 0 ≤ i ∧ i < 6) (hx : 0 ≤ x) : run (call e) 17 4 [vI a, vI b, vI x, vI i] [] M R = if x = b then some (vI 1, M, R) else run (call e) 17 4 [vI a, vI b, vI (kAb x), vI (i + 1)] [] M R := by
  rw [b_17_4, if_neg (by omega), b_17_10, if_neg (by omega), b_17_14]
  by_cases h : x = b
  · rw [if_neg (by omega), if_pos h, b_17_19]
  · rw [if_pos (by omega), if_neg h, b_17_21, s_16 he, Option.bind_some, pushv_I, b_17_25, w32_i (by omega)]
    rfl
theorem t_17e {e : Nat} {M : MM} {R : RR} (a b x i : Int) (hi : 0 ≤ i ∧ i < 6) (hx : x < 0) : run (call e) 17 4 [vI a, vI b, vI x, vI i] [] M R = some (vI 0, M, R) := by
  rw [b_17_4, if_neg (by omega), b_17_10, if_pos (by omega), b_17_32]
theorem s_17 {d : Nat} (hd : 2 ≤ d) {M : MM} {R : RR} (x0 : Int) (x1 : Int) (h1 : 0 ≤ x0 ∧ x0 < 6) : call d 17 [vI x0, vI x1] M R = some (vI (b2 (x1 = x0 ∨ x1 = 0 ∨ (x1 = 1 ∧ x0 = 3) ∨ (x1 = 2 ∧ x0 = 4))), M, R) := by
  obtain ⟨e, rfl⟩ := s_le hd
  refine call_of 4 [vI x0, vI x1, vX 0, vX 0] (by decide) rfl (Nat.le_of_ble_eq_true rfl) rfl ?_ (b2_ok)
  have he : 1 ≤ e + 1 := by omega
  have h2 : x0 = 0 ∨ x0 = 1 ∨ x0 = 2 ∨ x0 = 3 ∨ x0 = 4 ∨ x0 = 5 := by omega
  rw [b_17_0]
  rcases h2 with rfl | rfl | rfl | rfl | rfl | rfl
  · rw [t_17 he _ _ _ _ (by decide) (by decide), show kAb 0 = -1 from rfl, t_17e _ _ _ _ (by decide) (by decide)]
    split <;> (congr 2; congr 1; unfold b2; split <;> first | rfl | (exfalso; omega))
  · rw [t_17 he _ _ _ _ (by decide) (by decide), show kAb 1 = 0 from rfl, t_17 he _ _ _ _ (by decide) (by decide), show kAb 0 = -1 from rfl, t_17e _ _ _ _ (by decide) (by decide)]
    repeat' split
    all_goals (congr 2; congr 1; unfold b2; split <;> first | rfl | (exfalso; omega))
  · rw [t_17 he _ _ _ _ (by decide) (by decide), show kAb 2 = 0 from rfl, t_17 he _ _ _ _ (by decide) (by decide), show kAb 0 = -1 from rfl, t_17e _ _ _ _ (by decide) (by decide)]
    repeat' split
    all_goals (congr 2; congr 1; unfold b2; split <;> first | rfl | (exfalso; omega))
  · rw [t_17 he _ _ _ _ (by decide) (by decide), show kAb 3 = 1 from rfl, t_17 he _ _ _ _ (by decide) (by decide), show kAb 1 = 0 from rfl, t_17 he _ _ _ _ (by decide) (by decide), show kAb 0 = -1 from rfl, t_17e _ _ _ _ (by decide) (by decide)]
    repeat' split
    all_goals (congr 2; congr 1; unfold b2; split <;> first | rfl | (exfalso; omega))
  · rw [t_17 he _ _ _ _ (by decide) (by decide), show kAb 4 = 2 from rfl, t_17 he _ _ _ _ (by decide) (by decide), show kAb 2 = 0 from rfl, t_17 he _ _ _ _ (by decide) (by decide), show kAb 0 = -1 from rfl, t_17e _ _ _ _ (by decide) (by decide)]
    repeat' split
    all_goals (congr 2; congr 1; unfold b2; split <;> first | rfl | (exfalso; omega))
  · rw [t_17 he _ _ _ _ (by decide) (by decide), show kAb 5 = 0 from rfl, t_17 he _ _ _ _ (by decide) (by decide), show kAb 0 = -1 from rfl, t_17e _ _ _ _ (by decide) (by decide)]
    repeat' split
    all_goals (congr 2; congr 1; unfold b2; split <;> first | rfl | (exfalso; omega))
/-- WEIGHT of a DAY: by kind, more, told, the year, the day, and what the law says -/
def wgt (kd mo tl y d pl : Int) : Int := if kd = 5 then 1 else if kd = 2 ∨ kd = 4 then (if kd = 4 ∧ d = (if tl + 1 < y then tl + 1 else 0) then min 9 (1 + mo) else if d = tl then 1 else 0) else if kd = 3 ∧ d % 2 = 0 then 0 else if (kd = 1 ∨ kd = 3) ∧ 2 * d < y then min 9 (pl + mo) else pl
theorem lvw_r {sg : List Int} {part : Nat} {d b y m t p : Int} : 0 ≤ lvw sg part d b y m t p ∧ lvw sg part d b y m t p ≤ (if part = 0 then 9 else 40) := by
  unfold lvw
  split <;> omega
