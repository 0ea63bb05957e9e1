/-! where both sides meet: one array at a time -/
/-- an edit by a map of positions: X's array and Y's are alike behind it -/
theorem ls_comb {n m : Nat} {σ : Nat → Nat} {so f g F G : Nat → Int32} (hn : n ≤ 40) (hσ : ∀ j, j < m → σ j < n) (h : ∀ j, j < n → f j = F j)
    (x : ∀ j, j < m → g j = f (σ j)) (hs : ∀ j, j < m → so j = nI (σ j)) (y : ls_Q m so F G) : ∀ j, j < m → g j = G j := by
  intro j hj
  have q := hσ j hj
  rw [x j hj, y j hj (σ j) (by omega) (hs j hj)]
  exact h (σ j) q
theorem ls_eq3 {n : Nat} {ka aa va kb ab vb : Nat → Int32} (h1 : ∀ j, j < n → ka j = kb j) (h2 : ∀ j, j < n → aa j = ab j) (h3 : ∀ j, j < n → va j = vb j) : ls_Eq n ka aa va kb ab vb :=
  fun j hj => ⟨h1 j hj, h2 j hj, h3 j hj⟩
theorem ls_e1 {n : Nat} {ka aa va kb ab vb : Nat → Int32} (h : ls_Eq n ka aa va kb ab vb) : ∀ j, j < n → ka j = kb j := fun j hj => (h j hj).1
theorem ls_e2 {n : Nat} {ka aa va kb ab vb : Nat → Int32} (h : ls_Eq n ka aa va kb ab vb) : ∀ j, j < n → aa j = ab j := fun j hj => (h j hj).2.1
theorem ls_e3 {n : Nat} {ka aa va kb ab vb : Nat → Int32} (h : ls_Eq n ka aa va kb ab vb) : ∀ j, j < n → va j = vb j := fun j hj => (h j hj).2.2

theorem ls_sR_lt {p m j : Nat} (hj : j < m) : ls_sR p j < m + 1 := by
  unfold ls_sR; split <;> omega
theorem ls_xR {p d : Nat} {f g : Nat → Int32} (h : ls_R p d f g) : ∀ j, j < p + d → g j = f (ls_sR p j) := by
  intro j hj
  unfold ls_sR
  by_cases e : j < p
  · rw [if_pos e]; exact h.1 j e
  · rw [if_neg e]; exact h.2 j (by omega) hj
theorem ls_sV_lt {f t n j : Nat} (ht : t ≤ n) (hj : j < n) : ls_sV f t j < n := by
  unfold ls_sV; split <;> omega
theorem ls_xV {f t n : Nat} {F G : Nat → Int32} (h : ls_V f t F G) : ∀ j, j < n → G j = F (ls_sV f t j) := by
  intro j _
  rw [h j]
  refine congrArg F ?_
  unfold ls_vi ls_sV
  by_cases e : f ≤ j ∧ j < t
  · rw [if_pos e, if_pos e]; omega
  · rw [if_neg e, if_neg e]
theorem ls_sM_in {f l p j : Nat} (h : p ≤ j ∧ j < p + l) : ls_sM f l p j = f + (j - p) := if_pos h
theorem ls_sM_out {f l p j : Nat} (h : ¬ (p ≤ j ∧ j < p + l)) : ls_sM f l p j = if (if j < p then j else j - l) < f then (if j < p then j else j - l) else (if j < p then j else j - l) + l := if_neg h
theorem ls_sM_lt {f l p n j : Nat} (hf : f + l ≤ n) (hp : p + l ≤ n) (hj : j < n) : ls_sM f l p j < n := by
  by_cases e : p ≤ j ∧ j < p + l
  · rw [ls_sM_in e]; omega
  · rw [ls_sM_out e]
    by_cases e2 : j < p
    · rw [if_pos e2]; split <;> omega
    · rw [if_neg e2]; split <;> omega
theorem ls_wM1 {f l p j : Nat} (h : f ≤ p) : ls_wi f (f + l) (p + l) j = ls_sM f l p j := by
  unfold ls_wi
  by_cases e : p ≤ j ∧ j < p + l
  · rw [ls_sM_in e, if_pos (by omega), if_neg (by omega)]; omega
  · rw [ls_sM_out e]
    by_cases e2 : j < p
    · rw [if_pos e2]
      by_cases e3 : j < f
      · rw [if_pos e3, if_neg (by omega)]
      · rw [if_neg e3, if_pos (by omega), if_pos (by omega)]; omega
    · rw [if_neg e2, if_neg (by omega), if_neg (by omega)]; omega
theorem ls_wM2 {f l p j : Nat} (h : p < f) : ls_wi p f (f + l) j = ls_sM f l p j := by
  unfold ls_wi
  by_cases e : p ≤ j ∧ j < p + l
  · rw [ls_sM_in e, if_pos (by omega), if_pos (by omega)]
  · rw [ls_sM_out e]
    by_cases e2 : j < p
    · rw [if_pos e2, if_neg (by omega), if_pos (by omega)]
    · rw [if_neg e2]
      by_cases e3 : j < f + l
      · rw [if_pos (by omega), if_neg (by omega), if_pos (by omega)]; omega
      · rw [if_neg (by omega), if_neg (by omega)]; omega
theorem ls_sC_lt {f l p n j : Nat} (hf : f + l ≤ n) (hp : p ≤ n) (hj : j < n + l) : ls_sC f l p j < n := by
  unfold ls_sC
  by_cases e : j < p
  · rw [if_pos e]; omega
  · rw [if_neg e]; split <;> omega
theorem ls_xC {f l p n : Nat} {F g G : Nat → Int32} (hf : f + l ≤ n) (hp : p ≤ n) (hG : ls_G p l (n - p) F g) (hC : ls_C f p l 0 g G) : ∀ j, j < n + l → G j = F (ls_sC f l p j) := by
  intro j hj
  unfold ls_sC
  by_cases e : j < p
  · rw [if_pos e, hC.1 j (by omega)]; exact hG.1 j e
  · rw [if_neg e]
    by_cases e2 : j < p + l
    · rw [if_pos e2, hC.2 j (by omega) e2]
      unfold ls_src
      by_cases e3 : f + (j - p) < p
      · rw [if_pos e3]; exact hG.1 _ e3
      · rw [if_neg e3]; exact hG.2.1 _ (by omega) (by omega)
    · rw [if_neg e2, hC.1 j (by omega)]
      have z := hG.2.1 (j - l) (by omega) (by omega)
      rw [show j - l + l = j by omega] at z
      exact z
theorem ls_insA {n p : Nat} {so f g F G : Nat → Int32} (x : Int32) (hn : n < 40) (hp : p ≤ n) (h : ∀ j, j < n → f j = F j) (hg : ls_G p 1 (n - p) f g)
    (hs : ∀ j, j < n + 1 → ls_Pi p j (so j)) (hq : ls_Q (n + 1) so F G) : ∀ j, j < n + 1 → upd g p x j = upd G p x j := by
  intro j hj
  by_cases e : j = p
  · rw [e, pk_us, pk_us]
  · rw [pk_un e, pk_un e]
    by_cases l : j < p
    · rw [hg.1 j l, hq j hj j (by omega) ((hs j hj).1 l)]
      exact h j (by omega)
    · obtain ⟨i, rfl⟩ : ∃ i, j = i + 1 := ⟨j - 1, by omega⟩
      rw [hg.2.1 i (by omega) (by omega), hq (i + 1) hj i (by omega) ((hs (i + 1) hj).2 (by omega))]
      exact h i (by omega)

theorem ls_amX {post : Int32 → Prop} {c r s : Int32} {ka aa va : Nat → Int32} {k a z : Int32} (hz : (if k = 0 then -c else 0) = z) (h : wX_isAmountOf_13 post a z c r s ka aa va) : wpX_isAmountOf post (c, r, s, ka, aa, va) k a := by
  by_cases e : k = 0
  · rw [if_pos e] at hz; subst hz; exact br_t e h
  · rw [if_neg e] at hz; subst hz; exact br_f e h
theorem ls_amY {post : Int32 → SY → Prop} {p k a c r s z : Int32} {kb ab vb so ok oa ov : Nat → Int32} (hz : (if k = 0 then -c else 0) = z) (h : wY_insert_53 post p k a z c r s kb ab vb so ok oa ov) :
    (k = 0 → wY_insert_53 post p k a (-c) c r s kb ab vb so ok oa ov) ∧ (¬ k = 0 → wY_insert_53 post p k a 0 c r s kb ab vb so ok oa ov) := by
  by_cases e : k = 0
  · rw [if_pos e] at hz; subst hz; exact br_t e h
  · rw [if_neg e] at hz; subst hz; exact br_f e h

theorem ls_init1 (k0 : Int32) : ∃ c : Nat, c ≤ 60 ∧ (∀ post : Int32 → Prop, post (nI c) → wpX_clamp post k0 4 60) ∧
    (∀ (post : SY → Prop) (k1 : Int32), wY_init_82 post k1 (nI c) 0 0 0 (fun _ => 0) (fun _ => 0) (fun _ => 0) (fun _ => 0) (fun _ => 0) (fun _ => 0) (fun _ => 0) → wpY_init post k0 k1) := by
  by_cases h1 : 4 ≤ k0
  · by_cases h2 : k0 ≤ 60
    · obtain ⟨c, hc, rfl⟩ := nI_of2 (M := 60) (n := 60) (by decide) (Int32.not_lt.mpr (Int32.le_trans (by decide) h1)) h2
      exact ⟨c, hc, fun _ h => br_t h1 (br_t h2 h), fun _ _ h => br_t h1 (br_t h2 h)⟩
    · exact ⟨60, by omega, fun _ h => br_t h1 (br_f h2 h), fun _ _ h => br_t h1 (br_f h2 h)⟩
  · exact ⟨4, by omega, fun _ h => br_f h1 h, fun _ _ h => br_f h1 h⟩
theorem ls_init2 (k1 : Int32) : ∃ r : Nat, r ≤ 40 ∧ (∀ post : Int32 → Prop, post (nI r) → wpX_clamp post k1 2 40) ∧
    (∀ (post : SY → Prop) (z : Int32), post (z, nI r, 0, (fun _ => 0), (fun _ => 0), (fun _ => 0), (fun _ => 0), (fun _ => 0), (fun _ => 0), (fun _ => 0)) → wY_init_82 post k1 z 0 0 0 (fun _ => 0) (fun _ => 0) (fun _ => 0) (fun _ => 0) (fun _ => 0) (fun _ => 0) (fun _ => 0)) := by
  by_cases h1 : 2 ≤ k1
  · by_cases h2 : k1 ≤ 40
    · obtain ⟨c, hc, rfl⟩ := nI_of2 (M := 40) (n := 40) (by decide) (Int32.not_lt.mpr (Int32.le_trans (by decide) h1)) h2
      exact ⟨c, hc, fun _ h => br_t h1 (br_t h2 h), fun _ _ h => br_t h1 (br_t h2 h)⟩
    · exact ⟨40, by omega, fun _ h => br_t h1 (br_f h2 h), fun _ _ h => br_t h1 (br_f h2 h)⟩
  · exact ⟨2, by omega, fun _ h => br_f h1 h, fun _ _ h => br_f h1 h⟩
