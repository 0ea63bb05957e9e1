/-! the relation, small facts, the tests of a block -/
theorem pk_us {f : Nat → Int32} {k : Nat} {x : Int32} : upd f k x k = x := if_pos rfl
theorem pk_un {f : Nat → Int32} {k j : Nat} {x : Int32} (h : j ≠ k) : upd f k x j = f j := if_neg h
theorem pk_sub {a b : Nat} (h : b ≤ a) : nI a - nI b = nI (a - b) := by
  obtain ⟨c, rfl⟩ : ∃ c, a = c + b := ⟨a - b, by omega⟩
  rw [← nI_add, Int32.add_sub_cancel, Nat.add_sub_cancel]
theorem pk_m1 (n : Nat) : nI (n + 1) + (-1) = nI n := by
  rw [← nI_1, Int32.add_assoc, show (1 : Int32) + (-1) = 0 from rfl, Int32.add_zero]
theorem pk_div {a d : Nat} (ha : a < 2 ^ 31) (h0 : 0 < d) (hd : d < 2 ^ 31) : nI a / nI d = nI (a / d) := by
  apply Int32.toInt_inj.mp
  rw [lg_idiv_nonneg (by rw [nI_toInt ha]; omega) (by rw [nI_toInt hd]; omega), nI_toInt ha, nI_toInt hd, nI_toInt (Nat.lt_of_le_of_lt (Nat.div_le_self a d) ha)]
  first | rfl | exact (Int.natCast_ediv _ _).symm
theorem pk_ix (x : Int32) {n : Nat} (hn : n < 2 ^ 31) : x < 0 ∨ nI n ≤ x ∨ ∃ j : Nat, j < n ∧ x = nI j := by
  by_cases h : x < 0
  · exact Or.inl h
  · obtain ⟨j, hj, rfl⟩ := nI_of h
    by_cases h2 : j < n
    · exact Or.inr (Or.inr ⟨j, h2, rfl⟩)
    · exact Or.inr (Or.inl (nI_le (by omega) hj))

/-- every cell holds 0 or 1 -/
def ls_B (v : Nat → Int32) : Prop := ∀ j, v j = 0 ∨ v j = 1
/-- the first n entries are alike on both sides -/
def ls_Eq (n : Nat) (ka aa va kb ab vb : Nat → Int32) : Prop := ∀ j, j < n → ka j = kb j ∧ aa j = ab j ∧ va j = vb j

def i_Rel (_ : Nat) (u : SX) (v : SY) : Prop :=
  ∃ (c r n : Nat) (ka aa va kb ab vb so ok oa ov : Nat → Int32),
    u = (nI c, nI r, nI n, ka, aa, va) ∧ v = (nI c, nI r, nI n, kb, ab, vb, so, ok, oa, ov) ∧
    c ≤ 60 ∧ r ≤ 40 ∧ n ≤ r ∧ ls_B va ∧ ls_Eq n ka aa va kb ab vb
theorem i_up {k : Nat} {u : SX} {v : SY} (h : i_Rel k u v) : i_Rel (k + 5) u v := h

theorem ls_10 : ¬ (1 : Int32) = 0 := by decide
theorem ls_01 : ¬ (0 : Int32) = 1 := by decide
theorem ls_20 : ¬ (2 : Int32) = 0 := by decide
theorem ls_21 : ¬ (2 : Int32) = 1 := by decide
theorem ls_l00 : ¬ (0 : Int32) < 0 := by decide
theorem ls_l10 : ¬ (1 : Int32) < 0 := by decide
theorem ls_l20 : ¬ (2 : Int32) < 0 := by decide
theorem ls_l21 : ¬ (2 : Int32) < 1 := by decide
theorem ls_l22 : ¬ (2 : Int32) < 2 := by decide

theorem ls_Bu {v : Nat → Int32} {k : Nat} {x : Int32} (h : ls_B v) (hx : x = 0 ∨ x = 1) : ls_B (upd v k x) := by
  intro j
  by_cases e : j = k
  · rw [e, pk_us]; exact hx
  · rw [pk_un e]; exact h j
theorem ls_nar {x : Int32} (h : x = 0 ∨ x = 1) : vp_nar .boolean x = x := by
  rcases h with h | h <;> rw [h] <;> rfl
theorem ls_Em {n t : Nat} {ka aa va kb ab vb : Nat → Int32} (h : t ≤ n) (hE : ls_Eq n ka aa va kb ab vb) : ls_Eq t ka aa va kb ab vb :=
  fun j hj => hE j (by omega)
theorem ls_cl {j : Nat} (h : j < 40) : (nI j).toNatClampNeg = j := nI_clamp (by omega)
theorem ls_in {j : Nat} (h : j < 40) : vp_in (nI j) 40 := vp_in_nI h (by omega)
theorem ls_n40 {j : Nat} (h : j < 40) : ¬ (40 : Int32) ≤ nI j := nI_ge (b := 40) h (by omega)
theorem ls_l40 {j : Nat} (h : j < 40) : nI j < (40 : Int32) := nI_lt (b := 40) h (by omega)
theorem ls_s1 (x : Int32) : x - 1 = x + (-1) := by
  first | exact Int32.sub_eq_add_neg x 1 | grind
theorem ls_p1 {j : Nat} (h : 0 < j) : nI j - 1 = nI (j - 1) := by
  obtain ⟨q, rfl⟩ : ∃ q, j = q + 1 := ⟨j - 1, by omega⟩
  exact nI_pred q
theorem ls_mlt : ∀ p : Nat, p ≤ 40 → nI p + (-1) < nI p
  | 0, _ => by decide +kernel
  | p + 1, h => by rw [pk_m1]; exact nI_lt (by omega) (by omega)
/-- one more step behind a store at i -/
theorem ls_so {P : Nat → Int32 → Prop} {i : Nat} {so : Nat → Int32} {x : Int32} (cl : (nI i).toNatClampNeg = i) (h : ∀ j, j < i → P j (so j)) (hx : P i x) : ∀ j, j < i + 1 → P j (upd so (nI i).toNatClampNeg x j) := by
  rw [cl]
  intro j hj
  by_cases e : j = i
  · rw [e, pk_us]; exact hx
  · rw [pk_un e]; exact h j (by omega)

theorem ls_blk (n : Nat) (hn : n ≤ 40) (p q : Int32) :
    (∃ f t : Nat, f ≤ t ∧ t ≤ n ∧ p = nI f ∧ q = nI t) ∨
    ((∀ (post : Int32 → Prop) (c r : Int32) (ka aa va : Nat → Int32), post 0 → wpX_isGoodBlock post (c, r, nI n, ka, aa, va) p q) ∧
     (∀ (post : Int32 → Prop) (c r : Int32) (kb ab vb so ok oa ov : Nat → Int32), post 1 → wpY_bad post (c, r, nI n, kb, ab, vb, so, ok, oa, ov) p q)) := by
  by_cases h0 : p < 0
  · exact Or.inr ⟨fun _ _ _ _ _ _ h => br_t h0 h, fun _ _ _ _ _ _ _ _ _ _ h => br_t h0 h⟩
  · by_cases h1 : q < p
    · exact Or.inr ⟨fun _ _ _ _ _ _ h => br_f h0 (br_t h1 h), fun _ _ _ _ _ _ _ _ _ _ h => br_f h0 (br_t h1 h)⟩
    · by_cases h2 : nI n < q
      · exact Or.inr ⟨fun _ _ _ _ _ _ h => br_f h0 (br_f h1 (br_t h2 h)), fun _ _ _ _ _ _ _ _ _ _ h => br_f h0 (br_f h1 (br_f (Int32.not_le.mpr h2) h))⟩
      · have hq : ¬ q < 0 := fun z => h1 (Int32.lt_of_lt_of_le z (Int32.not_lt.mp h0))
        obtain ⟨f, hf, rfl⟩ := nI_of h0
        obtain ⟨t, ht, rfl⟩ := nI_of hq
        rw [nI_ltI ht hf] at h1
        rw [nI_ltI (by omega) ht] at h2
        exact Or.inl ⟨f, t, by omega, by omega, rfl, rfl⟩
theorem ls_gX {post : Int32 → Prop} {c r : Int32} {ka aa va : Nat → Int32} {f t n : Nat} (h1 : f ≤ t) (h2 : t ≤ n) (hn : n ≤ 40) (h : post 1) : wpX_isGoodBlock post (c, r, nI n, ka, aa, va) (nI f) (nI t) :=
  br_f (nI_pos (by omega)) (br_f (nI_nlt h1 (by omega)) (br_f (nI_nlt h2 (by omega)) h))
theorem ls_gY {post : Int32 → Prop} {c r : Int32} {kb ab vb so ok oa ov : Nat → Int32} {f t n : Nat} (h1 : f ≤ t) (h2 : t ≤ n) (hn : n ≤ 40) (h : post 0) : wpY_bad post (c, r, nI n, kb, ab, vb, so, ok, oa, ov) (nI f) (nI t) :=
  br_f (nI_pos (by omega)) (br_f (nI_nlt h1 (by omega)) (br_t (nI_le h2 (by omega)) h))
