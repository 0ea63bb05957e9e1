section
/-! the relation, small facts, the tests of a block -/
theorem pk_us {f : Nat → Int32} {k : Nat} {x : Int32} : upd f k x k = x := if_pos rfl
theorem pk_un {f : Nat → Int32} {k j : Nat} {x : Int32} (h : j ≠ k) : upd f k x j = f j := if_neg h
theorem pk_sub {a b : Nat} (h : b ≤ a) : nI a - nI b = nI (a - b) := by
  obtain ⟨c, rfl⟩ : ∃ c, a = c + b := ⟨a - b, by omega⟩
  rw [← nI_add, Int32.add_sub_cancel, Nat.add_sub_cancel]
theorem pk_m1 (n : Nat) : nI (n + 1) + (-1) = nI n := by
  rw [← nI_1, Int32.add_assoc, show (1 : Int32) + (-1) = 0 from rfl, Int32.add_zero]
theorem pk_div {a d : Nat} (ha : a < 2 ^ 31) (h0 : 0 < d) (hd : d < 2 ^ 31) : nI a / nI d = nI (a / d) := by
  apply Int32.toInt_inj.mp
  rw [lg_idiv_nonneg (by rw [nI_toInt ha]; omega) (by rw [nI_toInt hd]; omega), nI_toInt ha, nI_toInt hd, nI_toInt (Nat.lt_of_le_of_lt (Nat.div_le_self a d) ha)]
  first | rfl | exact (Int.natCast_ediv _ _).symm
theorem pk_ix (x : Int32) {n : Nat} (hn : n < 2 ^ 31) : x < 0 ∨ nI n ≤ x ∨ ∃ j : Nat, j < n ∧ x = nI j := by
  by_cases h : x < 0
  · exact Or.inl h
  · obtain ⟨j, hj, rfl⟩ := nI_of h
    by_cases h2 : j < n
    · exact Or.inr (Or.inr ⟨j, h2, rfl⟩)
    · exact Or.inr (Or.inl (nI_le (by omega) hj))

/-- every cell holds 0 or 1 -/
def ls_B (v : Nat → Int32) : Prop := ∀ j, v j = 0 ∨ v j = 1
/-- the first n entries are alike on both sides -/
def ls_Eq (n : Nat) (ka aa va kb ab vb : Nat → Int32) : Prop := ∀ j, j < n → ka j = kb j ∧ aa j = ab j ∧ va j = vb j

def i_Rel (_ : Nat) (u : SX) (v : SY) : Prop :=
  ∃ (c r n : Nat) (ka aa va kb ab vb so ok oa ov : Nat → Int32),
    u = (nI c, nI r, nI n, ka, aa, va) ∧ v = (nI c, nI r, nI n, kb, ab, vb, so, ok, oa, ov) ∧
    c ≤ 60 ∧ r ≤ 40 ∧ n ≤ r ∧ ls_B va ∧ ls_Eq n ka aa va kb ab vb
theorem i_up {k : Nat} {u : SX} {v : SY} (h : i_Rel k u v) : i_Rel (k + 5) u v := h

theorem ls_10 : ¬ (1 : Int32) = 0 := by decide
theorem ls_01 : ¬ (0 : Int32) = 1 := by decide
theorem ls_20 : ¬ (2 : Int32) = 0 := by decide
theorem ls_21 : ¬ (2 : Int32) = 1 := by decide
theorem ls_l00 : ¬ (0 : Int32) < 0 := by decide
theorem ls_l10 : ¬ (1 : Int32) < 0 := by decide
theorem ls_l20 : ¬ (2 : Int32) < 0 := by decide
theorem ls_l21 : ¬ (2 : Int32) < 1 := by decide
theorem ls_l22 : ¬ (2 : Int32) < 2 := by decide

theorem ls_Bu {v : Nat → Int32} {k : Nat} {x : Int32} (h : ls_B v) (hx : x = 0 ∨ x = 1) : ls_B (upd v k x) := by
  intro j
  by_cases e : j = k
  · rw [e, pk_us]; exact hx
  · rw [pk_un e]; exact h j
theorem ls_nar {x : Int32} (h : x = 0 ∨ x = 1) : vp_nar .boolean x = x := by
  rcases h with h | h <;> rw [h] <;> rfl
theorem ls_Em {n t : Nat} {ka aa va kb ab vb : Nat → Int32} (h : t ≤ n) (hE : ls_Eq n ka aa va kb ab vb) : ls_Eq t ka aa va kb ab vb :=
  fun j hj => hE j (by omega)
theorem ls_cl {j : Nat} (h : j < 40) : (nI j).toNatClampNeg = j := nI_clamp (by omega)
theorem ls_in {j : Nat} (h : j < 40) : vp_in (nI j) 40 := vp_in_nI h (by omega)
theorem ls_n40 {j : Nat} (h : j < 40) : ¬ (40 : Int32) ≤ nI j := nI_ge (b := 40) h (by omega)
theorem ls_l40 {j : Nat} (h : j < 40) : nI j < (40 : Int32) := nI_lt (b := 40) h (by omega)
theorem ls_s1 (x : Int32) : x - 1 = x + (-1) := by
  first | exact Int32.sub_eq_add_neg x 1 | grind
theorem ls_p1 {j : Nat} (h : 0 < j) : nI j - 1 = nI (j - 1) := by
  obtain ⟨q, rfl⟩ : ∃ q, j = q + 1 := ⟨j - 1, by omega⟩
  exact nI_pred q
theorem ls_mlt : ∀ p : Nat, p ≤ 40 → nI p + (-1) < nI p
  | 0, _ => by decide +kernel
  | p + 1, h => by rw [pk_m1]; exact nI_lt (by omega) (by omega)
/-- one more step behind a store at i -/
theorem ls_so {P : Nat → Int32 → Prop} {i : Nat} {so : Nat → Int32} {x : Int32} (cl : (nI i).toNatClampNeg = i) (h : ∀ j, j < i → P j (so j)) (hx : P i x) : ∀ j, j < i + 1 → P j (upd so (nI i).toNatClampNeg x j) := by
  rw [cl]
  intro j hj
  by_cases e : j = i
  · rw [e, pk_us]; exact hx
  · rw [pk_un e]; exact h j (by omega)

theorem ls_blk (n : Nat) (hn : n ≤ 40) (p q : Int32) :
    (∃ f t : Nat, f ≤ t ∧ t ≤ n ∧ p = nI f ∧ q = nI t) ∨
    ((∀ (post : Int32 → Prop) (c r : Int32) (ka aa va : Nat → Int32), post 0 → wpX_isGoodBlock post (c, r, nI n, ka, aa, va) p q) ∧
     (∀ (post : Int32 → Prop) (c r : Int32) (kb ab vb so ok oa ov : Nat → Int32), post 1 → wpY_bad post (c, r, nI n, kb, ab, vb, so, ok, oa, ov) p q)) := by
  by_cases h0 : p < 0
  · exact Or.inr ⟨fun _ _ _ _ _ _ h => br_t h0 h, fun _ _ _ _ _ _ _ _ _ _ h => br_t h0 h⟩
  · by_cases h1 : q < p
    · exact Or.inr ⟨fun _ _ _ _ _ _ h => br_f h0 (br_t h1 h), fun _ _ _ _ _ _ _ _ _ _ h => br_f h0 (br_t h1 h)⟩
    · by_cases h2 : nI n < q
      · exact Or.inr ⟨fun _ _ _ _ _ _ h => br_f h0 (br_f h1 (br_t h2 h)), fun _ _ _ _ _ _ _ _ _ _ h => br_f h0 (br_f h1 (br_f (Int32.not_le.mpr h2) h))⟩
      · have hq : ¬ q < 0 := fun z => h1 (Int32.lt_of_lt_of_le z (Int32.not_lt.mp h0))
        obtain ⟨f, hf, rfl⟩ := nI_of h0
        obtain ⟨t, ht, rfl⟩ := nI_of hq
        rw [nI_ltI ht hf] at h1
        rw [nI_ltI (by omega) ht] at h2
        exact Or.inl ⟨f, t, by omega, by omega, rfl, rfl⟩
theorem ls_gX {post : Int32 → Prop} {c r : Int32} {ka aa va : Nat → Int32} {f t n : Nat} (h1 : f ≤ t) (h2 : t ≤ n) (hn : n ≤ 40) (h : post 1) : wpX_isGoodBlock post (c, r, nI n, ka, aa, va) (nI f) (nI t) :=
  br_f (nI_pos (by omega)) (br_f (nI_nlt h1 (by omega)) (br_f (nI_nlt h2 (by omega)) h))
theorem ls_gY {post : Int32 → Prop} {c r : Int32} {kb ab vb so ok oa ov : Nat → Int32} {f t n : Nat} (h1 : f ≤ t) (h2 : t ≤ n) (hn : n ≤ 40) (h : post 0) : wpY_bad post (c, r, nI n, kb, ab, vb, so, ok, oa, ov) (nI f) (nI t) :=
  br_f (nI_pos (by omega)) (br_f (nI_nlt h1 (by omega)) (br_t (nI_le h2 (by omega)) h))
end
section
/-! what the queries answer, in lockstep: one answer for both sides -/
theorem ls_app (c r s : Int32) (ka aa va kb ab vb so ok oa ov : Nat → Int32) (p x : Int32) (hp : vp_in p 40)
    (ek : ka p.toNatClampNeg = kb p.toNatClampNeg) (ea : aa p.toNatClampNeg = ab p.toNatClampNeg) (ev : va p.toNatClampNeg = vb p.toNatClampNeg)
    (hb : va p.toNatClampNeg = 0 ∨ va p.toNatClampNeg = 1) :
    ∃ y : Int32, (∀ post : Int32 → Prop, post y → wpX_applied post (c, r, s, ka, aa, va) p x) ∧ (∀ post : Int32 → Prop, post y → wpY_applied post (c, r, s, kb, ab, vb, so, ok, oa, ov) p x) := by
  unfold wpX_applied wpY_applied wpX_clamp
  dsimp only
  rw [← ek, ← ea, ← ev]
  generalize ka p.toNatClampNeg = K
  generalize aa p.toNatClampNeg = A
  rcases hb with hb | hb <;> rw [hb]
  · by_cases k0 : K = 0
    · subst k0
      by_cases g0 : 0 ≤ x + A
      · by_cases g1 : x + A ≤ c
        · exact ⟨x + A, fun post h => ⟨hp, br_t rfl ⟨hp, nm_e ⟨hp, nm_e (br_f ls_l00 (br_f ls_l20 (br_t rfl (br_t g0 (br_t g1 h)))))⟩⟩⟩,
            fun post h => ⟨hp, br_f ls_01 ⟨hp, nm_e ⟨hp, br_t rfl (nm_e (br_t g0 (br_t g1 h)))⟩⟩⟩⟩
        · exact ⟨c, fun post h => ⟨hp, br_t rfl ⟨hp, nm_e ⟨hp, nm_e (br_f ls_l00 (br_f ls_l20 (br_t rfl (br_t g0 (br_f g1 h)))))⟩⟩⟩,
            fun post h => ⟨hp, br_f ls_01 ⟨hp, nm_e ⟨hp, br_t rfl (nm_e (br_t g0 (br_f g1 h)))⟩⟩⟩⟩
      · exact ⟨0, fun post h => ⟨hp, br_t rfl ⟨hp, nm_e ⟨hp, nm_e (br_f ls_l00 (br_f ls_l20 (br_t rfl (br_f g0 h))))⟩⟩⟩,
            fun post h => ⟨hp, br_f ls_01 ⟨hp, nm_e ⟨hp, br_t rfl (nm_e (br_f g0 h))⟩⟩⟩⟩
    · by_cases k1 : K = 1
      · subst k1
        by_cases g : x ≤ A
        · exact ⟨A, fun post h => ⟨hp, br_t rfl ⟨hp, nm_e ⟨hp, nm_e (br_f ls_l10 (br_f ls_l21 (br_f ls_10 (br_t rfl (br_t g h)))))⟩⟩⟩,
            fun post h => ⟨hp, br_f ls_01 ⟨hp, nm_e ⟨hp, br_f ls_10 ⟨hp, br_t rfl (br_t g h)⟩⟩⟩⟩⟩
        · exact ⟨x, fun post h => ⟨hp, br_t rfl ⟨hp, nm_e ⟨hp, nm_e (br_f ls_l10 (br_f ls_l21 (br_f ls_10 (br_t rfl (br_f g h)))))⟩⟩⟩,
            fun post h => ⟨hp, br_f ls_01 ⟨hp, nm_e ⟨hp, br_f ls_10 ⟨hp, br_t rfl (br_f g h)⟩⟩⟩⟩⟩
      · by_cases k2 : K = 2
        · subst k2
          by_cases g : A ≤ x
          · exact ⟨A, fun post h => ⟨hp, br_t rfl ⟨hp, nm_e ⟨hp, nm_e (br_f ls_l20 (br_f ls_l22 (br_f ls_20 (br_f ls_21 (br_t rfl (br_t g h))))))⟩⟩⟩,
              fun post h => ⟨hp, br_f ls_01 ⟨hp, nm_e ⟨hp, br_f ls_20 ⟨hp, br_f ls_21 ⟨hp, br_t rfl (br_t g h)⟩⟩⟩⟩⟩⟩
          · exact ⟨x, fun post h => ⟨hp, br_t rfl ⟨hp, nm_e ⟨hp, nm_e (br_f ls_l20 (br_f ls_l22 (br_f ls_20 (br_f ls_21 (br_t rfl (br_f g h))))))⟩⟩⟩,
              fun post h => ⟨hp, br_f ls_01 ⟨hp, nm_e ⟨hp, br_f ls_20 ⟨hp, br_f ls_21 ⟨hp, br_t rfl (br_f g h)⟩⟩⟩⟩⟩⟩
        · exact ⟨A, fun post h => ⟨hp, br_t rfl ⟨hp, nm_e ⟨hp, nm_e (br_c (fun _ => h) (fun _ => br_c (fun _ => h) (fun _ => br_f k0 (br_f k1 (br_f k2 trivial)))))⟩⟩⟩,
            fun post h => ⟨hp, br_f ls_01 ⟨hp, nm_e ⟨hp, br_f k0 ⟨hp, br_f k1 ⟨hp, br_f k2 h⟩⟩⟩⟩⟩⟩
  · exact ⟨x, fun post h => ⟨hp, br_f ls_10 h⟩, fun post h => ⟨hp, br_t rfl h⟩⟩

theorem ls_clo (c r s : Int32) (ka aa va kb ab vb so ok oa ov : Nat → Int32) (t : Nat) (ht : t ≤ 40) (hB : ls_B va) (hE : ls_Eq t ka aa va kb ab vb) : ∀ d f : Nat, f + d = t → ∀ x : Int32, ∃ y : Int32,
    (∀ post : Int32 → Prop, post y → wX_closing_6 post (nI t) c r s ka aa va (d + 1) x (nI f)) ∧ (∀ post : Int32 → Prop, post y → wY_replay_6 post (nI t) c r s kb ab vb so ok oa ov (d + 1) x (nI f)) := by
  intro d
  induction d with
  | zero =>
    intro f hf x
    have h : nI t ≤ nI f := nI_le (by omega) (by omega)
    exact ⟨x, fun _ hp => br_t h hp, fun _ hp => br_t h hp⟩
  | succ d ih =>
    intro f hf x
    have h : ¬ nI t ≤ nI f := nI_ge (by omega) (by omega)
    have h40 : f < 40 := by omega
    have e := hE f (by omega)
    have cl := ls_cl h40
    obtain ⟨y1, hX1, hY1⟩ := ls_app c r s ka aa va kb ab vb so ok oa ov (nI f) x (ls_in h40) (by rw [cl]; exact e.1) (by rw [cl]; exact e.2.1) (by rw [cl]; exact e.2.2) (by rw [cl]; exact hB f)
    obtain ⟨y, hX2, hY2⟩ := ih (f + 1) (by omega) y1
    exact ⟨y, fun post hp => br_f h (hX1 _ (nm_r (nI_1 f) (hX2 post hp))), fun post hp => br_f h (br_f (ls_n40 h40) (hY1 _ (nm_r (nI_1 f) (hY2 post hp))))⟩
theorem ls_closing (c r s : Int32) (ka aa va kb ab vb so ok oa ov : Nat → Int32) (f t : Nat) (hft : f ≤ t) (ht : t ≤ 40) (hB : ls_B va) (hE : ls_Eq t ka aa va kb ab vb) (x : Int32) : ∃ y : Int32,
    (∀ post : Int32 → Prop, post y → wpX_closing post (c, r, s, ka, aa, va) (nI f) (nI t) x) ∧ (∀ post : Int32 → Prop, post y → wpY_replay post (c, r, s, kb, ab, vb, so, ok, oa, ov) (nI f) (nI t) x) := by
  obtain ⟨y, hX, hY⟩ := ls_clo c r s ka aa va kb ab vb so ok oa ov t ht hB hE (t - f) f (by omega) x
  exact ⟨y, fun post hp => ⟨_, hX post hp⟩, fun post hp => ⟨_, hY post hp⟩⟩

theorem ls_rep (c r s : Int32) (ka aa va kb ab vb so ok oa ov : Nat → Int32) (f t : Nat) (hft : f ≤ t) (ht : t ≤ 40) (hB : ls_B va) (hE : ls_Eq t ka aa va kb ab vb) (m : Nat) (hm : m ≤ 200) : ∀ d i : Nat, i + d = m → ∀ x : Int32, ∃ y : Int32,
    (∀ post : Int32 → Prop, post y → wX_closingAfter_6 post (nI f) (nI t) (nI m) c r s ka aa va (d + 1) x (nI i)) ∧ (∀ post : Int32 → Prop, post y → wY_repeat_48 post (nI f) (nI t) (nI m) c r s kb ab vb so ok oa ov (d + 1) x (nI i)) := by
  intro d
  induction d with
  | zero =>
    intro i hi x
    have h : nI m ≤ nI i := nI_le (by omega) (by omega)
    exact ⟨x, fun _ hp => br_t h hp, fun _ hp => br_t h hp⟩
  | succ d ih =>
    intro i hi x
    have h : ¬ nI m ≤ nI i := nI_ge (by omega) (by omega)
    obtain ⟨y1, hX1, hY1⟩ := ls_closing c r s ka aa va kb ab vb so ok oa ov f t hft ht hB hE x
    obtain ⟨y, hX2, hY2⟩ := ih (i + 1) (by omega) y1
    exact ⟨y, fun post hp => br_f h (hX1 _ (nm_r (nI_1 i) (hX2 post hp))), fun post hp => br_f h (hY1 _ (nm_r (nI_1 i) (hY2 post hp)))⟩
theorem ls_rst (c r s : Int32) (ka aa va kb ab vb so ok oa ov : Nat → Int32) (f t : Nat) (hft : f ≤ t) (ht : t ≤ 40) (hB : ls_B va) (hE : ls_Eq t ka aa va kb ab vb) (m : Nat) (hm : m ≤ 200) (hc : c + 1 = nI m) : ∀ d i : Nat, i + d = m → ∀ x : Int32, ∃ y : Int32,
    (∀ post : Int32 → Prop, post y → wX_closingAfter_6 post (nI f) (nI t) (c + 1) c r s ka aa va (d + 1) x (nI i)) ∧ (∀ post : Int32 → Prop, post y → wY_rest_32 post (nI f) (nI t) c r s kb ab vb so ok oa ov (d + 1) x (nI i)) := by
  intro d
  induction d with
  | zero =>
    intro i hi x
    have h : c + 1 ≤ nI i := by rw [hc]; exact nI_le (by omega) (by omega)
    exact ⟨x, fun _ hp => br_t h hp, fun _ hp => br_t h hp⟩
  | succ d ih =>
    intro i hi x
    have h : ¬ c + 1 ≤ nI i := by rw [hc]; exact nI_ge (by omega) (by omega)
    obtain ⟨y1, hX1, hY1⟩ := ls_closing c r s ka aa va kb ab vb so ok oa ov f t hft ht hB hE x
    obtain ⟨y, hX2, hY2⟩ := ih (i + 1) (by omega) y1
    exact ⟨y, fun post hp => br_f h (hX1 _ (nm_r (nI_1 i) (hX2 post hp))), fun post hp => br_f h (hY1 _ (nm_r (nI_1 i) (hY2 post hp)))⟩
theorem ls_lst (c r s : Int32) (ka aa va kb ab vb so ok oa ov : Nat → Int32) (f t : Nat) (hft : f ≤ t) (ht : t ≤ 40) (hB : ls_B va) (hE : ls_Eq t ka aa va kb ab vb) (m : Nat) (hm : m ≤ 60) (hc : c = nI m) (y : Int32) : ∀ d i : Nat, i + d = m + 1 → ∃ z : Int32,
    (∀ post : Int32 → Prop, post z → wX_leastOpening_25 post (nI f) (nI t) y c r s ka aa va (d + 1) (nI i)) ∧ (∀ post : Int32 → Prop, post z → wY_leastOpening_29 post (nI f) (nI t) y c r s kb ab vb so ok oa ov (d + 1) (nI i)) := by
  intro d
  induction d with
  | zero =>
    intro i hi
    have h : c < nI i := by rw [hc]; exact nI_lt (by omega) (by omega)
    exact ⟨-3, fun _ hp => br_t h hp, fun _ hp => br_t h hp⟩
  | succ d ih =>
    intro i hi
    have h : ¬ c < nI i := by rw [hc]; exact nI_nlt (by omega) (by omega)
    obtain ⟨y1, hX1, hY1⟩ := ls_closing c r s ka aa va kb ab vb so ok oa ov f t hft ht hB hE (nI i)
    by_cases g : y1 < y
    · obtain ⟨z, hX2, hY2⟩ := ih (i + 1) (by omega)
      exact ⟨z, fun post hp => br_f h (hX1 _ (br_t g (nm_r (nI_1 i) (hX2 post hp)))), fun post hp => br_f h (hY1 _ (br_t g (nm_r (nI_1 i) (hY2 post hp))))⟩
    · exact ⟨nI i, fun post hp => br_f h (hX1 _ (br_f g hp)), fun post hp => br_f h (hY1 _ (br_f g hp))⟩
theorem ls_opn (c r s : Int32) (ka aa va kb ab vb so ok oa ov : Nat → Int32) (f t : Nat) (hft : f ≤ t) (ht : t ≤ 40) (hB : ls_B va) (hE : ls_Eq t ka aa va kb ab vb) (m : Nat) (hm : m ≤ 60) (hc : c = nI m) (y : Int32) : ∀ d i : Nat, i + d = m + 1 → ∀ a : Int32, ∃ z : Int32,
    (∀ post : Int32 → Prop, post z → wX_openings_28 post (nI f) (nI t) y c r s ka aa va (d + 1) a (nI i)) ∧ (∀ post : Int32 → Prop, post z → wY_openings_32 post (nI f) (nI t) y c r s kb ab vb so ok oa ov (d + 1) a (nI i)) := by
  intro d
  induction d with
  | zero =>
    intro i hi a
    have h : c < nI i := by rw [hc]; exact nI_lt (by omega) (by omega)
    exact ⟨a, fun _ hp => br_t h hp, fun _ hp => br_t h hp⟩
  | succ d ih =>
    intro i hi a
    have h : ¬ c < nI i := by rw [hc]; exact nI_nlt (by omega) (by omega)
    obtain ⟨y1, hX1, hY1⟩ := ls_closing c r s ka aa va kb ab vb so ok oa ov f t hft ht hB hE (nI i)
    by_cases g : y1 = y
    · obtain ⟨z, hX2, hY2⟩ := ih (i + 1) (by omega) (a + 1)
      exact ⟨z, fun post hp => br_f h (hX1 _ (br_t g (nm_e (nm_r (nI_1 i) (hX2 post hp))))), fun post hp => br_f h (hY1 _ (br_t g (nm_e (nm_r (nI_1 i) (hY2 post hp)))))⟩
    · obtain ⟨z, hX2, hY2⟩ := ih (i + 1) (by omega) a
      exact ⟨z, fun post hp => br_f h (hX1 _ (br_f g (nm_r (nI_1 i) (hX2 post hp)))), fun post hp => br_f h (hY1 _ (br_f g (nm_r (nI_1 i) (hY2 post hp))))⟩

theorem ls_liv (c r s : Int32) (ka aa va kb ab vb so ok oa ov : Nat → Int32) (t : Nat) (ht : t ≤ 40) (hE : ls_Eq t ka aa va kb ab vb) : ∀ d f : Nat, f + d = t → ∀ a : Int32, ∃ z : Int32,
    (∀ post : Int32 → Prop, post z → wX_liveCount_16 post (nI t) c r s ka aa va (d + 1) a (nI f)) ∧ (∀ post : Int32 → Prop, post z → wY_liveCount_16 post (nI t) c r s kb ab vb so ok oa ov (d + 1) a (nI f)) := by
  intro d
  induction d with
  | zero =>
    intro f hf a
    have h : nI t ≤ nI f := nI_le (by omega) (by omega)
    exact ⟨a, fun _ hp => br_t h hp, fun _ hp => br_t h hp⟩
  | succ d ih =>
    intro f hf a
    have h : ¬ nI t ≤ nI f := nI_ge (by omega) (by omega)
    have h40 : f < 40 := by omega
    have ev : va (nI f).toNatClampNeg = vb (nI f).toNatClampNeg := by rw [ls_cl h40]; exact (hE f (by omega)).2.2
    by_cases g : va (nI f).toNatClampNeg = 0
    · obtain ⟨z, hX2, hY2⟩ := ih (f + 1) (by omega) (a + 1)
      exact ⟨z, fun post hp => br_f h ⟨ls_in h40, br_t g (nm_e (nm_r (nI_1 f) (hX2 post hp)))⟩,
        fun post hp => br_f h (br_f (ls_n40 h40) ⟨ls_in h40, br_t (ev.symm.trans g) (nm_e (nm_r (nI_1 f) (hY2 post hp)))⟩)⟩
    · obtain ⟨z, hX2, hY2⟩ := ih (f + 1) (by omega) a
      exact ⟨z, fun post hp => br_f h ⟨ls_in h40, br_f g (nm_r (nI_1 f) (hX2 post hp))⟩,
        fun post hp => br_f h (br_f (ls_n40 h40) ⟨ls_in h40, br_f (fun z => g (ev.trans z)) (nm_r (nI_1 f) (hY2 post hp))⟩)⟩
theorem ls_net (c r s : Int32) (ka aa va kb ab vb so ok oa ov : Nat → Int32) (t : Nat) (ht : t ≤ 40) (hE : ls_Eq t ka aa va kb ab vb) : ∀ d f : Nat, f + d = t → ∀ a : Int32, ∃ z : Int32,
    (∀ post : Int32 → Prop, post z → wX_net_17 post (nI t) c r s ka aa va (d + 1) a (nI f)) ∧ (∀ post : Int32 → Prop, post z → wY_net_17 post (nI t) c r s kb ab vb so ok oa ov (d + 1) a (nI f)) := by
  intro d
  induction d with
  | zero =>
    intro f hf a
    have h : nI t ≤ nI f := nI_le (by omega) (by omega)
    exact ⟨a, fun _ hp => br_t h hp, fun _ hp => br_t h hp⟩
  | succ d ih =>
    intro f hf a
    have h : ¬ nI t ≤ nI f := nI_ge (by omega) (by omega)
    have h40 : f < 40 := by omega
    have e := hE f (by omega)
    have ek : ka (nI f).toNatClampNeg = kb (nI f).toNatClampNeg := by rw [ls_cl h40]; exact e.1
    have ea : aa (nI f).toNatClampNeg = ab (nI f).toNatClampNeg := by rw [ls_cl h40]; exact e.2.1
    have ev : va (nI f).toNatClampNeg = vb (nI f).toNatClampNeg := by rw [ls_cl h40]; exact e.2.2
    by_cases g : va (nI f).toNatClampNeg = 0
    · by_cases g2 : ka (nI f).toNatClampNeg = 0
      · obtain ⟨z, hX2, hY2⟩ := ih (f + 1) (by omega) (a + aa (nI f).toNatClampNeg)
        exact ⟨z, fun post hp => br_f h ⟨ls_in h40, br_t g ⟨ls_in h40, br_t g2 ⟨ls_in h40, nm_e (nm_r (nI_1 f) (hX2 post hp))⟩⟩⟩,
          fun post hp => br_f h (br_f (ls_n40 h40) ⟨ls_in h40, br_t (ev.symm.trans g) ⟨ls_in h40, br_t (ek.symm.trans g2) ⟨ls_in h40, nm_r (congrArg (fun z => a + z) ea.symm) (nm_r (nI_1 f) (hY2 post hp))⟩⟩⟩)⟩
      · obtain ⟨z, hX2, hY2⟩ := ih (f + 1) (by omega) a
        exact ⟨z, fun post hp => br_f h ⟨ls_in h40, br_t g ⟨ls_in h40, br_f g2 (nm_r (nI_1 f) (hX2 post hp))⟩⟩,
          fun post hp => br_f h (br_f (ls_n40 h40) ⟨ls_in h40, br_t (ev.symm.trans g) ⟨ls_in h40, br_f (fun z => g2 (ek.trans z)) (nm_r (nI_1 f) (hY2 post hp))⟩⟩)⟩
    · obtain ⟨z, hX2, hY2⟩ := ih (f + 1) (by omega) a
      exact ⟨z, fun post hp => br_f h ⟨ls_in h40, br_f g (nm_r (nI_1 f) (hX2 post hp))⟩,
        fun post hp => br_f h (br_f (ls_n40 h40) ⟨ls_in h40, br_f (fun z => g (ev.trans z)) (nm_r (nI_1 f) (hY2 post hp))⟩)⟩

theorem ls_sv (c r s : Int32) (ka aa kb ab so ok oa ov : Nat → Int32) (t n : Nat) (htn : t ≤ n) (hn : n ≤ 40) (w : Int32) (hw : w = 0 ∨ w = 1) :
    ∀ d f : Nat, f + d = t → ∀ (a : Int32) (va vb : Nat → Int32), ls_B va → (∀ j, j < n → va j = vb j) →
    ∃ (y : Int32) (va' vb' : Nat → Int32), ls_B va' ∧ (∀ j, j < n → va' j = vb' j) ∧
      (∀ post : Int32 → SX → Prop, post y (c, r, s, ka, aa, va') → wX_setVoid_28 post (nI t) w c r s (d + 1) a (nI f) ka aa va) ∧
      (∀ post : Int32 → SY → Prop, post y (c, r, s, kb, ab, vb', so, ok, oa, ov) → wY_setVoid_28 post (nI t) w c r s (d + 1) a (nI f) kb ab vb so ok oa ov) := by
  intro d
  induction d with
  | zero =>
    intro f hf a va vb hB hE
    have h : nI t ≤ nI f := nI_le (by omega) (by omega)
    exact ⟨a, va, vb, hB, hE, fun _ hp => br_t h hp, fun _ hp => br_t h hp⟩
  | succ d ih =>
    intro f hf a va vb hB hE
    have h : ¬ nI t ≤ nI f := nI_ge (by omega) (by omega)
    have h40 : f < 40 := by omega
    have ev : va (nI f).toNatClampNeg = vb (nI f).toNatClampNeg := by rw [ls_cl h40]; exact hE f (by omega)
    by_cases g : va (nI f).toNatClampNeg = w
    · obtain ⟨y, va', vb', hB', hE', hX2, hY2⟩ := ih (f + 1) (by omega) a va (upd vb (nI f).toNatClampNeg w) hB (by
        intro j hj
        by_cases e : j = (nI f).toNatClampNeg
        · rw [e, pk_us]; exact g
        · rw [pk_un e]; exact hE j hj)
      exact ⟨y, va', vb', hB', hE', fun post hp => br_f h ⟨ls_in h40, br_t g (nm_r (nI_1 f) (hX2 post hp))⟩,
        fun post hp => br_f h (br_f (ls_n40 h40) ⟨ls_in h40, br_t (ev.symm.trans g) ⟨ls_in h40, nm_e (nm_r (nI_1 f) (hY2 post hp))⟩⟩)⟩
    · obtain ⟨y, va', vb', hB', hE', hX2, hY2⟩ := ih (f + 1) (by omega) (a + 1) (upd va (nI f).toNatClampNeg w) (upd vb (nI f).toNatClampNeg w) (ls_Bu hB hw) (by
        intro j hj
        by_cases e : j = (nI f).toNatClampNeg
        · rw [e, pk_us, pk_us]
        · rw [pk_un e, pk_un e]; exact hE j hj)
      exact ⟨y, va', vb', hB', hE', fun post hp => br_f h ⟨ls_in h40, br_f g ⟨ls_in h40, nm_r (congrArg (upd va (nI f).toNatClampNeg) (ls_nar hw)) (nm_e (nm_r (nI_1 f) (hX2 post hp)))⟩⟩,
        fun post hp => br_f h (br_f (ls_n40 h40) ⟨ls_in h40, br_f (fun z => g (ev.trans z)) (nm_e ⟨ls_in h40, nm_e (nm_r (nI_1 f) (hY2 post hp))⟩)⟩)⟩
end
section
/-! what the component's moves of entries do to ONE array, and that the three arrays move alike -/
theorem ls_cp {post : SX → Prop} {c r s : Int32} {ka aa va : Nat → Int32} {P Q : Int32} (a b : Nat) (ha : a < 40) (hb : b < 40) (hP : P = nI a) (hQ : Q = nI b) (hB : ls_B va)
    (h : post (c, r, s, upd ka b (ka a), upd aa b (aa a), upd va b (va a))) : wpX_copyEntry post (c, r, s, ka, aa, va) P Q := by
  subst hP hQ
  unfold wpX_copyEntry
  dsimp only
  rw [ls_cl ha, ls_cl hb, ls_nar (hB a)]
  exact ⟨ls_in ha, ls_in hb, nm_e ⟨ls_in ha, ls_in hb, nm_e ⟨ls_in ha, ls_in hb, nm_e h⟩⟩⟩

/-- openGap: d entries from p on have gone up by l -/
def ls_G (p l d : Nat) (f g : Nat → Int32) : Prop :=
  (∀ j, j < p → g j = f j) ∧ (∀ j, p ≤ j → j < p + d → g (j + l) = f j) ∧ (∀ j, p + d + l ≤ j → g j = f j)
theorem ls_G0 {p l : Nat} {f : Nat → Int32} : ls_G p l 0 f f :=
  ⟨fun _ _ => rfl, fun j h1 h2 => absurd h2 (by omega), fun _ _ => rfl⟩
theorem ls_Gs {p l d : Nat} {f g : Nat → Int32} (h : ls_G p l d (upd f (p + d + l) (f (p + d))) g) : ls_G p l (d + 1) f g := by
  obtain ⟨h1, h2, h3⟩ := h
  refine ⟨fun j hj => ?_, fun j hj hk => ?_, fun j hj => ?_⟩
  · rw [h1 j hj, pk_un (by omega)]
  · by_cases e : j = p + d
    · rw [e, h3 _ (Nat.le_refl _), pk_us]
    · rw [h2 j hj (by omega), pk_un (by omega)]
  · rw [h3 j (by omega), pk_un (by omega)]
theorem ls_gapL (c r S : Int32) (p l : Nat) : ∀ d : Nat, p + d + l ≤ 40 → ∀ ka aa va : Nat → Int32, ls_B va →
    ∃ ka' aa' va' : Nat → Int32, ls_B va' ∧ ls_G p l d ka ka' ∧ ls_G p l d aa aa' ∧ ls_G p l d va va' ∧
      ∀ post : SX → Prop, post (c, r, S + nI l, ka', aa', va') → wX_openGap_7 post (nI p) (nI l) (d + 1) (nI (p + d) + (-1)) c r S ka aa va := by
  intro d
  induction d with
  | zero =>
    intro hd ka aa va hB
    exact ⟨ka, aa, va, hB, ls_G0, ls_G0, ls_G0, fun post hp => br_t (ls_mlt p (by omega)) (nm_e hp)⟩
  | succ d ih =>
    intro hd ka aa va hB
    obtain ⟨ka', aa', va', hB', gk, ga, gv, H⟩ := ih (by omega) (upd ka (p + d + l) (ka (p + d))) (upd aa (p + d + l) (aa (p + d))) (upd va (p + d + l) (va (p + d))) (ls_Bu hB (hB _))
    refine ⟨ka', aa', va', hB', ls_Gs gk, ls_Gs ga, ls_Gs gv, fun post hp => ?_⟩
    rw [show p + (d + 1) = (p + d) + 1 from rfl, pk_m1]
    exact br_f (nI_nlt (by omega) (by omega)) (ls_cp (p + d) (p + d + l) (by omega) (by omega) rfl (nI_add _ _) hB (nm_e (H post hp)))
theorem ls_gap (c r : Int32) (n p l : Nat) (hp : p ≤ n) (hl : n + l ≤ 40) (ka aa va : Nat → Int32) (hB : ls_B va) :
    ∃ ka' aa' va' : Nat → Int32, ls_B va' ∧ ls_G p l (n - p) ka ka' ∧ ls_G p l (n - p) aa aa' ∧ ls_G p l (n - p) va va' ∧
      ∀ post : SX → Prop, post (c, r, nI (n + l), ka', aa', va') → wpX_openGap post (c, r, nI n, ka, aa, va) (nI p) (nI l) := by
  obtain ⟨ka', aa', va', hB', gk, ga, gv, H⟩ := ls_gapL c r (nI n) p l (n - p) (by omega) ka aa va hB
  rw [show p + (n - p) = n by omega, nI_add] at H
  refine ⟨ka', aa', va', hB', gk, ga, gv, fun post h => ?_⟩
  unfold wpX_openGap
  dsimp only
  exact nm_r (ls_s1 (nI n)) ⟨_, H post h⟩

/-- remove: d entries behind q have come down by one -/
def ls_R (q d : Nat) (f g : Nat → Int32) : Prop := (∀ j, j < q → g j = f j) ∧ (∀ j, q ≤ j → j < q + d → g j = f (j + 1))
theorem ls_R0 {q : Nat} {f : Nat → Int32} : ls_R q 0 f f := ⟨fun _ _ => rfl, fun j h1 h2 => absurd h2 (by omega)⟩
theorem ls_Rs {q d : Nat} {f g : Nat → Int32} (h : ls_R (q + 1) d (upd f q (f (q + 1))) g) : ls_R q (d + 1) f g := by
  obtain ⟨h1, h2⟩ := h
  refine ⟨fun j hj => ?_, fun j hj hk => ?_⟩
  · rw [h1 j (by omega), pk_un (by omega)]
  · by_cases e : j = q
    · rw [e, h1 q (by omega), pk_us]
    · rw [h2 j (by omega) (by omega), pk_un (by omega)]
theorem ls_rmL (c r : Int32) (n : Nat) (hn : n ≤ 40) (x2 : Int32) : ∀ d q : Nat, q + 1 + d = n → ∀ ka aa va : Nat → Int32, ls_B va →
    ∃ ka' aa' va' : Nat → Int32, ls_B va' ∧ ls_R q d ka ka' ∧ ls_R q d aa aa' ∧ ls_R q d va va' ∧
      ∀ post : Int32 → SX → Prop, post x2 (c, r, nI n - 1, ka', aa', va') → wX_remove_21 post x2 (d + 1) (nI (q + 1)) c r (nI n) ka aa va := by
  intro d
  induction d with
  | zero =>
    intro q hq ka aa va hB
    exact ⟨ka, aa, va, hB, ls_R0, ls_R0, ls_R0, fun post hp => br_t (nI_le (by omega) (by omega)) (nm_e hp)⟩
  | succ d ih =>
    intro q hq ka aa va hB
    obtain ⟨ka', aa', va', hB', gk, ga, gv, H⟩ := ih (q + 1) (by omega) (upd ka q (ka (q + 1))) (upd aa q (aa (q + 1))) (upd va q (va (q + 1))) (ls_Bu hB (hB _))
    exact ⟨ka', aa', va', hB', ls_Rs gk, ls_Rs ga, ls_Rs gv, fun post hp => br_f (nI_ge (by omega) (by omega))
      (ls_cp (q + 1) q (by omega) (by omega) rfl (nI_pred q) hB (nm_r (nI_1 (q + 1)) (H post hp)))⟩

/-- turnRound: the cells a .. b-1 in the other order; vi says which cell comes to stand at j -/
def ls_vi (a b j : Nat) : Nat := if a ≤ j ∧ j < b then a + b - 1 - j else j
def ls_V (a b : Nat) (f g : Nat → Int32) : Prop := ∀ j, g j = f (ls_vi a b j)
def ls_sw (f : Nat → Int32) (a b : Nat) : Nat → Int32 := upd (upd f a (f b)) b (f a)
theorem ls_swv (f : Nat → Int32) (a b x : Nat) : ls_sw f a b x = f (if x = b then a else if x = a then b else x) := by
  unfold ls_sw
  by_cases e1 : x = b
  · rw [if_pos e1, e1, pk_us]
  · rw [if_neg e1, pk_un e1]
    by_cases e2 : x = a
    · rw [if_pos e2, e2, pk_us]
    · rw [if_neg e2, pk_un e2]
theorem ls_V0 {a b : Nat} {f : Nat → Int32} (h : b ≤ a + 1) : ls_V a b f f := by
  intro j
  refine congrArg f ?_
  unfold ls_vi
  by_cases e : a ≤ j ∧ j < b
  · rw [if_pos e]; omega
  · rw [if_neg e]
theorem ls_viS {a b j : Nat} (hab : a + 1 < b) : (if ls_vi (a + 1) (b - 1) j = b - 1 then a else if ls_vi (a + 1) (b - 1) j = a then b - 1 else ls_vi (a + 1) (b - 1) j) = ls_vi a b j := by
  unfold ls_vi
  by_cases e1 : a + 1 ≤ j ∧ j < b - 1
  · rw [if_pos e1, if_neg (by omega), if_neg (by omega), if_pos (by omega)]; omega
  · rw [if_neg e1]
    by_cases e2 : j = b - 1
    · rw [if_pos e2, if_pos (by omega)]; omega
    · rw [if_neg e2]
      by_cases e3 : j = a
      · rw [if_pos e3, if_pos (by omega)]; omega
      · rw [if_neg e3, if_neg (by omega)]
theorem ls_Vs {a b : Nat} {f g : Nat → Int32} (hab : a + 1 < b) (h : ls_V (a + 1) (b - 1) (ls_sw f a (b - 1)) g) : ls_V a b f g := by
  intro j
  rw [h j, ls_swv, ls_viS hab]
theorem ls_Bs {v : Nat → Int32} {a b : Nat} (h : ls_B v) : ls_B (ls_sw v a b) := ls_Bu (ls_Bu h (h _)) (h _)
theorem ls_swp {post : SX → Prop} {c r s : Int32} {ka aa va : Nat → Int32} {P Q : Int32} (a b : Nat) (ha : a < 40) (hb : b < 40) (hP : P = nI a) (hQ : Q = nI b) (hB : ls_B va)
    (h : post (c, r, s, ls_sw ka a b, ls_sw aa a b, ls_sw va a b)) : wpX_swapEntries post (c, r, s, ka, aa, va) P Q := by
  subst hP hQ
  unfold wpX_swapEntries
  dsimp only
  rw [ls_cl ha, ls_cl hb]
  refine ⟨ls_in ha, nm_e ⟨ls_in ha, nm_e ⟨ls_in ha, nm_e (ls_cp b a hb ha rfl rfl hB ?_)⟩⟩⟩
  exact ⟨ls_in hb, nm_e ⟨ls_in hb, nm_e ⟨ls_in hb, nm_r (congrArg (upd (upd va a (va b)) b) (ls_nar (hB a))) h⟩⟩⟩
theorem ls_ix {t i b : Nat} (h : b + i = t) (hb : 1 ≤ b) : nI t - 1 - nI i = nI (b - 1) := by
  rw [ls_p1 (by omega), pk_sub (by omega)]
  exact congrArg nI (by omega)
theorem ls_turnL (c r s : Int32) (f t h : Nat) (ht : t ≤ 40) (hh : f + 2 * h ≤ t) (hu : t ≤ f + 2 * h + 1) : ∀ d i a b : Nat, i + d = h → a = f + i → b + i = t →
    ∀ ka aa va : Nat → Int32, ls_B va →
    ∃ ka' aa' va' : Nat → Int32, ls_B va' ∧ ls_V a b ka ka' ∧ ls_V a b aa aa' ∧ ls_V a b va va' ∧
      ∀ post : SX → Prop, post (c, r, s, ka', aa', va') → wX_turnRound_9 post (nI f) (nI t) (nI h) (d + 1) (nI i) c r s ka aa va := by
  intro d
  induction d with
  | zero =>
    intro i a b hi ha hb ka aa va hB
    exact ⟨ka, aa, va, hB, ls_V0 (by omega), ls_V0 (by omega), ls_V0 (by omega), fun post hp => br_t (nI_le (by omega) (by omega)) hp⟩
  | succ d ih =>
    intro i a b hi ha hb ka aa va hB
    obtain ⟨ka', aa', va', hB', gk, ga, gv, H⟩ := ih (i + 1) (a + 1) (b - 1) (by omega) (by omega) (by omega) (ls_sw ka a (b - 1)) (ls_sw aa a (b - 1)) (ls_sw va a (b - 1)) (ls_Bs hB)
    exact ⟨ka', aa', va', hB', ls_Vs (by omega) gk, ls_Vs (by omega) ga, ls_Vs (by omega) gv, fun post hp => br_f (nI_ge (by omega) (by omega))
      (ls_swp a (b - 1) (by omega) (by omega) ((nI_add f i).trans (congrArg nI ha.symm)) (ls_ix hb (by omega)) hB (nm_r (nI_1 i) (H post hp)))⟩
theorem ls_turn (c r s : Int32) (f t : Nat) (hft : f ≤ t) (ht : t ≤ 40) (ka aa va : Nat → Int32) (hB : ls_B va) :
    ∃ ka' aa' va' : Nat → Int32, ls_B va' ∧ ls_V f t ka ka' ∧ ls_V f t aa aa' ∧ ls_V f t va va' ∧
      ∀ post : SX → Prop, post (c, r, s, ka', aa', va') → wpX_turnRound post (c, r, s, ka, aa, va) (nI f) (nI t) := by
  obtain ⟨ka', aa', va', hB', gk, ga, gv, H⟩ := ls_turnL c r s f t ((t - f) / 2) ht (by omega) (by omega) ((t - f) / 2) 0 f t (by omega) rfl rfl ka aa va hB
  refine ⟨ka', aa', va', hB', gk, ga, gv, fun post h => ?_⟩
  unfold wpX_turnRound
  dsimp only
  refine ⟨ls_20, nm_r (e' := nI ((t - f) / 2)) ?_ ⟨_, H post h⟩⟩
  rw [pk_sub hft]
  exact pk_div (d := 2) (by omega) (by omega) (by omega)

/-- swapNeighbours: the cells m .. b-1 stand before the cells a .. m-1 -/
def ls_wi (a m b j : Nat) : Nat := if a ≤ j ∧ j < b then (if j < a + (b - m) then m + (j - a) else j - (b - m)) else j
def ls_W (a m b : Nat) (f g : Nat → Int32) : Prop := ∀ j, g j = f (ls_wi a m b j)
theorem ls_viW {a m b j : Nat} (h1 : a ≤ m) (h2 : m ≤ b) : ls_vi a m (ls_vi m b (ls_vi a b j)) = ls_wi a m b j := by
  by_cases e : a ≤ j ∧ j < b
  · have x1 : ls_vi a b j = a + b - 1 - j := if_pos e
    by_cases e2 : j < a + (b - m)
    · have x2 : ls_vi m b (a + b - 1 - j) = m + b - 1 - (a + b - 1 - j) := if_pos (by omega)
      have x3 : ls_vi a m (m + b - 1 - (a + b - 1 - j)) = m + b - 1 - (a + b - 1 - j) := if_neg (by omega)
      have x4 : ls_wi a m b j = m + (j - a) := by unfold ls_wi; rw [if_pos e, if_pos e2]
      rw [x1, x2, x3, x4]; omega
    · have x2 : ls_vi m b (a + b - 1 - j) = a + b - 1 - j := if_neg (by omega)
      have x3 : ls_vi a m (a + b - 1 - j) = a + m - 1 - (a + b - 1 - j) := if_pos (by omega)
      have x4 : ls_wi a m b j = j - (b - m) := by unfold ls_wi; rw [if_pos e, if_neg e2]
      rw [x1, x2, x3, x4]; omega
  · have x1 : ls_vi a b j = j := if_neg e
    have x2 : ls_vi m b j = j := if_neg (by omega)
    have x3 : ls_vi a m j = j := if_neg (by omega)
    have x4 : ls_wi a m b j = j := if_neg e
    rw [x1, x2, x3, x4]
theorem ls_Vw {a m b : Nat} {f f1 f2 g : Nat → Int32} (h1 : a ≤ m) (h2 : m ≤ b) (v1 : ls_V a m f f1) (v2 : ls_V m b f1 f2) (v3 : ls_V a b f2 g) : ls_W a m b f g := by
  intro j
  rw [v3 j, v2 (ls_vi a b j), v1 (ls_vi m b (ls_vi a b j)), ls_viW h1 h2]
theorem ls_swapN (c r s : Int32) (a m b : Nat) (h1 : a ≤ m) (h2 : m ≤ b) (hb : b ≤ 40) (ka aa va : Nat → Int32) (hB : ls_B va) :
    ∃ ka' aa' va' : Nat → Int32, ls_B va' ∧ ls_W a m b ka ka' ∧ ls_W a m b aa aa' ∧ ls_W a m b va va' ∧
      ∀ post : SX → Prop, post (c, r, s, ka', aa', va') → wpX_swapNeighbours post (c, r, s, ka, aa, va) (nI a) (nI m) (nI b) := by
  obtain ⟨k1, a1, v1, B1, p1, p2, p3, H1⟩ := ls_turn c r s a m h1 (by omega) ka aa va hB
  obtain ⟨k2, a2, v2, B2, q1, q2, q3, H2⟩ := ls_turn c r s m b h2 hb k1 a1 v1 B1
  obtain ⟨k3, a3, v3, B3, r1, r2, r3, H3⟩ := ls_turn c r s a b (by omega) hb k2 a2 v2 B2
  refine ⟨k3, a3, v3, B3, ls_Vw h1 h2 p1 q1 r1, ls_Vw h1 h2 p2 q2 r2, ls_Vw h1 h2 p3 q3 r3, fun post h => ?_⟩
  unfold wpX_swapNeighbours
  dsimp only
  refine H1 _ ?_
  refine H2 _ ?_
  exact H3 _ h

/-- copy: where the entry i of the block stands once the gap of l cells has been made at p -/
def ls_src (f p l i : Nat) : Nat := if f + i < p then f + i else f + i + l
def ls_C (f p l i : Nat) (g h : Nat → Int32) : Prop :=
  (∀ j, (j < p + i ∨ p + l ≤ j) → h j = g j) ∧ (∀ j, p + i ≤ j → j < p + l → h j = g (ls_src f p l (j - p)))
theorem ls_srcO (f p l i : Nat) : ls_src f p l i < p ∨ p + l ≤ ls_src f p l i := by
  unfold ls_src
  by_cases e : f + i < p
  · rw [if_pos e]; omega
  · rw [if_neg e]; omega
theorem ls_C0 {f p l : Nat} {g : Nat → Int32} : ls_C f p l l g g := ⟨fun _ _ => rfl, fun j h1 h2 => absurd h2 (by omega)⟩
theorem ls_Cs {f p l i : Nat} {g h : Nat → Int32} (hi : i < l) (H : ls_C f p l (i + 1) (upd g (p + i) (g (ls_src f p l i))) h) : ls_C f p l i g h := by
  obtain ⟨h1, h2⟩ := H
  refine ⟨fun j hj => ?_, fun j hj hk => ?_⟩
  · rw [h1 j (by omega), pk_un (by omega)]
  · by_cases e : j = p + i
    · rw [e, h1 (p + i) (by omega), pk_us, Nat.add_sub_cancel_left]
    · have o := ls_srcO f p l (j - p)
      rw [h2 j (by omega) hk, pk_un (by omega)]
theorem ls_cpL (c r s : Int32) (f p l n : Nat) (hf : f + l ≤ n) (hp : p ≤ n) (hn : n + l ≤ 40) : ∀ d i : Nat, i + d = l → ∀ ka aa va : Nat → Int32, ls_B va →
    ∃ ka' aa' va' : Nat → Int32, ls_B va' ∧ ls_C f p l i ka ka' ∧ ls_C f p l i aa aa' ∧ ls_C f p l i va va' ∧
      ∀ post : Int32 → SX → Prop, post s (c, r, s, ka', aa', va') → wX_copy_58 post (nI f) (nI p) (nI l) (d + 1) (nI i) c r s ka aa va := by
  intro d
  induction d with
  | zero =>
    intro i hi ka aa va hB
    have e : i = l := by omega
    subst e
    exact ⟨ka, aa, va, hB, ls_C0, ls_C0, ls_C0, fun post hq => br_t (nI_le (Nat.le_refl _) (by omega)) hq⟩
  | succ d ih =>
    intro i hi ka aa va hB
    obtain ⟨ka', aa', va', hB', gk, ga, gv, H⟩ := ih (i + 1) (by omega) (upd ka (p + i) (ka (ls_src f p l i))) (upd aa (p + i) (aa (ls_src f p l i))) (upd va (p + i) (va (ls_src f p l i))) (ls_Bu hB (hB _))
    have hs : ls_src f p l i < 40 := by unfold ls_src; split <;> omega
    refine ⟨ka', aa', va', hB', ls_Cs (by omega) gk, ls_Cs (by omega) ga, ls_Cs (by omega) gv, fun post hq => br_f (nI_ge (by omega) (by omega)) (nm_r (nI_add f i) ?_)⟩
    by_cases e : f + i < p
    · refine br_t (nI_lt e (by omega)) ?_
      unfold wX_copy_84
      exact ls_cp (ls_src f p l i) (p + i) hs (by omega) (by unfold ls_src; rw [if_pos e]) (nI_add p i) hB (nm_r (nI_1 i) (H post hq))
    · refine br_f (nI_nlt (by omega) (by omega)) (nm_r (nI_add (f + i) l) ?_)
      unfold wX_copy_84
      exact ls_cp (ls_src f p l i) (p + i) hs (by omega) (by unfold ls_src; rw [if_neg e]) (nI_add p i) hB (nm_r (nI_1 i) (H post hq))
end
section
/-! what the reference's rebuild and its loops over source do -/
/-- cell p has what stood at its source, where that lies within -/
def ls_Q (m : Nat) (so f g : Nat → Int32) : Prop := ∀ p, p < m → ∀ q, q < 40 → so p = nI q → g p = f q
def ls_K (i : Nat) (f g : Nat → Int32) : Prop := ∀ j, j < i → g j = f j
theorem ls_K0 {f g : Nat → Int32} : ls_K 0 f g := fun _ h => absurd h (by omega)
theorem ls_Q0 {so f g : Nat → Int32} : ls_Q 0 so f g := fun _ h => absurd h (by omega)
theorem ls_Ku {i : Nat} {f g : Nat → Int32} (h : ls_K i f g) : ls_K (i + 1) f (upd g i (f i)) := by
  intro j hj
  by_cases e : j = i
  · rw [e, pk_us]
  · rw [pk_un e]; exact h j (by omega)
theorem ls_Qn {i : Nat} {so f g : Nat → Int32} (h : ls_Q i so f g) (no : ∀ q, q < 40 → so i = nI q → False) : ls_Q (i + 1) so f g := by
  intro p hp q hq e
  by_cases e1 : p = i
  · rw [e1] at e; exact (no q hq e).elim
  · exact h p (by omega) q hq e
theorem ls_Qu {i q : Nat} {so f g : Nat → Int32} (h : ls_Q i so f g) (hq : q < 40) (z : so i = nI q) : ls_Q (i + 1) so f (upd g i (f q)) := by
  intro p hp q' hq' e
  by_cases e1 : p = i
  · rw [e1] at e
    have e2 : q = q' := (nI_eq (by omega) (by omega)).mp (z.symm.trans e)
    rw [e1, pk_us, e2]
  · rw [pk_un e1]; exact h p (by omega) q' hq' e
theorem ls_QK {m : Nat} {so f f' g : Nat → Int32} (h : ls_Q m so f' g) (k : ls_K 40 f f') : ls_Q m so f g :=
  fun p hp q hq e => (h p hp q hq e).trans (k q hq)

theorem ls_reb1 (c r s m : Int32) (kb ab vb so : Nat → Int32) : ∀ d i : Nat, i + d = 40 → ∀ ok oa ov : Nat → Int32, ls_K i kb ok → ls_K i ab oa → ls_K i vb ov →
    ∃ ok' oa' ov' : Nat → Int32, ls_K 40 kb ok' ∧ ls_K 40 ab oa' ∧ ls_K 40 vb ov' ∧
      ∀ post : SY → Prop, (∃ n52 : Nat, wY_rebuild_52 post m c r s n52 0 kb ab vb so ok' oa' ov') → wY_rebuild_2 post m c r s (d + 1) (nI i) kb ab vb so ok oa ov := by
  intro d
  induction d with
  | zero =>
    intro i hi ok oa ov hk ha hv
    have e : i = 40 := by omega
    subst e
    exact ⟨ok, oa, ov, hk, ha, hv, fun post hp => br_t (nI_le (a := 40) (b := 40) (Nat.le_refl _) (by omega)) hp⟩
  | succ d ih =>
    intro i hi ok oa ov hk ha hv
    have h40 : i < 40 := by omega
    have cl := ls_cl h40
    obtain ⟨ok', oa', ov', h1, h2, h3, H⟩ := ih (i + 1) (by omega) (upd ok i (kb i)) (upd oa i (ab i)) (upd ov i (vb i)) (ls_Ku hk) (ls_Ku ha) (ls_Ku hv)
    exact ⟨ok', oa', ov', h1, h2, h3, fun post hp => br_f (ls_n40 h40)
      ⟨ls_in h40, ls_in h40, nm_r (show upd ok (nI i).toNatClampNeg (kb (nI i).toNatClampNeg) = upd ok i (kb i) by rw [cl])
        ⟨ls_in h40, ls_in h40, nm_r (show upd oa (nI i).toNatClampNeg (ab (nI i).toNatClampNeg) = upd oa i (ab i) by rw [cl])
          ⟨ls_in h40, ls_in h40, nm_r (show upd ov (nI i).toNatClampNeg (vb (nI i).toNatClampNeg) = upd ov i (vb i) by rw [cl])
            (nm_r (nI_1 i) (H post hp))⟩⟩⟩⟩
theorem ls_reb2 (c r s : Int32) (m : Nat) (hm : m ≤ 40) (so ok oa ov : Nat → Int32) : ∀ d i : Nat, i + d = m → ∀ kb ab vb : Nat → Int32, ls_Q i so ok kb → ls_Q i so oa ab → ls_Q i so ov vb →
    ∃ kb' ab' vb' : Nat → Int32, ls_Q m so ok kb' ∧ ls_Q m so oa ab' ∧ ls_Q m so ov vb' ∧
      ∀ post : SY → Prop, post (c, r, nI m, kb', ab', vb', so, ok, oa, ov) → wY_rebuild_52 post (nI m) c r s (d + 1) (nI i) kb ab vb so ok oa ov := by
  intro d
  induction d with
  | zero =>
    intro i hi kb ab vb hk ha hv
    have e : i = m := by omega
    subst e
    exact ⟨kb, ab, vb, hk, ha, hv, fun post hp => br_t (nI_le (Nat.le_refl _) (by omega)) hp⟩
  | succ d ih =>
    intro i hi kb ab vb hk ha hv
    have h : ¬ nI m ≤ nI i := nI_ge (by omega) (by omega)
    have h40 : i < 40 := by omega
    have cl := ls_cl h40
    rcases pk_ix (so i) (n := 40) (by omega) with z | z | ⟨q, hq, z⟩
    · have no : ∀ q, q < 40 → so i = nI q → False := fun q hq e => by rw [e] at z; exact nI_pos (by omega) z
      obtain ⟨kb', ab', vb', g1, g2, g3, H⟩ := ih (i + 1) (by omega) kb ab vb (ls_Qn hk no) (ls_Qn ha no) (ls_Qn hv no)
      have z' : so (nI i).toNatClampNeg < 0 := by rw [cl]; exact z
      exact ⟨kb', ab', vb', g1, g2, g3, fun post hp => br_f h (br_f (ls_n40 h40) ⟨ls_in h40, nm_e (br_t z' (nm_r (nI_1 i) (H post hp)))⟩)⟩
    · have no : ∀ q, q < 40 → so i = nI q → False := fun q hq e => by rw [e] at z; exact ls_n40 hq z
      obtain ⟨kb', ab', vb', g1, g2, g3, H⟩ := ih (i + 1) (by omega) kb ab vb (ls_Qn hk no) (ls_Qn ha no) (ls_Qn hv no)
      have z' : (40 : Int32) ≤ so (nI i).toNatClampNeg := by rw [cl]; exact z
      have z0 : ¬ so (nI i).toNatClampNeg < 0 := Int32.not_lt.mpr (Int32.le_trans (by decide) z')
      exact ⟨kb', ab', vb', g1, g2, g3, fun post hp => br_f h (br_f (ls_n40 h40) ⟨ls_in h40, nm_e (br_f z0 (br_t z' (nm_r (nI_1 i) (H post hp))))⟩)⟩
    · obtain ⟨kb', ab', vb', g1, g2, g3, H⟩ := ih (i + 1) (by omega) (upd kb i (ok q)) (upd ab i (oa q)) (upd vb i (ov q)) (ls_Qu hk hq z) (ls_Qu ha hq z) (ls_Qu hv hq z)
      have z' : so (nI i).toNatClampNeg = nI q := by rw [cl]; exact z
      have cq := ls_cl hq
      exact ⟨kb', ab', vb', g1, g2, g3, fun post hp => br_f h (br_f (ls_n40 h40) ⟨ls_in h40, nm_r z' (br_f (nI_pos (by omega)) (br_f (ls_n40 hq)
        ⟨ls_in hq, ls_in h40, nm_r (show upd kb (nI i).toNatClampNeg (ok (nI q).toNatClampNeg) = upd kb i (ok q) by rw [cl, cq])
          ⟨ls_in hq, ls_in h40, nm_r (show upd ab (nI i).toNatClampNeg (oa (nI q).toNatClampNeg) = upd ab i (oa q) by rw [cl, cq])
            ⟨ls_in hq, ls_in h40, nm_r (show upd vb (nI i).toNatClampNeg (ov (nI q).toNatClampNeg) = upd vb i (ov q) by rw [cl, cq])
              (nm_r (nI_1 i) (H post hp))⟩⟩⟩))⟩)⟩
theorem ls_reb (c r s : Int32) (m : Nat) (hm : m ≤ 40) (kb ab vb so ok oa ov : Nat → Int32) :
    ∃ kb' ab' vb' ok' oa' ov' : Nat → Int32, ls_Q m so kb kb' ∧ ls_Q m so ab ab' ∧ ls_Q m so vb vb' ∧
      ∀ (post : SY → Prop) (M : Int32), M = nI m → post (c, r, nI m, kb', ab', vb', so, ok', oa', ov') → wpY_rebuild post (c, r, s, kb, ab, vb, so, ok, oa, ov) M := by
  obtain ⟨ok', oa', ov', h1, h2, h3, H1⟩ := ls_reb1 c r s (nI m) kb ab vb so 40 0 rfl ok oa ov ls_K0 ls_K0 ls_K0
  obtain ⟨kb', ab', vb', g1, g2, g3, H2⟩ := ls_reb2 c r s m hm so ok' oa' ov' m 0 (by omega) kb ab vb ls_Q0 ls_Q0 ls_Q0
  refine ⟨kb', ab', vb', ok', oa', ov', ls_QK g1 h1, ls_QK g2 h2, ls_QK g3 h3, fun post M hM h => ?_⟩
  subst hM
  unfold wpY_rebuild
  dsimp only
  exact ⟨_, H1 post ⟨_, H2 post h⟩⟩

/-- insert's source: below p the cell itself, above p the one before -/
def ls_Pi (p j : Nat) (x : Int32) : Prop := (j < p → x = nI j) ∧ (p < j → x = nI (j - 1))
theorem ls_insL (c r : Int32) (n p : Nat) (hn : n < 40) (k a : Int32) (hp : p ≤ n) (kb ab vb ok oa ov : Nat → Int32) : ∀ d i : Nat, i + d = n + 1 → ∀ so : Nat → Int32, (∀ j, j < i → ls_Pi p j (so j)) →
    ∃ so' : Nat → Int32, (∀ j, j < n + 1 → ls_Pi p j (so' j)) ∧
      ∀ post : Int32 → SY → Prop, wY_insert_119 post (nI p) k a c r (nI n) kb ab vb so' ok oa ov → wY_insert_75 post (nI p) k a c r (nI n) (d + 1) (nI i) kb ab vb so ok oa ov := by
  intro d
  induction d with
  | zero =>
    intro i hi so hs
    have e : i = n + 1 := by omega
    subst e
    exact ⟨so, hs, fun post h => br_t (nI_lt (by omega) (by omega)) h⟩
  | succ d ih =>
    intro i hi so hs
    have h : ¬ nI n < nI i := nI_nlt (by omega) (by omega)
    have h40 : i < 40 := by omega
    by_cases e : p ≤ i
    · obtain ⟨so', g, H⟩ := ih (i + 1) (by omega) (upd so (nI i).toNatClampNeg (nI i - 1)) (ls_so (ls_cl h40) hs ⟨fun z => absurd z (by omega), fun z => ls_p1 (by omega)⟩)
      exact ⟨so', g, fun post hq => br_f h (br_f (ls_n40 h40) (br_t (nI_le e (by omega)) ⟨ls_in h40, nm_e (nm_r (nI_1 i) (H post hq))⟩))⟩
    · obtain ⟨so', g, H⟩ := ih (i + 1) (by omega) (upd so (nI i).toNatClampNeg (nI i)) (ls_so (ls_cl h40) hs ⟨fun z => rfl, fun z => absurd z (by omega)⟩)
      exact ⟨so', g, fun post hq => br_f h (br_f (ls_n40 h40) (br_f (nI_ge (by omega) (by omega)) ⟨ls_in h40, nm_e (nm_r (nI_1 i) (H post hq))⟩))⟩

def ls_sR (p j : Nat) : Nat := if j < p then j else j + 1
theorem ls_rmY (c r : Int32) (n m p : Nat) (hn : n ≤ 40) (hm : m + 1 = n) (k : Int32) (hp : p < n) (kb ab vb ok oa ov : Nat → Int32) : ∀ d i : Nat, i + d = m → ∀ so : Nat → Int32, (∀ j, j < i → so j = nI (ls_sR p j)) →
    ∃ so' : Nat → Int32, (∀ j, j < m → so' j = nI (ls_sR p j)) ∧
      ∀ post : Int32 → SY → Prop, wY_remove_69 post k c r (nI n) kb ab vb so' ok oa ov → wY_remove_29 post (nI p) k c r (nI n) (d + 1) (nI i) kb ab vb so ok oa ov := by
  have hs1 : nI n - 1 = nI m := by rw [ls_p1 (by omega)]; exact congrArg nI (by omega)
  intro d
  induction d with
  | zero =>
    intro i hi so hs
    have e : i = m := by omega
    subst e
    exact ⟨so, hs, fun post h => br_t (by rw [hs1]; exact nI_le (Nat.le_refl _) (by omega)) h⟩
  | succ d ih =>
    intro i hi so hs
    have h : ¬ nI n - 1 ≤ nI i := by rw [hs1]; exact nI_ge (by omega) (by omega)
    have h40 : i < 40 := by omega
    by_cases e : p ≤ i
    · obtain ⟨so', g, H⟩ := ih (i + 1) (by omega) (upd so (nI i).toNatClampNeg (nI i + 1)) (ls_so (P := fun j x => x = nI (ls_sR p j)) (ls_cl h40) hs (by unfold ls_sR; rw [if_neg (by omega)]; exact nI_1 i))
      exact ⟨so', g, fun post hq => br_f h (br_f (ls_n40 h40) (br_t (nI_le e (by omega)) ⟨ls_in h40, nm_e (nm_r (nI_1 i) (H post hq))⟩))⟩
    · obtain ⟨so', g, H⟩ := ih (i + 1) (by omega) (upd so (nI i).toNatClampNeg (nI i)) (ls_so (P := fun j x => x = nI (ls_sR p j)) (ls_cl h40) hs (by unfold ls_sR; rw [if_pos (by omega)]))
      exact ⟨so', g, fun post hq => br_f h (br_f (ls_n40 h40) (br_f (nI_ge (by omega) (by omega)) ⟨ls_in h40, nm_e (nm_r (nI_1 i) (H post hq))⟩))⟩

def ls_sV (f t j : Nat) : Nat := if f ≤ j ∧ j < t then f + (t - 1 - j) else j
theorem ls_rvY (c r : Int32) (n f t : Nat) (hn : n ≤ 40) (hft : f ≤ t) (ht : t ≤ n) (kb ab vb ok oa ov : Nat → Int32) : ∀ d i : Nat, i + d = n → ∀ so : Nat → Int32, (∀ j, j < i → so j = nI (ls_sV f t j)) →
    ∃ so' : Nat → Int32, (∀ j, j < n → so' j = nI (ls_sV f t j)) ∧
      ∀ post : Int32 → SY → Prop, wY_reverse_60 post (nI f) (nI t) c r (nI n) kb ab vb so' ok oa ov → wY_reverse_13 post (nI f) (nI t) c r (nI n) (d + 1) (nI i) kb ab vb so ok oa ov := by
  intro d
  induction d with
  | zero =>
    intro i hi so hs
    have e : i = n := by omega
    subst e
    exact ⟨so, hs, fun post h => br_t (nI_le (Nat.le_refl _) (by omega)) h⟩
  | succ d ih =>
    intro i hi so hs
    have h : ¬ nI n ≤ nI i := nI_ge (by omega) (by omega)
    have h40 : i < 40 := by omega
    by_cases e : i < f
    · obtain ⟨so', g, H⟩ := ih (i + 1) (by omega) (upd so (nI i).toNatClampNeg (nI i)) (ls_so (P := fun j x => x = nI (ls_sV f t j)) (ls_cl h40) hs (by unfold ls_sV; rw [if_neg (by omega)]))
      exact ⟨so', g, fun post hq => br_f h (br_f (ls_n40 h40) (br_t (nI_lt e (by omega)) ⟨ls_in h40, nm_e (nm_r (nI_1 i) (H post hq))⟩))⟩
    · by_cases e2 : t ≤ i
      · obtain ⟨so', g, H⟩ := ih (i + 1) (by omega) (upd so (nI i).toNatClampNeg (nI i)) (ls_so (P := fun j x => x = nI (ls_sV f t j)) (ls_cl h40) hs (by unfold ls_sV; rw [if_neg (by omega)]))
        exact ⟨so', g, fun post hq => br_f h (br_f (ls_n40 h40) (br_f (nI_nlt (by omega) (by omega)) (br_t (nI_le e2 (by omega)) ⟨ls_in h40, nm_e (nm_r (nI_1 i) (H post hq))⟩)))⟩
      · obtain ⟨so', g, H⟩ := ih (i + 1) (by omega) (upd so (nI i).toNatClampNeg (nI f + (nI t - 1 - nI i))) (ls_so (P := fun j x => x = nI (ls_sV f t j)) (ls_cl h40) hs (by
          unfold ls_sV; rw [if_pos (by omega), ls_p1 (by omega), pk_sub (by omega), nI_add]))
        exact ⟨so', g, fun post hq => br_f h (br_f (ls_n40 h40) (br_f (nI_nlt (by omega) (by omega)) (br_f (nI_ge (by omega) (by omega)) ⟨ls_in h40, nm_e (nm_r (nI_1 i) (H post hq))⟩)))⟩

def ls_sC (f l p j : Nat) : Nat := if j < p then j else if j < p + l then f + (j - p) else j - l
theorem ls_coY (c r : Int32) (n f l p : Nat) (hn : n + l ≤ 40) (hp : p ≤ n) (kb ab vb ok oa ov : Nat → Int32) : ∀ d i : Nat, i + d = n + l → ∀ so : Nat → Int32, (∀ j, j < i → so j = nI (ls_sC f l p j)) →
    ∃ so' : Nat → Int32, (∀ j, j < n + l → so' j = nI (ls_sC f l p j)) ∧
      ∀ post : Int32 → SY → Prop, wY_copy_131 post (nI l) c r (nI n) kb ab vb so' ok oa ov → wY_copy_51 post (nI f) (nI p) (nI l) c r (nI n) (d + 1) (nI i) kb ab vb so ok oa ov := by
  intro d
  induction d with
  | zero =>
    intro i hi so hs
    have e : i = n + l := by omega
    subst e
    exact ⟨so, hs, fun post h => br_t (by rw [nI_add]; exact nI_le (Nat.le_refl _) (by omega)) h⟩
  | succ d ih =>
    intro i hi so hs
    have h : ¬ nI n + nI l ≤ nI i := by rw [nI_add]; exact nI_ge (by omega) (by omega)
    have h40 : i < 40 := by omega
    by_cases e : p ≤ i
    · by_cases e2 : p + l ≤ i
      · obtain ⟨so', g, H⟩ := ih (i + 1) (by omega) (upd so (nI i).toNatClampNeg (nI i - nI l)) (ls_so (P := fun j x => x = nI (ls_sC f l p j)) (ls_cl h40) hs (by
          unfold ls_sC; rw [if_neg (by omega), if_neg (by omega), pk_sub (by omega)]))
        exact ⟨so', g, fun post hq => br_f h (br_f (ls_n40 h40) (br_t (nI_le e (by omega)) (br_t (by rw [nI_add]; exact nI_le e2 (by omega)) ⟨ls_in h40, nm_e (nm_r (nI_1 i) (H post hq))⟩)))⟩
      · obtain ⟨so', g, H⟩ := ih (i + 1) (by omega) (upd so (nI i).toNatClampNeg (nI f + (nI i - nI p))) (ls_so (P := fun j x => x = nI (ls_sC f l p j)) (ls_cl h40) hs (by
          unfold ls_sC; rw [if_neg (by omega), if_pos (by omega), pk_sub (by omega), nI_add]))
        exact ⟨so', g, fun post hq => br_f h (br_f (ls_n40 h40) (br_t (nI_le e (by omega)) (br_f (by rw [nI_add]; exact nI_ge (by omega) (by omega)) ⟨ls_in h40, nm_e (nm_r (nI_1 i) (H post hq))⟩)))⟩
    · obtain ⟨so', g, H⟩ := ih (i + 1) (by omega) (upd so (nI i).toNatClampNeg (nI i)) (ls_so (P := fun j x => x = nI (ls_sC f l p j)) (ls_cl h40) hs (by
          unfold ls_sC; rw [if_pos (by omega)]))
      exact ⟨so', g, fun post hq => br_f h (br_f (ls_n40 h40) (br_f (nI_ge (by omega) (by omega)) ⟨ls_in h40, nm_e (nm_r (nI_1 i) (H post hq))⟩))⟩

def ls_sO (f l o : Nat) : Nat := if o < f then o else o + l
def ls_sM (f l p j : Nat) : Nat := if p ≤ j ∧ j < p + l then f + (j - p) else ls_sO f l (if j < p then j else j - l)
theorem ls_mv100 {post : Int32 → SY → Prop} {J : Int32 → (Nat → Int32) → (Nat → Int32) → (Nat → Int32) → (Nat → Int32) → (Nat → Int32) → (Nat → Int32) → (Nat → Int32) → Prop}
    {x3 c r s z0 : Int32} {kb ab vb so ok oa ov : Nat → Int32} (f l i o : Nat) (hi : i < 40) (ho : o ≤ 40) (hf : f ≤ 40) (hz : z0 = nI o)
    (h : J (nI (i + 1)) kb ab vb (upd so (nI i).toNatClampNeg (nI (ls_sO f l o))) ok oa ov) : wY_move_100 post J (nI f) x3 (nI l) (nI i) z0 c r s kb ab vb so ok oa ov := by
  subst hz
  unfold ls_sO at h
  by_cases e : f ≤ o
  · rw [if_neg (by omega)] at h
    exact br_t (nI_le e (by omega)) ⟨ls_in hi, nm_r (congrArg (upd so (nI i).toNatClampNeg) (nI_add o l)) (nm_r (nI_1 i) h)⟩
  · rw [if_pos (by omega)] at h
    exact br_f (nI_ge (by omega) (by omega)) ⟨ls_in hi, nm_e (nm_r (nI_1 i) h)⟩
theorem ls_mv84 {post : Int32 → SY → Prop} {J : Int32 → (Nat → Int32) → (Nat → Int32) → (Nat → Int32) → (Nat → Int32) → (Nat → Int32) → (Nat → Int32) → (Nat → Int32) → Prop}
    {c r s : Int32} {kb ab vb so ok oa ov : Nat → Int32} (f l p i : Nat) (hi : i < 40) (hp : p ≤ 40) (hf : f ≤ 40) (hl : p ≤ i → l ≤ i)
    (h : J (nI (i + 1)) kb ab vb (upd so (nI i).toNatClampNeg (nI (ls_sO f l (if i < p then i else i - l)))) ok oa ov) : wY_move_84 post J (nI f) (nI p) (nI l) (nI i) c r s kb ab vb so ok oa ov := by
  by_cases e : p ≤ i
  · rw [if_neg (by omega)] at h
    exact br_t (nI_le e (by omega)) (ls_mv100 f l i (i - l) hi (by omega) hf (pk_sub (hl e)) h)
  · rw [if_pos (by omega)] at h
    exact br_f (nI_ge (by omega) (by omega)) (ls_mv100 f l i i hi (by omega) hf rfl h)
theorem ls_mvY (c r : Int32) (n f l p : Nat) (hn : n ≤ 40) (hf : f + l ≤ n) (hp : p + l ≤ n) (kb ab vb ok oa ov : Nat → Int32) : ∀ d i : Nat, i + d = n → ∀ so : Nat → Int32, (∀ j, j < i → so j = nI (ls_sM f l p j)) →
    ∃ so' : Nat → Int32, (∀ j, j < n → so' j = nI (ls_sM f l p j)) ∧
      ∀ post : Int32 → SY → Prop, wY_move_131 post (nI l) c r (nI n) kb ab vb so' ok oa ov → wY_move_37 post (nI f) (nI p) (nI l) c r (nI n) (d + 1) (nI i) kb ab vb so ok oa ov := by
  intro d
  induction d with
  | zero =>
    intro i hi so hs
    have e : i = n := by omega
    subst e
    exact ⟨so, hs, fun post h => br_t (nI_le (Nat.le_refl _) (by omega)) h⟩
  | succ d ih =>
    intro i hi so hs
    have h : ¬ nI n ≤ nI i := nI_ge (by omega) (by omega)
    have h40 : i < 40 := by omega
    obtain ⟨so', g, H⟩ := ih (i + 1) (by omega) (upd so (nI i).toNatClampNeg (nI (ls_sM f l p i))) (ls_so (P := fun j x => x = nI (ls_sM f l p j)) (ls_cl h40) hs rfl)
    refine ⟨so', g, fun post hq => br_f h (br_f (ls_n40 h40) ?_)⟩
    have H' := H post hq
    by_cases e : i < p
    · have e' : ls_sM f l p i = ls_sO f l (if i < p then i else i - l) := if_neg (by omega)
      rw [e'] at H'
      exact br_t (nI_lt e (by omega)) (ls_mv84 f l p i h40 (by omega) (by omega) (fun _ => by omega) H')
    · by_cases e2 : p + l ≤ i
      · have e' : ls_sM f l p i = ls_sO f l (if i < p then i else i - l) := if_neg (by omega)
        rw [e'] at H'
        exact br_f (nI_nlt (by omega) (by omega)) (br_t (by rw [nI_add]; exact nI_le e2 (by omega)) (ls_mv84 f l p i h40 (by omega) (by omega) (fun _ => by omega) H'))
      · have e' : ls_sM f l p i = f + (i - p) := if_pos (by omega)
        rw [e'] at H'
        exact br_f (nI_nlt (by omega) (by omega)) (br_f (by rw [nI_add]; exact nI_ge (by omega) (by omega)) ⟨ls_in h40, nm_r (show upd so (nI i).toNatClampNeg (nI f + (nI i - nI p)) = upd so (nI i).toNatClampNeg (nI (f + (i - p))) by rw [pk_sub (by omega), nI_add]) (nm_r (nI_1 i) H')⟩)
end
section
/-! where both sides meet: one array at a time -/
/-- an edit by a map of positions: X's array and Y's are alike behind it -/
theorem ls_comb {n m : Nat} {σ : Nat → Nat} {so f g F G : Nat → Int32} (hn : n ≤ 40) (hσ : ∀ j, j < m → σ j < n) (h : ∀ j, j < n → f j = F j)
    (x : ∀ j, j < m → g j = f (σ j)) (hs : ∀ j, j < m → so j = nI (σ j)) (y : ls_Q m so F G) : ∀ j, j < m → g j = G j := by
  intro j hj
  have q := hσ j hj
  rw [x j hj, y j hj (σ j) (by omega) (hs j hj)]
  exact h (σ j) q
theorem ls_eq3 {n : Nat} {ka aa va kb ab vb : Nat → Int32} (h1 : ∀ j, j < n → ka j = kb j) (h2 : ∀ j, j < n → aa j = ab j) (h3 : ∀ j, j < n → va j = vb j) : ls_Eq n ka aa va kb ab vb :=
  fun j hj => ⟨h1 j hj, h2 j hj, h3 j hj⟩
theorem ls_e1 {n : Nat} {ka aa va kb ab vb : Nat → Int32} (h : ls_Eq n ka aa va kb ab vb) : ∀ j, j < n → ka j = kb j := fun j hj => (h j hj).1
theorem ls_e2 {n : Nat} {ka aa va kb ab vb : Nat → Int32} (h : ls_Eq n ka aa va kb ab vb) : ∀ j, j < n → aa j = ab j := fun j hj => (h j hj).2.1
theorem ls_e3 {n : Nat} {ka aa va kb ab vb : Nat → Int32} (h : ls_Eq n ka aa va kb ab vb) : ∀ j, j < n → va j = vb j := fun j hj => (h j hj).2.2

theorem ls_sR_lt {p m j : Nat} (hj : j < m) : ls_sR p j < m + 1 := by
  unfold ls_sR; split <;> omega
theorem ls_xR {p d : Nat} {f g : Nat → Int32} (h : ls_R p d f g) : ∀ j, j < p + d → g j = f (ls_sR p j) := by
  intro j hj
  unfold ls_sR
  by_cases e : j < p
  · rw [if_pos e]; exact h.1 j e
  · rw [if_neg e]; exact h.2 j (by omega) hj
theorem ls_sV_lt {f t n j : Nat} (ht : t ≤ n) (hj : j < n) : ls_sV f t j < n := by
  unfold ls_sV; split <;> omega
theorem ls_xV {f t n : Nat} {F G : Nat → Int32} (h : ls_V f t F G) : ∀ j, j < n → G j = F (ls_sV f t j) := by
  intro j _
  rw [h j]
  refine congrArg F ?_
  unfold ls_vi ls_sV
  by_cases e : f ≤ j ∧ j < t
  · rw [if_pos e, if_pos e]; omega
  · rw [if_neg e, if_neg e]
theorem ls_sM_in {f l p j : Nat} (h : p ≤ j ∧ j < p + l) : ls_sM f l p j = f + (j - p) := if_pos h
theorem ls_sM_out {f l p j : Nat} (h : ¬ (p ≤ j ∧ j < p + l)) : ls_sM f l p j = if (if j < p then j else j - l) < f then (if j < p then j else j - l) else (if j < p then j else j - l) + l := if_neg h
theorem ls_sM_lt {f l p n j : Nat} (hf : f + l ≤ n) (hp : p + l ≤ n) (hj : j < n) : ls_sM f l p j < n := by
  by_cases e : p ≤ j ∧ j < p + l
  · rw [ls_sM_in e]; omega
  · rw [ls_sM_out e]
    by_cases e2 : j < p
    · rw [if_pos e2]; split <;> omega
    · rw [if_neg e2]; split <;> omega
theorem ls_wM1 {f l p j : Nat} (h : f ≤ p) : ls_wi f (f + l) (p + l) j = ls_sM f l p j := by
  unfold ls_wi
  by_cases e : p ≤ j ∧ j < p + l
  · rw [ls_sM_in e, if_pos (by omega), if_neg (by omega)]; omega
  · rw [ls_sM_out e]
    by_cases e2 : j < p
    · rw [if_pos e2]
      by_cases e3 : j < f
      · rw [if_pos e3, if_neg (by omega)]
      · rw [if_neg e3, if_pos (by omega), if_pos (by omega)]; omega
    · rw [if_neg e2, if_neg (by omega), if_neg (by omega)]; omega
theorem ls_wM2 {f l p j : Nat} (h : p < f) : ls_wi p f (f + l) j = ls_sM f l p j := by
  unfold ls_wi
  by_cases e : p ≤ j ∧ j < p + l
  · rw [ls_sM_in e, if_pos (by omega), if_pos (by omega)]
  · rw [ls_sM_out e]
    by_cases e2 : j < p
    · rw [if_pos e2, if_neg (by omega), if_pos (by omega)]
    · rw [if_neg e2]
      by_cases e3 : j < f + l
      · rw [if_pos (by omega), if_neg (by omega), if_pos (by omega)]; omega
      · rw [if_neg (by omega), if_neg (by omega)]; omega
theorem ls_sC_lt {f l p n j : Nat} (hf : f + l ≤ n) (hp : p ≤ n) (hj : j < n + l) : ls_sC f l p j < n := by
  unfold ls_sC
  by_cases e : j < p
  · rw [if_pos e]; omega
  · rw [if_neg e]; split <;> omega
theorem ls_xC {f l p n : Nat} {F g G : Nat → Int32} (hf : f + l ≤ n) (hp : p ≤ n) (hG : ls_G p l (n - p) F g) (hC : ls_C f p l 0 g G) : ∀ j, j < n + l → G j = F (ls_sC f l p j) := by
  intro j hj
  unfold ls_sC
  by_cases e : j < p
  · rw [if_pos e, hC.1 j (by omega)]; exact hG.1 j e
  · rw [if_neg e]
    by_cases e2 : j < p + l
    · rw [if_pos e2, hC.2 j (by omega) e2]
      unfold ls_src
      by_cases e3 : f + (j - p) < p
      · rw [if_pos e3]; exact hG.1 _ e3
      · rw [if_neg e3]; exact hG.2.1 _ (by omega) (by omega)
    · rw [if_neg e2, hC.1 j (by omega)]
      have z := hG.2.1 (j - l) (by omega) (by omega)
      rw [show j - l + l = j by omega] at z
      exact z
theorem ls_insA {n p : Nat} {so f g F G : Nat → Int32} (x : Int32) (hn : n < 40) (hp : p ≤ n) (h : ∀ j, j < n → f j = F j) (hg : ls_G p 1 (n - p) f g)
    (hs : ∀ j, j < n + 1 → ls_Pi p j (so j)) (hq : ls_Q (n + 1) so F G) : ∀ j, j < n + 1 → upd g p x j = upd G p x j := by
  intro j hj
  by_cases e : j = p
  · rw [e, pk_us, pk_us]
  · rw [pk_un e, pk_un e]
    by_cases l : j < p
    · rw [hg.1 j l, hq j hj j (by omega) ((hs j hj).1 l)]
      exact h j (by omega)
    · obtain ⟨i, rfl⟩ : ∃ i, j = i + 1 := ⟨j - 1, by omega⟩
      rw [hg.2.1 i (by omega) (by omega), hq (i + 1) hj i (by omega) ((hs (i + 1) hj).2 (by omega))]
      exact h i (by omega)

theorem ls_amX {post : Int32 → Prop} {c r s : Int32} {ka aa va : Nat → Int32} {k a z : Int32} (hz : (if k = 0 then -c else 0) = z) (h : wX_isAmountOf_13 post a z c r s ka aa va) : wpX_isAmountOf post (c, r, s, ka, aa, va) k a := by
  by_cases e : k = 0
  · rw [if_pos e] at hz; subst hz; exact br_t e h
  · rw [if_neg e] at hz; subst hz; exact br_f e h
theorem ls_amY {post : Int32 → SY → Prop} {p k a c r s z : Int32} {kb ab vb so ok oa ov : Nat → Int32} (hz : (if k = 0 then -c else 0) = z) (h : wY_insert_53 post p k a z c r s kb ab vb so ok oa ov) :
    (k = 0 → wY_insert_53 post p k a (-c) c r s kb ab vb so ok oa ov) ∧ (¬ k = 0 → wY_insert_53 post p k a 0 c r s kb ab vb so ok oa ov) := by
  by_cases e : k = 0
  · rw [if_pos e] at hz; subst hz; exact br_t e h
  · rw [if_neg e] at hz; subst hz; exact br_f e h

theorem ls_init1 (k0 : Int32) : ∃ c : Nat, c ≤ 60 ∧ (∀ post : Int32 → Prop, post (nI c) → wpX_clamp post k0 4 60) ∧
    (∀ (post : SY → Prop) (k1 : Int32), wY_init_82 post k1 (nI c) 0 0 0 (fun _ => 0) (fun _ => 0) (fun _ => 0) (fun _ => 0) (fun _ => 0) (fun _ => 0) (fun _ => 0) → wpY_init post k0 k1) := by
  by_cases h1 : 4 ≤ k0
  · by_cases h2 : k0 ≤ 60
    · obtain ⟨c, hc, rfl⟩ := nI_of2 (M := 60) (n := 60) (by decide) (Int32.not_lt.mpr (Int32.le_trans (by decide) h1)) h2
      exact ⟨c, hc, fun _ h => br_t h1 (br_t h2 h), fun _ _ h => br_t h1 (br_t h2 h)⟩
    · exact ⟨60, by omega, fun _ h => br_t h1 (br_f h2 h), fun _ _ h => br_t h1 (br_f h2 h)⟩
  · exact ⟨4, by omega, fun _ h => br_f h1 h, fun _ _ h => br_f h1 h⟩
theorem ls_init2 (k1 : Int32) : ∃ r : Nat, r ≤ 40 ∧ (∀ post : Int32 → Prop, post (nI r) → wpX_clamp post k1 2 40) ∧
    (∀ (post : SY → Prop) (z : Int32), post (z, nI r, 0, (fun _ => 0), (fun _ => 0), (fun _ => 0), (fun _ => 0), (fun _ => 0), (fun _ => 0), (fun _ => 0)) → wY_init_82 post k1 z 0 0 0 (fun _ => 0) (fun _ => 0) (fun _ => 0) (fun _ => 0) (fun _ => 0) (fun _ => 0) (fun _ => 0)) := by
  by_cases h1 : 2 ≤ k1
  · by_cases h2 : k1 ≤ 40
    · obtain ⟨c, hc, rfl⟩ := nI_of2 (M := 40) (n := 40) (by decide) (Int32.not_lt.mpr (Int32.le_trans (by decide) h1)) h2
      exact ⟨c, hc, fun _ h => br_t h1 (br_t h2 h), fun _ _ h => br_t h1 (br_t h2 h)⟩
    · exact ⟨40, by omega, fun _ h => br_t h1 (br_f h2 h), fun _ _ h => br_t h1 (br_f h2 h)⟩
  · exact ⟨2, by omega, fun _ h => br_f h1 h, fun _ _ h => br_f h1 h⟩
end
section
theorem i_vc0 (k0 : Int32) (k1 : Int32) : wpX_init (fun u => wpY_init (fun v => i_Rel 2 u v) k0 k1) k0 k1 := by
  obtain ⟨c, hc, X1, Y1⟩ := ls_init1 k0
  obtain ⟨r, hr, X2, Y2⟩ := ls_init2 k1
  unfold wpX_init
  refine X1 _ ?_
  refine X2 _ ?_
  refine Y1 _ _ ?_
  refine Y2 _ _ ?_
  exact ⟨c, r, 0, _, _, _, _, _, _, _, _, _, _, rfl, rfl, hc, hr, by omega, fun _ => Or.inl rfl, fun j hj => absurd hj (by omega)⟩
theorem i_vc_cap {k : Nat} {u : SX} {v : SY} (I : i_Rel k u v) (hk : k + 5 ≤ 2562) : wpX_cap (fun r => wpY_cap (fun r' => r' = r ∧ i_Rel (k + 5) u v) v) u := by
  have R := i_up I
  obtain ⟨c, r, n, ka, aa, va, kb, ab, vb, so, ok, oa, ov, rfl, rfl, hc, hr, hn, hB, hE⟩ := I
  exact ⟨rfl, R⟩
theorem i_vc_size {k : Nat} {u : SX} {v : SY} (I : i_Rel k u v) (hk : k + 5 ≤ 2562) : wpX_size (fun r => wpY_size (fun r' => r' = r ∧ i_Rel (k + 5) u v) v) u := by
  have R := i_up I
  obtain ⟨c, r, n, ka, aa, va, kb, ab, vb, so, ok, oa, ov, rfl, rfl, hc, hr, hn, hB, hE⟩ := I
  exact ⟨rfl, R⟩
theorem i_vc_kindAt {k : Nat} {u : SX} {v : SY} (I : i_Rel k u v) (hk : k + 5 ≤ 2562) (v1 : Int32) : wpX_kindAt (fun r => wpY_kindAt (fun r' => r' = r ∧ i_Rel (k + 5) u v) v v1) u v1 := by
  have R := i_up I
  obtain ⟨c, r, n, ka, aa, va, kb, ab, vb, so, ok, oa, ov, rfl, rfl, hc, hr, hn, hB, hE⟩ := I
  unfold wpX_kindAt wpY_kindAt
  dsimp only
  rcases pk_ix v1 (n := n) (by omega) with h | h | ⟨j, hj, rfl⟩
  · exact br_t h (br_t rfl (br_t h ⟨rfl, R⟩))
  · have h0 : ¬ v1 < 0 := Int32.not_lt.mpr (Int32.le_trans (nI_pos' (by omega)) h)
    exact br_f h0 (br_t h (br_t rfl (br_f h0 (br_t h ⟨rfl, R⟩))))
  · have h0 : ¬ nI j < 0 := nI_pos (by omega)
    have h1 : ¬ nI n ≤ nI j := nI_ge hj (by omega)
    have h40 : j < 40 := by omega
    have e : kb (nI j).toNatClampNeg = ka (nI j).toNatClampNeg := by rw [ls_cl h40]; exact (hE j hj).1.symm
    exact br_f h0 (br_f h1 (br_f ls_10 ⟨ls_in h40, br_f h0 (br_f h1 (br_t (ls_l40 h40) ⟨ls_in h40, e, R⟩))⟩))
theorem i_vc_amountAt {k : Nat} {u : SX} {v : SY} (I : i_Rel k u v) (hk : k + 5 ≤ 2562) (v1 : Int32) : wpX_amountAt (fun r => wpY_amountAt (fun r' => r' = r ∧ i_Rel (k + 5) u v) v v1) u v1 := by
  have R := i_up I
  obtain ⟨c, r, n, ka, aa, va, kb, ab, vb, so, ok, oa, ov, rfl, rfl, hc, hr, hn, hB, hE⟩ := I
  unfold wpX_amountAt wpY_amountAt
  dsimp only
  rcases pk_ix v1 (n := n) (by omega) with h | h | ⟨j, hj, rfl⟩
  · exact br_t h (br_t rfl (br_t h ⟨rfl, R⟩))
  · have h0 : ¬ v1 < 0 := Int32.not_lt.mpr (Int32.le_trans (nI_pos' (by omega)) h)
    exact br_f h0 (br_t h (br_t rfl (br_f h0 (br_t h ⟨rfl, R⟩))))
  · have h0 : ¬ nI j < 0 := nI_pos (by omega)
    have h1 : ¬ nI n ≤ nI j := nI_ge hj (by omega)
    have h40 : j < 40 := by omega
    have e : ab (nI j).toNatClampNeg = aa (nI j).toNatClampNeg := by rw [ls_cl h40]; exact (hE j hj).2.1.symm
    exact br_f h0 (br_f h1 (br_f ls_10 ⟨ls_in h40, br_f h0 (br_f h1 (br_t (ls_l40 h40) ⟨ls_in h40, e, R⟩))⟩))
theorem i_vc_voidAt {k : Nat} {u : SX} {v : SY} (I : i_Rel k u v) (hk : k + 5 ≤ 2562) (v1 : Int32) : wpX_voidAt (fun r => wpY_voidAt (fun r' => r' = r ∧ i_Rel (k + 5) u v) v v1) u v1 := by
  have R := i_up I
  obtain ⟨c, r, n, ka, aa, va, kb, ab, vb, so, ok, oa, ov, rfl, rfl, hc, hr, hn, hB, hE⟩ := I
  unfold wpX_voidAt wpY_voidAt
  dsimp only
  rcases pk_ix v1 (n := n) (by omega) with h | h | ⟨j, hj, rfl⟩
  · exact br_t h (br_t rfl (br_t h ⟨rfl, R⟩))
  · have h0 : ¬ v1 < 0 := Int32.not_lt.mpr (Int32.le_trans (nI_pos' (by omega)) h)
    exact br_f h0 (br_t h (br_t rfl (br_f h0 (br_t h ⟨rfl, R⟩))))
  · have h0 : ¬ nI j < 0 := nI_pos (by omega)
    have h1 : ¬ nI n ≤ nI j := nI_ge hj (by omega)
    have h40 : j < 40 := by omega
    have e : va (nI j).toNatClampNeg = vb (nI j).toNatClampNeg := by rw [ls_cl h40]; exact (hE j hj).2.2
    rcases hB (nI j).toNatClampNeg with z | z
    · exact br_f h0 (br_f h1 (br_f ls_10 ⟨ls_in h40, br_t z (br_f h0 (br_f h1 (br_t (ls_l40 h40) ⟨ls_in h40, e.symm.trans z, R⟩)))⟩))
    · exact br_f h0 (br_f h1 (br_f ls_10 ⟨ls_in h40, br_f (by rw [z]; exact ls_10) (br_f h0 (br_f h1 (br_t (ls_l40 h40) ⟨ls_in h40, e.symm.trans z, R⟩)))⟩))
theorem i_vc_run {k : Nat} {u : SX} {v : SY} (I : i_Rel k u v) (hk : k + 5 ≤ 2562) (v1 : Int32) (v2 : Int32) (v3 : Int32) : wpX_run (fun r => wpY_run (fun r' => r' = r ∧ i_Rel (k + 5) u v) v v1 v2 v3) u v1 v2 v3 := by
  have R := i_up I
  obtain ⟨c, r, n, ka, aa, va, kb, ab, vb, so, ok, oa, ov, rfl, rfl, hc, hr, hn, hB, hE⟩ := I
  unfold wpX_run wpY_run
  dsimp only
  rcases ls_blk n (by omega) v1 v2 with ⟨f, t, h1, h2, rfl, rfl⟩ | ⟨bX, bY⟩
  · have hn4 : n ≤ 40 := by omega
    refine ls_gX h1 h2 hn4 (br_f ls_10 ?_)
    by_cases h0 : v3 < 0
    · exact br_t h0 (br_t rfl (ls_gY h1 h2 hn4 (br_t rfl (br_t h0 ⟨rfl, R⟩))))
    · by_cases h3 : nI c < v3
      · exact br_f h0 (br_t h3 (br_t rfl (ls_gY h1 h2 hn4 (br_t rfl (br_f h0 (br_f (Int32.not_le.mpr h3) ⟨rfl, R⟩))))))
      · obtain ⟨y, hX, hY⟩ := ls_closing (nI c) (nI r) (nI n) ka aa va kb ab vb so ok oa ov f t h1 (by omega) hB (ls_Em h2 hE) v3
        exact br_f h0 (br_f h3 (br_f ls_10 (hX _ (ls_gY h1 h2 hn4 (br_t rfl (br_f h0 (br_t (Int32.not_lt.mp h3) (hY _ ⟨rfl, R⟩))))))))
  · exact bX _ _ _ _ _ _ (br_t rfl (bY _ _ _ _ _ _ _ _ _ _ (br_f ls_10 ⟨rfl, R⟩)))
theorem i_vc_repeat {k : Nat} {u : SX} {v : SY} (I : i_Rel k u v) (hk : k + 5 ≤ 2562) (v1 : Int32) (v2 : Int32) (v3 : Int32) (v4 : Int32) : wpX_repeat (fun r => wpY_repeat (fun r' => r' = r ∧ i_Rel (k + 5) u v) v v1 v2 v3 v4) u v1 v2 v3 v4 := by
  have R := i_up I
  obtain ⟨c, r, n, ka, aa, va, kb, ab, vb, so, ok, oa, ov, rfl, rfl, hc, hr, hn, hB, hE⟩ := I
  unfold wpX_repeat wpY_repeat
  dsimp only
  rcases ls_blk n (by omega) v1 v2 with ⟨f, t, h1, h2, rfl, rfl⟩ | ⟨bX, bY⟩
  · have hn4 : n ≤ 40 := by omega
    refine ls_gX h1 h2 hn4 (br_f ls_10 ?_)
    by_cases h0 : v3 < 0
    · exact br_t h0 (br_t rfl (ls_gY h1 h2 hn4 (br_t rfl (br_t h0 ⟨rfl, R⟩))))
    · by_cases h3 : nI c < v3
      · exact br_f h0 (br_t h3 (br_t rfl (ls_gY h1 h2 hn4 (br_t rfl (br_f h0 (br_f (Int32.not_le.mpr h3) ⟨rfl, R⟩))))))
      · have h3' : v3 ≤ nI c := Int32.not_lt.mp h3
        refine br_f h0 (br_f h3 (br_f ls_10 ?_))
        by_cases h4 : v4 < 0
        · exact br_t h4 (ls_gY h1 h2 hn4 (br_t rfl (br_f h0 (br_t h3' (br_t h4 ⟨rfl, R⟩)))))
        · by_cases h5 : v4 ≤ 200
          · obtain ⟨m, hm, rfl⟩ := nI_of2 (M := 200) (n := 200) (by decide) h4 h5
            obtain ⟨y, hX, hY⟩ := ls_rep (nI c) (nI r) (nI n) ka aa va kb ab vb so ok oa ov f t h1 (by omega) hB (ls_Em h2 hE) m hm m 0 (by omega) v3
            refine br_f h4 (br_t h5 ?_)
            unfold wpX_closingAfter
            exact ⟨_, hX _ (ls_gY h1 h2 hn4 (br_t rfl (br_f h0 (br_t h3' (br_f h4 (br_t h5 ⟨_, hY _ ⟨rfl, R⟩⟩))))))⟩
          · exact br_f h4 (br_f h5 (ls_gY h1 h2 hn4 (br_t rfl (br_f h0 (br_t h3' (br_f h4 (br_f h5 ⟨rfl, R⟩)))))))
  · exact bX _ _ _ _ _ _ (br_t rfl (bY _ _ _ _ _ _ _ _ _ _ (br_f ls_10 ⟨rfl, R⟩)))
theorem i_vc_rest {k : Nat} {u : SX} {v : SY} (I : i_Rel k u v) (hk : k + 5 ≤ 2562) (v1 : Int32) (v2 : Int32) (v3 : Int32) : wpX_rest (fun r => wpY_rest (fun r' => r' = r ∧ i_Rel (k + 5) u v) v v1 v2 v3) u v1 v2 v3 := by
  have R := i_up I
  obtain ⟨c, r, n, ka, aa, va, kb, ab, vb, so, ok, oa, ov, rfl, rfl, hc, hr, hn, hB, hE⟩ := I
  unfold wpX_rest wpY_rest
  dsimp only
  rcases ls_blk n (by omega) v1 v2 with ⟨f, t, h1, h2, rfl, rfl⟩ | ⟨bX, bY⟩
  · have hn4 : n ≤ 40 := by omega
    refine ls_gX h1 h2 hn4 (br_f ls_10 ?_)
    by_cases h0 : v3 < 0
    · exact br_t h0 (br_t rfl (ls_gY h1 h2 hn4 (br_t rfl (br_t h0 ⟨rfl, R⟩))))
    · by_cases h3 : nI c < v3
      · exact br_f h0 (br_t h3 (br_t rfl (ls_gY h1 h2 hn4 (br_t rfl (br_f h0 (br_f (Int32.not_le.mpr h3) ⟨rfl, R⟩))))))
      · have h3' : v3 ≤ nI c := Int32.not_lt.mp h3
        obtain ⟨y, hX, hY⟩ := ls_rst (nI c) (nI r) (nI n) ka aa va kb ab vb so ok oa ov f t h1 (by omega) hB (ls_Em h2 hE) (c + 1) (by omega) (nI_1 c) (c + 1) 0 (by omega) v3
        refine br_f h0 (br_f h3 (br_f ls_10 ?_))
        unfold wpX_closingAfter
        exact ⟨_, hX _ (ls_gY h1 h2 hn4 (br_t rfl (br_f h0 (br_t h3' ⟨_, hY _ ⟨rfl, R⟩⟩))))⟩
  · exact bX _ _ _ _ _ _ (br_t rfl (bY _ _ _ _ _ _ _ _ _ _ (br_f ls_10 ⟨rfl, R⟩)))
theorem i_vc_leastOpening {k : Nat} {u : SX} {v : SY} (I : i_Rel k u v) (hk : k + 5 ≤ 2562) (v1 : Int32) (v2 : Int32) (v3 : Int32) : wpX_leastOpening (fun r => wpY_leastOpening (fun r' => r' = r ∧ i_Rel (k + 5) u v) v v1 v2 v3) u v1 v2 v3 := by
  have R := i_up I
  obtain ⟨c, r, n, ka, aa, va, kb, ab, vb, so, ok, oa, ov, rfl, rfl, hc, hr, hn, hB, hE⟩ := I
  unfold wpX_leastOpening wpY_leastOpening
  dsimp only
  rcases ls_blk n (by omega) v1 v2 with ⟨f, t, h1, h2, rfl, rfl⟩ | ⟨bX, bY⟩
  · have hn4 : n ≤ 40 := by omega
    refine ls_gX h1 h2 hn4 (br_f ls_10 ?_)
    by_cases h0 : v3 < 0
    · exact br_t h0 (br_t rfl (ls_gY h1 h2 hn4 (br_t rfl (br_t h0 ⟨rfl, R⟩))))
    · by_cases h3 : nI c < v3
      · exact br_f h0 (br_t h3 (br_t rfl (ls_gY h1 h2 hn4 (br_t rfl (br_f h0 (br_f (Int32.not_le.mpr h3) ⟨rfl, R⟩))))))
      · have h3' : v3 ≤ nI c := Int32.not_lt.mp h3
        obtain ⟨y, hX, hY⟩ := ls_lst (nI c) (nI r) (nI n) ka aa va kb ab vb so ok oa ov f t h1 (by omega) hB (ls_Em h2 hE) c hc rfl v3 (c + 1) 0 (by omega)
        exact br_f h0 (br_f h3 (br_f ls_10 ⟨_, hX _ (ls_gY h1 h2 hn4 (br_t rfl (br_f h0 (br_t h3' ⟨_, hY _ ⟨rfl, R⟩⟩))))⟩))
  · exact bX _ _ _ _ _ _ (br_t rfl (bY _ _ _ _ _ _ _ _ _ _ (br_f ls_10 ⟨rfl, R⟩)))
theorem i_vc_openings {k : Nat} {u : SX} {v : SY} (I : i_Rel k u v) (hk : k + 5 ≤ 2562) (v1 : Int32) (v2 : Int32) (v3 : Int32) : wpX_openings (fun r => wpY_openings (fun r' => r' = r ∧ i_Rel (k + 5) u v) v v1 v2 v3) u v1 v2 v3 := by
  have R := i_up I
  obtain ⟨c, r, n, ka, aa, va, kb, ab, vb, so, ok, oa, ov, rfl, rfl, hc, hr, hn, hB, hE⟩ := I
  unfold wpX_openings wpY_openings
  dsimp only
  rcases ls_blk n (by omega) v1 v2 with ⟨f, t, h1, h2, rfl, rfl⟩ | ⟨bX, bY⟩
  · have hn4 : n ≤ 40 := by omega
    refine ls_gX h1 h2 hn4 (br_f ls_10 ?_)
    by_cases h0 : v3 < 0
    · exact br_t h0 (br_t rfl (ls_gY h1 h2 hn4 (br_t rfl (br_t h0 ⟨rfl, R⟩))))
    · by_cases h3 : nI c < v3
      · exact br_f h0 (br_t h3 (br_t rfl (ls_gY h1 h2 hn4 (br_t rfl (br_f h0 (br_f (Int32.not_le.mpr h3) ⟨rfl, R⟩))))))
      · have h3' : v3 ≤ nI c := Int32.not_lt.mp h3
        obtain ⟨y, hX, hY⟩ := ls_opn (nI c) (nI r) (nI n) ka aa va kb ab vb so ok oa ov f t h1 (by omega) hB (ls_Em h2 hE) c hc rfl v3 (c + 1) 0 (by omega) 0
        exact br_f h0 (br_f h3 (br_f ls_10 ⟨_, hX _ (ls_gY h1 h2 hn4 (br_t rfl (br_f h0 (br_t h3' ⟨_, hY _ ⟨rfl, R⟩⟩))))⟩))
  · exact bX _ _ _ _ _ _ (br_t rfl (bY _ _ _ _ _ _ _ _ _ _ (br_f ls_10 ⟨rfl, R⟩)))
theorem i_vc_liveCount {k : Nat} {u : SX} {v : SY} (I : i_Rel k u v) (hk : k + 5 ≤ 2562) (v1 : Int32) (v2 : Int32) : wpX_liveCount (fun r => wpY_liveCount (fun r' => r' = r ∧ i_Rel (k + 5) u v) v v1 v2) u v1 v2 := by
  have R := i_up I
  obtain ⟨c, r, n, ka, aa, va, kb, ab, vb, so, ok, oa, ov, rfl, rfl, hc, hr, hn, hB, hE⟩ := I
  unfold wpX_liveCount wpY_liveCount
  dsimp only
  rcases ls_blk n (by omega) v1 v2 with ⟨f, t, h1, h2, rfl, rfl⟩ | ⟨bX, bY⟩
  · have hn4 : n ≤ 40 := by omega
    obtain ⟨y, hX, hY⟩ := ls_liv (nI c) (nI r) (nI n) ka aa va kb ab vb so ok oa ov t (by omega) (ls_Em h2 hE) (t - f) f (by omega) 0
    exact ls_gX h1 h2 hn4 (br_f ls_10 ⟨_, hX _ (ls_gY h1 h2 hn4 (br_t rfl ⟨_, hY _ ⟨rfl, R⟩⟩))⟩)
  · exact bX _ _ _ _ _ _ (br_t rfl (bY _ _ _ _ _ _ _ _ _ _ (br_f ls_10 ⟨rfl, R⟩)))
theorem i_vc_net {k : Nat} {u : SX} {v : SY} (I : i_Rel k u v) (hk : k + 5 ≤ 2562) (v1 : Int32) (v2 : Int32) : wpX_net (fun r => wpY_net (fun r' => r' = r ∧ i_Rel (k + 5) u v) v v1 v2) u v1 v2 := by
  have R := i_up I
  obtain ⟨c, r, n, ka, aa, va, kb, ab, vb, so, ok, oa, ov, rfl, rfl, hc, hr, hn, hB, hE⟩ := I
  unfold wpX_net wpY_net
  dsimp only
  rcases ls_blk n (by omega) v1 v2 with ⟨f, t, h1, h2, rfl, rfl⟩ | ⟨bX, bY⟩
  · have hn4 : n ≤ 40 := by omega
    obtain ⟨y, hX, hY⟩ := ls_net (nI c) (nI r) (nI n) ka aa va kb ab vb so ok oa ov t (by omega) (ls_Em h2 hE) (t - f) f (by omega) 0
    exact ls_gX h1 h2 hn4 (br_f ls_10 ⟨_, hX _ (ls_gY h1 h2 hn4 (br_t rfl ⟨_, hY _ ⟨rfl, R⟩⟩))⟩)
  · exact bX _ _ _ _ _ _ (br_t rfl (bY _ _ _ _ _ _ _ _ _ _ (br_f ls_10 ⟨rfl, R⟩)))
theorem i_vc_setVoid {k : Nat} {u : SX} {v : SY} (I : i_Rel k u v) (hk : k + 5 ≤ 2562) (v1 : Int32) (v2 : Int32) (v3 : Int32) : wpX_setVoid (fun r u' => wpY_setVoid (fun r' v' => r' = r ∧ i_Rel (k + 5) u' v') v v1 v2 v3) u v1 v2 v3 := by
  have R := i_up I
  obtain ⟨c, r, n, ka, aa, va, kb, ab, vb, so, ok, oa, ov, rfl, rfl, hc, hr, hn, hB, hE⟩ := I
  unfold wpX_setVoid wpY_setVoid
  dsimp only
  rcases ls_blk n (by omega) v1 v2 with ⟨f, t, h1, h2, rfl, rfl⟩ | ⟨bX, bY⟩
  · have hn4 : n ≤ 40 := by omega
    by_cases h3 : v3 = 0
    · obtain ⟨y, va', vb', hB', hE', hX, hY⟩ := ls_sv (nI c) (nI r) (nI n) ka aa kb ab so ok oa ov t n h2 hn4 0 (Or.inl rfl) (t - f) f (by omega) 0 va vb hB (fun j hj => (hE j hj).2.2)
      exact ls_gX h1 h2 hn4 (br_f ls_10 (br_t h3 ⟨_, hX _ (ls_gY h1 h2 hn4 (br_t rfl (br_t h3 ⟨_, hY _ ⟨rfl, c, r, n, ka, aa, va', kb, ab, vb', so, ok, oa, ov, rfl, rfl, hc, hr, hn, hB', fun j hj => ⟨(hE j hj).1, (hE j hj).2.1, hE' j hj⟩⟩⟩)))⟩))
    · obtain ⟨y, va', vb', hB', hE', hX, hY⟩ := ls_sv (nI c) (nI r) (nI n) ka aa kb ab so ok oa ov t n h2 hn4 1 (Or.inr rfl) (t - f) f (by omega) 0 va vb hB (fun j hj => (hE j hj).2.2)
      exact ls_gX h1 h2 hn4 (br_f ls_10 (br_f h3 ⟨_, hX _ (ls_gY h1 h2 hn4 (br_t rfl (br_f h3 ⟨_, hY _ ⟨rfl, c, r, n, ka, aa, va', kb, ab, vb', so, ok, oa, ov, rfl, rfl, hc, hr, hn, hB', fun j hj => ⟨(hE j hj).1, (hE j hj).2.1, hE' j hj⟩⟩⟩)))⟩))
  · exact bX _ _ _ _ _ _ (br_t rfl (bY _ _ _ _ _ _ _ _ _ _ (br_f ls_10 ⟨rfl, R⟩)))
end
section
theorem i_vc_insert {k : Nat} {u : SX} {v : SY} (I : i_Rel k u v) (hk : k + 5 ≤ 2562) (v1 : Int32) (v2 : Int32) (v3 : Int32) : wpX_insert (fun r u' => wpY_insert (fun r' v' => r' = r ∧ i_Rel (k + 5) u' v') v v1 v2 v3) u v1 v2 v3 := by
  have R := i_up I
  obtain ⟨c, r, n, ka, aa, va, kb, ab, vb, so, ok, oa, ov, rfl, rfl, hc, hr, hn, hB, hE⟩ := I
  unfold wpX_insert wpY_insert
  dsimp only
  by_cases a1 : nI n = nI r
  · exact br_t a1 (br_t a1 ⟨rfl, R⟩)
  by_cases a2 : v1 < 0
  · exact br_f a1 (br_t a2 (br_f a1 (br_t a2 ⟨rfl, R⟩)))
  by_cases a3 : v1 ≤ nI n
  rotate_left
  · exact br_f a1 (br_f a2 (br_f a3 (br_f a1 (br_f a2 (br_f a3 ⟨rfl, R⟩)))))
  by_cases a4 : v2 < 0
  · exact br_f a1 (br_f a2 (br_t a3 (br_t a4 (br_f a1 (br_f a2 (br_t a3 (br_t a4 ⟨rfl, R⟩)))))))
  by_cases a5 : v2 ≤ 3
  rotate_left
  · exact br_f a1 (br_f a2 (br_t a3 (br_f a4 (br_f a5 (br_f a1 (br_f a2 (br_t a3 (br_f a4 (br_f a5 ⟨rfl, R⟩)))))))))
  obtain ⟨z, hz⟩ : ∃ z : Int32, (if v2 = 0 then -nI c else 0) = z := ⟨_, rfl⟩
  refine br_f a1 (br_f a2 (br_t a3 (br_f a4 (br_t a5 (ls_amX hz ?_)))))
  by_cases b1 : v3 < z
  · exact br_t b1 (br_t rfl (br_f a1 (br_f a2 (br_t a3 (br_f a4 (br_t a5 (ls_amY hz (br_t b1 ⟨rfl, R⟩))))))))
  by_cases b2 : nI c < v3
  · exact br_f b1 (br_t b2 (br_t rfl (br_f a1 (br_f a2 (br_t a3 (br_f a4 (br_t a5 (ls_amY hz (br_f b1 (br_f (Int32.not_le.mpr b2) ⟨rfl, R⟩))))))))))
  obtain ⟨p, hp, rfl⟩ := nI_of a2
  have hpn : p ≤ n := (nI_leI hp (by omega)).mp a3
  have hne : n ≠ r := fun e => a1 (congrArg nI e)
  have h40 : p < 40 := by omega
  have cl := ls_cl h40
  obtain ⟨ka', aa', va', hB', gk, ga, gv, HX⟩ := ls_gap (nI c) (nI r) n p 1 hpn (by omega) ka aa va hB
  obtain ⟨so', hs, HY⟩ := ls_insL (nI c) (nI r) n p (by omega) v2 v3 hpn kb ab vb ok oa ov (n + 1) 0 (by omega) so (fun j hj => absurd hj (by omega))
  obtain ⟨kb', ab', vb', ok', oa', ov', q1, q2, q3, HR⟩ := ls_reb (nI c) (nI r) (nI n) (n + 1) (by omega) kb ab vb so' ok oa ov
  refine br_f b1 (br_f b2 (br_f ls_10 (HX _ ?_)))
  refine ⟨ls_in h40, nm_r (e' := upd ka' p v2) (by rw [cl]) ⟨ls_in h40, nm_r (e' := upd aa' p v3) (by rw [cl]) ⟨ls_in h40, nm_r (e' := upd va' p 0) (by rw [cl, ls_nar (Or.inl rfl)]) ?_⟩⟩⟩
  refine br_f a1 (br_f a2 (br_t a3 (br_f a4 (br_t a5 (ls_amY hz (br_f b1 (br_t (Int32.not_lt.mp b2) ⟨_, HY _ ?_⟩)))))))
  unfold wY_insert_119
  refine HR _ _ (nI_1 n) ?_
  refine br_f (ls_n40 h40) ⟨ls_in h40, nm_r (e' := upd kb' p v2) (by rw [cl]) ⟨ls_in h40, nm_r (e' := upd ab' p v3) (by rw [cl]) ⟨ls_in h40, nm_r (e' := upd vb' p 0) (by rw [cl]) ?_⟩⟩⟩
  exact ⟨rfl, c, r, n + 1, _, _, _, _, _, _, _, _, _, _, rfl, rfl, hc, hr, by omega, ls_Bu hB' (Or.inl rfl),
    ls_eq3 (ls_insA v2 (by omega) hpn (ls_e1 hE) gk hs q1) (ls_insA v3 (by omega) hpn (ls_e2 hE) ga hs q2) (ls_insA 0 (by omega) hpn (ls_e3 hE) gv hs q3)⟩
theorem i_vc_remove {k : Nat} {u : SX} {v : SY} (I : i_Rel k u v) (hk : k + 5 ≤ 2562) (v1 : Int32) : wpX_remove (fun r u' => wpY_remove (fun r' v' => r' = r ∧ i_Rel (k + 5) u' v') v v1) u v1 := by
  have R := i_up I
  obtain ⟨c, r, n, ka, aa, va, kb, ab, vb, so, ok, oa, ov, rfl, rfl, hc, hr, hn, hB, hE⟩ := I
  unfold wpX_remove wpY_remove
  dsimp only
  rcases pk_ix v1 (n := n) (by omega) with h | h | ⟨p, hp, rfl⟩
  · exact br_t h (br_t rfl (br_t h ⟨rfl, R⟩))
  · have h0 : ¬ v1 < 0 := Int32.not_lt.mpr (Int32.le_trans (nI_pos' (by omega)) h)
    exact br_f h0 (br_t h (br_t rfl (br_f h0 (br_t h ⟨rfl, R⟩))))
  · have h0 : ¬ nI p < 0 := nI_pos (by omega)
    have h1 : ¬ nI n ≤ nI p := nI_ge hp (by omega)
    have h40 : p < 40 := by omega
    obtain ⟨m, rfl⟩ : ∃ m, n = m + 1 := ⟨n - 1, by omega⟩
    have e : kb (nI p).toNatClampNeg = ka (nI p).toNatClampNeg := by rw [ls_cl h40]; exact (hE p hp).1.symm
    obtain ⟨ka', aa', va', hB', gk, ga, gv, HX⟩ := ls_rmL (nI c) (nI r) (m + 1) (by omega) (ka (nI p).toNatClampNeg) (m - p) p (by omega) ka aa va hB
    obtain ⟨so', hs, HY⟩ := ls_rmY (nI c) (nI r) (m + 1) m p (by omega) rfl (kb (nI p).toNatClampNeg) hp kb ab vb ok oa ov m 0 (by omega) so (fun j hj => absurd hj (by omega))
    obtain ⟨kb', ab', vb', ok', oa', ov', q1, q2, q3, HR⟩ := ls_reb (nI c) (nI r) (nI (m + 1)) m (by omega) kb ab vb so' ok oa ov
    have xk : ∀ j, j < m → ka' j = ka (ls_sR p j) := fun j hj => ls_xR gk j (by omega)
    have xa : ∀ j, j < m → aa' j = aa (ls_sR p j) := fun j hj => ls_xR ga j (by omega)
    have xv : ∀ j, j < m → va' j = va (ls_sR p j) := fun j hj => ls_xR gv j (by omega)
    rw [nI_pred m] at HX
    refine br_f h0 (br_f h1 (br_f ls_10 ⟨ls_in h40, nm_e (nm_r (nI_1 p) ⟨_, HX _ ?_⟩)⟩))
    refine br_f h0 (br_f h1 (br_t (ls_l40 h40) ⟨ls_in h40, nm_e ⟨_, HY _ ?_⟩⟩))
    unfold wY_remove_69
    refine HR _ _ (nI_pred m) ?_
    exact ⟨e, c, r, m, _, _, _, _, _, _, _, _, _, _, rfl, rfl, hc, hr, by omega, hB',
      ls_eq3 (ls_comb (by omega) (fun j hj => ls_sR_lt hj) (ls_e1 hE) xk hs q1) (ls_comb (by omega) (fun j hj => ls_sR_lt hj) (ls_e2 hE) xa hs q2) (ls_comb (by omega) (fun j hj => ls_sR_lt hj) (ls_e3 hE) xv hs q3)⟩
theorem i_vc_move {k : Nat} {u : SX} {v : SY} (I : i_Rel k u v) (hk : k + 5 ≤ 2562) (v1 : Int32) (v2 : Int32) (v3 : Int32) : wpX_move (fun r u' => wpY_move (fun r' v' => r' = r ∧ i_Rel (k + 5) u' v') v v1 v2 v3) u v1 v2 v3 := by
  have R := i_up I
  obtain ⟨c, r, n, ka, aa, va, kb, ab, vb, so, ok, oa, ov, rfl, rfl, hc, hr, hn, hB, hE⟩ := I
  unfold wpX_move wpY_move
  dsimp only
  rcases ls_blk n (by omega) v1 v2 with ⟨f, t, h1, h2, rfl, rfl⟩ | ⟨bX, bY⟩
  · have hn4 : n ≤ 40 := by omega
    obtain ⟨l, rfl⟩ : ∃ l, t = f + l := ⟨t - f, by omega⟩
    have hl : nI (f + l) - nI f = nI l := (pk_sub h1).trans (congrArg nI (by omega))
    have hs1 : nI n - nI l = nI (n - l) := pk_sub (by omega)
    refine ls_gX h1 h2 hn4 (br_f ls_10 (nm_r hl ?_))
    by_cases h3 : v3 < 0
    · exact br_t h3 (ls_gY h1 h2 hn4 (br_t rfl (nm_r hl (br_t h3 ⟨rfl, R⟩))))
    by_cases h4 : v3 ≤ nI n - nI l
    rotate_left
    · exact br_f h3 (br_f h4 (ls_gY h1 h2 hn4 (br_t rfl (nm_r hl (br_f h3 (br_f h4 ⟨rfl, R⟩))))))
    obtain ⟨p, hp, rfl⟩ := nI_of h3
    have hpl : p ≤ n - l := by rw [hs1, nI_leI hp (by omega)] at h4; exact h4
    obtain ⟨so', hs, HY⟩ := ls_mvY (nI c) (nI r) n f l p hn4 (by omega) (by omega) kb ab vb ok oa ov n 0 (by omega) so (fun j hj => absurd hj (by omega))
    obtain ⟨kb', ab', vb', ok', oa', ov', q1, q2, q3, HR⟩ := ls_reb (nI c) (nI r) (nI n) n hn4 kb ab vb so' ok oa ov
    have hσ : ∀ j, j < n → ls_sM f l p j < n := fun j hj => ls_sM_lt (by omega) (by omega) hj
    refine br_f h3 (br_t h4 ?_)
    by_cases h5 : f ≤ p
    · obtain ⟨ka', aa', va', hB', gk, ga, gv, HX⟩ := ls_swapN (nI c) (nI r) (nI n) f (f + l) (p + l) h1 (by omega) (by omega) ka aa va hB
      rw [← nI_add p l] at HX
      refine br_t (nI_le h5 (by omega)) (HX _ ?_)
      refine ls_gY h1 h2 hn4 (br_t rfl (nm_r hl (br_f h3 (br_t h4 ⟨_, HY _ ?_⟩))))
      unfold wY_move_131
      refine HR _ _ rfl ?_
      exact ⟨rfl, c, r, n, _, _, _, _, _, _, _, _, _, _, rfl, rfl, hc, hr, hn, hB',
        ls_eq3 (ls_comb hn4 hσ (ls_e1 hE) (fun j _ => (gk j).trans (congrArg ka (ls_wM1 h5))) hs q1) (ls_comb hn4 hσ (ls_e2 hE) (fun j _ => (ga j).trans (congrArg aa (ls_wM1 h5))) hs q2) (ls_comb hn4 hσ (ls_e3 hE) (fun j _ => (gv j).trans (congrArg va (ls_wM1 h5))) hs q3)⟩
    · have h6 : p < f := by omega
      obtain ⟨ka', aa', va', hB', gk, ga, gv, HX⟩ := ls_swapN (nI c) (nI r) (nI n) p f (f + l) (by omega) h1 (by omega) ka aa va hB
      refine br_f (nI_ge h6 (by omega)) (HX _ ?_)
      refine ls_gY h1 h2 hn4 (br_t rfl (nm_r hl (br_f h3 (br_t h4 ⟨_, HY _ ?_⟩))))
      unfold wY_move_131
      refine HR _ _ rfl ?_
      exact ⟨rfl, c, r, n, _, _, _, _, _, _, _, _, _, _, rfl, rfl, hc, hr, hn, hB',
        ls_eq3 (ls_comb hn4 hσ (ls_e1 hE) (fun j _ => (gk j).trans (congrArg ka (ls_wM2 h6))) hs q1) (ls_comb hn4 hσ (ls_e2 hE) (fun j _ => (ga j).trans (congrArg aa (ls_wM2 h6))) hs q2) (ls_comb hn4 hσ (ls_e3 hE) (fun j _ => (gv j).trans (congrArg va (ls_wM2 h6))) hs q3)⟩
  · exact bX _ _ _ _ _ _ (br_t rfl (bY _ _ _ _ _ _ _ _ _ _ (br_f ls_10 ⟨rfl, R⟩)))
theorem i_vc_copy {k : Nat} {u : SX} {v : SY} (I : i_Rel k u v) (hk : k + 5 ≤ 2562) (v1 : Int32) (v2 : Int32) (v3 : Int32) : wpX_copy (fun r u' => wpY_copy (fun r' v' => r' = r ∧ i_Rel (k + 5) u' v') v v1 v2 v3) u v1 v2 v3 := by
  have R := i_up I
  obtain ⟨c, r, n, ka, aa, va, kb, ab, vb, so, ok, oa, ov, rfl, rfl, hc, hr, hn, hB, hE⟩ := I
  unfold wpX_copy wpY_copy
  dsimp only
  rcases ls_blk n (by omega) v1 v2 with ⟨f, t, h1, h2, rfl, rfl⟩ | ⟨bX, bY⟩
  · have hn4 : n ≤ 40 := by omega
    obtain ⟨l, rfl⟩ : ∃ l, t = f + l := ⟨t - f, by omega⟩
    have hl : nI (f + l) - nI f = nI l := (pk_sub h1).trans (congrArg nI (by omega))
    refine ls_gX h1 h2 hn4 (br_f ls_10 ?_)
    by_cases h3 : v3 < 0
    · exact br_t h3 (ls_gY h1 h2 hn4 (br_t rfl (br_t h3 ⟨rfl, R⟩)))
    by_cases h4 : v3 ≤ nI n
    rotate_left
    · exact br_f h3 (br_f h4 (ls_gY h1 h2 hn4 (br_t rfl (br_f h3 (br_f h4 ⟨rfl, R⟩)))))
    refine br_f h3 (br_t h4 (nm_r hl ?_))
    by_cases h5 : nI n + nI l ≤ nI r
    rotate_left
    · exact br_f h5 (ls_gY h1 h2 hn4 (br_t rfl (br_f h3 (br_t h4 (nm_r hl (br_f h5 ⟨rfl, R⟩))))))
    obtain ⟨p, hp, rfl⟩ := nI_of h3
    have hpn : p ≤ n := (nI_leI hp (by omega)).mp h4
    have hnl : n + l ≤ r := by rw [nI_add, nI_leI (by omega) (by omega)] at h5; exact h5
    obtain ⟨k1, a1, v1, B1, g1, g2, g3, HG⟩ := ls_gap (nI c) (nI r) n p l hpn (by omega) ka aa va hB
    obtain ⟨ka', aa', va', hB', c1, c2, c3, HX⟩ := ls_cpL (nI c) (nI r) (nI (n + l)) f p l n (by omega) hpn (by omega) l 0 (by omega) k1 a1 v1 B1
    obtain ⟨so', hs, HY⟩ := ls_coY (nI c) (nI r) n f l p (by omega) hpn kb ab vb ok oa ov (n + l) 0 (by omega) so (fun j hj => absurd hj (by omega))
    obtain ⟨kb', ab', vb', ok', oa', ov', q1, q2, q3, HR⟩ := ls_reb (nI c) (nI r) (nI n) (n + l) (by omega) kb ab vb so' ok oa ov
    have hσ : ∀ j, j < n + l → ls_sC f l p j < n := fun j hj => ls_sC_lt (by omega) hpn hj
    refine br_t h5 (HG _ ⟨_, HX _ ?_⟩)
    refine ls_gY h1 h2 hn4 (br_t rfl (br_f h3 (br_t h4 (nm_r hl (br_t h5 ⟨_, HY _ ?_⟩)))))
    unfold wY_copy_131
    refine HR _ _ (nI_add n l) ?_
    exact ⟨rfl, c, r, n + l, _, _, _, _, _, _, _, _, _, _, rfl, rfl, hc, hr, hnl, hB',
      ls_eq3 (ls_comb hn4 hσ (ls_e1 hE) (ls_xC (by omega) hpn g1 c1) hs q1) (ls_comb hn4 hσ (ls_e2 hE) (ls_xC (by omega) hpn g2 c2) hs q2) (ls_comb hn4 hσ (ls_e3 hE) (ls_xC (by omega) hpn g3 c3) hs q3)⟩
  · exact bX _ _ _ _ _ _ (br_t rfl (bY _ _ _ _ _ _ _ _ _ _ (br_f ls_10 ⟨rfl, R⟩)))
theorem i_vc_reverse {k : Nat} {u : SX} {v : SY} (I : i_Rel k u v) (hk : k + 5 ≤ 2562) (v1 : Int32) (v2 : Int32) : wpX_reverse (fun r u' => wpY_reverse (fun r' v' => r' = r ∧ i_Rel (k + 5) u' v') v v1 v2) u v1 v2 := by
  have R := i_up I
  obtain ⟨c, r, n, ka, aa, va, kb, ab, vb, so, ok, oa, ov, rfl, rfl, hc, hr, hn, hB, hE⟩ := I
  unfold wpX_reverse wpY_reverse
  dsimp only
  rcases ls_blk n (by omega) v1 v2 with ⟨f, t, h1, h2, rfl, rfl⟩ | ⟨bX, bY⟩
  · have hn4 : n ≤ 40 := by omega
    obtain ⟨ka', aa', va', hB', gk, ga, gv, HX⟩ := ls_turn (nI c) (nI r) (nI n) f t h1 (by omega) ka aa va hB
    obtain ⟨so', hs, HY⟩ := ls_rvY (nI c) (nI r) n f t hn4 h1 h2 kb ab vb ok oa ov n 0 (by omega) so (fun j hj => absurd hj (by omega))
    obtain ⟨kb', ab', vb', ok', oa', ov', q1, q2, q3, HR⟩ := ls_reb (nI c) (nI r) (nI n) n hn4 kb ab vb so' ok oa ov
    refine ls_gX h1 h2 hn4 (br_f ls_10 (HX _ ?_))
    refine ls_gY h1 h2 hn4 (br_t rfl ⟨_, HY _ ?_⟩)
    unfold wY_reverse_60
    refine HR _ _ rfl ?_
    exact ⟨rfl, c, r, n, _, _, _, _, _, _, _, _, _, _, rfl, rfl, hc, hr, hn, hB',
      ls_eq3 (ls_comb hn4 (fun j hj => ls_sV_lt h2 hj) (ls_e1 hE) (ls_xV gk) hs q1) (ls_comb hn4 (fun j hj => ls_sV_lt h2 hj) (ls_e2 hE) (ls_xV ga) hs q2) (ls_comb hn4 (fun j hj => ls_sV_lt h2 hj) (ls_e3 hE) (ls_xV gv) hs q3)⟩
  · exact bX _ _ _ _ _ _ (br_t rfl (bY _ _ _ _ _ _ _ _ _ _ (br_f ls_10 ⟨rfl, R⟩)))
end
