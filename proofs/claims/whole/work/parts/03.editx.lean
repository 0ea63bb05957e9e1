/-! what the component's moves of entries do to ONE array, and that the three arrays move alike -/
theorem ls_cp {post : SX → Prop} {c r s : Int32} {ka aa va : Nat → Int32} {P Q : Int32} (a b : Nat) (ha : a < 40) (hb : b < 40) (hP : P = nI a) (hQ : Q = nI b) (hB : ls_B va)
    (h : post (c, r, s, upd ka b (ka a), upd aa b (aa a), upd va b (va a))) : wpX_copyEntry post (c, r, s, ka, aa, va) P Q := by
  subst hP hQ
  unfold wpX_copyEntry
  dsimp only
  rw [ls_cl ha, ls_cl hb, ls_nar (hB a)]
  exact ⟨ls_in ha, ls_in hb, nm_e ⟨ls_in ha, ls_in hb, nm_e ⟨ls_in ha, ls_in hb, nm_e h⟩⟩⟩

/-- openGap: d entries from p on have gone up by l -/
def ls_G (p l d : Nat) (f g : Nat → Int32) : Prop :=
  (∀ j, j < p → g j = f j) ∧ (∀ j, p ≤ j → j < p + d → g (j + l) = f j) ∧ (∀ j, p + d + l ≤ j → g j = f j)
theorem ls_G0 {p l : Nat} {f : Nat → Int32} : ls_G p l 0 f f :=
  ⟨fun _ _ => rfl, fun j h1 h2 => absurd h2 (by omega), fun _ _ => rfl⟩
theorem ls_Gs {p l d : Nat} {f g : Nat → Int32} (h : ls_G p l d (upd f (p + d + l) (f (p + d))) g) : ls_G p l (d + 1) f g := by
  obtain ⟨h1, h2, h3⟩ := h
  refine ⟨fun j hj => ?_, fun j hj hk => ?_, fun j hj => ?_⟩
  · rw [h1 j hj, pk_un (by omega)]
  · by_cases e : j = p + d
    · rw [e, h3 _ (Nat.le_refl _), pk_us]
    · rw [h2 j hj (by omega), pk_un (by omega)]
  · rw [h3 j (by omega), pk_un (by omega)]
theorem ls_gapL (c r S : Int32) (p l : Nat) : ∀ d : Nat, p + d + l ≤ 40 → ∀ ka aa va : Nat → Int32, ls_B va →
    ∃ ka' aa' va' : Nat → Int32, ls_B va' ∧ ls_G p l d ka ka' ∧ ls_G p l d aa aa' ∧ ls_G p l d va va' ∧
      ∀ post : SX → Prop, post (c, r, S + nI l, ka', aa', va') → wX_openGap_7 post (nI p) (nI l) (d + 1) (nI (p + d) + (-1)) c r S ka aa va := by
  intro d
  induction d with
  | zero =>
    intro hd ka aa va hB
    exact ⟨ka, aa, va, hB, ls_G0, ls_G0, ls_G0, fun post hp => br_t (ls_mlt p (by omega)) (nm_e hp)⟩
  | succ d ih =>
    intro hd ka aa va hB
    obtain ⟨ka', aa', va', hB', gk, ga, gv, H⟩ := ih (by omega) (upd ka (p + d + l) (ka (p + d))) (upd aa (p + d + l) (aa (p + d))) (upd va (p + d + l) (va (p + d))) (ls_Bu hB (hB _))
    refine ⟨ka', aa', va', hB', ls_Gs gk, ls_Gs ga, ls_Gs gv, fun post hp => ?_⟩
    rw [show p + (d + 1) = (p + d) + 1 from rfl, pk_m1]
    exact br_f (nI_nlt (by omega) (by omega)) (ls_cp (p + d) (p + d + l) (by omega) (by omega) rfl (nI_add _ _) hB (nm_e (H post hp)))
theorem ls_gap (c r : Int32) (n p l : Nat) (hp : p ≤ n) (hl : n + l ≤ 40) (ka aa va : Nat → Int32) (hB : ls_B va) :
    ∃ ka' aa' va' : Nat → Int32, ls_B va' ∧ ls_G p l (n - p) ka ka' ∧ ls_G p l (n - p) aa aa' ∧ ls_G p l (n - p) va va' ∧
      ∀ post : SX → Prop, post (c, r, nI (n + l), ka', aa', va') → wpX_openGap post (c, r, nI n, ka, aa, va) (nI p) (nI l) := by
  obtain ⟨ka', aa', va', hB', gk, ga, gv, H⟩ := ls_gapL c r (nI n) p l (n - p) (by omega) ka aa va hB
  rw [show p + (n - p) = n by omega, nI_add] at H
  refine ⟨ka', aa', va', hB', gk, ga, gv, fun post h => ?_⟩
  unfold wpX_openGap
  dsimp only
  exact nm_r (ls_s1 (nI n)) ⟨_, H post h⟩

/-- remove: d entries behind q have come down by one -/
def ls_R (q d : Nat) (f g : Nat → Int32) : Prop := (∀ j, j < q → g j = f j) ∧ (∀ j, q ≤ j → j < q + d → g j = f (j + 1))
theorem ls_R0 {q : Nat} {f : Nat → Int32} : ls_R q 0 f f := ⟨fun _ _ => rfl, fun j h1 h2 => absurd h2 (by omega)⟩
theorem ls_Rs {q d : Nat} {f g : Nat → Int32} (h : ls_R (q + 1) d (upd f q (f (q + 1))) g) : ls_R q (d + 1) f g := by
  obtain ⟨h1, h2⟩ := h
  refine ⟨fun j hj => ?_, fun j hj hk => ?_⟩
  · rw [h1 j (by omega), pk_un (by omega)]
  · by_cases e : j = q
    · rw [e, h1 q (by omega), pk_us]
    · rw [h2 j (by omega) (by omega), pk_un (by omega)]
theorem ls_rmL (c r : Int32) (n : Nat) (hn : n ≤ 40) (x2 : Int32) : ∀ d q : Nat, q + 1 + d = n → ∀ ka aa va : Nat → Int32, ls_B va →
    ∃ ka' aa' va' : Nat → Int32, ls_B va' ∧ ls_R q d ka ka' ∧ ls_R q d aa aa' ∧ ls_R q d va va' ∧
      ∀ post : Int32 → SX → Prop, post x2 (c, r, nI n - 1, ka', aa', va') → wX_remove_21 post x2 (d + 1) (nI (q + 1)) c r (nI n) ka aa va := by
  intro d
  induction d with
  | zero =>
    intro q hq ka aa va hB
    exact ⟨ka, aa, va, hB, ls_R0, ls_R0, ls_R0, fun post hp => br_t (nI_le (by omega) (by omega)) (nm_e hp)⟩
  | succ d ih =>
    intro q hq ka aa va hB
    obtain ⟨ka', aa', va', hB', gk, ga, gv, H⟩ := ih (q + 1) (by omega) (upd ka q (ka (q + 1))) (upd aa q (aa (q + 1))) (upd va q (va (q + 1))) (ls_Bu hB (hB _))
    exact ⟨ka', aa', va', hB', ls_Rs gk, ls_Rs ga, ls_Rs gv, fun post hp => br_f (nI_ge (by omega) (by omega))
      (ls_cp (q + 1) q (by omega) (by omega) rfl (nI_pred q) hB (nm_r (nI_1 (q + 1)) (H post hp)))⟩

/-- turnRound: the cells a .. b-1 in the other order; vi says which cell comes to stand at j -/
def ls_vi (a b j : Nat) : Nat := if a ≤ j ∧ j < b then a + b - 1 - j else j
def ls_V (a b : Nat) (f g : Nat → Int32) : Prop := ∀ j, g j = f (ls_vi a b j)
def ls_sw (f : Nat → Int32) (a b : Nat) : Nat → Int32 := upd (upd f a (f b)) b (f a)
theorem ls_swv (f : Nat → Int32) (a b x : Nat) : ls_sw f a b x = f (if x = b then a else if x = a then b else x) := by
  unfold ls_sw
  by_cases e1 : x = b
  · rw [if_pos e1, e1, pk_us]
  · rw [if_neg e1, pk_un e1]
    by_cases e2 : x = a
    · rw [if_pos e2, e2, pk_us]
    · rw [if_neg e2, pk_un e2]
theorem ls_V0 {a b : Nat} {f : Nat → Int32} (h : b ≤ a + 1) : ls_V a b f f := by
  intro j
  refine congrArg f ?_
  unfold ls_vi
  by_cases e : a ≤ j ∧ j < b
  · rw [if_pos e]; omega
  · rw [if_neg e]
theorem ls_viS {a b j : Nat} (hab : a + 1 < b) : (if ls_vi (a + 1) (b - 1) j = b - 1 then a else if ls_vi (a + 1) (b - 1) j = a then b - 1 else ls_vi (a + 1) (b - 1) j) = ls_vi a b j := by
  unfold ls_vi
  by_cases e1 : a + 1 ≤ j ∧ j < b - 1
  · rw [if_pos e1, if_neg (by omega), if_neg (by omega), if_pos (by omega)]; omega
  · rw [if_neg e1]
    by_cases e2 : j = b - 1
    · rw [if_pos e2, if_pos (by omega)]; omega
    · rw [if_neg e2]
      by_cases e3 : j = a
      · rw [if_pos e3, if_pos (by omega)]; omega
      · rw [if_neg e3, if_neg (by omega)]
theorem ls_Vs {a b : Nat} {f g : Nat → Int32} (hab : a + 1 < b) (h : ls_V (a + 1) (b - 1) (ls_sw f a (b - 1)) g) : ls_V a b f g := by
  intro j
  rw [h j, ls_swv, ls_viS hab]
theorem ls_Bs {v : Nat → Int32} {a b : Nat} (h : ls_B v) : ls_B (ls_sw v a b) := ls_Bu (ls_Bu h (h _)) (h _)
theorem ls_swp {post : SX → Prop} {c r s : Int32} {ka aa va : Nat → Int32} {P Q : Int32} (a b : Nat) (ha : a < 40) (hb : b < 40) (hP : P = nI a) (hQ : Q = nI b) (hB : ls_B va)
    (h : post (c, r, s, ls_sw ka a b, ls_sw aa a b, ls_sw va a b)) : wpX_swapEntries post (c, r, s, ka, aa, va) P Q := by
  subst hP hQ
  unfold wpX_swapEntries
  dsimp only
  rw [ls_cl ha, ls_cl hb]
  refine ⟨ls_in ha, nm_e ⟨ls_in ha, nm_e ⟨ls_in ha, nm_e (ls_cp b a hb ha rfl rfl hB ?_)⟩⟩⟩
  exact ⟨ls_in hb, nm_e ⟨ls_in hb, nm_e ⟨ls_in hb, nm_r (congrArg (upd (upd va a (va b)) b) (ls_nar (hB a))) h⟩⟩⟩
theorem ls_ix {t i b : Nat} (h : b + i = t) (hb : 1 ≤ b) : nI t - 1 - nI i = nI (b - 1) := by
  rw [ls_p1 (by omega), pk_sub (by omega)]
  exact congrArg nI (by omega)
theorem ls_turnL (c r s : Int32) (f t h : Nat) (ht : t ≤ 40) (hh : f + 2 * h ≤ t) (hu : t ≤ f + 2 * h + 1) : ∀ d i a b : Nat, i + d = h → a = f + i → b + i = t →
    ∀ ka aa va : Nat → Int32, ls_B va →
    ∃ ka' aa' va' : Nat → Int32, ls_B va' ∧ ls_V a b ka ka' ∧ ls_V a b aa aa' ∧ ls_V a b va va' ∧
      ∀ post : SX → Prop, post (c, r, s, ka', aa', va') → wX_turnRound_9 post (nI f) (nI t) (nI h) (d + 1) (nI i) c r s ka aa va := by
  intro d
  induction d with
  | zero =>
    intro i a b hi ha hb ka aa va hB
    exact ⟨ka, aa, va, hB, ls_V0 (by omega), ls_V0 (by omega), ls_V0 (by omega), fun post hp => br_t (nI_le (by omega) (by omega)) hp⟩
  | succ d ih =>
    intro i a b hi ha hb ka aa va hB
    obtain ⟨ka', aa', va', hB', gk, ga, gv, H⟩ := ih (i + 1) (a + 1) (b - 1) (by omega) (by omega) (by omega) (ls_sw ka a (b - 1)) (ls_sw aa a (b - 1)) (ls_sw va a (b - 1)) (ls_Bs hB)
    exact ⟨ka', aa', va', hB', ls_Vs (by omega) gk, ls_Vs (by omega) ga, ls_Vs (by omega) gv, fun post hp => br_f (nI_ge (by omega) (by omega))
      (ls_swp a (b - 1) (by omega) (by omega) ((nI_add f i).trans (congrArg nI ha.symm)) (ls_ix hb (by omega)) hB (nm_r (nI_1 i) (H post hp)))⟩
theorem ls_turn (c r s : Int32) (f t : Nat) (hft : f ≤ t) (ht : t ≤ 40) (ka aa va : Nat → Int32) (hB : ls_B va) :
    ∃ ka' aa' va' : Nat → Int32, ls_B va' ∧ ls_V f t ka ka' ∧ ls_V f t aa aa' ∧ ls_V f t va va' ∧
      ∀ post : SX → Prop, post (c, r, s, ka', aa', va') → wpX_turnRound post (c, r, s, ka, aa, va) (nI f) (nI t) := by
  obtain ⟨ka', aa', va', hB', gk, ga, gv, H⟩ := ls_turnL c r s f t ((t - f) / 2) ht (by omega) (by omega) ((t - f) / 2) 0 f t (by omega) rfl rfl ka aa va hB
  refine ⟨ka', aa', va', hB', gk, ga, gv, fun post h => ?_⟩
  unfold wpX_turnRound
  dsimp only
  refine ⟨ls_20, nm_r (e' := nI ((t - f) / 2)) ?_ ⟨_, H post h⟩⟩
  rw [pk_sub hft]
  exact pk_div (d := 2) (by omega) (by omega) (by omega)

/-- swapNeighbours: the cells m .. b-1 stand before the cells a .. m-1 -/
def ls_wi (a m b j : Nat) : Nat := if a ≤ j ∧ j < b then (if j < a + (b - m) then m + (j - a) else j - (b - m)) else j
def ls_W (a m b : Nat) (f g : Nat → Int32) : Prop := ∀ j, g j = f (ls_wi a m b j)
theorem ls_viW {a m b j : Nat} (h1 : a ≤ m) (h2 : m ≤ b) : ls_vi a m (ls_vi m b (ls_vi a b j)) = ls_wi a m b j := by
  by_cases e : a ≤ j ∧ j < b
  · have x1 : ls_vi a b j = a + b - 1 - j := if_pos e
    by_cases e2 : j < a + (b - m)
    · have x2 : ls_vi m b (a + b - 1 - j) = m + b - 1 - (a + b - 1 - j) := if_pos (by omega)
      have x3 : ls_vi a m (m + b - 1 - (a + b - 1 - j)) = m + b - 1 - (a + b - 1 - j) := if_neg (by omega)
      have x4 : ls_wi a m b j = m + (j - a) := by unfold ls_wi; rw [if_pos e, if_pos e2]
      rw [x1, x2, x3, x4]; omega
    · have x2 : ls_vi m b (a + b - 1 - j) = a + b - 1 - j := if_neg (by omega)
      have x3 : ls_vi a m (a + b - 1 - j) = a + m - 1 - (a + b - 1 - j) := if_pos (by omega)
      have x4 : ls_wi a m b j = j - (b - m) := by unfold ls_wi; rw [if_pos e, if_neg e2]
      rw [x1, x2, x3, x4]; omega
  · have x1 : ls_vi a b j = j := if_neg e
    have x2 : ls_vi m b j = j := if_neg (by omega)
    have x3 : ls_vi a m j = j := if_neg (by omega)
    have x4 : ls_wi a m b j = j := if_neg e
    rw [x1, x2, x3, x4]
theorem ls_Vw {a m b : Nat} {f f1 f2 g : Nat → Int32} (h1 : a ≤ m) (h2 : m ≤ b) (v1 : ls_V a m f f1) (v2 : ls_V m b f1 f2) (v3 : ls_V a b f2 g) : ls_W a m b f g := by
  intro j
  rw [v3 j, v2 (ls_vi a b j), v1 (ls_vi m b (ls_vi a b j)), ls_viW h1 h2]
theorem ls_swapN (c r s : Int32) (a m b : Nat) (h1 : a ≤ m) (h2 : m ≤ b) (hb : b ≤ 40) (ka aa va : Nat → Int32) (hB : ls_B va) :
    ∃ ka' aa' va' : Nat → Int32, ls_B va' ∧ ls_W a m b ka ka' ∧ ls_W a m b aa aa' ∧ ls_W a m b va va' ∧
      ∀ post : SX → Prop, post (c, r, s, ka', aa', va') → wpX_swapNeighbours post (c, r, s, ka, aa, va) (nI a) (nI m) (nI b) := by
  obtain ⟨k1, a1, v1, B1, p1, p2, p3, H1⟩ := ls_turn c r s a m h1 (by omega) ka aa va hB
  obtain ⟨k2, a2, v2, B2, q1, q2, q3, H2⟩ := ls_turn c r s m b h2 hb k1 a1 v1 B1
  obtain ⟨k3, a3, v3, B3, r1, r2, r3, H3⟩ := ls_turn c r s a b (by omega) hb k2 a2 v2 B2
  refine ⟨k3, a3, v3, B3, ls_Vw h1 h2 p1 q1 r1, ls_Vw h1 h2 p2 q2 r2, ls_Vw h1 h2 p3 q3 r3, fun post h => ?_⟩
  unfold wpX_swapNeighbours
  dsimp only
  refine H1 _ ?_
  refine H2 _ ?_
  exact H3 _ h

/-- copy: where the entry i of the block stands once the gap of l cells has been made at p -/
def ls_src (f p l i : Nat) : Nat := if f + i < p then f + i else f + i + l
def ls_C (f p l i : Nat) (g h : Nat → Int32) : Prop :=
  (∀ j, (j < p + i ∨ p + l ≤ j) → h j = g j) ∧ (∀ j, p + i ≤ j → j < p + l → h j = g (ls_src f p l (j - p)))
theorem ls_srcO (f p l i : Nat) : ls_src f p l i < p ∨ p + l ≤ ls_src f p l i := by
  unfold ls_src
  by_cases e : f + i < p
  · rw [if_pos e]; omega
  · rw [if_neg e]; omega
theorem ls_C0 {f p l : Nat} {g : Nat → Int32} : ls_C f p l l g g := ⟨fun _ _ => rfl, fun j h1 h2 => absurd h2 (by omega)⟩
theorem ls_Cs {f p l i : Nat} {g h : Nat → Int32} (hi : i < l) (H : ls_C f p l (i + 1) (upd g (p + i) (g (ls_src f p l i))) h) : ls_C f p l i g h := by
  obtain ⟨h1, h2⟩ := H
  refine ⟨fun j hj => ?_, fun j hj hk => ?_⟩
  · rw [h1 j (by omega), pk_un (by omega)]
  · by_cases e : j = p + i
    · rw [e, h1 (p + i) (by omega), pk_us, Nat.add_sub_cancel_left]
    · have o := ls_srcO f p l (j - p)
      rw [h2 j (by omega) hk, pk_un (by omega)]
theorem ls_cpL (c r s : Int32) (f p l n : Nat) (hf : f + l ≤ n) (hp : p ≤ n) (hn : n + l ≤ 40) : ∀ d i : Nat, i + d = l → ∀ ka aa va : Nat → Int32, ls_B va →
    ∃ ka' aa' va' : Nat → Int32, ls_B va' ∧ ls_C f p l i ka ka' ∧ ls_C f p l i aa aa' ∧ ls_C f p l i va va' ∧
      ∀ post : Int32 → SX → Prop, post s (c, r, s, ka', aa', va') → wX_copy_58 post (nI f) (nI p) (nI l) (d + 1) (nI i) c r s ka aa va := by
  intro d
  induction d with
  | zero =>
    intro i hi ka aa va hB
    have e : i = l := by omega
    subst e
    exact ⟨ka, aa, va, hB, ls_C0, ls_C0, ls_C0, fun post hq => br_t (nI_le (Nat.le_refl _) (by omega)) hq⟩
  | succ d ih =>
    intro i hi ka aa va hB
    obtain ⟨ka', aa', va', hB', gk, ga, gv, H⟩ := ih (i + 1) (by omega) (upd ka (p + i) (ka (ls_src f p l i))) (upd aa (p + i) (aa (ls_src f p l i))) (upd va (p + i) (va (ls_src f p l i))) (ls_Bu hB (hB _))
    have hs : ls_src f p l i < 40 := by unfold ls_src; split <;> omega
    refine ⟨ka', aa', va', hB', ls_Cs (by omega) gk, ls_Cs (by omega) ga, ls_Cs (by omega) gv, fun post hq => br_f (nI_ge (by omega) (by omega)) (nm_r (nI_add f i) ?_)⟩
    by_cases e : f + i < p
    · refine br_t (nI_lt e (by omega)) ?_
      unfold wX_copy_84
      exact ls_cp (ls_src f p l i) (p + i) hs (by omega) (by unfold ls_src; rw [if_pos e]) (nI_add p i) hB (nm_r (nI_1 i) (H post hq))
    · refine br_f (nI_nlt (by omega) (by omega)) (nm_r (nI_add (f + i) l) ?_)
      unfold wX_copy_84
      exact ls_cp (ls_src f p l i) (p + i) hs (by omega) (by unfold ls_src; rw [if_neg e]) (nI_add p i) hB (nm_r (nI_1 i) (H post hq))
