/-! ===== the query's counts: (spans due, conditions due) after i tokens ===== -/
def ph_cs (t : Nat) (p : Nat × Nat) : Nat × Nat :=
  if t ≤ 11 then (p.1 - 1, p.2)
  else if t ≤ 18 then (p.1 + 1, p.2)
  else if t = 23 then (p.1 + 1, p.2 - 1)
  else if t = 22 then p
  else (p.1, p.2 + 1)
def ph_t (q : Nat → Int32) (i : Nat) : Nat := (q i).toNatClampNeg
def ph_c (q : Nat → Int32) : Nat → Nat × Nat
  | 0 => (0, 1)
  | i + 1 => ph_cs (ph_t q i) (ph_c q i)
def ph_ok (q : Nat → Int32) (i : Nat) : Prop :=
  q i = nI (ph_t q i) ∧ ((0 < (ph_c q i).1 ∧ ph_t q i ≤ 18) ∨ ((ph_c q i).1 = 0 ∧ 0 < (ph_c q i).2 ∧ 20 ≤ ph_t q i ∧ ph_t q i ≤ 23))
theorem ph_c_s (q : Nat → Int32) (i : Nat) : ph_c q (i + 1) = ph_cs (ph_t q i) (ph_c q i) := rfl
theorem ph_t_of {q : Nat → Int32} {i t : Nat} (h : q i = nI t) (ht : t < 2 ^ 31) : ph_t q i = t := by
  unfold ph_t; rw [h]; exact nI_clamp ht
theorem ph_c_ext {q q' : Nat → Int32} : ∀ i, (∀ j, j < i → q j = q' j) → ph_c q i = ph_c q' i := by
  intro i
  induction i with
  | zero => intro _; rfl
  | succ i ih =>
    intro h
    rw [ph_c_s, ph_c_s, ih (fun j hj => h j (by omega))]
    unfold ph_t
    rw [h i (by omega)]
theorem ph_cs_le (t : Nat) (p : Nat × Nat) : (ph_cs t p).1 + (ph_cs t p).2 ≤ p.1 + p.2 + 1 := by
  unfold ph_cs
  repeat' split
  all_goals first | omega | (dsimp only; omega)
theorem ph_c_le (q : Nat → Int32) : ∀ i, (ph_c q i).1 + (ph_c q i).2 ≤ i + 1 := by
  intro i
  induction i with
  | zero => exact Nat.le_refl 1
  | succ i ih =>
    have h := ph_cs_le (ph_t q i) (ph_c q i)
    rw [ph_c_s]
    omega
theorem ph_ok_ext {q q' : Nat → Int32} {i : Nat} (h : ∀ j, j < i + 1 → q j = q' j) (k : ph_ok q i) : ph_ok q' i := by
  have e : ph_t q' i = ph_t q i := by unfold ph_t; rw [h i (by omega)]
  unfold ph_ok
  rw [← ph_c_ext i (fun j hj => h j (by omega)), e, ← h i (by omega)]
  exact k
theorem ph_ok_pos {q : Nat → Int32} {i : Nat} (k : ph_ok q i) : 1 ≤ (ph_c q i).1 + (ph_c q i).2 := by
  obtain ⟨_, k⟩ := k
  omega
theorem ph_ok_le {q : Nat → Int32} {i : Nat} (k : ph_ok q i) : ph_t q i ≤ 23 := by
  obtain ⟨_, k⟩ := k
  omega
/-- how many parts a token takes -/
def ph_par (t : Nat) : Nat := if t ≤ 11 then 0 else if 22 ≤ t then 1 else 2
theorem ph_par_0 {t : Nat} (h : t ≤ 11) : ph_par t = 0 := if_pos h
theorem ph_par_1 {t : Nat} (h : 22 ≤ t) : ph_par t = 1 := by
  unfold ph_par; rw [if_neg (by omega), if_pos h]
theorem ph_par_2 {t : Nat} (h : 12 ≤ t) (h2 : t ≤ 21) : ph_par t = 2 := by
  unfold ph_par; rw [if_neg (by omega), if_neg (by omega)]
/-- the five kinds of token, with what they count -/
theorem ph_kinds {q : Nat → Int32} {i : Nat} (k : ph_ok q i) :
    (ph_t q i ≤ 11 ∧ ph_par (ph_t q i) = 0 ∧ (ph_c q i).1 = (ph_c q (i + 1)).1 + 1 ∧ (ph_c q i).2 = (ph_c q (i + 1)).2) ∨
    (12 ≤ ph_t q i ∧ ph_t q i ≤ 18 ∧ ph_par (ph_t q i) = 2 ∧ (ph_c q i).1 + 1 = (ph_c q (i + 1)).1 ∧ 2 ≤ (ph_c q (i + 1)).1 ∧ (ph_c q i).2 = (ph_c q (i + 1)).2) ∨
    (ph_t q i = 23 ∧ ph_par (ph_t q i) = 1 ∧ (ph_c q i).1 = 0 ∧ (ph_c q (i + 1)).1 = 1 ∧ (ph_c q i).2 = (ph_c q (i + 1)).2 + 1) ∨
    (ph_t q i = 22 ∧ ph_par (ph_t q i) = 1 ∧ (ph_c q i).1 = 0 ∧ (ph_c q (i + 1)).1 = 0 ∧ (ph_c q i).2 = (ph_c q (i + 1)).2 ∧ 1 ≤ (ph_c q i).2) ∨
    (20 ≤ ph_t q i ∧ ph_t q i ≤ 21 ∧ ph_par (ph_t q i) = 2 ∧ (ph_c q i).1 = 0 ∧ (ph_c q (i + 1)).1 = 0 ∧ (ph_c q i).2 + 1 = (ph_c q (i + 1)).2 ∧ 1 ≤ (ph_c q i).2) := by
  obtain ⟨_, k⟩ := k
  rw [ph_c_s]
  generalize ph_t q i = t at k
  generalize ph_c q i = p at k
  unfold ph_cs ph_par
  by_cases h1 : t ≤ 11
  · rw [if_pos h1, if_pos h1]; dsimp only; omega
  · by_cases h2 : t ≤ 18
    · rw [if_neg h1, if_neg h1, if_pos h2, if_neg (by omega)]; dsimp only; omega
    · by_cases h3 : t = 23
      · rw [if_neg h1, if_neg h1, if_neg h2, if_pos h3, if_pos (by omega)]; dsimp only; omega
      · by_cases h4 : t = 22
        · rw [if_neg h1, if_neg h1, if_neg h2, if_neg h3, if_pos h4, if_pos (by omega)]; omega
        · rw [if_neg h1, if_neg h1, if_neg h2, if_neg h3, if_neg h4, if_neg (by omega)]; dsimp only; omega
/-- what both sides keep alike -/
def ph_R (n : Nat) (wd ln q : Nat → Int32) : Prop :=
  n ≤ 12 ∧ (∀ i, i < n → ph_ok q i) ∧ (∀ d, d < 6 → ∃ l, l ≤ 24 ∧ ln d = nI l ∧ ∀ p, p < l → ∃ w, w ≤ 11 ∧ wd (24 * d + p) = nI w)
def i_Rel (_ : Nat) (u : SX) (v : SY) : Prop :=
  ∃ (n : Nat) (wd ln q np tr eb rw sk pl : Nat → Int32), u = (nI n, nI (ph_c q n).1, nI (ph_c q n).2, wd, ln, q, np, tr, eb) ∧ v = (nI n, ln, wd, q, rw, sk, pl) ∧ ph_R n wd ln q
theorem i_up {k : Nat} {u : SX} {v : SY} (h : i_Rel k u v) : i_Rel (k + 4) u v := h
theorem i_vc0 : wpX_init (fun u => wpY_init (fun v => i_Rel 0 u v)) :=
  ⟨0, fun _ => 0, fun _ => 0, fun _ => 0, fun _ => 0, fun _ => 0, fun _ => 0, fun _ => 0, fun _ => 0, fun _ => 0, rfl, rfl, by omega, fun i hi => by omega,
    fun d _ => ⟨0, by omega, rfl, fun p hp => by omega⟩⟩
theorem ph_mk {k n : Nat} {wd ln q np tr eb rw sk pl : Nat → Int32} (h : ph_R n wd ln q) :
    i_Rel k (nI n, nI (ph_c q n).1, nI (ph_c q n).2, wd, ln, q, np, tr, eb) (nI n, ln, wd, q, rw, sk, pl) :=
  ⟨n, wd, ln, q, np, tr, eb, rw, sk, pl, rfl, rfl, h⟩
