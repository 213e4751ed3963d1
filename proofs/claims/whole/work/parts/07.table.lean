/-! ===== the pure table: what evaluation finds, from the last token to the first ===== -/
def ph_wrow (wd : Nat → Int32) (o L : Nat) (t : Int32) (b : Nat) : Int32 := if b < L ∧ wd (o + b) = t then (1 : Int32) <<< (nI b &&& 31) else 0
def ph_all (r : Nat → Int32) : Nat → Int32
  | 0 => 0
  | b + 1 => ph_all r b ||| r b
def ph_row (wd : Nat → Int32) (o L : Nat) (q : Nat → Int32) (i s t : Nat) (v : Nat → Nat → Int32) (b : Nat) : Int32 :=
  if ph_t q i ≤ 11 then ph_wrow wd o L (q i) b
  else if ph_t q i = 12 then v s b ||| v t b
  else if ph_t q i = 18 then v s b &&& ph_reach (v t) (b + 1)
  else if ph_t q i ≤ 17 then ph_then (v s b) (v t) (ph_t q i - 13) (24 - (ph_t q i - 13))
  else if ph_t q i = 23 then (if ph_all (v s) 24 = 0 then 0 else 1)
  else if ph_t q i = 22 then (if v s 0 = 1 then 0 else 1)
  else if ph_t q i = 21 then (if v s 0 = 1 ∨ v t 0 = 1 then 1 else 0)
  else (if v s 0 = 1 ∧ v t 0 = 1 then 1 else 0)
section
variable {wd q : Nat → Int32} {o L i s t b : Nat} {v : Nat → Nat → Int32}
theorem ph_row_w (h : ph_t q i ≤ 11) : ph_row wd o L q i s t v b = ph_wrow wd o L (q i) b := if_pos h
theorem ph_row_o (h : ph_t q i = 12) : ph_row wd o L q i s t v b = v s b ||| v t b := by
  unfold ph_row; rw [if_neg (by omega), if_pos h]
theorem ph_row_i (h : ph_t q i = 18) : ph_row wd o L q i s t v b = v s b &&& ph_reach (v t) (b + 1) := by
  unfold ph_row; rw [if_neg (by omega), if_neg (by omega), if_pos h]
theorem ph_row_t (h : 13 ≤ ph_t q i) (h2 : ph_t q i ≤ 17) : ph_row wd o L q i s t v b = ph_then (v s b) (v t) (ph_t q i - 13) (24 - (ph_t q i - 13)) := by
  unfold ph_row; rw [if_neg (by omega), if_neg (by omega), if_neg (by omega), if_pos h2]
theorem ph_row_23 (h : ph_t q i = 23) : ph_row wd o L q i s t v b = if ph_all (v s) 24 = 0 then 0 else 1 := by
  unfold ph_row; rw [if_neg (by omega), if_neg (by omega), if_neg (by omega), if_neg (by omega), if_pos h]
theorem ph_row_22 (h : ph_t q i = 22) : ph_row wd o L q i s t v b = if v s 0 = 1 then 0 else 1 := by
  unfold ph_row; rw [if_neg (by omega), if_neg (by omega), if_neg (by omega), if_neg (by omega), if_neg (by omega), if_pos h]
theorem ph_row_21 (h : ph_t q i = 21) : ph_row wd o L q i s t v b = if v s 0 = 1 ∨ v t 0 = 1 then 1 else 0 := by
  unfold ph_row; rw [if_neg (by omega), if_neg (by omega), if_neg (by omega), if_neg (by omega), if_neg (by omega), if_neg (by omega), if_pos h]
theorem ph_row_20 (h : ph_t q i = 20) : ph_row wd o L q i s t v b = if v s 0 = 1 ∧ v t 0 = 1 then 1 else 0 := by
  unfold ph_row; rw [if_neg (by omega), if_neg (by omega), if_neg (by omega), if_neg (by omega), if_neg (by omega), if_neg (by omega), if_neg (by omega)]
theorem ph_row_01 (h : 20 ≤ ph_t q i) : ph_row wd o L q i s t v b = 0 ∨ ph_row wd o L q i s t v b = 1 := by
  unfold ph_row
  rw [if_neg (by omega), if_neg (by omega), if_neg (by omega), if_neg (by omega)]
  repeat' split
  all_goals first | exact Or.inl rfl | exact Or.inr rfl
end
theorem ph_then_ext {x : Int32} {r r' : Nat → Int32} {k : Nat} : ∀ m, m + k ≤ 24 → (∀ c, c < 24 → r c = r' c) → ph_then x r k m = ph_then x r' k m := by
  intro m
  induction m with
  | zero => intro _ _; rfl
  | succ m ih =>
    intro hm h
    show (if _ then ph_then x r k m ||| r (m + k) else ph_then x r k m) = (if _ then ph_then x r' k m ||| r' (m + k) else ph_then x r' k m)
    rw [ih (by omega) h, h (m + k) (by omega)]
theorem ph_reach_ext {r r' : Nat → Int32} : ∀ m, m ≤ 24 → (∀ c, c < 24 → r c = r' c) → ph_reach r m = ph_reach r' m := by
  intro m
  induction m with
  | zero => intro _ _; rfl
  | succ m ih =>
    intro hm h
    show ph_reach r m ||| ph_fill (r m) 24 = ph_reach r' m ||| ph_fill (r' m) 24
    rw [ih (by omega) h, h m (by omega)]
theorem ph_all_ext {r r' : Nat → Int32} : ∀ m, m ≤ 24 → (∀ c, c < 24 → r c = r' c) → ph_all r m = ph_all r' m := by
  intro m
  induction m with
  | zero => intro _ _; rfl
  | succ m ih =>
    intro hm h
    show ph_all r m ||| r m = ph_all r' m ||| r' m
    rw [ih (by omega) h, h m (by omega)]
/-- the stack, from its top -/
def ph_push (i p : Nat) (st : Nat → Nat) (j : Nat) : Nat := if j = 0 then i else st (j - 1 + p)
theorem ph_push_s (i p : Nat) (st : Nat → Nat) (j : Nat) : ph_push i p st (j + 1) = st (j + p) := by
  unfold ph_push; rw [if_neg (by omega), show j + 1 - 1 + p = j + p by omega]
def ph_set (v : Nat → Nat → Int32) (i : Nat) (f : Nat → Int32) (j : Nat) : Nat → Int32 := if j = i then f else v j
def ph_ev (wd : Nat → Int32) (o L : Nat) (q : Nat → Int32) (n : Nat) : Nat → (Nat → Nat) × (Nat → Nat → Int32)
  | 0 => (fun _ => n, fun _ _ => 0)
  | m + 1 => (ph_push (n - (m + 1)) (ph_par (ph_t q (n - (m + 1)))) (ph_ev wd o L q n m).1,
      ph_set (ph_ev wd o L q n m).2 (n - (m + 1)) (ph_row wd o L q (n - (m + 1)) ((ph_ev wd o L q n m).1 0) ((ph_ev wd o L q n m).1 1) (ph_ev wd o L q n m).2))
def ph_S (wd : Nat → Int32) (o L : Nat) (q : Nat → Int32) (n i : Nat) : Nat → Nat := (ph_ev wd o L q n (n - i)).1
def ph_V (wd : Nat → Int32) (o L : Nat) (q : Nat → Int32) (n i : Nat) : Nat → Nat → Int32 := (ph_ev wd o L q n (n - i)).2
section
variable {wd q : Nat → Int32} {o L n i : Nat}
theorem ph_S_n : ph_S wd o L q n n = fun _ => n := by
  unfold ph_S; rw [Nat.sub_self]; rfl
theorem ph_S_s (h : i < n) : ph_S wd o L q n i = ph_push i (ph_par (ph_t q i)) (ph_S wd o L q n (i + 1)) := by
  obtain ⟨m, rfl⟩ : ∃ m, n = i + 1 + m := ⟨n - (i + 1), by omega⟩
  unfold ph_S
  rw [show i + 1 + m - i = m + 1 by omega, show i + 1 + m - (i + 1) = m by omega]
  show ph_push (i + 1 + m - (m + 1)) _ _ = _
  rw [show i + 1 + m - (m + 1) = i by omega]
theorem ph_V_s (h : i < n) : ph_V wd o L q n i = ph_set (ph_V wd o L q n (i + 1)) i (ph_row wd o L q i (ph_S wd o L q n (i + 1) 0) (ph_S wd o L q n (i + 1) 1) (ph_V wd o L q n (i + 1))) := by
  obtain ⟨m, rfl⟩ : ∃ m, n = i + 1 + m := ⟨n - (i + 1), by omega⟩
  unfold ph_V ph_S
  rw [show i + 1 + m - i = m + 1 by omega, show i + 1 + m - (i + 1) = m by omega]
  show ph_set _ (i + 1 + m - (m + 1)) _ = _
  rw [show i + 1 + m - (m + 1) = i by omega]
theorem ph_V_i (h : i < n) (b : Nat) : ph_V wd o L q n i i b = ph_row wd o L q i (ph_S wd o L q n (i + 1) 0) (ph_S wd o L q n (i + 1) 1) (ph_V wd o L q n (i + 1)) b := by
  rw [ph_V_s h]; unfold ph_set; rw [if_pos rfl]
theorem ph_V_j (h : i < n) {j : Nat} (hj : j ≠ i) (b : Nat) : ph_V wd o L q n i j b = ph_V wd o L q n (i + 1) j b := by
  rw [ph_V_s h]; unfold ph_set; rw [if_neg hj]
/-- the stack at i: its top is i, its members lie from i to n, first the spans due, then the conditions due -/
def ph_SI (wd : Nat → Int32) (o L : Nat) (q : Nat → Int32) (n i : Nat) : Prop :=
  ph_S wd o L q n i 0 = i ∧ (∀ j, i ≤ ph_S wd o L q n i j ∧ ph_S wd o L q n i j ≤ n) ∧
  (∀ j, j < (ph_c q i).1 → ph_S wd o L q n i j < n ∧ ph_t q (ph_S wd o L q n i j) ≤ 18) ∧
  (∀ j, (ph_c q i).1 ≤ j → j < (ph_c q i).1 + (ph_c q i).2 → ph_S wd o L q n i j < n ∧ 20 ≤ ph_t q (ph_S wd o L q n i j))
theorem ph_SI_n (c : (ph_c q n).1 + (ph_c q n).2 = 0) : ph_SI wd o L q n n := by
  unfold ph_SI
  rw [ph_S_n]
  refine ⟨rfl, fun j => ⟨Nat.le_refl n, Nat.le_refl n⟩, fun j hj => by omega, fun j hj hj2 => by omega⟩
theorem ph_SI_s (h : i < n) (ok : ph_ok q i) (H : ph_SI wd o L q n (i + 1)) : ph_SI wd o L q n i := by
  obtain ⟨h1, h2, h3, h4⟩ := H
  have K := ph_kinds ok
  unfold ph_SI
  rw [ph_S_s h]
  generalize ph_S wd o L q n (i + 1) = st at *
  generalize ph_par (ph_t q i) = p at *
  generalize ph_c q (i + 1) = c' at *
  generalize ph_c q i = c at *
  refine ⟨rfl, fun j => ?_, fun j hj => ?_, fun j hj hj2 => ?_⟩
  · cases j with
    | zero => exact ⟨Nat.le_refl i, Nat.le_of_lt h⟩
    | succ j => rw [ph_push_s]; have := h2 (j + p); omega
  · cases j with
    | zero => exact ⟨h, by show ph_t q i ≤ 18; omega⟩
    | succ j => rw [ph_push_s]; exact h3 (j + p) (by omega)
  · cases j with
    | zero => exact ⟨h, by show 20 ≤ ph_t q i; omega⟩
    | succ j => rw [ph_push_s]; exact h4 (j + p) (by omega) (by omega)
theorem ph_SI_all (c : (ph_c q n).1 + (ph_c q n).2 = 0) (ok : ∀ i, i < n → ph_ok q i) : ∀ r i, i + r = n → ph_SI wd o L q n i := by
  intro r
  induction r with
  | zero => intro i hi; have e : i = n := by omega
            subst e; exact ph_SI_n c
  | succ r ih => intro i hi; exact ph_SI_s (by omega) (ok i (by omega)) (ih (i + 1) (by omega))
/-- the table at i: a span row has no bit at 24 or above, a condition is 0 or 1 -/
def ph_VI (wd : Nat → Int32) (o L : Nat) (q : Nat → Int32) (n i : Nat) : Prop :=
  ∀ j, i ≤ j → j < n → (ph_t q j ≤ 18 → ∀ b, b < 24 → ph_lo (ph_V wd o L q n i j b)) ∧ (20 ≤ ph_t q j → ph_V wd o L q n i j 0 = 0 ∨ ph_V wd o L q n i j 0 = 1)
theorem ph_lo_w {t : Int32} {b : Nat} (hb : b < 24) : ph_lo (ph_wrow wd o L t b) := by
  unfold ph_wrow
  split
  · exact ph_lo1 hb
  · exact ph_lo0
theorem ph_VI_s (h : i < n) (ok : ph_ok q i) (H : ph_SI wd o L q n (i + 1)) (V : ph_VI wd o L q n (i + 1)) : ph_VI wd o L q n i := by
  intro j hj hj2
  by_cases z : j = i
  · subst z
    refine ⟨fun ht b hb => ?_, fun ht => ?_⟩
    · rw [ph_V_i h]
      by_cases w : ph_t q j ≤ 11
      · rw [ph_row_w w]; exact ph_lo_w hb
      · have K := ph_kinds ok
        have c2 : 2 ≤ (ph_c q (j + 1)).1 := by omega
        obtain ⟨h1, h2, h3, h4⟩ := H
        obtain ⟨s1, s2⟩ := h3 0 (by omega)
        obtain ⟨t1, t2⟩ := h3 1 (by omega)
        have sv := (V _ (h2 0).1 s1).1 s2
        have tv := (V _ (h2 1).1 t1).1 t2
        by_cases a : ph_t q j = 12
        · rw [ph_row_o a]; exact ph_loOr (sv b hb) (tv b hb)
        · by_cases e : ph_t q j = 18
          · rw [ph_row_i e]; exact ph_loAnd (sv b hb)
          · rw [ph_row_t (by omega) (by omega)]
            exact ph_loThen _ _ _ _ (fun e he => tv _ (by omega))
    · rw [ph_V_i h]; exact ph_row_01 ht
  · have B := V j (by omega) hj2
    refine ⟨fun ht b hb => ?_, fun ht => ?_⟩
    · rw [ph_V_j h z]; exact B.1 ht b hb
    · rw [ph_V_j h z]; exact B.2 ht
theorem ph_VI_all (c : (ph_c q n).1 + (ph_c q n).2 = 0) (ok : ∀ i, i < n → ph_ok q i) : ∀ r i, i + r = n → ph_VI wd o L q n i := by
  intro r
  induction r with
  | zero => intro i hi j hj hj2; omega
  | succ r ih => intro i hi; exact ph_VI_s (by omega) (ok i (by omega)) (ph_SI_all c ok r (i + 1) (by omega)) (ih (i + 1) (by omega))
end
/-- an array of rows of 24, with m places of row i written by f -/
def ph_wr (e : Nat → Int32) (i : Nat) (f : Nat → Int32) (m j : Nat) : Int32 := if 24 * i ≤ j ∧ j < 24 * i + m then f (j - 24 * i) else e j
theorem ph_wr_0 (e : Nat → Int32) (i : Nat) (f : Nat → Int32) : ph_wr e i f 0 = e := by
  funext j; unfold ph_wr; rw [if_neg (by omega)]
theorem ph_wr_s (e : Nat → Int32) (i : Nat) (f : Nat → Int32) (m : Nat) : upd (ph_wr e i f m) (24 * i + m) (f m) = ph_wr e i f (m + 1) := by
  funext j
  by_cases h : j = 24 * i + m
  · subst h; rw [pk_us]; unfold ph_wr; rw [if_pos (by omega), show 24 * i + m - 24 * i = m by omega]
  · rw [pk_un h]; unfold ph_wr
    by_cases z : 24 * i ≤ j ∧ j < 24 * i + m
    · rw [if_pos z, if_pos (by omega)]
    · rw [if_neg z, if_neg (by omega)]
theorem ph_wr_o {e : Nat → Int32} {i : Nat} {f : Nat → Int32} {m s b : Nat} (hm : m ≤ 24) (hs : s ≠ i) (hb : b < 24) : ph_wr e i f m (24 * s + b) = e (24 * s + b) := by
  unfold ph_wr; rw [if_neg (by omega)]
theorem ph_wr_i {e : Nat → Int32} {i : Nat} {f : Nat → Int32} {b : Nat} (hb : b < 24) : ph_wr e i f 24 (24 * i + b) = f b := by
  unfold ph_wr; rw [if_pos (by omega), show 24 * i + b - 24 * i = b by omega]
