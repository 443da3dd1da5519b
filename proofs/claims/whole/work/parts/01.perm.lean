/-! arrangements: the place of a list among the arrangements of its entries; the next arrangement's place is one more -/
def pm_f : Nat → Nat
  | 0 => 1
  | n + 1 => (n + 1) * pm_f n
theorem pm_f_pos : ∀ n, 0 < pm_f n
  | 0 => by decide
  | n + 1 => Nat.mul_pos (Nat.succ_pos n) (pm_f_pos n)
/-- how many entries of l lie below a -/
def pm_c (a : Nat) (l : List Nat) : Nat := l.countP (fun b => decide (b < a))
theorem pm_c_nil (a : Nat) : pm_c a [] = 0 := rfl
theorem pm_c_cons (a b : Nat) (l : List Nat) : pm_c a (b :: l) = pm_c a l + if b < a then 1 else 0 := by
  unfold pm_c
  rw [List.countP_cons]
  by_cases h : b < a <;> simp [h]
theorem pm_c_app (a : Nat) (l m : List Nat) : pm_c a (l ++ m) = pm_c a l + pm_c a m := List.countP_append
theorem pm_c_rev (a : Nat) (l : List Nat) : pm_c a l.reverse = pm_c a l := List.countP_reverse
theorem pm_c_le (a : Nat) (l : List Nat) : pm_c a l ≤ l.length := List.countP_le_length
theorem pm_c_perm (a : Nat) {l m : List Nat} (h : l.Perm m) : pm_c a l = pm_c a m := h.countP_eq _
theorem pm_c_all {a : Nat} : ∀ {l : List Nat}, (∀ x, x ∈ l → x < a) → pm_c a l = l.length
  | [], _ => rfl
  | b :: l, h => by
    rw [pm_c_cons, pm_c_all (l := l) (fun x hx => h x (List.mem_cons_of_mem _ hx)), if_pos (h b (List.mem_cons_self ..))]
    rfl
theorem pm_c_none {a : Nat} : ∀ {l : List Nat}, (∀ x, x ∈ l → ¬ x < a) → pm_c a l = 0
  | [], _ => rfl
  | b :: l, h => by
    rw [pm_c_cons, pm_c_none (l := l) (fun x hx => h x (List.mem_cons_of_mem _ hx)), if_neg (h b (List.mem_cons_self ..))]
theorem pm_c_mono {a b : Nat} (h : a ≤ b) : ∀ l : List Nat, pm_c a l ≤ pm_c b l
  | [] => Nat.le_refl _
  | c :: l => by
    have := pm_c_mono h l
    rw [pm_c_cons, pm_c_cons]
    split <;> split <;> omega
theorem pm_c_lt {a b : Nat} (h : a < b) : ∀ l : List Nat, a ∈ l → pm_c a l < pm_c b l
  | [], z => nomatch z
  | c :: l, z => by
    have hm := pm_c_mono (Nat.le_of_lt h) l
    rw [pm_c_cons, pm_c_cons]
    rcases List.mem_cons.mp z with e | z
    · subst e
      rw [if_neg (Nat.lt_irrefl _), if_pos h]
      omega
    · have := pm_c_lt h l z
      split <;> split <;> omega
/-- the place of a list among the arrangements of its entries -/
def pm_r : List Nat → Nat
  | [] => 0
  | a :: l => pm_c a l * pm_f l.length + pm_r l
theorem pm_r_cons (a : Nat) (l : List Nat) : pm_r (a :: l) = pm_c a l * pm_f l.length + pm_r l := rfl
theorem pm_f_s (n : Nat) : pm_f (n + 1) = n * pm_f n + pm_f n := by
  show (n + 1) * pm_f n = _
  rw [Nat.add_mul, Nat.one_mul]
theorem pm_r_lt : ∀ l : List Nat, pm_r l < pm_f l.length
  | [] => by decide
  | a :: l => by
    have h1 := pm_r_lt l
    have h3 : pm_c a l * pm_f l.length ≤ l.length * pm_f l.length := Nat.mul_le_mul_right _ (pm_c_le a l)
    rw [pm_r_cons, List.length_cons, pm_f_s]
    omega
theorem pm_dm {c d F r s : Nat} (h : c * F + r = d * F + s) (hr : r < F) (hs : s < F) : c = d ∧ r = s := by
  rcases Nat.lt_trichotomy c d with hl | hl | hl
  · have := Nat.mul_le_mul_right F hl
    rw [Nat.succ_mul] at this
    omega
  · subst hl
    exact ⟨rfl, by omega⟩
  · have := Nat.mul_le_mul_right F hl
    rw [Nat.succ_mul] at this
    omega
theorem pm_inj : ∀ (l m : List Nat), l.Perm m → pm_r l = pm_r m → l = m
  | [], m, h, _ => h.nil_eq
  | a :: l, [], h, _ => absurd h.length_eq (by simp)
  | a :: l, b :: m, h, e => by
    have hl : l.length = m.length := by
      have := h.length_eq
      simpa using this
    rw [pm_r_cons, pm_r_cons, hl] at e
    have h1 := pm_r_lt l
    rw [hl] at h1
    obtain ⟨ec, er⟩ := pm_dm e h1 (pm_r_lt m)
    have ea : pm_c a (a :: l) = pm_c a l := by rw [pm_c_cons, if_neg (Nat.lt_irrefl _), Nat.add_zero]
    have eb : pm_c b (b :: m) = pm_c b m := by rw [pm_c_cons, if_neg (Nat.lt_irrefl _), Nat.add_zero]
    have eb' : pm_c b (a :: l) = pm_c b m := (pm_c_perm b h).trans eb
    have hab : a = b := by
      rcases Nat.lt_trichotomy a b with hh | hh | hh
      · have := pm_c_lt hh (a :: l) (List.mem_cons_self ..)
        omega
      · exact hh
      · have := pm_c_lt hh (a :: l) (h.mem_iff.mpr (List.mem_cons_self ..))
        omega
    subst hab
    rw [pm_inj l m h.cons_inv er]
theorem pm_desc : ∀ l : List Nat, l.Pairwise (fun a b => b < a) → pm_r l + 1 = pm_f l.length
  | [], _ => rfl
  | a :: l, h => by
    rw [List.pairwise_cons] at h
    have := pm_desc l h.2
    rw [pm_r_cons, pm_c_all h.1, List.length_cons, pm_f_s]
    omega
theorem pm_asc : ∀ l : List Nat, l.Pairwise (fun a b => a < b) → pm_r l = 0
  | [], _ => rfl
  | a :: l, h => by
    rw [List.pairwise_cons] at h
    rw [pm_r_cons, pm_asc l h.2, pm_c_none (fun x hx => by have := h.1 x hx; omega), Nat.zero_mul]
theorem pm_pre {s t : List Nat} (hp : s.Perm t) (h : pm_r t = pm_r s + 1) : ∀ p : List Nat, pm_r (p ++ t) = pm_r (p ++ s) + 1
  | [] => h
  | a :: p => by
    have := pm_pre hp h p
    have e1 : pm_c a (p ++ t) = pm_c a (p ++ s) := pm_c_perm a (hp.symm.append_left p)
    have e2 : (p ++ t).length = (p ++ s).length := (hp.symm.append_left p).length_eq
    rw [List.cons_append, List.cons_append, pm_r_cons, pm_r_cons, e1, e2]
    omega
theorem pm_step {a c : Nat} {d1 d2 : List Nat} (hd : (d1 ++ c :: d2).Pairwise (fun a b => b < a)) (h1 : a < c) (h2 : ∀ x, x ∈ d2 → x < a) : pm_r (c :: (d1 ++ a :: d2).reverse) = pm_r (a :: (d1 ++ c :: d2)) + 1 := by
  have hD := pm_desc _ hd
  rw [List.pairwise_append, List.pairwise_cons] at hd
  obtain ⟨hd1, ⟨hc, hd2⟩, hx⟩ := hd
  have hb : ∀ x, x ∈ d1 → c < x := fun x hx1 => hx x hx1 c (List.mem_cons_self ..)
  have hA : (d1 ++ a :: d2).reverse.Pairwise (fun a b => a < b) := by
    rw [List.pairwise_reverse, List.pairwise_append, List.pairwise_cons]
    refine ⟨hd1, ⟨h2, hd2⟩, fun x hx1 y hy => ?_⟩
    have := hb x hx1
    rcases List.mem_cons.mp hy with e | hy
    · omega
    · have := h2 y hy
      omega
  have c1 : pm_c a (d1 ++ c :: d2) = d2.length := by
    rw [pm_c_app, pm_c_cons, if_neg (by omega), pm_c_all h2, pm_c_none (fun x hx1 => by have := hb x hx1; omega)]
    omega
  have c2 : pm_c c (d1 ++ a :: d2).reverse = d2.length + 1 := by
    rw [pm_c_rev, pm_c_app, pm_c_cons, if_pos h1, pm_c_all (fun x hx1 => Nat.lt_trans (h2 x hx1) h1), pm_c_none (fun x hx1 => by have := hb x hx1; omega)]
    omega
  have hl : (d1 ++ a :: d2).reverse.length = (d1 ++ c :: d2).length := by simp; omega
  rw [pm_r_cons, pm_r_cons, c1, c2, pm_asc _ hA, hl, Nat.add_mul, Nat.one_mul]
  omega
/-! a stretch of an array as a list -/
def pm_l (o : Nat → Nat) : Nat → Nat → List Nat
  | _, 0 => []
  | i, m + 1 => o i :: pm_l o (i + 1) m
theorem pm_l_s (o : Nat → Nat) (i m : Nat) : pm_l o i (m + 1) = o i :: pm_l o (i + 1) m := rfl
theorem pm_l_len (o : Nat → Nat) : ∀ m i, (pm_l o i m).length = m
  | 0, _ => rfl
  | m + 1, i => by rw [pm_l_s, List.length_cons, pm_l_len o m (i + 1)]
theorem pm_l_app (o : Nat → Nat) : ∀ m i k, pm_l o i (m + k) = pm_l o i m ++ pm_l o (i + m) k
  | 0, i, k => by rw [Nat.zero_add]; rfl
  | m + 1, i, k => by
    rw [show m + 1 + k = (m + k) + 1 by omega, pm_l_s, pm_l_s, pm_l_app o m (i + 1) k, List.cons_append, show i + 1 + m = i + (m + 1) by omega]
theorem pm_l_snoc (o : Nat → Nat) (m i : Nat) : pm_l o i (m + 1) = pm_l o i m ++ [o (i + m)] := pm_l_app o m i 1
theorem pm_l_congr {o p : Nat → Nat} : ∀ m i, (∀ q, i ≤ q → q < i + m → o q = p q) → pm_l o i m = pm_l p i m
  | 0, _, _ => rfl
  | m + 1, i, h => by
    rw [pm_l_s, pm_l_s, h i (Nat.le_refl _) (by omega), pm_l_congr m (i + 1) (fun q h1 h2 => h q (by omega) (by omega))]
theorem pm_l_mem {o : Nat → Nat} {x : Nat} : ∀ {m i : Nat}, x ∈ pm_l o i m ↔ ∃ q, i ≤ q ∧ q < i + m ∧ x = o q
  | 0, i => ⟨fun z => (nomatch z), fun ⟨q, h1, h2, _⟩ => absurd h2 (by omega)⟩
  | m + 1, i => by
    rw [pm_l_s, List.mem_cons, pm_l_mem (m := m) (i := i + 1)]
    constructor
    · rintro (e | ⟨q, h1, h2, e⟩)
      · exact ⟨i, Nat.le_refl _, by omega, e⟩
      · exact ⟨q, by omega, by omega, e⟩
    · rintro ⟨q, h1, h2, e⟩
      rcases Nat.eq_or_lt_of_le h1 with h | h
      · subst h
        exact Or.inl e
      · exact Or.inr ⟨q, by omega, by omega, e⟩
theorem pm_l_rev {o p : Nat → Nat} : ∀ m i j, (∀ q, q < m → p (j + q) = o (i + (m - 1 - q))) → pm_l p j m = (pm_l o i m).reverse
  | 0, _, _, _ => rfl
  | m + 1, i, j, h => by
    rw [pm_l_snoc o m i, List.reverse_append, pm_l_s]
    have e0 := h 0 (by omega)
    rw [Nat.add_zero, show m + 1 - 1 - 0 = m by omega] at e0
    rw [e0, pm_l_rev (o := o) (p := p) m i (j + 1) (fun q hq => by
      have := h (q + 1) (by omega)
      rw [show j + (q + 1) = j + 1 + q by omega, show m + 1 - 1 - (q + 1) = m - 1 - q by omega] at this
      exact this)]
    rfl
theorem pm_l_desc {o : Nat → Nat} {e : Nat} : ∀ m i, i + m = e → (∀ q, i ≤ q → q + 1 < e → o (q + 1) < o q) → (pm_l o i m).Pairwise (fun a b => b < a)
  | 0, _, _, _ => List.Pairwise.nil
  | m + 1, i, he, h => by
    rw [pm_l_s, List.pairwise_cons]
    refine ⟨fun x hx => ?_, pm_l_desc (e := e) m (i + 1) (by omega) (fun q h1 h2 => h q (by omega) h2)⟩
    obtain ⟨q, h1, h2, rfl⟩ := pm_l_mem.mp hx
    have key : ∀ d, i + 1 + d < e → o (i + 1 + d) < o i := by
      intro d
      induction d with
      | zero => intro hd; exact h i (Nat.le_refl _) hd
      | succ d ih =>
        intro hd
        have a1 := ih (by omega)
        have a2 := h (i + 1 + d) (by omega) (by omega)
        rw [show i + 1 + (d + 1) = i + 1 + d + 1 by omega]
        omega
    have := key (q - (i + 1)) (by omega)
    rwa [show i + 1 + (q - (i + 1)) = q by omega] at this
/-- the next arrangement, as an array: place i takes the entry of place j, the stretch behind i turned round, with i's entry at j -/
theorem pm_next {o p : Nat → Nat} {n i j : Nat} (hij : i < j) (hjn : j < n) (hd : ∀ q, i + 1 ≤ q → q + 1 < n → o (q + 1) < o q) (h1 : o i < o j) (h2 : ∀ q, j < q → q < n → o q < o i)
    (p0 : ∀ q, q < i → p q = o q) (p1 : p i = o j) (p2 : ∀ q, i < q → q < n → p q = if n + i - q = j then o i else o (n + i - q)) :
    (pm_l p 0 n).Perm (pm_l o 0 n) ∧ pm_r (pm_l p 0 n) = pm_r (pm_l o 0 n) + 1 := by
  have eo : pm_l o 0 n = pm_l o 0 i ++ (o i :: (pm_l o (i + 1) (j - i - 1) ++ o j :: pm_l o (j + 1) (n - 1 - j))) := by
    have e1 : pm_l o 0 n = pm_l o 0 i ++ pm_l o i (n - i) := by
      have := pm_l_app o i 0 (n - i)
      rwa [show i + (n - i) = n by omega, Nat.zero_add] at this
    have e2 : pm_l o i (n - i) = o i :: pm_l o (i + 1) (n - 1 - i) := by
      rw [show n - i = (n - 1 - i) + 1 by omega]; exact pm_l_s ..
    have e3 : pm_l o (i + 1) (n - 1 - i) = pm_l o (i + 1) (j - i - 1) ++ pm_l o j (n - j) := by
      have := pm_l_app o (j - i - 1) (i + 1) (n - j)
      rwa [show j - i - 1 + (n - j) = n - 1 - i by omega, show i + 1 + (j - i - 1) = j by omega] at this
    have e4 : pm_l o j (n - j) = o j :: pm_l o (j + 1) (n - 1 - j) := by
      rw [show n - j = (n - 1 - j) + 1 by omega]; exact pm_l_s ..
    rw [e1, e2, e3, e4]
  have ep : pm_l p 0 n = pm_l o 0 i ++ (o j :: (pm_l o (i + 1) (j - i - 1) ++ o i :: pm_l o (j + 1) (n - 1 - j)).reverse) := by
    have e1 : pm_l p 0 n = pm_l p 0 i ++ pm_l p i (n - i) := by
      have := pm_l_app p i 0 (n - i)
      rwa [show i + (n - i) = n by omega, Nat.zero_add] at this
    have e2 : pm_l p i (n - i) = p i :: pm_l p (i + 1) (n - 1 - i) := by
      rw [show n - i = (n - 1 - i) + 1 by omega]; exact pm_l_s ..
    have e3 : pm_l p 0 i = pm_l o 0 i := pm_l_congr i 0 (fun q _ h => p0 q (by omega))
    have e5 : pm_l (fun q => if q = j then o i else o q) (i + 1) (n - 1 - i) = pm_l o (i + 1) (j - i - 1) ++ o i :: pm_l o (j + 1) (n - 1 - j) := by
      have a1 := pm_l_app (fun q => if q = j then o i else o q) (j - i - 1) (i + 1) (n - j)
      rw [show j - i - 1 + (n - j) = n - 1 - i by omega, show i + 1 + (j - i - 1) = j by omega] at a1
      have a2 : pm_l (fun q => if q = j then o i else o q) j (n - j) = o i :: pm_l (fun q => if q = j then o i else o q) (j + 1) (n - 1 - j) := by
        rw [show n - j = (n - 1 - j) + 1 by omega, pm_l_s]
        rw [if_pos rfl]
      have a3 : pm_l (fun q => if q = j then o i else o q) (j + 1) (n - 1 - j) = pm_l o (j + 1) (n - 1 - j) :=
        pm_l_congr _ _ (fun q h _ => if_neg (by omega))
      have a4 : pm_l (fun q => if q = j then o i else o q) (i + 1) (j - i - 1) = pm_l o (i + 1) (j - i - 1) :=
        pm_l_congr _ _ (fun q _ h => if_neg (by omega))
      rw [a1, a2, a3, a4]
    have e4 : pm_l p (i + 1) (n - 1 - i) = (pm_l (fun q => if q = j then o i else o q) (i + 1) (n - 1 - i)).reverse := by
      refine pm_l_rev _ _ _ (fun q hq => ?_)
      rw [p2 (i + 1 + q) (by omega) (by omega)]
      rw [show n + i - (i + 1 + q) = i + 1 + (n - 1 - i - 1 - q) by omega]
    rw [e1, e2, e3, p1, e4, e5]
  have hd' : (pm_l o (i + 1) (j - i - 1) ++ o j :: pm_l o (j + 1) (n - 1 - j)).Pairwise (fun a b => b < a) := by
    have a1 := pm_l_desc (o := o) (e := n) (n - 1 - i) (i + 1) (by omega) hd
    have a2 := pm_l_app o (j - i - 1) (i + 1) (n - j)
    rw [show j - i - 1 + (n - j) = n - 1 - i by omega, show i + 1 + (j - i - 1) = j by omega, show n - j = (n - 1 - j) + 1 by omega, pm_l_s] at a2
    rwa [a2] at a1
  have h2' : ∀ x, x ∈ pm_l o (j + 1) (n - 1 - j) → x < o i := by
    intro x hx
    obtain ⟨q, a1, a2, rfl⟩ := pm_l_mem.mp hx
    exact h2 q (by omega) (by omega)
  generalize pm_l o (i + 1) (j - i - 1) = d1 at *
  generalize pm_l o (j + 1) (n - 1 - j) = d2 at *
  have hperm : (o i :: (d1 ++ o j :: d2)).Perm (o j :: (d1 ++ o i :: d2).reverse) := by
    refine List.Perm.trans ?_ ((List.reverse_perm _).symm.cons _)
    refine List.Perm.trans (List.perm_middle.cons _) ?_
    refine List.Perm.trans (List.Perm.swap ..) ?_
    exact List.perm_middle.symm.cons _
  rw [eo, ep]
  exact ⟨hperm.symm.append_left _, pm_pre hperm (pm_step hd' h1 h2') _⟩
/-- the last arrangement -/
theorem pm_last {o : Nat → Nat} {n : Nat} (hd : ∀ q, q + 1 < n → o (q + 1) < o q) : pm_r (pm_l o 0 n) + 1 = pm_f n := by
  have := pm_desc _ (pm_l_desc (o := o) (e := n) n 0 (by omega) (fun q _ h => hd q h))
  rwa [pm_l_len] at this
/-- the first arrangement -/
theorem pm_first (n : Nat) : pm_r (pm_l (fun k => k) 0 n) = 0 := by
  refine pm_asc _ ?_
  have key : ∀ m i, (pm_l (fun k => k) i m).Pairwise (fun a b => a < b) := by
    intro m
    induction m with
    | zero => intro i; exact List.Pairwise.nil
    | succ m ih =>
      intro i
      rw [pm_l_s, List.pairwise_cons]
      refine ⟨fun x hx => ?_, ih (i + 1)⟩
      obtain ⟨q, h1, _, rfl⟩ := pm_l_mem.mp hx
      exact h1
  exact key n 0
theorem pm_f8 {n : Nat} (h : n ≤ 8) : pm_f n ≤ 40320 := by
  have : n = 0 ∨ n = 1 ∨ n = 2 ∨ n = 3 ∨ n = 4 ∨ n = 5 ∨ n = 6 ∨ n = 7 ∨ n = 8 := by omega
  rcases this with rfl | rfl | rfl | rfl | rfl | rfl | rfl | rfl | rfl <;> decide
