section
/-! rows of kit/rows, pasted -/
def bt (x : Int32) (i : Nat) : Bool := x.toBitVec.getLsbD i
theorem b_ext {x y : Int32} (h : ∀ i, i < 32 → bt x i = bt y i) : x = y := Int32.toBitVec_inj.mp (BitVec.eq_of_getLsbD_eq (fun i hi => h i hi))
theorem b_or (x y : Int32) (i : Nat) : bt (x ||| y) i = (bt x i || bt y i) := by unfold bt; rw [Int32.toBitVec_or, BitVec.getLsbD_or]
theorem b_and (x y : Int32) (i : Nat) : bt (x &&& y) i = (bt x i && bt y i) := by unfold bt; rw [Int32.toBitVec_and, BitVec.getLsbD_and]
theorem b_xor (x y : Int32) (i : Nat) : bt (x ^^^ y) i = (bt x i ^^ bt y i) := by unfold bt; rw [Int32.toBitVec_xor, BitVec.getLsbD_xor]
theorem b_m1 : ∀ i, i < 32 → bt (-1) i = true := by decide +kernel
theorem s_l : ∀ n, n < 32 → ((nI n &&& 31).toBitVec.smod 32).toNat = n := by decide +kernel
theorem nx_and (a b : Nat) : nI a &&& nI b = nI (a &&& b) := by
  apply Int32.toBitVec_inj.1
  show BitVec.ofNat 32 a &&& BitVec.ofNat 32 b = BitVec.ofNat 32 (a &&& b)
  apply BitVec.eq_of_getLsbD_eq
  intro i hi
  simp [hi]
theorem nx_xor (a b : Nat) : nI a ^^^ nI b = nI (a ^^^ b) := by
  apply Int32.toBitVec_inj.1
  show BitVec.ofNat 32 a ^^^ BitVec.ofNat 32 b = BitVec.ofNat 32 (a ^^^ b)
  apply BitVec.eq_of_getLsbD_eq
  intro i hi
  simp [hi]
theorem pk_us {f : Nat → Int32} {k : Nat} {x : Int32} : upd f k x k = x := if_pos rfl
theorem pk_un {f : Nat → Int32} {k j : Nat} {x : Int32} (h : j ≠ k) : upd f k x j = f j := if_neg h
theorem pk_sub {a b : Nat} (h : b ≤ a) : nI a - nI b = nI (a - b) := by
  obtain ⟨c, rfl⟩ : ∃ c, a = c + b := ⟨a - b, by omega⟩
  rw [← nI_add, Int32.add_sub_cancel, Nat.add_sub_cancel]
theorem pk_m1 (n : Nat) : nI (n + 1) + (-1) = nI n := by
  rw [← nI_1, Int32.add_assoc, show (1 : Int32) + (-1) = 0 from rfl, Int32.add_zero]
theorem pk_mul (a b : Nat) : nI a * nI b = nI (a * b) := (Int32.ofNat_mul a b).symm
theorem pk_ix (x : Int32) {n : Nat} (hn : n < 2 ^ 31) : x < 0 ∨ nI n ≤ x ∨ ∃ j : Nat, j < n ∧ x = nI j := by
  by_cases h : x < 0
  · exact Or.inl h
  · obtain ⟨j, hj, rfl⟩ := nI_of h
    by_cases h2 : j < n
    · exact Or.inr (Or.inr ⟨j, h2, rfl⟩)
    · exact Or.inr (Or.inl (nI_le (by omega) hj))
theorem pk_tn {n : Nat} (h : n < 2 ^ 32) : (nI n).toBitVec.toNat = n := Nat.mod_eq_of_lt h
theorem pk_and (x : Int32) {m : Int32} (k : Nat) (hm : m.toBitVec.toNat = 2 ^ k - 1) : x &&& m = nI (x.toBitVec.toNat % 2 ^ k) := by
  apply Int32.toBitVec_inj.mp
  apply BitVec.eq_of_toNat_eq
  rw [Int32.toBitVec_and, BitVec.toNat_and, hm, Nat.and_two_pow_sub_one_eq_mod]
  show _ = (BitVec.ofNat 32 _).toNat
  rw [BitVec.toNat_ofNat]
  exact (Nat.mod_eq_of_lt (Nat.lt_of_le_of_lt (Nat.mod_le _ _) x.toBitVec.isLt)).symm
theorem pk_andN {n : Nat} (h : n < 2 ^ 32) {m : Int32} (k : Nat) (hm : m.toBitVec.toNat = 2 ^ k - 1) : nI n &&& m = nI (n % 2 ^ k) := by
  rw [pk_and _ k hm, pk_tn h]
theorem pk_shl (a s : Int32) (k : Nat) (hs : (s.toBitVec.smod 32).toNat = k) : (a <<< s).toBitVec.toNat = a.toBitVec.toNat * 2 ^ k % 2 ^ 32 := by
  show (a.toBitVec <<< (s.toBitVec.smod 32).toNat).toNat = _
  rw [hs, BitVec.toNat_shiftLeft, Nat.shiftLeft_eq]
theorem pk_shlN {n : Nat} (s : Int32) (k : Nat) (hs : (s.toBitVec.smod 32).toNat = k) (h : n * 2 ^ k < 2 ^ 32) : nI n <<< s = nI (n * 2 ^ k) := by
  apply Int32.toBitVec_inj.mp
  apply BitVec.eq_of_toNat_eq
  have hn : n < 2 ^ 32 := Nat.lt_of_le_of_lt (Nat.le_mul_of_pos_right n (Nat.two_pow_pos k)) h
  rw [pk_shl _ _ k hs, pk_tn hn, pk_tn h, Nat.mod_eq_of_lt h]
theorem pk_shr (a s : Int32) (k : Nat) (hs : (s.toBitVec.smod 32).toNat = k) : (a >>> s).toInt = a.toInt >>> k := by
  show (a.toBitVec.sshiftRight (s.toBitVec.smod 32).toNat).toInt = _
  rw [hs, BitVec.toInt_sshiftRight]
  rfl
theorem pk_shrN {n : Nat} (h : n < 2 ^ 31) (s : Int32) (k : Nat) (hs : (s.toBitVec.smod 32).toNat = k) : nI n >>> s = nI (n / 2 ^ k) := by
  apply Int32.toInt_inj.mp
  have h2 : n / 2 ^ k ≤ n := Nat.div_le_self _ _
  rw [pk_shr _ _ k hs, nI_toInt h, nI_toInt (by omega), Int.shiftRight_eq_div_pow]
  rfl
end
section
/-! arrangements: the place of a list among the arrangements of its entries; the next arrangement's place is one more -/
def pm_f : Nat → Nat
  | 0 => 1
  | n + 1 => (n + 1) * pm_f n
theorem pm_f_pos : ∀ n, 0 < pm_f n
  | 0 => by decide
  | n + 1 => Nat.mul_pos (Nat.succ_pos n) (pm_f_pos n)
/-- how many entries of l lie below a -/
def pm_c (a : Nat) (l : List Nat) : Nat := l.countP (fun b => decide (b < a))
theorem pm_c_nil (a : Nat) : pm_c a [] = 0 := rfl
theorem pm_c_cons (a b : Nat) (l : List Nat) : pm_c a (b :: l) = pm_c a l + if b < a then 1 else 0 := by
  unfold pm_c
  rw [List.countP_cons]
  by_cases h : b < a <;> simp [h]
theorem pm_c_app (a : Nat) (l m : List Nat) : pm_c a (l ++ m) = pm_c a l + pm_c a m := List.countP_append
theorem pm_c_rev (a : Nat) (l : List Nat) : pm_c a l.reverse = pm_c a l := List.countP_reverse
theorem pm_c_le (a : Nat) (l : List Nat) : pm_c a l ≤ l.length := List.countP_le_length
theorem pm_c_perm (a : Nat) {l m : List Nat} (h : l.Perm m) : pm_c a l = pm_c a m := h.countP_eq _
theorem pm_c_all {a : Nat} : ∀ {l : List Nat}, (∀ x, x ∈ l → x < a) → pm_c a l = l.length
  | [], _ => rfl
  | b :: l, h => by
    rw [pm_c_cons, pm_c_all (l := l) (fun x hx => h x (List.mem_cons_of_mem _ hx)), if_pos (h b (List.mem_cons_self ..))]
    rfl
theorem pm_c_none {a : Nat} : ∀ {l : List Nat}, (∀ x, x ∈ l → ¬ x < a) → pm_c a l = 0
  | [], _ => rfl
  | b :: l, h => by
    rw [pm_c_cons, pm_c_none (l := l) (fun x hx => h x (List.mem_cons_of_mem _ hx)), if_neg (h b (List.mem_cons_self ..))]
theorem pm_c_mono {a b : Nat} (h : a ≤ b) : ∀ l : List Nat, pm_c a l ≤ pm_c b l
  | [] => Nat.le_refl _
  | c :: l => by
    have := pm_c_mono h l
    rw [pm_c_cons, pm_c_cons]
    split <;> split <;> omega
theorem pm_c_lt {a b : Nat} (h : a < b) : ∀ l : List Nat, a ∈ l → pm_c a l < pm_c b l
  | [], z => nomatch z
  | c :: l, z => by
    have hm := pm_c_mono (Nat.le_of_lt h) l
    rw [pm_c_cons, pm_c_cons]
    rcases List.mem_cons.mp z with e | z
    · subst e
      rw [if_neg (Nat.lt_irrefl _), if_pos h]
      omega
    · have := pm_c_lt h l z
      split <;> split <;> omega
/-- the place of a list among the arrangements of its entries -/
def pm_r : List Nat → Nat
  | [] => 0
  | a :: l => pm_c a l * pm_f l.length + pm_r l
theorem pm_r_cons (a : Nat) (l : List Nat) : pm_r (a :: l) = pm_c a l * pm_f l.length + pm_r l := rfl
theorem pm_f_s (n : Nat) : pm_f (n + 1) = n * pm_f n + pm_f n := by
  show (n + 1) * pm_f n = _
  rw [Nat.add_mul, Nat.one_mul]
theorem pm_r_lt : ∀ l : List Nat, pm_r l < pm_f l.length
  | [] => by decide
  | a :: l => by
    have h1 := pm_r_lt l
    have h3 : pm_c a l * pm_f l.length ≤ l.length * pm_f l.length := Nat.mul_le_mul_right _ (pm_c_le a l)
    rw [pm_r_cons, List.length_cons, pm_f_s]
    omega
theorem pm_dm {c d F r s : Nat} (h : c * F + r = d * F + s) (hr : r < F) (hs : s < F) : c = d ∧ r = s := by
  rcases Nat.lt_trichotomy c d with hl | hl | hl
  · have := Nat.mul_le_mul_right F hl
    rw [Nat.succ_mul] at this
    omega
  · subst hl
    exact ⟨rfl, by omega⟩
  · have := Nat.mul_le_mul_right F hl
    rw [Nat.succ_mul] at this
    omega
theorem pm_inj : ∀ (l m : List Nat), l.Perm m → pm_r l = pm_r m → l = m
  | [], m, h, _ => h.nil_eq
  | a :: l, [], h, _ => absurd h.length_eq (by simp)
  | a :: l, b :: m, h, e => by
    have hl : l.length = m.length := by
      have := h.length_eq
      simpa using this
    rw [pm_r_cons, pm_r_cons, hl] at e
    have h1 := pm_r_lt l
    rw [hl] at h1
    obtain ⟨ec, er⟩ := pm_dm e h1 (pm_r_lt m)
    have ea : pm_c a (a :: l) = pm_c a l := by rw [pm_c_cons, if_neg (Nat.lt_irrefl _), Nat.add_zero]
    have eb : pm_c b (b :: m) = pm_c b m := by rw [pm_c_cons, if_neg (Nat.lt_irrefl _), Nat.add_zero]
    have eb' : pm_c b (a :: l) = pm_c b m := (pm_c_perm b h).trans eb
    have hab : a = b := by
      rcases Nat.lt_trichotomy a b with hh | hh | hh
      · have := pm_c_lt hh (a :: l) (List.mem_cons_self ..)
        omega
      · exact hh
      · have := pm_c_lt hh (a :: l) (h.mem_iff.mpr (List.mem_cons_self ..))
        omega
    subst hab
    rw [pm_inj l m h.cons_inv er]
theorem pm_desc : ∀ l : List Nat, l.Pairwise (fun a b => b < a) → pm_r l + 1 = pm_f l.length
  | [], _ => rfl
  | a :: l, h => by
    rw [List.pairwise_cons] at h
    have := pm_desc l h.2
    rw [pm_r_cons, pm_c_all h.1, List.length_cons, pm_f_s]
    omega
theorem pm_asc : ∀ l : List Nat, l.Pairwise (fun a b => a < b) → pm_r l = 0
  | [], _ => rfl
  | a :: l, h => by
    rw [List.pairwise_cons] at h
    rw [pm_r_cons, pm_asc l h.2, pm_c_none (fun x hx => by have := h.1 x hx; omega), Nat.zero_mul]
theorem pm_pre {s t : List Nat} (hp : s.Perm t) (h : pm_r t = pm_r s + 1) : ∀ p : List Nat, pm_r (p ++ t) = pm_r (p ++ s) + 1
  | [] => h
  | a :: p => by
    have := pm_pre hp h p
    have e1 : pm_c a (p ++ t) = pm_c a (p ++ s) := pm_c_perm a (hp.symm.append_left p)
    have e2 : (p ++ t).length = (p ++ s).length := (hp.symm.append_left p).length_eq
    rw [List.cons_append, List.cons_append, pm_r_cons, pm_r_cons, e1, e2]
    omega
theorem pm_step {a c : Nat} {d1 d2 : List Nat} (hd : (d1 ++ c :: d2).Pairwise (fun a b => b < a)) (h1 : a < c) (h2 : ∀ x, x ∈ d2 → x < a) : pm_r (c :: (d1 ++ a :: d2).reverse) = pm_r (a :: (d1 ++ c :: d2)) + 1 := by
  have hD := pm_desc _ hd
  rw [List.pairwise_append, List.pairwise_cons] at hd
  obtain ⟨hd1, ⟨hc, hd2⟩, hx⟩ := hd
  have hb : ∀ x, x ∈ d1 → c < x := fun x hx1 => hx x hx1 c (List.mem_cons_self ..)
  have hA : (d1 ++ a :: d2).reverse.Pairwise (fun a b => a < b) := by
    rw [List.pairwise_reverse, List.pairwise_append, List.pairwise_cons]
    refine ⟨hd1, ⟨h2, hd2⟩, fun x hx1 y hy => ?_⟩
    have := hb x hx1
    rcases List.mem_cons.mp hy with e | hy
    · omega
    · have := h2 y hy
      omega
  have c1 : pm_c a (d1 ++ c :: d2) = d2.length := by
    rw [pm_c_app, pm_c_cons, if_neg (by omega), pm_c_all h2, pm_c_none (fun x hx1 => by have := hb x hx1; omega)]
    omega
  have c2 : pm_c c (d1 ++ a :: d2).reverse = d2.length + 1 := by
    rw [pm_c_rev, pm_c_app, pm_c_cons, if_pos h1, pm_c_all (fun x hx1 => Nat.lt_trans (h2 x hx1) h1), pm_c_none (fun x hx1 => by have := hb x hx1; omega)]
    omega
  have hl : (d1 ++ a :: d2).reverse.length = (d1 ++ c :: d2).length := by simp; omega
  rw [pm_r_cons, pm_r_cons, c1, c2, pm_asc _ hA, hl, Nat.add_mul, Nat.one_mul]
  omega
/-! a stretch of an array as a list -/
def pm_l (o : Nat → Nat) : Nat → Nat → List Nat
  | _, 0 => []
  | i, m + 1 => o i :: pm_l o (i + 1) m
theorem pm_l_s (o : Nat → Nat) (i m : Nat) : pm_l o i (m + 1) = o i :: pm_l o (i + 1) m := rfl
theorem pm_l_len (o : Nat → Nat) : ∀ m i, (pm_l o i m).length = m
  | 0, _ => rfl
  | m + 1, i => by rw [pm_l_s, List.length_cons, pm_l_len o m (i + 1)]
theorem pm_l_app (o : Nat → Nat) : ∀ m i k, pm_l o i (m + k) = pm_l o i m ++ pm_l o (i + m) k
  | 0, i, k => by rw [Nat.zero_add]; rfl
  | m + 1, i, k => by
    rw [show m + 1 + k = (m + k) + 1 by omega, pm_l_s, pm_l_s, pm_l_app o m (i + 1) k, List.cons_append, show i + 1 + m = i + (m + 1) by omega]
theorem pm_l_snoc (o : Nat → Nat) (m i : Nat) : pm_l o i (m + 1) = pm_l o i m ++ [o (i + m)] := pm_l_app o m i 1
theorem pm_l_congr {o p : Nat → Nat} : ∀ m i, (∀ q, i ≤ q → q < i + m → o q = p q) → pm_l o i m = pm_l p i m
  | 0, _, _ => rfl
  | m + 1, i, h => by
    rw [pm_l_s, pm_l_s, h i (Nat.le_refl _) (by omega), pm_l_congr m (i + 1) (fun q h1 h2 => h q (by omega) (by omega))]
theorem pm_l_mem {o : Nat → Nat} {x : Nat} : ∀ {m i : Nat}, x ∈ pm_l o i m ↔ ∃ q, i ≤ q ∧ q < i + m ∧ x = o q
  | 0, i => ⟨fun z => (nomatch z), fun ⟨q, h1, h2, _⟩ => absurd h2 (by omega)⟩
  | m + 1, i => by
    rw [pm_l_s, List.mem_cons, pm_l_mem (m := m) (i := i + 1)]
    constructor
    · rintro (e | ⟨q, h1, h2, e⟩)
      · exact ⟨i, Nat.le_refl _, by omega, e⟩
      · exact ⟨q, by omega, by omega, e⟩
    · rintro ⟨q, h1, h2, e⟩
      rcases Nat.eq_or_lt_of_le h1 with h | h
      · subst h
        exact Or.inl e
      · exact Or.inr ⟨q, by omega, by omega, e⟩
theorem pm_l_rev {o p : Nat → Nat} : ∀ m i j, (∀ q, q < m → p (j + q) = o (i + (m - 1 - q))) → pm_l p j m = (pm_l o i m).reverse
  | 0, _, _, _ => rfl
  | m + 1, i, j, h => by
    rw [pm_l_snoc o m i, List.reverse_append, pm_l_s]
    have e0 := h 0 (by omega)
    rw [Nat.add_zero, show m + 1 - 1 - 0 = m by omega] at e0
    rw [e0, pm_l_rev (o := o) (p := p) m i (j + 1) (fun q hq => by
      have := h (q + 1) (by omega)
      rw [show j + (q + 1) = j + 1 + q by omega, show m + 1 - 1 - (q + 1) = m - 1 - q by omega] at this
      exact this)]
    rfl
theorem pm_l_desc {o : Nat → Nat} {e : Nat} : ∀ m i, i + m = e → (∀ q, i ≤ q → q + 1 < e → o (q + 1) < o q) → (pm_l o i m).Pairwise (fun a b => b < a)
  | 0, _, _, _ => List.Pairwise.nil
  | m + 1, i, he, h => by
    rw [pm_l_s, List.pairwise_cons]
    refine ⟨fun x hx => ?_, pm_l_desc (e := e) m (i + 1) (by omega) (fun q h1 h2 => h q (by omega) h2)⟩
    obtain ⟨q, h1, h2, rfl⟩ := pm_l_mem.mp hx
    have key : ∀ d, i + 1 + d < e → o (i + 1 + d) < o i := by
      intro d
      induction d with
      | zero => intro hd; exact h i (Nat.le_refl _) hd
      | succ d ih =>
        intro hd
        have a1 := ih (by omega)
        have a2 := h (i + 1 + d) (by omega) (by omega)
        rw [show i + 1 + (d + 1) = i + 1 + d + 1 by omega]
        omega
    have := key (q - (i + 1)) (by omega)
    rwa [show i + 1 + (q - (i + 1)) = q by omega] at this
/-- the next arrangement, as an array: place i takes the entry of place j, the stretch behind i turned round, with i's entry at j -/
theorem pm_next {o p : Nat → Nat} {n i j : Nat} (hij : i < j) (hjn : j < n) (hd : ∀ q, i + 1 ≤ q → q + 1 < n → o (q + 1) < o q) (h1 : o i < o j) (h2 : ∀ q, j < q → q < n → o q < o i)
    (p0 : ∀ q, q < i → p q = o q) (p1 : p i = o j) (p2 : ∀ q, i < q → q < n → p q = if n + i - q = j then o i else o (n + i - q)) :
    (pm_l p 0 n).Perm (pm_l o 0 n) ∧ pm_r (pm_l p 0 n) = pm_r (pm_l o 0 n) + 1 := by
  have eo : pm_l o 0 n = pm_l o 0 i ++ (o i :: (pm_l o (i + 1) (j - i - 1) ++ o j :: pm_l o (j + 1) (n - 1 - j))) := by
    have e1 : pm_l o 0 n = pm_l o 0 i ++ pm_l o i (n - i) := by
      have := pm_l_app o i 0 (n - i)
      rwa [show i + (n - i) = n by omega, Nat.zero_add] at this
    have e2 : pm_l o i (n - i) = o i :: pm_l o (i + 1) (n - 1 - i) := by
      rw [show n - i = (n - 1 - i) + 1 by omega]; exact pm_l_s ..
    have e3 : pm_l o (i + 1) (n - 1 - i) = pm_l o (i + 1) (j - i - 1) ++ pm_l o j (n - j) := by
      have := pm_l_app o (j - i - 1) (i + 1) (n - j)
      rwa [show j - i - 1 + (n - j) = n - 1 - i by omega, show i + 1 + (j - i - 1) = j by omega] at this
    have e4 : pm_l o j (n - j) = o j :: pm_l o (j + 1) (n - 1 - j) := by
      rw [show n - j = (n - 1 - j) + 1 by omega]; exact pm_l_s ..
    rw [e1, e2, e3, e4]
  have ep : pm_l p 0 n = pm_l o 0 i ++ (o j :: (pm_l o (i + 1) (j - i - 1) ++ o i :: pm_l o (j + 1) (n - 1 - j)).reverse) := by
    have e1 : pm_l p 0 n = pm_l p 0 i ++ pm_l p i (n - i) := by
      have := pm_l_app p i 0 (n - i)
      rwa [show i + (n - i) = n by omega, Nat.zero_add] at this
    have e2 : pm_l p i (n - i) = p i :: pm_l p (i + 1) (n - 1 - i) := by
      rw [show n - i = (n - 1 - i) + 1 by omega]; exact pm_l_s ..
    have e3 : pm_l p 0 i = pm_l o 0 i := pm_l_congr i 0 (fun q _ h => p0 q (by omega))
    have e5 : pm_l (fun q => if q = j then o i else o q) (i + 1) (n - 1 - i) = pm_l o (i + 1) (j - i - 1) ++ o i :: pm_l o (j + 1) (n - 1 - j) := by
      have a1 := pm_l_app (fun q => if q = j then o i else o q) (j - i - 1) (i + 1) (n - j)
      rw [show j - i - 1 + (n - j) = n - 1 - i by omega, show i + 1 + (j - i - 1) = j by omega] at a1
      have a2 : pm_l (fun q => if q = j then o i else o q) j (n - j) = o i :: pm_l (fun q => if q = j then o i else o q) (j + 1) (n - 1 - j) := by
        rw [show n - j = (n - 1 - j) + 1 by omega, pm_l_s]
        rw [if_pos rfl]
      have a3 : pm_l (fun q => if q = j then o i else o q) (j + 1) (n - 1 - j) = pm_l o (j + 1) (n - 1 - j) :=
        pm_l_congr _ _ (fun q h _ => if_neg (by omega))
      have a4 : pm_l (fun q => if q = j then o i else o q) (i + 1) (j - i - 1) = pm_l o (i + 1) (j - i - 1) :=
        pm_l_congr _ _ (fun q _ h => if_neg (by omega))
      rw [a1, a2, a3, a4]
    have e4 : pm_l p (i + 1) (n - 1 - i) = (pm_l (fun q => if q = j then o i else o q) (i + 1) (n - 1 - i)).reverse := by
      refine pm_l_rev _ _ _ (fun q hq => ?_)
      rw [p2 (i + 1 + q) (by omega) (by omega)]
      rw [show n + i - (i + 1 + q) = i + 1 + (n - 1 - i - 1 - q) by omega]
    rw [e1, e2, e3, p1, e4, e5]
  have hd' : (pm_l o (i + 1) (j - i - 1) ++ o j :: pm_l o (j + 1) (n - 1 - j)).Pairwise (fun a b => b < a) := by
    have a1 := pm_l_desc (o := o) (e := n) (n - 1 - i) (i + 1) (by omega) hd
    have a2 := pm_l_app o (j - i - 1) (i + 1) (n - j)
    rw [show j - i - 1 + (n - j) = n - 1 - i by omega, show i + 1 + (j - i - 1) = j by omega, show n - j = (n - 1 - j) + 1 by omega, pm_l_s] at a2
    rwa [a2] at a1
  have h2' : ∀ x, x ∈ pm_l o (j + 1) (n - 1 - j) → x < o i := by
    intro x hx
    obtain ⟨q, a1, a2, rfl⟩ := pm_l_mem.mp hx
    exact h2 q (by omega) (by omega)
  generalize pm_l o (i + 1) (j - i - 1) = d1 at *
  generalize pm_l o (j + 1) (n - 1 - j) = d2 at *
  have hperm : (o i :: (d1 ++ o j :: d2)).Perm (o j :: (d1 ++ o i :: d2).reverse) := by
    refine List.Perm.trans ?_ ((List.reverse_perm _).symm.cons _)
    refine List.Perm.trans (List.perm_middle.cons _) ?_
    refine List.Perm.trans (List.Perm.swap ..) ?_
    exact List.perm_middle.symm.cons _
  rw [eo, ep]
  exact ⟨hperm.symm.append_left _, pm_pre hperm (pm_step hd' h1 h2') _⟩
/-- the last arrangement -/
theorem pm_last {o : Nat → Nat} {n : Nat} (hd : ∀ q, q + 1 < n → o (q + 1) < o q) : pm_r (pm_l o 0 n) + 1 = pm_f n := by
  have := pm_desc _ (pm_l_desc (o := o) (e := n) n 0 (by omega) (fun q _ h => hd q h))
  rwa [pm_l_len] at this
/-- the first arrangement -/
theorem pm_first (n : Nat) : pm_r (pm_l (fun k => k) 0 n) = 0 := by
  refine pm_asc _ ?_
  have key : ∀ m i, (pm_l (fun k => k) i m).Pairwise (fun a b => a < b) := by
    intro m
    induction m with
    | zero => intro i; exact List.Pairwise.nil
    | succ m ih =>
      intro i
      rw [pm_l_s, List.pairwise_cons]
      refine ⟨fun x hx => ?_, ih (i + 1)⟩
      obtain ⟨q, h1, _, rfl⟩ := pm_l_mem.mp hx
      exact h1
  exact key n 0
theorem pm_f8 {n : Nat} (h : n ≤ 8) : pm_f n ≤ 40320 := by
  have : n = 0 ∨ n = 1 ∨ n = 2 ∨ n = 3 ∨ n = 4 ∨ n = 5 ∨ n = 6 ∨ n = 7 ∨ n = 8 := by omega
  rcases this with rfl | rfl | rfl | rfl | rfl | rfl | rfl | rfl | rfl <;> decide
end
section
/-! lists of vertices and where a new path must begin; the least number over all arrangements -/
def pt_b (g : Nat → Nat) : List Nat → Nat
  | [] => 0
  | [_] => 1
  | a :: b :: l => pt_b g (b :: l) + if (g b).testBit a then 0 else 1
theorem pt_b_1 (g : Nat → Nat) (a : Nat) : pt_b g [a] = 1 := rfl
theorem pt_b_2 (g : Nat → Nat) (a b : Nat) (l : List Nat) : pt_b g (a :: b :: l) = pt_b g (b :: l) + if (g b).testBit a then 0 else 1 := rfl
theorem pt_b_le (g : Nat → Nat) : ∀ l, pt_b g l ≤ l.length
  | [] => Nat.le_refl _
  | [_] => Nat.le_refl _
  | a :: b :: l => by
    have := pt_b_le g (b :: l)
    rw [pt_b_2, List.length_cons]
    split <;> omega
/-- l lists the vertices of the set S, each once -/
def pt_S (S : Nat) (l : List Nat) : Prop := l.Nodup ∧ ∀ x, S.testBit x = true ↔ x ∈ l
theorem pt_S_len {S n : Nat} {l : List Nat} (h : pt_S S l) (hS : S < 2 ^ n) : l.length ≤ n := by
  have h1 : l ⊆ List.range n := by
    intro x hx
    rw [List.mem_range]
    have h2 := (h.2 x).mpr hx
    rcases Nat.lt_or_ge x n with h3 | h3
    · exact h3
    · have : S < 2 ^ x := Nat.lt_of_lt_of_le hS (Nat.pow_le_pow_right (by decide) h3)
      rw [Nat.testBit_lt_two_pow this] at h2
      exact absurd h2 (by decide)
  have := h.1.length_le_of_subset h1
  rwa [List.length_range] at this
/-- r is the least number of breaks over the arrangements of S that end (the head) with a -/
def pt_M (g : Nat → Nat) (S a r : Nat) : Prop := (∃ l, pt_S S (a :: l) ∧ r = pt_b g (a :: l)) ∧ ∀ l, pt_S S (a :: l) → r ≤ pt_b g (a :: l)
theorem pt_M_le {g : Nat → Nat} {S a r n : Nat} (h : pt_M g S a r) (hS : S < 2 ^ n) : r ≤ n := by
  obtain ⟨⟨l, h1, rfl⟩, _⟩ := h
  exact Nat.le_trans (pt_b_le g _) (pt_S_len h1 hS)
/-- a set without one of its vertices: T is S without a -/
theorem pt_S_cons {S T a : Nat} (ha : S.testBit a = true) (hT : ∀ x, T.testBit x = (S.testBit x && decide (x ≠ a))) (l : List Nat) : pt_S S (a :: l) ↔ pt_S T l := by
  unfold pt_S
  rw [List.nodup_cons]
  constructor
  · rintro ⟨⟨h1, h2⟩, h3⟩
    refine ⟨h2, fun x => ?_⟩
    rw [hT, Bool.and_eq_true, decide_eq_true_eq, h3 x, List.mem_cons]
    constructor
    · rintro ⟨e | e, h⟩
      · exact absurd e h
      · exact e
    · intro e
      exact ⟨Or.inr e, fun h => h1 (h ▸ e)⟩
  · rintro ⟨h2, h3⟩
    have hn : a ∉ l := by
      intro h
      have := (h3 a).mpr h
      rw [hT] at this
      simp at this
    refine ⟨⟨hn, h2⟩, fun x => ?_⟩
    rw [List.mem_cons, ← h3 x, hT, Bool.and_eq_true, decide_eq_true_eq]
    constructor
    · intro h
      by_cases e : x = a
      · exact Or.inl e
      · exact Or.inr ⟨h, e⟩
    · rintro (e | e)
      · rw [e]; exact ha
      · exact e.1
theorem pt_S_nil {l : List Nat} : pt_S 0 l ↔ l = [] := by
  unfold pt_S
  constructor
  · rintro ⟨_, h⟩
    cases l with
    | nil => rfl
    | cons a l =>
      have := (h a).mpr (List.mem_cons_self ..)
      rw [Nat.zero_testBit] at this
      exact absurd this (by decide)
  · rintro rfl
    refine ⟨List.nodup_nil, fun x => ?_⟩
    rw [Nat.zero_testBit]
    exact ⟨fun z => absurd z (by decide), fun z => nomatch z⟩
/-- one vertex alone -/
theorem pt_M_one {g : Nat → Nat} {S a : Nat} (ha : S.testBit a = true) (hT : ∀ x, (0 : Nat).testBit x = (S.testBit x && decide (x ≠ a))) : pt_M g S a 1 := by
  constructor
  · exact ⟨[], (pt_S_cons ha hT []).mpr (pt_S_nil.mpr rfl), rfl⟩
  · intro l hl
    rw [pt_S_nil.mp ((pt_S_cons ha hT l).mp hl)]
    exact Nat.le_refl _
/-- the step: r is the least of D v + (0 or 1) over the vertices v of T = S without a -/
theorem pt_M_step {g : Nat → Nat} {S T a r : Nat} {D : Nat → Nat} (ha : S.testBit a = true) (hT : ∀ x, T.testBit x = (S.testBit x && decide (x ≠ a))) (hD : ∀ v, T.testBit v = true → pt_M g T v (D v))
    (h1 : ∃ v, T.testBit v = true ∧ r = D v + if (g v).testBit a then 0 else 1) (h2 : ∀ v, T.testBit v = true → r ≤ D v + if (g v).testBit a then 0 else 1) : pt_M g S a r := by
  constructor
  · obtain ⟨v, hv, rfl⟩ := h1
    obtain ⟨⟨l, hl, e⟩, _⟩ := hD v hv
    exact ⟨v :: l, (pt_S_cons ha hT _).mpr hl, by rw [pt_b_2, e]⟩
  · intro l hl
    have hl := (pt_S_cons ha hT l).mp hl
    cases l with
    | nil =>
      obtain ⟨v, hv, _⟩ := h1
      exact absurd ((hl.2 v).mp hv) (by simp)
    | cons v l =>
      have hv := (hl.2 v).mpr (List.mem_cons_self ..)
      have := (hD v hv).2 l hl
      have := h2 v hv
      rw [pt_b_2]
      omega
/-- r is the least number of breaks over all arrangements of n vertices -/
def pt_A (g : Nat → Nat) (n r : Nat) : Prop := (∃ l : List Nat, l.Perm (pm_l (fun k => k) 0 n) ∧ r = pt_b g l) ∧ ∀ l : List Nat, l.Perm (pm_l (fun k => k) 0 n) → r ≤ pt_b g l
theorem pt_A_uniq {g : Nat → Nat} {n r s : Nat} (h : pt_A g n r) (h' : pt_A g n s) : r = s := by
  obtain ⟨⟨l, hl, e⟩, h2⟩ := h
  obtain ⟨⟨m, hm, e'⟩, h2'⟩ := h'
  have := h2 m hm
  have := h2' l hl
  omega
theorem pt_range {n x : Nat} : x ∈ pm_l (fun k => k) 0 n ↔ x < n := by
  rw [pm_l_mem]
  constructor
  · rintro ⟨q, _, h, rfl⟩
    omega
  · intro h
    exact ⟨x, by omega, by omega, rfl⟩
theorem pt_range_nd (n : Nat) : (pm_l (fun k => k) 0 n).Nodup := by
  have key : ∀ m i, (pm_l (fun k => k) i m).Nodup := by
    intro m
    induction m with
    | zero => intro i; exact List.nodup_nil
    | succ m ih =>
      intro i
      rw [pm_l_s, List.nodup_cons]
      refine ⟨fun h => ?_, ih (i + 1)⟩
      obtain ⟨q, h1, _, e⟩ := pm_l_mem.mp h
      omega
  exact key n 0
theorem pt_S_perm {n : Nat} {l : List Nat} : pt_S (2 ^ n - 1) l ↔ l.Perm (pm_l (fun k => k) 0 n) := by
  have hb : ∀ x, (2 ^ n - 1).testBit x = true ↔ x ∈ pm_l (fun k => k) 0 n := by
    intro x
    rw [Nat.testBit_two_pow_sub_one, decide_eq_true_eq, pt_range]
  constructor
  · rintro ⟨h1, h2⟩
    exact (List.perm_ext_iff_of_nodup h1 (pt_range_nd n)).mpr (fun x => (h2 x).symm.trans (hb x))
  · intro h
    exact ⟨h.symm.nodup (pt_range_nd n), fun x => (hb x).trans h.mem_iff.symm⟩
/-- from the least over the last vertex to the least over all -/
theorem pt_A_of {g : Nat → Nat} {n r : Nat} {D : Nat → Nat} (h0 : 0 < n) (hD : ∀ v, v < n → pt_M g (2 ^ n - 1) v (D v)) (h1 : ∃ v, v < n ∧ r = D v) (h2 : ∀ v, v < n → r ≤ D v) : pt_A g n r := by
  constructor
  · obtain ⟨v, hv, rfl⟩ := h1
    obtain ⟨⟨l, hl, e⟩, _⟩ := hD v hv
    exact ⟨v :: l, pt_S_perm.mp hl, e⟩
  · intro l hl
    cases l with
    | nil =>
      have := hl.length_eq
      rw [pm_l_len] at this
      simp at this
      omega
    | cons v l =>
      have hv : v < n := pt_range.mp (hl.mem_iff.mp (List.mem_cons_self ..))
      have := (hD v hv).2 l (pt_S_perm.mpr hl)
      have := h2 v hv
      omega
/-- the other road: a walk over the arrangements by their places -/
def pt_V (g : Nat → Nat) (n t r : Nat) : Prop := (r = 8 ∨ ∃ l : List Nat, l.Perm (pm_l (fun k => k) 0 n) ∧ r = pt_b g l.reverse) ∧ r ≤ 8 ∧ ∀ l : List Nat, l.Perm (pm_l (fun k => k) 0 n) → pm_r l < t → r ≤ pt_b g l.reverse
theorem pt_V0 (g : Nat → Nat) (n : Nat) : pt_V g n 0 8 := ⟨Or.inl rfl, Nat.le_refl _, fun _ _ h => absurd h (by omega)⟩
theorem pt_Vs {g : Nat → Nat} {n t r s : Nat} {l : List Nat} (h : pt_V g n t r) (hl : l.Perm (pm_l (fun k => k) 0 n)) (ht : pm_r l = t) (hs : s = if pt_b g l.reverse < r then pt_b g l.reverse else r) : pt_V g n (t + 1) s := by
  obtain ⟨h1, h2, h3⟩ := h
  have hle : s ≤ r ∧ s ≤ pt_b g l.reverse := by
    rw [hs]
    split <;> omega
  refine ⟨?_, by omega, fun m hm hlt => ?_⟩
  · by_cases c : pt_b g l.reverse < r
    · rw [if_pos c] at hs
      exact Or.inr ⟨l, hl, hs⟩
    · rw [if_neg c] at hs
      rw [hs]
      exact h1
  · rcases Nat.lt_or_ge (pm_r m) t with c | c
    · have := h3 m hm c
      omega
    · have e : m = l := pm_inj m l (hm.trans hl.symm) (by omega)
      rw [e]
      exact hle.2
theorem pt_V_A {g : Nat → Nat} {n t r : Nat} (h0 : 0 < n) (hn : n ≤ 8) (h : pt_V g n t r) (ht : pm_f n ≤ t) : pt_A g n r := by
  obtain ⟨h1, h2, h3⟩ := h
  have hall : ∀ l, l.Perm (pm_l (fun k => k) 0 n) → r ≤ pt_b g l := by
    intro l hl
    have hr := (List.reverse_perm l).trans hl
    have hlt : pm_r l.reverse < t := by
      have := pm_r_lt l.reverse
      rw [hr.length_eq, pm_l_len] at this
      omega
    have := h3 l.reverse hr hlt
    rwa [List.reverse_reverse] at this
  refine ⟨?_, hall⟩
  rcases h1 with e | ⟨l, hl, e⟩
  · have hp := List.Perm.refl (pm_l (fun k => k) 0 n)
    refine ⟨_, hp, ?_⟩
    have a1 := hall _ hp
    have a2 := pt_b_le g (pm_l (fun k => k) 0 n)
    rw [pm_l_len] at a2
    omega
  · exact ⟨l.reverse, (List.reverse_perm l).trans hl, e⟩
/-- the count along an array -/
theorem pt_walk (g o : Nat → Nat) (k : Nat) : pt_b g (pm_l o 0 (k + 2)).reverse = pt_b g (pm_l o 0 (k + 1)).reverse + if (g (o k)).testBit (o (k + 1)) then 0 else 1 := by
  rw [pm_l_snoc o (k + 1) 0, pm_l_snoc o k 0, List.reverse_append, List.reverse_append, Nat.zero_add, Nat.zero_add]
  exact pt_b_2 ..
theorem pt_walk1 (g o : Nat → Nat) : pt_b g (pm_l o 0 1).reverse = 1 := rfl
end
section
/-! numbers as sets of vertices (behind kit/rows/BITS: the family bt, b_ext .. b_sshr, and nx_and, nx_xor; kit/rows/PURE-ROWS: pk_shrN, pk_sub) -/
theorem bs_bt (n : Nat) {i : Nat} (hi : i < 32) : bt (nI n) i = n.testBit i := by
  unfold bt
  show (BitVec.ofNat 32 n).getLsbD i = _
  rw [BitVec.getLsbD_ofNat]
  simp [hi]
/-- a without b -/
def bs_d (a b : Nat) : Nat := a ^^^ (a &&& b)
theorem bs_d_t (a b i : Nat) : (bs_d a b).testBit i = (a.testBit i && !b.testBit i) := by
  unfold bs_d
  rw [Nat.testBit_xor, Nat.testBit_and]
  cases a.testBit i <;> cases b.testBit i <;> rfl
theorem bs_or (a b : Nat) : nI a ||| nI b = nI (a ||| b) := b_ext fun i hi => by
  rw [b_or, bs_bt a hi, bs_bt b hi, bs_bt _ hi, Nat.testBit_or]
theorem bs_diff (a b : Nat) : nI a &&& (nI b ^^^ (-1)) = nI (bs_d a b) := b_ext fun i hi => by
  rw [b_and, b_xor, b_m1 i hi, bs_bt a hi, bs_bt b hi, bs_bt _ hi, bs_d_t]
  cases a.testBit i <;> cases b.testBit i <;> rfl
theorem bs_1 : ∀ l, l < 31 → (1 : Int32) <<< (nI l &&& 31) = nI (2 ^ l) := by decide +kernel
theorem bs_all {n : Nat} (h : n < 31) : (1 : Int32) <<< (nI n &&& 31) - 1 = nI (2 ^ n - 1) := by
  rw [bs_1 n h]
  exact pk_sub Nat.one_le_two_pow
theorem bs_has {m i : Nat} (hm : m < 2 ^ 31) (hi : i < 32) : (nI m >>> (nI i &&& 31)) &&& 1 = if m.testBit i = true then 1 else 0 := by
  rw [pk_shrN hm _ i (s_l i hi)]
  show nI _ &&& nI 1 = _
  rw [nx_and, Nat.and_one_is_mod, Nat.testBit_eq_decide_div_mod_eq]
  generalize m / 2 ^ i = z
  have : z % 2 = 0 ∨ z % 2 = 1 := by omega
  rcases this with e | e <;> rw [e] <;> decide
theorem bs_has1 {m i : Nat} (hm : m < 2 ^ 31) (hi : i < 32) : (nI m >>> (nI i &&& 31)) &&& 1 = 1 ↔ m.testBit i = true := by
  rw [bs_has hm hi]
  by_cases h : m.testBit i = true
  · rw [if_pos h]; exact ⟨fun _ => h, fun _ => rfl⟩
  · rw [if_neg h]; exact ⟨fun z => absurd z (by decide), fun z => absurd z h⟩
/-- a lies within b -/
def bs_s (a b : Nat) : Prop := ∀ i, a.testBit i = true → b.testBit i = true
theorem bs_d_0 {a b : Nat} : bs_d a b = 0 ↔ bs_s a b := by
  constructor
  · intro h i hi
    have := bs_d_t a b i
    rw [h, Nat.zero_testBit, hi] at this
    cases hb : b.testBit i
    · rw [hb] at this; exact absurd this (by decide)
    · rfl
  · intro h
    refine Nat.eq_of_testBit_eq (fun i => ?_)
    rw [bs_d_t, Nat.zero_testBit]
    cases ha : a.testBit i
    · rfl
    · rw [h i ha]; rfl
theorem bs_s_le {a b : Nat} (h : bs_s a b) : a ≤ b := by
  have e : a = a &&& b := by
    refine Nat.eq_of_testBit_eq (fun i => ?_)
    rw [Nat.testBit_and]
    cases ha : a.testBit i
    · rfl
    · rw [h i ha]; rfl
  rw [e]
  exact Nat.and_le_right
theorem bs_d_le (a b : Nat) : bs_d a b ≤ a := bs_s_le (fun i h => by rw [bs_d_t, Bool.and_eq_true] at h; exact h.1)
theorem bs_lt {m n i : Nat} (hm : m < 2 ^ n) (h : m.testBit i = true) : i < n := by
  rcases Nat.lt_or_ge i n with c | c
  · exact c
  · rw [Nat.testBit_lt_two_pow (Nat.lt_of_lt_of_le hm (Nat.pow_le_pow_right (by decide) c))] at h
    exact absurd h (by decide)
theorem bs_of_lt {m n : Nat} (h : ∀ i, m.testBit i = true → i < n) : m < 2 ^ n := by
  refine Nat.lt_pow_two_of_testBit m (fun i hi => ?_)
  cases c : m.testBit i
  · rfl
  · have := h i c
    omega
theorem bs_ne0 {m : Nat} (h : m ≠ 0) : ∃ i, m.testBit i = true := Nat.exists_testBit_of_ne_zero h
theorem bs_pow8 {n : Nat} (h : n ≤ 8) : 2 ^ n ≤ 256 := Nat.pow_le_pow_right (by decide) h
/-! how many there are below k -/
def bs_c (m : Nat) : Nat → Nat
  | 0 => 0
  | k + 1 => bs_c m k + if m.testBit k = true then 1 else 0
theorem bs_c_s (m k : Nat) : bs_c m (k + 1) = bs_c m k + if m.testBit k = true then 1 else 0 := rfl
theorem bs_c_le (m : Nat) : ∀ k, bs_c m k ≤ k
  | 0 => Nat.le_refl _
  | k + 1 => by
    have := bs_c_le m k
    rw [bs_c_s]
    split <;> omega
theorem bs_c_mono {a b : Nat} (h : bs_s a b) : ∀ k, bs_c a k ≤ bs_c b k
  | 0 => Nat.le_refl _
  | k + 1 => by
    have := bs_c_mono h k
    rw [bs_c_s, bs_c_s]
    by_cases c : a.testBit k = true
    · rw [if_pos c, if_pos (h k c)]; omega
    · rw [if_neg c]; omega
theorem bs_c_lt {a b i : Nat} (h : bs_s a b) (ha : ¬ a.testBit i = true) (hb : b.testBit i = true) : ∀ k, i < k → bs_c a k < bs_c b k
  | 0, z => absurd z (by omega)
  | k + 1, z => by
    have hm := bs_c_mono h k
    rw [bs_c_s, bs_c_s]
    rcases Nat.lt_or_ge i k with c | c
    · have := bs_c_lt h ha hb k c
      by_cases c : a.testBit k = true
      · rw [if_pos c, if_pos (h k c)]; omega
      · rw [if_neg c]; omega
    · have e : i = k := by omega
      subst e
      rw [if_neg ha, if_pos hb]
      omega
theorem bs_c_pos {m i : Nat} (h : m.testBit i = true) : ∀ k, i < k → 0 < bs_c m k := by
  intro k hk
  have := bs_c_lt (a := 0) (b := m) (i := i) (fun j hj => by rw [Nat.zero_testBit] at hj; exact absurd hj (by decide)) (by rw [Nat.zero_testBit]; decide) h k hk
  omega
/-! the numbers 1 .. k-1 gone through with an accumulator; numbers that P refuses change nothing -/
def bs_F {α : Type} (P : Nat → Bool) (f : Nat → α → α) (a : α) : Nat → α
  | 0 => a
  | k + 1 => if P k = true then f k (bs_F P f a k) else bs_F P f a k
theorem bs_F_s {α : Type} (P : Nat → Bool) (f : Nat → α → α) (a : α) (k : Nat) : bs_F P f a (k + 1) = if P k = true then f k (bs_F P f a k) else bs_F P f a k := rfl
theorem bs_F_cut {α : Type} {P : Nat → Bool} {f : Nat → α → α} {a : α} {m : Nat} (h : ∀ i, m ≤ i → P i = false) : ∀ d, bs_F P f a (m + d) = bs_F P f a m
  | 0 => rfl
  | d + 1 => by
    rw [show m + (d + 1) = m + d + 1 by omega, bs_F_s, h (m + d) (by omega), bs_F_cut h d]
    rfl
end
section
/-! components: what is reached from a vertex within a set, by steps; the first vertex of each component -/
/-- all neighbours of the vertices of m below k -/
def cm_N (g : Nat → Nat) (m : Nat) : Nat → Nat
  | 0 => 0
  | k + 1 => if m.testBit k = true then cm_N g m k ||| g k else cm_N g m k
theorem cm_N_s (g : Nat → Nat) (m k : Nat) : cm_N g m (k + 1) = if m.testBit k = true then cm_N g m k ||| g k else cm_N g m k := rfl
theorem cm_N_t (g : Nat → Nat) (m x : Nat) : ∀ k, (cm_N g m k).testBit x = true ↔ ∃ v, v < k ∧ m.testBit v = true ∧ (g v).testBit x = true
  | 0 => by
    show (0 : Nat).testBit x = true ↔ _
    rw [Nat.zero_testBit]
    exact ⟨fun z => absurd z (by decide), fun ⟨v, h, _⟩ => absurd h (by omega)⟩
  | k + 1 => by
    have ih := cm_N_t g m x k
    rw [cm_N_s]
    by_cases c : m.testBit k = true
    · rw [if_pos c, Nat.testBit_or, Bool.or_eq_true, ih]
      constructor
      · rintro (⟨v, h1, h2⟩ | h)
        · exact ⟨v, by omega, h2⟩
        · exact ⟨k, by omega, c, h⟩
      · rintro ⟨v, h1, h2, h3⟩
        rcases Nat.lt_or_ge v k with d | d
        · exact Or.inl ⟨v, d, h2, h3⟩
        · have e : v = k := by omega
          subst e
          exact Or.inr h3
    · rw [if_neg c, ih]
      constructor
      · rintro ⟨v, h1, h2⟩
        exact ⟨v, by omega, h2⟩
      · rintro ⟨v, h1, h2, h3⟩
        rcases Nat.lt_or_ge v k with d | d
        · exact ⟨v, d, h2, h3⟩
        · have e : v = k := by omega
          subst e
          exact absurd h2 c
/-- reached from v within s, in at most r steps -/
def cm_D (g : Nat → Nat) (n s v : Nat) : Nat → Nat
  | 0 => 2 ^ v
  | r + 1 => cm_D g n s v r ||| (cm_N g (cm_D g n s v r) n &&& s)
theorem cm_D_s (g : Nat → Nat) (n s v r : Nat) : cm_D g n s v (r + 1) = cm_D g n s v r ||| (cm_N g (cm_D g n s v r) n &&& s) := rfl
theorem cm_D_t (g : Nat → Nat) (n s v r x : Nat) : (cm_D g n s v (r + 1)).testBit x = true ↔ (cm_D g n s v r).testBit x = true ∨ (s.testBit x = true ∧ ∃ u, u < n ∧ (cm_D g n s v r).testBit u = true ∧ (g u).testBit x = true) := by
  rw [cm_D_s, Nat.testBit_or, Nat.testBit_and, Bool.or_eq_true, Bool.and_eq_true, cm_N_t]
  constructor
  · rintro (h | ⟨h1, h2⟩)
    · exact Or.inl h
    · exact Or.inr ⟨h2, h1⟩
  · rintro (h | ⟨h1, h2⟩)
    · exact Or.inl h
    · exact Or.inr ⟨h2, h1⟩
theorem cm_D_v (g : Nat → Nat) (n s v : Nat) : ∀ r, (cm_D g n s v r).testBit v = true
  | 0 => Nat.testBit_two_pow_self
  | r + 1 => (cm_D_t ..).mpr (Or.inl (cm_D_v g n s v r))
theorem cm_D_in {g : Nat → Nat} {n s v : Nat} (hv : s.testBit v = true) : ∀ r x, (cm_D g n s v r).testBit x = true → s.testBit x = true
  | 0, x, h => by
    have e : v = x := by
      rw [show cm_D g n s v 0 = 2 ^ v from rfl, Nat.testBit_two_pow] at h
      exact of_decide_eq_true h
    rw [← e]; exact hv
  | r + 1, x, h => by
    rcases (cm_D_t ..).mp h with h | ⟨h, _⟩
    · exact cm_D_in hv r x h
    · exact h
theorem cm_D_up (g : Nat → Nat) (n s v r : Nat) : bs_s (cm_D g n s v r) (cm_D g n s v (r + 1)) := fun x h => (cm_D_t ..).mpr (Or.inl h)
theorem cm_grow {g : Nat → Nat} {n s v : Nat} (hs : s < 2 ^ n) (hv : s.testBit v = true) : ∀ r, cm_D g n s v (r + 1) = cm_D g n s v r ∨ r + 2 ≤ bs_c (cm_D g n s v (r + 1)) n := by
  have strict : ∀ r, cm_D g n s v (r + 1) ≠ cm_D g n s v r → bs_c (cm_D g n s v r) n < bs_c (cm_D g n s v (r + 1)) n := by
    intro r hne
    have : ∃ i, (cm_D g n s v (r + 1)).testBit i = true ∧ ¬ (cm_D g n s v r).testBit i = true := by
      refine Classical.byContradiction (fun hno => hne ?_)
      refine Nat.eq_of_testBit_eq (fun i => ?_)
      cases h1 : (cm_D g n s v (r + 1)).testBit i
      · cases h2 : (cm_D g n s v r).testBit i
        · rfl
        · rw [cm_D_up g n s v r i h2] at h1
          exact absurd h1 (by decide)
      · cases h2 : (cm_D g n s v r).testBit i
        · exact absurd ⟨i, h1, by rw [h2]; decide⟩ hno
        · rfl
    obtain ⟨i, h1, h2⟩ := this
    exact bs_c_lt (cm_D_up g n s v r) h2 h1 n (bs_lt hs (cm_D_in hv _ _ h1))
  intro r
  induction r with
  | zero =>
    by_cases e : cm_D g n s v 1 = cm_D g n s v 0
    · exact Or.inl e
    · have h1 := strict 0 e
      have h2 := bs_c_pos (cm_D_v g n s v 0) n (bs_lt hs hv)
      exact Or.inr (by omega)
  | succ r ih =>
    by_cases e : cm_D g n s v (r + 1 + 1) = cm_D g n s v (r + 1)
    · exact Or.inl e
    · have h1 := strict (r + 1) e
      rcases ih with ih | ih
      · exfalso
        apply e
        rw [cm_D_s g n s v (r + 1), ih, ← cm_D_s, ih]
      · exact Or.inr (by omega)
/-- the component of v within s -/
def cm_C (g : Nat → Nat) (n s v : Nat) : Nat := cm_D g n s v n
theorem cm_C_closed {g : Nat → Nat} {n s v : Nat} (hs : s < 2 ^ n) (hv : s.testBit v = true) {u x : Nat} (hu : (cm_C g n s v).testBit u = true) (hx : s.testBit x = true) (he : (g u).testBit x = true) : (cm_C g n s v).testBit x = true := by
  have e : cm_D g n s v (n + 1) = cm_D g n s v n := by
    rcases cm_grow (g := g) hs hv n with e | e
    · exact e
    · have := bs_c_le (cm_D g n s v (n + 1)) n
      omega
  unfold cm_C at hu ⊢
  rw [← e, cm_D_t]
  exact Or.inr ⟨hx, u, bs_lt hs (cm_D_in hv _ _ hu), hu, he⟩
/-- it is the least closed one -/
theorem cm_least {g : Nat → Nat} {n s v w : Nat} (hs : s < 2 ^ n) (hw : s.testBit w = true) (h : (cm_C g n s w).testBit v = true) : ∀ r, bs_s (cm_D g n s v r) (cm_C g n s w)
  | 0, x, hx => by
    have e : v = x := by
      rw [show cm_D g n s v 0 = 2 ^ v from rfl, Nat.testBit_two_pow] at hx
      exact of_decide_eq_true hx
    rw [← e]; exact h
  | r + 1, x, hx => by
    rcases (cm_D_t ..).mp hx with hx | ⟨h1, u, h2, h3, h4⟩
    · exact cm_least hs hw h r x hx
    · exact cm_C_closed hs hw (cm_least hs hw h r u h3) h1 h4
/-- v is in s, and no smaller vertex of s has it in its component -/
def cm_1 (g : Nat → Nat) (n s v : Nat) : Prop := s.testBit v = true ∧ ∀ w, w < v → s.testBit w = true → ¬ (cm_C g n s w).testBit v = true
/-- what the search has seen before vertex v -/
def cm_seen (g : Nat → Nat) (n s v m : Nat) : Prop := ∀ x, m.testBit x = true ↔ ∃ w, w < v ∧ s.testBit w = true ∧ (cm_C g n s w).testBit x = true
theorem cm_seen0 (g : Nat → Nat) (n s : Nat) : cm_seen g n s 0 0 := fun x => by
  rw [Nat.zero_testBit]
  exact ⟨fun z => absurd z (by decide), fun ⟨w, h, _⟩ => absurd h (by omega)⟩
theorem cm_seen_new {g : Nat → Nat} {n s v m : Nat} (h : cm_seen g n s v m) (hv : s.testBit v = true) : cm_seen g n s (v + 1) (m ||| cm_C g n s v) := fun x => by
  rw [Nat.testBit_or, Bool.or_eq_true, h x]
  constructor
  · rintro (⟨w, h1, h2⟩ | h1)
    · exact ⟨w, by omega, h2⟩
    · exact ⟨v, by omega, hv, h1⟩
  · rintro ⟨w, h1, h2, h3⟩
    rcases Nat.lt_or_ge w v with c | c
    · exact Or.inl ⟨w, c, h2, h3⟩
    · have e : w = v := by omega
      subst e
      exact Or.inr h3
theorem cm_seen_old {g : Nat → Nat} {n s v m : Nat} (hs : s < 2 ^ n) (h : cm_seen g n s v m) (hv : s.testBit v = true → m.testBit v = true) : cm_seen g n s (v + 1) m := fun x => by
  rw [h x]
  constructor
  · rintro ⟨w, h1, h2⟩
    exact ⟨w, by omega, h2⟩
  · rintro ⟨w, h1, h2, h3⟩
    rcases Nat.lt_or_ge w v with c | c
    · exact ⟨w, c, h2, h3⟩
    · have e : w = v := by omega
      subst e
      obtain ⟨w', a1, a2, a3⟩ := (h w).mp (hv h2)
      exact ⟨w', a1, a2, cm_least hs a2 a3 n x h3⟩
theorem cm_1_iff {g : Nat → Nat} {n s v m : Nat} (h : cm_seen g n s v m) : cm_1 g n s v ↔ s.testBit v = true ∧ ¬ m.testBit v = true := by
  unfold cm_1
  rw [h v]
  constructor
  · rintro ⟨h1, h2⟩
    exact ⟨h1, fun ⟨w, a, b, c⟩ => h2 w a b c⟩
  · rintro ⟨h1, h2⟩
    exact ⟨h1, fun w a b c => h2 ⟨w, a, b, c⟩⟩
/-! labels -/
/-- what holds of the labels in the midst of a round: r rounds are through, and the couples below p -/
def cm_L (g : Nat → Nat) (n s r p : Nat) (f : Nat → Nat) : Prop :=
  (∀ u, s.testBit u = true → s.testBit (f u) = true ∧ f u ≤ u ∧ (cm_C g n s (f u)).testBit u = true) ∧
  (∀ w u, s.testBit w = true → (cm_D g n s w r).testBit u = true → f u ≤ w) ∧
  (∀ w u x, s.testBit w = true → s.testBit u = true → u * 8 + x < p → (cm_D g n s w r).testBit x = true → (g u).testBit x = true → f u ≤ w)
theorem cm_L0 {g : Nat → Nat} {n s : Nat} {f : Nat → Nat} (hf : ∀ u, s.testBit u = true → f u = u) : cm_L g n s 0 0 f := by
  refine ⟨fun u hu => ?_, fun w u hw h => ?_, fun w u x _ _ h => absurd h (by omega)⟩
  · rw [hf u hu]
    exact ⟨hu, Nat.le_refl _, cm_D_v ..⟩
  · have e : w = u := by
      rw [show cm_D g n s w 0 = 2 ^ w from rfl, Nat.testBit_two_pow] at h
      exact of_decide_eq_true h
    subst e
    rw [hf w hw]
    exact Nat.le_refl _
theorem cm_L_round {g : Nat → Nat} {n s r : Nat} {f : Nat → Nat} (hs : s < 2 ^ n) (hn : n ≤ 8) (hy : ∀ u x, u < n → x < n → (g u).testBit x = true → (g x).testBit u = true) (h : cm_L g n s r 64 f) : cm_L g n s (r + 1) 0 f := by
  obtain ⟨h1, h2, h3⟩ := h
  refine ⟨h1, fun w u hw hu => ?_, fun w u x _ _ h => absurd h (by omega)⟩
  rcases (cm_D_t ..).mp hu with hu | ⟨hu, x, hx, hd, he⟩
  · exact h2 w u hw hu
  · have hun := bs_lt hs hu
    exact h3 w u x hw hu (by omega) hd (hy x u hx hun he)
theorem cm_L_skip {g : Nat → Nat} {n s r p : Nat} {f : Nat → Nat} (h : cm_L g n s r p f) (hp : ∀ u x, p = u * 8 + x → x < 8 → s.testBit u = true → s.testBit x = true → (g u).testBit x = true → f u ≤ f x) (hb : ∀ u x, (g u).testBit x = true → x < 8) : cm_L g n s r (p + 1) f := by
  obtain ⟨h1, h2, h3⟩ := h
  refine ⟨h1, h2, fun w u x hw hu hlt hd he => ?_⟩
  rcases Nat.lt_or_ge (u * 8 + x) p with c | c
  · exact h3 w u x hw hu c hd he
  · exact Nat.le_trans (hp u x (by omega) (hb u x he) hu (cm_D_in hw _ _ hd) he) (h2 w x hw hd)
theorem cm_L_set {g : Nat → Nat} {n s r p a b : Nat} {f f' : Nat → Nat} (hs : s < 2 ^ n) (h : cm_L g n s r p f) (hp : p = a * 8 + b) (hb8 : b < 8) (ha : s.testBit a = true) (hb : s.testBit b = true) (hba : (g b).testBit a = true) (hlt : f b < f a) (e1 : f' a = f b) (e2 : ∀ u, u ≠ a → f' u = f u) (hg : ∀ u x, (g u).testBit x = true → x < 8) : cm_L g n s r (p + 1) f' := by
  obtain ⟨h1, h2, h3⟩ := h
  have hle : ∀ u, f' u ≤ f u := by
    intro u
    by_cases e : u = a
    · subst e; omega
    · rw [e2 u e]; exact Nat.le_refl _
  refine ⟨fun u hu => ?_, fun w u hw hd => Nat.le_trans (hle u) (h2 w u hw hd), fun w u x hw hu hc hd he => ?_⟩
  · by_cases e : u = a
    · subst e
      obtain ⟨a1, a2, a3⟩ := h1 b hb
      obtain ⟨_, b2, _⟩ := h1 u hu
      rw [e1]
      exact ⟨a1, by omega, cm_C_closed hs a1 a3 hu hba⟩
    · rw [e2 u e]
      exact h1 u hu
  · rcases Nat.lt_or_ge (u * 8 + x) p with c | c
    · exact Nat.le_trans (hle u) (h3 w u x hw hu c hd he)
    · have hx := hg u x he
      have eu : u = a := by omega
      have ex : x = b := by omega
      subst eu
      subst ex
      rw [e1]
      exact h2 w x hw hd
theorem cm_L_end {g : Nat → Nat} {n s : Nat} {f : Nat → Nat} (h : cm_L g n s n 0 f) {u : Nat} (hu : s.testBit u = true) : f u = u ↔ cm_1 g n s u := by
  obtain ⟨h1, h2, _⟩ := h
  obtain ⟨a1, a2, a3⟩ := h1 u hu
  constructor
  · intro e
    refine ⟨hu, fun w hw hsw hc => ?_⟩
    have := h2 w u hsw hc
    omega
  · rintro ⟨_, h⟩
    rcases Nat.lt_or_ge (f u) u with c | c
    · exact absurd a3 (h (f u) c a1)
    · omega
/-- how many first vertices there are below k -/
noncomputable def cm_K (g : Nat → Nat) (n s : Nat) : Nat → Nat
  | 0 => 0
  | k + 1 => cm_K g n s k + @ite _ (cm_1 g n s k) (Classical.propDecidable _) 1 0
theorem cm_K_t {g : Nat → Nat} {n s k : Nat} (h : cm_1 g n s k) : cm_K g n s (k + 1) = cm_K g n s k + 1 := by
  show cm_K g n s k + @ite _ (cm_1 g n s k) (Classical.propDecidable _) 1 0 = _
  rw [if_pos h]
theorem cm_K_f {g : Nat → Nat} {n s k : Nat} (h : ¬ cm_1 g n s k) : cm_K g n s (k + 1) = cm_K g n s k := by
  show cm_K g n s k + @ite _ (cm_1 g n s k) (Classical.propDecidable _) 1 0 = _
  rw [if_neg h]
  rfl
end
section
/-! four-paths in the order of their lists -/
def fp_P (g : Nat → Nat) (a b c d : Nat) : Prop := a < d ∧ (g a).testBit b = true ∧ (g b).testBit c = true ∧ (g c).testBit d = true ∧ ¬ (g a).testBit c = true ∧ ¬ (g a).testBit d = true ∧ ¬ (g b).testBit d = true
def fp_K (a b c d : Nat) : Nat := ((a * 8 + b) * 8 + c) * 8 + d
/-- none whose list stands before k -/
def fp_0 (g : Nat → Nat) (k : Nat) : Prop := ∀ a b c d, b < 8 → c < 8 → d < 8 → fp_K a b c d < k → ¬ fp_P g a b c d
theorem fp_00 (g : Nat → Nat) : fp_0 g 0 := fun _ _ _ _ _ _ _ h => absurd h (by omega)
theorem fp_to {g : Nat → Nat} {k m : Nat} (h : fp_0 g k) (hm : ∀ a b c d, b < 8 → c < 8 → d < 8 → k ≤ fp_K a b c d → fp_K a b c d < m → ¬ fp_P g a b c d) : fp_0 g m := by
  intro a b c d hb hc hd hk
  rcases Nat.lt_or_ge (fp_K a b c d) k with z | z
  · exact h a b c d hb hc hd z
  · exact hm a b c d hb hc hd z hk
/-- the four differ, where no vertex is joined to itself -/
theorem fp_ne {g : Nat → Nat} {a b c d : Nat} (hi : ∀ v, ¬ (g v).testBit v = true) (h : fp_P g a b c d) : a ≠ b ∧ a ≠ c ∧ a ≠ d ∧ b ≠ c ∧ b ≠ d ∧ c ≠ d := by
  obtain ⟨h0, h1, h2, h3, h4, h5, h6⟩ := h
  refine ⟨?_, ?_, ?_, ?_, ?_, ?_⟩
  · rintro rfl; exact hi _ h1
  · rintro rfl; exact h5 h3
  · omega
  · rintro rfl; exact hi _ h2
  · rintro rfl; exact h5 h1
  · rintro rfl; exact hi _ h3
/-- one list on -/
theorem fp_next {g : Nat → Nat} {a b c d : Nat} (hb : b < 8) (hc : c < 8) (hd : d < 8) (h : fp_0 g (fp_K a b c d)) (hp : ¬ fp_P g a b c d) : fp_0 g (fp_K a b c (d + 1)) := by
  refine fp_to h (fun a' b' c' d' h1 h2 h3 h4 h5 => ?_)
  unfold fp_K at h4 h5
  have e1 : d' = d := by omega
  have e2 : c' = c := by omega
  have e3 : b' = b := by omega
  have e4 : a' = a := by omega
  rw [e1, e2, e3, e4]
  exact hp
/-- the same by the list's number -/
theorem fp_code {g : Nat → Nat} {k : Nat} (h : fp_0 g k) (hp : ¬ fp_P g (k / 512) (k / 64 % 8) (k / 8 % 8) (k % 8)) : fp_0 g (k + 1) := by
  refine fp_to h (fun a b c d h1 h2 h3 h4 h5 => ?_)
  unfold fp_K at h4 h5
  have e1 : k % 8 = d := by omega
  have e2 : k / 8 % 8 = c := by omega
  have e3 : k / 64 % 8 = b := by omega
  have e4 : k / 512 = a := by omega
  rw [e1, e2, e3, e4] at hp
  exact hp
theorem fp_endD {g : Nat → Nat} {n : Nat} (hn : n ≤ 8) (hg : ∀ v x, (g v).testBit x = true → v < n ∧ x < n) {a b c : Nat} (ha : a < n) (hb : b < 8) (hc : c < 8) (h : fp_0 g (fp_K a b c n)) : fp_0 g (fp_K a b (c + 1) (a + 1)) := by
  refine fp_to h (fun a' b' c' d' h1 h2 h3 h4 h5 hp => ?_)
  obtain ⟨p0, p1, p2, p3, _⟩ := hp
  have q3 := hg _ _ p3
  unfold fp_K at h4 h5
  omega
theorem fp_endC {g : Nat → Nat} {n : Nat} (hn : n ≤ 8) (hg : ∀ v x, (g v).testBit x = true → v < n ∧ x < n) {a b : Nat} (ha : a < n) (hb : b < 8) (h : fp_0 g (fp_K a b n (a + 1))) : fp_0 g (fp_K a (b + 1) 0 (a + 1)) := by
  refine fp_to h (fun a' b' c' d' h1 h2 h3 h4 h5 hp => ?_)
  obtain ⟨p0, p1, p2, p3, _⟩ := hp
  have q2 := hg _ _ p2
  unfold fp_K at h4 h5
  have e4 : a' = a ∨ a' = a + 1 := by omega
  rcases e4 with e4 | e4
  · rw [e4] at h4 h5 p0
    have e3 : b' = b ∨ b' = b + 1 := by omega
    rcases e3 with e3 | e3
    · rw [e3] at h4 h5
      omega
    · rw [e3] at h4 h5
      omega
  · rw [e4] at h4 h5 p0
    omega
theorem fp_endB {g : Nat → Nat} {n : Nat} (hn : n ≤ 8) (hg : ∀ v x, (g v).testBit x = true → v < n ∧ x < n) {a : Nat} (ha : a < n) (h : fp_0 g (fp_K a n 0 (a + 1))) : fp_0 g (fp_K (a + 1) 0 0 (a + 2)) := by
  refine fp_to h (fun a' b' c' d' h1 h2 h3 h4 h5 hp => ?_)
  obtain ⟨p0, p1, p2, p3, _⟩ := hp
  have q1 := hg _ _ p1
  unfold fp_K at h4 h5
  omega
theorem fp_endA {g : Nat → Nat} {n : Nat} (hn : n ≤ 8) (hg : ∀ v x, (g v).testBit x = true → v < n ∧ x < n) (h : fp_0 g (fp_K n 0 0 (n + 1))) : fp_0 g 4096 := by
  refine fp_to h (fun a' b' c' d' h1 h2 h3 h4 h5 hp => ?_)
  obtain ⟨p0, p1, p2, p3, _⟩ := hp
  have q1 := hg _ _ p1
  unfold fp_K at h4 h5
  omega
theorem fp_beg {g : Nat → Nat} : fp_0 g (fp_K 0 0 0 1) := by
  intro a b c d h1 h2 h3 h4 hp
  obtain ⟨p0, _⟩ := hp
  unfold fp_K at h4
  omega
/-- the first is one alone -/
theorem fp_uniq {g : Nat → Nat} {a b c d a' b' c' d' : Nat} (hb : b < 8) (hc : c < 8) (hd : d < 8) (hb' : b' < 8) (hc' : c' < 8) (hd' : d' < 8) (h : fp_P g a b c d) (h0 : fp_0 g (fp_K a b c d)) (h' : fp_P g a' b' c' d') (h0' : fp_0 g (fp_K a' b' c' d')) : a = a' ∧ b = b' ∧ c = c' ∧ d = d' := by
  have e : fp_K a b c d = fp_K a' b' c' d' := by
    rcases Nat.lt_trichotomy (fp_K a b c d) (fp_K a' b' c' d') with z | z | z
    · exact absurd h (h0' a b c d hb hc hd z)
    · exact z
    · exact absurd h' (h0 a' b' c' d' hb' hc' hd' z)
  unfold fp_K at e
  omega
end
section
/-! the least number of colours: T q says that q may have one colour -/
/-- C is right at p: it is the least of 1 + C of what is left -/
def co_R (T : Nat → Prop) (C : Nat → Nat) (p : Nat) : Prop := (∃ q, q ≠ 0 ∧ bs_s q p ∧ T q ∧ C p = 1 + C (bs_d p q)) ∧ ∀ q, q ≠ 0 → bs_s q p → T q → C p ≤ 1 + C (bs_d p q)
theorem co_d_lt {p q : Nat} (h0 : q ≠ 0) (h : bs_s q p) : bs_d p q < p := by
  have h1 := bs_d_le p q
  rcases Nat.lt_or_ge (bs_d p q) p with c | c
  · exact c
  · exfalso
    obtain ⟨i, hi⟩ := bs_ne0 h0
    have e : bs_d p q = p := by omega
    have := bs_d_t p q i
    rw [e, hi, h i hi] at this
    exact absurd this (by decide)
theorem co_d_s (p q : Nat) : bs_s (bs_d p q) p := fun i h => by
  rw [bs_d_t, Bool.and_eq_true] at h
  exact h.1
theorem co_s_tr {a b c : Nat} (h : bs_s a b) (h' : bs_s b c) : bs_s a c := fun i hi => h' i (h i hi)
theorem co_uniq {T : Nat → Prop} {C D : Nat → Nat} {s : Nat} (c0 : C 0 = 0) (d0 : D 0 = 0) (hC : ∀ p, p ≠ 0 → bs_s p s → co_R T C p) (hD : ∀ p, p ≠ 0 → bs_s p s → co_R T D p) : ∀ k p, p < k → bs_s p s → C p = D p := by
  intro k
  induction k with
  | zero => intro p h; exact absurd h (by omega)
  | succ k ih =>
    intro p hk hs
    by_cases h0 : p = 0
    · rw [h0, c0, d0]
    · obtain ⟨⟨q, q1, q2, q3, q4⟩, qm⟩ := hC p h0 hs
      obtain ⟨⟨r, r1, r2, r3, r4⟩, rm⟩ := hD p h0 hs
      have a1 := qm r r1 r2 r3
      have a2 := rm q q1 q2 q3
      have b1 := ih (bs_d p r) (by have := co_d_lt r1 r2; omega) (co_s_tr (co_d_s p r) hs)
      have b2 := ih (bs_d p q) (by have := co_d_lt q1 q2; omega) (co_s_tr (co_d_s p q) hs)
      omega
/-- how far the search for p has come: colour classes below k; B is what it begins with -/
def co_I (T : Nat → Prop) (C : Nat → Nat) (B p k f : Nat) : Prop := (f = B ∨ ∃ q, q ≠ 0 ∧ q < k ∧ bs_s q p ∧ T q ∧ f = 1 + C (bs_d p q)) ∧ f ≤ B ∧ ∀ q, q ≠ 0 → q < k → bs_s q p → T q → f ≤ 1 + C (bs_d p q)
theorem co_I0 (T : Nat → Prop) (C : Nat → Nat) (B p : Nat) : co_I T C B p 1 B := ⟨Or.inl rfl, Nat.le_refl _, fun q h0 h1 => absurd h1 (by omega)⟩
theorem co_I_skip {T : Nat → Prop} {C : Nat → Nat} {B p k f : Nat} (h : co_I T C B p k f) (hk : bs_s k p → T k → f ≤ 1 + C (bs_d p k)) : co_I T C B p (k + 1) f := by
  obtain ⟨h1, h2, h3⟩ := h
  refine ⟨?_, h2, fun q q0 q1 q2 q3 => ?_⟩
  · rcases h1 with e | ⟨q, q0, q1, q2⟩
    · exact Or.inl e
    · exact Or.inr ⟨q, q0, by omega, q2⟩
  · rcases Nat.lt_or_ge q k with c | c
    · exact h3 q q0 c q2 q3
    · have e : q = k := by omega
      subst e
      exact hk q2 q3
theorem co_I_take {T : Nat → Prop} {C : Nat → Nat} {B p k f : Nat} (h : co_I T C B p k f) (h0 : k ≠ 0) (hs : bs_s k p) (hT : T k) (hf : 1 + C (bs_d p k) < f) : co_I T C B p (k + 1) (1 + C (bs_d p k)) := by
  obtain ⟨h1, h2, h3⟩ := h
  refine ⟨Or.inr ⟨k, h0, by omega, hs, hT, rfl⟩, by omega, fun q q0 q1 q2 q3 => ?_⟩
  rcases Nat.lt_or_ge q k with c | c
  · have := h3 q q0 c q2 q3
    omega
  · have e : q = k := by omega
    subst e
    exact Nat.le_refl _
/-- one vertex taken out counts one less -/
theorem co_single {p i : Nat} (h : p.testBit i = true) (hp : p < 2 ^ 8) : bs_s (2 ^ i) p ∧ 2 ^ i ≠ 0 ∧ bs_c (bs_d p (2 ^ i)) 8 + 1 ≤ bs_c p 8 := by
  have h1 : bs_s (2 ^ i) p := by
    intro j hj
    rw [Nat.testBit_two_pow] at hj
    have e : i = j := of_decide_eq_true hj
    rw [← e]; exact h
  refine ⟨h1, Nat.ne_of_gt (Nat.two_pow_pos i), ?_⟩
  refine bs_c_lt (co_d_s p (2 ^ i)) (i := i) ?_ h 8 (bs_lt hp h)
  rw [bs_d_t, Nat.testBit_two_pow_self, h]
  decide
/-- at its end the search has the least, if what is smaller has it -/
theorem co_I_end {T : Nat → Prop} {C : Nat → Nat} {B p f : Nat} (hB : 8 ≤ B) (hp : p < 2 ^ 8) (h0 : p ≠ 0) (hT : ∀ i, p.testBit i = true → T (2 ^ i)) (hC : ∀ q, bs_s q p → q ≠ p → C q ≤ bs_c q 8) (h : co_I T C B p (p + 1) f) :
    f ≤ bs_c p 8 ∧ (∃ q, q ≠ 0 ∧ bs_s q p ∧ T q ∧ f = 1 + C (bs_d p q)) ∧ ∀ q, q ≠ 0 → bs_s q p → T q → f ≤ 1 + C (bs_d p q) := by
  obtain ⟨h1, h2, h3⟩ := h
  have hall : ∀ q, q ≠ 0 → bs_s q p → T q → f ≤ 1 + C (bs_d p q) := fun q q0 q1 q2 => h3 q q0 (by have := bs_s_le q1; omega) q1 q2
  obtain ⟨i, hi⟩ := bs_ne0 h0
  obtain ⟨s1, s2, s3⟩ := co_single hi hp
  have a1 := hall _ s2 s1 (hT i hi)
  have a2 := hC (bs_d p (2 ^ i)) (co_d_s _ _) (by have := co_d_lt s2 s1; omega)
  have a3 := bs_c_le p 8
  refine ⟨by omega, ?_, hall⟩
  rcases h1 with e | ⟨q, q0, _, q2, q3, q4⟩
  · exact ⟨2 ^ i, s2, s1, hT i hi, by omega⟩
  · exact ⟨q, q0, q2, q3, q4⟩
end
section
/-! the component's own small methods, each with a general post -/
def gr_G (n : Nat) (g : Nat → Nat) : Prop := n ≤ 8 ∧ (∀ v x, (g v).testBit x = true → v < n ∧ x < n) ∧ (∀ v x, (g v).testBit x = true → (g x).testBit v = true) ∧ ∀ v, ¬ (g v).testBit v = true
theorem gr_lt {n : Nat} {g : Nat → Nat} (G : gr_G n g) (v : Nat) : g v < 2 ^ n := bs_of_lt (fun x h => (G.2.1 v x h).2)
theorem gr_256 {n : Nat} {g : Nat → Nat} (G : gr_G n g) (v : Nat) : g v < 256 := Nat.lt_of_lt_of_le (gr_lt G v) (bs_pow8 G.1)
theorem gr_out {n : Nat} {g : Nat → Nat} (G : gr_G n g) {v : Nat} (h : n ≤ v) : g v = 0 := by
  refine Nat.eq_of_testBit_eq (fun x => ?_)
  rw [Nat.zero_testBit]
  cases c : (g v).testBit x
  · rfl
  · have := (G.2.1 v x c).1
    omega
theorem wz_1 {A B : Prop} (b : B) : ((1 : Int32) = 0 → A) ∧ (¬ (1 : Int32) = 0 → B) := br_f (by decide) b
theorem wz_0 {A B : Prop} (a : A) : ((0 : Int32) = 0 → A) ∧ (¬ (0 : Int32) = 0 → B) := br_t rfl a
theorem wz_w {a b : Nat} (ha : a < 2 ^ 31) : nI a &&& (nI b ^^^ (-1)) = 0 ↔ bs_s a b := by
  rw [bs_diff, ← nI_0, nI_eq (Nat.lt_of_le_of_lt (bs_d_le a b) ha) (by decide), bs_d_0]
/-- one truth value in both forms -/
noncomputable def qq_P (Q : Nat → Prop) (i : Nat) : Bool := @decide (Q i) (Classical.propDecidable _)
theorem qq_t {Q : Nat → Prop} {i : Nat} (h : Q i) : qq_P Q i = true := @decide_eq_true _ (Classical.propDecidable _) h
theorem qq_f {Q : Nat → Prop} {i : Nat} (h : ¬ Q i) : qq_P Q i = false := @decide_eq_false _ (Classical.propDecidable _) h
theorem qq_Ft {Q : Nat → Prop} {f : Nat → Int32 → Int32} {a : Int32} {i : Nat} (h : Q i) : bs_F (qq_P Q) f a (i + 1) = f i (bs_F (qq_P Q) f a i) := by rw [bs_F_s, qq_t h, if_pos rfl]
theorem qq_Ff {Q : Nat → Prop} {f : Nat → Int32 → Int32} {a : Int32} {i : Nat} (h : ¬ Q i) : bs_F (qq_P Q) f a (i + 1) = bs_F (qq_P Q) f a i := by rw [bs_F_s, qq_f h, if_neg (by decide)]
/-- cliques, stable sets -/
def cl_K (g : Nat → Nat) (m : Nat) : Prop := ∀ u v, m.testBit u = true → m.testBit v = true → u ≠ v → (g u).testBit v = true
def st_T (g : Nat → Nat) (m : Nat) : Prop := ∀ u v, m.testBit u = true → m.testBit v = true → ¬ (g u).testBit v = true
/-- every vertex outside sees all of m or none -/
def mo_A (g : Nat → Nat) (n m : Nat) : Prop := ∀ v, v < n → ¬ m.testBit v = true → g v &&& m = 0 ∨ g v &&& m = m
section
variable {nw hw : Int32} {ar aw aq am ac ap : Nat → Int32} {n : Nat} {g : Nat → Nat}
theorem xw_whole (hn : n ≤ 8) {post : Int32 → Prop} (h : post (nI (2 ^ n - 1))) : wpX_wholeSet post (nw, nI n, hw, ar, aw, aq, am, ac, ap) := by
  show post (((1 : Int32) <<< (nI n &&& 31)) - 1)
  rw [bs_all (by omega)]
  exact h
theorem xw_contains {m i : Nat} (hm : m < 2 ^ 31) (hi : i < 32) {post : Int32 → Prop} (h1 : m.testBit i = true → post 1) (h0 : ¬ m.testBit i = true → post 0) : wpX_contains post (nI m) (nI i) :=
  br_c (fun z => h1 ((bs_has1 hm hi).mp z)) (fun z => h0 (fun y => z ((bs_has1 hm hi).mpr y)))
theorem xw_within {a b : Nat} (ha : a < 2 ^ 31) {post : Int32 → Prop} (h1 : bs_s a b → post 1) (h0 : ¬ bs_s a b → post 0) : wpX_isWithin post (nI a) (nI b) :=
  br_c (fun z => h1 ((wz_w ha).mp z)) (fun z => h0 (fun y => z ((wz_w ha).mpr y)))
theorem xw_isVt {a : Nat} (hn : n ≤ 8) (ha : a < n) {post : Int32 → Prop} (h : post 1) : wpX_isVertex post (nw, nI n, hw, ar, aw, aq, am, ac, ap) (nI a) :=
  br_f (nI_pos (by omega)) (br_f (nI_ge ha (by omega)) h)
theorem xw_isVf {p : Int32} (hp : p < 0 ∨ nI n ≤ p) {post : Int32 → Prop} (h : post 0) : wpX_isVertex post (nw, nI n, hw, ar, aw, aq, am, ac, ap) p := by
  refine br_c (fun _ => h) (fun z => ?_)
  rcases hp with hp | hp
  · exact absurd hp z
  · exact br_t hp h
theorem xw_isSt {m : Nat} (hn : n ≤ 8) (hm : m < 2 ^ n) {post : Int32 → Prop} (h : post 1) : wpX_isSet post (nw, nI n, hw, ar, aw, aq, am, ac, ap) (nI m) := by
  have h8 := bs_pow8 hn
  refine br_f (nI_pos (by omega)) (xw_whole hn ?_)
  exact br_f (nI_nlt (by omega) (by omega)) h
theorem xw_isSf {p : Int32} (hn : n ≤ 8) (hp : p < 0 ∨ nI (2 ^ n) ≤ p) {post : Int32 → Prop} (h : post 0) : wpX_isSet post (nw, nI n, hw, ar, aw, aq, am, ac, ap) p := by
  have h8 := bs_pow8 hn
  have h1 := Nat.one_le_two_pow (n := n)
  refine br_c (fun _ => h) (fun z => xw_whole hn ?_)
  rcases hp with hp | hp
  · exact absurd hp z
  · obtain ⟨j, hj, rfl⟩ := nI_of z
    rw [nI_leI (by omega) hj] at hp
    exact br_t (nI_lt (by omega) hj) h
theorem xw_joined (hn : n ≤ 8) (hX : ∀ v, v < n → ar v = nI (g v)) (hg : ∀ v, g v < 256) {a b : Nat} (ha : a < n) (hb : b < 32) {post : Int32 → Prop} (h1 : (g a).testBit b = true → post 1) (h0 : ¬ (g a).testBit b = true → post 0) : wpX_joined post (nw, nI n, hw, ar, aw, aq, am, ac, ap) (nI a) (nI b) := by
  refine And.intro (vp_in_nI (by omega) (by omega)) ?_
  rw [nI_clamp (by omega), hX a ha]
  exact xw_contains (by have := hg a; omega) hb (fun z => ⟨rfl, h1 z⟩) (fun z => ⟨rfl, h0 z⟩)
theorem xw_nb (hn : n ≤ 8) (hX : ∀ v, v < n → ar v = nI (g v)) {m : Nat} (hm : m < 2 ^ 31) {post : Int32 → Prop} (h : post (nI (cm_N g m n))) : wpX_neighboursOf post (nw, nI n, hw, ar, aw, aq, am, ac, ap) (nI m) := by
  have key : ∀ d i, i + d = n → wX_neighboursOf_4 post (nI m) nw (nI n) hw ar aw aq am ac ap (d + 1) (nI (cm_N g m i)) (nI i) := by
    intro d
    induction d with
    | zero =>
      intro i hi
      obtain rfl : i = n := by omega
      exact br_t (nI_le (Nat.le_refl _) (by omega)) h
    | succ d ih =>
      intro i hi
      refine br_f (nI_ge (by omega) (by omega)) (xw_contains hm (by omega) (fun c => ?_) (fun c => ?_))
      · refine wz_1 ⟨vp_in_nI (by omega) (by omega), nm_r (e' := nI (cm_N g m (i + 1))) ?_ (nm_r (nI_1 i) (ih (i + 1) (by omega)))⟩
        rw [nI_clamp (by omega), hX i (by omega), bs_or, cm_N_s, if_pos c]
      · refine wz_0 (nm_r (nI_1 i) ?_)
        have := ih (i + 1) (by omega)
        rw [cm_N_s, if_neg c] at this
        exact this
  exact Exists.intro (n + 1) (key n 0 (by omega))
theorem xw_count {m : Nat} (hm : m < 2 ^ 31) {post : Int32 → Prop} (h : post (nI (bs_c m 8))) : wpX_memberCount post (nI m) := by
  have key : ∀ d i, i + d = 8 → wX_memberCount_4 post (nI m) (d + 1) (nI (bs_c m i)) (nI i) := by
    intro d
    induction d with
    | zero =>
      intro i hi
      obtain rfl : i = 8 := by omega
      exact br_t (nI_le (a := 8) (b := 8) (Nat.le_refl _) (by decide)) h
    | succ d ih =>
      intro i hi
      refine br_f (nI_ge (b := 8) (by omega) (by decide)) (nm_r (e' := nI (bs_c m (i + 1))) ?_ (nm_r (nI_1 i) (ih (i + 1) (by omega))))
      rw [bs_has hm (by omega), bs_c_s]
      by_cases c : m.testBit i = true
      · rw [if_pos c, if_pos c, nI_1]
      · rw [if_neg c, if_neg c, Nat.add_zero, Int32.add_zero]
  exact Exists.intro (8 + 1) (key 8 0 (by omega))
theorem xw_clique (hn : n ≤ 8) (hX : ∀ v, v < n → ar v = nI (g v)) {m : Nat} (hm : m < 2 ^ n) {post : Int32 → Prop} (h1 : cl_K g m → post 1) (h0 : ¬ cl_K g m → post 0) : wpX_isClique post (nw, nI n, hw, ar, aw, aq, am, ac, ap) (nI m) := by
  have h8 := bs_pow8 hn
  have key : ∀ d i, i + d = n → (∀ u, u < i → m.testBit u = true → bs_s m (g u ||| 2 ^ u)) → wX_isClique_2 post (nI m) nw (nI n) hw ar aw aq am ac ap (d + 1) (nI i) := by
    intro d
    induction d with
    | zero =>
      intro i hi I
      obtain rfl : i = n := by omega
      refine br_t (nI_le (Nat.le_refl _) (by omega)) (h1 (fun u v hu hv hne => ?_))
      have := I u (bs_lt hm hu) hu v hv
      rw [Nat.testBit_or, Nat.testBit_two_pow, Bool.or_eq_true] at this
      rcases this with z | z
      · exact z
      · exact absurd (of_decide_eq_true z) hne
    | succ d ih =>
      intro i hi I
      refine br_f (nI_ge (by omega) (by omega)) (xw_contains (by omega) (by omega) (fun c => ?_) (fun c => ?_))
      · refine wz_1 ⟨vp_in_nI (by omega) (by omega), ?_⟩
        rw [nI_clamp (by omega), hX i (by omega), bs_1 i (by omega), bs_or]
        refine xw_within (by omega) (fun s => ?_) (fun s => ?_)
        · refine wz_1 (nm_r (nI_1 i) (ih (i + 1) (by omega) (fun u hu hmu => ?_)))
          rcases Nat.lt_or_ge u i with z | z
          · exact I u z hmu
          · obtain rfl : u = i := by omega
            exact s
        · refine wz_0 (h0 (fun K => s (fun v hv => ?_)))
          rw [Nat.testBit_or, Nat.testBit_two_pow, Bool.or_eq_true]
          by_cases e : i = v
          · exact Or.inr (decide_eq_true e)
          · exact Or.inl (K i v c hv e)
      · refine wz_0 (nm_r (nI_1 i) (ih (i + 1) (by omega) (fun u hu hmu => ?_)))
        rcases Nat.lt_or_ge u i with z | z
        · exact I u z hmu
        · obtain rfl : u = i := by omega
          exact absurd hmu c
  exact Exists.intro (n + 1) (key n 0 (by omega) (fun u hu => absurd hu (by omega)))
theorem st_N {m : Nat} (hm : m < 2 ^ n) : cm_N g m n &&& m = 0 ↔ st_T g m := by
  constructor
  · intro h u v hu hv he
    have : (cm_N g m n &&& m).testBit v = true := by
      rw [Nat.testBit_and, hv, Bool.and_true]
      exact (cm_N_t g m v n).mpr ⟨u, bs_lt hm hu, hu, he⟩
    rw [h, Nat.zero_testBit] at this
    exact absurd this (by decide)
  · intro h
    refine Nat.eq_of_testBit_eq (fun v => ?_)
    rw [Nat.zero_testBit, Nat.testBit_and]
    cases c : m.testBit v
    · rw [Bool.and_false]
    · rw [Bool.and_true]
      cases e : (cm_N g m n).testBit v
      · rfl
      · obtain ⟨u, _, hu, he⟩ := (cm_N_t g m v n).mp e
        exact absurd he (h u v hu c)
theorem xw_stable (hn : n ≤ 8) (hX : ∀ v, v < n → ar v = nI (g v)) {m : Nat} (hm : m < 2 ^ n) {post : Int32 → Prop} (h1 : st_T g m → post 1) (h0 : ¬ st_T g m → post 0) : wpX_isStable post (nw, nI n, hw, ar, aw, aq, am, ac, ap) (nI m) := by
  have h8 := bs_pow8 hn
  refine xw_nb hn hX (by omega) ?_
  have e : nI (cm_N g m n) &&& nI m = 0 ↔ st_T g m := by
    rw [nx_and, ← nI_0, nI_eq (Nat.lt_of_le_of_lt Nat.and_le_right (by omega)) (by decide), st_N hm]
  exact br_c (fun z => h1 (e.mp z)) (fun z => h0 (fun y => z (e.mpr y)))
/-- the sum of the weights -/
def ws_W (w : Nat → Int32) (m : Nat) : Nat → Int32
  | 0 => 0
  | k + 1 => if m.testBit k = true then ws_W w m k + w k else ws_W w m k
theorem ws_W_s (w : Nat → Int32) (m k : Nat) : ws_W w m (k + 1) = if m.testBit k = true then ws_W w m k + w k else ws_W w m k := rfl
theorem xw_weight (hn : n ≤ 8) {m : Nat} (hm : m < 2 ^ 31) {post : Int32 → Prop} (h : post (ws_W aw m n)) : wpX_weightOf post (nw, nI n, hw, ar, aw, aq, am, ac, ap) (nI m) := by
  have key : ∀ d i, i + d = n → wX_weightOf_4 post (nI m) nw (nI n) hw ar aw aq am ac ap (d + 1) (ws_W aw m i) (nI i) := by
    intro d
    induction d with
    | zero =>
      intro i hi
      obtain rfl : i = n := by omega
      exact br_t (nI_le (Nat.le_refl _) (by omega)) h
    | succ d ih =>
      intro i hi
      refine br_f (nI_ge (by omega) (by omega)) (xw_contains hm (by omega) (fun c => ?_) (fun c => ?_))
      · refine wz_1 ⟨vp_in_nI (by omega) (by omega), nm_r (e' := ws_W aw m (i + 1)) ?_ (nm_r (nI_1 i) (ih (i + 1) (by omega)))⟩
        rw [nI_clamp (by omega), ws_W_s, if_pos c]
      · refine wz_0 (nm_r (nI_1 i) ?_)
        have := ih (i + 1) (by omega)
        rw [ws_W_s, if_neg c] at this
        exact this
  exact Exists.intro (n + 1) (key n 0 (by omega))
theorem xw_alike (hn : n ≤ 8) (hX : ∀ v, v < n → ar v = nI (g v)) (hg : ∀ v, g v < 256) {m : Nat} (hm : m < 2 ^ n) {post : Int32 → Prop} (h1 : mo_A g n m → post 1) (h0 : ¬ mo_A g n m → post 0) : wpX_seenAlikeFromOutside post (nw, nI n, hw, ar, aw, aq, am, ac, ap) (nI m) := by
  have h8 := bs_pow8 hn
  have key : ∀ d i, i + d = n → (∀ v, v < i → ¬ m.testBit v = true → g v &&& m = 0 ∨ g v &&& m = m) → wX_seenAlikeFromOutside_2 post (nI m) nw (nI n) hw ar aw aq am ac ap (d + 1) (nI i) := by
    intro d
    induction d with
    | zero =>
      intro i hi I
      obtain rfl : i = n := by omega
      exact br_t (nI_le (Nat.le_refl _) (by omega)) (h1 I)
    | succ d ih =>
      intro i hi I
      have more : (¬ m.testBit i = true → g i &&& m = 0 ∨ g i &&& m = m) → wX_seenAlikeFromOutside_2 post (nI m) nw (nI n) hw ar aw aq am ac ap (d + 1) (nI (i + 1)) := by
        intro hi'
        refine ih (i + 1) (by omega) (fun v hv hmv => ?_)
        rcases Nat.lt_or_ge v i with z | z
        · exact I v z hmv
        · obtain rfl : v = i := by omega
          exact hi' hmv
      have hlt : g i &&& m < 2 ^ 31 := Nat.lt_of_le_of_lt Nat.and_le_right (by omega)
      refine br_f (nI_ge (by omega) (by omega)) ⟨vp_in_nI (by omega) (by omega), nm_r (e' := nI (g i &&& m)) (by rw [nI_clamp (by omega), hX i (by omega), nx_and]) ?_⟩
      refine xw_contains (by omega) (by omega) (fun c => ?_) (fun c => ?_)
      · exact wz_1 (nm_r (nI_1 i) (more (fun z => absurd c z)))
      · refine wz_0 (br_c (fun z => nm_r (nI_1 i) (more (fun _ => Or.inl ?_))) (fun z => br_c (fun y => nm_r (nI_1 i) (more (fun _ => Or.inr ?_))) (fun y => h0 (fun A => ?_))))
        · rw [← nI_0, nI_eq hlt (by decide)] at z
          exact z
        · rw [nI_eq hlt (by omega)] at y
          exact y
        · rcases A i (by omega) c with e | e
          · exact z (by rw [e]; rfl)
          · exact y (by rw [e])
  exact Exists.intro (n + 1) (key n 0 (by omega) (fun v hv => absurd hv (by omega)))
end
end
section
/-! the reference's small methods -/
section
variable {fr yw : Int32} {br bw bq bl bo bm be : Nat → Int32} {n : Nat} {g : Nat → Nat}
theorem yw_has {m i : Nat} (hm : m < 2 ^ 31) (hi : i < 32) {post : Int32 → Prop} (h1 : m.testBit i = true → post 1) (h0 : ¬ m.testBit i = true → post 0) : wpY_has post (fr, nI n, yw, br, bw, bq, bl, bo, bm, be) (nI m) (nI i) :=
  br_c (fun z => h1 ((bs_has1 hm hi).mp z)) (fun z => h0 (fun y => z ((bs_has1 hm hi).mpr y)))
theorem yw_within {a b : Nat} (ha : a < 2 ^ 31) {post : Int32 → Prop} (h1 : bs_s a b → post 1) (h0 : ¬ bs_s a b → post 0) : wpY_within post (fr, nI n, yw, br, bw, bq, bl, bo, bm, be) (nI a) (nI b) :=
  br_c (fun z => h1 ((wz_w ha).mp z)) (fun z => h0 (fun y => z ((wz_w ha).mpr y)))
theorem yw_isVt {a : Nat} (hn : n ≤ 8) (ha : a < n) {post : Int32 → Prop} (h : post 1) : wpY_isVertex post (fr, nI n, yw, br, bw, bq, bl, bo, bm, be) (nI a) :=
  br_f (nI_pos (by omega)) (br_f (nI_ge ha (by omega)) h)
theorem yw_isVf {p : Int32} (hp : p < 0 ∨ nI n ≤ p) {post : Int32 → Prop} (h : post 0) : wpY_isVertex post (fr, nI n, yw, br, bw, bq, bl, bo, bm, be) p := by
  refine br_c (fun _ => h) (fun z => ?_)
  rcases hp with hp | hp
  · exact absurd hp z
  · exact br_t hp h
theorem yw_isSt {m : Nat} (hn : n ≤ 8) (hm : m < 2 ^ n) {post : Int32 → Prop} (h : post 1) : wpY_isSet post (fr, nI n, yw, br, bw, bq, bl, bo, bm, be) (nI m) := by
  have h8 := bs_pow8 hn
  refine br_f (nI_pos (by omega)) ?_
  rw [bs_1 n (by omega)]
  exact br_f (nI_ge hm (by omega)) h
theorem yw_isSf {p : Int32} (hn : n ≤ 8) (hp : p < 0 ∨ nI (2 ^ n) ≤ p) {post : Int32 → Prop} (h : post 0) : wpY_isSet post (fr, nI n, yw, br, bw, bq, bl, bo, bm, be) p := by
  refine br_c (fun _ => h) (fun z => ?_)
  rw [bs_1 n (by omega)]
  rcases hp with hp | hp
  · exact absurd hp z
  · exact br_t hp h
theorem yw_linked (hY : ∀ v, v < 8 → br v = nI (g v)) (hg : ∀ v, g v < 256) {a b : Nat} (ha : a < 8) (hb : b < 32) {post : Int32 → Prop} (h1 : (g a).testBit b = true → post 1) (h0 : ¬ (g a).testBit b = true → post 0) : wpY_linked post (fr, nI n, yw, br, bw, bq, bl, bo, bm, be) (nI a) (nI b) := by
  refine And.intro (vp_in_nI (by omega) (by omega)) ?_
  rw [nI_clamp (by omega), hY a ha]
  exact yw_has (by have := hg a; omega) hb (fun z => ⟨rfl, h1 z⟩) (fun z => ⟨rfl, h0 z⟩)
theorem yw_size {m : Nat} (hm : m < 2 ^ 31) {post : Int32 → Prop} (h : post (nI (bs_c m 8))) : wpY_sizeOf post (fr, nI n, yw, br, bw, bq, bl, bo, bm, be) (nI m) := by
  have key : ∀ d i, i + d = 8 → wY_sizeOf_4 post (nI m) fr (nI n) yw br bw bq bl bo bm be (d + 1) (nI (bs_c m i)) (nI i) := by
    intro d
    induction d with
    | zero =>
      intro i hi
      obtain rfl : i = 8 := by omega
      exact br_t (nI_le (a := 8) (b := 8) (Nat.le_refl _) (by decide)) h
    | succ d ih =>
      intro i hi
      refine br_f (nI_ge (b := 8) (by omega) (by decide)) (yw_has hm (by omega) (fun c => ?_) (fun c => ?_))
      · refine wz_1 (nm_r (e' := nI (bs_c m (i + 1))) ?_ (nm_r (nI_1 i) (ih (i + 1) (by omega))))
        rw [nI_1, bs_c_s, if_pos c]
      · refine wz_0 (nm_r (nI_1 i) ?_)
        have := ih (i + 1) (by omega)
        rw [bs_c_s, if_neg c, Nat.add_zero] at this
        exact this
  exact Exists.intro (8 + 1) (key 8 0 (by omega))
/-- w is 1 (all joined) or 0 (none) -/
def un_B (w : Bool) : Int32 := if w = true then 1 else 0
def un_O (g : Nat → Nat) (m : Nat) (w : Bool) (u v : Nat) : Prop := m.testBit u = true → m.testBit v = true → u ≠ v → (g u).testBit v = w
theorem un_in (hn : n ≤ 8) (hY : ∀ v, v < 8 → br v = nI (g v)) (hg : ∀ v, g v < 256) {m : Nat} (hm : m < 256) (w : Bool) {post J : Int32 → Prop} {i : Nat} (hi : i < n) (hJ : (∀ v, v < n → un_O g m w i v) → J (nI (i + 1))) (h0 : (¬ ∀ v, v < n → un_O g m w i v) → post 0) :
    ∀ d j, j + d = n → (∀ v, v < j → un_O g m w i v) → wY_uniform_13 post J (nI m) (un_B w) (nI i) fr (nI n) yw br bw bq bl bo bm be (d + 1) (nI j) := by
  intro d
  induction d with
  | zero =>
    intro j hj I
    obtain rfl : j = n := by omega
    exact br_t (nI_le (Nat.le_refl _) (by omega)) (nm_r (nI_1 i) (hJ I))
  | succ d ih =>
    intro j hj I
    have more : un_O g m w i j → wY_uniform_13 post J (nI m) (un_B w) (nI i) fr (nI n) yw br bw bq bl bo bm be (d + 1) (nI (j + 1)) := by
      intro ho
      refine ih (j + 1) (by omega) (fun v hv => ?_)
      rcases Nat.lt_or_ge v j with z | z
      · exact I v z
      · obtain rfl : v = j := by omega
        exact ho
    refine br_f (nI_ge (by omega) (by omega)) (br_c (fun e => nm_r (nI_1 j) (more (fun _ _ hne => ?_))) (fun e => ?_))
    · rw [nI_eq (by omega) (by omega)] at e
      exact absurd e hne
    · have hne : i ≠ j := fun z => e (by rw [z])
      refine yw_has (by omega) (by omega) (fun c => wz_1 ?_) (fun c => wz_0 (nm_r (nI_1 j) (more (fun z => absurd z c))))
      refine yw_has (by omega) (by omega) (fun c' => wz_1 ?_) (fun c' => wz_0 (nm_r (nI_1 j) (more (fun _ z => absurd z c'))))
      refine yw_linked hY hg (by omega) (by omega) (fun l => ?_) (fun l => ?_)
      · cases w
        · exact br_f (by decide) (h0 (fun A => by have := A j (by omega) c c' hne; rw [l] at this; exact absurd this (by decide)))
        · exact br_t rfl (nm_r (nI_1 j) (more (fun _ _ _ => l)))
      · have l' : (g i).testBit j = false := by
          cases h : (g i).testBit j
          · rfl
          · exact absurd h l
        cases w
        · exact br_t rfl (nm_r (nI_1 j) (more (fun _ _ _ => l')))
        · exact br_f (by decide) (h0 (fun A => l (A j (by omega) c c' hne)))
theorem yw_uniform (hn : n ≤ 8) (hY : ∀ v, v < 8 → br v = nI (g v)) (hg : ∀ v, g v < 256) {m : Nat} (hm : m < 256) (h0m : m ≠ 0) (w : Bool) {post : Int32 → Prop} (h1 : (∀ u v, u < n → v < n → un_O g m w u v) → post 1) (h0 : (¬ ∀ u v, u < n → v < n → un_O g m w u v) → post 0) : wpY_uniform post (fr, nI n, yw, br, bw, bq, bl, bo, bm, be) (nI m) (un_B w) := by
  have key : ∀ d i, i + d = n → (∀ u v, u < i → v < n → un_O g m w u v) → wY_uniform_2 post (nI m) (un_B w) fr (nI n) yw br bw bq bl bo bm be (d + 1) (nI i) := by
    intro d
    induction d with
    | zero =>
      intro i hi I
      obtain rfl : i = n := by omega
      exact br_t (nI_le (Nat.le_refl _) (by omega)) (br_f (nI_ne0 (by omega) (by omega)) (h1 I))
    | succ d ih =>
      intro i hi I
      refine br_f (nI_ge (by omega) (by omega)) ⟨n + 1, un_in hn hY hg hm w (by omega) (fun A => ?_) (fun A => h0 (fun B => A (fun v hv => B i v (by omega) hv))) n 0 (by omega) (fun v hv => absurd hv (by omega))⟩
      refine ih (i + 1) (by omega) (fun u v hu hv => ?_)
      rcases Nat.lt_or_ge u i with z | z
      · exact I u v z hv
      · obtain rfl : u = i := by omega
        exact A v hv
  exact Exists.intro (n + 1) (key n 0 (by omega) (fun u v hu => absurd hu (by omega)))
/-- the two uses -/
theorem yw_clique (G : gr_G n g) (hY : ∀ v, v < 8 → br v = nI (g v)) {m : Nat} (hm : m < 2 ^ n) (h0m : m ≠ 0) {post : Int32 → Prop} (h1 : cl_K g m → post 1) (h0 : ¬ cl_K g m → post 0) : wpY_uniform post (fr, nI n, yw, br, bw, bq, bl, bo, bm, be) (nI m) 1 := by
  have h8 := bs_pow8 G.1
  refine yw_uniform G.1 hY (gr_256 G) (by omega) h0m true (fun A => h1 (fun u v hu hv hne => A u v (bs_lt hm hu) (bs_lt hm hv) hu hv hne)) (fun A => h0 (fun K => A (fun u v _ _ hu hv hne => K u v hu hv hne)))
theorem yw_stable (G : gr_G n g) (hY : ∀ v, v < 8 → br v = nI (g v)) {m : Nat} (hm : m < 2 ^ n) (h0m : m ≠ 0) {post : Int32 → Prop} (h1 : st_T g m → post 1) (h0 : ¬ st_T g m → post 0) : wpY_uniform post (fr, nI n, yw, br, bw, bq, bl, bo, bm, be) (nI m) 0 := by
  have h8 := bs_pow8 G.1
  refine yw_uniform G.1 hY (gr_256 G) (by omega) h0m false (fun A => h1 (fun u v hu hv he => ?_)) (fun A => h0 (fun K => A (fun u v _ _ hu hv _ => ?_)))
  · by_cases e : u = v
    · subst e
      exact G.2.2.2 u he
    · have := A u v (bs_lt hm hu) (bs_lt hm hv) hu hv e
      rw [he] at this
      exact absurd this (by decide)
  · cases h : (g u).testBit v
    · rfl
    · exact absurd h (K u v hu hv)
theorem yw_alike (G : gr_G n g) (hY : ∀ v, v < 8 → br v = nI (g v)) {m : Nat} (hm : m < 2 ^ n) {post : Int32 → Prop} (h1 : mo_A g n m → post 1) (h0 : ¬ mo_A g n m → post 0) : ∃ k, wY_isModule_16 post (nI m) fr (nI n) yw br bw bq bl bo bm be k 0 := by
  have hn := G.1
  have h8 := bs_pow8 hn
  have key : ∀ d i, i + d = n → (∀ v, v < i → ¬ m.testBit v = true → g v &&& m = 0 ∨ g v &&& m = m) → wY_isModule_16 post (nI m) fr (nI n) yw br bw bq bl bo bm be (d + 1) (nI i) := by
    intro d
    induction d with
    | zero =>
      intro i hi I
      obtain rfl : i = n := by omega
      exact br_t (nI_le (Nat.le_refl _) (by omega)) (h1 I)
    | succ d ih =>
      intro i hi I
      have more : (¬ m.testBit i = true → g i &&& m = 0 ∨ g i &&& m = m) → wY_isModule_16 post (nI m) fr (nI n) yw br bw bq bl bo bm be (d + 1) (nI (i + 1)) := by
        intro hi'
        refine ih (i + 1) (by omega) (fun v hv hmv => ?_)
        rcases Nat.lt_or_ge v i with z | z
        · exact I v z hmv
        · obtain rfl : v = i := by omega
          exact hi' hmv
      have hlt : g i &&& m < 2 ^ 31 := Nat.lt_of_le_of_lt Nat.and_le_right (by omega)
      refine br_f (nI_ge (by omega) (by omega)) ⟨vp_in_nI (by omega) (by omega), nm_r (e' := nI (g i &&& m)) (by rw [nI_clamp (by omega), hY i (by omega), nx_and]) ?_⟩
      refine yw_has (by omega) (by omega) (fun c => ?_) (fun c => ?_)
      · exact wz_1 (nm_r (nI_1 i) (more (fun z => absurd c z)))
      · refine wz_0 (br_c (fun z => nm_r (nI_1 i) (more (fun _ => Or.inl ?_))) (fun z => br_c (fun y => nm_r (nI_1 i) (more (fun _ => Or.inr ?_))) (fun y => h0 (fun A => ?_))))
        · rw [← nI_0, nI_eq hlt (by decide)] at z
          exact z
        · rw [nI_eq hlt (by omega)] at y
          exact y
        · rcases A i (by omega) c with e | e
          · exact z (by rw [e]; rfl)
          · exact y (by rw [e])
  exact ⟨n + 1, key n 0 (by omega) (fun v hv => absurd hv (by omega))⟩
theorem yw_module (G : gr_G n g) (hY : ∀ v, v < 8 → br v = nI (g v)) {m : Nat} (hm : m < 2 ^ 31) {post : Int32 → Prop} (h1 : m ≠ 0 ∧ m < 2 ^ n ∧ mo_A g n m → post 1) (h0 : ¬ (m ≠ 0 ∧ m < 2 ^ n ∧ mo_A g n m) → post 0) : wpY_isModule post (fr, nI n, yw, br, bw, bq, bl, bo, bm, be) (nI m) := by
  have h8 := bs_pow8 G.1
  unfold wpY_isModule
  dsimp only
  rcases Nat.lt_or_ge m (2 ^ n) with c | c
  · refine yw_isSt G.1 c ?_
    refine wz_1 (br_c (fun e => h0 (fun z => z.1 ?_)) (fun e => ?_))
    · rw [← nI_0, nI_eq hm (by decide)] at e
      exact e
    · have hne : m ≠ 0 := fun z => e (by rw [z]; rfl)
      exact yw_alike G hY c (fun A => h1 ⟨hne, c, A⟩) (fun A => h0 (fun z => A z.2.2))
  · refine yw_isSf G.1 (Or.inr (nI_le c hm)) ?_
    exact wz_0 (h0 (fun z => by omega))
end
end
section
/-! the methods that go through the parts of a set -/
section
variable {nw hw : Int32} {ar aw aq am ac ap : Nat → Int32} {fr yw : Int32} {br bw bq bl bo bm be : Nat → Int32} {n : Nat} {g : Nat → Nat}

theorem xq_cliques (hn : n ≤ 8) (hX : ∀ v, v < n → ar v = nI (g v)) {s : Nat} (hs : s < 2 ^ n) {post : Int32 → Prop} (h : post (bs_F (qq_P (fun i => i ≠ 0 ∧ bs_s i s ∧ cl_K g i)) (fun _ a => a + 1) 0 (s + 1))) : ∃ k, wX_cliques_14 post (nI s) nw (nI n) hw ar aw aq am ac ap k 0 1 := by
  have h8 := bs_pow8 hn
  have key : ∀ d i, 0 < i → i + d = s + 1 → wX_cliques_14 post (nI s) nw (nI n) hw ar aw aq am ac ap (d + 1) (bs_F (qq_P (fun i => i ≠ 0 ∧ bs_s i s ∧ cl_K g i)) (fun _ a => a + 1) 0 i) (nI i) := by
    intro d
    induction d with
    | zero =>
      intro i h0 hi
      obtain rfl : i = s + 1 := by omega
      exact br_t (nI_lt (by omega) (by omega)) h
    | succ d ih =>
      intro i h0 hi
      have skip : (¬ (i ≠ 0 ∧ bs_s i s ∧ cl_K g i)) → wX_cliques_14 post (nI s) nw (nI n) hw ar aw aq am ac ap (d + 1) (bs_F (qq_P (fun i => i ≠ 0 ∧ bs_s i s ∧ cl_K g i)) (fun _ a => a + 1) 0 i) (nI (i + 1)) := by
        intro z
        have := ih (i + 1) (by omega) (by omega)
        rw [qq_Ff (Q := fun i => i ≠ 0 ∧ bs_s i s ∧ cl_K g i) z] at this
        exact this
      refine br_f (nI_nlt (by omega) (by omega)) (xw_within (by omega) (fun c => wz_1 ?_) (fun c => wz_0 (nm_r (nI_1 i) (skip (fun z => c z.2.1)))))
      refine xw_clique hn hX (by omega) (fun K => wz_1 ?_) (fun K => wz_0 (nm_r (nI_1 i) (skip (fun z => K z.2.2))))
      exact nm_r (qq_Ft (Q := fun i => i ≠ 0 ∧ bs_s i s ∧ cl_K g i) (f := fun _ a => a + 1) ⟨by omega, c, K⟩).symm (nm_r (nI_1 i) (ih (i + 1) (by omega) (by omega)))
  have e : bs_F (qq_P (fun i => i ≠ 0 ∧ bs_s i s ∧ cl_K g i)) (fun _ a => a + 1) 0 1 = (0 : Int32) := qq_Ff (Q := fun i => i ≠ 0 ∧ bs_s i s ∧ cl_K g i) (i := 0) (fun z => z.1 rfl)
  have := key s 1 (by omega) (by omega)
  rw [e] at this
  exact ⟨s + 1, this⟩
theorem yq_cliques (G : gr_G n g) (hY : ∀ v, v < 8 → br v = nI (g v)) {s : Nat} (hs : s < 2 ^ n) {post : Int32 → Prop} (h : post (bs_F (qq_P (fun i => i ≠ 0 ∧ bs_s i s ∧ cl_K g i)) (fun _ a => a + 1) 0 (s + 1))) : wpY_countUniform post (fr, nI n, yw, br, bw, bq, bl, bo, bm, be) (nI s) 1 := by
  have h8 := bs_pow8 G.1
  have hc : bs_F (qq_P (fun i => i ≠ 0 ∧ bs_s i s ∧ cl_K g i)) (fun _ a => a + 1) 0 256 = bs_F (qq_P (fun i => i ≠ 0 ∧ bs_s i s ∧ cl_K g i)) (fun _ a => a + 1) (0 : Int32) (s + 1) := by
    have := bs_F_cut (P := qq_P (fun i => i ≠ 0 ∧ bs_s i s ∧ cl_K g i)) (f := fun _ a => a + 1) (a := (0 : Int32)) (m := s + 1) (fun i hi => qq_f (fun z => by have := bs_s_le z.2.1; omega)) (255 - s)
    rwa [show s + 1 + (255 - s) = 256 by omega] at this
  have key : ∀ d i, 0 < i → i + d = 256 → wY_countUniform_5 post (nI s) 1 fr (nI n) yw br bw bq bl bo bm be (d + 1) (bs_F (qq_P (fun i => i ≠ 0 ∧ bs_s i s ∧ cl_K g i)) (fun _ a => a + 1) 0 i) (nI i) := by
    intro d
    induction d with
    | zero =>
      intro i h0 hi
      obtain rfl : i = 256 := by omega
      refine br_t (nI_le (a := 256) (b := 256) (Nat.le_refl _) (by decide)) ?_
      rw [hc]
      exact h
    | succ d ih =>
      intro i h0 hi
      have skip : (¬ (i ≠ 0 ∧ bs_s i s ∧ cl_K g i)) → wY_countUniform_5 post (nI s) 1 fr (nI n) yw br bw bq bl bo bm be (d + 1) (bs_F (qq_P (fun i => i ≠ 0 ∧ bs_s i s ∧ cl_K g i)) (fun _ a => a + 1) 0 i) (nI (i + 1)) := by
        intro z
        have := ih (i + 1) (by omega) (by omega)
        rw [qq_Ff (Q := fun i => i ≠ 0 ∧ bs_s i s ∧ cl_K g i) z] at this
        exact this
      refine br_f (nI_ge (b := 256) (by omega) (by decide)) (yw_within (by omega) (fun c => wz_1 ?_) (fun c => wz_0 (nm_r (nI_1 i) (skip (fun z => c z.2.1)))))
      refine yw_clique G hY (Nat.lt_of_le_of_lt (bs_s_le c) hs) (by omega) (fun K => wz_1 ?_) (fun K => wz_0 (nm_r (nI_1 i) (skip (fun z => K z.2.2))))
      exact nm_r (qq_Ft (Q := fun i => i ≠ 0 ∧ bs_s i s ∧ cl_K g i) (f := fun _ a => a + 1) ⟨by omega, c, K⟩).symm (nm_r (nI_1 i) (ih (i + 1) (by omega) (by omega)))
  have e : bs_F (qq_P (fun i => i ≠ 0 ∧ bs_s i s ∧ cl_K g i)) (fun _ a => a + 1) 0 1 = (0 : Int32) := qq_Ff (Q := fun i => i ≠ 0 ∧ bs_s i s ∧ cl_K g i) (i := 0) (fun z => z.1 rfl)
  have := key 255 1 (by omega) (by omega)
  rw [e] at this
  exact Exists.intro (255 + 1) this

theorem xq_stables (hn : n ≤ 8) (hX : ∀ v, v < n → ar v = nI (g v)) {s : Nat} (hs : s < 2 ^ n) {post : Int32 → Prop} (h : post (bs_F (qq_P (fun i => i ≠ 0 ∧ bs_s i s ∧ st_T g i)) (fun _ a => a + 1) 0 (s + 1))) : ∃ k, wX_stableSets_14 post (nI s) nw (nI n) hw ar aw aq am ac ap k 0 1 := by
  have h8 := bs_pow8 hn
  have key : ∀ d i, 0 < i → i + d = s + 1 → wX_stableSets_14 post (nI s) nw (nI n) hw ar aw aq am ac ap (d + 1) (bs_F (qq_P (fun i => i ≠ 0 ∧ bs_s i s ∧ st_T g i)) (fun _ a => a + 1) 0 i) (nI i) := by
    intro d
    induction d with
    | zero =>
      intro i h0 hi
      obtain rfl : i = s + 1 := by omega
      exact br_t (nI_lt (by omega) (by omega)) h
    | succ d ih =>
      intro i h0 hi
      have skip : (¬ (i ≠ 0 ∧ bs_s i s ∧ st_T g i)) → wX_stableSets_14 post (nI s) nw (nI n) hw ar aw aq am ac ap (d + 1) (bs_F (qq_P (fun i => i ≠ 0 ∧ bs_s i s ∧ st_T g i)) (fun _ a => a + 1) 0 i) (nI (i + 1)) := by
        intro z
        have := ih (i + 1) (by omega) (by omega)
        rw [qq_Ff (Q := fun i => i ≠ 0 ∧ bs_s i s ∧ st_T g i) z] at this
        exact this
      refine br_f (nI_nlt (by omega) (by omega)) (xw_within (by omega) (fun c => wz_1 ?_) (fun c => wz_0 (nm_r (nI_1 i) (skip (fun z => c z.2.1)))))
      refine xw_stable hn hX (by omega) (fun K => wz_1 ?_) (fun K => wz_0 (nm_r (nI_1 i) (skip (fun z => K z.2.2))))
      exact nm_r (qq_Ft (Q := fun i => i ≠ 0 ∧ bs_s i s ∧ st_T g i) (f := fun _ a => a + 1) ⟨by omega, c, K⟩).symm (nm_r (nI_1 i) (ih (i + 1) (by omega) (by omega)))
  have e : bs_F (qq_P (fun i => i ≠ 0 ∧ bs_s i s ∧ st_T g i)) (fun _ a => a + 1) 0 1 = (0 : Int32) := qq_Ff (Q := fun i => i ≠ 0 ∧ bs_s i s ∧ st_T g i) (i := 0) (fun z => z.1 rfl)
  have := key s 1 (by omega) (by omega)
  rw [e] at this
  exact ⟨s + 1, this⟩
theorem yq_stables (G : gr_G n g) (hY : ∀ v, v < 8 → br v = nI (g v)) {s : Nat} (hs : s < 2 ^ n) {post : Int32 → Prop} (h : post (bs_F (qq_P (fun i => i ≠ 0 ∧ bs_s i s ∧ st_T g i)) (fun _ a => a + 1) 0 (s + 1))) : wpY_countUniform post (fr, nI n, yw, br, bw, bq, bl, bo, bm, be) (nI s) 0 := by
  have h8 := bs_pow8 G.1
  have hc : bs_F (qq_P (fun i => i ≠ 0 ∧ bs_s i s ∧ st_T g i)) (fun _ a => a + 1) 0 256 = bs_F (qq_P (fun i => i ≠ 0 ∧ bs_s i s ∧ st_T g i)) (fun _ a => a + 1) (0 : Int32) (s + 1) := by
    have := bs_F_cut (P := qq_P (fun i => i ≠ 0 ∧ bs_s i s ∧ st_T g i)) (f := fun _ a => a + 1) (a := (0 : Int32)) (m := s + 1) (fun i hi => qq_f (fun z => by have := bs_s_le z.2.1; omega)) (255 - s)
    rwa [show s + 1 + (255 - s) = 256 by omega] at this
  have key : ∀ d i, 0 < i → i + d = 256 → wY_countUniform_5 post (nI s) 0 fr (nI n) yw br bw bq bl bo bm be (d + 1) (bs_F (qq_P (fun i => i ≠ 0 ∧ bs_s i s ∧ st_T g i)) (fun _ a => a + 1) 0 i) (nI i) := by
    intro d
    induction d with
    | zero =>
      intro i h0 hi
      obtain rfl : i = 256 := by omega
      refine br_t (nI_le (a := 256) (b := 256) (Nat.le_refl _) (by decide)) ?_
      rw [hc]
      exact h
    | succ d ih =>
      intro i h0 hi
      have skip : (¬ (i ≠ 0 ∧ bs_s i s ∧ st_T g i)) → wY_countUniform_5 post (nI s) 0 fr (nI n) yw br bw bq bl bo bm be (d + 1) (bs_F (qq_P (fun i => i ≠ 0 ∧ bs_s i s ∧ st_T g i)) (fun _ a => a + 1) 0 i) (nI (i + 1)) := by
        intro z
        have := ih (i + 1) (by omega) (by omega)
        rw [qq_Ff (Q := fun i => i ≠ 0 ∧ bs_s i s ∧ st_T g i) z] at this
        exact this
      refine br_f (nI_ge (b := 256) (by omega) (by decide)) (yw_within (by omega) (fun c => wz_1 ?_) (fun c => wz_0 (nm_r (nI_1 i) (skip (fun z => c z.2.1)))))
      refine yw_stable G hY (Nat.lt_of_le_of_lt (bs_s_le c) hs) (by omega) (fun K => wz_1 ?_) (fun K => wz_0 (nm_r (nI_1 i) (skip (fun z => K z.2.2))))
      exact nm_r (qq_Ft (Q := fun i => i ≠ 0 ∧ bs_s i s ∧ st_T g i) (f := fun _ a => a + 1) ⟨by omega, c, K⟩).symm (nm_r (nI_1 i) (ih (i + 1) (by omega) (by omega)))
  have e : bs_F (qq_P (fun i => i ≠ 0 ∧ bs_s i s ∧ st_T g i)) (fun _ a => a + 1) 0 1 = (0 : Int32) := qq_Ff (Q := fun i => i ≠ 0 ∧ bs_s i s ∧ st_T g i) (i := 0) (fun z => z.1 rfl)
  have := key 255 1 (by omega) (by omega)
  rw [e] at this
  exact Exists.intro (255 + 1) this

theorem xq_number (hn : n ≤ 8) (hX : ∀ v, v < n → ar v = nI (g v)) {s : Nat} (hs : s < 2 ^ n) {post : Int32 → Prop} (h : post (bs_F (qq_P (fun i => i ≠ 0 ∧ bs_s i s ∧ cl_K g i)) (fun i a => if nI (bs_c i 8) ≤ a then a else nI (bs_c i 8)) 0 (s + 1))) : ∃ k, wX_cliqueNumber_14 post (nI s) nw (nI n) hw ar aw aq am ac ap k 0 1 := by
  have h8 := bs_pow8 hn
  have key : ∀ d i, 0 < i → i + d = s + 1 → wX_cliqueNumber_14 post (nI s) nw (nI n) hw ar aw aq am ac ap (d + 1) (bs_F (qq_P (fun i => i ≠ 0 ∧ bs_s i s ∧ cl_K g i)) (fun i a => if nI (bs_c i 8) ≤ a then a else nI (bs_c i 8)) 0 i) (nI i) := by
    intro d
    induction d with
    | zero =>
      intro i h0 hi
      obtain rfl : i = s + 1 := by omega
      exact br_t (nI_lt (by omega) (by omega)) h
    | succ d ih =>
      intro i h0 hi
      have next := ih (i + 1) (by omega) (by omega)
      have skip : (¬ (i ≠ 0 ∧ bs_s i s ∧ cl_K g i)) → wX_cliqueNumber_14 post (nI s) nw (nI n) hw ar aw aq am ac ap (d + 1) (bs_F (qq_P (fun i => i ≠ 0 ∧ bs_s i s ∧ cl_K g i)) (fun i a => if nI (bs_c i 8) ≤ a then a else nI (bs_c i 8)) 0 i) (nI (i + 1)) := by
        intro z
        rw [qq_Ff (Q := fun i => i ≠ 0 ∧ bs_s i s ∧ cl_K g i) z] at next
        exact next
      refine br_f (nI_nlt (by omega) (by omega)) (xw_within (by omega) (fun c => wz_1 ?_) (fun c => wz_0 (nm_r (nI_1 i) (skip (fun z => c z.2.1)))))
      refine xw_clique hn hX (by omega) (fun K => wz_1 ?_) (fun K => wz_0 (nm_r (nI_1 i) (skip (fun z => K z.2.2))))
      rw [qq_Ft (Q := fun i => i ≠ 0 ∧ bs_s i s ∧ cl_K g i) (f := fun i a => if nI (bs_c i 8) ≤ a then a else nI (bs_c i 8)) ⟨by omega, c, K⟩] at next
      refine xw_count (by omega) ?_
      refine br_c (fun z => nm_r (nI_1 i) ?_) (fun z => nm_r (nI_1 i) ?_)
      · rw [if_pos z] at next
        exact next
      · rw [if_neg z] at next
        exact next
  have e : bs_F (qq_P (fun i => i ≠ 0 ∧ bs_s i s ∧ cl_K g i)) (fun i a => if nI (bs_c i 8) ≤ a then a else nI (bs_c i 8)) 0 1 = (0 : Int32) := qq_Ff (Q := fun i => i ≠ 0 ∧ bs_s i s ∧ cl_K g i) (i := 0) (fun z => z.1 rfl)
  have := key s 1 (by omega) (by omega)
  rw [e] at this
  exact ⟨s + 1, this⟩
theorem yq_number (G : gr_G n g) (hY : ∀ v, v < 8 → br v = nI (g v)) {s : Nat} (hs : s < 2 ^ n) {post : Int32 → Prop} (h : post (bs_F (qq_P (fun i => i ≠ 0 ∧ bs_s i s ∧ cl_K g i)) (fun i a => if nI (bs_c i 8) ≤ a then a else nI (bs_c i 8)) 0 (s + 1))) : ∃ k, wY_cliqueNumber_14 post (nI s) fr (nI n) yw br bw bq bl bo bm be k 0 1 := by
  have h8 := bs_pow8 G.1
  have hc : bs_F (qq_P (fun i => i ≠ 0 ∧ bs_s i s ∧ cl_K g i)) (fun i a => if nI (bs_c i 8) ≤ a then a else nI (bs_c i 8)) 0 256 = bs_F (qq_P (fun i => i ≠ 0 ∧ bs_s i s ∧ cl_K g i)) (fun i a => if nI (bs_c i 8) ≤ a then a else nI (bs_c i 8)) (0 : Int32) (s + 1) := by
    have := bs_F_cut (P := qq_P (fun i => i ≠ 0 ∧ bs_s i s ∧ cl_K g i)) (f := fun i a => if nI (bs_c i 8) ≤ a then a else nI (bs_c i 8)) (a := (0 : Int32)) (m := s + 1) (fun i hi => qq_f (fun z => by have := bs_s_le z.2.1; omega)) (255 - s)
    rwa [show s + 1 + (255 - s) = 256 by omega] at this
  have key : ∀ d i, 0 < i → i + d = 256 → wY_cliqueNumber_14 post (nI s) fr (nI n) yw br bw bq bl bo bm be (d + 1) (bs_F (qq_P (fun i => i ≠ 0 ∧ bs_s i s ∧ cl_K g i)) (fun i a => if nI (bs_c i 8) ≤ a then a else nI (bs_c i 8)) 0 i) (nI i) := by
    intro d
    induction d with
    | zero =>
      intro i h0 hi
      obtain rfl : i = 256 := by omega
      refine br_t (nI_le (a := 256) (b := 256) (Nat.le_refl _) (by decide)) ?_
      rw [hc]
      exact h
    | succ d ih =>
      intro i h0 hi
      have next := ih (i + 1) (by omega) (by omega)
      have skip : (¬ (i ≠ 0 ∧ bs_s i s ∧ cl_K g i)) → wY_cliqueNumber_14 post (nI s) fr (nI n) yw br bw bq bl bo bm be (d + 1) (bs_F (qq_P (fun i => i ≠ 0 ∧ bs_s i s ∧ cl_K g i)) (fun i a => if nI (bs_c i 8) ≤ a then a else nI (bs_c i 8)) 0 i) (nI (i + 1)) := by
        intro z
        rw [qq_Ff (Q := fun i => i ≠ 0 ∧ bs_s i s ∧ cl_K g i) z] at next
        exact next
      refine br_f (nI_ge (b := 256) (by omega) (by decide)) (yw_within (by omega) (fun c => wz_1 ?_) (fun c => wz_0 (nm_r (nI_1 i) (skip (fun z => c z.2.1)))))
      refine yw_clique G hY (Nat.lt_of_le_of_lt (bs_s_le c) hs) (by omega) (fun K => wz_1 ?_) (fun K => wz_0 (nm_r (nI_1 i) (skip (fun z => K z.2.2))))
      rw [qq_Ft (Q := fun i => i ≠ 0 ∧ bs_s i s ∧ cl_K g i) (f := fun i a => if nI (bs_c i 8) ≤ a then a else nI (bs_c i 8)) ⟨by omega, c, K⟩] at next
      refine yw_size (by omega) ?_
      refine br_c (fun z => nm_r (nI_1 i) ?_) (fun z => nm_r (nI_1 i) ?_)
      · rw [if_pos z] at next
        exact next
      · rw [if_neg z] at next
        exact next
  have e : bs_F (qq_P (fun i => i ≠ 0 ∧ bs_s i s ∧ cl_K g i)) (fun i a => if nI (bs_c i 8) ≤ a then a else nI (bs_c i 8)) 0 1 = (0 : Int32) := qq_Ff (Q := fun i => i ≠ 0 ∧ bs_s i s ∧ cl_K g i) (i := 0) (fun z => z.1 rfl)
  have := key 255 1 (by omega) (by omega)
  rw [e] at this
  exact ⟨255 + 1, this⟩

/-- the reference's sum of weights, with what follows it -/
theorem yw_sum (hn : n ≤ 8) {m : Nat} (hm : m < 2 ^ 31) {post : Int32 → Prop} {J : Int32 → Int32 → Prop} {x1 best : Int32} (h : (ws_W bw m n ≤ best → ∀ x : Int32, x = nI m + 1 → J best x) ∧ (¬ ws_W bw m n ≤ best → ∀ x : Int32, x = nI m + 1 → J (ws_W bw m n) x)) : ∃ k, wY_heaviestStable_45 post J x1 best (nI m) fr (nI n) yw br bw bq bl bo bm be k 0 0 := by
  have key : ∀ d i, i + d = n → wY_heaviestStable_45 post J x1 best (nI m) fr (nI n) yw br bw bq bl bo bm be (d + 1) (ws_W bw m i) (nI i) := by
    intro d
    induction d with
    | zero =>
      intro i hi
      obtain rfl : i = n := by omega
      exact br_t (nI_le (Nat.le_refl _) (by omega)) h
    | succ d ih =>
      intro i hi
      refine br_f (nI_ge (by omega) (by omega)) (yw_has hm (by omega) (fun c => ?_) (fun c => ?_))
      · refine wz_1 ⟨vp_in_nI (by omega) (by omega), nm_r (e' := ws_W bw m (i + 1)) ?_ (nm_r (nI_1 i) (ih (i + 1) (by omega)))⟩
        rw [nI_clamp (by omega), ws_W_s, if_pos c]
      · refine wz_0 (nm_r (nI_1 i) ?_)
        have := ih (i + 1) (by omega)
        rw [ws_W_s, if_neg c] at this
        exact this
  exact ⟨n + 1, key n 0 (by omega)⟩

theorem xq_heavy (hn : n ≤ 8) (hX : ∀ v, v < n → ar v = nI (g v)) {s : Nat} (hs : s < 2 ^ n) {post : Int32 → Prop} (h : post (bs_F (qq_P (fun i => i ≠ 0 ∧ bs_s i s ∧ st_T g i)) (fun i a => if ws_W aw i n ≤ a then a else ws_W aw i n) 0 (s + 1))) : ∃ k, wX_heaviestStable_14 post (nI s) nw (nI n) hw ar aw aq am ac ap k 0 1 := by
  have h8 := bs_pow8 hn
  have key : ∀ d i, 0 < i → i + d = s + 1 → wX_heaviestStable_14 post (nI s) nw (nI n) hw ar aw aq am ac ap (d + 1) (bs_F (qq_P (fun i => i ≠ 0 ∧ bs_s i s ∧ st_T g i)) (fun i a => if ws_W aw i n ≤ a then a else ws_W aw i n) 0 i) (nI i) := by
    intro d
    induction d with
    | zero =>
      intro i h0 hi
      obtain rfl : i = s + 1 := by omega
      exact br_t (nI_lt (by omega) (by omega)) h
    | succ d ih =>
      intro i h0 hi
      have next := ih (i + 1) (by omega) (by omega)
      have skip : (¬ (i ≠ 0 ∧ bs_s i s ∧ st_T g i)) → wX_heaviestStable_14 post (nI s) nw (nI n) hw ar aw aq am ac ap (d + 1) (bs_F (qq_P (fun i => i ≠ 0 ∧ bs_s i s ∧ st_T g i)) (fun i a => if ws_W aw i n ≤ a then a else ws_W aw i n) 0 i) (nI (i + 1)) := by
        intro z
        rw [qq_Ff (Q := fun i => i ≠ 0 ∧ bs_s i s ∧ st_T g i) z] at next
        exact next
      refine br_f (nI_nlt (by omega) (by omega)) (xw_within (by omega) (fun c => wz_1 ?_) (fun c => wz_0 (nm_r (nI_1 i) (skip (fun z => c z.2.1)))))
      refine xw_stable hn hX (by omega) (fun K => wz_1 ?_) (fun K => wz_0 (nm_r (nI_1 i) (skip (fun z => K z.2.2))))
      rw [qq_Ft (Q := fun i => i ≠ 0 ∧ bs_s i s ∧ st_T g i) (f := fun i a => if ws_W aw i n ≤ a then a else ws_W aw i n) ⟨by omega, c, K⟩] at next
      refine xw_weight hn (by omega) ?_
      refine br_c (fun z => nm_r (nI_1 i) ?_) (fun z => nm_r (nI_1 i) ?_)
      · rw [if_pos z] at next
        exact next
      · rw [if_neg z] at next
        exact next
  have e : bs_F (qq_P (fun i => i ≠ 0 ∧ bs_s i s ∧ st_T g i)) (fun i a => if ws_W aw i n ≤ a then a else ws_W aw i n) 0 1 = (0 : Int32) := qq_Ff (Q := fun i => i ≠ 0 ∧ bs_s i s ∧ st_T g i) (i := 0) (fun z => z.1 rfl)
  have := key s 1 (by omega) (by omega)
  rw [e] at this
  exact ⟨s + 1, this⟩
theorem yq_heavy (G : gr_G n g) (hY : ∀ v, v < 8 → br v = nI (g v)) {s : Nat} (hs : s < 2 ^ n) {post : Int32 → Prop} (h : post (bs_F (qq_P (fun i => i ≠ 0 ∧ bs_s i s ∧ st_T g i)) (fun i a => if ws_W bw i n ≤ a then a else ws_W bw i n) 0 (s + 1))) : ∃ k, wY_heaviestStable_14 post (nI s) fr (nI n) yw br bw bq bl bo bm be k 0 1 := by
  have h8 := bs_pow8 G.1
  have hc : bs_F (qq_P (fun i => i ≠ 0 ∧ bs_s i s ∧ st_T g i)) (fun i a => if ws_W bw i n ≤ a then a else ws_W bw i n) 0 256 = bs_F (qq_P (fun i => i ≠ 0 ∧ bs_s i s ∧ st_T g i)) (fun i a => if ws_W bw i n ≤ a then a else ws_W bw i n) (0 : Int32) (s + 1) := by
    have := bs_F_cut (P := qq_P (fun i => i ≠ 0 ∧ bs_s i s ∧ st_T g i)) (f := fun i a => if ws_W bw i n ≤ a then a else ws_W bw i n) (a := (0 : Int32)) (m := s + 1) (fun i hi => qq_f (fun z => by have := bs_s_le z.2.1; omega)) (255 - s)
    rwa [show s + 1 + (255 - s) = 256 by omega] at this
  have key : ∀ d i, 0 < i → i + d = 256 → wY_heaviestStable_14 post (nI s) fr (nI n) yw br bw bq bl bo bm be (d + 1) (bs_F (qq_P (fun i => i ≠ 0 ∧ bs_s i s ∧ st_T g i)) (fun i a => if ws_W bw i n ≤ a then a else ws_W bw i n) 0 i) (nI i) := by
    intro d
    induction d with
    | zero =>
      intro i h0 hi
      obtain rfl : i = 256 := by omega
      refine br_t (nI_le (a := 256) (b := 256) (Nat.le_refl _) (by decide)) ?_
      rw [hc]
      exact h
    | succ d ih =>
      intro i h0 hi
      have next := ih (i + 1) (by omega) (by omega)
      have skip : (¬ (i ≠ 0 ∧ bs_s i s ∧ st_T g i)) → wY_heaviestStable_14 post (nI s) fr (nI n) yw br bw bq bl bo bm be (d + 1) (bs_F (qq_P (fun i => i ≠ 0 ∧ bs_s i s ∧ st_T g i)) (fun i a => if ws_W bw i n ≤ a then a else ws_W bw i n) 0 i) (nI (i + 1)) := by
        intro z
        rw [qq_Ff (Q := fun i => i ≠ 0 ∧ bs_s i s ∧ st_T g i) z] at next
        exact next
      refine br_f (nI_ge (b := 256) (by omega) (by decide)) (yw_within (by omega) (fun c => wz_1 ?_) (fun c => wz_0 (nm_r (nI_1 i) (skip (fun z => c z.2.1)))))
      refine yw_stable G hY (Nat.lt_of_le_of_lt (bs_s_le c) hs) (by omega) (fun K => wz_1 ?_) (fun K => wz_0 (nm_r (nI_1 i) (skip (fun z => K z.2.2))))
      rw [qq_Ft (Q := fun i => i ≠ 0 ∧ bs_s i s ∧ st_T g i) (f := fun i a => if ws_W bw i n ≤ a then a else ws_W bw i n) ⟨by omega, c, K⟩] at next
      refine yw_sum G.1 (by omega) ?_
      refine br_c (fun z => nm_r (nI_1 i) ?_) (fun z => nm_r (nI_1 i) ?_)
      · rw [if_pos z] at next
        exact next
      · rw [if_neg z] at next
        exact next
  have e : bs_F (qq_P (fun i => i ≠ 0 ∧ bs_s i s ∧ st_T g i)) (fun i a => if ws_W bw i n ≤ a then a else ws_W bw i n) 0 1 = (0 : Int32) := qq_Ff (Q := fun i => i ≠ 0 ∧ bs_s i s ∧ st_T g i) (i := 0) (fun z => z.1 rfl)
  have := key 255 1 (by omega) (by omega)
  rw [e] at this
  exact ⟨255 + 1, this⟩
end
end
section
/-! distance, in step; components; strong modules -/
section
variable {nw hw : Int32} {ar aw aq am ac ap : Nat → Int32} {fr yw : Int32} {br bw bq bl bo bm be : Nat → Int32} {n : Nat} {g : Nat → Nat}
theorem cm_N_lt (hg : ∀ v, g v < 2 ^ n) (m : Nat) : ∀ k, cm_N g m k < 2 ^ n
  | 0 => Nat.two_pow_pos n
  | k + 1 => by
    rw [cm_N_s]
    split
    · exact Nat.or_lt_two_pow (cm_N_lt hg m k) (hg k)
    · exact cm_N_lt hg m k
theorem yd_more (G : gr_G n g) (hY : ∀ v, v < 8 → br v = nI (g v)) {r : Nat} (hr : r < 2 ^ 31) {post : Int32 → Prop} {J : Int32 → Int32 → Prop} {x2 : Int32} {i : Nat} (h : J (nI (r ||| cm_N g r n)) (nI (i + 1))) : ∃ k, wY_distance_52 post J x2 (nI r) (nI i) fr (nI n) yw br bw bq bl bo bm be k (nI r) 0 := by
  have hn := G.1
  have key : ∀ d j, j + d = n → wY_distance_52 post J x2 (nI r) (nI i) fr (nI n) yw br bw bq bl bo bm be (d + 1) (nI (r ||| cm_N g r j)) (nI j) := by
    intro d
    induction d with
    | zero =>
      intro j hj
      obtain rfl : j = n := by omega
      exact br_t (nI_le (Nat.le_refl _) (by omega)) (nm_r (nI_1 i) h)
    | succ d ih =>
      intro j hj
      refine br_f (nI_ge (by omega) (by omega)) (yw_has hr (by omega) (fun c => ?_) (fun c => ?_))
      · refine wz_1 ⟨vp_in_nI (by omega) (by omega), nm_r (e' := nI (r ||| cm_N g r (j + 1))) ?_ (nm_r (nI_1 j) (ih (j + 1) (by omega)))⟩
        rw [nI_clamp (by omega), hY j (by omega), bs_or, cm_N_s, if_pos c, Nat.or_assoc]
      · refine wz_0 (nm_r (nI_1 j) ?_)
        have := ih (j + 1) (by omega)
        rw [cm_N_s, if_neg c] at this
        exact this
  have := key n 0 (by omega)
  rw [show cm_N g r 0 = 0 from rfl, Nat.or_zero] at this
  exact ⟨n + 1, this⟩
theorem xy_dist (G : gr_G n g) (hX : ∀ v, v < n → ar v = nI (g v)) (hY : ∀ v, v < 8 → br v = nI (g v)) {b : Nat} (hb : b < 8) : ∀ d i r, i + d = n → r < 2 ^ n → ∃ a : Int32, (∀ post : Int32 → Prop, post a → wX_distance_25 post (nI b) nw (nI n) hw ar aw aq am ac ap (d + 1) (nI r) (nI i)) ∧ (∀ post : Int32 → Prop, post a → wY_distance_25 post (nI b) fr (nI n) yw br bw bq bl bo bm be (d + 1) (nI r) (nI i)) := by
  have hn := G.1
  have h8 := bs_pow8 hn
  intro d
  induction d with
  | zero =>
    intro i r hi _
    obtain rfl : i = n := by omega
    exact ⟨-4, fun post h => br_t (nI_le (Nat.le_refl _) (by omega)) h, fun post h => br_t (nI_le (Nat.le_refl _) (by omega)) h⟩
  | succ d ih =>
    intro i r hi hr
    by_cases c : r.testBit b = true
    · refine ⟨nI i, fun post h => br_f (nI_ge (by omega) (by omega)) (xw_contains (by omega) (by omega) (fun _ => wz_1 h) (fun z => absurd c z)), fun post h => br_f (nI_ge (by omega) (by omega)) (yw_has (by omega) (by omega) (fun _ => wz_1 h) (fun z => absurd c z))⟩
    · obtain ⟨a, ax, ay⟩ := ih (i + 1) (r ||| cm_N g r n) (by omega) (Nat.or_lt_two_pow hr (cm_N_lt (gr_lt G) r n))
      refine ⟨a, fun post h => br_f (nI_ge (by omega) (by omega)) (xw_contains (by omega) (by omega) (fun z => absurd z c) (fun _ => wz_0 ?_)), fun post h => br_f (nI_ge (by omega) (by omega)) (yw_has (by omega) (by omega) (fun z => absurd z c) (fun _ => wz_0 ?_))⟩
      · exact xw_nb hn hX (by omega) (nm_r (bs_or r (cm_N g r n)) (nm_r (nI_1 i) (ax post h)))
      · exact yd_more G hY (by omega) (ay post h)
/-! components -/
theorem xw_comp (G : gr_G n g) (hX : ∀ v, v < n → ar v = nI (g v)) {s v : Nat} (hs : s < 2 ^ n) (hv : v < n) {post : Int32 → Prop} (h : post (nI (cm_C g n s v))) : wpX_componentOf post (nw, nI n, hw, ar, aw, aq, am, ac, ap) (nI v) (nI s) := by
  have hn := G.1
  have h8 := bs_pow8 hn
  have hD : ∀ r, cm_D g n s v r < 2 ^ n := by
    intro r
    induction r with
    | zero => exact Nat.pow_lt_pow_right (by decide) hv
    | succ r ih => exact Nat.or_lt_two_pow ih (Nat.lt_of_le_of_lt Nat.and_le_right hs)
  have key : ∀ d i, i + d = n → wX_componentOf_7 post (nI s) nw (nI n) hw ar aw aq am ac ap (d + 1) (nI (cm_D g n s v i)) (nI i) := by
    intro d
    induction d with
    | zero =>
      intro i hi
      obtain rfl : i = n := by omega
      exact br_t (nI_le (Nat.le_refl _) (by omega)) h
    | succ d ih =>
      intro i hi
      refine br_f (nI_ge (by omega) (by omega)) (xw_nb hn hX (by have := hD i; omega) (nm_r (e' := nI (cm_D g n s v (i + 1))) ?_ (nm_r (nI_1 i) (ih (i + 1) (by omega)))))
      rw [nx_and, bs_or, cm_D_s]
  refine nm_r (bs_1 v (by omega)) (Exists.intro (n + 1) (key n 0 (by omega)))
theorem xq_comp (G : gr_G n g) (hX : ∀ v, v < n → ar v = nI (g v)) {s : Nat} (hs : s < 2 ^ n) {post : Int32 → Prop} (h : post (nI (cm_K g n s n))) : ∃ k, wX_components_17 post (nI s) nw (nI n) hw ar aw aq am ac ap k 0 0 0 := by
  have hn := G.1
  have h8 := bs_pow8 hn
  have key : ∀ d i m, i + d = n → m < 2 ^ n → cm_seen g n s i m → wX_components_17 post (nI s) nw (nI n) hw ar aw aq am ac ap (d + 1) (nI (cm_K g n s i)) (nI m) (nI i) := by
    intro d
    induction d with
    | zero =>
      intro i m hi _ _
      obtain rfl : i = n := by omega
      exact br_t (nI_le (Nat.le_refl _) (by omega)) h
    | succ d ih =>
      intro i m hi hm hS
      refine br_f (nI_ge (by omega) (by omega)) (xw_contains (by omega) (by omega) (fun c => wz_1 ?_) (fun c => wz_0 (nm_r (nI_1 i) ?_)))
      · refine xw_contains (by omega) (by omega) (fun c' => wz_1 (nm_r (nI_1 i) ?_)) (fun c' => wz_0 ?_)
        · have := ih (i + 1) m (by omega) hm (cm_seen_old hs hS (fun _ => c'))
          rw [cm_K_f (fun z => ((cm_1_iff hS).mp z).2 c')] at this
          exact this
        · have hC : cm_C g n s i < 2 ^ n := bs_of_lt (fun x hx => bs_lt hs (cm_D_in c n x hx))
          have := ih (i + 1) (m ||| cm_C g n s i) (by omega) (Nat.or_lt_two_pow hm hC) (cm_seen_new hS c)
          rw [cm_K_t ((cm_1_iff hS).mpr ⟨c, c'⟩)] at this
          exact xw_comp G hX hs (by omega) (nm_r (bs_or _ _) (nm_r (nI_1 _) (nm_r (nI_1 i) this)))
      · have := ih (i + 1) m (by omega) hm (cm_seen_old hs hS (fun z => absurd z c))
        rw [cm_K_f (fun z => c z.1)] at this
        exact this
  exact ⟨n + 1, key n 0 0 (by omega) (Nat.two_pow_pos n) (cm_seen0 g n s)⟩
/-- the reference's count at the end -/
theorem yc_end (G : gr_G n g) {s : Nat} (hs : s < 2 ^ n) {f : Nat → Nat} (hf : ∀ u, s.testBit u = true → bl u = nI (f u)) (hL : cm_L g n s n 0 f) {post : Int32 → SY → Prop} (h : post (nI (cm_K g n s n)) (fr, nI n, yw, br, bw, bq, bl, bo, bm, be)) : ∃ k, wY_components_140 post (nI s) fr (nI n) yw br bw bq bl bo bm be k 0 0 := by
  have hn := G.1
  have h8 := bs_pow8 hn
  have key : ∀ d i, i + d = n → wY_components_140 post (nI s) fr (nI n) yw br bw bq bl bo bm be (d + 1) (nI (cm_K g n s i)) (nI i) := by
    intro d
    induction d with
    | zero =>
      intro i hi
      obtain rfl : i = n := by omega
      exact br_t (nI_le (Nat.le_refl _) (by omega)) h
    | succ d ih =>
      intro i hi
      have next := ih (i + 1) (by omega)
      refine br_f (nI_ge (by omega) (by omega)) (yw_has (by omega) (by omega) (fun c => wz_1 ⟨vp_in_nI (by omega) (by omega), ?_⟩) (fun c => wz_0 (nm_r (nI_1 i) ?_)))
      · have hfi : f i ≤ i := (hL.1 i c).2.1
        have e : bl (nI i).toNatClampNeg = nI i ↔ cm_1 g n s i := by
          rw [nI_clamp (by omega), hf i c, nI_eq (by omega) (by omega), cm_L_end hL c]
        refine br_c (fun z => ?_) (fun z => nm_r (nI_1 i) ?_)
        · rw [cm_K_t (e.mp z)] at next
          exact nm_r (nI_1 _) (nm_r (nI_1 i) next)
        · rw [cm_K_f (fun y => z (e.mpr y))] at next
          exact next
      · rw [cm_K_f (fun z => c z.1)] at next
        exact next
  exact ⟨n + 1, key n 0 (by omega)⟩
/-- one round over the couples -/
theorem yc_round (G : gr_G n g) (hY : ∀ v, v < 8 → br v = nI (g v)) {s r : Nat} (hs : s < 2 ^ n) {post : Int32 → SY → Prop} {J : Int32 → (Nat → Int32) → (Nat → Int32) → (Nat → Int32) → (Nat → Int32) → (Nat → Int32) → (Nat → Int32) → (Nat → Int32) → Prop}
    (hJ : ∀ (bl : Nat → Int32) (f : Nat → Nat), (∀ u, s.testBit u = true → bl u = nI (f u)) → cm_L g n s r 64 f → J (nI (r + 1)) br bw bq bl bo bm be) :
    ∀ d p (bl : Nat → Int32) (f : Nat → Nat), p + d = 64 → (∀ u, s.testBit u = true → bl u = nI (f u)) → cm_L g n s r p f → wY_components_45 post J (nI s) (nI r) fr (nI n) yw (d + 1) (nI p) br bw bq bl bo bm be := by
  have hn := G.1
  have h8 := bs_pow8 hn
  intro d
  induction d with
  | zero =>
    intro p bl f hp hf hL
    obtain rfl : p = 64 := by omega
    exact br_t (nI_le (a := 64) (b := 64) (Nat.le_refl _) (by decide)) (nm_r (nI_1 r) (hJ bl f hf hL))
  | succ d ih =>
    intro p bl f hp hf hL
    have hb : ∀ u x, (g u).testBit x = true → x < 8 := fun u x h => Nat.lt_of_lt_of_le (G.2.1 u x h).2 hn
    have hu : p / 8 < 8 := by omega
    have hx : p % 8 < 8 := by omega
    have skip : (s.testBit (p / 8) = true → s.testBit (p % 8) = true → (g (p / 8)).testBit (p % 8) = true → f (p / 8) ≤ f (p % 8)) → wY_components_45 post J (nI s) (nI r) fr (nI n) yw (d + 1) (nI (p + 1)) br bw bq bl bo bm be := by
      intro z
      refine ih (p + 1) bl f (by omega) hf (cm_L_skip hL (fun u x e h1 h2 h3 h4 => ?_) hb)
      have e1 : p / 8 = u := by omega
      have e2 : p % 8 = x := by omega
      rw [e1, e2] at z
      exact z h2 h3 h4
    refine br_f (nI_ge (b := 64) (by omega) (by decide)) (nm_r (e' := nI (p / 8)) ?_ (nm_r (e' := nI (p % 8)) ?_ ?_))
    · exact pk_shrN (by omega) _ 3 (by decide)
    · exact pk_andN (by omega) 3 (by decide)
    · refine yw_has (by omega) (by omega) (fun c1 => wz_1 ?_) (fun c1 => wz_0 (nm_r (nI_1 p) (skip (fun z => absurd z c1))))
      refine yw_has (by omega) (by omega) (fun c2 => wz_1 ?_) (fun c2 => wz_0 (nm_r (nI_1 p) (skip (fun _ z => absurd z c2))))
      refine yw_linked hY (gr_256 G) hu (by omega) (fun c3 => wz_1 ?_) (fun c3 => wz_0 (nm_r (nI_1 p) (skip (fun _ _ z => absurd z c3))))
      have b1 := (hL.1 _ c1).2.1
      have b2 := (hL.1 _ c2).2.1
      refine ⟨vp_in_nI hx (by decide), vp_in_nI hu (by decide), ?_⟩
      rw [nI_clamp (by omega), nI_clamp (by omega), hf _ c1, hf _ c2]
      refine br_c (fun z => nm_r (nI_1 p) (skip (fun _ _ _ => ?_))) (fun z => ⟨vp_in_nI hx (by decide), vp_in_nI hu (by decide), nm_e (nm_r (nI_1 p) ?_)⟩)
      · rw [nI_leI (by omega) (by omega)] at z
        exact z
      · rw [nI_leI (by omega) (by omega)] at z
        refine ih (p + 1) _ (fun u => if u = p / 8 then f (p % 8) else f u) (by omega) (fun u hu' => ?_) (cm_L_set (f' := fun u => if u = p / 8 then f (p % 8) else f u) hs hL (a := p / 8) (b := p % 8) (by omega) hx c1 c2 (G.2.2.1 _ _ c3) (by omega) (if_pos rfl) (fun u hne => if_neg hne) hb)
        dsimp only [upd]
        by_cases e : u = p / 8
        · rw [if_pos e, if_pos e]
        · rw [if_neg e, if_neg e]
          exact hf u hu'
theorem yq_comp (G : gr_G n g) (hY : ∀ v, v < 8 → br v = nI (g v)) {s : Nat} (hs : s < 2 ^ n) {post : Int32 → SY → Prop} (h : ∀ bl : Nat → Int32, post (nI (cm_K g n s n)) (fr, nI n, yw, br, bw, bq, bl, bo, bm, be)) : ∃ k, wY_components_12 post (nI s) fr (nI n) yw k 0 br bw bq bl bo bm be := by
  have hn := G.1
  have h8 := bs_pow8 hn
  have rounds : ∀ d r (bl : Nat → Int32) (f : Nat → Nat), r + d = n → (∀ u, s.testBit u = true → bl u = nI (f u)) → cm_L g n s r 0 f → wY_components_35 post (nI s) fr (nI n) yw (d + 1) (nI r) br bw bq bl bo bm be := by
    intro d
    induction d with
    | zero =>
      intro r bl f hr hf hL
      obtain rfl : r = n := by omega
      exact br_t (nI_le (Nat.le_refl _) (by omega)) (yc_end G hs hf hL (h bl))
    | succ d ih =>
      intro r bl f hr hf hL
      refine br_f (nI_ge (by omega) (by omega)) ⟨64 + 1, yc_round G hY hs (fun bl' f' hf' hL' => ?_) 64 0 bl f (by omega) hf hL⟩
      exact ih (r + 1) bl' f' (by omega) hf' (cm_L_round hs hn (fun u x _ _ he => G.2.2.1 u x he) hL')
  have key : ∀ d i (bl : Nat → Int32), i + d = n → (∀ u, u < i → bl u = nI u) → wY_components_12 post (nI s) fr (nI n) yw (d + 1) (nI i) br bw bq bl bo bm be := by
    intro d
    induction d with
    | zero =>
      intro i bl hi hb
      obtain rfl : i = n := by omega
      exact br_t (nI_le (Nat.le_refl _) (by omega)) ⟨i + 1, rounds i 0 bl (fun u => u) (by omega) (fun u hu => hb u (bs_lt hs hu)) (cm_L0 (fun u _ => rfl))⟩
    | succ d ih =>
      intro i bl hi hb
      refine br_f (nI_ge (by omega) (by omega)) ⟨vp_in_nI (by omega) (by omega), nm_e (nm_r (nI_1 i) (ih (i + 1) _ (by omega) (fun u hu => ?_)))⟩
      rw [nI_clamp (by omega)]
      dsimp only [upd]
      by_cases e : u = i
      · rw [if_pos e, e]
      · rw [if_neg e]
        exact hb u (by omega)
  exact ⟨n + 1, key n 0 bl (by omega) (fun u hu => absurd hu (by omega))⟩
end
end
section
/-! strong modules -/
theorem nb_1 : vp_nar .boolean 1 = 1 := by rfl
theorem nb_0 : vp_nar .boolean 0 = 0 := by rfl
def ov_O (q r : Nat) : Prop := q &&& r ≠ 0 ∧ ¬ bs_s q r ∧ ¬ bs_s r q
def mo_M (g : Nat → Nat) (n q : Nat) : Prop := q ≠ 0 ∧ q < 2 ^ n ∧ mo_A g n q
def mo_S (g : Nat → Nat) (n q : Nat) : Prop := mo_M g n q ∧ ∀ r, mo_M g n r → ¬ ov_O q r
theorem nz_and {q r : Nat} (hq : q < 2 ^ 31) : nI q &&& nI r = 0 ↔ q &&& r = 0 := by
  rw [nx_and, ← nI_0, nI_eq (Nat.lt_of_le_of_lt Nat.and_le_left hq) (by decide)]
section
variable {nw hw : Int32} {ar aw aq am ac ap : Nat → Int32} {fr yw : Int32} {br bw bq bl bo bm be : Nat → Int32} {n : Nat} {g : Nat → Nat}
theorem xw_overlap {q r : Nat} (hq : q < 2 ^ 31) (hr : r < 2 ^ 31) {post : Int32 → Prop} (h1 : ov_O q r → post 1) (h0 : ¬ ov_O q r → post 0) : wpX_overlap post (nI q) (nI r) := by
  refine br_c (fun z => h0 (fun o => o.1 ((nz_and hq).mp z))) (fun z => ?_)
  have hz : q &&& r ≠ 0 := fun e => z ((nz_and hq).mpr e)
  refine xw_within hq (fun c => wz_1 (h0 (fun o => o.2.1 c))) (fun c => wz_0 ?_)
  exact xw_within hr (fun c' => wz_1 (h0 (fun o => o.2.2 c'))) (fun c' => wz_0 (h1 ⟨hz, c, c'⟩))
theorem xw_noMod (hn : n ≤ 8) {q : Nat} (hq : q < 2 ^ n) (hM : ∀ r, 0 < r → r < 2 ^ n → (am r = 0 ↔ ¬ mo_A g n r)) {post : Int32 → Prop} (h1 : (∀ r, mo_M g n r → ¬ ov_O q r) → post 1) (h0 : (¬ ∀ r, mo_M g n r → ¬ ov_O q r) → post 0) : wpX_overlapsNoModule post (nw, nI n, hw, ar, aw, aq, am, ac, ap) (nI q) := by
  have h8 := bs_pow8 hn
  have hp := Nat.two_pow_pos n
  have key : ∀ d i, 0 < i → i + d = 2 ^ n → (∀ r, r < i → mo_M g n r → ¬ ov_O q r) → wX_overlapsNoModule_7 post (nI q) (nI (2 ^ n - 1)) nw (nI n) hw ar aw aq am ac ap (d + 1) (nI i) := by
    intro d
    induction d with
    | zero =>
      intro i h0' hi I
      exact br_t (nI_lt (by omega) (by omega)) (h1 (fun r hr => I r (by have := hr.2.1; omega) hr))
    | succ d ih =>
      intro i h0' hi I
      have more : (mo_M g n i → ¬ ov_O q i) → wX_overlapsNoModule_7 post (nI q) (nI (2 ^ n - 1)) nw (nI n) hw ar aw aq am ac ap (d + 1) (nI (i + 1)) := by
        intro z
        refine ih (i + 1) (by omega) (by omega) (fun r hr hM' => ?_)
        rcases Nat.lt_or_ge r i with y | y
        · exact I r y hM'
        · obtain rfl : r = i := by omega
          exact z hM'
      refine br_f (nI_nlt (by omega) (by omega)) ⟨vp_in_nI (by omega) (by omega), ?_⟩
      rw [nI_clamp (by omega)]
      have e := hM i h0' (by omega)
      refine br_c (fun z => nm_r (nI_1 i) (more (fun y => absurd y.2.2 (e.mp z)))) (fun z => ?_)
      have hA : mo_M g n i := ⟨by omega, by omega, Classical.byContradiction (fun y => z (e.mpr y))⟩
      exact xw_overlap (by omega) (by omega) (fun o => wz_1 (h0 (fun A => A i hA o))) (fun o => wz_0 (nm_r (nI_1 i) (more (fun _ => o))))
  unfold wpX_overlapsNoModule
  dsimp only
  refine xw_whole hn ?_
  exact Exists.intro (2 ^ n - 1 + 1) (key (2 ^ n - 1) 1 (by omega) (by omega) (fun r hr hm => absurd hm.1 (by omega)))
theorem xq_strong (G : gr_G n g) (hX : ∀ v, v < n → ar v = nI (g v)) {post : Int32 → SX → Prop} (h : ∀ am : Nat → Int32, post (bs_F (qq_P (mo_S g n)) (fun _ a => a + 1) 0 (2 ^ n)) (nw, nI n, hw, ar, aw, aq, am, ac, ap)) : wpX_strongModuleCount post (nw, nI n, hw, ar, aw, aq, am, ac, ap) := by
  have hn := G.1
  have h8 := bs_pow8 hn
  have hp := Nat.two_pow_pos n
  have e1 : bs_F (qq_P (mo_S g n)) (fun _ a => a + 1) 0 1 = (0 : Int32) := qq_Ff (Q := mo_S g n) (i := 0) (fun z => z.1.1 rfl)
  have count : ∀ am : Nat → Int32, (∀ r, 0 < r → r < 2 ^ n → (am r = 0 ↔ ¬ mo_A g n r)) → ∀ d i, 0 < i → i + d = 2 ^ n → wX_strongModuleCount_33 post (nI (2 ^ n - 1)) nw (nI n) hw ar aw aq am ac ap (d + 1) (bs_F (qq_P (mo_S g n)) (fun _ a => a + 1) 0 i) (nI i) := by
    intro am hM d
    induction d with
    | zero =>
      intro i h0 hi
      obtain rfl : i = 2 ^ n := by omega
      exact br_t (nI_lt (by omega) (by omega)) (h am)
    | succ d ih =>
      intro i h0 hi
      have next := ih (i + 1) (by omega) (by omega)
      have skip : ¬ mo_S g n i → wX_strongModuleCount_33 post (nI (2 ^ n - 1)) nw (nI n) hw ar aw aq am ac ap (d + 1) (bs_F (qq_P (mo_S g n)) (fun _ a => a + 1) 0 i) (nI (i + 1)) := by
        intro z
        rw [qq_Ff z] at next
        exact next
      refine br_f (nI_nlt (by omega) (by omega)) ⟨vp_in_nI (by omega) (by omega), ?_⟩
      rw [nI_clamp (by omega)]
      have e := hM i h0 (by omega)
      refine br_c (fun z => nm_r (nI_1 i) (skip (fun y => e.mp z y.1.2.2))) (fun z => ?_)
      have hA : mo_M g n i := ⟨by omega, by omega, Classical.byContradiction (fun y => z (e.mpr y))⟩
      refine xw_noMod hn (by omega) hM (fun A => wz_1 ?_) (fun A => wz_0 (nm_r (nI_1 i) (skip (fun y => A y.2))))
      exact nm_r (qq_Ft (Q := mo_S g n) (f := fun _ a => a + 1) ⟨hA, A⟩).symm (nm_r (nI_1 i) next)
  have marks : ∀ d i (am : Nat → Int32), 0 < i → i + d = 2 ^ n → (∀ r, 0 < r → r < i → (am r = 0 ↔ ¬ mo_A g n r)) → wX_strongModuleCount_7 post (nI (2 ^ n - 1)) nw (nI n) hw (d + 1) (nI i) ar aw aq am ac ap := by
    intro d
    induction d with
    | zero =>
      intro i am h0 hi hM
      obtain rfl : i = 2 ^ n := by omega
      have := count am hM (2 ^ n - 1) 1 (by omega) (by omega)
      rw [e1] at this
      exact br_t (nI_lt (by omega) (by omega)) ⟨_, this⟩
    | succ d ih =>
      intro i am h0 hi hM
      have more : ∀ x : Int32, (x = 0 ↔ ¬ mo_A g n i) → wX_strongModuleCount_7 post (nI (2 ^ n - 1)) nw (nI n) hw (d + 1) (nI (i + 1)) ar aw aq (upd am (nI i).toNatClampNeg x) ac ap := by
        intro x hx
        refine ih (i + 1) _ (by omega) (by omega) (fun r h1 h2 => ?_)
        rw [nI_clamp (by omega)]
        dsimp only [upd]
        by_cases y : r = i
        · rw [if_pos y, y]
          exact hx
        · rw [if_neg y]
          exact hM r h1 (by omega)
      refine br_f (nI_nlt (by omega) (by omega)) (xw_alike hn hX (gr_256 G) (by omega) (fun A => ?_) (fun A => ?_))
      · refine ⟨vp_in_nI (by omega) (by omega), nm_e (nm_r (nI_1 i) ?_)⟩
        rw [nb_1]
        exact more 1 ⟨fun z => absurd z (by decide), fun z => absurd A z⟩
      · refine ⟨vp_in_nI (by omega) (by omega), nm_e (nm_r (nI_1 i) ?_)⟩
        rw [nb_0]
        exact more 0 ⟨fun _ => A, fun _ => rfl⟩
  unfold wpX_strongModuleCount
  dsimp only
  refine xw_whole hn ?_
  exact Exists.intro (2 ^ n - 1 + 1) (marks (2 ^ n - 1) 1 am (by omega) (by omega) (fun r h1 h2 => absurd h1 (by omega)))
theorem yw_overOne {q : Nat} (hq : q < 256) (hM : ∀ r, r < 256 → (bm r = 0 ↔ ¬ mo_M g n r)) (hn : n ≤ 8) {post : Int32 → Prop} (h1 : (¬ ∀ r, mo_M g n r → ¬ ov_O q r) → post 1) (h0 : (∀ r, mo_M g n r → ¬ ov_O q r) → post 0) : wpY_overlapsOne post (fr, nI n, yw, br, bw, bq, bl, bo, bm, be) (nI q) := by
  have h8 := bs_pow8 hn
  have key : ∀ d i, 0 < i → i + d = 256 → (∀ r, r < i → mo_M g n r → ¬ ov_O q r) → wY_overlapsOne_2 post (nI q) fr (nI n) yw br bw bq bl bo bm be (d + 1) (nI i) := by
    intro d
    induction d with
    | zero =>
      intro i h0' hi I
      obtain rfl : i = 256 := by omega
      exact br_t (nI_le (a := 256) (b := 256) (Nat.le_refl _) (by decide)) (h0 (fun r hr => I r (by have := hr.2.1; omega) hr))
    | succ d ih =>
      intro i h0' hi I
      have more : (mo_M g n i → ¬ ov_O q i) → wY_overlapsOne_2 post (nI q) fr (nI n) yw br bw bq bl bo bm be (d + 1) (nI (i + 1)) := by
        intro z
        refine ih (i + 1) (by omega) (by omega) (fun r hr hM' => ?_)
        rcases Nat.lt_or_ge r i with y | y
        · exact I r y hM'
        · obtain rfl : r = i := by omega
          exact z hM'
      refine br_f (nI_ge (b := 256) (by omega) (by decide)) ⟨vp_in_nI (by omega) (by omega), ?_⟩
      rw [nI_clamp (by omega)]
      have e := hM i (by omega)
      refine br_c (fun z => nm_r (nI_1 i) (more (fun y => absurd y (e.mp z)))) (fun z => ?_)
      have hA : mo_M g n i := Classical.byContradiction (fun y => z (e.mpr y))
      refine br_c (fun y => nm_r (nI_1 i) (more (fun _ o => o.1 ((nz_and (by omega)).mp y)))) (fun y => ?_)
      have hz : q &&& i ≠ 0 := fun e => y ((nz_and (by omega)).mpr e)
      refine yw_within (by omega) (fun c => wz_1 (nm_r (nI_1 i) (more (fun _ o => o.2.1 c)))) (fun c => wz_0 ?_)
      exact yw_within (by omega) (fun c' => wz_1 (nm_r (nI_1 i) (more (fun _ o => o.2.2 c')))) (fun c' => wz_0 (h1 (fun A => A i hA ⟨hz, c, c'⟩)))
  exact Exists.intro (255 + 1) (key 255 1 (by omega) (by omega) (fun r hr hm => absurd hm.1 (by omega)))
theorem yq_strong (G : gr_G n g) (hY : ∀ v, v < 8 → br v = nI (g v)) {post : Int32 → SY → Prop} (h : ∀ bm : Nat → Int32, post (bs_F (qq_P (mo_S g n)) (fun _ a => a + 1) 0 (2 ^ n)) (fr, nI n, yw, br, bw, bq, bl, bo, bm, be)) : wpY_strongModules post (fr, nI n, yw, br, bw, bq, bl, bo, bm, be) := by
  have hn := G.1
  have h8 := bs_pow8 hn
  have hc : bs_F (qq_P (mo_S g n)) (fun _ a => a + 1) 0 256 = bs_F (qq_P (mo_S g n)) (fun _ a => a + 1) (0 : Int32) (2 ^ n) := by
    have := bs_F_cut (P := qq_P (mo_S g n)) (f := fun _ a => a + 1) (a := (0 : Int32)) (m := 2 ^ n) (fun i hi => qq_f (fun z => by have := z.1.2.1; omega)) (256 - 2 ^ n)
    rwa [show 2 ^ n + (256 - 2 ^ n) = 256 by omega] at this
  have count : ∀ bm : Nat → Int32, (∀ r, r < 256 → (bm r = 0 ↔ ¬ mo_M g n r)) → ∀ d i, i + d = 256 → wY_strongModules_30 post fr (nI n) yw br bw bq bl bo bm be (d + 1) (bs_F (qq_P (mo_S g n)) (fun _ a => a + 1) 0 i) (nI i) := by
    intro bm hM d
    induction d with
    | zero =>
      intro i hi
      obtain rfl : i = 256 := by omega
      refine br_t (nI_le (a := 256) (b := 256) (Nat.le_refl _) (by decide)) ?_
      rw [hc]
      exact h bm
    | succ d ih =>
      intro i hi
      have next := ih (i + 1) (by omega)
      have skip : ¬ mo_S g n i → wY_strongModules_30 post fr (nI n) yw br bw bq bl bo bm be (d + 1) (bs_F (qq_P (mo_S g n)) (fun _ a => a + 1) 0 i) (nI (i + 1)) := by
        intro z
        rw [qq_Ff z] at next
        exact next
      refine br_f (nI_ge (b := 256) (by omega) (by decide)) ⟨vp_in_nI (by omega) (by omega), ?_⟩
      rw [nI_clamp (by omega)]
      have e := hM i (by omega)
      refine br_c (fun z => nm_r (nI_1 i) (skip (fun y => e.mp z y.1))) (fun z => ?_)
      have hA : mo_M g n i := Classical.byContradiction (fun y => z (e.mpr y))
      refine yw_overOne (by omega) hM hn (fun A => wz_1 (nm_r (nI_1 i) (skip (fun y => A y.2)))) (fun A => wz_0 ?_)
      exact nm_r (qq_Ft (Q := mo_S g n) (f := fun _ a => a + 1) ⟨hA, A⟩).symm (nm_r (nI_1 i) next)
  have marks : ∀ d i (bm : Nat → Int32), i + d = 256 → (∀ r, r < i → (bm r = 0 ↔ ¬ mo_M g n r)) → wY_strongModules_2 post fr (nI n) yw (d + 1) (nI i) br bw bq bl bo bm be := by
    intro d
    induction d with
    | zero =>
      intro i bm hi hM
      obtain rfl : i = 256 := by omega
      exact br_t (nI_le (a := 256) (b := 256) (Nat.le_refl _) (by decide)) ⟨_, count bm hM 256 0 (by omega)⟩
    | succ d ih =>
      intro i bm hi hM
      have more : ∀ x : Int32, (x = 0 ↔ ¬ mo_M g n i) → wY_strongModules_2 post fr (nI n) yw (d + 1) (nI (i + 1)) br bw bq bl bo (upd bm (nI i).toNatClampNeg x) be := by
        intro x hx
        refine ih (i + 1) _ (by omega) (fun r h2 => ?_)
        rw [nI_clamp (by omega)]
        dsimp only [upd]
        by_cases y : r = i
        · rw [if_pos y, y]
          exact hx
        · rw [if_neg y]
          exact hM r (by omega)
      refine br_f (nI_ge (b := 256) (by omega) (by decide)) (yw_module G hY (by omega) (fun A => ?_) (fun A => ?_))
      · refine ⟨vp_in_nI (by omega) (by omega), nm_e (nm_r (nI_1 i) ?_)⟩
        rw [nb_1]
        exact more 1 ⟨fun z => absurd z (by decide), fun z => absurd A z⟩
      · refine ⟨vp_in_nI (by omega) (by omega), nm_e (nm_r (nI_1 i) ?_)⟩
        rw [nb_0]
        exact more 0 ⟨fun _ => A, fun _ => rfl⟩
  exact Exists.intro (256 + 1) (marks 256 0 bm (by omega) (fun r h2 => absurd h2 (by omega)))
end
end
section
/-! colours: both tables are right on the parts of s -/
def co_T (g : Nat → Nat) (s q : Nat) : Prop := bs_s q s ∧ st_T g q
def co_G (T : Nat → Prop) (s : Nat) (C : Nat → Nat) (i : Nat) : Prop := C 0 = 0 ∧ ∀ q, q ≠ 0 → q < i → bs_s q s → co_R T C q ∧ C q ≤ bs_c q 8
theorem co_G_skip {T : Nat → Prop} {s : Nat} {C : Nat → Nat} {p : Nat} (h : co_G T s C p) (hp : ¬ bs_s p s) : co_G T s C (p + 1) := by
  refine ⟨h.1, fun q h0 h1 h2 => ?_⟩
  rcases Nat.lt_or_ge q p with c | c
  · exact h.2 q h0 c h2
  · obtain rfl : q = p := by omega
    exact absurd h2 hp
theorem co_G_put {T : Nat → Prop} {s : Nat} {C : Nat → Nat} {p f : Nat} (h0 : p ≠ 0) (h : co_G T s C p) (hb : f ≤ bs_c p 8) (h1 : ∃ q, q ≠ 0 ∧ bs_s q p ∧ T q ∧ f = 1 + C (bs_d p q)) (h2 : ∀ q, q ≠ 0 → bs_s q p → T q → f ≤ 1 + C (bs_d p q)) : co_G T s (fun q => if q = p then f else C q) (p + 1) := by
  have low : ∀ q, q < p → (fun q => if q = p then f else C q) q = C q := fun q hq => if_neg (by omega)
  have atp : (fun q => if q = p then f else C q) p = f := if_pos rfl
  refine ⟨(low 0 (by omega)).trans h.1, fun q q0 q1 q2 => ?_⟩
  rcases Nat.lt_or_ge q p with c | c
  · obtain ⟨⟨⟨r, r0, r1, r2, r3⟩, rm⟩, hb'⟩ := h.2 q q0 c q2
    refine ⟨⟨⟨r, r0, r1, r2, ?_⟩, fun r r0 r1 r2 => ?_⟩, ?_⟩
    · rw [low q c, low (bs_d q r) (by have := bs_d_le q r; omega)]
      exact r3
    · rw [low q c, low (bs_d q r) (by have := bs_d_le q r; omega)]
      exact rm r r0 r1 r2
    · rw [low q c]
      exact hb'
  · obtain rfl : q = p := by omega
    refine ⟨⟨?_, fun r r0 r1 r2 => ?_⟩, ?_⟩
    · obtain ⟨r, r0, r1, r2, r3⟩ := h1
      refine ⟨r, r0, r1, r2, ?_⟩
      rw [atp, low (bs_d q r) (co_d_lt r0 r1)]
      exact r3
    · rw [atp, low (bs_d q r) (co_d_lt r0 r1)]
      exact h2 r r0 r1 r2
    · rw [atp]
      exact hb
/-- the search's end, put into the table -/
theorem co_G_end {g : Nat → Nat} {n s : Nat} {C : Nat → Nat} {B p f : Nat} (G : gr_G n g) (hB : 8 ≤ B) (hs : s < 2 ^ n) (h0 : p ≠ 0) (hps : bs_s p s) (h : co_G (co_T g s) s C p) (hI : co_I (co_T g s) C B p (p + 1) f) : co_G (co_T g s) s (fun q => if q = p then f else C q) (p + 1) := by
  have hp : p < 2 ^ 8 := by
    have := bs_s_le hps
    have := bs_pow8 G.1
    omega
  have hT : ∀ i, p.testBit i = true → co_T g s (2 ^ i) := by
    intro i hi
    refine ⟨fun j hj => ?_, fun u v hu hv he => ?_⟩
    · rw [Nat.testBit_two_pow] at hj
      have e : i = j := of_decide_eq_true hj
      rw [← e]
      exact hps i hi
    · rw [Nat.testBit_two_pow] at hu hv
      have e1 : i = u := of_decide_eq_true hu
      have e2 : i = v := of_decide_eq_true hv
      rw [← e1, ← e2] at he
      exact G.2.2.2 i he
  have hC : ∀ q, bs_s q p → q ≠ p → C q ≤ bs_c q 8 := by
    intro q q1 q2
    by_cases e : q = 0
    · rw [e, h.1]
      exact Nat.zero_le _
    · exact (h.2 q e (by have := bs_s_le q1; omega) (co_s_tr q1 hps)).2
  obtain ⟨a1, a2, a3⟩ := co_I_end hB hp h0 hT hC hI
  exact co_G_put h0 h a1 a2 a3
theorem co_same {T : Nat → Prop} {s : Nat} {C D : Nat → Nat} {i j : Nat} (hC : co_G T s C i) (hD : co_G T s D j) (hi : s < i) (hj : s < j) : C s = D s :=
  co_uniq (s := s) hC.1 hD.1 (fun p h0 hp => (hC.2 p h0 (by have := bs_s_le hp; omega) hp).1) (fun p h0 hp => (hD.2 p h0 (by have := bs_s_le hp; omega) hp).1) (s + 1) s (by omega) (fun _ h => h)
section
variable {nw hw : Int32} {ar aw aq am ac ap : Nat → Int32} {fr yw : Int32} {br bw bq bl bo bm be : Nat → Int32} {n : Nat} {g : Nat → Nat}
theorem xw_few (hn : n ≤ 8) (hX : ∀ v, v < n → ar v = nI (g v)) {s p : Nat} (hp : p < 2 ^ n) (hps : bs_s p s) {C : Nat → Nat} (hC : ∀ q, bs_s q p → q ≠ p → ac q = nI (C q) ∧ C q ≤ 8) {post : Int32 → Prop} (h : ∀ f, co_I (co_T g s) C 8 p (p + 1) f → post (nI f)) : wpX_fewestColours post (nw, nI n, hw, ar, aw, aq, am, ac, ap) (nI p) := by
  have h8 := bs_pow8 hn
  have key : ∀ d i f, 0 < i → i + d = p + 1 → co_I (co_T g s) C 8 p i f → wX_fewestColours_5 post (nI p) nw (nI n) hw ar aw aq am ac ap (d + 1) (nI f) (nI i) := by
    intro d
    induction d with
    | zero =>
      intro i f h0 hi I
      obtain rfl : i = p + 1 := by omega
      exact br_t (nI_lt (by omega) (by omega)) (h f I)
    | succ d ih =>
      intro i f h0 hi I
      have hf : f ≤ 8 := I.2.1
      refine br_f (nI_nlt (by omega) (by omega)) (xw_within (by omega) (fun c => wz_1 ?_) (fun c => wz_0 (nm_r (nI_1 i) (ih (i + 1) f (by omega) (by omega) (co_I_skip I (fun z => absurd z c))))))
      refine xw_stable hn hX (by omega) (fun K => wz_1 ?_) (fun K => wz_0 (nm_r (nI_1 i) (ih (i + 1) f (by omega) (by omega) (co_I_skip I (fun _ z => absurd z.2 K)))))
      have hd := co_d_lt (p := p) (q := i) (by omega) c
      obtain ⟨e1, e2⟩ := hC (bs_d p i) (co_d_s p i) (by omega)
      rw [bs_diff]
      refine ⟨vp_in_nI (by omega) (by decide), nm_r (e' := nI (1 + C (bs_d p i))) ?_ ?_⟩
      · rw [nI_clamp (by omega), e1]
        exact nI_add 1 _
      · refine br_c (fun z => nm_r (nI_1 i) ?_) (fun z => nm_r (nI_1 i) ?_)
        · rw [nI_leI (by omega) (by omega)] at z
          exact ih (i + 1) f (by omega) (by omega) (co_I_skip I (fun _ _ => z))
        · rw [nI_leI (by omega) (by omega)] at z
          exact ih (i + 1) _ (by omega) (by omega) (co_I_take I (by omega) c ⟨co_s_tr c hps, K⟩ (by omega))
  exact Exists.intro (p + 1) (key p 1 8 (by omega) (by omega) (co_I0 (co_T g s) C 8 p))
theorem xq_colours (G : gr_G n g) (hX : ∀ v, v < n → ar v = nI (g v)) {s : Nat} (hs : s < 2 ^ n) {post : Int32 → SX → Prop} (h : ∀ (C : Nat → Nat) (ac : Nat → Int32), co_G (co_T g s) s C (s + 1) → post (nI (C s)) (nw, nI n, hw, ar, aw, aq, am, ac, ap)) (h00 : ac 0 = 0) : ∃ k, wX_colours_19 post (nI s) nw (nI n) hw k 1 ar aw aq am ac ap := by
  have hn := G.1
  have h8 := bs_pow8 hn
  have key : ∀ d i (C : Nat → Nat) (ac : Nat → Int32), 0 < i → i + d = s + 1 → (∀ q, q < i → bs_s q s → ac q = nI (C q)) → co_G (co_T g s) s C i → wX_colours_19 post (nI s) nw (nI n) hw (d + 1) (nI i) ar aw aq am ac ap := by
    intro d
    induction d with
    | zero =>
      intro i C ac h0 hi hc I
      obtain rfl : i = s + 1 := by omega
      refine br_t (nI_lt (by omega) (by omega)) ⟨vp_in_nI (by omega) (by decide), ?_⟩
      rw [nI_clamp (by omega), hc s (by omega) (fun _ z => z)]
      exact h C ac I
    | succ d ih =>
      intro i C ac h0 hi hc I
      refine br_f (nI_nlt (by omega) (by omega)) (xw_within (by omega) (fun c => wz_1 ?_) (fun c => wz_0 (nm_r (nI_1 i) (ih (i + 1) C ac (by omega) (by omega) (fun q hq hqs => ?_) (co_G_skip I c)))))
      · refine xw_few (s := s) hn hX (by omega) c (C := C) (fun q q1 q2 => ?_) (fun f If => ?_)
        · have hq : q < i := by have := bs_s_le q1; omega
          refine ⟨hc q hq (co_s_tr q1 c), ?_⟩
          by_cases e : q = 0
          · rw [e, I.1]
            exact Nat.zero_le _
          · exact Nat.le_trans (I.2 q e hq (co_s_tr q1 c)).2 (bs_c_le q 8)
        · refine ⟨vp_in_nI (by omega) (by decide), nm_e (nm_r (nI_1 i) (ih (i + 1) (fun q => if q = i then f else C q) _ (by omega) (by omega) (fun q hq hqs => ?_) (co_G_end G (Nat.le_refl 8) hs (by omega) c I If)))⟩
          rw [nI_clamp (by omega)]
          dsimp only [upd]
          by_cases e : q = i
          · rw [if_pos e, if_pos e]
          · rw [if_neg e, if_neg e]
            exact hc q (by omega) hqs
      · rcases Nat.lt_or_ge q i with z | z
        · exact hc q z hqs
        · obtain rfl : q = i := by omega
          exact absurd hqs c
  refine ⟨s + 1, key s 1 (fun _ => 0) ac (by omega) (by omega) (fun q hq _ => ?_) ⟨rfl, fun q q0 q1 => absurd q1 (by omega)⟩⟩
  obtain rfl : q = 0 := by omega
  exact h00
/-- the reference's inner search -/
theorem yw_few (G : gr_G n g) {s p : Nat} (hp : p < 256) (h0p : p ≠ 0) {D : Nat → Nat} (hD : ∀ q, D q ≤ 100) (hM : ∀ q, 0 < q → q < 256 → (bm q = 0 ↔ ¬ co_T g s q)) {post : Int32 → SY → Prop} {J : Int32 → (Nat → Int32) → (Nat → Int32) → (Nat → Int32) → (Nat → Int32) → (Nat → Int32) → (Nat → Int32) → (Nat → Int32) → Prop} {x1 : Int32}
    (hJ : ∀ (be : Nat → Int32) (f : Nat), co_I (co_T g s) D 100 p (p + 1) f → (∀ q, q < 256 → be q = nI (if q = p then f else D q)) → J (nI (p + 1)) br bw bq bl bo bm be) :
    ∀ d i (f : Nat) (be : Nat → Int32), 0 < i → i + d = p + 1 → co_I (co_T g s) D 100 p i f → (∀ q, q < 256 → be q = nI (if q = p then f else D q)) → wY_colours_96 post J x1 (nI p) fr (nI n) yw (d + 1) (nI i) br bw bq bl bo bm be := by
  intro d
  induction d with
  | zero =>
    intro i f be h0 hi I hb
    obtain rfl : i = p + 1 := by omega
    exact br_t (nI_lt (by omega) (by omega)) (nm_r (nI_1 p) (hJ be f I hb))
  | succ d ih =>
    intro i f be h0 hi I hb
    have hf : f ≤ 100 := I.2.1
    have e := hM i h0 (by omega)
    refine br_f (nI_nlt (by omega) (by omega)) ⟨vp_in_nI (by omega) (by decide), ?_⟩
    rw [nI_clamp (by omega)]
    refine br_c (fun z => nm_r (nI_1 i) (ih (i + 1) f be (by omega) (by omega) (co_I_skip I (fun _ y => absurd y (e.mp z))) hb)) (fun z => ?_)
    have hT : co_T g s i := Classical.byContradiction (fun y => z (e.mpr y))
    refine yw_within (by omega) (fun c => wz_1 ?_) (fun c => wz_0 (nm_r (nI_1 i) (ih (i + 1) f be (by omega) (by omega) (co_I_skip I (fun y => absurd y c)) hb)))
    have hd := co_d_lt (p := p) (q := i) (by omega) c
    have e1 : be (bs_d p i) = nI (D (bs_d p i)) := by
      rw [hb _ (by omega), if_neg (by omega)]
    have e2 : be p = nI f := by rw [hb p hp, if_pos rfl]
    have e3 := hD (bs_d p i)
    rw [bs_diff, nI_clamp (n := bs_d p i) (by omega), nI_clamp (n := p) (by omega), e1, e2, nI_1]
    refine ⟨vp_in_nI (by omega) (by decide), vp_in_nI (by omega) (by decide), br_c (fun y => nm_r (nI_1 i) ?_) (fun y => ⟨vp_in_nI (by omega) (by decide), vp_in_nI (by omega) (by decide), nm_e (nm_r (nI_1 i) ?_)⟩)⟩
    · rw [nI_leI (by omega) (by omega)] at y
      exact ih (i + 1) f be (by omega) (by omega) (co_I_skip I (fun _ _ => by omega)) hb
    · rw [nI_leI (by omega) (by omega)] at y
      refine ih (i + 1) (1 + D (bs_d p i)) _ (by omega) (by omega) (co_I_take I (by omega) c hT (by omega)) (fun q hq => ?_)
      dsimp only [upd]
      by_cases e : q = p
      · rw [if_pos e, if_pos e, Nat.add_comm]
      · rw [if_neg e, if_neg e, hb q hq, if_neg e]
theorem yq_colours (G : gr_G n g) (hY : ∀ v, v < 8 → br v = nI (g v)) {s : Nat} (hs : s < 2 ^ n) {post : Int32 → SY → Prop} (h : ∀ (D : Nat → Nat) (bm be : Nat → Int32), co_G (co_T g s) s D 256 → post (nI (D s)) (fr, nI n, yw, br, bw, bq, bl, bo, bm, be)) : ∃ k, wY_colours_12 post (nI s) fr (nI n) yw k 0 br bw bq bl bo bm be := by
  have hn := G.1
  have h8 := bs_pow8 hn
  have outer : ∀ bm : Nat → Int32, (∀ q, 0 < q → q < 256 → (bm q = 0 ↔ ¬ co_T g s q)) → ∀ d i (D : Nat → Nat) (be : Nat → Int32), 0 < i → i + d = 256 → (∀ q, D q ≤ 100) → (∀ q, i ≤ q → D q = 100) → (∀ q, q < 256 → be q = nI (D q)) → co_G (co_T g s) s D i → wY_colours_87 post (nI s) fr (nI n) yw (d + 1) (nI i) br bw bq bl bo bm be := by
    intro bm hM d
    induction d with
    | zero =>
      intro i D be h0 hi hD hH hb I
      obtain rfl : i = 256 := by omega
      refine br_t (nI_le (a := 256) (b := 256) (Nat.le_refl _) (by decide)) ⟨vp_in_nI (by omega) (by decide), ?_⟩
      rw [nI_clamp (by omega), hb s (by omega)]
      exact h D bm be I
    | succ d ih =>
      intro i D be h0 hi hD hH hb I
      refine br_f (nI_ge (b := 256) (by omega) (by decide)) ⟨i + 1, yw_few G (s := s) (p := i) (by omega) (by omega) hD hM (fun be' f If hb' => ?_) i 1 100 be (by omega) (by omega) (co_I0 (co_T g s) D 100 i) (fun q hq => ?_)⟩
      · refine ih (i + 1) (fun q => if q = i then f else D q) be' (by omega) (by omega) (fun q => ?_) (fun q hq => ?_) hb' ?_
        · have := If.2.1
          split
          · exact this
          · exact hD q
        · rw [if_neg (by omega)]
          exact hH q (by omega)
        · by_cases c : bs_s i s
          · exact co_G_end G (by decide) hs (by omega) c I If
          · refine ⟨?_, fun q q0 q1 q2 => ?_⟩
            · dsimp only
              rw [if_neg (by omega)]
              exact I.1
            · have hqi : q < i := by
                rcases Nat.lt_or_ge q i with z | z
                · exact z
                · obtain rfl : q = i := by omega
                  exact absurd q2 c
              have low : ∀ r, r < i → (fun q => if q = i then f else D q) r = D r := fun r hr => if_neg (by omega)
              obtain ⟨⟨⟨r, r0, r1, r2, r3⟩, rm⟩, hb2⟩ := I.2 q q0 hqi q2
              refine ⟨⟨⟨r, r0, r1, r2, ?_⟩, fun r r0 r1 r2 => ?_⟩, ?_⟩
              · rw [low q hqi, low (bs_d q r) (by have := bs_d_le q r; omega)]
                exact r3
              · rw [low q hqi, low (bs_d q r) (by have := bs_d_le q r; omega)]
                exact rm r r0 r1 r2
              · rw [low q hqi]
                exact hb2
      · rw [hb q hq]
        by_cases e : q = i
        · rw [if_pos e, e, hH i (Nat.le_refl _)]
        · rw [if_neg e]
  have marks : ∀ be : Nat → Int32, (∀ q, q < 256 → be q = nI (if q = 0 then 0 else 100)) → ∀ d i (bm : Nat → Int32), 0 < i → i + d = 256 → (∀ q, 0 < q → q < i → (bm q = 0 ↔ ¬ co_T g s q)) → wY_colours_43 post (nI s) fr (nI n) yw (d + 1) (nI i) br bw bq bl bo bm be := by
    intro be hb d
    induction d with
    | zero =>
      intro i bm h0 hi hM
      obtain rfl : i = 256 := by omega
      refine br_t (nI_le (a := 256) (b := 256) (Nat.le_refl _) (by decide)) ⟨255 + 1, outer bm hM 255 1 (fun q => if q = 0 then 0 else 100) be (by omega) (by omega) (fun q => ?_) (fun q hq => if_neg (by omega)) hb ⟨rfl, fun q q0 q1 => absurd q1 (by omega)⟩⟩
      split <;> omega
    | succ d ih =>
      intro i bm h0 hi hM
      have more : ∀ x : Int32, (x = 0 ↔ ¬ co_T g s i) → wY_colours_43 post (nI s) fr (nI n) yw (d + 1) (nI (i + 1)) br bw bq bl bo (upd bm (nI i).toNatClampNeg x) be := by
        intro x hx
        refine ih (i + 1) _ (by omega) (by omega) (fun r h1 h2 => ?_)
        rw [nI_clamp (by omega)]
        dsimp only [upd]
        by_cases y : r = i
        · rw [if_pos y, y]
          exact hx
        · rw [if_neg y]
          exact hM r h1 (by omega)
      refine br_f (nI_ge (b := 256) (by omega) (by decide)) (yw_within (by omega) (fun c => wz_1 ?_) (fun c => wz_0 ⟨vp_in_nI (by omega) (by decide), nm_e (nm_r (nI_1 i) ?_)⟩))
      · refine yw_stable G hY (Nat.lt_of_le_of_lt (bs_s_le c) hs) (by omega) (fun K => wz_1 ⟨vp_in_nI (by omega) (by decide), nm_e (nm_r (nI_1 i) ?_)⟩) (fun K => wz_0 ⟨vp_in_nI (by omega) (by decide), nm_e (nm_r (nI_1 i) ?_)⟩)
        · rw [nb_1]
          exact more 1 ⟨fun z => absurd z (by decide), fun z => absurd ⟨c, K⟩ z⟩
        · rw [nb_0]
          exact more 0 ⟨fun _ z => K z.2, fun _ => rfl⟩
      · rw [nb_0]
        exact more 0 ⟨fun _ z => c z.1, fun _ => rfl⟩
  have key : ∀ d i (be : Nat → Int32), i + d = 256 → (∀ q, q < i → be q = nI (if q = 0 then 0 else 100)) → wY_colours_12 post (nI s) fr (nI n) yw (d + 1) (nI i) br bw bq bl bo bm be := by
    intro d
    induction d with
    | zero =>
      intro i be hi hb
      obtain rfl : i = 256 := by omega
      exact br_t (nI_le (a := 256) (b := 256) (Nat.le_refl _) (by decide)) ⟨255 + 1, marks be hb 255 1 bm (by omega) (by omega) (fun q h1 h2 => absurd h1 (by omega))⟩
    | succ d ih =>
      intro i be hi hb
      have more : ∀ x : Int32, x = nI (if i = 0 then 0 else 100) → wY_colours_12 post (nI s) fr (nI n) yw (d + 1) (nI (i + 1)) br bw bq bl bo bm (upd be (nI i).toNatClampNeg x) := by
        intro x hx
        refine ih (i + 1) _ (by omega) (fun q hq => ?_)
        rw [nI_clamp (by omega)]
        dsimp only [upd]
        by_cases e : q = i
        · rw [if_pos e, e]
          exact hx
        · rw [if_neg e]
          exact hb q (by omega)
      refine br_f (nI_ge (b := 256) (by omega) (by decide)) (br_c (fun z => ⟨vp_in_nI (by omega) (by decide), nm_e (nm_r (nI_1 i) (more 0 ?_))⟩) (fun z => ⟨vp_in_nI (by omega) (by decide), nm_e (nm_r (nI_1 i) (more 100 ?_))⟩))
      · rw [← nI_0, nI_eq (by omega) (by decide)] at z
        rw [if_pos z]
        rfl
      · rw [if_neg (fun y => z (by rw [y]; rfl))]
        rfl
  exact ⟨256 + 1, key 256 0 be (by omega) (fun q hq => absurd hq (by omega))⟩
end
end
section
/-! the component's table of paths -/
theorem pt_M_uniq {g : Nat → Nat} {S a r s : Nat} (h : pt_M g S a r) (h' : pt_M g S a s) : r = s := by
  obtain ⟨⟨l, hl, e⟩, h2⟩ := h
  obtain ⟨⟨m, hm, e'⟩, h2'⟩ := h'
  have := h2 m hm
  have := h2' l hl
  omega
def dp_c (g : Nat → Nat) (a v : Nat) : Nat := if (g v).testBit a then 0 else 1
/-- the search over the vertices below i for the one before the last -/
def dp_I (g : Nat → Nat) (T a i f : Nat) : Prop := (f = 8 ∨ ∃ v r, v < i ∧ T.testBit v = true ∧ pt_M g T v r ∧ f = r + dp_c g a v) ∧ f ≤ 8 ∧ ∀ v r, v < i → T.testBit v = true → pt_M g T v r → f ≤ r + dp_c g a v
theorem dp_I0 (g : Nat → Nat) (T a : Nat) : dp_I g T a 0 8 := ⟨Or.inl rfl, Nat.le_refl _, fun v _ h => absurd h (by omega)⟩
theorem dp_I_no {g : Nat → Nat} {T a i f : Nat} (h : dp_I g T a i f) (hi : ∀ r, T.testBit i = true → pt_M g T i r → f ≤ r + dp_c g a i) : dp_I g T a (i + 1) f := by
  obtain ⟨h1, h2, h3⟩ := h
  refine ⟨?_, h2, fun v r hv hT hM => ?_⟩
  · rcases h1 with e | ⟨v, r, hv, hr⟩
    · exact Or.inl e
    · exact Or.inr ⟨v, r, by omega, hr⟩
  · rcases Nat.lt_or_ge v i with c | c
    · exact h3 v r c hT hM
    · obtain rfl : v = i := by omega
      exact hi r hT hM
theorem dp_I_yes {g : Nat → Nat} {T a i f r : Nat} (h : dp_I g T a i f) (hT : T.testBit i = true) (hM : pt_M g T i r) (hf : r + dp_c g a i < f) : dp_I g T a (i + 1) (r + dp_c g a i) := by
  obtain ⟨h1, h2, h3⟩ := h
  refine ⟨Or.inr ⟨i, r, by omega, hT, hM, rfl⟩, by omega, fun v s hv hT' hM' => ?_⟩
  rcases Nat.lt_or_ge v i with c | c
  · have := h3 v s c hT' hM'
    omega
  · obtain rfl : v = i := by omega
    rw [pt_M_uniq hM hM']
    exact Nat.le_refl _
theorem dp_end {g : Nat → Nat} {S T a n f : Nat} (hn : n ≤ 8) (hS : S < 2 ^ n) (ha : S.testBit a = true) (hT : ∀ x, T.testBit x = (S.testBit x && decide (x ≠ a))) (hT0 : T ≠ 0) (hD : ∀ v, T.testBit v = true → ∃ r, pt_M g T v r) (h : dp_I g T a n f) : pt_M g S a f := by
  have hTS : ∀ v, T.testBit v = true → v < n := by
    intro v hv
    rw [hT, Bool.and_eq_true] at hv
    exact bs_lt hS hv.1
  obtain ⟨h1, h2, h3⟩ := h
  constructor
  · rcases h1 with e | ⟨v, r, _, hv, ⟨⟨l, hl, er⟩, _⟩, ef⟩
    · obtain ⟨v, hv⟩ := bs_ne0 hT0
      obtain ⟨r, hr⟩ := hD v hv
      have a1 := h3 v r (hTS v hv) hv hr
      obtain ⟨⟨l, hl, er⟩, _⟩ := hr
      have hl' := (pt_S_cons ha hT (v :: l)).mpr hl
      have a2 := pt_b_le g (a :: v :: l)
      have a3 := pt_S_len hl' hS
      have a4 : pt_b g (a :: v :: l) = r + dp_c g a v := by rw [pt_b_2, er]; rfl
      exact ⟨v :: l, hl', by omega⟩
    · exact ⟨v :: l, (pt_S_cons ha hT (v :: l)).mpr hl, by rw [pt_b_2, ef, er]; rfl⟩
  · intro l hl
    have hl := (pt_S_cons ha hT l).mp hl
    cases l with
    | nil =>
      obtain ⟨v, hv⟩ := bs_ne0 hT0
      exact absurd ((hl.2 v).mp hv) (by simp)
    | cons v l =>
      have hv := (hl.2 v).mpr (List.mem_cons_self ..)
      obtain ⟨r, hr⟩ := hD v hv
      have a1 := h3 v r (hTS v hv) hv hr
      have a2 := hr.2 l hl
      have a4 : pt_b g (a :: v :: l) = pt_b g (v :: l) + dp_c g a v := rfl
      omega
/-- what the table holds ahead of set S, last j -/
def dp_P (g : Nat → Nat) (n : Nat) (ap : Nat → Int32) (S j : Nat) : Prop := ∀ S' l, S' < 2 ^ n → S'.testBit l = true → S' < S ∨ (S' = S ∧ l < j) → ∃ r, ap (S' * 8 + l) = nI r ∧ pt_M g S' l r
theorem dp_P_put {g : Nat → Nat} {n : Nat} {ap : Nat → Int32} {S j r : Nat} (hn : n ≤ 8) (hj : j < n) (h : dp_P g n ap S j) (hr : pt_M g S j r) : dp_P g n (upd ap (S * 8 + j) (nI r)) S (j + 1) := by
  intro S' l h1 h2 h3
  have hl := bs_lt h1 h2
  dsimp only [upd]
  by_cases e : S' * 8 + l = S * 8 + j
  · have e1 : S' = S := by omega
    have e2 : l = j := by omega
    rw [if_pos e, e1, e2]
    exact ⟨r, rfl, hr⟩
  · rw [if_neg e]
    exact h S' l h1 h2 (by omega)
theorem dp_P_skip {g : Nat → Nat} {n : Nat} {ap : Nat → Int32} {S j : Nat} (h : dp_P g n ap S j) (hj : ¬ S.testBit j = true) : dp_P g n ap S (j + 1) := by
  intro S' l h1 h2 h3
  refine h S' l h1 h2 ?_
  rcases h3 with h3 | ⟨e, h3⟩
  · exact Or.inl h3
  · rcases Nat.lt_or_ge l j with c | c
    · exact Or.inr ⟨e, c⟩
    · obtain rfl : l = j := by omega
      rw [e] at h2
      exact absurd h2 hj
theorem dp_P_next {g : Nat → Nat} {n : Nat} {ap : Nat → Int32} {S : Nat} (h : dp_P g n ap S n) : dp_P g n ap (S + 1) 0 := by
  intro S' l h1 h2 h3
  have hl := bs_lt h1 h2
  exact h S' l h1 h2 (by omega)
theorem dp_ix (b v : Nat) : nI b * 8 + nI v = nI (b * 8 + v) := by
  rw [show (8 : Int32) = nI 8 from rfl, pk_mul, nI_add]
section
variable {nw hw : Int32} {ar aw aq am ac ap : Nat → Int32} {n : Nat} {g : Nat → Nat}
theorem xw_last (G : gr_G n g) (hX : ∀ v, v < n → ar v = nI (g v)) {S a : Nat} (hS : S < 2 ^ n) (ha : S.testBit a = true) (hP : ∀ T l, T < S → T.testBit l = true → ∃ r, ap (T * 8 + l) = nI r ∧ pt_M g T l r) {post : Int32 → Prop} (h : ∀ r, pt_M g S a r → post (nI r)) : wpX_fewestPathsWithLast post (nw, nI n, hw, ar, aw, aq, am, ac, ap) (nI S) (nI a) := by
  have hn := G.1
  have h8 := bs_pow8 hn
  have han := bs_lt hS ha
  have hT : ∀ x, (bs_d S (2 ^ a)).testBit x = (S.testBit x && decide (x ≠ a)) := by
    intro x
    rw [bs_d_t, Nat.testBit_two_pow]
    by_cases e : a = x
    · have e1 : ¬ x ≠ a := fun z => z e.symm
      rw [decide_eq_true e, decide_eq_false e1]; rfl
    · have e1 : x ≠ a := fun z => e z.symm
      rw [decide_eq_false e, decide_eq_true e1]; rfl
  have hTS : bs_d S (2 ^ a) < S := co_d_lt (Nat.ne_of_gt (Nat.two_pow_pos a)) (fun j hj => by
    rw [Nat.testBit_two_pow] at hj
    have e : a = j := of_decide_eq_true hj
    rw [← e]; exact ha)
  refine nm_r (e' := nI (bs_d S (2 ^ a))) (by rw [bs_1 a (by omega), bs_diff]) ?_
  generalize bs_d S (2 ^ a) = T at hT hTS
  refine br_c (fun z => ?_) (fun z => ?_)
  · rw [← nI_0, nI_eq (by omega) (by decide)] at z
    subst z
    exact h 1 (pt_M_one ha hT)
  · have hT0 : T ≠ 0 := fun e => z (by rw [e]; rfl)
    have key : ∀ d i f, i + d = n → dp_I g T a i f → wX_fewestPathsWithLast_21 post (nI a) (nI T) nw (nI n) hw ar aw aq am ac ap (d + 1) (nI f) (nI i) := by
      intro d
      induction d with
      | zero =>
        intro i f hi I
        obtain rfl : i = n := by omega
        exact br_t (nI_le (Nat.le_refl _) (by omega)) (h f (dp_end hn hS ha hT hT0 (fun v hv => by obtain ⟨r, _, hr⟩ := hP T v hTS hv; exact ⟨r, hr⟩) I))
      | succ d ih =>
        intro i f hi I
        have hf : f ≤ 8 := I.2.1
        refine br_f (nI_ge (by omega) (by omega)) (xw_contains (by omega) (by omega) (fun c => wz_1 ?_) (fun c => wz_0 (nm_r (nI_1 i) (ih (i + 1) f (by omega) (dp_I_no I (fun _ z => absurd z c))))))
        obtain ⟨r, er, hr⟩ := hP T i hTS c
        have hr8 : r ≤ 8 := Nat.le_trans (pt_M_le hr (show T < 2 ^ n by omega)) hn
        have hix : (nI T * 8 + nI i).toNatClampNeg = T * 8 + i := by rw [dp_ix, nI_clamp (by omega)]
        have fin : ∀ z : Nat, z = dp_c g a i → (nI f ≤ nI (r + z) → ∀ x : Int32, x = nI i + 1 → wX_fewestPathsWithLast_21 post (nI a) (nI T) nw (nI n) hw ar aw aq am ac ap (d + 1) (nI f) x) ∧ (¬ nI f ≤ nI (r + z) → ∀ x : Int32, x = nI i + 1 → wX_fewestPathsWithLast_21 post (nI a) (nI T) nw (nI n) hw ar aw aq am ac ap (d + 1) (nI (r + z)) x) := by
          intro z hz
          have hz1 : z ≤ 1 := by
            rw [hz]
            unfold dp_c
            split <;> omega
          refine br_c (fun y => nm_r (nI_1 i) ?_) (fun y => nm_r (nI_1 i) ?_)
          · rw [nI_leI (by omega) (by omega)] at y
            exact ih (i + 1) f (by omega) (dp_I_no I (fun s _ hs => by rw [pt_M_uniq hs hr, ← hz]; exact y))
          · rw [nI_leI (by omega) (by omega)] at y
            rw [hz]
            exact ih (i + 1) _ (by omega) (dp_I_yes I c hr (by rw [← hz]; omega))
        rw [hix, er]
        refine ⟨by rw [dp_ix]; exact vp_in_nI (by omega) (by decide), xw_joined hn hX (gr_256 G) (by omega) (by omega) (fun l => wz_1 ?_) (fun l => wz_0 ?_)⟩
        · exact nm_r (e' := nI (r + 0)) (by rw [Nat.add_zero, Int32.add_zero]) (fin 0 (by unfold dp_c; rw [if_pos l]))
        · exact nm_r (e' := nI (r + 1)) (nI_1 r) (fin 1 (by unfold dp_c; rw [if_neg l]))
    exact Exists.intro (n + 1) (key n 0 8 (by omega) (dp_I0 g T a))
/-- the least over the last vertex -/
def dp_F (g : Nat → Nat) (n i f : Nat) : Prop := (f = n ∨ ∃ v, v < i ∧ pt_M g (2 ^ n - 1) v f) ∧ f ≤ n ∧ ∀ v r, v < i → pt_M g (2 ^ n - 1) v r → f ≤ r
theorem dp_F_A {f : Nat} (h0 : 0 < n) (hD : ∀ v, v < n → ∃ r, pt_M g (2 ^ n - 1) v r) (h : dp_F g n n f) : pt_A g n f := by
  have hw : 2 ^ n - 1 < 2 ^ n := by have := Nat.two_pow_pos n; omega
  obtain ⟨h1, h2, h3⟩ := h
  constructor
  · rcases h1 with e | ⟨v, hv, ⟨⟨l, hl, er⟩, _⟩⟩
    · obtain ⟨r, hr⟩ := hD 0 h0
      have a1 := h3 0 r h0 hr
      have a2 := pt_M_le hr hw
      obtain ⟨⟨l, hl, er⟩, _⟩ := hr
      exact ⟨0 :: l, pt_S_perm.mp hl, by omega⟩
    · exact ⟨v :: l, pt_S_perm.mp hl, er⟩
  · intro l hl
    cases l with
    | nil =>
      have := hl.length_eq
      rw [pm_l_len] at this
      simp at this
      omega
    | cons v l =>
      have hv : v < n := pt_range.mp (hl.mem_iff.mp (List.mem_cons_self ..))
      obtain ⟨r, hr⟩ := hD v hv
      have a1 := h3 v r hv hr
      have a2 := hr.2 l (pt_S_perm.mpr hl)
      omega
def pt_Z (g : Nat → Nat) (n f : Nat) : Prop := (n = 0 ∧ f = 0) ∨ (0 < n ∧ pt_A g n f)
theorem xq_paths (G : gr_G n g) (hX : ∀ v, v < n → ar v = nI (g v)) {post : Int32 → SX → Prop} (h : ∀ (ap : Nat → Int32) (f : Nat), pt_Z g n f → post (nI f) (nw, nI n, hw, ar, aw, aq, am, ac, ap)) : wpX_fewestPaths post (nw, nI n, hw, ar, aw, aq, am, ac, ap) := by
  have hn := G.1
  have h8 := bs_pow8 hn
  have hp := Nat.two_pow_pos n
  have last : ∀ ap : Nat → Int32, dp_P g n ap (2 ^ n) 0 → ∀ d i f, i + d = n → dp_F g n i f → wX_fewestPaths_66 post (nI (2 ^ n - 1)) nw (nI n) hw ar aw aq am ac ap (d + 1) (nI f) (nI i) := by
    intro ap hP d
    have hall : ∀ v, v < n → ∃ r, ap ((2 ^ n - 1) * 8 + v) = nI r ∧ pt_M g (2 ^ n - 1) v r := by
      intro v hv
      exact hP (2 ^ n - 1) v (by omega) (by rw [Nat.testBit_two_pow_sub_one]; exact decide_eq_true hv) (Or.inl (by omega))
    induction d with
    | zero =>
      intro i f hi I
      obtain rfl : i = n := by omega
      refine br_t (nI_le (Nat.le_refl _) (by omega)) (h ap f ?_)
      rcases Nat.eq_zero_or_pos i with e | e
      · exact Or.inl ⟨e, by have := I.2.1; omega⟩
      · exact Or.inr ⟨e, dp_F_A e (fun v hv => by obtain ⟨r, _, hr⟩ := hall v hv; exact ⟨r, hr⟩) I⟩
    | succ d ih =>
      intro i f hi I
      obtain ⟨r, er, hr⟩ := hall i (by omega)
      have hr8 : r ≤ n := pt_M_le hr (show 2 ^ n - 1 < 2 ^ n by omega)
      have hf := I.2.1
      have hix : (nI (2 ^ n - 1) * 8 + nI i).toNatClampNeg = (2 ^ n - 1) * 8 + i := by rw [dp_ix, nI_clamp (by omega)]
      refine br_f (nI_ge (by omega) (by omega)) ⟨by rw [dp_ix]; exact vp_in_nI (by omega) (by decide), nm_r (e' := nI r) (by rw [hix, er]) ?_⟩
      obtain ⟨h1, h2, h3⟩ := I
      refine br_c (fun z => nm_r (nI_1 i) ?_) (fun z => nm_r (nI_1 i) ?_)
      · rw [nI_leI (by omega) (by omega)] at z
        refine ih (i + 1) f (by omega) ⟨?_, h2, fun v s hv hs => ?_⟩
        · rcases h1 with e | ⟨v, hv, hM⟩
          · exact Or.inl e
          · exact Or.inr ⟨v, by omega, hM⟩
        · rcases Nat.lt_or_ge v i with c | c
          · exact h3 v s c hs
          · obtain rfl : v = i := by omega
            rw [pt_M_uniq hs hr]
            exact z
      · rw [nI_leI (by omega) (by omega)] at z
        refine ih (i + 1) r (by omega) ⟨Or.inr ⟨i, by omega, hr⟩, hr8, fun v s hv hs => ?_⟩
        rcases Nat.lt_or_ge v i with c | c
        · have := h3 v s c hs
          omega
        · obtain rfl : v = i := by omega
          rw [pt_M_uniq hs hr]
          exact Nat.le_refl _
  have sets : ∀ d S (ap : Nat → Int32), 0 < S → S + d = 2 ^ n → dp_P g n ap S 0 → wX_fewestPaths_7 post (nI (2 ^ n - 1)) nw (nI n) hw (d + 1) (nI S) ar aw aq am ac ap := by
    intro d
    induction d with
    | zero =>
      intro S ap h0 hS hP
      obtain rfl : S = 2 ^ n := by omega
      exact br_t (nI_lt (by omega) (by omega)) ⟨n + 1, last ap hP n 0 n (by omega) ⟨Or.inl rfl, Nat.le_refl _, fun v r hv => absurd hv (by omega)⟩⟩
    | succ d ih =>
      intro S ap h0 hS hP
      have inner : ∀ e j (ap : Nat → Int32), j + e = n → dp_P g n ap S j → wX_fewestPaths_14 post (wX_fewestPaths_7 post (nI (2 ^ n - 1)) nw (nI n) hw (d + 1)) (nI (2 ^ n - 1)) (nI S) nw (nI n) hw (e + 1) (nI j) ar aw aq am ac ap := by
        intro e
        induction e with
        | zero =>
          intro j ap hj hP
          obtain rfl : j = n := by omega
          exact br_t (nI_le (Nat.le_refl _) (by omega)) (nm_r (nI_1 S) (ih (S + 1) ap (by omega) (by omega) (dp_P_next hP)))
        | succ e ihe =>
          intro j ap hj hP
          refine br_f (nI_ge (by omega) (by omega)) (xw_contains (by omega) (by omega) (fun c => wz_1 ?_) (fun c => wz_0 (nm_r (nI_1 j) (ihe (j + 1) ap (by omega) (dp_P_skip hP c)))))
          refine xw_last G hX (by omega) c (fun T l hT hl => hP T l (by omega) hl (Or.inl hT)) (fun r hr => ?_)
          refine ⟨by rw [dp_ix]; exact vp_in_nI (by omega) (by decide), nm_e (nm_r (nI_1 j) ?_)⟩
          rw [dp_ix, nI_clamp (by omega)]
          exact ihe (j + 1) _ (by omega) (dp_P_put hn (by omega) hP hr)
      exact br_f (nI_nlt (by omega) (by omega)) ⟨n + 1, inner n 0 ap (by omega) hP⟩
  unfold wpX_fewestPaths
  dsimp only
  refine xw_whole hn ?_
  refine Exists.intro (2 ^ n - 1 + 1) (sets (2 ^ n - 1) 1 ap (by omega) (by omega) (fun S' l h1 h2 h3 => ?_))
  have e : S' = 0 := by omega
  rw [e, Nat.zero_testBit] at h2
  exact absurd h2 (by decide)
end
end
section
/-! the reference's walk over the arrangements -/
theorem pm_nd {o : Nat → Nat} {n : Nat} (h : (pm_l o 0 n).Nodup) {p q : Nat} (hpq : p < q) (hq : q < n) : o p ≠ o q := by
  have e1 := pm_l_app o p 0 (n - p)
  rw [show p + (n - p) = n by omega, Nat.zero_add, show n - p = (n - 1 - p) + 1 by omega, pm_l_s] at e1
  rw [e1, List.nodup_append] at h
  have h2 := (List.nodup_cons.mp h.2.1).1
  intro e
  exact h2 (pm_l_mem.mpr ⟨q, by omega, by omega, e⟩)
theorem pm_val {o : Nat → Nat} {n k : Nat} (h : (pm_l o 0 n).Perm (pm_l (fun k => k) 0 n)) (hk : k < n) : o k < n :=
  pt_range.mp (h.mem_iff.mp (pm_l_mem.mpr ⟨k, by omega, by omega, rfl⟩))
section
variable {fr yw : Int32} {br bw bq bl bo bm be : Nat → Int32} {n : Nat} {g : Nat → Nat}
/-- what nextOrder leaves -/
def no_S (o p : Nat → Nat) (n : Nat) : Prop := (pm_l p 0 n).Perm (pm_l (fun k => k) 0 n) ∧ pm_r (pm_l p 0 n) = pm_r (pm_l o 0 n) + 1
/-- the turning round: places i+1 .. n-1 of c, in pairs from outside -/
theorem yw_turn (hn : n ≤ 8) {i : Nat} (hi : i < n) {c : Nat → Nat} {post : Int32 → SY → Prop} (h : ∀ (bo : Nat → Int32), (∀ q, q ≤ i → bo q = nI (c q)) → (∀ q, i < q → q < n → bo q = nI (c (n + i - q))) → post 1 (fr, nI n, yw, br, bw, bq, bl, bo, bm, be)) :
    ∀ m a (bo : Nat → Int32), i < a → a ≤ n → n + i < 2 * a + m → (∀ q, q ≤ i → bo q = nI (c q)) → (∀ q, i < q → q < n → bo q = if q < a ∨ n + i - a < q then nI (c (n + i - q)) else nI (c q)) → wY_nextOrder_129 post fr (nI n) yw (m + 1) (nI a) (nI (n + i - a)) br bw bq bl bo bm be := by
  intro m
  induction m with
  | zero =>
    intro a bo ha han hm h0 h1
    refine br_t (nI_le (by omega) (by omega)) (h bo h0 (fun q hq hqn => ?_))
    rw [h1 q hq hqn]
    rw [if_pos (by omega)]
  | succ m ih =>
    intro a bo ha han hm h0 h1
    rcases Nat.lt_or_ge a (n + i - a) with c1 | c1
    · refine br_f (nI_ge c1 (by omega)) ⟨vp_in_nI (by omega) (by decide), nm_e ⟨vp_in_nI (by omega) (by decide), vp_in_nI (by omega) (by decide), nm_e ⟨vp_in_nI (by omega) (by decide), nm_e (nm_r (nI_1 a) (nm_r (e' := nI (n + i - (a + 1))) ?_ ?_))⟩⟩⟩
      · rw [show n + i - a = (n + i - (a + 1)) + 1 by omega]
        exact pk_m1 _
      · rw [nI_clamp (n := a) (by omega), nI_clamp (n := n + i - a) (by omega)]
        refine ih (a + 1) _ (by omega) (by omega) (by omega) (fun q hq => ?_) (fun q hq hqn => ?_)
        · rw [pk_un (by omega), pk_un (by omega)]
          exact h0 q hq
        · by_cases e1 : q = n + i - a
          · rw [e1, pk_us, if_pos (by omega), h1 a ha (by omega), if_neg (by omega), show n + i - (n + i - a) = a by omega]
          · rw [pk_un e1]
            by_cases e2 : q = a
            · rw [e2, pk_us, if_pos (by omega), h1 (n + i - a) (by omega) (by omega), if_neg (by omega)]
            · rw [pk_un e2, h1 q hq hqn]
              by_cases z : q < a ∨ n + i - a < q
              · rw [if_pos z, if_pos (by omega)]
              · rw [if_neg z, if_neg (by omega)]
    · refine br_t (nI_le c1 (by omega)) (h bo h0 (fun q hq hqn => ?_))
      rw [h1 q hq hqn]
      by_cases z : q < a ∨ n + i - a < q
      · rw [if_pos z]
      · rw [if_neg z, show n + i - q = q by omega]
theorem yw_swap (hn : n ≤ 8) {o : Nat → Nat} (ho : ∀ k, k < n → bo k = nI (o k)) (hP : (pm_l o 0 n).Perm (pm_l (fun k => k) 0 n)) {i j : Nat} (hij : i < j) (hj : j < n) (hd : ∀ q, i + 1 ≤ q → q + 1 < n → o (q + 1) < o q) (h1 : o i < o j) (h2 : ∀ q, j < q → q < n → o q < o i) {post : Int32 → SY → Prop}
    (h : ∀ (bo : Nat → Int32) (p : Nat → Nat), (∀ k, k < n → bo k = nI (p k)) → no_S o p n → post 1 (fr, nI n, yw, br, bw, bq, bl, bo, bm, be)) : wY_nextOrder_90 post (nI i) (nI j) fr (nI n) yw br bw bq bl bo bm be := by
  refine And.intro (vp_in_nI (by omega) (by decide)) (nm_e ⟨vp_in_nI (by omega) (by decide), vp_in_nI (by omega) (by decide), nm_e ⟨vp_in_nI (by omega) (by decide), nm_e (nm_r (nI_1 i) (nm_r (e' := nI (n - 1)) ?_ ?_))⟩⟩)
  · exact pk_sub (a := n) (b := 1) (by omega)
  · rw [nI_clamp (n := i) (by omega), nI_clamp (n := j) (by omega)]
    have T := yw_turn (fr := fr) (yw := yw) (br := br) (bw := bw) (bq := bq) (bl := bl) (bm := bm) (be := be) hn (i := i) (by omega) (c := fun q => if q = j then o i else if q = i then o j else o q) (post := post) (fun bo' p0 p1 => ?_) (n + i) (i + 1) (upd (upd bo i (bo j)) j (bo i)) (by omega) (by omega) (by omega) (fun q hq => ?_) (fun q hq hqn => ?_)
    · rw [show n + i - (i + 1) = n - 1 by omega] at T
      exact ⟨_, T⟩
    · refine h bo' (fun q => if q ≤ i then (if q = j then o i else if q = i then o j else o q) else (fun q => if q = j then o i else if q = i then o j else o q) (n + i - q)) (fun q hq => ?_) ?_
      · dsimp only
        by_cases c : q ≤ i
        · rw [if_pos c]
          exact p0 q c
        · rw [if_neg c]
          exact p1 q (by omega) hq
      · have N := pm_next (o := o) (p := fun q => if q ≤ i then (if q = j then o i else if q = i then o j else o q) else (fun q => if q = j then o i else if q = i then o j else o q) (n + i - q)) hij hj hd h1 h2 (fun q hq => ?_) ?_ (fun q hq hqn => ?_)
        · exact ⟨N.1.trans hP, N.2⟩
        · dsimp only
          rw [if_pos (by omega), if_neg (by omega), if_neg (by omega)]
        · dsimp only
          rw [if_pos (Nat.le_refl _), if_neg (by omega), if_pos rfl]
        · dsimp only
          rw [if_neg (by omega)]
          by_cases c : n + i - q = j
          · rw [if_pos c, if_pos c]
          · rw [if_neg c, if_neg c, if_neg (by omega)]
    · rw [if_neg (by omega), pk_un (by omega)]
      by_cases c : q = i
      · rw [if_pos c, c, pk_us, ho j hj]
      · rw [if_neg c, pk_un c, ho q (by omega)]
    · rw [if_neg (by omega)]
      by_cases c : q = j
      · rw [if_pos c, c, pk_us, ho i (by omega)]
      · rw [if_neg c, pk_un c, if_neg (by omega), pk_un (by omega), ho q hqn]
theorem yw_next (h0 : 0 < n) (hn : n ≤ 8) {o : Nat → Nat} (ho : ∀ k, k < n → bo k = nI (o k)) (hP : (pm_l o 0 n).Perm (pm_l (fun k => k) 0 n)) {post : Int32 → SY → Prop}
    (he : pm_r (pm_l o 0 n) + 1 = pm_f n → post 0 (fr, nI n, yw, br, bw, bq, bl, bo, bm, be))
    (h : ∀ (bo : Nat → Int32) (p : Nat → Nat), (∀ k, k < n → bo k = nI (p k)) → no_S o p n → post 1 (fr, nI n, yw, br, bw, bq, bl, bo, bm, be)) : wpY_nextOrder post (fr, nI n, yw, br, bw, bq, bl, bo, bm, be) := by
  have hnd : (pm_l o 0 n).Nodup := hP.symm.nodup (pt_range_nd n)
  have hv : ∀ k, k < n → o k < 8 := fun k hk => Nat.lt_of_lt_of_le (pm_val hP hk) hn
  -- the search for j
  have second : ∀ i, i + 1 < n → (∀ q, i + 1 ≤ q → q + 1 < n → o (q + 1) < o q) → o i < o (i + 1) → ∀ m j, j = i + 1 + m → j < n → (∀ q, j < q → q < n → o q < o i) → wY_nextOrder_60 post (nI i) fr (nI n) yw br bw bq bl bo bm be (m + 1) (nI j) (nI (n - 1 - j)) := by
    intro i hi hd hlt m
    induction m with
    | zero =>
      intro j hj hjn h2
      obtain rfl : j = i + 1 := by omega
      have b1 := hv i (by omega)
      have b2 := hv (i + 1) (by omega)
      refine br_f (nI_ge (b := 8) (by omega) (by decide)) ⟨vp_in_nI (by omega) (by decide), vp_in_nI (by omega) (by decide), ?_⟩
      rw [nI_clamp (n := i) (by omega), nI_clamp (n := i + 1) (by omega), ho i (by omega), ho (i + 1) (by omega)]
      exact br_t (nI_le (by omega) (by omega)) (yw_swap hn ho hP (by omega) hjn hd hlt h2 h)
    | succ m ih =>
      intro j hj hjn h2
      have b1 := hv i (by omega)
      have b2 := hv j (by omega)
      have hne : o i ≠ o j := pm_nd hnd (by omega) hjn
      refine br_f (nI_ge (b := 8) (by omega) (by decide)) ⟨vp_in_nI (by omega) (by decide), vp_in_nI (by omega) (by decide), ?_⟩
      rw [nI_clamp (n := i) (by omega), nI_clamp (n := j) (by omega), ho i (by omega), ho j (by omega)]
      refine br_c (fun z => ?_) (fun z => ?_)
      · rw [nI_leI (by omega) (by omega)] at z
        exact yw_swap hn ho hP (by omega) hjn hd (by omega) h2 h
      · rw [nI_leI (by omega) (by omega)] at z
        refine nm_r (e' := nI (j - 1)) ?_ (nm_r (e' := nI (n - 1 - (j - 1))) ?_ (ih (j - 1) (by omega) (by omega) (fun q hq hqn => ?_)))
        · have := pk_m1 (j - 1)
          rwa [show j - 1 + 1 = j by omega] at this
        · rw [nI_1, show n - 1 - j + 1 = n - 1 - (j - 1) by omega]
        · rcases Nat.lt_or_ge j q with c | c
          · exact h2 q c hqn
          · obtain rfl : q = j := by omega
            omega
  -- the search for i, which is p - 1
  have first : ∀ p, p + 1 ≤ n → (∀ q, p ≤ q → q + 1 < n → o (q + 1) < o q) → wY_nextOrder_9 post fr (nI n) yw br bw bq bl bo bm be (p + 1) (nI p + (-1)) (nI (n - 1 - p)) := by
    intro p
    induction p with
    | zero =>
      intro hp hd
      refine br_f (nI_ge (b := 8) (by omega) (by decide)) (br_t (by decide) (br_f (by decide) (he (pm_last (fun q hq => hd q (by omega) hq)))))
    | succ p ih =>
      intro hp hd
      have b1 := hv p (by omega)
      have b2 := hv (p + 1) (by omega)
      have hne : o p ≠ o (p + 1) := pm_nd hnd (by omega) (by omega)
      rw [pk_m1]
      refine br_f (nI_ge (b := 8) (by omega) (by decide)) (br_f (nI_pos (by omega)) ⟨vp_in_nI (by omega) (by decide), by rw [nI_1]; exact vp_in_nI (by omega) (by decide), ?_⟩)
      rw [nI_1 p, nI_clamp (n := p) (by omega), nI_clamp (n := p + 1) (by omega), ho p (by omega), ho (p + 1) (by omega)]
      refine br_c (fun z => ?_) (fun z => ?_)
      · rw [nI_leI (by omega) (by omega)] at z
        refine br_t (nI_pos' (by omega)) (nm_r (e' := nI (n - 1)) (pk_sub (a := n) (b := 1) (by omega)) ?_)
        have S := second p (by omega) hd (by omega) (n - 2 - p) (n - 1) (by omega) (by omega) (fun q h1 h2 => absurd h1 (by omega))
        rw [show n - 1 - (n - 1) = 0 by omega] at S
        exact ⟨_, S⟩
      · rw [nI_leI (by omega) (by omega)] at z
        refine nm_e (nm_r (e' := nI (n - 1 - p)) ?_ (ih (by omega) (fun q h1 h2 => ?_)))
        · rw [nI_1, show n - 1 - (p + 1) + 1 = n - 1 - p by omega]
        · rcases Nat.lt_or_ge p q with c | c
          · exact hd q (by omega) h2
          · obtain rfl : q = p := by omega
            omega
  have F := first (n - 1) (by omega) (fun q h1 h2 => absurd h2 (by omega))
  rw [show n - 1 - (n - 1) = 0 by omega] at F
  refine nm_r (e' := nI (n - 1) + (-1)) ?_ ⟨_, F⟩
  rw [show n = (n - 1) + 1 by omega, Nat.add_sub_cancel]
  generalize n - 1 = z
  rw [← nI_1]
  grind
/-- the count of breaks along the order, and the least so far -/
theorem yw_breaks (G : gr_G n g) (h0 : 0 < n) (hY : ∀ v, v < 8 → br v = nI (g v)) {o : Nat → Nat} (ho : ∀ k, k < n → bo k = nI (o k)) (hv : ∀ k, k < n → o k < n) {post : Int32 → SY → Prop} {J : Int32 → Int32 → Int32 → Int32 → Int32 → Int32 → (Nat → Int32) → (Nat → Int32) → (Nat → Int32) → (Nat → Int32) → (Nat → Int32) → (Nat → Int32) → (Nat → Int32) → Prop} {r : Nat} {x3 : Int32} (hr : r ≤ 8)
    (h : wY_leastPaths_105 post J (nI (if pt_b g (pm_l o 0 n).reverse < r then pt_b g (pm_l o 0 n).reverse else r)) x3 fr (nI n) yw br bw bq bl bo bm be) : ∃ k, wY_leastPaths_53 post J (nI r) x3 fr (nI n) yw br bw bq bl bo bm be k 1 0 := by
  have hn := G.1
  have hb : ∀ k, k ≤ n → pt_b g (pm_l o 0 k).reverse ≤ 8 := by
    intro k hk
    have := pt_b_le g (pm_l o 0 k).reverse
    rw [List.length_reverse, pm_l_len] at this
    omega
  have key : ∀ d k, k + d + 1 = n → wY_leastPaths_53 post J (nI r) x3 fr (nI n) yw br bw bq bl bo bm be (d + 1) (nI (pt_b g (pm_l o 0 (k + 1)).reverse)) (nI k) := by
    intro d
    induction d with
    | zero =>
      intro k hk
      have e : k + 1 = n := by omega
      have b := hb n (Nat.le_refl _)
      refine br_t (by rw [nI_1]; exact nI_le (by omega) (by omega)) ?_
      rw [e]
      refine br_c (fun z => ?_) (fun z => ?_)
      · rw [nI_leI (by omega) (by omega)] at z
        rw [if_neg (by omega)] at h
        exact h
      · rw [nI_leI (by omega) (by omega)] at z
        rw [if_pos (by omega)] at h
        exact h
    | succ d ih =>
      intro k hk
      have b1 := hv k (by omega)
      have b2 := hv (k + 1) (by omega)
      have next := ih (k + 1) (by omega)
      rw [pt_walk] at next
      refine br_f (by rw [nI_1]; exact nI_ge (by omega) (by omega)) ⟨vp_in_nI (by omega) (by decide), by rw [nI_1]; exact vp_in_nI (by omega) (by decide), ?_⟩
      rw [nI_1 k, nI_clamp (n := k) (by omega), nI_clamp (n := k + 1) (by omega), ho k (by omega), ho (k + 1) (by omega)]
      refine yw_linked hY (gr_256 G) (by omega) (by omega) (fun l => wz_1 (nm_e ?_)) (fun l => wz_0 (nm_r (nI_1 _) (nm_e ?_)))
      · rw [if_pos l, Nat.add_zero] at next
        exact next
      · rw [if_neg l] at next
        exact next
  exact ⟨n - 1 + 1, key (n - 1) 0 (by omega)⟩
theorem yq_paths (G : gr_G n g) (hY : ∀ v, v < 8 → br v = nI (g v)) {post : Int32 → SY → Prop} (h : ∀ (bo : Nat → Int32) (f : Nat), pt_Z g n f → post (nI f) (fr, nI n, yw, br, bw, bq, bl, bo, bm, be)) : wpY_leastPaths post (fr, nI n, yw, br, bw, bq, bl, bo, bm, be) := by
  have hn := G.1
  rcases Nat.eq_zero_or_pos n with e | h0
  · refine br_t (by rw [e]; rfl) (h bo 0 (Or.inl ⟨e, rfl⟩))
  · refine br_f (nI_ne0 h0 (by omega)) ?_
    have hf8 := pm_f8 hn
    have turns : ∀ d t r (bo : Nat → Int32) (o : Nat → Nat), t + d = 40320 → pt_V g n t r → (∀ k, k < n → bo k = nI (o k)) → (pm_l o 0 n).Perm (pm_l (fun k => k) 0 n) → pm_r (pm_l o 0 n) = t → wY_leastPaths_37 post (d + 1) (nI r) 1 (nI t) fr (nI n) yw br bw bq bl bo bm be := by
      intro d
      induction d with
      | zero =>
        intro t r bo o ht hV ho hP hr
        have := pm_r_lt (pm_l o 0 n)
        rw [pm_l_len] at this
        omega
      | succ d ih =>
        intro t r bo o ht hV ho hP hr
        refine br_f (nI_ge (b := 40320) (by omega) (by decide)) (br_f (by decide) ?_)
        refine yw_breaks G h0 hY ho (fun k hk => pm_val hP hk) hV.2.1 ?_
        have hV' := pt_Vs hV hP hr rfl
        generalize (if pt_b g (pm_l o 0 n).reverse < r then pt_b g (pm_l o 0 n).reverse else r) = s at hV'
        refine yw_next h0 hn ho hP (fun el => ?_) (fun bo' p hp hS => ?_)
        · have hA := h bo s (Or.inr ⟨h0, pt_V_A h0 hn hV' (by omega)⟩)
          exact nm_e (br_c (fun _ => hA) (fun _ => br_t rfl hA))
        · exact nm_r (nI_1 t) (ih (t + 1) s bo' p (by omega) hV' hp hS.1 (by rw [hS.2, hr]))
    have fill : ∀ d i (bo : Nat → Int32), i + d = 8 → (∀ k, k < i → bo k = nI k) → wY_leastPaths_11 post fr (nI n) yw (d + 1) (nI i) br bw bq bl bo bm be := by
      intro d
      induction d with
      | zero =>
        intro i bo hi hb
        obtain rfl : i = 8 := by omega
        exact br_t (nI_le (a := 8) (b := 8) (Nat.le_refl _) (by decide)) ⟨_, turns 40320 0 8 bo (fun k => k) (by omega) (pt_V0 g n) (fun k hk => hb k (by omega)) (List.Perm.refl _) (pm_first n)⟩
      | succ d ih =>
        intro i bo hi hb
        refine br_f (nI_ge (b := 8) (by omega) (by decide)) ⟨vp_in_nI (by omega) (by decide), nm_e (nm_r (nI_1 i) (ih (i + 1) _ (by omega) (fun k hk => ?_)))⟩
        rw [nI_clamp (by omega)]
        by_cases e : k = i
        · rw [e, pk_us]
        · rw [pk_un e]
          exact hb k (by omega)
    exact ⟨8 + 1, fill 8 0 bo (by omega) (fun k hk => absurd hk (by omega))⟩
end
end
section
/-! four-paths searched for -/
section
variable {nw hw : Int32} {ar aw aq am ac ap : Nat → Int32} {fr yw : Int32} {br bw bq bl bo bm be : Nat → Int32} {n : Nat} {g : Nat → Nat}
theorem xw_four (G : gr_G n g) (hX : ∀ v, v < n → ar v = nI (g v)) {a b c d : Nat} (ha : a < n) (hb : b < n) (hc : c < n) (hd : d < n) (had : a < d) {post : Int32 → Prop} (h1 : fp_P g a b c d → post 1) (h0 : ¬ fp_P g a b c d → post 0) : wpX_isFourPath post (nw, nI n, hw, ar, aw, aq, am, ac, ap) (nI a) (nI b) (nI c) (nI d) := by
  have hn := G.1
  have hg := gr_256 G
  unfold wpX_isFourPath
  dsimp only
  refine xw_joined hn hX hg ha (by omega) (fun z1 => wz_1 ?_) (fun z => wz_0 (h0 (fun P => z P.2.1)))
  refine xw_joined hn hX hg hb (by omega) (fun z2 => wz_1 ?_) (fun z => wz_0 (h0 (fun P => z P.2.2.1)))
  refine xw_joined hn hX hg hc (by omega) (fun z3 => wz_1 ?_) (fun z => wz_0 (h0 (fun P => z P.2.2.2.1)))
  refine xw_joined hn hX hg ha (by omega) (fun z => wz_1 (h0 (fun P => P.2.2.2.2.1 z))) (fun z4 => wz_0 ?_)
  refine xw_joined hn hX hg ha (by omega) (fun z => wz_1 (h0 (fun P => P.2.2.2.2.2.1 z))) (fun z5 => wz_0 ?_)
  exact xw_joined hn hX hg hb (by omega) (fun z => wz_1 (h0 (fun P => P.2.2.2.2.2.2 z))) (fun z6 => wz_0 (h1 ⟨had, z1, z2, z3, z4, z5, z6⟩))
theorem xw_find (G : gr_G n g) (hX : ∀ v, v < n → ar v = nI (g v)) {post : Int32 → SX → Prop} (h0 : fp_0 g 4096 → post 0 (nw, nI n, hw, ar, aw, aq, am, ac, ap))
    (h1 : ∀ a b c d, b < 8 → c < 8 → d < 8 → fp_P g a b c d → fp_0 g (fp_K a b c d) → post 1 (nw, nI n, 1, ar, aw, upd (upd (upd (upd aq 0 (nI a)) 1 (nI b)) 2 (nI c)) 3 (nI d), am, ac, ap)) : wpX_keepFirstFourPath post (nw, nI n, hw, ar, aw, aq, am, ac, ap) := by
  have hn := G.1
  have hg := G.2.1
  have loopD : ∀ (J2 J12 J22 : Int32 → Prop) a b c, a < n → b < n → c < n → (fp_0 g (fp_K a b (c + 1) (a + 1)) → J22 (nI (c + 1))) → ∀ e d, d + e = n → a < d → fp_0 g (fp_K a b c d) → wX_keepFirstFourPath_35 post J2 J12 J22 (nI a) (nI b) (nI c) nw (nI n) hw ar aw aq am ac ap (e + 1) (nI d) := by
    intro J2 J12 J22 a b c ha hb hc hJ e
    induction e with
    | zero =>
      intro d hd had h
      obtain rfl : d = n := by omega
      exact br_t (nI_le (Nat.le_refl _) (by omega)) (nm_r (nI_1 c) (hJ (fp_endD hn hg ha (by omega) (by omega) h)))
    | succ e ih =>
      intro d hd had h
      refine br_f (nI_ge (by omega) (by omega)) (xw_four G hX ha hb hc (by omega) had (fun P => wz_1 ?_) (fun P => wz_0 (nm_r (nI_1 d) (ih (d + 1) (by omega) (by omega) (fp_next (by omega) (by omega) (by omega) h P)))))
      exact nm_e (nm_e (nm_e (nm_e (h1 a b c d (by omega) (by omega) (by omega) P h))))
  have loopC : ∀ (J2 J12 : Int32 → Prop) a b, a < n → b < n → (fp_0 g (fp_K a (b + 1) 0 (a + 1)) → J12 (nI (b + 1))) → ∀ e c, c + e = n → fp_0 g (fp_K a b c (a + 1)) → wX_keepFirstFourPath_22 post J2 J12 (nI a) (nI b) nw (nI n) hw ar aw aq am ac ap (e + 1) (nI c) := by
    intro J2 J12 a b ha hb hJ e
    induction e with
    | zero =>
      intro c hc h
      obtain rfl : c = n := by omega
      exact br_t (nI_le (Nat.le_refl _) (by omega)) (nm_r (nI_1 b) (hJ (fp_endC hn hg ha (by omega) h)))
    | succ e ih =>
      intro c hc h
      exact br_f (nI_ge (by omega) (by omega)) (nm_r (nI_1 a) ⟨_, loopD J2 J12 _ a b c ha hb (by omega) (fun z => ih (c + 1) (by omega) z) (n - (a + 1)) (a + 1) (by omega) (by omega) h⟩)
  have loopB : ∀ (J2 : Int32 → Prop) a, a < n → (fp_0 g (fp_K (a + 1) 0 0 (a + 2)) → J2 (nI (a + 1))) → ∀ e b, b + e = n → fp_0 g (fp_K a b 0 (a + 1)) → wX_keepFirstFourPath_12 post J2 (nI a) nw (nI n) hw ar aw aq am ac ap (e + 1) (nI b) := by
    intro J2 a ha hJ e
    induction e with
    | zero =>
      intro b hb h
      obtain rfl : b = n := by omega
      exact br_t (nI_le (Nat.le_refl _) (by omega)) (nm_r (nI_1 a) (hJ (fp_endB hn hg ha h)))
    | succ e ih =>
      intro b hb h
      exact br_f (nI_ge (by omega) (by omega)) ⟨_, loopC J2 _ a b ha (by omega) (fun z => ih (b + 1) (by omega) z) n 0 (by omega) h⟩
  have loopA : ∀ e a, a + e = n → fp_0 g (fp_K a 0 0 (a + 1)) → wX_keepFirstFourPath_2 post nw (nI n) hw ar aw aq am ac ap (e + 1) (nI a) := by
    intro e
    induction e with
    | zero =>
      intro a ha h
      obtain rfl : a = n := by omega
      exact br_t (nI_le (Nat.le_refl _) (by omega)) (h0 (fp_endA hn hg h))
    | succ e ih =>
      intro a ha h
      exact br_f (nI_ge (by omega) (by omega)) ⟨_, loopB _ a (by omega) (fun z => ih (a + 1) (by omega) z) n 0 (by omega) h⟩
  exact Exists.intro (n + 1) (loopA n 0 (by omega) fp_beg)
theorem yw_four (hY : ∀ v, v < 8 → br v = nI (g v)) (hg : ∀ v, g v < 256) (hi : ∀ v, ¬ (g v).testBit v = true) {a b c d : Nat} (ha : a < 8) (hb : b < 8) (hc : c < 8) (hd : d < 8) (had : a < d) {post : Int32 → Prop} (h1 : fp_P g a b c d → post 1) (h0 : ¬ fp_P g a b c d → post 0) : wpY_fourPath post (fr, nI n, yw, br, bw, bq, bl, bo, bm, be) (nI a) (nI b) (nI c) (nI d) := by
  have q : ∀ {x y : Nat}, x < 8 → y < 8 → nI x = nI y → x = y := fun hx hy e => (nI_eq (by omega) (by omega)).mp e
  refine br_c (fun e => h0 (fun P => (fp_ne hi P).1 (q ha hb e))) (fun _ => ?_)
  refine br_c (fun e => h0 (fun P => (fp_ne hi P).2.1 (q ha hc e))) (fun _ => ?_)
  refine br_c (fun e => h0 (fun P => (fp_ne hi P).2.2.1 (q ha hd e))) (fun _ => ?_)
  refine br_c (fun e => h0 (fun P => (fp_ne hi P).2.2.2.1 (q hb hc e))) (fun _ => ?_)
  refine br_c (fun e => h0 (fun P => (fp_ne hi P).2.2.2.2.1 (q hb hd e))) (fun _ => ?_)
  refine br_c (fun e => h0 (fun P => (fp_ne hi P).2.2.2.2.2 (q hc hd e))) (fun _ => ?_)
  refine yw_linked hY hg ha (by omega) (fun z1 => wz_1 ?_) (fun z => wz_0 (h0 (fun P => z P.2.1)))
  refine yw_linked hY hg hb (by omega) (fun z2 => wz_1 ?_) (fun z => wz_0 (h0 (fun P => z P.2.2.1)))
  refine yw_linked hY hg hc (by omega) (fun z3 => wz_1 ?_) (fun z => wz_0 (h0 (fun P => z P.2.2.2.1)))
  refine yw_linked hY hg ha (by omega) (fun z => wz_1 (h0 (fun P => P.2.2.2.2.1 z))) (fun z4 => wz_0 ?_)
  refine yw_linked hY hg ha (by omega) (fun z => wz_1 (h0 (fun P => P.2.2.2.2.2.1 z))) (fun z5 => wz_0 ?_)
  exact yw_linked hY hg hb (by omega) (fun z => wz_1 (h0 (fun P => P.2.2.2.2.2.2 z))) (fun z6 => wz_0 (h1 ⟨had, z1, z2, z3, z4, z5, z6⟩))
theorem yw_find (hY : ∀ v, v < 8 → br v = nI (g v)) (hg : ∀ v, g v < 256) (hi : ∀ v, ¬ (g v).testBit v = true) {post : Int32 → SY → Prop} (h0 : fp_0 g 4096 → post 0 (fr, nI n, yw, br, bw, bq, bl, bo, bm, be))
    (h1 : ∀ a b c d, b < 8 → c < 8 → d < 8 → fp_P g a b c d → fp_0 g (fp_K a b c d) → post 1 (fr, nI n, yw, br, bw, upd (upd (upd (upd bq 0 (nI a)) 1 (nI b)) 2 (nI c)) 3 (nI d), bl, bo, bm, be)) : wpY_findFourPath post (fr, nI n, yw, br, bw, bq, bl, bo, bm, be) := by
  have key : ∀ e k, k + e = 4096 → fp_0 g k → wY_findFourPath_2 post fr (nI n) yw br bw bq bl bo bm be (e + 1) (nI k) := by
    intro e
    induction e with
    | zero =>
      intro k hk h
      obtain rfl : k = 4096 := by omega
      exact br_t (nI_le (a := 4096) (b := 4096) (Nat.le_refl _) (by decide)) (h0 h)
    | succ e ih =>
      intro k hk h
      have skip : ¬ fp_P g (k / 512) (k / 64 % 8) (k / 8 % 8) (k % 8) → wY_findFourPath_2 post fr (nI n) yw br bw bq bl bo bm be (e + 1) (nI (k + 1)) := fun z => ih (k + 1) (by omega) (fp_code h z)
      refine br_f (nI_ge (b := 4096) (by omega) (by decide)) (nm_r (e' := nI (k / 512)) (pk_shrN (by omega) _ 9 (by decide)) (nm_r (e' := nI (k / 64 % 8)) ?_ (nm_r (e' := nI (k / 8 % 8)) ?_ (nm_r (e' := nI (k % 8)) (pk_andN (by omega) 3 (by decide)) ?_))))
      · rw [pk_shrN (by omega) _ 6 (by decide)]
        exact pk_andN (by omega) 3 (by decide)
      · rw [pk_shrN (by omega) _ 3 (by decide)]
        exact pk_andN (by omega) 3 (by decide)
      · refine br_c (fun z => nm_r (nI_1 k) (skip (fun P => ?_))) (fun z => ?_)
        · rw [nI_leI (by omega) (by omega)] at z
          have := P.1
          omega
        · rw [nI_leI (by omega) (by omega)] at z
          refine yw_four hY hg hi (by omega) (by omega) (by omega) (by omega) (by omega) (fun P => wz_1 ?_) (fun P => wz_0 (nm_r (nI_1 k) (skip P)))
          have ek : fp_K (k / 512) (k / 64 % 8) (k / 8 % 8) (k % 8) = k := by
            unfold fp_K
            omega
          exact nm_e (nm_e (nm_e (nm_e (h1 _ _ _ _ (by omega) (by omega) (by omega) P (by rw [ek]; exact h)))))
  exact Exists.intro (4096 + 1) (key 4096 0 (by omega) (fp_00 g))
end
/-! a vertex more -/
def ad_g (g : Nat → Nat) (n m : Nat) (v : Nat) : Nat := if v = n then m else if m.testBit v = true then g v ||| 2 ^ n else g v
theorem ad_t {g : Nat → Nat} {n m : Nat} (G : gr_G n g) (hm : m < 2 ^ n) (v x : Nat) : (ad_g g n m v).testBit x = true ↔ (v = n ∧ m.testBit x = true) ∨ (x = n ∧ m.testBit v = true) ∨ (g v).testBit x = true := by
  unfold ad_g
  by_cases e : v = n
  · subst e
    rw [if_pos rfl]
    constructor
    · intro h
      exact Or.inl ⟨rfl, h⟩
    · rintro (h | ⟨_, h⟩ | h)
      · exact h.2
      · exact absurd (bs_lt hm h) (by omega)
      · exact absurd (G.2.1 v x h).1 (by omega)
  · rw [if_neg e]
    by_cases c : m.testBit v = true
    · rw [if_pos c, Nat.testBit_or, Nat.testBit_two_pow, Bool.or_eq_true]
      constructor
      · rintro (h | h)
        · exact Or.inr (Or.inr h)
        · exact Or.inr (Or.inl ⟨(of_decide_eq_true h).symm, c⟩)
      · rintro (h | ⟨h, _⟩ | h)
        · exact absurd h.1 e
        · exact Or.inr (decide_eq_true h.symm)
        · exact Or.inl h
    · rw [if_neg c]
      constructor
      · intro h
        exact Or.inr (Or.inr h)
      · rintro (h | ⟨_, h⟩ | h)
        · exact absurd h.1 e
        · exact absurd h c
        · exact h
theorem ad_G {g : Nat → Nat} {n m : Nat} (G : gr_G n g) (hn : n < 8) (hm : m < 2 ^ n) : gr_G (n + 1) (ad_g g n m) := by
  refine ⟨by omega, fun v x h => ?_, fun v x h => ?_, fun v h => ?_⟩
  · rcases (ad_t G hm v x).mp h with ⟨a, b⟩ | ⟨a, b⟩ | a
    · have := bs_lt hm b
      omega
    · have := bs_lt hm b
      omega
    · have := G.2.1 v x a
      omega
  · rw [ad_t G hm] at h ⊢
    rcases h with ⟨a, b⟩ | ⟨a, b⟩ | a
    · exact Or.inr (Or.inl ⟨a, b⟩)
    · exact Or.inl ⟨a, b⟩
    · exact Or.inr (Or.inr (G.2.2.1 v x a))
  · rcases (ad_t G hm v v).mp h with ⟨a, b⟩ | ⟨a, b⟩ | a
    · have := bs_lt hm b
      omega
    · have := bs_lt hm b
      omega
    · exact G.2.2.2 v a
/-- taken away again -/
theorem ad_back {g : Nat → Nat} {n m : Nat} (G : gr_G n g) (hm : m < 2 ^ n) {v : Nat} (hv : v ≠ n) : bs_d (ad_g g n m v) (2 ^ n) = g v := by
  refine Nat.eq_of_testBit_eq (fun x => ?_)
  rw [bs_d_t, Nat.testBit_two_pow]
  cases h : (g v).testBit x
  · cases h' : (ad_g g n m v).testBit x
    · rfl
    · rcases (ad_t G hm v x).mp h' with ⟨a, b⟩ | ⟨a, b⟩ | a
      · exact absurd a hv
      · rw [decide_eq_true a.symm]; rfl
      · rw [h] at a
        exact absurd a (by decide)
  · have h' := (ad_t G hm v x).mpr (Or.inr (Or.inr h))
    have hx := (G.2.1 v x h).2
    rw [h', decide_eq_false (by omega)]
    rfl
section
variable {nw hw : Int32} {ar aw aq am ac ap : Nat → Int32} {fr yw : Int32} {br bw bq bl bo bm be : Nat → Int32} {n : Nat} {g : Nat → Nat}
theorem xw_join (G : gr_G n g) (hX : ∀ v, v < n → ar v = nI (g v)) (hn : n < 8) {m : Nat} (hm : m < 2 ^ n) {post : SX → Prop} (h : ∀ ar : Nat → Int32, (∀ v, v < n + 1 → ar v = nI (ad_g g n m v)) → post (nw, nI (n + 1), hw, ar, upd aw n nw, aq, am, ac, ap)) : wpX_joinLast post (nw, nI n, hw, ar, aw, aq, am, ac, ap) (nI m) := by
  have h8 := bs_pow8 G.1
  have key : ∀ d i (ar : Nat → Int32), i + d = n → (∀ v, v < n → ar v = nI (if v < i then ad_g g n m v else g v)) → wX_joinLast_7 post (nI m) (nI n) nw (nI n) hw (d + 1) (nI i) ar aw aq am ac ap := by
    intro d
    induction d with
    | zero =>
      intro i ar hi hA
      obtain rfl : i = n := by omega
      refine br_t (nI_le (Nat.le_refl _) (by omega)) ⟨vp_in_nI (by omega) (by decide), nm_e ⟨vp_in_nI (by omega) (by decide), nm_e (nm_r (nI_1 i) ?_)⟩⟩
      rw [nI_clamp (by omega)]
      refine h _ (fun v hv => ?_)
      by_cases e : v = i
      · rw [e, pk_us]
        unfold ad_g
        rw [if_pos rfl]
      · rw [pk_un e, hA v (by omega), if_pos (by omega)]
    | succ d ih =>
      intro i ar hi hA
      refine br_f (nI_ge (by omega) (by omega)) (xw_contains (by omega) (by omega) (fun c => wz_1 ⟨vp_in_nI (by omega) (by decide), vp_in_nI (by omega) (by decide), nm_e (nm_r (nI_1 i) (ih (i + 1) _ (by omega) (fun v hv => ?_)))⟩) (fun c => wz_0 (nm_r (nI_1 i) (ih (i + 1) ar (by omega) (fun v hv => ?_)))))
      · rw [nI_clamp (by omega)]
        by_cases e : v = i
        · rw [e, pk_us, hA i (by omega), if_neg (by omega), if_pos (by omega), bs_1 n (by omega), bs_or]
          unfold ad_g
          rw [if_neg (by omega), if_pos c]
        · rw [pk_un e, hA v hv]
          by_cases z : v < i
          · rw [if_pos z, if_pos (by omega)]
          · rw [if_neg z, if_neg (by omega)]
      · rw [hA v hv]
        by_cases e : v = i
        · rw [e, if_neg (by omega), if_pos (by omega)]
          unfold ad_g
          rw [if_neg (by omega), if_neg c]
        · by_cases z : v < i
          · rw [if_pos z, if_pos (by omega)]
          · rw [if_neg z, if_neg (by omega)]
  exact Exists.intro (n + 1) (key n 0 ar (by omega) (fun v hv => by rw [if_neg (by omega)]; exact hX v hv))
theorem xw_unjoin (G : gr_G n g) (hn : n < 8) {m : Nat} (hm : m < 2 ^ n) (hX : ∀ v, v < n + 1 → ar v = nI (ad_g g n m v)) {post : SX → Prop} (h : ∀ ar : Nat → Int32, (∀ v, v < n → ar v = nI (g v)) → post (nw, nI n, hw, ar, aw, aq, am, ac, ap)) : wpX_unjoinLast post (nw, nI (n + 1), hw, ar, aw, aq, am, ac, ap) := by
  have key : ∀ d i (ar : Nat → Int32), i + d = n → (∀ v, v < n → ar v = nI (if v < i then g v else ad_g g n m v)) → wX_unjoinLast_12 post nw (nI n) hw (d + 1) (nI i) ar aw aq am ac ap := by
    intro d
    induction d with
    | zero =>
      intro i ar hi hA
      obtain rfl : i = n := by omega
      refine br_t (nI_le (Nat.le_refl _) (by omega)) (h ar (fun v hv => ?_))
      rw [hA v hv, if_pos hv]
    | succ d ih =>
      intro i ar hi hA
      refine br_f (nI_ge (by omega) (by omega)) ⟨vp_in_nI (by omega) (by decide), vp_in_nI (by omega) (by decide), nm_e (nm_r (nI_1 i) (ih (i + 1) _ (by omega) (fun v hv => ?_)))⟩
      rw [nI_clamp (by omega)]
      by_cases e : v = i
      · rw [e, pk_us, hA i (by omega), if_neg (by omega), if_pos (by omega), bs_1 n (by omega), bs_diff, ad_back G hm (by omega)]
      · rw [pk_un e, hA v hv]
        by_cases z : v < i
        · rw [if_pos z, if_pos (by omega)]
        · rw [if_neg z, if_neg (by omega)]
  exact nm_r (e' := nI n) (nI_pred n) (Exists.intro (n + 1) (key n 0 ar (by omega) (fun v hv => by rw [if_neg (by omega)]; exact hX v (by omega))))
/-- the reference's addVertex, behind its tests -/
theorem yw_add (G : gr_G n g) (hY : ∀ v, v < 8 → br v = nI (g v)) (hn : n < 8) {m : Nat} (hm : m < 2 ^ n) {post : Int32 → SY → Prop}
    (h0 : ∀ br : Nat → Int32, fp_0 (ad_g g n m) 4096 → (∀ v, v < 8 → br v = nI (ad_g g n m v)) → post (nI (n + 1)) (fr, nI (n + 1), 0, br, upd bw n fr, bq, bl, bo, bm, be))
    (h1 : ∀ (br : Nat → Int32) (a b c d : Nat), b < 8 → c < 8 → d < 8 → fp_P (ad_g g n m) a b c d → fp_0 (ad_g g n m) (fp_K a b c d) → (∀ v, v < 8 → br v = nI (g v)) → post (-3) (fr, nI n, 1, br, bw, upd (upd (upd (upd bq 0 (nI a)) 1 (nI b)) 2 (nI c)) 3 (nI d), bl, bo, bm, be)) :
    ∃ k, wY_addVertex_34 post (nI m) fr (nI n) yw k 0 (upd br (nI n).toNatClampNeg (nI m)) bw bq bl bo bm be := by
  have h8 := bs_pow8 G.1
  have GA := ad_G G hn hm
  have back : ∀ (bq : Nat → Int32) (yw : Int32), (∀ br : Nat → Int32, (∀ v, v < 8 → br v = nI (g v)) → post (-3) (fr, nI n, yw, br, bw, bq, bl, bo, bm, be)) → ∀ d i (br : Nat → Int32), i + d = n → (∀ v, v < 8 → br v = nI (if v < i ∨ n ≤ v then g v else ad_g g n m v)) → wY_addVertex_103 post fr (nI n) yw (d + 1) (nI i) br bw bq bl bo bm be := by
    intro bq yw hp d
    induction d with
    | zero =>
      intro i br hi hA
      obtain rfl : i = n := by omega
      refine br_t (nI_le (Nat.le_refl _) (by omega)) (hp br (fun v hv => ?_))
      rw [hA v hv, if_pos (by omega)]
    | succ d ih =>
      intro i br hi hA
      refine br_f (nI_ge (by omega) (by omega)) ⟨vp_in_nI (by omega) (by decide), vp_in_nI (by omega) (by decide), nm_e (nm_r (nI_1 i) (ih (i + 1) _ (by omega) (fun v hv => ?_)))⟩
      rw [nI_clamp (by omega)]
      by_cases e : v = i
      · rw [e, pk_us, hA i (by omega), if_neg (by omega), if_pos (by omega), bs_1 n (by omega), bs_diff, ad_back G hm (by omega)]
      · rw [pk_un e, hA v hv]
        by_cases z : v < i ∨ n ≤ v
        · rw [if_pos z, if_pos (by omega)]
        · rw [if_neg z, if_neg (by omega)]
  have key : ∀ d i (br : Nat → Int32), i + d = n → (∀ v, v < 8 → br v = nI (if v < i ∨ n ≤ v then ad_g g n m v else g v)) → wY_addVertex_34 post (nI m) fr (nI n) yw (d + 1) (nI i) br bw bq bl bo bm be := by
    intro d
    induction d with
    | zero =>
      intro i br hi hA
      obtain rfl : i = n := by omega
      have hA' : ∀ v, v < 8 → br v = nI (ad_g g i m v) := fun v hv => by rw [hA v hv, if_pos (by omega)]
      refine br_t (nI_le (Nat.le_refl _) (by omega)) (yw_find hA' (gr_256 GA) GA.2.2.2 (fun N => ?_) (fun a b c d hb hc hd P N => ?_))
      · refine ⟨rfl, rfl, wz_0 ⟨vp_in_nI (by omega) (by decide), nm_e (nm_r (nI_1 i) ?_)⟩⟩
        rw [nI_clamp (by omega)]
        exact h0 br N hA'
      · refine ⟨rfl, rfl, wz_1 ⟨vp_in_nI (by omega) (by decide), nm_e ⟨i + 1, back _ 1 (fun br' hb' => h1 br' a b c d hb hc hd P N hb') i 0 _ (by omega) (fun v hv => ?_)⟩⟩⟩
        rw [nI_clamp (by omega)]
        by_cases e : v = i
        · rw [e, pk_us, if_pos (by omega), gr_out G (Nat.le_refl _)]
          rfl
        · rw [pk_un e, hA' v hv]
          by_cases z : v < 0 ∨ i ≤ v
          · rw [if_pos z]
            unfold ad_g
            rw [if_neg e, if_neg (fun y => by have := bs_lt hm y; omega)]
          · rw [if_neg z]
    | succ d ih =>
      intro i br hi hA
      refine br_f (nI_ge (by omega) (by omega)) (yw_has (by omega) (by omega) (fun c => wz_1 ⟨vp_in_nI (by omega) (by decide), vp_in_nI (by omega) (by decide), nm_e (nm_r (nI_1 i) (ih (i + 1) _ (by omega) (fun v hv => ?_)))⟩) (fun c => wz_0 (nm_r (nI_1 i) (ih (i + 1) br (by omega) (fun v hv => ?_)))))
      · rw [nI_clamp (by omega)]
        by_cases e : v = i
        · rw [e, pk_us, hA i (by omega), if_neg (by omega), if_pos (by omega), bs_1 n (by omega), bs_or]
          unfold ad_g
          rw [if_neg (by omega), if_pos c]
        · rw [pk_un e, hA v hv]
          by_cases z : v < i ∨ n ≤ v
          · rw [if_pos z, if_pos (by omega)]
          · rw [if_neg z, if_neg (by omega)]
      · rw [hA v hv]
        by_cases e : v = i
        · rw [e, if_neg (by omega), if_pos (by omega)]
          unfold ad_g
          rw [if_neg (by omega), if_neg c]
        · by_cases z : v < i ∨ n ≤ v
          · rw [if_pos z, if_pos (by omega)]
          · rw [if_neg z, if_neg (by omega)]
  refine ⟨n + 1, key n 0 _ (by omega) (fun v hv => ?_)⟩
  rw [nI_clamp (by omega)]
  by_cases e : v = n
  · rw [e, pk_us, if_pos (by omega)]
    unfold ad_g
    rw [if_pos rfl]
  · rw [pk_un e, hY v hv]
    by_cases z : v < 0 ∨ n ≤ v
    · rw [if_pos z]
      unfold ad_g
      rw [if_neg e, if_neg (fun y => by have := bs_lt hm y; omega)]
    · rw [if_neg z]
end
end
section
/-! a vertex less -/
def rm_s (v u : Nat) : Nat := if u < v then u else u + 1
def rm_w (m v : Nat) : Nat := (m &&& (2 ^ v - 1)) ||| (m / 2 ^ (v + 1) * 2 ^ v)
theorem rm_w_t (m v x : Nat) : (rm_w m v).testBit x = m.testBit (rm_s v x) := by
  unfold rm_w rm_s
  rw [Nat.testBit_or, Nat.testBit_and, Nat.testBit_two_pow_sub_one, Nat.testBit_mul_two_pow, Nat.testBit_div_two_pow]
  by_cases c : x < v
  · rw [if_pos c, decide_eq_true c, decide_eq_false (by omega)]
    simp
  · rw [if_neg c, decide_eq_false c, decide_eq_true (by omega), show x - v + (v + 1) = x + 1 by omega]
    simp
theorem rm_nI {m v : Nat} (hm : m < 256) (hv : v < 8) : (nI m &&& (((1 : Int32) <<< (nI v &&& 31)) - 1)) ||| ((nI m >>> ((nI v + 1) &&& 31)) <<< (nI v &&& 31)) = nI (rm_w m v) := by
  have hp : 2 ^ v ≤ 256 := bs_pow8 (by omega)
  have hd : m / 2 ^ (v + 1) ≤ m := Nat.div_le_self _ _
  have hb : m / 2 ^ (v + 1) * 2 ^ v < 2 ^ 32 := by
    have : m / 2 ^ (v + 1) * 2 ^ v ≤ 256 * 256 := Nat.mul_le_mul (by omega) hp
    omega
  rw [bs_all (by omega), nx_and, nI_1, pk_shrN (by omega) _ (v + 1) (s_l (v + 1) (by omega)), pk_shlN _ v (s_l v (by omega)) hb, bs_or]
  rfl
def rm_g (g : Nat → Nat) (n v u : Nat) : Nat := if u < n then rm_w (g (rm_s v u)) v else 0
theorem rm_t {g : Nat → Nat} {n v u x : Nat} : (rm_g g n v u).testBit x = true ↔ u < n ∧ (g (rm_s v u)).testBit (rm_s v x) = true := by
  unfold rm_g
  by_cases c : u < n
  · rw [if_pos c, rm_w_t]
    exact ⟨fun h => ⟨c, h⟩, fun h => h.2⟩
  · rw [if_neg c, Nat.zero_testBit]
    exact ⟨fun h => absurd h (by decide), fun h => absurd h.1 c⟩
theorem rm_G {g : Nat → Nat} {n v : Nat} (G : gr_G (n + 1) g) (hv : v < n + 1) : gr_G n (rm_g g n v) := by
  have hs : ∀ x, rm_s v x < n + 1 → x < n := by
    intro x h
    unfold rm_s at h
    split at h <;> omega
  refine ⟨by have := G.1; omega, fun u x h => ?_, fun u x h => ?_, fun u h => ?_⟩
  · obtain ⟨h1, h2⟩ := rm_t.mp h
    exact ⟨h1, hs x (G.2.1 _ _ h2).2⟩
  · obtain ⟨h1, h2⟩ := rm_t.mp h
    exact rm_t.mpr ⟨hs x (G.2.1 _ _ h2).2, G.2.2.1 _ _ h2⟩
  · exact G.2.2.2 _ (rm_t.mp h).2
section
variable {nw hw : Int32} {ar aw aq am ac ap : Nat → Int32} {fr yw : Int32} {br bw bq bl bo bm be : Nat → Int32} {n : Nat} {g : Nat → Nat}
theorem xw_without {m v : Nat} (hm : m < 256) (hv : v < 8) {post : Int32 → Prop} (h : post (nI (rm_w m v))) : wpX_withoutPlace post (nI m) (nI v) := by
  refine nm_e (nm_e ?_)
  rw [rm_nI hm hv]
  exact h
theorem yw_without {m v : Nat} (hm : m < 256) (hv : v < 8) {post : Int32 → Prop} (h : post (nI (rm_w m v))) : wpY_without post (fr, nI n, yw, br, bw, bq, bl, bo, bm, be) (nI m) (nI v) := by
  refine nm_e ?_
  rw [rm_nI hm hv]
  exact h
/-- the component's removeVertex, behind its test; n + 1 vertices before -/
theorem xw_remove (G : gr_G (n + 1) g) (hX : ∀ u, u < n + 1 → ar u = nI (g u)) {v : Nat} (hv : v < n + 1) {post : Int32 → SX → Prop} (h : ∀ ar' aw' : Nat → Int32, (∀ u, u < n → ar' u = nI (rm_g g n v u)) → (∀ u, u < n → aw' u = aw (rm_s v u)) → post (nI n) (nw, nI n, 0, ar', aw', aq, am, ac, ap)) : ∃ k, wX_removeVertex_12 post (nI v) nw (nI (n + 1)) hw k (nI v) ar aw aq am ac ap := by
  have hn := G.1
  have second : ∀ aw' : Nat → Int32, (∀ u, u < n → aw' u = aw (rm_s v u)) → ∀ d i (ar' : Nat → Int32), i + d = n → (∀ u, u < n → ar' u = nI (if u < i then rm_g g n v u else g (rm_s v u))) → wX_removeVertex_68 post (nI v) nw (nI n) hw (d + 1) (nI i) ar' aw' aq am ac ap := by
    intro aw' hw' d
    induction d with
    | zero =>
      intro i ar' hi hA
      obtain rfl : i = n := by omega
      refine br_t (nI_le (Nat.le_refl _) (by omega)) (h ar' aw' (fun u hu => ?_) hw')
      rw [hA u hu, if_pos hu]
    | succ d ih =>
      intro i ar' hi hA
      refine br_f (nI_ge (by omega) (by omega)) ⟨vp_in_nI (by omega) (by decide), ?_⟩
      rw [nI_clamp (by omega), hA i (by omega), if_neg (by omega)]
      refine xw_without (gr_256 G _) (by omega) ⟨vp_in_nI (by omega) (by decide), nm_e (nm_r (nI_1 i) (ih (i + 1) _ (by omega) (fun u hu => ?_)))⟩
      by_cases e : u = i
      · rw [e, pk_us, if_pos (by omega)]
        unfold rm_g
        rw [if_pos (by omega)]
      · rw [pk_un e, hA u hu]
        by_cases z : u < i
        · rw [if_pos z, if_pos (by omega)]
        · rw [if_neg z, if_neg (by omega)]
  have first : ∀ d i (ar' aw' : Nat → Int32), v ≤ i → i + d = n → (∀ u, u < n + 1 → ar' u = nI (if u < i then g (rm_s v u) else g u)) → (∀ u, u < n + 1 → aw' u = if u < i then aw (rm_s v u) else aw u) → wX_removeVertex_12 post (nI v) nw (nI (n + 1)) hw (d + 1) (nI i) ar' aw' aq am ac ap := by
    intro d
    induction d with
    | zero =>
      intro i ar' aw' hvi hi hA hW
      obtain rfl : i = n := by omega
      refine br_t (by rw [nI_pred]; exact nI_le (Nat.le_refl _) (by omega)) (nm_r (nI_pred i) ⟨i + 1, second aw' (fun u hu => ?_) i 0 ar' (by omega) (fun u hu => ?_)⟩)
      · rw [hW u (by omega), if_pos hu]
      · rw [hA u (by omega), if_pos hu, if_neg (by omega)]
    | succ d ih =>
      intro i ar' aw' hvi hi hA hW
      refine br_f (by rw [nI_pred]; exact nI_ge (by omega) (by omega)) ?_
      rw [nI_1 i, nI_clamp (n := i) (by omega), nI_clamp (n := i + 1) (by omega)]
      refine ⟨vp_in_nI (by omega) (by decide), vp_in_nI (by omega) (by decide), nm_e ⟨vp_in_nI (by omega) (by decide), vp_in_nI (by omega) (by decide), nm_e (nm_e (ih (i + 1) _ _ (by omega) (by omega) (fun u hu => ?_) (fun u hu => ?_)))⟩⟩
      · by_cases e : u = i
        · rw [e, pk_us, if_pos (by omega), hA (i + 1) (by omega), if_neg (by omega)]
          unfold rm_s
          rw [if_neg (by omega)]
        · rw [pk_un e, hA u hu]
          by_cases z : u < i
          · rw [if_pos z, if_pos (by omega)]
          · rw [if_neg z, if_neg (by omega)]
      · by_cases e : u = i
        · rw [e, pk_us, if_pos (by omega), hW (i + 1) (by omega), if_neg (by omega)]
          unfold rm_s
          rw [if_neg (by omega)]
        · rw [pk_un e, hW u hu]
          by_cases z : u < i
          · rw [if_pos z, if_pos (by omega)]
          · rw [if_neg z, if_neg (by omega)]
  have same : ∀ u, u < v → rm_s v u = u := fun u hu => if_pos hu
  refine ⟨n - v + 1, first (n - v) v ar aw (Nat.le_refl _) (by omega) (fun u hu => ?_) (fun u hu => ?_)⟩
  · rw [hX u hu]
    by_cases z : u < v
    · rw [if_pos z, same u z]
    · rw [if_neg z]
  · by_cases z : u < v
    · rw [if_pos z, same u z]
    · rw [if_neg z]
theorem yw_remove (G : gr_G (n + 1) g) (hY : ∀ u, u < 8 → br u = nI (g u)) {v : Nat} (hv : v < n + 1) {post : Int32 → SY → Prop} (h : ∀ br' bw' : Nat → Int32, (∀ u, u < 8 → br' u = nI (rm_g g n v u)) → (∀ u, u < n → bw' u = bw (rm_s v u)) → post (nI n) (fr, nI n, 0, br', bw', bq, bl, bo, bm, be)) : ∃ k, wY_removeVertex_16 post (nI v) fr (nI (n + 1)) yw k (nI v) br bw bq bl bo bm be := by
  have hn := G.1
  have hG : ∀ u, n ≤ u → rm_g g n v u = 0 := fun u hu => if_neg (by omega)
  have second : ∀ bw' : Nat → Int32, (∀ u, u < n → bw' u = bw (rm_s v u)) → ∀ d i (br' : Nat → Int32), i + d = n → (∀ u, u < 8 → br' u = nI (if u < i ∨ n ≤ u then rm_g g n v u else g (rm_s v u))) → wY_removeVertex_82 post (nI v) fr (nI n) yw (d + 1) (nI i) br' bw' bq bl bo bm be := by
    intro bw' hw' d
    induction d with
    | zero =>
      intro i br' hi hA
      obtain rfl : i = n := by omega
      refine br_t (nI_le (Nat.le_refl _) (by omega)) (h br' bw' (fun u hu => ?_) hw')
      rw [hA u hu, if_pos (by omega)]
    | succ d ih =>
      intro i br' hi hA
      refine br_f (nI_ge (by omega) (by omega)) ⟨vp_in_nI (by omega) (by decide), ?_⟩
      rw [nI_clamp (by omega), hA i (by omega), if_neg (by omega)]
      refine yw_without (gr_256 G _) (by omega) ⟨vp_in_nI (by omega) (by decide), nm_e (nm_r (nI_1 i) (ih (i + 1) _ (by omega) (fun u hu => ?_)))⟩
      by_cases e : u = i
      · rw [e, pk_us, if_pos (by omega)]
        unfold rm_g
        rw [if_pos (by omega)]
      · rw [pk_un e, hA u hu]
        by_cases z : u < i ∨ n ≤ u
        · rw [if_pos z, if_pos (by omega)]
        · rw [if_neg z, if_neg (by omega)]
  have first : ∀ d i (br' bw' : Nat → Int32), v ≤ i → i + d = n → (∀ u, u < 8 → br' u = nI (if u < i then g (rm_s v u) else g u)) → (∀ u, u < n + 1 → bw' u = if u < i then bw (rm_s v u) else bw u) → wY_removeVertex_16 post (nI v) fr (nI (n + 1)) yw (d + 1) (nI i) br' bw' bq bl bo bm be := by
    intro d
    induction d with
    | zero =>
      intro i br' bw' hvi hi hA hW
      obtain rfl : i = n := by omega
      refine br_t (by rw [nI_pred]; exact nI_le (Nat.le_refl _) (by omega)) (nm_r (nI_pred i) ⟨vp_in_nI (by omega) (by decide), nm_e ⟨i + 1, second bw' (fun u hu => ?_) i 0 _ (by omega) (fun u hu => ?_)⟩⟩)
      · rw [hW u (by omega), if_pos hu]
      · rw [nI_clamp (by omega)]
        by_cases e : u = i
        · rw [e, pk_us, if_pos (by omega), hG i (Nat.le_refl _)]
          rfl
        · rw [pk_un e, hA u hu]
          by_cases z : u < i
          · rw [if_pos z, if_neg (by omega)]
          · rw [if_neg z, if_pos (by omega), hG u (by omega), gr_out G (by omega)]
    | succ d ih =>
      intro i br' bw' hvi hi hA hW
      refine br_f (by rw [nI_pred]; exact nI_ge (by omega) (by omega)) ?_
      rw [nI_1 i, nI_clamp (n := i) (by omega), nI_clamp (n := i + 1) (by omega)]
      refine ⟨vp_in_nI (by omega) (by decide), vp_in_nI (by omega) (by decide), nm_e ⟨vp_in_nI (by omega) (by decide), vp_in_nI (by omega) (by decide), nm_e (nm_e (ih (i + 1) _ _ (by omega) (by omega) (fun u hu => ?_) (fun u hu => ?_)))⟩⟩
      · by_cases e : u = i
        · rw [e, pk_us, if_pos (by omega), hA (i + 1) (by omega), if_neg (by omega)]
          unfold rm_s
          rw [if_neg (by omega)]
        · rw [pk_un e, hA u hu]
          by_cases z : u < i
          · rw [if_pos z, if_pos (by omega)]
          · rw [if_neg z, if_neg (by omega)]
      · by_cases e : u = i
        · rw [e, pk_us, if_pos (by omega), hW (i + 1) (by omega), if_neg (by omega)]
          unfold rm_s
          rw [if_neg (by omega)]
        · rw [pk_un e, hW u hu]
          by_cases z : u < i
          · rw [if_pos z, if_pos (by omega)]
          · rw [if_neg z, if_neg (by omega)]
  have same : ∀ u, u < v → rm_s v u = u := fun u hu => if_pos hu
  refine ⟨n - v + 1, first (n - v) v br bw (Nat.le_refl _) (by omega) (fun u hu => ?_) (fun u hu => ?_)⟩
  · rw [hY u hu]
    by_cases z : u < v
    · rw [if_pos z, same u z]
    · rw [if_neg z]
  · by_cases z : u < v
    · rw [if_pos z, same u z]
    · rw [if_neg z]
end
/-! the complement -/
def cp_g (g : Nat → Nat) (n v : Nat) : Nat := if v < n then bs_d (bs_d (2 ^ n - 1) (g v)) (2 ^ v) else 0
theorem cp_t {g : Nat → Nat} {n v x : Nat} : (cp_g g n v).testBit x = true ↔ v < n ∧ x < n ∧ ¬ (g v).testBit x = true ∧ v ≠ x := by
  unfold cp_g
  by_cases c : v < n
  · rw [if_pos c, bs_d_t, bs_d_t, Nat.testBit_two_pow_sub_one, Nat.testBit_two_pow]
    simp [c]
    constructor
    · rintro ⟨⟨a, b⟩, d⟩
      exact ⟨a, b, d⟩
    · rintro ⟨a, b, d⟩
      exact ⟨⟨a, b⟩, d⟩
  · rw [if_neg c, Nat.zero_testBit]
    exact ⟨fun h => absurd h (by decide), fun h => absurd h.1 c⟩
theorem cp_G {g : Nat → Nat} {n : Nat} (G : gr_G n g) : gr_G n (cp_g g n) := by
  refine ⟨G.1, fun v x h => ?_, fun v x h => ?_, fun v h => ?_⟩
  · have := cp_t.mp h
    exact ⟨this.1, this.2.1⟩
  · obtain ⟨a, b, c, d⟩ := cp_t.mp h
    exact cp_t.mpr ⟨b, a, fun z => c (G.2.2.1 _ _ z), fun z => d z.symm⟩
  · exact (cp_t.mp h).2.2.2 rfl
/-- the sum of the degrees below k -/
def cp_e (g : Nat → Nat) : Nat → Nat
  | 0 => 0
  | k + 1 => cp_e g k + bs_c (g k) 8
theorem cp_row {n v : Nat} {x : Nat} (hn : n ≤ 8) (hv : v < n) : (nI (2 ^ n - 1) &&& (nI x ^^^ (-1))) &&& (((1 : Int32) <<< (nI v &&& 31)) ^^^ (-1)) = nI (bs_d (bs_d (2 ^ n - 1) x) (2 ^ v)) := by
  rw [bs_diff, bs_1 v (by omega), bs_diff]
section
variable {nw hw : Int32} {ar aw aq am ac ap : Nat → Int32} {fr yw : Int32} {br bw bq bl bo bm be : Nat → Int32} {n : Nat} {g : Nat → Nat}
theorem xw_edges (G : gr_G n g) (hX : ∀ v, v < n → ar v = nI (g v)) {post : Int32 → Prop} (h : post (nI (cp_e g n) / 2)) : wpX_edgeCount post (nw, nI n, hw, ar, aw, aq, am, ac, ap) := by
  have hn := G.1
  have key : ∀ d i, i + d = n → wX_edgeCount_4 post nw (nI n) hw ar aw aq am ac ap (d + 1) (nI (cp_e g i)) (nI i) := by
    intro d
    induction d with
    | zero =>
      intro i hi
      obtain rfl : i = n := by omega
      exact br_t (nI_le (Nat.le_refl _) (by omega)) ⟨by decide, h⟩
    | succ d ih =>
      intro i hi
      refine br_f (nI_ge (by omega) (by omega)) ⟨vp_in_nI (by omega) (by decide), ?_⟩
      rw [nI_clamp (by omega), hX i (by omega)]
      exact xw_count (by have := gr_256 G i; omega) (nm_r (e' := nI (cp_e g (i + 1))) (nI_add _ _) (nm_r (nI_1 i) (ih (i + 1) (by omega))))
  exact Exists.intro (n + 1) (key n 0 (by omega))
theorem xw_compl (G : gr_G n g) (hX : ∀ v, v < n → ar v = nI (g v)) {post : Int32 → SX → Prop} (h : ∀ ar : Nat → Int32, (∀ v, v < n → ar v = nI (cp_g g n v)) → post (nI (cp_e (cp_g g n) n) / 2) (nw, nI n, 0, ar, aw, aq, am, ac, ap)) : wpX_complement post (nw, nI n, hw, ar, aw, aq, am, ac, ap) := by
  have hn := G.1
  have key : ∀ d i (ar : Nat → Int32), i + d = n → (∀ v, v < n → ar v = nI (if v < i then cp_g g n v else g v)) → wX_complement_2 post nw (nI n) hw (d + 1) (nI i) ar aw aq am ac ap := by
    intro d
    induction d with
    | zero =>
      intro i ar hi hA
      obtain rfl : i = n := by omega
      have hA' : ∀ v, v < i → ar v = nI (cp_g g i v) := fun v hv => by rw [hA v hv, if_pos hv]
      exact br_t (nI_le (Nat.le_refl _) (by omega)) (xw_edges (cp_G G) hA' (h ar hA'))
    | succ d ih =>
      intro i ar hi hA
      refine br_f (nI_ge (by omega) (by omega)) (xw_whole hn ⟨vp_in_nI (by omega) (by decide), vp_in_nI (by omega) (by decide), nm_e (nm_r (nI_1 i) (ih (i + 1) _ (by omega) (fun v hv => ?_)))⟩)
      rw [nI_clamp (by omega)]
      by_cases e : v = i
      · rw [e, pk_us, hA i (by omega), if_neg (by omega), if_pos (by omega), cp_row hn (by omega)]
        unfold cp_g
        rw [if_pos (by omega)]
      · rw [pk_un e, hA v hv]
        by_cases z : v < i
        · rw [if_pos z, if_pos (by omega)]
        · rw [if_neg z, if_neg (by omega)]
  exact Exists.intro (n + 1) (key n 0 ar (by omega) (fun v hv => by rw [if_neg (by omega)]; exact hX v hv))
theorem yw_compl (G : gr_G n g) (hY : ∀ v, v < 8 → br v = nI (g v)) {post : Int32 → SY → Prop} (h : ∀ br : Nat → Int32, (∀ v, v < 8 → br v = nI (cp_g g n v)) → post (nI (cp_e (cp_g g n) n) / 2) (fr, nI n, 0, br, bw, bq, bl, bo, bm, be)) : wpY_complement post (fr, nI n, yw, br, bw, bq, bl, bo, bm, be) := by
  have hn := G.1
  have h8 := bs_pow8 hn
  have out : ∀ v, n ≤ v → cp_g g n v = 0 := fun v hv => if_neg (by omega)
  have key : ∀ d i (br : Nat → Int32), i + d = n → (∀ v, v < 8 → br v = nI (if v < i then cp_g g n v else g v)) → wY_complement_13 post (nI (2 ^ n - 1)) fr (nI n) yw (d + 1) (nI (cp_e (cp_g g n) i)) (nI i) br bw bq bl bo bm be := by
    intro d
    induction d with
    | zero =>
      intro i br hi hA
      obtain rfl : i = n := by omega
      refine br_t (nI_le (Nat.le_refl _) (by omega)) ⟨by decide, h br (fun v hv => ?_)⟩
      rw [hA v hv]
      by_cases z : v < i
      · rw [if_pos z]
      · rw [if_neg z, out v (by omega), gr_out G (by omega)]
    | succ d ih =>
      intro i br hi hA
      have new : (nI (2 ^ n - 1) &&& (br i ^^^ (-1))) &&& (((1 : Int32) <<< (nI i &&& 31)) ^^^ (-1)) = nI (cp_g g n i) := by
        rw [hA i (by omega), if_neg (by omega), cp_row hn (by omega)]
        unfold cp_g
        rw [if_pos (by omega)]
      refine br_f (nI_ge (by omega) (by omega)) ?_
      rw [nI_clamp (by omega), new]
      refine ⟨vp_in_nI (by omega) (by decide), vp_in_nI (by omega) (by decide), nm_e ⟨vp_in_nI (by omega) (by decide), ?_⟩⟩
      rw [pk_us]
      refine yw_size (by have := gr_256 (cp_G G) i; omega) (nm_r (e' := nI (cp_e (cp_g g n) (i + 1))) (nI_add _ _) (nm_r (nI_1 i) (ih (i + 1) _ (by omega) (fun v hv => ?_))))
      by_cases e : v = i
      · rw [e, pk_us, if_pos (by omega)]
      · rw [pk_un e, hA v hv]
        by_cases z : v < i
        · rw [if_pos z, if_pos (by omega)]
        · rw [if_neg z, if_neg (by omega)]
  exact nm_r (bs_all (by omega)) (Exists.intro (n + 1) (key n 0 br (by omega) (fun v hv => by rw [if_neg (by omega)]; exact hY v hv)))
end
end
section
/-- the relation: the same numbers, the same graph (the component's rows from n on are free, the reference's are 0), the same weights and witness -/
def i_Rel (_ : Nat) (u : SX) (v : SY) : Prop := ∃ (n : Nat) (g : Nat → Nat) (nw hw : Int32) (ar aw aq am ac ap br bw bl bo bm be : Nat → Int32), u = (nw, nI n, hw, ar, aw, aq, am, ac, ap) ∧ v = (nw, nI n, hw, br, bw, aq, bl, bo, bm, be) ∧ gr_G n g ∧ (∀ x, x < n → ar x = nI (g x)) ∧ (∀ x, x < 8 → br x = nI (g x)) ∧ ∀ x, x < n → aw x = bw x
theorem i_up {k : Nat} {u : SX} {v : SY} (h : i_Rel k u v) : i_Rel (k + 3) u v := h
theorem rl_0 (z : Int32) (k : Nat) : i_Rel k (z, 0, 0, (fun _ => 0), (fun _ => 0), (fun _ => 0), (fun _ => 0), (fun _ => 0), (fun _ => 0)) (z, 0, 0, (fun _ => 0), (fun _ => 0), (fun _ => 0), (fun _ => 0), (fun _ => 0), (fun _ => 0), (fun _ => 0)) := by
  have e : ∀ v x, ¬ ((fun _ => 0 : Nat → Nat) v).testBit x = true := fun v x h => by
    rw [Nat.zero_testBit] at h
    exact absurd h (by decide)
  exact ⟨0, fun _ => 0, z, 0, _, _, _, _, _, _, _, _, _, _, _, _, rfl, rfl, ⟨by decide, fun v x h => absurd h (e v x), fun v x h => absurd h (e v x), fun v h => e v v h⟩, fun x hx => absurd hx (by omega), fun x _ => rfl, fun x hx => absurd hx (by omega)⟩
theorem i_vc0 (k0 : Int32) : wpX_init (fun u => wpY_init (fun v => i_Rel 1 u v) k0) k0 := by
  refine br_c (fun a => br_c (fun b => ?_) (fun b => ?_)) (fun a => ?_)
  · exact br_t a (br_t b (rl_0 k0 1))
  · exact br_t a (br_f b (rl_0 100 1))
  · exact br_f a (rl_0 0 1)
theorem ws_eq {w w' : Nat → Int32} (m : Nat) : ∀ k, (∀ x, x < k → w x = w' x) → ws_W w m k = ws_W w' m k
  | 0, _ => rfl
  | k + 1, h => by
    rw [ws_W_s, ws_W_s, ws_eq m k (fun x hx => h x (by omega)), h k (by omega)]
theorem i_vc_addVertex {k : Nat} {u : SX} {v : SY} (I : i_Rel k u v) (hk : k + 3 ≤ 1537) (v1 : Int32) : wpX_addVertex (fun r u' => wpY_addVertex (fun r' v' => r' = r ∧ i_Rel (k + 3) u' v') v v1) u v1 := by
  have R := i_up I
  obtain ⟨n, g, nw, hw, ar, aw, aq, am, ac, ap, br, bw, bl, bo, bm, be, rfl, rfl, G, hX, hY, hW⟩ := I
  have hn := G.1
  have h8 := bs_pow8 hn
  unfold wpX_addVertex wpY_addVertex
  dsimp only
  rcases Nat.lt_or_ge n 8 with c | c
  · have hne : ¬ nI n = 8 := fun e => by
      have := (nI_eq (a := n) (b := 8) (by omega) (by decide)).mp e
      omega
    refine br_t (nI_lt (b := 8) c (by decide)) ?_
    rcases pk_ix v1 (n := 2 ^ n) (by omega) with h | h | ⟨m, hm, rfl⟩
    · exact xw_isSf hn (Or.inl h) (wz_0 (br_f hne (yw_isSf hn (Or.inl h) (wz_0 ⟨rfl, R⟩))))
    · exact xw_isSf hn (Or.inr h) (wz_0 (br_f hne (yw_isSf hn (Or.inr h) (wz_0 ⟨rfl, R⟩))))
    · have GA := ad_G G c hm
      refine xw_isSt hn hm (wz_1 (xw_join G hX c hm (fun ar' hA => ?_)))
      refine xw_find GA hA (fun N => wz_0 ?_) (fun a b c' d hb hc hd P N => wz_1 ?_)
      · refine br_f hne (yw_isSt hn hm (wz_1 ⟨vp_in_nI c (by decide), nm_e ?_⟩))
        refine yw_add G hY c hm (fun br' N' hB => ⟨rfl, ?_⟩) (fun br' a b c' d hb hc hd P N' hB => ?_)
        · refine ⟨n + 1, ad_g g n m, nw, 0, _, _, _, _, _, _, _, _, _, _, _, _, rfl, rfl, GA, hA, hB, fun x hx => ?_⟩
          show upd aw n nw x = upd bw n nw x
          by_cases e : x = n
          · rw [e, pk_us, pk_us]
          · rw [pk_un e, pk_un e]
            exact hW x (by omega)
        · exact absurd P (N a b c' d hb hc hd (by have := GA.2.1 a b P.2.1; unfold fp_K; omega))
      · refine xw_unjoin G c hm hA (fun ar'' hA' => ?_)
        refine br_f hne (yw_isSt hn hm (wz_1 ⟨vp_in_nI c (by decide), nm_e ?_⟩))
        refine yw_add G hY c hm (fun br' N' hB => ?_) (fun br' a' b' c'' d' hb' hc' hd' P' N' hB => ⟨rfl, ?_⟩)
        · exact absurd P (N' a b c' d hb hc hd (by have := GA.2.1 a b P.2.1; unfold fp_K; omega))
        · obtain ⟨rfl, rfl, rfl, rfl⟩ := fp_uniq hb hc hd hb' hc' hd' P N P' N'
          refine ⟨n, g, nw, 1, _, _, _, _, _, _, _, _, _, _, _, _, rfl, rfl, G, hA', hB, fun x hx => ?_⟩
          show upd aw n nw x = bw x
          rw [pk_un (by omega)]
          exact hW x hx
  · obtain rfl : n = 8 := by omega
    exact br_f (nI_nlt (a := 8) (b := 8) (Nat.le_refl _) (by decide)) (br_t rfl ⟨rfl, R⟩)
theorem i_vc_removeVertex {k : Nat} {u : SX} {v : SY} (I : i_Rel k u v) (hk : k + 3 ≤ 1537) (v1 : Int32) : wpX_removeVertex (fun r u' => wpY_removeVertex (fun r' v' => r' = r ∧ i_Rel (k + 3) u' v') v v1) u v1 := by
  have R := i_up I
  obtain ⟨n, g, nw, hw, ar, aw, aq, am, ac, ap, br, bw, bl, bo, bm, be, rfl, rfl, G, hX, hY, hW⟩ := I
  have hn := G.1
  unfold wpX_removeVertex wpY_removeVertex
  dsimp only
  rcases pk_ix v1 (n := n) (by omega) with h | h | ⟨a, ha, rfl⟩
  · exact xw_isVf (Or.inl h) (wz_0 (br_t h ⟨rfl, R⟩))
  · exact xw_isVf (Or.inr h) (wz_0 (br_c (fun _ => ⟨rfl, R⟩) (fun _ => br_f (Int32.not_lt.mpr h) ⟨rfl, R⟩)))
  · obtain ⟨n, rfl⟩ : ∃ m, n = m + 1 := ⟨n - 1, by omega⟩
    refine xw_isVt hn ha (wz_1 (xw_remove G hX ha (fun ar' aw' hA hA' => ?_)))
    refine br_f (nI_pos (by omega)) (br_t (nI_lt ha (by omega)) (yw_remove G hY ha (fun br' bw' hB hB' => ⟨rfl, ?_⟩)))
    refine ⟨n, rm_g g n a, nw, 0, _, _, _, _, _, _, _, _, _, _, _, _, rfl, rfl, rm_G G ha, hA, hB, fun x hx => ?_⟩
    rw [hA' x hx, hB' x hx]
    refine hW _ ?_
    unfold rm_s
    split <;> omega
theorem i_vc_complement {k : Nat} {u : SX} {v : SY} (I : i_Rel k u v) (hk : k + 3 ≤ 1537) : wpX_complement (fun r u' => wpY_complement (fun r' v' => r' = r ∧ i_Rel (k + 3) u' v') v) u := by
  obtain ⟨n, g, nw, hw, ar, aw, aq, am, ac, ap, br, bw, bl, bo, bm, be, rfl, rfl, G, hX, hY, hW⟩ := I
  refine xw_compl G hX (fun ar' hA => yw_compl G hY (fun br' hB => ⟨rfl, ?_⟩))
  exact ⟨n, cp_g g n, nw, 0, _, _, _, _, _, _, _, _, _, _, _, _, rfl, rfl, cp_G G, hA, hB, hW⟩
theorem i_vc_setWeight {k : Nat} {u : SX} {v : SY} (I : i_Rel k u v) (hk : k + 3 ≤ 1537) (v1 : Int32) (v2 : Int32) : wpX_setWeight (fun r u' => wpY_setWeight (fun r' v' => r' = r ∧ i_Rel (k + 3) u' v') v v1 v2) u v1 v2 := by
  have R := i_up I
  obtain ⟨n, g, nw, hw, ar, aw, aq, am, ac, ap, br, bw, bl, bo, bm, be, rfl, rfl, G, hX, hY, hW⟩ := I
  have hn := G.1
  unfold wpX_setWeight wpY_setWeight
  dsimp only
  rcases pk_ix v1 (n := n) (by omega) with h | h | ⟨a, ha, rfl⟩
  · exact xw_isVf (Or.inl h) (wz_0 (yw_isVf (Or.inl h) (wz_0 ⟨rfl, R⟩)))
  · exact xw_isVf (Or.inr h) (wz_0 (yw_isVf (Or.inr h) (wz_0 ⟨rfl, R⟩)))
  · refine xw_isVt hn ha (wz_1 (br_c (fun c => ?_) (fun c => br_c (fun d => ?_) (fun d => ?_))))
    · exact yw_isVt hn ha (wz_1 (br_t c ⟨rfl, R⟩))
    · refine ⟨vp_in_nI (by omega) (by decide), nm_e (yw_isVt hn ha (wz_1 (br_f c (br_t d ⟨vp_in_nI (by omega) (by decide), nm_e ⟨rfl, ?_⟩⟩))))⟩
      refine ⟨n, g, nw, hw, _, _, _, _, _, _, _, _, _, _, _, _, rfl, rfl, G, hX, hY, fun x hx => ?_⟩
      by_cases e : x = (nI a).toNatClampNeg
      · rw [e, pk_us, pk_us]
      · rw [pk_un e, pk_un e]
        exact hW x hx
    · exact yw_isVt hn ha (wz_1 (br_f c (br_f d ⟨rfl, R⟩)))
theorem i_vc_size {k : Nat} {u : SX} {v : SY} (I : i_Rel k u v) (hk : k + 3 ≤ 1537) : wpX_size (fun r => wpY_size (fun r' => r' = r ∧ i_Rel (k + 3) u v) v) u := by
  have R := i_up I
  obtain ⟨n, g, nw, hw, ar, aw, aq, am, ac, ap, br, bw, bl, bo, bm, be, rfl, rfl, G, hX, hY, hW⟩ := I
  exact And.intro rfl R
theorem i_vc_adjacent {k : Nat} {u : SX} {v : SY} (I : i_Rel k u v) (hk : k + 3 ≤ 1537) (v1 : Int32) (v2 : Int32) : wpX_adjacent (fun r => wpY_adjacent (fun r' => r' = r ∧ i_Rel (k + 3) u v) v v1 v2) u v1 v2 := by
  have R := i_up I
  obtain ⟨n, g, nw, hw, ar, aw, aq, am, ac, ap, br, bw, bl, bo, bm, be, rfl, rfl, G, hX, hY, hW⟩ := I
  have hn := G.1
  have hg := gr_256 G
  unfold wpX_adjacent wpY_adjacent
  dsimp only
  rcases pk_ix v1 (n := n) (by omega) with h | h | ⟨a, ha, rfl⟩
  · exact xw_isVf (Or.inl h) (wz_0 (yw_isVf (Or.inl h) (wz_0 ⟨rfl, R⟩)))
  · exact xw_isVf (Or.inr h) (wz_0 (yw_isVf (Or.inr h) (wz_0 ⟨rfl, R⟩)))
  · refine xw_isVt hn ha (wz_1 ?_)
    rcases pk_ix v2 (n := n) (by omega) with h | h | ⟨b, hb, rfl⟩
    · exact xw_isVf (Or.inl h) (wz_0 (yw_isVt hn ha (wz_1 (yw_isVf (Or.inl h) (wz_0 ⟨rfl, R⟩)))))
    · exact xw_isVf (Or.inr h) (wz_0 (yw_isVt hn ha (wz_1 (yw_isVf (Or.inr h) (wz_0 ⟨rfl, R⟩)))))
    · refine xw_isVt hn hb (wz_1 (xw_joined hn hX hg ha (by omega) (fun c => wz_1 ?_) (fun c => wz_0 ?_)))
      · exact yw_isVt hn ha (wz_1 (yw_isVt hn hb (wz_1 (yw_linked hY hg (by omega) (by omega) (fun _ => wz_1 ⟨rfl, R⟩) (fun z => absurd c z)))))
      · exact yw_isVt hn ha (wz_1 (yw_isVt hn hb (wz_1 (yw_linked hY hg (by omega) (by omega) (fun z => absurd z c) (fun _ => wz_0 ⟨rfl, R⟩)))))
theorem i_vc_distance {k : Nat} {u : SX} {v : SY} (I : i_Rel k u v) (hk : k + 3 ≤ 1537) (v1 : Int32) (v2 : Int32) : wpX_distance (fun r => wpY_distance (fun r' => r' = r ∧ i_Rel (k + 3) u v) v v1 v2) u v1 v2 := by
  have R := i_up I
  obtain ⟨n, g, nw, hw, ar, aw, aq, am, ac, ap, br, bw, bl, bo, bm, be, rfl, rfl, G, hX, hY, hW⟩ := I
  have hn := G.1
  unfold wpX_distance wpY_distance
  dsimp only
  rcases pk_ix v1 (n := n) (by omega) with h | h | ⟨a, ha, rfl⟩
  · exact xw_isVf (Or.inl h) (wz_0 (yw_isVf (Or.inl h) (wz_0 ⟨rfl, R⟩)))
  · exact xw_isVf (Or.inr h) (wz_0 (yw_isVf (Or.inr h) (wz_0 ⟨rfl, R⟩)))
  · refine xw_isVt hn ha (wz_1 ?_)
    rcases pk_ix v2 (n := n) (by omega) with h | h | ⟨b, hb, rfl⟩
    · exact xw_isVf (Or.inl h) (wz_0 (yw_isVt hn ha (wz_1 (yw_isVf (Or.inl h) (wz_0 ⟨rfl, R⟩)))))
    · exact xw_isVf (Or.inr h) (wz_0 (yw_isVt hn ha (wz_1 (yw_isVf (Or.inr h) (wz_0 ⟨rfl, R⟩)))))
    · obtain ⟨r, rx, ry⟩ := xy_dist (nw := nw) (hw := hw) (ar := ar) (aw := aw) (aq := aq) (am := am) (ac := ac) (ap := ap) (fr := nw) (yw := hw) (br := br) (bw := bw) (bq := aq) (bl := bl) (bo := bo) (bm := bm) (be := be) G hX hY (show b < 8 by omega) n 0 (2 ^ a) (by omega) (Nat.pow_lt_pow_right (by decide) ha)
      refine xw_isVt hn hb (wz_1 (nm_r (bs_1 a (by omega)) ⟨n + 1, rx _ ?_⟩))
      exact yw_isVt hn ha (wz_1 (yw_isVt hn hb (wz_1 (nm_r (bs_1 a (by omega)) ⟨n + 1, ry _ ⟨rfl, R⟩⟩))))
end
section
theorem i_vc_components {k : Nat} {u : SX} {v : SY} (I : i_Rel k u v) (hk : k + 3 ≤ 1537) (v1 : Int32) : wpX_components (fun r => wpY_components (fun r' v' => r' = r ∧ i_Rel (k + 3) u v') v v1) u v1 := by
  have R := i_up I
  obtain ⟨n, g, nw, hw, ar, aw, aq, am, ac, ap, br, bw, bl, bo, bm, be, rfl, rfl, G, hX, hY, hW⟩ := I
  have hn := G.1
  have h8 := bs_pow8 hn
  unfold wpX_components wpY_components
  dsimp only
  rcases pk_ix v1 (n := 2 ^ n) (by omega) with h | h | ⟨m, hm, rfl⟩
  · exact xw_isSf hn (Or.inl h) (wz_0 (yw_isSf hn (Or.inl h) (wz_0 ⟨rfl, R⟩)))
  · exact xw_isSf hn (Or.inr h) (wz_0 (yw_isSf hn (Or.inr h) (wz_0 ⟨rfl, R⟩)))
  · refine xw_isSt hn hm (wz_1 (xq_comp G hX hm ?_))
    exact yw_isSt hn hm (wz_1 (yq_comp G hY hm (fun bl' => ⟨rfl, n, g, nw, hw, _, _, _, _, _, _, _, _, _, _, _, _, rfl, rfl, G, hX, hY, hW⟩)))
theorem i_vc_cliqueNumber {k : Nat} {u : SX} {v : SY} (I : i_Rel k u v) (hk : k + 3 ≤ 1537) (v1 : Int32) : wpX_cliqueNumber (fun r => wpY_cliqueNumber (fun r' => r' = r ∧ i_Rel (k + 3) u v) v v1) u v1 := by
  have R := i_up I
  obtain ⟨n, g, nw, hw, ar, aw, aq, am, ac, ap, br, bw, bl, bo, bm, be, rfl, rfl, G, hX, hY, hW⟩ := I
  have hn := G.1
  have h8 := bs_pow8 hn
  unfold wpX_cliqueNumber wpY_cliqueNumber
  dsimp only
  rcases pk_ix v1 (n := 2 ^ n) (by omega) with h | h | ⟨m, hm, rfl⟩
  · exact xw_isSf hn (Or.inl h) (wz_0 (yw_isSf hn (Or.inl h) (wz_0 ⟨rfl, R⟩)))
  · exact xw_isSf hn (Or.inr h) (wz_0 (yw_isSf hn (Or.inr h) (wz_0 ⟨rfl, R⟩)))
  · refine xw_isSt hn hm (wz_1 (xq_number hn hX hm ?_))
    exact yw_isSt hn hm (wz_1 (yq_number G hY hm ⟨rfl, R⟩))
theorem i_vc_cliques {k : Nat} {u : SX} {v : SY} (I : i_Rel k u v) (hk : k + 3 ≤ 1537) (v1 : Int32) : wpX_cliques (fun r => wpY_cliques (fun r' => r' = r ∧ i_Rel (k + 3) u v) v v1) u v1 := by
  have R := i_up I
  obtain ⟨n, g, nw, hw, ar, aw, aq, am, ac, ap, br, bw, bl, bo, bm, be, rfl, rfl, G, hX, hY, hW⟩ := I
  have hn := G.1
  have h8 := bs_pow8 hn
  unfold wpX_cliques wpY_cliques
  dsimp only
  rcases pk_ix v1 (n := 2 ^ n) (by omega) with h | h | ⟨m, hm, rfl⟩
  · exact xw_isSf hn (Or.inl h) (wz_0 (yw_isSf hn (Or.inl h) (wz_0 ⟨rfl, R⟩)))
  · exact xw_isSf hn (Or.inr h) (wz_0 (yw_isSf hn (Or.inr h) (wz_0 ⟨rfl, R⟩)))
  · refine xw_isSt hn hm (wz_1 (xq_cliques hn hX hm ?_))
    exact yw_isSt hn hm (wz_1 (yq_cliques G hY hm ⟨rfl, R⟩))
theorem i_vc_stableSets {k : Nat} {u : SX} {v : SY} (I : i_Rel k u v) (hk : k + 3 ≤ 1537) (v1 : Int32) : wpX_stableSets (fun r => wpY_stableSets (fun r' => r' = r ∧ i_Rel (k + 3) u v) v v1) u v1 := by
  have R := i_up I
  obtain ⟨n, g, nw, hw, ar, aw, aq, am, ac, ap, br, bw, bl, bo, bm, be, rfl, rfl, G, hX, hY, hW⟩ := I
  have hn := G.1
  have h8 := bs_pow8 hn
  unfold wpX_stableSets wpY_stableSets
  dsimp only
  rcases pk_ix v1 (n := 2 ^ n) (by omega) with h | h | ⟨m, hm, rfl⟩
  · exact xw_isSf hn (Or.inl h) (wz_0 (yw_isSf hn (Or.inl h) (wz_0 ⟨rfl, R⟩)))
  · exact xw_isSf hn (Or.inr h) (wz_0 (yw_isSf hn (Or.inr h) (wz_0 ⟨rfl, R⟩)))
  · refine xw_isSt hn hm (wz_1 (xq_stables hn hX hm ?_))
    exact yw_isSt hn hm (wz_1 (yq_stables G hY hm ⟨rfl, R⟩))
theorem i_vc_heaviestStable {k : Nat} {u : SX} {v : SY} (I : i_Rel k u v) (hk : k + 3 ≤ 1537) (v1 : Int32) : wpX_heaviestStable (fun r => wpY_heaviestStable (fun r' => r' = r ∧ i_Rel (k + 3) u v) v v1) u v1 := by
  have R := i_up I
  obtain ⟨n, g, nw, hw, ar, aw, aq, am, ac, ap, br, bw, bl, bo, bm, be, rfl, rfl, G, hX, hY, hW⟩ := I
  have hn := G.1
  have h8 := bs_pow8 hn
  unfold wpX_heaviestStable wpY_heaviestStable
  dsimp only
  rcases pk_ix v1 (n := 2 ^ n) (by omega) with h | h | ⟨m, hm, rfl⟩
  · exact xw_isSf hn (Or.inl h) (wz_0 (yw_isSf hn (Or.inl h) (wz_0 ⟨rfl, R⟩)))
  · exact xw_isSf hn (Or.inr h) (wz_0 (yw_isSf hn (Or.inr h) (wz_0 ⟨rfl, R⟩)))
  · refine xw_isSt hn hm (wz_1 (xq_heavy hn hX hm ?_))
    refine yw_isSt hn hm (wz_1 (yq_heavy G hY hm ⟨?_, R⟩))
    have e : (fun i (a : Int32) => if ws_W bw i n ≤ a then a else ws_W bw i n) = (fun i (a : Int32) => if ws_W aw i n ≤ a then a else ws_W aw i n) := by
      funext i a
      rw [ws_eq i n hW]
    rw [e]
theorem i_vc_colours {k : Nat} {u : SX} {v : SY} (I : i_Rel k u v) (hk : k + 3 ≤ 1537) (v1 : Int32) : wpX_colours (fun r u' => wpY_colours (fun r' v' => r' = r ∧ i_Rel (k + 3) u' v') v v1) u v1 := by
  have R := i_up I
  obtain ⟨n, g, nw, hw, ar, aw, aq, am, ac, ap, br, bw, bl, bo, bm, be, rfl, rfl, G, hX, hY, hW⟩ := I
  have hn := G.1
  have h8 := bs_pow8 hn
  unfold wpX_colours wpY_colours
  dsimp only
  rcases pk_ix v1 (n := 2 ^ n) (by omega) with h | h | ⟨m, hm, rfl⟩
  · exact xw_isSf hn (Or.inl h) (wz_0 (yw_isSf hn (Or.inl h) (wz_0 ⟨rfl, R⟩)))
  · exact xw_isSf hn (Or.inr h) (wz_0 (yw_isSf hn (Or.inr h) (wz_0 ⟨rfl, R⟩)))
  · refine xw_isSt hn hm (wz_1 (nm_e (xq_colours G hX hm (fun C ac' hC => ?_) pk_us)))
    refine yw_isSt hn hm (wz_1 (yq_colours G hY hm (fun D bm' be' hD => ⟨?_, n, g, nw, hw, _, _, _, _, _, _, _, _, _, _, _, _, rfl, rfl, G, hX, hY, hW⟩)))
    rw [co_same hC hD (by omega) (by omega)]
theorem i_vc_isModule {k : Nat} {u : SX} {v : SY} (I : i_Rel k u v) (hk : k + 3 ≤ 1537) (v1 : Int32) : wpX_isModule (fun r => wpY_isModule (fun r' => r' = r ∧ i_Rel (k + 3) u v) v v1) u v1 := by
  have R := i_up I
  obtain ⟨n, g, nw, hw, ar, aw, aq, am, ac, ap, br, bw, bl, bo, bm, be, rfl, rfl, G, hX, hY, hW⟩ := I
  have hn := G.1
  have h8 := bs_pow8 hn
  unfold wpX_isModule wpY_isModule
  dsimp only
  rcases pk_ix v1 (n := 2 ^ n) (by omega) with h | h | ⟨m, hm, rfl⟩
  · exact xw_isSf hn (Or.inl h) (wz_0 (yw_isSf hn (Or.inl h) (wz_0 ⟨rfl, R⟩)))
  · exact xw_isSf hn (Or.inr h) (wz_0 (yw_isSf hn (Or.inr h) (wz_0 ⟨rfl, R⟩)))
  · refine xw_isSt hn hm (wz_1 (br_c (fun c => ?_) (fun c => ?_)))
    · exact yw_isSt hn hm (wz_1 (br_t c ⟨rfl, R⟩))
    · refine xw_alike hn hX (gr_256 G) hm (fun A => wz_1 ?_) (fun A => wz_0 ?_)
      · exact yw_isSt hn hm (wz_1 (br_f c (yw_alike G hY hm (fun _ => ⟨rfl, R⟩) (fun z => absurd A z))))
      · exact yw_isSt hn hm (wz_1 (br_f c (yw_alike G hY hm (fun z => absurd z A) (fun _ => ⟨rfl, R⟩))))
theorem i_vc_measure {k : Nat} {u : SX} {v : SY} (I : i_Rel k u v) (hk : k + 3 ≤ 1537) (v1 : Int32) : wpX_measure (fun r u' => wpY_measure (fun r' v' => r' = r ∧ i_Rel (k + 3) u' v') v v1) u v1 := by
  have R := i_up I
  obtain ⟨n, g, nw, hw, ar, aw, aq, am, ac, ap, br, bw, bl, bo, bm, be, rfl, rfl, G, hX, hY, hW⟩ := I
  unfold wpX_measure wpY_measure
  dsimp only
  refine br_c (fun c => ?_) (fun c => br_c (fun d => ?_) (fun d => ?_))
  · refine xq_strong G hX (fun am' => ?_)
    refine br_t c (yq_strong G hY (fun bm' => ⟨rfl, n, g, nw, hw, _, _, _, _, _, _, _, _, _, _, _, _, rfl, rfl, G, hX, hY, hW⟩))
  · refine xq_paths G hX (fun ap' f hf => ?_)
    refine br_f c (br_t d (yq_paths G hY (fun bo' f' hf' => ⟨?_, n, g, nw, hw, _, _, _, _, _, _, _, _, _, _, _, _, rfl, rfl, G, hX, hY, hW⟩)))
    have e : f' = f := by
      rcases hf with ⟨a, b⟩ | ⟨a, b⟩
      · rcases hf' with ⟨a', b'⟩ | ⟨a', b'⟩
        · omega
        · omega
      · rcases hf' with ⟨a', b'⟩ | ⟨a', b'⟩
        · omega
        · exact pt_A_uniq b' b
    rw [e]
  · exact br_f c (br_f d ⟨rfl, R⟩)
theorem i_vc_witness {k : Nat} {u : SX} {v : SY} (I : i_Rel k u v) (hk : k + 3 ≤ 1537) (v1 : Int32) : wpX_witness (fun r => wpY_witness (fun r' => r' = r ∧ i_Rel (k + 3) u v) v v1) u v1 := by
  have R := i_up I
  obtain ⟨n, g, nw, hw, ar, aw, aq, am, ac, ap, br, bw, bl, bo, bm, be, rfl, rfl, G, hX, hY, hW⟩ := I
  refine br_c (fun c => br_t c ⟨rfl, R⟩) (fun c => br_c (fun d => br_f c (br_t d ⟨rfl, R⟩)) (fun d => br_c (fun e => ?_) (fun e => ?_)))
  · obtain ⟨j, hj, rfl⟩ := nI_of d
    have hj4 : j < 4 := (nI_ltI (b := 4) hj (by decide)).mp e
    exact ⟨vp_in_nI hj4 (by decide), br_f c (br_f d (br_t (nI_le (b := 3) (by omega) (by decide)) ⟨vp_in_nI hj4 (by decide), rfl, R⟩))⟩
  · obtain ⟨j, hj, rfl⟩ := nI_of d
    have hj4 : ¬ j < 4 := fun z => e ((nI_ltI (b := 4) hj (by decide)).mpr z)
    exact br_f c (br_f d (br_f (nI_ge (a := 3) (by omega) hj) ⟨rfl, R⟩))
end
