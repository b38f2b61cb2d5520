section
/-! Numbers and stores (rows of the kit, pasted) -/
theorem pk_us {f : Nat → Int32} {k : Nat} {x : Int32} : upd f k x k = x := if_pos rfl
theorem pk_un {f : Nat → Int32} {k j : Nat} {x : Int32} (h : j ≠ k) : upd f k x j = f j := if_neg h
theorem pk_sub {a b : Nat} (h : b ≤ a) : nI a - nI b = nI (a - b) := by
  obtain ⟨c, rfl⟩ : ∃ c, a = c + b := ⟨a - b, by omega⟩
  rw [← nI_add, Int32.add_sub_cancel, Nat.add_sub_cancel]
theorem pk_m1 (n : Nat) : nI (n + 1) + (-1) = nI n := by
  rw [← nI_1, Int32.add_assoc, show (1 : Int32) + (-1) = 0 from rfl, Int32.add_zero]
theorem pk_mul (a b : Nat) : nI a * nI b = nI (a * b) := (Int32.ofNat_mul a b).symm
theorem pk_sub_toInt {a b : Nat} (ha : a < 2 ^ 30) (hb : b < 2 ^ 30) : (nI a - nI b).toInt = (a : Int) - b := by
  rw [Int32.toInt_sub, nI_toInt (by omega), nI_toInt (by omega)]
  exact Int.bmod_eq_of_le (by omega) (by omega)
theorem pk_sneg {a b : Nat} (hb : b < 2 ^ 30) (h : a < b) : nI a - nI b < 0 := by
  rw [Int32.lt_iff_toInt_lt, pk_sub_toInt (by omega) hb, show (0 : Int32).toInt = 0 from by decide]
  omega
theorem pk_ix (x : Int32) {n : Nat} (hn : n < 2 ^ 31) : x < 0 ∨ nI n ≤ x ∨ ∃ j : Nat, j < n ∧ x = nI j := by
  by_cases h : x < 0
  · exact Or.inl h
  · obtain ⟨j, hj, rfl⟩ := nI_of h
    by_cases h2 : j < n
    · exact Or.inr (Or.inr ⟨j, h2, rfl⟩)
    · exact Or.inr (Or.inl (nI_le (by omega) hj))
theorem pk_le {x y : Int32} {A B : Prop} (a b : Nat) (f : a ≤ b → A) (g : b < a → B) (hx : x = nI a := by rfl) (hy : y = nI b := by rfl) (ha : a < 2 ^ 31 := by omega) (hb : b < 2 ^ 31 := by omega) : (x ≤ y → A) ∧ (¬ x ≤ y → B) := by
  subst hx hy
  rw [nI_leI ha hb]
  exact ⟨f, fun z => g (by omega)⟩
theorem pk_lt {x y : Int32} {A B : Prop} (a b : Nat) (f : a < b → A) (g : b ≤ a → B) (hx : x = nI a := by rfl) (hy : y = nI b := by rfl) (ha : a < 2 ^ 31 := by omega) (hb : b < 2 ^ 31 := by omega) : (x < y → A) ∧ (¬ x < y → B) := by
  subst hx hy
  rw [nI_ltI ha hb]
  exact ⟨f, fun z => g (by omega)⟩
theorem pk_eq {x y : Int32} {A B : Prop} (a b : Nat) (f : a = b → A) (g : a ≠ b → B) (hx : x = nI a := by rfl) (hy : y = nI b := by rfl) (ha : a < 2 ^ 31 := by omega) (hb : b < 2 ^ 31 := by omega) : (x = y → A) ∧ (¬ x = y → B) := by
  subst hx hy
  rw [nI_eq ha hb]
  exact ⟨f, g⟩
theorem pk_in {x : Int32} (n N : Nat) (h : n < N) (hx : x = nI n := by rfl) (hN : N < 2 ^ 31 := by omega) : vp_in x N := by
  subst hx
  exact vp_in_nI h hN
theorem pk_cl {x : Int32} (n : Nat) (hx : x = nI n := by rfl) (h : n < 2 ^ 31 := by omega) : x.toNatClampNeg = n := by
  subst hx
  exact nI_clamp h
theorem pk_and (x : Int32) {m : Int32} (k : Nat) (hm : m.toBitVec.toNat = 2 ^ k - 1) : x &&& m = nI (x.toBitVec.toNat % 2 ^ k) := by
  apply Int32.toBitVec_inj.mp
  apply BitVec.eq_of_toNat_eq
  rw [Int32.toBitVec_and, BitVec.toNat_and, hm, Nat.and_two_pow_sub_one_eq_mod]
  show _ = (BitVec.ofNat 32 _).toNat
  rw [BitVec.toNat_ofNat]
  exact (Nat.mod_eq_of_lt (Nat.lt_of_le_of_lt (Nat.mod_le _ _) x.toBitVec.isLt)).symm
theorem pk_tn {n : Nat} (h : n < 2 ^ 32) : (nI n).toBitVec.toNat = n := Nat.mod_eq_of_lt h
theorem pk_andN {n : Nat} (h : n < 2 ^ 32) {m : Int32} (k : Nat) (hm : m.toBitVec.toNat = 2 ^ k - 1) : nI n &&& m = nI (n % 2 ^ k) := by
  rw [pk_and _ k hm, pk_tn h]
theorem pk_least (P : Nat → Prop) (h : ∃ k, P k) : ∃ k, P k ∧ ∀ j, j < k → ¬ P j := by
  obtain ⟨k, hk⟩ := h
  induction k using Nat.strongRecOn with
  | ind k ih =>
    by_cases h : ∃ j, j < k ∧ P j
    · obtain ⟨j, hj, hp⟩ := h
      exact ih j hj hp
    · exact ⟨k, hk, fun j hj hp => h ⟨j, hj, hp⟩⟩

/-! An instruction's parts -/
def wm_op (i : Int32) : Nat := i.toBitVec.toNat % 2 ^ 4
def wm_d (i : Int32) : Nat := (i >>> ((4 : Int32) &&& 31)).toBitVec.toNat % 2 ^ 3
def wm_a (i : Int32) : Nat := (i >>> ((7 : Int32) &&& 31)).toBitVec.toNat % 2 ^ 3
def wm_b (i : Int32) : Nat := (i >>> ((10 : Int32) &&& 31)).toBitVec.toNat % 2 ^ 3
def wm_t (x : Int32) : Nat := x.toBitVec.toNat % 2 ^ 6
theorem wm_op_lt (i : Int32) : wm_op i < 16 := Nat.mod_lt _ (by decide)
theorem wm_d_lt (i : Int32) : wm_d i < 8 := Nat.mod_lt _ (by decide)
theorem wm_a_lt (i : Int32) : wm_a i < 8 := Nat.mod_lt _ (by decide)
theorem wm_b_lt (i : Int32) : wm_b i < 8 := Nat.mod_lt _ (by decide)
theorem wm_t_lt (i : Int32) : wm_t i < 64 := Nat.mod_lt _ (by decide)
theorem wm_op_e (i : Int32) : i &&& 15 = nI (wm_op i) := pk_and i 4 (by decide)
theorem wm_d_e (i : Int32) : (i >>> ((4 : Int32) &&& 31)) &&& 7 = nI (wm_d i) := pk_and _ 3 (by decide)
theorem wm_a_e (i : Int32) : (i >>> ((7 : Int32) &&& 31)) &&& 7 = nI (wm_a i) := pk_and _ 3 (by decide)
theorem wm_b_e (i : Int32) : (i >>> ((10 : Int32) &&& 31)) &&& 7 = nI (wm_b i) := pk_and _ 3 (by decide)
theorem wm_t_e (x : Int32) : x &&& 63 = nI (wm_t x) := pk_and x 6 (by decide)
abbrev wm_last (o : Nat) : Prop := o = 0 ∨ o = 7 ∨ o = 8 ∨ 13 < o
abbrev wm_wD (o : Nat) : Prop := ¬ wm_last o ∧ o ≠ 6
abbrev wm_rA (o : Nat) : Prop := ¬ wm_last o ∨ o = 8
abbrev wm_rB (o : Nat) : Prop := ¬ wm_last o ∧ o ≠ 4 ∧ o ≠ 5 ∧ o ≠ 12
def wm_lat (o : Nat) : Nat := if o = 5 then 2 else if o = 3 then 3 else if o = 13 then 4 else 1
theorem wm_lat_r (o : Nat) : 1 ≤ wm_lat o ∧ wm_lat o ≤ 4 := by
  unfold wm_lat
  split
  · omega
  · split
    · omega
    · split <;> omega
abbrev wm_Wr (i : Int32) (r : Nat) : Prop := wm_wD (wm_op i) ∧ wm_d i = r
abbrev wm_Rd (i : Int32) (r : Nat) : Prop := (wm_rA (wm_op i) ∧ wm_a i = r) ∨ (wm_rB (wm_op i) ∧ wm_b i = r)
abbrev wm_mo (p q : Nat) : Prop := (p = 6 ∧ (q = 5 ∨ q = 6)) ∨ (p = 5 ∧ q = 6)
abbrev wm_su (p q : Nat) : Prop := ((p = 5 ∨ p = 6) ∧ (q = 5 ∨ q = 6)) ∨ ((p = 3 ∨ p = 13) ∧ (q = 3 ∨ q = 13))

/-! Registers as bits -/
def wm_bit (p : Bool) (d : Nat) : Int32 := if p = true then (1 : Int32) <<< (nI d &&& 31) else 0
def wm_mW (i : Int32) : Int32 := wm_bit (decide (wm_wD (wm_op i))) (wm_d i)
def wm_mR (i : Int32) : Int32 := wm_bit (decide (wm_rA (wm_op i))) (wm_a i) ||| wm_bit (decide (wm_rB (wm_op i))) (wm_b i)
theorem wm_tabR : ∀ (p q s : Bool) (d a b : Fin 8), (wm_bit p d.val &&& (wm_bit q a.val ||| wm_bit s b.val) = 0) ↔ ¬ (p = true ∧ ((q = true ∧ a.val = d.val) ∨ (s = true ∧ b.val = d.val))) := by decide +kernel
theorem wm_tabW : ∀ (p q : Bool) (d a : Fin 8), (wm_bit p d.val &&& wm_bit q a.val = 0) ↔ ¬ (p = true ∧ q = true ∧ a.val = d.val) := by decide +kernel
theorem wm_WR (x y : Int32) : (wm_mW x &&& wm_mR y = 0) ↔ ¬ ∃ r, wm_Wr x r ∧ wm_Rd y r := by
  have h := wm_tabR (decide (wm_wD (wm_op x))) (decide (wm_rA (wm_op y))) (decide (wm_rB (wm_op y))) ⟨wm_d x, wm_d_lt x⟩ ⟨wm_a y, wm_a_lt y⟩ ⟨wm_b y, wm_b_lt y⟩
  rw [decide_eq_true_iff, decide_eq_true_iff, decide_eq_true_iff] at h
  refine Iff.trans h (not_congr ⟨fun z => ⟨wm_d x, ⟨z.1, rfl⟩, z.2⟩, ?_⟩)
  rintro ⟨r, ⟨h1, rfl⟩, h2⟩
  exact ⟨h1, h2⟩
theorem wm_RW (x y : Int32) : (wm_mR x &&& wm_mW y = 0) ↔ ¬ ∃ r, wm_Rd x r ∧ wm_Wr y r := by
  rw [Int32.and_comm, wm_WR]
  exact not_congr ⟨fun ⟨r, a, b⟩ => ⟨r, b, a⟩, fun ⟨r, a, b⟩ => ⟨r, b, a⟩⟩
theorem wm_WW (x y : Int32) : (wm_mW x &&& wm_mW y = 0) ↔ ¬ ∃ r, wm_Wr x r ∧ wm_Wr y r := by
  have h := wm_tabW (decide (wm_wD (wm_op x))) (decide (wm_wD (wm_op y))) ⟨wm_d x, wm_d_lt x⟩ ⟨wm_d y, wm_d_lt y⟩
  rw [decide_eq_true_iff, decide_eq_true_iff] at h
  refine Iff.trans h (not_congr ⟨fun z => ⟨wm_d x, ⟨z.1, rfl⟩, z.2⟩, ?_⟩)
  rintro ⟨r, ⟨h1, rfl⟩, h2⟩
  exact ⟨h1, h2⟩

/-! The cycles of a block: I its instructions, C their cycles -/
def wm_DJ (I : Nat → Int32) (C : Nat → Nat) (k c j : Nat) : Prop :=
  ((∃ r, wm_Wr (I j) r ∧ wm_Rd (I k) r) → C j + wm_lat (wm_op (I j)) ≤ c) ∧
  ((∃ r, wm_Wr (I j) r ∧ wm_Wr (I k) r) → C j + wm_lat (wm_op (I j)) < c + wm_lat (wm_op (I k))) ∧
  ((∃ r, wm_Rd (I j) r ∧ wm_Wr (I k) r) → C j ≤ c) ∧
  (wm_last (wm_op (I k)) → C j ≤ c) ∧
  (wm_mo (wm_op (I j)) (wm_op (I k)) → C j < c)
def wm_cnt (C : Nat → Nat) (c : Nat) : Nat → Nat
  | 0 => 0
  | k + 1 => wm_cnt C c k + (if C k = c then 1 else 0)
def wm_Room (I : Nat → Int32) (wd : Nat) (C : Nat → Nat) (k c : Nat) : Prop :=
  wm_cnt C c k < wd ∧ ∀ j, j < k → C j = c → ¬ wm_su (wm_op (I j)) (wm_op (I k))
def wm_Fit (I : Nat → Int32) (wd : Nat) (C : Nat → Nat) (k c : Nat) : Prop :=
  1 ≤ c ∧ (∀ j, j < k → wm_DJ I C k c j) ∧ wm_Room I wd C k c
def wm_Sch (I : Nat → Int32) (wd : Nat) (C : Nat → Nat) (n : Nat) : Prop :=
  ∀ k, k < n → wm_Fit I wd C k (C k) ∧ (∀ c, c < C k → ¬ wm_Fit I wd C k c) ∧ C k ≤ 16 * k + 5
theorem wm_cnt_c {C C' : Nat → Nat} {c : Nat} : ∀ k, (∀ j, j < k → C' j = C j) → wm_cnt C' c k = wm_cnt C c k := by
  intro k
  induction k with
  | zero => intro _; rfl
  | succ k ih =>
    intro h
    simp only [wm_cnt]
    rw [ih (fun j hj => h j (by omega)), h k (by omega)]
theorem wm_cnt_0 {C : Nat → Nat} {c : Nat} : ∀ k, (∀ j, j < k → C j ≠ c) → wm_cnt C c k = 0 := by
  intro k
  induction k with
  | zero => intro _; rfl
  | succ k ih =>
    intro h
    simp only [wm_cnt]
    rw [ih (fun j hj => h j (by omega)), if_neg (h k (by omega))]
theorem wm_cnt_n {C : Nat → Nat} {c : Nat} : ∀ k, wm_cnt C c k = 0 → ∀ j, j < k → C j ≠ c := by
  intro k
  induction k with
  | zero => intro _ j hj; omega
  | succ k ih =>
    intro h j hj e
    simp only [wm_cnt] at h
    by_cases hk : j = k
    · subst hk
      rw [if_pos e] at h
      omega
    · exact ih (by omega) j (by omega) e
theorem wm_Room_0 {I : Nat → Int32} {wd : Nat} {C : Nat → Nat} {k c : Nat} (hw : 1 ≤ wd) (h : wm_cnt C c k = 0) : wm_Room I wd C k c :=
  ⟨by omega, fun j hj e => absurd e (wm_cnt_n k h j hj)⟩
theorem wm_Room_1 {I : Nat → Int32} {wd : Nat} {C : Nat → Nat} {k c : Nat} (hw : 1 ≤ wd) (h : ¬ wm_Room I wd C k c) : 1 ≤ wm_cnt C c k := by
  by_cases z : wm_cnt C c k = 0
  · exact absurd (wm_Room_0 hw z) h
  · omega
theorem wm_Fit_c {I : Nat → Int32} {wd : Nat} {C C' : Nat → Nat} {k c : Nat} (h : ∀ j, j < k → C' j = C j) (f : wm_Fit I wd C k c) : wm_Fit I wd C' k c := by
  refine ⟨f.1, fun j hj => ?_, ?_, fun j hj => ?_⟩
  · have := f.2.1 j hj
    unfold wm_DJ at this ⊢
    rw [h j hj]
    exact this
  · rw [wm_cnt_c k h]
    exact f.2.2.1
  · rw [h j hj]
    exact f.2.2.2 j hj
theorem wm_Sch_ex (I : Nat → Int32) {wd : Nat} (hw : 1 ≤ wd) : ∀ n, ∃ C, wm_Sch I wd C n := by
  intro n
  induction n with
  | zero => exact ⟨fun _ => 0, fun k hk => by omega⟩
  | succ n ih =>
    obtain ⟨C, hC⟩ := ih
    have hF : wm_Fit I wd C n (16 * n + 5) := by
      refine ⟨by omega, fun j hj => ?_, wm_Room_0 hw (wm_cnt_0 n fun j hj => ?_)⟩
      · have h1 := (hC j hj).2.2
        have h2 := wm_lat_r (wm_op (I j))
        exact ⟨fun _ => by omega, fun _ => by omega, fun _ => by omega, fun _ => by omega, fun _ => by omega⟩
      · have h1 := (hC j hj).2.2
        omega
    obtain ⟨c, hc, hl⟩ := pk_least (fun c => wm_Fit I wd C n c) ⟨_, hF⟩
    refine ⟨fun j => if j = n then c else C j, fun k hk => ?_⟩
    have hag : ∀ j, j < n → (fun j => if j = n then c else C j) j = C j := fun j hj => if_neg (by omega)
    have hag' : ∀ j, j < n → C j = (fun j => if j = n then c else C j) j := fun j hj => (hag j hj).symm
    by_cases e : k = n
    · subst e
      have e2 : (fun j => if j = k then c else C j) k = c := if_pos rfl
      rw [e2]
      refine ⟨wm_Fit_c hag hc, fun c' hc' f => hl c' hc' (wm_Fit_c hag' f), ?_⟩
      by_cases hle : 16 * k + 5 < c
      · exact absurd hF (hl _ hle)
      · omega
    · have hk' : k < n := by omega
      rw [hag k hk']
      refine ⟨wm_Fit_c (fun j hj => hag j (by omega)) (hC k hk').1, fun c' hc' f => (hC k hk').2.1 c' hc' (wm_Fit_c (fun j hj => hag' j (by omega)) f), (hC k hk').2.2⟩
/-- of two that write one register the later one is done later -/
theorem wm_waw {I : Nat → Int32} {wd : Nat} {C : Nat → Nat} {n : Nat} (h : wm_Sch I wd C n) {r i j : Nat} (hij : i < j) (hj : j < n) (hi : wm_Wr (I i) r) (hw : wm_Wr (I j) r) :
    C i + wm_lat (wm_op (I i)) < C j + wm_lat (wm_op (I j)) := ((h j hj).1.2.1 i hij).2.1 ⟨r, hi, hw⟩
theorem wm_C1 {I : Nat → Int32} {wd : Nat} {C : Nat → Nat} {n : Nat} (h : wm_Sch I wd C n) {j : Nat} (hj : j < n) : 1 ≤ C j ∧ C j ≤ 16 * j + 5 := ⟨(h j hj).1.1, (h j hj).2.2⟩

/-! The drawers: k of them full, the next is empty -/
def wm_rng (C : Nat → Nat) (L t : Nat) : Nat → Nat
  | 0 => 0
  | k + 1 => wm_rng C L t k + (if L ≤ C k ∧ C k < L + t then 1 else 0)
theorem wm_rng_s (C : Nat → Nat) (L t : Nat) : ∀ k, wm_rng C L (t + 1) k = wm_rng C L t k + wm_cnt C (L + t) k := by
  intro k
  induction k with
  | zero => rfl
  | succ k ih =>
    simp only [wm_rng, wm_cnt]
    rw [ih]
    by_cases h1 : C k = L + t
    · rw [if_pos (by omega), if_neg (by omega), if_pos h1]
      omega
    · by_cases h2 : L ≤ C k ∧ C k < L + t
      · rw [if_pos (by omega), if_pos h2, if_neg h1]
        omega
      · rw [if_neg (by omega), if_neg h2, if_neg h1]
        omega
theorem wm_rng_le (C : Nat → Nat) (L t : Nat) : ∀ k, wm_rng C L t k ≤ k := by
  intro k
  induction k with
  | zero => exact Nat.le_refl 0
  | succ k ih =>
    simp only [wm_rng]
    split <;> omega
theorem wm_rng_ge (C : Nat → Nat) (L k : Nat) : ∀ t, (∀ s, s < t → 1 ≤ wm_cnt C (L + s) k) → t ≤ wm_rng C L t k := by
  intro t
  induction t with
  | zero => intro _; omega
  | succ t ih =>
    intro h
    rw [wm_rng_s]
    have h1 := ih (fun s hs => h s (by omega))
    have h2 := h t (by omega)
    omega
theorem wm_pig {C : Nat → Nat} {L k : Nat} (h : ∀ s, s < k → 1 ≤ wm_cnt C (L + s) k) : wm_cnt C (L + k) k = 0 := by
  have h1 := wm_rng_ge C L k k h
  have h2 := wm_rng_le C L (k + 1) k
  rw [wm_rng_s] at h2
  omega

/-! The least cycle that the earlier ones leave, and the first with room from there -/
def wm_Lst (I : Nat → Int32) (C : Nat → Nat) (k e L : Nat) : Prop := ∀ c, L ≤ c ↔ (1 ≤ c ∧ ∀ j, j < e → wm_DJ I C k c j)
theorem wm_Lst_0 (I : Nat → Int32) (C : Nat → Nat) (k : Nat) : wm_Lst I C k 0 1 := fun _ => ⟨fun h => ⟨h, fun j hj => by omega⟩, fun h => h.1⟩
theorem wm_Lst_s {I : Nat → Int32} {C : Nat → Nat} {k e L B : Nat} (h : wm_Lst I C k e L) (hB : ∀ c, B ≤ c ↔ (1 ≤ c ∧ wm_DJ I C k c e)) : wm_Lst I C k (e + 1) (max L B) := by
  intro c
  rw [Nat.max_le, h c, hB c]
  constructor
  · rintro ⟨⟨h1, h2⟩, _, h4⟩
    exact ⟨h1, lt_s h2 h4⟩
  · rintro ⟨h1, h2⟩
    exact ⟨⟨h1, fun j hj => h2 j (by omega)⟩, h1, h2 e (by omega)⟩
theorem wm_Lst_1 {I : Nat → Int32} {C : Nat → Nat} {k e L : Nat} (h : wm_Lst I C k e L) : 1 ≤ L := ((h L).mp (Nat.le_refl L)).1
theorem wm_DJ_big {I : Nat → Int32} {wd : Nat} {C : Nat → Nat} {n k c j : Nat} (h : wm_Sch I wd C n) (hj : j < n) (hc : 16 * j + 10 ≤ c) : wm_DJ I C k c j := by
  have h1 := (h j hj).2.2
  have h2 := wm_lat_r (wm_op (I j))
  exact ⟨fun _ => by omega, fun _ => by omega, fun _ => by omega, fun _ => by omega, fun _ => by omega⟩
theorem wm_Lst_b {I : Nat → Int32} {wd : Nat} {C : Nat → Nat} {n k e L : Nat} (h : wm_Sch I wd C n) (he : e ≤ n) (hL : wm_Lst I C k e L) : L ≤ 16 * e + 10 :=
  (hL _).mpr ⟨by omega, fun j hj => wm_DJ_big h (by omega) (by omega)⟩
theorem wm_first {I : Nat → Int32} {wd : Nat} {C : Nat → Nat} {n k L t : Nat} (h : wm_Sch I wd C n) (hk : k < n) (hL : wm_Lst I C k k L) (h0 : ∀ s, s < t → ¬ wm_Room I wd C k (L + s)) (h1 : wm_Room I wd C k (L + t)) : C k = L + t := by
  have hF : wm_Fit I wd C k (L + t) := by
    have := (hL (L + t)).mp (by omega)
    exact ⟨this.1, this.2, h1⟩
  have hf := (h k hk).1
  have hge : L ≤ C k := (hL (C k)).mpr ⟨hf.1, hf.2.1⟩
  have hle : ¬ L + t < C k := fun z => (h k hk).2.1 _ z hF
  by_cases hlt : C k < L + t
  · have := h0 (C k - L) (by omega)
    rw [show L + (C k - L) = C k by omega] at this
    exact absurd hf.2.2 this
  · omega
theorem wm_lastTry {I : Nat → Int32} {wd : Nat} {C : Nat → Nat} {k L : Nat} (hw : 1 ≤ wd) (h0 : ∀ s, s < k → ¬ wm_Room I wd C k (L + s)) : wm_Room I wd C k (L + k) :=
  wm_Room_0 hw (wm_pig fun s hs => wm_Room_1 hw (h0 s hs))
/-- a block's time -/
def wm_tm (I : Nat → Int32) (C : Nat → Nat) : Nat → Nat
  | 0 => 0
  | k + 1 => max (wm_tm I C k) (C k + wm_lat (wm_op (I k)) - 1)
theorem wm_tm_b {I : Nat → Int32} {wd : Nat} {C : Nat → Nat} {n : Nat} (h : wm_Sch I wd C n) : ∀ k, k ≤ n → wm_tm I C k ≤ 16 * k + 8 := by
  intro k
  induction k with
  | zero => intro _; simp only [wm_tm]; omega
  | succ k ih =>
    intro hk
    have h1 := ih (by omega)
    have h2 := (h k (by omega)).2.2
    have h3 := wm_lat_r (wm_op (I k))
    simp only [wm_tm]
    omega

/-! A block's length -/
def wm_lf (w : Nat → Int32) : Nat → Nat → Nat
  | 0, _ => 0
  | f + 1, s => if s + 1 < 64 ∧ ¬ wm_last (wm_op (w s)) then wm_lf w f (s + 1) + 1 else 1
theorem wm_lf_s (w : Nat → Int32) (f s : Nat) : wm_lf w (f + 1) s = if s + 1 < 64 ∧ ¬ wm_last (wm_op (w s)) then wm_lf w f (s + 1) + 1 else 1 := rfl
def wm_len (w : Nat → Int32) (s : Nat) : Nat := wm_lf w 8 s
theorem wm_lf_r (w : Nat → Int32) : ∀ f s, wm_lf w f s ≤ f ∧ (s < 64 → s + wm_lf w f s ≤ 64) := by
  intro f
  induction f with
  | zero => intro s; simp only [wm_lf]; omega
  | succ f ih =>
    intro s
    rw [wm_lf_s]
    have := ih (s + 1)
    split <;> omega
theorem wm_len_r (w : Nat → Int32) {s : Nat} (hs : s < 64) : 1 ≤ wm_len w s ∧ wm_len w s ≤ 8 ∧ s + wm_len w s ≤ 64 := by
  have h := wm_lf_r w 8 s
  refine ⟨?_, h.1, h.2 hs⟩
  unfold wm_len
  rw [wm_lf_s]
  split <;> omega
theorem wm_lf_n (w : Nat → Int32) : ∀ f s j, j + 1 < wm_lf w f s → ¬ wm_last (wm_op (w (s + j))) := by
  intro f
  induction f with
  | zero => intro s j h; simp only [wm_lf] at h; omega
  | succ f ih =>
    intro s j h
    rw [wm_lf_s] at h
    by_cases c : s + 1 < 64 ∧ ¬ wm_last (wm_op (w s))
    · rw [if_pos c] at h
      cases j with
      | zero => exact c.2
      | succ j =>
        have := ih (s + 1) j (by omega)
        rw [show s + 1 + j = s + (j + 1) by omega] at this
        exact this
    · rw [if_neg c] at h
      omega
theorem wm_len_n (w : Nat → Int32) {s j : Nat} (h : j + 1 < wm_len w s) : ¬ wm_last (wm_op (w (s + j))) := wm_lf_n w 8 s j h
theorem wm_lf_c {w w' : Nat → Int32} : ∀ f s, (∀ j, j < wm_lf w f s → w' (s + j) = w (s + j)) → wm_lf w' f s = wm_lf w f s := by
  intro f
  induction f with
  | zero => intro s _; rfl
  | succ f ih =>
    intro s h
    rw [wm_lf_s] at h
    rw [wm_lf_s, wm_lf_s]
    by_cases c : s + 1 < 64 ∧ ¬ wm_last (wm_op (w s))
    · rw [if_pos c] at h
      have h0 := h 0 (by omega)
      rw [Nat.add_zero] at h0
      rw [h0, if_pos c, if_pos c, ih (s + 1) fun j hj => ?_]
      have := h (j + 1) (by omega)
      rw [show s + 1 + j = s + (j + 1) by omega]
      exact this
    · rw [if_neg c] at h
      have h0 := h 0 (by omega)
      rw [Nat.add_zero] at h0
      rw [h0, if_neg c, if_neg c]
theorem wm_len_c {w w' : Nat → Int32} {s : Nat} (h : ∀ j, j < wm_len w s → w' (s + j) = w (s + j)) : wm_len w' s = wm_len w s := wm_lf_c 8 s h
theorem wm_len_u {w : Nat → Int32} {s a : Nat} {v : Int32} (h : ¬ (s ≤ a ∧ a < s + wm_len w s)) : wm_len (upd w a v) s = wm_len w s :=
  wm_len_c fun j hj => pk_un (by omega)

/-! The kept blocks: a list, and arrays that hold it from cell 0 on -/
def wm_hit (w : Nat → Int32) (a s : Nat) : Prop := s ≤ a ∧ a < s + wm_len w s
def wm_kp (w : Nat → Int32) (a s : Nat) : Bool := decide (¬ (s ≤ a ∧ a < s + wm_len w s))
def wm_keep (w : Nat → Int32) (a : Nat) (l : List Nat) : List Nat := l.filter (wm_kp w a)
theorem wm_kp_t {w : Nat → Int32} {a s : Nat} (h : ¬ wm_hit w a s) : wm_kp w a s = true := decide_eq_true h
theorem wm_kp_f {w : Nat → Int32} {a s : Nat} (h : wm_hit w a s) : wm_kp w a s = false := decide_eq_false (fun z => z h)
theorem wm_kp_i {w : Nat → Int32} {a s : Nat} (h : wm_kp w a s = true) : ¬ wm_hit w a s := of_decide_eq_true (p := ¬ (s ≤ a ∧ a < s + wm_len w s)) h
def wm_R (f : Nat → Int32) (a : Nat → Int32) (l : List Nat) : Prop := ∀ i x : Nat, l[i]? = some x → a i = f x
theorem wm_R_nil {f a : Nat → Int32} : wm_R f a [] := fun i x h => by simp at h
theorem wm_R_i {f a : Nat → Int32} {l : List Nat} (h : wm_R f a l) {i : Nat} (hi : i < l.length) : a i = f l[i] := h i _ (List.getElem?_eq_getElem hi)
theorem wm_R_app {f a : Nat → Int32} {A B : List Nat} : wm_R f a (A ++ B) ↔ (wm_R f a A ∧ wm_R f (fun i => a (A.length + i)) B) := by
  constructor
  · intro h
    refine ⟨fun i x e => h i x ?_, fun i x e => h (A.length + i) x ?_⟩
    · obtain ⟨hi, _⟩ := List.getElem?_eq_some_iff.mp e
      rw [List.getElem?_append_left hi]
      exact e
    · rw [List.getElem?_append_right (by omega), show A.length + i - A.length = i by omega]
      exact e
  · rintro ⟨h1, h2⟩ i x e
    by_cases hi : i < A.length
    · rw [List.getElem?_append_left hi] at e
      exact h1 i x e
    · rw [List.getElem?_append_right (by omega)] at e
      have := h2 _ _ e
      dsimp only at this
      rw [show A.length + (i - A.length) = i by omega] at this
      exact this
theorem wm_R_cons {f a : Nat → Int32} {b : Nat} {l : List Nat} : wm_R f a (b :: l) ↔ (a 0 = f b ∧ wm_R f (fun i => a (i + 1)) l) := by
  constructor
  · intro h
    exact ⟨h 0 b rfl, fun i x e => h (i + 1) x e⟩
  · rintro ⟨h1, h2⟩ i x e
    cases i with
    | zero =>
      have : b = x := Option.some.inj e
      rw [← this]
      exact h1
    | succ i => exact h2 i x e
theorem wm_R_e {f a a' : Nat → Int32} {l : List Nat} (h : wm_R f a l) (e : ∀ i, i < l.length → a' i = a i) : wm_R f a' l := fun i x z => by
  obtain ⟨hi, _⟩ := List.getElem?_eq_some_iff.mp z
  rw [e i hi]
  exact h i x z
theorem wm_R_f {f g a : Nat → Int32} {l : List Nat} (h : wm_R f a l) (e : ∀ x, x ∈ l → g x = f x) : wm_R g a l := fun i x z => by
  rw [e x (List.mem_of_getElem? z)]
  exact h i x z
/-- one more behind -/
theorem wm_R_snoc {f a : Nat → Int32} {l : List Nat} {b : Nat} {v : Int32} (h : wm_R f a l) (hv : v = f b) : wm_R f (upd a l.length v) (l ++ [b]) := by
  rw [wm_R_app, wm_R_cons]
  refine ⟨wm_R_e h fun i hi => pk_un (by omega), ?_, wm_R_nil⟩
  show upd a l.length v (l.length + 0) = f b
  rw [Nat.add_zero, pk_us, hv]
/-- one out of the middle -/
theorem wm_R_del {f a a' : Nat → Int32} {A C : List Nat} {b : Nat} (h : wm_R f a (A ++ b :: C)) (e : ∀ i, a' i = if A.length ≤ i ∧ i < A.length + C.length then a (i + 1) else a i) : wm_R f a' (A ++ C) := by
  rw [wm_R_app, wm_R_cons] at h
  rw [wm_R_app]
  refine ⟨wm_R_e h.1 fun i hi => ?_, wm_R_e h.2.2 fun i hi => ?_⟩
  · rw [e, if_neg (by omega)]
  · show a' (A.length + i) = a (A.length + (i + 1))
    rw [e, if_pos (by omega)]
    rfl
/-- one in front, over the place behind A -/
theorem wm_R_front {f a a' : Nat → Int32} {A C : List Nat} {s : Nat} (h1 : wm_R f a A) (h2 : wm_R f (fun i => a (A.length + 1 + i)) C) (e : ∀ i, a' i = if i = 0 then f s else if i ≤ A.length then a (i - 1) else a i) : wm_R f a' (s :: (A ++ C)) := by
  rw [wm_R_cons, wm_R_app]
  refine ⟨by rw [e, if_pos rfl], wm_R_e h1 fun i hi => ?_, wm_R_e h2 fun i hi => ?_⟩
  · show a' (i + 1) = a i
    rw [e, if_neg (by omega), if_pos (by omega)]
    rfl
  · show a' (A.length + i + 1) = a (A.length + 1 + i)
    rw [e, if_neg (by omega), if_neg (by omega), show A.length + i + 1 = A.length + 1 + i by omega]
theorem wm_cut (s : Nat) : ∀ l : List Nat, (∃ A C, l = A ++ s :: C ∧ s ∉ A) ∨ s ∉ l := by
  intro l
  induction l with
  | nil => exact Or.inr (by simp)
  | cons b l ih =>
    by_cases e : b = s
    · exact Or.inl ⟨[], l, by rw [e]; rfl, by simp⟩
    · rcases ih with ⟨A, C, rfl, h⟩ | h
      · refine Or.inl ⟨b :: A, C, rfl, ?_⟩
        intro z
        rcases List.mem_cons.mp z with z | z
        · exact e z.symm
        · exact h z
      · refine Or.inr fun z => ?_
        rcases List.mem_cons.mp z with z | z
        · exact e z.symm
        · exact h z
theorem wm_snoc {A : List Nat} {n : Nat} (h : A.length = n + 1) : ∃ A' b, A = A' ++ [b] ∧ A'.length = n := by
  have hne : A ≠ [] := by
    intro z
    rw [z] at h
    simp at h
  refine ⟨A.dropLast, A.getLast hne, (List.dropLast_concat_getLast hne).symm, ?_⟩
  rw [List.length_dropLast, h]
  rfl
theorem wm_keep_a (w : Nat → Int32) (a : Nat) (A B : List Nat) : wm_keep w a (A ++ B) = wm_keep w a A ++ wm_keep w a B := List.filter_append ..
theorem wm_keep_t {w : Nat → Int32} {a b : Nat} {l : List Nat} (h : ¬ wm_hit w a b) : wm_keep w a (b :: l) = b :: wm_keep w a l := List.filter_cons_of_pos (wm_kp_t h)
theorem wm_keep_f {w : Nat → Int32} {a b : Nat} {l : List Nat} (h : wm_hit w a b) : wm_keep w a (b :: l) = wm_keep w a l := List.filter_cons_of_neg (by rw [wm_kp_f h]; decide)
theorem wm_keep_n (w : Nat → Int32) (a : Nat) (l : List Nat) : (wm_keep w a l).length ≤ l.length := List.length_filter_le ..
theorem wm_keep_m {w : Nat → Int32} {a x : Nat} {l : List Nat} (h : x ∈ wm_keep w a l) : x ∈ l ∧ ¬ wm_hit w a x := by
  have := List.mem_filter.mp h
  exact ⟨this.1, wm_kp_i this.2⟩
/-- the kept ones: begins below 64, at most four, in the arrays of begins and lengths -/
def wm_L (l : List Nat) : Prop := l.length ≤ 4 ∧ ∀ x, x ∈ l → x < 64
def wm_K (w ks kl : Nat → Int32) (l : List Nat) : Prop := wm_R nI ks l ∧ wm_R (fun x => nI (wm_len w x)) kl l
theorem wm_K_u {w ks kl : Nat → Int32} {a : Nat} {v : Int32} {l : List Nat} (h : wm_K w ks kl (wm_keep w a l)) : wm_K (upd w a v) ks kl (wm_keep w a l) := by
  refine ⟨h.1, wm_R_f h.2 fun x hx => ?_⟩
  show nI (wm_len (upd w a v) x) = nI (wm_len w x)
  rw [wm_len_u (wm_keep_m hx).2]
theorem wm_L_keep {w : Nat → Int32} {a : Nat} {l : List Nat} (h : wm_L l) : wm_L (wm_keep w a l) :=
  ⟨Nat.le_trans (wm_keep_n w a l) h.1, fun x hx => h.2 x (wm_keep_m hx).1⟩
end
section
/-! X's small methods -/
theorem wm_10 : ¬ (1 : Int32) = 0 := by decide
theorem wm_m10 : (-1 : Int32) < 0 := by decide
theorem wm_nl {o : Nat} (h0 : o ≠ 0) (h7 : o ≠ 7) (h8 : o ≠ 8) (h : o ≤ 13) : ¬ wm_last o := by
  intro z
  rcases z with z | z | z | z <;> omega
theorem wm_64n {x : Int32} {N : Nat} (hN : N < 2 ^ 31) (h : x < 0 ∨ nI N ≤ x) {j : Nat} (hj : j < N) : x ≠ nI j := by
  intro e
  subst e
  rcases h with h | h
  · exact nI_pos (by omega) h
  · exact nI_ge hj hN h
theorem wm_ix (x : Int32) {N : Nat} (hN : N < 2 ^ 31) : (x < 0 ∨ nI N ≤ x) ∨ ∃ j, j < N ∧ x = nI j := by
  rcases pk_ix x hN with h | h | h
  · exact Or.inl (Or.inl h)
  · exact Or.inl (Or.inr h)
  · exact Or.inr h
theorem wx_adr1 {post : Int32 → Prop} {j : Nat} (hj : j < 64) (h : post 1) : wpX_isAddress post (nI j) :=
  br_f (nI_pos (by omega)) (br_f (nI_ge (b := 64) hj (by decide)) h)
theorem wx_adr0 {post : Int32 → Prop} {x : Int32} (hx : x < 0 ∨ nI 64 ≤ x) (h : post 0) : wpX_isAddress post x := by
  by_cases z : x < 0
  · exact br_t z h
  · rcases hx with hx | hx
    · exact absurd hx z
    · exact br_f z (br_t hx h)
theorem wx_op {post : Int32 → Prop} {i : Int32} (h : post (nI (wm_op i))) : wpX_opOf post i := by
  show post (i &&& 15)
  rw [wm_op_e]
  exact h
theorem wx_dOf {post : Int32 → Prop} {i : Int32} (h : post (nI (wm_d i))) : wpX_dOf post i := by
  show post ((i >>> ((4 : Int32) &&& 31)) &&& 7)
  rw [wm_d_e]
  exact h
theorem wx_aOf {post : Int32 → Prop} {i : Int32} (h : post (nI (wm_a i))) : wpX_aOf post i := by
  show post ((i >>> ((7 : Int32) &&& 31)) &&& 7)
  rw [wm_a_e]
  exact h
theorem wx_bOf {post : Int32 → Prop} {i : Int32} (h : post (nI (wm_b i))) : wpX_bOf post i := by
  show post ((i >>> ((10 : Int32) &&& 31)) &&& 7)
  rw [wm_b_e]
  exact h
theorem wx_nOf {post : Int32 → Prop} {i : Int32} (h : post (i >>> ((13 : Int32) &&& 31))) : wpX_nOf post i := h
theorem wx_ill {post : Int32 → Prop} {o : Nat} (ho : o < 16) (h1 : 13 < o → post 1) (h0 : o ≤ 13 → post 0) : wpX_isIllegal post (nI o) :=
  pk_le o 13 h0 h1
theorem wx_ends {post : Int32 → Prop} {o : Nat} (ho : o < 16) (h1 : wm_last o → post 1) (h0 : ¬ wm_last o → post 0) : wpX_endsBlock post (nI o) :=
  pk_eq o 0 (fun e => h1 (Or.inl e)) fun a => pk_eq o 7 (fun e => h1 (Or.inr (Or.inl e))) fun b => pk_eq o 8 (fun e => h1 (Or.inr (Or.inr (Or.inl e)))) fun c =>
    wx_ill ho (fun e => br_f wm_10 (h1 (Or.inr (Or.inr (Or.inr e))))) (fun e => br_t rfl (h0 (wm_nl a b c e)))
theorem wx_readsA {post : Int32 → Prop} {o : Nat} (ho : o < 16) (h1 : wm_rA o → post 1) (h0 : ¬ wm_rA o → post 0) : wpX_readsA post (nI o) :=
  wx_ends ho (fun l => br_f wm_10 (pk_eq o 8 (fun e => h1 (Or.inr e)) fun e => h0 fun z => z.elim (fun q => q l) e)) (fun l => br_t rfl (h1 (Or.inl l)))
theorem wx_readsB {post : Int32 → Prop} {o : Nat} (ho : o < 16) (h1 : wm_rB o → post 1) (h0 : ¬ wm_rB o → post 0) : wpX_readsB post (nI o) :=
  wx_ends ho (fun l => br_f wm_10 (h0 fun z => z.1 l)) (fun l => br_t rfl (pk_eq o 4 (fun e => h0 fun z => z.2.1 e) fun a => pk_eq o 5 (fun e => h0 fun z => z.2.2.1 e) fun b => pk_eq o 12 (fun e => h0 fun z => z.2.2.2 e) fun c => h1 ⟨l, a, b, c⟩))
theorem wx_writesD {post : Int32 → Prop} {o : Nat} (ho : o < 16) (h1 : wm_wD o → post 1) (h0 : ¬ wm_wD o → post 0) : wpX_writesD post (nI o) :=
  wx_ends ho (fun l => br_f wm_10 (h0 fun z => z.1 l)) (fun l => br_t rfl (pk_eq o 6 (fun e => h0 fun z => z.2 e) fun a => h1 ⟨l, a⟩))
theorem wm_lat5 : wm_lat 5 = 2 := rfl
theorem wm_lat3 : wm_lat 3 = 3 := rfl
theorem wm_lat13 : wm_lat 13 = 4 := rfl
theorem wm_lat1 {o : Nat} (h5 : o ≠ 5) (h3 : o ≠ 3) (h13 : o ≠ 13) : wm_lat o = 1 := by
  unfold wm_lat
  rw [if_neg h5, if_neg h3, if_neg h13]
theorem wx_lat {post : Int32 → Prop} {o : Nat} (ho : o < 16) (h : post (nI (wm_lat o))) : wpX_latencyOf post (nI o) := by
  refine pk_eq o 3 (fun e => ?_) fun a => pk_eq o 5 (fun e => ?_) fun b => pk_eq o 13 (fun e => ?_) fun c => ?_
  · subst e; exact h
  · subst e; exact h
  · subst e; exact h
  · rw [wm_lat1 b a c] at h; exact h
theorem wx_max {post : Int32 → Prop} {a b : Nat} (ha : a < 2 ^ 31) (hb : b < 2 ^ 31) (h : post (nI (max a b))) : wpX_greater post (nI a) (nI b) :=
  pk_le a b (fun e => by rw [Nat.max_eq_right e] at h; exact h) (fun e => by rw [Nat.max_eq_left (by omega)] at h; exact h)
theorem wx_mem {post : Int32 → Prop} {o : Nat} (ho : o < 16) (h1 : o = 5 ∨ o = 6 → post 1) (h0 : ¬ (o = 5 ∨ o = 6) → post 0) : wpX_usesMemory post (nI o) :=
  pk_eq o 5 (fun e => h1 (Or.inl e)) fun a => pk_eq o 6 (fun e => h1 (Or.inr e)) fun b => h0 fun z => z.elim a b
theorem wx_mul {post : Int32 → Prop} {o : Nat} (ho : o < 16) (h1 : o = 3 ∨ o = 13 → post 1) (h0 : ¬ (o = 3 ∨ o = 13) → post 0) : wpX_usesMultiplier post (nI o) :=
  pk_eq o 3 (fun e => h1 (Or.inl e)) fun a => pk_eq o 13 (fun e => h1 (Or.inr e)) fun b => h0 fun z => z.elim a b
theorem wx_mo {post : Int32 → Prop} {p q : Nat} (hp : p < 16) (hq : q < 16) (h1 : wm_mo p q → post 1) (h0 : ¬ wm_mo p q → post 0) : wpX_keepsMemoryOrder post (nI p) (nI q) := by
  have r13 : ¬ (p = 6 ∧ (q = 5 ∨ q = 6)) → wX_keepsMemoryOrder_13 post (nI p) (nI q) := fun n =>
    pk_eq p 5 (fun e => pk_eq q 6 (fun f => h1 (Or.inr ⟨e, f⟩)) fun f => h0 fun z => z.elim n fun y => f y.2) fun e => h0 fun z => z.elim n fun y => e y.1
  exact pk_eq p 6 (fun e => wx_mem hq (fun m => br_f wm_10 (h1 (Or.inl ⟨e, m⟩))) fun m => br_t rfl (r13 fun z => m z.2)) fun e => r13 fun z => e z.1
theorem wx_su {post : Int32 → Prop} {p q : Nat} (hp : p < 16) (hq : q < 16) (h1 : wm_su p q → post 1) (h0 : ¬ wm_su p q → post 0) : wpX_needSameUnit post (nI p) (nI q) := by
  have r14 : ¬ ((p = 5 ∨ p = 6) ∧ (q = 5 ∨ q = 6)) → wX_needSameUnit_14 post (nI p) (nI q) := fun n =>
    wx_mul hp (fun e => br_f wm_10 (wx_mul hq (fun f => br_f wm_10 (h1 (Or.inr ⟨e, f⟩))) fun f => br_t rfl (h0 fun z => z.elim n fun y => f y.2))) fun e => br_t rfl (h0 fun z => z.elim n fun y => e y.1)
  exact wx_mem hp (fun e => br_f wm_10 (wx_mem hq (fun f => br_f wm_10 (h1 (Or.inl ⟨e, f⟩))) fun f => br_t rfl (r14 fun z => f z.2))) fun e => br_t rfl (r14 fun z => e z.1)
theorem wm_bit_t {p : Prop} {d : Decidable p} (h : p) (n : Nat) : wm_bit (@decide p d) n = (1 : Int32) <<< (nI n &&& 31) := by
  unfold wm_bit
  rw [if_pos (decide_eq_true h)]
theorem wm_bit_f {p : Prop} {d : Decidable p} (h : ¬ p) (n : Nat) : wm_bit (@decide p d) n = 0 := by
  unfold wm_bit
  rw [decide_eq_false h]
  rfl
end
section
/-! X: a block's length, its decoding, the least cycle, the first with room -/
section XPLAN
variable {xpc xwn xkc xps xpn xpt xta xtm xbm xbf xbb xid : Int32} {xr xw xs xl xo xh xi xj xc : Nat → Int32}
theorem wm_if {c d A B : Prop} (e : c ↔ d) (f : d → A) (g : ¬ d → B) : (c → A) ∧ (¬ c → B) := ⟨fun h => f (e.mp h), fun h => g fun z => h (e.mpr z)⟩
abbrev wm_I (w : Nat → Int32) (s : Nat) : Nat → Int32 := fun j => w (s + j)
def wm_PD (I : Nat → Int32) (n : Nat) (po ph pi pj : Nat → Int32) : Prop := ∀ j, j < n → po j = nI (wm_op (I j)) ∧ ph j = nI (wm_lat (wm_op (I j))) ∧ pi j = wm_mR (I j) ∧ pj j = wm_mW (I j)
def wm_PC (C : Nat → Nat) (n : Nat) (pc : Nat → Int32) : Prop := ∀ j, j < n → pc j = nI (C j)
theorem wx_len_l {post : Int32 → Prop} {s : Nat} (hs : s < 64) : ∀ f k, k + f = 8 → (f = 0 ∨ s + k < 64) → wm_len xw s = k + wm_lf xw f (s + k) → post (nI (wm_len xw s)) → wX_lengthFrom_4 post (nI s) xpc xwn xkc xps xpn xpt xta xtm xbm xbf xbb xid xr xw xs xl xo xh xi xj xc (f + 2) (nI k) 0 := by
  intro f
  induction f with
  | zero =>
    intro k hk _ e h
    have e8 : k = 8 := by omega
    subst e8
    have e1 : wm_len xw s = 8 := by rw [e]; rfl
    rw [e1] at h
    exact br_t rfl (br_t (nI_le (a := 8) (b := 8) (Nat.le_refl 8) (by decide)) h)
  | succ f ih =>
    intro k hk h64 e h
    have hk8 : k < 8 := by omega
    have hsk : s + k < 64 := by omega
    refine br_t rfl (br_f (nI_ge (b := 8) hk8 (by decide)) ?_)
    rw [nI_add]
    refine br_f (nI_ge (b := 64) hsk (by decide)) ⟨vp_in_nI hsk (by decide), ?_⟩
    rw [nI_clamp (by omega)]
    refine wx_op (wx_ends (wm_op_lt _) (fun hl => nm_r (nI_1 k) ?_) (fun hl => nm_r (nI_1 k) ?_))
    · have e1 : wm_len xw s = k + 1 := by rw [e, wm_lf_s, if_neg (fun z => z.2 hl)]
      rw [e1] at h
      exact br_f wm_10 h
    · by_cases h6 : s + k + 1 < 64
      · refine ih (k + 1) (by omega) (Or.inr (by omega)) ?_ h
        rw [e, wm_lf_s, if_pos ⟨h6, hl⟩, show s + (k + 1) = s + k + 1 from rfl]
        omega
      · have e1 : wm_len xw s = k + 1 := by rw [e, wm_lf_s, if_neg (fun z => h6 z.1)]
        rw [e1] at h
        refine br_t rfl (pk_le 8 (k + 1) (fun _ => h) fun _ => ?_)
        rw [nI_add]
        exact br_t (nI_le (a := 64) (by omega) (by omega)) h
theorem wx_len {post : Int32 → Prop} {s : Nat} (hs : s < 64) (h : post (nI (wm_len xw s))) : wpX_lengthFrom post (xpc, xwn, xkc, xps, xpn, xpt, xta, xtm, xbm, xbf, xbb, xid, xr, xw, xs, xl, xo, xh, xi, xj, xc) (nI s) :=
  ⟨10, wx_len_l hs 8 0 rfl (Or.inr hs) (by rw [Nat.zero_add]; rfl) h⟩

/-! decode -/
theorem wx_dec41 {post : SX → Prop} {k : Nat} {i x4 z0 : Int32} (hk : k < 8) (e : x4 ||| z0 = wm_mR i) (h : post (xpc, xwn, xkc, xps, xpn, xpt, xta, xtm, xbm, xbf, xbb, xid, xr, xw, xs, xl, upd xo k (nI (wm_op i)), upd xh k (nI (wm_lat (wm_op i))), upd xi k (wm_mR i), upd xj k (wm_mW i), xc)) :
    wX_decode_41 post (nI k) i (nI (wm_op i)) x4 z0 xpc xwn xkc xps xpn xpt xta xtm xbm xbf xbb xid xr xw xs xl xo xh xi xj xc := by
  have hin : vp_in (nI k) 8 := vp_in_nI hk (by decide)
  have hc : (nI k).toNatClampNeg = k := nI_clamp (by omega)
  unfold wX_decode_41
  rw [hc, e]
  refine ⟨hin, nm_e (wx_lat (wm_op_lt i) ⟨hin, nm_e ⟨hin, nm_e (wx_writesD (wm_op_lt i) (fun hw => br_f wm_10 (wx_dOf ⟨hin, nm_r (e' := upd xj k (wm_mW i)) ?_ h⟩)) (fun hw => br_t rfl ⟨hin, nm_r (e' := upd xj k (wm_mW i)) ?_ h⟩))⟩⟩)⟩
  · rw [wm_mW, wm_bit_t hw]
  · rw [wm_mW, wm_bit_f hw]
theorem wm_or0 (x : Int32) : x ||| 0 = x := Int32.or_zero
theorem wx_dec22 {post : SX → Prop} {k : Nat} {i z0 : Int32} (hk : k < 8) (e : z0 = wm_bit (decide (wm_rA (wm_op i))) (wm_a i)) (h : post (xpc, xwn, xkc, xps, xpn, xpt, xta, xtm, xbm, xbf, xbb, xid, xr, xw, xs, xl, upd xo k (nI (wm_op i)), upd xh k (nI (wm_lat (wm_op i))), upd xi k (wm_mR i), upd xj k (wm_mW i), xc)) :
    wX_decode_22 post (nI k) i (nI (wm_op i)) z0 xpc xwn xkc xps xpn xpt xta xtm xbm xbf xbb xid xr xw xs xl xo xh xi xj xc :=
  wx_readsB (wm_op_lt i) (fun hb => br_f wm_10 (wx_bOf (wx_dec41 hk (by rw [wm_mR, wm_bit_t hb, e]) h))) (fun hb => br_t rfl (wx_dec41 hk (by rw [wm_mR, wm_bit_f hb, e]) h))
theorem wx_decode {post : SX → Prop} {k : Nat} {i : Int32} (hk : k < 8) (h : post (xpc, xwn, xkc, xps, xpn, xpt, xta, xtm, xbm, xbf, xbb, xid, xr, xw, xs, xl, upd xo k (nI (wm_op i)), upd xh k (nI (wm_lat (wm_op i))), upd xi k (wm_mR i), upd xj k (wm_mW i), xc)) :
    wpX_decode post (xpc, xwn, xkc, xps, xpn, xpt, xta, xtm, xbm, xbf, xbb, xid, xr, xw, xs, xl, xo, xh, xi, xj, xc) (nI k) i :=
  wx_op (post := fun r_1 => wpX_readsA (fun r_2 => (((r_2 = 0 → (wX_decode_22 post (nI k) i r_1 0 xpc xwn xkc xps xpn xpt xta xtm xbm xbf xbb xid xr xw xs xl xo xh xi xj xc)) ∧ (¬ r_2 = 0 → (wpX_aOf (fun r_21 => (wX_decode_22 post (nI k) i r_1 ((1 : Int32) <<< (r_21 &&& 31)) xpc xwn xkc xps xpn xpt xta xtm xbm xbf xbb xid xr xw xs xl xo xh xi xj xc)) i))))) r_1)
    (wx_readsA (wm_op_lt i) (fun ha => br_f wm_10 (wx_aOf (wx_dec22 hk (by rw [wm_bit_t ha]) h))) (fun ha => br_t rfl (wx_dec22 hk (by rw [wm_bit_f ha]) h)))

/-! the least cycle behind one earlier instruction -/
theorem wm_gmax {B x : Nat} {Q R : Nat → Prop} (h : ∀ c, B ≤ c ↔ Q c) (hx : ∀ c, x ≤ c ↔ R c) : ∀ c, max B x ≤ c ↔ (Q c ∧ R c) := fun c => by rw [Nat.max_le, h c, hx c]
theorem wm_gtriv {B : Nat} {Q R : Nat → Prop} (h : ∀ c, B ≤ c ↔ Q c) (hr : ∀ c, R c) : ∀ c, B ≤ c ↔ (Q c ∧ R c) := fun c => by rw [h c]; exact ⟨fun z => ⟨z, hr c⟩, fun z => z.1⟩
theorem wm_imp {p : Prop} {x : Nat} {R : Nat → Prop} (hp : p) (h : ∀ c, x ≤ c ↔ R c) : ∀ c, x ≤ c ↔ (p → R c) := fun c => ⟨fun z _ => (h c).mp z, fun z => (h c).mpr (z hp)⟩
section LB
variable {I : Nat → Int32} {C : Nat → Nat} {k e : Nat} {post : Int32 → Prop}
theorem wx_lb111 (hk : k < 8) (he : e < k) (hD : wm_PD I (k + 1) xo xh xi xj) (hC : wm_PC C k xc) (hb : C e ≤ 200) {B : Nat} (hB1 : B ≤ 1000) {Q : Nat → Prop} (hB : ∀ c, B ≤ c ↔ Q c)
    (h : ∀ B', (∀ c, B' ≤ c ↔ (Q c ∧ (wm_mo (wm_op (I e)) (wm_op (I k)) → C e < c))) → post (nI B')) :
    wX_leastBehind_111 post (nI e) (nI k) (nI B) xpc xwn xkc xps xpn xpt xta xtm xbm xbf xbb xid xr xw xs xl xo xh xi xj xc := by
  have hie : vp_in (nI e) 8 := vp_in_nI (by omega) (by decide)
  have hik : vp_in (nI k) 8 := vp_in_nI hk (by decide)
  unfold wX_leastBehind_111
  rw [nI_clamp (n := e) (by omega), nI_clamp (n := k) (by omega), (hD e (by omega)).1, (hD k (by omega)).1, hC e he, nI_1]
  refine ⟨hie, hik, wx_mo (wm_op_lt _) (wm_op_lt _) (fun m => br_f wm_10 ⟨hie, wx_max (by omega) (by omega) (h _ (wm_gmax hB (wm_imp m fun c => Iff.rfl)))⟩) (fun m => br_t rfl (h _ (wm_gtriv hB fun c z => absurd z m)))⟩
theorem wx_lb72 (hk : k < 8) (he : e < k) (hD : wm_PD I (k + 1) xo xh xi xj) (hC : wm_PC C k xc) (hb : C e ≤ 200) {B : Nat} (hB1 : B ≤ 800) {Q : Nat → Prop} (hB : ∀ c, B ≤ c ↔ Q c)
    (h : ∀ B', (∀ c, B' ≤ c ↔ ((Q c ∧ (((∃ r, wm_Rd (I e) r ∧ wm_Wr (I k) r) → C e ≤ c) ∧ (wm_last (wm_op (I k)) → C e ≤ c))) ∧ (wm_mo (wm_op (I e)) (wm_op (I k)) → C e < c))) → post (nI B')) :
    wX_leastBehind_72 post (nI e) (nI k) (nI B) xpc xwn xkc xps xpn xpt xta xtm xbm xbf xbb xid xr xw xs xl xo xh xi xj xc := by
  have hie : vp_in (nI e) 8 := vp_in_nI (by omega) (by decide)
  have hik : vp_in (nI k) 8 := vp_in_nI hk (by decide)
  have r100 : ((∃ r, wm_Rd (I e) r ∧ wm_Wr (I k) r) ∨ wm_last (wm_op (I k))) → wX_leastBehind_100 post (nI e) (nI k) (nI B) xpc xwn xkc xps xpn xpt xta xtm xbm xbf xbb xid xr xw xs xl xo xh xi xj xc := by
    intro z
    unfold wX_leastBehind_100
    rw [nI_clamp (n := e) (by omega), hC e he]
    refine ⟨hie, wx_max (by omega) (by omega) (wx_lb111 hk he hD hC hb (by omega) (wm_gmax hB (R := fun c => ((∃ r, wm_Rd (I e) r ∧ wm_Wr (I k) r) → C e ≤ c) ∧ (wm_last (wm_op (I k)) → C e ≤ c)) fun c => ?_) h)⟩
    constructor
    · intro a
      exact ⟨fun _ => a, fun _ => a⟩
    · intro a
      rcases z with z | z
      · exact a.1 z
      · exact a.2 z
  unfold wX_leastBehind_72
  rw [nI_clamp (n := e) (by omega), nI_clamp (n := k) (by omega), (hD e (by omega)).2.2.1, (hD k (by omega)).2.2.2, (hD k (by omega)).1]
  refine ⟨hie, hik, wm_if (wm_RW _ _) (fun n => ⟨hik, wx_ends (wm_op_lt _) (fun l => br_f wm_10 (r100 (Or.inr l))) (fun l => br_t rfl (wx_lb111 hk he hD hC hb (by omega) (wm_gtriv hB fun c => ⟨fun z => absurd z n, fun z => absurd z l⟩) h))⟩) (fun n => r100 (Or.inl (Classical.not_not.mp n)))⟩
theorem wx_lb40 (hk : k < 8) (he : e < k) (hD : wm_PD I (k + 1) xo xh xi xj) (hC : wm_PC C k xc) (hb : C e ≤ 200) {B : Nat} (hB1 : B ≤ 400) {Q : Nat → Prop} (hB : ∀ c, B ≤ c ↔ Q c)
    (h : ∀ B', (∀ c, B' ≤ c ↔ (((Q c ∧ ((∃ r, wm_Wr (I e) r ∧ wm_Wr (I k) r) → C e + wm_lat (wm_op (I e)) < c + wm_lat (wm_op (I k)))) ∧ (((∃ r, wm_Rd (I e) r ∧ wm_Wr (I k) r) → C e ≤ c) ∧ (wm_last (wm_op (I k)) → C e ≤ c))) ∧ (wm_mo (wm_op (I e)) (wm_op (I k)) → C e < c))) → post (nI B')) :
    wX_leastBehind_40 post (nI e) (nI k) (nI B) (nI (C e + wm_lat (wm_op (I e)))) xpc xwn xkc xps xpn xpt xta xtm xbm xbf xbb xid xr xw xs xl xo xh xi xj xc := by
  have hie : vp_in (nI e) 8 := vp_in_nI (by omega) (by decide)
  have hik : vp_in (nI k) 8 := vp_in_nI hk (by decide)
  have hle := wm_lat_r (wm_op (I e))
  have hlk := wm_lat_r (wm_op (I k))
  unfold wX_leastBehind_40
  rw [nI_clamp (n := e) (by omega), nI_clamp (n := k) (by omega), (hD e (by omega)).2.2.2, (hD k (by omega)).2.2.2, (hD k (by omega)).2.1, nI_1]
  refine ⟨hie, hik, wm_if (wm_WW _ _) (fun n => wx_lb72 hk he hD hC hb (by omega) (wm_gtriv hB fun c z => absurd z n) h) (fun n => ⟨hik, ?_⟩)⟩
  have hp := Classical.not_not.mp n
  have hG := wm_gmax hB (x := C e + wm_lat (wm_op (I e)) + 1 - wm_lat (wm_op (I k))) (R := fun c => (∃ r, wm_Wr (I e) r ∧ wm_Wr (I k) r) → C e + wm_lat (wm_op (I e)) < c + wm_lat (wm_op (I k))) (wm_imp hp fun c => by omega)
  by_cases hge : wm_lat (wm_op (I k)) ≤ C e + wm_lat (wm_op (I e)) + 1
  · rw [pk_sub hge]
    exact wx_max (by omega) (by omega) (wx_lb72 hk he hD hC hb (by omega) hG h)
  · have hz : C e + wm_lat (wm_op (I e)) + 1 - wm_lat (wm_op (I k)) = 0 := by omega
    rw [hz, Nat.max_eq_left (Nat.zero_le B)] at hG
    have hneg : nI (C e + wm_lat (wm_op (I e)) + 1) - nI (wm_lat (wm_op (I k))) < 0 := pk_sneg (by omega) (by omega)
    refine br_f (fun z => ?_) (wx_lb72 hk he hD hC hb (by omega) hG h)
    exact nI_pos (n := B) (by omega) (Int32.lt_of_le_of_lt z hneg)
theorem wx_lb (hk : k < 8) (he : e < k) (hD : wm_PD I (k + 1) xo xh xi xj) (hC : wm_PC C k xc) (hb : C e ≤ 200)
    (h : ∀ B, (∀ c, B ≤ c ↔ (1 ≤ c ∧ wm_DJ I C k c e)) → post (nI B)) : wpX_leastBehind post (xpc, xwn, xkc, xps, xpn, xpt, xta, xtm, xbm, xbf, xbb, xid, xr, xw, xs, xl, xo, xh, xi, xj, xc) (nI e) (nI k) := by
  have hie : vp_in (nI e) 8 := vp_in_nI (by omega) (by decide)
  have hik : vp_in (nI k) 8 := vp_in_nI hk (by decide)
  have hle := wm_lat_r (wm_op (I e))
  have hh : ∀ B', (∀ c, B' ≤ c ↔ ((((1 ≤ c ∧ ((∃ r, wm_Wr (I e) r ∧ wm_Rd (I k) r) → C e + wm_lat (wm_op (I e)) ≤ c)) ∧ ((∃ r, wm_Wr (I e) r ∧ wm_Wr (I k) r) → C e + wm_lat (wm_op (I e)) < c + wm_lat (wm_op (I k)))) ∧ (((∃ r, wm_Rd (I e) r ∧ wm_Wr (I k) r) → C e ≤ c) ∧ (wm_last (wm_op (I k)) → C e ≤ c))) ∧ (wm_mo (wm_op (I e)) (wm_op (I k)) → C e < c))) → post (nI B') := by
    intro B' hB'
    refine h B' fun c => Iff.trans (hB' c) ⟨?_, ?_⟩
    · rintro ⟨⟨⟨⟨a1, a2⟩, a3⟩, a4, a5⟩, a6⟩
      exact ⟨a1, a2, a3, a4, a5, a6⟩
    · rintro ⟨a1, a2, a3, a4, a5, a6⟩
      exact ⟨⟨⟨⟨a1, a2⟩, a3⟩, a4, a5⟩, a6⟩
  unfold wpX_leastBehind
  dsimp only
  rw [nI_clamp (n := e) (by omega), nI_clamp (n := k) (by omega), (hD e (by omega)).2.2.2, (hD e (by omega)).2.1, (hD k (by omega)).2.2.1, hC e he, nI_add]
  refine ⟨hie, hie, nm_e ⟨hie, hik, wm_if (wm_WR _ _) (fun n => wx_lb40 hk he hD hC hb (B := 1) (by omega) (wm_gtriv (fun c => Iff.rfl) fun c z => absurd z n) hh) (fun n => ?_)⟩⟩
  exact wx_max (a := 1) (by omega) (by omega) (wx_lb40 hk he hD hC hb (by omega) (wm_gmax (fun c => Iff.rfl) (wm_imp (Classical.not_not.mp n) fun c => Iff.rfl)) hh)
end LB
theorem wx_lc_l {I : Nat → Int32} {wd : Nat} {C : Nat → Nat} {n k : Nat} {post : Int32 → Prop} (hS : wm_Sch I wd C n) (hn : n ≤ 8) (hk : k < n) (hD : wm_PD I (k + 1) xo xh xi xj) (hC : wm_PC C k xc)
    (h : ∀ L, wm_Lst I C k k L → post (nI L)) : ∀ d e L, e + d = k → wm_Lst I C k e L → wX_leastCycle_4 post (nI k) xpc xwn xkc xps xpn xpt xta xtm xbm xbf xbb xid xr xw xs xl xo xh xi xj xc (d + 1) (nI L) (nI e) := by
  intro d
  induction d with
  | zero =>
    intro e L he hL
    have : e = k := by omega
    subst this
    exact br_t (nI_le (Nat.le_refl e) (by omega)) (h L hL)
  | succ d ih =>
    intro e L he hL
    have hb := (wm_C1 hS (j := e) (by omega)).2
    have hLb := wm_Lst_b hS (by omega) hL
    refine br_f (nI_ge (by omega) (by omega)) (wx_lb (by omega) (by omega) hD hC (by omega) fun B hB => ?_)
    have hBb : B ≤ 16 * e + 10 := (hB _).mpr ⟨by omega, wm_DJ_big hS (by omega) (Nat.le_refl _)⟩
    exact wx_max (by omega) (by omega) (nm_r (nI_1 e) (ih (e + 1) _ (by omega) (wm_Lst_s hL hB)))
theorem wx_lc {I : Nat → Int32} {wd : Nat} {C : Nat → Nat} {n k : Nat} {post : Int32 → Prop} (hS : wm_Sch I wd C n) (hn : n ≤ 8) (hk : k < n) (hD : wm_PD I (k + 1) xo xh xi xj) (hC : wm_PC C k xc)
    (h : ∀ L, wm_Lst I C k k L → post (nI L)) : wpX_leastCycle post (xpc, xwn, xkc, xps, xpn, xpt, xta, xtm, xbm, xbf, xbb, xid, xr, xw, xs, xl, xo, xh, xi, xj, xc) (nI k) :=
  ⟨k + 1, wx_lc_l hS hn hk hD hC h k 0 1 (by omega) (wm_Lst_0 I C k)⟩

/-! room -/
theorem wm_cnt_le (C : Nat → Nat) (c : Nat) : ∀ k, wm_cnt C c k ≤ k := by
  intro k
  induction k with
  | zero => exact Nat.le_refl 0
  | succ k ih =>
    simp only [wm_cnt]
    split <;> omega
theorem wx_room_l {I : Nat → Int32} {wd : Nat} {C : Nat → Nat} {n k c : Nat} {post : Int32 → Prop} (hS : wm_Sch I wd C n) (hn : n ≤ 8) (hk : k < n) (hw : wd ≤ 4) (hc : c ≤ 1000) (hD : wm_PD I (k + 1) xo xh xi xj) (hC : wm_PC C k xc) (hx : xwn = nI wd)
    (h1 : wm_Room I wd C k c → post 1) (h0 : ¬ wm_Room I wd C k c → post 0) : ∀ d e, e + d = k → (∀ j, j < e → C j = c → ¬ wm_su (wm_op (I j)) (wm_op (I k))) → wX_hasRoom_5 post (nI k) (nI c) xpc xwn xkc xps xpn xpt xta xtm xbm xbf xbb xid xr xw xs xl xo xh xi xj xc (d + 1) (nI (wm_cnt C c e)) (nI e) := by
  intro d
  induction d with
  | zero =>
    intro e he hu
    have : e = k := by omega
    subst this
    have hcl := wm_cnt_le C c e
    refine br_t (nI_le (Nat.le_refl e) (by omega)) ?_
    rw [hx]
    exact pk_le wd (wm_cnt C c e) (fun z => h0 fun r => by have := r.1; omega) (fun z => h1 ⟨z, hu⟩)
  | succ d ih =>
    intro e he hu
    have hb := (wm_C1 hS (j := e) (by omega)).2
    have hie : vp_in (nI e) 8 := vp_in_nI (by omega) (by decide)
    have hik : vp_in (nI k) 8 := vp_in_nI (by omega) (by decide)
    refine br_f (nI_ge (by omega) (by omega)) ?_
    rw [nI_clamp (n := e) (by omega), nI_clamp (n := k) (by omega), (hD e (by omega)).1, (hD k (by omega)).1, hC e (by omega)]
    refine ⟨hie, pk_eq (C e) c (fun z => ?_) (fun z => ?_)⟩
    · have e1 : wm_cnt C c (e + 1) = wm_cnt C c e + 1 := by simp only [wm_cnt]; rw [if_pos z]
      refine nm_r (nI_1 _) ⟨hie, hik, wx_su (wm_op_lt _) (wm_op_lt _) (fun s => br_f wm_10 (h0 fun r => r.2 e (by omega) z s)) (fun s => br_t rfl (nm_r (nI_1 e) ?_))⟩
      rw [← e1]
      exact ih (e + 1) (by omega) (lt_s hu fun _ => s)
    · have e1 : wm_cnt C c (e + 1) = wm_cnt C c e := by simp only [wm_cnt]; rw [if_neg z]; rfl
      refine nm_r (nI_1 e) ?_
      rw [← e1]
      exact ih (e + 1) (by omega) (lt_s hu fun y => absurd y z)
theorem wx_room {I : Nat → Int32} {wd : Nat} {C : Nat → Nat} {n k c : Nat} {post : Int32 → Prop} (hS : wm_Sch I wd C n) (hn : n ≤ 8) (hk : k < n) (hw : wd ≤ 4) (hc : c ≤ 1000) (hD : wm_PD I (k + 1) xo xh xi xj) (hC : wm_PC C k xc) (hx : xwn = nI wd)
    (h1 : wm_Room I wd C k c → post 1) (h0 : ¬ wm_Room I wd C k c → post 0) : wpX_hasRoom post (xpc, xwn, xkc, xps, xpn, xpt, xta, xtm, xbm, xbf, xbb, xid, xr, xw, xs, xl, xo, xh, xi, xj, xc) (nI k) (nI c) :=
  ⟨k + 1, wx_room_l hS hn hk hw hc hD hC hx h1 h0 k 0 (by omega) lt_0⟩
theorem wx_fwr_l {I : Nat → Int32} {wd : Nat} {C : Nat → Nat} {n k L : Nat} {post : Int32 → Prop} (hS : wm_Sch I wd C n) (hn : n ≤ 8) (hk : k < n) (hw1 : 1 ≤ wd) (hw : wd ≤ 4) (hL : wm_Lst I C k k L) (hD : wm_PD I (k + 1) xo xh xi xj) (hC : wm_PC C k xc) (hx : xwn = nI wd)
    (h : post (nI (C k))) : ∀ d t, t + d = k → (∀ s, s < t → ¬ wm_Room I wd C k (L + s)) → wX_firstWithRoom_5 post (nI k) xpc xwn xkc xps xpn xpt xta xtm xbm xbf xbb xid xr xw xs xl xo xh xi xj xc (d + 1) (nI (L + t)) (nI t) := by
  have hLb := wm_Lst_b hS (by omega) hL
  intro d
  induction d with
  | zero =>
    intro t ht h0
    have : t = k := by omega
    subst this
    rw [wm_first hS hk hL h0 (wm_lastTry hw1 h0)] at h
    exact br_t (nI_le (Nat.le_refl t) (by omega)) h
  | succ d ih =>
    intro t ht h0
    refine br_f (nI_ge (by omega) (by omega)) (wx_room hS hn hk hw (by omega) hD hC hx (fun r => br_f wm_10 ?_) (fun r => br_t rfl (nm_r (nI_1 _) (nm_r (nI_1 t) (ih (t + 1) (by omega) (lt_s h0 r))))))
    rw [wm_first hS hk hL h0 r] at h
    exact h
theorem wx_fwr {I : Nat → Int32} {wd : Nat} {C : Nat → Nat} {n k L : Nat} {post : Int32 → Prop} (hS : wm_Sch I wd C n) (hn : n ≤ 8) (hk : k < n) (hw1 : 1 ≤ wd) (hw : wd ≤ 4) (hL : wm_Lst I C k k L) (hD : wm_PD I (k + 1) xo xh xi xj) (hC : wm_PC C k xc) (hx : xwn = nI wd)
    (h : post (nI (C k))) : wpX_firstWithRoom post (xpc, xwn, xkc, xps, xpn, xpt, xta, xtm, xbm, xbf, xbb, xid, xr, xw, xs, xl, xo, xh, xi, xj, xc) (nI k) (nI L) :=
  ⟨k + 1, wx_fwr_l hS hn hk hw1 hw hL hD hC hx h k 0 (by omega) lt_0⟩

/-! the whole plan -/
theorem wm_PD_s {I : Nat → Int32} {k : Nat} (hD : wm_PD I k xo xh xi xj) : wm_PD I (k + 1) (upd xo k (nI (wm_op (I k)))) (upd xh k (nI (wm_lat (wm_op (I k))))) (upd xi k (wm_mR (I k))) (upd xj k (wm_mW (I k))) := by
  intro j hj
  by_cases e : j = k
  · subst e
    exact ⟨pk_us, pk_us, pk_us, pk_us⟩
  · rw [pk_un e, pk_un e, pk_un e, pk_un e]
    exact hD j (by omega)
theorem wm_PC_s {C : Nat → Nat} {k : Nat} (hC : wm_PC C k xc) : wm_PC C (k + 1) (upd xc k (nI (C k))) := by
  intro j hj
  by_cases e : j = k
  · subst e
    exact pk_us
  · rw [pk_un e]
    exact hC j (by omega)
theorem wx_plan_l {wd s : Nat} {C : Nat → Nat} {post : SX → Prop} (hs : s < 64) (hS : wm_Sch (wm_I xw s) wd C (wm_len xw s)) (hw1 : 1 ≤ wd) (hw : wd ≤ 4) (hx : xwn = nI wd)
    (h : ∀ xo xh xi xj xc, wm_PD (wm_I xw s) (wm_len xw s) xo xh xi xj → wm_PC C (wm_len xw s) xc → post (xpc, xwn, xkc, nI s, nI (wm_len xw s), nI (wm_tm (wm_I xw s) C (wm_len xw s)), xta, xtm, xbm, xbf, xbb, xid, xr, xw, xs, xl, xo, xh, xi, xj, xc)) :
    ∀ d k (xo xh xi xj xc : Nat → Int32), k + d = wm_len xw s → wm_PD (wm_I xw s) k xo xh xi xj → wm_PC C k xc → wX_planBlock_21 post (nI s) (d + 1) (nI k) xpc xwn xkc (nI s) (nI (wm_len xw s)) (nI (wm_tm (wm_I xw s) C k)) xta xtm xbm xbf xbb xid xr xw xs xl xo xh xi xj xc := by
  have hr := wm_len_r xw hs
  intro d
  induction d with
  | zero =>
    intro k xo xh xi xj xc hk hD hC
    have e : k = wm_len xw s := by omega
    rw [e]
    exact br_t (nI_le (Nat.le_refl _) (by omega)) (h _ _ _ _ _ (e ▸ hD) (e ▸ hC))
  | succ d ih =>
    intro k xo xh xi xj xc hk hD hC
    have hik : vp_in (nI k) 8 := vp_in_nI (by omega) (by decide)
    have hl := wm_lat_r (wm_op (xw (s + k)))
    have hc := wm_C1 hS (j := k) (by omega)
    have ht := wm_tm_b hS k (by omega)
    refine br_f (nI_ge (by omega) (by omega)) ?_
    rw [nI_add, nI_clamp (n := s + k) (by omega)]
    refine ⟨vp_in_nI (by omega) (by decide), wx_decode (by omega) (wx_lc (I := wm_I xw s) (n := wm_len xw s) hS hr.2.1 (by omega) (wm_PD_s hD) hC fun L hL => ?_)⟩
    refine wx_fwr (I := wm_I xw s) (n := wm_len xw s) hS hr.2.1 (by omega) hw1 hw hL (wm_PD_s hD) hC hx ?_
    rw [nI_clamp (n := k) (by omega)]
    refine ⟨hik, nm_e ⟨hik, hik, ?_⟩⟩
    rw [pk_us, pk_us, nI_add, show (1 : Int32) = nI 1 from rfl, pk_sub (by omega)]
    exact wx_max (by omega) (by omega) (nm_r (nI_1 k) (ih (k + 1) _ _ _ _ _ (by omega) (wm_PD_s hD) (wm_PC_s hC)))
theorem wx_plan {wd s : Nat} {C : Nat → Nat} {post : SX → Prop} (hs : s < 64) (hS : wm_Sch (wm_I xw s) wd C (wm_len xw s)) (hw1 : 1 ≤ wd) (hw : wd ≤ 4) (hx : xwn = nI wd)
    (h : ∀ xo xh xi xj xc, wm_PD (wm_I xw s) (wm_len xw s) xo xh xi xj → wm_PC C (wm_len xw s) xc → post (xpc, xwn, xkc, nI s, nI (wm_len xw s), nI (wm_tm (wm_I xw s) C (wm_len xw s)), xta, xtm, xbm, xbf, xbb, xid, xr, xw, xs, xl, xo, xh, xi, xj, xc)) :
    wpX_planBlock post (xpc, xwn, xkc, xps, xpn, xpt, xta, xtm, xbm, xbf, xbb, xid, xr, xw, xs, xl, xo, xh, xi, xj, xc) (nI s) :=
  wx_len (xps := nI s) hs ⟨wm_len xw s + 1, wx_plan_l hs hS hw1 hw hx h _ 0 xo xh xi xj xc (by omega) (fun j hj => absurd hj (Nat.not_lt_zero j)) (fun j hj => absurd hj (Nat.not_lt_zero j))⟩
end XPLAN
end
section
/-! X: the kept blocks -/
section XKEPT
variable {xpc xwn xkc xps xpn xpt xta xtm xbm xbf xbb xid : Int32} {xr xw xs xl xo xh xi xj xc : Nat → Int32}
theorem wm_inj {a b : Nat} (ha : a < 64) (hb : b < 64) (h : a ≠ b) : ¬ nI a = nI b := fun z => h ((nI_eq (by omega) (by omega)).mp z)
theorem wx_pl_l {post : Int32 → Prop} {s : Nat} (hs : s < 64) {A B : List Nat} (hl : wm_L (A ++ B)) (hk : xkc = nI (A ++ B).length) (hR : wm_R nI xs (A ++ B)) (hA : s ∉ A) {f : Nat} (h : wX_placeAmongKept_2 post (nI s) xpc xwn xkc xps xpn xpt xta xtm xbm xbf xbb xid xr xw xs xl xo xh xi xj xc f (nI A.length)) :
    ∀ d i, i + d = A.length → wX_placeAmongKept_2 post (nI s) xpc xwn xkc xps xpn xpt xta xtm xbm xbf xbb xid xr xw xs xl xo xh xi xj xc (d + f) (nI i) := by
  have hlen : A.length + B.length ≤ 4 := by have := hl.1; rw [List.length_append] at this; exact this
  intro d
  induction d with
  | zero =>
    intro i hi
    have : i = A.length := by omega
    rw [this, Nat.zero_add]
    exact h
  | succ d ih =>
    intro i hi
    have hi' : i < A.length := by omega
    rw [show d + 1 + f = (d + f) + 1 by omega]
    have e : xs i = nI A[i] := wm_R_i (wm_R_app.mp hR).1 hi'
    have hm : A[i] ∈ A := List.getElem_mem hi'
    have hne : A[i] ≠ s := fun z => hA (z ▸ hm)
    refine br_f ?_ ⟨vp_in_nI (by omega) (by decide), br_f ?_ (nm_r (nI_1 i) (ih (i + 1) (by omega)))⟩
    · rw [hk, List.length_append]
      exact nI_ge (by omega) (by omega)
    · rw [nI_clamp (by omega), e]
      exact wm_inj (hl.2 _ (List.mem_append_left B hm)) hs hne
theorem wx_pl_f {post : Int32 → Prop} {s : Nat} (hs : s < 64) {A B : List Nat} (hl : wm_L (A ++ s :: B)) (hk : xkc = nI (A ++ s :: B).length) (hR : wm_R nI xs (A ++ s :: B)) (hA : s ∉ A) (h : post (nI A.length)) : wpX_placeAmongKept post (xpc, xwn, xkc, xps, xpn, xpt, xta, xtm, xbm, xbf, xbb, xid, xr, xw, xs, xl, xo, xh, xi, xj, xc) (nI s) := by
  have hlen : A.length + (B.length + 1) ≤ 4 := by have := hl.1; rw [List.length_append, List.length_cons] at this; exact this
  have e : xs A.length = nI s := ((wm_R_cons.mp (wm_R_app.mp hR).2)).1
  refine ⟨A.length + 1, wx_pl_l hs hl hk hR hA ?_ A.length 0 (by omega)⟩
  refine br_f ?_ ⟨vp_in_nI (by omega) (by decide), br_t ?_ h⟩
  · rw [hk, List.length_append, List.length_cons]
    exact nI_ge (by omega) (by omega)
  · rw [nI_clamp (by omega), e]
theorem wx_pl_n {post : Int32 → Prop} {s : Nat} (hs : s < 64) {l : List Nat} (hl : wm_L l) (hk : xkc = nI l.length) (hR : wm_R nI xs l) (hA : s ∉ l) (h : post (-1)) : wpX_placeAmongKept post (xpc, xwn, xkc, xps, xpn, xpt, xta, xtm, xbm, xbf, xbb, xid, xr, xw, xs, xl, xo, xh, xi, xj, xc) (nI s) := by
  have hl' : wm_L (l ++ []) := by rw [List.append_nil]; exact hl
  refine ⟨l.length + 1, wx_pl_l (B := []) hs hl' (by rw [List.append_nil]; exact hk) (by rw [List.append_nil]; exact hR) hA ?_ l.length 0 (by omega)⟩
  refine br_t ?_ h
  rw [hk]
  exact nI_le (Nat.le_refl _) (by have := hl.1; omega)

/-! putFirst -/
theorem wx_pf_l {post : SX → Prop} {p : Nat} (hp : p < 4) {ks kl : Nat → Int32}
    (h : ∀ xs xl : Nat → Int32, (∀ i, xs i = if i = 0 then xps else if i ≤ p then ks (i - 1) else ks i) → (∀ i, xl i = if i = 0 then xpn else if i ≤ p then kl (i - 1) else kl i) → post (xpc, xwn, xkc, xps, xpn, xpt, xta, xtm, xbm, xbf, xbb, xid, xr, xw, xs, xl, xo, xh, xi, xj, xc)) :
    ∀ k (xs xl : Nat → Int32), k ≤ p → (∀ i, xs i = if k < i ∧ i ≤ p then ks (i - 1) else ks i) → (∀ i, xl i = if k < i ∧ i ≤ p then kl (i - 1) else kl i) → wX_putFirst_2 post xpc xwn xkc xps xpn xpt xta xtm xbm xbf xbb xid (k + 1) (nI k) xr xw xs xl xo xh xi xj xc := by
  have st : ∀ (k : Nat) (a c : Nat → Int32), k + 1 ≤ p → (∀ i, a i = if k + 1 < i ∧ i ≤ p then c (i - 1) else c i) → (∀ i, upd a (k + 1) (a k) i = if k < i ∧ i ≤ p then c (i - 1) else c i) := by
    intro k a c hk ha i
    by_cases e : i = k + 1
    · rw [e, pk_us, ha, if_neg (by omega), if_pos (by omega)]
      rfl
    · rw [pk_un e, ha]
      by_cases z : k < i ∧ i ≤ p
      · rw [if_pos (by omega), if_pos z]
      · rw [if_neg (by omega), if_neg z]
  have en : ∀ (a c : Nat → Int32) (v : Int32), (∀ i, a i = if 0 < i ∧ i ≤ p then c (i - 1) else c i) → (∀ i, upd a 0 v i = if i = 0 then v else if i ≤ p then c (i - 1) else c i) := by
    intro a c v ha i
    by_cases e : i = 0
    · rw [e, pk_us, if_pos rfl]
    · rw [pk_un e, ha, if_neg e]
      by_cases z : i ≤ p
      · rw [if_pos (by omega), if_pos z]
      · rw [if_neg (by omega), if_neg z]
  intro k
  induction k with
  | zero =>
    intro xs xl _ h1 h2
    exact br_t (nI_le (a := 0) (b := 0) (Nat.le_refl 0) (by decide)) (nm_e (nm_e (h _ _ (en _ _ _ h1) (en _ _ _ h2))))
  | succ k ih =>
    intro xs xl hk h1 h2
    have i1 : vp_in (nI (k + 1)) 4 := vp_in_nI (by omega) (by decide)
    have i0 : vp_in (nI k) 4 := vp_in_nI (by omega) (by decide)
    refine br_f (nI_nle (by omega) (by omega)) ?_
    rw [nI_pred, nI_clamp (n := k + 1) (by omega), nI_clamp (n := k) (by omega)]
    exact ⟨i0, i1, nm_e ⟨i0, i1, nm_e (nm_r (pk_m1 k) (ih _ _ (by omega) (st k _ _ hk h1) (st k _ _ hk h2)))⟩⟩
theorem wx_pf {post : SX → Prop} {w : Nat → Int32} {s p : Nat} {A B : List Nat} (hp : p < 4) (hA : p = A.length) (h1 : wm_R nI xs A) (h2 : wm_R nI (fun i => xs (A.length + 1 + i)) B) (h3 : wm_R (fun x => nI (wm_len w x)) xl A) (h4 : wm_R (fun x => nI (wm_len w x)) (fun i => xl (A.length + 1 + i)) B)
    (hs : xps = nI s) (hn : xpn = nI (wm_len w s)) (h : ∀ xs xl : Nat → Int32, wm_K w xs xl (s :: (A ++ B)) → post (xpc, xwn, xkc, xps, xpn, xpt, xta, xtm, xbm, xbf, xbb, xid, xr, xw, xs, xl, xo, xh, xi, xj, xc)) : wpX_putFirst post (xpc, xwn, xkc, xps, xpn, xpt, xta, xtm, xbm, xbf, xbb, xid, xr, xw, xs, xl, xo, xh, xi, xj, xc) (nI p) := by
  refine ⟨p + 1, wx_pf_l (ks := xs) (kl := xl) hp (fun xs' xl' e1 e2 => h xs' xl' ⟨wm_R_front h1 h2 fun i => ?_, wm_R_front (s := s) h3 h4 fun i => ?_⟩) p xs xl (Nat.le_refl p) (fun i => ?_) (fun i => ?_)⟩
  · rw [e1, hA, hs]
  · rw [e2, hA, hn]
  · rw [if_neg (by omega)]
  · rw [if_neg (by omega)]
theorem wm_sh {f a : Nat → Int32} {n : Nat} {B : List Nat} (h : wm_R f (fun i => a (n + (i + 1))) B) : wm_R f (fun i => a (n + 1 + i)) B :=
  wm_R_e h fun i _ => by show a (n + 1 + i) = a (n + (i + 1)); rw [show n + 1 + i = n + (i + 1) by omega]

/-! begin -/
theorem wx_beg_f {post : SX → Prop} {w : Nat → Int32} {s : Nat} (hs : s < 64) {A B : List Nat} (hl : wm_L (A ++ s :: B)) (hk : xkc = nI (A ++ s :: B).length) (hK : wm_K w xs xl (A ++ s :: B)) (hA : s ∉ A) (hps : xps = nI s) (hpn : xpn = nI (wm_len w s))
    (h : ∀ xs xl : Nat → Int32, wm_K w xs xl (s :: (A ++ B)) → post (xpc, xwn, xkc, xps, xpn, xpt, xta, xtm, xbm, xbf + 1, xbb + 1, xid, xr, xw, xs, xl, xo, xh, xi, xj, xc)) : wpX_beginPlanned post (xpc, xwn, xkc, xps, xpn, xpt, xta, xtm, xbm, xbf, xbb, xid, xr, xw, xs, xl, xo, xh, xi, xj, xc) := by
  have hlen : A.length + (B.length + 1) ≤ 4 := by have := hl.1; rw [List.length_append, List.length_cons] at this; exact this
  have r1 := wm_R_app.mp hK.1
  have r2 := wm_R_app.mp hK.2
  subst hps hpn
  unfold wpX_beginPlanned
  refine wx_pl_f hs hl hk hK.1 hA (br_f ?_ (nm_e (nm_e ?_)))
  · intro z
    have := nI_pos (n := A.length) (by omega)
    rw [z] at this
    exact this wm_m10
  · exact wx_pf (by omega) rfl r1.1 (wm_sh (wm_R_cons.mp r1.2).2) r2.1 (wm_sh (wm_R_cons.mp r2.2).2) rfl rfl h
theorem wx_beg_n {post : SX → Prop} {w : Nat → Int32} {s : Nat} (hs : s < 64) {l A : List Nat} (hl : wm_L l) (hk : xkc = nI l.length) (hK : wm_K w xs xl l) (hA : s ∉ l) (hps : xps = nI s) (hpn : xpn = nI (wm_len w s)) (hlA : (l = A ∧ A.length < 4) ∨ (∃ b, l = A ++ [b] ∧ A.length = 3))
    (h : ∀ xs xl : Nat → Int32, wm_K w xs xl (s :: A) → post (xpc, xwn, nI (A.length + 1), xps, xpn, xpt, xta + 3 * nI (wm_len w s), xtm + 3 * nI (wm_len w s), xbm + 1, xbf, xbb + 1, xid, xr, xw, xs, xl, xo, xh, xi, xj, xc)) : wpX_beginPlanned post (xpc, xwn, xkc, xps, xpn, xpt, xta, xtm, xbm, xbf, xbb, xid, xr, xw, xs, xl, xo, xh, xi, xj, xc) := by
  have hh : ∀ xs xl : Nat → Int32, wm_K w xs xl (s :: (A ++ [])) → post (xpc, xwn, nI (A.length + 1), xps, xpn, xpt, xta + 3 * nI (wm_len w s), xtm + 3 * nI (wm_len w s), xbm + 1, xbf, xbb + 1, xid, xr, xw, xs, xl, xo, xh, xi, xj, xc) := by
    rw [List.append_nil]
    exact h
  have hRA : wm_R nI xs A ∧ wm_R (fun x => nI (wm_len w x)) xl A := by
    rcases hlA with ⟨e, _⟩ | ⟨b, e, _⟩
    · rw [← e]
      exact hK
    · have := hK
      rw [e] at this
      exact ⟨(wm_R_app.mp this.1).1, (wm_R_app.mp this.2).1⟩
  have hA4 : A.length < 4 := by
    rcases hlA with ⟨_, e⟩ | ⟨b, _, e⟩ <;> omega
  subst hps hpn
  unfold wpX_beginPlanned
  refine wx_pl_n hs hl hk hK.1 hA (br_t rfl ?_)
  subst hk
  rcases hlA with ⟨e, h4⟩ | ⟨b, e, h3⟩
  · subst e
    refine br_f (nI_ge (b := 4) h4 (by decide)) (nm_r (nI_1 _) ?_)
    rw [nI_pred]
    exact nm_e (nm_e (nm_e (nm_e (wx_pf (B := []) hA4 rfl hRA.1 wm_R_nil hRA.2 wm_R_nil rfl rfl hh))))
  · have e4 : l.length = 4 := by rw [e, List.length_append, h3]; rfl
    rw [e4]
    rw [h3] at hh
    refine br_t (nI_le (a := 4) (b := 4) (Nat.le_refl 4) (by decide)) ?_
    exact nm_e (nm_e (nm_e (nm_e (wx_pf (p := 3) (B := []) (by omega) h3.symm hRA.1 wm_R_nil hRA.2 wm_R_nil rfl rfl hh))))

/-! change -/
theorem wx_chg_l {post : SX → Prop} {w : Nat → Int32} {a : Nat} (ha : a < 64) {l : List Nat} (hl : wm_L l)
    (h : ∀ xs xl : Nat → Int32, wm_K w xs xl (wm_keep w a l) → post (xpc, xwn, nI (wm_keep w a l).length, xps, xpn, xpt, xta, xtm, xbm, xbf, xbb, xid, xr, xw, xs, xl, xo, xh, xi, xj, xc)) :
    ∀ (B A : List Nat) (xs xl : Nat → Int32), A ++ B = l → wm_K w xs xl (wm_keep w a A) → wm_R nI (fun i => xs (A.length + i)) B → wm_R (fun x => nI (wm_len w x)) (fun i => xl (A.length + i)) B → wX_change_12 post (nI a) xpc xwn (nI l.length) xps xpn xpt xta xtm xbm xbf xbb xid (B.length + 1) (nI (wm_keep w a A).length) (nI A.length) xr xw xs xl xo xh xi xj xc := by
  intro B
  induction B with
  | nil =>
    intro A xs xl e hK _ _
    rw [List.append_nil] at e
    subst e
    exact br_t (nI_le (Nat.le_refl _) (by have := hl.1; omega)) (h _ _ hK)
  | cons b B ih =>
    intro A xs xl e hK r1 r2
    have hlen : A.length + (B.length + 1) ≤ 4 := by have := hl.1; rw [← e, List.length_append, List.length_cons] at this; exact this
    have hll : l.length = A.length + (B.length + 1) := by rw [← e, List.length_append, List.length_cons]
    have hb : b < 64 := hl.2 b (by rw [← e]; exact List.mem_append_right A (List.mem_cons_self))
    have hlb := wm_len_r w hb
    have hkn := wm_keep_n w a A
    have e' : (A ++ [b]) ++ B = l := by rw [List.append_assoc]; exact e
    have c1 := wm_R_cons.mp r1
    have c2 := wm_R_cons.mp r2
    have x1 : xs A.length = nI b := c1.1
    have x2 : xl A.length = nI (wm_len w b) := c2.1
    have i4 : vp_in (nI A.length) 4 := vp_in_nI (by omega) (by decide)
    have il : vp_in (nI (wm_keep w a A).length) 4 := vp_in_nI (by omega) (by decide)
    have hcl : (nI (wm_keep w a A).length).toNatClampNeg = (wm_keep w a A).length := nI_clamp (by omega)
    have hca : (nI A.length).toNatClampNeg = A.length := nI_clamp (by omega)
    have eA : (A ++ [b]).length = A.length + 1 := by rw [List.length_append]; rfl
    have no : ¬ wm_hit w a b → wX_change_56 post (wX_change_12 post (nI a) xpc xwn (nI l.length) xps xpn xpt xta xtm xbm xbf xbb xid (B.length + 1)) (nI a) (nI (wm_keep w a A).length) (nI A.length) 0 xpc xwn (nI l.length) xps xpn xpt xta xtm xbm xbf xbb xid xr xw xs xl xo xh xi xj xc := by
      intro hn
      have ek : wm_keep w a (A ++ [b]) = wm_keep w a A ++ [b] := by rw [wm_keep_a, wm_keep_t hn]; rfl
      have el : (wm_keep w a (A ++ [b])).length = (wm_keep w a A).length + 1 := by rw [ek, List.length_append]; rfl
      have hI := ih (A ++ [b]) (upd xs (wm_keep w a A).length (nI b)) (upd xl (wm_keep w a A).length (nI (wm_len w b))) e' (by rw [ek]; exact ⟨wm_R_snoc hK.1 rfl, wm_R_snoc hK.2 rfl⟩)
        (wm_R_e c1.2 fun i _ => by rw [eA]; show upd xs _ _ (A.length + 1 + i) = xs (A.length + (i + 1)); rw [pk_un (by omega), show A.length + 1 + i = A.length + (i + 1) by omega])
        (wm_R_e c2.2 fun i _ => by rw [eA]; show upd xl _ _ (A.length + 1 + i) = xl (A.length + (i + 1)); rw [pk_un (by omega), show A.length + 1 + i = A.length + (i + 1) by omega])
      rw [el, eA] at hI
      unfold wX_change_56
      rw [hcl, hca, x1, x2]
      exact br_t rfl ⟨i4, il, nm_e ⟨i4, il, nm_e (nm_r (nI_1 _) (nm_r (nI_1 _) hI))⟩⟩
    have yes : wm_hit w a b → wX_change_56 post (wX_change_12 post (nI a) xpc xwn (nI l.length) xps xpn xpt xta xtm xbm xbf xbb xid (B.length + 1)) (nI a) (nI (wm_keep w a A).length) (nI A.length) 1 xpc xwn (nI l.length) xps xpn xpt xta xtm xbm xbf xbb xid xr xw xs xl xo xh xi xj xc := by
      intro hn
      have ek : wm_keep w a (A ++ [b]) = wm_keep w a A := by rw [wm_keep_a, wm_keep_f hn]; exact List.append_nil _
      have hI := ih (A ++ [b]) xs xl e' (by rw [ek]; exact hK)
        (wm_R_e c1.2 fun i _ => by rw [eA]; show xs (A.length + 1 + i) = xs (A.length + (i + 1)); rw [show A.length + 1 + i = A.length + (i + 1) by omega])
        (wm_R_e c2.2 fun i _ => by rw [eA]; show xl (A.length + 1 + i) = xl (A.length + (i + 1)); rw [show A.length + 1 + i = A.length + (i + 1) by omega])
      rw [ek, eA] at hI
      exact br_f wm_10 (nm_r (nI_1 _) hI)
    refine br_f (by rw [hll]; exact nI_ge (by omega) (by omega)) ?_
    rw [hca, x1, x2, nI_add]
    refine ⟨i4, pk_lt a b (fun z => no fun y => by have := y.1; omega) (fun z => ⟨i4, i4, pk_le (b + wm_len w b) a (fun y => no fun q => by have := q.2; omega) (fun y => yes ⟨z, y⟩)⟩)⟩
theorem wx_chg {post : SX → Prop} {a : Nat} {v : Int32} (ha : a < 64) {l : List Nat} (hl : wm_L l) (hk : xkc = nI l.length) (hK : wm_K xw xs xl l)
    (h : ∀ xs xl : Nat → Int32, wm_K (upd xw a v) xs xl (wm_keep xw a l) → post (xpc, xwn, nI (wm_keep xw a l).length, xps, xpn, xpt, xta, xtm, xbm, xbf, xbb, xid, xr, upd xw a v, xs, xl, xo, xh, xi, xj, xc)) : wpX_change post (xpc, xwn, xkc, xps, xpn, xpt, xta, xtm, xbm, xbf, xbb, xid, xr, xw, xs, xl, xo, xh, xi, xj, xc) (nI a) v := by
  subst hk
  refine ⟨vp_in_nI ha (by decide), nm_r (e' := upd xw a v) (by rw [nI_clamp (by omega)]) ⟨l.length + 1, ?_⟩⟩
  exact wx_chg_l (w := xw) (xw := upd xw a v) ha hl (fun xs' xl' hK' => h xs' xl' (wm_K_u hK')) l [] xs xl rfl ⟨wm_R_nil, wm_R_nil⟩ (wm_R_e hK.1 fun i _ => by show xs (0 + i) = xs i; rw [Nat.zero_add]) (wm_R_e hK.2 fun i _ => by show xl (0 + i) = xl i; rw [Nat.zero_add])
end XKEPT
end
section
/-! One instruction: what it does, and X's walk of it -/
def wm_tg (g : Nat → Int32) (i : Int32) : Int32 := g (wm_a i) + (i >>> ((13 : Int32) &&& 31))
def wm_flt (g : Nat → Int32) (i : Int32) : Int32 := if 13 < wm_op i then 3 else if wm_op i = 13 ∧ g (wm_b i) = 0 then 2 else if (wm_op i = 5 ∨ wm_op i = 6) ∧ (wm_tg g i < 0 ∨ nI 64 ≤ wm_tg g i) then 1 else 0
def wm_res (o : Nat) (x y n : Int32) : Int32 := if o = 1 then x + y else if o = 2 then x - y else if o = 3 then x * y else if o = 4 then x + n else if o = 9 then (if y ≤ x then 0 else 1) else if o = 10 then x &&& y else if o = 11 then x ^^^ y else if o = 12 then x <<< ((n &&& 31) &&& 31) else x / y
theorem wm_res9t {x y n : Int32} (h : y ≤ x) : wm_res 9 x y n = 0 := by
  show (if y ≤ x then (0 : Int32) else 1) = 0
  rw [if_pos h]
theorem wm_res9f {x y n : Int32} (h : ¬ y ≤ x) : wm_res 9 x y n = 1 := by
  show (if y ≤ x then (0 : Int32) else 1) = 1
  rw [if_neg h]
def wm_g (g w : Nat → Int32) (i : Int32) : Nat → Int32 := if wm_op i = 5 then upd g (wm_d i) (w (wm_tg g i).toNatClampNeg) else if wm_wD (wm_op i) then upd g (wm_d i) (wm_res (wm_op i) (g (wm_a i)) (g (wm_b i)) (i >>> ((13 : Int32) &&& 31))) else g
theorem wm_g5 {g w : Nat → Int32} {i : Int32} (h : wm_op i = 5) : wm_g g w i = upd g (wm_d i) (w (wm_tg g i).toNatClampNeg) := if_pos h
theorem wm_gD {g w : Nat → Int32} {i : Int32} (h : wm_op i ≠ 5) (h2 : wm_wD (wm_op i)) : wm_g g w i = upd g (wm_d i) (wm_res (wm_op i) (g (wm_a i)) (g (wm_b i)) (i >>> ((13 : Int32) &&& 31))) := by
  unfold wm_g
  rw [if_neg h, if_pos h2]
theorem wm_g0 {g w : Nat → Int32} {i : Int32} (h : wm_op i ≠ 5) (h2 : ¬ wm_wD (wm_op i)) : wm_g g w i = g := by
  unfold wm_g
  rw [if_neg h, if_neg h2]
theorem wm_flt3 {g : Nat → Int32} {i : Int32} (h : 13 < wm_op i) : wm_flt g i = 3 := if_pos h
theorem wm_flt2 {g : Nat → Int32} {i : Int32} (h : wm_op i = 13) (h2 : g (wm_b i) = 0) : wm_flt g i = 2 := by
  unfold wm_flt
  rw [if_neg (by omega), if_pos ⟨h, h2⟩]
theorem wm_flt1 {g : Nat → Int32} {i : Int32} (h : wm_op i = 5 ∨ wm_op i = 6) (h2 : wm_tg g i < 0 ∨ nI 64 ≤ wm_tg g i) : wm_flt g i = 1 := by
  unfold wm_flt
  rw [if_neg (by omega), if_neg (fun z => by have := z.1; omega), if_pos ⟨h, h2⟩]
theorem wm_flt0 {g : Nat → Int32} {i : Int32} (h : wm_op i ≤ 13) (h2 : ¬ (wm_op i = 13 ∧ g (wm_b i) = 0)) (h3 : ¬ ((wm_op i = 5 ∨ wm_op i = 6) ∧ (wm_tg g i < 0 ∨ nI 64 ≤ wm_tg g i))) : wm_flt g i = 0 := by
  unfold wm_flt
  rw [if_neg (by omega), if_neg h2, if_neg h3]
theorem wm_30 : ¬ (3 : Int32) = 0 := by decide
theorem wm_20 : ¬ (2 : Int32) = 0 := by decide
theorem wm_flt_a {g : Nat → Int32} {i : Int32} (h : wm_flt g i = 0) : wm_op i ≤ 13 := by
  by_cases z : 13 < wm_op i
  · rw [wm_flt3 z] at h
    exact absurd h wm_30
  · omega
theorem wm_flt_b {g : Nat → Int32} {i : Int32} (h : wm_flt g i = 0) (e : wm_op i = 13) : ¬ g (wm_b i) = 0 := by
  intro z
  rw [wm_flt2 e z] at h
  exact absurd h wm_20
theorem wm_flt_c {g : Nat → Int32} {i : Int32} (h : wm_flt g i = 0) (e : wm_op i = 5 ∨ wm_op i = 6) : ∃ j, j < 64 ∧ wm_tg g i = nI j := by
  rcases wm_ix (wm_tg g i) (N := 64) (by decide) with z | z
  · rw [wm_flt1 e z] at h
    exact absurd h wm_10
  · exact z
section XEXEC
variable {xpc xwn xkc xps xpn xpt xta xtm xbm xbf xbb xid : Int32} {xr xw xs xl xo xh xi xj xc : Nat → Int32}
theorem wx_tg {post : Int32 → Prop} {i : Int32} (h : post (wm_tg xr i)) : wpX_targetOf post (xpc, xwn, xkc, xps, xpn, xpt, xta, xtm, xbm, xbf, xbb, xid, xr, xw, xs, xl, xo, xh, xi, xj, xc) i := by
  unfold wpX_targetOf
  refine wx_aOf ⟨vp_in_nI (wm_a_lt i) (by decide), ?_⟩
  rw [nI_clamp (Nat.lt_trans (wm_a_lt i) (by decide))]
  exact h
theorem wx_flt {post : Int32 → Prop} {i : Int32} (h : post (wm_flt xr i)) : wpX_faultOf post (xpc, xwn, xkc, xps, xpn, xpt, xta, xtm, xbm, xbf, xbb, xid, xr, xw, xs, xl, xo, xh, xi, xj, xc) i := by
  have ho := wm_op_lt i
  have r40 : wm_op i ≤ 13 → ¬ (wm_op i = 13 ∧ xr (wm_b i) = 0) → wX_faultOf_40 post (nI (wm_op i)) (wm_tg xr i) xpc xwn xkc xps xpn xpt xta xtm xbm xbf xbb xid xr xw xs xl xo xh xi xj xc := by
    intro h1 h2
    refine wx_mem ho (fun m => br_f wm_10 ?_) (fun m => br_t rfl ?_)
    · rcases wm_ix (wm_tg xr i) (N := 64) (by decide) with z | ⟨j, hj, e⟩
      · rw [wm_flt1 m z] at h
        exact wx_adr0 z (br_t rfl h)
      · rw [wm_flt0 h1 h2 (fun y => by rcases y.2 with q | q <;> rw [e] at q <;> first | exact nI_pos (by omega) q | exact nI_ge hj (by decide) q)] at h
        rw [e]
        exact wx_adr1 hj (br_f wm_10 h)
    · rw [wm_flt0 h1 h2 (fun y => m y.1)] at h
      exact h
  unfold wpX_faultOf
  refine wx_op (wx_tg (wx_ill ho (fun z => br_f wm_10 ?_) (fun z => br_t rfl (pk_eq (wm_op i) 13 (fun e => wx_bOf ⟨vp_in_nI (wm_b_lt i) (by decide), ?_⟩) (fun e => r40 z fun y => e y.1)))))
  · rw [wm_flt3 z] at h
    exact h
  · rw [nI_clamp (Nat.lt_trans (wm_b_lt i) (by decide))]
    refine br_c (fun y => ?_) (fun y => r40 z fun q => y q.2)
    rw [wm_flt2 e y] at h
    exact h
theorem wx_res {post : Int32 → Prop} {i : Int32} (hD : wm_wD (wm_op i)) (h5 : wm_op i ≠ 5) (hz : wm_op i = 13 → ¬ xr (wm_b i) = 0) (h : post (wm_res (wm_op i) (xr (wm_a i)) (xr (wm_b i)) (i >>> ((13 : Int32) &&& 31)))) : wpX_resultOf post (xpc, xwn, xkc, xps, xpn, xpt, xta, xtm, xbm, xbf, xbb, xid, xr, xw, xs, xl, xo, xh, xi, xj, xc) i := by
  have ho := wm_op_lt i
  have h0 : wm_op i ≠ 0 := fun z => hD.1 (Or.inl z)
  have h7 : wm_op i ≠ 7 := fun z => hD.1 (Or.inr (Or.inl z))
  have h8 : wm_op i ≠ 8 := fun z => hD.1 (Or.inr (Or.inr (Or.inl z)))
  have h13 : ¬ 13 < wm_op i := fun z => hD.1 (Or.inr (Or.inr (Or.inr z)))
  have h6 : wm_op i ≠ 6 := hD.2
  unfold wpX_resultOf
  refine wx_aOf ⟨vp_in_nI (wm_a_lt i) (by decide), nm_r (e' := xr (wm_a i)) (by rw [nI_clamp (Nat.lt_trans (wm_a_lt i) (by decide))]) (wx_bOf ⟨vp_in_nI (wm_b_lt i) (by decide), nm_r (e' := xr (wm_b i)) (by rw [nI_clamp (Nat.lt_trans (wm_b_lt i) (by decide))]) (wx_nOf (wx_op ?_))⟩)⟩
  refine pk_lt (wm_op i) 1 (fun e => absurd e (by omega)) fun _ => pk_lt 13 (wm_op i) (fun e => absurd e h13) fun _ => ?_
  refine pk_eq (wm_op i) 1 (fun e => by rw [e] at h; exact h) fun n1 => pk_eq (wm_op i) 2 (fun e => by rw [e] at h; exact h) fun n2 => ?_
  refine pk_eq (wm_op i) 3 (fun e => by rw [e] at h; exact h) fun n3 => pk_eq (wm_op i) 4 (fun e => by rw [e] at h; exact h) fun n4 => ?_
  refine pk_eq (wm_op i) 5 (fun e => absurd e h5) fun _ => pk_eq (wm_op i) 6 (fun e => absurd e h6) fun _ => pk_eq (wm_op i) 7 (fun e => absurd e h7) fun _ => pk_eq (wm_op i) 8 (fun e => absurd e h8) fun _ => ?_
  refine pk_eq (wm_op i) 9 (fun e => br_c (fun z => by rw [e, wm_res9t z] at h; exact h) (fun z => by rw [e, wm_res9f z] at h; exact h)) fun n9 => ?_
  refine pk_eq (wm_op i) 10 (fun e => by rw [e] at h; exact h) fun n10 => pk_eq (wm_op i) 11 (fun e => by rw [e] at h; exact h) fun n11 => pk_eq (wm_op i) 12 (fun e => by rw [e] at h; exact h) fun n12 => ?_
  exact pk_eq (wm_op i) 13 (fun e => br_f (hz e) ⟨hz e, by rw [e] at h; exact h⟩) fun _ => trivial
theorem wx_p62 {post : SX → Prop} {i : Int32} (h : post (nI (wm_t (i >>> ((13 : Int32) &&& 31))), xwn, xkc, xps, xpn, xpt, xta, xtm, xbm, xbf, xbb, xid, xr, xw, xs, xl, xo, xh, xi, xj, xc)) : wX_perform_62 post i xpc xwn xkc xps xpn xpt xta xtm xbm xbf xbb xid xr xw xs xl xo xh xi xj xc :=
  wx_nOf (nm_r (wm_t_e _) h)
theorem wx_p76 {post : SX → Prop} {i : Int32} (hf : wm_flt xr i = 0) (h : post (xpc, xwn, xkc, xps, xpn, xpt, xta, xtm, xbm, xbf, xbb, xid, wm_g xr xw i, xw, xs, xl, xo, xh, xi, xj, xc)) : wX_perform_76 post i (nI (wm_op i)) (wm_tg xr i) xpc xwn xkc xps xpn xpt xta xtm xbm xbf xbb xid xr xw xs xl xo xh xi xj xc := by
  have ho := wm_op_lt i
  have hd : vp_in (nI (wm_d i)) 8 := vp_in_nI (wm_d_lt i) (by decide)
  have hdc : (nI (wm_d i)).toNatClampNeg = wm_d i := nI_clamp (Nat.lt_trans (wm_d_lt i) (by decide))
  refine pk_eq (wm_op i) 5 (fun e => wx_dOf ?_) (fun e => wx_writesD ho (fun m => br_f wm_10 (wx_dOf ?_)) (fun m => br_t rfl ?_))
  · obtain ⟨j, hj, ej⟩ := wm_flt_c hf (Or.inl e)
    rw [wm_g5 e] at h
    rw [hdc]
    exact ⟨by rw [ej]; exact vp_in_nI hj (by decide), hd, nm_e h⟩
  · rw [wm_gD e m] at h
    refine wx_res m e (wm_flt_b hf) ?_
    rw [hdc]
    exact ⟨hd, nm_e h⟩
  · rw [wm_g0 e m] at h
    exact h
theorem wx_perf {post : SX → Prop} {i : Int32} (hf : wm_flt xr i = 0) (h6 : wm_op i ≠ 6)
    (hj : wm_op i = 7 ∨ (wm_op i = 8 ∧ xr (wm_a i) = 0) → post (nI (wm_t (i >>> ((13 : Int32) &&& 31))), xwn, xkc, xps, xpn, xpt, xta, xtm, xbm, xbf, xbb, xid, wm_g xr xw i, xw, xs, xl, xo, xh, xi, xj, xc))
    (hn : ¬ (wm_op i = 7 ∨ (wm_op i = 8 ∧ xr (wm_a i) = 0)) → post (xpc, xwn, xkc, xps, xpn, xpt, xta, xtm, xbm, xbf, xbb, xid, wm_g xr xw i, xw, xs, xl, xo, xh, xi, xj, xc)) : wpX_perform post (xpc, xwn, xkc, xps, xpn, xpt, xta, xtm, xbm, xbf, xbb, xid, xr, xw, xs, xl, xo, xh, xi, xj, xc) i := by
  have ho := wm_op_lt i
  unfold wpX_perform
  refine wx_op (wx_bOf (wx_tg (pk_eq (wm_op i) 6 (fun e => absurd e h6) fun _ => pk_eq (wm_op i) 7 (fun e => wx_p62 ?_) fun n7 => pk_eq (wm_op i) 8 (fun e => wx_aOf ⟨vp_in_nI (wm_a_lt i) (by decide), ?_⟩) fun n8 => wx_p76 hf (hn fun z => z.elim n7 fun y => n8 y.1))))
  · have := hj (Or.inl e)
    rw [wm_g0 (by omega) (fun z => z.1 (Or.inr (Or.inl e)))] at this
    exact this
  · rw [nI_clamp (Nat.lt_trans (wm_a_lt i) (by decide))]
    refine br_c (fun y => wx_p62 ?_) (fun y => wx_p76 hf (hn fun z => z.elim n7 fun q => y q.2))
    have := hj (Or.inr ⟨e, y⟩)
    rw [wm_g0 (by omega) (fun z => z.1 (Or.inr (Or.inr (Or.inl e))))] at this
    exact this
theorem wx_perf6 {post : SX → Prop} {i : Int32} {t : Nat} (h6 : wm_op i = 6) (ht : t < 64) (e : wm_tg xr i = nI t) {l : List Nat} (hl : wm_L l) (hk : xkc = nI l.length) (hK : wm_K xw xs xl l)
    (h : ∀ xs xl : Nat → Int32, wm_K (upd xw t (xr (wm_b i))) xs xl (wm_keep xw t l) → post (xpc, xwn, nI (wm_keep xw t l).length, xps, xpn, xpt, xta, xtm, xbm, xbf, xbb, xid, xr, upd xw t (xr (wm_b i)), xs, xl, xo, xh, xi, xj, xc)) : wpX_perform post (xpc, xwn, xkc, xps, xpn, xpt, xta, xtm, xbm, xbf, xbb, xid, xr, xw, xs, xl, xo, xh, xi, xj, xc) i := by
  have ho := wm_op_lt i
  unfold wpX_perform
  refine wx_op (wx_bOf (wx_tg (pk_eq (wm_op i) 6 (fun _ => ⟨vp_in_nI (wm_b_lt i) (by decide), ?_⟩) fun n => absurd h6 n)))
  rw [nI_clamp (Nat.lt_trans (wm_b_lt i) (by decide)), e]
  exact wx_chg ht hl hk hK h
end XEXEC
end
section
/-! Y's small methods, a block's length -/
section YSMALL
variable {ypc ywd ymn yct : Int32} {yr yw yc yb yy : Nat → Int32}
theorem wy_in1 {post : Int32 → Prop} {j N : Nat} (hj : j < N) (hN : N < 2 ^ 31) (h : post 1) : wpY_in post (nI j) (nI N) :=
  br_f (nI_pos (by omega)) (br_f (nI_ge hj hN) h)
theorem wy_in0 {post : Int32 → Prop} {x : Int32} {N : Nat} (hx : x < 0 ∨ nI N ≤ x) (h : post 0) : wpY_in post x (nI N) := by
  by_cases z : x < 0
  · exact br_t z h
  · rcases hx with hx | hx
    · exact absurd hx z
    · exact br_f z (br_t hx h)
theorem wy_op {post : Int32 → Prop} {at' : Nat} (ha : at' < 64) (h : post (nI (wm_op (yw at')))) : wpY_op post (ypc, ywd, ymn, yct, yr, yw, yc, yb, yy) (nI at') := by
  refine ⟨vp_in_nI ha (by decide), ?_⟩
  rw [nI_clamp (by omega), wm_op_e]
  exact h
theorem wy_d {post : Int32 → Prop} {at' : Nat} (ha : at' < 64) (h : post (nI (wm_d (yw at')))) : wpY_d post (ypc, ywd, ymn, yct, yr, yw, yc, yb, yy) (nI at') := by
  refine ⟨vp_in_nI ha (by decide), ?_⟩
  rw [nI_clamp (n := at') (by omega), wm_d_e]
  exact h
theorem wy_a {post : Int32 → Prop} {at' : Nat} (ha : at' < 64) (h : post (nI (wm_a (yw at')))) : wpY_a post (ypc, ywd, ymn, yct, yr, yw, yc, yb, yy) (nI at') := by
  refine ⟨vp_in_nI ha (by decide), ?_⟩
  rw [nI_clamp (n := at') (by omega), wm_a_e]
  exact h
theorem wy_b {post : Int32 → Prop} {at' : Nat} (ha : at' < 64) (h : post (nI (wm_b (yw at')))) : wpY_b post (ypc, ywd, ymn, yct, yr, yw, yc, yb, yy) (nI at') := by
  refine ⟨vp_in_nI ha (by decide), ?_⟩
  rw [nI_clamp (n := at') (by omega), wm_b_e]
  exact h
theorem wy_n {post : Int32 → Prop} {at' : Nat} (ha : at' < 64) (h : post ((yw at') >>> ((13 : Int32) &&& 31))) : wpY_n post (ypc, ywd, ymn, yct, yr, yw, yc, yb, yy) (nI at') := by
  refine ⟨vp_in_nI ha (by decide), ?_⟩
  rw [nI_clamp (n := at') (by omega)]
  exact h
theorem wy_last {post : Int32 → Prop} {at' : Nat} (ha : at' < 64) (h1 : wm_last (wm_op (yw at')) → post 1) (h0 : ¬ wm_last (wm_op (yw at')) → post 0) : wpY_isLast post (ypc, ywd, ymn, yct, yr, yw, yc, yb, yy) (nI at') := by
  have ho := wm_op_lt (yw at')
  unfold wpY_isLast
  exact wy_op ha (pk_eq _ 0 (fun e => h1 (Or.inl e)) fun a => wy_op ha (pk_eq _ 7 (fun e => h1 (Or.inr (Or.inl e))) fun b => wy_op ha (pk_eq _ 8 (fun e => h1 (Or.inr (Or.inr (Or.inl e)))) fun c => wy_op ha (pk_le _ 13 (fun e => h0 (wm_nl a b c e)) fun e => h1 (Or.inr (Or.inr (Or.inr e)))))))
theorem wm_lf1 (w : Nat → Int32) (s : Nat) : wm_lf w 1 s = 1 := by
  rw [wm_lf_s]
  split <;> rfl
theorem wy_len_l {post : Int32 → Prop} {s : Nat} (hs : s < 64) : ∀ f k, k + f = 7 → s + k < 64 → wm_len yw s = k + wm_lf yw (f + 1) (s + k) → post (nI (wm_len yw s)) → wY_length_2 post (nI s) ypc ywd ymn yct yr yw yc yb yy (f + 1) (nI (k + 1)) := by
  intro f
  induction f with
  | zero =>
    intro k hk h6 e h
    have e7 : k = 7 := by omega
    subst e7
    rw [wm_lf1] at e
    rw [e] at h
    exact br_t (nI_le (a := 8) (b := 8) (Nat.le_refl 8) (by decide)) h
  | succ f ih =>
    intro k hk h6 e h
    refine br_f (nI_ge (b := 8) (by omega) (by decide)) ?_
    rw [nI_add, show s + (k + 1) = s + k + 1 from rfl, nI_pred]
    refine pk_le 63 (s + k) (fun z => ?_) (fun z => wy_last h6 (fun hl => br_f wm_10 ?_) (fun hl => br_t rfl (nm_r (nI_1 _) ?_)))
    · rw [e, wm_lf_s, if_neg (fun y => by have := y.1; omega)] at h
      exact h
    · rw [e, wm_lf_s, if_neg (fun y => y.2 hl)] at h
      exact h
    · refine ih (k + 1) (by omega) (by omega) ?_ h
      rw [e, wm_lf_s, if_pos ⟨by omega, hl⟩, show s + (k + 1) = s + k + 1 from rfl]
      omega
theorem wy_len {post : Int32 → Prop} {s : Nat} (hs : s < 64) (h : post (nI (wm_len yw s))) : wpY_length post (ypc, ywd, ymn, yct, yr, yw, yc, yb, yy) (nI s) :=
  ⟨8, wy_len_l hs 7 0 rfl hs (by rw [Nat.zero_add]; rfl) h⟩
theorem wy_lat {post : Int32 → Prop} {o : Nat} (ho : o < 16) (h : post (nI (wm_lat o))) : wpY_latency post (nI o) := by
  refine pk_eq o 5 (fun e => ?_) fun a => pk_eq o 3 (fun e => ?_) fun b => pk_eq o 13 (fun e => ?_) fun c => ?_
  · subst e; exact h
  · subst e; exact h
  · subst e; exact h
  · rw [wm_lat1 a b c] at h; exact h
theorem wm_wD_i {o : Nat} : wm_wD o ↔ ((1 ≤ o ∧ o ≤ 5) ∨ (9 ≤ o ∧ o ≤ 13)) := by
  show (¬ (o = 0 ∨ o = 7 ∨ o = 8 ∨ 13 < o) ∧ o ≠ 6) ↔ _
  omega
theorem wm_rA_i {o : Nat} : wm_rA o ↔ (o ≠ 0 ∧ o ≠ 7 ∧ o ≤ 13) := by
  show (¬ (o = 0 ∨ o = 7 ∨ o = 8 ∨ 13 < o) ∨ o = 8) ↔ _
  omega
theorem wm_rB_i {o : Nat} : wm_rB o ↔ ((o ≠ 0 ∧ o ≠ 7 ∧ o ≤ 13) ∧ o ≠ 4 ∧ o ≠ 5 ∧ o ≠ 8 ∧ o ≠ 12) := by
  show (¬ (o = 0 ∨ o = 7 ∨ o = 8 ∨ 13 < o) ∧ o ≠ 4 ∧ o ≠ 5 ∧ o ≠ 12) ↔ _
  omega
theorem wy_writes {post : Int32 → Prop} {at' r : Nat} (ha : at' < 64) (hr : r < 8) (h1 : wm_Wr (yw at') r → post 1) (h0 : ¬ wm_Wr (yw at') r → post 0) : wpY_writes post (ypc, ywd, ymn, yct, yr, yw, yc, yb, yy) (nI at') (nI r) := by
  have ho := wm_op_lt (yw at')
  have hd := wm_d_lt (yw at')
  have w25 : wm_d (yw at') = r → ¬ (1 ≤ wm_op (yw at') ∧ wm_op (yw at') ≤ 5) → wY_writes_25 post (nI (wm_op (yw at'))) ypc ywd ymn yct yr yw yc yb yy := fun e n =>
    pk_lt _ 9 (fun z => h0 fun q => by have := wm_wD_i.mp q.1; omega) fun z => pk_lt 13 (wm_op (yw at')) (fun y => h0 fun q => by have := wm_wD_i.mp q.1; omega) fun y => h1 ⟨wm_wD_i.mpr (Or.inr ⟨z, y⟩), e⟩
  unfold wpY_writes
  exact wy_op ha (wy_d ha (pk_eq _ r (fun e => pk_lt _ 1 (fun z => w25 e (by omega)) fun z => pk_le _ 5 (fun y => h1 ⟨wm_wD_i.mpr (Or.inl ⟨z, y⟩), e⟩) fun y => w25 e (by omega)) fun e => h0 fun z => e z.2))
theorem wy_reads {post : Int32 → Prop} {at' r : Nat} (ha : at' < 64) (hr : r < 8) (h1 : wm_Rd (yw at') r → post 1) (h0 : ¬ wm_Rd (yw at') r → post 0) : wpY_reads post (ypc, ywd, ymn, yct, yr, yw, yc, yb, yy) (nI at') (nI r) := by
  have ho := wm_op_lt (yw at')
  have hA := wm_a_lt (yw at')
  have hB := wm_b_lt (yw at')
  have q0 : ¬ wm_Rd (yw at') r → wY_reads_77 post (nI at') (nI r) 0 ypc ywd ymn yct yr yw yc yb yy := fun n => br_t rfl (h0 n)
  have q1 : wm_rB (wm_op (yw at')) → ¬ (wm_rA (wm_op (yw at')) ∧ wm_a (yw at') = r) → wY_reads_77 post (nI at') (nI r) 1 ypc ywd ymn yct yr yw yc yb yy := fun hb n =>
    br_f wm_10 (wy_b ha (pk_eq _ r (fun e => h1 (Or.inr ⟨hb, e⟩)) fun e => h0 fun z => z.elim n fun y => e y.2))
  have p60 : wm_rA (wm_op (yw at')) → ¬ wm_rB (wm_op (yw at')) → wY_reads_60 post (nI at') (nI r) 1 ypc ywd ymn yct yr yw yc yb yy := fun a n =>
    br_f wm_10 (wy_a ha (pk_eq _ r (fun e => h1 (Or.inl ⟨a, e⟩)) fun e => q0 fun z => z.elim (fun y => e y.2) fun y => n y.1))
  have p26 : ¬ wm_rA (wm_op (yw at')) → wY_reads_26 post (nI at') (nI r) (nI (wm_op (yw at'))) ypc ywd ymn yct yr yw yc yb yy := fun n => by
    have nb : ¬ wm_rB (wm_op (yw at')) := fun z => n (wm_rA_i.mpr (wm_rB_i.mp z).1)
    exact br_t rfl (br_t rfl (q0 fun z => z.elim (fun y => n y.1) fun y => nb y.1))
  unfold wpY_reads
  refine wy_op ha (pk_eq _ 0 (fun e => p26 fun z => (wm_rA_i.mp z).1 e) fun n0 => pk_eq _ 7 (fun e => p26 fun z => (wm_rA_i.mp z).2.1 e) fun n7 => pk_lt 13 (wm_op (yw at')) (fun e => p26 fun z => by have := (wm_rA_i.mp z).2.2; omega) fun n13 => br_f wm_10 ?_)
  have a : wm_rA (wm_op (yw at')) := wm_rA_i.mpr ⟨n0, n7, n13⟩
  refine pk_eq _ 4 (fun e => p60 a fun z => (wm_rB_i.mp z).2.1 e) fun n4 => pk_eq _ 5 (fun e => p60 a fun z => (wm_rB_i.mp z).2.2.1 e) fun n5 => pk_eq _ 8 (fun e => p60 a fun z => (wm_rB_i.mp z).2.2.2.1 e) fun n8 => pk_eq _ 12 (fun e => p60 a fun z => (wm_rB_i.mp z).2.2.2.2 e) fun n12 => ?_
  exact br_f wm_10 (wy_a ha (pk_eq _ r (fun e => h1 (Or.inl ⟨a, e⟩)) fun e => q1 (wm_rB_i.mpr ⟨⟨n0, n7, n13⟩, n4, n5, n8, n12⟩) fun z => e z.2))
end YSMALL
end
section
/-! Y: what fits, the schedule, the time -/
section YPLAN
variable {ypc ywd ymn yct : Int32} {yr yw yc yb yy : Nat → Int32}
def wm_RF (I : Nat → Int32) (C : Nat → Nat) (k c r : Nat) : Prop :=
  (∀ j, j < k → wm_Wr (I k) r → ((wm_Wr (I j) r → C j + wm_lat (wm_op (I j)) < c + wm_lat (wm_op (I k))) ∧ (wm_Rd (I j) r → C j ≤ c))) ∧
  (wm_Rd (I k) r → ∀ j, j < k → wm_Wr (I j) r → C j + wm_lat (wm_op (I j)) ≤ c)
def wm_G (I : Nat → Int32) (C : Nat → Nat) (k c j : Nat) : Prop :=
  (wm_mo (wm_op (I j)) (wm_op (I k)) → C j < c) ∧ (wm_last (wm_op (I k)) → C j ≤ c) ∧ (C j = c → ¬ wm_su (wm_op (I j)) (wm_op (I k)))
theorem wm_Fit_i {I : Nat → Int32} {wd : Nat} {C : Nat → Nat} {k c : Nat} (hc : 1 ≤ c) : wm_Fit I wd C k c ↔ ((∀ r, r < 8 → wm_RF I C k c r) ∧ (∀ j, j < k → wm_G I C k c j) ∧ wm_cnt C c k < wd) := by
  constructor
  · rintro ⟨_, h, h2, h3⟩
    refine ⟨fun r hr => ⟨fun j hj hk => ⟨fun hw => (h j hj).2.1 ⟨r, hw, hk⟩, fun hw => (h j hj).2.2.1 ⟨r, hw, hk⟩⟩, fun hk j hj hw => (h j hj).1 ⟨r, hw, hk⟩⟩, fun j hj => ⟨(h j hj).2.2.2.2, (h j hj).2.2.2.1, h3 j hj⟩, h2⟩
  · rintro ⟨h, h2, h3⟩
    refine ⟨hc, fun j hj => ⟨?_, ?_, ?_, (h2 j hj).2.1, (h2 j hj).1⟩, h3, fun j hj => (h2 j hj).2.2⟩
    · rintro ⟨r, a, b⟩
      have hr : r < 8 := by rw [← a.2]; exact wm_d_lt _
      exact (h r hr).2 b j hj a
    · rintro ⟨r, a, b⟩
      have hr : r < 8 := by rw [← a.2]; exact wm_d_lt _
      exact ((h r hr).1 j hj b).1 a
    · rintro ⟨r, a, b⟩
      have hr : r < 8 := by rw [← b.2]; exact wm_d_lt _
      exact ((h r hr).1 j hj b).2 a
section RF
variable {wd s k c r : Nat} {C : Nat → Nat} {post : Int32 → Prop}
theorem wy_rf_l (hs : s + wm_len yw s ≤ 64) (hl8 : wm_len yw s ≤ 8) (hS : wm_Sch (wm_I yw s) wd C (wm_len yw s)) (hk : k < wm_len yw s) (hr : r < 8) (hc : c ≤ 1000) (hC : wm_PC C k yy)
    (h1 : wm_RF (wm_I yw s) C k c r → post 1) (h0 : ¬ wm_RF (wm_I yw s) C k c r → post 0) : ∀ d j R, j + d = k →
    (∀ i, i < j → wm_Wr (yw (s + k)) r → ((wm_Wr (yw (s + i)) r → C i + wm_lat (wm_op (yw (s + i))) < c + wm_lat (wm_op (yw (s + k)))) ∧ (wm_Rd (yw (s + i)) r → C i ≤ c))) →
    (∀ i, i < j → wm_Wr (yw (s + i)) r → C i + wm_lat (wm_op (yw (s + i))) ≤ R) →
    (R = 0 ∨ ∃ i, i < j ∧ wm_Wr (yw (s + i)) r ∧ R = C i + wm_lat (wm_op (yw (s + i)))) → R ≤ 1000 →
    wY_registersFit_18 post (nI s) (nI k) (nI c) (nI r) (nI (wm_lat (wm_op (yw (s + k))))) ypc ywd ymn yct yr yw yc yb yy (d + 1) (nI R) (nI j) := by
  have hlk := wm_lat_r (wm_op (yw (s + k)))
  intro d
  induction d with
  | zero =>
    intro j R hj hP hR1 hR2 hRb
    have : j = k := by omega
    subst this
    refine br_t (nI_le (Nat.le_refl j) (by omega)) ?_
    rw [nI_add]
    refine wy_reads (by omega) hr (fun z => br_f wm_10 (pk_lt c R (fun y => h0 fun q => ?_) (fun y => h1 ⟨hP, fun _ i hi hw => Nat.le_trans (hR1 i hi hw) y⟩))) (fun z => br_t rfl (h1 ⟨hP, fun y => absurd y z⟩))
    rcases hR2 with e | ⟨i, hi, hw, e⟩
    · omega
    · have := q.2 z i hi hw
      dsimp only [wm_I] at this
      omega
  | succ d ih =>
    intro j R hj hP hR1 hR2 hRb
    have hlj := wm_lat_r (wm_op (yw (s + j)))
    have hcj := wm_C1 hS (j := j) (by omega)
    have hij : vp_in (nI j) 8 := vp_in_nI (by omega) (by decide)
    have hclj : (nI j).toNatClampNeg = j := nI_clamp (by omega)
    -- the next turn, whatever R is then
    have nx : ∀ R', (wm_Wr (yw (s + k)) r → ((wm_Wr (yw (s + j)) r → C j + wm_lat (wm_op (yw (s + j))) < c + wm_lat (wm_op (yw (s + k)))) ∧ (wm_Rd (yw (s + j)) r → C j ≤ c))) →
        (∀ i, i < j + 1 → wm_Wr (yw (s + i)) r → C i + wm_lat (wm_op (yw (s + i))) ≤ R') → (R' = 0 ∨ ∃ i, i < j + 1 ∧ wm_Wr (yw (s + i)) r ∧ R' = C i + wm_lat (wm_op (yw (s + i)))) → R' ≤ 1000 →
        wY_registersFit_18 post (nI s) (nI k) (nI c) (nI r) (nI (wm_lat (wm_op (yw (s + k))))) ypc ywd ymn yct yr yw yc yb yy (d + 1) (nI R') (nI (j + 1)) := fun R' a b e f => ih (j + 1) R' (by omega) (lt_s hP a) b e f
    have r92 : ∀ R', wm_Wr (yw (s + k)) r → (wm_Wr (yw (s + j)) r → C j + wm_lat (wm_op (yw (s + j))) < c + wm_lat (wm_op (yw (s + k)))) →
        (∀ i, i < j + 1 → wm_Wr (yw (s + i)) r → C i + wm_lat (wm_op (yw (s + i))) ≤ R') → (R' = 0 ∨ ∃ i, i < j + 1 ∧ wm_Wr (yw (s + i)) r ∧ R' = C i + wm_lat (wm_op (yw (s + i)))) → R' ≤ 1000 →
        wY_registersFit_92 post (wY_registersFit_18 post (nI s) (nI k) (nI c) (nI r) (nI (wm_lat (wm_op (yw (s + k))))) ypc ywd ymn yct yr yw yc yb yy (d + 1)) (nI s) (nI k) (nI c) (nI r) (nI R') (nI (wm_lat (wm_op (yw (s + k))))) (nI j) ypc ywd ymn yct yr yw yc yb yy := by
      intro R' hWk hw b e f
      unfold wY_registersFit_92
      rw [nI_add, hclj, hC j (by omega)]
      exact wy_reads (by omega) hr (fun z => br_f wm_10 ⟨hij, pk_le (C j) c (fun y => nm_r (nI_1 j) (nx R' (fun _ => ⟨hw, fun _ => y⟩) b e f)) (fun y => h0 fun q => by have := (q.1 j (by omega) hWk).2 z; omega)⟩) (fun z => br_t rfl (nm_r (nI_1 j) (nx R' (fun _ => ⟨hw, fun y => absurd y z⟩) b e f)))
    refine br_f (nI_ge (by omega) (by omega)) ?_
    rw [nI_add, hclj, hC j (by omega)]
    refine wy_writes (by omega) hr (fun w => ⟨hij, wy_op (by omega) (wy_lat (wm_op_lt _) (nm_r (nI_add _ _) (br_f wm_10 ?_)))⟩) (fun w => ⟨hij, wy_op (by omega) (wy_lat (wm_op_lt _) (nm_r (nI_add _ _) (br_t rfl ?_)))⟩)
    · have b : ∀ i, i < j + 1 → wm_Wr (yw (s + i)) r → C i + wm_lat (wm_op (yw (s + i))) ≤ C j + wm_lat (wm_op (yw (s + j))) := by
        intro i hi hw
        by_cases e : i = j
        · rw [e]; exact Nat.le_refl _
        · exact Nat.le_of_lt (wm_waw hS (r := r) (i := i) (j := j) (by omega) (by omega) hw w)
      have e : C j + wm_lat (wm_op (yw (s + j))) = 0 ∨ ∃ i, i < j + 1 ∧ wm_Wr (yw (s + i)) r ∧ C j + wm_lat (wm_op (yw (s + j))) = C i + wm_lat (wm_op (yw (s + i))) := Or.inr ⟨j, by omega, w, rfl⟩
      unfold wY_registersFit_66
      rw [nI_add s k]
      refine wy_writes (by omega) hr (fun y => br_f wm_10 (br_f wm_10 ?_)) (fun y => br_t rfl (nm_r (nI_1 j) (nx _ (fun z => absurd z y) b e (by omega))))
      rw [nI_add]
      exact pk_le _ _ (fun z => h0 fun q => by have := (q.1 j (by omega) y).1 w; dsimp only [wm_I] at this; omega) (fun z => r92 _ y (fun _ => z) b e (by omega))
    · have b : ∀ i, i < j + 1 → wm_Wr (yw (s + i)) r → C i + wm_lat (wm_op (yw (s + i))) ≤ R := lt_s hR1 fun y => absurd y w
      have e : R = 0 ∨ ∃ i, i < j + 1 ∧ wm_Wr (yw (s + i)) r ∧ R = C i + wm_lat (wm_op (yw (s + i))) := by
        rcases hR2 with e | ⟨i, hi, hw, e⟩
        · exact Or.inl e
        · exact Or.inr ⟨i, by omega, hw, e⟩
      unfold wY_registersFit_66
      rw [nI_add s k]
      exact wy_writes (by omega) hr (fun y => br_f wm_10 (br_t rfl (r92 R y (fun z => absurd z w) b e hRb))) (fun y => br_t rfl (nm_r (nI_1 j) (nx R (fun z => absurd z y) b e hRb)))
theorem wy_rf (hs : s + wm_len yw s ≤ 64) (hl8 : wm_len yw s ≤ 8) (hS : wm_Sch (wm_I yw s) wd C (wm_len yw s)) (hk : k < wm_len yw s) (hr : r < 8) (hc : c ≤ 1000) (hC : wm_PC C k yy)
    (h1 : wm_RF (wm_I yw s) C k c r → post 1) (h0 : ¬ wm_RF (wm_I yw s) C k c r → post 0) : wpY_registersFit post (ypc, ywd, ymn, yct, yr, yw, yc, yb, yy) (nI s) (nI k) (nI c) (nI r) := by
  unfold wpY_registersFit
  rw [nI_add]
  exact wy_op (by omega) (wy_lat (wm_op_lt _) ⟨k + 1, wy_rf_l hs hl8 hS hk hr hc hC h1 h0 k 0 0 (by omega) lt_0 lt_0 (Or.inl rfl) (by omega)⟩)
end RF
end YPLAN
end
section
/-! Y: fits, the schedule, the time -/
section YFITS
variable {ypc ywd ymn yct : Int32} {yr yw yc yb yy : Nat → Int32}
section FIT
variable {wd s k c : Nat} {C : Nat → Nat} {post : Int32 → Prop} {x7 x8 : Int32}
theorem wy_f89 (hs : s + wm_len yw s ≤ 64) (hl8 : wm_len yw s ≤ 8) (hS : wm_Sch (wm_I yw s) wd C (wm_len yw s)) (hk : k < wm_len yw s) (hc : c ≤ 1000) (hC : wm_PC C k yy) (hw : ywd = nI wd) (hw4 : wd ≤ 4)
    (hm : (x7 = 0 ∧ ¬ (wm_op (yw (s + k)) = 5 ∨ wm_op (yw (s + k)) = 6)) ∨ (x7 = 1 ∧ (wm_op (yw (s + k)) = 5 ∨ wm_op (yw (s + k)) = 6)))
    (hu : (x8 = 0 ∧ ¬ (wm_op (yw (s + k)) = 3 ∨ wm_op (yw (s + k)) = 13)) ∨ (x8 = 1 ∧ (wm_op (yw (s + k)) = 3 ∨ wm_op (yw (s + k)) = 13)))
    (h1 : (∀ j, j < k → wm_G (wm_I yw s) C k c j) → wm_cnt C c k < wd → post 1) (h0 : ¬ ((∀ j, j < k → wm_G (wm_I yw s) C k c j) ∧ wm_cnt C c k < wd) → post 0) :
    ∀ d j, j + d = k → (∀ i, i < j → wm_G (wm_I yw s) C k c i) → wY_fits_89 post (nI s) (nI k) (nI c) (nI (s + k)) (nI (wm_op (yw (s + k)))) x7 x8 ypc ywd ymn yct yr yw yc yb yy (d + 1) (nI (wm_cnt C c j)) (nI j) := by
  have hok := wm_op_lt (yw (s + k))
  intro d
  induction d with
  | zero =>
    intro j hj hG
    have : j = k := by omega
    subst this
    have hcl := wm_cnt_le C c j
    refine br_t (nI_le (Nat.le_refl j) (by omega)) ?_
    rw [hw]
    exact pk_le wd (wm_cnt C c j) (fun z => h0 fun q => by have := q.2; omega) (fun z => h1 hG z)
  | succ d ih =>
    intro j hj hG
    have hoj := wm_op_lt (yw (s + j))
    have hcj := wm_C1 hS (j := j) (by omega)
    have hij : vp_in (nI j) 8 := vp_in_nI (by omega) (by decide)
    have hclj : (nI j).toNatClampNeg = j := nI_clamp (by omega)
    have hcnt := wm_cnt_le C c j
    have hyj : yy j = nI (C j) := hC j (by omega)
    have fail : ¬ wm_G (wm_I yw s) C k c j → post 0 := fun n => h0 fun q => n (q.1 j (by omega))
    have nxt : wm_G (wm_I yw s) C k c j → C j = c → wY_fits_89 post (nI s) (nI k) (nI c) (nI (s + k)) (nI (wm_op (yw (s + k)))) x7 x8 ypc ywd ymn yct yr yw yc yb yy (d + 1) (nI (wm_cnt C c j + 1)) (nI (j + 1)) := by
      intro g e
      have e1 : wm_cnt C c (j + 1) = wm_cnt C c j + 1 := by simp only [wm_cnt]; rw [if_pos e]
      rw [← e1]
      exact ih (j + 1) (by omega) (lt_s hG g)
    have nxf : wm_G (wm_I yw s) C k c j → C j ≠ c → wY_fits_89 post (nI s) (nI k) (nI c) (nI (s + k)) (nI (wm_op (yw (s + k)))) x7 x8 ypc ywd ymn yct yr yw yc yb yy (d + 1) (nI (wm_cnt C c j)) (nI (j + 1)) := by
      intro g e
      have e1 : wm_cnt C c (j + 1) = wm_cnt C c j := by simp only [wm_cnt]; rw [if_neg e]; rfl
      rw [← e1]
      exact ih (j + 1) (by omega) (lt_s hG g)
    have q208 : (wm_mo (wm_op (yw (s + j))) (wm_op (yw (s + k))) → C j < c) → (wm_last (wm_op (yw (s + k))) → C j ≤ c) → C j = c → ¬ ((wm_op (yw (s + j)) = 5 ∨ wm_op (yw (s + j)) = 6) ∧ (wm_op (yw (s + k)) = 5 ∨ wm_op (yw (s + k)) = 6)) →
        wY_fits_208 post (wY_fits_89 post (nI s) (nI k) (nI c) (nI (s + k)) (nI (wm_op (yw (s + k)))) x7 x8 ypc ywd ymn yct yr yw yc yb yy (d + 1)) (nI s) (nI k) (nI c) (nI (s + k)) (nI (wm_op (yw (s + k)))) (nI (wm_cnt C c j + 1)) x7 x8 (nI j) (nI (wm_op (yw (s + j)))) ypc ywd ymn yct yr yw yc yb yy := by
      intro hmo hla e hmm
      rcases hu with ⟨eu, nu⟩ | ⟨eu, yu⟩
      · exact br_t eu (nm_r (nI_1 j) (nxt ⟨hmo, hla, fun _ z => z.elim hmm fun y => nu y.2⟩ e))
      · refine br_f (by rw [eu]; exact wm_10) (pk_eq (wm_op (yw (s + j))) 3 (fun a => fail fun g => g.2.2 e (Or.inr ⟨Or.inl a, yu⟩)) fun a => pk_eq (wm_op (yw (s + j))) 13 (fun b => fail fun g => g.2.2 e (Or.inr ⟨Or.inr b, yu⟩)) fun b => nm_r (nI_1 j) (nxt ⟨hmo, hla, fun _ z => z.elim hmm fun y => y.1.elim a b⟩ e))
    have q173 : (wm_mo (wm_op (yw (s + j))) (wm_op (yw (s + k))) → C j < c) → (wm_last (wm_op (yw (s + k))) → C j ≤ c) →
        wY_fits_173 post (wY_fits_89 post (nI s) (nI k) (nI c) (nI (s + k)) (nI (wm_op (yw (s + k)))) x7 x8 ypc ywd ymn yct yr yw yc yb yy (d + 1)) (nI s) (nI k) (nI c) (nI (s + k)) (nI (wm_op (yw (s + k)))) (nI (wm_cnt C c j)) x7 x8 (nI j) (nI (wm_op (yw (s + j)))) ypc ywd ymn yct yr yw yc yb yy := by
      intro hmo hla
      unfold wY_fits_173
      rw [hclj, hyj]
      refine ⟨hij, pk_eq (C j) c (fun e => nm_r (nI_1 _) ?_) (fun e => nm_r (nI_1 j) (nxf ⟨hmo, hla, fun z => absurd z e⟩ e))⟩
      rcases hm with ⟨em, nm⟩ | ⟨em, ym⟩
      · exact br_t em (q208 hmo hla e fun z => nm z.2)
      · exact br_f (by rw [em]; exact wm_10) (pk_eq (wm_op (yw (s + j))) 5 (fun a => fail fun g => g.2.2 e (Or.inl ⟨Or.inl a, ym⟩)) fun a => pk_eq (wm_op (yw (s + j))) 6 (fun b => fail fun g => g.2.2 e (Or.inl ⟨Or.inr b, ym⟩)) fun b => q208 hmo hla e fun z => z.1.elim a b)
    have q151 : (wm_mo (wm_op (yw (s + j))) (wm_op (yw (s + k))) → C j < c) →
        wY_fits_151 post (wY_fits_89 post (nI s) (nI k) (nI c) (nI (s + k)) (nI (wm_op (yw (s + k)))) x7 x8 ypc ywd ymn yct yr yw yc yb yy (d + 1)) (nI s) (nI k) (nI c) (nI (s + k)) (nI (wm_op (yw (s + k)))) (nI (wm_cnt C c j)) x7 x8 (nI j) (nI (wm_op (yw (s + j)))) ypc ywd ymn yct yr yw yc yb yy := by
      intro hmo
      unfold wY_fits_151
      rw [hclj, hyj]
      exact wy_last (by omega) (fun l => br_f wm_10 ⟨hij, pk_le (C j) c (fun y => q173 hmo fun _ => y) (fun y => fail fun g => by have := g.2.1 l; omega)⟩) (fun l => br_t rfl (q173 hmo fun z => absurd z l))
    have q138 : wm_mo (wm_op (yw (s + j))) (wm_op (yw (s + k))) →
        wY_fits_138 post (wY_fits_89 post (nI s) (nI k) (nI c) (nI (s + k)) (nI (wm_op (yw (s + k)))) x7 x8 ypc ywd ymn yct yr yw yc yb yy (d + 1)) (nI s) (nI k) (nI c) (nI (s + k)) (nI (wm_op (yw (s + k)))) (nI (wm_cnt C c j)) x7 x8 (nI j) (nI (wm_op (yw (s + j)))) ypc ywd ymn yct yr yw yc yb yy := by
      intro hmo
      unfold wY_fits_138
      rw [hclj, hyj]
      exact ⟨hij, pk_lt (C j) c (fun y => q151 fun _ => y) (fun y => fail fun g => by have := g.1 hmo; omega)⟩
    have q118 : ¬ (wm_op (yw (s + k)) = 5 ∧ wm_op (yw (s + j)) = 6) →
        wY_fits_118 post (wY_fits_89 post (nI s) (nI k) (nI c) (nI (s + k)) (nI (wm_op (yw (s + k)))) x7 x8 ypc ywd ymn yct yr yw yc yb yy (d + 1)) (nI s) (nI k) (nI c) (nI (s + k)) (nI (wm_op (yw (s + k)))) (nI (wm_cnt C c j)) x7 x8 (nI j) (nI (wm_op (yw (s + j)))) ypc ywd ymn yct yr yw yc yb yy := by
      intro n
      refine pk_eq _ 6 (fun e6 => pk_eq _ 5 (fun e => q138 (Or.inr ⟨e, e6⟩)) fun n5 => pk_eq _ 6 (fun e => q138 (Or.inl ⟨e, Or.inr e6⟩)) fun n6 => q151 fun z => ?_) (fun n6 => q151 fun z => ?_)
      · rcases z with ⟨a, _⟩ | ⟨a, _⟩
        · exact absurd a n6
        · exact absurd a n5
      · rcases z with ⟨a, b | b⟩ | ⟨_, b⟩
        · exact absurd ⟨b, a⟩ n
        · exact absurd b n6
        · exact absurd b n6
    refine br_f (nI_ge (by omega) (by omega)) ?_
    rw [nI_add s j]
    exact wy_op (by omega) (pk_eq _ 5 (fun e5 => pk_eq _ 6 (fun e6 => q138 (Or.inl ⟨e6, Or.inl e5⟩)) fun n6 => q118 fun z => n6 z.2) fun n5 => q118 fun z => n5 z.1)
theorem wy_f59 (hs : s + wm_len yw s ≤ 64) (hl8 : wm_len yw s ≤ 8) (hS : wm_Sch (wm_I yw s) wd C (wm_len yw s)) (hk : k < wm_len yw s) (hc : c ≤ 1000) (hC : wm_PC C k yy) (hw : ywd = nI wd) (hw4 : wd ≤ 4)
    (hm : (x7 = 0 ∧ ¬ (wm_op (yw (s + k)) = 5 ∨ wm_op (yw (s + k)) = 6)) ∨ (x7 = 1 ∧ (wm_op (yw (s + k)) = 5 ∨ wm_op (yw (s + k)) = 6)))
    (hu : (x8 = 0 ∧ ¬ (wm_op (yw (s + k)) = 3 ∨ wm_op (yw (s + k)) = 13)) ∨ (x8 = 1 ∧ (wm_op (yw (s + k)) = 3 ∨ wm_op (yw (s + k)) = 13)))
    (h1c : 1 ≤ c) (h1 : wm_Fit (wm_I yw s) wd C k c → post 1) (h0 : ¬ wm_Fit (wm_I yw s) wd C k c → post 0) :
    ∀ d r, r + d = 8 → (∀ i, i < r → wm_RF (wm_I yw s) C k c i) → wY_fits_59 post (nI s) (nI k) (nI c) (nI (s + k)) (nI (wm_op (yw (s + k)))) 0 x7 x8 ypc ywd ymn yct yr yw yc yb yy (d + 1) (nI r) := by
  intro d
  induction d with
  | zero =>
    intro r hr hR
    have : r = 8 := by omega
    subst this
    refine br_t (nI_le (a := 8) (b := 8) (Nat.le_refl 8) (by decide)) ⟨k + 1, ?_⟩
    exact wy_f89 hs hl8 hS hk hc hC hw hw4 hm hu (fun g w => h1 ((wm_Fit_i h1c).mpr ⟨hR, g, w⟩)) (fun n => h0 fun f => n ((wm_Fit_i h1c).mp f).2) k 0 (by omega) lt_0
  | succ d ih =>
    intro r hr hR
    refine br_f (nI_ge (b := 8) (by omega) (by decide)) ?_
    exact wy_rf hs hl8 hS hk (by omega) hc hC (fun y => br_f wm_10 (nm_r (nI_1 r) (ih (r + 1) (by omega) (lt_s hR y)))) (fun y => br_t rfl (h0 fun f => y (((wm_Fit_i h1c).mp f).1 r (by omega))))
theorem wy_fits (hs : s + wm_len yw s ≤ 64) (hl8 : wm_len yw s ≤ 8) (hS : wm_Sch (wm_I yw s) wd C (wm_len yw s)) (hk : k < wm_len yw s) (hc : c ≤ 1000) (hC : wm_PC C k yy) (hw : ywd = nI wd) (hw4 : wd ≤ 4)
    (h1c : 1 ≤ c) (h1 : wm_Fit (wm_I yw s) wd C k c → post 1) (h0 : ¬ wm_Fit (wm_I yw s) wd C k c → post 0) : wpY_fits post (ypc, ywd, ymn, yct, yr, yw, yc, yb, yy) (nI s) (nI k) (nI c) := by
  have hok := wm_op_lt (yw (s + k))
  have p34 : ∀ z0 : Int32, ((z0 = 0 ∧ ¬ (wm_op (yw (s + k)) = 5 ∨ wm_op (yw (s + k)) = 6)) ∨ (z0 = 1 ∧ (wm_op (yw (s + k)) = 5 ∨ wm_op (yw (s + k)) = 6))) → wY_fits_34 post (nI s) (nI k) (nI c) (nI (s + k)) (nI (wm_op (yw (s + k)))) 0 z0 ypc ywd ymn yct yr yw yc yb yy := by
    intro z0 hz
    exact pk_eq _ 3 (fun e => ⟨9, wy_f59 hs hl8 hS hk hc hC hw hw4 hz (Or.inr ⟨rfl, Or.inl e⟩) h1c h1 h0 8 0 (by omega) lt_0⟩) fun a => pk_eq _ 13 (fun e => ⟨9, wy_f59 hs hl8 hS hk hc hC hw hw4 hz (Or.inr ⟨rfl, Or.inr e⟩) h1c h1 h0 8 0 (by omega) lt_0⟩) fun b => ⟨9, wy_f59 hs hl8 hS hk hc hC hw hw4 hz (Or.inl ⟨rfl, fun z => z.elim a b⟩) h1c h1 h0 8 0 (by omega) lt_0⟩
  refine nm_r (nI_add s k) (wy_op (by omega) ?_)
  exact pk_eq _ 5 (fun e => p34 1 (Or.inr ⟨rfl, Or.inl e⟩)) fun a => pk_eq _ 6 (fun e => p34 1 (Or.inr ⟨rfl, Or.inr e⟩)) fun b => p34 0 (Or.inl ⟨rfl, fun z => z.elim a b⟩)
end FIT
theorem wy_sch16 {wd s k : Nat} {C : Nat → Nat} {post : SY → Prop} {J : Int32 → (Nat → Int32) → (Nat → Int32) → (Nat → Int32) → (Nat → Int32) → (Nat → Int32) → Prop} {x2 : Int32} (hs : s + wm_len yw s ≤ 64) (hl8 : wm_len yw s ≤ 8) (hS : wm_Sch (wm_I yw s) wd C (wm_len yw s)) (hk : k < wm_len yw s) (hC : wm_PC C k yy) (hw : ywd = nI wd) (hw4 : wd ≤ 4)
    (h : J (nI (k + 1)) yr yw yc yb (upd yy k (nI (C k)))) : ∀ d c, c + d = C k → 1 ≤ c → wY_schedule_16 post J (nI s) x2 (nI k) ypc ywd ymn yct yr yw yc yb yy (d + 1) (nI c) := by
  have hck := (wm_C1 hS hk).2
  have hik : vp_in (nI k) 8 := vp_in_nI (by omega) (by decide)
  intro d
  induction d with
  | zero =>
    intro c hd h1
    have e : c = C k := by omega
    rw [e]
    refine wy_fits hs hl8 hS hk (by omega) hC hw hw4 (by omega) (fun f => br_f wm_10 ?_) (fun f => absurd (hS k hk).1 f)
    rw [nI_clamp (n := k) (by omega)]
    exact ⟨hik, nm_e (nm_r (nI_1 k) h)⟩
  | succ d ih =>
    intro c hd h1
    exact wy_fits hs hl8 hS hk (by omega) hC hw hw4 h1 (fun f => absurd f ((hS k hk).2.1 c (by omega))) (fun f => br_t rfl (nm_r (nI_1 c) (ih (c + 1) (by omega) (by omega))))
theorem wy_sch8 {wd s : Nat} {C : Nat → Nat} {post : SY → Prop} (hs : s < 64) (hS : wm_Sch (wm_I yw s) wd C (wm_len yw s)) (hw : ywd = nI wd) (hw4 : wd ≤ 4)
    (h : ∀ yy, wm_PC C (wm_len yw s) yy → post (ypc, ywd, ymn, yct, yr, yw, yc, yb, yy)) : ∀ d k (yy : Nat → Int32), k + d = wm_len yw s → wm_PC C k yy → wY_schedule_8 post (nI s) (nI (wm_len yw s)) ypc ywd ymn yct (d + 1) (nI k) yr yw yc yb yy := by
  have hr := wm_len_r yw hs
  intro d
  induction d with
  | zero =>
    intro k yy hk hC
    have e : k = wm_len yw s := by omega
    subst e
    exact br_t (nI_le (Nat.le_refl _) (by omega)) (h yy hC)
  | succ d ih =>
    intro k yy hk hC
    have hc := wm_C1 hS (j := k) (by omega)
    refine br_f (nI_ge (by omega) (by omega)) ⟨C k - 1 + 1, ?_⟩
    exact wy_sch16 hr.2.2 hr.2.1 hS (by omega) hC hw hw4 (ih (k + 1) _ (by omega) (wm_PC_s hC)) (C k - 1) 1 (by omega) (by omega)
theorem wy_sch {wd s : Nat} {C : Nat → Nat} {post : SY → Prop} (hs : s < 64) (hS : wm_Sch (wm_I yw s) wd C (wm_len yw s)) (hw : ywd = nI wd) (hw4 : wd ≤ 4)
    (h : ∀ yy, wm_PC C (wm_len yw s) yy → post (ypc, ywd, ymn, yct, yr, yw, yc, yb, yy)) : wpY_schedule post (ypc, ywd, ymn, yct, yr, yw, yc, yb, yy) (nI s) :=
  wy_len (post := fun r_1 => ∃ n8 : Nat, wY_schedule_8 post (nI s) r_1 ypc ywd ymn yct n8 0 yr yw yc yb yy) hs ⟨wm_len yw s + 1, wy_sch8 hs hS hw hw4 h (wm_len yw s) 0 yy (by omega) (fun j hj => absurd hj (Nat.not_lt_zero j))⟩
theorem wy_time_l {wd s : Nat} {C : Nat → Nat} {post : Int32 → Prop} (hs : s < 64) (hS : wm_Sch (wm_I yw s) wd C (wm_len yw s)) (hC : wm_PC C (wm_len yw s) yy)
    (h : post (nI (wm_tm (wm_I yw s) C (wm_len yw s)))) : ∀ d k, k + d = wm_len yw s → wY_time_4 post (nI s) ypc ywd ymn yct yr yw yc yb yy (d + 1) (nI (wm_tm (wm_I yw s) C k)) (nI k) := by
  have hr := wm_len_r yw hs
  intro d
  induction d with
  | zero =>
    intro k hk
    have e : k = wm_len yw s := by omega
    rw [e]
    exact wy_len hs (br_t (nI_le (Nat.le_refl _) (by omega)) h)
  | succ d ih =>
    intro k hk
    have hc := wm_C1 hS (j := k) (by omega)
    have hl := wm_lat_r (wm_op (yw (s + k)))
    have ht := wm_tm_b hS k (by omega)
    have hI := ih (k + 1) (by omega)
    refine wy_len hs (br_f (nI_ge (by omega) (by omega)) ⟨vp_in_nI (by omega) (by decide), ?_⟩)
    rw [nI_add s k, nI_clamp (n := k) (by omega), hC k (by omega)]
    refine wy_op (by omega) (wy_lat (wm_op_lt _) (nm_r (e' := nI (C k + wm_lat (wm_op (yw (s + k))) - 1)) ?_ ?_))
    · rw [nI_add, show (1 : Int32) = nI 1 from rfl, pk_sub (by omega)]
    · refine pk_le _ _ (fun z => nm_r (nI_1 k) ?_) (fun z => nm_r (nI_1 k) ?_)
      · have e : wm_tm (wm_I yw s) C (k + 1) = wm_tm (wm_I yw s) C k := Nat.max_eq_left z
        rw [e] at hI
        exact hI
      · have e : wm_tm (wm_I yw s) C (k + 1) = C k + wm_lat (wm_op (yw (s + k))) - 1 := Nat.max_eq_right (Nat.le_of_lt z)
        rw [e] at hI
        exact hI
theorem wy_time {wd s : Nat} {C : Nat → Nat} {post : Int32 → Prop} (hs : s < 64) (hS : wm_Sch (wm_I yw s) wd C (wm_len yw s)) (hC : wm_PC C (wm_len yw s) yy)
    (h : post (nI (wm_tm (wm_I yw s) C (wm_len yw s)))) : wpY_time post (ypc, ywd, ymn, yct, yr, yw, yc, yb, yy) (nI s) :=
  ⟨wm_len yw s + 1, wy_time_l hs hS hC h (wm_len yw s) 0 (by omega)⟩
end YFITS
end
section
/-! Y: the kept blocks -/
section YKEPT
variable {ypc ywd ymn yct : Int32} {yr yw yc yb yy : Nat → Int32}
theorem wy_pl_l {post : Int32 → Prop} {s : Nat} (hs : s < 64) {A B : List Nat} (hl : wm_L (A ++ B)) (hk : ymn = nI (A ++ B).length) (hR : wm_R nI yb (A ++ B)) (hA : s ∉ A) {f : Nat} (h : wY_place_2 post (nI s) ypc ywd ymn yct yr yw yc yb yy f (nI A.length)) :
    ∀ d i, i + d = A.length → wY_place_2 post (nI s) ypc ywd ymn yct yr yw yc yb yy (d + f) (nI i) := by
  have hlen : A.length + B.length ≤ 4 := by have := hl.1; rw [List.length_append] at this; exact this
  intro d
  induction d with
  | zero =>
    intro i hi
    have : i = A.length := by omega
    rw [this, Nat.zero_add]
    exact h
  | succ d ih =>
    intro i hi
    have hi' : i < A.length := by omega
    rw [show d + 1 + f = (d + f) + 1 by omega]
    have e : yb i = nI A[i] := wm_R_i (wm_R_app.mp hR).1 hi'
    have hm : A[i] ∈ A := List.getElem_mem hi'
    have hne : A[i] ≠ s := fun z => hA (z ▸ hm)
    refine br_f ?_ ⟨vp_in_nI (by omega) (by decide), br_f ?_ (nm_r (nI_1 i) (ih (i + 1) (by omega)))⟩
    · rw [hk, List.length_append]
      exact nI_ge (by omega) (by omega)
    · rw [nI_clamp (by omega), e]
      exact wm_inj (hl.2 _ (List.mem_append_left B hm)) hs hne
theorem wy_pl_f {post : Int32 → Prop} {s : Nat} (hs : s < 64) {A B : List Nat} (hl : wm_L (A ++ s :: B)) (hk : ymn = nI (A ++ s :: B).length) (hR : wm_R nI yb (A ++ s :: B)) (hA : s ∉ A) (h : post (nI A.length)) : wpY_place post (ypc, ywd, ymn, yct, yr, yw, yc, yb, yy) (nI s) := by
  have hlen : A.length + (B.length + 1) ≤ 4 := by have := hl.1; rw [List.length_append, List.length_cons] at this; exact this
  have e : yb A.length = nI s := ((wm_R_cons.mp (wm_R_app.mp hR).2)).1
  refine ⟨A.length + 1, wy_pl_l hs hl hk hR hA ?_ A.length 0 (by omega)⟩
  refine br_f ?_ ⟨vp_in_nI (by omega) (by decide), br_t ?_ h⟩
  · rw [hk, List.length_append, List.length_cons]
    exact nI_ge (by omega) (by omega)
  · rw [nI_clamp (by omega), e]
theorem wy_pl_n {post : Int32 → Prop} {s : Nat} (hs : s < 64) {l : List Nat} (hl : wm_L l) (hk : ymn = nI l.length) (hR : wm_R nI yb l) (hA : s ∉ l) (h : post (-1)) : wpY_place post (ypc, ywd, ymn, yct, yr, yw, yc, yb, yy) (nI s) := by
  have hl' : wm_L (l ++ []) := by rw [List.append_nil]; exact hl
  refine ⟨l.length + 1, wy_pl_l (B := []) hs hl' (by rw [List.append_nil]; exact hk) (by rw [List.append_nil]; exact hR) hA ?_ l.length 0 (by omega)⟩
  refine br_t ?_ h
  rw [hk]
  exact nI_le (Nat.le_refl _) (by have := hl.1; omega)

/-! forget -/
theorem wy_fg_l {post : SY → Prop} {b0 : Nat → Int32} {a m : Nat} (hm : m ≤ 3)
    (h : ∀ yb : Nat → Int32, (∀ i, yb i = if a ≤ i ∧ i < m then b0 (i + 1) else b0 i) → post (ypc, ywd, nI m, yct, yr, yw, yc, yb, yy)) :
    ∀ d j (yb : Nat → Int32), j + d = m → a ≤ j → (∀ i, yb i = if a ≤ i ∧ i < j then b0 (i + 1) else b0 i) → wY_forget_12 post ypc ywd (nI m) yct (d + 1) (nI j) yr yw yc yb yy := by
  intro d
  induction d with
  | zero =>
    intro j yb hj _ hb
    have : j = m := by omega
    subst this
    exact br_t (nI_le (Nat.le_refl _) (by omega)) (h yb hb)
  | succ d ih =>
    intro j yb hj ha hb
    refine br_f (nI_ge (by omega) (by omega)) ?_
    rw [nI_1 j, nI_clamp (n := j) (by omega), nI_clamp (n := j + 1) (by omega)]
    refine ⟨vp_in_nI (by omega) (by decide), vp_in_nI (by omega) (by decide), nm_e (nm_e (ih (j + 1) _ (by omega) (by omega) fun i => ?_))⟩
    by_cases e : i = j
    · rw [e, pk_us, hb, if_neg (by omega), if_pos (by omega)]
    · rw [pk_un e, hb]
      by_cases z : a ≤ i ∧ i < j
      · rw [if_pos z, if_pos (by omega)]
      · rw [if_neg z, if_neg (by omega)]
theorem wy_fg {post : SY → Prop} {A B : List Nat} {b : Nat} (hl : (A ++ b :: B).length ≤ 4) (hk : ymn = nI (A ++ b :: B).length) (hR : wm_R nI yb (A ++ b :: B))
    (h : ∀ yb : Nat → Int32, wm_R nI yb (A ++ B) → post (ypc, ywd, nI (A ++ B).length, yct, yr, yw, yc, yb, yy)) : wpY_forget post (ypc, ywd, ymn, yct, yr, yw, yc, yb, yy) (nI A.length) := by
  have hlen : A.length + (B.length + 1) ≤ 4 := by rw [List.length_append, List.length_cons] at hl; exact hl
  have e1 : (A ++ b :: B).length = A.length + B.length + 1 := by rw [List.length_append, List.length_cons]; rfl
  have e2 : (A ++ B).length = A.length + B.length := List.length_append
  refine nm_r (e' := nI (A.length + B.length)) (by rw [hk, e1, nI_pred]) ⟨B.length + 1, ?_⟩
  rw [e2] at h
  exact wy_fg_l (b0 := yb) (a := A.length) (by omega) (fun yb' hb => h yb' (wm_R_del hR hb)) B.length A.length yb rfl (Nat.le_refl _) (fun i => by rw [if_neg (by omega)])

/-! change -/
theorem wm_sub1 (x : Int32) : x + (-1) = x - 1 := (Int32.sub_eq_add_neg x 1).symm
theorem wm_m1lt : (nI 0 - 1 : Int32) < 0 := by decide
theorem wy_chg_l {post : SY → Prop} {a : Nat} {v : Int32} (ha : a < 64) {l : List Nat} (hl : wm_L l)
    (h : ∀ yb : Nat → Int32, wm_R nI yb (wm_keep yw a l) → post (ypc, ywd, nI (wm_keep yw a l).length, yct, yr, upd yw a v, yc, yb, yy)) :
    ∀ (n : Nat) (A B : List Nat) (yb : Nat → Int32) (x3 ymn : Int32), A.length = n → A ++ B = l → x3 = nI n - 1 → ymn = nI (A ++ wm_keep yw a B).length → wm_R nI yb (A ++ wm_keep yw a B) → wY_change_7 post (nI a) v (n + 1) x3 ypc ywd ymn yct yr yw yc yb yy := by
  intro n
  induction n with
  | zero =>
    intro A B yb x3 ymn hA e hx hk hR
    have eA : A = [] := List.eq_nil_of_length_eq_zero hA
    subst eA
    have eB : B = l := e
    subst eB
    refine br_t (by rw [hx]; exact wm_m1lt) ⟨vp_in_nI ha (by decide), nm_r (e' := upd yw a v) (by rw [nI_clamp (by omega)]) ?_⟩
    rw [hk]
    exact h yb hR
  | succ n ih =>
    intro A B yb x3 ymn hA e hx hk hR
    obtain ⟨A', b, rfl, hn⟩ := wm_snoc hA
    subst hn
    have hkB := wm_keep_n yw a B
    have e' : A' ++ (b :: B) = l := by rw [← e, List.append_assoc]; rfl
    have hlen : A'.length + (B.length + 1) ≤ 4 := by have := hl.1; rw [← e', List.length_append, List.length_cons] at this; exact this
    have hb : b < 64 := hl.2 b (by rw [← e']; exact List.mem_append_right A' (List.mem_cons_self))
    have hlb := wm_len_r yw hb
    have ea : (A' ++ [b]) ++ wm_keep yw a B = A' ++ b :: wm_keep yw a B := by rw [List.append_assoc]; rfl
    rw [ea] at hR hk
    have yn : yb A'.length = nI b := (wm_R_cons.mp (wm_R_app.mp hR).2).1
    have ex : x3 = nI A'.length := by rw [hx, nI_pred]
    have i4 : vp_in (nI A'.length) 4 := vp_in_nI (by omega) (by decide)
    have hcn : (nI A'.length).toNatClampNeg = A'.length := nI_clamp (by omega)
    subst ex
    have no : ¬ wm_hit yw a b → wY_change_7 post (nI a) v (A'.length + 1) (nI A'.length + (-1)) ypc ywd ymn yct yr yw yc yb yy := by
      intro hh
      refine ih A' (b :: B) yb _ ymn rfl e' (wm_sub1 _) ?_ ?_
      · rw [wm_keep_t hh]; exact hk
      · rw [wm_keep_t hh]; exact hR
    refine br_f (nI_pos (by omega)) ?_
    rw [hcn, yn]
    refine ⟨i4, pk_lt a b (fun z => nm_e (no fun y => by have := y.1; omega)) (fun z => ⟨i4, i4, wy_len hb ?_⟩)⟩
    rw [nI_add]
    refine pk_le (b + wm_len yw b) a (fun y => nm_e (no fun q => by have := q.2; omega)) (fun y => ?_)
    have hh : wm_hit yw a b := ⟨z, y⟩
    refine wy_fg (A := A') (b := b) (B := wm_keep yw a B) (by rw [List.length_append, List.length_cons]; omega) hk hR (fun yb' hR' => nm_e (ih A' (b :: B) yb' _ _ rfl e' (wm_sub1 _) ?_ ?_))
    · rw [wm_keep_f hh]
    · rw [wm_keep_f hh]; exact hR'
theorem wy_chg {post : SY → Prop} {a : Nat} {v : Int32} (ha : a < 64) {l : List Nat} (hl : wm_L l) (hk : ymn = nI l.length) (hR : wm_R nI yb l)
    (h : ∀ yb : Nat → Int32, wm_R nI yb (wm_keep yw a l) → post (ypc, ywd, nI (wm_keep yw a l).length, yct, yr, upd yw a v, yc, yb, yy)) : wpY_change post (ypc, ywd, ymn, yct, yr, yw, yc, yb, yy) (nI a) v := by
  refine nm_e ⟨l.length + 1, wy_chg_l ha hl h l.length l [] yb _ ymn rfl (List.append_nil l) (by rw [hk]) ?_ ?_⟩
  · show ymn = nI (l ++ []).length
    rw [List.append_nil]
    exact hk
  · show wm_R nI yb (l ++ [])
    rw [List.append_nil]
    exact hR

/-! first -/
theorem wy_fi_l {post : SY → Prop} {p s : Nat} (hp : p < 4) {b0 : Nat → Int32}
    (h : ∀ yb : Nat → Int32, (∀ i, yb i = if i = 0 then nI s else if i ≤ p then b0 (i - 1) else b0 i) → post (ypc, ywd, nI (p + 1), yct, yr, yw, yc, yb, yy)) :
    ∀ k (yb : Nat → Int32), k ≤ p → (∀ i, yb i = if k < i ∧ i ≤ p then b0 (i - 1) else b0 i) → wY_first_5 post (nI s) ypc ywd (nI p) yct (k + 1) (nI k) yr yw yc yb yy := by
  intro k
  induction k with
  | zero =>
    intro yb _ hb
    refine br_t (nI_le (a := 0) (b := 0) (Nat.le_refl 0) (by decide)) (nm_e (nm_r (nI_1 p) (h _ fun i => ?_)))
    by_cases e : i = 0
    · rw [e, pk_us, if_pos rfl]
    · rw [pk_un e, hb, if_neg e]
      by_cases z : i ≤ p
      · rw [if_pos (by omega), if_pos z]
      · rw [if_neg (by omega), if_neg z]
  | succ k ih =>
    intro yb hk hb
    refine br_f (nI_nle (by omega) (by omega)) ?_
    rw [nI_pred, nI_clamp (n := k + 1) (by omega), nI_clamp (n := k) (by omega)]
    refine ⟨vp_in_nI (by omega) (by decide), vp_in_nI (by omega) (by decide), nm_e (nm_r (pk_m1 k) (ih _ (by omega) fun i => ?_))⟩
    by_cases e : i = k + 1
    · rw [e, pk_us, hb, if_neg (by omega), if_pos (by omega)]
      rfl
    · rw [pk_un e, hb]
      by_cases z : k < i ∧ i ≤ p
      · rw [if_pos (by omega), if_pos z]
      · rw [if_neg (by omega), if_neg z]
theorem wy_fi {post : SY → Prop} {s : Nat} {A : List Nat} (hA : A.length < 4) (hk : ymn = nI A.length) (hR : wm_R nI yb A)
    (h : ∀ yb : Nat → Int32, wm_R nI yb (s :: A) → post (ypc, ywd, nI (A.length + 1), yct, yr, yw, yc, yb, yy)) : wpY_first post (ypc, ywd, ymn, yct, yr, yw, yc, yb, yy) (nI s) := by
  subst hk
  refine ⟨A.length + 1, wy_fi_l (b0 := yb) hA (fun yb' e => h yb' ?_) A.length yb (Nat.le_refl _) (fun i => by rw [if_neg (by omega)])⟩
  have := wm_R_front (C := []) (s := s) hR wm_R_nil e
  rw [List.append_nil] at this
  exact this

/-! one instruction -/
theorem wy_step {post : Int32 → SY → Prop} {at' e : Nat} (ha : at' < 64) (he : e ≤ 64) {l : List Nat} (hl : wm_L l) (hk : ymn = nI l.length) (hR : wm_R nI yb l)
    (hF : ¬ wm_flt yr (yw at') = 0 → post (wm_flt yr (yw at')) (ypc, ywd, ymn, yct, yr, yw, yc, yb, yy))
    (hN : wm_flt yr (yw at') = 0 → wm_op (yw at') ≠ 6 → post 0 (ypc, ywd, ymn, yct, wm_g yr yw (yw at'), yw, yc, yb, yy))
    (hS : ∀ t, wm_flt yr (yw at') = 0 → wm_op (yw at') = 6 → t < 64 → wm_tg yr (yw at') = nI t → ∀ (yb : Nat → Int32) (yct : Int32), wm_R nI yb (wm_keep yw t l) → ((at' < t ∧ t < e) ∧ yct = 1) ∨ (¬ (at' < t ∧ t < e) ∧ yct = 0) →
      post 0 (ypc, ywd, nI (wm_keep yw t l).length, yct, yr, upd yw t (yr (wm_b (yw at'))), yc, yb, yy)) : wpY_step post (ypc, ywd, ymn, yct, yr, yw, yc, yb, yy) (nI at') (nI e) := by
  have ho := wm_op_lt (yw at')
  have hca : (nI (wm_a (yw at'))).toNatClampNeg = wm_a (yw at') := nI_clamp (Nat.lt_trans (wm_a_lt _) (by decide))
  have hcb : (nI (wm_b (yw at'))).toNatClampNeg = wm_b (yw at') := nI_clamp (Nat.lt_trans (wm_b_lt _) (by decide))
  have hcd : (nI (wm_d (yw at'))).toNatClampNeg = wm_d (yw at') := nI_clamp (Nat.lt_trans (wm_d_lt _) (by decide))
  have hd : vp_in (nI (wm_d (yw at'))) 8 := vp_in_nI (wm_d_lt _) (by decide)
  unfold wpY_step
  refine wy_op ha (wy_a ha ⟨vp_in_nI (wm_a_lt _) (by decide), nm_r (e' := yr (wm_a (yw at'))) (by rw [hca]) (wy_b ha ⟨vp_in_nI (wm_b_lt _) (by decide), nm_r (e' := yr (wm_b (yw at'))) (by rw [hcb]) (wy_n ha (wy_d ha (nm_r (e' := wm_tg yr (yw at')) rfl ?_)))⟩)⟩)
  -- what a plain one writes
  have pl : wm_op (yw at') ≠ 5 → wm_op (yw at') ≠ 6 → wm_wD (wm_op (yw at')) → (wm_op (yw at') = 13 → ¬ yr (wm_b (yw at')) = 0) → ∀ v, v = wm_res (wm_op (yw at')) (yr (wm_a (yw at'))) (yr (wm_b (yw at'))) ((yw at') >>> ((13 : Int32) &&& 31)) →
      (vp_in (nI (wm_d (yw at'))) 8 ∧ ∀ a : Nat → Int32, a = upd yr (nI (wm_d (yw at'))).toNatClampNeg v → post 0 (ypc, ywd, ymn, yct, a, yw, yc, yb, yy)) := by
    intro h5 h6 hD h13 v ev
    refine ⟨hd, nm_r (e' := wm_g yr yw (yw at')) (by rw [hcd, ev, wm_gD h5 hD]) (hN (wm_flt0 ?_ (fun z => h13 z.1 z.2) (fun z => z.1.elim h5 h6)) h6)⟩
    have := wm_wD_i.mp hD
    omega
  have st : wm_op (yw at') ≤ 13 → wm_op (yw at') ≠ 5 → wm_op (yw at') ≠ 6 → wm_op (yw at') ≠ 13 → ¬ wm_wD (wm_op (yw at')) → post 0 (ypc, ywd, ymn, yct, yr, yw, yc, yb, yy) := by
    intro h h5 h6 h13 hD
    have := hN (wm_flt0 h (fun z => h13 z.1) (fun z => z.1.elim h5 h6)) h6
    rw [wm_g0 h5 hD] at this
    exact this
  have f3 : 13 < wm_op (yw at') → post 3 (ypc, ywd, ymn, yct, yr, yw, yc, yb, yy) := by
    intro h
    rw [wm_flt3 h] at hF
    exact hF wm_30
  refine br_f (nI_pos (by omega)) (pk_lt 13 (wm_op (yw at')) (fun z => f3 z) fun h13 => ?_)
  refine pk_eq (wm_op (yw at')) 0 (fun z => st h13 (by omega) (by omega) (by omega) (fun q => q.1 (Or.inl z))) fun n0 => ?_
  refine pk_eq (wm_op (yw at')) 1 (fun z => pl (by omega) (by omega) (wm_wD_i.mpr (by omega)) (by omega) _ (by rw [z]; rfl)) fun n1 => ?_
  refine pk_eq (wm_op (yw at')) 2 (fun z => pl (by omega) (by omega) (wm_wD_i.mpr (by omega)) (by omega) _ (by rw [z]; rfl)) fun n2 => ?_
  refine pk_eq (wm_op (yw at')) 3 (fun z => pl (by omega) (by omega) (wm_wD_i.mpr (by omega)) (by omega) _ (by rw [z]; rfl)) fun n3 => ?_
  refine pk_eq (wm_op (yw at')) 4 (fun z => pl (by omega) (by omega) (wm_wD_i.mpr (by omega)) (by omega) _ (by rw [z]; rfl)) fun n4 => ?_
  refine pk_eq (wm_op (yw at')) 5 (fun z => ?_) fun n5 => ?_
  · rcases wm_ix (wm_tg yr (yw at')) (N := 64) (by decide) with y | ⟨j, hj, ej⟩
    · rw [wm_flt1 (Or.inl z) y] at hF
      exact wy_in0 y (br_t rfl (hF wm_10))
    · have f0 : wm_flt yr (yw at') = 0 := wm_flt0 h13 (fun q => by have := q.1; omega) (fun q => by rcases q.2 with q | q <;> rw [ej] at q <;> first | exact nI_pos (by omega) q | exact nI_ge hj (by decide) q)
      have hh := hN f0 (by omega)
      rw [wm_g5 z, ej, nI_clamp (by omega)] at hh
      rw [ej, hcd, nI_clamp (n := j) (by omega)]
      exact wy_in1 hj (by decide) (br_f wm_10 ⟨vp_in_nI hj (by decide), hd, nm_e hh⟩)
  refine pk_eq (wm_op (yw at')) 6 (fun z => ?_) fun n6 => ?_
  · rcases wm_ix (wm_tg yr (yw at')) (N := 64) (by decide) with y | ⟨j, hj, ej⟩
    · rw [wm_flt1 (Or.inr z) y] at hF
      exact wy_in0 y (br_t rfl (hF wm_10))
    · have f0 : wm_flt yr (yw at') = 0 := wm_flt0 h13 (fun q => by have := q.1; omega) (fun q => by rcases q.2 with q | q <;> rw [ej] at q <;> first | exact nI_pos (by omega) q | exact nI_ge hj (by decide) q)
      rw [ej]
      refine wy_in1 hj (by decide) (br_f wm_10 (wy_chg hj hl hk hR fun yb' hR' => ?_))
      refine pk_le j at' (fun q => hS j f0 z hj ej yb' 0 hR' (Or.inr ⟨by omega, rfl⟩)) fun q => pk_le e j (fun p => hS j f0 z hj ej yb' 0 hR' (Or.inr ⟨by omega, rfl⟩)) fun p => hS j f0 z hj ej yb' 1 hR' (Or.inl ⟨by omega, rfl⟩)
  refine pk_eq (wm_op (yw at')) 7 (fun z => st h13 (by omega) (by omega) (by omega) (fun q => q.1 (Or.inr (Or.inl z)))) fun n7 => ?_
  refine pk_eq (wm_op (yw at')) 8 (fun z => st h13 (by omega) (by omega) (by omega) (fun q => q.1 (Or.inr (Or.inr (Or.inl z))))) fun n8 => ?_
  refine pk_eq (wm_op (yw at')) 9 (fun z => br_c (fun y => pl (by omega) (by omega) (wm_wD_i.mpr (by omega)) (by omega) _ (by rw [z, wm_res9t y])) (fun y => pl (by omega) (by omega) (wm_wD_i.mpr (by omega)) (by omega) _ (by rw [z, wm_res9f y]))) fun n9 => ?_
  refine pk_eq (wm_op (yw at')) 10 (fun z => pl (by omega) (by omega) (wm_wD_i.mpr (by omega)) (by omega) _ (by rw [z]; rfl)) fun n10 => ?_
  refine pk_eq (wm_op (yw at')) 11 (fun z => pl (by omega) (by omega) (wm_wD_i.mpr (by omega)) (by omega) _ (by rw [z]; rfl)) fun n11 => ?_
  refine pk_eq (wm_op (yw at')) 12 (fun z => pl (by omega) (by omega) (wm_wD_i.mpr (by omega)) (by omega) _ (by rw [z]; rfl)) fun n12 => ?_
  refine pk_eq (wm_op (yw at')) 13 (fun z => br_c (fun y => ?_) (fun y => ⟨y, pl (by omega) (by omega) (wm_wD_i.mpr (by omega)) (fun _ => y) _ (by rw [z]; rfl)⟩)) fun _ => trivial
  rw [wm_flt2 z y] at hF
  exact hF wm_20
end YKEPT
end
section
/-! One instruction's turn in X's doPlanned and in Y's go -/
theorem wm_flt_v (g : Nat → Int32) (i : Int32) : wm_flt g i = 3 ∨ wm_flt g i = 2 ∨ wm_flt g i = 1 ∨ wm_flt g i = 0 := by
  unfold wm_flt
  split
  · exact Or.inl rfl
  · split
    · exact Or.inr (Or.inl rfl)
    · split
      · exact Or.inr (Or.inr (Or.inl rfl))
      · exact Or.inr (Or.inr (Or.inr rfl))
theorem wm_flt_p {g : Nat → Int32} {i : Int32} (h : ¬ wm_flt g i = 0) : ¬ wm_flt g i ≤ 0 ∧ ¬ wm_flt g i = -2 ∧ ¬ wm_flt g i < 0 := by
  rcases wm_flt_v g i with e | e | e | e
  · rw [e]; decide
  · rw [e]; decide
  · rw [e]; decide
  · exact absurd e h
section XTURN
variable {xpc xwn xkc xps xpn xpt xta xtm xbm xbf xbb xid : Int32} {xr xw xs xl xo xh xi xj xc : Nat → Int32}
variable {s N j n : Nat} {post : Int32 → SX → Prop}
theorem wx_tE (h : post (-2) (xpc, xwn, xkc, nI s, nI N, xpt, xta + xpt, xtm, xbm, xbf, xbb, xid, xr, xw, xs, xl, xo, xh, xi, xj, xc)) (hN : N ≤ 8) : wX_doPlanned_2 post (n + 1) (nI N) xpc xwn xkc (nI s) (nI N) xpt xta xtm xbm xbf xbb xid xr xw xs xl xo xh xi xj xc :=
  br_t (nI_le (Nat.le_refl N) (by omega)) (nm_e h)
theorem wx_tF (hj : j < N) (hN : N ≤ 8) (hs : s + N ≤ 64) (hf : ¬ wm_flt xr (xw (s + j)) = 0) (h : post (wm_flt xr (xw (s + j))) (nI (s + j), xwn, xkc, nI s, nI N, xpt, xta + xc j, xtm, xbm, xbf, xbb, xid, xr, xw, xs, xl, xo, xh, xi, xj, xc)) : wX_doPlanned_2 post (n + 1) (nI j) xpc xwn xkc (nI s) (nI N) xpt xta xtm xbm xbf xbb xid xr xw xs xl xo xh xi xj xc :=
  br_f (nI_ge hj (by omega)) (nm_r (nI_add s j) ⟨vp_in_nI (by omega) (by decide), nm_r (e' := xw (s + j)) (by rw [nI_clamp (by omega)]) (wx_tg (wx_flt (br_f hf ⟨vp_in_nI (by omega) (by decide), nm_r (e' := xta + xc j) (by rw [nI_clamp (by omega)]) h⟩)))⟩)
theorem wx_t0 (hj : j < N) (hN : N ≤ 8) (hs : s + N ≤ 64) (hf : wm_flt xr (xw (s + j)) = 0) (h : wX_doPlanned_82 post (wX_doPlanned_2 post n) (nI j) (nI (s + j)) (xw (s + j)) (wm_tg xr (xw (s + j))) (nI ((s + j + 1) % 64)) xpc xwn xkc (nI s) (nI N) xpt xta xtm xbm xbf xbb xid xr xw xs xl xo xh xi xj xc) : wX_doPlanned_2 post (n + 1) (nI j) xpc xwn xkc (nI s) (nI N) xpt xta xtm xbm xbf xbb xid xr xw xs xl xo xh xi xj xc := by
  refine br_f (nI_ge hj (by omega)) (nm_r (nI_add s j) ⟨vp_in_nI (by omega) (by decide), nm_r (e' := xw (s + j)) (by rw [nI_clamp (by omega)]) (wx_tg (wx_flt (br_t hf ?_)))⟩)
  rw [nI_1 (s + j)]
  refine pk_le 64 (s + j + 1) (fun z => ?_) (fun z => ?_)
  · rw [show (s + j + 1) % 64 = 0 by omega] at h
    exact h
  · rw [show (s + j + 1) % 64 = s + j + 1 by omega] at h
    exact h
theorem wx_t139 {x2 : Int32} (hj : j < 8) (h0 : ¬ xo j = 0) (h : wX_doPlanned_2 post n (nI (j + 1)) xpc xwn xkc xps xpn xpt xta xtm xbm xbf xbb xid xr xw xs xl xo xh xi xj xc) : wX_doPlanned_139 post (wX_doPlanned_2 post n) (nI j) x2 xpc xwn xkc xps xpn xpt xta xtm xbm xbf xbb xid xr xw xs xl xo xh xi xj xc := by
  unfold wX_doPlanned_139
  rw [nI_clamp (by omega)]
  exact ⟨vp_in_nI hj (by decide), br_f h0 (nm_r (nI_1 j) h)⟩
theorem wm_nn {o k : Nat} (ho : o < 16) (hk : k < 16) (h : o ≠ k) : ¬ nI o = nI k := fun z => h ((nI_eq (by omega) (by omega)).mp z)
theorem wx_tO (hj : j < N) (hN : N ≤ 8) (hs : s + N ≤ 64) (hf : wm_flt xr (xw (s + j)) = 0) (hop : xo j = nI (wm_op (xw (s + j)))) (h6 : wm_op (xw (s + j)) ≠ 6) (h0 : wm_op (xw (s + j)) ≠ 0)
    (hy : wm_op (xw (s + j)) = 7 ∨ (wm_op (xw (s + j)) = 8 ∧ xr (wm_a (xw (s + j))) = 0) → wX_doPlanned_2 post n (nI (j + 1)) (nI (wm_t ((xw (s + j)) >>> ((13 : Int32) &&& 31)))) xwn xkc (nI s) (nI N) xpt xta xtm xbm xbf xbb (xid + 1) (wm_g xr xw (xw (s + j))) xw xs xl xo xh xi xj xc)
    (hn : ¬ (wm_op (xw (s + j)) = 7 ∨ (wm_op (xw (s + j)) = 8 ∧ xr (wm_a (xw (s + j))) = 0)) → wX_doPlanned_2 post n (nI (j + 1)) (nI ((s + j + 1) % 64)) xwn xkc (nI s) (nI N) xpt xta xtm xbm xbf xbb (xid + 1) (wm_g xr xw (xw (s + j))) xw xs xl xo xh xi xj xc) :
    wX_doPlanned_2 post (n + 1) (nI j) xpc xwn xkc (nI s) (nI N) xpt xta xtm xbm xbf xbb xid xr xw xs xl xo xh xi xj xc := by
  have ho := wm_op_lt (xw (s + j))
  have e6 : ¬ xo (nI j).toNatClampNeg = 6 := by rw [nI_clamp (by omega), hop]; exact wm_nn (k := 6) ho (by decide) h6
  have e0 : ¬ xo j = 0 := by rw [hop]; exact wm_nn (k := 0) ho (by decide) h0
  have hij : vp_in (nI j) 8 := vp_in_nI (by omega) (by decide)
  refine wx_t0 hj hN hs hf ?_
  unfold wX_doPlanned_82
  exact wx_perf hf h6 (fun z => nm_e ⟨hij, br_f e6 (wx_t139 (by omega) e0 (hy z))⟩) (fun z => nm_e ⟨hij, br_f e6 (wx_t139 (by omega) e0 (hn z))⟩)
theorem wx_tS (hj : j < N) (hN : N ≤ 8) (hs : s + N ≤ 64) (hf : wm_flt xr (xw (s + j)) = 0) (hop : xo j = nI (wm_op (xw (s + j)))) (h0 : wm_op (xw (s + j)) = 0)
    (h : post 0 (nI (s + j), xwn, xkc, nI s, nI N, xpt, xta + xpt, xtm, xbm, xbf, xbb, xid + 1, xr, xw, xs, xl, xo, xh, xi, xj, xc)) : wX_doPlanned_2 post (n + 1) (nI j) xpc xwn xkc (nI s) (nI N) xpt xta xtm xbm xbf xbb xid xr xw xs xl xo xh xi xj xc := by
  have e6 : ¬ xo (nI j).toNatClampNeg = 6 := by rw [nI_clamp (by omega), hop, h0]; decide
  have e0 : xo (nI j).toNatClampNeg = 0 := by rw [nI_clamp (by omega), hop, h0]; rfl
  have hij : vp_in (nI j) 8 := vp_in_nI (by omega) (by decide)
  have eg : wm_g xr xw (xw (s + j)) = xr := wm_g0 (by omega) (fun z => z.1 (Or.inl h0))
  refine wx_t0 hj hN hs hf ?_
  unfold wX_doPlanned_82
  refine wx_perf hf (by omega) (fun z => absurd z (by omega)) (fun z => ?_)
  rw [eg]
  exact nm_e ⟨hij, br_f e6 ⟨hij, br_t e0 (nm_e h)⟩⟩
theorem wx_tT {t : Nat} (hj : j < N) (hN : N ≤ 8) (hs : s + N ≤ 64) (hf : wm_flt xr (xw (s + j)) = 0) (hop : xo j = nI (wm_op (xw (s + j)))) (h6 : wm_op (xw (s + j)) = 6) (ht : t < 64) (et : wm_tg xr (xw (s + j)) = nI t) {l : List Nat} (hl : wm_L l) (hk : xkc = nI l.length) (hK : wm_K xw xs xl l)
    (hy : s + j < t ∧ t < s + N → ∀ xs xl : Nat → Int32, wm_K (upd xw t (xr (wm_b (xw (s + j))))) xs xl (wm_keep xw t l) → post (-2) (nI ((s + j + 1) % 64), xwn, nI (wm_keep xw t l).length, nI s, nI N, xpt, xta + xc j, xtm, xbm, xbf, xbb, xid + 1, xr, upd xw t (xr (wm_b (xw (s + j)))), xs, xl, xo, xh, xi, xj, xc))
    (hn : ¬ (s + j < t ∧ t < s + N) → ∀ xs xl : Nat → Int32, wm_K (upd xw t (xr (wm_b (xw (s + j))))) xs xl (wm_keep xw t l) → wX_doPlanned_2 post n (nI (j + 1)) (nI ((s + j + 1) % 64)) xwn (nI (wm_keep xw t l).length) (nI s) (nI N) xpt xta xtm xbm xbf xbb (xid + 1) xr (upd xw t (xr (wm_b (xw (s + j))))) xs xl xo xh xi xj xc) :
    wX_doPlanned_2 post (n + 1) (nI j) xpc xwn xkc (nI s) (nI N) xpt xta xtm xbm xbf xbb xid xr xw xs xl xo xh xi xj xc := by
  have e6 : xo (nI j).toNatClampNeg = 6 := by rw [nI_clamp (by omega), hop, h6]; rfl
  have e0 : ¬ xo j = 0 := by rw [hop, h6]; decide
  have hij : vp_in (nI j) 8 := vp_in_nI (by omega) (by decide)
  refine wx_t0 hj hN hs hf ?_
  unfold wX_doPlanned_82
  rw [et]
  refine wx_perf6 h6 ht et hl hk hK fun xs' xl' hK' => nm_e ⟨hij, br_t e6 ?_⟩
  unfold wpX_isBehindInBlock
  dsimp only
  rw [nI_add s N]
  refine pk_le t (s + j) (fun z => br_t rfl (wx_t139 (by omega) e0 (hn (by omega) xs' xl' hK'))) fun z => pk_le (s + N) t (fun y => br_t rfl (wx_t139 (by omega) e0 (hn (by omega) xs' xl' hK'))) fun y => br_f wm_10 ⟨hij, nm_r (e' := xta + xc j) (by rw [nI_clamp (by omega)]) (hy ⟨z, y⟩ xs' xl' hK')⟩
end XTURN
section YTURN
variable {ypc ywd ymn yct : Int32} {yr yw yc yb yy : Nat → Int32}
variable {s N j n : Nat} {post : Int32 → SY → Prop} {x4 x5 x6 x7 x8 : Int32}
theorem wy_turn (hj : j < N) (hN : N ≤ 8) (hs : s + N ≤ 64) {l : List Nat} (hl : wm_L l) (hk : ymn = nI l.length) (hR : wm_R nI yb l)
    (hF : ¬ wm_flt yr (yw (s + j)) = 0 → post (wm_flt yr (yw (s + j))) (nI (s + j), ywd, ymn, 0, yr, yw, upd yc 0 (yc 0 + yy j), yb, yy))
    (hO : wm_flt yr (yw (s + j)) = 0 → wm_op (yw (s + j)) ≠ 6 → wm_op (yw (s + j)) ≠ 0 → wY_go_155 post (nI s) (nI N) x4 x5 x6 x7 x8 n (nI (j + 1)) ypc ywd ymn 0 (wm_g yr yw (yw (s + j))) yw (upd yc 5 (yc 5 + 1)) yb yy)
    (hS : wm_flt yr (yw (s + j)) = 0 → wm_op (yw (s + j)) = 0 → post 0 (nI (s + j), ywd, ymn, 0, yr, yw, upd (upd yc 5 (yc 5 + 1)) 0 (upd yc 5 (yc 5 + 1) 0 + x4), yb, yy))
    (hT1 : ∀ t, wm_flt yr (yw (s + j)) = 0 → wm_op (yw (s + j)) = 6 → t < 64 → wm_tg yr (yw (s + j)) = nI t → s + j < t ∧ t < s + N → ∀ yb : Nat → Int32, wm_R nI yb (wm_keep yw t l) →
      post (-1) (nI (s + j + 1), ywd, nI (wm_keep yw t l).length, 1, yr, upd yw t (yr (wm_b (yw (s + j)))), upd (upd yc 5 (yc 5 + 1)) 0 (upd yc 5 (yc 5 + 1) 0 + yy j), yb, yy))
    (hT0 : ∀ t, wm_flt yr (yw (s + j)) = 0 → wm_op (yw (s + j)) = 6 → t < 64 → wm_tg yr (yw (s + j)) = nI t → ¬ (s + j < t ∧ t < s + N) → ∀ yb : Nat → Int32, wm_R nI yb (wm_keep yw t l) →
      wY_go_155 post (nI s) (nI N) x4 x5 x6 x7 x8 n (nI (j + 1)) ypc ywd (nI (wm_keep yw t l).length) 0 yr (upd yw t (yr (wm_b (yw (s + j))))) (upd yc 5 (yc 5 + 1)) yb yy) :
    wY_go_155 post (nI s) (nI N) x4 x5 x6 x7 x8 (n + 1) (nI j) ypc ywd ymn 0 yr yw yc yb yy := by
  have ho := wm_op_lt (yw (s + j))
  have hij : vp_in (nI j) 8 := vp_in_nI (by omega) (by decide)
  have hcj : (nI j).toNatClampNeg = j := nI_clamp (by omega)
  have i6 : vp_in (0 : Int32) 6 := vp_in_nI (n := 0) (by decide) (by decide)
  refine br_f (nI_ge hj (by omega)) (nm_r (nI_add s j) (wy_op (by omega) ?_))
  rw [nI_add s N]
  refine wy_step (by omega) hs hl hk hR (fun hf => ?_) (fun hf h6 => ?_) (fun t hf h6 ht et yb' yct' hR' hc => ?_)
  · refine br_f (wm_flt_p hf).1 ⟨hij, nm_r (e' := upd yc 0 (yc 0 + yy j)) (by rw [hcj]) (hF hf)⟩
  · refine br_t (Int32.le_refl 0) (nm_e (br_t rfl (pk_eq (wm_op (yw (s + j))) 0 (fun z => ?_) (fun z => nm_r (nI_1 j) (hO hf h6 z)))))
    have eg : wm_g yr yw (yw (s + j)) = yr := wm_g0 (by omega) (fun q => q.1 (Or.inl z))
    rw [eg]
    exact br_t rfl ⟨i6, nm_e (br_t rfl (br_t rfl (hS hf z)))⟩
  · rcases hc with ⟨hb, e⟩ | ⟨hb, e⟩
    · subst e
      refine br_t (Int32.le_refl 0) (nm_e (br_f wm_10 (br_f wm_10 ⟨hij, ?_⟩)))
      rw [hcj]
      refine ⟨i6, nm_e (br_f wm_10 (br_f wm_10 ?_))⟩
      rw [nI_1 (s + j)]
      exact hT1 t hf h6 ht et hb yb' hR'
    · subst e
      exact br_t (Int32.le_refl 0) (nm_e (br_t rfl (br_f (wm_nn (k := 0) ho (by decide) (by omega)) (nm_r (nI_1 j) (hT0 t hf h6 ht et hb yb' hR')))))
end YTURN
end
section
/-! Pictures of a state, and a block at work on both sides -/
def wm_PX (g w : Nat → Int32) (pc wd : Nat) (l : List Nat) (ct : Nat → Int32) (u : SX) : Prop :=
  ∃ (xps xpn xpt : Int32) (xs xl xo xh xi xj xc : Nat → Int32), u = (nI pc, nI wd, nI l.length, xps, xpn, xpt, ct 0, ct 1, ct 2, ct 3, ct 4, ct 5, g, w, xs, xl, xo, xh, xi, xj, xc) ∧ wm_K w xs xl l
def wm_PY (g w : Nat → Int32) (pc wd : Nat) (l : List Nat) (ct : Nat → Int32) (v : SY) : Prop :=
  ∃ (yct : Int32) (yb yy : Nat → Int32), v = (nI pc, nI wd, nI l.length, yct, g, w, ct, yb, yy) ∧ wm_R nI yb l
/-- where the PC stands behind a block -/
def wm_fin (w : Nat → Int32) (s N : Nat) (g : Nat → Int32) : Nat :=
  if wm_op (w (s + N - 1)) = 7 ∨ (wm_op (w (s + N - 1)) = 8 ∧ g (wm_a (w (s + N - 1))) = 0) then wm_t ((w (s + N - 1)) >>> ((13 : Int32) &&& 31)) else (s + N) % 64
theorem wm_fin_lt (w : Nat → Int32) (s N : Nat) (g : Nat → Int32) : wm_fin w s N g < 64 := by
  unfold wm_fin
  split
  · exact wm_t_lt _
  · omega
/-- Y's end of a block -/
theorem wy_tE {ypc ywd ymn yct : Int32} {yr yw yc yb yy : Nat → Int32} {s N n T : Nat} {w0 : Nat → Int32} {post : Int32 → SY → Prop} (h1 : 1 ≤ N) (hN : N ≤ 8) (hs : s + N ≤ 64)
    (h : post (-1) (nI (wm_fin w0 s N yr), ywd, ymn, 0, yr, yw, upd yc 0 (yc 0 + nI T), yb, yy)) :
    wY_go_155 post (nI s) (nI N) (nI T) (nI (s + N - 1)) (nI (wm_op (w0 (s + N - 1)))) (nI (wm_a (w0 (s + N - 1)))) (nI (wm_t ((w0 (s + N - 1)) >>> ((13 : Int32) &&& 31)))) (n + 1) (nI N) ypc ywd ymn 0 yr yw yc yb yy := by
  have ho := wm_op_lt (w0 (s + N - 1))
  have j1 : (wm_op (w0 (s + N - 1)) = 7 ∨ (wm_op (w0 (s + N - 1)) = 8 ∧ yr (wm_a (w0 (s + N - 1))) = 0)) → wY_go_340 post (nI (s + N - 1)) (nI (wm_t ((w0 (s + N - 1)) >>> ((13 : Int32) &&& 31)))) ypc ywd ymn 0 yr yw (upd yc 0 (yc 0 + nI T)) yb yy := by
    intro z
    have e : wm_fin w0 s N yr = wm_t ((w0 (s + N - 1)) >>> ((13 : Int32) &&& 31)) := if_pos z
    rw [e] at h
    exact br_f wm_10 h
  have j0 : ¬ (wm_op (w0 (s + N - 1)) = 7 ∨ (wm_op (w0 (s + N - 1)) = 8 ∧ yr (wm_a (w0 (s + N - 1))) = 0)) → wY_go_344 post (nI (s + N - 1)) (nI (wm_t ((w0 (s + N - 1)) >>> ((13 : Int32) &&& 31)))) ypc ywd ymn 0 yr yw (upd yc 0 (yc 0 + nI T)) yb yy := by
    intro z
    have e : wm_fin w0 s N yr = (s + N) % 64 := if_neg z
    rw [e] at h
    refine br_t rfl (nm_r (e' := nI ((s + N) % 64)) ?_ h)
    rw [nI_1, show s + N - 1 + 1 = s + N by omega]
    exact pk_andN (by omega) 6 (by decide)
  refine br_t (nI_le (Nat.le_refl N) (by omega)) (nm_e (pk_eq _ 7 (fun e => j1 (Or.inl e)) fun n7 => pk_eq _ 8 (fun e => ⟨vp_in_nI (wm_a_lt _) (by decide), ?_⟩) fun n8 => j0 fun z => z.elim n7 fun y => n8 y.1))
  rw [nI_clamp (Nat.lt_trans (wm_a_lt _) (by decide))]
  exact br_c (fun y => j1 (Or.inr ⟨e, y⟩)) (fun y => j0 fun z => z.elim n7 fun q => y q.2)
theorem wm_m22 : (-2 : Int32) = -2 ∧ (-1 : Int32) = -1 := ⟨rfl, rfl⟩
theorem wm_exec {s N wd T : Nat} {C : Nat → Nat} {w0 : Nat → Int32} (h1 : 1 ≤ N) (hN : N ≤ 8) (hs : s + N ≤ 64) (hnl : ∀ j, j + 1 < N → ¬ wm_last (wm_op (w0 (s + j)))) : ∀ (d j : Nat) (g w ct : Nat → Int32) (l : List Nat), j + d = N → (∀ i, j ≤ i → i < N → w (s + i) = w0 (s + i)) → wm_L l →
    ∃ (g' w' ct' : Nat → Int32) (pc' : Nat) (l' : List Nat) (rX rY : Int32), pc' < 64 ∧ wm_L l' ∧ ((rX = -2 ∧ rY = -1) ∨ (rX = rY ∧ ¬ rX = -2 ∧ ¬ rY < 0)) ∧
    (∀ post : Int32 → SX → Prop, (∀ u', wm_PX g' w' pc' wd l' ct' u' → post rX u') → ∀ (xpc : Int32) (xs xl xo xh xi xj xc : Nat → Int32), (j = N → xpc = nI (wm_fin w0 s N g)) → wm_K w xs xl l → (∀ i, i < N → xo i = nI (wm_op (w0 (s + i)))) → (∀ i, i < N → xc i = nI (C i)) →
      wX_doPlanned_2 post (d + 1) (nI j) xpc (nI wd) (nI l.length) (nI s) (nI N) (nI T) (ct 0) (ct 1) (ct 2) (ct 3) (ct 4) (ct 5) g w xs xl xo xh xi xj xc) ∧
    (∀ post : Int32 → SY → Prop, (∀ v', wm_PY g' w' pc' wd l' ct' v' → post rY v') → ∀ (ypc : Int32) (yb yy : Nat → Int32), wm_R nI yb l → (∀ i, i < N → yy i = nI (C i)) →
      wY_go_155 post (nI s) (nI N) (nI T) (nI (s + N - 1)) (nI (wm_op (w0 (s + N - 1)))) (nI (wm_a (w0 (s + N - 1)))) (nI (wm_t ((w0 (s + N - 1)) >>> ((13 : Int32) &&& 31)))) (d + 1) (nI j) ypc (nI wd) (nI l.length) 0 g w ct yb yy) := by
  intro d
  induction d with
  | zero =>
    intro j g w ct l hj hw hl
    have e : j = N := by omega
    subst e
    refine ⟨g, w, upd ct 0 (ct 0 + nI T), wm_fin w0 s j g, l, -2, -1, wm_fin_lt _ _ _ _, hl, Or.inl ⟨rfl, rfl⟩, fun post hp xpc xs xl xo xh xi xj xc hpc hK ho hc => ?_, fun post hp ypc yb yy hR hc => ?_⟩
    · rw [hpc rfl]
      exact wx_tE (hp _ ⟨_, _, _, _, _, _, _, _, _, _, rfl, hK⟩) hN
    · exact wy_tE (yct := 0) h1 hN hs (hp _ ⟨_, _, _, rfl, hR⟩)
  | succ d ih =>
    intro j g w ct l hj hw hl
    have hjN : j < N := by omega
    have ew : w (s + j) = w0 (s + j) := hw j (Nat.le_refl j) hjN
    by_cases hf : wm_flt g (w (s + j)) = 0
    · by_cases h6 : wm_op (w (s + j)) = 6
      · obtain ⟨t, ht, et⟩ := wm_flt_c hf (Or.inr h6)
        by_cases hb : s + j < t ∧ t < s + N
        · refine ⟨g, upd w t (g (wm_b (w (s + j)))), upd (upd ct 5 (ct 5 + 1)) 0 (upd ct 5 (ct 5 + 1) 0 + nI (C j)), s + j + 1, wm_keep w t l, -2, -1, by omega, wm_L_keep hl, Or.inl ⟨rfl, rfl⟩, fun post hp xpc xs xl xo xh xi xj xc hpc hK ho hc => ?_, fun post hp ypc yb yy hR hc => ?_⟩
          · refine wx_tT hjN hN hs hf (by rw [ho j hjN, ew]) h6 ht et hl rfl hK (fun _ xs' xl' hK' => ?_) (fun z => absurd hb z)
            rw [hc j hjN, show (s + j + 1) % 64 = s + j + 1 by omega]
            exact hp _ ⟨_, _, _, _, _, _, _, _, _, _, rfl, hK'⟩
          · refine wy_turn hjN hN hs hl rfl hR (fun z => absurd hf z) (fun _ z => absurd h6 z) (fun _ z => absurd z (by omega)) (fun t' _ _ ht' et' _ yb' hR' => ?_) (fun t' _ _ ht' et' z => ?_)
            · have : t' = t := (nI_eq (by omega) (by omega)).mp (et'.symm.trans et)
              subst this
              rw [hc j hjN]
              exact hp _ ⟨_, _, _, rfl, hR'⟩
            · have : t' = t := (nI_eq (by omega) (by omega)).mp (et'.symm.trans et)
              subst this
              exact absurd hb z
        · obtain ⟨g', w', ct', pc', l', rX, rY, a1, a2, a3, aX, aY⟩ := ih (j + 1) g (upd w t (g (wm_b (w (s + j))))) (upd ct 5 (ct 5 + 1)) (wm_keep w t l) (by omega) (fun i hi hi' => by rw [pk_un (by omega)]; exact hw i (by omega) hi') (wm_L_keep hl)
          refine ⟨g', w', ct', pc', l', rX, rY, a1, a2, a3, fun post hp xpc xs xl xo xh xi xj xc hpc hK ho hc => ?_, fun post hp ypc yb yy hR hc => ?_⟩
          · refine wx_tT hjN hN hs hf (by rw [ho j hjN, ew]) h6 ht et hl rfl hK (fun z => absurd z hb) (fun _ xs' xl' hK' => ?_)
            refine aX post hp _ xs' xl' xo xh xi xj xc (fun e => ?_) hK' ho hc
            have e1 : s + N - 1 = s + j := by omega
            unfold wm_fin
            rw [e1, ← ew, if_neg (by omega), show s + N = s + j + 1 by omega]
          · refine wy_turn hjN hN hs hl rfl hR (fun z => absurd hf z) (fun _ z => absurd h6 z) (fun _ z => absurd z (by omega)) (fun t' _ _ ht' et' z => ?_) (fun t' _ _ ht' et' _ yb' hR' => ?_)
            · have : t' = t := (nI_eq (by omega) (by omega)).mp (et'.symm.trans et)
              subst this
              exact absurd z hb
            · have : t' = t := (nI_eq (by omega) (by omega)).mp (et'.symm.trans et)
              subst this
              exact aY post hp ypc yb' yy hR' hc
      · by_cases h0 : wm_op (w (s + j)) = 0
        · refine ⟨g, w, upd (upd ct 5 (ct 5 + 1)) 0 (upd ct 5 (ct 5 + 1) 0 + nI T), s + j, l, 0, 0, by omega, hl, Or.inr ⟨rfl, by decide, by decide⟩, fun post hp xpc xs xl xo xh xi xj xc hpc hK ho hc => ?_, fun post hp ypc yb yy hR hc => ?_⟩
          · exact wx_tS hjN hN hs hf (by rw [ho j hjN, ew]) h0 (hp _ ⟨_, _, _, _, _, _, _, _, _, _, rfl, hK⟩)
          · exact wy_turn hjN hN hs hl rfl hR (fun z => absurd hf z) (fun _ _ z => absurd h0 z) (fun _ _ => hp _ ⟨_, _, _, rfl, hR⟩) (fun t' _ z => absurd z h6) (fun t' _ z => absurd z h6)
        · obtain ⟨g', w', ct', pc', l', rX, rY, a1, a2, a3, aX, aY⟩ := ih (j + 1) (wm_g g w (w (s + j))) w (upd ct 5 (ct 5 + 1)) l (by omega) (fun i hi hi' => hw i (by omega) hi') hl
          refine ⟨g', w', ct', pc', l', rX, rY, a1, a2, a3, fun post hp xpc xs xl xo xh xi xj xc hpc hK ho hc => ?_, fun post hp ypc yb yy hR hc => ?_⟩
          · refine wx_tO hjN hN hs hf (by rw [ho j hjN, ew]) h6 h0 (fun z => ?_) (fun z => ?_)
            · refine aX post hp _ xs xl xo xh xi xj xc (fun e => ?_) hK ho hc
              have e1 : s + N - 1 = s + j := by omega
              have eg : wm_g g w (w (s + j)) = g := wm_g0 (by omega) (fun q => q.1 (z.elim (fun y => Or.inr (Or.inl y)) (fun y => Or.inr (Or.inr (Or.inl y.1)))))
              unfold wm_fin
              rw [e1, ← ew, eg, if_pos z]
            · refine aX post hp _ xs xl xo xh xi xj xc (fun e => ?_) hK ho hc
              have e1 : s + N - 1 = s + j := by omega
              unfold wm_fin
              rw [e1, ← ew, if_neg (fun y => ?_), show s + N = s + j + 1 by omega]
              rcases y with y | y
              · exact z (Or.inl y)
              · have eg : wm_g g w (w (s + j)) = g := wm_g0 (by omega) (fun q => q.1 (Or.inr (Or.inr (Or.inl y.1))))
                rw [eg] at y
                exact z (Or.inr y)
          · exact wy_turn hjN hN hs hl rfl hR (fun z => absurd hf z) (fun _ _ _ => aY post hp ypc yb yy hR hc) (fun _ z => absurd z h0) (fun t' _ z => absurd z h6) (fun t' _ z => absurd z h6)
    · refine ⟨g, w, upd ct 0 (ct 0 + nI (C j)), s + j, l, wm_flt g (w (s + j)), wm_flt g (w (s + j)), by omega, hl, Or.inr ⟨rfl, (wm_flt_p hf).2.1, (wm_flt_p hf).2.2⟩, fun post hp xpc xs xl xo xh xi xj xc hpc hK ho hc => ?_, fun post hp ypc yb yy hR hc => ?_⟩
      · refine wx_tF hjN hN hs hf ?_
        rw [hc j hjN]
        exact hp _ ⟨_, _, _, _, _, _, _, _, _, _, rfl, hK⟩
      · refine wy_turn hjN hN hs hl rfl hR (fun _ => ?_) (fun z => absurd z hf) (fun z => absurd z hf) (fun _ z => absurd z hf) (fun _ z => absurd z hf)
        rw [hc j hjN]
        exact hp _ ⟨_, _, _, rfl, hR⟩
end
section
/-! A block from its beginning, and a run -/
section YGO
variable {ypc ywd ymn yct : Int32} {yr yw yc yb yy : Nat → Int32}
theorem wy_86 {post : Int32 → SY → Prop} {s wd : Nat} {C : Nat → Nat} {A : List Nat} (hs : s < 64) (hS : wm_Sch (wm_I yw s) wd C (wm_len yw s)) (hw : ywd = nI wd) (hw4 : wd ≤ 4) (hA : A.length < 4) (hk : ymn = nI A.length) (hR : wm_R nI yb A)
    (h : ∀ yb yy : Nat → Int32, wm_R nI yb (s :: A) → wm_PC C (wm_len yw s) yy → wY_go_155 post (nI s) (nI (wm_len yw s)) (nI (wm_tm (wm_I yw s) C (wm_len yw s))) (nI (s + wm_len yw s - 1)) (nI (wm_op (yw (s + wm_len yw s - 1)))) (nI (wm_a (yw (s + wm_len yw s - 1)))) (nI (wm_t ((yw (s + wm_len yw s - 1)) >>> ((13 : Int32) &&& 31)))) (wm_len yw s + 1) (nI 0) ypc ywd (nI (A.length + 1)) 0 yr yw (upd yc 4 (yc 4 + 1)) yb yy) :
    wY_go_86 post (nI s) (nI (wm_len yw s)) ypc ywd ymn yct yr yw yc yb yy := by
  have hr := wm_len_r yw hs
  unfold wY_go_86
  refine wy_fi hA hk hR (fun yb' hR' => nm_e (wy_sch hs hS hw hw4 (fun yy' hC' => wy_time hs hS hC' (nm_r (e' := nI (s + wm_len yw s - 1)) ?_ (wy_op (by omega) (wy_a (by omega) (wy_n (by omega) (nm_r (wm_t_e _) ⟨_, h yb' yy' hR' hC'⟩))))))))
  rw [nI_add, show (1 : Int32) = nI 1 from rfl, pk_sub (by omega)]
theorem wy_go_f {post : Int32 → SY → Prop} {s wd : Nat} {C : Nat → Nat} {A B : List Nat} (hs : s < 64) (hS : wm_Sch (wm_I yw s) wd C (wm_len yw s)) (hw : ywd = nI wd) (hw4 : wd ≤ 4) (hl : wm_L (A ++ s :: B)) (hR : wm_R nI yb (A ++ s :: B)) (hA : s ∉ A)
    (h : ∀ yb yy : Nat → Int32, wm_R nI yb (s :: (A ++ B)) → wm_PC C (wm_len yw s) yy → wY_go_155 post (nI s) (nI (wm_len yw s)) (nI (wm_tm (wm_I yw s) C (wm_len yw s))) (nI (s + wm_len yw s - 1)) (nI (wm_op (yw (s + wm_len yw s - 1)))) (nI (wm_a (yw (s + wm_len yw s - 1)))) (nI (wm_t ((yw (s + wm_len yw s - 1)) >>> ((13 : Int32) &&& 31)))) (wm_len yw s + 1) (nI 0) (nI s) ywd (nI (s :: (A ++ B)).length) 0 yr yw (upd (upd yc 3 (yc 3 + 1)) 4 (upd yc 3 (yc 3 + 1) 4 + 1)) yb yy) :
    wpY_go post (nI s, ywd, nI (A ++ s :: B).length, yct, yr, yw, yc, yb, yy) := by
  have hlen : A.length + (B.length + 1) ≤ 4 := by have := hl.1; rw [List.length_append, List.length_cons] at this; exact this
  unfold wpY_go
  refine wy_pl_f hs hl rfl hR hA (wy_len hs (br_f (nI_pos (by omega)) (nm_e (wy_fg hl.1 rfl hR fun yb' hR' => ?_))))
  exact wy_86 hs hS hw hw4 (by rw [List.length_append]; omega) rfl hR' h
theorem wy_go_n {post : Int32 → SY → Prop} {s wd : Nat} {C : Nat → Nat} {l A : List Nat} (hs : s < 64) (hS : wm_Sch (wm_I yw s) wd C (wm_len yw s)) (hw : ywd = nI wd) (hw4 : wd ≤ 4) (hl : wm_L l) (hR : wm_R nI yb l) (hA : s ∉ l) (hlA : (l = A ∧ A.length < 4) ∨ (∃ b, l = A ++ [b] ∧ A.length = 3)) (ct : Nat → Int32)
    (hct : ct = upd (upd (upd yc 0 (yc 0 + 3 * nI (wm_len yw s))) 1 (upd yc 0 (yc 0 + 3 * nI (wm_len yw s)) 1 + 3 * nI (wm_len yw s))) 2 (upd (upd yc 0 (yc 0 + 3 * nI (wm_len yw s))) 1 (upd yc 0 (yc 0 + 3 * nI (wm_len yw s)) 1 + 3 * nI (wm_len yw s)) 2 + 1))
    (h : ∀ yb yy : Nat → Int32, wm_R nI yb (s :: A) → wm_PC C (wm_len yw s) yy → wY_go_155 post (nI s) (nI (wm_len yw s)) (nI (wm_tm (wm_I yw s) C (wm_len yw s))) (nI (s + wm_len yw s - 1)) (nI (wm_op (yw (s + wm_len yw s - 1)))) (nI (wm_a (yw (s + wm_len yw s - 1)))) (nI (wm_t ((yw (s + wm_len yw s - 1)) >>> ((13 : Int32) &&& 31)))) (wm_len yw s + 1) (nI 0) (nI s) ywd (nI (s :: A).length) 0 yr yw (upd ct 4 (ct 4 + 1)) yb yy) :
    wpY_go post (nI s, ywd, nI l.length, yct, yr, yw, yc, yb, yy) := by
  subst hct
  unfold wpY_go
  refine wy_pl_n hs hl rfl hR hA (wy_len hs (br_t wm_m10 (nm_e (nm_e (nm_e ?_)))))
  rcases hlA with ⟨e, h4⟩ | ⟨b, e, h3⟩
  · subst e
    exact br_f (fun z => by have := (nI_eq (b := 4) (by omega) (by decide)).mp z; omega) (wy_86 hs hS hw hw4 h4 rfl hR h)
  · subst e
    have e4 : (A ++ [b]).length = 4 := by rw [List.length_append, h3]; rfl
    rw [e4]
    exact br_t rfl (wy_86 hs hS hw hw4 (by omega) (by rw [h3]; rfl) (wm_R_app.mp hR).1 h)
end YGO
theorem wm_block {g w ct : Nat → Int32} {s wd : Nat} {l : List Nat} (hs : s < 64) (hw1 : 1 ≤ wd) (hw4 : wd ≤ 4) (hl : wm_L l) :
    ∃ (g' w' ct' : Nat → Int32) (pc' : Nat) (l' : List Nat) (rX rY : Int32), pc' < 64 ∧ wm_L l' ∧ ((rX = -2 ∧ rY = -1) ∨ (rX = rY ∧ ¬ rX = -2 ∧ ¬ rY < 0)) ∧
    (∀ (postP postB : SX → Prop) (postD : Int32 → SX → Prop), (∀ {xpc xwn xkc xps xpn xpt xta xtm xbm xbf xbb xid : Int32} {xr xw xs xl xo xh xi xj xc : Nat → Int32}, wpX_beginPlanned postB (xpc, xwn, xkc, xps, xpn, xpt, xta, xtm, xbm, xbf, xbb, xid, xr, xw, xs, xl, xo, xh, xi, xj, xc) → postP (xpc, xwn, xkc, xps, xpn, xpt, xta, xtm, xbm, xbf, xbb, xid, xr, xw, xs, xl, xo, xh, xi, xj, xc)) → (∀ {xpc xwn xkc xps xpn xpt xta xtm xbm xbf xbb xid : Int32} {xr xw xs xl xo xh xi xj xc : Nat → Int32}, wpX_doPlanned postD (xpc, xwn, xkc, xps, xpn, xpt, xta, xtm, xbm, xbf, xbb, xid, xr, xw, xs, xl, xo, xh, xi, xj, xc) → postB (xpc, xwn, xkc, xps, xpn, xpt, xta, xtm, xbm, xbf, xbb, xid, xr, xw, xs, xl, xo, xh, xi, xj, xc)) → (∀ u', wm_PX g' w' pc' wd l' ct' u' → postD rX u') →
      ∀ (xps xpn xpt : Int32) (xs xl xo xh xi xj xc : Nat → Int32), wm_K w xs xl l → wpX_planBlock postP (nI s, nI wd, nI l.length, xps, xpn, xpt, ct 0, ct 1, ct 2, ct 3, ct 4, ct 5, g, w, xs, xl, xo, xh, xi, xj, xc) (nI s)) ∧
    (∀ post : Int32 → SY → Prop, (∀ v', wm_PY g' w' pc' wd l' ct' v' → post rY v') → ∀ (yct : Int32) (yb yy : Nat → Int32), wm_R nI yb l → wpY_go post (nI s, nI wd, nI l.length, yct, g, w, ct, yb, yy)) := by
  have hr := wm_len_r w hs
  obtain ⟨C, hS⟩ := wm_Sch_ex (wm_I w s) hw1 (wm_len w s)
  rcases wm_cut s l with ⟨A, B, rfl, hA⟩ | hA
  · have hlen : (A ++ s :: B).length = (s :: (A ++ B)).length := by rw [List.length_append, List.length_cons, List.length_cons, List.length_append]; omega
    have hl1 : wm_L (s :: (A ++ B)) := by
      refine ⟨by rw [← hlen]; exact hl.1, fun x hx => ?_⟩
      rcases List.mem_cons.mp hx with e | hx
      · rw [e]; exact hs
      · rcases List.mem_append.mp hx with hx | hx
        · exact hl.2 x (List.mem_append_left _ hx)
        · exact hl.2 x (List.mem_append_right _ (List.mem_cons_of_mem _ hx))
    obtain ⟨g', w', ct', pc', l', rX, rY, a1, a2, a3, aX, aY⟩ := wm_exec (wd := wd) (T := wm_tm (wm_I w s) C (wm_len w s)) (C := C) (w0 := w) hr.1 hr.2.1 hr.2.2 (fun j hj => wm_len_n w hj) (wm_len w s) 0 g w (upd (upd ct 3 (ct 3 + 1)) 4 (upd ct 3 (ct 3 + 1) 4 + 1)) (s :: (A ++ B)) (by omega) (fun i _ _ => rfl) hl1
    refine ⟨g', w', ct', pc', l', rX, rY, a1, a2, a3, fun postP postB postD h1 h2 h3 xps xpn xpt xs xl xo xh xi xj xc hK => ?_, fun post hp yct yb yy hR => ?_⟩
    · refine wx_plan hs hS hw1 hw4 rfl (fun xo' xh' xi' xj' xc' hD hC => h1 (wx_beg_f hs hl rfl hK hA rfl rfl (fun xs' xl' hK' => h2 ⟨wm_len w s + 1, ?_⟩)))
      rw [hlen]
      exact aX postD h3 _ xs' xl' xo' xh' xi' xj' xc' (fun e => absurd e (by omega)) hK' (fun i hi => (hD i hi).1) hC
    · exact wy_go_f hs hS rfl hw4 hl hR hA (fun yb' yy' hR' hC' => aY post hp _ yb' yy' hR' hC')
  · obtain ⟨A, hlA⟩ : ∃ A : List Nat, (l = A ∧ A.length < 4) ∨ (∃ b, l = A ++ [b] ∧ A.length = 3) := by
      by_cases h4 : l.length < 4
      · exact ⟨l, Or.inl ⟨rfl, h4⟩⟩
      · obtain ⟨A, b, e, h3⟩ := wm_snoc (A := l) (n := 3) (by have := hl.1; omega)
        exact ⟨A, Or.inr ⟨b, e, h3⟩⟩
    have hl1 : wm_L (s :: A) := by
      constructor
      · rw [List.length_cons]
        rcases hlA with ⟨_, e⟩ | ⟨b, _, e⟩ <;> omega
      · intro x hx
        rcases List.mem_cons.mp hx with e | hx
        · rw [e]; exact hs
        · rcases hlA with ⟨e, _⟩ | ⟨b, e, _⟩
          · exact hl.2 x (e ▸ hx)
          · exact hl.2 x (by rw [e]; exact List.mem_append_left _ hx)
    obtain ⟨c3, hc3⟩ : ∃ c3, c3 = upd (upd (upd ct 0 (ct 0 + 3 * nI (wm_len w s))) 1 (upd ct 0 (ct 0 + 3 * nI (wm_len w s)) 1 + 3 * nI (wm_len w s))) 2 (upd (upd ct 0 (ct 0 + 3 * nI (wm_len w s))) 1 (upd ct 0 (ct 0 + 3 * nI (wm_len w s)) 1 + 3 * nI (wm_len w s)) 2 + 1) := ⟨_, rfl⟩
    obtain ⟨g', w', ct', pc', l', rX, rY, a1, a2, a3, aX, aY⟩ := wm_exec (wd := wd) (T := wm_tm (wm_I w s) C (wm_len w s)) (C := C) (w0 := w) hr.1 hr.2.1 hr.2.2 (fun j hj => wm_len_n w hj) (wm_len w s) 0 g w (upd c3 4 (c3 4 + 1)) (s :: A) (by omega) (fun i _ _ => rfl) hl1
    refine ⟨g', w', ct', pc', l', rX, rY, a1, a2, a3, fun postP postB postD h1 h2 h3 xps xpn xpt xs xl xo xh xi xj xc hK => ?_, fun post hp yct yb yy hR => ?_⟩
    · refine wx_plan hs hS hw1 hw4 rfl (fun xo' xh' xi' xj' xc' hD hC => h1 (wx_beg_n hs hl rfl hK hA rfl rfl hlA (fun xs' xl' hK' => h2 ⟨wm_len w s + 1, ?_⟩)))
      have := aX postD h3 (nI s) xs' xl' xo' xh' xi' xj' xc' (fun e => absurd e (by omega)) hK' (fun i hi => (hD i hi).1) hC
      rw [hc3] at this
      exact this
    · exact wy_go_n hs hS rfl hw4 hl hR hA hlA c3 hc3 (fun yb' yy' hR' hC' => aY post hp _ yb' yy' hR' hC')
theorem wm_run {wd : Nat} (hw1 : 1 ≤ wd) (hw4 : wd ≤ 4) : ∀ (d n : Nat) (g w ct : Nat → Int32) (s : Nat) (l : List Nat), n + d = 100 → s < 64 → wm_L l →
    ∃ (g' w' ct' : Nat → Int32) (pc' : Nat) (l' : List Nat) (r : Int32), pc' < 64 ∧ wm_L l' ∧
    (∀ post : Int32 → SX → Prop, (∀ u', wm_PX g' w' pc' wd l' ct' u' → post r u') → ∀ (xps xpn xpt : Int32) (xs xl xo xh xi xj xc : Nat → Int32), wm_K w xs xl l → wX_run_13 post (d + 1) (nI n) (nI s) (nI wd) (nI l.length) xps xpn xpt (ct 0) (ct 1) (ct 2) (ct 3) (ct 4) (ct 5) g w xs xl xo xh xi xj xc) ∧
    (∀ post : Int32 → SY → Prop, (∀ v', wm_PY g' w' pc' wd l' ct' v' → post r v') → ∀ (yct : Int32) (yb yy : Nat → Int32), wm_R nI yb l → wY_run_15 post (d + 1) (nI n) (nI s) (nI wd) (nI l.length) yct g w ct yb yy) := by
  intro d
  induction d with
  | zero =>
    intro n g w ct s l hn hs hl
    have e : n = 100 := by omega
    subst e
    refine ⟨g, w, ct, s, l, 4, hs, hl, fun post hp xps xpn xpt xs xl xo xh xi xj xc hK => ?_, fun post hp yct yb yy hR => ?_⟩
    · exact br_t (nI_le (a := 100) (b := 100) (Nat.le_refl 100) (by decide)) (hp _ ⟨_, _, _, _, _, _, _, _, _, _, rfl, hK⟩)
    · exact br_t (nI_le (a := 100) (b := 100) (Nat.le_refl 100) (by decide)) (hp _ ⟨_, _, _, rfl, hR⟩)
  | succ d ih =>
    intro n g w ct s l hn hs hl
    have hn100 : ¬ (100 : Int32) ≤ nI n := nI_ge (b := 100) (by omega) (by decide)
    obtain ⟨g1, w1, ct1, s1, l1, rX, rY, a1, a2, a3, aX, aY⟩ := wm_block (g := g) (w := w) (ct := ct) hs hw1 hw4 hl
    rcases a3 with ⟨e1, e2⟩ | ⟨e1, e2, e3⟩
    · subst e1 e2
      obtain ⟨g', w', ct', pc', l', r, b1, b2, bX, bY⟩ := ih (n + 1) g1 w1 ct1 s1 l1 (by omega) a1 a2
      refine ⟨g', w', ct', pc', l', r, b1, b2, fun post hp xps xpn xpt xs xl xo xh xi xj xc hK => ?_, fun post hp yct yb yy hR => ?_⟩
      · refine br_f hn100 (aX _ _ _ (fun h => h) (fun h => h) (fun u' hu' => ?_) xps xpn xpt xs xl xo xh xi xj xc hK)
        obtain ⟨_, _, _, _, _, _, _, _, _, _, rfl, hK'⟩ := hu'
        exact br_t rfl (nm_r (nI_1 n) (bX post hp _ _ _ _ _ _ _ _ _ _ hK'))
      · refine br_f hn100 (aY _ (fun v' hv' => ?_) yct yb yy hR)
        obtain ⟨_, _, _, rfl, hR'⟩ := hv'
        exact br_t wm_m10 (nm_r (nI_1 n) (bY post hp _ _ _ hR'))
    · subst e1
      refine ⟨g1, w1, ct1, s1, l1, rX, a1, a2, fun post hp xps xpn xpt xs xl xo xh xi xj xc hK => ?_, fun post hp yct yb yy hR => ?_⟩
      · refine br_f hn100 (aX _ _ _ (fun h => h) (fun h => h) (fun u' hu' => ?_) xps xpn xpt xs xl xo xh xi xj xc hK)
        obtain ⟨_, _, _, _, _, _, _, _, _, _, rfl, hK'⟩ := hu'
        exact br_f e2 (hp _ ⟨_, _, _, _, _, _, _, _, _, _, rfl, hK'⟩)
      · refine br_f hn100 (aY _ (fun v' hv' => ?_) yct yb yy hR)
        obtain ⟨_, _, _, rfl, hR'⟩ := hv'
        exact br_f e3 (hp _ ⟨_, _, _, rfl, hR'⟩)
end
section
/-! What is owed -/
def i_Rel (k : Nat) (u : SX) (v : SY) : Prop := ∃ (g w ct : Nat → Int32) (pc wd : Nat) (l : List Nat), pc < 64 ∧ 1 ≤ wd ∧ wd ≤ 4 ∧ wm_L l ∧ wm_PX g w pc wd l ct u ∧ wm_PY g w pc wd l ct v
theorem i_up {k : Nat} {u : SX} {v : SY} (h : i_Rel k u v) : i_Rel (k + 6) u v := h
theorem wm_L0 : wm_L [] := ⟨Nat.zero_le 4, fun x h => absurd h (List.not_mem_nil)⟩
theorem i_vc0 : wpX_init (fun u => wpY_init (fun v => i_Rel 0 u v)) :=
  ⟨fun _ => 0, fun _ => 0, fun _ => 0, 0, 2, [], by decide, by decide, by decide, wm_L0, ⟨_, _, _, _, _, _, _, _, _, _, rfl, wm_R_nil, wm_R_nil⟩, ⟨_, _, _, rfl, wm_R_nil⟩⟩
section OWED
variable {g w ct : Nat → Int32} {pc wd : Nat} {l : List Nat}
theorem wm_rel {k : Nat} {xps xpn xpt : Int32} {xs xl xo xh xi xj xc : Nat → Int32} {yct : Int32} {yb yy : Nat → Int32} (h1 : pc < 64) (h2 : 1 ≤ wd) (h3 : wd ≤ 4) (hl : wm_L l) (hK : wm_K w xs xl l) (hR : wm_R nI yb l) :
    i_Rel k (nI pc, nI wd, nI l.length, xps, xpn, xpt, ct 0, ct 1, ct 2, ct 3, ct 4, ct 5, g, w, xs, xl, xo, xh, xi, xj, xc) (nI pc, nI wd, nI l.length, yct, g, w, ct, yb, yy) :=
  ⟨g, w, ct, pc, wd, l, h1, h2, h3, hl, ⟨_, _, _, _, _, _, _, _, _, _, rfl, hK⟩, ⟨_, _, _, rfl, hR⟩⟩
end OWED
theorem i_vc_put {k : Nat} {u : SX} {v : SY} (I : i_Rel k u v) (hk : k + 6 ≤ 3072) (v1 : Int32) (v2 : Int32) : wpX_put (fun r u' => wpY_put (fun r' v' => r' = r ∧ i_Rel (k + 6) u' v') v v1 v2) u v1 v2 := by
  obtain ⟨g, w, ct, pc, wd, l, h1, h2, h3, hl, ⟨xps, xpn, xpt, xs, xl, xo, xh, xi, xj, xc, rfl, hK⟩, ⟨yct, yb, yy, rfl, hR⟩⟩ := I
  unfold wpX_put wpY_put
  rcases wm_ix v1 (N := 64) (by decide) with h | ⟨j, hj, rfl⟩
  · exact wx_adr0 h (br_t rfl (wy_in0 (N := 64) h (br_t rfl ⟨rfl, wm_rel h1 h2 h3 hl hK hR⟩)))
  · exact wx_adr1 hj (br_f wm_10 (wx_chg hj hl rfl hK fun xs' xl' hK' => wy_in1 (N := 64) hj (by decide) (br_f wm_10 (wy_chg hj hl rfl hR fun yb' hR' => ⟨rfl, wm_rel h1 h2 h3 (wm_L_keep hl) hK' hR'⟩))))
theorem i_vc_code {k : Nat} {u : SX} {v : SY} (I : i_Rel k u v) (hk : k + 6 ≤ 3072) (v1 : Int32) (v2 : Int32) (v3 : Int32) (v4 : Int32) (v5 : Int32) : wpX_code (fun r => wpY_code (fun r' => r' = r ∧ i_Rel (k + 6) u v) v v1 v2 v3 v4 v5) u v1 v2 v3 v4 v5 := by
  have J : i_Rel (k + 6) u v := I
  obtain ⟨g, w, ct, pc, wd, l, h1, h2, h3, hl, ⟨xps, xpn, xpt, xs, xl, xo, xh, xi, xj, xc, rfl, hK⟩, ⟨yct, yb, yy, rfl, hR⟩⟩ := I
  exact ⟨rfl, J⟩
theorem i_vc_set {k : Nat} {u : SX} {v : SY} (I : i_Rel k u v) (hk : k + 6 ≤ 3072) (v1 : Int32) (v2 : Int32) : wpX_set (fun r u' => wpY_set (fun r' v' => r' = r ∧ i_Rel (k + 6) u' v') v v1 v2) u v1 v2 := by
  obtain ⟨g, w, ct, pc, wd, l, h1, h2, h3, hl, ⟨xps, xpn, xpt, xs, xl, xo, xh, xi, xj, xc, rfl, hK⟩, ⟨yct, yb, yy, rfl, hR⟩⟩ := I
  unfold wpX_set wpY_set
  rcases wm_ix v1 (N := 9) (by decide) with h | ⟨j, hj, rfl⟩
  · have n8 : ¬ v1 = 8 := wm_64n (by decide) h (j := 8) (by decide)
    refine br_f n8 ?_
    by_cases z : v1 < 0
    · exact br_t z (wy_in0 (N := 9) h (br_t rfl ⟨rfl, wm_rel h1 h2 h3 hl hK hR⟩))
    · have n : ¬ v1 < 8 := by
        rcases h with h | h
        · exact absurd h z
        · exact Int32.not_lt.mpr (Int32.le_trans (by decide) h)
      exact br_f z (br_f n (wy_in0 (N := 9) h (br_t rfl ⟨rfl, wm_rel h1 h2 h3 hl hK hR⟩)))
  · by_cases e : j = 8
    · subst e
      refine br_t rfl ?_
      rcases wm_ix v2 (N := 64) (by decide) with h | ⟨p, hp, rfl⟩
      · exact wx_adr0 h (br_t rfl (wy_in1 (j := 8) (N := 9) (by decide) (by decide) (br_f wm_10 (br_t rfl (wy_in0 (N := 64) h (br_t rfl ⟨rfl, wm_rel h1 h2 h3 hl hK hR⟩))))))
      · exact wx_adr1 hp (br_f wm_10 (wy_in1 (j := 8) (N := 9) (by decide) (by decide) (br_f wm_10 (br_t rfl (wy_in1 (N := 64) hp (by decide) (br_f wm_10 (br_t rfl ⟨rfl, wm_rel hp h2 h3 hl hK hR⟩)))))))
    · have n8 : ¬ nI j = 8 := wm_nn (k := 8) (by omega) (by decide) e
      have hi : vp_in (nI j) 8 := vp_in_nI (by omega) (by decide)
      refine br_f n8 (br_f (nI_pos (by omega)) (br_t (nI_lt (b := 8) (by omega) (by decide)) ⟨hi, nm_e ?_⟩))
      exact wy_in1 (N := 9) hj (by decide) (br_f wm_10 (br_f n8 (br_f n8 ⟨hi, nm_e ⟨rfl, wm_rel h1 h2 h3 hl hK hR⟩⟩)))
theorem i_vc_width {k : Nat} {u : SX} {v : SY} (I : i_Rel k u v) (hk : k + 6 ≤ 3072) (v1 : Int32) : wpX_width (fun r u' => wpY_width (fun r' v' => r' = r ∧ i_Rel (k + 6) u' v') v v1) u v1 := by
  obtain ⟨g, w, ct, pc, wd, l, h1, h2, h3, hl, ⟨xps, xpn, xpt, xs, xl, xo, xh, xi, xj, xc, rfl, hK⟩, ⟨yct, yb, yy, rfl, hR⟩⟩ := I
  unfold wpX_width wpY_width
  rcases wm_ix (v1 - 1) (N := 4) (by decide) with h | ⟨j, hj, e⟩
  · by_cases a : v1 < 1
    · exact br_t a (wy_in0 (N := 4) h (br_t rfl ⟨rfl, wm_rel h1 h2 h3 hl hK hR⟩))
    · refine br_f a (br_f (fun b => ?_) (wy_in0 (N := 4) h (br_t rfl ⟨rfl, wm_rel h1 h2 h3 hl hK hR⟩)))
      have p : ¬ v1 < 0 := fun z => a (Int32.lt_trans z (by decide))
      obtain ⟨m, hm, rfl⟩ := nI_of p
      have m1 : 1 ≤ m := by
        by_cases z : m < 1
        · exact absurd (nI_lt (b := 1) z (by decide)) a
        · omega
      have m4 : m ≤ 4 := (nI_leI (b := 4) hm (by decide)).mp b
      refine wm_64n (N := 4) (by decide) h (j := m - 1) (by omega) ?_
      rw [show (1 : Int32) = nI 1 from rfl, pk_sub m1]
  · have e1 : v1 = nI (j + 1) := by
      rw [← nI_1, ← e, Int32.sub_add_cancel]
    rw [e]
    subst e1
    refine br_f (nI_nlt (b := 1) (by omega) (by omega)) (br_t (nI_le (b := 4) (by omega) (by decide)) (wy_in1 (N := 4) hj (by decide) (br_f wm_10 ⟨rfl, ?_⟩)))
    exact wm_rel (l := []) h1 (by omega) (by omega) wm_L0 ⟨wm_R_nil, wm_R_nil⟩ wm_R_nil
theorem i_vc_run {k : Nat} {u : SX} {v : SY} (I : i_Rel k u v) (hk : k + 6 ≤ 3072) : wpX_run (fun r u' => wpY_run (fun r' v' => r' = r ∧ i_Rel (k + 6) u' v') v) u := by
  obtain ⟨g, w, ct, pc, wd, l, h1, h2, h3, hl, ⟨xps, xpn, xpt, xs, xl, xo, xh, xi, xj, xc, rfl, hK⟩, ⟨yct, yb, yy, rfl, hR⟩⟩ := I
  unfold wpX_run wpY_run
  by_cases c : ct 0 ≤ 500000000
  · obtain ⟨g', w', ct', pc', l', r, b1, b2, bX, bY⟩ := wm_run h2 h3 100 0 g w ct pc l rfl h1 hl
    refine br_t c ⟨101, bX _ (fun u' hu' => ?_) xps xpn xpt xs xl xo xh xi xj xc hK⟩
    obtain ⟨xps', xpn', xpt', xs', xl', xo', xh', xi', xj', xc', rfl, hK'⟩ := hu'
    refine br_t c ⟨101, bY _ (fun v' hv' => ?_) yct yb yy hR⟩
    obtain ⟨yct', yb', yy', rfl, hR'⟩ := hv'
    exact ⟨rfl, wm_rel b1 h2 h3 b2 hK' hR'⟩
  · exact br_f c (br_f c ⟨rfl, wm_rel h1 h2 h3 hl hK hR⟩)
theorem i_vc_register {k : Nat} {u : SX} {v : SY} (I : i_Rel k u v) (hk : k + 6 ≤ 3072) (v1 : Int32) : wpX_register (fun r => wpY_register (fun r' => r' = r ∧ i_Rel (k + 6) u v) v v1) u v1 := by
  have J : i_Rel (k + 6) u v := I
  obtain ⟨g, w, ct, pc, wd, l, h1, h2, h3, hl, ⟨xps, xpn, xpt, xs, xl, xo, xh, xi, xj, xc, rfl, hK⟩, ⟨yct, yb, yy, rfl, hR⟩⟩ := I
  unfold wpX_register wpY_register
  rcases wm_ix v1 (N := 8) (by decide) with h | ⟨j, hj, rfl⟩
  · by_cases e : v1 = 8
    · exact br_t e (wy_in0 (N := 8) h (br_t rfl (br_t e ⟨rfl, J⟩)))
    · refine br_f e ?_
      by_cases z : v1 < 0
      · exact br_t z (wy_in0 (N := 8) h (br_t rfl (br_f e ⟨rfl, J⟩)))
      · rcases h with h | h
        · exact absurd h z
        · exact br_f z (br_t h (wy_in0 (N := 8) (Or.inr h) (br_t rfl (br_f e ⟨rfl, J⟩))))
  · have n8 : ¬ nI j = 8 := wm_nn (k := 8) (by omega) (by decide) (by omega)
    have hi : vp_in (nI j) 8 := vp_in_nI (by omega) (by decide)
    exact br_f n8 (br_f (nI_pos (by omega)) (br_f (nI_ge (b := 8) hj (by decide)) ⟨hi, wy_in1 (N := 8) hj (by decide) (br_f wm_10 ⟨hi, rfl, J⟩)⟩))
theorem i_vc_word {k : Nat} {u : SX} {v : SY} (I : i_Rel k u v) (hk : k + 6 ≤ 3072) (v1 : Int32) : wpX_word (fun r => wpY_word (fun r' => r' = r ∧ i_Rel (k + 6) u v) v v1) u v1 := by
  have J : i_Rel (k + 6) u v := I
  obtain ⟨g, w, ct, pc, wd, l, h1, h2, h3, hl, ⟨xps, xpn, xpt, xs, xl, xo, xh, xi, xj, xc, rfl, hK⟩, ⟨yct, yb, yy, rfl, hR⟩⟩ := I
  unfold wpX_word wpY_word
  rcases wm_ix v1 (N := 64) (by decide) with h | ⟨j, hj, rfl⟩
  · exact wx_adr0 h (br_t rfl (wy_in0 (N := 64) h (br_t rfl ⟨rfl, J⟩)))
  · have hi : vp_in (nI j) 64 := vp_in_nI (by omega) (by decide)
    exact wx_adr1 hj (br_f wm_10 ⟨hi, wy_in1 (N := 64) hj (by decide) (br_f wm_10 ⟨hi, rfl, J⟩)⟩)
theorem i_vc_taken {k : Nat} {u : SX} {v : SY} (I : i_Rel k u v) (hk : k + 6 ≤ 3072) (v1 : Int32) : wpX_taken (fun r => wpY_taken (fun r' => r' = r ∧ i_Rel (k + 6) u v) v v1) u v1 := by
  have J : i_Rel (k + 6) u v := I
  obtain ⟨g, w, ct, pc, wd, l, h1, h2, h3, hl, ⟨xps, xpn, xpt, xs, xl, xo, xh, xi, xj, xc, rfl, hK⟩, ⟨yct, yb, yy, rfl, hR⟩⟩ := I
  unfold wpX_taken wpY_taken
  rcases wm_ix v1 (N := 6) (by decide) with h | ⟨j, hj, rfl⟩
  · by_cases z : v1 < 0
    · exact br_t z (wy_in0 (N := 6) h (br_t rfl ⟨rfl, J⟩))
    · rcases h with h | h
      · exact absurd h z
      · exact br_f z (br_t (Int32.lt_of_lt_of_le (by decide) h) (wy_in0 (N := 6) (Or.inr h) (br_t rfl ⟨rfl, J⟩)))
  · have hi : vp_in (nI j) 6 := vp_in_nI hj (by decide)
    have hc : (nI j).toNatClampNeg = j := nI_clamp (by omega)
    refine br_f (nI_pos (by omega)) (pk_lt 5 j (fun z => absurd z (by omega)) fun _ => ?_)
    refine pk_eq j 0 (fun e => by subst e; exact wy_in1 (N := 6) hj (by decide) (br_f wm_10 ⟨hi, congrArg ct hc, J⟩)) fun _ => pk_eq j 1 (fun e => by subst e; exact wy_in1 (N := 6) hj (by decide) (br_f wm_10 ⟨hi, congrArg ct hc, J⟩)) fun _ => pk_eq j 2 (fun e => by subst e; exact wy_in1 (N := 6) hj (by decide) (br_f wm_10 ⟨hi, congrArg ct hc, J⟩)) fun _ => ?_
    exact pk_eq j 3 (fun e => by subst e; exact wy_in1 (N := 6) hj (by decide) (br_f wm_10 ⟨hi, congrArg ct hc, J⟩)) fun _ => pk_eq j 4 (fun e => by subst e; exact wy_in1 (N := 6) hj (by decide) (br_f wm_10 ⟨hi, congrArg ct hc, J⟩)) fun _ => pk_eq j 5 (fun e => by subst e; exact wy_in1 (N := 6) hj (by decide) (br_f wm_10 ⟨hi, congrArg ct hc, J⟩)) fun _ => trivial
theorem i_vc_block {k : Nat} {u : SX} {v : SY} (I : i_Rel k u v) (hk : k + 6 ≤ 3072) (v1 : Int32) (v2 : Int32) : wpX_block (fun r u' => wpY_block (fun r' v' => r' = r ∧ i_Rel (k + 6) u' v') v v1 v2) u v1 v2 := by
  obtain ⟨g, w, ct, pc, wd, l, h1, h2, h3, hl, ⟨xps, xpn, xpt, xs, xl, xo, xh, xi, xj, xc, rfl, hK⟩, ⟨yct, yb, yy, rfl, hR⟩⟩ := I
  unfold wpX_block wpY_block
  rcases wm_ix v1 (N := 64) (by decide) with h | ⟨s, hs, rfl⟩
  · exact wx_adr0 h (br_t rfl (wy_in0 (N := 64) h (br_t rfl ⟨rfl, wm_rel h1 h2 h3 hl hK hR⟩)))
  · obtain ⟨C, hS⟩ := wm_Sch_ex (wm_I w s) h2 (wm_len w s)
    refine wx_adr1 hs (br_f wm_10 (wx_plan hs hS h2 h3 rfl fun xo' xh' xi' xj' xc' hD hC => ?_))
    rcases wm_ix v2 (N := 3) (by decide) with h | ⟨j, hj, rfl⟩
    · by_cases z : v2 < 0
      · exact br_t z (wy_in1 (N := 64) hs (by decide) (br_f wm_10 (wy_in0 (N := 3) h (br_t rfl ⟨rfl, wm_rel h1 h2 h3 hl hK hR⟩))))
      · rcases h with h | h
        · exact absurd h z
        · exact br_f z (br_t (Int32.lt_of_lt_of_le (by decide) h) (wy_in1 (N := 64) hs (by decide) (br_f wm_10 (wy_in0 (N := 3) (Or.inr h) (br_t rfl ⟨rfl, wm_rel h1 h2 h3 hl hK hR⟩)))))
    · refine br_f (nI_pos (by omega)) (pk_lt 2 j (fun z => absurd z (by omega)) fun _ => pk_eq j 0 (fun e => ?_) fun n0 => pk_eq j 1 (fun e => ?_) fun n1 => pk_eq j 2 (fun e => ?_) fun _ => trivial)
      · subst e
        exact wy_in1 (N := 64) hs (by decide) (br_f wm_10 (wy_in1 (j := 0) (N := 3) (by decide) (by decide) (br_f wm_10 (wy_sch hs hS rfl h3 fun yy' hC' => br_t rfl (wy_len hs ⟨rfl, wm_rel h1 h2 h3 hl hK hR⟩)))))
      · subst e
        exact wy_in1 (N := 64) hs (by decide) (br_f wm_10 (wy_in1 (j := 1) (N := 3) (by decide) (by decide) (br_f wm_10 (wy_sch hs hS rfl h3 fun yy' hC' => br_f wm_10 (br_t rfl (wy_time hs hS hC' ⟨rfl, wm_rel h1 h2 h3 hl hK hR⟩))))))
      · subst e
        rcases wm_cut s l with ⟨A, B, rfl, hA⟩ | hA
        · have hlen : A.length + (B.length + 1) ≤ 4 := by have := hl.1; rw [List.length_append, List.length_cons] at this; exact this
          have np : ¬ nI A.length = -1 := fun z => by have := nI_pos (n := A.length) (by omega); rw [z] at this; exact this wm_m10
          exact wx_pl_f hs hl rfl hK.1 hA (br_f np (wy_in1 (N := 64) hs (by decide) (br_f wm_10 (wy_in1 (j := 2) (N := 3) (by decide) (by decide) (br_f wm_10 (wy_sch hs hS rfl h3 fun yy' hC' => br_f wm_20 (br_f (by decide) (wy_pl_f hs hl rfl hR hA (br_f (nI_pos (by omega)) ⟨rfl, wm_rel h1 h2 h3 hl hK hR⟩)))))))))
        · exact wx_pl_n hs hl rfl hK.1 hA (br_t rfl (wy_in1 (N := 64) hs (by decide) (br_f wm_10 (wy_in1 (j := 2) (N := 3) (by decide) (by decide) (br_f wm_10 (wy_sch hs hS rfl h3 fun yy' hC' => br_f wm_20 (br_f (by decide) (wy_pl_n hs hl rfl hR hA (br_t wm_m10 ⟨rfl, wm_rel h1 h2 h3 hl hK hR⟩)))))))))
theorem i_vc_cycle {k : Nat} {u : SX} {v : SY} (I : i_Rel k u v) (hk : k + 6 ≤ 3072) (v1 : Int32) (v2 : Int32) : wpX_cycle (fun r u' => wpY_cycle (fun r' v' => r' = r ∧ i_Rel (k + 6) u' v') v v1 v2) u v1 v2 := by
  obtain ⟨g, w, ct, pc, wd, l, h1, h2, h3, hl, ⟨xps, xpn, xpt, xs, xl, xo, xh, xi, xj, xc, rfl, hK⟩, ⟨yct, yb, yy, rfl, hR⟩⟩ := I
  unfold wpX_cycle wpY_cycle
  rcases wm_ix v1 (N := 64) (by decide) with h | ⟨s, hs, rfl⟩
  · exact wx_adr0 h (br_t rfl (wy_in0 (N := 64) h (br_t rfl ⟨rfl, wm_rel h1 h2 h3 hl hK hR⟩)))
  · obtain ⟨C, hS⟩ := wm_Sch_ex (wm_I w s) h2 (wm_len w s)
    have hr := wm_len_r w hs
    refine wx_adr1 hs (br_f wm_10 (wx_plan hs hS h2 h3 rfl fun xo' xh' xi' xj' xc' hD hC => ?_))
    rcases wm_ix v2 (N := wm_len w s) (by omega) with h | ⟨j, hj, rfl⟩
    · by_cases z : v2 < 0
      · exact br_t z (wy_in1 (N := 64) hs (by decide) (br_f wm_10 (wy_len hs (wy_in0 h (br_t rfl ⟨rfl, wm_rel h1 h2 h3 hl hK hR⟩)))))
      · rcases h with h | h
        · exact absurd h z
        · exact br_f z (br_t h (wy_in1 (N := 64) hs (by decide) (br_f wm_10 (wy_len hs (wy_in0 (Or.inr h) (br_t rfl ⟨rfl, wm_rel h1 h2 h3 hl hK hR⟩))))))
    · have hi : vp_in (nI j) 8 := vp_in_nI (by omega) (by decide)
      have hc : (nI j).toNatClampNeg = j := nI_clamp (by omega)
      refine br_f (nI_pos (by omega)) (br_f (nI_ge hj (by omega)) ⟨hi, wy_in1 (N := 64) hs (by decide) (br_f wm_10 (wy_len hs (wy_in1 hj (by omega) (br_f wm_10 (wy_sch hs hS rfl h3 fun yy' hC' => ⟨hi, ?_, wm_rel h1 h2 h3 hl hK hR⟩)))))⟩)
      rw [hc, hC j hj, hC' j hj]
theorem i_vc_kept {k : Nat} {u : SX} {v : SY} (I : i_Rel k u v) (hk : k + 6 ≤ 3072) (v1 : Int32) : wpX_kept (fun r => wpY_kept (fun r' => r' = r ∧ i_Rel (k + 6) u v) v v1) u v1 := by
  have J : i_Rel (k + 6) u v := I
  obtain ⟨g, w, ct, pc, wd, l, h1, h2, h3, hl, ⟨xps, xpn, xpt, xs, xl, xo, xh, xi, xj, xc, rfl, hK⟩, ⟨yct, yb, yy, rfl, hR⟩⟩ := I
  have hl4 := hl.1
  unfold wpX_kept wpY_kept
  rcases wm_ix v1 (N := l.length) (by omega) with h | ⟨j, hj, rfl⟩
  · by_cases z : v1 < 0
    · exact br_t z (wy_in0 h (br_t rfl ⟨rfl, J⟩))
    · rcases h with h | h
      · exact absurd h z
      · exact br_f z (br_t h (wy_in0 (Or.inr h) (br_t rfl ⟨rfl, J⟩)))
  · have hi : vp_in (nI j) 4 := vp_in_nI (by omega) (by decide)
    have hc : (nI j).toNatClampNeg = j := nI_clamp (by omega)
    refine br_f (nI_pos (by omega)) (br_f (nI_ge hj (by omega)) ⟨hi, wy_in1 hj (by omega) (br_f wm_10 ⟨hi, ?_, J⟩)⟩)
    rw [hc, wm_R_i hK.1 hj, wm_R_i hR hj]
theorem i_vc_flush {k : Nat} {u : SX} {v : SY} (I : i_Rel k u v) (hk : k + 6 ≤ 3072) : wpX_flush (fun r u' => wpY_flush (fun r' v' => r' = r ∧ i_Rel (k + 6) u' v') v) u := by
  obtain ⟨g, w, ct, pc, wd, l, h1, h2, h3, hl, ⟨xps, xpn, xpt, xs, xl, xo, xh, xi, xj, xc, rfl, hK⟩, ⟨yct, yb, yy, rfl, hR⟩⟩ := I
  exact ⟨rfl, wm_rel (l := []) h1 h2 h3 wm_L0 ⟨wm_R_nil, wm_R_nil⟩ wm_R_nil⟩
end
