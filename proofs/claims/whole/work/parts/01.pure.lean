/-! Numbers and stores (rows of the kit, pasted) -/
theorem pk_us {f : Nat → Int32} {k : Nat} {x : Int32} : upd f k x k = x := if_pos rfl
theorem pk_un {f : Nat → Int32} {k j : Nat} {x : Int32} (h : j ≠ k) : upd f k x j = f j := if_neg h
theorem pk_sub {a b : Nat} (h : b ≤ a) : nI a - nI b = nI (a - b) := by
  obtain ⟨c, rfl⟩ : ∃ c, a = c + b := ⟨a - b, by omega⟩
  rw [← nI_add, Int32.add_sub_cancel, Nat.add_sub_cancel]
theorem pk_m1 (n : Nat) : nI (n + 1) + (-1) = nI n := by
  rw [← nI_1, Int32.add_assoc, show (1 : Int32) + (-1) = 0 from rfl, Int32.add_zero]
theorem pk_mul (a b : Nat) : nI a * nI b = nI (a * b) := (Int32.ofNat_mul a b).symm
theorem pk_sub_toInt {a b : Nat} (ha : a < 2 ^ 30) (hb : b < 2 ^ 30) : (nI a - nI b).toInt = (a : Int) - b := by
  rw [Int32.toInt_sub, nI_toInt (by omega), nI_toInt (by omega)]
  exact Int.bmod_eq_of_le (by omega) (by omega)
theorem pk_sneg {a b : Nat} (hb : b < 2 ^ 30) (h : a < b) : nI a - nI b < 0 := by
  rw [Int32.lt_iff_toInt_lt, pk_sub_toInt (by omega) hb, show (0 : Int32).toInt = 0 from by decide]
  omega
theorem pk_ix (x : Int32) {n : Nat} (hn : n < 2 ^ 31) : x < 0 ∨ nI n ≤ x ∨ ∃ j : Nat, j < n ∧ x = nI j := by
  by_cases h : x < 0
  · exact Or.inl h
  · obtain ⟨j, hj, rfl⟩ := nI_of h
    by_cases h2 : j < n
    · exact Or.inr (Or.inr ⟨j, h2, rfl⟩)
    · exact Or.inr (Or.inl (nI_le (by omega) hj))
theorem pk_le {x y : Int32} {A B : Prop} (a b : Nat) (f : a ≤ b → A) (g : b < a → B) (hx : x = nI a := by rfl) (hy : y = nI b := by rfl) (ha : a < 2 ^ 31 := by omega) (hb : b < 2 ^ 31 := by omega) : (x ≤ y → A) ∧ (¬ x ≤ y → B) := by
  subst hx hy
  rw [nI_leI ha hb]
  exact ⟨f, fun z => g (by omega)⟩
theorem pk_lt {x y : Int32} {A B : Prop} (a b : Nat) (f : a < b → A) (g : b ≤ a → B) (hx : x = nI a := by rfl) (hy : y = nI b := by rfl) (ha : a < 2 ^ 31 := by omega) (hb : b < 2 ^ 31 := by omega) : (x < y → A) ∧ (¬ x < y → B) := by
  subst hx hy
  rw [nI_ltI ha hb]
  exact ⟨f, fun z => g (by omega)⟩
theorem pk_eq {x y : Int32} {A B : Prop} (a b : Nat) (f : a = b → A) (g : a ≠ b → B) (hx : x = nI a := by rfl) (hy : y = nI b := by rfl) (ha : a < 2 ^ 31 := by omega) (hb : b < 2 ^ 31 := by omega) : (x = y → A) ∧ (¬ x = y → B) := by
  subst hx hy
  rw [nI_eq ha hb]
  exact ⟨f, g⟩
theorem pk_in {x : Int32} (n N : Nat) (h : n < N) (hx : x = nI n := by rfl) (hN : N < 2 ^ 31 := by omega) : vp_in x N := by
  subst hx
  exact vp_in_nI h hN
theorem pk_cl {x : Int32} (n : Nat) (hx : x = nI n := by rfl) (h : n < 2 ^ 31 := by omega) : x.toNatClampNeg = n := by
  subst hx
  exact nI_clamp h
theorem pk_and (x : Int32) {m : Int32} (k : Nat) (hm : m.toBitVec.toNat = 2 ^ k - 1) : x &&& m = nI (x.toBitVec.toNat % 2 ^ k) := by
  apply Int32.toBitVec_inj.mp
  apply BitVec.eq_of_toNat_eq
  rw [Int32.toBitVec_and, BitVec.toNat_and, hm, Nat.and_two_pow_sub_one_eq_mod]
  show _ = (BitVec.ofNat 32 _).toNat
  rw [BitVec.toNat_ofNat]
  exact (Nat.mod_eq_of_lt (Nat.lt_of_le_of_lt (Nat.mod_le _ _) x.toBitVec.isLt)).symm
theorem pk_tn {n : Nat} (h : n < 2 ^ 32) : (nI n).toBitVec.toNat = n := Nat.mod_eq_of_lt h
theorem pk_andN {n : Nat} (h : n < 2 ^ 32) {m : Int32} (k : Nat) (hm : m.toBitVec.toNat = 2 ^ k - 1) : nI n &&& m = nI (n % 2 ^ k) := by
  rw [pk_and _ k hm, pk_tn h]
theorem pk_least (P : Nat → Prop) (h : ∃ k, P k) : ∃ k, P k ∧ ∀ j, j < k → ¬ P j := by
  obtain ⟨k, hk⟩ := h
  induction k using Nat.strongRecOn with
  | ind k ih =>
    by_cases h : ∃ j, j < k ∧ P j
    · obtain ⟨j, hj, hp⟩ := h
      exact ih j hj hp
    · exact ⟨k, hk, fun j hj hp => h ⟨j, hj, hp⟩⟩

/-! An instruction's parts -/
def wm_op (i : Int32) : Nat := i.toBitVec.toNat % 2 ^ 4
def wm_d (i : Int32) : Nat := (i >>> ((4 : Int32) &&& 31)).toBitVec.toNat % 2 ^ 3
def wm_a (i : Int32) : Nat := (i >>> ((7 : Int32) &&& 31)).toBitVec.toNat % 2 ^ 3
def wm_b (i : Int32) : Nat := (i >>> ((10 : Int32) &&& 31)).toBitVec.toNat % 2 ^ 3
def wm_t (x : Int32) : Nat := x.toBitVec.toNat % 2 ^ 6
theorem wm_op_lt (i : Int32) : wm_op i < 16 := Nat.mod_lt _ (by decide)
theorem wm_d_lt (i : Int32) : wm_d i < 8 := Nat.mod_lt _ (by decide)
theorem wm_a_lt (i : Int32) : wm_a i < 8 := Nat.mod_lt _ (by decide)
theorem wm_b_lt (i : Int32) : wm_b i < 8 := Nat.mod_lt _ (by decide)
theorem wm_t_lt (i : Int32) : wm_t i < 64 := Nat.mod_lt _ (by decide)
theorem wm_op_e (i : Int32) : i &&& 15 = nI (wm_op i) := pk_and i 4 (by decide)
theorem wm_d_e (i : Int32) : (i >>> ((4 : Int32) &&& 31)) &&& 7 = nI (wm_d i) := pk_and _ 3 (by decide)
theorem wm_a_e (i : Int32) : (i >>> ((7 : Int32) &&& 31)) &&& 7 = nI (wm_a i) := pk_and _ 3 (by decide)
theorem wm_b_e (i : Int32) : (i >>> ((10 : Int32) &&& 31)) &&& 7 = nI (wm_b i) := pk_and _ 3 (by decide)
theorem wm_t_e (x : Int32) : x &&& 63 = nI (wm_t x) := pk_and x 6 (by decide)
abbrev wm_last (o : Nat) : Prop := o = 0 ∨ o = 7 ∨ o = 8 ∨ 13 < o
abbrev wm_wD (o : Nat) : Prop := ¬ wm_last o ∧ o ≠ 6
abbrev wm_rA (o : Nat) : Prop := ¬ wm_last o ∨ o = 8
abbrev wm_rB (o : Nat) : Prop := ¬ wm_last o ∧ o ≠ 4 ∧ o ≠ 5 ∧ o ≠ 12
def wm_lat (o : Nat) : Nat := if o = 5 then 2 else if o = 3 then 3 else if o = 13 then 4 else 1
theorem wm_lat_r (o : Nat) : 1 ≤ wm_lat o ∧ wm_lat o ≤ 4 := by
  unfold wm_lat
  split
  · omega
  · split
    · omega
    · split <;> omega
abbrev wm_Wr (i : Int32) (r : Nat) : Prop := wm_wD (wm_op i) ∧ wm_d i = r
abbrev wm_Rd (i : Int32) (r : Nat) : Prop := (wm_rA (wm_op i) ∧ wm_a i = r) ∨ (wm_rB (wm_op i) ∧ wm_b i = r)
abbrev wm_mo (p q : Nat) : Prop := (p = 6 ∧ (q = 5 ∨ q = 6)) ∨ (p = 5 ∧ q = 6)
abbrev wm_su (p q : Nat) : Prop := ((p = 5 ∨ p = 6) ∧ (q = 5 ∨ q = 6)) ∨ ((p = 3 ∨ p = 13) ∧ (q = 3 ∨ q = 13))

/-! Registers as bits -/
def wm_bit (p : Bool) (d : Nat) : Int32 := if p = true then (1 : Int32) <<< (nI d &&& 31) else 0
def wm_mW (i : Int32) : Int32 := wm_bit (decide (wm_wD (wm_op i))) (wm_d i)
def wm_mR (i : Int32) : Int32 := wm_bit (decide (wm_rA (wm_op i))) (wm_a i) ||| wm_bit (decide (wm_rB (wm_op i))) (wm_b i)
theorem wm_tabR : ∀ (p q s : Bool) (d a b : Fin 8), (wm_bit p d.val &&& (wm_bit q a.val ||| wm_bit s b.val) = 0) ↔ ¬ (p = true ∧ ((q = true ∧ a.val = d.val) ∨ (s = true ∧ b.val = d.val))) := by decide +kernel
theorem wm_tabW : ∀ (p q : Bool) (d a : Fin 8), (wm_bit p d.val &&& wm_bit q a.val = 0) ↔ ¬ (p = true ∧ q = true ∧ a.val = d.val) := by decide +kernel
theorem wm_WR (x y : Int32) : (wm_mW x &&& wm_mR y = 0) ↔ ¬ ∃ r, wm_Wr x r ∧ wm_Rd y r := by
  have h := wm_tabR (decide (wm_wD (wm_op x))) (decide (wm_rA (wm_op y))) (decide (wm_rB (wm_op y))) ⟨wm_d x, wm_d_lt x⟩ ⟨wm_a y, wm_a_lt y⟩ ⟨wm_b y, wm_b_lt y⟩
  rw [decide_eq_true_iff, decide_eq_true_iff, decide_eq_true_iff] at h
  refine Iff.trans h (not_congr ⟨fun z => ⟨wm_d x, ⟨z.1, rfl⟩, z.2⟩, ?_⟩)
  rintro ⟨r, ⟨h1, rfl⟩, h2⟩
  exact ⟨h1, h2⟩
theorem wm_RW (x y : Int32) : (wm_mR x &&& wm_mW y = 0) ↔ ¬ ∃ r, wm_Rd x r ∧ wm_Wr y r := by
  rw [Int32.and_comm, wm_WR]
  exact not_congr ⟨fun ⟨r, a, b⟩ => ⟨r, b, a⟩, fun ⟨r, a, b⟩ => ⟨r, b, a⟩⟩
theorem wm_WW (x y : Int32) : (wm_mW x &&& wm_mW y = 0) ↔ ¬ ∃ r, wm_Wr x r ∧ wm_Wr y r := by
  have h := wm_tabW (decide (wm_wD (wm_op x))) (decide (wm_wD (wm_op y))) ⟨wm_d x, wm_d_lt x⟩ ⟨wm_d y, wm_d_lt y⟩
  rw [decide_eq_true_iff, decide_eq_true_iff] at h
  refine Iff.trans h (not_congr ⟨fun z => ⟨wm_d x, ⟨z.1, rfl⟩, z.2⟩, ?_⟩)
  rintro ⟨r, ⟨h1, rfl⟩, h2⟩
  exact ⟨h1, h2⟩

/-! The cycles of a block: I its instructions, C their cycles -/
def wm_DJ (I : Nat → Int32) (C : Nat → Nat) (k c j : Nat) : Prop :=
  ((∃ r, wm_Wr (I j) r ∧ wm_Rd (I k) r) → C j + wm_lat (wm_op (I j)) ≤ c) ∧
  ((∃ r, wm_Wr (I j) r ∧ wm_Wr (I k) r) → C j + wm_lat (wm_op (I j)) < c + wm_lat (wm_op (I k))) ∧
  ((∃ r, wm_Rd (I j) r ∧ wm_Wr (I k) r) → C j ≤ c) ∧
  (wm_last (wm_op (I k)) → C j ≤ c) ∧
  (wm_mo (wm_op (I j)) (wm_op (I k)) → C j < c)
def wm_cnt (C : Nat → Nat) (c : Nat) : Nat → Nat
  | 0 => 0
  | k + 1 => wm_cnt C c k + (if C k = c then 1 else 0)
def wm_Room (I : Nat → Int32) (wd : Nat) (C : Nat → Nat) (k c : Nat) : Prop :=
  wm_cnt C c k < wd ∧ ∀ j, j < k → C j = c → ¬ wm_su (wm_op (I j)) (wm_op (I k))
def wm_Fit (I : Nat → Int32) (wd : Nat) (C : Nat → Nat) (k c : Nat) : Prop :=
  1 ≤ c ∧ (∀ j, j < k → wm_DJ I C k c j) ∧ wm_Room I wd C k c
def wm_Sch (I : Nat → Int32) (wd : Nat) (C : Nat → Nat) (n : Nat) : Prop :=
  ∀ k, k < n → wm_Fit I wd C k (C k) ∧ (∀ c, c < C k → ¬ wm_Fit I wd C k c) ∧ C k ≤ 16 * k + 5
theorem wm_cnt_c {C C' : Nat → Nat} {c : Nat} : ∀ k, (∀ j, j < k → C' j = C j) → wm_cnt C' c k = wm_cnt C c k := by
  intro k
  induction k with
  | zero => intro _; rfl
  | succ k ih =>
    intro h
    simp only [wm_cnt]
    rw [ih (fun j hj => h j (by omega)), h k (by omega)]
theorem wm_cnt_0 {C : Nat → Nat} {c : Nat} : ∀ k, (∀ j, j < k → C j ≠ c) → wm_cnt C c k = 0 := by
  intro k
  induction k with
  | zero => intro _; rfl
  | succ k ih =>
    intro h
    simp only [wm_cnt]
    rw [ih (fun j hj => h j (by omega)), if_neg (h k (by omega))]
theorem wm_cnt_n {C : Nat → Nat} {c : Nat} : ∀ k, wm_cnt C c k = 0 → ∀ j, j < k → C j ≠ c := by
  intro k
  induction k with
  | zero => intro _ j hj; omega
  | succ k ih =>
    intro h j hj e
    simp only [wm_cnt] at h
    by_cases hk : j = k
    · subst hk
      rw [if_pos e] at h
      omega
    · exact ih (by omega) j (by omega) e
theorem wm_Room_0 {I : Nat → Int32} {wd : Nat} {C : Nat → Nat} {k c : Nat} (hw : 1 ≤ wd) (h : wm_cnt C c k = 0) : wm_Room I wd C k c :=
  ⟨by omega, fun j hj e => absurd e (wm_cnt_n k h j hj)⟩
theorem wm_Room_1 {I : Nat → Int32} {wd : Nat} {C : Nat → Nat} {k c : Nat} (hw : 1 ≤ wd) (h : ¬ wm_Room I wd C k c) : 1 ≤ wm_cnt C c k := by
  by_cases z : wm_cnt C c k = 0
  · exact absurd (wm_Room_0 hw z) h
  · omega
theorem wm_Fit_c {I : Nat → Int32} {wd : Nat} {C C' : Nat → Nat} {k c : Nat} (h : ∀ j, j < k → C' j = C j) (f : wm_Fit I wd C k c) : wm_Fit I wd C' k c := by
  refine ⟨f.1, fun j hj => ?_, ?_, fun j hj => ?_⟩
  · have := f.2.1 j hj
    unfold wm_DJ at this ⊢
    rw [h j hj]
    exact this
  · rw [wm_cnt_c k h]
    exact f.2.2.1
  · rw [h j hj]
    exact f.2.2.2 j hj
theorem wm_Sch_ex (I : Nat → Int32) {wd : Nat} (hw : 1 ≤ wd) : ∀ n, ∃ C, wm_Sch I wd C n := by
  intro n
  induction n with
  | zero => exact ⟨fun _ => 0, fun k hk => by omega⟩
  | succ n ih =>
    obtain ⟨C, hC⟩ := ih
    have hF : wm_Fit I wd C n (16 * n + 5) := by
      refine ⟨by omega, fun j hj => ?_, wm_Room_0 hw (wm_cnt_0 n fun j hj => ?_)⟩
      · have h1 := (hC j hj).2.2
        have h2 := wm_lat_r (wm_op (I j))
        exact ⟨fun _ => by omega, fun _ => by omega, fun _ => by omega, fun _ => by omega, fun _ => by omega⟩
      · have h1 := (hC j hj).2.2
        omega
    obtain ⟨c, hc, hl⟩ := pk_least (fun c => wm_Fit I wd C n c) ⟨_, hF⟩
    refine ⟨fun j => if j = n then c else C j, fun k hk => ?_⟩
    have hag : ∀ j, j < n → (fun j => if j = n then c else C j) j = C j := fun j hj => if_neg (by omega)
    have hag' : ∀ j, j < n → C j = (fun j => if j = n then c else C j) j := fun j hj => (hag j hj).symm
    by_cases e : k = n
    · subst e
      have e2 : (fun j => if j = k then c else C j) k = c := if_pos rfl
      rw [e2]
      refine ⟨wm_Fit_c hag hc, fun c' hc' f => hl c' hc' (wm_Fit_c hag' f), ?_⟩
      by_cases hle : 16 * k + 5 < c
      · exact absurd hF (hl _ hle)
      · omega
    · have hk' : k < n := by omega
      rw [hag k hk']
      refine ⟨wm_Fit_c (fun j hj => hag j (by omega)) (hC k hk').1, fun c' hc' f => (hC k hk').2.1 c' hc' (wm_Fit_c (fun j hj => hag' j (by omega)) f), (hC k hk').2.2⟩
/-- of two that write one register the later one is done later -/
theorem wm_waw {I : Nat → Int32} {wd : Nat} {C : Nat → Nat} {n : Nat} (h : wm_Sch I wd C n) {r i j : Nat} (hij : i < j) (hj : j < n) (hi : wm_Wr (I i) r) (hw : wm_Wr (I j) r) :
    C i + wm_lat (wm_op (I i)) < C j + wm_lat (wm_op (I j)) := ((h j hj).1.2.1 i hij).2.1 ⟨r, hi, hw⟩
theorem wm_C1 {I : Nat → Int32} {wd : Nat} {C : Nat → Nat} {n : Nat} (h : wm_Sch I wd C n) {j : Nat} (hj : j < n) : 1 ≤ C j ∧ C j ≤ 16 * j + 5 := ⟨(h j hj).1.1, (h j hj).2.2⟩

/-! The drawers: k of them full, the next is empty -/
def wm_rng (C : Nat → Nat) (L t : Nat) : Nat → Nat
  | 0 => 0
  | k + 1 => wm_rng C L t k + (if L ≤ C k ∧ C k < L + t then 1 else 0)
theorem wm_rng_s (C : Nat → Nat) (L t : Nat) : ∀ k, wm_rng C L (t + 1) k = wm_rng C L t k + wm_cnt C (L + t) k := by
  intro k
  induction k with
  | zero => rfl
  | succ k ih =>
    simp only [wm_rng, wm_cnt]
    rw [ih]
    by_cases h1 : C k = L + t
    · rw [if_pos (by omega), if_neg (by omega), if_pos h1]
      omega
    · by_cases h2 : L ≤ C k ∧ C k < L + t
      · rw [if_pos (by omega), if_pos h2, if_neg h1]
        omega
      · rw [if_neg (by omega), if_neg h2, if_neg h1]
        omega
theorem wm_rng_le (C : Nat → Nat) (L t : Nat) : ∀ k, wm_rng C L t k ≤ k := by
  intro k
  induction k with
  | zero => exact Nat.le_refl 0
  | succ k ih =>
    simp only [wm_rng]
    split <;> omega
theorem wm_rng_ge (C : Nat → Nat) (L k : Nat) : ∀ t, (∀ s, s < t → 1 ≤ wm_cnt C (L + s) k) → t ≤ wm_rng C L t k := by
  intro t
  induction t with
  | zero => intro _; omega
  | succ t ih =>
    intro h
    rw [wm_rng_s]
    have h1 := ih (fun s hs => h s (by omega))
    have h2 := h t (by omega)
    omega
theorem wm_pig {C : Nat → Nat} {L k : Nat} (h : ∀ s, s < k → 1 ≤ wm_cnt C (L + s) k) : wm_cnt C (L + k) k = 0 := by
  have h1 := wm_rng_ge C L k k h
  have h2 := wm_rng_le C L (k + 1) k
  rw [wm_rng_s] at h2
  omega

/-! The least cycle that the earlier ones leave, and the first with room from there -/
def wm_Lst (I : Nat → Int32) (C : Nat → Nat) (k e L : Nat) : Prop := ∀ c, L ≤ c ↔ (1 ≤ c ∧ ∀ j, j < e → wm_DJ I C k c j)
theorem wm_Lst_0 (I : Nat → Int32) (C : Nat → Nat) (k : Nat) : wm_Lst I C k 0 1 := fun _ => ⟨fun h => ⟨h, fun j hj => by omega⟩, fun h => h.1⟩
theorem wm_Lst_s {I : Nat → Int32} {C : Nat → Nat} {k e L B : Nat} (h : wm_Lst I C k e L) (hB : ∀ c, B ≤ c ↔ (1 ≤ c ∧ wm_DJ I C k c e)) : wm_Lst I C k (e + 1) (max L B) := by
  intro c
  rw [Nat.max_le, h c, hB c]
  constructor
  · rintro ⟨⟨h1, h2⟩, _, h4⟩
    exact ⟨h1, lt_s h2 h4⟩
  · rintro ⟨h1, h2⟩
    exact ⟨⟨h1, fun j hj => h2 j (by omega)⟩, h1, h2 e (by omega)⟩
theorem wm_Lst_1 {I : Nat → Int32} {C : Nat → Nat} {k e L : Nat} (h : wm_Lst I C k e L) : 1 ≤ L := ((h L).mp (Nat.le_refl L)).1
theorem wm_DJ_big {I : Nat → Int32} {wd : Nat} {C : Nat → Nat} {n k c j : Nat} (h : wm_Sch I wd C n) (hj : j < n) (hc : 16 * j + 10 ≤ c) : wm_DJ I C k c j := by
  have h1 := (h j hj).2.2
  have h2 := wm_lat_r (wm_op (I j))
  exact ⟨fun _ => by omega, fun _ => by omega, fun _ => by omega, fun _ => by omega, fun _ => by omega⟩
theorem wm_Lst_b {I : Nat → Int32} {wd : Nat} {C : Nat → Nat} {n k e L : Nat} (h : wm_Sch I wd C n) (he : e ≤ n) (hL : wm_Lst I C k e L) : L ≤ 16 * e + 10 :=
  (hL _).mpr ⟨by omega, fun j hj => wm_DJ_big h (by omega) (by omega)⟩
theorem wm_first {I : Nat → Int32} {wd : Nat} {C : Nat → Nat} {n k L t : Nat} (h : wm_Sch I wd C n) (hk : k < n) (hL : wm_Lst I C k k L) (h0 : ∀ s, s < t → ¬ wm_Room I wd C k (L + s)) (h1 : wm_Room I wd C k (L + t)) : C k = L + t := by
  have hF : wm_Fit I wd C k (L + t) := by
    have := (hL (L + t)).mp (by omega)
    exact ⟨this.1, this.2, h1⟩
  have hf := (h k hk).1
  have hge : L ≤ C k := (hL (C k)).mpr ⟨hf.1, hf.2.1⟩
  have hle : ¬ L + t < C k := fun z => (h k hk).2.1 _ z hF
  by_cases hlt : C k < L + t
  · have := h0 (C k - L) (by omega)
    rw [show L + (C k - L) = C k by omega] at this
    exact absurd hf.2.2 this
  · omega
theorem wm_lastTry {I : Nat → Int32} {wd : Nat} {C : Nat → Nat} {k L : Nat} (hw : 1 ≤ wd) (h0 : ∀ s, s < k → ¬ wm_Room I wd C k (L + s)) : wm_Room I wd C k (L + k) :=
  wm_Room_0 hw (wm_pig fun s hs => wm_Room_1 hw (h0 s hs))
/-- a block's time -/
def wm_tm (I : Nat → Int32) (C : Nat → Nat) : Nat → Nat
  | 0 => 0
  | k + 1 => max (wm_tm I C k) (C k + wm_lat (wm_op (I k)) - 1)
theorem wm_tm_b {I : Nat → Int32} {wd : Nat} {C : Nat → Nat} {n : Nat} (h : wm_Sch I wd C n) : ∀ k, k ≤ n → wm_tm I C k ≤ 16 * k + 8 := by
  intro k
  induction k with
  | zero => intro _; simp only [wm_tm]; omega
  | succ k ih =>
    intro hk
    have h1 := ih (by omega)
    have h2 := (h k (by omega)).2.2
    have h3 := wm_lat_r (wm_op (I k))
    simp only [wm_tm]
    omega

/-! A block's length -/
def wm_lf (w : Nat → Int32) : Nat → Nat → Nat
  | 0, _ => 0
  | f + 1, s => if s + 1 < 64 ∧ ¬ wm_last (wm_op (w s)) then wm_lf w f (s + 1) + 1 else 1
theorem wm_lf_s (w : Nat → Int32) (f s : Nat) : wm_lf w (f + 1) s = if s + 1 < 64 ∧ ¬ wm_last (wm_op (w s)) then wm_lf w f (s + 1) + 1 else 1 := rfl
def wm_len (w : Nat → Int32) (s : Nat) : Nat := wm_lf w 8 s
theorem wm_lf_r (w : Nat → Int32) : ∀ f s, wm_lf w f s ≤ f ∧ (s < 64 → s + wm_lf w f s ≤ 64) := by
  intro f
  induction f with
  | zero => intro s; simp only [wm_lf]; omega
  | succ f ih =>
    intro s
    rw [wm_lf_s]
    have := ih (s + 1)
    split <;> omega
theorem wm_len_r (w : Nat → Int32) {s : Nat} (hs : s < 64) : 1 ≤ wm_len w s ∧ wm_len w s ≤ 8 ∧ s + wm_len w s ≤ 64 := by
  have h := wm_lf_r w 8 s
  refine ⟨?_, h.1, h.2 hs⟩
  unfold wm_len
  rw [wm_lf_s]
  split <;> omega
theorem wm_lf_n (w : Nat → Int32) : ∀ f s j, j + 1 < wm_lf w f s → ¬ wm_last (wm_op (w (s + j))) := by
  intro f
  induction f with
  | zero => intro s j h; simp only [wm_lf] at h; omega
  | succ f ih =>
    intro s j h
    rw [wm_lf_s] at h
    by_cases c : s + 1 < 64 ∧ ¬ wm_last (wm_op (w s))
    · rw [if_pos c] at h
      cases j with
      | zero => exact c.2
      | succ j =>
        have := ih (s + 1) j (by omega)
        rw [show s + 1 + j = s + (j + 1) by omega] at this
        exact this
    · rw [if_neg c] at h
      omega
theorem wm_len_n (w : Nat → Int32) {s j : Nat} (h : j + 1 < wm_len w s) : ¬ wm_last (wm_op (w (s + j))) := wm_lf_n w 8 s j h
theorem wm_lf_c {w w' : Nat → Int32} : ∀ f s, (∀ j, j < wm_lf w f s → w' (s + j) = w (s + j)) → wm_lf w' f s = wm_lf w f s := by
  intro f
  induction f with
  | zero => intro s _; rfl
  | succ f ih =>
    intro s h
    rw [wm_lf_s] at h
    rw [wm_lf_s, wm_lf_s]
    by_cases c : s + 1 < 64 ∧ ¬ wm_last (wm_op (w s))
    · rw [if_pos c] at h
      have h0 := h 0 (by omega)
      rw [Nat.add_zero] at h0
      rw [h0, if_pos c, if_pos c, ih (s + 1) fun j hj => ?_]
      have := h (j + 1) (by omega)
      rw [show s + 1 + j = s + (j + 1) by omega]
      exact this
    · rw [if_neg c] at h
      have h0 := h 0 (by omega)
      rw [Nat.add_zero] at h0
      rw [h0, if_neg c, if_neg c]
theorem wm_len_c {w w' : Nat → Int32} {s : Nat} (h : ∀ j, j < wm_len w s → w' (s + j) = w (s + j)) : wm_len w' s = wm_len w s := wm_lf_c 8 s h
theorem wm_len_u {w : Nat → Int32} {s a : Nat} {v : Int32} (h : ¬ (s ≤ a ∧ a < s + wm_len w s)) : wm_len (upd w a v) s = wm_len w s :=
  wm_len_c fun j hj => pk_un (by omega)

/-! The kept blocks: a list, and arrays that hold it from cell 0 on -/
def wm_hit (w : Nat → Int32) (a s : Nat) : Prop := s ≤ a ∧ a < s + wm_len w s
def wm_kp (w : Nat → Int32) (a s : Nat) : Bool := decide (¬ (s ≤ a ∧ a < s + wm_len w s))
def wm_keep (w : Nat → Int32) (a : Nat) (l : List Nat) : List Nat := l.filter (wm_kp w a)
theorem wm_kp_t {w : Nat → Int32} {a s : Nat} (h : ¬ wm_hit w a s) : wm_kp w a s = true := decide_eq_true h
theorem wm_kp_f {w : Nat → Int32} {a s : Nat} (h : wm_hit w a s) : wm_kp w a s = false := decide_eq_false (fun z => z h)
theorem wm_kp_i {w : Nat → Int32} {a s : Nat} (h : wm_kp w a s = true) : ¬ wm_hit w a s := of_decide_eq_true (p := ¬ (s ≤ a ∧ a < s + wm_len w s)) h
def wm_R (f : Nat → Int32) (a : Nat → Int32) (l : List Nat) : Prop := ∀ i x : Nat, l[i]? = some x → a i = f x
theorem wm_R_nil {f a : Nat → Int32} : wm_R f a [] := fun i x h => by simp at h
theorem wm_R_i {f a : Nat → Int32} {l : List Nat} (h : wm_R f a l) {i : Nat} (hi : i < l.length) : a i = f l[i] := h i _ (List.getElem?_eq_getElem hi)
theorem wm_R_app {f a : Nat → Int32} {A B : List Nat} : wm_R f a (A ++ B) ↔ (wm_R f a A ∧ wm_R f (fun i => a (A.length + i)) B) := by
  constructor
  · intro h
    refine ⟨fun i x e => h i x ?_, fun i x e => h (A.length + i) x ?_⟩
    · obtain ⟨hi, _⟩ := List.getElem?_eq_some_iff.mp e
      rw [List.getElem?_append_left hi]
      exact e
    · rw [List.getElem?_append_right (by omega), show A.length + i - A.length = i by omega]
      exact e
  · rintro ⟨h1, h2⟩ i x e
    by_cases hi : i < A.length
    · rw [List.getElem?_append_left hi] at e
      exact h1 i x e
    · rw [List.getElem?_append_right (by omega)] at e
      have := h2 _ _ e
      dsimp only at this
      rw [show A.length + (i - A.length) = i by omega] at this
      exact this
theorem wm_R_cons {f a : Nat → Int32} {b : Nat} {l : List Nat} : wm_R f a (b :: l) ↔ (a 0 = f b ∧ wm_R f (fun i => a (i + 1)) l) := by
  constructor
  · intro h
    exact ⟨h 0 b rfl, fun i x e => h (i + 1) x e⟩
  · rintro ⟨h1, h2⟩ i x e
    cases i with
    | zero =>
      have : b = x := Option.some.inj e
      rw [← this]
      exact h1
    | succ i => exact h2 i x e
theorem wm_R_e {f a a' : Nat → Int32} {l : List Nat} (h : wm_R f a l) (e : ∀ i, i < l.length → a' i = a i) : wm_R f a' l := fun i x z => by
  obtain ⟨hi, _⟩ := List.getElem?_eq_some_iff.mp z
  rw [e i hi]
  exact h i x z
theorem wm_R_f {f g a : Nat → Int32} {l : List Nat} (h : wm_R f a l) (e : ∀ x, x ∈ l → g x = f x) : wm_R g a l := fun i x z => by
  rw [e x (List.mem_of_getElem? z)]
  exact h i x z
/-- one more behind -/
theorem wm_R_snoc {f a : Nat → Int32} {l : List Nat} {b : Nat} {v : Int32} (h : wm_R f a l) (hv : v = f b) : wm_R f (upd a l.length v) (l ++ [b]) := by
  rw [wm_R_app, wm_R_cons]
  refine ⟨wm_R_e h fun i hi => pk_un (by omega), ?_, wm_R_nil⟩
  show upd a l.length v (l.length + 0) = f b
  rw [Nat.add_zero, pk_us, hv]
/-- one out of the middle -/
theorem wm_R_del {f a a' : Nat → Int32} {A C : List Nat} {b : Nat} (h : wm_R f a (A ++ b :: C)) (e : ∀ i, a' i = if A.length ≤ i ∧ i < A.length + C.length then a (i + 1) else a i) : wm_R f a' (A ++ C) := by
  rw [wm_R_app, wm_R_cons] at h
  rw [wm_R_app]
  refine ⟨wm_R_e h.1 fun i hi => ?_, wm_R_e h.2.2 fun i hi => ?_⟩
  · rw [e, if_neg (by omega)]
  · show a' (A.length + i) = a (A.length + (i + 1))
    rw [e, if_pos (by omega)]
    rfl
/-- one in front, over the place behind A -/
theorem wm_R_front {f a a' : Nat → Int32} {A C : List Nat} {s : Nat} (h1 : wm_R f a A) (h2 : wm_R f (fun i => a (A.length + 1 + i)) C) (e : ∀ i, a' i = if i = 0 then f s else if i ≤ A.length then a (i - 1) else a i) : wm_R f a' (s :: (A ++ C)) := by
  rw [wm_R_cons, wm_R_app]
  refine ⟨by rw [e, if_pos rfl], wm_R_e h1 fun i hi => ?_, wm_R_e h2 fun i hi => ?_⟩
  · show a' (i + 1) = a i
    rw [e, if_neg (by omega), if_pos (by omega)]
    rfl
  · show a' (A.length + i + 1) = a (A.length + 1 + i)
    rw [e, if_neg (by omega), if_neg (by omega), show A.length + i + 1 = A.length + 1 + i by omega]
theorem wm_cut (s : Nat) : ∀ l : List Nat, (∃ A C, l = A ++ s :: C ∧ s ∉ A) ∨ s ∉ l := by
  intro l
  induction l with
  | nil => exact Or.inr (by simp)
  | cons b l ih =>
    by_cases e : b = s
    · exact Or.inl ⟨[], l, by rw [e]; rfl, by simp⟩
    · rcases ih with ⟨A, C, rfl, h⟩ | h
      · refine Or.inl ⟨b :: A, C, rfl, ?_⟩
        intro z
        rcases List.mem_cons.mp z with z | z
        · exact e z.symm
        · exact h z
      · refine Or.inr fun z => ?_
        rcases List.mem_cons.mp z with z | z
        · exact e z.symm
        · exact h z
theorem wm_snoc {A : List Nat} {n : Nat} (h : A.length = n + 1) : ∃ A' b, A = A' ++ [b] ∧ A'.length = n := by
  have hne : A ≠ [] := by
    intro z
    rw [z] at h
    simp at h
  refine ⟨A.dropLast, A.getLast hne, (List.dropLast_concat_getLast hne).symm, ?_⟩
  rw [List.length_dropLast, h]
  rfl
theorem wm_keep_a (w : Nat → Int32) (a : Nat) (A B : List Nat) : wm_keep w a (A ++ B) = wm_keep w a A ++ wm_keep w a B := List.filter_append ..
theorem wm_keep_t {w : Nat → Int32} {a b : Nat} {l : List Nat} (h : ¬ wm_hit w a b) : wm_keep w a (b :: l) = b :: wm_keep w a l := List.filter_cons_of_pos (wm_kp_t h)
theorem wm_keep_f {w : Nat → Int32} {a b : Nat} {l : List Nat} (h : wm_hit w a b) : wm_keep w a (b :: l) = wm_keep w a l := List.filter_cons_of_neg (by rw [wm_kp_f h]; decide)
theorem wm_keep_n (w : Nat → Int32) (a : Nat) (l : List Nat) : (wm_keep w a l).length ≤ l.length := List.length_filter_le ..
theorem wm_keep_m {w : Nat → Int32} {a x : Nat} {l : List Nat} (h : x ∈ wm_keep w a l) : x ∈ l ∧ ¬ wm_hit w a x := by
  have := List.mem_filter.mp h
  exact ⟨this.1, wm_kp_i this.2⟩
/-- the kept ones: begins below 64, at most four, in the arrays of begins and lengths -/
def wm_L (l : List Nat) : Prop := l.length ≤ 4 ∧ ∀ x, x ∈ l → x < 64
def wm_K (w ks kl : Nat → Int32) (l : List Nat) : Prop := wm_R nI ks l ∧ wm_R (fun x => nI (wm_len w x)) kl l
theorem wm_K_u {w ks kl : Nat → Int32} {a : Nat} {v : Int32} {l : List Nat} (h : wm_K w ks kl (wm_keep w a l)) : wm_K (upd w a v) ks kl (wm_keep w a l) := by
  refine ⟨h.1, wm_R_f h.2 fun x hx => ?_⟩
  show nI (wm_len (upd w a v) x) = nI (wm_len w x)
  rw [wm_len_u (wm_keep_m hx).2]
theorem wm_L_keep {w : Nat → Int32} {a : Nat} {l : List Nat} (h : wm_L l) : wm_L (wm_keep w a l) :=
  ⟨Nat.le_trans (wm_keep_n w a l) h.1, fun x hx => h.2 x (wm_keep_m hx).1⟩
