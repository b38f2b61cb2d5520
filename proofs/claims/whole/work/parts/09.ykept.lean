/-! Y: the kept blocks -/
section YKEPT
variable {ypc ywd ymn yct : Int32} {yr yw yc yb yy : Nat → Int32}
theorem wy_pl_l {post : Int32 → Prop} {s : Nat} (hs : s < 64) {A B : List Nat} (hl : wm_L (A ++ B)) (hk : ymn = nI (A ++ B).length) (hR : wm_R nI yb (A ++ B)) (hA : s ∉ A) {f : Nat} (h : wY_place_2 post (nI s) ypc ywd ymn yct yr yw yc yb yy f (nI A.length)) :
    ∀ d i, i + d = A.length → wY_place_2 post (nI s) ypc ywd ymn yct yr yw yc yb yy (d + f) (nI i) := by
  have hlen : A.length + B.length ≤ 4 := by have := hl.1; rw [List.length_append] at this; exact this
  intro d
  induction d with
  | zero =>
    intro i hi
    have : i = A.length := by omega
    rw [this, Nat.zero_add]
    exact h
  | succ d ih =>
    intro i hi
    have hi' : i < A.length := by omega
    rw [show d + 1 + f = (d + f) + 1 by omega]
    have e : yb i = nI A[i] := wm_R_i (wm_R_app.mp hR).1 hi'
    have hm : A[i] ∈ A := List.getElem_mem hi'
    have hne : A[i] ≠ s := fun z => hA (z ▸ hm)
    refine br_f ?_ ⟨vp_in_nI (by omega) (by decide), br_f ?_ (nm_r (nI_1 i) (ih (i + 1) (by omega)))⟩
    · rw [hk, List.length_append]
      exact nI_ge (by omega) (by omega)
    · rw [nI_clamp (by omega), e]
      exact wm_inj (hl.2 _ (List.mem_append_left B hm)) hs hne
theorem wy_pl_f {post : Int32 → Prop} {s : Nat} (hs : s < 64) {A B : List Nat} (hl : wm_L (A ++ s :: B)) (hk : ymn = nI (A ++ s :: B).length) (hR : wm_R nI yb (A ++ s :: B)) (hA : s ∉ A) (h : post (nI A.length)) : wpY_place post (ypc, ywd, ymn, yct, yr, yw, yc, yb, yy) (nI s) := by
  have hlen : A.length + (B.length + 1) ≤ 4 := by have := hl.1; rw [List.length_append, List.length_cons] at this; exact this
  have e : yb A.length = nI s := ((wm_R_cons.mp (wm_R_app.mp hR).2)).1
  refine ⟨A.length + 1, wy_pl_l hs hl hk hR hA ?_ A.length 0 (by omega)⟩
  refine br_f ?_ ⟨vp_in_nI (by omega) (by decide), br_t ?_ h⟩
  · rw [hk, List.length_append, List.length_cons]
    exact nI_ge (by omega) (by omega)
  · rw [nI_clamp (by omega), e]
theorem wy_pl_n {post : Int32 → Prop} {s : Nat} (hs : s < 64) {l : List Nat} (hl : wm_L l) (hk : ymn = nI l.length) (hR : wm_R nI yb l) (hA : s ∉ l) (h : post (-1)) : wpY_place post (ypc, ywd, ymn, yct, yr, yw, yc, yb, yy) (nI s) := by
  have hl' : wm_L (l ++ []) := by rw [List.append_nil]; exact hl
  refine ⟨l.length + 1, wy_pl_l (B := []) hs hl' (by rw [List.append_nil]; exact hk) (by rw [List.append_nil]; exact hR) hA ?_ l.length 0 (by omega)⟩
  refine br_t ?_ h
  rw [hk]
  exact nI_le (Nat.le_refl _) (by have := hl.1; omega)

/-! forget -/
theorem wy_fg_l {post : SY → Prop} {b0 : Nat → Int32} {a m : Nat} (hm : m ≤ 3)
    (h : ∀ yb : Nat → Int32, (∀ i, yb i = if a ≤ i ∧ i < m then b0 (i + 1) else b0 i) → post (ypc, ywd, nI m, yct, yr, yw, yc, yb, yy)) :
    ∀ d j (yb : Nat → Int32), j + d = m → a ≤ j → (∀ i, yb i = if a ≤ i ∧ i < j then b0 (i + 1) else b0 i) → wY_forget_12 post ypc ywd (nI m) yct (d + 1) (nI j) yr yw yc yb yy := by
  intro d
  induction d with
  | zero =>
    intro j yb hj _ hb
    have : j = m := by omega
    subst this
    exact br_t (nI_le (Nat.le_refl _) (by omega)) (h yb hb)
  | succ d ih =>
    intro j yb hj ha hb
    refine br_f (nI_ge (by omega) (by omega)) ?_
    rw [nI_1 j, nI_clamp (n := j) (by omega), nI_clamp (n := j + 1) (by omega)]
    refine ⟨vp_in_nI (by omega) (by decide), vp_in_nI (by omega) (by decide), nm_e (nm_e (ih (j + 1) _ (by omega) (by omega) fun i => ?_))⟩
    by_cases e : i = j
    · rw [e, pk_us, hb, if_neg (by omega), if_pos (by omega)]
    · rw [pk_un e, hb]
      by_cases z : a ≤ i ∧ i < j
      · rw [if_pos z, if_pos (by omega)]
      · rw [if_neg z, if_neg (by omega)]
theorem wy_fg {post : SY → Prop} {A B : List Nat} {b : Nat} (hl : (A ++ b :: B).length ≤ 4) (hk : ymn = nI (A ++ b :: B).length) (hR : wm_R nI yb (A ++ b :: B))
    (h : ∀ yb : Nat → Int32, wm_R nI yb (A ++ B) → post (ypc, ywd, nI (A ++ B).length, yct, yr, yw, yc, yb, yy)) : wpY_forget post (ypc, ywd, ymn, yct, yr, yw, yc, yb, yy) (nI A.length) := by
  have hlen : A.length + (B.length + 1) ≤ 4 := by rw [List.length_append, List.length_cons] at hl; exact hl
  have e1 : (A ++ b :: B).length = A.length + B.length + 1 := by rw [List.length_append, List.length_cons]; rfl
  have e2 : (A ++ B).length = A.length + B.length := List.length_append
  refine nm_r (e' := nI (A.length + B.length)) (by rw [hk, e1, nI_pred]) ⟨B.length + 1, ?_⟩
  rw [e2] at h
  exact wy_fg_l (b0 := yb) (a := A.length) (by omega) (fun yb' hb => h yb' (wm_R_del hR hb)) B.length A.length yb rfl (Nat.le_refl _) (fun i => by rw [if_neg (by omega)])

/-! change -/
theorem wm_sub1 (x : Int32) : x + (-1) = x - 1 := (Int32.sub_eq_add_neg x 1).symm
theorem wm_m1lt : (nI 0 - 1 : Int32) < 0 := by decide
theorem wy_chg_l {post : SY → Prop} {a : Nat} {v : Int32} (ha : a < 64) {l : List Nat} (hl : wm_L l)
    (h : ∀ yb : Nat → Int32, wm_R nI yb (wm_keep yw a l) → post (ypc, ywd, nI (wm_keep yw a l).length, yct, yr, upd yw a v, yc, yb, yy)) :
    ∀ (n : Nat) (A B : List Nat) (yb : Nat → Int32) (x3 ymn : Int32), A.length = n → A ++ B = l → x3 = nI n - 1 → ymn = nI (A ++ wm_keep yw a B).length → wm_R nI yb (A ++ wm_keep yw a B) → wY_change_7 post (nI a) v (n + 1) x3 ypc ywd ymn yct yr yw yc yb yy := by
  intro n
  induction n with
  | zero =>
    intro A B yb x3 ymn hA e hx hk hR
    have eA : A = [] := List.eq_nil_of_length_eq_zero hA
    subst eA
    have eB : B = l := e
    subst eB
    refine br_t (by rw [hx]; exact wm_m1lt) ⟨vp_in_nI ha (by decide), nm_r (e' := upd yw a v) (by rw [nI_clamp (by omega)]) ?_⟩
    rw [hk]
    exact h yb hR
  | succ n ih =>
    intro A B yb x3 ymn hA e hx hk hR
    obtain ⟨A', b, rfl, hn⟩ := wm_snoc hA
    subst hn
    have hkB := wm_keep_n yw a B
    have e' : A' ++ (b :: B) = l := by rw [← e, List.append_assoc]; rfl
    have hlen : A'.length + (B.length + 1) ≤ 4 := by have := hl.1; rw [← e', List.length_append, List.length_cons] at this; exact this
    have hb : b < 64 := hl.2 b (by rw [← e']; exact List.mem_append_right A' (List.mem_cons_self))
    have hlb := wm_len_r yw hb
    have ea : (A' ++ [b]) ++ wm_keep yw a B = A' ++ b :: wm_keep yw a B := by rw [List.append_assoc]; rfl
    rw [ea] at hR hk
    have yn : yb A'.length = nI b := (wm_R_cons.mp (wm_R_app.mp hR).2).1
    have ex : x3 = nI A'.length := by rw [hx, nI_pred]
    have i4 : vp_in (nI A'.length) 4 := vp_in_nI (by omega) (by decide)
    have hcn : (nI A'.length).toNatClampNeg = A'.length := nI_clamp (by omega)
    subst ex
    have no : ¬ wm_hit yw a b → wY_change_7 post (nI a) v (A'.length + 1) (nI A'.length + (-1)) ypc ywd ymn yct yr yw yc yb yy := by
      intro hh
      refine ih A' (b :: B) yb _ ymn rfl e' (wm_sub1 _) ?_ ?_
      · rw [wm_keep_t hh]; exact hk
      · rw [wm_keep_t hh]; exact hR
    refine br_f (nI_pos (by omega)) ?_
    rw [hcn, yn]
    refine ⟨i4, pk_lt a b (fun z => nm_e (no fun y => by have := y.1; omega)) (fun z => ⟨i4, i4, wy_len hb ?_⟩)⟩
    rw [nI_add]
    refine pk_le (b + wm_len yw b) a (fun y => nm_e (no fun q => by have := q.2; omega)) (fun y => ?_)
    have hh : wm_hit yw a b := ⟨z, y⟩
    refine wy_fg (A := A') (b := b) (B := wm_keep yw a B) (by rw [List.length_append, List.length_cons]; omega) hk hR (fun yb' hR' => nm_e (ih A' (b :: B) yb' _ _ rfl e' (wm_sub1 _) ?_ ?_))
    · rw [wm_keep_f hh]
    · rw [wm_keep_f hh]; exact hR'
theorem wy_chg {post : SY → Prop} {a : Nat} {v : Int32} (ha : a < 64) {l : List Nat} (hl : wm_L l) (hk : ymn = nI l.length) (hR : wm_R nI yb l)
    (h : ∀ yb : Nat → Int32, wm_R nI yb (wm_keep yw a l) → post (ypc, ywd, nI (wm_keep yw a l).length, yct, yr, upd yw a v, yc, yb, yy)) : wpY_change post (ypc, ywd, ymn, yct, yr, yw, yc, yb, yy) (nI a) v := by
  refine nm_e ⟨l.length + 1, wy_chg_l ha hl h l.length l [] yb _ ymn rfl (List.append_nil l) (by rw [hk]) ?_ ?_⟩
  · show ymn = nI (l ++ []).length
    rw [List.append_nil]
    exact hk
  · show wm_R nI yb (l ++ [])
    rw [List.append_nil]
    exact hR

/-! first -/
theorem wy_fi_l {post : SY → Prop} {p s : Nat} (hp : p < 4) {b0 : Nat → Int32}
    (h : ∀ yb : Nat → Int32, (∀ i, yb i = if i = 0 then nI s else if i ≤ p then b0 (i - 1) else b0 i) → post (ypc, ywd, nI (p + 1), yct, yr, yw, yc, yb, yy)) :
    ∀ k (yb : Nat → Int32), k ≤ p → (∀ i, yb i = if k < i ∧ i ≤ p then b0 (i - 1) else b0 i) → wY_first_5 post (nI s) ypc ywd (nI p) yct (k + 1) (nI k) yr yw yc yb yy := by
  intro k
  induction k with
  | zero =>
    intro yb _ hb
    refine br_t (nI_le (a := 0) (b := 0) (Nat.le_refl 0) (by decide)) (nm_e (nm_r (nI_1 p) (h _ fun i => ?_)))
    by_cases e : i = 0
    · rw [e, pk_us, if_pos rfl]
    · rw [pk_un e, hb, if_neg e]
      by_cases z : i ≤ p
      · rw [if_pos (by omega), if_pos z]
      · rw [if_neg (by omega), if_neg z]
  | succ k ih =>
    intro yb hk hb
    refine br_f (nI_nle (by omega) (by omega)) ?_
    rw [nI_pred, nI_clamp (n := k + 1) (by omega), nI_clamp (n := k) (by omega)]
    refine ⟨vp_in_nI (by omega) (by decide), vp_in_nI (by omega) (by decide), nm_e (nm_r (pk_m1 k) (ih _ (by omega) fun i => ?_))⟩
    by_cases e : i = k + 1
    · rw [e, pk_us, hb, if_neg (by omega), if_pos (by omega)]
      rfl
    · rw [pk_un e, hb]
      by_cases z : k < i ∧ i ≤ p
      · rw [if_pos (by omega), if_pos z]
      · rw [if_neg (by omega), if_neg z]
theorem wy_fi {post : SY → Prop} {s : Nat} {A : List Nat} (hA : A.length < 4) (hk : ymn = nI A.length) (hR : wm_R nI yb A)
    (h : ∀ yb : Nat → Int32, wm_R nI yb (s :: A) → post (ypc, ywd, nI (A.length + 1), yct, yr, yw, yc, yb, yy)) : wpY_first post (ypc, ywd, ymn, yct, yr, yw, yc, yb, yy) (nI s) := by
  subst hk
  refine ⟨A.length + 1, wy_fi_l (b0 := yb) hA (fun yb' e => h yb' ?_) A.length yb (Nat.le_refl _) (fun i => by rw [if_neg (by omega)])⟩
  have := wm_R_front (C := []) (s := s) hR wm_R_nil e
  rw [List.append_nil] at this
  exact this

/-! one instruction -/
theorem wy_step {post : Int32 → SY → Prop} {at' e : Nat} (ha : at' < 64) (he : e ≤ 64) {l : List Nat} (hl : wm_L l) (hk : ymn = nI l.length) (hR : wm_R nI yb l)
    (hF : ¬ wm_flt yr (yw at') = 0 → post (wm_flt yr (yw at')) (ypc, ywd, ymn, yct, yr, yw, yc, yb, yy))
    (hN : wm_flt yr (yw at') = 0 → wm_op (yw at') ≠ 6 → post 0 (ypc, ywd, ymn, yct, wm_g yr yw (yw at'), yw, yc, yb, yy))
    (hS : ∀ t, wm_flt yr (yw at') = 0 → wm_op (yw at') = 6 → t < 64 → wm_tg yr (yw at') = nI t → ∀ (yb : Nat → Int32) (yct : Int32), wm_R nI yb (wm_keep yw t l) → ((at' < t ∧ t < e) ∧ yct = 1) ∨ (¬ (at' < t ∧ t < e) ∧ yct = 0) →
      post 0 (ypc, ywd, nI (wm_keep yw t l).length, yct, yr, upd yw t (yr (wm_b (yw at'))), yc, yb, yy)) : wpY_step post (ypc, ywd, ymn, yct, yr, yw, yc, yb, yy) (nI at') (nI e) := by
  have ho := wm_op_lt (yw at')
  have hca : (nI (wm_a (yw at'))).toNatClampNeg = wm_a (yw at') := nI_clamp (Nat.lt_trans (wm_a_lt _) (by decide))
  have hcb : (nI (wm_b (yw at'))).toNatClampNeg = wm_b (yw at') := nI_clamp (Nat.lt_trans (wm_b_lt _) (by decide))
  have hcd : (nI (wm_d (yw at'))).toNatClampNeg = wm_d (yw at') := nI_clamp (Nat.lt_trans (wm_d_lt _) (by decide))
  have hd : vp_in (nI (wm_d (yw at'))) 8 := vp_in_nI (wm_d_lt _) (by decide)
  unfold wpY_step
  refine wy_op ha (wy_a ha ⟨vp_in_nI (wm_a_lt _) (by decide), nm_r (e' := yr (wm_a (yw at'))) (by rw [hca]) (wy_b ha ⟨vp_in_nI (wm_b_lt _) (by decide), nm_r (e' := yr (wm_b (yw at'))) (by rw [hcb]) (wy_n ha (wy_d ha (nm_r (e' := wm_tg yr (yw at')) rfl ?_)))⟩)⟩)
  -- what a plain one writes
  have pl : wm_op (yw at') ≠ 5 → wm_op (yw at') ≠ 6 → wm_wD (wm_op (yw at')) → (wm_op (yw at') = 13 → ¬ yr (wm_b (yw at')) = 0) → ∀ v, v = wm_res (wm_op (yw at')) (yr (wm_a (yw at'))) (yr (wm_b (yw at'))) ((yw at') >>> ((13 : Int32) &&& 31)) →
      (vp_in (nI (wm_d (yw at'))) 8 ∧ ∀ a : Nat → Int32, a = upd yr (nI (wm_d (yw at'))).toNatClampNeg v → post 0 (ypc, ywd, ymn, yct, a, yw, yc, yb, yy)) := by
    intro h5 h6 hD h13 v ev
    refine ⟨hd, nm_r (e' := wm_g yr yw (yw at')) (by rw [hcd, ev, wm_gD h5 hD]) (hN (wm_flt0 ?_ (fun z => h13 z.1 z.2) (fun z => z.1.elim h5 h6)) h6)⟩
    have := wm_wD_i.mp hD
    omega
  have st : wm_op (yw at') ≤ 13 → wm_op (yw at') ≠ 5 → wm_op (yw at') ≠ 6 → wm_op (yw at') ≠ 13 → ¬ wm_wD (wm_op (yw at')) → post 0 (ypc, ywd, ymn, yct, yr, yw, yc, yb, yy) := by
    intro h h5 h6 h13 hD
    have := hN (wm_flt0 h (fun z => h13 z.1) (fun z => z.1.elim h5 h6)) h6
    rw [wm_g0 h5 hD] at this
    exact this
  have f3 : 13 < wm_op (yw at') → post 3 (ypc, ywd, ymn, yct, yr, yw, yc, yb, yy) := by
    intro h
    rw [wm_flt3 h] at hF
    exact hF wm_30
  refine br_f (nI_pos (by omega)) (pk_lt 13 (wm_op (yw at')) (fun z => f3 z) fun h13 => ?_)
  refine pk_eq (wm_op (yw at')) 0 (fun z => st h13 (by omega) (by omega) (by omega) (fun q => q.1 (Or.inl z))) fun n0 => ?_
  refine pk_eq (wm_op (yw at')) 1 (fun z => pl (by omega) (by omega) (wm_wD_i.mpr (by omega)) (by omega) _ (by rw [z]; rfl)) fun n1 => ?_
  refine pk_eq (wm_op (yw at')) 2 (fun z => pl (by omega) (by omega) (wm_wD_i.mpr (by omega)) (by omega) _ (by rw [z]; rfl)) fun n2 => ?_
  refine pk_eq (wm_op (yw at')) 3 (fun z => pl (by omega) (by omega) (wm_wD_i.mpr (by omega)) (by omega) _ (by rw [z]; rfl)) fun n3 => ?_
  refine pk_eq (wm_op (yw at')) 4 (fun z => pl (by omega) (by omega) (wm_wD_i.mpr (by omega)) (by omega) _ (by rw [z]; rfl)) fun n4 => ?_
  refine pk_eq (wm_op (yw at')) 5 (fun z => ?_) fun n5 => ?_
  · rcases wm_ix (wm_tg yr (yw at')) (N := 64) (by decide) with y | ⟨j, hj, ej⟩
    · rw [wm_flt1 (Or.inl z) y] at hF
      exact wy_in0 y (br_t rfl (hF wm_10))
    · have f0 : wm_flt yr (yw at') = 0 := wm_flt0 h13 (fun q => by have := q.1; omega) (fun q => by rcases q.2 with q | q <;> rw [ej] at q <;> first | exact nI_pos (by omega) q | exact nI_ge hj (by decide) q)
      have hh := hN f0 (by omega)
      rw [wm_g5 z, ej, nI_clamp (by omega)] at hh
      rw [ej, hcd, nI_clamp (n := j) (by omega)]
      exact wy_in1 hj (by decide) (br_f wm_10 ⟨vp_in_nI hj (by decide), hd, nm_e hh⟩)
  refine pk_eq (wm_op (yw at')) 6 (fun z => ?_) fun n6 => ?_
  · rcases wm_ix (wm_tg yr (yw at')) (N := 64) (by decide) with y | ⟨j, hj, ej⟩
    · rw [wm_flt1 (Or.inr z) y] at hF
      exact wy_in0 y (br_t rfl (hF wm_10))
    · have f0 : wm_flt yr (yw at') = 0 := wm_flt0 h13 (fun q => by have := q.1; omega) (fun q => by rcases q.2 with q | q <;> rw [ej] at q <;> first | exact nI_pos (by omega) q | exact nI_ge hj (by decide) q)
      rw [ej]
      refine wy_in1 hj (by decide) (br_f wm_10 (wy_chg hj hl hk hR fun yb' hR' => ?_))
      refine pk_le j at' (fun q => hS j f0 z hj ej yb' 0 hR' (Or.inr ⟨by omega, rfl⟩)) fun q => pk_le e j (fun p => hS j f0 z hj ej yb' 0 hR' (Or.inr ⟨by omega, rfl⟩)) fun p => hS j f0 z hj ej yb' 1 hR' (Or.inl ⟨by omega, rfl⟩)
  refine pk_eq (wm_op (yw at')) 7 (fun z => st h13 (by omega) (by omega) (by omega) (fun q => q.1 (Or.inr (Or.inl z)))) fun n7 => ?_
  refine pk_eq (wm_op (yw at')) 8 (fun z => st h13 (by omega) (by omega) (by omega) (fun q => q.1 (Or.inr (Or.inr (Or.inl z))))) fun n8 => ?_
  refine pk_eq (wm_op (yw at')) 9 (fun z => br_c (fun y => pl (by omega) (by omega) (wm_wD_i.mpr (by omega)) (by omega) _ (by rw [z, wm_res9t y])) (fun y => pl (by omega) (by omega) (wm_wD_i.mpr (by omega)) (by omega) _ (by rw [z, wm_res9f y]))) fun n9 => ?_
  refine pk_eq (wm_op (yw at')) 10 (fun z => pl (by omega) (by omega) (wm_wD_i.mpr (by omega)) (by omega) _ (by rw [z]; rfl)) fun n10 => ?_
  refine pk_eq (wm_op (yw at')) 11 (fun z => pl (by omega) (by omega) (wm_wD_i.mpr (by omega)) (by omega) _ (by rw [z]; rfl)) fun n11 => ?_
  refine pk_eq (wm_op (yw at')) 12 (fun z => pl (by omega) (by omega) (wm_wD_i.mpr (by omega)) (by omega) _ (by rw [z]; rfl)) fun n12 => ?_
  refine pk_eq (wm_op (yw at')) 13 (fun z => br_c (fun y => ?_) (fun y => ⟨y, pl (by omega) (by omega) (wm_wD_i.mpr (by omega)) (fun _ => y) _ (by rw [z]; rfl)⟩)) fun _ => trivial
  rw [wm_flt2 z y] at hF
  exact hF wm_20
end YKEPT
