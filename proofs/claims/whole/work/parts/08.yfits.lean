/-! Y: fits, the schedule, the time -/
section YFITS
variable {ypc ywd ymn yct : Int32} {yr yw yc yb yy : Nat → Int32}
section FIT
variable {wd s k c : Nat} {C : Nat → Nat} {post : Int32 → Prop} {x7 x8 : Int32}
theorem wy_f89 (hs : s + wm_len yw s ≤ 64) (hl8 : wm_len yw s ≤ 8) (hS : wm_Sch (wm_I yw s) wd C (wm_len yw s)) (hk : k < wm_len yw s) (hc : c ≤ 1000) (hC : wm_PC C k yy) (hw : ywd = nI wd) (hw4 : wd ≤ 4)
    (hm : (x7 = 0 ∧ ¬ (wm_op (yw (s + k)) = 5 ∨ wm_op (yw (s + k)) = 6)) ∨ (x7 = 1 ∧ (wm_op (yw (s + k)) = 5 ∨ wm_op (yw (s + k)) = 6)))
    (hu : (x8 = 0 ∧ ¬ (wm_op (yw (s + k)) = 3 ∨ wm_op (yw (s + k)) = 13)) ∨ (x8 = 1 ∧ (wm_op (yw (s + k)) = 3 ∨ wm_op (yw (s + k)) = 13)))
    (h1 : (∀ j, j < k → wm_G (wm_I yw s) C k c j) → wm_cnt C c k < wd → post 1) (h0 : ¬ ((∀ j, j < k → wm_G (wm_I yw s) C k c j) ∧ wm_cnt C c k < wd) → post 0) :
    ∀ d j, j + d = k → (∀ i, i < j → wm_G (wm_I yw s) C k c i) → wY_fits_89 post (nI s) (nI k) (nI c) (nI (s + k)) (nI (wm_op (yw (s + k)))) x7 x8 ypc ywd ymn yct yr yw yc yb yy (d + 1) (nI (wm_cnt C c j)) (nI j) := by
  have hok := wm_op_lt (yw (s + k))
  intro d
  induction d with
  | zero =>
    intro j hj hG
    have : j = k := by omega
    subst this
    have hcl := wm_cnt_le C c j
    refine br_t (nI_le (Nat.le_refl j) (by omega)) ?_
    rw [hw]
    exact pk_le wd (wm_cnt C c j) (fun z => h0 fun q => by have := q.2; omega) (fun z => h1 hG z)
  | succ d ih =>
    intro j hj hG
    have hoj := wm_op_lt (yw (s + j))
    have hcj := wm_C1 hS (j := j) (by omega)
    have hij : vp_in (nI j) 8 := vp_in_nI (by omega) (by decide)
    have hclj : (nI j).toNatClampNeg = j := nI_clamp (by omega)
    have hcnt := wm_cnt_le C c j
    have hyj : yy j = nI (C j) := hC j (by omega)
    have fail : ¬ wm_G (wm_I yw s) C k c j → post 0 := fun n => h0 fun q => n (q.1 j (by omega))
    have nxt : wm_G (wm_I yw s) C k c j → C j = c → wY_fits_89 post (nI s) (nI k) (nI c) (nI (s + k)) (nI (wm_op (yw (s + k)))) x7 x8 ypc ywd ymn yct yr yw yc yb yy (d + 1) (nI (wm_cnt C c j + 1)) (nI (j + 1)) := by
      intro g e
      have e1 : wm_cnt C c (j + 1) = wm_cnt C c j + 1 := by simp only [wm_cnt]; rw [if_pos e]
      rw [← e1]
      exact ih (j + 1) (by omega) (lt_s hG g)
    have nxf : wm_G (wm_I yw s) C k c j → C j ≠ c → wY_fits_89 post (nI s) (nI k) (nI c) (nI (s + k)) (nI (wm_op (yw (s + k)))) x7 x8 ypc ywd ymn yct yr yw yc yb yy (d + 1) (nI (wm_cnt C c j)) (nI (j + 1)) := by
      intro g e
      have e1 : wm_cnt C c (j + 1) = wm_cnt C c j := by simp only [wm_cnt]; rw [if_neg e]; rfl
      rw [← e1]
      exact ih (j + 1) (by omega) (lt_s hG g)
    have q208 : (wm_mo (wm_op (yw (s + j))) (wm_op (yw (s + k))) → C j < c) → (wm_last (wm_op (yw (s + k))) → C j ≤ c) → C j = c → ¬ ((wm_op (yw (s + j)) = 5 ∨ wm_op (yw (s + j)) = 6) ∧ (wm_op (yw (s + k)) = 5 ∨ wm_op (yw (s + k)) = 6)) →
        wY_fits_208 post (wY_fits_89 post (nI s) (nI k) (nI c) (nI (s + k)) (nI (wm_op (yw (s + k)))) x7 x8 ypc ywd ymn yct yr yw yc yb yy (d + 1)) (nI s) (nI k) (nI c) (nI (s + k)) (nI (wm_op (yw (s + k)))) (nI (wm_cnt C c j + 1)) x7 x8 (nI j) (nI (wm_op (yw (s + j)))) ypc ywd ymn yct yr yw yc yb yy := by
      intro hmo hla e hmm
      rcases hu with ⟨eu, nu⟩ | ⟨eu, yu⟩
      · exact br_t eu (nm_r (nI_1 j) (nxt ⟨hmo, hla, fun _ z => z.elim hmm fun y => nu y.2⟩ e))
      · refine br_f (by rw [eu]; exact wm_10) (pk_eq (wm_op (yw (s + j))) 3 (fun a => fail fun g => g.2.2 e (Or.inr ⟨Or.inl a, yu⟩)) fun a => pk_eq (wm_op (yw (s + j))) 13 (fun b => fail fun g => g.2.2 e (Or.inr ⟨Or.inr b, yu⟩)) fun b => nm_r (nI_1 j) (nxt ⟨hmo, hla, fun _ z => z.elim hmm fun y => y.1.elim a b⟩ e))
    have q173 : (wm_mo (wm_op (yw (s + j))) (wm_op (yw (s + k))) → C j < c) → (wm_last (wm_op (yw (s + k))) → C j ≤ c) →
        wY_fits_173 post (wY_fits_89 post (nI s) (nI k) (nI c) (nI (s + k)) (nI (wm_op (yw (s + k)))) x7 x8 ypc ywd ymn yct yr yw yc yb yy (d + 1)) (nI s) (nI k) (nI c) (nI (s + k)) (nI (wm_op (yw (s + k)))) (nI (wm_cnt C c j)) x7 x8 (nI j) (nI (wm_op (yw (s + j)))) ypc ywd ymn yct yr yw yc yb yy := by
      intro hmo hla
      unfold wY_fits_173
      rw [hclj, hyj]
      refine ⟨hij, pk_eq (C j) c (fun e => nm_r (nI_1 _) ?_) (fun e => nm_r (nI_1 j) (nxf ⟨hmo, hla, fun z => absurd z e⟩ e))⟩
      rcases hm with ⟨em, nm⟩ | ⟨em, ym⟩
      · exact br_t em (q208 hmo hla e fun z => nm z.2)
      · exact br_f (by rw [em]; exact wm_10) (pk_eq (wm_op (yw (s + j))) 5 (fun a => fail fun g => g.2.2 e (Or.inl ⟨Or.inl a, ym⟩)) fun a => pk_eq (wm_op (yw (s + j))) 6 (fun b => fail fun g => g.2.2 e (Or.inl ⟨Or.inr b, ym⟩)) fun b => q208 hmo hla e fun z => z.1.elim a b)
    have q151 : (wm_mo (wm_op (yw (s + j))) (wm_op (yw (s + k))) → C j < c) →
        wY_fits_151 post (wY_fits_89 post (nI s) (nI k) (nI c) (nI (s + k)) (nI (wm_op (yw (s + k)))) x7 x8 ypc ywd ymn yct yr yw yc yb yy (d + 1)) (nI s) (nI k) (nI c) (nI (s + k)) (nI (wm_op (yw (s + k)))) (nI (wm_cnt C c j)) x7 x8 (nI j) (nI (wm_op (yw (s + j)))) ypc ywd ymn yct yr yw yc yb yy := by
      intro hmo
      unfold wY_fits_151
      rw [hclj, hyj]
      exact wy_last (by omega) (fun l => br_f wm_10 ⟨hij, pk_le (C j) c (fun y => q173 hmo fun _ => y) (fun y => fail fun g => by have := g.2.1 l; omega)⟩) (fun l => br_t rfl (q173 hmo fun z => absurd z l))
    have q138 : wm_mo (wm_op (yw (s + j))) (wm_op (yw (s + k))) →
        wY_fits_138 post (wY_fits_89 post (nI s) (nI k) (nI c) (nI (s + k)) (nI (wm_op (yw (s + k)))) x7 x8 ypc ywd ymn yct yr yw yc yb yy (d + 1)) (nI s) (nI k) (nI c) (nI (s + k)) (nI (wm_op (yw (s + k)))) (nI (wm_cnt C c j)) x7 x8 (nI j) (nI (wm_op (yw (s + j)))) ypc ywd ymn yct yr yw yc yb yy := by
      intro hmo
      unfold wY_fits_138
      rw [hclj, hyj]
      exact ⟨hij, pk_lt (C j) c (fun y => q151 fun _ => y) (fun y => fail fun g => by have := g.1 hmo; omega)⟩
    have q118 : ¬ (wm_op (yw (s + k)) = 5 ∧ wm_op (yw (s + j)) = 6) →
        wY_fits_118 post (wY_fits_89 post (nI s) (nI k) (nI c) (nI (s + k)) (nI (wm_op (yw (s + k)))) x7 x8 ypc ywd ymn yct yr yw yc yb yy (d + 1)) (nI s) (nI k) (nI c) (nI (s + k)) (nI (wm_op (yw (s + k)))) (nI (wm_cnt C c j)) x7 x8 (nI j) (nI (wm_op (yw (s + j)))) ypc ywd ymn yct yr yw yc yb yy := by
      intro n
      refine pk_eq _ 6 (fun e6 => pk_eq _ 5 (fun e => q138 (Or.inr ⟨e, e6⟩)) fun n5 => pk_eq _ 6 (fun e => q138 (Or.inl ⟨e, Or.inr e6⟩)) fun n6 => q151 fun z => ?_) (fun n6 => q151 fun z => ?_)
      · rcases z with ⟨a, _⟩ | ⟨a, _⟩
        · exact absurd a n6
        · exact absurd a n5
      · rcases z with ⟨a, b | b⟩ | ⟨_, b⟩
        · exact absurd ⟨b, a⟩ n
        · exact absurd b n6
        · exact absurd b n6
    refine br_f (nI_ge (by omega) (by omega)) ?_
    rw [nI_add s j]
    exact wy_op (by omega) (pk_eq _ 5 (fun e5 => pk_eq _ 6 (fun e6 => q138 (Or.inl ⟨e6, Or.inl e5⟩)) fun n6 => q118 fun z => n6 z.2) fun n5 => q118 fun z => n5 z.1)
theorem wy_f59 (hs : s + wm_len yw s ≤ 64) (hl8 : wm_len yw s ≤ 8) (hS : wm_Sch (wm_I yw s) wd C (wm_len yw s)) (hk : k < wm_len yw s) (hc : c ≤ 1000) (hC : wm_PC C k yy) (hw : ywd = nI wd) (hw4 : wd ≤ 4)
    (hm : (x7 = 0 ∧ ¬ (wm_op (yw (s + k)) = 5 ∨ wm_op (yw (s + k)) = 6)) ∨ (x7 = 1 ∧ (wm_op (yw (s + k)) = 5 ∨ wm_op (yw (s + k)) = 6)))
    (hu : (x8 = 0 ∧ ¬ (wm_op (yw (s + k)) = 3 ∨ wm_op (yw (s + k)) = 13)) ∨ (x8 = 1 ∧ (wm_op (yw (s + k)) = 3 ∨ wm_op (yw (s + k)) = 13)))
    (h1c : 1 ≤ c) (h1 : wm_Fit (wm_I yw s) wd C k c → post 1) (h0 : ¬ wm_Fit (wm_I yw s) wd C k c → post 0) :
    ∀ d r, r + d = 8 → (∀ i, i < r → wm_RF (wm_I yw s) C k c i) → wY_fits_59 post (nI s) (nI k) (nI c) (nI (s + k)) (nI (wm_op (yw (s + k)))) 0 x7 x8 ypc ywd ymn yct yr yw yc yb yy (d + 1) (nI r) := by
  intro d
  induction d with
  | zero =>
    intro r hr hR
    have : r = 8 := by omega
    subst this
    refine br_t (nI_le (a := 8) (b := 8) (Nat.le_refl 8) (by decide)) ⟨k + 1, ?_⟩
    exact wy_f89 hs hl8 hS hk hc hC hw hw4 hm hu (fun g w => h1 ((wm_Fit_i h1c).mpr ⟨hR, g, w⟩)) (fun n => h0 fun f => n ((wm_Fit_i h1c).mp f).2) k 0 (by omega) lt_0
  | succ d ih =>
    intro r hr hR
    refine br_f (nI_ge (b := 8) (by omega) (by decide)) ?_
    exact wy_rf hs hl8 hS hk (by omega) hc hC (fun y => br_f wm_10 (nm_r (nI_1 r) (ih (r + 1) (by omega) (lt_s hR y)))) (fun y => br_t rfl (h0 fun f => y (((wm_Fit_i h1c).mp f).1 r (by omega))))
theorem wy_fits (hs : s + wm_len yw s ≤ 64) (hl8 : wm_len yw s ≤ 8) (hS : wm_Sch (wm_I yw s) wd C (wm_len yw s)) (hk : k < wm_len yw s) (hc : c ≤ 1000) (hC : wm_PC C k yy) (hw : ywd = nI wd) (hw4 : wd ≤ 4)
    (h1c : 1 ≤ c) (h1 : wm_Fit (wm_I yw s) wd C k c → post 1) (h0 : ¬ wm_Fit (wm_I yw s) wd C k c → post 0) : wpY_fits post (ypc, ywd, ymn, yct, yr, yw, yc, yb, yy) (nI s) (nI k) (nI c) := by
  have hok := wm_op_lt (yw (s + k))
  have p34 : ∀ z0 : Int32, ((z0 = 0 ∧ ¬ (wm_op (yw (s + k)) = 5 ∨ wm_op (yw (s + k)) = 6)) ∨ (z0 = 1 ∧ (wm_op (yw (s + k)) = 5 ∨ wm_op (yw (s + k)) = 6))) → wY_fits_34 post (nI s) (nI k) (nI c) (nI (s + k)) (nI (wm_op (yw (s + k)))) 0 z0 ypc ywd ymn yct yr yw yc yb yy := by
    intro z0 hz
    exact pk_eq _ 3 (fun e => ⟨9, wy_f59 hs hl8 hS hk hc hC hw hw4 hz (Or.inr ⟨rfl, Or.inl e⟩) h1c h1 h0 8 0 (by omega) lt_0⟩) fun a => pk_eq _ 13 (fun e => ⟨9, wy_f59 hs hl8 hS hk hc hC hw hw4 hz (Or.inr ⟨rfl, Or.inr e⟩) h1c h1 h0 8 0 (by omega) lt_0⟩) fun b => ⟨9, wy_f59 hs hl8 hS hk hc hC hw hw4 hz (Or.inl ⟨rfl, fun z => z.elim a b⟩) h1c h1 h0 8 0 (by omega) lt_0⟩
  refine nm_r (nI_add s k) (wy_op (by omega) ?_)
  exact pk_eq _ 5 (fun e => p34 1 (Or.inr ⟨rfl, Or.inl e⟩)) fun a => pk_eq _ 6 (fun e => p34 1 (Or.inr ⟨rfl, Or.inr e⟩)) fun b => p34 0 (Or.inl ⟨rfl, fun z => z.elim a b⟩)
end FIT
theorem wy_sch16 {wd s k : Nat} {C : Nat → Nat} {post : SY → Prop} {J : Int32 → (Nat → Int32) → (Nat → Int32) → (Nat → Int32) → (Nat → Int32) → (Nat → Int32) → Prop} {x2 : Int32} (hs : s + wm_len yw s ≤ 64) (hl8 : wm_len yw s ≤ 8) (hS : wm_Sch (wm_I yw s) wd C (wm_len yw s)) (hk : k < wm_len yw s) (hC : wm_PC C k yy) (hw : ywd = nI wd) (hw4 : wd ≤ 4)
    (h : J (nI (k + 1)) yr yw yc yb (upd yy k (nI (C k)))) : ∀ d c, c + d = C k → 1 ≤ c → wY_schedule_16 post J (nI s) x2 (nI k) ypc ywd ymn yct yr yw yc yb yy (d + 1) (nI c) := by
  have hck := (wm_C1 hS hk).2
  have hik : vp_in (nI k) 8 := vp_in_nI (by omega) (by decide)
  intro d
  induction d with
  | zero =>
    intro c hd h1
    have e : c = C k := by omega
    rw [e]
    refine wy_fits hs hl8 hS hk (by omega) hC hw hw4 (by omega) (fun f => br_f wm_10 ?_) (fun f => absurd (hS k hk).1 f)
    rw [nI_clamp (n := k) (by omega)]
    exact ⟨hik, nm_e (nm_r (nI_1 k) h)⟩
  | succ d ih =>
    intro c hd h1
    exact wy_fits hs hl8 hS hk (by omega) hC hw hw4 h1 (fun f => absurd f ((hS k hk).2.1 c (by omega))) (fun f => br_t rfl (nm_r (nI_1 c) (ih (c + 1) (by omega) (by omega))))
theorem wy_sch8 {wd s : Nat} {C : Nat → Nat} {post : SY → Prop} (hs : s < 64) (hS : wm_Sch (wm_I yw s) wd C (wm_len yw s)) (hw : ywd = nI wd) (hw4 : wd ≤ 4)
    (h : ∀ yy, wm_PC C (wm_len yw s) yy → post (ypc, ywd, ymn, yct, yr, yw, yc, yb, yy)) : ∀ d k (yy : Nat → Int32), k + d = wm_len yw s → wm_PC C k yy → wY_schedule_8 post (nI s) (nI (wm_len yw s)) ypc ywd ymn yct (d + 1) (nI k) yr yw yc yb yy := by
  have hr := wm_len_r yw hs
  intro d
  induction d with
  | zero =>
    intro k yy hk hC
    have e : k = wm_len yw s := by omega
    subst e
    exact br_t (nI_le (Nat.le_refl _) (by omega)) (h yy hC)
  | succ d ih =>
    intro k yy hk hC
    have hc := wm_C1 hS (j := k) (by omega)
    refine br_f (nI_ge (by omega) (by omega)) ⟨C k - 1 + 1, ?_⟩
    exact wy_sch16 hr.2.2 hr.2.1 hS (by omega) hC hw hw4 (ih (k + 1) _ (by omega) (wm_PC_s hC)) (C k - 1) 1 (by omega) (by omega)
theorem wy_sch {wd s : Nat} {C : Nat → Nat} {post : SY → Prop} (hs : s < 64) (hS : wm_Sch (wm_I yw s) wd C (wm_len yw s)) (hw : ywd = nI wd) (hw4 : wd ≤ 4)
    (h : ∀ yy, wm_PC C (wm_len yw s) yy → post (ypc, ywd, ymn, yct, yr, yw, yc, yb, yy)) : wpY_schedule post (ypc, ywd, ymn, yct, yr, yw, yc, yb, yy) (nI s) :=
  wy_len (post := fun r_1 => ∃ n8 : Nat, wY_schedule_8 post (nI s) r_1 ypc ywd ymn yct n8 0 yr yw yc yb yy) hs ⟨wm_len yw s + 1, wy_sch8 hs hS hw hw4 h (wm_len yw s) 0 yy (by omega) (fun j hj => absurd hj (Nat.not_lt_zero j))⟩
theorem wy_time_l {wd s : Nat} {C : Nat → Nat} {post : Int32 → Prop} (hs : s < 64) (hS : wm_Sch (wm_I yw s) wd C (wm_len yw s)) (hC : wm_PC C (wm_len yw s) yy)
    (h : post (nI (wm_tm (wm_I yw s) C (wm_len yw s)))) : ∀ d k, k + d = wm_len yw s → wY_time_4 post (nI s) ypc ywd ymn yct yr yw yc yb yy (d + 1) (nI (wm_tm (wm_I yw s) C k)) (nI k) := by
  have hr := wm_len_r yw hs
  intro d
  induction d with
  | zero =>
    intro k hk
    have e : k = wm_len yw s := by omega
    rw [e]
    exact wy_len hs (br_t (nI_le (Nat.le_refl _) (by omega)) h)
  | succ d ih =>
    intro k hk
    have hc := wm_C1 hS (j := k) (by omega)
    have hl := wm_lat_r (wm_op (yw (s + k)))
    have ht := wm_tm_b hS k (by omega)
    have hI := ih (k + 1) (by omega)
    refine wy_len hs (br_f (nI_ge (by omega) (by omega)) ⟨vp_in_nI (by omega) (by decide), ?_⟩)
    rw [nI_add s k, nI_clamp (n := k) (by omega), hC k (by omega)]
    refine wy_op (by omega) (wy_lat (wm_op_lt _) (nm_r (e' := nI (C k + wm_lat (wm_op (yw (s + k))) - 1)) ?_ ?_))
    · rw [nI_add, show (1 : Int32) = nI 1 from rfl, pk_sub (by omega)]
    · refine pk_le _ _ (fun z => nm_r (nI_1 k) ?_) (fun z => nm_r (nI_1 k) ?_)
      · have e : wm_tm (wm_I yw s) C (k + 1) = wm_tm (wm_I yw s) C k := Nat.max_eq_left z
        rw [e] at hI
        exact hI
      · have e : wm_tm (wm_I yw s) C (k + 1) = C k + wm_lat (wm_op (yw (s + k))) - 1 := Nat.max_eq_right (Nat.le_of_lt z)
        rw [e] at hI
        exact hI
theorem wy_time {wd s : Nat} {C : Nat → Nat} {post : Int32 → Prop} (hs : s < 64) (hS : wm_Sch (wm_I yw s) wd C (wm_len yw s)) (hC : wm_PC C (wm_len yw s) yy)
    (h : post (nI (wm_tm (wm_I yw s) C (wm_len yw s)))) : wpY_time post (ypc, ywd, ymn, yct, yr, yw, yc, yb, yy) (nI s) :=
  ⟨wm_len yw s + 1, wy_time_l hs hS hC h (wm_len yw s) 0 (by omega)⟩
end YFITS
