/-! Y's small methods, a block's length -/
section YSMALL
variable {ypc ywd ymn yct : Int32} {yr yw yc yb yy : Nat → Int32}
theorem wy_in1 {post : Int32 → Prop} {j N : Nat} (hj : j < N) (hN : N < 2 ^ 31) (h : post 1) : wpY_in post (nI j) (nI N) :=
  br_f (nI_pos (by omega)) (br_f (nI_ge hj hN) h)
theorem wy_in0 {post : Int32 → Prop} {x : Int32} {N : Nat} (hx : x < 0 ∨ nI N ≤ x) (h : post 0) : wpY_in post x (nI N) := by
  by_cases z : x < 0
  · exact br_t z h
  · rcases hx with hx | hx
    · exact absurd hx z
    · exact br_f z (br_t hx h)
theorem wy_op {post : Int32 → Prop} {at' : Nat} (ha : at' < 64) (h : post (nI (wm_op (yw at')))) : wpY_op post (ypc, ywd, ymn, yct, yr, yw, yc, yb, yy) (nI at') := by
  refine ⟨vp_in_nI ha (by decide), ?_⟩
  rw [nI_clamp (by omega), wm_op_e]
  exact h
theorem wy_d {post : Int32 → Prop} {at' : Nat} (ha : at' < 64) (h : post (nI (wm_d (yw at')))) : wpY_d post (ypc, ywd, ymn, yct, yr, yw, yc, yb, yy) (nI at') := by
  refine ⟨vp_in_nI ha (by decide), ?_⟩
  rw [nI_clamp (n := at') (by omega), wm_d_e]
  exact h
theorem wy_a {post : Int32 → Prop} {at' : Nat} (ha : at' < 64) (h : post (nI (wm_a (yw at')))) : wpY_a post (ypc, ywd, ymn, yct, yr, yw, yc, yb, yy) (nI at') := by
  refine ⟨vp_in_nI ha (by decide), ?_⟩
  rw [nI_clamp (n := at') (by omega), wm_a_e]
  exact h
theorem wy_b {post : Int32 → Prop} {at' : Nat} (ha : at' < 64) (h : post (nI (wm_b (yw at')))) : wpY_b post (ypc, ywd, ymn, yct, yr, yw, yc, yb, yy) (nI at') := by
  refine ⟨vp_in_nI ha (by decide), ?_⟩
  rw [nI_clamp (n := at') (by omega), wm_b_e]
  exact h
theorem wy_n {post : Int32 → Prop} {at' : Nat} (ha : at' < 64) (h : post ((yw at') >>> ((13 : Int32) &&& 31))) : wpY_n post (ypc, ywd, ymn, yct, yr, yw, yc, yb, yy) (nI at') := by
  refine ⟨vp_in_nI ha (by decide), ?_⟩
  rw [nI_clamp (n := at') (by omega)]
  exact h
theorem wy_last {post : Int32 → Prop} {at' : Nat} (ha : at' < 64) (h1 : wm_last (wm_op (yw at')) → post 1) (h0 : ¬ wm_last (wm_op (yw at')) → post 0) : wpY_isLast post (ypc, ywd, ymn, yct, yr, yw, yc, yb, yy) (nI at') := by
  have ho := wm_op_lt (yw at')
  unfold wpY_isLast
  exact wy_op ha (pk_eq _ 0 (fun e => h1 (Or.inl e)) fun a => wy_op ha (pk_eq _ 7 (fun e => h1 (Or.inr (Or.inl e))) fun b => wy_op ha (pk_eq _ 8 (fun e => h1 (Or.inr (Or.inr (Or.inl e)))) fun c => wy_op ha (pk_le _ 13 (fun e => h0 (wm_nl a b c e)) fun e => h1 (Or.inr (Or.inr (Or.inr e)))))))
theorem wm_lf1 (w : Nat → Int32) (s : Nat) : wm_lf w 1 s = 1 := by
  rw [wm_lf_s]
  split <;> rfl
theorem wy_len_l {post : Int32 → Prop} {s : Nat} (hs : s < 64) : ∀ f k, k + f = 7 → s + k < 64 → wm_len yw s = k + wm_lf yw (f + 1) (s + k) → post (nI (wm_len yw s)) → wY_length_2 post (nI s) ypc ywd ymn yct yr yw yc yb yy (f + 1) (nI (k + 1)) := by
  intro f
  induction f with
  | zero =>
    intro k hk h6 e h
    have e7 : k = 7 := by omega
    subst e7
    rw [wm_lf1] at e
    rw [e] at h
    exact br_t (nI_le (a := 8) (b := 8) (Nat.le_refl 8) (by decide)) h
  | succ f ih =>
    intro k hk h6 e h
    refine br_f (nI_ge (b := 8) (by omega) (by decide)) ?_
    rw [nI_add, show s + (k + 1) = s + k + 1 from rfl, nI_pred]
    refine pk_le 63 (s + k) (fun z => ?_) (fun z => wy_last h6 (fun hl => br_f wm_10 ?_) (fun hl => br_t rfl (nm_r (nI_1 _) ?_)))
    · rw [e, wm_lf_s, if_neg (fun y => by have := y.1; omega)] at h
      exact h
    · rw [e, wm_lf_s, if_neg (fun y => y.2 hl)] at h
      exact h
    · refine ih (k + 1) (by omega) (by omega) ?_ h
      rw [e, wm_lf_s, if_pos ⟨by omega, hl⟩, show s + (k + 1) = s + k + 1 from rfl]
      omega
theorem wy_len {post : Int32 → Prop} {s : Nat} (hs : s < 64) (h : post (nI (wm_len yw s))) : wpY_length post (ypc, ywd, ymn, yct, yr, yw, yc, yb, yy) (nI s) :=
  ⟨8, wy_len_l hs 7 0 rfl hs (by rw [Nat.zero_add]; rfl) h⟩
theorem wy_lat {post : Int32 → Prop} {o : Nat} (ho : o < 16) (h : post (nI (wm_lat o))) : wpY_latency post (nI o) := by
  refine pk_eq o 5 (fun e => ?_) fun a => pk_eq o 3 (fun e => ?_) fun b => pk_eq o 13 (fun e => ?_) fun c => ?_
  · subst e; exact h
  · subst e; exact h
  · subst e; exact h
  · rw [wm_lat1 a b c] at h; exact h
theorem wm_wD_i {o : Nat} : wm_wD o ↔ ((1 ≤ o ∧ o ≤ 5) ∨ (9 ≤ o ∧ o ≤ 13)) := by
  show (¬ (o = 0 ∨ o = 7 ∨ o = 8 ∨ 13 < o) ∧ o ≠ 6) ↔ _
  omega
theorem wm_rA_i {o : Nat} : wm_rA o ↔ (o ≠ 0 ∧ o ≠ 7 ∧ o ≤ 13) := by
  show (¬ (o = 0 ∨ o = 7 ∨ o = 8 ∨ 13 < o) ∨ o = 8) ↔ _
  omega
theorem wm_rB_i {o : Nat} : wm_rB o ↔ ((o ≠ 0 ∧ o ≠ 7 ∧ o ≤ 13) ∧ o ≠ 4 ∧ o ≠ 5 ∧ o ≠ 8 ∧ o ≠ 12) := by
  show (¬ (o = 0 ∨ o = 7 ∨ o = 8 ∨ 13 < o) ∧ o ≠ 4 ∧ o ≠ 5 ∧ o ≠ 12) ↔ _
  omega
theorem wy_writes {post : Int32 → Prop} {at' r : Nat} (ha : at' < 64) (hr : r < 8) (h1 : wm_Wr (yw at') r → post 1) (h0 : ¬ wm_Wr (yw at') r → post 0) : wpY_writes post (ypc, ywd, ymn, yct, yr, yw, yc, yb, yy) (nI at') (nI r) := by
  have ho := wm_op_lt (yw at')
  have hd := wm_d_lt (yw at')
  have w25 : wm_d (yw at') = r → ¬ (1 ≤ wm_op (yw at') ∧ wm_op (yw at') ≤ 5) → wY_writes_25 post (nI (wm_op (yw at'))) ypc ywd ymn yct yr yw yc yb yy := fun e n =>
    pk_lt _ 9 (fun z => h0 fun q => by have := wm_wD_i.mp q.1; omega) fun z => pk_lt 13 (wm_op (yw at')) (fun y => h0 fun q => by have := wm_wD_i.mp q.1; omega) fun y => h1 ⟨wm_wD_i.mpr (Or.inr ⟨z, y⟩), e⟩
  unfold wpY_writes
  exact wy_op ha (wy_d ha (pk_eq _ r (fun e => pk_lt _ 1 (fun z => w25 e (by omega)) fun z => pk_le _ 5 (fun y => h1 ⟨wm_wD_i.mpr (Or.inl ⟨z, y⟩), e⟩) fun y => w25 e (by omega)) fun e => h0 fun z => e z.2))
theorem wy_reads {post : Int32 → Prop} {at' r : Nat} (ha : at' < 64) (hr : r < 8) (h1 : wm_Rd (yw at') r → post 1) (h0 : ¬ wm_Rd (yw at') r → post 0) : wpY_reads post (ypc, ywd, ymn, yct, yr, yw, yc, yb, yy) (nI at') (nI r) := by
  have ho := wm_op_lt (yw at')
  have hA := wm_a_lt (yw at')
  have hB := wm_b_lt (yw at')
  have q0 : ¬ wm_Rd (yw at') r → wY_reads_77 post (nI at') (nI r) 0 ypc ywd ymn yct yr yw yc yb yy := fun n => br_t rfl (h0 n)
  have q1 : wm_rB (wm_op (yw at')) → ¬ (wm_rA (wm_op (yw at')) ∧ wm_a (yw at') = r) → wY_reads_77 post (nI at') (nI r) 1 ypc ywd ymn yct yr yw yc yb yy := fun hb n =>
    br_f wm_10 (wy_b ha (pk_eq _ r (fun e => h1 (Or.inr ⟨hb, e⟩)) fun e => h0 fun z => z.elim n fun y => e y.2))
  have p60 : wm_rA (wm_op (yw at')) → ¬ wm_rB (wm_op (yw at')) → wY_reads_60 post (nI at') (nI r) 1 ypc ywd ymn yct yr yw yc yb yy := fun a n =>
    br_f wm_10 (wy_a ha (pk_eq _ r (fun e => h1 (Or.inl ⟨a, e⟩)) fun e => q0 fun z => z.elim (fun y => e y.2) fun y => n y.1))
  have p26 : ¬ wm_rA (wm_op (yw at')) → wY_reads_26 post (nI at') (nI r) (nI (wm_op (yw at'))) ypc ywd ymn yct yr yw yc yb yy := fun n => by
    have nb : ¬ wm_rB (wm_op (yw at')) := fun z => n (wm_rA_i.mpr (wm_rB_i.mp z).1)
    exact br_t rfl (br_t rfl (q0 fun z => z.elim (fun y => n y.1) fun y => nb y.1))
  unfold wpY_reads
  refine wy_op ha (pk_eq _ 0 (fun e => p26 fun z => (wm_rA_i.mp z).1 e) fun n0 => pk_eq _ 7 (fun e => p26 fun z => (wm_rA_i.mp z).2.1 e) fun n7 => pk_lt 13 (wm_op (yw at')) (fun e => p26 fun z => by have := (wm_rA_i.mp z).2.2; omega) fun n13 => br_f wm_10 ?_)
  have a : wm_rA (wm_op (yw at')) := wm_rA_i.mpr ⟨n0, n7, n13⟩
  refine pk_eq _ 4 (fun e => p60 a fun z => (wm_rB_i.mp z).2.1 e) fun n4 => pk_eq _ 5 (fun e => p60 a fun z => (wm_rB_i.mp z).2.2.1 e) fun n5 => pk_eq _ 8 (fun e => p60 a fun z => (wm_rB_i.mp z).2.2.2.1 e) fun n8 => pk_eq _ 12 (fun e => p60 a fun z => (wm_rB_i.mp z).2.2.2.2 e) fun n12 => ?_
  exact br_f wm_10 (wy_a ha (pk_eq _ r (fun e => h1 (Or.inl ⟨a, e⟩)) fun e => q1 (wm_rB_i.mpr ⟨⟨n0, n7, n13⟩, n4, n5, n8, n12⟩) fun z => e z.2))
end YSMALL
