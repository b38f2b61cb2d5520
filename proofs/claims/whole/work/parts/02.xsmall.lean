/-! X's small methods -/
theorem wm_10 : ¬ (1 : Int32) = 0 := by decide
theorem wm_m10 : (-1 : Int32) < 0 := by decide
theorem wm_nl {o : Nat} (h0 : o ≠ 0) (h7 : o ≠ 7) (h8 : o ≠ 8) (h : o ≤ 13) : ¬ wm_last o := by
  intro z
  rcases z with z | z | z | z <;> omega
theorem wm_64n {x : Int32} {N : Nat} (hN : N < 2 ^ 31) (h : x < 0 ∨ nI N ≤ x) {j : Nat} (hj : j < N) : x ≠ nI j := by
  intro e
  subst e
  rcases h with h | h
  · exact nI_pos (by omega) h
  · exact nI_ge hj hN h
theorem wm_ix (x : Int32) {N : Nat} (hN : N < 2 ^ 31) : (x < 0 ∨ nI N ≤ x) ∨ ∃ j, j < N ∧ x = nI j := by
  rcases pk_ix x hN with h | h | h
  · exact Or.inl (Or.inl h)
  · exact Or.inl (Or.inr h)
  · exact Or.inr h
theorem wx_adr1 {post : Int32 → Prop} {j : Nat} (hj : j < 64) (h : post 1) : wpX_isAddress post (nI j) :=
  br_f (nI_pos (by omega)) (br_f (nI_ge (b := 64) hj (by decide)) h)
theorem wx_adr0 {post : Int32 → Prop} {x : Int32} (hx : x < 0 ∨ nI 64 ≤ x) (h : post 0) : wpX_isAddress post x := by
  by_cases z : x < 0
  · exact br_t z h
  · rcases hx with hx | hx
    · exact absurd hx z
    · exact br_f z (br_t hx h)
theorem wx_op {post : Int32 → Prop} {i : Int32} (h : post (nI (wm_op i))) : wpX_opOf post i := by
  show post (i &&& 15)
  rw [wm_op_e]
  exact h
theorem wx_dOf {post : Int32 → Prop} {i : Int32} (h : post (nI (wm_d i))) : wpX_dOf post i := by
  show post ((i >>> ((4 : Int32) &&& 31)) &&& 7)
  rw [wm_d_e]
  exact h
theorem wx_aOf {post : Int32 → Prop} {i : Int32} (h : post (nI (wm_a i))) : wpX_aOf post i := by
  show post ((i >>> ((7 : Int32) &&& 31)) &&& 7)
  rw [wm_a_e]
  exact h
theorem wx_bOf {post : Int32 → Prop} {i : Int32} (h : post (nI (wm_b i))) : wpX_bOf post i := by
  show post ((i >>> ((10 : Int32) &&& 31)) &&& 7)
  rw [wm_b_e]
  exact h
theorem wx_nOf {post : Int32 → Prop} {i : Int32} (h : post (i >>> ((13 : Int32) &&& 31))) : wpX_nOf post i := h
theorem wx_ill {post : Int32 → Prop} {o : Nat} (ho : o < 16) (h1 : 13 < o → post 1) (h0 : o ≤ 13 → post 0) : wpX_isIllegal post (nI o) :=
  pk_le o 13 h0 h1
theorem wx_ends {post : Int32 → Prop} {o : Nat} (ho : o < 16) (h1 : wm_last o → post 1) (h0 : ¬ wm_last o → post 0) : wpX_endsBlock post (nI o) :=
  pk_eq o 0 (fun e => h1 (Or.inl e)) fun a => pk_eq o 7 (fun e => h1 (Or.inr (Or.inl e))) fun b => pk_eq o 8 (fun e => h1 (Or.inr (Or.inr (Or.inl e)))) fun c =>
    wx_ill ho (fun e => br_f wm_10 (h1 (Or.inr (Or.inr (Or.inr e))))) (fun e => br_t rfl (h0 (wm_nl a b c e)))
theorem wx_readsA {post : Int32 → Prop} {o : Nat} (ho : o < 16) (h1 : wm_rA o → post 1) (h0 : ¬ wm_rA o → post 0) : wpX_readsA post (nI o) :=
  wx_ends ho (fun l => br_f wm_10 (pk_eq o 8 (fun e => h1 (Or.inr e)) fun e => h0 fun z => z.elim (fun q => q l) e)) (fun l => br_t rfl (h1 (Or.inl l)))
theorem wx_readsB {post : Int32 → Prop} {o : Nat} (ho : o < 16) (h1 : wm_rB o → post 1) (h0 : ¬ wm_rB o → post 0) : wpX_readsB post (nI o) :=
  wx_ends ho (fun l => br_f wm_10 (h0 fun z => z.1 l)) (fun l => br_t rfl (pk_eq o 4 (fun e => h0 fun z => z.2.1 e) fun a => pk_eq o 5 (fun e => h0 fun z => z.2.2.1 e) fun b => pk_eq o 12 (fun e => h0 fun z => z.2.2.2 e) fun c => h1 ⟨l, a, b, c⟩))
theorem wx_writesD {post : Int32 → Prop} {o : Nat} (ho : o < 16) (h1 : wm_wD o → post 1) (h0 : ¬ wm_wD o → post 0) : wpX_writesD post (nI o) :=
  wx_ends ho (fun l => br_f wm_10 (h0 fun z => z.1 l)) (fun l => br_t rfl (pk_eq o 6 (fun e => h0 fun z => z.2 e) fun a => h1 ⟨l, a⟩))
theorem wm_lat5 : wm_lat 5 = 2 := rfl
theorem wm_lat3 : wm_lat 3 = 3 := rfl
theorem wm_lat13 : wm_lat 13 = 4 := rfl
theorem wm_lat1 {o : Nat} (h5 : o ≠ 5) (h3 : o ≠ 3) (h13 : o ≠ 13) : wm_lat o = 1 := by
  unfold wm_lat
  rw [if_neg h5, if_neg h3, if_neg h13]
theorem wx_lat {post : Int32 → Prop} {o : Nat} (ho : o < 16) (h : post (nI (wm_lat o))) : wpX_latencyOf post (nI o) := by
  refine pk_eq o 3 (fun e => ?_) fun a => pk_eq o 5 (fun e => ?_) fun b => pk_eq o 13 (fun e => ?_) fun c => ?_
  · subst e; exact h
  · subst e; exact h
  · subst e; exact h
  · rw [wm_lat1 b a c] at h; exact h
theorem wx_max {post : Int32 → Prop} {a b : Nat} (ha : a < 2 ^ 31) (hb : b < 2 ^ 31) (h : post (nI (max a b))) : wpX_greater post (nI a) (nI b) :=
  pk_le a b (fun e => by rw [Nat.max_eq_right e] at h; exact h) (fun e => by rw [Nat.max_eq_left (by omega)] at h; exact h)
theorem wx_mem {post : Int32 → Prop} {o : Nat} (ho : o < 16) (h1 : o = 5 ∨ o = 6 → post 1) (h0 : ¬ (o = 5 ∨ o = 6) → post 0) : wpX_usesMemory post (nI o) :=
  pk_eq o 5 (fun e => h1 (Or.inl e)) fun a => pk_eq o 6 (fun e => h1 (Or.inr e)) fun b => h0 fun z => z.elim a b
theorem wx_mul {post : Int32 → Prop} {o : Nat} (ho : o < 16) (h1 : o = 3 ∨ o = 13 → post 1) (h0 : ¬ (o = 3 ∨ o = 13) → post 0) : wpX_usesMultiplier post (nI o) :=
  pk_eq o 3 (fun e => h1 (Or.inl e)) fun a => pk_eq o 13 (fun e => h1 (Or.inr e)) fun b => h0 fun z => z.elim a b
theorem wx_mo {post : Int32 → Prop} {p q : Nat} (hp : p < 16) (hq : q < 16) (h1 : wm_mo p q → post 1) (h0 : ¬ wm_mo p q → post 0) : wpX_keepsMemoryOrder post (nI p) (nI q) := by
  have r13 : ¬ (p = 6 ∧ (q = 5 ∨ q = 6)) → wX_keepsMemoryOrder_13 post (nI p) (nI q) := fun n =>
    pk_eq p 5 (fun e => pk_eq q 6 (fun f => h1 (Or.inr ⟨e, f⟩)) fun f => h0 fun z => z.elim n fun y => f y.2) fun e => h0 fun z => z.elim n fun y => e y.1
  exact pk_eq p 6 (fun e => wx_mem hq (fun m => br_f wm_10 (h1 (Or.inl ⟨e, m⟩))) fun m => br_t rfl (r13 fun z => m z.2)) fun e => r13 fun z => e z.1
theorem wx_su {post : Int32 → Prop} {p q : Nat} (hp : p < 16) (hq : q < 16) (h1 : wm_su p q → post 1) (h0 : ¬ wm_su p q → post 0) : wpX_needSameUnit post (nI p) (nI q) := by
  have r14 : ¬ ((p = 5 ∨ p = 6) ∧ (q = 5 ∨ q = 6)) → wX_needSameUnit_14 post (nI p) (nI q) := fun n =>
    wx_mul hp (fun e => br_f wm_10 (wx_mul hq (fun f => br_f wm_10 (h1 (Or.inr ⟨e, f⟩))) fun f => br_t rfl (h0 fun z => z.elim n fun y => f y.2))) fun e => br_t rfl (h0 fun z => z.elim n fun y => e y.1)
  exact wx_mem hp (fun e => br_f wm_10 (wx_mem hq (fun f => br_f wm_10 (h1 (Or.inl ⟨e, f⟩))) fun f => br_t rfl (r14 fun z => f z.2))) fun e => br_t rfl (r14 fun z => e z.1)
theorem wm_bit_t {p : Prop} {d : Decidable p} (h : p) (n : Nat) : wm_bit (@decide p d) n = (1 : Int32) <<< (nI n &&& 31) := by
  unfold wm_bit
  rw [if_pos (decide_eq_true h)]
theorem wm_bit_f {p : Prop} {d : Decidable p} (h : ¬ p) (n : Nat) : wm_bit (@decide p d) n = 0 := by
  unfold wm_bit
  rw [decide_eq_false h]
  rfl
