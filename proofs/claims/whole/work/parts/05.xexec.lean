/-! One instruction: what it does, and X's walk of it -/
def wm_tg (g : Nat → Int32) (i : Int32) : Int32 := g (wm_a i) + (i >>> ((13 : Int32) &&& 31))
def wm_flt (g : Nat → Int32) (i : Int32) : Int32 := if 13 < wm_op i then 3 else if wm_op i = 13 ∧ g (wm_b i) = 0 then 2 else if (wm_op i = 5 ∨ wm_op i = 6) ∧ (wm_tg g i < 0 ∨ nI 64 ≤ wm_tg g i) then 1 else 0
def wm_res (o : Nat) (x y n : Int32) : Int32 := if o = 1 then x + y else if o = 2 then x - y else if o = 3 then x * y else if o = 4 then x + n else if o = 9 then (if y ≤ x then 0 else 1) else if o = 10 then x &&& y else if o = 11 then x ^^^ y else if o = 12 then x <<< ((n &&& 31) &&& 31) else x / y
theorem wm_res9t {x y n : Int32} (h : y ≤ x) : wm_res 9 x y n = 0 := by
  show (if y ≤ x then (0 : Int32) else 1) = 0
  rw [if_pos h]
theorem wm_res9f {x y n : Int32} (h : ¬ y ≤ x) : wm_res 9 x y n = 1 := by
  show (if y ≤ x then (0 : Int32) else 1) = 1
  rw [if_neg h]
def wm_g (g w : Nat → Int32) (i : Int32) : Nat → Int32 := if wm_op i = 5 then upd g (wm_d i) (w (wm_tg g i).toNatClampNeg) else if wm_wD (wm_op i) then upd g (wm_d i) (wm_res (wm_op i) (g (wm_a i)) (g (wm_b i)) (i >>> ((13 : Int32) &&& 31))) else g
theorem wm_g5 {g w : Nat → Int32} {i : Int32} (h : wm_op i = 5) : wm_g g w i = upd g (wm_d i) (w (wm_tg g i).toNatClampNeg) := if_pos h
theorem wm_gD {g w : Nat → Int32} {i : Int32} (h : wm_op i ≠ 5) (h2 : wm_wD (wm_op i)) : wm_g g w i = upd g (wm_d i) (wm_res (wm_op i) (g (wm_a i)) (g (wm_b i)) (i >>> ((13 : Int32) &&& 31))) := by
  unfold wm_g
  rw [if_neg h, if_pos h2]
theorem wm_g0 {g w : Nat → Int32} {i : Int32} (h : wm_op i ≠ 5) (h2 : ¬ wm_wD (wm_op i)) : wm_g g w i = g := by
  unfold wm_g
  rw [if_neg h, if_neg h2]
theorem wm_flt3 {g : Nat → Int32} {i : Int32} (h : 13 < wm_op i) : wm_flt g i = 3 := if_pos h
theorem wm_flt2 {g : Nat → Int32} {i : Int32} (h : wm_op i = 13) (h2 : g (wm_b i) = 0) : wm_flt g i = 2 := by
  unfold wm_flt
  rw [if_neg (by omega), if_pos ⟨h, h2⟩]
theorem wm_flt1 {g : Nat → Int32} {i : Int32} (h : wm_op i = 5 ∨ wm_op i = 6) (h2 : wm_tg g i < 0 ∨ nI 64 ≤ wm_tg g i) : wm_flt g i = 1 := by
  unfold wm_flt
  rw [if_neg (by omega), if_neg (fun z => by have := z.1; omega), if_pos ⟨h, h2⟩]
theorem wm_flt0 {g : Nat → Int32} {i : Int32} (h : wm_op i ≤ 13) (h2 : ¬ (wm_op i = 13 ∧ g (wm_b i) = 0)) (h3 : ¬ ((wm_op i = 5 ∨ wm_op i = 6) ∧ (wm_tg g i < 0 ∨ nI 64 ≤ wm_tg g i))) : wm_flt g i = 0 := by
  unfold wm_flt
  rw [if_neg (by omega), if_neg h2, if_neg h3]
theorem wm_30 : ¬ (3 : Int32) = 0 := by decide
theorem wm_20 : ¬ (2 : Int32) = 0 := by decide
theorem wm_flt_a {g : Nat → Int32} {i : Int32} (h : wm_flt g i = 0) : wm_op i ≤ 13 := by
  by_cases z : 13 < wm_op i
  · rw [wm_flt3 z] at h
    exact absurd h wm_30
  · omega
theorem wm_flt_b {g : Nat → Int32} {i : Int32} (h : wm_flt g i = 0) (e : wm_op i = 13) : ¬ g (wm_b i) = 0 := by
  intro z
  rw [wm_flt2 e z] at h
  exact absurd h wm_20
theorem wm_flt_c {g : Nat → Int32} {i : Int32} (h : wm_flt g i = 0) (e : wm_op i = 5 ∨ wm_op i = 6) : ∃ j, j < 64 ∧ wm_tg g i = nI j := by
  rcases wm_ix (wm_tg g i) (N := 64) (by decide) with z | z
  · rw [wm_flt1 e z] at h
    exact absurd h wm_10
  · exact z
section XEXEC
variable {xpc xwn xkc xps xpn xpt xta xtm xbm xbf xbb xid : Int32} {xr xw xs xl xo xh xi xj xc : Nat → Int32}
theorem wx_tg {post : Int32 → Prop} {i : Int32} (h : post (wm_tg xr i)) : wpX_targetOf post (xpc, xwn, xkc, xps, xpn, xpt, xta, xtm, xbm, xbf, xbb, xid, xr, xw, xs, xl, xo, xh, xi, xj, xc) i := by
  unfold wpX_targetOf
  refine wx_aOf ⟨vp_in_nI (wm_a_lt i) (by decide), ?_⟩
  rw [nI_clamp (Nat.lt_trans (wm_a_lt i) (by decide))]
  exact h
theorem wx_flt {post : Int32 → Prop} {i : Int32} (h : post (wm_flt xr i)) : wpX_faultOf post (xpc, xwn, xkc, xps, xpn, xpt, xta, xtm, xbm, xbf, xbb, xid, xr, xw, xs, xl, xo, xh, xi, xj, xc) i := by
  have ho := wm_op_lt i
  have r40 : wm_op i ≤ 13 → ¬ (wm_op i = 13 ∧ xr (wm_b i) = 0) → wX_faultOf_40 post (nI (wm_op i)) (wm_tg xr i) xpc xwn xkc xps xpn xpt xta xtm xbm xbf xbb xid xr xw xs xl xo xh xi xj xc := by
    intro h1 h2
    refine wx_mem ho (fun m => br_f wm_10 ?_) (fun m => br_t rfl ?_)
    · rcases wm_ix (wm_tg xr i) (N := 64) (by decide) with z | ⟨j, hj, e⟩
      · rw [wm_flt1 m z] at h
        exact wx_adr0 z (br_t rfl h)
      · rw [wm_flt0 h1 h2 (fun y => by rcases y.2 with q | q <;> rw [e] at q <;> first | exact nI_pos (by omega) q | exact nI_ge hj (by decide) q)] at h
        rw [e]
        exact wx_adr1 hj (br_f wm_10 h)
    · rw [wm_flt0 h1 h2 (fun y => m y.1)] at h
      exact h
  unfold wpX_faultOf
  refine wx_op (wx_tg (wx_ill ho (fun z => br_f wm_10 ?_) (fun z => br_t rfl (pk_eq (wm_op i) 13 (fun e => wx_bOf ⟨vp_in_nI (wm_b_lt i) (by decide), ?_⟩) (fun e => r40 z fun y => e y.1)))))
  · rw [wm_flt3 z] at h
    exact h
  · rw [nI_clamp (Nat.lt_trans (wm_b_lt i) (by decide))]
    refine br_c (fun y => ?_) (fun y => r40 z fun q => y q.2)
    rw [wm_flt2 e y] at h
    exact h
theorem wx_res {post : Int32 → Prop} {i : Int32} (hD : wm_wD (wm_op i)) (h5 : wm_op i ≠ 5) (hz : wm_op i = 13 → ¬ xr (wm_b i) = 0) (h : post (wm_res (wm_op i) (xr (wm_a i)) (xr (wm_b i)) (i >>> ((13 : Int32) &&& 31)))) : wpX_resultOf post (xpc, xwn, xkc, xps, xpn, xpt, xta, xtm, xbm, xbf, xbb, xid, xr, xw, xs, xl, xo, xh, xi, xj, xc) i := by
  have ho := wm_op_lt i
  have h0 : wm_op i ≠ 0 := fun z => hD.1 (Or.inl z)
  have h7 : wm_op i ≠ 7 := fun z => hD.1 (Or.inr (Or.inl z))
  have h8 : wm_op i ≠ 8 := fun z => hD.1 (Or.inr (Or.inr (Or.inl z)))
  have h13 : ¬ 13 < wm_op i := fun z => hD.1 (Or.inr (Or.inr (Or.inr z)))
  have h6 : wm_op i ≠ 6 := hD.2
  unfold wpX_resultOf
  refine wx_aOf ⟨vp_in_nI (wm_a_lt i) (by decide), nm_r (e' := xr (wm_a i)) (by rw [nI_clamp (Nat.lt_trans (wm_a_lt i) (by decide))]) (wx_bOf ⟨vp_in_nI (wm_b_lt i) (by decide), nm_r (e' := xr (wm_b i)) (by rw [nI_clamp (Nat.lt_trans (wm_b_lt i) (by decide))]) (wx_nOf (wx_op ?_))⟩)⟩
  refine pk_lt (wm_op i) 1 (fun e => absurd e (by omega)) fun _ => pk_lt 13 (wm_op i) (fun e => absurd e h13) fun _ => ?_
  refine pk_eq (wm_op i) 1 (fun e => by rw [e] at h; exact h) fun n1 => pk_eq (wm_op i) 2 (fun e => by rw [e] at h; exact h) fun n2 => ?_
  refine pk_eq (wm_op i) 3 (fun e => by rw [e] at h; exact h) fun n3 => pk_eq (wm_op i) 4 (fun e => by rw [e] at h; exact h) fun n4 => ?_
  refine pk_eq (wm_op i) 5 (fun e => absurd e h5) fun _ => pk_eq (wm_op i) 6 (fun e => absurd e h6) fun _ => pk_eq (wm_op i) 7 (fun e => absurd e h7) fun _ => pk_eq (wm_op i) 8 (fun e => absurd e h8) fun _ => ?_
  refine pk_eq (wm_op i) 9 (fun e => br_c (fun z => by rw [e, wm_res9t z] at h; exact h) (fun z => by rw [e, wm_res9f z] at h; exact h)) fun n9 => ?_
  refine pk_eq (wm_op i) 10 (fun e => by rw [e] at h; exact h) fun n10 => pk_eq (wm_op i) 11 (fun e => by rw [e] at h; exact h) fun n11 => pk_eq (wm_op i) 12 (fun e => by rw [e] at h; exact h) fun n12 => ?_
  exact pk_eq (wm_op i) 13 (fun e => br_f (hz e) ⟨hz e, by rw [e] at h; exact h⟩) fun _ => trivial
theorem wx_p62 {post : SX → Prop} {i : Int32} (h : post (nI (wm_t (i >>> ((13 : Int32) &&& 31))), xwn, xkc, xps, xpn, xpt, xta, xtm, xbm, xbf, xbb, xid, xr, xw, xs, xl, xo, xh, xi, xj, xc)) : wX_perform_62 post i xpc xwn xkc xps xpn xpt xta xtm xbm xbf xbb xid xr xw xs xl xo xh xi xj xc :=
  wx_nOf (nm_r (wm_t_e _) h)
theorem wx_p76 {post : SX → Prop} {i : Int32} (hf : wm_flt xr i = 0) (h : post (xpc, xwn, xkc, xps, xpn, xpt, xta, xtm, xbm, xbf, xbb, xid, wm_g xr xw i, xw, xs, xl, xo, xh, xi, xj, xc)) : wX_perform_76 post i (nI (wm_op i)) (wm_tg xr i) xpc xwn xkc xps xpn xpt xta xtm xbm xbf xbb xid xr xw xs xl xo xh xi xj xc := by
  have ho := wm_op_lt i
  have hd : vp_in (nI (wm_d i)) 8 := vp_in_nI (wm_d_lt i) (by decide)
  have hdc : (nI (wm_d i)).toNatClampNeg = wm_d i := nI_clamp (Nat.lt_trans (wm_d_lt i) (by decide))
  refine pk_eq (wm_op i) 5 (fun e => wx_dOf ?_) (fun e => wx_writesD ho (fun m => br_f wm_10 (wx_dOf ?_)) (fun m => br_t rfl ?_))
  · obtain ⟨j, hj, ej⟩ := wm_flt_c hf (Or.inl e)
    rw [wm_g5 e] at h
    rw [hdc]
    exact ⟨by rw [ej]; exact vp_in_nI hj (by decide), hd, nm_e h⟩
  · rw [wm_gD e m] at h
    refine wx_res m e (wm_flt_b hf) ?_
    rw [hdc]
    exact ⟨hd, nm_e h⟩
  · rw [wm_g0 e m] at h
    exact h
theorem wx_perf {post : SX → Prop} {i : Int32} (hf : wm_flt xr i = 0) (h6 : wm_op i ≠ 6)
    (hj : wm_op i = 7 ∨ (wm_op i = 8 ∧ xr (wm_a i) = 0) → post (nI (wm_t (i >>> ((13 : Int32) &&& 31))), xwn, xkc, xps, xpn, xpt, xta, xtm, xbm, xbf, xbb, xid, wm_g xr xw i, xw, xs, xl, xo, xh, xi, xj, xc))
    (hn : ¬ (wm_op i = 7 ∨ (wm_op i = 8 ∧ xr (wm_a i) = 0)) → post (xpc, xwn, xkc, xps, xpn, xpt, xta, xtm, xbm, xbf, xbb, xid, wm_g xr xw i, xw, xs, xl, xo, xh, xi, xj, xc)) : wpX_perform post (xpc, xwn, xkc, xps, xpn, xpt, xta, xtm, xbm, xbf, xbb, xid, xr, xw, xs, xl, xo, xh, xi, xj, xc) i := by
  have ho := wm_op_lt i
  unfold wpX_perform
  refine wx_op (wx_bOf (wx_tg (pk_eq (wm_op i) 6 (fun e => absurd e h6) fun _ => pk_eq (wm_op i) 7 (fun e => wx_p62 ?_) fun n7 => pk_eq (wm_op i) 8 (fun e => wx_aOf ⟨vp_in_nI (wm_a_lt i) (by decide), ?_⟩) fun n8 => wx_p76 hf (hn fun z => z.elim n7 fun y => n8 y.1))))
  · have := hj (Or.inl e)
    rw [wm_g0 (by omega) (fun z => z.1 (Or.inr (Or.inl e)))] at this
    exact this
  · rw [nI_clamp (Nat.lt_trans (wm_a_lt i) (by decide))]
    refine br_c (fun y => wx_p62 ?_) (fun y => wx_p76 hf (hn fun z => z.elim n7 fun q => y q.2))
    have := hj (Or.inr ⟨e, y⟩)
    rw [wm_g0 (by omega) (fun z => z.1 (Or.inr (Or.inr (Or.inl e))))] at this
    exact this
theorem wx_perf6 {post : SX → Prop} {i : Int32} {t : Nat} (h6 : wm_op i = 6) (ht : t < 64) (e : wm_tg xr i = nI t) {l : List Nat} (hl : wm_L l) (hk : xkc = nI l.length) (hK : wm_K xw xs xl l)
    (h : ∀ xs xl : Nat → Int32, wm_K (upd xw t (xr (wm_b i))) xs xl (wm_keep xw t l) → post (xpc, xwn, nI (wm_keep xw t l).length, xps, xpn, xpt, xta, xtm, xbm, xbf, xbb, xid, xr, upd xw t (xr (wm_b i)), xs, xl, xo, xh, xi, xj, xc)) : wpX_perform post (xpc, xwn, xkc, xps, xpn, xpt, xta, xtm, xbm, xbf, xbb, xid, xr, xw, xs, xl, xo, xh, xi, xj, xc) i := by
  have ho := wm_op_lt i
  unfold wpX_perform
  refine wx_op (wx_bOf (wx_tg (pk_eq (wm_op i) 6 (fun _ => ⟨vp_in_nI (wm_b_lt i) (by decide), ?_⟩) fun n => absurd h6 n)))
  rw [nI_clamp (Nat.lt_trans (wm_b_lt i) (by decide)), e]
  exact wx_chg ht hl hk hK h
end XEXEC
