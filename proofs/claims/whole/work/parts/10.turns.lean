/-! One instruction's turn in X's doPlanned and in Y's go -/
theorem wm_flt_v (g : Nat → Int32) (i : Int32) : wm_flt g i = 3 ∨ wm_flt g i = 2 ∨ wm_flt g i = 1 ∨ wm_flt g i = 0 := by
  unfold wm_flt
  split
  · exact Or.inl rfl
  · split
    · exact Or.inr (Or.inl rfl)
    · split
      · exact Or.inr (Or.inr (Or.inl rfl))
      · exact Or.inr (Or.inr (Or.inr rfl))
theorem wm_flt_p {g : Nat → Int32} {i : Int32} (h : ¬ wm_flt g i = 0) : ¬ wm_flt g i ≤ 0 ∧ ¬ wm_flt g i = -2 ∧ ¬ wm_flt g i < 0 := by
  rcases wm_flt_v g i with e | e | e | e
  · rw [e]; decide
  · rw [e]; decide
  · rw [e]; decide
  · exact absurd e h
section XTURN
variable {xpc xwn xkc xps xpn xpt xta xtm xbm xbf xbb xid : Int32} {xr xw xs xl xo xh xi xj xc : Nat → Int32}
variable {s N j n : Nat} {post : Int32 → SX → Prop}
theorem wx_tE (h : post (-2) (xpc, xwn, xkc, nI s, nI N, xpt, xta + xpt, xtm, xbm, xbf, xbb, xid, xr, xw, xs, xl, xo, xh, xi, xj, xc)) (hN : N ≤ 8) : wX_doPlanned_2 post (n + 1) (nI N) xpc xwn xkc (nI s) (nI N) xpt xta xtm xbm xbf xbb xid xr xw xs xl xo xh xi xj xc :=
  br_t (nI_le (Nat.le_refl N) (by omega)) (nm_e h)
theorem wx_tF (hj : j < N) (hN : N ≤ 8) (hs : s + N ≤ 64) (hf : ¬ wm_flt xr (xw (s + j)) = 0) (h : post (wm_flt xr (xw (s + j))) (nI (s + j), xwn, xkc, nI s, nI N, xpt, xta + xc j, xtm, xbm, xbf, xbb, xid, xr, xw, xs, xl, xo, xh, xi, xj, xc)) : wX_doPlanned_2 post (n + 1) (nI j) xpc xwn xkc (nI s) (nI N) xpt xta xtm xbm xbf xbb xid xr xw xs xl xo xh xi xj xc :=
  br_f (nI_ge hj (by omega)) (nm_r (nI_add s j) ⟨vp_in_nI (by omega) (by decide), nm_r (e' := xw (s + j)) (by rw [nI_clamp (by omega)]) (wx_tg (wx_flt (br_f hf ⟨vp_in_nI (by omega) (by decide), nm_r (e' := xta + xc j) (by rw [nI_clamp (by omega)]) h⟩)))⟩)
theorem wx_t0 (hj : j < N) (hN : N ≤ 8) (hs : s + N ≤ 64) (hf : wm_flt xr (xw (s + j)) = 0) (h : wX_doPlanned_82 post (wX_doPlanned_2 post n) (nI j) (nI (s + j)) (xw (s + j)) (wm_tg xr (xw (s + j))) (nI ((s + j + 1) % 64)) xpc xwn xkc (nI s) (nI N) xpt xta xtm xbm xbf xbb xid xr xw xs xl xo xh xi xj xc) : wX_doPlanned_2 post (n + 1) (nI j) xpc xwn xkc (nI s) (nI N) xpt xta xtm xbm xbf xbb xid xr xw xs xl xo xh xi xj xc := by
  refine br_f (nI_ge hj (by omega)) (nm_r (nI_add s j) ⟨vp_in_nI (by omega) (by decide), nm_r (e' := xw (s + j)) (by rw [nI_clamp (by omega)]) (wx_tg (wx_flt (br_t hf ?_)))⟩)
  rw [nI_1 (s + j)]
  refine pk_le 64 (s + j + 1) (fun z => ?_) (fun z => ?_)
  · rw [show (s + j + 1) % 64 = 0 by omega] at h
    exact h
  · rw [show (s + j + 1) % 64 = s + j + 1 by omega] at h
    exact h
theorem wx_t139 {x2 : Int32} (hj : j < 8) (h0 : ¬ xo j = 0) (h : wX_doPlanned_2 post n (nI (j + 1)) xpc xwn xkc xps xpn xpt xta xtm xbm xbf xbb xid xr xw xs xl xo xh xi xj xc) : wX_doPlanned_139 post (wX_doPlanned_2 post n) (nI j) x2 xpc xwn xkc xps xpn xpt xta xtm xbm xbf xbb xid xr xw xs xl xo xh xi xj xc := by
  unfold wX_doPlanned_139
  rw [nI_clamp (by omega)]
  exact ⟨vp_in_nI hj (by decide), br_f h0 (nm_r (nI_1 j) h)⟩
theorem wm_nn {o k : Nat} (ho : o < 16) (hk : k < 16) (h : o ≠ k) : ¬ nI o = nI k := fun z => h ((nI_eq (by omega) (by omega)).mp z)
theorem wx_tO (hj : j < N) (hN : N ≤ 8) (hs : s + N ≤ 64) (hf : wm_flt xr (xw (s + j)) = 0) (hop : xo j = nI (wm_op (xw (s + j)))) (h6 : wm_op (xw (s + j)) ≠ 6) (h0 : wm_op (xw (s + j)) ≠ 0)
    (hy : wm_op (xw (s + j)) = 7 ∨ (wm_op (xw (s + j)) = 8 ∧ xr (wm_a (xw (s + j))) = 0) → wX_doPlanned_2 post n (nI (j + 1)) (nI (wm_t ((xw (s + j)) >>> ((13 : Int32) &&& 31)))) xwn xkc (nI s) (nI N) xpt xta xtm xbm xbf xbb (xid + 1) (wm_g xr xw (xw (s + j))) xw xs xl xo xh xi xj xc)
    (hn : ¬ (wm_op (xw (s + j)) = 7 ∨ (wm_op (xw (s + j)) = 8 ∧ xr (wm_a (xw (s + j))) = 0)) → wX_doPlanned_2 post n (nI (j + 1)) (nI ((s + j + 1) % 64)) xwn xkc (nI s) (nI N) xpt xta xtm xbm xbf xbb (xid + 1) (wm_g xr xw (xw (s + j))) xw xs xl xo xh xi xj xc) :
    wX_doPlanned_2 post (n + 1) (nI j) xpc xwn xkc (nI s) (nI N) xpt xta xtm xbm xbf xbb xid xr xw xs xl xo xh xi xj xc := by
  have ho := wm_op_lt (xw (s + j))
  have e6 : ¬ xo (nI j).toNatClampNeg = 6 := by rw [nI_clamp (by omega), hop]; exact wm_nn (k := 6) ho (by decide) h6
  have e0 : ¬ xo j = 0 := by rw [hop]; exact wm_nn (k := 0) ho (by decide) h0
  have hij : vp_in (nI j) 8 := vp_in_nI (by omega) (by decide)
  refine wx_t0 hj hN hs hf ?_
  unfold wX_doPlanned_82
  exact wx_perf hf h6 (fun z => nm_e ⟨hij, br_f e6 (wx_t139 (by omega) e0 (hy z))⟩) (fun z => nm_e ⟨hij, br_f e6 (wx_t139 (by omega) e0 (hn z))⟩)
theorem wx_tS (hj : j < N) (hN : N ≤ 8) (hs : s + N ≤ 64) (hf : wm_flt xr (xw (s + j)) = 0) (hop : xo j = nI (wm_op (xw (s + j)))) (h0 : wm_op (xw (s + j)) = 0)
    (h : post 0 (nI (s + j), xwn, xkc, nI s, nI N, xpt, xta + xpt, xtm, xbm, xbf, xbb, xid + 1, xr, xw, xs, xl, xo, xh, xi, xj, xc)) : wX_doPlanned_2 post (n + 1) (nI j) xpc xwn xkc (nI s) (nI N) xpt xta xtm xbm xbf xbb xid xr xw xs xl xo xh xi xj xc := by
  have e6 : ¬ xo (nI j).toNatClampNeg = 6 := by rw [nI_clamp (by omega), hop, h0]; decide
  have e0 : xo (nI j).toNatClampNeg = 0 := by rw [nI_clamp (by omega), hop, h0]; rfl
  have hij : vp_in (nI j) 8 := vp_in_nI (by omega) (by decide)
  have eg : wm_g xr xw (xw (s + j)) = xr := wm_g0 (by omega) (fun z => z.1 (Or.inl h0))
  refine wx_t0 hj hN hs hf ?_
  unfold wX_doPlanned_82
  refine wx_perf hf (by omega) (fun z => absurd z (by omega)) (fun z => ?_)
  rw [eg]
  exact nm_e ⟨hij, br_f e6 ⟨hij, br_t e0 (nm_e h)⟩⟩
theorem wx_tT {t : Nat} (hj : j < N) (hN : N ≤ 8) (hs : s + N ≤ 64) (hf : wm_flt xr (xw (s + j)) = 0) (hop : xo j = nI (wm_op (xw (s + j)))) (h6 : wm_op (xw (s + j)) = 6) (ht : t < 64) (et : wm_tg xr (xw (s + j)) = nI t) {l : List Nat} (hl : wm_L l) (hk : xkc = nI l.length) (hK : wm_K xw xs xl l)
    (hy : s + j < t ∧ t < s + N → ∀ xs xl : Nat → Int32, wm_K (upd xw t (xr (wm_b (xw (s + j))))) xs xl (wm_keep xw t l) → post (-2) (nI ((s + j + 1) % 64), xwn, nI (wm_keep xw t l).length, nI s, nI N, xpt, xta + xc j, xtm, xbm, xbf, xbb, xid + 1, xr, upd xw t (xr (wm_b (xw (s + j)))), xs, xl, xo, xh, xi, xj, xc))
    (hn : ¬ (s + j < t ∧ t < s + N) → ∀ xs xl : Nat → Int32, wm_K (upd xw t (xr (wm_b (xw (s + j))))) xs xl (wm_keep xw t l) → wX_doPlanned_2 post n (nI (j + 1)) (nI ((s + j + 1) % 64)) xwn (nI (wm_keep xw t l).length) (nI s) (nI N) xpt xta xtm xbm xbf xbb (xid + 1) xr (upd xw t (xr (wm_b (xw (s + j))))) xs xl xo xh xi xj xc) :
    wX_doPlanned_2 post (n + 1) (nI j) xpc xwn xkc (nI s) (nI N) xpt xta xtm xbm xbf xbb xid xr xw xs xl xo xh xi xj xc := by
  have e6 : xo (nI j).toNatClampNeg = 6 := by rw [nI_clamp (by omega), hop, h6]; rfl
  have e0 : ¬ xo j = 0 := by rw [hop, h6]; decide
  have hij : vp_in (nI j) 8 := vp_in_nI (by omega) (by decide)
  refine wx_t0 hj hN hs hf ?_
  unfold wX_doPlanned_82
  rw [et]
  refine wx_perf6 h6 ht et hl hk hK fun xs' xl' hK' => nm_e ⟨hij, br_t e6 ?_⟩
  unfold wpX_isBehindInBlock
  dsimp only
  rw [nI_add s N]
  refine pk_le t (s + j) (fun z => br_t rfl (wx_t139 (by omega) e0 (hn (by omega) xs' xl' hK'))) fun z => pk_le (s + N) t (fun y => br_t rfl (wx_t139 (by omega) e0 (hn (by omega) xs' xl' hK'))) fun y => br_f wm_10 ⟨hij, nm_r (e' := xta + xc j) (by rw [nI_clamp (by omega)]) (hy ⟨z, y⟩ xs' xl' hK')⟩
end XTURN
section YTURN
variable {ypc ywd ymn yct : Int32} {yr yw yc yb yy : Nat → Int32}
variable {s N j n : Nat} {post : Int32 → SY → Prop} {x4 x5 x6 x7 x8 : Int32}
theorem wy_turn (hj : j < N) (hN : N ≤ 8) (hs : s + N ≤ 64) {l : List Nat} (hl : wm_L l) (hk : ymn = nI l.length) (hR : wm_R nI yb l)
    (hF : ¬ wm_flt yr (yw (s + j)) = 0 → post (wm_flt yr (yw (s + j))) (nI (s + j), ywd, ymn, 0, yr, yw, upd yc 0 (yc 0 + yy j), yb, yy))
    (hO : wm_flt yr (yw (s + j)) = 0 → wm_op (yw (s + j)) ≠ 6 → wm_op (yw (s + j)) ≠ 0 → wY_go_155 post (nI s) (nI N) x4 x5 x6 x7 x8 n (nI (j + 1)) ypc ywd ymn 0 (wm_g yr yw (yw (s + j))) yw (upd yc 5 (yc 5 + 1)) yb yy)
    (hS : wm_flt yr (yw (s + j)) = 0 → wm_op (yw (s + j)) = 0 → post 0 (nI (s + j), ywd, ymn, 0, yr, yw, upd (upd yc 5 (yc 5 + 1)) 0 (upd yc 5 (yc 5 + 1) 0 + x4), yb, yy))
    (hT1 : ∀ t, wm_flt yr (yw (s + j)) = 0 → wm_op (yw (s + j)) = 6 → t < 64 → wm_tg yr (yw (s + j)) = nI t → s + j < t ∧ t < s + N → ∀ yb : Nat → Int32, wm_R nI yb (wm_keep yw t l) →
      post (-1) (nI (s + j + 1), ywd, nI (wm_keep yw t l).length, 1, yr, upd yw t (yr (wm_b (yw (s + j)))), upd (upd yc 5 (yc 5 + 1)) 0 (upd yc 5 (yc 5 + 1) 0 + yy j), yb, yy))
    (hT0 : ∀ t, wm_flt yr (yw (s + j)) = 0 → wm_op (yw (s + j)) = 6 → t < 64 → wm_tg yr (yw (s + j)) = nI t → ¬ (s + j < t ∧ t < s + N) → ∀ yb : Nat → Int32, wm_R nI yb (wm_keep yw t l) →
      wY_go_155 post (nI s) (nI N) x4 x5 x6 x7 x8 n (nI (j + 1)) ypc ywd (nI (wm_keep yw t l).length) 0 yr (upd yw t (yr (wm_b (yw (s + j))))) (upd yc 5 (yc 5 + 1)) yb yy) :
    wY_go_155 post (nI s) (nI N) x4 x5 x6 x7 x8 (n + 1) (nI j) ypc ywd ymn 0 yr yw yc yb yy := by
  have ho := wm_op_lt (yw (s + j))
  have hij : vp_in (nI j) 8 := vp_in_nI (by omega) (by decide)
  have hcj : (nI j).toNatClampNeg = j := nI_clamp (by omega)
  have i6 : vp_in (0 : Int32) 6 := vp_in_nI (n := 0) (by decide) (by decide)
  refine br_f (nI_ge hj (by omega)) (nm_r (nI_add s j) (wy_op (by omega) ?_))
  rw [nI_add s N]
  refine wy_step (by omega) hs hl hk hR (fun hf => ?_) (fun hf h6 => ?_) (fun t hf h6 ht et yb' yct' hR' hc => ?_)
  · refine br_f (wm_flt_p hf).1 ⟨hij, nm_r (e' := upd yc 0 (yc 0 + yy j)) (by rw [hcj]) (hF hf)⟩
  · refine br_t (Int32.le_refl 0) (nm_e (br_t rfl (pk_eq (wm_op (yw (s + j))) 0 (fun z => ?_) (fun z => nm_r (nI_1 j) (hO hf h6 z)))))
    have eg : wm_g yr yw (yw (s + j)) = yr := wm_g0 (by omega) (fun q => q.1 (Or.inl z))
    rw [eg]
    exact br_t rfl ⟨i6, nm_e (br_t rfl (br_t rfl (hS hf z)))⟩
  · rcases hc with ⟨hb, e⟩ | ⟨hb, e⟩
    · subst e
      refine br_t (Int32.le_refl 0) (nm_e (br_f wm_10 (br_f wm_10 ⟨hij, ?_⟩)))
      rw [hcj]
      refine ⟨i6, nm_e (br_f wm_10 (br_f wm_10 ?_))⟩
      rw [nI_1 (s + j)]
      exact hT1 t hf h6 ht et hb yb' hR'
    · subst e
      exact br_t (Int32.le_refl 0) (nm_e (br_t rfl (br_f (wm_nn (k := 0) ho (by decide) (by omega)) (nm_r (nI_1 j) (hT0 t hf h6 ht et hb yb' hR')))))
end YTURN
