/-! X: the kept blocks -/
section XKEPT
variable {xpc xwn xkc xps xpn xpt xta xtm xbm xbf xbb xid : Int32} {xr xw xs xl xo xh xi xj xc : Nat → Int32}
theorem wm_inj {a b : Nat} (ha : a < 64) (hb : b < 64) (h : a ≠ b) : ¬ nI a = nI b := fun z => h ((nI_eq (by omega) (by omega)).mp z)
theorem wx_pl_l {post : Int32 → Prop} {s : Nat} (hs : s < 64) {A B : List Nat} (hl : wm_L (A ++ B)) (hk : xkc = nI (A ++ B).length) (hR : wm_R nI xs (A ++ B)) (hA : s ∉ A) {f : Nat} (h : wX_placeAmongKept_2 post (nI s) xpc xwn xkc xps xpn xpt xta xtm xbm xbf xbb xid xr xw xs xl xo xh xi xj xc f (nI A.length)) :
    ∀ d i, i + d = A.length → wX_placeAmongKept_2 post (nI s) xpc xwn xkc xps xpn xpt xta xtm xbm xbf xbb xid xr xw xs xl xo xh xi xj xc (d + f) (nI i) := by
  have hlen : A.length + B.length ≤ 4 := by have := hl.1; rw [List.length_append] at this; exact this
  intro d
  induction d with
  | zero =>
    intro i hi
    have : i = A.length := by omega
    rw [this, Nat.zero_add]
    exact h
  | succ d ih =>
    intro i hi
    have hi' : i < A.length := by omega
    rw [show d + 1 + f = (d + f) + 1 by omega]
    have e : xs i = nI A[i] := wm_R_i (wm_R_app.mp hR).1 hi'
    have hm : A[i] ∈ A := List.getElem_mem hi'
    have hne : A[i] ≠ s := fun z => hA (z ▸ hm)
    refine br_f ?_ ⟨vp_in_nI (by omega) (by decide), br_f ?_ (nm_r (nI_1 i) (ih (i + 1) (by omega)))⟩
    · rw [hk, List.length_append]
      exact nI_ge (by omega) (by omega)
    · rw [nI_clamp (by omega), e]
      exact wm_inj (hl.2 _ (List.mem_append_left B hm)) hs hne
theorem wx_pl_f {post : Int32 → Prop} {s : Nat} (hs : s < 64) {A B : List Nat} (hl : wm_L (A ++ s :: B)) (hk : xkc = nI (A ++ s :: B).length) (hR : wm_R nI xs (A ++ s :: B)) (hA : s ∉ A) (h : post (nI A.length)) : wpX_placeAmongKept post (xpc, xwn, xkc, xps, xpn, xpt, xta, xtm, xbm, xbf, xbb, xid, xr, xw, xs, xl, xo, xh, xi, xj, xc) (nI s) := by
  have hlen : A.length + (B.length + 1) ≤ 4 := by have := hl.1; rw [List.length_append, List.length_cons] at this; exact this
  have e : xs A.length = nI s := ((wm_R_cons.mp (wm_R_app.mp hR).2)).1
  refine ⟨A.length + 1, wx_pl_l hs hl hk hR hA ?_ A.length 0 (by omega)⟩
  refine br_f ?_ ⟨vp_in_nI (by omega) (by decide), br_t ?_ h⟩
  · rw [hk, List.length_append, List.length_cons]
    exact nI_ge (by omega) (by omega)
  · rw [nI_clamp (by omega), e]
theorem wx_pl_n {post : Int32 → Prop} {s : Nat} (hs : s < 64) {l : List Nat} (hl : wm_L l) (hk : xkc = nI l.length) (hR : wm_R nI xs l) (hA : s ∉ l) (h : post (-1)) : wpX_placeAmongKept post (xpc, xwn, xkc, xps, xpn, xpt, xta, xtm, xbm, xbf, xbb, xid, xr, xw, xs, xl, xo, xh, xi, xj, xc) (nI s) := by
  have hl' : wm_L (l ++ []) := by rw [List.append_nil]; exact hl
  refine ⟨l.length + 1, wx_pl_l (B := []) hs hl' (by rw [List.append_nil]; exact hk) (by rw [List.append_nil]; exact hR) hA ?_ l.length 0 (by omega)⟩
  refine br_t ?_ h
  rw [hk]
  exact nI_le (Nat.le_refl _) (by have := hl.1; omega)

/-! putFirst -/
theorem wx_pf_l {post : SX → Prop} {p : Nat} (hp : p < 4) {ks kl : Nat → Int32}
    (h : ∀ xs xl : Nat → Int32, (∀ i, xs i = if i = 0 then xps else if i ≤ p then ks (i - 1) else ks i) → (∀ i, xl i = if i = 0 then xpn else if i ≤ p then kl (i - 1) else kl i) → post (xpc, xwn, xkc, xps, xpn, xpt, xta, xtm, xbm, xbf, xbb, xid, xr, xw, xs, xl, xo, xh, xi, xj, xc)) :
    ∀ k (xs xl : Nat → Int32), k ≤ p → (∀ i, xs i = if k < i ∧ i ≤ p then ks (i - 1) else ks i) → (∀ i, xl i = if k < i ∧ i ≤ p then kl (i - 1) else kl i) → wX_putFirst_2 post xpc xwn xkc xps xpn xpt xta xtm xbm xbf xbb xid (k + 1) (nI k) xr xw xs xl xo xh xi xj xc := by
  have st : ∀ (k : Nat) (a c : Nat → Int32), k + 1 ≤ p → (∀ i, a i = if k + 1 < i ∧ i ≤ p then c (i - 1) else c i) → (∀ i, upd a (k + 1) (a k) i = if k < i ∧ i ≤ p then c (i - 1) else c i) := by
    intro k a c hk ha i
    by_cases e : i = k + 1
    · rw [e, pk_us, ha, if_neg (by omega), if_pos (by omega)]
      rfl
    · rw [pk_un e, ha]
      by_cases z : k < i ∧ i ≤ p
      · rw [if_pos (by omega), if_pos z]
      · rw [if_neg (by omega), if_neg z]
  have en : ∀ (a c : Nat → Int32) (v : Int32), (∀ i, a i = if 0 < i ∧ i ≤ p then c (i - 1) else c i) → (∀ i, upd a 0 v i = if i = 0 then v else if i ≤ p then c (i - 1) else c i) := by
    intro a c v ha i
    by_cases e : i = 0
    · rw [e, pk_us, if_pos rfl]
    · rw [pk_un e, ha, if_neg e]
      by_cases z : i ≤ p
      · rw [if_pos (by omega), if_pos z]
      · rw [if_neg (by omega), if_neg z]
  intro k
  induction k with
  | zero =>
    intro xs xl _ h1 h2
    exact br_t (nI_le (a := 0) (b := 0) (Nat.le_refl 0) (by decide)) (nm_e (nm_e (h _ _ (en _ _ _ h1) (en _ _ _ h2))))
  | succ k ih =>
    intro xs xl hk h1 h2
    have i1 : vp_in (nI (k + 1)) 4 := vp_in_nI (by omega) (by decide)
    have i0 : vp_in (nI k) 4 := vp_in_nI (by omega) (by decide)
    refine br_f (nI_nle (by omega) (by omega)) ?_
    rw [nI_pred, nI_clamp (n := k + 1) (by omega), nI_clamp (n := k) (by omega)]
    exact ⟨i0, i1, nm_e ⟨i0, i1, nm_e (nm_r (pk_m1 k) (ih _ _ (by omega) (st k _ _ hk h1) (st k _ _ hk h2)))⟩⟩
theorem wx_pf {post : SX → Prop} {w : Nat → Int32} {s p : Nat} {A B : List Nat} (hp : p < 4) (hA : p = A.length) (h1 : wm_R nI xs A) (h2 : wm_R nI (fun i => xs (A.length + 1 + i)) B) (h3 : wm_R (fun x => nI (wm_len w x)) xl A) (h4 : wm_R (fun x => nI (wm_len w x)) (fun i => xl (A.length + 1 + i)) B)
    (hs : xps = nI s) (hn : xpn = nI (wm_len w s)) (h : ∀ xs xl : Nat → Int32, wm_K w xs xl (s :: (A ++ B)) → post (xpc, xwn, xkc, xps, xpn, xpt, xta, xtm, xbm, xbf, xbb, xid, xr, xw, xs, xl, xo, xh, xi, xj, xc)) : wpX_putFirst post (xpc, xwn, xkc, xps, xpn, xpt, xta, xtm, xbm, xbf, xbb, xid, xr, xw, xs, xl, xo, xh, xi, xj, xc) (nI p) := by
  refine ⟨p + 1, wx_pf_l (ks := xs) (kl := xl) hp (fun xs' xl' e1 e2 => h xs' xl' ⟨wm_R_front h1 h2 fun i => ?_, wm_R_front (s := s) h3 h4 fun i => ?_⟩) p xs xl (Nat.le_refl p) (fun i => ?_) (fun i => ?_)⟩
  · rw [e1, hA, hs]
  · rw [e2, hA, hn]
  · rw [if_neg (by omega)]
  · rw [if_neg (by omega)]
theorem wm_sh {f a : Nat → Int32} {n : Nat} {B : List Nat} (h : wm_R f (fun i => a (n + (i + 1))) B) : wm_R f (fun i => a (n + 1 + i)) B :=
  wm_R_e h fun i _ => by show a (n + 1 + i) = a (n + (i + 1)); rw [show n + 1 + i = n + (i + 1) by omega]

/-! begin -/
theorem wx_beg_f {post : SX → Prop} {w : Nat → Int32} {s : Nat} (hs : s < 64) {A B : List Nat} (hl : wm_L (A ++ s :: B)) (hk : xkc = nI (A ++ s :: B).length) (hK : wm_K w xs xl (A ++ s :: B)) (hA : s ∉ A) (hps : xps = nI s) (hpn : xpn = nI (wm_len w s))
    (h : ∀ xs xl : Nat → Int32, wm_K w xs xl (s :: (A ++ B)) → post (xpc, xwn, xkc, xps, xpn, xpt, xta, xtm, xbm, xbf + 1, xbb + 1, xid, xr, xw, xs, xl, xo, xh, xi, xj, xc)) : wpX_beginPlanned post (xpc, xwn, xkc, xps, xpn, xpt, xta, xtm, xbm, xbf, xbb, xid, xr, xw, xs, xl, xo, xh, xi, xj, xc) := by
  have hlen : A.length + (B.length + 1) ≤ 4 := by have := hl.1; rw [List.length_append, List.length_cons] at this; exact this
  have r1 := wm_R_app.mp hK.1
  have r2 := wm_R_app.mp hK.2
  subst hps hpn
  unfold wpX_beginPlanned
  refine wx_pl_f hs hl hk hK.1 hA (br_f ?_ (nm_e (nm_e ?_)))
  · intro z
    have := nI_pos (n := A.length) (by omega)
    rw [z] at this
    exact this wm_m10
  · exact wx_pf (by omega) rfl r1.1 (wm_sh (wm_R_cons.mp r1.2).2) r2.1 (wm_sh (wm_R_cons.mp r2.2).2) rfl rfl h
theorem wx_beg_n {post : SX → Prop} {w : Nat → Int32} {s : Nat} (hs : s < 64) {l A : List Nat} (hl : wm_L l) (hk : xkc = nI l.length) (hK : wm_K w xs xl l) (hA : s ∉ l) (hps : xps = nI s) (hpn : xpn = nI (wm_len w s)) (hlA : (l = A ∧ A.length < 4) ∨ (∃ b, l = A ++ [b] ∧ A.length = 3))
    (h : ∀ xs xl : Nat → Int32, wm_K w xs xl (s :: A) → post (xpc, xwn, nI (A.length + 1), xps, xpn, xpt, xta + 3 * nI (wm_len w s), xtm + 3 * nI (wm_len w s), xbm + 1, xbf, xbb + 1, xid, xr, xw, xs, xl, xo, xh, xi, xj, xc)) : wpX_beginPlanned post (xpc, xwn, xkc, xps, xpn, xpt, xta, xtm, xbm, xbf, xbb, xid, xr, xw, xs, xl, xo, xh, xi, xj, xc) := by
  have hh : ∀ xs xl : Nat → Int32, wm_K w xs xl (s :: (A ++ [])) → post (xpc, xwn, nI (A.length + 1), xps, xpn, xpt, xta + 3 * nI (wm_len w s), xtm + 3 * nI (wm_len w s), xbm + 1, xbf, xbb + 1, xid, xr, xw, xs, xl, xo, xh, xi, xj, xc) := by
    rw [List.append_nil]
    exact h
  have hRA : wm_R nI xs A ∧ wm_R (fun x => nI (wm_len w x)) xl A := by
    rcases hlA with ⟨e, _⟩ | ⟨b, e, _⟩
    · rw [← e]
      exact hK
    · have := hK
      rw [e] at this
      exact ⟨(wm_R_app.mp this.1).1, (wm_R_app.mp this.2).1⟩
  have hA4 : A.length < 4 := by
    rcases hlA with ⟨_, e⟩ | ⟨b, _, e⟩ <;> omega
  subst hps hpn
  unfold wpX_beginPlanned
  refine wx_pl_n hs hl hk hK.1 hA (br_t rfl ?_)
  subst hk
  rcases hlA with ⟨e, h4⟩ | ⟨b, e, h3⟩
  · subst e
    refine br_f (nI_ge (b := 4) h4 (by decide)) (nm_r (nI_1 _) ?_)
    rw [nI_pred]
    exact nm_e (nm_e (nm_e (nm_e (wx_pf (B := []) hA4 rfl hRA.1 wm_R_nil hRA.2 wm_R_nil rfl rfl hh))))
  · have e4 : l.length = 4 := by rw [e, List.length_append, h3]; rfl
    rw [e4]
    rw [h3] at hh
    refine br_t (nI_le (a := 4) (b := 4) (Nat.le_refl 4) (by decide)) ?_
    exact nm_e (nm_e (nm_e (nm_e (wx_pf (p := 3) (B := []) (by omega) h3.symm hRA.1 wm_R_nil hRA.2 wm_R_nil rfl rfl hh))))

/-! change -/
theorem wx_chg_l {post : SX → Prop} {w : Nat → Int32} {a : Nat} (ha : a < 64) {l : List Nat} (hl : wm_L l)
    (h : ∀ xs xl : Nat → Int32, wm_K w xs xl (wm_keep w a l) → post (xpc, xwn, nI (wm_keep w a l).length, xps, xpn, xpt, xta, xtm, xbm, xbf, xbb, xid, xr, xw, xs, xl, xo, xh, xi, xj, xc)) :
    ∀ (B A : List Nat) (xs xl : Nat → Int32), A ++ B = l → wm_K w xs xl (wm_keep w a A) → wm_R nI (fun i => xs (A.length + i)) B → wm_R (fun x => nI (wm_len w x)) (fun i => xl (A.length + i)) B → wX_change_12 post (nI a) xpc xwn (nI l.length) xps xpn xpt xta xtm xbm xbf xbb xid (B.length + 1) (nI (wm_keep w a A).length) (nI A.length) xr xw xs xl xo xh xi xj xc := by
  intro B
  induction B with
  | nil =>
    intro A xs xl e hK _ _
    rw [List.append_nil] at e
    subst e
    exact br_t (nI_le (Nat.le_refl _) (by have := hl.1; omega)) (h _ _ hK)
  | cons b B ih =>
    intro A xs xl e hK r1 r2
    have hlen : A.length + (B.length + 1) ≤ 4 := by have := hl.1; rw [← e, List.length_append, List.length_cons] at this; exact this
    have hll : l.length = A.length + (B.length + 1) := by rw [← e, List.length_append, List.length_cons]
    have hb : b < 64 := hl.2 b (by rw [← e]; exact List.mem_append_right A (List.mem_cons_self))
    have hlb := wm_len_r w hb
    have hkn := wm_keep_n w a A
    have e' : (A ++ [b]) ++ B = l := by rw [List.append_assoc]; exact e
    have c1 := wm_R_cons.mp r1
    have c2 := wm_R_cons.mp r2
    have x1 : xs A.length = nI b := c1.1
    have x2 : xl A.length = nI (wm_len w b) := c2.1
    have i4 : vp_in (nI A.length) 4 := vp_in_nI (by omega) (by decide)
    have il : vp_in (nI (wm_keep w a A).length) 4 := vp_in_nI (by omega) (by decide)
    have hcl : (nI (wm_keep w a A).length).toNatClampNeg = (wm_keep w a A).length := nI_clamp (by omega)
    have hca : (nI A.length).toNatClampNeg = A.length := nI_clamp (by omega)
    have eA : (A ++ [b]).length = A.length + 1 := by rw [List.length_append]; rfl
    have no : ¬ wm_hit w a b → wX_change_56 post (wX_change_12 post (nI a) xpc xwn (nI l.length) xps xpn xpt xta xtm xbm xbf xbb xid (B.length + 1)) (nI a) (nI (wm_keep w a A).length) (nI A.length) 0 xpc xwn (nI l.length) xps xpn xpt xta xtm xbm xbf xbb xid xr xw xs xl xo xh xi xj xc := by
      intro hn
      have ek : wm_keep w a (A ++ [b]) = wm_keep w a A ++ [b] := by rw [wm_keep_a, wm_keep_t hn]; rfl
      have el : (wm_keep w a (A ++ [b])).length = (wm_keep w a A).length + 1 := by rw [ek, List.length_append]; rfl
      have hI := ih (A ++ [b]) (upd xs (wm_keep w a A).length (nI b)) (upd xl (wm_keep w a A).length (nI (wm_len w b))) e' (by rw [ek]; exact ⟨wm_R_snoc hK.1 rfl, wm_R_snoc hK.2 rfl⟩)
        (wm_R_e c1.2 fun i _ => by rw [eA]; show upd xs _ _ (A.length + 1 + i) = xs (A.length + (i + 1)); rw [pk_un (by omega), show A.length + 1 + i = A.length + (i + 1) by omega])
        (wm_R_e c2.2 fun i _ => by rw [eA]; show upd xl _ _ (A.length + 1 + i) = xl (A.length + (i + 1)); rw [pk_un (by omega), show A.length + 1 + i = A.length + (i + 1) by omega])
      rw [el, eA] at hI
      unfold wX_change_56
      rw [hcl, hca, x1, x2]
      exact br_t rfl ⟨i4, il, nm_e ⟨i4, il, nm_e (nm_r (nI_1 _) (nm_r (nI_1 _) hI))⟩⟩
    have yes : wm_hit w a b → wX_change_56 post (wX_change_12 post (nI a) xpc xwn (nI l.length) xps xpn xpt xta xtm xbm xbf xbb xid (B.length + 1)) (nI a) (nI (wm_keep w a A).length) (nI A.length) 1 xpc xwn (nI l.length) xps xpn xpt xta xtm xbm xbf xbb xid xr xw xs xl xo xh xi xj xc := by
      intro hn
      have ek : wm_keep w a (A ++ [b]) = wm_keep w a A := by rw [wm_keep_a, wm_keep_f hn]; exact List.append_nil _
      have hI := ih (A ++ [b]) xs xl e' (by rw [ek]; exact hK)
        (wm_R_e c1.2 fun i _ => by rw [eA]; show xs (A.length + 1 + i) = xs (A.length + (i + 1)); rw [show A.length + 1 + i = A.length + (i + 1) by omega])
        (wm_R_e c2.2 fun i _ => by rw [eA]; show xl (A.length + 1 + i) = xl (A.length + (i + 1)); rw [show A.length + 1 + i = A.length + (i + 1) by omega])
      rw [ek, eA] at hI
      exact br_f wm_10 (nm_r (nI_1 _) hI)
    refine br_f (by rw [hll]; exact nI_ge (by omega) (by omega)) ?_
    rw [hca, x1, x2, nI_add]
    refine ⟨i4, pk_lt a b (fun z => no fun y => by have := y.1; omega) (fun z => ⟨i4, i4, pk_le (b + wm_len w b) a (fun y => no fun q => by have := q.2; omega) (fun y => yes ⟨z, y⟩)⟩)⟩
theorem wx_chg {post : SX → Prop} {a : Nat} {v : Int32} (ha : a < 64) {l : List Nat} (hl : wm_L l) (hk : xkc = nI l.length) (hK : wm_K xw xs xl l)
    (h : ∀ xs xl : Nat → Int32, wm_K (upd xw a v) xs xl (wm_keep xw a l) → post (xpc, xwn, nI (wm_keep xw a l).length, xps, xpn, xpt, xta, xtm, xbm, xbf, xbb, xid, xr, upd xw a v, xs, xl, xo, xh, xi, xj, xc)) : wpX_change post (xpc, xwn, xkc, xps, xpn, xpt, xta, xtm, xbm, xbf, xbb, xid, xr, xw, xs, xl, xo, xh, xi, xj, xc) (nI a) v := by
  subst hk
  refine ⟨vp_in_nI ha (by decide), nm_r (e' := upd xw a v) (by rw [nI_clamp (by omega)]) ⟨l.length + 1, ?_⟩⟩
  exact wx_chg_l (w := xw) (xw := upd xw a v) ha hl (fun xs' xl' hK' => h xs' xl' (wm_K_u hK')) l [] xs xl rfl ⟨wm_R_nil, wm_R_nil⟩ (wm_R_e hK.1 fun i _ => by show xs (0 + i) = xs i; rw [Nat.zero_add]) (wm_R_e hK.2 fun i _ => by show xl (0 + i) = xl i; rw [Nat.zero_add])
end XKEPT
