/-! Pictures of a state, and a block at work on both sides -/
def wm_PX (g w : Nat → Int32) (pc wd : Nat) (l : List Nat) (ct : Nat → Int32) (u : SX) : Prop :=
  ∃ (xps xpn xpt : Int32) (xs xl xo xh xi xj xc : Nat → Int32), u = (nI pc, nI wd, nI l.length, xps, xpn, xpt, ct 0, ct 1, ct 2, ct 3, ct 4, ct 5, g, w, xs, xl, xo, xh, xi, xj, xc) ∧ wm_K w xs xl l
def wm_PY (g w : Nat → Int32) (pc wd : Nat) (l : List Nat) (ct : Nat → Int32) (v : SY) : Prop :=
  ∃ (yct : Int32) (yb yy : Nat → Int32), v = (nI pc, nI wd, nI l.length, yct, g, w, ct, yb, yy) ∧ wm_R nI yb l
/-- where the PC stands behind a block -/
def wm_fin (w : Nat → Int32) (s N : Nat) (g : Nat → Int32) : Nat :=
  if wm_op (w (s + N - 1)) = 7 ∨ (wm_op (w (s + N - 1)) = 8 ∧ g (wm_a (w (s + N - 1))) = 0) then wm_t ((w (s + N - 1)) >>> ((13 : Int32) &&& 31)) else (s + N) % 64
theorem wm_fin_lt (w : Nat → Int32) (s N : Nat) (g : Nat → Int32) : wm_fin w s N g < 64 := by
  unfold wm_fin
  split
  · exact wm_t_lt _
  · omega
/-- Y's end of a block -/
theorem wy_tE {ypc ywd ymn yct : Int32} {yr yw yc yb yy : Nat → Int32} {s N n T : Nat} {w0 : Nat → Int32} {post : Int32 → SY → Prop} (h1 : 1 ≤ N) (hN : N ≤ 8) (hs : s + N ≤ 64)
    (h : post (-1) (nI (wm_fin w0 s N yr), ywd, ymn, 0, yr, yw, upd yc 0 (yc 0 + nI T), yb, yy)) :
    wY_go_155 post (nI s) (nI N) (nI T) (nI (s + N - 1)) (nI (wm_op (w0 (s + N - 1)))) (nI (wm_a (w0 (s + N - 1)))) (nI (wm_t ((w0 (s + N - 1)) >>> ((13 : Int32) &&& 31)))) (n + 1) (nI N) ypc ywd ymn 0 yr yw yc yb yy := by
  have ho := wm_op_lt (w0 (s + N - 1))
  have j1 : (wm_op (w0 (s + N - 1)) = 7 ∨ (wm_op (w0 (s + N - 1)) = 8 ∧ yr (wm_a (w0 (s + N - 1))) = 0)) → wY_go_340 post (nI (s + N - 1)) (nI (wm_t ((w0 (s + N - 1)) >>> ((13 : Int32) &&& 31)))) ypc ywd ymn 0 yr yw (upd yc 0 (yc 0 + nI T)) yb yy := by
    intro z
    have e : wm_fin w0 s N yr = wm_t ((w0 (s + N - 1)) >>> ((13 : Int32) &&& 31)) := if_pos z
    rw [e] at h
    exact br_f wm_10 h
  have j0 : ¬ (wm_op (w0 (s + N - 1)) = 7 ∨ (wm_op (w0 (s + N - 1)) = 8 ∧ yr (wm_a (w0 (s + N - 1))) = 0)) → wY_go_344 post (nI (s + N - 1)) (nI (wm_t ((w0 (s + N - 1)) >>> ((13 : Int32) &&& 31)))) ypc ywd ymn 0 yr yw (upd yc 0 (yc 0 + nI T)) yb yy := by
    intro z
    have e : wm_fin w0 s N yr = (s + N) % 64 := if_neg z
    rw [e] at h
    refine br_t rfl (nm_r (e' := nI ((s + N) % 64)) ?_ h)
    rw [nI_1, show s + N - 1 + 1 = s + N by omega]
    exact pk_andN (by omega) 6 (by decide)
  refine br_t (nI_le (Nat.le_refl N) (by omega)) (nm_e (pk_eq _ 7 (fun e => j1 (Or.inl e)) fun n7 => pk_eq _ 8 (fun e => ⟨vp_in_nI (wm_a_lt _) (by decide), ?_⟩) fun n8 => j0 fun z => z.elim n7 fun y => n8 y.1))
  rw [nI_clamp (Nat.lt_trans (wm_a_lt _) (by decide))]
  exact br_c (fun y => j1 (Or.inr ⟨e, y⟩)) (fun y => j0 fun z => z.elim n7 fun q => y q.2)
theorem wm_m22 : (-2 : Int32) = -2 ∧ (-1 : Int32) = -1 := ⟨rfl, rfl⟩
theorem wm_exec {s N wd T : Nat} {C : Nat → Nat} {w0 : Nat → Int32} (h1 : 1 ≤ N) (hN : N ≤ 8) (hs : s + N ≤ 64) (hnl : ∀ j, j + 1 < N → ¬ wm_last (wm_op (w0 (s + j)))) : ∀ (d j : Nat) (g w ct : Nat → Int32) (l : List Nat), j + d = N → (∀ i, j ≤ i → i < N → w (s + i) = w0 (s + i)) → wm_L l →
    ∃ (g' w' ct' : Nat → Int32) (pc' : Nat) (l' : List Nat) (rX rY : Int32), pc' < 64 ∧ wm_L l' ∧ ((rX = -2 ∧ rY = -1) ∨ (rX = rY ∧ ¬ rX = -2 ∧ ¬ rY < 0)) ∧
    (∀ post : Int32 → SX → Prop, (∀ u', wm_PX g' w' pc' wd l' ct' u' → post rX u') → ∀ (xpc : Int32) (xs xl xo xh xi xj xc : Nat → Int32), (j = N → xpc = nI (wm_fin w0 s N g)) → wm_K w xs xl l → (∀ i, i < N → xo i = nI (wm_op (w0 (s + i)))) → (∀ i, i < N → xc i = nI (C i)) →
      wX_doPlanned_2 post (d + 1) (nI j) xpc (nI wd) (nI l.length) (nI s) (nI N) (nI T) (ct 0) (ct 1) (ct 2) (ct 3) (ct 4) (ct 5) g w xs xl xo xh xi xj xc) ∧
    (∀ post : Int32 → SY → Prop, (∀ v', wm_PY g' w' pc' wd l' ct' v' → post rY v') → ∀ (ypc : Int32) (yb yy : Nat → Int32), wm_R nI yb l → (∀ i, i < N → yy i = nI (C i)) →
      wY_go_155 post (nI s) (nI N) (nI T) (nI (s + N - 1)) (nI (wm_op (w0 (s + N - 1)))) (nI (wm_a (w0 (s + N - 1)))) (nI (wm_t ((w0 (s + N - 1)) >>> ((13 : Int32) &&& 31)))) (d + 1) (nI j) ypc (nI wd) (nI l.length) 0 g w ct yb yy) := by
  intro d
  induction d with
  | zero =>
    intro j g w ct l hj hw hl
    have e : j = N := by omega
    subst e
    refine ⟨g, w, upd ct 0 (ct 0 + nI T), wm_fin w0 s j g, l, -2, -1, wm_fin_lt _ _ _ _, hl, Or.inl ⟨rfl, rfl⟩, fun post hp xpc xs xl xo xh xi xj xc hpc hK ho hc => ?_, fun post hp ypc yb yy hR hc => ?_⟩
    · rw [hpc rfl]
      exact wx_tE (hp _ ⟨_, _, _, _, _, _, _, _, _, _, rfl, hK⟩) hN
    · exact wy_tE (yct := 0) h1 hN hs (hp _ ⟨_, _, _, rfl, hR⟩)
  | succ d ih =>
    intro j g w ct l hj hw hl
    have hjN : j < N := by omega
    have ew : w (s + j) = w0 (s + j) := hw j (Nat.le_refl j) hjN
    by_cases hf : wm_flt g (w (s + j)) = 0
    · by_cases h6 : wm_op (w (s + j)) = 6
      · obtain ⟨t, ht, et⟩ := wm_flt_c hf (Or.inr h6)
        by_cases hb : s + j < t ∧ t < s + N
        · refine ⟨g, upd w t (g (wm_b (w (s + j)))), upd (upd ct 5 (ct 5 + 1)) 0 (upd ct 5 (ct 5 + 1) 0 + nI (C j)), s + j + 1, wm_keep w t l, -2, -1, by omega, wm_L_keep hl, Or.inl ⟨rfl, rfl⟩, fun post hp xpc xs xl xo xh xi xj xc hpc hK ho hc => ?_, fun post hp ypc yb yy hR hc => ?_⟩
          · refine wx_tT hjN hN hs hf (by rw [ho j hjN, ew]) h6 ht et hl rfl hK (fun _ xs' xl' hK' => ?_) (fun z => absurd hb z)
            rw [hc j hjN, show (s + j + 1) % 64 = s + j + 1 by omega]
            exact hp _ ⟨_, _, _, _, _, _, _, _, _, _, rfl, hK'⟩
          · refine wy_turn hjN hN hs hl rfl hR (fun z => absurd hf z) (fun _ z => absurd h6 z) (fun _ z => absurd z (by omega)) (fun t' _ _ ht' et' _ yb' hR' => ?_) (fun t' _ _ ht' et' z => ?_)
            · have : t' = t := (nI_eq (by omega) (by omega)).mp (et'.symm.trans et)
              subst this
              rw [hc j hjN]
              exact hp _ ⟨_, _, _, rfl, hR'⟩
            · have : t' = t := (nI_eq (by omega) (by omega)).mp (et'.symm.trans et)
              subst this
              exact absurd hb z
        · obtain ⟨g', w', ct', pc', l', rX, rY, a1, a2, a3, aX, aY⟩ := ih (j + 1) g (upd w t (g (wm_b (w (s + j))))) (upd ct 5 (ct 5 + 1)) (wm_keep w t l) (by omega) (fun i hi hi' => by rw [pk_un (by omega)]; exact hw i (by omega) hi') (wm_L_keep hl)
          refine ⟨g', w', ct', pc', l', rX, rY, a1, a2, a3, fun post hp xpc xs xl xo xh xi xj xc hpc hK ho hc => ?_, fun post hp ypc yb yy hR hc => ?_⟩
          · refine wx_tT hjN hN hs hf (by rw [ho j hjN, ew]) h6 ht et hl rfl hK (fun z => absurd z hb) (fun _ xs' xl' hK' => ?_)
            refine aX post hp _ xs' xl' xo xh xi xj xc (fun e => ?_) hK' ho hc
            have e1 : s + N - 1 = s + j := by omega
            unfold wm_fin
            rw [e1, ← ew, if_neg (by omega), show s + N = s + j + 1 by omega]
          · refine wy_turn hjN hN hs hl rfl hR (fun z => absurd hf z) (fun _ z => absurd h6 z) (fun _ z => absurd z (by omega)) (fun t' _ _ ht' et' z => ?_) (fun t' _ _ ht' et' _ yb' hR' => ?_)
            · have : t' = t := (nI_eq (by omega) (by omega)).mp (et'.symm.trans et)
              subst this
              exact absurd z hb
            · have : t' = t := (nI_eq (by omega) (by omega)).mp (et'.symm.trans et)
              subst this
              exact aY post hp ypc yb' yy hR' hc
      · by_cases h0 : wm_op (w (s + j)) = 0
        · refine ⟨g, w, upd (upd ct 5 (ct 5 + 1)) 0 (upd ct 5 (ct 5 + 1) 0 + nI T), s + j, l, 0, 0, by omega, hl, Or.inr ⟨rfl, by decide, by decide⟩, fun post hp xpc xs xl xo xh xi xj xc hpc hK ho hc => ?_, fun post hp ypc yb yy hR hc => ?_⟩
          · exact wx_tS hjN hN hs hf (by rw [ho j hjN, ew]) h0 (hp _ ⟨_, _, _, _, _, _, _, _, _, _, rfl, hK⟩)
          · exact wy_turn hjN hN hs hl rfl hR (fun z => absurd hf z) (fun _ _ z => absurd h0 z) (fun _ _ => hp _ ⟨_, _, _, rfl, hR⟩) (fun t' _ z => absurd z h6) (fun t' _ z => absurd z h6)
        · obtain ⟨g', w', ct', pc', l', rX, rY, a1, a2, a3, aX, aY⟩ := ih (j + 1) (wm_g g w (w (s + j))) w (upd ct 5 (ct 5 + 1)) l (by omega) (fun i hi hi' => hw i (by omega) hi') hl
          refine ⟨g', w', ct', pc', l', rX, rY, a1, a2, a3, fun post hp xpc xs xl xo xh xi xj xc hpc hK ho hc => ?_, fun post hp ypc yb yy hR hc => ?_⟩
          · refine wx_tO hjN hN hs hf (by rw [ho j hjN, ew]) h6 h0 (fun z => ?_) (fun z => ?_)
            · refine aX post hp _ xs xl xo xh xi xj xc (fun e => ?_) hK ho hc
              have e1 : s + N - 1 = s + j := by omega
              have eg : wm_g g w (w (s + j)) = g := wm_g0 (by omega) (fun q => q.1 (z.elim (fun y => Or.inr (Or.inl y)) (fun y => Or.inr (Or.inr (Or.inl y.1)))))
              unfold wm_fin
              rw [e1, ← ew, eg, if_pos z]
            · refine aX post hp _ xs xl xo xh xi xj xc (fun e => ?_) hK ho hc
              have e1 : s + N - 1 = s + j := by omega
              unfold wm_fin
              rw [e1, ← ew, if_neg (fun y => ?_), show s + N = s + j + 1 by omega]
              rcases y with y | y
              · exact z (Or.inl y)
              · have eg : wm_g g w (w (s + j)) = g := wm_g0 (by omega) (fun q => q.1 (Or.inr (Or.inr (Or.inl y.1))))
                rw [eg] at y
                exact z (Or.inr y)
          · exact wy_turn hjN hN hs hl rfl hR (fun z => absurd hf z) (fun _ _ _ => aY post hp ypc yb yy hR hc) (fun _ z => absurd z h0) (fun t' _ z => absurd z h6) (fun t' _ z => absurd z h6)
    · refine ⟨g, w, upd ct 0 (ct 0 + nI (C j)), s + j, l, wm_flt g (w (s + j)), wm_flt g (w (s + j)), by omega, hl, Or.inr ⟨rfl, (wm_flt_p hf).2.1, (wm_flt_p hf).2.2⟩, fun post hp xpc xs xl xo xh xi xj xc hpc hK ho hc => ?_, fun post hp ypc yb yy hR hc => ?_⟩
      · refine wx_tF hjN hN hs hf ?_
        rw [hc j hjN]
        exact hp _ ⟨_, _, _, _, _, _, _, _, _, _, rfl, hK⟩
      · refine wy_turn hjN hN hs hl rfl hR (fun _ => ?_) (fun z => absurd z hf) (fun z => absurd z hf) (fun _ z => absurd z hf) (fun _ z => absurd z hf)
        rw [hc j hjN]
        exact hp _ ⟨_, _, _, rfl, hR⟩
