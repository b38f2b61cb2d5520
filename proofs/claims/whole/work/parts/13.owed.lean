/-! What is owed -/
def i_Rel (k : Nat) (u : SX) (v : SY) : Prop := ∃ (g w ct : Nat → Int32) (pc wd : Nat) (l : List Nat), pc < 64 ∧ 1 ≤ wd ∧ wd ≤ 4 ∧ wm_L l ∧ wm_PX g w pc wd l ct u ∧ wm_PY g w pc wd l ct v
theorem i_up {k : Nat} {u : SX} {v : SY} (h : i_Rel k u v) : i_Rel (k + 6) u v := h
theorem wm_L0 : wm_L [] := ⟨Nat.zero_le 4, fun x h => absurd h (List.not_mem_nil)⟩
theorem i_vc0 : wpX_init (fun u => wpY_init (fun v => i_Rel 0 u v)) :=
  ⟨fun _ => 0, fun _ => 0, fun _ => 0, 0, 2, [], by decide, by decide, by decide, wm_L0, ⟨_, _, _, _, _, _, _, _, _, _, rfl, wm_R_nil, wm_R_nil⟩, ⟨_, _, _, rfl, wm_R_nil⟩⟩
section OWED
variable {g w ct : Nat → Int32} {pc wd : Nat} {l : List Nat}
theorem wm_rel {k : Nat} {xps xpn xpt : Int32} {xs xl xo xh xi xj xc : Nat → Int32} {yct : Int32} {yb yy : Nat → Int32} (h1 : pc < 64) (h2 : 1 ≤ wd) (h3 : wd ≤ 4) (hl : wm_L l) (hK : wm_K w xs xl l) (hR : wm_R nI yb l) :
    i_Rel k (nI pc, nI wd, nI l.length, xps, xpn, xpt, ct 0, ct 1, ct 2, ct 3, ct 4, ct 5, g, w, xs, xl, xo, xh, xi, xj, xc) (nI pc, nI wd, nI l.length, yct, g, w, ct, yb, yy) :=
  ⟨g, w, ct, pc, wd, l, h1, h2, h3, hl, ⟨_, _, _, _, _, _, _, _, _, _, rfl, hK⟩, ⟨_, _, _, rfl, hR⟩⟩
end OWED
theorem i_vc_put {k : Nat} {u : SX} {v : SY} (I : i_Rel k u v) (hk : k + 6 ≤ 3072) (v1 : Int32) (v2 : Int32) : wpX_put (fun r u' => wpY_put (fun r' v' => r' = r ∧ i_Rel (k + 6) u' v') v v1 v2) u v1 v2 := by
  obtain ⟨g, w, ct, pc, wd, l, h1, h2, h3, hl, ⟨xps, xpn, xpt, xs, xl, xo, xh, xi, xj, xc, rfl, hK⟩, ⟨yct, yb, yy, rfl, hR⟩⟩ := I
  unfold wpX_put wpY_put
  rcases wm_ix v1 (N := 64) (by decide) with h | ⟨j, hj, rfl⟩
  · exact wx_adr0 h (br_t rfl (wy_in0 (N := 64) h (br_t rfl ⟨rfl, wm_rel h1 h2 h3 hl hK hR⟩)))
  · exact wx_adr1 hj (br_f wm_10 (wx_chg hj hl rfl hK fun xs' xl' hK' => wy_in1 (N := 64) hj (by decide) (br_f wm_10 (wy_chg hj hl rfl hR fun yb' hR' => ⟨rfl, wm_rel h1 h2 h3 (wm_L_keep hl) hK' hR'⟩))))
theorem i_vc_code {k : Nat} {u : SX} {v : SY} (I : i_Rel k u v) (hk : k + 6 ≤ 3072) (v1 : Int32) (v2 : Int32) (v3 : Int32) (v4 : Int32) (v5 : Int32) : wpX_code (fun r => wpY_code (fun r' => r' = r ∧ i_Rel (k + 6) u v) v v1 v2 v3 v4 v5) u v1 v2 v3 v4 v5 := by
  have J : i_Rel (k + 6) u v := I
  obtain ⟨g, w, ct, pc, wd, l, h1, h2, h3, hl, ⟨xps, xpn, xpt, xs, xl, xo, xh, xi, xj, xc, rfl, hK⟩, ⟨yct, yb, yy, rfl, hR⟩⟩ := I
  exact ⟨rfl, J⟩
theorem i_vc_set {k : Nat} {u : SX} {v : SY} (I : i_Rel k u v) (hk : k + 6 ≤ 3072) (v1 : Int32) (v2 : Int32) : wpX_set (fun r u' => wpY_set (fun r' v' => r' = r ∧ i_Rel (k + 6) u' v') v v1 v2) u v1 v2 := by
  obtain ⟨g, w, ct, pc, wd, l, h1, h2, h3, hl, ⟨xps, xpn, xpt, xs, xl, xo, xh, xi, xj, xc, rfl, hK⟩, ⟨yct, yb, yy, rfl, hR⟩⟩ := I
  unfold wpX_set wpY_set
  rcases wm_ix v1 (N := 9) (by decide) with h | ⟨j, hj, rfl⟩
  · have n8 : ¬ v1 = 8 := wm_64n (by decide) h (j := 8) (by decide)
    refine br_f n8 ?_
    by_cases z : v1 < 0
    · exact br_t z (wy_in0 (N := 9) h (br_t rfl ⟨rfl, wm_rel h1 h2 h3 hl hK hR⟩))
    · have n : ¬ v1 < 8 := by
        rcases h with h | h
        · exact absurd h z
        · exact Int32.not_lt.mpr (Int32.le_trans (by decide) h)
      exact br_f z (br_f n (wy_in0 (N := 9) h (br_t rfl ⟨rfl, wm_rel h1 h2 h3 hl hK hR⟩)))
  · by_cases e : j = 8
    · subst e
      refine br_t rfl ?_
      rcases wm_ix v2 (N := 64) (by decide) with h | ⟨p, hp, rfl⟩
      · exact wx_adr0 h (br_t rfl (wy_in1 (j := 8) (N := 9) (by decide) (by decide) (br_f wm_10 (br_t rfl (wy_in0 (N := 64) h (br_t rfl ⟨rfl, wm_rel h1 h2 h3 hl hK hR⟩))))))
      · exact wx_adr1 hp (br_f wm_10 (wy_in1 (j := 8) (N := 9) (by decide) (by decide) (br_f wm_10 (br_t rfl (wy_in1 (N := 64) hp (by decide) (br_f wm_10 (br_t rfl ⟨rfl, wm_rel hp h2 h3 hl hK hR⟩)))))))
    · have n8 : ¬ nI j = 8 := wm_nn (k := 8) (by omega) (by decide) e
      have hi : vp_in (nI j) 8 := vp_in_nI (by omega) (by decide)
      refine br_f n8 (br_f (nI_pos (by omega)) (br_t (nI_lt (b := 8) (by omega) (by decide)) ⟨hi, nm_e ?_⟩))
      exact wy_in1 (N := 9) hj (by decide) (br_f wm_10 (br_f n8 (br_f n8 ⟨hi, nm_e ⟨rfl, wm_rel h1 h2 h3 hl hK hR⟩⟩)))
theorem i_vc_width {k : Nat} {u : SX} {v : SY} (I : i_Rel k u v) (hk : k + 6 ≤ 3072) (v1 : Int32) : wpX_width (fun r u' => wpY_width (fun r' v' => r' = r ∧ i_Rel (k + 6) u' v') v v1) u v1 := by
  obtain ⟨g, w, ct, pc, wd, l, h1, h2, h3, hl, ⟨xps, xpn, xpt, xs, xl, xo, xh, xi, xj, xc, rfl, hK⟩, ⟨yct, yb, yy, rfl, hR⟩⟩ := I
  unfold wpX_width wpY_width
  rcases wm_ix (v1 - 1) (N := 4) (by decide) with h | ⟨j, hj, e⟩
  · by_cases a : v1 < 1
    · exact br_t a (wy_in0 (N := 4) h (br_t rfl ⟨rfl, wm_rel h1 h2 h3 hl hK hR⟩))
    · refine br_f a (br_f (fun b => ?_) (wy_in0 (N := 4) h (br_t rfl ⟨rfl, wm_rel h1 h2 h3 hl hK hR⟩)))
      have p : ¬ v1 < 0 := fun z => a (Int32.lt_trans z (by decide))
      obtain ⟨m, hm, rfl⟩ := nI_of p
      have m1 : 1 ≤ m := by
        by_cases z : m < 1
        · exact absurd (nI_lt (b := 1) z (by decide)) a
        · omega
      have m4 : m ≤ 4 := (nI_leI (b := 4) hm (by decide)).mp b
      refine wm_64n (N := 4) (by decide) h (j := m - 1) (by omega) ?_
      rw [show (1 : Int32) = nI 1 from rfl, pk_sub m1]
  · have e1 : v1 = nI (j + 1) := by
      rw [← nI_1, ← e, Int32.sub_add_cancel]
    rw [e]
    subst e1
    refine br_f (nI_nlt (b := 1) (by omega) (by omega)) (br_t (nI_le (b := 4) (by omega) (by decide)) (wy_in1 (N := 4) hj (by decide) (br_f wm_10 ⟨rfl, ?_⟩)))
    exact wm_rel (l := []) h1 (by omega) (by omega) wm_L0 ⟨wm_R_nil, wm_R_nil⟩ wm_R_nil
theorem i_vc_run {k : Nat} {u : SX} {v : SY} (I : i_Rel k u v) (hk : k + 6 ≤ 3072) : wpX_run (fun r u' => wpY_run (fun r' v' => r' = r ∧ i_Rel (k + 6) u' v') v) u := by
  obtain ⟨g, w, ct, pc, wd, l, h1, h2, h3, hl, ⟨xps, xpn, xpt, xs, xl, xo, xh, xi, xj, xc, rfl, hK⟩, ⟨yct, yb, yy, rfl, hR⟩⟩ := I
  unfold wpX_run wpY_run
  by_cases c : ct 0 ≤ 500000000
  · obtain ⟨g', w', ct', pc', l', r, b1, b2, bX, bY⟩ := wm_run h2 h3 100 0 g w ct pc l rfl h1 hl
    refine br_t c ⟨101, bX _ (fun u' hu' => ?_) xps xpn xpt xs xl xo xh xi xj xc hK⟩
    obtain ⟨xps', xpn', xpt', xs', xl', xo', xh', xi', xj', xc', rfl, hK'⟩ := hu'
    refine br_t c ⟨101, bY _ (fun v' hv' => ?_) yct yb yy hR⟩
    obtain ⟨yct', yb', yy', rfl, hR'⟩ := hv'
    exact ⟨rfl, wm_rel b1 h2 h3 b2 hK' hR'⟩
  · exact br_f c (br_f c ⟨rfl, wm_rel h1 h2 h3 hl hK hR⟩)
theorem i_vc_register {k : Nat} {u : SX} {v : SY} (I : i_Rel k u v) (hk : k + 6 ≤ 3072) (v1 : Int32) : wpX_register (fun r => wpY_register (fun r' => r' = r ∧ i_Rel (k + 6) u v) v v1) u v1 := by
  have J : i_Rel (k + 6) u v := I
  obtain ⟨g, w, ct, pc, wd, l, h1, h2, h3, hl, ⟨xps, xpn, xpt, xs, xl, xo, xh, xi, xj, xc, rfl, hK⟩, ⟨yct, yb, yy, rfl, hR⟩⟩ := I
  unfold wpX_register wpY_register
  rcases wm_ix v1 (N := 8) (by decide) with h | ⟨j, hj, rfl⟩
  · by_cases e : v1 = 8
    · exact br_t e (wy_in0 (N := 8) h (br_t rfl (br_t e ⟨rfl, J⟩)))
    · refine br_f e ?_
      by_cases z : v1 < 0
      · exact br_t z (wy_in0 (N := 8) h (br_t rfl (br_f e ⟨rfl, J⟩)))
      · rcases h with h | h
        · exact absurd h z
        · exact br_f z (br_t h (wy_in0 (N := 8) (Or.inr h) (br_t rfl (br_f e ⟨rfl, J⟩))))
  · have n8 : ¬ nI j = 8 := wm_nn (k := 8) (by omega) (by decide) (by omega)
    have hi : vp_in (nI j) 8 := vp_in_nI (by omega) (by decide)
    exact br_f n8 (br_f (nI_pos (by omega)) (br_f (nI_ge (b := 8) hj (by decide)) ⟨hi, wy_in1 (N := 8) hj (by decide) (br_f wm_10 ⟨hi, rfl, J⟩)⟩))
theorem i_vc_word {k : Nat} {u : SX} {v : SY} (I : i_Rel k u v) (hk : k + 6 ≤ 3072) (v1 : Int32) : wpX_word (fun r => wpY_word (fun r' => r' = r ∧ i_Rel (k + 6) u v) v v1) u v1 := by
  have J : i_Rel (k + 6) u v := I
  obtain ⟨g, w, ct, pc, wd, l, h1, h2, h3, hl, ⟨xps, xpn, xpt, xs, xl, xo, xh, xi, xj, xc, rfl, hK⟩, ⟨yct, yb, yy, rfl, hR⟩⟩ := I
  unfold wpX_word wpY_word
  rcases wm_ix v1 (N := 64) (by decide) with h | ⟨j, hj, rfl⟩
  · exact wx_adr0 h (br_t rfl (wy_in0 (N := 64) h (br_t rfl ⟨rfl, J⟩)))
  · have hi : vp_in (nI j) 64 := vp_in_nI (by omega) (by decide)
    exact wx_adr1 hj (br_f wm_10 ⟨hi, wy_in1 (N := 64) hj (by decide) (br_f wm_10 ⟨hi, rfl, J⟩)⟩)
theorem i_vc_taken {k : Nat} {u : SX} {v : SY} (I : i_Rel k u v) (hk : k + 6 ≤ 3072) (v1 : Int32) : wpX_taken (fun r => wpY_taken (fun r' => r' = r ∧ i_Rel (k + 6) u v) v v1) u v1 := by
  have J : i_Rel (k + 6) u v := I
  obtain ⟨g, w, ct, pc, wd, l, h1, h2, h3, hl, ⟨xps, xpn, xpt, xs, xl, xo, xh, xi, xj, xc, rfl, hK⟩, ⟨yct, yb, yy, rfl, hR⟩⟩ := I
  unfold wpX_taken wpY_taken
  rcases wm_ix v1 (N := 6) (by decide) with h | ⟨j, hj, rfl⟩
  · by_cases z : v1 < 0
    · exact br_t z (wy_in0 (N := 6) h (br_t rfl ⟨rfl, J⟩))
    · rcases h with h | h
      · exact absurd h z
      · exact br_f z (br_t (Int32.lt_of_lt_of_le (by decide) h) (wy_in0 (N := 6) (Or.inr h) (br_t rfl ⟨rfl, J⟩)))
  · have hi : vp_in (nI j) 6 := vp_in_nI hj (by decide)
    have hc : (nI j).toNatClampNeg = j := nI_clamp (by omega)
    refine br_f (nI_pos (by omega)) (pk_lt 5 j (fun z => absurd z (by omega)) fun _ => ?_)
    refine pk_eq j 0 (fun e => by subst e; exact wy_in1 (N := 6) hj (by decide) (br_f wm_10 ⟨hi, congrArg ct hc, J⟩)) fun _ => pk_eq j 1 (fun e => by subst e; exact wy_in1 (N := 6) hj (by decide) (br_f wm_10 ⟨hi, congrArg ct hc, J⟩)) fun _ => pk_eq j 2 (fun e => by subst e; exact wy_in1 (N := 6) hj (by decide) (br_f wm_10 ⟨hi, congrArg ct hc, J⟩)) fun _ => ?_
    exact pk_eq j 3 (fun e => by subst e; exact wy_in1 (N := 6) hj (by decide) (br_f wm_10 ⟨hi, congrArg ct hc, J⟩)) fun _ => pk_eq j 4 (fun e => by subst e; exact wy_in1 (N := 6) hj (by decide) (br_f wm_10 ⟨hi, congrArg ct hc, J⟩)) fun _ => pk_eq j 5 (fun e => by subst e; exact wy_in1 (N := 6) hj (by decide) (br_f wm_10 ⟨hi, congrArg ct hc, J⟩)) fun _ => trivial
theorem i_vc_block {k : Nat} {u : SX} {v : SY} (I : i_Rel k u v) (hk : k + 6 ≤ 3072) (v1 : Int32) (v2 : Int32) : wpX_block (fun r u' => wpY_block (fun r' v' => r' = r ∧ i_Rel (k + 6) u' v') v v1 v2) u v1 v2 := by
  obtain ⟨g, w, ct, pc, wd, l, h1, h2, h3, hl, ⟨xps, xpn, xpt, xs, xl, xo, xh, xi, xj, xc, rfl, hK⟩, ⟨yct, yb, yy, rfl, hR⟩⟩ := I
  unfold wpX_block wpY_block
  rcases wm_ix v1 (N := 64) (by decide) with h | ⟨s, hs, rfl⟩
  · exact wx_adr0 h (br_t rfl (wy_in0 (N := 64) h (br_t rfl ⟨rfl, wm_rel h1 h2 h3 hl hK hR⟩)))
  · obtain ⟨C, hS⟩ := wm_Sch_ex (wm_I w s) h2 (wm_len w s)
    refine wx_adr1 hs (br_f wm_10 (wx_plan hs hS h2 h3 rfl fun xo' xh' xi' xj' xc' hD hC => ?_))
    rcases wm_ix v2 (N := 3) (by decide) with h | ⟨j, hj, rfl⟩
    · by_cases z : v2 < 0
      · exact br_t z (wy_in1 (N := 64) hs (by decide) (br_f wm_10 (wy_in0 (N := 3) h (br_t rfl ⟨rfl, wm_rel h1 h2 h3 hl hK hR⟩))))
      · rcases h with h | h
        · exact absurd h z
        · exact br_f z (br_t (Int32.lt_of_lt_of_le (by decide) h) (wy_in1 (N := 64) hs (by decide) (br_f wm_10 (wy_in0 (N := 3) (Or.inr h) (br_t rfl ⟨rfl, wm_rel h1 h2 h3 hl hK hR⟩)))))
    · refine br_f (nI_pos (by omega)) (pk_lt 2 j (fun z => absurd z (by omega)) fun _ => pk_eq j 0 (fun e => ?_) fun n0 => pk_eq j 1 (fun e => ?_) fun n1 => pk_eq j 2 (fun e => ?_) fun _ => trivial)
      · subst e
        exact wy_in1 (N := 64) hs (by decide) (br_f wm_10 (wy_in1 (j := 0) (N := 3) (by decide) (by decide) (br_f wm_10 (wy_sch hs hS rfl h3 fun yy' hC' => br_t rfl (wy_len hs ⟨rfl, wm_rel h1 h2 h3 hl hK hR⟩)))))
      · subst e
        exact wy_in1 (N := 64) hs (by decide) (br_f wm_10 (wy_in1 (j := 1) (N := 3) (by decide) (by decide) (br_f wm_10 (wy_sch hs hS rfl h3 fun yy' hC' => br_f wm_10 (br_t rfl (wy_time hs hS hC' ⟨rfl, wm_rel h1 h2 h3 hl hK hR⟩))))))
      · subst e
        rcases wm_cut s l with ⟨A, B, rfl, hA⟩ | hA
        · have hlen : A.length + (B.length + 1) ≤ 4 := by have := hl.1; rw [List.length_append, List.length_cons] at this; exact this
          have np : ¬ nI A.length = -1 := fun z => by have := nI_pos (n := A.length) (by omega); rw [z] at this; exact this wm_m10
          exact wx_pl_f hs hl rfl hK.1 hA (br_f np (wy_in1 (N := 64) hs (by decide) (br_f wm_10 (wy_in1 (j := 2) (N := 3) (by decide) (by decide) (br_f wm_10 (wy_sch hs hS rfl h3 fun yy' hC' => br_f wm_20 (br_f (by decide) (wy_pl_f hs hl rfl hR hA (br_f (nI_pos (by omega)) ⟨rfl, wm_rel h1 h2 h3 hl hK hR⟩)))))))))
        · exact wx_pl_n hs hl rfl hK.1 hA (br_t rfl (wy_in1 (N := 64) hs (by decide) (br_f wm_10 (wy_in1 (j := 2) (N := 3) (by decide) (by decide) (br_f wm_10 (wy_sch hs hS rfl h3 fun yy' hC' => br_f wm_20 (br_f (by decide) (wy_pl_n hs hl rfl hR hA (br_t wm_m10 ⟨rfl, wm_rel h1 h2 h3 hl hK hR⟩)))))))))
theorem i_vc_cycle {k : Nat} {u : SX} {v : SY} (I : i_Rel k u v) (hk : k + 6 ≤ 3072) (v1 : Int32) (v2 : Int32) : wpX_cycle (fun r u' => wpY_cycle (fun r' v' => r' = r ∧ i_Rel (k + 6) u' v') v v1 v2) u v1 v2 := by
  obtain ⟨g, w, ct, pc, wd, l, h1, h2, h3, hl, ⟨xps, xpn, xpt, xs, xl, xo, xh, xi, xj, xc, rfl, hK⟩, ⟨yct, yb, yy, rfl, hR⟩⟩ := I
  unfold wpX_cycle wpY_cycle
  rcases wm_ix v1 (N := 64) (by decide) with h | ⟨s, hs, rfl⟩
  · exact wx_adr0 h (br_t rfl (wy_in0 (N := 64) h (br_t rfl ⟨rfl, wm_rel h1 h2 h3 hl hK hR⟩)))
  · obtain ⟨C, hS⟩ := wm_Sch_ex (wm_I w s) h2 (wm_len w s)
    have hr := wm_len_r w hs
    refine wx_adr1 hs (br_f wm_10 (wx_plan hs hS h2 h3 rfl fun xo' xh' xi' xj' xc' hD hC => ?_))
    rcases wm_ix v2 (N := wm_len w s) (by omega) with h | ⟨j, hj, rfl⟩
    · by_cases z : v2 < 0
      · exact br_t z (wy_in1 (N := 64) hs (by decide) (br_f wm_10 (wy_len hs (wy_in0 h (br_t rfl ⟨rfl, wm_rel h1 h2 h3 hl hK hR⟩)))))
      · rcases h with h | h
        · exact absurd h z
        · exact br_f z (br_t h (wy_in1 (N := 64) hs (by decide) (br_f wm_10 (wy_len hs (wy_in0 (Or.inr h) (br_t rfl ⟨rfl, wm_rel h1 h2 h3 hl hK hR⟩))))))
    · have hi : vp_in (nI j) 8 := vp_in_nI (by omega) (by decide)
      have hc : (nI j).toNatClampNeg = j := nI_clamp (by omega)
      refine br_f (nI_pos (by omega)) (br_f (nI_ge hj (by omega)) ⟨hi, wy_in1 (N := 64) hs (by decide) (br_f wm_10 (wy_len hs (wy_in1 hj (by omega) (br_f wm_10 (wy_sch hs hS rfl h3 fun yy' hC' => ⟨hi, ?_, wm_rel h1 h2 h3 hl hK hR⟩)))))⟩)
      rw [hc, hC j hj, hC' j hj]
theorem i_vc_kept {k : Nat} {u : SX} {v : SY} (I : i_Rel k u v) (hk : k + 6 ≤ 3072) (v1 : Int32) : wpX_kept (fun r => wpY_kept (fun r' => r' = r ∧ i_Rel (k + 6) u v) v v1) u v1 := by
  have J : i_Rel (k + 6) u v := I
  obtain ⟨g, w, ct, pc, wd, l, h1, h2, h3, hl, ⟨xps, xpn, xpt, xs, xl, xo, xh, xi, xj, xc, rfl, hK⟩, ⟨yct, yb, yy, rfl, hR⟩⟩ := I
  have hl4 := hl.1
  unfold wpX_kept wpY_kept
  rcases wm_ix v1 (N := l.length) (by omega) with h | ⟨j, hj, rfl⟩
  · by_cases z : v1 < 0
    · exact br_t z (wy_in0 h (br_t rfl ⟨rfl, J⟩))
    · rcases h with h | h
      · exact absurd h z
      · exact br_f z (br_t h (wy_in0 (Or.inr h) (br_t rfl ⟨rfl, J⟩)))
  · have hi : vp_in (nI j) 4 := vp_in_nI (by omega) (by decide)
    have hc : (nI j).toNatClampNeg = j := nI_clamp (by omega)
    refine br_f (nI_pos (by omega)) (br_f (nI_ge hj (by omega)) ⟨hi, wy_in1 hj (by omega) (br_f wm_10 ⟨hi, ?_, J⟩)⟩)
    rw [hc, wm_R_i hK.1 hj, wm_R_i hR hj]
theorem i_vc_flush {k : Nat} {u : SX} {v : SY} (I : i_Rel k u v) (hk : k + 6 ≤ 3072) : wpX_flush (fun r u' => wpY_flush (fun r' v' => r' = r ∧ i_Rel (k + 6) u' v') v) u := by
  obtain ⟨g, w, ct, pc, wd, l, h1, h2, h3, hl, ⟨xps, xpn, xpt, xs, xl, xo, xh, xi, xj, xc, rfl, hK⟩, ⟨yct, yb, yy, rfl, hR⟩⟩ := I
  exact ⟨rfl, wm_rel (l := []) h1 h2 h3 wm_L0 ⟨wm_R_nil, wm_R_nil⟩ wm_R_nil⟩
