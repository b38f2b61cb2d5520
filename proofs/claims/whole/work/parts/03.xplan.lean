/-! X: a block's length, its decoding, the least cycle, the first with room -/
section XPLAN
variable {xpc xwn xkc xps xpn xpt xta xtm xbm xbf xbb xid : Int32} {xr xw xs xl xo xh xi xj xc : Nat → Int32}
theorem wm_if {c d A B : Prop} (e : c ↔ d) (f : d → A) (g : ¬ d → B) : (c → A) ∧ (¬ c → B) := ⟨fun h => f (e.mp h), fun h => g fun z => h (e.mpr z)⟩
abbrev wm_I (w : Nat → Int32) (s : Nat) : Nat → Int32 := fun j => w (s + j)
def wm_PD (I : Nat → Int32) (n : Nat) (po ph pi pj : Nat → Int32) : Prop := ∀ j, j < n → po j = nI (wm_op (I j)) ∧ ph j = nI (wm_lat (wm_op (I j))) ∧ pi j = wm_mR (I j) ∧ pj j = wm_mW (I j)
def wm_PC (C : Nat → Nat) (n : Nat) (pc : Nat → Int32) : Prop := ∀ j, j < n → pc j = nI (C j)
theorem wx_len_l {post : Int32 → Prop} {s : Nat} (hs : s < 64) : ∀ f k, k + f = 8 → (f = 0 ∨ s + k < 64) → wm_len xw s = k + wm_lf xw f (s + k) → post (nI (wm_len xw s)) → wX_lengthFrom_4 post (nI s) xpc xwn xkc xps xpn xpt xta xtm xbm xbf xbb xid xr xw xs xl xo xh xi xj xc (f + 2) (nI k) 0 := by
  intro f
  induction f with
  | zero =>
    intro k hk _ e h
    have e8 : k = 8 := by omega
    subst e8
    have e1 : wm_len xw s = 8 := by rw [e]; rfl
    rw [e1] at h
    exact br_t rfl (br_t (nI_le (a := 8) (b := 8) (Nat.le_refl 8) (by decide)) h)
  | succ f ih =>
    intro k hk h64 e h
    have hk8 : k < 8 := by omega
    have hsk : s + k < 64 := by omega
    refine br_t rfl (br_f (nI_ge (b := 8) hk8 (by decide)) ?_)
    rw [nI_add]
    refine br_f (nI_ge (b := 64) hsk (by decide)) ⟨vp_in_nI hsk (by decide), ?_⟩
    rw [nI_clamp (by omega)]
    refine wx_op (wx_ends (wm_op_lt _) (fun hl => nm_r (nI_1 k) ?_) (fun hl => nm_r (nI_1 k) ?_))
    · have e1 : wm_len xw s = k + 1 := by rw [e, wm_lf_s, if_neg (fun z => z.2 hl)]
      rw [e1] at h
      exact br_f wm_10 h
    · by_cases h6 : s + k + 1 < 64
      · refine ih (k + 1) (by omega) (Or.inr (by omega)) ?_ h
        rw [e, wm_lf_s, if_pos ⟨h6, hl⟩, show s + (k + 1) = s + k + 1 from rfl]
        omega
      · have e1 : wm_len xw s = k + 1 := by rw [e, wm_lf_s, if_neg (fun z => h6 z.1)]
        rw [e1] at h
        refine br_t rfl (pk_le 8 (k + 1) (fun _ => h) fun _ => ?_)
        rw [nI_add]
        exact br_t (nI_le (a := 64) (by omega) (by omega)) h
theorem wx_len {post : Int32 → Prop} {s : Nat} (hs : s < 64) (h : post (nI (wm_len xw s))) : wpX_lengthFrom post (xpc, xwn, xkc, xps, xpn, xpt, xta, xtm, xbm, xbf, xbb, xid, xr, xw, xs, xl, xo, xh, xi, xj, xc) (nI s) :=
  ⟨10, wx_len_l hs 8 0 rfl (Or.inr hs) (by rw [Nat.zero_add]; rfl) h⟩

/-! decode -/
theorem wx_dec41 {post : SX → Prop} {k : Nat} {i x4 z0 : Int32} (hk : k < 8) (e : x4 ||| z0 = wm_mR i) (h : post (xpc, xwn, xkc, xps, xpn, xpt, xta, xtm, xbm, xbf, xbb, xid, xr, xw, xs, xl, upd xo k (nI (wm_op i)), upd xh k (nI (wm_lat (wm_op i))), upd xi k (wm_mR i), upd xj k (wm_mW i), xc)) :
    wX_decode_41 post (nI k) i (nI (wm_op i)) x4 z0 xpc xwn xkc xps xpn xpt xta xtm xbm xbf xbb xid xr xw xs xl xo xh xi xj xc := by
  have hin : vp_in (nI k) 8 := vp_in_nI hk (by decide)
  have hc : (nI k).toNatClampNeg = k := nI_clamp (by omega)
  unfold wX_decode_41
  rw [hc, e]
  refine ⟨hin, nm_e (wx_lat (wm_op_lt i) ⟨hin, nm_e ⟨hin, nm_e (wx_writesD (wm_op_lt i) (fun hw => br_f wm_10 (wx_dOf ⟨hin, nm_r (e' := upd xj k (wm_mW i)) ?_ h⟩)) (fun hw => br_t rfl ⟨hin, nm_r (e' := upd xj k (wm_mW i)) ?_ h⟩))⟩⟩)⟩
  · rw [wm_mW, wm_bit_t hw]
  · rw [wm_mW, wm_bit_f hw]
theorem wm_or0 (x : Int32) : x ||| 0 = x := Int32.or_zero
theorem wx_dec22 {post : SX → Prop} {k : Nat} {i z0 : Int32} (hk : k < 8) (e : z0 = wm_bit (decide (wm_rA (wm_op i))) (wm_a i)) (h : post (xpc, xwn, xkc, xps, xpn, xpt, xta, xtm, xbm, xbf, xbb, xid, xr, xw, xs, xl, upd xo k (nI (wm_op i)), upd xh k (nI (wm_lat (wm_op i))), upd xi k (wm_mR i), upd xj k (wm_mW i), xc)) :
    wX_decode_22 post (nI k) i (nI (wm_op i)) z0 xpc xwn xkc xps xpn xpt xta xtm xbm xbf xbb xid xr xw xs xl xo xh xi xj xc :=
  wx_readsB (wm_op_lt i) (fun hb => br_f wm_10 (wx_bOf (wx_dec41 hk (by rw [wm_mR, wm_bit_t hb, e]) h))) (fun hb => br_t rfl (wx_dec41 hk (by rw [wm_mR, wm_bit_f hb, e]) h))
theorem wx_decode {post : SX → Prop} {k : Nat} {i : Int32} (hk : k < 8) (h : post (xpc, xwn, xkc, xps, xpn, xpt, xta, xtm, xbm, xbf, xbb, xid, xr, xw, xs, xl, upd xo k (nI (wm_op i)), upd xh k (nI (wm_lat (wm_op i))), upd xi k (wm_mR i), upd xj k (wm_mW i), xc)) :
    wpX_decode post (xpc, xwn, xkc, xps, xpn, xpt, xta, xtm, xbm, xbf, xbb, xid, xr, xw, xs, xl, xo, xh, xi, xj, xc) (nI k) i :=
  wx_op (post := fun r_1 => wpX_readsA (fun r_2 => (((r_2 = 0 → (wX_decode_22 post (nI k) i r_1 0 xpc xwn xkc xps xpn xpt xta xtm xbm xbf xbb xid xr xw xs xl xo xh xi xj xc)) ∧ (¬ r_2 = 0 → (wpX_aOf (fun r_21 => (wX_decode_22 post (nI k) i r_1 ((1 : Int32) <<< (r_21 &&& 31)) xpc xwn xkc xps xpn xpt xta xtm xbm xbf xbb xid xr xw xs xl xo xh xi xj xc)) i))))) r_1)
    (wx_readsA (wm_op_lt i) (fun ha => br_f wm_10 (wx_aOf (wx_dec22 hk (by rw [wm_bit_t ha]) h))) (fun ha => br_t rfl (wx_dec22 hk (by rw [wm_bit_f ha]) h)))

/-! the least cycle behind one earlier instruction -/
theorem wm_gmax {B x : Nat} {Q R : Nat → Prop} (h : ∀ c, B ≤ c ↔ Q c) (hx : ∀ c, x ≤ c ↔ R c) : ∀ c, max B x ≤ c ↔ (Q c ∧ R c) := fun c => by rw [Nat.max_le, h c, hx c]
theorem wm_gtriv {B : Nat} {Q R : Nat → Prop} (h : ∀ c, B ≤ c ↔ Q c) (hr : ∀ c, R c) : ∀ c, B ≤ c ↔ (Q c ∧ R c) := fun c => by rw [h c]; exact ⟨fun z => ⟨z, hr c⟩, fun z => z.1⟩
theorem wm_imp {p : Prop} {x : Nat} {R : Nat → Prop} (hp : p) (h : ∀ c, x ≤ c ↔ R c) : ∀ c, x ≤ c ↔ (p → R c) := fun c => ⟨fun z _ => (h c).mp z, fun z => (h c).mpr (z hp)⟩
section LB
variable {I : Nat → Int32} {C : Nat → Nat} {k e : Nat} {post : Int32 → Prop}
theorem wx_lb111 (hk : k < 8) (he : e < k) (hD : wm_PD I (k + 1) xo xh xi xj) (hC : wm_PC C k xc) (hb : C e ≤ 200) {B : Nat} (hB1 : B ≤ 1000) {Q : Nat → Prop} (hB : ∀ c, B ≤ c ↔ Q c)
    (h : ∀ B', (∀ c, B' ≤ c ↔ (Q c ∧ (wm_mo (wm_op (I e)) (wm_op (I k)) → C e < c))) → post (nI B')) :
    wX_leastBehind_111 post (nI e) (nI k) (nI B) xpc xwn xkc xps xpn xpt xta xtm xbm xbf xbb xid xr xw xs xl xo xh xi xj xc := by
  have hie : vp_in (nI e) 8 := vp_in_nI (by omega) (by decide)
  have hik : vp_in (nI k) 8 := vp_in_nI hk (by decide)
  unfold wX_leastBehind_111
  rw [nI_clamp (n := e) (by omega), nI_clamp (n := k) (by omega), (hD e (by omega)).1, (hD k (by omega)).1, hC e he, nI_1]
  refine ⟨hie, hik, wx_mo (wm_op_lt _) (wm_op_lt _) (fun m => br_f wm_10 ⟨hie, wx_max (by omega) (by omega) (h _ (wm_gmax hB (wm_imp m fun c => Iff.rfl)))⟩) (fun m => br_t rfl (h _ (wm_gtriv hB fun c z => absurd z m)))⟩
theorem wx_lb72 (hk : k < 8) (he : e < k) (hD : wm_PD I (k + 1) xo xh xi xj) (hC : wm_PC C k xc) (hb : C e ≤ 200) {B : Nat} (hB1 : B ≤ 800) {Q : Nat → Prop} (hB : ∀ c, B ≤ c ↔ Q c)
    (h : ∀ B', (∀ c, B' ≤ c ↔ ((Q c ∧ (((∃ r, wm_Rd (I e) r ∧ wm_Wr (I k) r) → C e ≤ c) ∧ (wm_last (wm_op (I k)) → C e ≤ c))) ∧ (wm_mo (wm_op (I e)) (wm_op (I k)) → C e < c))) → post (nI B')) :
    wX_leastBehind_72 post (nI e) (nI k) (nI B) xpc xwn xkc xps xpn xpt xta xtm xbm xbf xbb xid xr xw xs xl xo xh xi xj xc := by
  have hie : vp_in (nI e) 8 := vp_in_nI (by omega) (by decide)
  have hik : vp_in (nI k) 8 := vp_in_nI hk (by decide)
  have r100 : ((∃ r, wm_Rd (I e) r ∧ wm_Wr (I k) r) ∨ wm_last (wm_op (I k))) → wX_leastBehind_100 post (nI e) (nI k) (nI B) xpc xwn xkc xps xpn xpt xta xtm xbm xbf xbb xid xr xw xs xl xo xh xi xj xc := by
    intro z
    unfold wX_leastBehind_100
    rw [nI_clamp (n := e) (by omega), hC e he]
    refine ⟨hie, wx_max (by omega) (by omega) (wx_lb111 hk he hD hC hb (by omega) (wm_gmax hB (R := fun c => ((∃ r, wm_Rd (I e) r ∧ wm_Wr (I k) r) → C e ≤ c) ∧ (wm_last (wm_op (I k)) → C e ≤ c)) fun c => ?_) h)⟩
    constructor
    · intro a
      exact ⟨fun _ => a, fun _ => a⟩
    · intro a
      rcases z with z | z
      · exact a.1 z
      · exact a.2 z
  unfold wX_leastBehind_72
  rw [nI_clamp (n := e) (by omega), nI_clamp (n := k) (by omega), (hD e (by omega)).2.2.1, (hD k (by omega)).2.2.2, (hD k (by omega)).1]
  refine ⟨hie, hik, wm_if (wm_RW _ _) (fun n => ⟨hik, wx_ends (wm_op_lt _) (fun l => br_f wm_10 (r100 (Or.inr l))) (fun l => br_t rfl (wx_lb111 hk he hD hC hb (by omega) (wm_gtriv hB fun c => ⟨fun z => absurd z n, fun z => absurd z l⟩) h))⟩) (fun n => r100 (Or.inl (Classical.not_not.mp n)))⟩
theorem wx_lb40 (hk : k < 8) (he : e < k) (hD : wm_PD I (k + 1) xo xh xi xj) (hC : wm_PC C k xc) (hb : C e ≤ 200) {B : Nat} (hB1 : B ≤ 400) {Q : Nat → Prop} (hB : ∀ c, B ≤ c ↔ Q c)
    (h : ∀ B', (∀ c, B' ≤ c ↔ (((Q c ∧ ((∃ r, wm_Wr (I e) r ∧ wm_Wr (I k) r) → C e + wm_lat (wm_op (I e)) < c + wm_lat (wm_op (I k)))) ∧ (((∃ r, wm_Rd (I e) r ∧ wm_Wr (I k) r) → C e ≤ c) ∧ (wm_last (wm_op (I k)) → C e ≤ c))) ∧ (wm_mo (wm_op (I e)) (wm_op (I k)) → C e < c))) → post (nI B')) :
    wX_leastBehind_40 post (nI e) (nI k) (nI B) (nI (C e + wm_lat (wm_op (I e)))) xpc xwn xkc xps xpn xpt xta xtm xbm xbf xbb xid xr xw xs xl xo xh xi xj xc := by
  have hie : vp_in (nI e) 8 := vp_in_nI (by omega) (by decide)
  have hik : vp_in (nI k) 8 := vp_in_nI hk (by decide)
  have hle := wm_lat_r (wm_op (I e))
  have hlk := wm_lat_r (wm_op (I k))
  unfold wX_leastBehind_40
  rw [nI_clamp (n := e) (by omega), nI_clamp (n := k) (by omega), (hD e (by omega)).2.2.2, (hD k (by omega)).2.2.2, (hD k (by omega)).2.1, nI_1]
  refine ⟨hie, hik, wm_if (wm_WW _ _) (fun n => wx_lb72 hk he hD hC hb (by omega) (wm_gtriv hB fun c z => absurd z n) h) (fun n => ⟨hik, ?_⟩)⟩
  have hp := Classical.not_not.mp n
  have hG := wm_gmax hB (x := C e + wm_lat (wm_op (I e)) + 1 - wm_lat (wm_op (I k))) (R := fun c => (∃ r, wm_Wr (I e) r ∧ wm_Wr (I k) r) → C e + wm_lat (wm_op (I e)) < c + wm_lat (wm_op (I k))) (wm_imp hp fun c => by omega)
  by_cases hge : wm_lat (wm_op (I k)) ≤ C e + wm_lat (wm_op (I e)) + 1
  · rw [pk_sub hge]
    exact wx_max (by omega) (by omega) (wx_lb72 hk he hD hC hb (by omega) hG h)
  · have hz : C e + wm_lat (wm_op (I e)) + 1 - wm_lat (wm_op (I k)) = 0 := by omega
    rw [hz, Nat.max_eq_left (Nat.zero_le B)] at hG
    have hneg : nI (C e + wm_lat (wm_op (I e)) + 1) - nI (wm_lat (wm_op (I k))) < 0 := pk_sneg (by omega) (by omega)
    refine br_f (fun z => ?_) (wx_lb72 hk he hD hC hb (by omega) hG h)
    exact nI_pos (n := B) (by omega) (Int32.lt_of_le_of_lt z hneg)
theorem wx_lb (hk : k < 8) (he : e < k) (hD : wm_PD I (k + 1) xo xh xi xj) (hC : wm_PC C k xc) (hb : C e ≤ 200)
    (h : ∀ B, (∀ c, B ≤ c ↔ (1 ≤ c ∧ wm_DJ I C k c e)) → post (nI B)) : wpX_leastBehind post (xpc, xwn, xkc, xps, xpn, xpt, xta, xtm, xbm, xbf, xbb, xid, xr, xw, xs, xl, xo, xh, xi, xj, xc) (nI e) (nI k) := by
  have hie : vp_in (nI e) 8 := vp_in_nI (by omega) (by decide)
  have hik : vp_in (nI k) 8 := vp_in_nI hk (by decide)
  have hle := wm_lat_r (wm_op (I e))
  have hh : ∀ B', (∀ c, B' ≤ c ↔ ((((1 ≤ c ∧ ((∃ r, wm_Wr (I e) r ∧ wm_Rd (I k) r) → C e + wm_lat (wm_op (I e)) ≤ c)) ∧ ((∃ r, wm_Wr (I e) r ∧ wm_Wr (I k) r) → C e + wm_lat (wm_op (I e)) < c + wm_lat (wm_op (I k)))) ∧ (((∃ r, wm_Rd (I e) r ∧ wm_Wr (I k) r) → C e ≤ c) ∧ (wm_last (wm_op (I k)) → C e ≤ c))) ∧ (wm_mo (wm_op (I e)) (wm_op (I k)) → C e < c))) → post (nI B') := by
    intro B' hB'
    refine h B' fun c => Iff.trans (hB' c) ⟨?_, ?_⟩
    · rintro ⟨⟨⟨⟨a1, a2⟩, a3⟩, a4, a5⟩, a6⟩
      exact ⟨a1, a2, a3, a4, a5, a6⟩
    · rintro ⟨a1, a2, a3, a4, a5, a6⟩
      exact ⟨⟨⟨⟨a1, a2⟩, a3⟩, a4, a5⟩, a6⟩
  unfold wpX_leastBehind
  dsimp only
  rw [nI_clamp (n := e) (by omega), nI_clamp (n := k) (by omega), (hD e (by omega)).2.2.2, (hD e (by omega)).2.1, (hD k (by omega)).2.2.1, hC e he, nI_add]
  refine ⟨hie, hie, nm_e ⟨hie, hik, wm_if (wm_WR _ _) (fun n => wx_lb40 hk he hD hC hb (B := 1) (by omega) (wm_gtriv (fun c => Iff.rfl) fun c z => absurd z n) hh) (fun n => ?_)⟩⟩
  exact wx_max (a := 1) (by omega) (by omega) (wx_lb40 hk he hD hC hb (by omega) (wm_gmax (fun c => Iff.rfl) (wm_imp (Classical.not_not.mp n) fun c => Iff.rfl)) hh)
end LB
theorem wx_lc_l {I : Nat → Int32} {wd : Nat} {C : Nat → Nat} {n k : Nat} {post : Int32 → Prop} (hS : wm_Sch I wd C n) (hn : n ≤ 8) (hk : k < n) (hD : wm_PD I (k + 1) xo xh xi xj) (hC : wm_PC C k xc)
    (h : ∀ L, wm_Lst I C k k L → post (nI L)) : ∀ d e L, e + d = k → wm_Lst I C k e L → wX_leastCycle_4 post (nI k) xpc xwn xkc xps xpn xpt xta xtm xbm xbf xbb xid xr xw xs xl xo xh xi xj xc (d + 1) (nI L) (nI e) := by
  intro d
  induction d with
  | zero =>
    intro e L he hL
    have : e = k := by omega
    subst this
    exact br_t (nI_le (Nat.le_refl e) (by omega)) (h L hL)
  | succ d ih =>
    intro e L he hL
    have hb := (wm_C1 hS (j := e) (by omega)).2
    have hLb := wm_Lst_b hS (by omega) hL
    refine br_f (nI_ge (by omega) (by omega)) (wx_lb (by omega) (by omega) hD hC (by omega) fun B hB => ?_)
    have hBb : B ≤ 16 * e + 10 := (hB _).mpr ⟨by omega, wm_DJ_big hS (by omega) (Nat.le_refl _)⟩
    exact wx_max (by omega) (by omega) (nm_r (nI_1 e) (ih (e + 1) _ (by omega) (wm_Lst_s hL hB)))
theorem wx_lc {I : Nat → Int32} {wd : Nat} {C : Nat → Nat} {n k : Nat} {post : Int32 → Prop} (hS : wm_Sch I wd C n) (hn : n ≤ 8) (hk : k < n) (hD : wm_PD I (k + 1) xo xh xi xj) (hC : wm_PC C k xc)
    (h : ∀ L, wm_Lst I C k k L → post (nI L)) : wpX_leastCycle post (xpc, xwn, xkc, xps, xpn, xpt, xta, xtm, xbm, xbf, xbb, xid, xr, xw, xs, xl, xo, xh, xi, xj, xc) (nI k) :=
  ⟨k + 1, wx_lc_l hS hn hk hD hC h k 0 1 (by omega) (wm_Lst_0 I C k)⟩

/-! room -/
theorem wm_cnt_le (C : Nat → Nat) (c : Nat) : ∀ k, wm_cnt C c k ≤ k := by
  intro k
  induction k with
  | zero => exact Nat.le_refl 0
  | succ k ih =>
    simp only [wm_cnt]
    split <;> omega
theorem wx_room_l {I : Nat → Int32} {wd : Nat} {C : Nat → Nat} {n k c : Nat} {post : Int32 → Prop} (hS : wm_Sch I wd C n) (hn : n ≤ 8) (hk : k < n) (hw : wd ≤ 4) (hc : c ≤ 1000) (hD : wm_PD I (k + 1) xo xh xi xj) (hC : wm_PC C k xc) (hx : xwn = nI wd)
    (h1 : wm_Room I wd C k c → post 1) (h0 : ¬ wm_Room I wd C k c → post 0) : ∀ d e, e + d = k → (∀ j, j < e → C j = c → ¬ wm_su (wm_op (I j)) (wm_op (I k))) → wX_hasRoom_5 post (nI k) (nI c) xpc xwn xkc xps xpn xpt xta xtm xbm xbf xbb xid xr xw xs xl xo xh xi xj xc (d + 1) (nI (wm_cnt C c e)) (nI e) := by
  intro d
  induction d with
  | zero =>
    intro e he hu
    have : e = k := by omega
    subst this
    have hcl := wm_cnt_le C c e
    refine br_t (nI_le (Nat.le_refl e) (by omega)) ?_
    rw [hx]
    exact pk_le wd (wm_cnt C c e) (fun z => h0 fun r => by have := r.1; omega) (fun z => h1 ⟨z, hu⟩)
  | succ d ih =>
    intro e he hu
    have hb := (wm_C1 hS (j := e) (by omega)).2
    have hie : vp_in (nI e) 8 := vp_in_nI (by omega) (by decide)
    have hik : vp_in (nI k) 8 := vp_in_nI (by omega) (by decide)
    refine br_f (nI_ge (by omega) (by omega)) ?_
    rw [nI_clamp (n := e) (by omega), nI_clamp (n := k) (by omega), (hD e (by omega)).1, (hD k (by omega)).1, hC e (by omega)]
    refine ⟨hie, pk_eq (C e) c (fun z => ?_) (fun z => ?_)⟩
    · have e1 : wm_cnt C c (e + 1) = wm_cnt C c e + 1 := by simp only [wm_cnt]; rw [if_pos z]
      refine nm_r (nI_1 _) ⟨hie, hik, wx_su (wm_op_lt _) (wm_op_lt _) (fun s => br_f wm_10 (h0 fun r => r.2 e (by omega) z s)) (fun s => br_t rfl (nm_r (nI_1 e) ?_))⟩
      rw [← e1]
      exact ih (e + 1) (by omega) (lt_s hu fun _ => s)
    · have e1 : wm_cnt C c (e + 1) = wm_cnt C c e := by simp only [wm_cnt]; rw [if_neg z]; rfl
      refine nm_r (nI_1 e) ?_
      rw [← e1]
      exact ih (e + 1) (by omega) (lt_s hu fun y => absurd y z)
theorem wx_room {I : Nat → Int32} {wd : Nat} {C : Nat → Nat} {n k c : Nat} {post : Int32 → Prop} (hS : wm_Sch I wd C n) (hn : n ≤ 8) (hk : k < n) (hw : wd ≤ 4) (hc : c ≤ 1000) (hD : wm_PD I (k + 1) xo xh xi xj) (hC : wm_PC C k xc) (hx : xwn = nI wd)
    (h1 : wm_Room I wd C k c → post 1) (h0 : ¬ wm_Room I wd C k c → post 0) : wpX_hasRoom post (xpc, xwn, xkc, xps, xpn, xpt, xta, xtm, xbm, xbf, xbb, xid, xr, xw, xs, xl, xo, xh, xi, xj, xc) (nI k) (nI c) :=
  ⟨k + 1, wx_room_l hS hn hk hw hc hD hC hx h1 h0 k 0 (by omega) lt_0⟩
theorem wx_fwr_l {I : Nat → Int32} {wd : Nat} {C : Nat → Nat} {n k L : Nat} {post : Int32 → Prop} (hS : wm_Sch I wd C n) (hn : n ≤ 8) (hk : k < n) (hw1 : 1 ≤ wd) (hw : wd ≤ 4) (hL : wm_Lst I C k k L) (hD : wm_PD I (k + 1) xo xh xi xj) (hC : wm_PC C k xc) (hx : xwn = nI wd)
    (h : post (nI (C k))) : ∀ d t, t + d = k → (∀ s, s < t → ¬ wm_Room I wd C k (L + s)) → wX_firstWithRoom_5 post (nI k) xpc xwn xkc xps xpn xpt xta xtm xbm xbf xbb xid xr xw xs xl xo xh xi xj xc (d + 1) (nI (L + t)) (nI t) := by
  have hLb := wm_Lst_b hS (by omega) hL
  intro d
  induction d with
  | zero =>
    intro t ht h0
    have : t = k := by omega
    subst this
    rw [wm_first hS hk hL h0 (wm_lastTry hw1 h0)] at h
    exact br_t (nI_le (Nat.le_refl t) (by omega)) h
  | succ d ih =>
    intro t ht h0
    refine br_f (nI_ge (by omega) (by omega)) (wx_room hS hn hk hw (by omega) hD hC hx (fun r => br_f wm_10 ?_) (fun r => br_t rfl (nm_r (nI_1 _) (nm_r (nI_1 t) (ih (t + 1) (by omega) (lt_s h0 r))))))
    rw [wm_first hS hk hL h0 r] at h
    exact h
theorem wx_fwr {I : Nat → Int32} {wd : Nat} {C : Nat → Nat} {n k L : Nat} {post : Int32 → Prop} (hS : wm_Sch I wd C n) (hn : n ≤ 8) (hk : k < n) (hw1 : 1 ≤ wd) (hw : wd ≤ 4) (hL : wm_Lst I C k k L) (hD : wm_PD I (k + 1) xo xh xi xj) (hC : wm_PC C k xc) (hx : xwn = nI wd)
    (h : post (nI (C k))) : wpX_firstWithRoom post (xpc, xwn, xkc, xps, xpn, xpt, xta, xtm, xbm, xbf, xbb, xid, xr, xw, xs, xl, xo, xh, xi, xj, xc) (nI k) (nI L) :=
  ⟨k + 1, wx_fwr_l hS hn hk hw1 hw hL hD hC hx h k 0 (by omega) lt_0⟩

/-! the whole plan -/
theorem wm_PD_s {I : Nat → Int32} {k : Nat} (hD : wm_PD I k xo xh xi xj) : wm_PD I (k + 1) (upd xo k (nI (wm_op (I k)))) (upd xh k (nI (wm_lat (wm_op (I k))))) (upd xi k (wm_mR (I k))) (upd xj k (wm_mW (I k))) := by
  intro j hj
  by_cases e : j = k
  · subst e
    exact ⟨pk_us, pk_us, pk_us, pk_us⟩
  · rw [pk_un e, pk_un e, pk_un e, pk_un e]
    exact hD j (by omega)
theorem wm_PC_s {C : Nat → Nat} {k : Nat} (hC : wm_PC C k xc) : wm_PC C (k + 1) (upd xc k (nI (C k))) := by
  intro j hj
  by_cases e : j = k
  · subst e
    exact pk_us
  · rw [pk_un e]
    exact hC j (by omega)
theorem wx_plan_l {wd s : Nat} {C : Nat → Nat} {post : SX → Prop} (hs : s < 64) (hS : wm_Sch (wm_I xw s) wd C (wm_len xw s)) (hw1 : 1 ≤ wd) (hw : wd ≤ 4) (hx : xwn = nI wd)
    (h : ∀ xo xh xi xj xc, wm_PD (wm_I xw s) (wm_len xw s) xo xh xi xj → wm_PC C (wm_len xw s) xc → post (xpc, xwn, xkc, nI s, nI (wm_len xw s), nI (wm_tm (wm_I xw s) C (wm_len xw s)), xta, xtm, xbm, xbf, xbb, xid, xr, xw, xs, xl, xo, xh, xi, xj, xc)) :
    ∀ d k (xo xh xi xj xc : Nat → Int32), k + d = wm_len xw s → wm_PD (wm_I xw s) k xo xh xi xj → wm_PC C k xc → wX_planBlock_21 post (nI s) (d + 1) (nI k) xpc xwn xkc (nI s) (nI (wm_len xw s)) (nI (wm_tm (wm_I xw s) C k)) xta xtm xbm xbf xbb xid xr xw xs xl xo xh xi xj xc := by
  have hr := wm_len_r xw hs
  intro d
  induction d with
  | zero =>
    intro k xo xh xi xj xc hk hD hC
    have e : k = wm_len xw s := by omega
    rw [e]
    exact br_t (nI_le (Nat.le_refl _) (by omega)) (h _ _ _ _ _ (e ▸ hD) (e ▸ hC))
  | succ d ih =>
    intro k xo xh xi xj xc hk hD hC
    have hik : vp_in (nI k) 8 := vp_in_nI (by omega) (by decide)
    have hl := wm_lat_r (wm_op (xw (s + k)))
    have hc := wm_C1 hS (j := k) (by omega)
    have ht := wm_tm_b hS k (by omega)
    refine br_f (nI_ge (by omega) (by omega)) ?_
    rw [nI_add, nI_clamp (n := s + k) (by omega)]
    refine ⟨vp_in_nI (by omega) (by decide), wx_decode (by omega) (wx_lc (I := wm_I xw s) (n := wm_len xw s) hS hr.2.1 (by omega) (wm_PD_s hD) hC fun L hL => ?_)⟩
    refine wx_fwr (I := wm_I xw s) (n := wm_len xw s) hS hr.2.1 (by omega) hw1 hw hL (wm_PD_s hD) hC hx ?_
    rw [nI_clamp (n := k) (by omega)]
    refine ⟨hik, nm_e ⟨hik, hik, ?_⟩⟩
    rw [pk_us, pk_us, nI_add, show (1 : Int32) = nI 1 from rfl, pk_sub (by omega)]
    exact wx_max (by omega) (by omega) (nm_r (nI_1 k) (ih (k + 1) _ _ _ _ _ (by omega) (wm_PD_s hD) (wm_PC_s hC)))
theorem wx_plan {wd s : Nat} {C : Nat → Nat} {post : SX → Prop} (hs : s < 64) (hS : wm_Sch (wm_I xw s) wd C (wm_len xw s)) (hw1 : 1 ≤ wd) (hw : wd ≤ 4) (hx : xwn = nI wd)
    (h : ∀ xo xh xi xj xc, wm_PD (wm_I xw s) (wm_len xw s) xo xh xi xj → wm_PC C (wm_len xw s) xc → post (xpc, xwn, xkc, nI s, nI (wm_len xw s), nI (wm_tm (wm_I xw s) C (wm_len xw s)), xta, xtm, xbm, xbf, xbb, xid, xr, xw, xs, xl, xo, xh, xi, xj, xc)) :
    wpX_planBlock post (xpc, xwn, xkc, xps, xpn, xpt, xta, xtm, xbm, xbf, xbb, xid, xr, xw, xs, xl, xo, xh, xi, xj, xc) (nI s) :=
  wx_len (xps := nI s) hs ⟨wm_len xw s + 1, wx_plan_l hs hS hw1 hw hx h _ 0 xo xh xi xj xc (by omega) (fun j hj => absurd hj (Nat.not_lt_zero j)) (fun j hj => absurd hj (Nat.not_lt_zero j))⟩
end XPLAN
