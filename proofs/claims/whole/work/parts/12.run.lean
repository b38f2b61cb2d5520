/-! A block from its beginning, and a run -/
section YGO
variable {ypc ywd ymn yct : Int32} {yr yw yc yb yy : Nat → Int32}
theorem wy_86 {post : Int32 → SY → Prop} {s wd : Nat} {C : Nat → Nat} {A : List Nat} (hs : s < 64) (hS : wm_Sch (wm_I yw s) wd C (wm_len yw s)) (hw : ywd = nI wd) (hw4 : wd ≤ 4) (hA : A.length < 4) (hk : ymn = nI A.length) (hR : wm_R nI yb A)
    (h : ∀ yb yy : Nat → Int32, wm_R nI yb (s :: A) → wm_PC C (wm_len yw s) yy → wY_go_155 post (nI s) (nI (wm_len yw s)) (nI (wm_tm (wm_I yw s) C (wm_len yw s))) (nI (s + wm_len yw s - 1)) (nI (wm_op (yw (s + wm_len yw s - 1)))) (nI (wm_a (yw (s + wm_len yw s - 1)))) (nI (wm_t ((yw (s + wm_len yw s - 1)) >>> ((13 : Int32) &&& 31)))) (wm_len yw s + 1) (nI 0) ypc ywd (nI (A.length + 1)) 0 yr yw (upd yc 4 (yc 4 + 1)) yb yy) :
    wY_go_86 post (nI s) (nI (wm_len yw s)) ypc ywd ymn yct yr yw yc yb yy := by
  have hr := wm_len_r yw hs
  unfold wY_go_86
  refine wy_fi hA hk hR (fun yb' hR' => nm_e (wy_sch hs hS hw hw4 (fun yy' hC' => wy_time hs hS hC' (nm_r (e' := nI (s + wm_len yw s - 1)) ?_ (wy_op (by omega) (wy_a (by omega) (wy_n (by omega) (nm_r (wm_t_e _) ⟨_, h yb' yy' hR' hC'⟩))))))))
  rw [nI_add, show (1 : Int32) = nI 1 from rfl, pk_sub (by omega)]
theorem wy_go_f {post : Int32 → SY → Prop} {s wd : Nat} {C : Nat → Nat} {A B : List Nat} (hs : s < 64) (hS : wm_Sch (wm_I yw s) wd C (wm_len yw s)) (hw : ywd = nI wd) (hw4 : wd ≤ 4) (hl : wm_L (A ++ s :: B)) (hR : wm_R nI yb (A ++ s :: B)) (hA : s ∉ A)
    (h : ∀ yb yy : Nat → Int32, wm_R nI yb (s :: (A ++ B)) → wm_PC C (wm_len yw s) yy → wY_go_155 post (nI s) (nI (wm_len yw s)) (nI (wm_tm (wm_I yw s) C (wm_len yw s))) (nI (s + wm_len yw s - 1)) (nI (wm_op (yw (s + wm_len yw s - 1)))) (nI (wm_a (yw (s + wm_len yw s - 1)))) (nI (wm_t ((yw (s + wm_len yw s - 1)) >>> ((13 : Int32) &&& 31)))) (wm_len yw s + 1) (nI 0) (nI s) ywd (nI (s :: (A ++ B)).length) 0 yr yw (upd (upd yc 3 (yc 3 + 1)) 4 (upd yc 3 (yc 3 + 1) 4 + 1)) yb yy) :
    wpY_go post (nI s, ywd, nI (A ++ s :: B).length, yct, yr, yw, yc, yb, yy) := by
  have hlen : A.length + (B.length + 1) ≤ 4 := by have := hl.1; rw [List.length_append, List.length_cons] at this; exact this
  unfold wpY_go
  refine wy_pl_f hs hl rfl hR hA (wy_len hs (br_f (nI_pos (by omega)) (nm_e (wy_fg hl.1 rfl hR fun yb' hR' => ?_))))
  exact wy_86 hs hS hw hw4 (by rw [List.length_append]; omega) rfl hR' h
theorem wy_go_n {post : Int32 → SY → Prop} {s wd : Nat} {C : Nat → Nat} {l A : List Nat} (hs : s < 64) (hS : wm_Sch (wm_I yw s) wd C (wm_len yw s)) (hw : ywd = nI wd) (hw4 : wd ≤ 4) (hl : wm_L l) (hR : wm_R nI yb l) (hA : s ∉ l) (hlA : (l = A ∧ A.length < 4) ∨ (∃ b, l = A ++ [b] ∧ A.length = 3)) (ct : Nat → Int32)
    (hct : ct = upd (upd (upd yc 0 (yc 0 + 3 * nI (wm_len yw s))) 1 (upd yc 0 (yc 0 + 3 * nI (wm_len yw s)) 1 + 3 * nI (wm_len yw s))) 2 (upd (upd yc 0 (yc 0 + 3 * nI (wm_len yw s))) 1 (upd yc 0 (yc 0 + 3 * nI (wm_len yw s)) 1 + 3 * nI (wm_len yw s)) 2 + 1))
    (h : ∀ yb yy : Nat → Int32, wm_R nI yb (s :: A) → wm_PC C (wm_len yw s) yy → wY_go_155 post (nI s) (nI (wm_len yw s)) (nI (wm_tm (wm_I yw s) C (wm_len yw s))) (nI (s + wm_len yw s - 1)) (nI (wm_op (yw (s + wm_len yw s - 1)))) (nI (wm_a (yw (s + wm_len yw s - 1)))) (nI (wm_t ((yw (s + wm_len yw s - 1)) >>> ((13 : Int32) &&& 31)))) (wm_len yw s + 1) (nI 0) (nI s) ywd (nI (s :: A).length) 0 yr yw (upd ct 4 (ct 4 + 1)) yb yy) :
    wpY_go post (nI s, ywd, nI l.length, yct, yr, yw, yc, yb, yy) := by
  subst hct
  unfold wpY_go
  refine wy_pl_n hs hl rfl hR hA (wy_len hs (br_t wm_m10 (nm_e (nm_e (nm_e ?_)))))
  rcases hlA with ⟨e, h4⟩ | ⟨b, e, h3⟩
  · subst e
    exact br_f (fun z => by have := (nI_eq (b := 4) (by omega) (by decide)).mp z; omega) (wy_86 hs hS hw hw4 h4 rfl hR h)
  · subst e
    have e4 : (A ++ [b]).length = 4 := by rw [List.length_append, h3]; rfl
    rw [e4]
    exact br_t rfl (wy_86 hs hS hw hw4 (by omega) (by rw [h3]; rfl) (wm_R_app.mp hR).1 h)
end YGO
theorem wm_block {g w ct : Nat → Int32} {s wd : Nat} {l : List Nat} (hs : s < 64) (hw1 : 1 ≤ wd) (hw4 : wd ≤ 4) (hl : wm_L l) :
    ∃ (g' w' ct' : Nat → Int32) (pc' : Nat) (l' : List Nat) (rX rY : Int32), pc' < 64 ∧ wm_L l' ∧ ((rX = -2 ∧ rY = -1) ∨ (rX = rY ∧ ¬ rX = -2 ∧ ¬ rY < 0)) ∧
    (∀ (postP postB : SX → Prop) (postD : Int32 → SX → Prop), (∀ {xpc xwn xkc xps xpn xpt xta xtm xbm xbf xbb xid : Int32} {xr xw xs xl xo xh xi xj xc : Nat → Int32}, wpX_beginPlanned postB (xpc, xwn, xkc, xps, xpn, xpt, xta, xtm, xbm, xbf, xbb, xid, xr, xw, xs, xl, xo, xh, xi, xj, xc) → postP (xpc, xwn, xkc, xps, xpn, xpt, xta, xtm, xbm, xbf, xbb, xid, xr, xw, xs, xl, xo, xh, xi, xj, xc)) → (∀ {xpc xwn xkc xps xpn xpt xta xtm xbm xbf xbb xid : Int32} {xr xw xs xl xo xh xi xj xc : Nat → Int32}, wpX_doPlanned postD (xpc, xwn, xkc, xps, xpn, xpt, xta, xtm, xbm, xbf, xbb, xid, xr, xw, xs, xl, xo, xh, xi, xj, xc) → postB (xpc, xwn, xkc, xps, xpn, xpt, xta, xtm, xbm, xbf, xbb, xid, xr, xw, xs, xl, xo, xh, xi, xj, xc)) → (∀ u', wm_PX g' w' pc' wd l' ct' u' → postD rX u') →
      ∀ (xps xpn xpt : Int32) (xs xl xo xh xi xj xc : Nat → Int32), wm_K w xs xl l → wpX_planBlock postP (nI s, nI wd, nI l.length, xps, xpn, xpt, ct 0, ct 1, ct 2, ct 3, ct 4, ct 5, g, w, xs, xl, xo, xh, xi, xj, xc) (nI s)) ∧
    (∀ post : Int32 → SY → Prop, (∀ v', wm_PY g' w' pc' wd l' ct' v' → post rY v') → ∀ (yct : Int32) (yb yy : Nat → Int32), wm_R nI yb l → wpY_go post (nI s, nI wd, nI l.length, yct, g, w, ct, yb, yy)) := by
  have hr := wm_len_r w hs
  obtain ⟨C, hS⟩ := wm_Sch_ex (wm_I w s) hw1 (wm_len w s)
  rcases wm_cut s l with ⟨A, B, rfl, hA⟩ | hA
  · have hlen : (A ++ s :: B).length = (s :: (A ++ B)).length := by rw [List.length_append, List.length_cons, List.length_cons, List.length_append]; omega
    have hl1 : wm_L (s :: (A ++ B)) := by
      refine ⟨by rw [← hlen]; exact hl.1, fun x hx => ?_⟩
      rcases List.mem_cons.mp hx with e | hx
      · rw [e]; exact hs
      · rcases List.mem_append.mp hx with hx | hx
        · exact hl.2 x (List.mem_append_left _ hx)
        · exact hl.2 x (List.mem_append_right _ (List.mem_cons_of_mem _ hx))
    obtain ⟨g', w', ct', pc', l', rX, rY, a1, a2, a3, aX, aY⟩ := wm_exec (wd := wd) (T := wm_tm (wm_I w s) C (wm_len w s)) (C := C) (w0 := w) hr.1 hr.2.1 hr.2.2 (fun j hj => wm_len_n w hj) (wm_len w s) 0 g w (upd (upd ct 3 (ct 3 + 1)) 4 (upd ct 3 (ct 3 + 1) 4 + 1)) (s :: (A ++ B)) (by omega) (fun i _ _ => rfl) hl1
    refine ⟨g', w', ct', pc', l', rX, rY, a1, a2, a3, fun postP postB postD h1 h2 h3 xps xpn xpt xs xl xo xh xi xj xc hK => ?_, fun post hp yct yb yy hR => ?_⟩
    · refine wx_plan hs hS hw1 hw4 rfl (fun xo' xh' xi' xj' xc' hD hC => h1 (wx_beg_f hs hl rfl hK hA rfl rfl (fun xs' xl' hK' => h2 ⟨wm_len w s + 1, ?_⟩)))
      rw [hlen]
      exact aX postD h3 _ xs' xl' xo' xh' xi' xj' xc' (fun e => absurd e (by omega)) hK' (fun i hi => (hD i hi).1) hC
    · exact wy_go_f hs hS rfl hw4 hl hR hA (fun yb' yy' hR' hC' => aY post hp _ yb' yy' hR' hC')
  · obtain ⟨A, hlA⟩ : ∃ A : List Nat, (l = A ∧ A.length < 4) ∨ (∃ b, l = A ++ [b] ∧ A.length = 3) := by
      by_cases h4 : l.length < 4
      · exact ⟨l, Or.inl ⟨rfl, h4⟩⟩
      · obtain ⟨A, b, e, h3⟩ := wm_snoc (A := l) (n := 3) (by have := hl.1; omega)
        exact ⟨A, Or.inr ⟨b, e, h3⟩⟩
    have hl1 : wm_L (s :: A) := by
      constructor
      · rw [List.length_cons]
        rcases hlA with ⟨_, e⟩ | ⟨b, _, e⟩ <;> omega
      · intro x hx
        rcases List.mem_cons.mp hx with e | hx
        · rw [e]; exact hs
        · rcases hlA with ⟨e, _⟩ | ⟨b, e, _⟩
          · exact hl.2 x (e ▸ hx)
          · exact hl.2 x (by rw [e]; exact List.mem_append_left _ hx)
    obtain ⟨c3, hc3⟩ : ∃ c3, c3 = upd (upd (upd ct 0 (ct 0 + 3 * nI (wm_len w s))) 1 (upd ct 0 (ct 0 + 3 * nI (wm_len w s)) 1 + 3 * nI (wm_len w s))) 2 (upd (upd ct 0 (ct 0 + 3 * nI (wm_len w s))) 1 (upd ct 0 (ct 0 + 3 * nI (wm_len w s)) 1 + 3 * nI (wm_len w s)) 2 + 1) := ⟨_, rfl⟩
    obtain ⟨g', w', ct', pc', l', rX, rY, a1, a2, a3, aX, aY⟩ := wm_exec (wd := wd) (T := wm_tm (wm_I w s) C (wm_len w s)) (C := C) (w0 := w) hr.1 hr.2.1 hr.2.2 (fun j hj => wm_len_n w hj) (wm_len w s) 0 g w (upd c3 4 (c3 4 + 1)) (s :: A) (by omega) (fun i _ _ => rfl) hl1
    refine ⟨g', w', ct', pc', l', rX, rY, a1, a2, a3, fun postP postB postD h1 h2 h3 xps xpn xpt xs xl xo xh xi xj xc hK => ?_, fun post hp yct yb yy hR => ?_⟩
    · refine wx_plan hs hS hw1 hw4 rfl (fun xo' xh' xi' xj' xc' hD hC => h1 (wx_beg_n hs hl rfl hK hA rfl rfl hlA (fun xs' xl' hK' => h2 ⟨wm_len w s + 1, ?_⟩)))
      have := aX postD h3 (nI s) xs' xl' xo' xh' xi' xj' xc' (fun e => absurd e (by omega)) hK' (fun i hi => (hD i hi).1) hC
      rw [hc3] at this
      exact this
    · exact wy_go_n hs hS rfl hw4 hl hR hA hlA c3 hc3 (fun yb' yy' hR' hC' => aY post hp _ yb' yy' hR' hC')
theorem wm_run {wd : Nat} (hw1 : 1 ≤ wd) (hw4 : wd ≤ 4) : ∀ (d n : Nat) (g w ct : Nat → Int32) (s : Nat) (l : List Nat), n + d = 100 → s < 64 → wm_L l →
    ∃ (g' w' ct' : Nat → Int32) (pc' : Nat) (l' : List Nat) (r : Int32), pc' < 64 ∧ wm_L l' ∧
    (∀ post : Int32 → SX → Prop, (∀ u', wm_PX g' w' pc' wd l' ct' u' → post r u') → ∀ (xps xpn xpt : Int32) (xs xl xo xh xi xj xc : Nat → Int32), wm_K w xs xl l → wX_run_13 post (d + 1) (nI n) (nI s) (nI wd) (nI l.length) xps xpn xpt (ct 0) (ct 1) (ct 2) (ct 3) (ct 4) (ct 5) g w xs xl xo xh xi xj xc) ∧
    (∀ post : Int32 → SY → Prop, (∀ v', wm_PY g' w' pc' wd l' ct' v' → post r v') → ∀ (yct : Int32) (yb yy : Nat → Int32), wm_R nI yb l → wY_run_15 post (d + 1) (nI n) (nI s) (nI wd) (nI l.length) yct g w ct yb yy) := by
  intro d
  induction d with
  | zero =>
    intro n g w ct s l hn hs hl
    have e : n = 100 := by omega
    subst e
    refine ⟨g, w, ct, s, l, 4, hs, hl, fun post hp xps xpn xpt xs xl xo xh xi xj xc hK => ?_, fun post hp yct yb yy hR => ?_⟩
    · exact br_t (nI_le (a := 100) (b := 100) (Nat.le_refl 100) (by decide)) (hp _ ⟨_, _, _, _, _, _, _, _, _, _, rfl, hK⟩)
    · exact br_t (nI_le (a := 100) (b := 100) (Nat.le_refl 100) (by decide)) (hp _ ⟨_, _, _, rfl, hR⟩)
  | succ d ih =>
    intro n g w ct s l hn hs hl
    have hn100 : ¬ (100 : Int32) ≤ nI n := nI_ge (b := 100) (by omega) (by decide)
    obtain ⟨g1, w1, ct1, s1, l1, rX, rY, a1, a2, a3, aX, aY⟩ := wm_block (g := g) (w := w) (ct := ct) hs hw1 hw4 hl
    rcases a3 with ⟨e1, e2⟩ | ⟨e1, e2, e3⟩
    · subst e1 e2
      obtain ⟨g', w', ct', pc', l', r, b1, b2, bX, bY⟩ := ih (n + 1) g1 w1 ct1 s1 l1 (by omega) a1 a2
      refine ⟨g', w', ct', pc', l', r, b1, b2, fun post hp xps xpn xpt xs xl xo xh xi xj xc hK => ?_, fun post hp yct yb yy hR => ?_⟩
      · refine br_f hn100 (aX _ _ _ (fun h => h) (fun h => h) (fun u' hu' => ?_) xps xpn xpt xs xl xo xh xi xj xc hK)
        obtain ⟨_, _, _, _, _, _, _, _, _, _, rfl, hK'⟩ := hu'
        exact br_t rfl (nm_r (nI_1 n) (bX post hp _ _ _ _ _ _ _ _ _ _ hK'))
      · refine br_f hn100 (aY _ (fun v' hv' => ?_) yct yb yy hR)
        obtain ⟨_, _, _, rfl, hR'⟩ := hv'
        exact br_t wm_m10 (nm_r (nI_1 n) (bY post hp _ _ _ hR'))
    · subst e1
      refine ⟨g1, w1, ct1, s1, l1, rX, a1, a2, fun post hp xps xpn xpt xs xl xo xh xi xj xc hK => ?_, fun post hp yct yb yy hR => ?_⟩
      · refine br_f hn100 (aX _ _ _ (fun h => h) (fun h => h) (fun u' hu' => ?_) xps xpn xpt xs xl xo xh xi xj xc hK)
        obtain ⟨_, _, _, _, _, _, _, _, _, _, rfl, hK'⟩ := hu'
        exact br_f e2 (hp _ ⟨_, _, _, _, _, _, _, _, _, _, rfl, hK'⟩)
      · refine br_f hn100 (aY _ (fun v' hv' => ?_) yct yb yy hR)
        obtain ⟨_, _, _, rfl, hR'⟩ := hv'
        exact br_f e3 (hp _ ⟨_, _, _, rfl, hR'⟩)
