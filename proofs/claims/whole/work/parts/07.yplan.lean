/-! Y: what fits, the schedule, the time -/
section YPLAN
variable {ypc ywd ymn yct : Int32} {yr yw yc yb yy : Nat → Int32}
def wm_RF (I : Nat → Int32) (C : Nat → Nat) (k c r : Nat) : Prop :=
  (∀ j, j < k → wm_Wr (I k) r → ((wm_Wr (I j) r → C j + wm_lat (wm_op (I j)) < c + wm_lat (wm_op (I k))) ∧ (wm_Rd (I j) r → C j ≤ c))) ∧
  (wm_Rd (I k) r → ∀ j, j < k → wm_Wr (I j) r → C j + wm_lat (wm_op (I j)) ≤ c)
def wm_G (I : Nat → Int32) (C : Nat → Nat) (k c j : Nat) : Prop :=
  (wm_mo (wm_op (I j)) (wm_op (I k)) → C j < c) ∧ (wm_last (wm_op (I k)) → C j ≤ c) ∧ (C j = c → ¬ wm_su (wm_op (I j)) (wm_op (I k)))
theorem wm_Fit_i {I : Nat → Int32} {wd : Nat} {C : Nat → Nat} {k c : Nat} (hc : 1 ≤ c) : wm_Fit I wd C k c ↔ ((∀ r, r < 8 → wm_RF I C k c r) ∧ (∀ j, j < k → wm_G I C k c j) ∧ wm_cnt C c k < wd) := by
  constructor
  · rintro ⟨_, h, h2, h3⟩
    refine ⟨fun r hr => ⟨fun j hj hk => ⟨fun hw => (h j hj).2.1 ⟨r, hw, hk⟩, fun hw => (h j hj).2.2.1 ⟨r, hw, hk⟩⟩, fun hk j hj hw => (h j hj).1 ⟨r, hw, hk⟩⟩, fun j hj => ⟨(h j hj).2.2.2.2, (h j hj).2.2.2.1, h3 j hj⟩, h2⟩
  · rintro ⟨h, h2, h3⟩
    refine ⟨hc, fun j hj => ⟨?_, ?_, ?_, (h2 j hj).2.1, (h2 j hj).1⟩, h3, fun j hj => (h2 j hj).2.2⟩
    · rintro ⟨r, a, b⟩
      have hr : r < 8 := by rw [← a.2]; exact wm_d_lt _
      exact (h r hr).2 b j hj a
    · rintro ⟨r, a, b⟩
      have hr : r < 8 := by rw [← a.2]; exact wm_d_lt _
      exact ((h r hr).1 j hj b).1 a
    · rintro ⟨r, a, b⟩
      have hr : r < 8 := by rw [← b.2]; exact wm_d_lt _
      exact ((h r hr).1 j hj b).2 a
section RF
variable {wd s k c r : Nat} {C : Nat → Nat} {post : Int32 → Prop}
theorem wy_rf_l (hs : s + wm_len yw s ≤ 64) (hl8 : wm_len yw s ≤ 8) (hS : wm_Sch (wm_I yw s) wd C (wm_len yw s)) (hk : k < wm_len yw s) (hr : r < 8) (hc : c ≤ 1000) (hC : wm_PC C k yy)
    (h1 : wm_RF (wm_I yw s) C k c r → post 1) (h0 : ¬ wm_RF (wm_I yw s) C k c r → post 0) : ∀ d j R, j + d = k →
    (∀ i, i < j → wm_Wr (yw (s + k)) r → ((wm_Wr (yw (s + i)) r → C i + wm_lat (wm_op (yw (s + i))) < c + wm_lat (wm_op (yw (s + k)))) ∧ (wm_Rd (yw (s + i)) r → C i ≤ c))) →
    (∀ i, i < j → wm_Wr (yw (s + i)) r → C i + wm_lat (wm_op (yw (s + i))) ≤ R) →
    (R = 0 ∨ ∃ i, i < j ∧ wm_Wr (yw (s + i)) r ∧ R = C i + wm_lat (wm_op (yw (s + i)))) → R ≤ 1000 →
    wY_registersFit_18 post (nI s) (nI k) (nI c) (nI r) (nI (wm_lat (wm_op (yw (s + k))))) ypc ywd ymn yct yr yw yc yb yy (d + 1) (nI R) (nI j) := by
  have hlk := wm_lat_r (wm_op (yw (s + k)))
  intro d
  induction d with
  | zero =>
    intro j R hj hP hR1 hR2 hRb
    have : j = k := by omega
    subst this
    refine br_t (nI_le (Nat.le_refl j) (by omega)) ?_
    rw [nI_add]
    refine wy_reads (by omega) hr (fun z => br_f wm_10 (pk_lt c R (fun y => h0 fun q => ?_) (fun y => h1 ⟨hP, fun _ i hi hw => Nat.le_trans (hR1 i hi hw) y⟩))) (fun z => br_t rfl (h1 ⟨hP, fun y => absurd y z⟩))
    rcases hR2 with e | ⟨i, hi, hw, e⟩
    · omega
    · have := q.2 z i hi hw
      dsimp only [wm_I] at this
      omega
  | succ d ih =>
    intro j R hj hP hR1 hR2 hRb
    have hlj := wm_lat_r (wm_op (yw (s + j)))
    have hcj := wm_C1 hS (j := j) (by omega)
    have hij : vp_in (nI j) 8 := vp_in_nI (by omega) (by decide)
    have hclj : (nI j).toNatClampNeg = j := nI_clamp (by omega)
    -- the next turn, whatever R is then
    have nx : ∀ R', (wm_Wr (yw (s + k)) r → ((wm_Wr (yw (s + j)) r → C j + wm_lat (wm_op (yw (s + j))) < c + wm_lat (wm_op (yw (s + k)))) ∧ (wm_Rd (yw (s + j)) r → C j ≤ c))) →
        (∀ i, i < j + 1 → wm_Wr (yw (s + i)) r → C i + wm_lat (wm_op (yw (s + i))) ≤ R') → (R' = 0 ∨ ∃ i, i < j + 1 ∧ wm_Wr (yw (s + i)) r ∧ R' = C i + wm_lat (wm_op (yw (s + i)))) → R' ≤ 1000 →
        wY_registersFit_18 post (nI s) (nI k) (nI c) (nI r) (nI (wm_lat (wm_op (yw (s + k))))) ypc ywd ymn yct yr yw yc yb yy (d + 1) (nI R') (nI (j + 1)) := fun R' a b e f => ih (j + 1) R' (by omega) (lt_s hP a) b e f
    have r92 : ∀ R', wm_Wr (yw (s + k)) r → (wm_Wr (yw (s + j)) r → C j + wm_lat (wm_op (yw (s + j))) < c + wm_lat (wm_op (yw (s + k)))) →
        (∀ i, i < j + 1 → wm_Wr (yw (s + i)) r → C i + wm_lat (wm_op (yw (s + i))) ≤ R') → (R' = 0 ∨ ∃ i, i < j + 1 ∧ wm_Wr (yw (s + i)) r ∧ R' = C i + wm_lat (wm_op (yw (s + i)))) → R' ≤ 1000 →
        wY_registersFit_92 post (wY_registersFit_18 post (nI s) (nI k) (nI c) (nI r) (nI (wm_lat (wm_op (yw (s + k))))) ypc ywd ymn yct yr yw yc yb yy (d + 1)) (nI s) (nI k) (nI c) (nI r) (nI R') (nI (wm_lat (wm_op (yw (s + k))))) (nI j) ypc ywd ymn yct yr yw yc yb yy := by
      intro R' hWk hw b e f
      unfold wY_registersFit_92
      rw [nI_add, hclj, hC j (by omega)]
      exact wy_reads (by omega) hr (fun z => br_f wm_10 ⟨hij, pk_le (C j) c (fun y => nm_r (nI_1 j) (nx R' (fun _ => ⟨hw, fun _ => y⟩) b e f)) (fun y => h0 fun q => by have := (q.1 j (by omega) hWk).2 z; omega)⟩) (fun z => br_t rfl (nm_r (nI_1 j) (nx R' (fun _ => ⟨hw, fun y => absurd y z⟩) b e f)))
    refine br_f (nI_ge (by omega) (by omega)) ?_
    rw [nI_add, hclj, hC j (by omega)]
    refine wy_writes (by omega) hr (fun w => ⟨hij, wy_op (by omega) (wy_lat (wm_op_lt _) (nm_r (nI_add _ _) (br_f wm_10 ?_)))⟩) (fun w => ⟨hij, wy_op (by omega) (wy_lat (wm_op_lt _) (nm_r (nI_add _ _) (br_t rfl ?_)))⟩)
    · have b : ∀ i, i < j + 1 → wm_Wr (yw (s + i)) r → C i + wm_lat (wm_op (yw (s + i))) ≤ C j + wm_lat (wm_op (yw (s + j))) := by
        intro i hi hw
        by_cases e : i = j
        · rw [e]; exact Nat.le_refl _
        · exact Nat.le_of_lt (wm_waw hS (r := r) (i := i) (j := j) (by omega) (by omega) hw w)
      have e : C j + wm_lat (wm_op (yw (s + j))) = 0 ∨ ∃ i, i < j + 1 ∧ wm_Wr (yw (s + i)) r ∧ C j + wm_lat (wm_op (yw (s + j))) = C i + wm_lat (wm_op (yw (s + i))) := Or.inr ⟨j, by omega, w, rfl⟩
      unfold wY_registersFit_66
      rw [nI_add s k]
      refine wy_writes (by omega) hr (fun y => br_f wm_10 (br_f wm_10 ?_)) (fun y => br_t rfl (nm_r (nI_1 j) (nx _ (fun z => absurd z y) b e (by omega))))
      rw [nI_add]
      exact pk_le _ _ (fun z => h0 fun q => by have := (q.1 j (by omega) y).1 w; dsimp only [wm_I] at this; omega) (fun z => r92 _ y (fun _ => z) b e (by omega))
    · have b : ∀ i, i < j + 1 → wm_Wr (yw (s + i)) r → C i + wm_lat (wm_op (yw (s + i))) ≤ R := lt_s hR1 fun y => absurd y w
      have e : R = 0 ∨ ∃ i, i < j + 1 ∧ wm_Wr (yw (s + i)) r ∧ R = C i + wm_lat (wm_op (yw (s + i))) := by
        rcases hR2 with e | ⟨i, hi, hw, e⟩
        · exact Or.inl e
        · exact Or.inr ⟨i, by omega, hw, e⟩
      unfold wY_registersFit_66
      rw [nI_add s k]
      exact wy_writes (by omega) hr (fun y => br_f wm_10 (br_t rfl (r92 R y (fun z => absurd z w) b e hRb))) (fun y => br_t rfl (nm_r (nI_1 j) (nx R (fun z => absurd z y) b e hRb)))
theorem wy_rf (hs : s + wm_len yw s ≤ 64) (hl8 : wm_len yw s ≤ 8) (hS : wm_Sch (wm_I yw s) wd C (wm_len yw s)) (hk : k < wm_len yw s) (hr : r < 8) (hc : c ≤ 1000) (hC : wm_PC C k yy)
    (h1 : wm_RF (wm_I yw s) C k c r → post 1) (h0 : ¬ wm_RF (wm_I yw s) C k c r → post 0) : wpY_registersFit post (ypc, ywd, ymn, yct, yr, yw, yc, yb, yy) (nI s) (nI k) (nI c) (nI r) := by
  unfold wpY_registersFit
  rw [nI_add]
  exact wy_op (by omega) (wy_lat (wm_op_lt _) ⟨k + 1, wy_rf_l hs hl8 hS hk hr hc hC h1 h0 k 0 0 (by omega) lt_0 lt_0 (Or.inl rfl) (by omega)⟩)
end RF
end YPLAN
