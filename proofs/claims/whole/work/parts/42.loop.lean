/-! ===== the law's loop, over what the pure side promises (printed by wip/gen/law2.py) ===== -/
def lb_feed (Rel : Bool → am_S → Prop) : Prop := ∀ (sw : Bool) (s : am_S) (a1 : Int32) (a2 : Int32) (a3 : Int32) (a4 : Int32) (a5 : Int32), Rel sw s → ∃ (v : Int32) (s1 s2 : am_S), f_X11_feed s a1 a2 a3 a4 a5 = some (v, s1) ∧ f_X12_feed s1 a1 a2 a3 a4 a5 = some (v, s2) ∧ Rel sw s2
def lb_back (Rel : Bool → am_S → Prop) : Prop := ∀ (sw : Bool) (s : am_S) (a1 : Int32), Rel sw s → ∃ (v : Int32) (s1 s2 : am_S), f_X11_back s a1 = some (v, s1) ∧ f_X12_back s1 a1 = some (v, s2) ∧ Rel sw s2
def lb_read (Rel : Bool → am_S → Prop) : Prop := ∀ (sw : Bool) (s : am_S), Rel sw s → ∃ (v : Int32) (sw1 : Bool) (s1 s2 : am_S), f_X11_read sw s = some ((v, sw1), s1) ∧ f_X12_read s1 = some (v, s2) ∧ Rel sw1 s2
def lb_place (Rel : Bool → am_S → Prop) : Prop := ∀ (sw : Bool) (s : am_S), Rel sw s → ∃ (v : Int32) (s1 s2 : am_S), f_X11_place s  = some (v, s1) ∧ f_X12_place s1  = some (v, s2) ∧ Rel sw s2
def lb_kind (Rel : Bool → am_S → Prop) : Prop := ∀ (sw : Bool) (s : am_S) (a1 : Int32) (a2 : Int32) (a3 : Int32), Rel sw s → ∃ (v : Int32) (s1 s2 : am_S), f_X11_kind s a1 a2 a3 = some (v, s1) ∧ f_X12_kind s1 a1 a2 a3 = some (v, s2) ∧ Rel sw s2
def lb_family (Rel : Bool → am_S → Prop) : Prop := ∀ (sw : Bool) (s : am_S) (a1 : Int32) (a2 : Int32), (a2 = 0 ∨ a2 = 1) → Rel sw s → ∃ (v : Int32) (s1 s2 : am_S), f_X11_family s a1 a2 = some (v, s1) ∧ f_X12_family s1 a1 a2 = some (v, s2) ∧ Rel sw s2
def lb_own (Rel : Bool → am_S → Prop) : Prop := ∀ (sw : Bool) (s : am_S) (a1 : Int32) (a2 : Int32), Rel sw s → ∃ (v : Int32) (s1 s2 : am_S), f_X11_own s a1 a2 = some (v, s1) ∧ f_X12_own s1 a1 a2 = some (v, s2) ∧ Rel sw s2
def lb_lend (Rel : Bool → am_S → Prop) : Prop := ∀ (sw : Bool) (s : am_S) (a1 : Int32) (a2 : Int32) (a3 : Int32) (a4 : Int32), Rel sw s → ∃ (v : Int32) (s1 s2 : am_S), f_X11_lend s a1 a2 a3 a4 = some (v, s1) ∧ f_X12_lend s1 a1 a2 a3 a4 = some (v, s2) ∧ Rel sw s2
def lb_may (Rel : Bool → am_S → Prop) : Prop := ∀ (sw : Bool) (s : am_S) (a1 : Int32) (a2 : Int32) (a3 : Int32), Rel sw s → ∃ (v : Int32) (s1 s2 : am_S), f_X11_may s a1 a2 a3 = some (v, s1) ∧ f_X12_may s1 a1 a2 a3 = some (v, s2) ∧ Rel sw s2
def lb_season (Rel : Bool → am_S → Prop) : Prop := ∀ (sw : Bool) (s : am_S), Rel sw s → ∃ (v : Int32) (s1 s2 : am_S), f_X11_season s  = some (v, s1) ∧ f_X12_season s1  = some (v, s2) ∧ Rel sw s2
def lb_log (Rel : Bool → am_S → Prop) : Prop := ∀ (sw : Bool) (s : am_S) (a1 : Int32) (a2 : Int64), Rel sw s → ∃ (v : Int32) (s1 s2 : am_S), f_X11_log s a1 a2 = some (v, s1) ∧ f_X12_log s1 a1 a2 = some (v, s2) ∧ Rel sw s2
def lb_give (Rel : Bool → am_S → Prop) : Prop := ∀ (sw : Bool) (s : am_S), Rel sw s → ∃ (v : Int32) (s1 s2 : am_S), f_X11_give sw s  = some (v, s1) ∧ f_X12_give s1  = some (v, s2) ∧ Rel sw s2
def lb_lot (Rel : Bool → am_S → Prop) : Prop := ∀ (sw : Bool) (s : am_S) (a1 : Int32), Rel sw s → ∃ (v : Int32) (s1 s2 : am_S), f_X11_lot s a1 = some (v, s1) ∧ f_X12_lot s1 a1 = some (v, s2) ∧ Rel sw s2
def lb_paint (Rel : Bool → am_S → Prop) : Prop := ∀ (sw : Bool) (s : am_S) (a1 : Int32) (a2 : Int32) (a3 : Int32), Rel sw s → ∃ (v : Int32) (s1 s2 : am_S), f_X11_paint s a1 a2 a3 = some (v, s1) ∧ f_X12_paint s1 a1 a2 a3 = some (v, s2) ∧ Rel sw s2
def lb_order (Rel : Bool → am_S → Prop) : Prop := ∀ (sw : Bool) (s : am_S) (a1 : Int32), Rel sw s → ∃ (v : Int32) (s1 s2 : am_S), f_X11_order s a1 = some (v, s1) ∧ f_X12_order s1 a1 = some (v, s2) ∧ Rel sw s2
def lb_need (Rel : Bool → am_S → Prop) : Prop := ∀ (sw : Bool) (s : am_S) (a1 : Int32) (a2 : Int32) (a3 : Int32) (a4 : Int32), Rel sw s → ∃ (v : Int32) (s1 s2 : am_S), f_X11_need s a1 a2 a3 a4 = some (v, s1) ∧ f_X12_need s1 a1 a2 a3 a4 = some (v, s2) ∧ Rel sw s2
def lb_box (Rel : Bool → am_S → Prop) : Prop := ∀ (sw : Bool) (s : am_S), Rel sw s → ∃ (v : Int32) (s1 s2 : am_S), f_X11_box sw s  = some (v, s1) ∧ f_X12_box s1  = some (v, s2) ∧ Rel sw s2
def lb_refuse (Rel : Bool → am_S → Prop) : Prop := ∀ (sw : Bool) (s : am_S) (a1 : Int32), Rel sw s → ∃ (v : Int32) (s1 s2 : am_S), f_X11_refuse s a1 = some (v, s1) ∧ f_X12_refuse s1 a1 = some (v, s2) ∧ Rel sw s2
def lb_ring (Rel : Bool → am_S → Prop) : Prop := ∀ (sw : Bool) (s : am_S) (a1 : Int32) (a2 : Int32), Rel sw s → ∃ (v : Int32) (s1 s2 : am_S), f_X11_ring s a1 a2 = some (v, s1) ∧ f_X12_ring s1 a1 a2 = some (v, s2) ∧ Rel sw s2
def lb_figure (Rel : Bool → am_S → Prop) : Prop := ∀ (sw : Bool) (s : am_S) (a1 : Int32) (a2 : Int32), Rel sw s → ∃ (v : Int32) (s1 s2 : am_S), f_X11_figure s a1 a2 = some (v, s1) ∧ f_X12_figure s1 a1 a2 = some (v, s2) ∧ Rel sw s2
def lb_packed (Rel : Bool → am_S → Prop) : Prop := ∀ (sw : Bool) (s : am_S) (a1 : Int32) (a2 : Int32), Rel sw s → ∃ (v : Int32) (s1 s2 : am_S), f_X11_packed s a1 a2 = some (v, s1) ∧ f_X12_packed s1 a1 a2 = some (v, s2) ∧ Rel sw s2
def lb_told (Rel : Bool → am_S → Prop) : Prop := ∀ (sw : Bool) (s : am_S) (a1 : Int32) (a2 : Int32), Rel sw s → ∃ (v : Int32) (s1 s2 : am_S), f_X11_told s a1 a2 = some (v, s1) ∧ f_X12_told s1 a1 a2 = some (v, s2) ∧ Rel sw s2
def lb_found (Rel : Bool → am_S → Prop) : Prop := ∀ (sw : Bool) (s : am_S) (a1 : Int32) (a2 : Int32), Rel sw s → ∃ (v : Int32) (s1 s2 : am_S), f_X11_found s a1 a2 = some (v, s1) ∧ f_X12_found s1 a1 a2 = some (v, s2) ∧ Rel sw s2
def lb_rest (Rel : Bool → am_S → Prop) : Prop := ∀ (sw : Bool) (s : am_S) (a1 : Int32) (a2 : Int32), Rel sw s → ∃ (v : Int32) (s1 s2 : am_S), f_X11_rest s a1 a2 = some (v, s1) ∧ f_X12_rest s1 a1 a2 = some (v, s2) ∧ Rel sw s2
def lb_money (Rel : Bool → am_S → Prop) : Prop := ∀ (sw : Bool) (s : am_S) (a1 : Int32), Rel sw s → ∃ (v : Int32) (s1 s2 : am_S), f_X11_money s a1 = some (v, s1) ∧ f_X12_money s1 a1 = some (v, s2) ∧ Rel sw s2
def lb_load (Rel : Bool → am_S → Prop) : Prop := ∀ (sw : Bool) (s : am_S) (a1 : Int32) (a2 : Int32), Rel sw s → ∃ (v : Int32) (s1 s2 : am_S), f_X11_load s a1 a2 = some (v, s1) ∧ f_X12_load s1 a1 a2 = some (v, s2) ∧ Rel sw s2
def lb_waste (Rel : Bool → am_S → Prop) : Prop := ∀ (sw : Bool) (s : am_S) (a1 : Int32), Rel sw s → ∃ (v : Int32) (s1 s2 : am_S), f_X11_waste s a1 = some (v, s1) ∧ f_X12_waste s1 a1 = some (v, s2) ∧ Rel sw s2
def lb_count (Rel : Bool → am_S → Prop) : Prop := ∀ (sw : Bool) (s : am_S) (a1 : Int32), Rel sw s → ∃ (v : Int32) (s1 s2 : am_S), f_X11_count sw s a1 = some (v, s1) ∧ f_X12_count s1 a1 = some (v, s2) ∧ Rel sw s2
def lb_All (Rel : Bool → am_S → Prop) : Prop := lb_feed Rel ∧ lb_back Rel ∧ lb_read Rel ∧ lb_place Rel ∧ lb_kind Rel ∧ lb_family Rel ∧ lb_own Rel ∧ lb_lend Rel ∧ lb_may Rel ∧ lb_season Rel ∧ lb_log Rel ∧ lb_give Rel ∧ lb_lot Rel ∧ lb_paint Rel ∧ lb_order Rel ∧ lb_need Rel ∧ lb_box Rel ∧ lb_refuse Rel ∧ lb_ring Rel ∧ lb_figure Rel ∧ lb_packed Rel ∧ lb_told Rel ∧ lb_found Rel ∧ lb_rest Rel ∧ lb_money Rel ∧ lb_load Rel ∧ lb_waste Rel ∧ lb_count Rel
theorem lx_in {L j : Nat} {k : Int32} {m : Nat} (hk : k = nI m) (h : j + m < L) (hL : L ≤ 3072) : am_in (nI j + k) L = true := by
  rw [hk, nI_add]
  unfold am_in
  rw [nI_clamp (by omega)]
  simp only [Bool.and_eq_true, decide_eq_true_eq]
  exact ⟨nI_pos' (by omega), h⟩
theorem lx_b01 (x : Int32) : lx_b x = 0 ∨ lx_b x = 1 := by
  unfold lx_b
  by_cases h : x = 0
  · exact Or.inl (if_pos h)
  · exact Or.inr (if_neg h)
set_option maxRecDepth 40000 in
theorem lx_loop {Rel : Bool → am_S → Prop} (hB : lb_All Rel) {L : Nat} {xs : Nat → Int32} (hL : L ≤ 3072) : ∀ (n j : Nat) (sw : Bool) (s : am_S), L < j + 6 * n → j ≤ 3072 + 6 → Rel sw s → ∃ h' : am_H, h'.1 = 120 ∧ lx_Ex L xs (some (.int 1)) h' 18 (lx_al (nI j)) [] (am_hp sw s) := by
  obtain ⟨m_feed, m_back, m_read, m_place, m_kind, m_family, m_own, m_lend, m_may, m_season, m_log, m_give, m_lot, m_paint, m_order, m_need, m_box, m_refuse, m_ring, m_figure, m_packed, m_told, m_found, m_rest, m_money, m_load, m_waste, m_count⟩ := hB
  intro n
  induction n with
  | zero =>
    intro j sw s h1 h2 hR
    refine ⟨am_hp sw s, rfl, ?_⟩
    refine am_Ex.nxs (q := (18, lx_al (nI j), [], am_hp sw s)) (q' := (bif decide (Int32.ofNat L - 6 < nI j) then 1066 else 27, lx_al (nI j), [], am_hp sw s)) 6 rfl ?_
    have hc : Int32.ofNat L - 6 < nI j := by
      rw [Int32.lt_iff_toInt_lt, nI_toInt (by omega)]
      have e : (Int32.ofNat L - 6).toInt = (L : Int) - 6 := pk_sub_toInt (a := L) (b := 6) (by omega) (by omega)
      rw [e]
      omega
    dsimp only
    rw [decide_eq_true hc]
    exact am_Ex.nxs (q := (1066, lx_al (nI j), [], am_hp sw s)) (q' := (1067, lx_al (nI j), [.int 1], am_hp sw s)) 1 rfl (am_Ex.ret rfl)
  | succ n ih =>
    intro j sw s h1 h2 hR
    by_cases hc : Int32.ofNat L - 6 < nI j
    · refine ⟨am_hp sw s, rfl, ?_⟩
      refine am_Ex.nxs (q := (18, lx_al (nI j), [], am_hp sw s)) (q' := (bif decide (Int32.ofNat L - 6 < nI j) then 1066 else 27, lx_al (nI j), [], am_hp sw s)) 6 rfl ?_
      dsimp only
      rw [decide_eq_true hc]
      exact am_Ex.nxs (q := (1066, lx_al (nI j), [], am_hp sw s)) (q' := (1067, lx_al (nI j), [.int 1], am_hp sw s)) 1 rfl (am_Ex.ret rfl)
    · have hj : j + 6 ≤ L := by
        apply Decidable.byContradiction
        intro q
        apply hc
        rw [Int32.lt_iff_toInt_lt, nI_toInt (by omega)]
        have e : (Int32.ofNat L - 6).toInt = (L : Int) - 6 := pk_sub_toInt (a := L) (b := 6) (by omega) (by omega)
        rw [e]
        omega
      have e6 : nI j + 6 = nI (j + 6) := nI_add j 6
      have b1 : am_in (nI j + 1) L = true := lx_in (m := 1) rfl (by omega) hL
      have b2 : am_in (nI j + 2) L = true := lx_in (m := 2) rfl (by omega) hL
      have b3 : am_in (nI j + 3) L = true := lx_in (m := 3) rfl (by omega) hL
      have b4 : am_in (nI j + 4) L = true := lx_in (m := 4) rfl (by omega) hL
      have b5 : am_in (nI j + 5) L = true := lx_in (m := 5) rfl (by omega) hL
      have b0 : am_in (nI j) L = true := by
        have := lx_in (j := j) (k := 0) (m := 0) rfl (by omega) hL
        simpa using this
      have next : ∀ (sw' : Bool) (s' : am_S), Rel sw' s' → ∃ h' : am_H, h'.1 = 120 ∧ lx_Ex L xs (some (.int 1)) h' 18 (lx_al (nI j + 6)) [] (am_hp sw' s') := by
        intro sw' s' hR'
        rw [e6]
        exact ih (j + 6) sw' s' (by omega) (by omega) hR'
      have head : ∀ h' : am_H, lx_Ex L xs (some (.int 1)) h' (am_sw (xs (nI j).toNatClampNeg &&& 31) 0 1060 [160, 223, 246, 259, 272, 315, 364, 397, 450, 493, 506, 569, 582, 605, 648, 671, 724, 737, 760, 793, 826, 859, 892, 925, 958, 981, 1014, 1037]) (lx_al (nI j)) [] (am_hp sw s) → lx_Ex L xs (some (.int 1)) h' 18 (lx_al (nI j)) [] (am_hp sw s) := by
        intro h' hx
        refine am_Ex.nxs (q := (18, lx_al (nI j), [], am_hp sw s)) (q' := (bif decide (Int32.ofNat L - 6 < nI j) then 1066 else 27, lx_al (nI j), [], am_hp sw s)) 6 rfl ?_
        dsimp only
        rw [decide_eq_false hc]
        refine am_Ex.nxs (q := (27, lx_al (nI j), [], am_hp sw s)) (q' := (29, lx_al (nI j), [.int (nI j), .ref 500], am_hp sw s)) 2 rfl ?_
        refine am_Ex.one (q := (30, lx_al (nI j), [.int (xs (nI j).toNatClampNeg)], am_hp sw s)) (o := (.iaload, 1, 0, [])) rfl ?_ ?_
        · simp only [am_nx, am_sci, b0]
          rfl
        exact am_Ex.nxs (q := (30, lx_al (nI j), [.int (xs (nI j).toNatClampNeg)], am_hp sw s)) (q' := (am_sw (xs (nI j).toNatClampNeg &&& 31) 0 1060 [160, 223, 246, 259, 272, 315, 364, 397, 450, 493, 506, 569, 582, 605, 648, 671, 724, 737, 760, 793, 826, 859, 892, 925, 958, 981, 1014, 1037], lx_al (nI j), [], am_hp sw s)) 3 rfl hx
      obtain ⟨w, hw, ew⟩ := pk_andE (xs (nI j).toNatClampNeg) (m := 31) 5 (by decide)
      rw [ew] at head
      have dflt : lx_Ex L xs (some (.int 1)) (am_hp sw s) 18 (lx_al (nI j)) [] (am_hp sw s) → True := fun _ => trivial
      match w, hw with
      | 0, _ =>
        obtain ⟨v, s1, s2, e1, e2, hR2⟩ := m_feed sw s (xs (nI j + 1).toNatClampNeg) (xs (nI j + 2).toNatClampNeg) (xs (nI j + 3).toNatClampNeg) (xs (nI j + 4).toNatClampNeg) (xs (nI j + 5).toNatClampNeg) hR
        obtain ⟨h', g1, g2⟩ := next sw s2 hR2
        exact ⟨h', g1, head h' (lx_feed b1 b2 b3 b4 b5 e1 e2 (by rw [g1]; exact Nat.le_refl _) g2)⟩
      | 1, _ =>
        obtain ⟨v, s1, s2, e1, e2, hR2⟩ := m_back sw s (xs (nI j + 1).toNatClampNeg) hR
        obtain ⟨h', g1, g2⟩ := next sw s2 hR2
        exact ⟨h', g1, head h' (lx_back b1 e1 e2 (by rw [g1]; exact Nat.le_refl _) g2)⟩
      | 2, _ =>
        obtain ⟨v, sw1, s1, s2, e1, e2, hR2⟩ := m_read sw s  hR
        obtain ⟨h', g1, g2⟩ := next sw1 s2 hR2
        exact ⟨h', g1, head h' (lx_read  e1 e2 (by rw [g1]; exact Nat.le_refl _) g2)⟩
      | 3, _ =>
        obtain ⟨v, s1, s2, e1, e2, hR2⟩ := m_place sw s  hR
        obtain ⟨h', g1, g2⟩ := next sw s2 hR2
        exact ⟨h', g1, head h' (lx_place  e1 e2 (by rw [g1]; exact Nat.le_refl _) g2)⟩
      | 4, _ =>
        obtain ⟨v, s1, s2, e1, e2, hR2⟩ := m_kind sw s (xs (nI j + 1).toNatClampNeg) (xs (nI j + 2).toNatClampNeg) (xs (nI j + 3).toNatClampNeg) hR
        obtain ⟨h', g1, g2⟩ := next sw s2 hR2
        exact ⟨h', g1, head h' (lx_kind b1 b2 b3 e1 e2 (by rw [g1]; exact Nat.le_refl _) g2)⟩
      | 5, _ =>
        obtain ⟨v, s1, s2, e1, e2, hR2⟩ := m_family sw s (xs (nI j + 1).toNatClampNeg) (lx_b (xs (nI j + 2).toNatClampNeg)) (lx_b01 _) hR
        obtain ⟨h', g1, g2⟩ := next sw s2 hR2
        exact ⟨h', g1, head h' (lx_family b1 b2 e1 e2 (by rw [g1]; exact Nat.le_refl _) g2)⟩
      | 6, _ =>
        obtain ⟨v, s1, s2, e1, e2, hR2⟩ := m_own sw s (xs (nI j + 1).toNatClampNeg) (xs (nI j + 2).toNatClampNeg) hR
        obtain ⟨h', g1, g2⟩ := next sw s2 hR2
        exact ⟨h', g1, head h' (lx_own b1 b2 e1 e2 (by rw [g1]; exact Nat.le_refl _) g2)⟩
      | 7, _ =>
        obtain ⟨v, s1, s2, e1, e2, hR2⟩ := m_lend sw s (xs (nI j + 1).toNatClampNeg) (xs (nI j + 2).toNatClampNeg) (xs (nI j + 3).toNatClampNeg) (xs (nI j + 4).toNatClampNeg) hR
        obtain ⟨h', g1, g2⟩ := next sw s2 hR2
        exact ⟨h', g1, head h' (lx_lend b1 b2 b3 b4 e1 e2 (by rw [g1]; exact Nat.le_refl _) g2)⟩
      | 8, _ =>
        obtain ⟨v, s1, s2, e1, e2, hR2⟩ := m_may sw s (xs (nI j + 1).toNatClampNeg) (xs (nI j + 2).toNatClampNeg) (xs (nI j + 3).toNatClampNeg) hR
        obtain ⟨h', g1, g2⟩ := next sw s2 hR2
        exact ⟨h', g1, head h' (lx_may b1 b2 b3 e1 e2 (by rw [g1]; exact Nat.le_refl _) g2)⟩
      | 9, _ =>
        obtain ⟨v, s1, s2, e1, e2, hR2⟩ := m_season sw s  hR
        obtain ⟨h', g1, g2⟩ := next sw s2 hR2
        exact ⟨h', g1, head h' (lx_season  e1 e2 (by rw [g1]; exact Nat.le_refl _) g2)⟩
      | 10, _ =>
        obtain ⟨v, s1, s2, e1, e2, hR2⟩ := m_log sw s (xs (nI j + 1).toNatClampNeg) ((xs (nI j + 2).toNatClampNeg).toInt64 <<< ((32 : Int32).toInt64 &&& 63) ||| ((xs (nI j + 3).toNatClampNeg).toInt64 &&& lN 4294967295)) hR
        obtain ⟨h', g1, g2⟩ := next sw s2 hR2
        exact ⟨h', g1, head h' (lx_log b1 b2 b3 e1 e2 (by rw [g1]; exact Nat.le_refl _) g2)⟩
      | 11, _ =>
        obtain ⟨v, s1, s2, e1, e2, hR2⟩ := m_give sw s  hR
        obtain ⟨h', g1, g2⟩ := next sw s2 hR2
        exact ⟨h', g1, head h' (lx_give  e1 e2 (by rw [g1]; exact Nat.le_refl _) g2)⟩
      | 12, _ =>
        obtain ⟨v, s1, s2, e1, e2, hR2⟩ := m_lot sw s (xs (nI j + 1).toNatClampNeg) hR
        obtain ⟨h', g1, g2⟩ := next sw s2 hR2
        exact ⟨h', g1, head h' (lx_lot b1 e1 e2 (by rw [g1]; exact Nat.le_refl _) g2)⟩
      | 13, _ =>
        obtain ⟨v, s1, s2, e1, e2, hR2⟩ := m_paint sw s (xs (nI j + 1).toNatClampNeg) (xs (nI j + 2).toNatClampNeg) (xs (nI j + 3).toNatClampNeg) hR
        obtain ⟨h', g1, g2⟩ := next sw s2 hR2
        exact ⟨h', g1, head h' (lx_paint b1 b2 b3 e1 e2 (by rw [g1]; exact Nat.le_refl _) g2)⟩
      | 14, _ =>
        obtain ⟨v, s1, s2, e1, e2, hR2⟩ := m_order sw s (xs (nI j + 1).toNatClampNeg) hR
        obtain ⟨h', g1, g2⟩ := next sw s2 hR2
        exact ⟨h', g1, head h' (lx_order b1 e1 e2 (by rw [g1]; exact Nat.le_refl _) g2)⟩
      | 15, _ =>
        obtain ⟨v, s1, s2, e1, e2, hR2⟩ := m_need sw s (xs (nI j + 1).toNatClampNeg) (xs (nI j + 2).toNatClampNeg) (xs (nI j + 3).toNatClampNeg) (xs (nI j + 4).toNatClampNeg) hR
        obtain ⟨h', g1, g2⟩ := next sw s2 hR2
        exact ⟨h', g1, head h' (lx_need b1 b2 b3 b4 e1 e2 (by rw [g1]; exact Nat.le_refl _) g2)⟩
      | 16, _ =>
        obtain ⟨v, s1, s2, e1, e2, hR2⟩ := m_box sw s  hR
        obtain ⟨h', g1, g2⟩ := next sw s2 hR2
        exact ⟨h', g1, head h' (lx_box  e1 e2 (by rw [g1]; exact Nat.le_refl _) g2)⟩
      | 17, _ =>
        obtain ⟨v, s1, s2, e1, e2, hR2⟩ := m_refuse sw s (xs (nI j + 1).toNatClampNeg) hR
        obtain ⟨h', g1, g2⟩ := next sw s2 hR2
        exact ⟨h', g1, head h' (lx_refuse b1 e1 e2 (by rw [g1]; exact Nat.le_refl _) g2)⟩
      | 18, _ =>
        obtain ⟨v, s1, s2, e1, e2, hR2⟩ := m_ring sw s (xs (nI j + 1).toNatClampNeg) (xs (nI j + 2).toNatClampNeg) hR
        obtain ⟨h', g1, g2⟩ := next sw s2 hR2
        exact ⟨h', g1, head h' (lx_ring b1 b2 e1 e2 (by rw [g1]; exact Nat.le_refl _) g2)⟩
      | 19, _ =>
        obtain ⟨v, s1, s2, e1, e2, hR2⟩ := m_figure sw s (xs (nI j + 1).toNatClampNeg) (xs (nI j + 2).toNatClampNeg) hR
        obtain ⟨h', g1, g2⟩ := next sw s2 hR2
        exact ⟨h', g1, head h' (lx_figure b1 b2 e1 e2 (by rw [g1]; exact Nat.le_refl _) g2)⟩
      | 20, _ =>
        obtain ⟨v, s1, s2, e1, e2, hR2⟩ := m_packed sw s (xs (nI j + 1).toNatClampNeg) (xs (nI j + 2).toNatClampNeg) hR
        obtain ⟨h', g1, g2⟩ := next sw s2 hR2
        exact ⟨h', g1, head h' (lx_packed b1 b2 e1 e2 (by rw [g1]; exact Nat.le_refl _) g2)⟩
      | 21, _ =>
        obtain ⟨v, s1, s2, e1, e2, hR2⟩ := m_told sw s (xs (nI j + 1).toNatClampNeg) (xs (nI j + 2).toNatClampNeg) hR
        obtain ⟨h', g1, g2⟩ := next sw s2 hR2
        exact ⟨h', g1, head h' (lx_told b1 b2 e1 e2 (by rw [g1]; exact Nat.le_refl _) g2)⟩
      | 22, _ =>
        obtain ⟨v, s1, s2, e1, e2, hR2⟩ := m_found sw s (xs (nI j + 1).toNatClampNeg) (xs (nI j + 2).toNatClampNeg) hR
        obtain ⟨h', g1, g2⟩ := next sw s2 hR2
        exact ⟨h', g1, head h' (lx_found b1 b2 e1 e2 (by rw [g1]; exact Nat.le_refl _) g2)⟩
      | 23, _ =>
        obtain ⟨v, s1, s2, e1, e2, hR2⟩ := m_rest sw s (xs (nI j + 1).toNatClampNeg) (xs (nI j + 2).toNatClampNeg) hR
        obtain ⟨h', g1, g2⟩ := next sw s2 hR2
        exact ⟨h', g1, head h' (lx_rest b1 b2 e1 e2 (by rw [g1]; exact Nat.le_refl _) g2)⟩
      | 24, _ =>
        obtain ⟨v, s1, s2, e1, e2, hR2⟩ := m_money sw s (xs (nI j + 1).toNatClampNeg) hR
        obtain ⟨h', g1, g2⟩ := next sw s2 hR2
        exact ⟨h', g1, head h' (lx_money b1 e1 e2 (by rw [g1]; exact Nat.le_refl _) g2)⟩
      | 25, _ =>
        obtain ⟨v, s1, s2, e1, e2, hR2⟩ := m_load sw s (xs (nI j + 1).toNatClampNeg) (xs (nI j + 2).toNatClampNeg) hR
        obtain ⟨h', g1, g2⟩ := next sw s2 hR2
        exact ⟨h', g1, head h' (lx_load b1 b2 e1 e2 (by rw [g1]; exact Nat.le_refl _) g2)⟩
      | 26, _ =>
        obtain ⟨v, s1, s2, e1, e2, hR2⟩ := m_waste sw s (xs (nI j + 1).toNatClampNeg) hR
        obtain ⟨h', g1, g2⟩ := next sw s2 hR2
        exact ⟨h', g1, head h' (lx_waste b1 e1 e2 (by rw [g1]; exact Nat.le_refl _) g2)⟩
      | 27, _ =>
        obtain ⟨v, s1, s2, e1, e2, hR2⟩ := m_count sw s (xs (nI j + 1).toNatClampNeg) hR
        obtain ⟨h', g1, g2⟩ := next sw s2 hR2
        exact ⟨h', g1, head h' (lx_count b1 e1 e2 (by rw [g1]; exact Nat.le_refl _) g2)⟩
      | 28, _ =>
        obtain ⟨h', g1, g2⟩ := next sw s hR
        exact ⟨h', g1, head h' (am_Ex.nxs (q := (1060, lx_al (nI j), [], am_hp sw s)) (q' := (18, lx_al (nI j + 6), [], am_hp sw s)) 2 rfl g2)⟩
      | 29, _ =>
        obtain ⟨h', g1, g2⟩ := next sw s hR
        exact ⟨h', g1, head h' (am_Ex.nxs (q := (1060, lx_al (nI j), [], am_hp sw s)) (q' := (18, lx_al (nI j + 6), [], am_hp sw s)) 2 rfl g2)⟩
      | 30, _ =>
        obtain ⟨h', g1, g2⟩ := next sw s hR
        exact ⟨h', g1, head h' (am_Ex.nxs (q := (1060, lx_al (nI j), [], am_hp sw s)) (q' := (18, lx_al (nI j + 6), [], am_hp sw s)) 2 rfl g2)⟩
      | 31, _ =>
        obtain ⟨h', g1, g2⟩ := next sw s hR
        exact ⟨h', g1, head h' (am_Ex.nxs (q := (1060, lx_al (nI j), [], am_hp sw s)) (q' := (18, lx_al (nI j + 6), [], am_hp sw s)) 2 rfl g2)⟩
      | w + 32, hw => exact absurd hw (by omega)
