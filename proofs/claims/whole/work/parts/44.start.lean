theorem lz_run {Rel : Bool → am_S → Prop} (hB : lb_All Rel) (hR0 : Rel false am_s0) {L : Nat} {xs : Nat → Int32} (hL : L ≤ 3072) : ∃ h' : am_H, h'.1 = 120 ∧ lx_Ex L xs (some (.int 1)) h' 0 [.ref 500, .null, .null, .null] [] (0, fun _ _ => 0, fun _ _ => 0, am_RT false) := by
  obtain ⟨h', g1, g2⟩ := lx_loop hB hL 513 0 false am_s0 (by omega) (by omega) hR0
  refine ⟨h', g1, ?_⟩
  rw [← am_k0_eq] at g2
  obtain ⟨n, I, LL, R⟩ := h'
  dsimp only at g1
  subst g1
  refine am_Ex.nxs (q := (0, [.ref 500, .null, .null, .null], [], (0, fun _ _ => 0, fun _ _ => 0, am_RT false))) (q' := (4, [.ref 500, .null, .null, .null], [.ref 0, .ref 0], am_nO (0, fun _ _ => 0, fun _ _ => 0, am_RT false))) 2 rfl ?_
  refine am_Ex.call (h2 := (0, fun _ _ => 0, fun _ _ => 0, am_RT false)) (mno := 93) (As := [.ref 0]) (rest := [.ref 0]) (v := none) rfl (rk_X11_init_0 9 _ _ _) (Nat.le_of_ble_eq_true rfl) (Nat.le_of_ble_eq_true rfl) ?_
  refine am_Ex.nxs (q := (7, [.ref 500, .null, .null, .null], [.ref 0], k_X11_init_0 (am_nO (0, fun _ _ => 0, fun _ _ => 0, am_RT false)))) (q' := (12, [.ref 500, .ref 0, .null, .null], [.ref 58, .ref 58], am_nO (k_X11_init_0 (am_nO (0, fun _ _ => 0, fun _ _ => 0, am_RT false))))) 3 rfl ?_
  refine am_Ex.call (h2 := (0, fun _ _ => 0, fun _ _ => 0, am_RT false)) (mno := 132) (As := [.ref 58]) (rest := [.ref 58]) (v := none) rfl (rk_X12_init_58 9 _ _ _) (Nat.le_of_ble_eq_true rfl) (Nat.le_of_ble_eq_true rfl) ?_
  exact am_Ex.nxs (q := (15, [.ref 500, .ref 0, .null, .null], [.ref 58], am_k0)) (q' := (18, lx_al 0, [], am_k0)) 3 rfl g2
theorem lz_tb : ∀ pc o, tb_L_law pc = some o → ∃ i len, decode code pc = .ok (i, len) ∧ am_mt i len pc o = true := by
  intro pc o ho
  by_cases hp : pc < 1068
  · have h1 := tk_L_law pc hp
    unfold am_tbc at h1
    rw [ho] at h1
    dsimp only at h1
    split at h1
    · rename_i i len hd
      exact ⟨i, len, hd, h1⟩
    · cases h1
  · have e : tb_L_law pc = none := am_blt_no (by omega)
    rw [e] at ho
    cases ho
theorem lz_start {Rel : Bool → am_S → Prop} (hB : lb_All Rel) (hR0 : Rel false am_s0) {p : Program} {e : Env} {s : State} {m : MethodId} {below : List Frame} {meth : Method} {c : Code} (l : Launch) {b L : Nat} {xs : Nat → Int32} (hL : L ≤ 3072) (C0 : lw_At p s m meth c b L xs) : W p l e room_1 s m #[Value.ref b] below meth c s.heap [] 0 0 (lw_Z below #[Value.ref b] s) (entryFrame m ([Value.ref b] : List Value).toArray 4) := by
  obtain ⟨hx, hb, hr, hml, hown, hts, hX, hbl, hlocks, hgv⟩ := C0
  have hfl : ∀ c ∈ lz_fl, c.before #[Value.ref b] s = true := flat_of_before _ hgv
  have hwd : ∀ w ∈ am_wd, w.before #[Value.ref b] s = true := fun w hw => hts w (am_wd_good w hw).1
  obtain ⟨D, hKn⟩ := lz_D hts
  obtain ⟨cA, hKa⟩ := lz_A hwd
  have hK : va_K D am_cl (am_ty cA) s := ⟨hKn, hKa⟩
  obtain ⟨adK, adV, hsr⟩ := lz_S hts hfl
  obtain ⟨h', g1, n, g2⟩ := lz_run hB hR0 (xs := xs) hL
  have hsl : am_sl 120 = 22875 := by decide +kernel
  have hC : am_C p room_1 s m #[Value.ref b] meth c code 4 15 false (some (L, xs)) D cA s.heap.size b adK adV h'.1 0 0 :=
    ⟨hx, hb, hml, hown, hwd, hK, hsr, ⟨by rw [g1]; decide, by rw [g1, hsl]; decide, by decide, by decide⟩, (fun h => by cases h), Nat.le_refl _, fun L' xs' e => by cases e; exact ⟨hX, hbl, Nat.not_le.mpr hbl⟩⟩
  rw [lg_entry_eq]
  have ee : [Value.ref 500].map (am_cv (am_ad s.heap.size b adK)) = [Value.ref b] := by simp [am_cv, am_ad]
  have hent := am_entry (ad := am_ad s.heap.size b adK) (nL := 4) (As := [.ref 500]) (by decide)
  rw [ee] at hent
  refine am_sound (rt := some .boolean) (d := 12) hC ⟨by decide, by decide⟩ (am_met l D cA s.heap.size b adK adV 12) lz_tb ?_ n 0 [.ref 500, .null, .null, .null] [] (0, fun _ _ => 0, fun _ _ => 0, am_RT false) s.heap [] _ 0 0 g2 ⟨hent, rfl, fun k q hq => by simp [am_ws] at hq, va_S.rf, rfl, rfl⟩
  intro pc o al st H locs ls cells slots ho hrt V
  obtain ⟨i, len, hd, hm⟩ := lz_tb pc o ho
  have v5 := V.2.2.2.2.1
  have v6 := V.2.2.2.2.2
  rw [g1] at v5 v6
  rw [hsl] at v6
  refine va_forget (fun q hq => V.2.2.2.1.2.2 q hq) ?_
  refine W.widen (k := 120) (n := 22875) (by omega) (by omega) ?_
  rcases am_rt_ok hrt with ⟨v, e1, e2, rfl, e3⟩ | ⟨v, e1, e2, rfl, e3, hv⟩ | ⟨v, e1, e2, rfl, e3⟩ | ⟨e1, e2, rfl, e3⟩
  · cases e2
  · cases e3
    obtain ⟨rfl, rfl⟩ := am_mt_ir hm e1
    exact lw_ret hx hb hr hlocks hd
  · cases e2
  · cases e2
