/-! ===== rules: a function's term against a point of the code ===== -/
def am_po {ρ : Type} (cvf : ρ → Option Value) (sw : Bool) : ρ × am_S → Option Value → am_H → Prop := fun y r h' => r = cvf y.1 ∧ h' = am_hp sw y.2
def am_pl {ρ σ : Type} (cvf : ρ → Option Value) (sw : Bool) (ex : σ → am_S → Option Value → am_H → Prop) : (ρ × am_S) ⊕ (σ × am_S) → Option Value → am_H → Prop := fun y r h' => match y with
  | .inl y => r = cvf y.1 ∧ h' = am_hp sw y.2
  | .inr y => 120 ≤ h'.1 ∧ ex y.1 y.2 r h'
theorem am_po20 {ρ : Type} {cvf : ρ → Option Value} {sw : Bool} : ∀ (y : ρ × am_S) (r : Option Value) (h' : am_H), am_po cvf sw y r h' → 120 ≤ h'.1 := fun y r h' h => by
  rw [h.2]
  exact Nat.le_refl _
theorem am_pl20 {ρ σ : Type} {cvf : ρ → Option Value} {sw : Bool} {ex : σ → am_S → Option Value → am_H → Prop} : ∀ (y : (ρ × am_S) ⊕ (σ × am_S)) (r : Option Value) (h' : am_H), am_pl cvf sw ex y r h' → 120 ≤ h'.1 := fun y r h' h => by
  cases y with
  | inl y =>
    rw [h.2]
    exact Nat.le_refl _
  | inr y => exact h.1
def am_ru (sw : Bool) : Nat := bif sw then 11 else 5
def am_dr (sw : Bool) : Nat := bif sw then 5 else 11
def am_Sm {β : Type} (tb : Nat → Option am_O) (own : Nat) (ini : Bool) (sc : Option (Nat × (Nat → Int32))) (rt : Option FieldType) (d : Nat) (post : β → Option Value → am_H → Prop) (X : Option β) (pc : Nat) (al st : List Value) (h : am_H) : Prop := ∀ y, X = some y → ∀ (r : Option Value) (h' : am_H), post y r h' → am_Ex tb own ini sc rt d r h' pc al st h
/-- what a call needs: method, arguments, the rest of the stack -/
def am_cs (tb : Nat → Option am_O) (own pc : Nat) (st : List Value) (h : am_H) : Option (Nat × List Value × List Value) := match tb pc with
  | none => none
  | some o => match am_iv o.1 with
    | none => none
    | some (kd, idx) => match am_cp own idx with
      | none => none
      | some (mno, _) => match am_ms mno with
        | none => none
        | some M => bif Nat.beq M.2.2.2.2.2.2.1 kd && (Nat.ble M.2.2.2.2.2.2.2.1 st.length && (am_rc kd M h (st.take M.2.2.2.2.2.2.2.1).reverse && Nat.ble (((st.drop M.2.2.2.2.2.2.2.1).map fun v => v.category).sum) 8)) then some (mno, (st.take M.2.2.2.2.2.2.2.1).reverse, st.drop M.2.2.2.2.2.2.2.1) else none
section AMR
variable {β : Type} {tb : Nat → Option am_O} {own : Nat} {ini : Bool} {sc : Option (Nat × (Nat → Int32))} {rt : Option FieldType} {d : Nat} {post : β → Option Value → am_H → Prop} {X A Bx : Option β} {pc pc' : Nat} {al al' st st' : List Value} {h h1 : am_H}
theorem am_Ex.nxs {r : Option Value} {h' : am_H} : ∀ (k : Nat) {q q' : am_Q}, am_nxs tb h'.1 own ini sc k q = some q' → am_Ex tb own ini sc rt d r h' q'.1 q'.2.1 q'.2.2.1 q'.2.2.2 → am_Ex tb own ini sc rt d r h' q.1 q.2.1 q.2.2.1 q.2.2.2 := by
  intro k
  induction k with
  | zero => intro q q' hq hx; cases hq; exact hx
  | succ k ih =>
    intro q q' hq hx
    unfold am_nxs at hq
    split at hq
    · cases hq
    · rename_i o ho
      split at hq
      · cases hq
      · rename_i q2 hq2
        obtain ⟨n, hn⟩ := ih hq hx
        exact ⟨n + 1, o, ho, Or.inl ⟨q2, hq2, hn⟩⟩
theorem am_Ex.one {r : Option Value} {h' : am_H} {o : am_O} {q : am_Q} (ho : tb pc = some o) (hn : am_nx h'.1 own ini sc o pc al st h = some q) (hx : am_Ex tb own ini sc rt d r h' q.1 q.2.1 q.2.2.1 q.2.2.2) : am_Ex tb own ini sc rt d r h' pc al st h := by
  obtain ⟨n, hn2⟩ := hx
  exact ⟨n + 1, o, ho, Or.inl ⟨q, hn, hn2⟩⟩
theorem sm_go (k : Nat) (pc' : Nat) (al' st' : List Value) (h1 : am_H) (hq : ∀ lim, am_nxs tb lim own ini sc k (pc, al, st, h) = some (pc', al', st', h1)) (kk : am_Sm tb own ini sc rt d post X pc' al' st' h1) : am_Sm tb own ini sc rt d post X pc al st h :=
  fun y e r h' hp => am_Ex.nxs (q := (pc, al, st, h)) k (hq _) (kk y e r h' hp)
theorem sm_fg (al' : List Value) (hle : am_le al' al) (kk : am_Sm tb own ini sc rt d post X pc al' st h) : am_Sm tb own ini sc rt d post X pc al st h :=
  fun y e r h' hp => am_Ex.le hle (kk y e r h' hp)
theorem sm_no : am_Sm tb own ini sc rt d post none pc al st h := fun y e => by cases e
theorem sm_br {c : Prop} [Decidable c] (k : Nat) (t f : Nat) (al' st' : List Value) (h1 : am_H) (hq : ∀ lim, am_nxs tb lim own ini sc k (pc, al, st, h) = some (bif decide c then t else f, al', st', h1)) (ka : c → am_Sm tb own ini sc rt d post A t al' st' h1) (kb : ¬ c → am_Sm tb own ini sc rt d post Bx f al' st' h1) : am_Sm tb own ini sc rt d post (if c then A else Bx) pc al st h := by
  intro y e r h' hp
  refine am_Ex.nxs (q := (pc, al, st, h)) k (hq _) ?_
  by_cases hc : c
  · rw [if_pos hc] at e
    have e9 : decide c = true := decide_eq_true hc
    rw [e9]
    exact ka hc y e r h' hp
  · rw [if_neg hc] at e
    have e9 : decide c = false := decide_eq_false hc
    rw [e9]
    exact kb hc y e r h' hp
theorem sm_sw1 {v k : Int32} (k1 : Int32) {dd t : Nat} {ts : List Nat} (hk : k + 1 = k1) (ka : v = k → am_Sm tb own ini sc rt d post A t al st h) (kb : ¬ v = k → am_Sm tb own ini sc rt d post Bx (am_sw v k1 dd ts) al st h) : am_Sm tb own ini sc rt d post (if v = k then A else Bx) (am_sw v k dd (t :: ts)) al st h := by
  intro y e r h' hp
  subst hk
  unfold am_sw
  by_cases hc : v = k
  · rw [if_pos hc] at e
    rw [decide_eq_true hc]
    exact ka hc y e r h' hp
  · rw [if_neg hc] at e
    rw [decide_eq_false hc]
    exact kb hc y e r h' hp
theorem sm_sw0 {v k : Int32} {dd : Nat} (kk : am_Sm tb own ini sc rt d post X dd al st h) : am_Sm tb own ini sc rt d post X (am_sw v k dd []) al st h := kk
theorem am_gu_some {α : Type} {b : Bool} {x : Option α} {y : α} (h : am_gu b x = some y) : b = true ∧ x = some y := by
  cases b
  · cases h
  · exact ⟨rfl, h⟩
theorem sm_gu {b : Bool} (kk : b = true → am_Sm tb own ini sc rt d post X pc al st h) : am_Sm tb own ini sc rt d post (am_gu b X) pc al st h := fun y e => kk (am_gu_some e).1 y (am_gu_some e).2
/-- array loads and stores, k steps on -/
theorem sm_iald (k : Nat) (pc' : Nat) (al' st' : List Value) (h1 : am_H) {i : Int32} {c n : Nat} (hq : ∀ lim, am_nxs tb lim own ini sc k (pc, al, st, h) = some (pc', al', .int i :: .ref c :: st', h1)) (ho : tb pc' = some (.iaload, 1, 0, [])) (hs : am_sh[c]? = some (.inr (0, n))) (h5 : Nat.beq c 500 = false) (hc : Nat.blt c h1.1 = true) (kk : am_Sm tb own ini sc rt d post X (pc' + 1) al' (.int (h1.2.1 c i.toNatClampNeg) :: st') h1) : am_Sm tb own ini sc rt d post (am_gu (am_in i n) X) pc al st h := by
  intro y e r h' hp
  obtain ⟨e1, e2⟩ := am_gu_some e
  exact am_Ex.nxs (q := (pc, al, st, h)) k (hq _) (am_Ex.one (q := (pc' + 1, al', .int (h1.2.1 c i.toNatClampNeg) :: st', h1)) ho (by simp [am_nx, hs, h5, hc, e1]) (kk y e2 r h' hp))
theorem sm_bald (k : Nat) (pc' : Nat) (al' st' : List Value) (h1 : am_H) {i : Int32} {c t n : Nat} (hq : ∀ lim, am_nxs tb lim own ini sc k (pc, al, st, h) = some (pc', al', .int i :: .ref c :: st', h1)) (ho : tb pc' = some (.baload, 1, 0, [])) (hs : am_sh[c]? = some (.inr (t, n))) (ht : (Nat.beq t 1 || Nat.beq t 3) = true) (hc : Nat.blt c h1.1 = true) (kk : am_Sm tb own ini sc rt d post X (pc' + 1) al' (.int (h1.2.1 c i.toNatClampNeg) :: st') h1) : am_Sm tb own ini sc rt d post (am_gu (am_in i n) X) pc al st h := by
  intro y e r h' hp
  obtain ⟨e1, e2⟩ := am_gu_some e
  refine am_Ex.nxs (q := (pc, al, st, h)) k (hq _) (am_Ex.one (q := (pc' + 1, al', .int (h1.2.1 c i.toNatClampNeg) :: st', h1)) ho ?_ (kk y e2 r h' hp))
  simp only [am_nx, hs]
  rw [ht, hc, e1]
  rfl
theorem sm_lald (k : Nat) (pc' : Nat) (al' st' : List Value) (h1 : am_H) {i : Int32} {c n : Nat} (hq : ∀ lim, am_nxs tb lim own ini sc k (pc, al, st, h) = some (pc', al', .int i :: .ref c :: st', h1)) (ho : tb pc' = some (.laload, 1, 0, [])) (hs : am_sh[c]? = some (.inr (2, n))) (hc : Nat.blt c h1.1 = true) (kk : am_Sm tb own ini sc rt d post X (pc' + 1) al' (.long (h1.2.2.1 c i.toNatClampNeg) :: st') h1) : am_Sm tb own ini sc rt d post (am_gu (am_in i n) X) pc al st h := by
  intro y e r h' hp
  obtain ⟨e1, e2⟩ := am_gu_some e
  refine am_Ex.nxs (q := (pc, al, st, h)) k (hq _) (am_Ex.one (q := (pc' + 1, al', .long (h1.2.2.1 c i.toNatClampNeg) :: st', h1)) ho ?_ (kk y e2 r h' hp))
  simp only [am_nx, hs]
  rw [hc, e1]
  rfl
theorem sm_iast (k : Nat) (pc' : Nat) (al' st' : List Value) (sw : Bool) (s : am_S) {i x : Int32} {c n : Nat} (hq : ∀ lim, am_nxs tb lim own ini sc k (pc, al, st, h) = some (pc', al', .int x :: .int i :: .ref c :: st', am_hp sw s)) (ho : tb pc' = some (.iastore, 1, 0, [])) (hs : am_sh[c]? = some (.inr (0, n))) (hc : Nat.blt c 120 = true) (kk : am_Sm tb own ini sc rt d post X (pc' + 1) al' st' (am_hp sw (am_wI s c i.toNatClampNeg x))) : am_Sm tb own ini sc rt d post (am_gu (am_in i n) X) pc al st h := by
  intro y e r h' hp
  obtain ⟨e1, e2⟩ := am_gu_some e
  refine am_Ex.nxs (q := (pc, al, st, h)) k (hq _) (am_Ex.one (q := (pc' + 1, al', st', am_hp sw (am_wI s c i.toNatClampNeg x))) ho ?_ (kk y e2 r h' hp))
  simp only [am_nx, hs]
  rw [show Nat.blt c (am_hp sw s).1 = true from hc, e1]
  rfl
theorem sm_bast (k : Nat) (pc' : Nat) (al' st' : List Value) (sw : Bool) (s : am_S) {i x : Int32} {c t n : Nat} (hq : ∀ lim, am_nxs tb lim own ini sc k (pc, al, st, h) = some (pc', al', .int x :: .int i :: .ref c :: st', am_hp sw s)) (ho : tb pc' = some (.bastore, 1, 0, [])) (hs : am_sh[c]? = some (.inr (t, n))) (ht : (Nat.beq t 1 || Nat.beq t 3) = true) (hc : Nat.blt c 120 = true) (kk : am_Sm tb own ini sc rt d post X (pc' + 1) al' st' (am_hp sw (am_wI s c i.toNatClampNeg (am_nar t x)))) : am_Sm tb own ini sc rt d post (am_gu (am_in i n) X) pc al st h := by
  intro y e r h' hp
  obtain ⟨e1, e2⟩ := am_gu_some e
  refine am_Ex.nxs (q := (pc, al, st, h)) k (hq _) (am_Ex.one (q := (pc' + 1, al', st', am_hp sw (am_wI s c i.toNatClampNeg (am_nar t x)))) ho ?_ (kk y e2 r h' hp))
  simp only [am_nx, hs]
  rw [ht, show Nat.blt c (am_hp sw s).1 = true from hc, e1]
  rfl
theorem sm_last (k : Nat) (pc' : Nat) (al' st' : List Value) (sw : Bool) (s : am_S) {i : Int32} {x : Int64} {c n : Nat} (hq : ∀ lim, am_nxs tb lim own ini sc k (pc, al, st, h) = some (pc', al', .long x :: .int i :: .ref c :: st', am_hp sw s)) (ho : tb pc' = some (.lastore, 1, 0, [])) (hs : am_sh[c]? = some (.inr (2, n))) (hc : Nat.blt c 120 = true) (kk : am_Sm tb own ini sc rt d post X (pc' + 1) al' st' (am_hp sw (am_wL s c i.toNatClampNeg x))) : am_Sm tb own ini sc rt d post (am_gu (am_in i n) X) pc al st h := by
  intro y e r h' hp
  obtain ⟨e1, e2⟩ := am_gu_some e
  refine am_Ex.nxs (q := (pc, al, st, h)) k (hq _) (am_Ex.one (q := (pc' + 1, al', st', am_hp sw (am_wL s c i.toNatClampNeg x))) ho ?_ (kk y e2 r h' hp))
  simp only [am_nx, hs]
  rw [show Nat.blt c (am_hp sw s).1 = true from hc, e1]
  rfl
theorem am_cs_ok {mno : Nat} {As rest : List Value} (hc : am_cs tb own pc st h = some (mno, As, rest)) : ∃ (o : am_O) (kd idx w : Nat) (nst : Bool) (M : am_M), tb pc = some o ∧ am_iv o.1 = some (kd, idx) ∧ am_cp own idx = some (mno, w, nst) ∧ am_ms mno = some M ∧ M.2.2.2.2.2.2.1 = kd ∧ st = As.reverse ++ rest ∧ As.length = M.2.2.2.2.2.2.2.1 ∧ am_rc kd M h As = true ∧ (rest.map fun v => v.category).sum ≤ 8 := by
  unfold am_cs at hc
  split at hc
  · cases hc
  · rename_i o ho
    split at hc
    · cases hc
    · rename_i kd idx hi
      split at hc
      · cases hc
      · rename_i mno' w2 hcp
        obtain ⟨w, nst⟩ := w2
        split at hc
        · cases hc
        · rename_i M hM
          cases hb : Nat.beq M.2.2.2.2.2.2.1 kd && (Nat.ble M.2.2.2.2.2.2.2.1 st.length && (am_rc kd M h (st.take M.2.2.2.2.2.2.2.1).reverse && Nat.ble (((st.drop M.2.2.2.2.2.2.2.1).map fun v => v.category).sum) 8)) with
          | false => rw [hb] at hc; cases hc
          | true =>
            rw [hb] at hc
            cases hc
            simp only [Bool.and_eq_true] at hb
            obtain ⟨b1, b2, b3, b4⟩ := hb
            exact ⟨o, kd, idx, w, nst, M, ho, hi, hcp, hM, Nat.eq_of_beq_eq_true b1, by simp, by rw [List.length_reverse, List.length_take]; exact Nat.min_eq_left (Nat.le_of_ble_eq_true b2), b3, Nat.le_of_ble_eq_true b4⟩
theorem sm_call {α : Type} {cvf : α → Option Value} {f : Option (α × am_S)} {kf : α → am_S → Option β} (k : Nat) (pc' : Nat) (al' st' : List Value) (sw : Bool) (s : am_S) (mno : Nat) (As rest : List Value) (hq : ∀ lim, am_nxs tb lim own ini sc k (pc, al, st, h) = some (pc', al', st', am_hp sw s)) (hc : am_cs tb own pc' st' (am_hp sw s) = some (mno, As, rest)) (hf : ∀ v s', f = some (v, s') → am_Run d mno As (am_hp sw s) (cvf v) (am_hp sw s')) (h20 : ∀ y r h', post y r h' → 120 ≤ h'.1) (kk : ∀ v s', am_Sm tb own ini sc rt d post (kf v s') (pc' + 3) al' ((cvf v).toList ++ rest) (am_hp sw s')) : am_Sm tb own ini sc rt d post (am_bd f kf) pc al st h := by
  intro y e r h' hp
  refine am_Ex.nxs (q := (pc, al, st, h)) k (hq _) ?_
  cases f with
  | none => cases e
  | some vs =>
    obtain ⟨v, s'⟩ := vs
    obtain ⟨n, hn⟩ := kk v s' y e r h' hp
    obtain ⟨o, kd, idx, w, nst, M, g1, g2, g3, g4, g5, g6, g7, g8, g9⟩ := am_cs_ok hc
    exact ⟨n + 1, o, g1, Or.inr (Or.inl ⟨kd, idx, mno, w, nst, M, As, rest, cvf v, am_hp sw s', g2, g3, g4, g5, g6, g7, g8, hf v s' rfl, ⟨Nat.le_refl _, h20 y r h' hp⟩, g9, hn⟩)⟩
theorem sm_ret (k : Nat) (pc' : Nat) (al' st' : List Value) (h1 : am_H) {y : β} (v : Option Value) (hq : ∀ lim, am_nxs tb lim own ini sc k (pc, al, st, h) = some (pc', al', st', h1)) (hr : (match tb pc' with | some o => am_rt o.1 rt st' | none => none) = some v) (hpost : ∀ r h', post y r h' → r = v ∧ h' = h1) : am_Sm tb own ini sc rt d post (some y) pc al st h := by
  intro y' e r h' hp
  cases e
  obtain ⟨rfl, rfl⟩ := hpost r h' hp
  refine am_Ex.nxs (q := (pc, al, st, h)) k (hq _) ?_
  split at hr
  · rename_i o ho
    exact ⟨1, o, ho, Or.inr (Or.inr ⟨hr, rfl⟩)⟩
  · cases hr
theorem sm_ex {y : β} (hpost : ∀ r h', post y r h' → am_Ex tb own ini sc rt d r h' pc al st h) : am_Sm tb own ini sc rt d post (some y) pc al st h := by
  intro y' e r h' hp
  cases e
  exact hpost r h' hp
theorem sm_lp {ρ σ : Type} {inj : ρ × am_S → β} {cvf : ρ → Option Value} {sw : Bool} {L : Option ((ρ × am_S) ⊕ (σ × am_S))} {kf : σ → am_S → Option β} (fpc : Nat) (alf : σ → List Value) (hl : am_Sm tb own ini sc rt d (am_pl cvf sw (fun v s r h' => am_Ex tb own ini sc rt d r h' fpc (alf v) [] (am_hp sw s))) L pc al st h) (h1 : ∀ y r h', post (inj y) r h' → (r = cvf y.1 ∧ h' = am_hp sw y.2)) (h20 : ∀ y r h', post y r h' → 120 ≤ h'.1) (kk : ∀ v s, am_Sm tb own ini sc rt d post (kf v s) fpc (alf v) [] (am_hp sw s)) : am_Sm tb own ini sc rt d post (am_lp inj L kf) pc al st h := by
  intro y e r h' hp
  cases L with
  | none => cases e
  | some z =>
    cases z with
    | inl w =>
      cases e
      exact hl _ rfl r h' (h1 w r h' hp)
    | inr w =>
      obtain ⟨v, s⟩ := w
      exact hl _ rfl r h' ⟨h20 y r h' hp, kk v s y e r h' hp⟩
theorem sm_jn {α : Type} {F : α → Option β} {body : (α → Option β) → Option β} (pcJ : Nat) (alJ stJ : α → List Value) (hJ : α → am_H) (hF : ∀ p, am_Sm tb own ini sc rt d post (F p) pcJ (alJ p) (stJ p) (hJ p)) (hb : ∀ j, (∀ p, am_Sm tb own ini sc rt d post (j p) pcJ (alJ p) (stJ p) (hJ p)) → am_Sm tb own ini sc rt d post (body j) pc al st h) : am_Sm tb own ini sc rt d post (am_jn F body) pc al st h := hb F hF
end AMR
/-- a method's function is its run -/
theorem am_Run.of {ρ : Type} {cvf : ρ → Option Value} {d mno : Nat} {M : am_M} {As : List Value} {sw : Bool} {s s' : am_S} {v : ρ} {X : Option (ρ × am_S)} (hM : am_ms mno = some M) (h16 : Nat.blt M.1 16 = true) (hln : Nat.ble (am_ent As).length M.2.2.2.2.1 = true) (hnn : ∀ v ∈ As, v ≠ .null) (hs : am_Sm M.2.2.2.2.2.2.2.2 M.1 M.2.1 none M.2.2.2.2.2.1 d (am_po cvf sw) X 0 (am_al M.2.2.2.2.1 As) [] (am_hp sw s)) (hX : X = some (v, s')) : am_Run (d + 1) mno As (am_hp sw s) (cvf v) (am_hp sw s') := by
  have h9 : am_mo M := by
    rcases am_mo_all mno M hM with g | g | g
    · rw [g] at h16; cases h16
    · rw [g] at h16; cases h16
    · exact g
  exact ⟨M, hM, Nat.le_refl _, Or.inr (Or.inr ⟨Nat.le_of_ble_eq_true h16, h9, Nat.le_of_ble_eq_true hln, hnn, hs _ hX _ _ ⟨rfl, rfl⟩⟩)⟩
