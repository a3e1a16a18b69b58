/-! the reference's search, whole; best, owes, spare -/
def rset (R : Nat → Int32) (p : Nat) (y : Int32) (j : Nat) : Int32 := if j = p then y else R j
theorem upM_lt {M : Option Nat} {t t' : Nat} {B X Y : Nat → Int32} (h : t < t') : upM (upM M t) t' = upM M t' ∧ upB (upM M t) t' (upB M t B X) Y = upB M t' B Y := by
  cases M with
  | none =>
    simp only [upM, upB, btr, if_true, h, decide_true]
    exact ⟨trivial, trivial⟩
  | some m =>
    by_cases e : m < t
    · have e2 : m < t' := by omega
      simp only [upM, upB, btr, e, e2, h, decide_true, if_true]
      exact ⟨trivial, trivial⟩
    · simp only [upM, upB, btr, e, decide_false, Bool.false_eq_true, if_false]
      exact ⟨by first | trivial | rfl, by first | trivial | rfl⟩
theorem upM_ge {M : Option Nat} {t t' : Nat} {B X Y : Nat → Int32} (h : t' ≤ t) : upM (upM M t) t' = upM M t ∧ upB (upM M t) t' (upB M t B X) Y = upB M t B X := by
  cases M with
  | none =>
    have e : ¬ t < t' := by omega
    simp only [upM, upB, btr, if_true, e, decide_false, Bool.false_eq_true, if_false]
    exact ⟨trivial, trivial⟩
  | some m =>
    by_cases e : m < t
    · have e2 : ¬ t < t' := by omega
      simp only [upM, upB, btr, e, e2, decide_true, decide_false, if_true, Bool.false_eq_true, if_false]
      exact ⟨trivial, trivial⟩
    · have e2 : ¬ m < t' := by omega
      simp only [upM, upB, btr, e, e2, decide_false, Bool.false_eq_true, if_false]
      exact ⟨trivial, trivial⟩
section PU
variable {Z : dZ} {u v : ab_S} {x : Int32} {o1 : Nat} {s : Nat → Int32}
theorem stG.congr {p : Nat} {M : Option Nat} {B B' R : Nat → Int32} (h : stG Z v p M B R) (e : ∀ j, j < Z.1 → B j = B' j) : stG Z v p M B' R := ⟨h.1, h.2.1, fun j hj => (h.2.2.1 j hj).trans (e j hj), h.2.2.2.1, h.2.2.2.2⟩
theorem stG.down {p : Nat} {M : Option Nat} {B R : Nat → Int32} {y : Int32} (h : stG Z v (p + 1) M B (rset R p y)) : stG Z v p M B R := ⟨h.1, h.2.1, h.2.2.1, fun j hj => by
  rw [h.2.2.2.1 j (by omega)]
  unfold rset
  rw [if_neg (by omega)], h.2.2.2.2⟩
theorem stG.up {p : Nat} {M : Option Nat} {B R : Nat → Int32} {y : Int32} (h : stG Z v p M B R) : stG Z (sI v 21 p y) (p + 1) M B (rset R p y) := by
  obtain ⟨h1, h2, h3, h4, h5⟩ := h
  have f : Fr (fun a _ => a = 21) v (sI v 21 p y) := Fr.sI rfl
  refine ⟨h1.fr f (by intro a k a1 a2 q; omega), by rw [sI_at, if_neg (by omega)]; exact h2, fun j hj => by rw [sI_at, if_neg (by omega)]; exact h3 j hj, fun j hj => ?_, h5⟩
  unfold rset
  by_cases e : j = p
  · subst e; rw [sI_at, if_pos ⟨rfl, rfl⟩, if_pos rfl]
  · rw [sI_at, if_neg (by omega), if_neg e]; exact h4 j (by omega)
theorem stG.sc {p : Nat} {M : Option Nat} {B R : Nat → Int32} {w : ab_S} (h : stG Z v p M B R) (s' : Sc v w) : stG Z w p M B R := by
  obtain ⟨h1, h2, h3, h4, h5⟩ := h
  exact ⟨h1.sc s', by rw [s'.1 0 32 (by intro z; rcases z with z | z <;> omega)]; exact h2, fun j hj => by rw [s'.1 22 j (by intro z; rcases z with z | z <;> omega)]; exact h3 j hj, fun j hj => by rw [s'.1 21 j (by intro z; rcases z with z | z <;> omega)]; exact h4 j hj, h5⟩
def giv (Z : dZ) (x : Int32) (d p g sm : Nat) (M : Option Nat) (B R : Nat → Int32) (v v' : ab_S) : Prop := stG Z v' p (upM M (sm + mS Z x d p g)) (upB M (sm + mS Z x d p g) B (cmb R p (rowF Z x d p g))) R ∧ Fr dGv v v'
theorem dGv21 {y : Int32} {p : Nat} : Fr dGv v (sI v 21 p y) := Fr.sI (Or.inr (Or.inr (Or.inl rfl)))
theorem m_gives133 (hE : pE Z) {d n p g sm : Nat} {M : Option Nat} {B R : Nat → Int32} (hp : p < Z.1) (ih : ∀ (g sm : Nat) (M : Option Nat) (B R : Nat → Int32) (v : ab_S), g < 256 → sm + 99 * d ≤ 1000 → stG Z v (p + 1) M B R → Wp (zX10_givesFrom n (nI (p + 1)) (nI g) (nI sm) x v) (fun _ v' => giv Z x d (p + 1) g sm M B R v v')) (hg : g < 256) (hsm : sm + 99 * d ≤ 1000) (h : stG Z v p M B R) : Wp (fX10_givesFrom_133 (zX10_givesFrom n) (nI p) (nI g) (nI sm) x v) (fun _ v' => stG Z v' p (upM M (sm + mS Z x d (p + 1) g)) (upB M (sm + mS Z x d (p + 1) g) B (cmb (rset R p (-1)) (p + 1) (rowF Z x d (p + 1) g))) R ∧ Fr dGv v v') := by
  have hp6 := hE.1
  unfold fX10_givesFrom_133
  simp (disch := first | omega | decide) only [i10, i00, decide_true, decide_false, cnd_t, cnd_f, gd_nil, gd_t, b1_0, b1_1, sw_nil, sw_cons, obs, ix_nI, nc_nI, nI_addo, wp_bind, wp_ret]
  refine (ih g sm M B (rset R p (-1)) (sI v 21 p (-1)) hg hsm h.up).mono fun _ v' z => ⟨z.1.down, dGv21.trans z.2⟩
def stK (Z : dZ) (x : Int32) (d p g sm : Nat) (M : Option Nat) (B R : Nat → Int32) : Option (Nat × Nat) → Option Nat × (Nat → Int32)
  | none => (M, B)
  | some q => (upM M (sm + q.2), upB M (sm + q.2) B (cmb (rset R p (nI q.1)) (p + 1) (rowF Z x d (p + 1) (g ||| 2 ^ q.1))))
theorem cmb_up {R X Y : Nat → Int32} {p : Nat} {y : Int32} (h0 : Y p = y) (h : ∀ j, p < j → Y j = X j) (j : Nat) : cmb (rset R p y) (p + 1) X j = cmb R p Y j := by
  unfold cmb rset
  by_cases e : j = p
  · subst e
    rw [if_pos (by omega), if_pos rfl, if_neg (by omega), h0]
  · by_cases e2 : j < p
    · rw [if_pos (by omega), if_neg e, if_pos e2]
    · rw [if_neg (by omega), if_neg e2, h j (by omega)]
theorem upB_congr {M : Option Nat} {t : Nat} {B X Y : Nat → Int32} (h : ∀ j, X j = Y j) (j : Nat) : upB M t B X j = upB M t B Y j := by
  unfold upB
  split
  · exact h j
  · rfl
theorem m_gives_end (hE : pE Z) {d n p g sm : Nat} {M : Option Nat} {B R : Nat → Int32} (hp : p < Z.1) (ih : ∀ (g sm : Nat) (M : Option Nat) (B R : Nat → Int32) (v : ab_S), g < 256 → sm + 99 * d ≤ 1000 → stG Z v (p + 1) M B R → Wp (zX10_givesFrom n (nI (p + 1)) (nI g) (nI sm) x v) (fun _ v' => giv Z x d (p + 1) g sm M B R v v')) (hg : g < 256) (hsm : sm + 99 * (d + 1) ≤ 1000) (h : stG Z v p (stK Z x d p g sm M B R (wst (gW Z x d p g) (gI x p g) Z.2.1)).1 (stK Z x d p g sm M B R (wst (gW Z x d p g) (gI x p g) Z.2.1)).2 R) : Wp (fX10_givesFrom_133 (zX10_givesFrom n) (nI p) (nI g) (nI sm) x v) (fun _ v' => giv Z x (d + 1) p g sm M B R v v') := by
  refine (m_gives133 hE hp ih hg (by omega) h).mono fun _ v' z => ⟨?_, z.2⟩
  have z := z.1
  have em := mS_s Z x d p g
  have er : ∀ j, p < j → rowF Z x (d + 1) p g j = rowF Z x d (p + 1) (gN g (chS Z x d p g)) j := fun j hj => by rw [rowF, if_neg (by omega)]
  have er0 : rowF Z x (d + 1) p g p = eO (chS Z x d p g) := by rw [rowF, if_pos rfl]
  cases hw : wst (gW Z x d p g) (gI x p g) Z.2.1 with
  | none =>
    have hc : chS Z x d p g = none := by unfold chS; rw [hw]
    rw [hw] at em z
    have em : mS Z x (d + 1) p g = mS Z x d (p + 1) g := em
    rw [hc] at er er0
    rw [em]
    exact z.congr fun j _ => upB_congr (cmb_up er0 er) j
  | some q =>
    rw [hw] at em z
    have em : mS Z x (d + 1) p g = (if q.2 < mS Z x d (p + 1) g then mS Z x d (p + 1) g else q.2) := em
    have hc : chS Z x d p g = (if q.2 < mS Z x d (p + 1) g then none else some q.1) := by unfold chS; rw [hw]
    by_cases e : q.2 < mS Z x d (p + 1) g
    · rw [if_pos e] at em hc
      rw [hc] at er er0
      have hh := upM_lt (M := M) (B := B) (X := cmb (rset R p (nI q.1)) (p + 1) (rowF Z x d (p + 1) (g ||| 2 ^ q.1))) (Y := cmb (rset R p (-1)) (p + 1) (rowF Z x d (p + 1) g)) (show sm + q.2 < sm + mS Z x d (p + 1) g by omega)
      have z : stG Z v' p (upM (upM M (sm + q.2)) (sm + mS Z x d (p + 1) g)) (upB (upM M (sm + q.2)) (sm + mS Z x d (p + 1) g) (upB M (sm + q.2) B (cmb (rset R p (nI q.1)) (p + 1) (rowF Z x d (p + 1) (g ||| 2 ^ q.1)))) (cmb (rset R p (-1)) (p + 1) (rowF Z x d (p + 1) g))) R := z
      rw [hh.1, hh.2] at z
      rw [em]
      exact z.congr fun j _ => upB_congr (cmb_up er0 er) j
    · rw [if_neg e] at em hc
      rw [hc] at er er0
      have hh := upM_ge (M := M) (B := B) (X := cmb (rset R p (nI q.1)) (p + 1) (rowF Z x d (p + 1) (g ||| 2 ^ q.1))) (Y := cmb (rset R p (-1)) (p + 1) (rowF Z x d (p + 1) g)) (show sm + mS Z x d (p + 1) g ≤ sm + q.2 by omega)
      have z : stG Z v' p (upM (upM M (sm + q.2)) (sm + mS Z x d (p + 1) g)) (upB (upM M (sm + q.2)) (sm + mS Z x d (p + 1) g) (upB M (sm + q.2) B (cmb (rset R p (nI q.1)) (p + 1) (rowF Z x d (p + 1) (g ||| 2 ^ q.1)))) (cmb (rset R p (-1)) (p + 1) (rowF Z x d (p + 1) g))) R := z
      rw [hh.1, hh.2] at z
      rw [em]
      exact z.congr fun j _ => upB_congr (cmb_up er0 er) j
theorem stG.frg {p : Nat} {M : Option Nat} {B R : Nat → Int32} {k : Nat} (h : stG Z v p M B R) : True := trivial
theorem m_gives70 (hE : pE Z) {d n p g sm : Nat} {M : Option Nat} {B R : Nat → Int32} (hp : p < Z.1) (ih : ∀ (g sm : Nat) (M : Option Nat) (B R : Nat → Int32) (v : ab_S), g < 256 → sm + 99 * d ≤ 1000 → stG Z v (p + 1) M B R → Wp (zX10_givesFrom n (nI (p + 1)) (nI g) (nI sm) x v) (fun _ v' => giv Z x d (p + 1) g sm M B R v v')) (hg : g < 256) (hsm : sm + 99 * (d + 1) ≤ 1000) : ∀ (e k n' : Nat) (v : ab_S), k + e = Z.2.1 → e < n' → stG Z v p (stK Z x d p g sm M B R (wst (gW Z x d p g) (gI x p g) k)).1 (stK Z x d p g sm M B R (wst (gW Z x d p g) (gI x p g) k)).2 R → Wp (fX10_givesFrom_70 (zX10_givesFrom n) n' (nI p) (nI g) (nI sm) x (nI k) v) (fun _ v' => giv Z x (d + 1) p g sm M B R v v') := by
  have hp6 := hE.1
  have hg8 := hE.2.1
  intro e
  induction e with
  | zero =>
    intro k n' v hk hn h
    obtain ⟨n', rfl⟩ : ∃ j, n' = j + 1 := ⟨n' - 1, by omega⟩
    have ek : k = Z.2.1 := by omega
    subst ek
    rw [fX10_givesFrom_70, m_goods hE h.1]
    simp (disch := first | omega | decide) only [i10, i00, decide_true, decide_false, cnd_t, cnd_f, gd_nil, gd_t, b1_0, b1_1, sw_nil, sw_cons, obs, Nat.not_lt_zero, nI_addo, nI_oadd, nI_add, nI_mulo, nI_omul, nI_mul, nI_lto, nI_leo, nI_olt, nI_ole, nI_eqo, nI_oeq, nI_lt2, nI_le2, nI_eq2, nI_nm1, nI_m1n, nI_lt0, nI_lem1, nc_nI, nc_o, ix_nI, ix_o, Nat.lt_irrefl]
    exact m_gives_end hE hp ih hg hsm h
  | succ e ihe =>
    intro k n' v hk hn h
    obtain ⟨n', rfl⟩ : ∃ j, n' = j + 1 := ⟨n' - 1, by omega⟩
    have hk8 : k < Z.2.1 := by omega
    rw [fX10_givesFrom_70, m_goods hE h.1]
    simp (disch := first | omega | decide) only [i10, i00, decide_true, decide_false, cnd_t, cnd_f, gd_nil, gd_t, b1_0, b1_1, sw_nil, sw_cons, obs, nI_lt2, hk8, zb_b0 hg (show k < 8 by omega)]
    by_cases hx : nI p = x
    · simp only [hx, i10, i00, decide_true, decide_false, cnd_t, cnd_f, gd_nil, gd_t, b1_0, b1_1, sw_nil, sw_cons, obs]
      have hno : ∀ K, wst (gW Z x d p g) (gI x p g) K = none := fun K => wst_no (fun k => by unfold gI; simp only [hx, decide_true, Bool.not_true, Bool.false_and]) K
      rw [hno k] at h
      rw [← hno Z.2.1] at h
      rw [← hx]
      rw [← hx] at h ih
      exact m_gives_end hE hp ih hg hsm h
    · have ein : gI x p g k = !g.testBit k := by
        unfold gI
        simp only [hx, decide_false, Bool.not_false, Bool.true_and]
      have ihe := ihe (k + 1) n'
      rw [wst, ein] at ihe
      simp only [hx, i10, i00, decide_true, decide_false, cnd_t, cnd_f, gd_nil, gd_t, b1_0, b1_1, sw_nil, sw_cons, obs]
      cases hb : g.testBit k
      · rw [hb] at ihe
        simp only [Bool.not_false, if_true] at ihe
        have f1 := hE.2.2.2.2.2.2.2.1 p k 0
        have hml := mS_le hE x d (p + 1) (g ||| 2 ^ k)
        simp (disch := first | omega | decide) only [i10, i00, decide_true, decide_false, cnd_t, cnd_f, gd_nil, gd_t, b1_0, b1_1, sw_nil, sw_cons, obs, ix_nI, nc_nI, wp_bind]
        have hup := h.up (y := nI k)
        refine m_fitBy (j := 0) hE hup.1 hp hk8 (by omega) fun v1 s1 => ?_
        rw [zb_or hg (show k < 8 by omega), nI_add, nI_addo]
        refine (ih (g ||| 2 ^ k) (sm + Z.2.2.2 p k 0) _ _ _ v1 (zb_or256 hg (by omega)) (by omega) (hup.sc s1)).mono fun _ v2 z => ?_
        have ew : sm + Z.2.2.2 p k 0 + mS Z x d (p + 1) (g ||| 2 ^ k) = sm + gW Z x d p g k := by unfold gW; omega
        have z1 := z.1
        rw [ew] at z1
        have z1 := z1.down
        have fz : Fr dGv v v2 := dGv21.trans ((s1.mono fun a k q => by
          rcases q with q | q
          · exact Or.inl q
          · exact Or.inr (Or.inl q)).trans z.2)
        rw [nI_addo]
        refine (ihe v2 (by omega) (by omega) ?_).mono fun _ v3 y => ⟨y.1, fz.trans y.2⟩
        cases hw : wst (gW Z x d p g) (gI x p g) k with
        | none =>
          rw [hw] at z1
          exact z1
        | some q =>
          rw [hw] at z1
          have z1 : stG Z v2 p (upM (upM M (sm + q.2)) (sm + gW Z x d p g k)) (upB (upM M (sm + q.2)) (sm + gW Z x d p g k) (upB M (sm + q.2) B (cmb (rset R p (nI q.1)) (p + 1) (rowF Z x d (p + 1) (g ||| 2 ^ q.1)))) (cmb (rset R p (nI k)) (p + 1) (rowF Z x d (p + 1) (g ||| 2 ^ k)))) R := z1
          by_cases e3 : q.2 < gW Z x d p g k
          · have hh := upM_lt (M := M) (B := B) (X := cmb (rset R p (nI q.1)) (p + 1) (rowF Z x d (p + 1) (g ||| 2 ^ q.1))) (Y := cmb (rset R p (nI k)) (p + 1) (rowF Z x d (p + 1) (g ||| 2 ^ k))) (show sm + q.2 < sm + gW Z x d p g k by omega)
            rw [hh.1, hh.2] at z1
            simp only [e3, if_true]
            exact z1
          · have hh := upM_ge (M := M) (B := B) (X := cmb (rset R p (nI q.1)) (p + 1) (rowF Z x d (p + 1) (g ||| 2 ^ q.1))) (Y := cmb (rset R p (nI k)) (p + 1) (rowF Z x d (p + 1) (g ||| 2 ^ k))) (show sm + gW Z x d p g k ≤ sm + q.2 by omega)
            rw [hh.1, hh.2] at z1
            simp only [e3, if_false]
            exact z1
      · rw [hb] at ihe
        simp only [Bool.not_true, Bool.false_eq_true, if_false] at ihe
        simp only [i10, i00, decide_true, decide_false, cnd_t, cnd_f, gd_nil, gd_t, b1_0, b1_1, sw_nil, sw_cons, obs, Bool.true_eq_false, nI_addo]
        exact ihe v (by omega) (by omega) h
theorem m_gives (hE : pE Z) : ∀ (d n p g sm : Nat) (M : Option Nat) (B R : Nat → Int32) (v : ab_S), p + d = Z.1 → d < n → g < 256 → sm + 99 * d ≤ 1000 → stG Z v p M B R → Wp (zX10_givesFrom n (nI p) (nI g) (nI sm) x v) (fun _ v' => giv Z x d p g sm M B R v v') := by
  have hp6 := hE.1
  have hg8 := hE.2.1
  intro d
  induction d with
  | zero =>
    intro n p g sm M B R v hp hn hg hsm h
    obtain ⟨n, rfl⟩ : ∃ j, n = j + 1 := ⟨n - 1, by omega⟩
    have e : p = Z.1 := by omega
    subst e
    obtain ⟨v', q1, q2, q3⟩ := m_leaf0 (G := zX10_givesFrom n) hE (show sm ≤ 1000 by omega) h
    show Wp (fX10_givesFrom (zX10_givesFrom n) (nI Z.1) (nI g) (nI sm) x v) _
    unfold fX10_givesFrom
    rw [m_persons hE h.1]
    simp only [obs, i10, i00, decide_true, decide_false, cnd_t, cnd_f, gd_nil, gd_t, b1_0, b1_1, sw_nil, sw_cons, obs, q1, wp_ret]
    refine ⟨?_, q3⟩
    show stG Z v' Z.1 (upM M (sm + 0)) (upB M (sm + 0) B (cmb R Z.1 (rowF Z x 0 Z.1 g))) R
    rw [Nat.add_zero]
    refine q2.congr fun j hj => ?_
    unfold upB
    split
    · unfold cmb; rw [if_pos hj]
    · rfl
  | succ d ih =>
    intro n p g sm M B R v hp hn hg hsm h
    obtain ⟨n, rfl⟩ : ∃ j, n = j + 1 := ⟨n - 1, by omega⟩
    have e : ¬ p = Z.1 := by omega
    show Wp (fX10_givesFrom (zX10_givesFrom n) (nI p) (nI g) (nI sm) x v) _
    unfold fX10_givesFrom
    rw [m_persons hE h.1]
    simp (disch := first | omega | decide) only [obs, nI_eq2, e, i10, i00, decide_true, decide_false, cnd_t, cnd_f, gd_nil, gd_t, b1_0, b1_1, sw_nil, sw_cons, obs]
    exact m_gives70 hE (show p < Z.1 by omega) (fun g sm M B R v a c d' => ih n (p + 1) g sm M B R v (by omega) (by omega) a c d') hg hsm Z.2.1 0 fu v (Nat.zero_add _) (by simp only [fu]; omega) h
theorem m_givesOut (hE : pE Z) (hm : pm_O Z v) (x : Int32) : Wp (fX10_givesOut x v) (fun _ v' => v'.1 0 32 = nI (mS Z x Z.1 0 0) ∧ (∀ j, j < Z.1 → v'.1 22 j = rowF Z x Z.1 0 0 j) ∧ Fr dGv v v') := by
  have hp6 := hE.1
  have f : Fr dGv v (sI v 0 32 (-1)) := Fr.sI (Or.inr (Or.inr (Or.inr (Or.inr ⟨rfl, rfl⟩))))
  have h0 : stG Z (sI v 0 32 (-1)) 0 none (fun j => v.1 22 j) (fun _ => 0) := ⟨hm.fr f (by intro a k a1 a2 q; rcases q with q | q | q | q | q <;> omega), by rw [sI_at, if_pos ⟨rfl, rfl⟩]; rfl, fun j hj => by rw [sI_at, if_neg (by omega)], fun j hj => absurd hj (Nat.not_lt_zero j), fun m hm => by cases hm⟩
  have h := m_gives (x := x) hE Z.1 10 0 0 0 none (fun j => v.1 22 j) (fun _ => 0) (sI v 0 32 (-1)) (Nat.zero_add _) (by omega) (by decide) (by omega) h0
  unfold fX10_givesOut wX10_givesFrom
  rw [wp_bind]
  refine h.mono fun _ v' z => ?_
  rw [wp_ret]
  obtain ⟨⟨z1, z2, z3, z4, z5⟩, z6⟩ := z
  refine ⟨?_, fun j hj => ?_, f.trans z6⟩
  · rw [z2]
    show eO (upM none (0 + mS Z x Z.1 0 0)) = _
    rw [Nat.zero_add]
    rfl
  · rw [z3 j hj]
    rfl
-- ===== the calls =====
def qG (Z : dZ) (x y : Option (Int32 × ab_S)) (u v : ab_S) : Prop := ∃ r u' v', x = some (r, u') ∧ y = some (r, v') ∧ Fr dGu u u' ∧ Fr dMu v v' ∧ gR Z u'
theorem dGv.mu {v v' : ab_S} (h : Fr dGv v v') : Fr dMu v v' := h.mono fun a k z => by
  rcases z with z | z | z | z | z
  · exact Or.inl z
  · exact Or.inr (Or.inl z)
  · exact Or.inr (Or.inr (Or.inr (Or.inl (by omega))))
  · exact Or.inr (Or.inr (Or.inr (Or.inl (by omega))))
  · exact Or.inr (Or.inr (Or.inr (Or.inr ⟨z.1, Or.inr z.2⟩)))
theorem rowF_ok (hE : pE Z) (x : Int32) : ∀ (d p g j : Nat), rowF Z x d p g j = -1 ∨ ∃ k, k < Z.2.1 ∧ rowF Z x d p g j = nI k
  | 0, _, _, _ => Or.inl rfl
  | d + 1, p, g, j => by
    rw [rowF]
    by_cases e : j = p
    · rw [if_pos e]
      cases h : chS Z x d p g with
      | none => exact Or.inl rfl
      | some k => exact Or.inr ⟨k, (chS_lt h).1, rfl⟩
    · rw [if_neg e]
      exact rowF_ok hE x d (p + 1) _ j
theorem c_best19 (hE : pE Z) (ho : u.2.2 0 + 12 ≤ 38) (hO : pc_O Z (u.2.2 0) u) (hm : pm_O Z v) (hR : gR Z u) {y : Int32} (hy : y = -1 ∨ ∃ p, p < Z.1 ∧ y = nI p) : qG Z (fX9_best_19 y u) (fX10_best_21 y v) u v := by
  have hp6 := hE.1
  obtain ⟨u', q1, q2, q3, q4, q5⟩ := c_give hE ho hO hR
  obtain ⟨_, v', w1, w2, w3, w4⟩ := m_givesOut hE hm (-1)
  unfold fX9_best_19 fX10_best_21
  rw [q1, w1]
  simp only [obs]
  rcases hy with rfl | ⟨p, hp, rfl⟩
  · simp only [i10, i00, decide_true, decide_false, cnd_t, cnd_f, gd_nil, gd_t, b1_0, b1_1, sw_nil, sw_cons, obs, q3, w2]
    exact ⟨_, u', v', rfl, rfl, q5, dGv.mu w4, Or.inr ⟨q2, q3, q4⟩⟩
  · simp (disch := first | omega | decide) only [nI_nm1, i10, i00, decide_true, decide_false, cnd_t, cnd_f, gd_nil, gd_t, b1_0, b1_1, sw_nil, sw_cons, obs, ix_nI, nc_nI, w3 p hp]
    rw [c_given (by omega), q4 p hp]
    exact ⟨_, u', v', rfl, rfl, q5, dGv.mu w4, Or.inr ⟨q2, q3, q4⟩⟩
theorem qG.th {x y : Option (Int32 × ab_S)} {a : Int32} (h : qG Z x y u (sI v 0 0 a)) : qG Z x y u v := by
  obtain ⟨r, u', v', h1, h2, h3, h4, h5⟩ := h
  exact ⟨r, u', v', h1, h2, h3, th_mu.trans h4, h5⟩
theorem q_best (hN : pN Z s u v) (hR : gR Z u) (y : Int32) : qG Z (fX9_best y u) (fX10_best y v) u v := by
  have hN0 := hN.th (x := 0)
  unfold fX9_best fX10_best
  by_cases e : y = -1
  · have h := c_best19 hN.1 hN.2.2.1 hN.2.1 hN0.2.2.2.1 hR (Or.inl e)
    simp only [e, i10, i00, decide_true, decide_false, cnd_t, cnd_f, gd_nil, gd_t, b1_0, b1_1, sw_nil, sw_cons, obs] at h ⊢
    exact h.th
  · simp only [e, i10, i00, decide_true, decide_false, cnd_t, cnd_f, gd_nil, gd_t, b1_0, b1_1, sw_nil, sw_cons, obs]
    rcases isP Z hN.1.1 y with ⟨p, hp, rfl⟩ | hx
    · rw [c_hasP1 hN0.1 hN0.2.1 hp, m_isP1 hN0.1 hN0.2.2.2.1 hp]
      simp only [i10, i00, decide_true, decide_false, cnd_t, cnd_f, gd_nil, gd_t, b1_0, b1_1, sw_nil, sw_cons, obs]
      exact (c_best19 hN.1 hN.2.2.1 hN.2.1 hN0.2.2.2.1 hR (Or.inr ⟨p, hp, rfl⟩)).th
    · rw [c_hasP0 hN0.2.1 hx, m_isP0 hN0.1 hN0.2.2.2.1 hx]
      simp only [i10, i00, decide_true, decide_false, cnd_t, cnd_f, gd_nil, gd_t, b1_0, b1_1, sw_nil, sw_cons, obs]
      exact ⟨_, u, _, rfl, rfl, Fr.rfl', th_mu, hR⟩
theorem gR.fr {u' : ab_S} (h : gR Z u) {D : Nat → Nat → Prop} (f : Fr D u u') (hd : ∀ a k, a = 154 ∨ a = 155 → ¬ D a k) : gR Z u' := by
  unfold gR
  rw [f.1 154 0 (hd _ _ (Or.inl rfl)), f.1 154 1 (hd _ _ (Or.inl rfl))]
  rcases h with h | ⟨h1, h2, h3⟩
  · exact Or.inl h
  · exact Or.inr ⟨h1, h2, fun j hj => by rw [f.1 155 j (hd _ _ (Or.inr rfl))]; exact h3 j hj⟩
theorem pN.gu (h : pN Z s u v) {u' : ab_S} (f : Fr dGu u u') : pN Z s u' v := by
  obtain ⟨hE, hO, ho, hm, hc, hs, hv⟩ := h
  have e : u'.2.2 = u.2.2 := f.2.2
  refine ⟨hE, ?_, ?_, hm, hc.fr f ?_, hs, hv⟩
  · rw [e]
    exact hO.fr f (by intro a k h1 h2 q; rcases q with q | q | q <;> omega)
  · rw [e]; exact ho
  · intro a k h1 h2 q
    rcases q with q | q | q <;> omega
theorem c_owes52 (hE : pE Z) {p own : Nat} (hN : pN Z s u v) (h2 : u.1 154 0 = 1) (h3 : u.1 154 1 = nI (mS Z (-1) Z.1 0 0)) (h4 : ∀ j, j < Z.1 → u.1 155 j = rowF Z (-1) Z.1 0 0 j) : qG Z (fX9_owes_52 (nI p) (nI own) u) (fX10_owes_49 (nI p) (nI (mS Z (-1) Z.1 0 0)) (nI own) v) u v := by
  obtain ⟨u', q1, q2, q3⟩ := c_without hE hN.2.2.1 hN.2.1 (nI p)
  obtain ⟨_, v', w1, w2, w3, w4⟩ := m_givesOut hE hN.2.2.2.1 (nI p)
  have q3' : Fr dGu u u' := q3.mono fun a k z => Or.inr (Or.inr z)
  unfold fX9_owes_52 fX10_owes_49
  rw [q1, w1]
  simp only [obs]
  rw [q3.1 154 1 (by omega), h3, w2]
  exact ⟨_, u', v', rfl, rfl, q3', dGv.mu w4, gR.fr (Or.inr ⟨h2, h3, h4⟩) q3 (by intro a k a1 a2; omega)⟩
theorem q_owes (hN : pN Z s u v) (hR : gR Z u) (y : Int32) : qG Z (fX9_owes y u) (fX10_owes y v) u v := by
  have hN0 := hN.th (x := 0)
  have hE := hN.1
  have hp6 := hE.1
  have hg8 := hE.2.1
  unfold fX9_owes fX10_owes
  rcases isP Z hE.1 y with ⟨p, hp, rfl⟩ | hx
  · rw [c_hasP1 hE hN.2.1 hp, m_isP1 hE hN0.2.2.2.1 hp]
    simp only [i10, i00, decide_true, decide_false, cnd_t, cnd_f, gd_nil, gd_t, b1_0, b1_1, sw_nil, sw_cons, obs]
    obtain ⟨u1, q1, q2, q3, q4, q5⟩ := c_give hE hN.2.2.1 hN.2.1 hR
    obtain ⟨_, v1, w1, w2, w3, w4⟩ := m_givesOut hE hN0.2.2.2.1 (-1)
    have hN1 : pN Z s u1 v1 := (hN0.gu q5).fr Fr.rfl' (dGv.mu w4)
    rw [q1, w1]
    simp (disch := first | omega | decide) only [i10, i00, decide_true, decide_false, cnd_t, cnd_f, gd_nil, gd_t, b1_0, b1_1, sw_nil, sw_cons, obs, ix_nI, nc_nI, w3 p hp, w2]
    rw [c_given (by omega), q4 p hp]
    simp only [obs]
    rcases rowF_ok hE (-1) Z.1 0 0 p with e | ⟨k, hk, e⟩
    · rw [e]
      simp only [m1lt0, i10, i00, decide_true, decide_false, cnd_t, cnd_f, gd_nil, gd_t, b1_0, b1_1, sw_nil, sw_cons, obs]
      obtain ⟨r, u', v', h1, h2, h3, h4, h5⟩ := c_owes52 hE (p := p) (own := 0) hN1 q2 q3 q4
      exact ⟨r, u', v', h1, h2, q5.trans h3, th_mu.trans ((dGv.mu w4).trans h4), h5⟩
    · rw [e]
      simp (disch := first | omega | decide) only [nI_lt0, nI_nm1, i10, i00, decide_true, decide_false, cnd_t, cnd_f, gd_nil, gd_t, b1_0, b1_1, sw_nil, sw_cons, obs]
      have ef : fX2_fitBy (u1.2.2 0) (nI p) (nI k) 0 u1 = some (nI (Z.2.2.2 p k 0), u1) := c_fitBy (j := 0) hE hN1.2.1 hp hk (by omega)
      have mf : Wp (fX10_fitBy (nI p) (nI k) 0 v1) (fun r w => r = nI (Z.2.2.2 p k 0) ∧ Sc v1 w) := m_fitBy (j := 0) hE hN1.2.2.2.1 hp hk (by omega) fun w s' => ⟨rfl, s'⟩
      obtain ⟨r0, v2, y1, y2, y3⟩ := mf
      subst y2
      rw [ef, y1]
      simp only [obs]
      obtain ⟨r, u', v', h1, h2, h3, h4, h5⟩ := c_owes52 hE (p := p) (own := Z.2.2.2 p k 0) (hN1.sc y3) q2 q3 q4
      exact ⟨r, u', v', h1, h2, q5.trans h3, th_mu.trans ((dGv.mu w4).trans ((Sc.mu y3).trans h4)), h5⟩
  · rw [c_hasP0 hN.2.1 hx, m_isP0 hE hN0.2.2.2.1 hx]
    simp only [i10, i00, decide_true, decide_false, cnd_t, cnd_f, gd_nil, gd_t, b1_0, b1_1, sw_nil, sw_cons, obs]
    exact ⟨_, u, _, rfl, rfl, Fr.rfl', th_mu, hR⟩
theorem spare17 (hE : pE Z) {o1 : Nat} (hO : pc_O Z o1 u) (eo : u.2.2 0 = o1) (hm : pm_O Z v) (h4 : ∀ j, j < Z.1 → u.1 155 j = rowF Z (-1) Z.1 0 0 j) (w3 : ∀ j, j < Z.1 → v.1 22 j = rowF Z (-1) Z.1 0 0 j) : ∀ (d p n m : Nat) (a : Int32), p + d = Z.1 → d < n → d < m → ∃ r, fX9_spare_21 n a (nI p) u = some (r, u) ∧ fX10_spare_17 m a (nI p) v = some (r, v) := by
  have hp6 := hE.1
  subst eo
  intro d
  induction d with
  | zero =>
    intro p n m a hp hn hmf
    obtain ⟨n, rfl⟩ : ∃ j, n = j + 1 := ⟨n - 1, by omega⟩
    obtain ⟨m, rfl⟩ : ∃ j, m = j + 1 := ⟨m - 1, by omega⟩
    have e : p = Z.1 := by omega
    subst e
    rw [fX9_spare_21, fX10_spare_17, hO.1, m_persons hE hm]
    simp (disch := first | omega | decide) only [i10, i00, decide_true, decide_false, cnd_t, cnd_f, gd_nil, gd_t, b1_0, b1_1, sw_nil, sw_cons, obs, Nat.not_lt_zero, nI_addo, nI_oadd, nI_add, nI_mulo, nI_omul, nI_mul, nI_lto, nI_leo, nI_olt, nI_ole, nI_eqo, nI_oeq, nI_lt2, nI_le2, nI_eq2, nI_nm1, nI_m1n, nI_lt0, nI_lem1, nc_nI, nc_o, ix_nI, ix_o, Nat.lt_irrefl]
    exact ⟨_, rfl, rfl⟩
  | succ d ih =>
    intro p n m a hp hn hmf
    obtain ⟨n, rfl⟩ : ∃ j, n = j + 1 := ⟨n - 1, by omega⟩
    obtain ⟨m, rfl⟩ : ∃ j, m = j + 1 := ⟨m - 1, by omega⟩
    have hp1 : p < Z.1 := by omega
    rw [fX9_spare_21, fX10_spare_17, hO.1, m_persons hE hm]
    simp (disch := first | omega | decide) only [i10, i00, decide_true, decide_false, cnd_t, cnd_f, gd_nil, gd_t, b1_0, b1_1, sw_nil, sw_cons, obs, nI_lt2, hp1, ix_nI, nc_nI, w3 p hp1]
    rw [c_given (by omega), h4 p hp1]
    simp only [obs]
    rcases rowF_ok hE (-1) Z.1 0 0 p with e | ⟨k, hk, e⟩
    · rw [e]
      simp only [m1lt0, i10, i00, decide_true, decide_false, cnd_t, cnd_f, gd_nil, gd_t, b1_0, b1_1, sw_nil, sw_cons, obs, nI_addo, Int32.and_neg_one]
      exact ih (p + 1) n m _ (by omega) (by omega) (by omega)
    · have hg8 := hE.2.1
      rw [e]
      simp (disch := first | omega | decide) only [nI_lt0, nI_nm1, i10, i00, decide_true, decide_false, cnd_t, cnd_f, gd_nil, gd_t, b1_0, b1_1, sw_nil, sw_cons, obs, nI_addo]
      exact ih (p + 1) n m _ (by omega) (by omega) (by omega)
theorem q_spare (hN : pN Z s u v) (hR : gR Z u) : qG Z (fX9_spare u) (fX10_spare v) u v := by
  have hN0 := hN.th (x := 0)
  have hE := hN.1
  have hp6 := hE.1
  obtain ⟨u1, q1, q2, q3, q4, q5⟩ := c_give hE hN.2.2.1 hN.2.1 hR
  obtain ⟨_, v1, w1, w2, w3, w4⟩ := m_givesOut hE hN0.2.2.2.1 (-1)
  have hN1 : pN Z s u1 v1 := (hN0.gu q5).fr Fr.rfl' (dGv.mu w4)
  unfold fX9_spare fX10_spare
  rw [q1, w1]
  simp only [obs]
  unfold fX2_allGoods
  rw [hN1.2.1.2.1, m_allG hE hN1.2.2.2.1]
  simp only [obs, zb_all hE.2.1]
  obtain ⟨r, h1, h2⟩ := spare17 hE hN1.2.1 rfl hN1.2.2.2.1 q4 w3 Z.1 0 fu fu (nI (2 ^ Z.2.1 - 1)) (Nat.zero_add _) (by simp only [fu]; omega) (by simp only [fu]; omega)
  exact ⟨r, u1, v1, h1, h2, q5, th_mu.trans (dGv.mu w4), Or.inr ⟨q2, q3, q4⟩⟩
end PU
