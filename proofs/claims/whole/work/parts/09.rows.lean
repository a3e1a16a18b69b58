/-! branches, switches, calls, entries -/
section ABH
variable {τ : Type} {sy own : Nat} {b : ByteArray} {rt : Option FieldType} {d pc : Nat} {L : List (Option ab_V)} {st : List ab_V} {u : ab_S} {w : τ → Option ab_V} {r1 r2 : Option (τ × ab_S)}
theorem g_ieq {x y : Int32} {off : Int} {tgt pc2 : Nat} (hd : decode b pc = .ok (.if_icmp .eq off, 3)) (ht : (pc : Int) + off = (tgt : Int)) (hp : pc + 3 = pc2) (k1 : ab_G sy own b rt d tgt L st u w r1) (k2 : ab_G sy own b rt d pc2 L st u w r2) : ab_G sy own b rt d pc L (.inl y :: .inl x :: st) u w (bif decide (x = y) then r1 else r2) := by
  intro z u' hx p l e s m args below meth c H locs ls E hfl F hret hlk hml X hl hL hst
  subst hp
  have hc := ab_cnd hx
  exact lv_icmp_eq F.1 F.2.1 hd ht (fun h => k1 z u' (hc.1 h) p l e s m args below meth c H locs ls E hfl F hret hlk hml X hl hL hst.tl.tl) (fun h => k2 z u' (hc.2 h) p l e s m args below meth c H locs ls E hfl F hret hlk hml X hl hL hst.tl.tl)
theorem g_ine {x y : Int32} {off : Int} {tgt pc2 : Nat} (hd : decode b pc = .ok (.if_icmp .ne off, 3)) (ht : (pc : Int) + off = (tgt : Int)) (hp : pc + 3 = pc2) (k1 : ab_G sy own b rt d tgt L st u w r1) (k2 : ab_G sy own b rt d pc2 L st u w r2) : ab_G sy own b rt d pc L (.inl y :: .inl x :: st) u w (bif decide (x = y) then r2 else r1) := by
  intro z u' hx p l e s m args below meth c H locs ls E hfl F hret hlk hml X hl hL hst
  subst hp
  have hc := ab_cnd hx
  exact lv_icmp_ne F.1 F.2.1 hd ht (fun h => k1 z u' (hc.2 h) p l e s m args below meth c H locs ls E hfl F hret hlk hml X hl hL hst.tl.tl) (fun h => k2 z u' (hc.1 h) p l e s m args below meth c H locs ls E hfl F hret hlk hml X hl hL hst.tl.tl)
theorem g_ilt {x y : Int32} {off : Int} {tgt pc2 : Nat} (hd : decode b pc = .ok (.if_icmp .lt off, 3)) (ht : (pc : Int) + off = (tgt : Int)) (hp : pc + 3 = pc2) (k1 : ab_G sy own b rt d tgt L st u w r1) (k2 : ab_G sy own b rt d pc2 L st u w r2) : ab_G sy own b rt d pc L (.inl y :: .inl x :: st) u w (bif decide (x < y) then r1 else r2) := by
  intro z u' hx p l e s m args below meth c H locs ls E hfl F hret hlk hml X hl hL hst
  subst hp
  have hc := ab_cnd hx
  exact lv_icmp_lt F.1 F.2.1 hd ht (fun h => k1 z u' (hc.1 h) p l e s m args below meth c H locs ls E hfl F hret hlk hml X hl hL hst.tl.tl) (fun h => k2 z u' (hc.2 h) p l e s m args below meth c H locs ls E hfl F hret hlk hml X hl hL hst.tl.tl)
theorem g_ige {x y : Int32} {off : Int} {tgt pc2 : Nat} (hd : decode b pc = .ok (.if_icmp .ge off, 3)) (ht : (pc : Int) + off = (tgt : Int)) (hp : pc + 3 = pc2) (k1 : ab_G sy own b rt d tgt L st u w r1) (k2 : ab_G sy own b rt d pc2 L st u w r2) : ab_G sy own b rt d pc L (.inl y :: .inl x :: st) u w (bif decide (x < y) then r2 else r1) := by
  intro z u' hx p l e s m args below meth c H locs ls E hfl F hret hlk hml X hl hL hst
  subst hp
  have hc := ab_cnd hx
  exact lv_icmp_ge F.1 F.2.1 hd ht (fun h => k1 z u' (hc.2 (Int32.not_lt.mpr h)) p l e s m args below meth c H locs ls E hfl F hret hlk hml X hl hL hst.tl.tl) (fun h => k2 z u' (hc.1 (Int32.not_le.mp h)) p l e s m args below meth c H locs ls E hfl F hret hlk hml X hl hL hst.tl.tl)
theorem g_igt {x y : Int32} {off : Int} {tgt pc2 : Nat} (hd : decode b pc = .ok (.if_icmp .gt off, 3)) (ht : (pc : Int) + off = (tgt : Int)) (hp : pc + 3 = pc2) (k1 : ab_G sy own b rt d tgt L st u w r1) (k2 : ab_G sy own b rt d pc2 L st u w r2) : ab_G sy own b rt d pc L (.inl y :: .inl x :: st) u w (bif decide (x ≤ y) then r2 else r1) := by
  intro z u' hx p l e s m args below meth c H locs ls E hfl F hret hlk hml X hl hL hst
  subst hp
  have hc := ab_cnd hx
  exact lv_icmp_gt F.1 F.2.1 hd ht (fun h => k1 z u' (hc.2 (Int32.not_le.mpr h)) p l e s m args below meth c H locs ls E hfl F hret hlk hml X hl hL hst.tl.tl) (fun h => k2 z u' (hc.1 (Int32.not_lt.mp h)) p l e s m args below meth c H locs ls E hfl F hret hlk hml X hl hL hst.tl.tl)
theorem g_ile {x y : Int32} {off : Int} {tgt pc2 : Nat} (hd : decode b pc = .ok (.if_icmp .le off, 3)) (ht : (pc : Int) + off = (tgt : Int)) (hp : pc + 3 = pc2) (k1 : ab_G sy own b rt d tgt L st u w r1) (k2 : ab_G sy own b rt d pc2 L st u w r2) : ab_G sy own b rt d pc L (.inl y :: .inl x :: st) u w (bif decide (x ≤ y) then r1 else r2) := by
  intro z u' hx p l e s m args below meth c H locs ls E hfl F hret hlk hml X hl hL hst
  subst hp
  have hc := ab_cnd hx
  exact lv_icmp_le F.1 F.2.1 hd ht (fun h => k1 z u' (hc.1 h) p l e s m args below meth c H locs ls E hfl F hret hlk hml X hl hL hst.tl.tl) (fun h => k2 z u' (hc.2 h) p l e s m args below meth c H locs ls E hfl F hret hlk hml X hl hL hst.tl.tl)
theorem g_zeq {x : Int32} {off : Int} {tgt pc2 : Nat} (hd : decode b pc = .ok (.ifCond .eq off, 3)) (ht : (pc : Int) + off = (tgt : Int)) (hp : pc + 3 = pc2) (k1 : ab_G sy own b rt d tgt L st u w r1) (k2 : ab_G sy own b rt d pc2 L st u w r2) : ab_G sy own b rt d pc L (.inl x :: st) u w (bif decide (x = 0) then r1 else r2) := by
  intro z u' hx p l e s m args below meth c H locs ls E hfl F hret hlk hml X hl hL hst
  subst hp
  have hc := ab_cnd hx
  exact lv_if_eq F.1 F.2.1 hd ht (fun h => k1 z u' (hc.1 h) p l e s m args below meth c H locs ls E hfl F hret hlk hml X hl hL hst.tl) (fun h => k2 z u' (hc.2 h) p l e s m args below meth c H locs ls E hfl F hret hlk hml X hl hL hst.tl)
theorem g_zne {x : Int32} {off : Int} {tgt pc2 : Nat} (hd : decode b pc = .ok (.ifCond .ne off, 3)) (ht : (pc : Int) + off = (tgt : Int)) (hp : pc + 3 = pc2) (k1 : ab_G sy own b rt d tgt L st u w r1) (k2 : ab_G sy own b rt d pc2 L st u w r2) : ab_G sy own b rt d pc L (.inl x :: st) u w (bif decide (x = 0) then r2 else r1) := by
  intro z u' hx p l e s m args below meth c H locs ls E hfl F hret hlk hml X hl hL hst
  subst hp
  have hc := ab_cnd hx
  exact lv_if_ne F.1 F.2.1 hd ht (fun h => k1 z u' (hc.2 h) p l e s m args below meth c H locs ls E hfl F hret hlk hml X hl hL hst.tl) (fun h => k2 z u' (hc.1 h) p l e s m args below meth c H locs ls E hfl F hret hlk hml X hl hL hst.tl)
theorem g_zlt {x : Int32} {off : Int} {tgt pc2 : Nat} (hd : decode b pc = .ok (.ifCond .lt off, 3)) (ht : (pc : Int) + off = (tgt : Int)) (hp : pc + 3 = pc2) (k1 : ab_G sy own b rt d tgt L st u w r1) (k2 : ab_G sy own b rt d pc2 L st u w r2) : ab_G sy own b rt d pc L (.inl x :: st) u w (bif decide (x < 0) then r1 else r2) := by
  intro z u' hx p l e s m args below meth c H locs ls E hfl F hret hlk hml X hl hL hst
  subst hp
  have hc := ab_cnd hx
  exact lv_if_lt F.1 F.2.1 hd ht (fun h => k1 z u' (hc.1 h) p l e s m args below meth c H locs ls E hfl F hret hlk hml X hl hL hst.tl) (fun h => k2 z u' (hc.2 h) p l e s m args below meth c H locs ls E hfl F hret hlk hml X hl hL hst.tl)
theorem g_zge {x : Int32} {off : Int} {tgt pc2 : Nat} (hd : decode b pc = .ok (.ifCond .ge off, 3)) (ht : (pc : Int) + off = (tgt : Int)) (hp : pc + 3 = pc2) (k1 : ab_G sy own b rt d tgt L st u w r1) (k2 : ab_G sy own b rt d pc2 L st u w r2) : ab_G sy own b rt d pc L (.inl x :: st) u w (bif decide (x < 0) then r2 else r1) := by
  intro z u' hx p l e s m args below meth c H locs ls E hfl F hret hlk hml X hl hL hst
  subst hp
  have hc := ab_cnd hx
  exact lv_if_ge F.1 F.2.1 hd ht (fun h => k1 z u' (hc.2 (Int32.not_lt.mpr h)) p l e s m args below meth c H locs ls E hfl F hret hlk hml X hl hL hst.tl) (fun h => k2 z u' (hc.1 (Int32.not_le.mp h)) p l e s m args below meth c H locs ls E hfl F hret hlk hml X hl hL hst.tl)
theorem g_zgt {x : Int32} {off : Int} {tgt pc2 : Nat} (hd : decode b pc = .ok (.ifCond .gt off, 3)) (ht : (pc : Int) + off = (tgt : Int)) (hp : pc + 3 = pc2) (k1 : ab_G sy own b rt d tgt L st u w r1) (k2 : ab_G sy own b rt d pc2 L st u w r2) : ab_G sy own b rt d pc L (.inl x :: st) u w (bif decide (x ≤ 0) then r2 else r1) := by
  intro z u' hx p l e s m args below meth c H locs ls E hfl F hret hlk hml X hl hL hst
  subst hp
  have hc := ab_cnd hx
  exact lv_if_gt F.1 F.2.1 hd ht (fun h => k1 z u' (hc.2 (Int32.not_le.mpr h)) p l e s m args below meth c H locs ls E hfl F hret hlk hml X hl hL hst.tl) (fun h => k2 z u' (hc.1 (Int32.not_lt.mp h)) p l e s m args below meth c H locs ls E hfl F hret hlk hml X hl hL hst.tl)
theorem g_zle {x : Int32} {off : Int} {tgt pc2 : Nat} (hd : decode b pc = .ok (.ifCond .le off, 3)) (ht : (pc : Int) + off = (tgt : Int)) (hp : pc + 3 = pc2) (k1 : ab_G sy own b rt d tgt L st u w r1) (k2 : ab_G sy own b rt d pc2 L st u w r2) : ab_G sy own b rt d pc L (.inl x :: st) u w (bif decide (x ≤ 0) then r1 else r2) := by
  intro z u' hx p l e s m args below meth c H locs ls E hfl F hret hlk hml X hl hL hst
  subst hp
  have hc := ab_cnd hx
  exact lv_if_le F.1 F.2.1 hd ht (fun h => k1 z u' (hc.1 h) p l e s m args below meth c H locs ls E hfl F hret hlk hml X hl hL hst.tl) (fun h => k2 z u' (hc.2 h) p l e s m args below meth c H locs ls E hfl F hret hlk hml X hl hL hst.tl)
theorem g_leq {x y : Int64} {off : Int} {tgt pc1 pc2 : Nat} (hc : decode b pc = .ok (.lcmp, 1)) (h1 : pc + 1 = pc1) (hd : decode b pc1 = .ok (.ifCond .eq off, 3)) (ht : (pc1 : Int) + off = (tgt : Int)) (hp : pc1 + 3 = pc2) (k1 : ab_G sy own b rt d tgt L st u w r1) (k2 : ab_G sy own b rt d pc2 L st u w r2) : ab_G sy own b rt d pc L (.inr (.inl y) :: .inr (.inl x) :: st) u w (bif decide (x = y) then r1 else r2) := by
  have h2 : decide (x = y) = decide (lg_cmp x y = 0) := decide_eq_decide.mpr (lg_cmp_eq x y).symm
  rw [h2]
  have k3 := g_zeq (x := lg_cmp x y) hd ht hp k1 k2
  subst h1
  intro z u' hx p l e s m args below meth c H locs ls E hfl F hret hlk hml X hl hL hst
  exact W.lcmp F.1 F.2.1 hc (k3 z u' hx p l e s m args below meth c H locs ls E hfl F hret hlk hml X hl hL (hst.tl.tl.cons trivial))
theorem g_lne {x y : Int64} {off : Int} {tgt pc1 pc2 : Nat} (hc : decode b pc = .ok (.lcmp, 1)) (h1 : pc + 1 = pc1) (hd : decode b pc1 = .ok (.ifCond .ne off, 3)) (ht : (pc1 : Int) + off = (tgt : Int)) (hp : pc1 + 3 = pc2) (k1 : ab_G sy own b rt d tgt L st u w r1) (k2 : ab_G sy own b rt d pc2 L st u w r2) : ab_G sy own b rt d pc L (.inr (.inl y) :: .inr (.inl x) :: st) u w (bif decide (x = y) then r2 else r1) := by
  have h2 : decide (x = y) = decide (lg_cmp x y = 0) := decide_eq_decide.mpr (lg_cmp_eq x y).symm
  rw [h2]
  have k3 := g_zne (x := lg_cmp x y) hd ht hp k1 k2
  subst h1
  intro z u' hx p l e s m args below meth c H locs ls E hfl F hret hlk hml X hl hL hst
  exact W.lcmp F.1 F.2.1 hc (k3 z u' hx p l e s m args below meth c H locs ls E hfl F hret hlk hml X hl hL (hst.tl.tl.cons trivial))
theorem g_llt {x y : Int64} {off : Int} {tgt pc1 pc2 : Nat} (hc : decode b pc = .ok (.lcmp, 1)) (h1 : pc + 1 = pc1) (hd : decode b pc1 = .ok (.ifCond .lt off, 3)) (ht : (pc1 : Int) + off = (tgt : Int)) (hp : pc1 + 3 = pc2) (k1 : ab_G sy own b rt d tgt L st u w r1) (k2 : ab_G sy own b rt d pc2 L st u w r2) : ab_G sy own b rt d pc L (.inr (.inl y) :: .inr (.inl x) :: st) u w (bif decide (x < y) then r1 else r2) := by
  have h2 : decide (x < y) = decide (lg_cmp x y < 0) := decide_eq_decide.mpr (lg_cmp_lt x y).symm
  rw [h2]
  have k3 := g_zlt (x := lg_cmp x y) hd ht hp k1 k2
  subst h1
  intro z u' hx p l e s m args below meth c H locs ls E hfl F hret hlk hml X hl hL hst
  exact W.lcmp F.1 F.2.1 hc (k3 z u' hx p l e s m args below meth c H locs ls E hfl F hret hlk hml X hl hL (hst.tl.tl.cons trivial))
theorem g_lge {x y : Int64} {off : Int} {tgt pc1 pc2 : Nat} (hc : decode b pc = .ok (.lcmp, 1)) (h1 : pc + 1 = pc1) (hd : decode b pc1 = .ok (.ifCond .ge off, 3)) (ht : (pc1 : Int) + off = (tgt : Int)) (hp : pc1 + 3 = pc2) (k1 : ab_G sy own b rt d tgt L st u w r1) (k2 : ab_G sy own b rt d pc2 L st u w r2) : ab_G sy own b rt d pc L (.inr (.inl y) :: .inr (.inl x) :: st) u w (bif decide (x < y) then r2 else r1) := by
  have h2 : decide (x < y) = decide (lg_cmp x y < 0) := decide_eq_decide.mpr (lg_cmp_lt x y).symm
  rw [h2]
  have k3 := g_zge (x := lg_cmp x y) hd ht hp k1 k2
  subst h1
  intro z u' hx p l e s m args below meth c H locs ls E hfl F hret hlk hml X hl hL hst
  exact W.lcmp F.1 F.2.1 hc (k3 z u' hx p l e s m args below meth c H locs ls E hfl F hret hlk hml X hl hL (hst.tl.tl.cons trivial))
theorem g_lgt {x y : Int64} {off : Int} {tgt pc1 pc2 : Nat} (hc : decode b pc = .ok (.lcmp, 1)) (h1 : pc + 1 = pc1) (hd : decode b pc1 = .ok (.ifCond .gt off, 3)) (ht : (pc1 : Int) + off = (tgt : Int)) (hp : pc1 + 3 = pc2) (k1 : ab_G sy own b rt d tgt L st u w r1) (k2 : ab_G sy own b rt d pc2 L st u w r2) : ab_G sy own b rt d pc L (.inr (.inl y) :: .inr (.inl x) :: st) u w (bif decide (x ≤ y) then r2 else r1) := by
  have h2 : decide (x ≤ y) = decide (lg_cmp x y ≤ 0) := decide_eq_decide.mpr (lg_cmp_le x y).symm
  rw [h2]
  have k3 := g_zgt (x := lg_cmp x y) hd ht hp k1 k2
  subst h1
  intro z u' hx p l e s m args below meth c H locs ls E hfl F hret hlk hml X hl hL hst
  exact W.lcmp F.1 F.2.1 hc (k3 z u' hx p l e s m args below meth c H locs ls E hfl F hret hlk hml X hl hL (hst.tl.tl.cons trivial))
theorem g_lle {x y : Int64} {off : Int} {tgt pc1 pc2 : Nat} (hc : decode b pc = .ok (.lcmp, 1)) (h1 : pc + 1 = pc1) (hd : decode b pc1 = .ok (.ifCond .le off, 3)) (ht : (pc1 : Int) + off = (tgt : Int)) (hp : pc1 + 3 = pc2) (k1 : ab_G sy own b rt d tgt L st u w r1) (k2 : ab_G sy own b rt d pc2 L st u w r2) : ab_G sy own b rt d pc L (.inr (.inl y) :: .inr (.inl x) :: st) u w (bif decide (x ≤ y) then r1 else r2) := by
  have h2 : decide (x ≤ y) = decide (lg_cmp x y ≤ 0) := decide_eq_decide.mpr (lg_cmp_le x y).symm
  rw [h2]
  have k3 := g_zle (x := lg_cmp x y) hd ht hp k1 k2
  subst h1
  intro z u' hx p l e s m args below meth c H locs ls E hfl F hret hlk hml X hl hL hst
  exact W.lcmp F.1 F.2.1 hc (k3 z u' hx p l e s m args below meth c H locs ls E hfl F hret hlk hml X hl hL (hst.tl.tl.cons trivial))
-- a table
def ab_sw {α : Type} (x : Int32) : List (Int32 × Option α) → Option α → Option α
  | [], r => r
  | q :: l, r => bif decide (x = q.1) then q.2 else ab_sw x l r
def ab_swB (pc : Nat) (lo : Int) (offs : Array Int) (cs : List (Int32 × Nat)) : Bool := (List.range cs.length).all fun i => match cs[i]?, offs[i]? with
  | some q, some o => decide (q.1.toInt = lo + i) && decide ((pc : Int) + o = (q.2 : Int))
  | _, _ => false
theorem ab_sw_some {α : Type} {x : Int32} {l : List (Int32 × Option α)} {r : Option α} {z : α} (h : ab_sw x l r = some z) : (∃ (i : Nat) (q : Int32 × Option α), l[i]? = some q ∧ x = q.1 ∧ q.2 = some z) ∨ ((∀ q ∈ l, x ≠ q.1) ∧ r = some z) := by
  induction l with
  | nil => exact Or.inr ⟨fun q hq => absurd hq List.not_mem_nil, h⟩
  | cons q l ih =>
    obtain ⟨h1, h2⟩ := ab_cnd (show (bif decide (x = q.1) then q.2 else ab_sw x l r) = some z from h)
    by_cases e : x = q.1
    · exact Or.inl ⟨0, q, rfl, e, h1 e⟩
    · rcases ih (h2 e) with ⟨i, q2, a1, a2⟩ | ⟨a1, a2⟩
      · exact Or.inl ⟨i + 1, q2, by simpa using a1, a2⟩
      · refine Or.inr ⟨fun q2 hq => ?_, a2⟩
        rcases List.mem_cons.mp hq with rfl | hq
        · exact e
        · exact a1 q2 hq
theorem g_sw {x : Int32} {dflt lo hi : Int} {offs : Array Int} {len tgd : Nat} {rd : Option (τ × ab_S)} (cs : List (Int32 × (Nat × Option (τ × ab_S)))) (hd : decode b pc = .ok (.tableswitch dflt lo hi offs, len)) (hB : ab_swB pc lo offs (cs.map fun q => (q.1, q.2.1)) = true) (hn : hi = lo + cs.length - 1) (ht : (pc : Int) + dflt = (tgd : Int))
    (kk : ∀ q ∈ cs, ab_G sy own b rt d q.2.1 L st u w q.2.2) (kd : ab_G sy own b rt d tgd L st u w rd) : ab_G sy own b rt d pc L (.inl x :: st) u w (ab_sw x (cs.map fun q => (q.1, q.2.2)) rd) := by
  intro z u' hx p l e s m args below meth c H locs ls E hfl F hret hlk hml X hl hL hst
  have hB2 : ∀ (i : Nat) (q : Int32 × (Nat × Option (τ × ab_S))), cs[i]? = some q → ∃ o, offs[i]? = some o ∧ q.1.toInt = lo + (i : Int) ∧ (pc : Int) + o = (q.2.1 : Int) := by
    intro i q hq
    have hi := (List.getElem?_eq_some_iff.mp hq).1
    have h1 := List.all_eq_true.mp hB i (List.mem_range.mpr (by simpa using hi))
    rw [List.getElem?_map, hq] at h1
    cases ho : offs[i]? with
    | none => rw [ho] at h1; cases h1
    | some o =>
      rw [ho] at h1
      simp only [Option.map_some, Bool.and_eq_true, decide_eq_true_eq] at h1
      exact ⟨o, rfl, h1⟩
  rcases ab_sw_some hx with ⟨i, q, h1, h2, h3⟩ | ⟨h1, h2⟩
  · rw [List.getElem?_map] at h1
    cases hc : cs[i]? with
    | none => rw [hc] at h1; cases h1
    | some q0 =>
      rw [hc] at h1
      cases h1
      obtain ⟨o, ho, e1, e2⟩ := hB2 i q0 hc
      have hi := (List.getElem?_eq_some_iff.mp hc).1
      have e3 : x.toInt = lo + i := by rw [h2]; exact e1
      exact lv_tableIn F.1 F.2.1 hd (by omega) (by omega) (by rw [show (x.toInt - lo).toNat = i by omega]; exact ho) e2 (kk q0 (List.mem_of_getElem? hc) z u' h3 p l e s m args below meth c H locs ls E hfl F hret hlk hml X hl hL hst.tl)
  · refine lv_tableOut F.1 F.2.1 hd ?_ ht (kd z u' h2 p l e s m args below meth c H locs ls E hfl F hret hlk hml X hl hL hst.tl)
    by_cases q1 : x.toInt < lo
    · exact Or.inl q1
    · refine Or.inr (Int.not_le.mp fun q2 => ?_)
      have hlt : (x.toInt - lo).toNat < cs.length := by omega
      have hq := List.getElem?_eq_getElem hlt
      obtain ⟨o, -, e1, -⟩ := hB2 _ _ hq
      refine h1 (cs[(x.toInt - lo).toNat].1, cs[(x.toInt - lo).toNat].2.2) (List.mem_map.mpr ⟨_, List.mem_of_getElem? hq, rfl⟩) (Int32.toInt_inj.mp ?_)
      show x.toInt = cs[(x.toInt - lo).toNat].1.toInt
      rw [e1]
      omega
end ABH
-- ===== contracts =====
def ab_B (E : ab_E) (sy : Nat) (u : ab_S) (U : State) : Prop := va_K (E.1, E.2.1) vwCl (ab_ty E) U ∧ va_P (E.1, E.2.1) vwCl (ab_wd E sy u) U.heap ∧ va_D (ab_A E sy) (ab_wd E sy u) ∧ ab_SF E (ab_A E sy) U U.heap ∧ ab_NW U ∧ ab_WT sy u
def ab_C {τ : Type} (sy : Nat) (y : MethodName) (b : ByteArray) (nL : Nat) (rt : Option FieldType) (d : Nat) (as : List ab_V) (u : ab_S) (w : τ → Option ab_V) (r : Option (τ × ab_S)) : Prop :=
  ∀ (x : τ) (u' : ab_S), r = some (x, u') → ab_oks sy as → ∀ (l : Launch) (E : ab_E), l.flags = flags0 → Met l y (Cond.code y b nL rt :: ab_W0) (ab_rm d) (va_Pc (as.map (ab_vm E)) (ab_B E sy u)) (ab_Q E sy w x u') 0 0 (ab_A E sy)
def ab_L0 : Nat → List ab_V → List (Option ab_V)
  | n, [] => List.replicate n none
  | n, .inr (.inl x) :: r => some (.inr (.inl x)) :: none :: ab_L0 (n - 2) r
  | n, v :: r => some v :: ab_L0 (n - 1) r
def ab_al0 : Nat → List ab_V → List (Nat × ab_V)
  | _, [] => []
  | i, .inr (.inl x) :: r => (i, .inr (.inl x)) :: ab_al0 (i + 2) r
  | i, v :: r => (i, v) :: ab_al0 (i + 1) r
theorem ab_NW.moved {s U : State} (hW : s.WarmedH U.vm) (h : ab_NW s) : ab_NW U := by
  intro w hw hn
  have h1 := h w hw hn
  cases w with
  | fieldLinkNest a i b n dd hh => exact va_Nw.warmF hW h1
  | methodLinkNest a i x hh => exact va_Nw.warmM hW h1
  | _ => cases hn
theorem ab_NW.same {s U : State} (hv : s.vm = U.vm) (h : ab_NW s) : ab_NW U := by
  intro w hw hn
  have h1 := h w hw hn
  cases w with
  | fieldLinkNest a i b n dd hh => exact va_Nw.same rfl hv h1
  | methodLinkNest a i x hh => exact va_Nw.same rfl hv h1
  | _ => cases hn
theorem ab_SF.moved {E : ab_E} {A : Nat → Prop} {s U : State} {H : Heap} (hW : s.WarmedH U.vm) (h : ab_SF E A s H) : ab_SF E A U H := by
  obtain ⟨f1, f2, f3, f4, f5, f6⟩ := h
  have hv := hW.alike
  exact ⟨fun i hi => ⟨va_Z.moved hv (f1 i hi).1, va_OF.moved hv (f1 i hi).2.1, va_OF.moved hv (f1 i hi).2.2⟩, va_Z.moved hv f2, va_T.moved hv f3, vk_S.moved hv f4, vk_R.warm hW f5, va_Z.moved hv f6⟩
theorem ab_SF.same {E : ab_E} {A : Nat → Prop} {s U : State} {H : Heap} (hv0 : U.vm = s.vm) (h : ab_SF E A s H) : ab_SF E A U H := by
  obtain ⟨f1, f2, f3, f4, f5, f6⟩ := h
  have hv : s.vm.Alike U.vm := by rw [hv0]; exact Vm.Alike.refl _
  exact ⟨fun i hi => ⟨va_Z.moved hv (f1 i hi).1, va_OF.moved hv (f1 i hi).2.1, va_OF.moved hv (f1 i hi).2.2⟩, va_Z.moved hv f2, va_T.moved hv f3, vk_S.moved hv f4, vk_R.same hv0 f5, va_Z.moved hv f6⟩
theorem ab_SF.kept {E : ab_E} {A : Nat → Prop} {s : State} {H H1 : Heap} (h : ab_SF E A s H) (hq : ∀ a : Nat, a < H.size → ¬ A a → H1[a]? = H[a]?) : ab_SF E A s H1 := by
  obtain ⟨f1, f2, f3, f4, f5, f6⟩ := h
  exact ⟨fun i hi => ⟨(f1 i hi).1.kept hq, (f1 i hi).2.1.kept hq, (f1 i hi).2.2.kept hq⟩, f2.kept hq, f3.kept hq, f4.kept hq, f5, f6.kept hq⟩
theorem ab_B_blind (E : ab_E) (sy : Nat) (u : ab_S) (av : List Value) : FrameBlind (va_Pc av (ab_B E sy u)) := by
  intro a U g mk h
  obtain ⟨h0, h1, h2, h3, h4, h5, h6⟩ := h
  exact ⟨h0, va_K.moved (u := U) (U := U.calling g mk a) (Vm.Alike.refl U.vm) h1, h2, h3, ab_SF.same (s := U) (U := U.calling g mk a) rfl h4, ab_NW.same (s := U) (U := U.calling g mk a) rfl h5, h6⟩
theorem ab_D_eq {E : ab_E} {sy : Nat} {A : Nat → Prop} {u u' : ab_S} (h : va_D A (ab_wd E sy u)) : va_D A (ab_wd E sy u') := by
  have key : ∀ (k : Nat) (q : Nat × va_E), (ab_wd E sy u')[k]? = some q → ∃ q0, (ab_wd E sy u)[k]? = some q0 ∧ q0.1 = q.1 := by
    intro k q hk
    have hl : k < (ab_sh sy).length := by
      have := (List.getElem?_eq_some_iff.mp hk).1
      simpa [ab_wd] using this
    obtain ⟨t, ht⟩ : ∃ t, (ab_sh sy)[k]? = some t := ⟨_, List.getElem?_eq_getElem hl⟩
    rw [ab_wd_at E ht] at hk
    cases hk
    exact ⟨_, ab_wd_at E ht, rfl⟩
  refine ⟨fun i j p q hi hj e => ?_, fun k q hk => ?_⟩
  · obtain ⟨p0, a1, a2⟩ := key i p hi
    obtain ⟨q0, b1, b2⟩ := key j q hj
    exact h.1 i j p0 q0 a1 b1 (by rw [a2, b2, e])
  · obtain ⟨q0, a1, a2⟩ := key k q hk
    rw [← a2]
    exact h.2 k q0 a1
theorem ab_L0_at : ∀ (as : List ab_V) (n i j : Nat) (v : ab_V), (ab_L0 n as)[j]? = some (some v) → (i + j, v) ∈ ab_al0 i as
  | [], n, i, j, v, h => by
    simp only [ab_L0] at h
    rw [List.getElem?_replicate] at h
    split at h <;> cases h
  | .inr (.inl x) :: r, n, i, j, v, h => by
    simp only [ab_L0] at h
    simp only [ab_al0]
    match j, h with
    | 0, h => simp at h; rw [h]; exact List.mem_cons_self
    | 1, h => simp at h
    | j + 2, h =>
      refine List.mem_cons_of_mem _ ?_
      have h1 := ab_L0_at r (n - 2) (i + 2) j v (by simpa using h)
      rwa [show i + 2 + j = i + (j + 2) by omega] at h1
  | .inl x :: r, n, i, j, v, h => by
    simp only [ab_L0] at h
    simp only [ab_al0]
    match j, h with
    | 0, h => simp at h; rw [h]; exact List.mem_cons_self
    | j + 1, h =>
      refine List.mem_cons_of_mem _ ?_
      have h1 := ab_L0_at r (n - 1) (i + 1) j v (by simpa using h)
      rwa [show i + 1 + j = i + (j + 1) by omega] at h1
  | .inr (.inr x) :: r, n, i, j, v, h => by
    simp only [ab_L0] at h
    simp only [ab_al0]
    match j, h with
    | 0, h => simp at h; rw [h]; exact List.mem_cons_self
    | j + 1, h =>
      refine List.mem_cons_of_mem _ ?_
      have h1 := ab_L0_at r (n - 1) (i + 1) j v (by simpa using h)
      rwa [show i + 1 + j = i + (j + 1) by omega] at h1
theorem ab_al0_args (E : ab_E) : ∀ (as : List ab_V) (i : Nat), lv_args i (as.map (ab_vm E)) = (ab_al0 i as).map (fun q => (q.1, ab_vm E q.2))
  | [], i => rfl
  | .inr (.inl x) :: r, i => congrArg (List.cons _) (ab_al0_args E r (i + 2))
  | .inl x :: r, i => congrArg (List.cons _) (ab_al0_args E r (i + 1))
  | .inr (.inr (t, a)) :: r, i => congrArg (List.cons _) (ab_al0_args E r (i + 1))
theorem ab_al0_mem : ∀ (as : List ab_V) (i : Nat) (q : Nat × ab_V), q ∈ ab_al0 i as → q.2 ∈ as
  | .inr (.inl x) :: r, i, q, h => (List.mem_cons.mp h).elim (fun e => by rw [e]; exact List.mem_cons_self) (fun h => List.mem_cons_of_mem _ (ab_al0_mem r _ q h))
  | .inl x :: r, i, q, h => (List.mem_cons.mp h).elim (fun e => by rw [e]; exact List.mem_cons_self) (fun h => List.mem_cons_of_mem _ (ab_al0_mem r _ q h))
  | .inr (.inr (t, a)) :: r, i, q, h => (List.mem_cons.mp h).elim (fun e => by rw [e]; exact List.mem_cons_self) (fun h => List.mem_cons_of_mem _ (ab_al0_mem r _ q h))
/-- a method, from its code: what its first place gives is its contract -/
theorem ab_entry {τ : Type} {sy own : Nat} {y : MethodName} {b : ByteArray} {nL : Nat} {rt : Option FieldType} {d : Nat} {as : List ab_V} {u : ab_S} {w : τ → Option ab_V} {r : Option (τ × ab_S)} (hy : plainName y.cls = true) (hc : y.cls = ab_cn own) (ho : own < 15) (hs : sy < 2) (hn : ∀ E, (lg_sl (as.map (ab_vm E))).length ≤ nL) (hln : (ab_L0 nL as).length = nL)
    (hG : ab_G sy own b rt d 0 (ab_L0 nL as) [] u w r) : ab_C sy y b nL rt d as u w r := by
  intro x u' hx hok l E hfl
  refine Met.ofW (cc := b) (maxL := nL) (ret := rt) hy rfl ?_
  intro p e s m args below meth c s₁ B hml hv
  obtain ⟨rfl, hK, hP, hD, hSF, hNW, hWT⟩ := hv
  have hts := atoms_spec (ws := Cond.code y b nL rt :: ab_W0) B.pre
  have hown : s.vm.findClass (ab_cn own) = some m.cls := by rw [← hc]; exact findClass_of_methodNamed B.named
  rw [lg_entry_eq]
  refine hG x u' hx p l e s m _ below meth c s.heap [] _ E hfl ⟨B.exec, B.bytes, hown, fun w hw => hts w (List.mem_cons_of_mem _ hw), hNW, hK, hSF, ho, hs⟩ B.returns B.notSynchronized (by rw [hml, hln]) ⟨hP, hD, va_S.rf, hWT⟩ ?_ (fun j v hj => hok v (ab_al0_mem as 0 _ (ab_L0_at as nL 0 j v hj))) (fun v hv => by cases hv)
  have h1 := lv_entry (as.map (ab_vm E)) (n := nL) (hn E)
  refine ⟨by rw [hln]; exact h1.1, h1.2.1, fun q hq => h1.2.2 q ?_⟩
  obtain ⟨j, v, a1, rfl⟩ := ab_al_mem.mp hq
  rw [ab_al0_args]
  exact List.mem_map.mpr ⟨(0 + j, v), ab_L0_at as nL 0 j v a1, rfl⟩

