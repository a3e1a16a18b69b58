section NWI
variable {own : Nat} {b : ByteArray} {R : Room} {nL : Nat} {E : ab_E} {a N0 N1 kF mF : Nat} {WF : va_W} {pc pc2 : Nat} {L : List (Nat × Value)} {st : List Value} {ws : va_W} {n cells slots : Nat}
theorem ng_get {x idx : Nat} {fs : List Value} {v : Value} (hd : decode b pc = .ok (.getfield idx, 3)) (ho : own < 10) (q0 : Nat) (he : ws[q0]? = some (x, .inr (own, fs))) (f : Nat) (hf : f < (ab_fs own).length) (hlk : Cond.fieldLink (ab_cn own) idx (ab_cn own) (ab_TT own f).2.1 (ab_TT own f).2.2.1 ∈ ab_W0) (hdecl : (ab_TT own f).1 = ab_cn own) (hv : fs[f]? = some v) (hp : pc + 3 = pc2)
    (k : nw_G own b R nL E a N0 N1 kF mF WF pc2 L (v :: st) ws n cells slots) : nw_G own b R nL E a N0 N1 kF mF WF pc L (.ref x :: st) ws n cells slots := by
  intro p l e s m args below meth c H locs ls hfl F hml X hl
  subst hp
  obtain ⟨hx, hb, hown, hts, hNW, hK, hsz, hnm, hr, hlk9⟩ := id F
  exact va_get hx hb (T := ab_TT own) (ref := ab_cn own) hts (ab_ww ho) hown hK X.1 q0 he (ab_vw ho) f hf (hts _ hlk) (fun y hy => by rw [hdecl] at hy; exact hy) hv hd (k p l e s m args below meth c H locs ls hfl F hml X hl)
theorem ng_goto {off : Int} {tgt : Nat} (hd : decode b pc = .ok (.goto off, 3)) (ht : (pc : Int) + off = (tgt : Int)) (k : nw_G own b R nL E a N0 N1 kF mF WF tgt L st ws n cells slots) : nw_G own b R nL E a N0 N1 kF mF WF pc L st ws n cells slots := by
  intro p l e s m args below meth c H locs ls hfl F hml X hl
  exact lv_goto F.1 F.2.1 hd ht (k p l e s m args below meth c H locs ls hfl F hml X hl)
theorem ng_ige0 {x y : Int32} {off : Int} (hd : decode b pc = .ok (.if_icmp .ge off, 3)) {tgt : Nat} (ht : (pc : Int) + off = (tgt : Int)) (h : x < y) (hp : pc + 3 = pc2) (k : nw_G own b R nL E a N0 N1 kF mF WF pc2 L st ws n cells slots) : nw_G own b R nL E a N0 N1 kF mF WF pc L (.int y :: .int x :: st) ws n cells slots := by
  intro p l e s m args below meth c H locs ls hfl F hml X hl
  subst hp
  exact lv_icmp_ge F.1 F.2.1 hd ht (fun h2 => absurd h (Int32.not_lt.mpr h2)) (fun _ => k p l e s m args below meth c H locs ls hfl F hml X hl)
theorem ng_ige1 {x y : Int32} {off : Int} (hd : decode b pc = .ok (.if_icmp .ge off, 3)) {tgt : Nat} (ht : (pc : Int) + off = (tgt : Int)) (h : y ≤ x) (k : nw_G own b R nL E a N0 N1 kF mF WF tgt L st ws n cells slots) : nw_G own b R nL E a N0 N1 kF mF WF pc L (.int y :: .int x :: st) ws n cells slots := by
  intro p l e s m args below meth c H locs ls hfl F hml X hl
  exact lv_icmp_ge F.1 F.2.1 hd ht (fun _ => k p l e s m args below meth c H locs ls hfl F hml X hl) (fun h2 => absurd h h2)
end NWI
