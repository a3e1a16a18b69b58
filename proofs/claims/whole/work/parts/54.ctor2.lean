section NWH
variable {own : Nat} {b : ByteArray} {R : Room} {nL : Nat} {E : ab_E} {a N0 N1 kF mF : Nat} {WF : va_W} {pc pc2 : Nat} {L : List (Nat × Value)} {st : List Value} {ws : va_W} {n cells slots : Nat}
theorem ng_bi {w : Int} {x : Int32} (hd : decode b pc = .ok (.bipush w, 2)) (hv : (Int8.ofInt w).toInt32 = x) (hp : pc + 2 = pc2) (k : nw_G own b R nL E a N0 N1 kF mF WF pc2 L (.int x :: st) ws n cells slots) : nw_G own b R nL E a N0 N1 kF mF WF pc L st ws n cells slots := by
  intro p l e s m args below meth c H locs ls hfl F hml X hl
  subst hp
  exact lv_bipush F.1 F.2.1 hd hv (k p l e s m args below meth c H locs ls hfl F hml X hl)
theorem ng_si {w : Int} {x : Int32} (hd : decode b pc = .ok (.sipush w, 3)) (hv : (Int16.ofInt w).toInt32 = x) (hp : pc + 3 = pc2) (k : nw_G own b R nL E a N0 N1 kF mF WF pc2 L (.int x :: st) ws n cells slots) : nw_G own b R nL E a N0 N1 kF mF WF pc L st ws n cells slots := by
  intro p l e s m args below meth c H locs ls hfl F hml X hl
  subst hp
  exact lv_sipush F.1 F.2.1 hd hv (k p l e s m args below meth c H locs ls hfl F hml X hl)
theorem ng_put {x idx : Nat} {fs : List Value} {v : Value} (hd : decode b pc = .ok (.putfield idx, 3)) (ho : own < 10) (q0 : Nat) (he : ws[q0]? = some (x, .inr (own, fs))) (f : Nat) (hf : f < (ab_fs own).length) (hlk : Cond.fieldLink (ab_cn own) idx (ab_cn own) (ab_TT own f).2.1 (ab_TT own f).2.2.1 ∈ ab_W0) (hfin : (ab_TT own f).2.2.2 = true) (hdecl : (ab_TT own f).1 = ab_cn own) (hn : narrow (ab_tt own f) v = v) (hfit : fits (ab_tt own f) v = true) (hl9 : f < fs.length) (hp : pc + 3 = pc2)
    (k : nw_G own b R nL E a N0 N1 kF mF WF pc2 L st (ws.set q0 (x, .inr (own, fs.set f v))) n cells slots) : nw_G own b R nL E a N0 N1 kF mF WF pc L (v :: .ref x :: st) ws n cells slots := by
  intro p l e s m args below meth c H locs ls hfl F hml X hl
  subst hp
  obtain ⟨hx, hb, hown, hts, hNW, hK, hsz, hnm, hr, hlk9⟩ := id F
  exact nw_putF hx hb (T := ab_TT own) (ref := ab_cn own) hts (ab_ww ho) (ab_tt own) (ab_ty_ok ho) (ab_nm_ok ho) hown hK X q0 he (ab_vw ho) f hf (hts _ hlk) (fun y hy => by rw [hdecl] at hy; exact hy) hfin hnm hdecl (ab_ty_ok ho f hf) hn hfit hl9 hd (fun H1 locs1 X1 => k p l e s m args below meth c H1 locs1 ls hfl F hml X1 hl)
theorem ng_new {ci idx : Nat} {fs : List Value} (hd : decode b pc = .ok (.new idx, 3)) (hci : ci < 10) (hcl : Cond.classLink (ab_cn own) idx (ab_cn ci) ∈ ab_W0) (hins : Cond.instantiable (ab_cn ci) (ab_fs ci).length ∈ ab_W0) (hini : Cond.initialized (ab_cn ci) ∈ ab_W0) (hfs : ∀ j, j < (ab_fs ci).length → defaultValue (ab_tt ci j) = vp_V fs j) (hR : cells + 1 ≤ R.cells ∧ slots + (ab_fs ci).length ≤ R.slots) (hp : pc + 3 = pc2)
    (k : nw_G own b R nL E a N0 N1 kF mF WF pc2 L (.ref n :: st) (ws ++ [(n, .inr (ci, fs))]) (n + 1) (cells + 1) (slots + (ab_fs ci).length)) : nw_G own b R nL E a N0 N1 kF mF WF pc L st ws n cells slots := by
  intro p l e s m args below meth c H locs ls hfl F hml X hl
  subst hp
  obtain ⟨hx, hb, hown, hts, hNW, hK, hsz, -⟩ := id F
  exact nw_obj hx hb hts (ab_ww hci) (ab_tt ci) (ab_ty_ok hci) hown (hts _ hcl) (hts _ hins) (hts _ hini) hK X (fun y hy => Or.inr (by rw [← hsz]; exact hy)) (ab_vw hci) hfs hR.1 hR.2 hd (fun H1 X1 => k p l e s m args below meth c H1 locs ls hfl F hml X1 hl)
end NWH
