/-- words that hold of the tables, but are no words of a callee: they ride in the constructors' starts -/
def nwS (U : State) : Prop := va_AO "RopedBells$Sheet" U ∧ va_Nw (.methodLinkNest RX6 11 yX5_init RX6) U ∧ va_Nw (.methodLinkNest RX6 20 yX4_init RX6) U ∧ va_Nw (.methodLinkNest RX4 11 yX5_init RX6) U ∧ va_Nw (.methodLinkNest RX6 27 yX1_init RX6) U ∧ va_Nw (.methodLinkNest RX6 37 yX2_init RX6) U ∧ va_Nw (.methodLinkNest RX6 60 yX3_init RX6) U
theorem nwS.warm {s U : State} (hW : s.WarmedH U.vm) (h : nwS s) : nwS U := ⟨h.1.moved hW.alike, va_Nw.warmM hW h.2.1, va_Nw.warmM hW h.2.2.1, va_Nw.warmM hW h.2.2.2.1, va_Nw.warmM hW h.2.2.2.2.1, va_Nw.warmM hW h.2.2.2.2.2.1, va_Nw.warmM hW h.2.2.2.2.2.2⟩
theorem nwS.same {s U : State} (hv : s.vm.Alike U.vm) (e : s.vm = U.vm) (h : nwS s) : nwS U := ⟨h.1.moved hv, va_Nw.same rfl e h.2.1, va_Nw.same rfl e h.2.2.1, va_Nw.same rfl e h.2.2.2.1, va_Nw.same rfl e h.2.2.2.2.1, va_Nw.same rfl e h.2.2.2.2.2.1, va_Nw.same rfl e h.2.2.2.2.2.2⟩
/-- X with more cells and slots made -/
def bmp (X : XT) (a b : Nat) : XT :=
  match X with
  | (p, l, e, R, s, m, args, below, meth, c, kc, ks) => (p, l, e, R, s, m, args, below, meth, c, kc + a, ks + b)
/-- what holds all through a constructor, with the cells and slots that it has made -/
def CxN (X : XT) (cc : ByteArray) (nL : Nat) (own : String) (G : GT) (fr lo : Nat) (ret : Option FieldType) (mc ms kc0 ks0 sz : Nat) : Prop :=
  match X with
  | (p, _, _, R, s, m, args, _, meth, c, kc, ks) => p.tables.exec = Jvm.exec ∧ c.code = cc ∧ c.maxLocals = nL ∧ s.vm.findClass own = some m.cls ∧ (∀ w ∈ TB, w.before args s = true) ∧ va_K G.1 vwCl (tyl G) s ∧ meth.locks = false ∧ meth.sig.returnType = ret ∧ R.frames = fr ∧ R.locals = lo ∧ R.cells = mc ∧ R.slots = ms ∧ kc = kc0 ∧ ks = ks0 ∧ s.heap.size = sz ∧ nwS s
def isInit (X : XT) : Prop := X.2.2.2.2.2.2.2.2.1.name = "<init>"
section CN
variable {X : XT} {cc : ByteArray} {nL : Nat} {own : String} {G : GT} {fr lo : Nat} {ret : Option FieldType} {mc ms kc0 ks0 sz : Nat}
theorem CxN.cx (h : CxN X cc nL own G fr lo ret mc ms kc0 ks0 sz) (h1 : kc0 ≤ mc) (h2 : ks0 ≤ ms) : Cx X cc nL own G fr lo ret := by
  obtain ⟨p, l, e, R, s, m, args, below, meth, c, kc, ks⟩ := X
  obtain ⟨a1, a2, a3, a4, a5, a6, a7, a8, a9, a10, a11, a12, a13, a14, a15, a16⟩ := h
  exact ⟨a1, a2, a3, a4, a5, a6, a7, a8, a9, a10, by omega, by omega⟩
theorem CxN.bmp (h : CxN X cc nL own G fr lo ret mc ms kc0 ks0 sz) (a b : Nat) : CxN (bmp X a b) cc nL own G fr lo ret mc ms (kc0 + a) (ks0 + b) sz := by
  obtain ⟨p, l, e, R, s, m, args, below, meth, c, kc, ks⟩ := X
  obtain ⟨a1, a2, a3, a4, a5, a6, a7, a8, a9, a10, a11, a12, a13, a14, a15, a16⟩ := h
  exact ⟨a1, a2, a3, a4, a5, a6, a7, a8, a9, a10, a11, a12, by omega, by omega, a15, a16⟩
theorem isInit.bmp (h : isInit X) (a b : Nat) : isInit (bmp X a b) := by
  obtain ⟨p, l, e, R, s, m, args, below, meth, c, kc, ks⟩ := X
  exact h
end CN
/-- a constructor's contract: it makes mc cells of ms slots in all; its world behind it, by the new cells' addresses u -/
def CN {S : Type} (l : Launch) (y : MethodName) (cc : ByteArray) (nL fr lo mc ms : Nat) (av : List Value) (G : GT) (sz : Nat) (w : va_W) (Wf : S → va_W) : Prop :=
  Met l y (.code y cc nL none :: TB) ({ frames := fr, cells := mc, slots := ms, locals := lo } : Room) (va_Pc av (fun U => U.heap.size = sz ∧ va_P G.1 vwCl w U.heap ∧ va_K G.1 vwCl (tyl G) U ∧ va_D (fun _ => True) w ∧ nwS U)) (fun _ st oc t => oc = .returned none ∧ (∃ u : S, va_P G.1 vwCl (Wf u) t.heap ∧ va_D (va_A w sz) (Wf u)) ∧ va_F (va_A w sz) st t) mc ms (va_A w sz)
/-- the goal of a constructor's walk -/
def QN {S : Type} (X : XT) (G : GT) (sz : Nat) (w : va_W) (Wf : S → va_W) (mc ms : Nat) : State → Prop :=
  match X with
  | (_, _, _, _, s, _, args, below, _, _, _, _) => MQ below (fun _ st oc t => oc = .returned none ∧ (∃ u : S, va_P G.1 vwCl (Wf u) t.heap ∧ va_D (va_A w sz) (Wf u)) ∧ va_F (va_A w sz) st t) args s mc ms (va_A w sz)
theorem cn_intro {S : Type} {l : Launch} {y : MethodName} {cc : ByteArray} {nL fr lo mc ms : Nat} {av : List Value} {G : GT} {sz : Nat} {w : va_W} {Wf : S → va_W} (own : String) (lv0 : List (Nat × Value)) (hy : plainName y.cls = true) (ho : y.cls = own) (hi : y.name = "<init>") (hn : (lg_sl av).length ≤ nL) (h0 : lv_args 0 av = lv0)
    (body : ∀ X : XT, X.2.1 = l → isInit X → CxN X cc nL own G fr lo none mc ms 0 0 sz → KJ X (QN X G sz w Wf mc ms) G (va_A w sz) nL 0 lv0 [] w) : CN l y cc nL fr lo mc ms av G sz w Wf := by
  refine Met.ofW (cc := cc) (maxL := nL) (ret := none) hy rfl ?_
  intro p e s m args below meth c s₁ B hml hv
  obtain ⟨rfl, hsz, hP, hK, hD0, hnw⟩ := hv
  have hts : ∀ w ∈ TB, w.before av.toArray s = true := fun w hw => atoms_spec (ws := .code y cc nL none :: TB) B.pre w (List.mem_cons_of_mem _ hw)
  have hown : s.vm.findClass own = some m.cls := by rw [← ho]; exact findClass_of_methodNamed B.named
  have hname : meth.name = "<init>" := by rw [← hi]; exact (name_of_methodNamed B.named B.method).1
  have hl := lv_entry av (n := nL) hn
  rw [lg_entry_eq]
  rw [h0] at hl
  subst hsz
  exact body (p, l, e, _, s, m, av.toArray, below, meth, c, 0, 0) rfl hname ⟨B.exec, B.bytes, hml, hown, hts, hK, B.notSynchronized, B.returns, rfl, rfl, rfl, rfl, rfl, rfl, rfl, hnw⟩ s.heap [] _ hP hD0.self va_S.rf hl
section KN
variable {X : XT} {Q : State → Prop} {G : GT} {A : Nat → Prop} {nL : Nat} {lv : List (Nat × Value)} {st : List Value} {ws : va_W} {cc : ByteArray} {own : String} {fr lo : Nat} {ret : Option FieldType} {mc ms kc0 ks0 sz : Nat}
theorem kn_objInit (pc : Nat) (cx : Cx X cc nL own G fr lo ret) {index : Nat} {a : Nat} (hw : Cond.methodLink own index objectInit ∈ TB ∧ Cond.instanceMethod objectInit ∈ TB ∧ Cond.code objectInit ⟨#[0xb1]⟩ 1 none ∈ TB) (hd : decode cc pc = .ok (.invokespecial index, 3)) (h1 : 1 ≤ fr) (h2 : (st.map fun v => v.category).sum + 12 ≤ lo) (k : KJ X Q G A nL (pc + 3) lv st ws) : KJ X Q G A nL pc lv (.ref a :: st) ws := by
  obtain ⟨p, l, e, R, s, m, args, below, meth, c, kc, ks⟩ := X
  obtain ⟨hx, hb, hml, hown, hts, hK, hlk, hr, hfr, hlo, hkc, hks⟩ := cx
  exact fun H locs ls hP hD hS hl => W.objInit hx hb hown (hts _ hw.1) (hts _ hw.2.1) (hts _ hw.2.2) rfl (hl.1.trans hml.symm) rfl hd (by rw [hfr]; exact h1) (by rw [hlo]; show 2 * 0 + _ + 12 ≤ lo; omega) (k H locs ls hP hD hS hl)
theorem kn_new (pc : Nat) (cn : CxN X cc nL own G fr lo ret mc ms kc0 ks0 sz) (hA : ∀ q, sz ≤ q → A q) {C : String} {T : u_T} {N ci index : Nat} {fs : List Value} (hin : ∀ w ∈ u_ws C T N, w ∈ TB) (ty : Nat → FieldType) (hty : ∀ k, k < N → parseFieldDescriptor (T k).2.2.1 = some (ty k)) (hw : Cond.classLink own index C ∈ TB ∧ Cond.instantiable C N ∈ TB ∧ Cond.initialized C ∈ TB) (hc : vwCl[ci]? = some (C, T, N)) (hfs : ∀ j, j < N → defaultValue (ty j) = vp_V fs j) (h1 : kc0 + 1 ≤ mc) (h2 : ks0 + N ≤ ms) (hd : decode cc pc = .ok (.new index, 3))
    (k : ∀ q : Nat, KJ (bmp X 1 N) Q G A nL (pc + 3) lv (.ref q :: st) (ws ++ [(q, .inr (ci, fs))])) : KJ X Q G A nL pc lv st ws := by
  obtain ⟨p, l, e, R, s, m, args, below, meth, c, kc, ks⟩ := X
  obtain ⟨hx, hb, hml, hown, hts, hK, hlk, hr, hfr, hlo, hmc, hms, hkc, hks, hsz, hnw⟩ := cn
  exact fun H locs ls hP hD hS hl => va_new hx hb hts hin ty hty hown (hts _ hw.1) (hts _ hw.2.1) (hts _ hw.2.2) hK hP hD hS (fun q hq => hA q (by omega)) hc hfs (by omega) (by omega) hd (fun q H1 hP1 hD1 hS1 => k q H1 locs ls hP1 hD1 hS1 hl)
theorem cls_eq {U : State} {x : String} {a b : ClassId} (h1 : U.vm.findClass x = some a) (h2 : U.vm.findClass x = some b) : a = b := Option.some.inj (h1.symm.trans h2)
theorem kn_arri (pc : Nat) (cn : CxN X cc nL own G fr lo ret mc ms kc0 ks0 sz) (hA : ∀ q, sz ≤ q → A q) {n : Int32} {N' : Nat} (hw : Cond.arrayClass .int ∈ TB) (hn : ¬ n < 0) (hN : n.toNatClampNeg = N') (hbytes : N' * 4 ≤ 536870912) (h1 : kc0 + 1 ≤ mc) (h2 : ks0 + N' ≤ ms) (hd : decode cc pc = .ok (.newarray .int, 2))
    (k : ∀ q : Nat, KJ (bmp X 1 N') Q G A nL (pc + 2) lv (.ref q :: st) (ws ++ [(q, .inl (G.2.1, N', .inl (fun _ => 0)))])) : KJ X Q G A nL pc lv (.int n :: st) ws := by
  obtain ⟨p, l, e, R, s, m, args, below, meth, c, kc, ks⟩ := X
  obtain ⟨hx, hb, hml, hown, hts, hK, hlk, hr, hfr, hlo, hmc, hms, hkc, hks, hsz, hnw⟩ := cn
  exact fun H locs ls hP hD hS hl => va_newa (atype := .int) (ty := .int) (a0 := (N', .inl (fun _ => 0))) hx hb (hts _ hw) rfl hK hP hD hS (fun q hq => hA q (by omega)) (fun _ => rfl) hn hN hbytes (by omega) (by omega) hd (fun q cA H1 hK1 hP1 hD1 hS1 => by
    have e1 := (hK1.2 3 (cA, .int) rfl).2
    have e2 := (hK1.2 0 (G.2.1, .int) rfl).2
    have e3 : cA = G.2.1 := cls_eq e1 e2
    subst e3
    exact k q H1 locs ls hP1 hD1 hS1 hl)
theorem kn_arrz (pc : Nat) (cn : CxN X cc nL own G fr lo ret mc ms kc0 ks0 sz) (hA : ∀ q, sz ≤ q → A q) {n : Int32} {N' : Nat} (hw : Cond.arrayClass .boolean ∈ TB) (hn : ¬ n < 0) (hN : n.toNatClampNeg = N') (hbytes : N' * 1 ≤ 536870912) (h1 : kc0 + 1 ≤ mc) (h2 : ks0 + N' ≤ ms) (hd : decode cc pc = .ok (.newarray .boolean, 2))
    (k : ∀ q : Nat, KJ (bmp X 1 N') Q G A nL (pc + 2) lv (.ref q :: st) (ws ++ [(q, .inl (G.2.2.1, N', .inl (fun _ => 0)))])) : KJ X Q G A nL pc lv (.int n :: st) ws := by
  obtain ⟨p, l, e, R, s, m, args, below, meth, c, kc, ks⟩ := X
  obtain ⟨hx, hb, hml, hown, hts, hK, hlk, hr, hfr, hlo, hmc, hms, hkc, hks, hsz, hnw⟩ := cn
  exact fun H locs ls hP hD hS hl => va_newa (atype := .boolean) (ty := .boolean) (a0 := (N', .inl (fun _ => 0))) hx hb (hts _ hw) rfl hK hP hD hS (fun q hq => hA q (by omega)) (fun _ => rfl) hn hN hbytes (by omega) (by omega) hd (fun q cA H1 hK1 hP1 hD1 hS1 => by
    have e1 := (hK1.2 3 (cA, .boolean) rfl).2
    have e2 := (hK1.2 1 (G.2.2.1, .boolean) rfl).2
    have e3 : cA = G.2.2.1 := cls_eq e1 e2
    subst e3
    exact k q H1 locs ls hP1 hD1 hS1 hl)
theorem kn_arrq (pc : Nat) (cn : CxN X cc nL own G fr lo ret mc ms kc0 ks0 sz) (hA : ∀ q, sz ≤ q → A q) {index : Nat} {n : Int32} {N' : Nat} (hw : Cond.classLink own index "RopedBells$Sheet" ∈ TB) (hn : ¬ n < 0) (hN : n.toNatClampNeg = N') (hbytes : N' * 4 ≤ 536870912) (h1 : kc0 + 1 ≤ mc) (h2 : ks0 + N' ≤ ms) (hd : decode cc pc = .ok (.anewarray index, 3))
    (k : ∀ q : Nat, KJ (bmp X 1 N') Q G A nL (pc + 3) lv (.ref q :: st) (ws ++ [(q, .inl (G.2.2.2, N', .inr (.inr (.inr (.inr (fun _ => none))))))])) : KJ X Q G A nL pc lv (.int n :: st) ws := by
  obtain ⟨p, l, e, R, s, m, args, below, meth, c, kc, ks⟩ := X
  obtain ⟨hx, hb, hml, hown, hts, hK, hlk, hr, hfr, hlo, hmc, hms, hkc, hks, hsz, hnw⟩ := cn
  exact fun H locs ls hP hD hS hl => va_newq hx hb hown (hts _ hw) hnw.1 hK hP hD hS (fun q hq => hA q (by omega)) hn hN hbytes (by omega) (by omega) hd (fun q cA H1 hK1 hP1 hD1 hS1 => by
    obtain ⟨kA, comp, -, -, -, e1⟩ := (hK1.2 3 (cA, .object "RopedBells$Sheet") rfl).2
    obtain ⟨kA', comp', -, -, -, e2⟩ := (hK1.2 2 (G.2.2.2, .object "RopedBells$Sheet") rfl).2
    have e3 : cA = G.2.2.2 := cls_eq e1 e2
    subst e3
    exact k q H1 locs ls hP1 hD1 hS1 hl)
theorem kn_astq (pc : Nat) (cx : Cx X cc nL own G fr lo ret) {a n v ci : Nat} {vs : List Value} {f : Nat → Option Nat} {i : Int32} (hd : decode cc pc = .ok (.aastore, 1)) (q0 qk : Nat) (ha : ws[q0]? = some (a, .inl (G.2.2.2, n, .inr (.inr (.inr (.inr f)))))) (hv : ws[qk]? = some (v, .inr (ci, vs))) (hc : vwCl[ci]? = some ("RopedBells$Sheet", TX3, 3)) (hin : vp_in i n) (w2 : va_W) (hw : ws.set q0 (a, .inl (G.2.2.2, n, .inr (.inr (.inr (.inr (va_up f i.toNatClampNeg (some v))))))) = w2) (k : KJ X Q G A nL (pc + 1) lv st w2) : KJ X Q G A nL pc lv (.ref v :: .int i :: .ref a :: st) ws := by
  obtain ⟨p, l, e, R, s, m, args, below, meth, c, kc, ks⟩ := X
  obtain ⟨hx, hb, hml, hown, hts, hK, hlk, hr, hfr, hlo, hkc, hks⟩ := cx
  subst hw
  exact fun H locs ls hP hD hS hl => va_astq hx hb hK hP hD hS q0 2 qk ci ha rfl hv hc hin hd (fun H1 locs1 hP1 hD1 hS1 => k H1 locs1 ls hP1 hD1 hS1 hl)
theorem kn_putF (pc : Nat) (cx : Cx X cc nL own G fr lo ret) (hi : isInit X) {ref C : String} {T : u_T} {N ci index : Nat} {a : Nat} {fs : List Value} {v : Value} (hin : ∀ w ∈ u_ws C T N, w ∈ TB) (hc : vwCl[ci]? = some (C, T, N)) (ty0 : Nat → FieldType) (hty : ∀ k, k < N → parseFieldDescriptor (T k).2.2.1 = some (ty0 k)) (hnm : ∀ a, a < N → ∀ b, b < N → a ≠ b → (T a).2.1 ≠ (T b).2.1) (f : Nat) (hf : f < N) (hfl : Cond.fieldLink own index ref (T f).2.1 (T f).2.2.1 ∈ TB) (hs : (T f).1 = ref) (hfin : (T f).2.2.2 = true) (hdecl : (T f).1 = own) {ty : FieldType} (hpd : parseFieldDescriptor (T f).2.2.1 = some ty) (hd : decode cc pc = .ok (.putfield index, 3)) (q0 : Nat) (he : ws[q0]? = some (a, .inr (ci, fs))) (hn : narrow ty v = v) (hfit : fits ty v = true) (hlen : f < fs.length) (w1 : va_W) (hw : ws.set q0 (a, .inr (ci, fs.set f v)) = w1) (k : KJ X Q G A nL (pc + 3) lv st w1) : KJ X Q G A nL pc lv (v :: .ref a :: st) ws := by
  obtain ⟨p, l, e, R, s, m, args, below, meth, c, kc, ks⟩ := X
  obtain ⟨hx, hb, hml, hown, hts, hK, hlk, hr, hfr, hlo, hkc, hks⟩ := cx
  subst hw
  exact fun H locs ls hP hD hS hl => va_putF hx hb hts hin ty0 hty hnm hown hK hP hD hS q0 he hc f hf (hts _ hfl) (fun x h => by rw [← hs]; exact h) hfin hi hdecl hpd hn hfit hlen hd (fun H1 locs1 hP1 hD1 hS1 => k H1 locs1 ls hP1 hD1 hS1 hl)
/-- a constructor's call; behind it the world is w2 u -/
theorem kn_callI {S : Type} (pc : Nat) (cn : CxN X cc nL own G fr lo ret mc ms kc0 ks0 sz) (hA : ∀ q, sz ≤ q → A q) {y : MethodName} {cy : ByteArray} {nLy fry loy mcy msy index b n : Nat} {As rest : List Value} {wc wr : va_W} {Wf : S → va_W} (hM : ∀ sz, CN X.2.1 y cy nLy fry loy mcy msy (.ref b :: As) G sz wc Wf) (hw : Cond.methodLink own index y ∈ TB ∧ Cond.instanceMethod y ∈ TB ∧ Cond.initialized y.cls ∈ TB ∧ Cond.code y cy nLy none ∈ TB ∧ y.name = "<init>" ∧ yD y n) (hd : decode cc pc = .ok (.invokespecial index, 3)) (hroom : fry + 1 ≤ fr ∧ 8 + (nLy + 11) + loy ≤ lo) (h1 : kc0 + mcy ≤ mc) (h2 : ks0 + msy ≤ ms) (hn : As.length = n) (hst : st = As.reverse ++ .ref b :: rest) (hrest : (rest.map fun v => v.category).sum ≤ 8) (isC isR : List Nat) (hnd : va_nd isC = true) (hC : isC.map (fun i => ws[i]?) = wc.map some) (hR : isR.map (fun i => ws[i]?) = wr.map some) (hn2 : va_nd isR = true) (hdis : ∀ i ∈ isR, i ∉ isC) (w2 : S → va_W) (hw2 : ∀ u, wr ++ Wf u = w2 u)
    (k : ∀ u : S, KJ (bmp X mcy msy) Q G A nL (pc + 3) lv rest (w2 u)) : KJ X Q G A nL pc lv st ws := by
  obtain ⟨p, l, e, R, s, m, args, below, meth, c, kc, ks⟩ := X
  obtain ⟨hx, hb, hml, hown, hts, hK, hlk, hr, hfr, hlo, hmc, hms, hkc, hks, hsz, hnw⟩ := cn
  obtain ⟨c1, c2, c4, c5, c6, c7⟩ := hw
  subst hst
  intro H locs ls hP hD hS hl
  have hPc := subP hP isC hC
  have hDc := subD hD isC hnd hC
  have hF : ∀ q, va_A wc H.size q → A q := va_free hD hS (fun q hq => hA q (by omega)) isC hC
  have hrun := va_runI (locs := locs) (R := R) (g := F0 m pc ls (As.reverse ++ .ref b :: rest)) (rest := rest) (p := p) (l := l) (e := e) (below := below) (meth := meth) (cells := kc) (slots := ks) ⟨hx, hb, hml, hown, hts⟩ (hM H.size) ⟨callB_of n hts (tb_in c5) rfl rfl rfl (hts _ c4) (hts _ c1) c7 (by rw [hfr, hlo]; exact hroom), c6, hts _ c2⟩ ⟨fun a U g mk q => by obtain ⟨q0, q1, qP, qK, qD, qN⟩ := q; exact ⟨q0, q1, qP, va_K.moved (u := U) (U := U.calling g mk a) (Vm.Alike.refl U.vm) qK, qD, nwS.same (U := U.calling g mk a) (Vm.Alike.refl U.vm) rfl qN⟩, fun U hU hW => ⟨rfl, by rw [hU], by rw [hU]; exact hPc, va_K.moved hW.alike hK, hDc.weaken (fun _ _ _ _ => trivial), hnw.warm hW⟩⟩ rfl hn hl.1 rfl (lv_room hrest) hd ⟨by omega, by omega⟩
  intro T hT Xs
  obtain ⟨v, st₀, t, T', L, h0, X', hL, e1, e2, ⟨hv, ⟨u, hp, hd1⟩, hz, hk⟩, stp⟩ := hrun T hT Xs
  cases hv
  rw [h0] at hz hk
  obtain ⟨hP2, hD2⟩ := va_join hP hD isC isR hC hR hn2 hdis (fun q g1 g2 => by rw [hk q g1 g2]) hF (by exact hp) hd1
  have e3 : T'.heap = t.heap := e1
  obtain ⟨t2, a1, b1⟩ := k u T'.heap (locs ++ L) ls (by rw [e3, ← hw2]; exact hP2) (by rw [← hw2]; exact hD2) ⟨Nat.le_trans hS.1 (by rw [e3]; exact hz), fun q g1 g2 => by rw [e3, hk q (Nat.lt_of_lt_of_le g1 hS.1) (fun z => g2 (hF q z))]; exact hS.2.1 q g1 g2, fun q hq => by
      rcases List.mem_append.mp hq with h | h
      · exact hS.2.2 q h
      · exact hF _ (hL q h)⟩ hl T' rfl X'
  exact ⟨t2, stp t2 a1, b1⟩
/-- a constructor's call; behind it the world is w2 u -/
theorem kn_callN {S : Type} (pc : Nat) (cn : CxN X cc nL own G fr lo ret mc ms kc0 ks0 sz) (hA : ∀ q, sz ≤ q → A q) {y : MethodName} {cy : ByteArray} {nLy fry loy mcy msy index b n : Nat} {As rest : List Value} {wc wr : va_W} {Wf : S → va_W} (hM : ∀ sz, CN X.2.1 y cy nLy fry loy mcy msy (.ref b :: As) G sz wc Wf) {host : String} (hlk0 : ∀ U, nwS U → va_Nw (.methodLinkNest own index y host) U) (hw : Cond.instanceMethod y ∈ TB ∧ Cond.initialized y.cls ∈ TB ∧ Cond.code y cy nLy none ∈ TB ∧ y.name = "<init>" ∧ yD y n) (hd : decode cc pc = .ok (.invokespecial index, 3)) (hroom : fry + 1 ≤ fr ∧ 8 + (nLy + 11) + loy ≤ lo) (h1 : kc0 + mcy ≤ mc) (h2 : ks0 + msy ≤ ms) (hn : As.length = n) (hst : st = As.reverse ++ .ref b :: rest) (hrest : (rest.map fun v => v.category).sum ≤ 8) (isC isR : List Nat) (hnd : va_nd isC = true) (hC : isC.map (fun i => ws[i]?) = wc.map some) (hR : isR.map (fun i => ws[i]?) = wr.map some) (hn2 : va_nd isR = true) (hdis : ∀ i ∈ isR, i ∉ isC) (w2 : S → va_W) (hw2 : ∀ u, wr ++ Wf u = w2 u)
    (k : ∀ u : S, KJ (bmp X mcy msy) Q G A nL (pc + 3) lv rest (w2 u)) : KJ X Q G A nL pc lv st ws := by
  obtain ⟨p, l, e, R, s, m, args, below, meth, c, kc, ks⟩ := X
  obtain ⟨hx, hb, hml, hown, hts, hK, hlk, hr, hfr, hlo, hmc, hms, hkc, hks, hsz, hnw⟩ := cn
  obtain ⟨c2, c4, c5, c6, c7⟩ := hw
  subst hst
  intro H locs ls hP hD hS hl
  have hPc := subP hP isC hC
  have hDc := subD hD isC hnd hC
  have hF : ∀ q, va_A wc H.size q → A q := va_free hD hS (fun q hq => hA q (by omega)) isC hC
  have hrun := va_runIN (host := host) (locs := locs) (R := R) (g := F0 m pc ls (As.reverse ++ .ref b :: rest)) (rest := rest) (p := p) (l := l) (e := e) (below := below) (meth := meth) (cells := kc) (slots := ks) ⟨hx, hb, hml, hown, hts⟩ (hM H.size) ⟨va_cnB n hts (tb_in c5) rfl rfl rfl (hlk0 _ hnw) (hts _ c4) c7 (by rw [hfr, hlo]; exact hroom), c6, hts _ c2⟩ ⟨fun a U g mk q => by obtain ⟨q0, q1, qP, qK, qD, qN⟩ := q; exact ⟨q0, q1, qP, va_K.moved (u := U) (U := U.calling g mk a) (Vm.Alike.refl U.vm) qK, qD, nwS.same (U := U.calling g mk a) (Vm.Alike.refl U.vm) rfl qN⟩, fun U hU hW => ⟨rfl, by rw [hU], by rw [hU]; exact hPc, va_K.moved hW.alike hK, hDc.weaken (fun _ _ _ _ => trivial), hnw.warm hW⟩⟩ rfl hn hl.1 rfl (lv_room hrest) hd ⟨by omega, by omega⟩
  intro T hT Xs
  obtain ⟨v, st₀, t, T', L, h0, X', hL, e1, e2, ⟨hv, ⟨u, hp, hd1⟩, hz, hk⟩, stp⟩ := hrun T hT Xs
  cases hv
  rw [h0] at hz hk
  obtain ⟨hP2, hD2⟩ := va_join hP hD isC isR hC hR hn2 hdis (fun q g1 g2 => by rw [hk q g1 g2]) hF (by exact hp) hd1
  have e3 : T'.heap = t.heap := e1
  obtain ⟨t2, a1, b1⟩ := k u T'.heap (locs ++ L) ls (by rw [e3, ← hw2]; exact hP2) (by rw [← hw2]; exact hD2) ⟨Nat.le_trans hS.1 (by rw [e3]; exact hz), fun q g1 g2 => by rw [e3, hk q (Nat.lt_of_lt_of_le g1 hS.1) (fun z => g2 (hF q z))]; exact hS.2.1 q g1 g2, fun q hq => by
      rcases List.mem_append.mp hq with h | h
      · exact hS.2.2 q h
      · exact hF _ (hL q h)⟩ hl T' rfl X'
  exact ⟨t2, stp t2 a1, b1⟩
theorem kn_vret {S : Type} (pc : Nat) {X0 : XT} {w : va_W} {Wf : S → va_W} (cn : CxN X cc nL own G fr lo none mc ms mc ms sz) (hX : X = bmp X0 mc ms) (h0 : CxN X0 cc nL own G fr lo none mc ms 0 0 sz) (hd : decode cc pc = .ok (.return_, 1)) (u : S) (is : List Nat) (hn : va_nd is = true) (hw : is.map (fun i => ws[i]?) = (Wf u).map some) : KJ X (QN X0 G sz w Wf mc ms) G (va_A w sz) nL pc lv [] ws := by
  obtain ⟨p, l, e, R, s, m, args, below, meth, c, kc, ks⟩ := X0
  subst hX
  obtain ⟨hx, hb, hml, hown, hts, hK, hlk, hr, hfr, hlo, hmc, hms, hkc, hks, hsz, hnw⟩ := cn
  obtain ⟨-, -, -, -, -, -, -, -, -, -, -, -, g1, g2, -, -⟩ := h0
  subst g1; subst g2
  intro H locs ls hP hD hS hl
  have hPc := subP hP is hw
  have hDc := subD hD is hn hw
  have hz : bmp (p, l, e, R, s, m, args, below, meth, c, 0, 0) mc ms = (p, l, e, R, s, m, args, below, meth, c, mc, ms) := by
    show (p, l, e, R, s, m, args, below, meth, c, 0 + mc, 0 + ms) = _
    rw [Nat.zero_add, Nat.zero_add]
  have goal : W p l e R s m args below meth c H locs mc ms (MQ below (fun _ st oc t => oc = .returned none ∧ (∃ u : S, va_P G.1 vwCl (Wf u) t.heap ∧ va_D (va_A w sz) (Wf u)) ∧ va_F (va_A w sz) st t) args s mc ms (va_A w sz)) (F0 m pc ls []) := W.vret hx hb hr (fun t ht hW => ⟨rfl, ⟨u, by rw [ht]; exact hPc, hDc⟩, hS.F ht⟩) hS.2.2 hd hlk
  show W p l e R s m args below meth c H locs (0 + mc) (0 + ms) _ _
  rw [Nat.zero_add, Nat.zero_add]
  exact goal
end KN
section KN2
variable {X : XT} {Q : State → Prop} {G : GT} {A : Nat → Prop} {nL : Nat} {lv : List (Nat × Value)} {st : List Value} {ws : va_W} {cc : ByteArray} {own : String} {fr lo : Nat} {ret : Option FieldType}
theorem kn_iast (pc : Nat) (cx : Cx X cc nL own G fr lo ret) {a n : Nat} {f : Nat → Int32} {i x : Int32} (hd : decode cc pc = .ok (.iastore, 1)) (q0 : Nat) (he : ws[q0]? = some (a, .inl (G.2.1, n, .inl f))) (hin : vp_in i n) (w2 : va_W) (hw : ws.set q0 (a, .inl (G.2.1, n, .inl (upd f i.toNatClampNeg x))) = w2) (k : KJ X Q G A nL (pc + 1) lv st w2) : KJ X Q G A nL pc lv (.int x :: .int i :: .ref a :: st) ws := by
  obtain ⟨p, l, e, R, s, m, args, below, meth, c, kc, ks⟩ := X
  obtain ⟨hx, hb, hml, hown, hts, hK, hlk, hr, hfr, hlo, hkc, hks⟩ := cx
  subst hw
  exact fun H locs ls hP hD hS hl => va_iast hx hb hK hP hD hS q0 0 he rfl hin hd (fun H1 locs1 hP1 hD1 hS1 => k H1 locs1 ls hP1 hD1 hS1 hl)
theorem kn_iinc (pc : Nat) (cx : Cx X cc nL own G fr lo ret) {i : Nat} {n : Int} {x v : Int32} {lv' : List (Nat × Value)} (hd : decode cc pc = .ok (.iinc i n, 3)) (q : Nat) (h : lv[q]? = some (i, .int x)) (hv : x + Int32.ofInt n = v) (hn : i < nL) (hl0 : (i, Value.int v) :: lv.filter (fun q => !(q.1 == i) && !(q.1 + 1 == i && q.2.category == 2)) = lv') (k : KJ X Q G A nL (pc + 3) lv' st ws) : KJ X Q G A nL pc lv st ws := by
  obtain ⟨p, l, e, R, s, m, args, below, meth, c, kc, ks⟩ := X
  obtain ⟨hx, hb, hml, hown, hts, hK, hlk, hr, hfr, hlo, hkc, hks⟩ := cx
  exact fun H locs ls hP hD hS hl => lv_iinc hx hb hd hl h hv hn hl0 (fun ls' hl' => k H locs ls' hP hD hS hl')
theorem bmp_bmp (X : XT) (a b c d : Nat) : bmp (bmp X a b) c d = bmp X (a + c) (b + d) := by
  obtain ⟨p, l, e, R, s, m, args, below, meth, c', kc, ks⟩ := X
  show (p, l, e, R, s, m, args, below, meth, c', kc + a + c, ks + b + d) = (p, l, e, R, s, m, args, below, meth, c', kc + (a + c), ks + (b + d))
  rw [Nat.add_assoc, Nat.add_assoc]
end KN2
