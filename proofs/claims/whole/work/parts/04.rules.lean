abbrev XT : Type := Program × Launch × Env × Room × State × MethodId × Array Value × List Frame × Method × Code × Nat × Nat
abbrev GT : Type := va_G × ClassId × ClassId × ClassId
abbrev tyl (G : GT) : List (ClassId × FieldType) := [(G.2.1, .int), (G.2.2.1, .boolean), (G.2.2.2, .object "RopedBells$Sheet")]
/-- the machine, at a pc, with these locals, this stack, this world, comes to a state with Q -/
def KJ (X : XT) (Q : State → Prop) (G : GT) (A : Nat → Prop) (nL pc : Nat) (lv : List (Nat × Value)) (st : List Value) (ws : va_W) : Prop :=
  match X with
  | (p, l, e, R, s, m, args, below, meth, c, kc, ks) => ∀ (H : Heap) (locs : List Loc) (ls : Array Slot), va_P G.1 vwCl ws H → va_D A ws → va_S A s.heap H locs → lv_has ls nL lv → W p l e R s m args below meth c H locs kc ks Q (F0 m pc ls st)
/-- what holds all through a method -/
def Cx (X : XT) (cc : ByteArray) (nL : Nat) (own : String) (G : GT) (fr lo : Nat) (ret : Option FieldType) : Prop :=
  match X with
  | (p, _, _, R, s, m, args, _, meth, c, kc, ks) => p.tables.exec = Jvm.exec ∧ c.code = cc ∧ c.maxLocals = nL ∧ s.vm.findClass own = some m.cls ∧ (∀ w ∈ TB, w.before args s = true) ∧ va_K G.1 vwCl (tyl G) s ∧ meth.locks = false ∧ meth.sig.returnType = ret ∧ R.frames = fr ∧ R.locals = lo ∧ kc ≤ R.cells ∧ ks ≤ R.slots
/-- the cells of a world -/
def aIn (w : va_W) : Nat → Prop := fun q => ∃ (k : Nat) (e : va_E), w[k]? = some (q, e)
def QcR (G : GT) (w : va_W) (o : Option Value) (w' : va_W) : Array Value → State → Outcome → State → Prop := fun _ st oc t => oc = .returned o ∧ va_P G.1 vwCl w' t.heap ∧ va_F (aIn w) st t
def QR (X : XT) (G : GT) (w : va_W) (o : Option Value) (w' : va_W) : State → Prop :=
  match X with
  | (_, _, _, _, s, _, args, below, _, _, kc, ks) => MQ below (QcR G w o w') args s kc ks (aIn w)
/-- a method's contract: from the world w, with these arguments, it answers o and leaves the world w' -/
def CT (l : Launch) (y : MethodName) (cc : ByteArray) (nL : Nat) (ret : Option FieldType) (fr lo : Nat) (av : List Value) (G : GT) (w : va_W) (o : Option Value) (w' : va_W) : Prop :=
  Met l y (.code y cc nL ret :: TB) ({ frames := fr, cells := 0, slots := 0, locals := lo } : Room) (va_Pc av (fun U => va_P G.1 vwCl w U.heap ∧ va_K G.1 vwCl (tyl G) U ∧ va_D (fun _ => True) w)) (QcR G w o w') 0 0 (aIn w)
theorem aIn_D {w : va_W} {A : Nat → Prop} (h : va_D A w) : va_D (aIn w) w := ⟨h.1, fun k q hk => ⟨k, q.2, hk⟩⟩
theorem ct_intro {l : Launch} {y : MethodName} {cc : ByteArray} {nL : Nat} {ret : Option FieldType} {fr lo : Nat} {av : List Value} {G : GT} {w : va_W} {o : Option Value} {w' : va_W} (own : String) (lv0 : List (Nat × Value)) (hy : plainName y.cls = true) (ho : y.cls = own) (hn : (lg_sl av).length ≤ nL) (h0 : lv_args 0 av = lv0)
    (body : ∀ X : XT, X.2.1 = l → Cx X cc nL own G fr lo ret → KJ X (QR X G w o w') G (aIn w) nL 0 lv0 [] w) : CT l y cc nL ret fr lo av G w o w' := by
  refine Met.ofW (cc := cc) (maxL := nL) (ret := ret) hy rfl ?_
  intro p e s m args below meth c s₁ B hml hv
  obtain ⟨rfl, hP, hK, hD0⟩ := hv
  have hts : ∀ w ∈ TB, w.before av.toArray s = true := fun w hw => atoms_spec (ws := .code y cc nL ret :: TB) B.pre w (List.mem_cons_of_mem _ hw)
  have hown : s.vm.findClass own = some m.cls := by rw [← ho]; exact findClass_of_methodNamed B.named
  have hl := lv_entry av (n := nL) hn
  rw [lg_entry_eq]
  rw [h0] at hl
  exact body (p, l, e, _, s, m, av.toArray, below, meth, c, 0, 0) rfl ⟨B.exec, B.bytes, hml, hown, hts, hK, B.notSynchronized, B.returns, rfl, rfl, Nat.le_refl _, Nat.le_refl _⟩ s.heap [] _ hP (aIn_D hD0) va_S.rf hl
-- the model's own words
def gB {α : Type} (b : Bool) (x : Option α) : Option α := if b = true then x else none
def nme {α β : Type} (a : α) (f : α → β) : β := f a
def inb (i : Int32) (n : Nat) : Bool := decide (0 ≤ i.toInt ∧ i.toInt < (n : Int))
theorem bnd {α β : Type} {x : Option α} {f : α → Option β} {y : β} (h : x.bind f = some y) : ∃ u, x = some u ∧ f u = some y := Option.bind_eq_some_iff.mp h
theorem gB_s {α : Type} {b : Bool} {x : Option α} {y : α} (h : gB b x = some y) : b = true ∧ x = some y := by
  unfold gB at h
  split at h
  · exact ⟨by assumption, h⟩
  · cases h
theorem noS {α : Type} {y : α} {P : Prop} (h : (none : Option α) = some y) : P := by cases h
theorem inb_in {i : Int32} {n : Nat} (h : inb i n = true) : vp_in i n := vp_in_iff.mpr (of_decide_eq_true h)
section KJ
variable {X : XT} {Q : State → Prop} {G : GT} {A : Nat → Prop} {nL : Nat} {lv lv' : List (Nat × Value)} {st : List Value} {ws : va_W} {cc : ByteArray} {own : String} {fr lo : Nat} {ret : Option FieldType}
theorem k_lv (ks : List Nat) (hl : lv_pick lv ks = lv') {pc : Nat} (k : KJ X Q G A nL pc lv' st ws) : KJ X Q G A nL pc lv st ws := by
  obtain ⟨p, l, e, R, s, m, args, below, meth, c, kc, ks⟩ := X
  exact fun H locs ls hP hD hS hl' => k H locs ls hP hD hS (lv_sub hl' _ hl)
theorem k_iload (pc : Nat) (cx : Cx X cc nL own G fr lo ret) {i : Nat} {x : Int32} (hd : decode cc pc = .ok (.iload i, 2)) (n : Nat) (h : lv[n]? = some (i, .int x)) (k : KJ X Q G A nL (pc + 2) lv (.int x :: st) ws) : KJ X Q G A nL pc lv st ws := by
  obtain ⟨p, l, e, R, s, m, args, below, meth, c, kc, ks⟩ := X
  obtain ⟨hx, hb, hml, hown, hts, hK, hlk, hr, hfr, hlo, hkc, hks⟩ := cx
  exact fun H locs ls hP hD hS hl => lv_iload hx hb hd (lv_at hl n h) (k H locs ls hP hD hS hl)
theorem k_iload_n (pc : Nat) (cx : Cx X cc nL own G fr lo ret) {j : Fin 4} {i : Nat} {x : Int32} (hd : decode cc pc = .ok (.iload_n j, 1)) (hi : (j : Nat) = i) (n : Nat) (h : lv[n]? = some (i, .int x)) (k : KJ X Q G A nL (pc + 1) lv (.int x :: st) ws) : KJ X Q G A nL pc lv st ws := by
  obtain ⟨p, l, e, R, s, m, args, below, meth, c, kc, ks⟩ := X
  obtain ⟨hx, hb, hml, hown, hts, hK, hlk, hr, hfr, hlo, hkc, hks⟩ := cx
  exact fun H locs ls hP hD hS hl => lv_iload_n hx hb hd hi (lv_at hl n h) (k H locs ls hP hD hS hl)
theorem k_lload (pc : Nat) (cx : Cx X cc nL own G fr lo ret) {i : Nat} {x : Int64} (hd : decode cc pc = .ok (.lload i, 2)) (n : Nat) (h : lv[n]? = some (i, .long x)) (k : KJ X Q G A nL (pc + 2) lv (.long x :: st) ws) : KJ X Q G A nL pc lv st ws := by
  obtain ⟨p, l, e, R, s, m, args, below, meth, c, kc, ks⟩ := X
  obtain ⟨hx, hb, hml, hown, hts, hK, hlk, hr, hfr, hlo, hkc, hks⟩ := cx
  exact fun H locs ls hP hD hS hl => lv_lload hx hb hd (lv_at hl n h) (k H locs ls hP hD hS hl)
theorem k_lload_n (pc : Nat) (cx : Cx X cc nL own G fr lo ret) {j : Fin 4} {i : Nat} {x : Int64} (hd : decode cc pc = .ok (.lload_n j, 1)) (hi : (j : Nat) = i) (n : Nat) (h : lv[n]? = some (i, .long x)) (k : KJ X Q G A nL (pc + 1) lv (.long x :: st) ws) : KJ X Q G A nL pc lv st ws := by
  obtain ⟨p, l, e, R, s, m, args, below, meth, c, kc, ks⟩ := X
  obtain ⟨hx, hb, hml, hown, hts, hK, hlk, hr, hfr, hlo, hkc, hks⟩ := cx
  exact fun H locs ls hP hD hS hl => lv_lload_n hx hb hd hi (lv_at hl n h) (k H locs ls hP hD hS hl)
theorem k_aload (pc : Nat) (cx : Cx X cc nL own G fr lo ret) {i : Nat} {x : Nat} (hd : decode cc pc = .ok (.aload i, 2)) (n : Nat) (h : lv[n]? = some (i, .ref x)) (k : KJ X Q G A nL (pc + 2) lv (.ref x :: st) ws) : KJ X Q G A nL pc lv st ws := by
  obtain ⟨p, l, e, R, s, m, args, below, meth, c, kc, ks⟩ := X
  obtain ⟨hx, hb, hml, hown, hts, hK, hlk, hr, hfr, hlo, hkc, hks⟩ := cx
  exact fun H locs ls hP hD hS hl => lv_aload hx hb hd (lv_at hl n h) (k H locs ls hP hD hS hl)
theorem k_aload_n (pc : Nat) (cx : Cx X cc nL own G fr lo ret) {j : Fin 4} {i : Nat} {x : Nat} (hd : decode cc pc = .ok (.aload_n j, 1)) (hi : (j : Nat) = i) (n : Nat) (h : lv[n]? = some (i, .ref x)) (k : KJ X Q G A nL (pc + 1) lv (.ref x :: st) ws) : KJ X Q G A nL pc lv st ws := by
  obtain ⟨p, l, e, R, s, m, args, below, meth, c, kc, ks⟩ := X
  obtain ⟨hx, hb, hml, hown, hts, hK, hlk, hr, hfr, hlo, hkc, hks⟩ := cx
  exact fun H locs ls hP hD hS hl => lv_aload_n hx hb hd hi (lv_at hl n h) (k H locs ls hP hD hS hl)
theorem k_istore (pc : Nat) (cx : Cx X cc nL own G fr lo ret) {i : Nat} {x : Int32} (hd : decode cc pc = .ok (.istore i, 2)) (hn : i < nL) (hl0 : (i, Value.int x) :: lv.filter (fun q => !(q.1 == i) && !(q.1 + 1 == i && q.2.category == 2)) = lv') (k : KJ X Q G A nL (pc + 2) lv' st ws) : KJ X Q G A nL pc lv (.int x :: st) ws := by
  obtain ⟨p, l, e, R, s, m, args, below, meth, c, kc, ks⟩ := X
  obtain ⟨hx, hb, hml, hown, hts, hK, hlk, hr, hfr, hlo, hkc, hks⟩ := cx
  exact fun H locs ls hP hD hS hl => lv_istore hx hb hd hl hn hl0 (fun ls' hl' => k H locs ls' hP hD hS hl')
theorem k_istore_n (pc : Nat) (cx : Cx X cc nL own G fr lo ret) {j : Fin 4} {i : Nat} {x : Int32} (hd : decode cc pc = .ok (.istore_n j, 1)) (hi : (j : Nat) = i) (hn : i < nL) (hl0 : (i, Value.int x) :: lv.filter (fun q => !(q.1 == i) && !(q.1 + 1 == i && q.2.category == 2)) = lv') (k : KJ X Q G A nL (pc + 1) lv' st ws) : KJ X Q G A nL pc lv (.int x :: st) ws := by
  obtain ⟨p, l, e, R, s, m, args, below, meth, c, kc, ks⟩ := X
  obtain ⟨hx, hb, hml, hown, hts, hK, hlk, hr, hfr, hlo, hkc, hks⟩ := cx
  exact fun H locs ls hP hD hS hl => lv_istore_n hx hb hd hi hl hn hl0 (fun ls' hl' => k H locs ls' hP hD hS hl')
theorem k_lstore (pc : Nat) (cx : Cx X cc nL own G fr lo ret) {i : Nat} {x : Int64} (hd : decode cc pc = .ok (.lstore i, 2)) (hn : i + 1 < nL) (hl0 : (i, Value.long x) :: lv.filter (fun q => !(q.1 == i) && (!(q.1 == i + 1) && !(q.1 + 1 == i && q.2.category == 2))) = lv') (k : KJ X Q G A nL (pc + 2) lv' st ws) : KJ X Q G A nL pc lv (.long x :: st) ws := by
  obtain ⟨p, l, e, R, s, m, args, below, meth, c, kc, ks⟩ := X
  obtain ⟨hx, hb, hml, hown, hts, hK, hlk, hr, hfr, hlo, hkc, hks⟩ := cx
  exact fun H locs ls hP hD hS hl => lv_lstore hx hb hd hl hn hl0 (fun ls' hl' => k H locs ls' hP hD hS hl')
theorem k_lstore_n (pc : Nat) (cx : Cx X cc nL own G fr lo ret) {j : Fin 4} {i : Nat} {x : Int64} (hd : decode cc pc = .ok (.lstore_n j, 1)) (hi : (j : Nat) = i) (hn : i + 1 < nL) (hl0 : (i, Value.long x) :: lv.filter (fun q => !(q.1 == i) && (!(q.1 == i + 1) && !(q.1 + 1 == i && q.2.category == 2))) = lv') (k : KJ X Q G A nL (pc + 1) lv' st ws) : KJ X Q G A nL pc lv (.long x :: st) ws := by
  obtain ⟨p, l, e, R, s, m, args, below, meth, c, kc, ks⟩ := X
  obtain ⟨hx, hb, hml, hown, hts, hK, hlk, hr, hfr, hlo, hkc, hks⟩ := cx
  exact fun H locs ls hP hD hS hl => lv_lstore_n hx hb hd hi hl hn hl0 (fun ls' hl' => k H locs ls' hP hD hS hl')
theorem k_astore (pc : Nat) (cx : Cx X cc nL own G fr lo ret) {i : Nat} {x : Nat} (hd : decode cc pc = .ok (.astore i, 2)) (hn : i < nL) (hl0 : (i, Value.ref x) :: lv.filter (fun q => !(q.1 == i) && !(q.1 + 1 == i && q.2.category == 2)) = lv') (k : KJ X Q G A nL (pc + 2) lv' st ws) : KJ X Q G A nL pc lv (.ref x :: st) ws := by
  obtain ⟨p, l, e, R, s, m, args, below, meth, c, kc, ks⟩ := X
  obtain ⟨hx, hb, hml, hown, hts, hK, hlk, hr, hfr, hlo, hkc, hks⟩ := cx
  exact fun H locs ls hP hD hS hl => lv_astore hx hb hd hl hn hl0 (fun ls' hl' => k H locs ls' hP hD hS hl')
theorem k_astore_n (pc : Nat) (cx : Cx X cc nL own G fr lo ret) {j : Fin 4} {i : Nat} {x : Nat} (hd : decode cc pc = .ok (.astore_n j, 1)) (hi : (j : Nat) = i) (hn : i < nL) (hl0 : (i, Value.ref x) :: lv.filter (fun q => !(q.1 == i) && !(q.1 + 1 == i && q.2.category == 2)) = lv') (k : KJ X Q G A nL (pc + 1) lv' st ws) : KJ X Q G A nL pc lv (.ref x :: st) ws := by
  obtain ⟨p, l, e, R, s, m, args, below, meth, c, kc, ks⟩ := X
  obtain ⟨hx, hb, hml, hown, hts, hK, hlk, hr, hfr, hlo, hkc, hks⟩ := cx
  exact fun H locs ls hP hD hS hl => lv_astore_n hx hb hd hi hl hn hl0 (fun ls' hl' => k H locs ls' hP hD hS hl')
theorem k_iinc {β : Type} (pc : Nat) (cx : Cx X cc nL own G fr lo ret) {i : Nat} {n : Int} {x v : Int32} {b : Int32 → Option β} {y : β} (hd : decode cc pc = .ok (.iinc i n, 3)) (q : Nat) (h : lv[q]? = some (i, .int x)) (hv : Int32.ofInt n = v) (hn : i < nL) (lw : Int32 → List (Nat × Value)) (hl0 : ∀ z, (i, Value.int z) :: lv.filter (fun q => !(q.1 == i) && !(q.1 + 1 == i && q.2.category == 2)) = lw z) (hm : nme (x + v) b = some y) (k : ∀ z : Int32, b z = some y → KJ X Q G A nL (pc + 3) (lw z) st ws) : KJ X Q G A nL pc lv st ws := by
  obtain ⟨p, l, e, R, s, m, args, below, meth, c, kc, ks⟩ := X
  obtain ⟨hx, hb, hml, hown, hts, hK, hlk, hr, hfr, hlo, hkc, hks⟩ := cx
  exact fun H locs ls hP hD hS hl => lv_iinc hx hb hd hl h rfl hn (hl0 _) (fun ls' hl' => by subst hv; exact k (x + Int32.ofInt n) hm H locs ls' hP hD hS hl')
theorem k_nm {β : Type} {x : Int32} {b : Int32 → Option β} {y : β} {pc : Nat} (hm : nme x b = some y) (k : ∀ z : Int32, b z = some y → KJ X Q G A nL pc lv (.int z :: st) ws) : KJ X Q G A nL pc lv (.int x :: st) ws := k x hm
theorem k_nml {β : Type} {x : Int64} {b : Int64 → Option β} {y : β} {pc : Nat} (hm : nme x b = some y) (k : ∀ z : Int64, b z = some y → KJ X Q G A nL pc lv (.long z :: st) ws) : KJ X Q G A nL pc lv (.long x :: st) ws := k x hm
theorem k_iconst (pc : Nat) (cx : Cx X cc nL own G fr lo ret) {n : Int} {v : Int32} (hd : decode cc pc = .ok (.iconst n, 1)) (hv : Int32.ofInt n = v) (k : KJ X Q G A nL (pc + 1) lv (.int v :: st) ws) : KJ X Q G A nL pc lv st ws := by
  obtain ⟨p, l, e, R, s, m, args, below, meth, c, kc, ks⟩ := X
  obtain ⟨hx, hb, hml, hown, hts, hK, hlk, hr, hfr, hlo, hkc, hks⟩ := cx
  exact fun H locs ls hP hD hS hl => lv_iconst hx hb hd hv (k H locs ls hP hD hS hl)
theorem k_bipush (pc : Nat) (cx : Cx X cc nL own G fr lo ret) {n : Int} {v : Int32} (hd : decode cc pc = .ok (.bipush n, 2)) (hv : (Int8.ofInt n).toInt32 = v) (k : KJ X Q G A nL (pc + 2) lv (.int v :: st) ws) : KJ X Q G A nL pc lv st ws := by
  obtain ⟨p, l, e, R, s, m, args, below, meth, c, kc, ks⟩ := X
  obtain ⟨hx, hb, hml, hown, hts, hK, hlk, hr, hfr, hlo, hkc, hks⟩ := cx
  exact fun H locs ls hP hD hS hl => lv_bipush hx hb hd hv (k H locs ls hP hD hS hl)
theorem k_sipush (pc : Nat) (cx : Cx X cc nL own G fr lo ret) {n : Int} {v : Int32} (hd : decode cc pc = .ok (.sipush n, 3)) (hv : (Int16.ofInt n).toInt32 = v) (k : KJ X Q G A nL (pc + 3) lv (.int v :: st) ws) : KJ X Q G A nL pc lv st ws := by
  obtain ⟨p, l, e, R, s, m, args, below, meth, c, kc, ks⟩ := X
  obtain ⟨hx, hb, hml, hown, hts, hK, hlk, hr, hfr, hlo, hkc, hks⟩ := cx
  exact fun H locs ls hP hD hS hl => lv_sipush hx hb hd hv (k H locs ls hP hD hS hl)
theorem k_lconst (pc : Nat) (cx : Cx X cc nL own G fr lo ret) {n : Fin 2} {v : Int64} (hd : decode cc pc = .ok (.lconst n, 1)) (hv : Int64.ofNat (n : Nat) = v) (k : KJ X Q G A nL (pc + 1) lv (.long v :: st) ws) : KJ X Q G A nL pc lv st ws := by
  obtain ⟨p, l, e, R, s, m, args, below, meth, c, kc, ks⟩ := X
  obtain ⟨hx, hb, hml, hown, hts, hK, hlk, hr, hfr, hlo, hkc, hks⟩ := cx
  exact fun H locs ls hP hD hS hl => lv_lconst hx hb hd hv (k H locs ls hP hD hS hl)
theorem k_ldc_w (pc : Nat) (cx : Cx X cc nL own G fr lo ret) {n : Nat} {v : Int32} (hd : decode cc pc = .ok (.ldc_w n, 3)) (hw : Cond.constant own n v ∈ TB) (k : KJ X Q G A nL (pc + 3) lv (.int v :: st) ws) : KJ X Q G A nL pc lv st ws := by
  obtain ⟨p, l, e, R, s, m, args, below, meth, c, kc, ks⟩ := X
  obtain ⟨hx, hb, hml, hown, hts, hK, hlk, hr, hfr, hlo, hkc, hks⟩ := cx
  exact fun H locs ls hP hD hS hl => lv_ldcw hx hb hown (hts _ hw) hd (k H locs ls hP hD hS hl)
theorem k_ldc2_w (pc : Nat) (cx : Cx X cc nL own G fr lo ret) {n : Nat} {v : Int64} (hd : decode cc pc = .ok (.ldc2_w n, 3)) (hw : Cond.constantLong own n v ∈ TB) (k : KJ X Q G A nL (pc + 3) lv (.long v :: st) ws) : KJ X Q G A nL pc lv st ws := by
  obtain ⟨p, l, e, R, s, m, args, below, meth, c, kc, ks⟩ := X
  obtain ⟨hx, hb, hml, hown, hts, hK, hlk, hr, hfr, hlo, hkc, hks⟩ := cx
  exact fun H locs ls hP hD hS hl => lv_ldc2 hx hb hown (hts _ hw) hd (k H locs ls hP hD hS hl)
theorem k_iadd (pc : Nat) (cx : Cx X cc nL own G fr lo ret) {x y : Int32} (hd : decode cc pc = .ok (.iadd, 1)) (k : KJ X Q G A nL (pc + 1) lv (.int (x + y) :: st) ws) : KJ X Q G A nL pc lv (.int y :: .int x :: st) ws := by
  obtain ⟨p, l, e, R, s, m, args, below, meth, c, kc, ks⟩ := X
  obtain ⟨hx, hb, hml, hown, hts, hK, hlk, hr, hfr, hlo, hkc, hks⟩ := cx
  exact fun H locs ls hP hD hS hl => lv_iadd hx hb hd (k H locs ls hP hD hS hl)
theorem k_isub (pc : Nat) (cx : Cx X cc nL own G fr lo ret) {x y : Int32} (hd : decode cc pc = .ok (.isub, 1)) (k : KJ X Q G A nL (pc + 1) lv (.int (x - y) :: st) ws) : KJ X Q G A nL pc lv (.int y :: .int x :: st) ws := by
  obtain ⟨p, l, e, R, s, m, args, below, meth, c, kc, ks⟩ := X
  obtain ⟨hx, hb, hml, hown, hts, hK, hlk, hr, hfr, hlo, hkc, hks⟩ := cx
  exact fun H locs ls hP hD hS hl => lv_isub hx hb hd (k H locs ls hP hD hS hl)
theorem k_imul (pc : Nat) (cx : Cx X cc nL own G fr lo ret) {x y : Int32} (hd : decode cc pc = .ok (.imul, 1)) (k : KJ X Q G A nL (pc + 1) lv (.int (x * y) :: st) ws) : KJ X Q G A nL pc lv (.int y :: .int x :: st) ws := by
  obtain ⟨p, l, e, R, s, m, args, below, meth, c, kc, ks⟩ := X
  obtain ⟨hx, hb, hml, hown, hts, hK, hlk, hr, hfr, hlo, hkc, hks⟩ := cx
  exact fun H locs ls hP hD hS hl => lv_imul hx hb hd (k H locs ls hP hD hS hl)
theorem k_iand (pc : Nat) (cx : Cx X cc nL own G fr lo ret) {x y : Int32} (hd : decode cc pc = .ok (.iand, 1)) (k : KJ X Q G A nL (pc + 1) lv (.int (x &&& y) :: st) ws) : KJ X Q G A nL pc lv (.int y :: .int x :: st) ws := by
  obtain ⟨p, l, e, R, s, m, args, below, meth, c, kc, ks⟩ := X
  obtain ⟨hx, hb, hml, hown, hts, hK, hlk, hr, hfr, hlo, hkc, hks⟩ := cx
  exact fun H locs ls hP hD hS hl => lv_iand hx hb hd (k H locs ls hP hD hS hl)
theorem k_ior (pc : Nat) (cx : Cx X cc nL own G fr lo ret) {x y : Int32} (hd : decode cc pc = .ok (.ior, 1)) (k : KJ X Q G A nL (pc + 1) lv (.int (x ||| y) :: st) ws) : KJ X Q G A nL pc lv (.int y :: .int x :: st) ws := by
  obtain ⟨p, l, e, R, s, m, args, below, meth, c, kc, ks⟩ := X
  obtain ⟨hx, hb, hml, hown, hts, hK, hlk, hr, hfr, hlo, hkc, hks⟩ := cx
  exact fun H locs ls hP hD hS hl => lv_ior hx hb hd (k H locs ls hP hD hS hl)
theorem k_ixor (pc : Nat) (cx : Cx X cc nL own G fr lo ret) {x y : Int32} (hd : decode cc pc = .ok (.ixor, 1)) (k : KJ X Q G A nL (pc + 1) lv (.int (x ^^^ y) :: st) ws) : KJ X Q G A nL pc lv (.int y :: .int x :: st) ws := by
  obtain ⟨p, l, e, R, s, m, args, below, meth, c, kc, ks⟩ := X
  obtain ⟨hx, hb, hml, hown, hts, hK, hlk, hr, hfr, hlo, hkc, hks⟩ := cx
  exact fun H locs ls hP hD hS hl => lv_ixor hx hb hd (k H locs ls hP hD hS hl)
theorem k_ishl (pc : Nat) (cx : Cx X cc nL own G fr lo ret) {x y : Int32} (hd : decode cc pc = .ok (.ishl, 1)) (k : KJ X Q G A nL (pc + 1) lv (.int (x <<< (y &&& 31)) :: st) ws) : KJ X Q G A nL pc lv (.int y :: .int x :: st) ws := by
  obtain ⟨p, l, e, R, s, m, args, below, meth, c, kc, ks⟩ := X
  obtain ⟨hx, hb, hml, hown, hts, hK, hlk, hr, hfr, hlo, hkc, hks⟩ := cx
  exact fun H locs ls hP hD hS hl => lv_ishl hx hb hd (k H locs ls hP hD hS hl)
theorem k_ishr (pc : Nat) (cx : Cx X cc nL own G fr lo ret) {x y : Int32} (hd : decode cc pc = .ok (.ishr, 1)) (k : KJ X Q G A nL (pc + 1) lv (.int (x >>> (y &&& 31)) :: st) ws) : KJ X Q G A nL pc lv (.int y :: .int x :: st) ws := by
  obtain ⟨p, l, e, R, s, m, args, below, meth, c, kc, ks⟩ := X
  obtain ⟨hx, hb, hml, hown, hts, hK, hlk, hr, hfr, hlo, hkc, hks⟩ := cx
  exact fun H locs ls hP hD hS hl => lv_ishr hx hb hd (k H locs ls hP hD hS hl)
theorem k_iushr (pc : Nat) (cx : Cx X cc nL own G fr lo ret) {x y : Int32} (hd : decode cc pc = .ok (.iushr, 1)) (k : KJ X Q G A nL (pc + 1) lv (.int ((x.toUInt32 >>> (y.toUInt32 &&& Int32.toUInt32 31)).toInt32) :: st) ws) : KJ X Q G A nL pc lv (.int y :: .int x :: st) ws := by
  obtain ⟨p, l, e, R, s, m, args, below, meth, c, kc, ks⟩ := X
  obtain ⟨hx, hb, hml, hown, hts, hK, hlk, hr, hfr, hlo, hkc, hks⟩ := cx
  exact fun H locs ls hP hD hS hl => lv_iushr hx hb hd rfl (k H locs ls hP hD hS hl)
theorem k_ladd (pc : Nat) (cx : Cx X cc nL own G fr lo ret) {x y : Int64} (hd : decode cc pc = .ok (.ladd, 1)) (k : KJ X Q G A nL (pc + 1) lv (.long (x + y) :: st) ws) : KJ X Q G A nL pc lv (.long y :: .long x :: st) ws := by
  obtain ⟨p, l, e, R, s, m, args, below, meth, c, kc, ks⟩ := X
  obtain ⟨hx, hb, hml, hown, hts, hK, hlk, hr, hfr, hlo, hkc, hks⟩ := cx
  exact fun H locs ls hP hD hS hl => lv_ladd hx hb hd (k H locs ls hP hD hS hl)
theorem k_lsub (pc : Nat) (cx : Cx X cc nL own G fr lo ret) {x y : Int64} (hd : decode cc pc = .ok (.lsub, 1)) (k : KJ X Q G A nL (pc + 1) lv (.long (x - y) :: st) ws) : KJ X Q G A nL pc lv (.long y :: .long x :: st) ws := by
  obtain ⟨p, l, e, R, s, m, args, below, meth, c, kc, ks⟩ := X
  obtain ⟨hx, hb, hml, hown, hts, hK, hlk, hr, hfr, hlo, hkc, hks⟩ := cx
  exact fun H locs ls hP hD hS hl => lv_lsub hx hb hd (k H locs ls hP hD hS hl)
theorem k_lcmp (pc : Nat) (cx : Cx X cc nL own G fr lo ret) {x y : Int64} (hd : decode cc pc = .ok (.lcmp, 1)) (k : KJ X Q G A nL (pc + 1) lv (.int (lg_cmp x y) :: st) ws) : KJ X Q G A nL pc lv (.long y :: .long x :: st) ws := by
  obtain ⟨p, l, e, R, s, m, args, below, meth, c, kc, ks⟩ := X
  obtain ⟨hx, hb, hml, hown, hts, hK, hlk, hr, hfr, hlo, hkc, hks⟩ := cx
  exact fun H locs ls hP hD hS hl => W.lcmp hx hb hd (k H locs ls hP hD hS hl)
theorem k_i2l (pc : Nat) (cx : Cx X cc nL own G fr lo ret) {x : Int32} (hd : decode cc pc = .ok (.i2l, 1)) (k : KJ X Q G A nL (pc + 1) lv (.long (x.toInt64) :: st) ws) : KJ X Q G A nL pc lv (.int x :: st) ws := by
  obtain ⟨p, l, e, R, s, m, args, below, meth, c, kc, ks⟩ := X
  obtain ⟨hx, hb, hml, hown, hts, hK, hlk, hr, hfr, hlo, hkc, hks⟩ := cx
  exact fun H locs ls hP hD hS hl => lv_i2l hx hb hd rfl (k H locs ls hP hD hS hl)
theorem k_i2b (pc : Nat) (cx : Cx X cc nL own G fr lo ret) {x : Int32} (hd : decode cc pc = .ok (.i2b, 1)) (k : KJ X Q G A nL (pc + 1) lv (.int (x.toInt8.toInt32) :: st) ws) : KJ X Q G A nL pc lv (.int x :: st) ws := by
  obtain ⟨p, l, e, R, s, m, args, below, meth, c, kc, ks⟩ := X
  obtain ⟨hx, hb, hml, hown, hts, hK, hlk, hr, hfr, hlo, hkc, hks⟩ := cx
  exact fun H locs ls hP hD hS hl => lv_i2b hx hb hd rfl (k H locs ls hP hD hS hl)
theorem k_i2s (pc : Nat) (cx : Cx X cc nL own G fr lo ret) {x : Int32} (hd : decode cc pc = .ok (.i2s, 1)) (k : KJ X Q G A nL (pc + 1) lv (.int (x.toInt16.toInt32) :: st) ws) : KJ X Q G A nL pc lv (.int x :: st) ws := by
  obtain ⟨p, l, e, R, s, m, args, below, meth, c, kc, ks⟩ := X
  obtain ⟨hx, hb, hml, hown, hts, hK, hlk, hr, hfr, hlo, hkc, hks⟩ := cx
  exact fun H locs ls hP hD hS hl => lv_i2s hx hb hd rfl (k H locs ls hP hD hS hl)
theorem k_dup (pc : Nat) (cx : Cx X cc nL own G fr lo ret) {v : Value} (hd : decode cc pc = .ok (.dup, 1)) (hv : v.category = 1) (k : KJ X Q G A nL (pc + 1) lv (v :: v :: st) ws) : KJ X Q G A nL pc lv (v :: st) ws := by
  obtain ⟨p, l, e, R, s, m, args, below, meth, c, kc, ks⟩ := X
  obtain ⟨hx, hb, hml, hown, hts, hK, hlk, hr, hfr, hlo, hkc, hks⟩ := cx
  exact fun H locs ls hP hD hS hl => lv_dup hx hb hd hv (k H locs ls hP hD hS hl)
theorem k_dup2 (pc : Nat) (cx : Cx X cc nL own G fr lo ret) {v w : Value} (hd : decode cc pc = .ok (.dup2, 1)) (hv : v.category = 1) (hw : w.category = 1) (k : KJ X Q G A nL (pc + 1) lv (v :: w :: v :: w :: st) ws) : KJ X Q G A nL pc lv (v :: w :: st) ws := by
  obtain ⟨p, l, e, R, s, m, args, below, meth, c, kc, ks⟩ := X
  obtain ⟨hx, hb, hml, hown, hts, hK, hlk, hr, hfr, hlo, hkc, hks⟩ := cx
  exact fun H locs ls hP hD hS hl => lv_dup2_11 hx hb hd hv hw (k H locs ls hP hD hS hl)
theorem k_goto (pc : Nat) (cx : Cx X cc nL own G fr lo ret) {off : Int} {tgt : Nat} (hd : decode cc pc = .ok (.goto off, 3)) (ht : (pc : Int) + off = (tgt : Int)) (k : KJ X Q G A nL (tgt) lv st ws) : KJ X Q G A nL pc lv st ws := by
  obtain ⟨p, l, e, R, s, m, args, below, meth, c, kc, ks⟩ := X
  obtain ⟨hx, hb, hml, hown, hts, hK, hlk, hr, hfr, hlo, hkc, hks⟩ := cx
  exact fun H locs ls hP hD hS hl => lv_goto hx hb hd ht (k H locs ls hP hD hS hl)
theorem k_idiv {β : Type} (pc : Nat) (cx : Cx X cc nL own G fr lo ret) {x y : Int32} {b : Option β} {z : β} (hd : decode cc pc = .ok (.idiv, 1)) (hm : gB (decide (¬ y = 0)) b = some z) (k : b = some z → KJ X Q G A nL (pc + 1) lv (.int (x / y) :: st) ws) : KJ X Q G A nL pc lv (.int y :: .int x :: st) ws := by
  obtain ⟨p, l, e, R, s, m, args, below, meth, c, kc, ks⟩ := X
  obtain ⟨hx, hb, hml, hown, hts, hK, hlk, hr, hfr, hlo, hkc, hks⟩ := cx
  exact fun H locs ls hP hD hS hl => lv_idiv hx hb hd (of_decide_eq_true (gB_s hm).1) (k (gB_s hm).2 H locs ls hP hD hS hl)
theorem k_idiv_c (pc : Nat) (cx : Cx X cc nL own G fr lo ret) {x y : Int32} (hd : decode cc pc = .ok (.idiv, 1)) (hne : ¬ y = 0) (k : KJ X Q G A nL (pc + 1) lv (.int (x / y) :: st) ws) : KJ X Q G A nL pc lv (.int y :: .int x :: st) ws := by
  obtain ⟨p, l, e, R, s, m, args, below, meth, c, kc, ks⟩ := X
  obtain ⟨hx, hb, hml, hown, hts, hK, hlk, hr, hfr, hlo, hkc, hks⟩ := cx
  exact fun H locs ls hP hD hS hl => lv_idiv hx hb hd hne (k H locs ls hP hD hS hl)
theorem k_irem {β : Type} (pc : Nat) (cx : Cx X cc nL own G fr lo ret) {x y : Int32} {b : Option β} {z : β} (hd : decode cc pc = .ok (.irem, 1)) (hm : gB (decide (¬ y = 0)) b = some z) (k : b = some z → KJ X Q G A nL (pc + 1) lv (.int (x - x / y * y) :: st) ws) : KJ X Q G A nL pc lv (.int y :: .int x :: st) ws := by
  obtain ⟨p, l, e, R, s, m, args, below, meth, c, kc, ks⟩ := X
  obtain ⟨hx, hb, hml, hown, hts, hK, hlk, hr, hfr, hlo, hkc, hks⟩ := cx
  exact fun H locs ls hP hD hS hl => lv_irem hx hb hd (of_decide_eq_true (gB_s hm).1) (k (gB_s hm).2 H locs ls hP hD hS hl)
theorem k_irem_c (pc : Nat) (cx : Cx X cc nL own G fr lo ret) {x y : Int32} (hd : decode cc pc = .ok (.irem, 1)) (hne : ¬ y = 0) (k : KJ X Q G A nL (pc + 1) lv (.int (x - x / y * y) :: st) ws) : KJ X Q G A nL pc lv (.int y :: .int x :: st) ws := by
  obtain ⟨p, l, e, R, s, m, args, below, meth, c, kc, ks⟩ := X
  obtain ⟨hx, hb, hml, hown, hts, hK, hlk, hr, hfr, hlo, hkc, hks⟩ := cx
  exact fun H locs ls hP hD hS hl => lv_irem hx hb hd hne (k H locs ls hP hD hS hl)
theorem k_ldiv {β : Type} (pc : Nat) (cx : Cx X cc nL own G fr lo ret) {x y : Int64} {b : Option β} {z : β} (hd : decode cc pc = .ok (.ldiv, 1)) (hm : gB (decide (¬ y = 0)) b = some z) (k : b = some z → KJ X Q G A nL (pc + 1) lv (.long (x / y) :: st) ws) : KJ X Q G A nL pc lv (.long y :: .long x :: st) ws := by
  obtain ⟨p, l, e, R, s, m, args, below, meth, c, kc, ks⟩ := X
  obtain ⟨hx, hb, hml, hown, hts, hK, hlk, hr, hfr, hlo, hkc, hks⟩ := cx
  exact fun H locs ls hP hD hS hl => lv_ldiv hx hb hd (of_decide_eq_true (gB_s hm).1) (k (gB_s hm).2 H locs ls hP hD hS hl)
theorem k_ldiv_c (pc : Nat) (cx : Cx X cc nL own G fr lo ret) {x y : Int64} (hd : decode cc pc = .ok (.ldiv, 1)) (hne : ¬ y = 0) (k : KJ X Q G A nL (pc + 1) lv (.long (x / y) :: st) ws) : KJ X Q G A nL pc lv (.long y :: .long x :: st) ws := by
  obtain ⟨p, l, e, R, s, m, args, below, meth, c, kc, ks⟩ := X
  obtain ⟨hx, hb, hml, hown, hts, hK, hlk, hr, hfr, hlo, hkc, hks⟩ := cx
  exact fun H locs ls hP hD hS hl => lv_ldiv hx hb hd hne (k H locs ls hP hD hS hl)
theorem k_lrem {β : Type} (pc : Nat) (cx : Cx X cc nL own G fr lo ret) {x y : Int64} {b : Option β} {z : β} (hd : decode cc pc = .ok (.lrem, 1)) (hm : gB (decide (¬ y = 0)) b = some z) (k : b = some z → KJ X Q G A nL (pc + 1) lv (.long (x - x / y * y) :: st) ws) : KJ X Q G A nL pc lv (.long y :: .long x :: st) ws := by
  obtain ⟨p, l, e, R, s, m, args, below, meth, c, kc, ks⟩ := X
  obtain ⟨hx, hb, hml, hown, hts, hK, hlk, hr, hfr, hlo, hkc, hks⟩ := cx
  exact fun H locs ls hP hD hS hl => lv_lrem hx hb hd (of_decide_eq_true (gB_s hm).1) (k (gB_s hm).2 H locs ls hP hD hS hl)
theorem k_lrem_c (pc : Nat) (cx : Cx X cc nL own G fr lo ret) {x y : Int64} (hd : decode cc pc = .ok (.lrem, 1)) (hne : ¬ y = 0) (k : KJ X Q G A nL (pc + 1) lv (.long (x - x / y * y) :: st) ws) : KJ X Q G A nL pc lv (.long y :: .long x :: st) ws := by
  obtain ⟨p, l, e, R, s, m, args, below, meth, c, kc, ks⟩ := X
  obtain ⟨hx, hb, hml, hown, hts, hK, hlk, hr, hfr, hlo, hkc, hks⟩ := cx
  exact fun H locs ls hP hD hS hl => lv_lrem hx hb hd hne (k H locs ls hP hD hS hl)
theorem k_if_eq {β : Type} (pc : Nat) (cx : Cx X cc nL own G fr lo ret) {x : Int32} {off : Int} {tgt : Nat} {inst : Decidable (x = 0)} {a b : Option β} {z : Option β} (hd : decode cc pc = .ok (.ifCond .eq off, 3)) (ht : (pc : Int) + off = (tgt : Int)) (hm : @ite _ (x = 0) inst a b = z) (kt : x = 0 → a = z → KJ X Q G A nL tgt lv st ws) (kf : ¬ x = 0 → b = z → KJ X Q G A nL (pc + 3) lv st ws) : KJ X Q G A nL pc lv (.int x :: st) ws := by
  obtain ⟨p, l, e, R, s, m, args, below, meth, c, kc, ks⟩ := X
  obtain ⟨hx, hb, hml, hown, hts, hK, hlk, hr, hfr, hlo, hkc, hks⟩ := cx
  exact fun H locs ls hP hD hS hl => lv_if_eq hx hb hd ht (fun h => kt h ((if_pos h).symm.trans hm) H locs ls hP hD hS hl) (fun h => kf h ((if_neg h).symm.trans hm) H locs ls hP hD hS hl)
theorem k_if_eq_T (pc : Nat) (cx : Cx X cc nL own G fr lo ret) {x : Int32} {off : Int} {tgt : Nat} (hd : decode cc pc = .ok (.ifCond .eq off, 3)) (ht : (pc : Int) + off = (tgt : Int)) (hc : x = 0) (k : KJ X Q G A nL tgt lv st ws) : KJ X Q G A nL pc lv (.int x :: st) ws := by
  obtain ⟨p, l, e, R, s, m, args, below, meth, c, kc, ks⟩ := X
  obtain ⟨hx, hb, hml, hown, hts, hK, hlk, hr, hfr, hlo, hkc, hks⟩ := cx
  exact fun H locs ls hP hD hS hl => lv_if_eq hx hb hd ht (fun _ => k H locs ls hP hD hS hl) (fun h => absurd hc (by simpa using h))
theorem k_if_eq_F (pc : Nat) (cx : Cx X cc nL own G fr lo ret) {x : Int32} {off : Int} {tgt : Nat} (hd : decode cc pc = .ok (.ifCond .eq off, 3)) (ht : (pc : Int) + off = (tgt : Int)) (hc : ¬ x = 0) (k : KJ X Q G A nL (pc + 3) lv st ws) : KJ X Q G A nL pc lv (.int x :: st) ws := by
  obtain ⟨p, l, e, R, s, m, args, below, meth, c, kc, ks⟩ := X
  obtain ⟨hx, hb, hml, hown, hts, hK, hlk, hr, hfr, hlo, hkc, hks⟩ := cx
  exact fun H locs ls hP hD hS hl => lv_if_eq hx hb hd ht (fun h => absurd hc (by simpa using h)) (fun _ => k H locs ls hP hD hS hl)
theorem k_icmp_eq {β : Type} (pc : Nat) (cx : Cx X cc nL own G fr lo ret) {x y : Int32} {off : Int} {tgt : Nat} {inst : Decidable (x = y)} {a b : Option β} {z : Option β} (hd : decode cc pc = .ok (.if_icmp .eq off, 3)) (ht : (pc : Int) + off = (tgt : Int)) (hm : @ite _ (x = y) inst a b = z) (kt : x = y → a = z → KJ X Q G A nL tgt lv st ws) (kf : ¬ x = y → b = z → KJ X Q G A nL (pc + 3) lv st ws) : KJ X Q G A nL pc lv (.int y :: .int x :: st) ws := by
  obtain ⟨p, l, e, R, s, m, args, below, meth, c, kc, ks⟩ := X
  obtain ⟨hx, hb, hml, hown, hts, hK, hlk, hr, hfr, hlo, hkc, hks⟩ := cx
  exact fun H locs ls hP hD hS hl => lv_icmp_eq hx hb hd ht (fun h => kt h ((if_pos h).symm.trans hm) H locs ls hP hD hS hl) (fun h => kf h ((if_neg h).symm.trans hm) H locs ls hP hD hS hl)
theorem k_icmp_eq_T (pc : Nat) (cx : Cx X cc nL own G fr lo ret) {x y : Int32} {off : Int} {tgt : Nat} (hd : decode cc pc = .ok (.if_icmp .eq off, 3)) (ht : (pc : Int) + off = (tgt : Int)) (hc : x = y) (k : KJ X Q G A nL tgt lv st ws) : KJ X Q G A nL pc lv (.int y :: .int x :: st) ws := by
  obtain ⟨p, l, e, R, s, m, args, below, meth, c, kc, ks⟩ := X
  obtain ⟨hx, hb, hml, hown, hts, hK, hlk, hr, hfr, hlo, hkc, hks⟩ := cx
  exact fun H locs ls hP hD hS hl => lv_icmp_eq hx hb hd ht (fun _ => k H locs ls hP hD hS hl) (fun h => absurd hc (by simpa using h))
theorem k_icmp_eq_F (pc : Nat) (cx : Cx X cc nL own G fr lo ret) {x y : Int32} {off : Int} {tgt : Nat} (hd : decode cc pc = .ok (.if_icmp .eq off, 3)) (ht : (pc : Int) + off = (tgt : Int)) (hc : ¬ x = y) (k : KJ X Q G A nL (pc + 3) lv st ws) : KJ X Q G A nL pc lv (.int y :: .int x :: st) ws := by
  obtain ⟨p, l, e, R, s, m, args, below, meth, c, kc, ks⟩ := X
  obtain ⟨hx, hb, hml, hown, hts, hK, hlk, hr, hfr, hlo, hkc, hks⟩ := cx
  exact fun H locs ls hP hD hS hl => lv_icmp_eq hx hb hd ht (fun h => absurd hc (by simpa using h)) (fun _ => k H locs ls hP hD hS hl)
theorem k_if_ne {β : Type} (pc : Nat) (cx : Cx X cc nL own G fr lo ret) {x : Int32} {off : Int} {tgt : Nat} {inst : Decidable (x = 0)} {a b : Option β} {z : Option β} (hd : decode cc pc = .ok (.ifCond .ne off, 3)) (ht : (pc : Int) + off = (tgt : Int)) (hm : @ite _ (x = 0) inst a b = z) (kf : x = 0 → a = z → KJ X Q G A nL (pc + 3) lv st ws) (kt : ¬ x = 0 → b = z → KJ X Q G A nL tgt lv st ws) : KJ X Q G A nL pc lv (.int x :: st) ws := by
  obtain ⟨p, l, e, R, s, m, args, below, meth, c, kc, ks⟩ := X
  obtain ⟨hx, hb, hml, hown, hts, hK, hlk, hr, hfr, hlo, hkc, hks⟩ := cx
  exact fun H locs ls hP hD hS hl => lv_if_ne hx hb hd ht (fun h => kt h ((if_neg h).symm.trans hm) H locs ls hP hD hS hl) (fun h => kf h ((if_pos h).symm.trans hm) H locs ls hP hD hS hl)
theorem k_if_ne_T (pc : Nat) (cx : Cx X cc nL own G fr lo ret) {x : Int32} {off : Int} {tgt : Nat} (hd : decode cc pc = .ok (.ifCond .ne off, 3)) (ht : (pc : Int) + off = (tgt : Int)) (hc : ¬ x = 0) (k : KJ X Q G A nL tgt lv st ws) : KJ X Q G A nL pc lv (.int x :: st) ws := by
  obtain ⟨p, l, e, R, s, m, args, below, meth, c, kc, ks⟩ := X
  obtain ⟨hx, hb, hml, hown, hts, hK, hlk, hr, hfr, hlo, hkc, hks⟩ := cx
  exact fun H locs ls hP hD hS hl => lv_if_ne hx hb hd ht (fun _ => k H locs ls hP hD hS hl) (fun h => absurd hc (by simpa using h))
theorem k_if_ne_F (pc : Nat) (cx : Cx X cc nL own G fr lo ret) {x : Int32} {off : Int} {tgt : Nat} (hd : decode cc pc = .ok (.ifCond .ne off, 3)) (ht : (pc : Int) + off = (tgt : Int)) (hc : x = 0) (k : KJ X Q G A nL (pc + 3) lv st ws) : KJ X Q G A nL pc lv (.int x :: st) ws := by
  obtain ⟨p, l, e, R, s, m, args, below, meth, c, kc, ks⟩ := X
  obtain ⟨hx, hb, hml, hown, hts, hK, hlk, hr, hfr, hlo, hkc, hks⟩ := cx
  exact fun H locs ls hP hD hS hl => lv_if_ne hx hb hd ht (fun h => absurd hc (by simpa using h)) (fun _ => k H locs ls hP hD hS hl)
theorem k_icmp_ne {β : Type} (pc : Nat) (cx : Cx X cc nL own G fr lo ret) {x y : Int32} {off : Int} {tgt : Nat} {inst : Decidable (x = y)} {a b : Option β} {z : Option β} (hd : decode cc pc = .ok (.if_icmp .ne off, 3)) (ht : (pc : Int) + off = (tgt : Int)) (hm : @ite _ (x = y) inst a b = z) (kf : x = y → a = z → KJ X Q G A nL (pc + 3) lv st ws) (kt : ¬ x = y → b = z → KJ X Q G A nL tgt lv st ws) : KJ X Q G A nL pc lv (.int y :: .int x :: st) ws := by
  obtain ⟨p, l, e, R, s, m, args, below, meth, c, kc, ks⟩ := X
  obtain ⟨hx, hb, hml, hown, hts, hK, hlk, hr, hfr, hlo, hkc, hks⟩ := cx
  exact fun H locs ls hP hD hS hl => lv_icmp_ne hx hb hd ht (fun h => kt h ((if_neg h).symm.trans hm) H locs ls hP hD hS hl) (fun h => kf h ((if_pos h).symm.trans hm) H locs ls hP hD hS hl)
theorem k_icmp_ne_T (pc : Nat) (cx : Cx X cc nL own G fr lo ret) {x y : Int32} {off : Int} {tgt : Nat} (hd : decode cc pc = .ok (.if_icmp .ne off, 3)) (ht : (pc : Int) + off = (tgt : Int)) (hc : ¬ x = y) (k : KJ X Q G A nL tgt lv st ws) : KJ X Q G A nL pc lv (.int y :: .int x :: st) ws := by
  obtain ⟨p, l, e, R, s, m, args, below, meth, c, kc, ks⟩ := X
  obtain ⟨hx, hb, hml, hown, hts, hK, hlk, hr, hfr, hlo, hkc, hks⟩ := cx
  exact fun H locs ls hP hD hS hl => lv_icmp_ne hx hb hd ht (fun _ => k H locs ls hP hD hS hl) (fun h => absurd hc (by simpa using h))
theorem k_icmp_ne_F (pc : Nat) (cx : Cx X cc nL own G fr lo ret) {x y : Int32} {off : Int} {tgt : Nat} (hd : decode cc pc = .ok (.if_icmp .ne off, 3)) (ht : (pc : Int) + off = (tgt : Int)) (hc : x = y) (k : KJ X Q G A nL (pc + 3) lv st ws) : KJ X Q G A nL pc lv (.int y :: .int x :: st) ws := by
  obtain ⟨p, l, e, R, s, m, args, below, meth, c, kc, ks⟩ := X
  obtain ⟨hx, hb, hml, hown, hts, hK, hlk, hr, hfr, hlo, hkc, hks⟩ := cx
  exact fun H locs ls hP hD hS hl => lv_icmp_ne hx hb hd ht (fun h => absurd hc (by simpa using h)) (fun _ => k H locs ls hP hD hS hl)
theorem k_if_lt {β : Type} (pc : Nat) (cx : Cx X cc nL own G fr lo ret) {x : Int32} {off : Int} {tgt : Nat} {inst : Decidable (x < 0)} {a b : Option β} {z : Option β} (hd : decode cc pc = .ok (.ifCond .lt off, 3)) (ht : (pc : Int) + off = (tgt : Int)) (hm : @ite _ (x < 0) inst a b = z) (kt : x < 0 → a = z → KJ X Q G A nL tgt lv st ws) (kf : ¬ x < 0 → b = z → KJ X Q G A nL (pc + 3) lv st ws) : KJ X Q G A nL pc lv (.int x :: st) ws := by
  obtain ⟨p, l, e, R, s, m, args, below, meth, c, kc, ks⟩ := X
  obtain ⟨hx, hb, hml, hown, hts, hK, hlk, hr, hfr, hlo, hkc, hks⟩ := cx
  exact fun H locs ls hP hD hS hl => lv_if_lt hx hb hd ht (fun h => kt h ((if_pos h).symm.trans hm) H locs ls hP hD hS hl) (fun h => kf h ((if_neg h).symm.trans hm) H locs ls hP hD hS hl)
theorem k_if_lt_T (pc : Nat) (cx : Cx X cc nL own G fr lo ret) {x : Int32} {off : Int} {tgt : Nat} (hd : decode cc pc = .ok (.ifCond .lt off, 3)) (ht : (pc : Int) + off = (tgt : Int)) (hc : x < 0) (k : KJ X Q G A nL tgt lv st ws) : KJ X Q G A nL pc lv (.int x :: st) ws := by
  obtain ⟨p, l, e, R, s, m, args, below, meth, c, kc, ks⟩ := X
  obtain ⟨hx, hb, hml, hown, hts, hK, hlk, hr, hfr, hlo, hkc, hks⟩ := cx
  exact fun H locs ls hP hD hS hl => lv_if_lt hx hb hd ht (fun _ => k H locs ls hP hD hS hl) (fun h => absurd hc (by simpa using h))
theorem k_if_lt_F (pc : Nat) (cx : Cx X cc nL own G fr lo ret) {x : Int32} {off : Int} {tgt : Nat} (hd : decode cc pc = .ok (.ifCond .lt off, 3)) (ht : (pc : Int) + off = (tgt : Int)) (hc : ¬ x < 0) (k : KJ X Q G A nL (pc + 3) lv st ws) : KJ X Q G A nL pc lv (.int x :: st) ws := by
  obtain ⟨p, l, e, R, s, m, args, below, meth, c, kc, ks⟩ := X
  obtain ⟨hx, hb, hml, hown, hts, hK, hlk, hr, hfr, hlo, hkc, hks⟩ := cx
  exact fun H locs ls hP hD hS hl => lv_if_lt hx hb hd ht (fun h => absurd hc (by simpa using h)) (fun _ => k H locs ls hP hD hS hl)
theorem k_icmp_lt {β : Type} (pc : Nat) (cx : Cx X cc nL own G fr lo ret) {x y : Int32} {off : Int} {tgt : Nat} {inst : Decidable (x < y)} {a b : Option β} {z : Option β} (hd : decode cc pc = .ok (.if_icmp .lt off, 3)) (ht : (pc : Int) + off = (tgt : Int)) (hm : @ite _ (x < y) inst a b = z) (kt : x < y → a = z → KJ X Q G A nL tgt lv st ws) (kf : ¬ x < y → b = z → KJ X Q G A nL (pc + 3) lv st ws) : KJ X Q G A nL pc lv (.int y :: .int x :: st) ws := by
  obtain ⟨p, l, e, R, s, m, args, below, meth, c, kc, ks⟩ := X
  obtain ⟨hx, hb, hml, hown, hts, hK, hlk, hr, hfr, hlo, hkc, hks⟩ := cx
  exact fun H locs ls hP hD hS hl => lv_icmp_lt hx hb hd ht (fun h => kt h ((if_pos h).symm.trans hm) H locs ls hP hD hS hl) (fun h => kf h ((if_neg h).symm.trans hm) H locs ls hP hD hS hl)
theorem k_icmp_lt_T (pc : Nat) (cx : Cx X cc nL own G fr lo ret) {x y : Int32} {off : Int} {tgt : Nat} (hd : decode cc pc = .ok (.if_icmp .lt off, 3)) (ht : (pc : Int) + off = (tgt : Int)) (hc : x < y) (k : KJ X Q G A nL tgt lv st ws) : KJ X Q G A nL pc lv (.int y :: .int x :: st) ws := by
  obtain ⟨p, l, e, R, s, m, args, below, meth, c, kc, ks⟩ := X
  obtain ⟨hx, hb, hml, hown, hts, hK, hlk, hr, hfr, hlo, hkc, hks⟩ := cx
  exact fun H locs ls hP hD hS hl => lv_icmp_lt hx hb hd ht (fun _ => k H locs ls hP hD hS hl) (fun h => absurd hc (by simpa using h))
theorem k_icmp_lt_F (pc : Nat) (cx : Cx X cc nL own G fr lo ret) {x y : Int32} {off : Int} {tgt : Nat} (hd : decode cc pc = .ok (.if_icmp .lt off, 3)) (ht : (pc : Int) + off = (tgt : Int)) (hc : ¬ x < y) (k : KJ X Q G A nL (pc + 3) lv st ws) : KJ X Q G A nL pc lv (.int y :: .int x :: st) ws := by
  obtain ⟨p, l, e, R, s, m, args, below, meth, c, kc, ks⟩ := X
  obtain ⟨hx, hb, hml, hown, hts, hK, hlk, hr, hfr, hlo, hkc, hks⟩ := cx
  exact fun H locs ls hP hD hS hl => lv_icmp_lt hx hb hd ht (fun h => absurd hc (by simpa using h)) (fun _ => k H locs ls hP hD hS hl)
theorem k_if_ge {β : Type} (pc : Nat) (cx : Cx X cc nL own G fr lo ret) {x : Int32} {off : Int} {tgt : Nat} {inst : Decidable (0 ≤ x)} {a b : Option β} {z : Option β} (hd : decode cc pc = .ok (.ifCond .ge off, 3)) (ht : (pc : Int) + off = (tgt : Int)) (hm : @ite _ (0 ≤ x) inst a b = z) (kt : 0 ≤ x → a = z → KJ X Q G A nL tgt lv st ws) (kf : ¬ 0 ≤ x → b = z → KJ X Q G A nL (pc + 3) lv st ws) : KJ X Q G A nL pc lv (.int x :: st) ws := by
  obtain ⟨p, l, e, R, s, m, args, below, meth, c, kc, ks⟩ := X
  obtain ⟨hx, hb, hml, hown, hts, hK, hlk, hr, hfr, hlo, hkc, hks⟩ := cx
  exact fun H locs ls hP hD hS hl => lv_if_ge hx hb hd ht (fun h => kt h ((if_pos h).symm.trans hm) H locs ls hP hD hS hl) (fun h => kf h ((if_neg h).symm.trans hm) H locs ls hP hD hS hl)
theorem k_if_ge_T (pc : Nat) (cx : Cx X cc nL own G fr lo ret) {x : Int32} {off : Int} {tgt : Nat} (hd : decode cc pc = .ok (.ifCond .ge off, 3)) (ht : (pc : Int) + off = (tgt : Int)) (hc : 0 ≤ x) (k : KJ X Q G A nL tgt lv st ws) : KJ X Q G A nL pc lv (.int x :: st) ws := by
  obtain ⟨p, l, e, R, s, m, args, below, meth, c, kc, ks⟩ := X
  obtain ⟨hx, hb, hml, hown, hts, hK, hlk, hr, hfr, hlo, hkc, hks⟩ := cx
  exact fun H locs ls hP hD hS hl => lv_if_ge hx hb hd ht (fun _ => k H locs ls hP hD hS hl) (fun h => absurd hc (by simpa using h))
theorem k_if_ge_F (pc : Nat) (cx : Cx X cc nL own G fr lo ret) {x : Int32} {off : Int} {tgt : Nat} (hd : decode cc pc = .ok (.ifCond .ge off, 3)) (ht : (pc : Int) + off = (tgt : Int)) (hc : ¬ 0 ≤ x) (k : KJ X Q G A nL (pc + 3) lv st ws) : KJ X Q G A nL pc lv (.int x :: st) ws := by
  obtain ⟨p, l, e, R, s, m, args, below, meth, c, kc, ks⟩ := X
  obtain ⟨hx, hb, hml, hown, hts, hK, hlk, hr, hfr, hlo, hkc, hks⟩ := cx
  exact fun H locs ls hP hD hS hl => lv_if_ge hx hb hd ht (fun h => absurd hc (by simpa using h)) (fun _ => k H locs ls hP hD hS hl)
theorem k_icmp_ge {β : Type} (pc : Nat) (cx : Cx X cc nL own G fr lo ret) {x y : Int32} {off : Int} {tgt : Nat} {inst : Decidable (y ≤ x)} {a b : Option β} {z : Option β} (hd : decode cc pc = .ok (.if_icmp .ge off, 3)) (ht : (pc : Int) + off = (tgt : Int)) (hm : @ite _ (y ≤ x) inst a b = z) (kt : y ≤ x → a = z → KJ X Q G A nL tgt lv st ws) (kf : ¬ y ≤ x → b = z → KJ X Q G A nL (pc + 3) lv st ws) : KJ X Q G A nL pc lv (.int y :: .int x :: st) ws := by
  obtain ⟨p, l, e, R, s, m, args, below, meth, c, kc, ks⟩ := X
  obtain ⟨hx, hb, hml, hown, hts, hK, hlk, hr, hfr, hlo, hkc, hks⟩ := cx
  exact fun H locs ls hP hD hS hl => lv_icmp_ge hx hb hd ht (fun h => kt h ((if_pos h).symm.trans hm) H locs ls hP hD hS hl) (fun h => kf h ((if_neg h).symm.trans hm) H locs ls hP hD hS hl)
theorem k_icmp_ge_T (pc : Nat) (cx : Cx X cc nL own G fr lo ret) {x y : Int32} {off : Int} {tgt : Nat} (hd : decode cc pc = .ok (.if_icmp .ge off, 3)) (ht : (pc : Int) + off = (tgt : Int)) (hc : y ≤ x) (k : KJ X Q G A nL tgt lv st ws) : KJ X Q G A nL pc lv (.int y :: .int x :: st) ws := by
  obtain ⟨p, l, e, R, s, m, args, below, meth, c, kc, ks⟩ := X
  obtain ⟨hx, hb, hml, hown, hts, hK, hlk, hr, hfr, hlo, hkc, hks⟩ := cx
  exact fun H locs ls hP hD hS hl => lv_icmp_ge hx hb hd ht (fun _ => k H locs ls hP hD hS hl) (fun h => absurd hc (by simpa using h))
theorem k_icmp_ge_F (pc : Nat) (cx : Cx X cc nL own G fr lo ret) {x y : Int32} {off : Int} {tgt : Nat} (hd : decode cc pc = .ok (.if_icmp .ge off, 3)) (ht : (pc : Int) + off = (tgt : Int)) (hc : ¬ y ≤ x) (k : KJ X Q G A nL (pc + 3) lv st ws) : KJ X Q G A nL pc lv (.int y :: .int x :: st) ws := by
  obtain ⟨p, l, e, R, s, m, args, below, meth, c, kc, ks⟩ := X
  obtain ⟨hx, hb, hml, hown, hts, hK, hlk, hr, hfr, hlo, hkc, hks⟩ := cx
  exact fun H locs ls hP hD hS hl => lv_icmp_ge hx hb hd ht (fun h => absurd hc (by simpa using h)) (fun _ => k H locs ls hP hD hS hl)
theorem k_if_gt {β : Type} (pc : Nat) (cx : Cx X cc nL own G fr lo ret) {x : Int32} {off : Int} {tgt : Nat} {inst : Decidable (0 < x)} {a b : Option β} {z : Option β} (hd : decode cc pc = .ok (.ifCond .gt off, 3)) (ht : (pc : Int) + off = (tgt : Int)) (hm : @ite _ (0 < x) inst a b = z) (kt : 0 < x → a = z → KJ X Q G A nL tgt lv st ws) (kf : ¬ 0 < x → b = z → KJ X Q G A nL (pc + 3) lv st ws) : KJ X Q G A nL pc lv (.int x :: st) ws := by
  obtain ⟨p, l, e, R, s, m, args, below, meth, c, kc, ks⟩ := X
  obtain ⟨hx, hb, hml, hown, hts, hK, hlk, hr, hfr, hlo, hkc, hks⟩ := cx
  exact fun H locs ls hP hD hS hl => lv_if_gt hx hb hd ht (fun h => kt h ((if_pos h).symm.trans hm) H locs ls hP hD hS hl) (fun h => kf h ((if_neg h).symm.trans hm) H locs ls hP hD hS hl)
theorem k_if_gt_T (pc : Nat) (cx : Cx X cc nL own G fr lo ret) {x : Int32} {off : Int} {tgt : Nat} (hd : decode cc pc = .ok (.ifCond .gt off, 3)) (ht : (pc : Int) + off = (tgt : Int)) (hc : 0 < x) (k : KJ X Q G A nL tgt lv st ws) : KJ X Q G A nL pc lv (.int x :: st) ws := by
  obtain ⟨p, l, e, R, s, m, args, below, meth, c, kc, ks⟩ := X
  obtain ⟨hx, hb, hml, hown, hts, hK, hlk, hr, hfr, hlo, hkc, hks⟩ := cx
  exact fun H locs ls hP hD hS hl => lv_if_gt hx hb hd ht (fun _ => k H locs ls hP hD hS hl) (fun h => absurd hc (by simpa using h))
theorem k_if_gt_F (pc : Nat) (cx : Cx X cc nL own G fr lo ret) {x : Int32} {off : Int} {tgt : Nat} (hd : decode cc pc = .ok (.ifCond .gt off, 3)) (ht : (pc : Int) + off = (tgt : Int)) (hc : ¬ 0 < x) (k : KJ X Q G A nL (pc + 3) lv st ws) : KJ X Q G A nL pc lv (.int x :: st) ws := by
  obtain ⟨p, l, e, R, s, m, args, below, meth, c, kc, ks⟩ := X
  obtain ⟨hx, hb, hml, hown, hts, hK, hlk, hr, hfr, hlo, hkc, hks⟩ := cx
  exact fun H locs ls hP hD hS hl => lv_if_gt hx hb hd ht (fun h => absurd hc (by simpa using h)) (fun _ => k H locs ls hP hD hS hl)
theorem k_icmp_gt {β : Type} (pc : Nat) (cx : Cx X cc nL own G fr lo ret) {x y : Int32} {off : Int} {tgt : Nat} {inst : Decidable (y < x)} {a b : Option β} {z : Option β} (hd : decode cc pc = .ok (.if_icmp .gt off, 3)) (ht : (pc : Int) + off = (tgt : Int)) (hm : @ite _ (y < x) inst a b = z) (kt : y < x → a = z → KJ X Q G A nL tgt lv st ws) (kf : ¬ y < x → b = z → KJ X Q G A nL (pc + 3) lv st ws) : KJ X Q G A nL pc lv (.int y :: .int x :: st) ws := by
  obtain ⟨p, l, e, R, s, m, args, below, meth, c, kc, ks⟩ := X
  obtain ⟨hx, hb, hml, hown, hts, hK, hlk, hr, hfr, hlo, hkc, hks⟩ := cx
  exact fun H locs ls hP hD hS hl => lv_icmp_gt hx hb hd ht (fun h => kt h ((if_pos h).symm.trans hm) H locs ls hP hD hS hl) (fun h => kf h ((if_neg h).symm.trans hm) H locs ls hP hD hS hl)
theorem k_icmp_gt_T (pc : Nat) (cx : Cx X cc nL own G fr lo ret) {x y : Int32} {off : Int} {tgt : Nat} (hd : decode cc pc = .ok (.if_icmp .gt off, 3)) (ht : (pc : Int) + off = (tgt : Int)) (hc : y < x) (k : KJ X Q G A nL tgt lv st ws) : KJ X Q G A nL pc lv (.int y :: .int x :: st) ws := by
  obtain ⟨p, l, e, R, s, m, args, below, meth, c, kc, ks⟩ := X
  obtain ⟨hx, hb, hml, hown, hts, hK, hlk, hr, hfr, hlo, hkc, hks⟩ := cx
  exact fun H locs ls hP hD hS hl => lv_icmp_gt hx hb hd ht (fun _ => k H locs ls hP hD hS hl) (fun h => absurd hc (by simpa using h))
theorem k_icmp_gt_F (pc : Nat) (cx : Cx X cc nL own G fr lo ret) {x y : Int32} {off : Int} {tgt : Nat} (hd : decode cc pc = .ok (.if_icmp .gt off, 3)) (ht : (pc : Int) + off = (tgt : Int)) (hc : ¬ y < x) (k : KJ X Q G A nL (pc + 3) lv st ws) : KJ X Q G A nL pc lv (.int y :: .int x :: st) ws := by
  obtain ⟨p, l, e, R, s, m, args, below, meth, c, kc, ks⟩ := X
  obtain ⟨hx, hb, hml, hown, hts, hK, hlk, hr, hfr, hlo, hkc, hks⟩ := cx
  exact fun H locs ls hP hD hS hl => lv_icmp_gt hx hb hd ht (fun h => absurd hc (by simpa using h)) (fun _ => k H locs ls hP hD hS hl)
theorem k_if_le {β : Type} (pc : Nat) (cx : Cx X cc nL own G fr lo ret) {x : Int32} {off : Int} {tgt : Nat} {inst : Decidable (x ≤ 0)} {a b : Option β} {z : Option β} (hd : decode cc pc = .ok (.ifCond .le off, 3)) (ht : (pc : Int) + off = (tgt : Int)) (hm : @ite _ (x ≤ 0) inst a b = z) (kt : x ≤ 0 → a = z → KJ X Q G A nL tgt lv st ws) (kf : ¬ x ≤ 0 → b = z → KJ X Q G A nL (pc + 3) lv st ws) : KJ X Q G A nL pc lv (.int x :: st) ws := by
  obtain ⟨p, l, e, R, s, m, args, below, meth, c, kc, ks⟩ := X
  obtain ⟨hx, hb, hml, hown, hts, hK, hlk, hr, hfr, hlo, hkc, hks⟩ := cx
  exact fun H locs ls hP hD hS hl => lv_if_le hx hb hd ht (fun h => kt h ((if_pos h).symm.trans hm) H locs ls hP hD hS hl) (fun h => kf h ((if_neg h).symm.trans hm) H locs ls hP hD hS hl)
theorem k_if_le_T (pc : Nat) (cx : Cx X cc nL own G fr lo ret) {x : Int32} {off : Int} {tgt : Nat} (hd : decode cc pc = .ok (.ifCond .le off, 3)) (ht : (pc : Int) + off = (tgt : Int)) (hc : x ≤ 0) (k : KJ X Q G A nL tgt lv st ws) : KJ X Q G A nL pc lv (.int x :: st) ws := by
  obtain ⟨p, l, e, R, s, m, args, below, meth, c, kc, ks⟩ := X
  obtain ⟨hx, hb, hml, hown, hts, hK, hlk, hr, hfr, hlo, hkc, hks⟩ := cx
  exact fun H locs ls hP hD hS hl => lv_if_le hx hb hd ht (fun _ => k H locs ls hP hD hS hl) (fun h => absurd hc (by simpa using h))
theorem k_if_le_F (pc : Nat) (cx : Cx X cc nL own G fr lo ret) {x : Int32} {off : Int} {tgt : Nat} (hd : decode cc pc = .ok (.ifCond .le off, 3)) (ht : (pc : Int) + off = (tgt : Int)) (hc : ¬ x ≤ 0) (k : KJ X Q G A nL (pc + 3) lv st ws) : KJ X Q G A nL pc lv (.int x :: st) ws := by
  obtain ⟨p, l, e, R, s, m, args, below, meth, c, kc, ks⟩ := X
  obtain ⟨hx, hb, hml, hown, hts, hK, hlk, hr, hfr, hlo, hkc, hks⟩ := cx
  exact fun H locs ls hP hD hS hl => lv_if_le hx hb hd ht (fun h => absurd hc (by simpa using h)) (fun _ => k H locs ls hP hD hS hl)
theorem k_icmp_le {β : Type} (pc : Nat) (cx : Cx X cc nL own G fr lo ret) {x y : Int32} {off : Int} {tgt : Nat} {inst : Decidable (x ≤ y)} {a b : Option β} {z : Option β} (hd : decode cc pc = .ok (.if_icmp .le off, 3)) (ht : (pc : Int) + off = (tgt : Int)) (hm : @ite _ (x ≤ y) inst a b = z) (kt : x ≤ y → a = z → KJ X Q G A nL tgt lv st ws) (kf : ¬ x ≤ y → b = z → KJ X Q G A nL (pc + 3) lv st ws) : KJ X Q G A nL pc lv (.int y :: .int x :: st) ws := by
  obtain ⟨p, l, e, R, s, m, args, below, meth, c, kc, ks⟩ := X
  obtain ⟨hx, hb, hml, hown, hts, hK, hlk, hr, hfr, hlo, hkc, hks⟩ := cx
  exact fun H locs ls hP hD hS hl => lv_icmp_le hx hb hd ht (fun h => kt h ((if_pos h).symm.trans hm) H locs ls hP hD hS hl) (fun h => kf h ((if_neg h).symm.trans hm) H locs ls hP hD hS hl)
theorem k_icmp_le_T (pc : Nat) (cx : Cx X cc nL own G fr lo ret) {x y : Int32} {off : Int} {tgt : Nat} (hd : decode cc pc = .ok (.if_icmp .le off, 3)) (ht : (pc : Int) + off = (tgt : Int)) (hc : x ≤ y) (k : KJ X Q G A nL tgt lv st ws) : KJ X Q G A nL pc lv (.int y :: .int x :: st) ws := by
  obtain ⟨p, l, e, R, s, m, args, below, meth, c, kc, ks⟩ := X
  obtain ⟨hx, hb, hml, hown, hts, hK, hlk, hr, hfr, hlo, hkc, hks⟩ := cx
  exact fun H locs ls hP hD hS hl => lv_icmp_le hx hb hd ht (fun _ => k H locs ls hP hD hS hl) (fun h => absurd hc (by simpa using h))
theorem k_icmp_le_F (pc : Nat) (cx : Cx X cc nL own G fr lo ret) {x y : Int32} {off : Int} {tgt : Nat} (hd : decode cc pc = .ok (.if_icmp .le off, 3)) (ht : (pc : Int) + off = (tgt : Int)) (hc : ¬ x ≤ y) (k : KJ X Q G A nL (pc + 3) lv st ws) : KJ X Q G A nL pc lv (.int y :: .int x :: st) ws := by
  obtain ⟨p, l, e, R, s, m, args, below, meth, c, kc, ks⟩ := X
  obtain ⟨hx, hb, hml, hown, hts, hK, hlk, hr, hfr, hlo, hkc, hks⟩ := cx
  exact fun H locs ls hP hD hS hl => lv_icmp_le hx hb hd ht (fun h => absurd hc (by simpa using h)) (fun _ => k H locs ls hP hD hS hl)
theorem k_tabIn (pc : Nat) (cx : Cx X cc nL own G fr lo ret) {dflt lo' hi' : Int} {offs : Array Int} {len : Nat} {x : Int32} {off : Int} {tgt : Nat} (v : Int32) (hc : x = v) (hd : decode cc pc = .ok (.tableswitch dflt lo' hi' offs, len)) (h1 : ¬ v.toInt < lo' ∧ ¬ hi' < v.toInt ∧ offs[(v.toInt - lo').toNat]? = some off ∧ (pc : Int) + off = (tgt : Int)) (k : KJ X Q G A nL tgt lv st ws) : KJ X Q G A nL pc lv (.int x :: st) ws := by
  obtain ⟨p, l, e, R, s, m, args, below, meth, c, kc, ks⟩ := X
  obtain ⟨hx, hb, hml, hown, hts, hK, hlk, hr, hfr, hlo, hkc, hks⟩ := cx
  subst hc
  exact fun H locs ls hP hD hS hl => lv_tableIn hx hb hd h1.1 h1.2.1 h1.2.2.1 h1.2.2.2 (k H locs ls hP hD hS hl)
theorem k_tabOut (pc : Nat) (cx : Cx X cc nL own G fr lo ret) {dflt lo' hi' : Int} {offs : Array Int} {len : Nat} {x : Int32} {tgt : Nat} (hd : decode cc pc = .ok (.tableswitch dflt lo' hi' offs, len)) (h1 : x.toInt < lo' ∨ hi' < x.toInt) (ht : (pc : Int) + dflt = (tgt : Int)) (k : KJ X Q G A nL tgt lv st ws) : KJ X Q G A nL pc lv (.int x :: st) ws := by
  obtain ⟨p, l, e, R, s, m, args, below, meth, c, kc, ks⟩ := X
  obtain ⟨hx, hb, hml, hown, hts, hK, hlk, hr, hfr, hlo, hkc, hks⟩ := cx
  exact fun H locs ls hP hD hS hl => lv_tableOut hx hb hd h1 ht (k H locs ls hP hD hS hl)
theorem k_lookup (pc : Nat) (cx : Cx X cc nL own G fr lo ret) {dflt : Int} {ps : Array (Int × Int)} {len : Nat} {x : Int32} {off : Int} {tgt : Nat} (hd : decode cc pc = .ok (.lookupswitch dflt ps, len)) (hp : (ps.toList.zip (ps.toList.drop 1)).all (fun (a, next) => a.1 < next.1) = true) (ho : Op.lookupswitch.offset ps.toList dflt x.toInt = off) (ht : (pc : Int) + off = (tgt : Int)) (k : KJ X Q G A nL tgt lv st ws) : KJ X Q G A nL pc lv (.int x :: st) ws := by
  obtain ⟨p, l, e, R, s, m, args, below, meth, c, kc, ks⟩ := X
  obtain ⟨hx, hb, hml, hown, hts, hK, hlk, hr, hfr, hlo, hkc, hks⟩ := cx
  exact fun H locs ls hP hD hS hl => lv_lookup hx hb hd hp ho ht (k H locs ls hP hD hS hl)
theorem k_iald {β : Type} (pc : Nat) (cx : Cx X cc nL own G fr lo ret) {a n : Nat} {f : Nat → Int32} {i : Int32} {b : Option β} {z : β} (hd : decode cc pc = .ok (.iaload, 1)) (q0 : Nat) (he : ws[q0]? = some (a, .inl (G.2.1, n, .inl f))) (hm : gB (inb i n) b = some z) (k : b = some z → KJ X Q G A nL (pc + 1) lv (.int (f i.toNatClampNeg) :: st) ws) : KJ X Q G A nL pc lv (.int i :: .ref a :: st) ws := by
  obtain ⟨p, l, e, R, s, m, args, below, meth, c, kc, ks⟩ := X
  obtain ⟨hx, hb, hml, hown, hts, hK, hlk, hr, hfr, hlo, hkc, hks⟩ := cx
  exact fun H locs ls hP hD hS hl => va_iald hx hb hK hP q0 0 he rfl (inb_in (gB_s hm).1) hd (k (gB_s hm).2 H locs ls hP hD hS hl)
theorem k_zald {β : Type} (pc : Nat) (cx : Cx X cc nL own G fr lo ret) {a n : Nat} {f : Nat → Int32} {i : Int32} {b : Option β} {z : β} (hd : decode cc pc = .ok (.baload, 1)) (q0 : Nat) (he : ws[q0]? = some (a, .inl (G.2.2.1, n, .inl f))) (hm : gB (inb i n) b = some z) (k : b = some z → KJ X Q G A nL (pc + 1) lv (.int (f i.toNatClampNeg) :: st) ws) : KJ X Q G A nL pc lv (.int i :: .ref a :: st) ws := by
  obtain ⟨p, l, e, R, s, m, args, below, meth, c, kc, ks⟩ := X
  obtain ⟨hx, hb, hml, hown, hts, hK, hlk, hr, hfr, hlo, hkc, hks⟩ := cx
  exact fun H locs ls hP hD hS hl => va_zald hx hb hK hP q0 1 he rfl (inb_in (gB_s hm).1) hd (k (gB_s hm).2 H locs ls hP hD hS hl)
theorem k_iast {β : Type} (pc : Nat) (cx : Cx X cc nL own G fr lo ret) {a n : Nat} {f : Nat → Int32} {i x : Int32} {b : (Nat → Int32) → Option β} {z : β} (hd : decode cc pc = .ok (.iastore, 1)) (q0 : Nat) (he : ws[q0]? = some (a, .inl (G.2.1, n, .inl f))) (wf : (Nat → Int32) → va_W) (hw : ∀ g, ws.set q0 (a, .inl (G.2.1, n, .inl g)) = wf g) (hm : gB (inb i n) (nme (upd f i.toNatClampNeg (x)) b) = some z) (k : ∀ g : Nat → Int32, b g = some z → KJ X Q G A nL (pc + 1) lv st (wf g)) : KJ X Q G A nL pc lv (.int x :: .int i :: .ref a :: st) ws := by
  obtain ⟨p, l, e, R, s, m, args, below, meth, c, kc, ks⟩ := X
  obtain ⟨hx, hb, hml, hown, hts, hK, hlk, hr, hfr, hlo, hkc, hks⟩ := cx
  exact fun H locs ls hP hD hS hl => va_iast hx hb hK hP hD hS q0 0 he rfl (inb_in (gB_s hm).1) hd (fun H1 locs1 hP1 hD1 hS1 => k _ (gB_s hm).2 H1 locs1 ls (by rw [← hw]; exact hP1) (by rw [← hw]; exact hD1) hS1 hl)
theorem k_zast {β : Type} (pc : Nat) (cx : Cx X cc nL own G fr lo ret) {a n : Nat} {f : Nat → Int32} {i x : Int32} {b : (Nat → Int32) → Option β} {z : β} (hd : decode cc pc = .ok (.bastore, 1)) (q0 : Nat) (he : ws[q0]? = some (a, .inl (G.2.2.1, n, .inl f))) (wf : (Nat → Int32) → va_W) (hw : ∀ g, ws.set q0 (a, .inl (G.2.2.1, n, .inl g)) = wf g) (hm : gB (inb i n) (nme (upd f i.toNatClampNeg (vp_nar .boolean x)) b) = some z) (k : ∀ g : Nat → Int32, b g = some z → KJ X Q G A nL (pc + 1) lv st (wf g)) : KJ X Q G A nL pc lv (.int x :: .int i :: .ref a :: st) ws := by
  obtain ⟨p, l, e, R, s, m, args, below, meth, c, kc, ks⟩ := X
  obtain ⟨hx, hb, hml, hown, hts, hK, hlk, hr, hfr, hlo, hkc, hks⟩ := cx
  exact fun H locs ls hP hD hS hl => va_zast hx hb hK hP hD hS q0 1 he rfl (inb_in (gB_s hm).1) hd (fun H1 locs1 hP1 hD1 hS1 => k _ (gB_s hm).2 H1 locs1 ls (by rw [← hw]; exact hP1) (by rw [← hw]; exact hD1) hS1 hl)
theorem k_alen (pc : Nat) (cx : Cx X cc nL own G fr lo ret) {a n : Nat} {f : Nat → Int32} (hd : decode cc pc = .ok (.arraylength, 1)) (q0 : Nat) (he : ws[q0]? = some (a, .inl (G.2.1, n, .inl f))) (k : KJ X Q G A nL (pc + 1) lv (.int (Int32.ofNat n) :: st) ws) : KJ X Q G A nL pc lv (.ref a :: st) ws := by
  obtain ⟨p, l, e, R, s, m, args, below, meth, c, kc, ks⟩ := X
  obtain ⟨hx, hb, hml, hown, hts, hK, hlk, hr, hfr, hlo, hkc, hks⟩ := cx
  exact fun H locs ls hP hD hS hl => va_alen hx hb hK hP q0 0 he rfl rfl hd (k H locs ls hP hD hS hl)
theorem k_aald {β : Type} (pc : Nat) (cx : Cx X cc nL own G fr lo ret) {a n : Nat} {sa : Nat → Nat} {i : Int32} {b : Option β} {z : β} (kk : Nat) (hd : decode cc pc = .ok (.aaload, 1)) (q0 : Nat) (he : ws[q0]? = some (a, .inl (G.2.2.2, n, .inr (.inr (.inr (.inr (fun j => some (sa j)))))))) (hm : gB (inb i n) b = some z) (hk : inb i n = true → i.toNatClampNeg = kk) (k : b = some z → KJ X Q G A nL (pc + 1) lv (.ref (sa kk) :: st) ws) : KJ X Q G A nL pc lv (.int i :: .ref a :: st) ws := by
  obtain ⟨p, l, e, R, s, m, args, below, meth, c, kc, ks⟩ := X
  obtain ⟨hx, hb, hml, hown, hts, hK, hlk, hr, hfr, hlo, hkc, hks⟩ := cx
  have e1 : va_rf (some (sa i.toNatClampNeg)) = .ref (sa kk) := by rw [hk (gB_s hm).1]; rfl
  exact fun H locs ls hP hD hS hl => va_aldq hx hb hK hP q0 2 he rfl (inb_in (gB_s hm).1) hd (by rw [e1]; exact k (gB_s hm).2 H locs ls hP hD hS hl)
theorem k_get (pc : Nat) (cx : Cx X cc nL own G fr lo ret) {ref C : String} {T : u_T} {N ci index : Nat} {a : Nat} {fs : List Value} {v : Value} (hin : ∀ w ∈ u_ws C T N, w ∈ TB) (hc : vwCl[ci]? = some (C, T, N)) (f : Nat) (hf : f < N) (hfl : Cond.fieldLink own index ref (T f).2.1 (T f).2.2.1 ∈ TB) (hs : (T f).1 = ref) (hd : decode cc pc = .ok (.getfield index, 3)) (q0 : Nat) (he : ws[q0]? = some (a, .inr (ci, fs))) (hv : fs[f]? = some v) (k : KJ X Q G A nL (pc + 3) lv (v :: st) ws) : KJ X Q G A nL pc lv (.ref a :: st) ws := by
  obtain ⟨p, l, e, R, s, m, args, below, meth, c, kc, ks⟩ := X
  obtain ⟨hx, hb, hml, hown, hts, hK, hlk, hr, hfr, hlo, hkc, hks⟩ := cx
  exact fun H locs ls hP hD hS hl => va_get hx hb hts hin hown hK hP q0 he hc f hf (hts _ hfl) (fun x h => by rw [← hs]; exact h) hv hd (k H locs ls hP hD hS hl)
theorem k_put (pc : Nat) (cx : Cx X cc nL own G fr lo ret) {ref C : String} {T : u_T} {N ci index : Nat} {a : Nat} {fs : List Value} {v : Value} (hin : ∀ w ∈ u_ws C T N, w ∈ TB) (hc : vwCl[ci]? = some (C, T, N)) (ty0 : Nat → FieldType) (hty : ∀ k, k < N → parseFieldDescriptor (T k).2.2.1 = some (ty0 k)) (hnm : ∀ a, a < N → ∀ b, b < N → a ≠ b → (T a).2.1 ≠ (T b).2.1) (f : Nat) (hf : f < N) (hfl : Cond.fieldLink own index ref (T f).2.1 (T f).2.2.1 ∈ TB) (hs : (T f).1 = ref) (hfin : (T f).2.2.2 = false) {ty : FieldType} (hpd : parseFieldDescriptor (T f).2.2.1 = some ty) (hd : decode cc pc = .ok (.putfield index, 3)) (q0 : Nat) (he : ws[q0]? = some (a, .inr (ci, fs))) (hn : narrow ty v = v) (hfit : fits ty v = true) (hlen : f < fs.length) (w1 : va_W) (hw : ws.set q0 (a, .inr (ci, fs.set f v)) = w1) (k : KJ X Q G A nL (pc + 3) lv st w1) : KJ X Q G A nL pc lv (v :: .ref a :: st) ws := by
  obtain ⟨p, l, e, R, s, m, args, below, meth, c, kc, ks⟩ := X
  obtain ⟨hx, hb, hml, hown, hts, hK, hlk, hr, hfr, hlo, hkc, hks⟩ := cx
  subst hw
  exact fun H locs ls hP hD hS hl => va_put hx hb hts hin ty0 hty hnm hown hK hP hD hS q0 he hc f hf (hts _ hfl) (fun x h => by rw [← hs]; exact h) hfin hpd hn hfit hlen hd (fun H1 locs1 hP1 hD1 hS1 => k H1 locs1 ls hP1 hD1 hS1 hl)
theorem k_iret (pc : Nat) {w w' : va_W} {o : Option Value} {x : Int32} (cx : Cx X cc nL own G fr lo (some .int)) (hd : decode cc pc = .ok (.ireturn, 1)) (ho : o = some (.int x)) (hw : ws = w') : KJ X (QR X G w o w') G (aIn w) nL pc lv [.int x] ws := by
  obtain ⟨p, l, e, R, s, m, args, below, meth, c, kc, ks⟩ := X
  obtain ⟨hx, hb, hml, hown, hts, hK, hlk, hr, hfr, hlo, hkc, hks⟩ := cx
  subst hw; subst ho
  exact fun H locs ls hP hD hS hl => W.iret hx hb hr (fun t ht hW => ⟨rfl, by rw [ht]; exact hP, hS.F ht⟩) hS.2.2 hd hlk
theorem k_lret (pc : Nat) {w w' : va_W} {o : Option Value} {x : Int64} (cx : Cx X cc nL own G fr lo (some .long)) (hd : decode cc pc = .ok (.lreturn, 1)) (ho : o = some (.long x)) (hw : ws = w') : KJ X (QR X G w o w') G (aIn w) nL pc lv [.long x] ws := by
  obtain ⟨p, l, e, R, s, m, args, below, meth, c, kc, ks⟩ := X
  obtain ⟨hx, hb, hml, hown, hts, hK, hlk, hr, hfr, hlo, hkc, hks⟩ := cx
  subst hw; subst ho
  exact fun H locs ls hP hD hS hl => W.lret hx hb hr (fun t ht hW => ⟨rfl, by rw [ht]; exact hP, hS.F ht⟩) hS.2.2 hd hlk
theorem k_zret (pc : Nat) {w w' : va_W} {o : Option Value} {x : Int32} (cx : Cx X cc nL own G fr lo (some .boolean)) (hd : decode cc pc = .ok (.ireturn, 1)) (hx01 : x = 0 ∨ x = 1) (ho : o = some (.int x)) (hw : ws = w') : KJ X (QR X G w o w') G (aIn w) nL pc lv [.int x] ws := by
  obtain ⟨p, l, e, R, s, m, args, below, meth, c, kc, ks⟩ := X
  obtain ⟨hx, hb, hml, hown, hts, hK, hlk, hr, hfr, hlo, hkc, hks⟩ := cx
  subst hw; subst ho
  exact fun H locs ls hP hD hS hl => W.zret hx hb hr (by rcases hx01 with rfl | rfl <;> decide) (fun t ht hW => ⟨rfl, by rw [ht]; exact hP, hS.F ht⟩) hS.2.2 hd hlk
theorem k_aret (pc : Nat) {w w' : va_W} {o : Option Value} {a : Nat} {C : String} (cx : Cx X cc nL own G fr lo (some (.object C))) (hd : decode cc pc = .ok (.areturn, 1)) (ho : o = some (.ref a)) (hw : ws = w') : KJ X (QR X G w o w') G (aIn w) nL pc lv [.ref a] ws := by
  obtain ⟨p, l, e, R, s, m, args, below, meth, c, kc, ks⟩ := X
  obtain ⟨hx, hb, hml, hown, hts, hK, hlk, hr, hfr, hlo, hkc, hks⟩ := cx
  subst hw; subst ho
  exact fun H locs ls hP hD hS hl => W.aret hx hb hr (Or.inl ⟨C, rfl⟩) (Or.inr ⟨a, rfl⟩) (fun t ht hW => ⟨rfl, by rw [ht]; exact hP, hS.F ht⟩) hS.2.2 hd hlk
theorem k_vret (pc : Nat) {w w' : va_W} {o : Option Value} (cx : Cx X cc nL own G fr lo none) (hd : decode cc pc = .ok (.return_, 1)) (ho : o = none) (hw : ws = w') : KJ X (QR X G w o w') G (aIn w) nL pc lv [] ws := by
  obtain ⟨p, l, e, R, s, m, args, below, meth, c, kc, ks⟩ := X
  obtain ⟨hx, hb, hml, hown, hts, hK, hlk, hr, hfr, hlo, hkc, hks⟩ := cx
  subst hw; subst ho
  exact fun H locs ls hP hD hS hl => W.vret hx hb hr (fun t ht hW => ⟨rfl, by rw [ht]; exact hP, hS.F ht⟩) hS.2.2 hd hlk
end KJ
