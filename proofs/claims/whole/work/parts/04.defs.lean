/-! THE PURE PICTURE. A value: (0, x) an int, (1, x) a long, (2, x) a reference (null below 0; from 1000000 on a String constant).
A state: ((cells, slots) made so far, the shape of each cell (kind, length), references, numbers). Kinds: 1 int[], 2 byte[], 3 long[], 4 State[], 10 + c an object of class c. -/
abbrev PV : Type := Nat × Int
abbrev St : Type := (Nat × Nat) × (Nat → Nat × Nat) × (Nat → Nat → Int) × (Nat → Nat → Int)
/-- base, classes and slots, array classes by kind, the heap at the law's start, places of String constants (from 1000 on of their bytes, at 2000 of the script) and their bytes, the script's length and ints -/
abbrev Gx : Type := Nat × va_G × (Nat → ClassId) × Heap × (Nat → Nat) × (Nat → Nat) × Nat × (Nat → Int)
abbrev MI : Type := MethodName × ByteArray × Nat × Option FieldType × Nat × Nat
def STRS : List (String × Nat × String × List Nat) := [("SeanceStreet$Reader", 207, "town", [116, 111, 119, 110]), ("SeanceStreet$Reader", 91, "houses", [104, 111, 117, 115, 101, 115]), ("SeanceStreet$Reader", 100, "lips", [108, 105, 112, 115]), ("SeanceStreet$Reader", 209, "person", [112, 101, 114, 115, 111, 110]), ("SeanceStreet$Reader", 211, "dead", [100, 101, 97, 100]), ("SeanceStreet$Reader", 212, "mirror", [109, 105, 114, 114, 111, 114]), ("SeanceStreet$Reader", 213, "unsure", [117, 110, 115, 117, 114, 101]), ("SeanceStreet$Reader", 214, "heard", [104, 101, 97, 114, 100]), ("SeanceStreet$Reader", 111, "house", [104, 111, 117, 115, 101]), ("SeanceStreet$Reader", 199, "late", [108, 97, 116, 101]), ("SeanceStreet$Reader", 201, "early", [101, 97, 114, 108, 121]), ("SeanceStreet$Reader", 203, "drift", [100, 114, 105, 102, 116]), ("SeanceStreet$Reader", 205, "swing", [115, 119, 105, 110, 103]), ("SeanceStreet$Reader", 136, "slip", [115, 108, 105, 112]), ("SeanceStreet$Reader", 138, "for", [102, 111, 114]), ("SeanceStreet$Reader", 170, "night", [110, 105, 103, 104, 116]), ("SeanceStreet", 362, "no such dead is led astray", [110, 111, 32, 115, 117, 99, 104, 32, 100, 101, 97, 100, 32, 105, 115, 32, 108, 101, 100, 32, 97, 115, 116, 114, 97, 121]), ("SeanceStreetModel", 143, "town", [116, 111, 119, 110]), ("SeanceStreetModel", 214, "houses", [104, 111, 117, 115, 101, 115]), ("SeanceStreetModel", 219, "lips", [108, 105, 112, 115]), ("SeanceStreetModel", 145, "person", [112, 101, 114, 115, 111, 110]), ("SeanceStreetModel", 147, "dead", [100, 101, 97, 100]), ("SeanceStreetModel", 149, "mirror", [109, 105, 114, 114, 111, 114]), ("SeanceStreetModel", 151, "unsure", [117, 110, 115, 117, 114, 101]), ("SeanceStreetModel", 153, "heard", [104, 101, 97, 114, 100]), ("SeanceStreetModel", 231, "house", [104, 111, 117, 115, 101]), ("SeanceStreetModel", 243, "late", [108, 97, 116, 101]), ("SeanceStreetModel", 245, "early", [101, 97, 114, 108, 121]), ("SeanceStreetModel", 247, "drift", [100, 114, 105, 102, 116]), ("SeanceStreetModel", 249, "swing", [115, 119, 105, 110, 103]), ("SeanceStreetModel", 251, "slip", [115, 108, 105, 112]), ("SeanceStreetModel", 253, "for", [102, 111, 114]), ("SeanceStreetModel", 282, "night", [110, 105, 103, 104, 116])]
def NW : List Cond := lw_tbl.filter (fun w => match w with | .fieldLinkNest .. => true | .methodLinkNest .. => true | _ => false)
def mkR (G : Gx) (x : Int) : Value := if x < 0 then .null else if x < 1000000 then .ref (G.1 + x.toNat) else .ref (G.2.2.2.2.1 (x - 1000000).toNat)
def mv (G : Gx) (v : PV) : Value := match v.1 with
  | 0 => .int (Int32.ofInt v.2)
  | 1 => .long (Int64.ofInt v.2)
  | _ => mkR G v.2
def ok32 (x : Int) : Prop := -2147483648 ≤ x ∧ x ≤ 2147483647
def ok64 (x : Int) : Prop := -9223372036854775808 ≤ x ∧ x ≤ 9223372036854775807
def ok8 (x : Int) : Prop := -128 ≤ x ∧ x ≤ 127
def okv (v : PV) : Prop := match v.1 with
  | 0 => ok32 v.2
  | 1 => ok64 v.2
  | _ => True
theorem i32 {x : Int} (h : ok32 x) : (Int32.ofInt x).toInt = x := by
  unfold ok32 at h
  exact Int32.toInt_ofInt_of_le (by omega) (by omega)
theorem i64 {x : Int} (h : ok64 x) : (Int64.ofInt x).toInt = x := by
  unfold ok64 at h
  exact Int64.toInt_ofInt_of_le (by omega) (by omega)
theorem ok_i32 (x : Int32) : ok32 x.toInt := by
  have h1 := x.le_toInt
  have h2 := x.toInt_lt
  unfold ok32
  omega
theorem ok_i64 (x : Int64) : ok64 x.toInt := by
  have h1 := x.le_toInt
  have h2 := x.toInt_lt
  unfold ok64
  omega
def ft (ci k : Nat) : Nat := match tyCl ci k with
  | .int => 0
  | .long => 1
  | _ => 2
/-- what a field of an object holds, out of the rows of references and of numbers -/
def fp (ci : Nat) (r n : Nat → Int) (k : Nat) : PV := (ft ci k, if ft ci k = 2 then r k else n k)
def cellR (G : Gx) (kn : Nat × Nat) (r n : Nat → Int) (c : Option Cell) : Prop :=
  (kn.1 = 1 → kn.2 ≤ 100000 ∧ c = some (arrV (G.2.2.1 1) kn.2 (fun i => mv G (0, n i))) ∧ ∀ i, i < kn.2 → ok32 (n i)) ∧
  (kn.1 = 2 → kn.2 ≤ 100000 ∧ c = some (arrV (G.2.2.1 2) kn.2 (fun i => mv G (0, n i))) ∧ ∀ i, i < kn.2 → ok8 (n i)) ∧
  (kn.1 = 3 → kn.2 ≤ 100000 ∧ c = some (arrV (G.2.2.1 3) kn.2 (fun i => mv G (1, n i))) ∧ ∀ i, i < kn.2 → ok64 (n i)) ∧
  (kn.1 = 4 → kn.2 ≤ 100000 ∧ c = some (arrV (G.2.2.1 4) kn.2 (fun i => mv G (2, r i)))) ∧
  (∀ ci, kn.1 = 10 + ci → ∃ (q : vw_C) (cell : Cell), vwCl[ci]? = some q ∧ c = some cell ∧ cell.cls = G.2.1.1 ci ∧ cell.vm = .none ∧ ∀ k, k < q.2.2 → cell.slots[G.2.1.2 ci k]? = some (mv G (fp ci r n k)) ∧ okv (fp ci r n k))
def Rel (G : Gx) (s : St) (H : Heap) : Prop :=
  H.size = G.1 + s.1.1 ∧ G.2.2.2.1.size = G.1 ∧ (∀ q : Nat, q < G.1 → H[q]? = G.2.2.2.1[q]?) ∧ s.1.1 ≤ 1000000 ∧ ∀ a : Nat, cellR G (s.2.1 a) (s.2.2.1 a) (s.2.2.2 a) H[G.1 + a]?
abbrev tyA (G : Gx) : List (ClassId × FieldType) := [(G.2.2.1 1, .int), (G.2.2.1 2, .byte), (G.2.2.1 3, .long), (G.2.2.1 4, .object "SeanceStreet$State")]
abbrev frB (G : Gx) : Nat → Prop := fun q => G.1 ≤ q
/-- the String constants and String's own static -/
def KS (G : Gx) (U : State) : Prop :=
  (∀ (i : Nat) (q : String × Nat × String × List Nat), STRS[i]? = some q → vk_R q.1 q.2.1 q.2.2.1 (G.2.2.2.2.1 i) U ∧ va_O "java/lang/String" (G.2.2.2.2.1 i) (frB G) U G.2.2.2.1 ∧ va_OF "java/lang/String" "coder" "B" (.int 0) (G.2.2.2.2.1 i) (frB G) U G.2.2.2.1 ∧ va_OF "java/lang/String" "value" "[B" (.ref (G.2.2.2.2.2.1 i)) (G.2.2.2.2.1 i) (frB G) U G.2.2.2.1 ∧ va_T .byte (G.2.2.2.2.2.1 i) q.2.2.2.length (fun j => .int (nI (q.2.2.2.getD j 0))) (frB G) U G.2.2.2.1) ∧
  va_Z "java/lang/String" "COMPACT_STRINGS" "Z" (.int 1) (frB G) U G.2.2.2.1
/-- the castable words, for the exception's catch -/
def isCast : Cond → Bool
  | .castable .. => true
  | .declares .. => true
  | _ => false
def EW : List Cond := lw_tbl.filter isCast
/-- the script -/
def SC (G : Gx) (U : State) : Prop := ∃ scr : Cell, G.2.2.2.1[G.2.2.2.2.1 2000]? = some scr ∧ U.isArrayOf scr .int ∧ scr.vm ≠ .unknown ∧ scr.slots.size = G.2.2.2.2.2.2.1 ∧ G.2.2.2.2.2.2.1 ≤ 100000 ∧ ∀ j : Nat, j < G.2.2.2.2.2.2.1 → scr.slots[j]? = some (.int (Int32.ofInt (G.2.2.2.2.2.2.2 j))) ∧ ok32 (G.2.2.2.2.2.2.2 j)
/-- what a throw needs: the two statics of Throwable, the castable words -/
def KE (G : Gx) (U : State) : Prop := vx_Zq Bundle.tN "UNASSIGNED_STACK" Bundle.steD (frB G) U G.2.2.2.1 ∧ vx_Zq Bundle.tN "SUPPRESSED_SENTINEL" Bundle.listD (frB G) U G.2.2.2.1 ∧ ∀ w ∈ EW, va_Nw w U
/-- the formatter's static: a reference or null -/
def KF (G : Gx) (U : State) : Prop := ∃ z : Int, va_Z "jdk/internal/util/Preconditions" "SIOOBE_FORMATTER" "Ljava/util/function/BiFunction;" (mkR G z) (frB G) U G.2.2.2.1
def KN (G : Gx) (U : State) : Prop := va_K G.2.1 vwCl (tyA G) U ∧ (∀ w ∈ NW, va_Nw w U) ∧ va_AO "SeanceStreet$State" U ∧ KS G U ∧ KF G U ∧ SC G U ∧ KE G U ∧ ∀ i : Nat, i < 33 → G.2.2.2.2.1 (1000 + i) = G.2.2.2.2.2.1 i
theorem nw_warm {w : Cond} (hw : w ∈ NW) {s U : State} (hW : s.WarmedH U.vm) (h : va_Nw w s) : va_Nw w U := by
  have h1 := (List.mem_filter.mp hw).2
  cases w <;> first | exact va_Nw.warmF hW h | exact va_Nw.warmM hW h | (simp at h1; done)
theorem ew_warm {w : Cond} (hw : w ∈ EW) {s U : State} (hvm : s.vm.Alike U.vm) (h : va_Nw w s) : va_Nw w U := by
  have h1 := (List.mem_filter.mp hw).2
  cases w
  case castable a b =>
    have h2 : (Cond.castable a b).before #[] (s.setVm U.vm) = true := by rw [Cond.castable_setVm hvm]; exact h
    exact va_Nw.same rfl (rfl : (s.setVm U.vm).vm = U.vm) h2
  case declares a =>
    have h2 : (Cond.declares a).before #[] (s.setVm U.vm) = true := by rw [Cond.declares_setVm hvm]; exact h
    exact va_Nw.same rfl (rfl : (s.setVm U.vm).vm = U.vm) h2
  all_goals cases h1
theorem KN.alike {G : Gx} {s U : State} (hvm : s.vm.Alike U.vm) (h : KN G s) (h2 : ∀ w ∈ NW, va_Nw w U) (h3 : ∀ (i : Nat) (q : String × Nat × String × List Nat), STRS[i]? = some q → vk_R q.1 q.2.1 q.2.2.1 (G.2.2.2.2.1 i) U) : KN G U := by
  obtain ⟨h1, -, h5, ⟨g3, h4⟩, ⟨z, h6⟩, ⟨scr, c1, c2, c3, c4, c5, c6⟩, ⟨e1, e2, e3⟩, h8⟩ := h
  refine ⟨va_K.moved hvm h1, h2, va_AO.moved hvm h5, ⟨fun i q hq => ?_, va_Z.moved hvm h4⟩, ⟨z, va_Z.moved hvm h6⟩, ⟨scr, c1, State.isArrayOf_alike hvm c2, c3, c4, c5, c6⟩, ⟨vx_Zq.moved hvm e1, vx_Zq.moved hvm e2, fun w hw => ew_warm hw hvm (e3 w hw)⟩, h8⟩
  obtain ⟨g1, g2, g3, g4, g5⟩ := g3 i q hq
  exact ⟨h3 i q hq, va_O.moved hvm g2, va_OF.moved hvm g3, va_OF.moved hvm g4, va_T.moved hvm g5⟩
theorem KN.warm {G : Gx} {s U : State} (hW : s.WarmedH U.vm) (h : KN G s) : KN G U :=
  h.alike hW.alike (fun w hw => nw_warm hw hW (h.2.1 w hw)) (fun i q hq => (h.2.2.2.1.1 i q hq).1.warm hW)
theorem KN.calling {G : Gx} {U : State} {g : JFrame} {mk : MethodId} {a : Array Value} (h : KN G U) : KN G (U.calling g mk a) := by
  refine h.alike (U := U.calling g mk a) (Vm.Alike.refl U.vm) (fun w hw => ?_) (fun i q hq => vk_R.same (u := U) rfl (h.2.2.2.1.1 i q hq).1)
  have h9 := (List.mem_filter.mp hw).2
  refine va_Nw.same ?_ (rfl : U.vm = (U.calling g mk a).vm) (h.2.1 w hw)
  cases w <;> first | rfl | (simp at h9; done)
/-- where a method stands: the machine, its code, the tables -/
def Cx (G : Gx) (M : MI) (p : Program) (R : Room) (s : State) (m : MethodId) (args : Array Value) (meth : Method) (c : Code) : Prop :=
  p.tables.exec = Jvm.exec ∧ c.code = M.2.1 ∧ c.maxLocals = M.2.2.1 ∧ meth.sig.returnType = M.2.2.2.1 ∧ s.vm.findClass M.1.cls = some m.cls ∧ (∀ w ∈ TW, w.before args s = true) ∧ KN G s ∧ meth.locks = false ∧ meth.name = M.1.name ∧ R.frames = M.2.2.2.2.1 ∧ R.locals = M.2.2.2.2.2
def lvm (G : Gx) (lv : List (Nat × PV)) : List (Nat × Value) := lv.map (fun q => (q.1, mv G q.2))
def LX (G : Gx) (n : Nat) (lv : List (Nat × PV)) (ls : Array Slot) : Prop := lv_has ls n (lvm G lv) ∧ ∀ q ∈ lv, okv q.2
def okS (st : List PV) : Prop := ∀ v ∈ st, okv v
def rk : Option FieldType → Nat
  | none => 9
  | some .long => 1
  | some (.object _) => 2
  | some (.array _) => 2
  | some _ => 0
def RV (G : Gx) (ret : Option FieldType) (r : Int) (v : Option Value) : Prop := if ret = none then v = none else v = some (mv G (rk ret, r)) ∧ okv (rk ret, r)
def QR (G : Gx) (ret : Option FieldType) (r : Int) (s' : St) : Array Value → State → Outcome → State → Prop := fun _ _ o t => (∃ v, o = .returned v ∧ RV G ret r v) ∧ Rel G s' t.heap
def PC (G : Gx) (As : List PV) (s : St) : Array Value → State → Prop := fun v U => v = (As.map (mv G)).toArray ∧ Rel G s U.heap ∧ KN G U
abbrev Rs : Type := Option (Int × St)
/-- the method's walk from pc on, at these locals, this stack, this state, ends as X says -/
abbrev QT : Type := Int → St → List Frame → Array Value → State → Nat → Nat → State → Prop
def VQ (QQ : QT) (G : Gx) (l : Launch) (M : MI) (pc : Nat) (lv : List (Nat × PV)) (st : List PV) (s : St) (X : Rs) : Prop :=
  ∀ r s', X = some (r, s') → s.1.1 ≤ s'.1.1 ∧ s.1.2 ≤ s'.1.2 ∧
    ∀ (n0 k0 : Nat), n0 ≤ s.1.1 → k0 ≤ s.1.2 → ∀ (p : Program) (e : Env) (R : Room) (s0 : State) (m : MethodId) (args : Array Value) (below : List Frame) (meth : Method) (c : Code) (H : Heap) (locs : List Loc) (ls : Array Slot),
      Cx G M p R s0 m args meth c → s'.1.1 - n0 ≤ R.cells → s'.1.2 - k0 ≤ R.slots → LX G M.2.2.1 lv ls → okS st → Rel G s H → (∀ q ∈ locs, G.1 ≤ q.base) →
      W p l e R s0 m args below meth c H locs (s.1.1 - n0) (s.1.2 - k0) (QQ r s' below args s0 (s'.1.1 - n0) (s'.1.2 - k0)) (F0 m pc ls (st.map (mv G)))
/-- the end of a method that returns -/
abbrev QV (G : Gx) (M : MI) : QT := fun r s' below args s0 mc ms => MQ below (QR G M.2.2.2.1 r s') args s0 mc ms (fun q => G.1 ≤ q)
abbrev V (G : Gx) (l : Launch) (M : MI) (pc : Nat) (lv : List (Nat × PV)) (st : List PV) (s : St) (X : Rs) : Prop := VQ (QV G M) G l M pc lv st s X
/-- a method's answer and state behind it, by its arguments and the state before -/
def Snd (G : Gx) (l : Launch) (M : MI) (As : List PV) (s : St) (F : Rs) : Prop :=
  ∀ r s', F = some (r, s') → s.1.1 ≤ s'.1.1 ∧ s.1.2 ≤ s'.1.2 ∧ (okS As →
    Met l M.1 (Cond.code M.1 M.2.1 M.2.2.1 M.2.2.2.1 :: TW) { frames := M.2.2.2.2.1, cells := s'.1.1 - s.1.1, slots := s'.1.2 - s.1.2, locals := M.2.2.2.2.2 } (PC G As s) (QR G M.2.2.2.1 r s') (s'.1.1 - s.1.1) (s'.1.2 - s.1.2) (fun q => G.1 ≤ q))
/-- the locals at a method's entry -/
def enL : Nat → List PV → List (Nat × PV)
  | _, [] => []
  | i, v :: vs => (i, v) :: enL (if v.1 = 1 then i + 2 else i + 1) vs
def enW : List PV → Nat
  | [] => 0
  | v :: vs => (if v.1 = 1 then 2 else 1) + enW vs
theorem mkR_cat (G : Gx) (x : Int) : (mkR G x).category = 1 := by
  unfold mkR
  split
  · rfl
  · split <;> rfl
theorem mv_cat (G : Gx) (v : PV) : (mv G v).category = if v.1 = 1 then 2 else 1 := by
  obtain ⟨k, x⟩ := v
  match k with
  | 0 => rfl
  | 1 => rfl
  | k + 2 => exact mkR_cat G x
theorem enL_map (G : Gx) : ∀ (vs : List PV) (i : Nat), lv_args i (vs.map (mv G)) = lvm G (enL i vs)
  | [], _ => rfl
  | v :: vs, i => by
    show (i, mv G v) :: lv_args (if (mv G v).category = 2 then i + 2 else i + 1) (vs.map (mv G)) = (i, mv G v) :: lvm G (enL (if v.1 = 1 then i + 2 else i + 1) vs)
    rw [mv_cat]
    by_cases h : v.1 = 1
    · rw [if_pos h, if_pos h, if_pos rfl, enL_map G vs]
    · rw [if_neg h, if_neg h, if_neg (by decide), enL_map G vs]
theorem enW_len (G : Gx) : ∀ (vs : List PV), (lg_sl (vs.map (mv G))).length = enW vs
  | [] => rfl
  | v :: vs => by
    have h := enW_len G vs
    unfold lg_sl at h ⊢
    rw [List.map_cons, List.flatMap_cons, List.length_append, h, mv_cat]
    show _ = (if v.1 = 1 then 2 else 1) + enW vs
    by_cases h : v.1 = 1
    · rw [if_pos h]; rfl
    · rw [if_neg h]; rfl
theorem enL_ok : ∀ (vs : List PV) (i : Nat), okS vs → ∀ q ∈ enL i vs, okv q.2
  | [], _, _, _, h => absurd h List.not_mem_nil
  | v :: vs, i, h, q, hq => by
    rcases List.mem_cons.mp hq with rfl | hq
    · exact h v List.mem_cons_self
    · exact enL_ok vs _ (fun w hw => h w (List.mem_cons_of_mem _ hw)) q hq
theorem Met_ofW {l : Launch} {y : MethodName} {ws ws' : List Cond} {rm : Room} {Pc : Array Value → State → Prop} {Qc : Array Value → State → Outcome → State → Prop} {mc ms : Nat} {free : Addr → Prop} {cc : ByteArray} {maxL : Nat} {ret : Option FieldType}
    (hy : plainFor y = true) (hw : ws = Cond.code y cc maxL ret :: ws')
    (body : ∀ p e s m args below meth c s₁, BodyLoose p l y (headSpec ws rm) cc maxL ret e s m args below meth c s₁ → c.maxLocals = maxL → Pc args s →
      W p l e (headSpec ws rm).room s m args below meth c s.heap [] 0 0 (MQ below Qc args s mc ms free) (entryFrame m args maxL)) : Met l y ws rm Pc Qc mc ms free := by
  refine MetFree.of_bodySF (code := cc) (maxLocals := maxL) (ret := ret) hy ?_ ?_
  · intro args s m h hn
    obtain ⟨meth, c, h1, h2, h3, h4, h5, h6, -, -⟩ := Cond.code_spec hn (atoms_spec (ws := ws) h _ (by rw [hw]; exact List.mem_cons_self))
    exact ⟨meth, c, h1, h2, h3, h4, h5, h6⟩
  · intro p e s m args below meth c s₁ B hml hP _
    have hh0 : s₁.heap = s.heap := by rw [B.state]; rfl
    obtain ⟨t, a1, o, b1, b2, b3⟩ := body p e s m args below meth c s₁ B hml hP s₁ hh0 (Stand.of_body B)
    exact ⟨t, o, a1, b1, b2, ⟨b3.1, b3.2⟩⟩
theorem Snd.of {G : Gx} {l : Launch} {M : MI} {As : List PV} {s : St} {F : Rs} (hy : plainFor M.1 = true) (hw : Nat.ble (enW As) M.2.2.1 = true) (h : V G l M 0 (enL 0 As) [] s F) : Snd G l M As s F := by
  intro r s' hF
  obtain ⟨h1, h2, h⟩ := h r s' hF
  refine ⟨h1, h2, fun hok => ?_⟩
  refine Met_ofW (cc := M.2.1) (maxL := M.2.2.1) (ret := M.2.2.2.1) hy rfl ?_
  intro p e s0 m args below meth c s₁ B hml hv
  obtain ⟨hv1, hv2, hv3⟩ := hv
  subst hv1
  have hts := atoms_spec (ws := Cond.code M.1 M.2.1 M.2.2.1 M.2.2.2.1 :: TW) B.pre
  have hl := lv_entry (As.map (mv G)) (n := M.2.2.1) (by rw [enW_len]; exact Nat.le_of_ble_eq_true hw)
  rw [enL_map] at hl
  rw [lg_entry_eq]
  have K := h s.1.1 s.1.2 (Nat.le_refl _) (Nat.le_refl _) p e { frames := M.2.2.2.2.1, cells := s'.1.1 - s.1.1, slots := s'.1.2 - s.1.2, locals := M.2.2.2.2.2 } s0 m _ below meth c s0.heap [] _ ⟨B.exec, B.bytes, hml, B.returns, findClass_of_methodNamed B.named, fun w hw => hts w (List.mem_cons_of_mem _ hw), hv3, B.notSynchronized, (name_of_methodNamed B.named B.method).1, rfl, rfl⟩ (Nat.le_refl _) (Nat.le_refl _) ⟨hl, enL_ok As 0 hok⟩ (fun v hv => absurd hv List.not_mem_nil) hv2 (fun q hq => absurd hq List.not_mem_nil)
  rw [Nat.sub_self, Nat.sub_self] at K
  exact K
