-- ===== end of PART A; then your names; then what follows =====
/-! THE CLAIM OUT OF ONE WALK OF THE LAW'S BODY. Your part is whole_start (and what it stands on); all else here is the same for every law, but numbers. -/
def R_law : String := "KeySetterLaw"
def lw_P (b : Addr) (xs : List Int32) (args : Array Value) (s : State) : Prop := args = #[.ref b] ∧ s.IntsAt b xs ∧ xs.length ≤ 2560 ∧ (Jvm.Cond.and given_1 narrow_1).before args s = true
def lw_Q (_ : Array Value) (s : State) (o : Outcome) (t : State) : Prop := o = .returned (some (.int 1)) ∧ Framed s o t [] 600000 7302250
def lw_Z (below : List Frame) (a : Array Value) (s : State) : State → Prop := fun t => ∃ o, t.status = .running ∧ Ended t below o ∧ lw_Q a s o t
/-- the law's own end, with 1 on the stack, nothing written that was there before, its room as the claim has it -/
theorem lw_ret {p : Program} {l : Launch} {e : Env} {s : State} {m : MethodId} {below : List Frame} {meth : Method} {c : Code} {b : Nat} (hx : p.tables.exec = Jvm.exec) (hb : c.code = code) (hr : meth.sig.returnType = ret) (hlocks : meth.locks = false) {pc : Nat} {H : Heap} {ls : Array Slot} (hdg : decode code pc = .ok (.ireturn, 1)) : W p l e room_1 s m #[Value.ref b] below meth c H [] 600000 7302250 (lw_Z below #[Value.ref b] s) (F0 m pc ls [.int 1]) := by
  intro T hT X
  obtain ⟨fs, hret, hrun, hended, hW, hframe⟩ := X.leave (v := some (.int 1)) (hlocks := hlocks) (fun h => by rw [hr] at h; cases h)
  have hmeth' : T.vm.method? m = some meth := X.method'
  refine ⟨T.setFrames fs, ?_, .returned (some (.int 1)), hrun, hended, rfl, ⟨_, rfl⟩, hW, hframe⟩
  jvm_step X.here [X.here.top, hx, hb, hdg, hmeth', hr, ret, narrow_b1]
  (try refine ⟨rfl, ?_⟩); (try refine ⟨rfl, ?_⟩)
  first | (intro acts; rw [hret _ acts rfl rfl rfl]) | rw [hret _ _ rfl rfl rfl]
  exact Steps.refl _
/-- what holds at the law's entry: the machine, the code, the tables' words (any of lw_tbl by 'hts w (by decide +kernel)'), the script of L ints xs at the cell b, what the Statement gives of the start (any of its parts by flat_of_before) -/
def lw_At (p : Program) (s : State) (m : MethodId) (meth : Method) (c : Code) (b L : Nat) (xs : Nat → Int32) : Prop :=
  p.tables.exec = Jvm.exec ∧ c.code = code ∧ meth.sig.returnType = ret ∧ c.maxLocals = 4 ∧ s.vm.findClass R_law = some m.cls ∧ (∀ w ∈ lw_tbl, w.before #[Value.ref b] s = true) ∧ va_X b L xs s s.heap ∧ b < s.heap.size ∧ meth.locks = false ∧ (Jvm.Cond.and given_1 narrow_1).before #[Value.ref b] s = true
section XL
variable {p : Program} {l : Launch} {e : Env} {R : Room} {s : State} {m : MethodId} {below : List Frame} {meth : Method} {c : Code} {D : va_G} {cy : Nat → ClassId} {ad : Nat → Int → Nat} {Q : State → Prop} {cc : ByteArray} {nL : Nat} {own : String} {ret : Option FieldType} {cells slots : Nat} {pc : Nat} {ls : List (Option AV)} {st : List AV} {M : Mm} {b L : Nat} {xs : Nat → Int32} {sx : Int → Int} {Ln : Int}
/-- the script: at b, of L ints; sx and Ln are its words -/
def Sc (s : State) (b L : Nat) (xs : Nat → Int32) (ad : Nat → Int → Nat) (sx : Int → Int) (Ln : Int) : Prop := va_X b L xs s s.heap ∧ b < s.heap.size ∧ ad 49 (-1) = b ∧ L ≤ 2560 ∧ Ln = (L : Int) ∧ (∀ i : Int, 0 ≤ i → i < Ln → sx i = (xs i.toNat).toInt) ∧ ∀ i : Int, iR (sx i)
theorem x_Lr (hs : Sc s b L xs ad sx Ln) : iR Ln := by
  obtain ⟨-, -, -, h1, h2, -, -⟩ := hs
  omega
theorem x_sld (C : Cx p s m #[Value.ref b] meth c D cy ad (fun q : Nat => s.heap.size ≤ q) cc nL own ret) (hs : Sc s b L xs ad sx Ln) {i : Int} (hi : 0 ≤ i ∧ i < Ln) (hd : decode cc pc = .ok (.iaload, 1)) (kk : Xj p l e R s m #[Value.ref b] below meth c D cy ad (fun q : Nat => s.heap.size ≤ q) Q nL cells slots (pc + 1) ls (aI (sx i) :: st) M) : Xj p l e R s m #[Value.ref b] below meth c D cy ad (fun q : Nat => s.heap.size ≤ q) Q nL cells slots pc ls (aI i :: aR 49 :: st) M := by
  intro H locs lc hW hS hL
  obtain ⟨hX, hbl, had, hL1, hL2, hsx, -⟩ := hs
  have h := kk H locs lc hW hS hL
  rw [hsx i hi.1 hi.2] at h
  simp only [List.map_cons, gam, Int32.ofInt_toInt] at h
  subst hL2
  have hc := ka_clamp hi.1 (show i < 2147483648 by omega)
  have hc2 : (Int32.ofInt i).toNatClampNeg = i.toNat := by omega
  rw [← hc2] at h
  show W _ _ _ _ _ _ _ _ _ _ _ _ _ _ _ (F0 m pc lc (.int (Int32.ofInt i) :: .ref (ad 49 (-1)) :: st.map (gam ad)))
  rw [had]
  exact va_sld C.1 C.2.1 hX hbl (Nat.not_le.mpr hbl) hS (ka_in hi.1 hi.2 (by omega)) hd h
theorem x_slen (C : Cx p s m #[Value.ref b] meth c D cy ad (fun q : Nat => s.heap.size ≤ q) cc nL own ret) (hs : Sc s b L xs ad sx Ln) (hd : decode cc pc = .ok (.arraylength, 1)) (kk : Xj p l e R s m #[Value.ref b] below meth c D cy ad (fun q : Nat => s.heap.size ≤ q) Q nL cells slots (pc + 1) ls (aI Ln :: st) M) : Xj p l e R s m #[Value.ref b] below meth c D cy ad (fun q : Nat => s.heap.size ≤ q) Q nL cells slots pc ls (aR 49 :: st) M := by
  intro H locs lc hW hS hL
  obtain ⟨hX, hbl, had, hL1, hL2, hsx, -⟩ := hs
  have h := kk H locs lc hW hS hL
  subst hL2
  show W _ _ _ _ _ _ _ _ _ _ _ _ _ _ _ (F0 m pc lc (.ref (ad 49 (-1)) :: st.map (gam ad)))
  rw [had]
  refine va_slen C.1 C.2.1 hX hbl (Nat.not_le.mpr hbl) hS hd ?_
  rw [← Int32.ofInt_eq_ofNat]
  exact h
theorem x_lawret (C : Cx p s m #[Value.ref b] meth c D cy ad (fun q : Nat => s.heap.size ≤ q) code nL own (some .boolean)) {v : Int} (hv : v = 1) (hd : decode code pc = .ok (.ireturn, 1)) : Xj p l e room_1 s m #[Value.ref b] below meth c D cy ad (fun q : Nat => s.heap.size ≤ q) (lw_Z below #[Value.ref b] s) nL 89 13952 pc ls [aI v] M := by
  intro H locs lc hW hS hL
  subst hv
  refine va_forget (fun q hq => hS.2.2 q hq) ?_
  refine W.widen (k := 600000) (n := 7302250) (by decide) (by decide) ?_
  exact lw_ret C.1 C.2.1 C.2.2.2.2.2.2.1 C.2.2.2.2.2.1 hd
end XL
