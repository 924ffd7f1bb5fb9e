abbrev St3 := Int × Int × Int
/-- a loop from i on, m times -/
def fl (g : Int → St3 → St3) : Nat → Int → St3 → St3
  | 0, _, s => s
  | m + 1, i, s => fl g m (i + 1) (g i s)
theorem fl_step {g : Int → St3 → St3} {N i : Int} {s : St3} (h : i < N) : fl g (N - i).toNat i s = fl g (N - (i + 1)).toNat (i + 1) (g i s) := by
  rw [show (N - i).toNat = (N - (i + 1)).toNat + 1 by omega]; rfl
theorem fl_end {g : Int → St3 → St3} {N i : Int} {s : St3} (h : N ≤ i) : fl g (N - i).toNat i s = s := by
  rw [show (N - i).toNat = 0 by omega]; rfl
theorem fl_pres {g : Int → St3 → St3} {P : St3 → Prop} {m : Nat} : ∀ {i : Int} {s : St3}, (∀ j s, i ≤ j → j < i + m → P s → P (g j s)) → P s → P (fl g m i s) := by
  induction m with
  | zero => intro i s _ h; exact h
  | succ m ih =>
    intro i s hg h
    exact ih (fun j s h0 h1 => hg j s (by omega) (by omega)) (hg i s (by omega) (by omega) h)
/-- what a move changes -/
def chg (O G : Int → Int → Int) (n : Int) (f : Int → Int) (a y : Int) : Int := wc O G n.toNat (mv f n.toNat a y) - wc O G n.toNat f
def wg (O G : Int → Int → Int) (n : Int) (f : Int → Int) (a y : Int) (s : St3) : St3 := if chg O G n f a y < s.1 then (chg O G n f a y, a, y) else s
def gx (O G : Int → Int → Int) (n : Int) (fo f : Int → Int) (a b : Int) (s : St3) : St3 := if fo b = -1 then wg O G n f a (f b) s else s
def gX (O G : Int → Int → Int) (n : Int) (fo f : Int → Int) (a : Int) (s : St3) : St3 := if fo a = -1 then fl (gx O G n fo f a) (n - (a + 1)).toNat (a + 1) s else s
def gg (O G : Int → Int → Int) (n : Int) (f : Int → Int) (a y : Int) (s : St3) : St3 := if lon f y n.toNat = -1 then wg O G n f a y s else s
def gG (O G : Int → Int → Int) (n k : Int) (fo f : Int → Int) (a : Int) (s : St3) : St3 := if fo a = -1 then fl (gg O G n f a) (k - 0).toNat 0 s else s
def FX (O G : Int → Int → Int) (n : Int) (fo f : Int → Int) : St3 := fl (gX O G n fo f) (n - 0).toNat 0 (0, 0, 0)
def FB (O G : Int → Int → Int) (n k : Int) (fo f : Int → Int) : St3 := fl (gG O G n k fo f) (n - 0).toNat 0 (FX O G n fo f)
/-- what the numbers keep to -/
def Bx (O G : Int → Int → Int) (n k : Int) (fo f : Int → Int) : Prop := 1 ≤ n ∧ n ≤ 10 ∧ 0 ≤ k ∧ k ≤ 12 ∧ Sok n k fo f ∧ (∀ f, Kin n k f → 0 ≤ wc O G n.toNat f ∧ wc O G n.toNat f ≤ 7176000)
theorem Bx.n1 {O G : Int → Int → Int} {n k : Int} {fo f : Int → Int} (h : Bx O G n k fo f) : 1 ≤ n := h.1
theorem Bx.n2 {O G : Int → Int → Int} {n k : Int} {fo f : Int → Int} (h : Bx O G n k fo f) : n ≤ 10 := h.2.1
theorem Bx.k1 {O G : Int → Int → Int} {n k : Int} {fo f : Int → Int} (h : Bx O G n k fo f) : 0 ≤ k := h.2.2.1
theorem Bx.k2 {O G : Int → Int → Int} {n k : Int} {fo f : Int → Int} (h : Bx O G n k fo f) : k ≤ 12 := h.2.2.2.1
theorem Bx.sk {O G : Int → Int → Int} {n k : Int} {fo f : Int → Int} (h : Bx O G n k fo f) : Sok n k fo f := h.2.2.2.2.1
theorem Bx.wb {O G : Int → Int → Int} {n k : Int} {fo f : Int → Int} (h : Bx O G n k fo f) : ∀ f, Kin n k f → 0 ≤ wc O G n.toNat f ∧ wc O G n.toNat f ≤ 7176000 := h.2.2.2.2.2
theorem Sok_Kin {n k : Int} {fo f : Int → Int} (h : Sok n k fo f) : Kin n k f := fun a a0 a1 => by have := h.2.1 a a0 a1; omega
/-- a move that may be made -/
def Ok2 (n k : Int) (fo f : Int → Int) (a y : Int) : Prop := 0 ≤ a ∧ a < n ∧ fo a = -1 ∧ 0 ≤ y ∧ y < k ∧ (∀ b, 0 ≤ b → b < n → fo b ≠ y)
theorem Ok2_x {n k : Int} {fo f : Int → Int} (h : Sok n k fo f) {a b : Int} (a0 : 0 ≤ a) (a1 : a < n) (b0 : 0 ≤ b) (b1 : b < n) (ha : fo a = -1) (hb : fo b = -1) : Ok2 n k fo f a (f b) := by
  have hb2 := h.2.1 b b0 b1
  refine ⟨a0, a1, ha, by omega, by omega, fun c c0 c1 e => ?_⟩
  have hc := h.2.1 c c0 c1
  have e3 : f c = f b := by rw [hc.2.2 (by omega)]; exact e
  have := h.2.2 c b c0 c1 b0 b1 e3
  rw [this] at e; omega
theorem Ok2_g {n k : Int} {fo f : Int → Int} (h : Sok n k fo f) {a y : Int} (a0 : 0 ≤ a) (a1 : a < n) (y0 : 0 ≤ y) (y1 : y < k) (ha : fo a = -1) (hy : lon f y n.toNat = -1) : Ok2 n k fo f a y := by
  refine ⟨a0, a1, ha, y0, y1, fun c c0 c1 e => ?_⟩
  have hc := h.2.1 c c0 c1
  rcases lon_cases f y n.toNat with ⟨l1, l2⟩ | ⟨l1, -⟩
  · exact l2 c c0 (by omega) ((hc.2.2 (by omega)).trans e)
  · omega
def Vs (O G : Int → Int → Int) (n k : Int) (fo f : Int → Int) (s : St3) : Prop := -7176000 ≤ s.1 ∧ s.1 ≤ 0 ∧ (s.1 < 0 → Ok2 n k fo f s.2.1 s.2.2 ∧ s.1 = chg O G n f s.2.1 s.2.2)
theorem chg_b {O G : Int → Int → Int} {n k : Int} {fo f : Int → Int} (hc : Bx O G n k fo f) {a y : Int} (h : Ok2 n k fo f a y) : -7176000 ≤ chg O G n f a y ∧ chg O G n f a y ≤ 7176000 := by
  have h1 := hc.wb f (Sok_Kin hc.sk)
  have h2 := hc.wb (mv f n.toNat a y) (Kin_mv (Sok_Kin hc.sk) ⟨h.1, h.2.1⟩ ⟨h.2.2.2.1, h.2.2.2.2.1⟩)
  unfold chg
  omega
theorem Vs_wg {O G : Int → Int → Int} {n k : Int} {fo f : Int → Int} (hc : Bx O G n k fo f) {a y : Int} {s : St3} (h : Ok2 n k fo f a y) (hs : Vs O G n k fo f s) : Vs O G n k fo f (wg O G n f a y s) := by
  unfold wg
  split
  · rename_i q
    have := chg_b hc h
    have := hs.2.1
    exact ⟨by show -7176000 ≤ chg O G n f a y; omega, by show chg O G n f a y ≤ 0; omega, fun _ => ⟨h, rfl⟩⟩
  · exact hs
theorem Vs_gx {O G : Int → Int → Int} {n k : Int} {fo f : Int → Int} (hc : Bx O G n k fo f) {a b : Int} {s : St3} (a0 : 0 ≤ a) (a1 : a < n) (b0 : 0 ≤ b) (b1 : b < n) (ha : fo a = -1) (hs : Vs O G n k fo f s) : Vs O G n k fo f (gx O G n fo f a b s) := by
  unfold gx
  split
  · rename_i q
    exact Vs_wg hc (Ok2_x hc.sk a0 a1 b0 b1 ha q) hs
  · exact hs
theorem Vs_gX {O G : Int → Int → Int} {n k : Int} {fo f : Int → Int} (hc : Bx O G n k fo f) {a : Int} {s : St3} (a0 : 0 ≤ a) (a1 : a < n) (hs : Vs O G n k fo f s) : Vs O G n k fo f (gX O G n fo f a s) := by
  unfold gX
  split
  · rename_i q
    exact fl_pres (fun j s h0 h1 h2 => Vs_gx hc a0 a1 (by omega) (by omega) q h2) hs
  · exact hs
theorem Vs_gg {O G : Int → Int → Int} {n k : Int} {fo f : Int → Int} (hc : Bx O G n k fo f) {a y : Int} {s : St3} (a0 : 0 ≤ a) (a1 : a < n) (b0 : 0 ≤ y) (b1 : y < k) (ha : fo a = -1) (hs : Vs O G n k fo f s) : Vs O G n k fo f (gg O G n f a y s) := by
  unfold gg
  split
  · rename_i q
    exact Vs_wg hc (Ok2_g hc.sk a0 a1 b0 b1 ha q) hs
  · exact hs
theorem Vs_gG {O G : Int → Int → Int} {n k : Int} {fo f : Int → Int} (hc : Bx O G n k fo f) {a : Int} {s : St3} (a0 : 0 ≤ a) (a1 : a < n) (hs : Vs O G n k fo f s) : Vs O G n k fo f (gG O G n k fo f a s) := by
  unfold gG
  split
  · rename_i q
    exact fl_pres (fun j s h0 h1 h2 => Vs_gg hc a0 a1 (by omega) (by omega) q h2) hs
  · exact hs
theorem Vs_0 {O G : Int → Int → Int} {n k : Int} {fo f : Int → Int} : Vs O G n k fo f (0, 0, 0) := ⟨by show (-7176000 : Int) ≤ 0; omega, by show (0 : Int) ≤ 0; omega, fun q => absurd q (by show ¬ (0 : Int) < 0; omega)⟩
theorem Vs_FX {O G : Int → Int → Int} {n k : Int} {fo f : Int → Int} (hc : Bx O G n k fo f) : Vs O G n k fo f (FX O G n fo f) := by
  unfold FX
  exact fl_pres (fun j s h0 h1 h2 => Vs_gX hc (by omega) (by have := hc.n1; omega) h2) Vs_0
theorem Vs_FB {O G : Int → Int → Int} {n k : Int} {fo f : Int → Int} (hc : Bx O G n k fo f) : Vs O G n k fo f (FB O G n k fo f) := by
  unfold FB
  exact fl_pres (fun j s h0 h1 h2 => Vs_gG hc (by omega) (by have := hc.n1; omega) h2) (Vs_FX hc)
/-- bettering to the end -/
def Bt (O G : Int → Int → Int) (n k : Int) (fo : Int → Int) : Nat → (Int → Int) → (Int → Int) → Prop
  | 0, f, g => ¬ (FB O G n k fo f).1 < 0 ∧ g = f
  | d + 1, f, g => (FB O G n k fo f).1 < 0 ∧ Bt O G n k fo d (mv f n.toNat (FB O G n k fo f).2.1 (FB O G n k fo f).2.2) g
theorem Bx_mv {O G : Int → Int → Int} {n k : Int} {fo f : Int → Int} (hc : Bx O G n k fo f) {a y : Int} (h : Ok2 n k fo f a y) : Bx O G n k fo (mv f n.toNat a y) :=
  ⟨hc.n1, hc.n2, hc.k1, hc.k2, Sok_mv (by have := hc.n1; omega) hc.sk ⟨h.1, h.2.1⟩ ⟨h.2.2.2.1, h.2.2.2.2.1⟩ h.2.2.1 h.2.2.2.2.2, hc.wb⟩
theorem Bt_ex {O G : Int → Int → Int} {n k : Int} {fo : Int → Int} (m : Nat) : ∀ f, Bx O G n k fo f → wc O G n.toNat f < m → ∃ d g, Bt O G n k fo d f g ∧ (d : Int) ≤ wc O G n.toNat f ∧ Sok n k fo g := by
  induction m with
  | zero => intro f hc h; have := hc.wb f (Sok_Kin hc.sk); omega
  | succ m ih =>
    intro f hc h
    by_cases e : (FB O G n k fo f).1 < 0
    · obtain ⟨v1, v2, v3⟩ := Vs_FB hc
      obtain ⟨v4, v5⟩ := v3 e
      have hc2 := Bx_mv hc v4
      have h5 : wc O G n.toNat (mv f n.toNat (FB O G n k fo f).2.1 (FB O G n k fo f).2.2) < wc O G n.toNat f := by
        unfold chg at v5
        generalize wc O G n.toNat (mv f n.toNat (FB O G n k fo f).2.1 (FB O G n k fo f).2.2) = u at *
        generalize (FB O G n k fo f).1 = u1 at *
        omega
      obtain ⟨d, g, h1, h3, h4⟩ := ih _ hc2 (by omega)
      exact ⟨d + 1, g, ⟨e, h1⟩, by push_cast; omega, h4⟩
    · exact ⟨0, f, ⟨e, rfl⟩, (hc.wb f (Sok_Kin hc.sk)).1, hc.sk⟩
