/-! THE PURE PART: what class and reference have in common -/
theorem mset_eq (M : Mm) (c : Nat) (k v : Int) : mset M c k v = fu M c (fu (M c) k v) := rfl
/-- sums -/
def sm : Nat → (Int → Int) → Int
  | 0, _ => 0
  | n + 1, f => sm n f + f n
theorem sm_congr {n : Nat} {f g : Int → Int} (h : ∀ i : Int, 0 ≤ i → i < n → f i = g i) : sm n f = sm n g := by
  induction n with
  | zero => rfl
  | succ n ih =>
    show sm n f + f n = sm n g + g n
    rw [ih (fun i h0 h1 => h i h0 (by omega)), h n (by omega) (by omega)]
def Jn (n k mn mk : Int) : Prop := 1 ≤ n ∧ n ≤ 10 ∧ 0 ≤ k ∧ k ≤ 12 ∧ mn = n ∧ mk = k
def Jk (k : Int) (kd ex mkd mex : Int → Int) : Prop := ∀ j, 0 ≤ j → j < k → 0 ≤ kd j ∧ kd j ≤ 3 ∧ mkd j = kd j ∧ 0 ≤ ex j ∧ ex j ≤ 1000 ∧ mex j = ex j
def Jg (go mgo : Int → Int) : Prop := ∀ j, 0 ≤ j → j < 144 → 0 ≤ go j ∧ go j ≤ 1000 ∧ mgo j = go j
def cst (kd ex go : Int → Int) (i k : Int) : Int := if kd k = 0 then go (12 * i + k) else if kd k = 1 then go (12 * i + k) / 2 else if kd k = 2 then go (12 * i + k) + ex k else 2 * (go (12 * i + k) + ex k)
def Jc (k : Int) (kd ex go cs : Int → Int) : Prop := ∀ i j, 0 ≤ i → i < k → 0 ≤ j → j < k → cs (12 * i + j) = cst kd ex go i j
def Jf (n k : Int) (fo fb mf : Int → Int) : Prop := (∀ a, 0 ≤ a → a < 10 → mf a = fo a ∧ (fo a = -1 ∨ (0 ≤ fo a ∧ fo a < k ∧ a < n ∧ fb (fo a) = a))) ∧ (∀ j, 0 ≤ j → j < 12 → fb j = -1 ∨ (0 ≤ fb j ∧ fb j < n ∧ fo (fb j) = j))
/-- a setting that keeps what is fixed -/
def Sok (n k : Int) (fo f : Int → Int) : Prop := n ≤ k ∧ (∀ a, 0 ≤ a → a < n → 0 ≤ f a ∧ f a < k ∧ (fo a ≠ -1 → f a = fo a)) ∧ (∀ a b, 0 ≤ a → a < n → 0 ≤ b → b < n → f a = f b → a = b)
def Js (n k pr mpr : Int) (fo st mst : Int → Int) : Prop := mpr = pr ∧ (pr = 0 ∨ pr = 1) ∧ (pr ≠ 0 → Sok n k fo st ∧ ∀ a, 0 ≤ a → a < n → mst a = st a)
def Jd (n k hf mhf fc mfc : Int) (fo fk mfk : Int → Int) : Prop := mhf = hf ∧ (hf = 0 ∨ hf = 1) ∧ (hf ≠ 0 → Sok n k fo fk ∧ (∀ a, 0 ≤ a → a < n → mfk a = fk a) ∧ mfc = fc)
def Jt (tr mtr : Int) : Prop := mtr = tr ∧ 0 ≤ tr ∧ tr ≤ 20000
def Jz (tf tt : Int → Int) : Prop := (∀ j, 0 ≤ j → j < 12 → tf j = 0) ∧ (∀ j, 0 ≤ j → j < 7 → tt j = 0)
def Jb (bn mbn : Int) (bd mbd : Int → Int) : Prop := mbn = bn ∧ 0 ≤ bn ∧ bn ≤ 3 ∧ ∀ j, 0 ≤ j → j < bn → mbd j = bd j
def Jp (ln ip ml : Int → Int) : Prop := ∀ p, 0 ≤ p → p < 6 → 0 ≤ ln p ∧ ln p ≤ 300 ∧ ((ip p = 0 ∧ ln p = 0) ∨ (ip p = 1 ∧ 1 ≤ ln p ∧ ml p = ln p))
def Jq (ln sg msg : Int → Int) : Prop := ∀ p i, 0 ≤ p → p < 6 → 0 ≤ i → i < ln p → 0 ≤ sg (300 * p + i) ∧ sg (300 * p + i) ≤ 255 ∧ msg (300 * p + i) = sg (300 * p + i)
/-- a pair of letters at the places j, j + 1 -/
def pr2 (sg : Int → Int) (a b j : Int) : Int := if sg j = 97 + a ∧ sg (j + 1) = 97 + b then 1 else 0
def cnp (sg : Int → Int) (a b p : Int) (len : Int) : Int := sm (len - 1).toNat (fun i => pr2 sg a b (300 * p + i))
def cnt (ln sg : Int → Int) (a b : Int) : Int := sm 6 (fun p => cnp sg a b p (ln p))
def Jo (n : Int) (ln sg oc om : Int → Int) : Prop := ∀ a b, 0 ≤ a → a < 10 → 0 ≤ b → b < 10 → oc (10 * a + b) = cnt ln sg a b ∧ om (10 * a + b) = if a < n ∧ b < n then cnt ln sg a b else 0
def Inv (M : Mm) : Prop :=
  Jn (M 1 0) (M 3 0) (M 8 0) (M 8 5) ∧ Jk (M 3 0) (M 14) (M 15) (M 34) (M 35) ∧ Jg (M 16) (M 36) ∧ Jc (M 3 0) (M 14) (M 15) (M 16) (M 17) ∧ Jf (M 1 0) (M 3 0) (M 9) (M 10) (M 37) ∧
  Js (M 1 0) (M 3 0) (M 4 4) (M 8 10) (M 9) (M 19) (M 38) ∧ Jd (M 1 0) (M 3 0) (M 5 7) (M 8 12) (M 5 8) (M 8 14) (M 9) (M 22) (M 39) ∧ Jt (M 5 9) (M 8 15) ∧ Jz (M 21) (M 29) ∧ Jb (M 3 6) (M 8 16) (M 18) (M 40) ∧
  Jp (M 12) (M 30) (M 31) ∧ Jq (M 12) (M 11) (M 32) ∧ Jo (M 1 0) (M 12) (M 11) (M 13) (M 33)
/-- a call of both: the same answer, and they still agree -/
def Same (c7 c8 : Mm → (Int → Mm → Prop) → Prop) (M : Mm) : Prop := c7 M (fun r M1 => c8 M1 (fun r' M2 => r = r' ∧ Inv M2))
