/-! the specification: words, squares, searches, as numbers -/
/-- how many below n -/
def ct (p : Nat → Bool) : Nat → Nat
  | 0 => 0
  | n + 1 => ct p n + (if p n then 1 else 0)
/-- the first below n, or n -/
def fs (p : Nat → Bool) : Nat → Nat
  | 0 => 0
  | n + 1 => if fs p n < n then fs p n else if p n then n else n + 1
/-- sum below n -/
def sm (f : Nat → Nat) : Nat → Nat
  | 0 => 0
  | n + 1 => sm f n + f n
def al (p : Nat → Bool) : Nat → Bool
  | 0 => true
  | n + 1 => al p n && p n
def an (p : Nat → Bool) : Nat → Bool
  | 0 => false
  | n + 1 => an p n || p n
/-- a word's code: five bits a letter -/
def cd : Nat → (Nat → Nat) → Nat
  | 0, _ => 0
  | n + 1, f => cd n f * 32 + f n
def NN (nw ln : Nat) : Nat := if nw = 0 then 0 else nw ^ ln
/-- digit r of the d digits of x in base nw -/
def dg (nw d x r : Nat) : Nat := x / nw ^ (d - 1 - r) % nw
/-- the first word that begins as column c of the d rows x, or nw -/
def hd (nw : Nat) (wd : Nat → Nat → Nat) (d x c : Nat) : Nat := fs (fun w => al (fun r => wd (dg nw d x r) c == wd w r) d) nw
def isSt (nw ln : Nat) (wd : Nat → Nat → Nat) (d x : Nat) : Bool := al (fun c => decide (hd nw wd d x c < nw)) ln
def P0 (nw ln : Nat) (wd : Nat → Nat → Nat) (x : Nat) : Bool := isSt nw ln wd ln x
def P1 (nw ln : Nat) (wd : Nat → Nat → Nat) (x : Nat) : Bool := P0 nw ln wd x && al (fun r => dg nw ln x r == hd nw wd ln x r) ln
/-- all rows and columns are different words -/
def un (nw ln : Nat) (wd : Nat → Nat → Nat) (x : Nat) : Bool := al (fun r => al (fun q => !(dg nw ln x r == hd nw wd ln x q)) ln && al (fun q => !(dg nw ln x r == dg nw ln x q) && !(hd nw wd ln x r == hd nw wd ln x q)) r) ln
def P2 (nw ln : Nat) (wd : Nat → Nat → Nat) (x : Nat) : Bool := P0 nw ln wd x && un nw ln wd x
def PK (nw ln : Nat) (wd : Nat → Nat → Nat) (k : Nat) : Nat → Bool := if k = 0 then P0 nw ln wd else if k = 1 then P1 nw ln wd else P2 nw ln wd
/-- rows, columns packed, four bits a word -/
def pkd : Nat → (Nat → Nat) → Nat
  | 0, _ => 0
  | n + 1, f => pkd n f * 16 + f n
def itm (nw ln : Nat) (wd : Nat → Nat → Nat) (x : Nat) : Int32 := nI (pkd ln (hd nw wd ln x) * 65536 + pkd ln (dg nw ln x))
def wgt (nw ln : Nat) (wd : Nat → Nat → Nat) (wt : Nat → Nat) (x : Nat) : Nat := sm (fun r => wt (dg nw ln x r) + wt (hd nw wd ln x r)) ln
/-- the heaviest below n: its number among those of its kind, its weight -/
def hv (P : Nat → Bool) (g : Nat → Nat) : Nat → Int32 × Nat
  | 0 => (-1, 0)
  | n + 1 => if P n && decide ((hv P g n).2 < g n) then (nI (ct P n), g n) else hv P g n
def inR (nw ln : Nat) (wd : Nat → Nat → Nat) (w n : Nat) : Nat := sm (fun x => if P0 nw ln wd x then ct (fun r => dg nw ln x r == w) ln else 0) n
def inC (nw ln : Nat) (wd : Nat → Nat → Nat) (w n : Nat) : Nat := sm (fun x => if P0 nw ln wd x then ct (fun r => hd nw wd ln x r == w) ln else 0) n
def inS (nw ln : Nat) (wd : Nat → Nat → Nat) (w n : Nat) : Nat := ct (fun x => P1 nw ln wd x && an (fun r => dg nw ln x r == w) ln) n
/-- squares that fit the board -/
def FT (nw ln : Nat) (wd : Nat → Nat → Nat) (bd : Nat → Int32) (x : Nat) : Bool := P0 nw ln wd x && al (fun r => decide (bd r = -1) || decide (bd r = nI (dg nw ln x r))) ln
def mk (F : Nat → Bool) (g : Nat → Nat) : Nat → Int32
  | 0 => 0
  | n + 1 => if F n then mk F g n ||| (1 <<< (nI (g n) &&& 31)) else mk F g n
/-- the search without memory from the d = ln - k rows x: visited, dead, found -/
def vis (nw ln : Nat) (wd : Nat → Nat → Nat) : Nat → Nat → Nat
  | 0, _ => 1
  | k + 1, x => 1 + sm (fun w => if isSt nw ln wd (ln - k) (x * nw + w) then vis nw ln wd k (x * nw + w) else 0) nw
def fnd (nw ln : Nat) (wd : Nat → Nat → Nat) : Nat → Nat → Bool
  | 0, _ => true
  | k + 1, x => an (fun w => isSt nw ln wd (ln - k) (x * nw + w) && fnd nw ln wd k (x * nw + w)) nw
def ded (nw ln : Nat) (wd : Nat → Nat → Nat) : Nat → Nat → Nat
  | 0, _ => 0
  | k + 1, x => (if fnd nw ln wd (k + 1) x then 0 else 1) + sm (fun w => if isSt nw ln wd (ln - k) (x * nw + w) then ded nw ln wd k (x * nw + w) else 0) nw
/-- words that begin alike for d letters; a rest of one's beginning is a rest of another's -/
def sp (wd : Nat → Nat → Nat) (d v w : Nat) : Bool := al (fun i => wd v i == wd w i) d
def hasR (nw ln : Nat) (wd : Nat → Nat → Nat) (d b v : Nat) : Bool := an (fun w => sp wd d b w && al (fun i => decide (i < d) || (wd w i == wd v i)) ln) nw
def allR (nw ln : Nat) (wd : Nat → Nat → Nat) (d b o : Nat) : Bool := al (fun w => !sp wd d o w || hasR nw ln wd d b w) nw
def lk (nw ln : Nat) (wd : Nat → Nat → Nat) (d b : Nat) : Nat := fs (fun w => allR nw ln wd d w b && allR nw ln wd d b w) nw
def key (nw ln : Nat) (wd : Nat → Nat → Nat) (d x : Nat) : List Nat := d :: (List.range ln).map (fun c => if d = 0 then 0 else lk nw ln wd d (hd nw wd d x c))
/-- the search with memory: (visited, cuts, keys), found -/
abbrev MT : Type := Nat × Nat × List (List Nat)
def mfold (f : Nat → MT → MT × Bool) : Nat → MT → MT × Bool
  | 0, s => (s, false)
  | n + 1, s => let q := mfold f n s; let r := f n q.1; (r.1, q.2 || r.2)
def mem (nw ln : Nat) (wd : Nat → Nat → Nat) : Nat → Nat → MT → MT × Bool
  | 0, _, s => ((s.1 + 1, s.2), true)
  | k + 1, x, s =>
    if (key nw ln wd (ln - (k + 1)) x) ∈ s.2.2 then ((s.1 + 1, s.2.1 + 1, s.2.2), false)
    else
      let q := mfold (fun w s => if isSt nw ln wd (ln - k) (x * nw + w) then mem nw ln wd k (x * nw + w) s else (s, false)) nw (s.1 + 1, s.2)
      if q.2 then q else ((q.1.1, q.1.2.1, if (key nw ln wd (ln - (k + 1)) x) ∈ q.1.2.2 then q.1.2.2 else q.1.2.2 ++ [key nw ln wd (ln - (k + 1)) x]), false)
def mm0 (nw ln : Nat) (wd : Nat → Nat → Nat) : MT := (mem nw ln wd ln 0 (0, 0, [])).1
/-! what stands between the states -/
def WL (nw ln : Nat) (wd : Nat → Nat → Nat) : Prop := nw ≤ 12 ∧ ln ≤ 4 ∧ (nw = 0 → ln = 0) ∧ (0 < nw → 2 ≤ ln) ∧ (∀ w, w < nw → ∀ i, i < ln → wd w i < 26) ∧ (∀ v w, v < w → w < nw → cd ln (wd v) < cd ln (wd w))
def RT (tl : Nat) (tx : Nat → Nat) (c m : St) : Prop := tl ≤ 60 ∧ c.1 4 = nI tl ∧ m.1 4 = nI tl ∧ ∀ i, i < tl → 32 ≤ tx i ∧ tx i ≤ 126 ∧ c.2.1 11 i = nI (tx i) ∧ m.2.1 4 i = nI (tx i)
def CL (nw ln : Nat) (wd : Nat → Nat → Nat) (c : St) : Prop := c.1 5 = nI nw ∧ c.1 6 = nI ln ∧ ∀ w, w < nw → c.2.1 12 w = nI (cd ln (wd w))
def ML (nw ln : Nat) (wd : Nat → Nat → Nat) (m : St) : Prop := m.1 1 = nI nw ∧ m.1 0 = nI ln ∧ ∀ w, w < nw → ∀ i, i < ln → m.2.1 1 (4 * w + i) = nI (97 + wd w i)
def RW (nw : Nat) (wt : Nat → Nat) (c m : St) : Prop := ∀ w, w < nw → 1 ≤ wt w ∧ wt w ≤ 9 ∧ c.2.1 13 w = nI (wt w) ∧ m.2.1 2 w = nI (wt w)
def RB (nw ln : Nat) (bd : Nat → Int32) (c m : St) : Prop := ∀ r, r < 4 → c.2.1 17 r = bd r ∧ m.2.1 3 r = bd r ∧ (bd r = -1 ∨ (r < ln ∧ ∃ w, w < nw ∧ bd r = nI w))
def RN (c m : St) : Prop := c.1 2 = m.1 2 ∧ c.1 3 = m.1 3
/-- the list of squares k holds those below n -/
def SQ (nw ln : Nat) (wd : Nat → Nat → Nat) (c : St) (k n : Nat) : Prop := c.1 (13 + k) = nI (ct (PK nw ln wd k) n) ∧ ct (PK nw ln wd k) n ≤ c.2.2.2 k ∧ ∀ x, x < n → PK nw ln wd k x = true → c.2.1 (20 + k) (ct (PK nw ln wd k) x) = itm nw ln wd x
def RF (nw ln : Nat) (wd : Nat → Nat → Nat) (c : St) : Prop := SQ nw ln wd c 0 (NN nw ln) ∧ SQ nw ln wd c 1 (NN nw ln) ∧ SQ nw ln wd c 2 (NN nw ln) ∧
  (∀ w, w < nw → c.2.1 14 w = nI (inR nw ln wd w (NN nw ln)) ∧ c.2.1 15 w = nI (inC nw ln wd w (NN nw ln)) ∧ c.2.1 16 w = nI (inS nw ln wd w (NN nw ln))) ∧
  (0 < nw → c.1 7 = nI (vis nw ln wd ln 0) ∧ c.1 8 = nI (ded nw ln wd ln 0) ∧ c.1 9 = nI (mm0 nw ln wd).1 ∧ c.1 10 = nI (mm0 nw ln wd).2.1 ∧ c.1 11 = nI (mm0 nw ln wd).2.2.length)
def RP (c : St) : Prop := ∀ k, k < 3 → 64 ≤ c.2.2.2 k ∧ c.2.2.2 k ≤ 41472
def RH (nw ln : Nat) (wd : Nat → Nat → Nat) (wt : Nat → Nat) (c : St) : Prop := c.1 0 = 0 ∨ (c.1 0 = 1 ∧ ∀ k, k < 3 → c.2.1 10 k = (hv (PK nw ln wd k) (wgt nw ln wd wt) (NN nw ln)).1)
def RK (nw ln : Nat) (wd : Nat → Nat → Nat) (bd : Nat → Int32) (c : St) : Prop := c.1 1 = 0 ∨ (c.1 1 = 1 ∧ c.1 12 = nI (ct (FT nw ln wd bd) (NN nw ln)) ∧ ∀ r, r < ln → c.2.1 18 r = mk (FT nw ln wd bd) (fun x => dg nw ln x r) (NN nw ln))
def RL9 (nw ln : Nat) (wd : Nat → Nat → Nat) (wt : Nat → Nat) (tl : Nat) (tx : Nat → Nat) (bd : Nat → Int32) (c m : St) : Prop :=
  WL nw ln wd ∧ RT tl tx c m ∧ CL nw ln wd c ∧ ML nw ln wd m ∧ RW nw wt c m ∧ RB nw ln bd c m ∧ RN c m ∧ RF nw ln wd c ∧ RP c ∧ RH nw ln wd wt c ∧ RK nw ln wd bd c
def Rel (c m : St) : Prop := ∃ (nw ln : Nat) (wd : Nat → Nat → Nat) (wt : Nat → Nat) (tl : Nat) (tx : Nat → Nat) (bd : Nat → Int32), RL9 nw ln wd wt tl tx bd c m
theorem Rel_phi (c m : St) (h : Rel c m) : 192 ≤ phi c ∧ phi c ≤ 124416 := by
  obtain ⟨nw, ln, wd, wt, tl, tx, bd, -, -, -, -, -, -, -, -, hp, -⟩ := h
  have h0 := hp 0 (by decide)
  have h1 := hp 1 (by decide)
  have h2 := hp 2 (by decide)
  unfold phi
  omega
