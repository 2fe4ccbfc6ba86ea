/-! What a text says: one reading that both sides are held against -/
def ch (T : List Int32) (a : Nat) : Int32 := T.getD a 0
def stre (T : List Int32) (s z : Nat) : List Int32 := (T.drop s).take (z - s)
def b2 (b : Bool) : Int32 := if b then 1 else 0
def isCh (c : Int32) : Bool := c == 10 || (32 ≤ c && c ≤ 126)
def bl (c : Int32) : Bool := c == 32 || c == 10
def pb (c : Int32) : Bool := (97 ≤ c && c ≤ 122) || (65 ≤ c && c ≤ 90) || c == 95
def gon (c : Int32) : Bool := pb c || (48 ≤ c && c ≤ 57) || c == 45 || c == 46
def scan (p : Int32 → Bool) (T : List Int32) (a : Nat) : Nat := a + ((T.drop a).takeWhile p).length
abbrev Wr : Type := Nat × Nat
def sName (T : List Int32) (a : Nat) : Except Wr (Nat × Nat) :=
  if pb (ch T a) then
    if ch T (scan gon T a) = 58 then
      (if pb (ch T (scan gon T a + 1)) then .ok (scan gon T a + 1, scan gon T (scan gon T a + 1)) else .error (1, scan gon T a + 1))
    else .ok (a, scan gon T a)
  else .error (1, a)
def d10 (c : Int32) : Bool := 48 ≤ c && c ≤ 57
def d16 (c : Int32) : Bool := d10 c || (97 ≤ c && c ≤ 102) || (65 ≤ c && c ≤ 70)
def dgt (base : Nat) (c : Int32) : Bool := if base = 16 then d16 c else d10 c
def dv (c : Int32) : Nat := (if 97 ≤ c then c - 97 + 10 else if 65 ≤ c then c - 65 + 10 else c - 48).toNatClampNeg
def num (base : Nat) (L : List Int32) : Nat := L.foldl (fun n c => n * base + dv c) 0
def isN (v : Nat) : Bool := v == 10 || (32 ≤ v && v ≤ 126)
def sNum (T : List Int32) (base a : Nat) : Option (Int32 × Nat) :=
  if ch T (scan (dgt base) T a) = 59 ∧ isN (num base (stre T a (scan (dgt base) T a))) then some (nI (num base (stre T a (scan (dgt base) T a))), scan (dgt base) T a + 1) else none
/-- the first character that is not as due -/
def pa (T : List Int32) : Nat → List Int32 → Except Wr Nat
  | a, [] => .ok a
  | a, c :: L => if ch T a = c then pa T (a + 1) L else .error (1, a)
def isAt (T : List Int32) (a : Nat) : List Int32 → Bool
  | [] => true
  | c :: L => ch T a == c && isAt T (a + 1) L
def sRef (T : List Int32) (a : Nat) : Option (Int32 × Nat) :=
  if isAt T a [38, 108, 116, 59] then some (60, a + 4)
  else if isAt T a [38, 103, 116, 59] then some (62, a + 4)
  else if isAt T a [38, 97, 109, 112, 59] then some (38, a + 5)
  else if isAt T a [38, 113, 117, 111, 116, 59] then some (34, a + 6)
  else if isAt T a [38, 97, 112, 111, 115, 59] then some (39, a + 6)
  else if isAt T a [38, 35, 120] then sNum T 16 (a + 3)
  else if isAt T a [38, 35] then sNum T 10 (a + 2)
  else none
def sVal (T : List Int32) (m : Int32) : Nat → Nat → List Int32 → Except Wr (Nat × List Int32)
  | 0, _, _ => .error (0, 0)
  | d + 1, a, acc =>
    if ch T a = m then .ok (a + 1, acc)
    else if ch T a = 60 then .error (1, a)
    else if ch T a = 0 then .error (1, a)
    else if ch T a = 38 then match sRef T a with
      | none => .error (3, a)
      | some (x, b) => sVal T m d b (acc ++ [x])
    else sVal T m d (a + 1) (acc ++ [if ch T a = 10 then 32 else ch T a])
/-- a name by its places; an attribute; an element with its attributes, the one around it, its depth -/
abbrev Nam : Type := Nat × Nat × Nat
def Nam.s (n : Nam) : Nat := n.1
def Nam.l (n : Nam) : Nat := n.2.1
def Nam.z (n : Nam) : Nat := n.2.2
abbrev Att : Type := Nam × List Int32
def Att.nm (x : Att) : Nam := x.1
def Att.val (x : Att) : List Int32 := x.2
abbrev Ele : Type := Nam × List Att × Option Nat × Nat
def Ele.nm (x : Ele) : Nam := x.1
def Ele.atts (x : Ele) : List Att := x.2.1
def Ele.par (x : Ele) : Option Nat := x.2.2.1
def Ele.dp (x : Ele) : Nat := x.2.2.2
/-- what happens: an element begins, ends (with the one around it); a character -/
abbrev Ev : Type := Sum Nat (Sum (Nat × Option Nat) Int32)
def Ev.b (e : Nat) : Ev := Sum.inl e
def Ev.z (e : Nat) (o : Option Nat) : Ev := Sum.inr (Sum.inl (e, o))
def Ev.c (x : Int32) : Ev := Sum.inr (Sum.inr x)
abbrev Ps : Type := Nat × List Ele × List Ev × Option Nat
def Ps.at_ (P : Ps) : Nat := P.1
def Ps.els (P : Ps) : List Ele := P.2.1
def Ps.evs (P : Ps) : List Ev := P.2.2.1
def Ps.opn (P : Ps) : Option Nat := P.2.2.2
def sAtt (T : List Int32) (a : Nat) : Except Wr (Att × Nat) :=
  match sName T a with
  | .error e => .error e
  | .ok (l, z) =>
    if ch T (scan bl T z) = 61 then
      (if ch T (scan bl T (scan bl T z + 1)) = 34 ∨ ch T (scan bl T (scan bl T z + 1)) = 39 then
        match sVal T (ch T (scan bl T (scan bl T z + 1))) (T.length + 1) (scan bl T (scan bl T z + 1) + 1) [] with
        | .error e => .error e
        | .ok (e, v) => .ok (⟨⟨a, l, z⟩, v⟩, e)
      else .error (1, scan bl T (scan bl T z + 1)))
    else .error (1, scan bl T z)
def sRest (T : List Int32) (first : Nat) : Nat → List Att → Nat → Except Wr (List Att × Bool × Nat)
  | 0, _, _ => .error (0, 0)
  | d + 1, atts, a =>
    if ch T (scan bl T a) = 62 then .ok (atts, false, scan bl T a + 1)
    else if ch T (scan bl T a) = 47 then
      (if ch T (scan bl T a + 1) = 62 then .ok (atts, true, scan bl T a + 2) else .error (1, scan bl T a + 1))
    else if scan bl T a = a ∨ pb (ch T (scan bl T a)) = false then .error (1, scan bl T a)
    else if 6 ≤ atts.length then .error (4, first)
    else match sAtt T (scan bl T a) with
      | .error e => .error e
      | .ok (x, e) => sRest T first d (atts ++ [x]) e
/-! names and spaces -/
def Nam.pre (n : Nam) : Bool := n.s < n.l
def Nam.pz (n : Nam) : Nat := if n.s < n.l then n.l - 1 else n.s
def nmT (T : List Int32) (n : Nam) : List Int32 := stre T n.s n.z
def loT (T : List Int32) (n : Nam) : List Int32 := stre T n.l n.z
def preT (T : List Int32) (n : Nam) : List Int32 := stre T n.s n.pz
def isD (T : List Int32) (n : Nam) : Bool := stre T n.s (if n.s < n.l then n.l - 1 else n.z) == [120, 109, 108, 110, 115]
/-- the prefix that a declaration is of -/
def dpT (T : List Int32) (n : Nam) : List Int32 := stre T (if n.s < n.l then n.l else n.z) n.z
def fDe (T : List Int32) (p : List Int32) (e : Nat) : Nat → List Att → Option Nat
  | _, [] => none
  | i, x :: L => if isD T x.nm && dpT T x.nm == p then some (6 * e + i) else fDe T p e (i + 1) L
/-- the declaration of a prefix that holds for an element -/
def dFor (T : List Int32) (els : List Ele) (p : List Int32) : Nat → Option Nat → Option Nat
  | 0, _ => none
  | _ + 1, none => none
  | d + 1, some e => match els[e]? with
    | none => none
    | some E => match fDe T p e 0 E.atts with
      | some a => some a
      | none => dFor T els p d E.par
def atA (els : List Ele) (a : Nat) : Option Att := (els[a / 6]?).bind (fun E => E.atts[a % 6]?)
def vOf (els : List Ele) (o : Option Nat) : List Int32 := match o.bind (atA els) with
  | none => []
  | some x => x.val
/-- the space of an element's name, of an attribute's: the declaration -/
def spE (T : List Int32) (els : List Ele) (k : Nat) (n : Nam) : Option Nat := dFor T els (preT T n) 25 (some k)
def spA (T : List Int32) (els : List Ele) (k : Nat) (n : Nam) : Option Nat := if n.pre then dFor T els (preT T n) 25 (some k) else none
/-! the checks of a tag -/
def ckN (T : List Int32) : List Att → List Att → Option Wr
  | _, [] => none
  | L, x :: R => if L.any (fun y => nmT T y.nm == nmT T x.nm) then some (5, x.nm.s) else ckN T (L ++ [x]) R
def ckD (T : List Int32) : List Att → Option Wr
  | [] => none
  | x :: R => if isD T x.nm && x.nm.pre && (x.val == [] || loT T x.nm == [120, 109, 108] || loT T x.nm == [120, 109, 108, 110, 115]) then some (6, x.nm.s) else ckD T R
def ckU (T : List Int32) (els : List Ele) (k : Nat) : List Att → Option Wr
  | [] => none
  | x :: R => if !isD T x.nm && x.nm.pre && vOf els (spA T els k x.nm) == [] then some (7, x.nm.s) else ckU T els k R
def mts (T : List Int32) (els : List Ele) (k : Nat) (y x : Nam) : Bool := !(vOf els (spA T els k y) == []) && vOf els (spA T els k y) == vOf els (spA T els k x) && loT T y == loT T x
def ckT (T : List Int32) (els : List Ele) (k : Nat) : List Att → List Att → Option Wr
  | _, [] => none
  | L, x :: R => if L.any (fun y => mts T els k y.nm x.nm) then some (8, x.nm.s) else ckT T els k (L ++ [x]) R
def chk (T : List Int32) (els : List Ele) (k : Nat) (E : Ele) : Option Wr :=
  match ckN T [] E.atts with
  | some w => some w
  | none => match ckD T E.atts with
    | some w => some w
    | none => if E.nm.pre && vOf els (spE T els k E.nm) == [] then some (7, E.nm.s) else match ckU T els k E.atts with
      | some w => some w
      | none => ckT T els k [] E.atts
def dpO (els : List Ele) (o : Option Nat) : Nat := match o.bind (fun e => els[e]?) with
  | none => 0
  | some E => E.dp
def sTag (T : List Int32) (P : Ps) : Except Wr Ps :=
  if pb (ch T (P.at_ + 1)) then
    if 24 ≤ P.els.length ∨ 12 ≤ dpO P.els P.opn then .error (4, P.at_)
    else match sName T (P.at_ + 1) with
    | .error e => .error e
    | .ok (l, z) => match sRest T P.at_ (T.length + 1) [] z with
      | .error e => .error e
      | .ok (atts, em, e) =>
        match chk T (P.els ++ [⟨⟨P.at_ + 1, l, z⟩, atts, P.opn, dpO P.els P.opn + 1⟩]) P.els.length ⟨⟨P.at_ + 1, l, z⟩, atts, P.opn, dpO P.els P.opn + 1⟩ with
        | some w => .error w
        | none => .ok ⟨e, P.els ++ [⟨⟨P.at_ + 1, l, z⟩, atts, P.opn, dpO P.els P.opn + 1⟩], P.evs ++ (if em then [.b P.els.length, .z P.els.length P.opn] else [.b P.els.length]), if em then P.opn else some P.els.length⟩
  else .error (1, P.at_ + 1)
def sEnd (T : List Int32) (P : Ps) (o : Nat) (E : Ele) : Except Wr Ps :=
  match sName T (P.at_ + 2) with
  | .error e => .error e
  | .ok (_, z) =>
    if stre T (P.at_ + 2) z = nmT T E.nm then
      (if ch T (scan bl T z) = 62 then .ok ⟨scan bl T z + 1, P.els, P.evs ++ [.z o E.par], E.par⟩ else .error (1, scan bl T z))
    else .error (2, P.at_ + 2)
/-- the first place from a on where a thing stands, or the end -/
def fat (L : List Int32) (T : List Int32) : Nat → Nat → Nat
  | 0, a => a
  | d + 1, a => if isAt T a L then a else fat L T d (a + 1)
def sCom (T : List Int32) (a : Nat) : Except Wr Nat :=
  match pa T a [60, 33, 45, 45] with
  | .error e => .error e
  | .ok b => pa T (fat [45, 45] T (T.length - b) b) [45, 45, 62]
def sSec (T : List Int32) (P : Ps) : Except Wr Ps :=
  match pa T P.at_ [60, 33, 91, 67, 68, 65, 84, 65, 91] with
  | .error e => .error e
  | .ok b => match pa T (fat [93, 93, 62] T (T.length - b) b) [93, 93, 62] with
    | .error e => .error e
    | .ok z => .ok ⟨z, P.els, P.evs ++ (stre T b (fat [93, 93, 62] T (T.length - b) b)).map .c, P.opn⟩
def sPro (T : List Int32) : Nat → Nat → Except Wr Nat
  | 0, _ => .error (0, 0)
  | d + 1, a => if ch T (scan bl T a) = 60 ∧ ch T (scan bl T a + 1) = 33 then
      (match sCom T (scan bl T a) with
      | .error e => .error e
      | .ok b => sPro T d b)
    else .ok (scan bl T a)
def sStep (T : List Int32) (P : Ps) (o : Nat) (E : Ele) : Except Wr Ps :=
  if ch T P.at_ = 38 then match sRef T P.at_ with
    | none => .error (3, P.at_)
    | some (x, b) => .ok ⟨b, P.els, P.evs ++ [.c x], P.opn⟩
  else if ch T P.at_ = 60 then
    if ch T (P.at_ + 1) = 47 then sEnd T P o E
    else if ch T (P.at_ + 1) = 33 then
      if ch T (P.at_ + 2) = 91 then sSec T P
      else match sCom T P.at_ with
        | .error e => .error e
        | .ok b => .ok ⟨b, P.els, P.evs, P.opn⟩
    else sTag T P
  else if ch T P.at_ = 0 ∨ (ch T P.at_ = 62 ∧ ch T (P.at_ - 1) = 93 ∧ ch T (P.at_ - 2) = 93) then .error (1, P.at_)
  else .ok ⟨P.at_ + 1, P.els, P.evs ++ [.c (ch T P.at_)], P.opn⟩
def sCon (T : List Int32) : Nat → Ps → Except Wr Ps
  | 0, _ => .error (0, 0)
  | d + 1, P => match P.opn with
    | none => .ok P
    | some o => match P.els[o]? with
      | none => .error (0, 0)
      | some E => match sStep T P o E with
        | .error e => .error e
        | .ok Q => sCon T d Q
def sDoc (T : List Int32) : Except Wr Ps :=
  match sPro T (T.length + 1) 0 with
  | .error e => .error e
  | .ok a =>
    if ch T a = 60 then match sTag T ⟨a, [], [], none⟩ with
      | .error e => .error e
      | .ok P => match sCon T (T.length + 1) P with
        | .error e => .error e
        | .ok Q => match sPro T (T.length + 1) Q.at_ with
          | .error e => .error e
          | .ok b => if b < T.length then .error (1, if ch T b = 60 then b + 1 else b) else .ok Q
    else .error (1, a)
/-! the form -/
def lxl : List Int32 → List Int32 → Bool
  | [], [] => false
  | [], _ :: _ => true
  | _ :: _, [] => false
  | a :: L, b :: R => if a = b then lxl L R else a < b
def cBf (T : List Int32) (els : List Ele) (k : Nat) (x y : Att) : Bool :=
  if isD T x.nm then (if isD T y.nm then lxl (dpT T x.nm) (dpT T y.nm) else true)
  else if isD T y.nm then false
  else if vOf els (spA T els k x.nm) = vOf els (spA T els k y.nm) then lxl (loT T x.nm) (loT T y.nm)
  else lxl (vOf els (spA T els k x.nm)) (vOf els (spA T els k y.nm))
def news (T : List Int32) (els : List Ele) (par : Option Nat) (x : Att) : Bool := !(isD T x.nm) || !(vOf els (dFor T els (dpT T x.nm) 25 par) == x.val)
/-- put into a list that has its last first -/
def ins (lt : Att → Att → Bool) (x : Att) : List Att → List Att
  | [] => [x]
  | y :: L => if lt x y then y :: ins lt x L else x :: y :: L
def srt (T : List Int32) (els : List Ele) (k : Nat) (E : Ele) : List Att := ((E.atts.filter (news T els E.par)).foldl (fun L x => ins (cBf T els k) x L) []).reverse
def escC (c : Int32) : List Int32 := if c = 38 then [38, 97, 109, 112, 59] else if c = 60 then [38, 108, 116, 59] else if c = 62 then [38, 103, 116, 59] else [c]
def escV (c : Int32) : List Int32 := if c = 38 then [38, 97, 109, 112, 59] else if c = 60 then [38, 108, 116, 59] else if c = 34 then [38, 113, 117, 111, 116, 59] else if c = 10 then [38, 35, 120, 65, 59] else [c]
def attF (T : List Int32) (x : Att) : List Int32 := [32] ++ nmT T x.nm ++ [61, 34] ++ x.val.flatMap escV ++ [34]
def begF (T : List Int32) (els : List Ele) (k : Nat) (E : Ele) : List Int32 := [60] ++ nmT T E.nm ++ (srt T els k E).flatMap (attF T) ++ [62]
def endF (T : List Int32) (E : Ele) : List Int32 := [60, 47] ++ nmT T E.nm ++ [62]
def evF (T : List Int32) (els : List Ele) (v : Ev) : List Int32 := match (v : Sum Nat (Sum (Nat × Option Nat) Int32)) with
  | .inl e => (match els[e]? with
    | none => []
    | some E => begF T els e E)
  | .inr (.inl (e, _)) => (match els[e]? with
    | none => []
    | some E => endF T E)
  | .inr (.inr x) => escC x
def form (T : List Int32) (P : Ps) : List Int32 := P.evs.flatMap (evF T P.els)
/-- whose content each character is -/
def ownS : Option Nat → List Ev → List (Option Nat × Int32)
  | _, [] => []
  | o, v :: L => match (v : Sum Nat (Sum (Nat × Option Nat) Int32)) with
    | .inl e => ownS (some e) L
    | .inr (.inl (_, p)) => ownS p L
    | .inr (.inr x) => (o, x) :: ownS o L
def curS : Option Nat → List Ev → Option Nat
  | o, [] => o
  | o, v :: L => match (v : Sum Nat (Sum (Nat × Option Nat) Int32)) with
    | .inl e => curS (some e) L
    | .inr (.inl (_, p)) => curS p L
    | .inr (.inr _) => curS o L
