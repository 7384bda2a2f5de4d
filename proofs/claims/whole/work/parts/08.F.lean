def FJ7_fill_53178_L5_B (c0 n0 : Nat) (a1 : Int) (k3 : Int) (k : Int → zM → Option (zM)) (rec : Int → zM → Option (zM)) (v2 : Int) (m_ : zM) : Option (zM) :=
if zI v2 < zI k3 then (
zwr m_ c0 v2 a1 n0 fun m1 =>
rec (v2 + 1) m1) else (
k v2 m_)
def FJ7_fill_53178_L5 (c0 n0 : Nat) (a1 : Int) (k3 : Int) (k : Int → zM → Option (zM)) : Nat → Int → zM → Option (zM) := zlp (FJ7_fill_53178_L5_B c0 n0 a1 k3 k) (fun _ _ => none)
def FJ7_fill_53178 (c0 n0 : Nat) (a1 : Int) (m : zM) : Option (zM) :=
FJ7_fill_53178_L5 c0 n0 a1 (n0 : Int) (fun y5_2 m5_ =>
some m5_) zfu 0 m
def FJ7_fill_d0a16_L6_B (c0 n0 : Nat) (a1 : Int) (k4 : Int) (k : Int → zM → Option (zM)) (rec : Int → zM → Option (zM)) (v3 : Int) (m_ : zM) : Option (zM) :=
if zI v3 < zI k4 then (
zwr m_ c0 v3 a1 n0 fun m1 =>
rec (v3 + 1) m1) else (
k v3 m_)
def FJ7_fill_d0a16_L6 (c0 n0 : Nat) (a1 : Int) (k4 : Int) (k : Int → zM → Option (zM)) : Nat → Int → zM → Option (zM) := zlp (FJ7_fill_d0a16_L6_B c0 n0 a1 k4 k) (fun _ _ => none)
def FJ7_fill_d0a16 (c0 n0 : Nat) (a1 : Int) (m : zM) : Option (zM) :=
FJ7_fill_d0a16_L6 c0 n0 a1 (n0 : Int) (fun y6_3 m6_ =>
some m6_) zfu 0 m
def FJ9_max_7cf53 (a0 : Int) (a1 : Int)  : Option (Int) :=
if zI a0 < zI a1 then (
some a1) else (
some a0)
def FJ9_min_7cf53 (a0 : Int) (a1 : Int)  : Option (Int) :=
if zI a1 < zI a0 then (
some a1) else (
some a0)
def FX0_forget  (m : zM) : Option (zM) :=
zpf m 21 3 0 fun m1 =>
some m1
def FX0_forgetOldest  (m : zM) : Option (zM) :=
zpf m 21 3 ((m 21 3) - 1) fun m1 =>
zcpy m1 22 22 1 0 (m1 21 3) 24 24 fun m2 =>
zcpy m2 23 23 1 0 (m2 21 3) 24 24 fun m3 =>
zcpy m3 24 24 1 0 (m3 21 3) 24 24 fun m4 =>
some m4
def FX0_note (a1 : Int) (a2 : Int) (a3 : Int) (m : zM) : Option (zM) :=
zjn (fun (mj13 : zM) =>
zwr mj13 22 (mj13 21 3) a1 24 fun m1 =>
zwr m1 23 (m1 21 3) a2 24 fun m2 =>
zwr m2 24 (m2 21 3) a3 24 fun m3 =>
zpf m3 21 3 ((m3 21 3) + 1) fun m4 =>
some m4) fun j13 =>
if zI (m 21 3) = zI 24 then (
zcl (FX0_forgetOldest m) fun m5 =>
j13 m5) else (
j13 m)
def FX1_edge (a0 : Int) (a1 : Int)  : Option (Int) :=
some (((a0 * 6) + a1) - 97)
def FX1_removeLast (o : Nat) (m : zM) : Option (zM) :=
zpf m o 9 ((m o 9) - 1) fun m1 =>
zrd m1 (o + 2) (m1 o 9) 48 fun x2 =>
zrd m1 (o + 7) x2 50 fun x3 =>
if zI x3 = zI (m1 o 9) then (
zrd m1 (o + 6) x2 50 fun x4 =>
zrd m1 (o + 1) (m1 o 9) 48 fun x5 =>
zcl (FX1_edge x4 x5) fun r6 =>
zwr m1 (o + 9) r6 (-1) 300 fun m7 =>
zpf m7 o 10 ((m7 o 10) - 1) fun m8 =>
some m8) else (
some m1)
def FX1_longestBehind_L5_B (o : Nat) (a1 : Int) (a2 : Int)  (m : zM) (k : Int → Int → Option (Int)) (rec : Int → Int → Option (Int)) (v3 : Int) (v4 : Int) : Option (Int) :=
if zI v4 < zI 50 then (
zrd m (o + 3) v3 50 fun x1 =>
if zI (((m o 9) - 1) - x1) < zI 0 then (
zrd m (o + 4) v3 50 fun x2 =>
rec x2 (v4 + 1)) else (
zrd m (o + 1) (((m o 9) - 1) - x1) 48 fun x3 =>
if zI x3 = zI a2 then (
some v3) else (
zrd m (o + 4) v3 50 fun x4 =>
rec x4 (v4 + 1)))) else (
k v3 v4)
def FX1_longestBehind_L5 (o : Nat) (a1 : Int) (a2 : Int)  (m : zM) (k : Int → Int → Option (Int)) : Nat → Int → Int → Option (Int) := zlp (FX1_longestBehind_L5_B o a1 a2 m k) (fun _ _ => none)
def FX1_longestBehind (o : Nat) (a1 : Int) (a2 : Int) (m : zM) : Option (Int) :=
FX1_longestBehind_L5 o a1 a2 m (fun y5_3 y5_4 =>
some 49) zfu a1 0
def FX1_less (o : Nat) (a1 : Int) (m : zM) : Option (Int) :=
zrd m (o + 3) a1 50 fun x1 =>
zrd m (o + 4) a1 50 fun x2 =>
zrd m (o + 3) x2 50 fun x3 =>
some (x1 - x3)
def FX1_create (o : Nat) (a1 : Int) (a2 : Int) (m : zM) : Option (Int × zM) :=
zrd m (o + 3) a1 50 fun x1 =>
zwr m (o + 3) (m o 10) (x1 + 2) 50 fun m2 =>
zwr m2 (o + 6) (m o 10) a1 50 fun m3 =>
zwr m3 (o + 7) (m o 10) (m3 o 9) 50 fun m4 =>
zjn (fun (s67_0 : Int) =>
zwr m4 (o + 4) (m o 10) s67_0 50 fun m5 =>
zrd m5 (o + 8) s67_0 50 fun x6 =>
zwr m5 (o + 8) (m o 10) (x6 + 1) 50 fun m7 =>
zcl (FX1_less o (m o 10) m7) fun r8 =>
zcl (FX1_less o s67_0 m7) fun r9 =>
zjn (fun (s123_0 : Int) =>
zwr m7 (o + 5) (m o 10) s123_0 50 fun m10 =>
zcl (FX1_edge a1 a2) fun r11 =>
zwr m10 (o + 9) r11 (m o 10) 300 fun m12 =>
zpf m12 o 10 ((m12 o 10) + 1) fun m13 =>
some ((m o 10), m13)) fun j123 =>
if zI r8 = zI r9 then (
zrd m7 (o + 5) s67_0 50 fun x14 =>
j123 x14) else (
j123 s67_0)) fun j67 =>
if zI a1 = zI 49 then (
j67 48) else (
zrd m4 (o + 4) a1 50 fun x16 =>
zcl (FX1_longestBehind o x16 a2 m4) fun r17 =>
zcl (FX1_edge r17 a2) fun r18 =>
zrd m4 (o + 9) r18 300 fun x19 =>
j67 x19)
def FX1_add (o : Nat) (a1 : Int) (m : zM) : Option (Int × zM) :=
zwr m (o + 1) (m o 9) a1 48 fun m1 =>
zjn (fun (s34_0 : Int) =>
zcl (FX1_longestBehind o s34_0 a1 m1) fun r2 =>
zcl (FX1_edge r2 a1) fun r3 =>
zrd m1 (o + 9) r3 300 fun x4 =>
zjn (fun (u62_3 : Int) (mj62 : zM) =>
zwr mj62 (o + 2) (mj62 o 9) u62_3 48 fun m5 =>
zpf m5 o 9 ((m5 o 9) + 1) fun m6 =>
zrd m6 (o + 3) u62_3 50 fun x7 =>
some (x7, m6)) fun j62 =>
if zI x4 = zI (-1) then (
zcl2 (FX1_create o r2 a1 m1) fun r8 m8 =>
j62 r8 m8) else (
j62 x4 m1)) fun j34 =>
if zI (m1 o 9) = zI 0 then (
j34 48) else (
zrd m1 (o + 2) ((m1 o 9) - 1) 48 fun x10 =>
j34 x10)
def FX1_shorten_L5_B (o : Nat) (a1 : Int) (k : Int → zM → Option (zM)) (rec : Int → zM → Option (zM)) (v2 : Int) (m_ : zM) : Option (zM) :=
if zI a1 < zI v2 then (
zcl (FX1_removeLast o m_) fun m1 =>
rec (v2 + -1) m1) else (
k v2 m_)
def FX1_shorten_L5 (o : Nat) (a1 : Int) (k : Int → zM → Option (zM)) : Nat → Int → zM → Option (zM) := zlp (FX1_shorten_L5_B o a1 k) (fun _ _ => none)
def FX1_shorten (o : Nat) (a1 : Int) (m : zM) : Option (zM) :=
FX1_shorten_L5 o a1 (fun y5_2 m5_ =>
some m5_) zfu (m o 9) m
def FX1_replace_L21_B (o : Nat) (a1 : Int) (a2 : Int) (k3 : Int) (k : Int → zM → Option (zM)) (rec : Int → zM → Option (zM)) (v4 : Int) (m_ : zM) : Option (zM) :=
if zI v4 < zI k3 then (
zrd m_ (o + 1) v4 48 fun x3 =>
zcl2 (FX1_add o x3 m_) fun r4 m4 =>
rec (v4 + 1) m4) else (
k v4 m_)
def FX1_replace_L21 (o : Nat) (a1 : Int) (a2 : Int) (k3 : Int) (k : Int → zM → Option (zM)) : Nat → Int → zM → Option (zM) := zlp (FX1_replace_L21_B o a1 a2 k3 k) (fun _ _ => none)
def FX1_replace (o : Nat) (a1 : Int) (a2 : Int) (m : zM) : Option (zM) :=
zcl (FX1_shorten o a1 m) fun m1 =>
zcl2 (FX1_add o a2 m1) fun r2 m2 =>
FX1_replace_L21 o a1 a2 (m o 9) (fun y21_4 m21_ =>
some m21_) zfu (a1 + 1) m2
def FX0_takeBackLatest (o1 : Nat) (m : zM) : Option (zM) :=
zpf m 21 3 ((m 21 3) - 1) fun m1 =>
zrd m1 22 (m1 21 3) 24 fun x2 =>
if zI x2 = zI 0 then (
zcl (FX1_removeLast o1 m1) fun m10 =>
some m10) else (
zrd m1 22 (m1 21 3) 24 fun x3 =>
if zI x3 = zI 1 then (
zrd m1 24 (m1 21 3) 24 fun x7 =>
zcl2 (FX1_add o1 x7 m1) fun r8 m8 =>
some m8) else (
zrd m1 23 (m1 21 3) 24 fun x4 =>
zrd m1 24 (m1 21 3) 24 fun x5 =>
zcl (FX1_replace o1 x4 x5 m1) fun m6 =>
some m6))
def FX1_allPlaces_L4_B (o : Nat)  (m : zM) (k : Int → Int → Option (Int)) (rec : Int → Int → Option (Int)) (v1 : Int) (v2 : Int) : Option (Int) :=
if zI v2 < zI (m o 9) then (
zrd m (o + 2) v2 48 fun x1 =>
zrd m (o + 8) x1 50 fun x2 =>
rec (v1 + x2) (v2 + 1)) else (
k v1 v2)
def FX1_allPlaces_L4 (o : Nat)  (m : zM) (k : Int → Int → Option (Int)) : Nat → Int → Int → Option (Int) := zlp (FX1_allPlaces_L4_B o m k) (fun _ _ => none)
def FX1_allPlaces (o : Nat) (m : zM) : Option (Int) :=
FX1_allPlaces_L4 o m (fun y4_1 y4_2 =>
some y4_1) zfu 0 0
def FX1_around (o : Nat) (a1 : Int) (m : zM) : Option (Int) :=
if zI a1 < zI (m o 9) then (
some a1) else (
some (a1 - (m o 9)))
def FX1_evenNodes_L4_B (o : Nat)  (m : zM) (k : Int → Int → Option (Int)) (rec : Int → Int → Option (Int)) (v1 : Int) (v2 : Int) : Option (Int) :=
if zI v2 < zI (m o 10) then (
zrd m (o + 3) v2 50 fun x1 =>
zgd (zdg x1 2) <|
if zI (x1 % 2) = zI 0 then (
rec (v1 + 1) (v2 + 1)) else (
rec v1 (v2 + 1))) else (
k v1 v2)
def FX1_evenNodes_L4 (o : Nat)  (m : zM) (k : Int → Int → Option (Int)) : Nat → Int → Int → Option (Int) := zlp (FX1_evenNodes_L4_B o m k) (fun _ _ => none)
def FX1_evenNodes (o : Nat) (m : zM) : Option (Int) :=
FX1_evenNodes_L4 o m (fun y4_1 y4_2 =>
some y4_1) zfu 0 0
def FX1_firstPlace (o : Nat) (a1 : Int) (m : zM) : Option (Int) :=
zrd m (o + 7) a1 50 fun x1 =>
zrd m (o + 3) a1 50 fun x2 =>
some ((x1 - x2) + 1)
def FX1_isMirrorTurned_L2_B (o : Nat) (a1 : Int)  (m : zM) (k : Int → Option (Int)) (rec : Int → Option (Int)) (v2 : Int) : Option (Int) :=
zgd (zdg (m o 9) 2) <|
if zI v2 < zI ((m o 9) / 2) then (
zcl (FX1_around o (a1 + v2) m) fun r2 =>
zrd m (o + 1) r2 48 fun x3 =>
zcl (FX1_around o (((a1 + (m o 9)) - 1) - v2) m) fun r4 =>
zrd m (o + 1) r4 48 fun x5 =>
if zI x3 = zI x5 then (
rec (v2 + 1)) else (
some 0)) else (
k v2)
def FX1_isMirrorTurned_L2 (o : Nat) (a1 : Int)  (m : zM) (k : Int → Option (Int)) : Nat → Int → Option (Int) := zlp (FX1_isMirrorTurned_L2_B o a1 m k) (fun _ => none)
def FX1_isMirrorTurned (o : Nat) (a1 : Int) (m : zM) : Option (Int) :=
FX1_isMirrorTurned_L2 o a1 m (fun y2_2 =>
some 1) zfu 0
def FX1_lastLetter (o : Nat) (m : zM) : Option (Int) :=
if zI (m o 9) = zI 0 then (
some (-1)) else (
zrd m (o + 1) ((m o 9) - 1) 48 fun x1 =>
some x1)
def FX1_standsAt_L3_B (o : Nat) (a1 : Int) (c2 n2 : Nat) (a3 : Int) (a4 : Int)  (m : zM) (k : Int → Option (Int)) (rec : Int → Option (Int)) (v5 : Int) : Option (Int) :=
if zI v5 < zI a4 then (
zrd m (o + 1) (a1 + v5) 48 fun x1 =>
zrd m c2 (a3 + v5) n2 fun x2 =>
if zI x1 = zI x2 then (
rec (v5 + 1)) else (
some 0)) else (
k v5)
def FX1_standsAt_L3 (o : Nat) (a1 : Int) (c2 n2 : Nat) (a3 : Int) (a4 : Int)  (m : zM) (k : Int → Option (Int)) : Nat → Int → Option (Int) := zlp (FX1_standsAt_L3_B o a1 c2 n2 a3 a4 m k) (fun _ => none)
def FX1_standsAt (o : Nat) (a1 : Int) (c2 n2 : Nat) (a3 : Int) (a4 : Int) (m : zM) : Option (Int) :=
FX1_standsAt_L3 o a1 c2 n2 a3 a4 m (fun y3_5 =>
some 1) zfu 0
def FX1_lastPlace_L18_B (o : Nat) (a1 : Int) (k2 : Int) (m : zM) (k : Int → Option (Int)) (rec : Int → Option (Int)) (v3 : Int) : Option (Int) :=
if zI k2 < zI v3 then (
zrd m (o + 3) a1 50 fun x3 =>
zcl (FX1_standsAt o v3 (o + 1) 48 k2 x3 m) fun r4 =>
if zI r4 = zI 0 then (
rec (v3 + -1)) else (
some v3)) else (
k v3)
def FX1_lastPlace_L18 (o : Nat) (a1 : Int) (k2 : Int) (m : zM) (k : Int → Option (Int)) : Nat → Int → Option (Int) := zlp (FX1_lastPlace_L18_B o a1 k2 m k) (fun _ => none)
def FX1_lastPlace (o : Nat) (a1 : Int) (m : zM) : Option (Int) :=
zcl (FX1_firstPlace o a1 m) fun r1 =>
zrd m (o + 3) a1 50 fun x2 =>
FX1_lastPlace_L18 o a1 r1 m (fun y18_3 =>
some r1) zfu ((m o 9) - x2)
def FX1_lengthen_L2_B (o : Nat) (a1 : Int) (k : Int → zM → Option (zM)) (rec : Int → zM → Option (zM)) (v2 : Int) (m_ : zM) : Option (zM) :=
if zI v2 < zI a1 then (
zcl2 (FX1_add o 97 m_) fun r1 m1 =>
rec (v2 + 1) m1) else (
k v2 m_)
def FX1_lengthen_L2 (o : Nat) (a1 : Int) (k : Int → zM → Option (zM)) : Nat → Int → zM → Option (zM) := zlp (FX1_lengthen_L2_B o a1 k) (fun _ _ => none)
def FX1_lengthen (o : Nat) (a1 : Int) (m : zM) : Option (zM) :=
FX1_lengthen_L2 o a1 (fun y2_2 m2_ =>
some m2_) zfu 0 m
def FX1_load_L8_B (o : Nat) (c1 n1 : Nat) (a2 : Int) (a3 : Int) (k : Int → zM → Option (zM)) (rec : Int → zM → Option (zM)) (v4 : Int) (m_ : zM) : Option (zM) :=
if zI v4 < zI a3 then (
zrd m_ c1 v4 n1 fun x2 =>
zcl2 (FX1_add o x2 m_) fun r3 m3 =>
rec (v4 + 1) m3) else (
k v4 m_)
def FX1_load_L8 (o : Nat) (c1 n1 : Nat) (a2 : Int) (a3 : Int) (k : Int → zM → Option (zM)) : Nat → Int → zM → Option (zM) := zlp (FX1_load_L8_B o c1 n1 a2 a3 k) (fun _ _ => none)
def FX1_load (o : Nat) (c1 n1 : Nat) (a2 : Int) (a3 : Int) (m : zM) : Option (zM) :=
zcl (FX1_shorten o 0 m) fun m1 =>
FX1_load_L8 o c1 n1 a2 a3 (fun y8_4 m8_ =>
some m8_) zfu a2 m1
def FX1_longestNode_L4_B (o : Nat)  (m : zM) (k : Int → Int → Option (Int)) (rec : Int → Int → Option (Int)) (v1 : Int) (v2 : Int) : Option (Int) :=
if zI v2 < zI (m o 10) then (
if zI v1 = zI (-1) then (
rec v2 (v2 + 1)) else (
zrd m (o + 3) v2 50 fun x1 =>
zrd m (o + 3) v1 50 fun x2 =>
if zI x2 < zI x1 then (
rec v2 (v2 + 1)) else (
rec v1 (v2 + 1)))) else (
k v1 v2)
def FX1_longestNode_L4 (o : Nat)  (m : zM) (k : Int → Int → Option (Int)) : Nat → Int → Int → Option (Int) := zlp (FX1_longestNode_L4_B o m k) (fun _ _ => none)
def FX1_longestNode (o : Nat) (m : zM) : Option (Int) :=
FX1_longestNode_L4 o m (fun y4_1 y4_2 =>
some y4_1) zfu (-1) 0
def FX1_nodeOf_L3_B (o : Nat) (c1 n1 : Nat) (a2 : Int) (a3 : Int)  (m : zM) (k : Int → Option (Int)) (rec : Int → Option (Int)) (v4 : Int) : Option (Int) :=
if zI v4 < zI (m o 10) then (
zrd m (o + 3) v4 50 fun x1 =>
if zI x1 = zI a3 then (
zcl (FX1_firstPlace o v4 m) fun r2 =>
zcl (FX1_standsAt o r2 c1 n1 a2 a3 m) fun r3 =>
if zI r3 = zI 0 then (
rec (v4 + 1)) else (
some v4)) else (
rec (v4 + 1))) else (
k v4)
def FX1_nodeOf_L3 (o : Nat) (c1 n1 : Nat) (a2 : Int) (a3 : Int)  (m : zM) (k : Int → Option (Int)) : Nat → Int → Option (Int) := zlp (FX1_nodeOf_L3_B o c1 n1 a2 a3 m k) (fun _ => none)
def FX1_nodeOf (o : Nat) (c1 n1 : Nat) (a2 : Int) (a3 : Int) (m : zM) : Option (Int) :=
FX1_nodeOf_L3 o c1 n1 a2 a3 m (fun y3_4 =>
some (-1)) zfu 0
def FX1_places_L6_B (o : Nat) (c1 n1 : Nat) (a2 : Int) (a3 : Int)  (m : zM) (k : Int → Int → Option (Int)) (rec : Int → Int → Option (Int)) (v4 : Int) (v5 : Int) : Option (Int) :=
if zI (m o 9) < zI (v5 + a3) then (
k v4 v5) else (
zcl (FX1_standsAt o v5 c1 n1 a2 a3 m) fun r1 =>
if zI r1 = zI 0 then (
rec v4 (v5 + 1)) else (
rec (v4 + 1) (v5 + 1)))
def FX1_places_L6 (o : Nat) (c1 n1 : Nat) (a2 : Int) (a3 : Int)  (m : zM) (k : Int → Int → Option (Int)) : Nat → Int → Int → Option (Int) := zlp (FX1_places_L6_B o c1 n1 a2 a3 m k) (fun _ _ => none)
def FX1_places (o : Nat) (c1 n1 : Nat) (a2 : Int) (a3 : Int) (m : zM) : Option (Int) :=
FX1_places_L6 o c1 n1 a2 a3 m (fun y6_4 y6_5 =>
some y6_4) zfu 0 0
def FX1_unlikePairs_L4_B (o : Nat)  (m : zM) (k : Int → Int → Option (Int)) (rec : Int → Int → Option (Int)) (v1 : Int) (v2 : Int) : Option (Int) :=
zgd (zdg (m o 9) 2) <|
if zI v2 < zI ((m o 9) / 2) then (
zrd m (o + 1) v2 48 fun x2 =>
zrd m (o + 1) (((m o 9) - 1) - v2) 48 fun x3 =>
if zI x2 = zI x3 then (
rec v1 (v2 + 1)) else (
rec (v1 + 1) (v2 + 1))) else (
k v1 v2)
def FX1_unlikePairs_L4 (o : Nat)  (m : zM) (k : Int → Int → Option (Int)) : Nat → Int → Int → Option (Int) := zlp (FX1_unlikePairs_L4_B o m k) (fun _ _ => none)
def FX1_unlikePairs (o : Nat) (m : zM) : Option (Int) :=
FX1_unlikePairs_L4 o m (fun y4_1 y4_2 =>
some y4_1) zfu 0 0
def FX2_reachFrom_L29_B (a1 : Int) (o2 : Nat) (a3 : Int) (k4 : Int) (k : Int → Int → zM → Option (zM)) (rec : Int → Int → zM → Option (zM)) (v5 : Int) (v6 : Int) (m_ : zM) : Option (zM) :=
if zI 0 < zI v6 then (
zrd m_ (o2 + 3) v5 50 fun x4 =>
zjn (fun (s65_0 : Int) =>
if zI s65_0 = zI 0 then (
zrd m_ (o2 + 4) v5 50 fun x5 =>
rec x5 (v6 + -1) m_) else (
zrd m_ 26 (a1 - x4) 49 fun x6 =>
if zI x6 < zI k4 then (
zrd m_ (o2 + 4) v5 50 fun x7 =>
rec x7 (v6 + -1) m_) else (
zwr m_ 26 (a1 - x4) k4 49 fun m8 =>
zwr m8 27 (a1 - x4) x4 49 fun m9 =>
zrd m9 (o2 + 4) v5 50 fun x10 =>
rec x10 (v6 + -1) m9))) fun j65 =>
if zI a3 = zI 0 then (
j65 1) else (
zgd (zdg x4 2) <|
if zI (x4 % 2) = zI 0 then (
j65 1) else (
j65 0))) else (
k v5 v6 m_)
def FX2_reachFrom_L29 (a1 : Int) (o2 : Nat) (a3 : Int) (k4 : Int) (k : Int → Int → zM → Option (zM)) : Nat → Int → Int → zM → Option (zM) := zlp (FX2_reachFrom_L29_B a1 o2 a3 k4 k) (fun _ _ _ => none)
def FX2_reachFrom (a1 : Int) (o2 : Nat) (a3 : Int) (m : zM) : Option (zM) :=
zrd m 26 a1 49 fun x1 =>
zrd m (o2 + 2) (a1 - 1) 48 fun x2 =>
zrd m (o2 + 8) x2 50 fun x3 =>
FX2_reachFrom_L29 a1 o2 a3 (x1 + 1) (fun y29_5 y29_6 m29_ =>
some m29_) zfu x2 x3 m
def FX2_cut_L20_B (o1 : Nat) (a2 : Int) (a3 : Int) (k : Int → zM → Option (zM)) (rec : Int → zM → Option (zM)) (v4 : Int) (m_ : zM) : Option (zM) :=
if zI 0 < zI v4 then (
zrd m_ 26 v4 49 fun x3 =>
if zI x3 < zI 1000 then (
zcl (FX2_reachFrom v4 o1 a3 m_) fun m4 =>
rec (v4 + -1) m4) else (
rec (v4 + -1) m_)) else (
k v4 m_)
def FX2_cut_L20 (o1 : Nat) (a2 : Int) (a3 : Int) (k : Int → zM → Option (zM)) : Nat → Int → zM → Option (zM) := zlp (FX2_cut_L20_B o1 a2 a3 k) (fun _ _ => none)
def FX2_cut (o1 : Nat) (a2 : Int) (a3 : Int) (m : zM) : Option (zM) :=
zcl (FJ7_fill_53178 26 49 1000 m) fun m1 =>
zwr m1 26 a2 0 49 fun m2 =>
FX2_cut_L20 o1 a2 a3 (fun y20_4 m20_ =>
some m20_) zfu a2 m2
def FX2_pieceLength_L4_B (a1 : Int)  (m : zM) (k : Int → Int → Option (Int)) (rec : Int → Int → Option (Int)) (v2 : Int) (v3 : Int) : Option (Int) :=
if zI v3 < zI a1 then (
zrd m 27 v2 49 fun x1 =>
rec (v2 + x1) (v3 + 1)) else (
k v2 v3)
def FX2_pieceLength_L4 (a1 : Int)  (m : zM) (k : Int → Int → Option (Int)) : Nat → Int → Int → Option (Int) := zlp (FX2_pieceLength_L4_B a1 m k) (fun _ _ => none)
def FX2_pieceLength (a1 : Int) (m : zM) : Option (Int) :=
FX2_pieceLength_L4 a1 m (fun y4_2 y4_3 =>
zrd m 27 y4_2 49 fun x3 =>
some x3) zfu 0 0
def FX2_pieces  (m : zM) : Option (Int) :=
zrd m 26 0 49 fun x1 =>
some x1
def FX3_append (o : Nat) (a1 : Int) (m : zM) : Option (zM) :=
zwr m (o + 1) (m o 1) a1 48 fun m1 =>
zpf m1 o 1 ((m1 o 1) + 1) fun m2 =>
some m2
def FX3_hold (o : Nat) (c1 n1 : Nat) (a2 : Int) (m : zM) : Option (zM) :=
zcpy m c1 (o + 1) 0 0 a2 n1 48 fun m1 =>
zpf m1 o 1 a2 fun m2 =>
some m2
def FX4_begin (o : Nat) (a1 : Int) (a2 : Int) (m : zM) : Option (zM) :=
zcl (FJ7_fill_d0a16 (o + 1) 48 0 m) fun m1 =>
zpf m1 o 1 a1 fun m2 =>
zpf m2 o 2 a2 fun m3 =>
some m3
def FX5_isByte (a0 : Int)  : Option (Int) :=
if zJ a0 < zJ 0 then (
some 0) else (
if zJ 255 < zJ a0 then (
some 0) else (
some 1))
def FX4_holdsBytes_L2_B (o : Nat) (a1 : Int) (a2 : Int)  (m : zM) (k : Int → Option (Int)) (rec : Int → Option (Int)) (v3 : Int) : Option (Int) :=
if zI v3 < zI a2 then (
zrd m (o + 1) (a1 + v3) 48 fun x1 =>
zcl (FX5_isByte x1) fun r2 =>
if zI r2 = zI 0 then (
some 0) else (
rec (v3 + 1))) else (
k v3)
def FX4_holdsBytes_L2 (o : Nat) (a1 : Int) (a2 : Int)  (m : zM) (k : Int → Option (Int)) : Nat → Int → Option (Int) := zlp (FX4_holdsBytes_L2_B o a1 a2 m k) (fun _ => none)
def FX4_holdsBytes (o : Nat) (a1 : Int) (a2 : Int) (m : zM) : Option (Int) :=
FX4_holdsBytes_L2 o a1 a2 m (fun y2_3 =>
some 1) zfu 0
def FX4_narrowed (o : Nat) (a1 : Int) (m : zM) : Option (Int) :=
if zI (m o 1) = zI 0 then (
zgd (zR (zch (zw a1))) <|
some (zch (zw a1))) else (
if zI (m o 1) = zI 1 then (
zgd (zR (zsh (zw a1))) <|
some (zsh (zw a1))) else (
if zI (m o 1) = zI 2 then (
zgd (zR (zw a1)) <|
some (zw a1)) else (
some a1)))
def FX4_refusal (o : Nat) (a1 : Int) (a2 : Int) (a3 : Int) (m : zM) : Option (Int) :=
if zI (m o 2) = zI (-1) then (
some (-11)) else (
if zI (m o 1) = zI a1 then (
if zI a2 < zI 0 then (
some (-13)) else (
if zI a3 < zI 0 then (
some (-13)) else (
if zI ((m o 2) - a3) < zI a2 then (
some (-13)) else (
some 0)))) else (
some (-12)))
def FX4_store (o : Nat) (a1 : Int) (a2 : Int) (m : zM) : Option (Int × zM) :=
zcl (FX4_narrowed o a2 m) fun r1 =>
zwr m (o + 1) a1 r1 48 fun m2 =>
zrd m2 (o + 1) a1 48 fun x3 =>
some (x3, m2)
def FX5_within (a0 : Int) (a1 : Int) (a2 : Int)  : Option (Int) :=
if zI a0 < zI a1 then (
some 0) else (
if zI a2 < zI a0 then (
some 0) else (
some 1))
def FX5_back (a1 : Int) (m : zM) : Option (Int × zM) :=
zcl (FX5_within a1 0 1) fun r1 =>
if zI r1 = zI 0 then (
some ((-1), m)) else (
zix a1 2 <|
if zI (m (29 + 2 * (a1).toNat) 1) = zI (-1) then (
some ((-2), m)) else (
zcl (FX1_load 1 ((29 + 2 * (a1).toNat) + 1) 48 0 (m (29 + 2 * (a1).toNat) 1) m) fun m3 =>
zcl (FX0_forget m3) fun m4 =>
some ((m4 1 9), m4)))
def FX5_isPlace (a1 : Int) (m : zM) : Option (Int) :=
zcl (FX5_within a1 0 ((m 1 9) - 1)) fun r1 =>
zgd (r1 = 0 ∨ r1 = 1) <|
some r1
def FX5_isLetter (a0 : Int)  : Option (Int) :=
zcl (FX5_within a0 97 102) fun r1 =>
zgd (r1 = 0 ∨ r1 = 1) <|
some r1
def FX5_change (a1 : Int) (a2 : Int) (m : zM) : Option (Int × zM) :=
zcl (FX5_isPlace a1 m) fun r1 =>
if zI r1 = zI 0 then (
some ((-1), m)) else (
zcl (FX5_isLetter a2) fun r2 =>
if zI r2 = zI 0 then (
some ((-1), m)) else (
zrd m 2 a1 48 fun x3 =>
if zI x3 = zI a2 then (
some ((-2), m)) else (
zcl (FX1_replace 1 a1 a2 m) fun m4 =>
zcl (FX0_note 2 a1 x3 m4) fun m5 =>
some (x3, m5))))
def FX5_clear  (m : zM) : Option (Int × zM) :=
zpf m 33 1 0 fun m1 =>
some ((m 33 1), m1)
def FX5_common_L63_B (a1 : Int) (a2 : Int)  (mc : zM) (k : Int → Int → Int → Option (Int × zM)) (rec : Int → Int → Int → Option (Int × zM)) (v4 : Int) (v5 : Int) (v6 : Int) : Option (Int × zM) :=
if zI v6 < zI (mc 11 10) then (
zrd mc 14 v6 50 fun x5 =>
zcl (FX1_firstPlace 11 v6 mc) fun r6 =>
zcl (FX1_nodeOf 1 12 48 r6 x5 mc) fun r7 =>
if zI r7 = zI (-1) then (
rec v4 v5 (v6 + 1)) else (
zcl (FJ9_max_7cf53 v5 x5) fun r8 =>
rec (v4 + 1) r8 (v6 + 1))) else (
k v4 v5 v6)
def FX5_common_L63 (a1 : Int) (a2 : Int)  (mc : zM) (k : Int → Int → Int → Option (Int × zM)) : Nat → Int → Int → Int → Option (Int × zM) := zlp (FX5_common_L63_B a1 a2 mc k) (fun _ _ _ => none)
def FX5_common (a1 : Int) (a2 : Int) (m : zM) : Option (Int × zM) :=
zcl (FX5_within a1 0 1) fun r1 =>
if zI r1 = zI 0 then (
some ((-1), m)) else (
zcl (FX5_within a2 0 1) fun r2 =>
if zI r2 = zI 0 then (
some ((-1), m)) else (
zix a1 2 <|
if zI (m (29 + 2 * (a1).toNat) 1) = zI (-1) then (
some ((-2), m)) else (
zcl (FX1_load 11 ((29 + 2 * (a1).toNat) + 1) 48 0 (m (29 + 2 * (a1).toNat) 1) m) fun m4 =>
FX5_common_L63 a1 a2 m4 (fun y63_4 y63_5 y63_6 =>
if zI a2 = zI 0 then (
some (y63_4, m4)) else (
some (y63_5, m4))) zfu 0 0 0)))
def FX5_isSheet (a0 : Int)  : Option (Int) :=
zcl (FX5_within a0 0 3) fun r1 =>
zgd (r1 = 0 ∨ r1 = 1) <|
some r1
def FX5_copy (a1 : Int) (a2 : Int) (a3 : Int) (a4 : Int) (a5 : Int) (m : zM) : Option (Int × zM) :=
zcl (FX5_isSheet a1) fun r1 =>
if zI r1 = zI 0 then (
some ((-1), m)) else (
zcl (FX5_isSheet a3) fun r2 =>
if zI r2 = zI 0 then (
some ((-1), m)) else (
zix a1 4 <|
zix a3 4 <|
if zI (m (36 + 2 * (a1).toNat) 2) = zI (-1) then (
some ((-11), m)) else (
if zI (m (36 + 2 * (a3).toNat) 2) = zI (-1) then (
some ((-11), m)) else (
zcl (FX4_refusal (36 + 2 * (a3).toNat) (m (36 + 2 * (a1).toNat) 1) a4 a5 m) fun r5 =>
zjn (fun (u89_8 : Int) =>
if zI u89_8 = zI 0 then (
zcpy m ((36 + 2 * (a1).toNat) + 1) ((36 + 2 * (a3).toNat) + 1) a2 a4 a5 48 48 fun m6 =>
some (a5, m6)) else (
some (u89_8, m))) fun j89 =>
if zI r5 = zI 0 then (
zcl (FX4_refusal (36 + 2 * (a1).toNat) (m (36 + 2 * (a1).toNat) 1) a2 a5 m) fun r8 =>
j89 r8) else (
j89 r5)))))
def FX5_count (a1 : Int) (m : zM) : Option (Int) :=
if zI a1 = zI 0 then (
some (m 1 9)) else (
if zI a1 = zI 1 then (
some (m 1 10)) else (
if zI a1 = zI 2 then (
zcl (FX1_allPlaces 1 m) fun r2 =>
some r2) else (
if zI a1 = zI 3 then (
zcl (FX1_evenNodes 1 m) fun r3 =>
some r3) else (
if zI a1 = zI 4 then (
zcl (FX1_longestNode 1 m) fun r4 =>
if zI r4 = zI (-1) then (
some 0) else (
zrd m 4 r4 50 fun x5 =>
some x5)) else (
if zI a1 = zI 5 then (
if zI (m 1 10) = zI (m 1 9) then (
some 1) else (
some 0)) else (
if zI a1 = zI 6 then (
some (m 21 3)) else (
if zI a1 = zI 7 then (
some (m 33 1)) else (
some (-1)))))))))
def FX5_cuts (a1 : Int) (a2 : Int) (m : zM) : Option (Int × zM) :=
zcl (FX5_within a1 0 (m 1 9)) fun r1 =>
if zI r1 = zI 0 then (
some ((-1), m)) else (
if zI a2 < zI (-1) then (
some ((-1), m)) else (
zcl (FX2_cut 1 a1 0 m) fun m2 =>
zcl (FX2_pieces m2) fun r3 =>
if zI a2 = zI (-1) then (
some (r3, m2)) else (
if zI a2 < zI r3 then (
zcl (FX2_pieceLength a2 m2) fun r4 =>
some (r4, m2)) else (
some ((-4), m2)))))
def FX5_drop (a1 : Int) (m : zM) : Option (Int × zM) :=
zcl (FX5_isSheet a1) fun r1 =>
if zI r1 = zI 0 then (
some ((-1), m)) else (
zix a1 4 <|
if zI (m (36 + 2 * (a1).toNat) 2) = zI (-1) then (
some ((-11), m)) else (
zix a1 4 <|
zpf m (36 + 2 * (a1).toNat) 2 (-1) fun m4 =>
some ((m (36 + 2 * (a1).toNat) 2), m4)))
def FX5_ends_L56_B (a1 : Int) (a2 : Int)  (m : zM) (k : Int → Int → Option (Int)) (rec : Int → Int → Option (Int)) (v3 : Int) (v5 : Int) : Option (Int) :=
if zI v5 < zI a2 then (
zrd m 5 v3 50 fun x4 =>
rec x4 (v5 + 1)) else (
k v3 v5)
def FX5_ends_L56 (a1 : Int) (a2 : Int)  (m : zM) (k : Int → Int → Option (Int)) : Nat → Int → Int → Option (Int) := zlp (FX5_ends_L56_B a1 a2 m k) (fun _ _ => none)
def FX5_ends (a1 : Int) (a2 : Int) (m : zM) : Option (Int) :=
zcl (FX5_isPlace a1 m) fun r1 =>
if zI r1 = zI 0 then (
some (-1)) else (
if zI a2 < zI (-1) then (
some (-1)) else (
zrd m 3 a1 48 fun x2 =>
zrd m 9 x2 50 fun x3 =>
if zI a2 = zI (-1) then (
some x3) else (
if zI a2 < zI x3 then (
FX5_ends_L56 a1 a2 m (fun y56_3 y56_5 =>
zrd m 4 y56_3 50 fun x6 =>
some x6) zfu x2 0) else (
some (-4)))))
def FX5_evens (a1 : Int) (m : zM) : Option (Int × zM) :=
zcl (FX5_within a1 0 (m 1 9)) fun r1 =>
if zI r1 = zI 0 then (
some ((-1), m)) else (
zcl (FX2_cut 1 a1 1 m) fun m2 =>
zcl (FX2_pieces m2) fun r3 =>
if zI r3 < zI 1000 then (
some (r3, m2)) else (
some ((-4), m2)))
def FX5_feed (a1 : Int) (m : zM) : Option (Int × zM) :=
zgd (zR a1) <|
zcl (FX5_isByte a1) fun r2 =>
if zI r2 = zI 0 then (
some ((-1), m)) else (
if zI (m 33 1) = zI 48 then (
some ((-3), m)) else (
zcl (FX3_append 33 a1 m) fun m3 =>
some ((m3 33 1), m3)))
def FX5_fewestFills_L36_B (k2 : Int) (k : Int → Int → zM → Option (Int × zM)) (rec : Int → Int → zM → Option (Int × zM)) (v3 : Int) (v4 : Int) (m_ : zM) : Option (Int × zM) :=
if zI v4 < zI (m_ 1 9) then (
zrd m_ 45 v4 48 fun x2 =>
zrd m_ 2 k2 48 fun x3 =>
zrd m_ 2 v4 48 fun x4 =>
if zI x3 = zI x4 then (
zwr m_ 45 v4 v3 48 fun m8 =>
rec x2 (v4 + 1) m8) else (
zrd m_ 45 (v4 - 1) 48 fun x5 =>
zcl (FJ9_min_7cf53 x2 x5) fun r6 =>
zwr m_ 45 v4 (1 + r6) 48 fun m7 =>
rec x2 (v4 + 1) m7)) else (
k v3 v4 m_)
def FX5_fewestFills_L36 (k2 : Int) (k : Int → Int → zM → Option (Int × zM)) : Nat → Int → Int → zM → Option (Int × zM) := zlp (FX5_fewestFills_L36_B k2 k) (fun _ _ _ => none)
def FX5_fewestFills_L18_B  (k : Int → zM → Option (Int × zM)) (rec : Int → zM → Option (Int × zM)) (v2 : Int) (m_ : zM) : Option (Int × zM) :=
if zI v2 < zI 0 then (
k v2 m_) else (
zwr m_ 45 v2 0 48 fun m1 =>
FX5_fewestFills_L36 v2 (fun y36_3 y36_4 m36_ =>
rec (v2 + -1) m36_) zfu 0 (v2 + 1) m1)
def FX5_fewestFills_L18  (k : Int → zM → Option (Int × zM)) : Nat → Int → zM → Option (Int × zM) := zlp (FX5_fewestFills_L18_B  k) (fun _ _ => none)
def FX5_fewestFills  (m : zM) : Option (Int × zM) :=
FX5_fewestFills_L18  (fun y18_2 m18_ =>
if zI (m18_ 1 9) = zI 0 then (
some (0, m18_)) else (
zrd m18_ 45 ((m18_ 1 9) - 1) 48 fun x12 =>
some (x12, m18_))) zfu ((m 1 9) - 1) m
def FX5_find  (m : zM) : Option (Int) :=
zcl (FX1_nodeOf 1 34 48 0 (m 33 1) m) fun r1 =>
if zI r1 = zI (-1) then (
some (-4)) else (
some r1)
def FX5_greatestDivisor_L7_B (a0 : Int) (a1 : Int) (k : Int → Int → Int → Option (Int)) (rec : Int → Int → Int → Option (Int)) (v2 : Int) (v3 : Int) (v4 : Int) : Option (Int) :=
if zI v4 < zI 48 then (
if zI v3 = zI 0 then (
k v2 v3 v4) else (
zgd (zdg v2 v3) <|
rec v3 (v2 % v3) (v4 + 1))) else (
k v2 v3 v4)
def FX5_greatestDivisor_L7 (a0 : Int) (a1 : Int) (k : Int → Int → Int → Option (Int)) : Nat → Int → Int → Int → Option (Int) := zlp (FX5_greatestDivisor_L7_B a0 a1 k) (fun _ _ _ => none)
def FX5_greatestDivisor (a0 : Int) (a1 : Int)  : Option (Int) :=
FX5_greatestDivisor_L7 a0 a1 (fun y7_2 y7_3 y7_4 =>
some y7_2) zfu a0 a1 0
def FX5_groups_L33_B (a1 : Int)  (m : zM) (k : Int → Int → Int → Option (Int)) (rec : Int → Int → Int → Option (Int)) (v2 : Int) (v3 : Int) (v4 : Int) : Option (Int) :=
if zI v4 < zI 48 then (
if zI v3 < zI 48 then (
zrd m 6 v3 50 fun x4 =>
rec (v2 + 1) x4 (v4 + 1)) else (
k v2 v3 v4)) else (
k v2 v3 v4)
def FX5_groups_L33 (a1 : Int)  (m : zM) (k : Int → Int → Int → Option (Int)) : Nat → Int → Int → Int → Option (Int) := zlp (FX5_groups_L33_B a1 m k) (fun _ _ _ => none)
def FX5_groups (a1 : Int) (m : zM) : Option (Int) :=
zcl (FX5_isPlace a1 m) fun r1 =>
if zI r1 = zI 0 then (
some (-1)) else (
zrd m 3 a1 48 fun x2 =>
zrd m 6 x2 50 fun x3 =>
FX5_groups_L33 a1 m (fun y33_2 y33_3 y33_4 =>
some y33_2) zfu 1 x3 0)
def FX5_rowsOf_L4_B (a0 : Int) (k : Int → Int → Option (Int)) (rec : Int → Int → Option (Int)) (v1 : Int) (v2 : Int) : Option (Int) :=
if zI v2 < zI a0 then (
rec (v1 * 6) (v2 + 1)) else (
k v1 v2)
def FX5_rowsOf_L4 (a0 : Int) (k : Int → Int → Option (Int)) : Nat → Int → Int → Option (Int) := zlp (FX5_rowsOf_L4_B a0 k) (fun _ _ => none)
def FX5_rowsOf (a0 : Int)  : Option (Int) :=
FX5_rowsOf_L4 a0 (fun y4_1 y4_2 =>
some y4_1) zfu 1 0
def FX5_startRows (a1 : Int) (m : zM) : Option (zM) :=
zcl (FX1_load 11 2 48 0 (m 1 9) m) fun m1 =>
zcl (FX1_lengthen 11 a1 m1) fun m2 =>
some m2
def FX5_stepRow_L4_B (a1 : Int) (k : Int → Int → zM → Option (zM)) (rec : Int → Int → zM → Option (zM)) (v2 : Int) (v3 : Int) (m_ : zM) : Option (zM) :=
if zI v3 < zI a1 then (
zcl (FX1_lastLetter 11 m_) fun r1 =>
if zI r1 = zI 102 then (
zcl (FX1_removeLast 11 m_) fun m2 =>
rec (v2 + 1) (v3 + 1) m2) else (
k v2 v3 m_)) else (
k v2 v3 m_)
def FX5_stepRow_L4 (a1 : Int) (k : Int → Int → zM → Option (zM)) : Nat → Int → Int → zM → Option (zM) := zlp (FX5_stepRow_L4_B a1 k) (fun _ _ _ => none)
def FX5_stepRow (a1 : Int) (m : zM) : Option (zM) :=
FX5_stepRow_L4 a1 (fun y4_2 y4_3 m4_ =>
zjn (fun (mj68 : zM) =>
zcl (FX1_lengthen 11 y4_2 mj68) fun m5 =>
some m5) fun j68 =>
if zI y4_2 < zI a1 then (
zcl (FX1_lastLetter 11 m4_) fun r6 =>
zcl (FX1_removeLast 11 m4_) fun m7 =>
zcl2 (FX1_add 11 (r6 + 1) m7) fun r8 m8 =>
j68 m8) else (
j68 m4_)) zfu 0 0 m
def FX5_growMost_L15_B (a1 : Int) (k3 : Int) (k : Int → Int → zM → Option (Int × zM)) (rec : Int → Int → zM → Option (Int × zM)) (v2 : Int) (v4 : Int) (m_ : zM) : Option (Int × zM) :=
if zI v4 < zI k3 then (
zjn (fun (u63_2 : Int) (mj63 : zM) =>
zcl (FX5_stepRow a1 mj63) fun m3 =>
rec u63_2 (v4 + 1) m3) fun j63 =>
if zI v2 < zI (m_ 11 10) then (
zcpy m_ 12 44 (m_ 1 9) 0 a1 48 3 fun m4 =>
j63 (m_ 11 10) m4) else (
j63 v2 m_)) else (
k v2 v4 m_)
def FX5_growMost_L15 (a1 : Int) (k3 : Int) (k : Int → Int → zM → Option (Int × zM)) : Nat → Int → Int → zM → Option (Int × zM) := zlp (FX5_growMost_L15_B a1 k3 k) (fun _ _ _ => none)
def FX5_growMost (a1 : Int) (m : zM) : Option (Int × zM) :=
zcl (FX5_rowsOf a1) fun r1 =>
zcl (FX5_startRows a1 m) fun m2 =>
FX5_growMost_L15 a1 r1 (fun y15_2 y15_4 m15_ =>
some (y15_2, m15_)) zfu (-1) 0 m2
def FX5_grow (a1 : Int) (a2 : Int) (m : zM) : Option (Int × zM) :=
zcl (FX5_within a1 0 3) fun r1 =>
if zI r1 = zI 0 then (
some ((-1), m)) else (
if zI a2 < zI (-1) then (
some ((-1), m)) else (
if zI 48 < zI ((m 1 9) + a1) then (
some ((-3), m)) else (
if zI a2 < zI a1 then (
zcl2 (FX5_growMost a1 m) fun r2 m2 =>
if zI a2 = zI (-1) then (
some (r2, m2)) else (
zrd m2 44 a2 3 fun x3 =>
some (x3, m2))) else (
some ((-4), m)))))
def FX5_in (a1 : Int) (a2 : Int) (a3 : Int) (m : zM) : Option (Int × zM) :=
if zI a1 < zI 0 then (
some ((-1), m)) else (
if zI a2 < zI a1 then (
some ((-1), m)) else (
if zI (m 1 9) < zI a2 then (
some ((-1), m)) else (
zcl (FX5_within a3 0 2) fun r1 =>
if zI r1 = zI 0 then (
some ((-1), m)) else (
zcl (FX1_load 11 2 48 a1 a2 m) fun m2 =>
if zI a3 = zI 2 then (
some ((m2 11 10), m2)) else (
zcl (FX1_longestNode 11 m2) fun r3 =>
if zI a3 = zI 0 then (
if zI r3 = zI (-1) then (
some (0, m2)) else (
zrd m2 14 r3 50 fun x6 =>
some (x6, m2))) else (
if zI r3 = zI (-1) then (
some ((-4), m2)) else (
zcl (FX1_firstPlace 11 r3 m2) fun r4 =>
some ((a1 + r4), m2))))))))
def FX5_isLane (a0 : Int)  : Option (Int) :=
zcl (FX5_within a0 0 3) fun r1 =>
zgd (r1 = 0 ∨ r1 = 1) <|
some r1
def FX5_isNode (a1 : Int) (m : zM) : Option (Int) :=
zcl (FX5_within a1 0 ((m 1 10) - 1)) fun r1 =>
zgd (r1 = 0 ∨ r1 = 1) <|
some r1
def FX5_item (a1 : Int) (a2 : Int) (a3 : Int) (a4 : Int) (m : zM) : Option (Int × zM) :=
zcl (FX5_isSheet a1) fun r1 =>
if zI r1 = zI 0 then (
some ((-1), m)) else (
zcl (FX5_isLane a2) fun r2 =>
if zI r2 = zI 0 then (
some ((-1), m)) else (
zix a1 4 <|
zcl (FX4_refusal (36 + 2 * (a1).toNat) a2 a3 1 m) fun r4 =>
if zI r4 = zI 0 then (
zix a1 4 <|
zcl2 (FX4_store (36 + 2 * (a1).toNat) a3 a4 m) fun r6 m6 =>
some (r6, m6)) else (
zgd (zR r4) <|
some (r4, m))))
def FX5_keep (a1 : Int) (m : zM) : Option (Int × zM) :=
zcl (FX5_within a1 0 1) fun r1 =>
if zI r1 = zI 0 then (
some ((-1), m)) else (
zix a1 2 <|
zcl (FX3_hold (29 + 2 * (a1).toNat) 2 48 (m 1 9) m) fun m3 =>
some ((m3 1 9), m3))
def FX5_letter (a1 : Int) (m : zM) : Option (Int) :=
zcl (FX5_isPlace a1 m) fun r1 =>
if zI r1 = zI 0 then (
some (-1)) else (
zrd m 2 a1 48 fun x2 =>
some x2)
def FX5_mend (a1 : Int) (m : zM) : Option (Int × zM) :=
if zI a1 = zI 0 then (
zcl (FX1_unlikePairs 1 m) fun r3 =>
some (r3, m)) else (
if zI a1 = zI 1 then (
zcl2 (FX5_fewestFills m) fun r1 m1 =>
some (r1, m1)) else (
some ((-1), m)))
def FX5_next (a1 : Int) (a2 : Int) (m : zM) : Option (Int × zM) :=
zcl (FX5_isLetter a1) fun r1 =>
if zI r1 = zI 0 then (
some ((-1), m)) else (
zcl (FX5_within a2 0 1) fun r2 =>
if zI r2 = zI 0 then (
some ((-1), m)) else (
if zI (m 1 9) = zI 48 then (
some ((-3), m)) else (
zcl (FX1_load 11 2 48 0 (m 1 9) m) fun m3 =>
zcl2 (FX1_add 11 a1 m3) fun r4 m4 =>
if zI a2 = zI 0 then (
some (r4, m4)) else (
some (((m4 11 10) - (m4 1 10)), m4)))))
def FX5_nodeOrNone (a0 : Int)  : Option (Int) :=
if zI a0 < zI 48 then (
some a0) else (
some (-4))
def FX5_node (a1 : Int) (a2 : Int) (m : zM) : Option (Int) :=
zcl (FX5_isNode a1 m) fun r1 =>
if zI r1 = zI 0 then (
some (-1)) else (
if zI a2 = zI 0 then (
zrd m 4 a1 50 fun x3 =>
some x3) else (
if zI a2 = zI 1 then (
zcl (FX1_firstPlace 1 a1 m) fun r4 =>
some r4) else (
if zI a2 = zI 2 then (
zcl (FX1_lastPlace 1 a1 m) fun r5 =>
some r5) else (
if zI a2 = zI 3 then (
zcl (FX1_firstPlace 1 a1 m) fun r6 =>
zrd m 4 a1 50 fun x7 =>
zcl (FX1_places 1 2 48 r6 x7 m) fun r8 =>
some r8) else (
if zI a2 = zI 4 then (
zrd m 5 a1 50 fun x9 =>
zcl (FX5_nodeOrNone x9) fun r10 =>
some r10) else (
if zI a2 = zI 5 then (
zcl (FX1_less 1 a1 m) fun r11 =>
some r11) else (
if zI a2 = zI 6 then (
zrd m 6 a1 50 fun x12 =>
zcl (FX5_nodeOrNone x12) fun r13 =>
some r13) else (
if zI a2 = zI 7 then (
zrd m 7 a1 50 fun x14 =>
zcl (FX5_nodeOrNone x14) fun r15 =>
some r15) else (
some (-1))))))))))
def FX5_rowsThatBring_L16_B (a1 : Int) (a2 : Int) (k4 : Int) (k : Int → Int → zM → Option (Int × zM)) (rec : Int → Int → zM → Option (Int × zM)) (v3 : Int) (v5 : Int) (m_ : zM) : Option (Int × zM) :=
if zI v5 < zI k4 then (
zjn (fun (u45_3 : Int) =>
zcl (FX5_stepRow a1 m_) fun m3 =>
rec u45_3 (v5 + 1) m3) fun j45 =>
if zI ((m_ 11 10) - (m_ 1 10)) < zI a2 then (
j45 v3) else (
j45 (v3 + 1))) else (
k v3 v5 m_)
def FX5_rowsThatBring_L16 (a1 : Int) (a2 : Int) (k4 : Int) (k : Int → Int → zM → Option (Int × zM)) : Nat → Int → Int → zM → Option (Int × zM) := zlp (FX5_rowsThatBring_L16_B a1 a2 k4 k) (fun _ _ _ => none)
def FX5_rowsThatBring (a1 : Int) (a2 : Int) (m : zM) : Option (Int × zM) :=
zcl (FX5_rowsOf a1) fun r1 =>
zcl (FX5_startRows a1 m) fun m2 =>
FX5_rowsThatBring_L16 a1 a2 r1 (fun y16_3 y16_5 m16_ =>
some (y16_3, m16_)) zfu 0 0 m2
def FX5_odds (a1 : Int) (a2 : Int) (a3 : Int) (m : zM) : Option (Int × zM) :=
zcl (FX5_within a1 0 4) fun r1 =>
if zI r1 = zI 0 then (
some ((-1), m)) else (
zcl (FX5_within a2 0 9) fun r2 =>
if zI r2 = zI 0 then (
some ((-1), m)) else (
zcl (FX5_within a3 0 1) fun r3 =>
if zI r3 = zI 0 then (
some ((-1), m)) else (
if zI 48 < zI ((m 1 9) + a1) then (
some ((-3), m)) else (
zcl (FX5_rowsOf a1) fun r4 =>
zcl2 (FX5_rowsThatBring a1 a2 m) fun r5 m5 =>
zcl (FX5_greatestDivisor r5 r4) fun r6 =>
if zI r6 < zI 1 then (
some ((-1), m5)) else (
if zI a3 = zI 0 then (
zgd (zdg r5 r6) <|
some ((r5 / r6), m5)) else (
zgd (zdg r4 r6) <|
some ((r4 / r6), m5)))))))
def FX5_pop  (m : zM) : Option (Int × zM) :=
if zI (m 1 9) = zI 0 then (
some ((-2), m)) else (
zcl (FX1_lastLetter 1 m) fun r1 =>
zcl (FX1_removeLast 1 m) fun m2 =>
zcl (FX0_note 1 (m2 1 9) r1 m2) fun m3 =>
some (r1, m3))
def FX5_put (a1 : Int) (m : zM) : Option (Int × zM) :=
zcl (FX5_isLetter a1) fun r1 =>
if zI r1 = zI 0 then (
some ((-1), m)) else (
if zI (m 1 9) = zI 48 then (
some ((-3), m)) else (
zcl (FX0_note 0 (m 1 9) a1 m) fun m2 =>
zcl2 (FX1_add 1 a1 m2) fun r3 m3 =>
some (r3, m3)))
def FX5_read_L89_B (a1 : Int) (a2 : Int) (a3 : Int) (a4 : Int) (k : Int → zM → Option (Int × zM)) (rec : Int → zM → Option (Int × zM)) (v7 : Int) (m_ : zM) : Option (Int × zM) :=
if zI v7 < zI a4 then (
zrd m_ ((36 + 2 * (a1).toNat) + 1) (a3 + v7) 48 fun x7 =>
zcl (FX3_append 33 (zw x7) m_) fun m8 =>
rec (v7 + 1) m8) else (
k v7 m_)
def FX5_read_L89 (a1 : Int) (a2 : Int) (a3 : Int) (a4 : Int) (k : Int → zM → Option (Int × zM)) : Nat → Int → zM → Option (Int × zM) := zlp (FX5_read_L89_B a1 a2 a3 a4 k) (fun _ _ => none)
def FX5_read (a1 : Int) (a2 : Int) (a3 : Int) (a4 : Int) (m : zM) : Option (Int × zM) :=
zcl (FX5_isSheet a1) fun r1 =>
if zI r1 = zI 0 then (
some ((-1), m)) else (
zcl (FX5_isLane a2) fun r2 =>
if zI r2 = zI 0 then (
some ((-1), m)) else (
zcl (FX5_within a4 0 48) fun r3 =>
if zI r3 = zI 0 then (
some ((-1), m)) else (
zix a1 4 <|
zcl (FX4_refusal (36 + 2 * (a1).toNat) a2 a3 a4 m) fun r5 =>
if zI r5 = zI 0 then (
zcl (FX4_holdsBytes (36 + 2 * (a1).toNat) a3 a4 m) fun r6 =>
if zI r6 = zI 0 then (
some ((-2), m)) else (
if zI 48 < zI ((m 33 1) + a4) then (
some ((-3), m)) else (
FX5_read_L89 a1 a2 a3 a4 (fun y89_7 m89_ =>
some ((m89_ 33 1), m89_)) zfu 0 m))) else (
some (r5, m)))))
def FX5_sheet (a1 : Int) (a2 : Int) (a3 : Int) (m : zM) : Option (Int × zM) :=
zcl (FX5_isSheet a1) fun r1 =>
if zI r1 = zI 0 then (
some ((-1), m)) else (
zcl (FX5_isLane a2) fun r2 =>
if zI r2 = zI 0 then (
some ((-1), m)) else (
if zI 48 < zI a3 then (
some ((-1), m)) else (
if zI a3 < zI 0 then (
some ((-14), m)) else (
zix a1 4 <|
zcl (FX4_begin (36 + 2 * (a1).toNat) a2 a3 m) fun m4 =>
some (a3, m4)))))
def FX5_spell_L72_B (a1 : Int) (a2 : Int) (a3 : Int) (a4 : Int) (k5 : Int) (k7 : Int) (k : Int → zM → Option (Int × zM)) (rec : Int → zM → Option (Int × zM)) (v8 : Int) (m_ : zM) : Option (Int × zM) :=
if zI v8 < zI k5 then (
zix a2 4 <|
zrd m_ 2 (k7 + v8) 48 fun x9 =>
zgd (zR x9) <|
zcl2 (FX4_store (36 + 2 * (a2).toNat) (a4 + v8) x9 m_) fun r11 m11 =>
rec (v8 + 1) m11) else (
k v8 m_)
def FX5_spell_L72 (a1 : Int) (a2 : Int) (a3 : Int) (a4 : Int) (k5 : Int) (k7 : Int) (k : Int → zM → Option (Int × zM)) : Nat → Int → zM → Option (Int × zM) := zlp (FX5_spell_L72_B a1 a2 a3 a4 k5 k7 k) (fun _ _ => none)
def FX5_spell (a1 : Int) (a2 : Int) (a3 : Int) (a4 : Int) (m : zM) : Option (Int × zM) :=
zcl (FX5_isNode a1 m) fun r1 =>
if zI r1 = zI 0 then (
some ((-1), m)) else (
zcl (FX5_isSheet a2) fun r2 =>
if zI r2 = zI 0 then (
some ((-1), m)) else (
zcl (FX5_isLane a3) fun r3 =>
if zI r3 = zI 0 then (
some ((-1), m)) else (
zrd m 4 a1 50 fun x4 =>
zix a2 4 <|
zcl (FX4_refusal (36 + 2 * (a2).toNat) a3 a4 x4 m) fun r6 =>
if zI r6 = zI 0 then (
zcl (FX1_firstPlace 1 a1 m) fun r7 =>
FX5_spell_L72 a1 a2 a3 a4 x4 r7 (fun y72_8 m72_ =>
some (x4, m72_)) zfu 0 m) else (
some (r6, m)))))
def FX5_times  (m : zM) : Option (Int) :=
if zI (m 33 1) = zI 0 then (
some 0) else (
zcl (FX1_places 1 34 48 0 (m 33 1) m) fun r1 =>
some r1)
def FX5_turned_L27_B (a1 : Int)  (m : zM) (k : Int → Int → Int → Option (Int)) (rec : Int → Int → Int → Option (Int)) (v2 : Int) (v3 : Int) (v4 : Int) : Option (Int) :=
if zI v4 < zI 0 then (
k v2 v3 v4) else (
zcl (FX1_isMirrorTurned 1 v4 m) fun r2 =>
if zI r2 = zI 0 then (
rec v2 v3 (v4 + -1)) else (
rec (v2 + 1) v4 (v4 + -1)))
def FX5_turned_L27 (a1 : Int)  (m : zM) (k : Int → Int → Int → Option (Int)) : Nat → Int → Int → Int → Option (Int) := zlp (FX5_turned_L27_B a1 m k) (fun _ _ _ => none)
def FX5_turned (a1 : Int) (m : zM) : Option (Int) :=
zcl (FX5_within a1 0 1) fun r1 =>
if zI r1 = zI 0 then (
some (-1)) else (
FX5_turned_L27 a1 m (fun y27_2 y27_3 y27_4 =>
if zI a1 = zI 0 then (
some y27_2) else (
some y27_3)) zfu 0 (-4) ((m 1 9) - 1))
def FX5_undo  (m : zM) : Option (Int × zM) :=
if zI (m 21 3) = zI 0 then (
some ((-4), m)) else (
zcl (FX0_takeBackLatest 1 m) fun m1 =>
some ((m1 21 3), m1))
def FX5_walks_L60_B (a1 : Int) (a2 : Int) (a3 : Int) (k : Int → Int → zM → Option (Int × zM)) (rec : Int → Int → zM → Option (Int × zM)) (v4 : Int) (v6 : Int) (m_ : zM) : Option (Int × zM) :=
if zI v6 < zI a1 then (
zgd (zlg (16807 * v4) 2147483647) <|
zgd (zlg ((16807 * v4) % 2147483647) 64) <|
zgd (zlg (((16807 * v4) % 2147483647) / 64) 4) <|
zjn (fun (s108_0 : Int) =>
zjn (zcl (FX1_removeLast 11 m_) fun m9 =>
rec ((16807 * v4) % 2147483647) (v6 + 1) m9) fun j127 =>
if zI s108_0 = zI 0 then (
if zI (m_ 11 9) = zI 48 then (
j127) else (
zgd (zlg ((16807 * v4) % 2147483647) 6) <|
zcl2 (FX1_add 11 (97 + (zw (((16807 * v4) % 2147483647) % 6))) m_) fun r11 m11 =>
rec ((16807 * v4) % 2147483647) (v6 + 1) m11)) else (
j127)) fun j108 =>
if zJ ((((16807 * v4) % 2147483647) / 64) % 4) = zJ 0 then (
if zI 0 < zI (m_ 11 9) then (
j108 1) else (
j108 0)) else (
j108 0)) else (
k v4 v6 m_)
def FX5_walks_L60 (a1 : Int) (a2 : Int) (a3 : Int) (k : Int → Int → zM → Option (Int × zM)) : Nat → Int → Int → zM → Option (Int × zM) := zlp (FX5_walks_L60_B a1 a2 a3 k) (fun _ _ _ => none)
def FX5_walks (a1 : Int) (a2 : Int) (a3 : Int) (m : zM) : Option (Int × zM) :=
zcl (FX5_within a1 0 60) fun r1 =>
if zI r1 = zI 0 then (
some ((-1), m)) else (
zcl (FX5_within a2 1 999999) fun r2 =>
if zI r2 = zI 0 then (
some ((-1), m)) else (
zcl (FX5_within a3 0 1) fun r3 =>
if zI r3 = zI 0 then (
some ((-1), m)) else (
zcl (FX1_load 11 2 48 0 (m 1 9) m) fun m4 =>
zgd (zR a2) <|
FX5_walks_L60 a1 a2 a3 (fun y60_4 y60_6 m60_ =>
if zI a3 = zI 0 then (
some ((m60_ 11 10), m60_)) else (
some ((m60_ 11 9), m60_))) zfu a2 0 m4)))
def FX6_within (a0 : Int) (a2 : Int) (a4 : Int)  : Option (Int) :=
if zJ a0 < zJ a2 then (
some 0) else (
if zJ a4 < zJ a0 then (
some 0) else (
some 1))
def FX6_bring_L3_B (c0 n0 : Nat) (a1 : Int) (c2 n2 : Nat) (a3 : Int) (a4 : Int) (k : Int → zM → Option (zM)) (rec : Int → zM → Option (zM)) (v5 : Int) (m_ : zM) : Option (zM) :=
if zI v5 < zI a4 then (
zrd m_ c0 (a1 + v5) n0 fun x1 =>
zwr m_ c2 (a3 + v5) x1 n2 fun m2 =>
rec (v5 + 1) m2) else (
k v5 m_)
def FX6_bring_L3 (c0 n0 : Nat) (a1 : Int) (c2 n2 : Nat) (a3 : Int) (a4 : Int) (k : Int → zM → Option (zM)) : Nat → Int → zM → Option (zM) := zlp (FX6_bring_L3_B c0 n0 a1 c2 n2 a3 a4 k) (fun _ _ => none)
def FX6_bring (c0 n0 : Nat) (a1 : Int) (c2 n2 : Nat) (a3 : Int) (a4 : Int) (m : zM) : Option (zM) :=
FX6_bring_L3 c0 n0 a1 c2 n2 a3 a4 (fun y3_5 m3_ =>
some m3_) zfu 0 m
def FX6_back (a1 : Int) (m : zM) : Option (Int × zM) :=
zgd (zR a1) <|
zcl (FX6_within a1 0 1) fun r2 =>
if zI r2 = zI 0 then (
some ((-1), m)) else (
zrd m 4 a1 2 fun x3 =>
if zI x3 < zI 0 then (
some ((-2), m)) else (
zrd m 4 a1 2 fun x4 =>
zcl (FX6_bring 3 96 (48 * a1) 1 48 0 x4 m) fun m5 =>
zrd m5 4 a1 2 fun x6 =>
zpf m5 0 0 x6 fun m7 =>
zpf m7 0 2 0 fun m8 =>
some ((m8 0 0), m8)))
def FX6_isLetter (a0 : Int)  : Option (Int) :=
zgd (zR a0) <|
zcl (FX6_within a0 97 102) fun r2 =>
zgd (r2 = 0 ∨ r2 = 1) <|
some r2
def FX6_note (a1 : Int) (m : zM) : Option (zM) :=
zjn (fun (mj34 : zM) =>
zwr mj34 2 (mj34 0 2) a1 24 fun m1 =>
zpf m1 0 2 ((m1 0 2) + 1) fun m2 =>
some m2) fun j34 =>
if zI (m 0 2) = zI 24 then (
zcl (FX6_bring 2 24 1 2 24 0 23 m) fun m3 =>
zpf m3 0 2 ((m3 0 2) - 1) fun m4 =>
j34 m4) else (
j34 m)
def FX6_change (a1 : Int) (a2 : Int) (m : zM) : Option (Int × zM) :=
zgd (zR a1) <|
zgd (zR ((m 0 0) - 1)) <|
zcl (FX6_within a1 0 ((m 0 0) - 1)) fun r3 =>
if zI r3 = zI 0 then (
some ((-1), m)) else (
zcl (FX6_isLetter a2) fun r4 =>
if zI r4 = zI 0 then (
some ((-1), m)) else (
zrd m 1 a1 48 fun x5 =>
if zI x5 = zI (a2 - 97) then (
some ((-2), m)) else (
zcl (FX6_note ((100 + (10 * a1)) + x5) m) fun m6 =>
zwr m6 1 a1 (a2 - 97) 48 fun m7 =>
some ((97 + x5), m7))))
def FX6_clear  (m : zM) : Option (Int × zM) :=
zpf m 0 6 0 fun m1 =>
some ((m 0 6), m1)
def FX6_isMirror_L5_B (a1 : Int) (a2 : Int)  (m : zM) (k : Int → Int → Option (Int)) (rec : Int → Int → Option (Int)) (v3 : Int) (v4 : Int) : Option (Int) :=
zgd (zdg a2 2) <|
if zI v4 < zI (a2 / 2) then (
if zI v3 = zI 0 then (
k v3 v4) else (
zrd m 1 (a1 + v4) 48 fun x2 =>
zrd m 1 (((a1 + a2) - 1) - v4) 48 fun x3 =>
if zI x2 = zI x3 then (
rec 1 (v4 + 1)) else (
rec 0 (v4 + 1)))) else (
k v3 v4)
def FX6_isMirror_L5 (a1 : Int) (a2 : Int)  (m : zM) (k : Int → Int → Option (Int)) : Nat → Int → Int → Option (Int) := zlp (FX6_isMirror_L5_B a1 a2 m k) (fun _ _ => none)
def FX6_isMirror (a1 : Int) (a2 : Int) (m : zM) : Option (Int) :=
FX6_isMirror_L5 a1 a2 m (fun y5_3 y5_4 =>
zgd (y5_3 = 0 ∨ y5_3 = 1) <|
some y5_3) zfu 1 0
def FX6_endsBelow_L19_B (a1 : Int) (a2 : Int)  (m : zM) (k : Int → Option (Int)) (rec : Int → Option (Int)) (v3 : Int) : Option (Int) :=
if zI 0 < zI v3 then (
zcl (FX6_isMirror ((a1 + 1) - v3) v3 m) fun r1 =>
if zI r1 = zI 0 then (
rec (v3 + -1)) else (
k v3)) else (
k v3)
def FX6_endsBelow_L19 (a1 : Int) (a2 : Int)  (m : zM) (k : Int → Option (Int)) : Nat → Int → Option (Int) := zlp (FX6_endsBelow_L19_B a1 a2 m k) (fun _ => none)
def FX6_endsBelow (a1 : Int) (a2 : Int) (m : zM) : Option (Int) :=
zjn (fun (s18_0 : Int) =>
FX6_endsBelow_L19 a1 a2 m (fun y19_3 =>
some y19_3) zfu s18_0) fun j18 =>
if zI (a2 - 1) < zI (a1 + 1) then (
j18 (a2 - 1)) else (
j18 (a1 + 1))
def FX6_isSame_L6_B (a1 : Int) (a2 : Int) (a3 : Int)  (m : zM) (k : Int → Int → Option (Int)) (rec : Int → Int → Option (Int)) (v4 : Int) (v5 : Int) : Option (Int) :=
if zI v5 < zI a3 then (
if zI v4 = zI 0 then (
k v4 v5) else (
zrd m 1 (a1 + v5) 48 fun x1 =>
zrd m 1 (a2 + v5) 48 fun x2 =>
if zI x1 = zI x2 then (
rec 1 (v5 + 1)) else (
rec 0 (v5 + 1)))) else (
k v4 v5)
def FX6_isSame_L6 (a1 : Int) (a2 : Int) (a3 : Int)  (m : zM) (k : Int → Int → Option (Int)) : Nat → Int → Int → Option (Int) := zlp (FX6_isSame_L6_B a1 a2 a3 m k) (fun _ _ => none)
def FX6_isSame (a1 : Int) (a2 : Int) (a3 : Int) (m : zM) : Option (Int) :=
FX6_isSame_L6 a1 a2 a3 m (fun y6_4 y6_5 =>
zgd (y6_4 = 0 ∨ y6_4 = 1) <|
some y6_4) zfu 1 0
def FX6_isNew_L20_B (a1 : Int) (k2 : Int) (k3 : Int) (m : zM) (k : Int → Int → Option (Int)) (rec : Int → Int → Option (Int)) (v4 : Int) (v5 : Int) : Option (Int) :=
if zI v5 < zI k3 then (
if zI v4 = zI 0 then (
k v4 v5) else (
zcl (FX6_isSame v5 k3 k2 m) fun r2 =>
if zI r2 = zI 0 then (
rec 1 (v5 + 1)) else (
rec 0 (v5 + 1)))) else (
k v4 v5)
def FX6_isNew_L20 (a1 : Int) (k2 : Int) (k3 : Int) (m : zM) (k : Int → Int → Option (Int)) : Nat → Int → Int → Option (Int) := zlp (FX6_isNew_L20_B a1 k2 k3 m k) (fun _ _ => none)
def FX6_isNew (a1 : Int) (m : zM) : Option (Int) :=
zcl (FX6_endsBelow a1 49 m) fun r1 =>
FX6_isNew_L20 a1 r1 ((a1 + 1) - r1) m (fun y20_4 y20_5 =>
zgd (y20_4 = 0 ∨ y20_4 = 1) <|
some y20_4) zfu 1 0
def FX6_lay_L7_B  (k : Int → zM → Option (zM)) (rec : Int → zM → Option (zM)) (v1 : Int) (m_ : zM) : Option (zM) :=
if zI v1 < zI (m_ 0 0) then (
zcl (FX6_isNew v1 m_) fun r2 =>
if zI r2 = zI 0 then (
rec (v1 + 1) m_) else (
zcl (FX6_endsBelow v1 49 m_) fun r3 =>
zwr m_ 11 (m_ 0 12) r3 48 fun m4 =>
zrd m4 11 (m4 0 12) 48 fun x5 =>
zwr m4 10 (m4 0 12) ((v1 + 1) - x5) 48 fun m6 =>
zpf m6 0 12 ((m6 0 12) + 1) fun m7 =>
rec (v1 + 1) m7)) else (
k v1 m_)
def FX6_lay_L7  (k : Int → zM → Option (zM)) : Nat → Int → zM → Option (zM) := zlp (FX6_lay_L7_B  k) (fun _ _ => none)
def FX6_lay  (m : zM) : Option (zM) :=
zpf m 0 12 0 fun m1 =>
FX6_lay_L7  (fun y7_1 m7_ =>
some m7_) zfu 0 m1
def FX6_isImaged_L30_B (a1 : Int) (a2 : Int) (a3 : Int) (k5 : Int) (m : zM) (k : Int → Int → Option (Int)) (rec : Int → Int → Option (Int)) (v6 : Int) (v7 : Int) : Option (Int) :=
if zI v7 < zI a3 then (
if zI v6 = zI 0 then (
k v6 v7) else (
zrd m 3 (((48 * a1) + k5) + v7) 96 fun x2 =>
zrd m 1 (a2 + v7) 48 fun x3 =>
if zI x2 = zI x3 then (
rec 1 (v7 + 1)) else (
rec 0 (v7 + 1)))) else (
k v6 v7)
def FX6_isImaged_L30 (a1 : Int) (a2 : Int) (a3 : Int) (k5 : Int) (m : zM) (k : Int → Int → Option (Int)) : Nat → Int → Int → Option (Int) := zlp (FX6_isImaged_L30_B a1 a2 a3 k5 m k) (fun _ _ => none)
def FX6_isImaged_L6_B (a1 : Int) (a2 : Int) (a3 : Int)  (m : zM) (k : Int → Int → Option (Int)) (rec : Int → Int → Option (Int)) (v4 : Int) (v5 : Int) : Option (Int) :=
zrd m 4 a1 2 fun x1 =>
if zI x1 < zI (v5 + a3) then (
k v4 v5) else (
if zI v4 = zI 0 then (
FX6_isImaged_L30 a1 a2 a3 v5 m (fun y30_6 y30_7 =>
rec y30_6 (v5 + 1)) zfu 1 0) else (
k v4 v5))
def FX6_isImaged_L6 (a1 : Int) (a2 : Int) (a3 : Int)  (m : zM) (k : Int → Int → Option (Int)) : Nat → Int → Int → Option (Int) := zlp (FX6_isImaged_L6_B a1 a2 a3 m k) (fun _ _ => none)
def FX6_isImaged (a1 : Int) (a2 : Int) (a3 : Int) (m : zM) : Option (Int) :=
FX6_isImaged_L6 a1 a2 a3 m (fun y6_4 y6_5 =>
zgd (y6_4 = 0 ∨ y6_4 = 1) <|
some y6_4) zfu 0 0
def FX6_common_L46_B (a1 : Int) (a2 : Int)  (mc : zM) (k : Int → Int → Int → Option (Int × zM)) (rec : Int → Int → Int → Option (Int × zM)) (v3 : Int) (v4 : Int) (v5 : Int) : Option (Int × zM) :=
if zI v5 < zI (mc 0 12) then (
zrd mc 10 v5 48 fun x7 =>
zrd mc 11 v5 48 fun x8 =>
zcl (FX6_isImaged a1 x7 x8 mc) fun r9 =>
zjn (fun (s87_0 : Int) =>
if zI r9 = zI 0 then (
rec (v3 + s87_0) v4 (v5 + 1)) else (
zrd mc 11 v5 48 fun x10 =>
if zI v4 < zI x10 then (
zrd mc 11 v5 48 fun x11 =>
rec (v3 + s87_0) x11 (v5 + 1)) else (
rec (v3 + s87_0) v4 (v5 + 1)))) fun j87 =>
if zI r9 = zI 0 then (
j87 0) else (
j87 1)) else (
k v3 v4 v5)
def FX6_common_L46 (a1 : Int) (a2 : Int)  (mc : zM) (k : Int → Int → Int → Option (Int × zM)) : Nat → Int → Int → Int → Option (Int × zM) := zlp (FX6_common_L46_B a1 a2 mc k) (fun _ _ _ => none)
def FX6_common (a1 : Int) (a2 : Int) (m : zM) : Option (Int × zM) :=
zgd (zR a1) <|
zcl (FX6_within a1 0 1) fun r2 =>
if zI r2 = zI 0 then (
some ((-1), m)) else (
zgd (zR a2) <|
zcl (FX6_within a2 0 1) fun r4 =>
if zI r4 = zI 0 then (
some ((-1), m)) else (
zrd m 4 a1 2 fun x5 =>
if zI x5 < zI 0 then (
some ((-2), m)) else (
zcl (FX6_lay m) fun m6 =>
FX6_common_L46 a1 a2 m6 (fun y46_3 y46_4 y46_5 =>
if zI a2 = zI 0 then (
some (y46_3, m6)) else (
some (y46_4, m6))) zfu 0 0 0)))
def FX6_isSheet (a0 : Int)  : Option (Int) :=
zgd (zR a0) <|
zcl (FX6_within a0 0 3) fun r2 =>
zgd (r2 = 0 ∨ r2 = 1) <|
some r2
def FX6_whyNot (a1 : Int) (a2 : Int) (a3 : Int) (a4 : Int) (m : zM) : Option (Int) :=
zrd m 6 a1 4 fun x1 =>
if zI x1 < zI 0 then (
some (-11)) else (
zrd m 6 a1 4 fun x2 =>
if zI x2 = zI a2 then (
if zI a3 < zI 0 then (
some (-13)) else (
if zI a4 < zI 0 then (
some (-13)) else (
zgd (zR a3) <|
zgd (zR a4) <|
zrd m 7 a1 4 fun x5 =>
zgd (zR x5) <|
if zJ x5 < zJ (a3 + a4) then (
some (-13)) else (
some 0)))) else (
some (-12)))
def FX6_copy_L96_B (a1 : Int) (a2 : Int) (a3 : Int) (a4 : Int) (a5 : Int) (k : Int → zM → Option (Int × zM)) (rec : Int → zM → Option (Int × zM)) (v6 : Int) (m_ : zM) : Option (Int × zM) :=
if zI v6 < zI a5 then (
zrd m_ 8 (((48 * a1) + a2) + v6) 192 fun x11 =>
zwr m_ 9 v6 x11 48 fun m12 =>
rec (v6 + 1) m12) else (
k v6 m_)
def FX6_copy_L96 (a1 : Int) (a2 : Int) (a3 : Int) (a4 : Int) (a5 : Int) (k : Int → zM → Option (Int × zM)) : Nat → Int → zM → Option (Int × zM) := zlp (FX6_copy_L96_B a1 a2 a3 a4 a5 k) (fun _ _ => none)
def FX6_copy_L133_B (a1 : Int) (a2 : Int) (a3 : Int) (a4 : Int) (a5 : Int) (k : Int → zM → Option (Int × zM)) (rec : Int → zM → Option (Int × zM)) (v6 : Int) (m_ : zM) : Option (Int × zM) :=
if zI v6 < zI a5 then (
zrd m_ 9 v6 48 fun x14 =>
zwr m_ 8 (((48 * a3) + a4) + v6) x14 192 fun m15 =>
rec (v6 + 1) m15) else (
k v6 m_)
def FX6_copy_L133 (a1 : Int) (a2 : Int) (a3 : Int) (a4 : Int) (a5 : Int) (k : Int → zM → Option (Int × zM)) : Nat → Int → zM → Option (Int × zM) := zlp (FX6_copy_L133_B a1 a2 a3 a4 a5 k) (fun _ _ => none)
def FX6_copy (a1 : Int) (a2 : Int) (a3 : Int) (a4 : Int) (a5 : Int) (m : zM) : Option (Int × zM) :=
zcl (FX6_isSheet a1) fun r1 =>
if zI r1 = zI 0 then (
some ((-1), m)) else (
zcl (FX6_isSheet a3) fun r2 =>
if zI r2 = zI 0 then (
some ((-1), m)) else (
zrd m 6 a1 4 fun x3 =>
if zI x3 < zI 0 then (
some ((-11), m)) else (
zrd m 6 a3 4 fun x4 =>
if zI x4 < zI 0 then (
some ((-11), m)) else (
zrd m 6 a1 4 fun x5 =>
zrd m 6 a3 4 fun x6 =>
if zI x5 = zI x6 then (
zrd m 6 a1 4 fun x7 =>
zcl (FX6_whyNot a1 x7 a2 a5 m) fun r8 =>
if zI r8 = zI 0 then (
zrd m 6 a3 4 fun x9 =>
zcl (FX6_whyNot a3 x9 a4 a5 m) fun r10 =>
if zI r10 = zI 0 then (
FX6_copy_L96 a1 a2 a3 a4 a5 (fun y96_6 m96_ =>
FX6_copy_L133 a1 a2 a3 a4 a5 (fun y133_6 m133_ =>
some (a5, m133_)) zfu 0 m96_) zfu 0 m) else (
some ((-13), m))) else (
some ((-13), m))) else (
some ((-12), m))))))
def FX6_stands_L9_B (a1 : Int) (a2 : Int) (a3 : Int)  (m : zM) (k : Int → Int → Int → Option (Int)) (rec : Int → Int → Int → Option (Int)) (v4 : Int) (v5 : Int) (v6 : Int) : Option (Int) :=
if zI (m 0 0) < zI (v6 + a2) then (
k v4 v5 v6) else (
zcl (FX6_isSame v6 a1 a2 m) fun r1 =>
zjn (fun (s42_0 : Int) =>
if zI r1 = zI 0 then (
rec (v4 + s42_0) v5 (v6 + 1)) else (
rec (v4 + s42_0) v6 (v6 + 1))) fun j42 =>
if zI r1 = zI 0 then (
j42 0) else (
j42 1))
def FX6_stands_L9 (a1 : Int) (a2 : Int) (a3 : Int)  (m : zM) (k : Int → Int → Int → Option (Int)) : Nat → Int → Int → Int → Option (Int) := zlp (FX6_stands_L9_B a1 a2 a3 m k) (fun _ _ _ => none)
def FX6_stands (a1 : Int) (a2 : Int) (a3 : Int) (m : zM) : Option (Int) :=
FX6_stands_L9 a1 a2 a3 m (fun y9_4 y9_5 y9_6 =>
if zI a3 = zI 3 then (
some y9_4) else (
some y9_5)) zfu 0 a1 0
def FX6_ofAll_L7_B (a1 : Int)  (m : zM) (k : Int → Int → Int → Option (Int)) (rec : Int → Int → Int → Option (Int)) (v2 : Int) (v3 : Int) (v4 : Int) : Option (Int) :=
if zI v4 < zI (m 0 12) then (
zjn (fun (s55_0 : Int) =>
zrd m 11 v4 48 fun x1 =>
if zI v3 < zI x1 then (
zrd m 11 v4 48 fun x2 =>
rec (v2 + s55_0) x2 (v4 + 1)) else (
rec (v2 + s55_0) v3 (v4 + 1))) fun j55 =>
if zI a1 = zI 2 then (
zrd m 10 v4 48 fun x6 =>
zrd m 11 v4 48 fun x7 =>
zcl (FX6_stands x6 x7 3 m) fun r8 =>
j55 r8) else (
zrd m 11 v4 48 fun x4 =>
zgd (zdg x4 2) <|
j55 (1 - (x4 % 2)))) else (
k v2 v3 v4)
def FX6_ofAll_L7 (a1 : Int)  (m : zM) (k : Int → Int → Int → Option (Int)) : Nat → Int → Int → Int → Option (Int) := zlp (FX6_ofAll_L7_B a1 m k) (fun _ _ _ => none)
def FX6_ofAll (a1 : Int) (m : zM) : Option (Int) :=
FX6_ofAll_L7 a1 m (fun y7_2 y7_3 y7_4 =>
if zI a1 = zI 4 then (
some y7_3) else (
some y7_2)) zfu 0 0 0
def FX6_count (a1 : Int) (m : zM) : Option (Int × zM) :=
zcl (FX6_lay m) fun m1 =>
if zI a1 = zI 0 then (
some ((m1 0 0), m1)) else (
if zI a1 = zI 1 then (
some ((m1 0 12), m1)) else (
if zI a1 = zI 2 then (
zcl (FX6_ofAll a1 m1) fun r3 =>
some (r3, m1)) else (
if zI a1 = zI 3 then (
zcl (FX6_ofAll a1 m1) fun r4 =>
some (r4, m1)) else (
if zI a1 = zI 4 then (
zcl (FX6_ofAll a1 m1) fun r5 =>
some (r5, m1)) else (
if zI a1 = zI 5 then (
if zI (m1 0 12) = zI (m1 0 0) then (
some (1, m1)) else (
some (0, m1))) else (
if zI a1 = zI 6 then (
some ((m1 0 2), m1)) else (
if zI a1 = zI 7 then (
some ((m1 0 6), m1)) else (
some ((-1), m1)))))))))
def FX6_cut (a0 : Int) (a1 : Int)  : Option (Int) :=
if zI a0 = zI 0 then (
some (zand a1 65535)) else (
if zI a0 = zI 1 then (
zgd (zR (zsh (zw a1))) <|
some (zsh (zw a1))) else (
if zI a0 = zI 2 then (
zgd (zR (zw a1)) <|
some (zw a1)) else (
some a1)))
def FX6_layCuts_L26_B (a1 : Int) (a2 : Int) (k3 : Int) (k : Int → zM → Option (zM)) (rec : Int → zM → Option (zM)) (v4 : Int) (m_ : zM) : Option (zM) :=
if zI a1 < zI (k3 + v4) then (
k v4 m_) else (
zcl (FX6_isMirror k3 v4 m_) fun r3 =>
if zI r3 = zI 0 then (
rec (v4 + a2) m_) else (
zrd m_ 12 (k3 + v4) 49 fun x4 =>
zrd m_ 12 k3 49 fun x5 =>
if zI (x4 + 1) < zI x5 then (
zrd m_ 12 (k3 + v4) 49 fun x6 =>
zwr m_ 12 k3 (x6 + 1) 49 fun m7 =>
rec (v4 + a2) m7) else (
rec (v4 + a2) m_)))
def FX6_layCuts_L26 (a1 : Int) (a2 : Int) (k3 : Int) (k : Int → zM → Option (zM)) : Nat → Int → zM → Option (zM) := zlp (FX6_layCuts_L26_B a1 a2 k3 k) (fun _ _ => none)
def FX6_layCuts_L11_B (a1 : Int) (a2 : Int) (k : Int → zM → Option (zM)) (rec : Int → zM → Option (zM)) (v3 : Int) (m_ : zM) : Option (zM) :=
if zI v3 < zI 0 then (
k v3 m_) else (
zwr m_ 12 v3 99 49 fun m2 =>
FX6_layCuts_L26 a1 a2 v3 (fun y26_4 m26_ =>
rec (v3 + -1) m26_) zfu a2 m2)
def FX6_layCuts_L11 (a1 : Int) (a2 : Int) (k : Int → zM → Option (zM)) : Nat → Int → zM → Option (zM) := zlp (FX6_layCuts_L11_B a1 a2 k) (fun _ _ => none)
def FX6_layCuts (a1 : Int) (a2 : Int) (m : zM) : Option (zM) :=
zwr m 12 a1 0 49 fun m1 =>
FX6_layCuts_L11 a1 a2 (fun y11_3 m11_ =>
some m11_) zfu (a1 - 1) m1
def FX6_cuts_L81_B (a1 : Int) (a2 : Int) (k3 : Int) (k5 : Int) (mc : zM) (k : Int → Option (Int × zM)) (rec : Int → Option (Int × zM)) (v4 : Int) : Option (Int × zM) :=
zcl (FX6_isMirror k3 v4 mc) fun r8 =>
if zI r8 = zI 0 then (
rec (v4 + 1)) else (
zrd mc 12 (k3 + v4) 49 fun x9 =>
zrd mc 12 k3 49 fun x10 =>
if zI x9 = zI (x10 - 1) then (
k v4) else (
rec (v4 + 1)))
def FX6_cuts_L81 (a1 : Int) (a2 : Int) (k3 : Int) (k5 : Int) (mc : zM) (k : Int → Option (Int × zM)) : Nat → Int → Option (Int × zM) := zlp (FX6_cuts_L81_B a1 a2 k3 k5 mc k) (fun _ => none)
def FX6_cuts_L67_B (a1 : Int) (a2 : Int)  (mc : zM) (k : Int → Int → Int → Option (Int × zM)) (rec : Int → Int → Int → Option (Int × zM)) (v3 : Int) (v4 : Int) (v5 : Int) : Option (Int × zM) :=
if zI a2 < zI v5 then (
k v3 v4 v5) else (
FX6_cuts_L81 a1 a2 (v3 + v4) v5 mc (fun y81_4 =>
rec (v3 + v4) y81_4 (v5 + 1)) zfu 1)
def FX6_cuts_L67 (a1 : Int) (a2 : Int)  (mc : zM) (k : Int → Int → Int → Option (Int × zM)) : Nat → Int → Int → Int → Option (Int × zM) := zlp (FX6_cuts_L67_B a1 a2 mc k) (fun _ _ _ => none)
def FX6_cuts (a1 : Int) (a2 : Int) (m : zM) : Option (Int × zM) :=
zgd (zR a1) <|
zgd (zR (m 0 0)) <|
zcl (FX6_within a1 0 (m 0 0)) fun r3 =>
if zI r3 = zI 0 then (
some ((-1), m)) else (
if zI a2 < zI (-1) then (
some ((-1), m)) else (
zcl (FX6_layCuts a1 1 m) fun m4 =>
zjn (if zI a2 = zI (-1) then (
zrd m4 12 0 49 fun x5 =>
some (x5, m4)) else (
some ((-4), m4))) fun j42 =>
if zI a2 = zI (-1) then (
j42) else (
zrd m4 12 0 49 fun x7 =>
if zI a2 < zI x7 then (
FX6_cuts_L67 a1 a2 m4 (fun y67_3 y67_4 y67_5 =>
some (y67_4, m4)) zfu 0 0 0) else (
j42))))
def FX6_drop (a1 : Int) (m : zM) : Option (Int × zM) :=
zcl (FX6_isSheet a1) fun r1 =>
if zI r1 = zI 0 then (
some ((-1), m)) else (
zrd m 6 a1 4 fun x2 =>
if zI x2 < zI 0 then (
some ((-11), m)) else (
zwr m 6 a1 (-1) 4 fun m3 =>
zrd m3 7 a1 4 fun x4 =>
some (x4, m3)))
def FX6_ends_L34_B (a1 : Int) (a2 : Int)  (m : zM) (k : Int → Int → Option (Int)) (rec : Int → Int → Option (Int)) (v3 : Int) (v4 : Int) : Option (Int) :=
if zI 0 < zI v4 then (
if zI v3 = zI a2 then (
some v4) else (
zcl (FX6_endsBelow a1 v4 m) fun r5 =>
rec (v3 + 1) r5)) else (
k v3 v4)
def FX6_ends_L34 (a1 : Int) (a2 : Int)  (m : zM) (k : Int → Int → Option (Int)) : Nat → Int → Int → Option (Int) := zlp (FX6_ends_L34_B a1 a2 m k) (fun _ _ => none)
def FX6_ends (a1 : Int) (a2 : Int) (m : zM) : Option (Int) :=
zgd (zR a1) <|
zgd (zR ((m 0 0) - 1)) <|
zcl (FX6_within a1 0 ((m 0 0) - 1)) fun r3 =>
if zI r3 = zI 0 then (
some (-1)) else (
if zI a2 < zI (-1) then (
some (-1)) else (
zcl (FX6_endsBelow a1 49 m) fun r4 =>
FX6_ends_L34 a1 a2 m (fun y34_3 y34_4 =>
if zI a2 = zI (-1) then (
some y34_3) else (
some (-4))) zfu 0 r4))
def FX6_evens (a1 : Int) (m : zM) : Option (Int × zM) :=
zgd (zR a1) <|
zgd (zR (m 0 0)) <|
zcl (FX6_within a1 0 (m 0 0)) fun r3 =>
if zI r3 = zI 0 then (
some ((-1), m)) else (
zcl (FX6_layCuts a1 2 m) fun m4 =>
zrd m4 12 0 49 fun x5 =>
if zI x5 < zI 99 then (
zrd m4 12 0 49 fun x6 =>
some (x6, m4)) else (
some ((-4), m4)))
def FX6_feed (a1 : Int) (m : zM) : Option (Int × zM) :=
zgd (zR a1) <|
zcl (FX6_within a1 0 255) fun r2 =>
if zI r2 = zI 0 then (
some ((-1), m)) else (
if zI (m 0 6) = zI 48 then (
some ((-3), m)) else (
zwr m 5 (m 0 6) a1 48 fun m3 =>
zpf m3 0 6 ((m3 0 6) + 1) fun m4 =>
some ((m4 0 6), m4)))
def FX6_fill_L2_B  (k : Int → zM → Option (Int × zM)) (rec : Int → zM → Option (Int × zM)) (v1 : Int) (m_ : zM) : Option (Int × zM) :=
if zI v1 < zI 48 then (
zwr m_ 12 v1 0 49 fun m1 =>
zwr m1 14 v1 0 48 fun m2 =>
rec (v1 + 1) m2) else (
k v1 m_)
def FX6_fill_L2  (k : Int → zM → Option (Int × zM)) : Nat → Int → zM → Option (Int × zM) := zlp (FX6_fill_L2_B  k) (fun _ _ => none)
def FX6_fill_L42_B (k2 : Int) (k : Int → zM → Option (Int × zM)) (rec : Int → zM → Option (Int × zM)) (v3 : Int) (m_ : zM) : Option (Int × zM) :=
if zI (m_ 0 0) < zI (v3 + k2) then (
k v3 m_) else (
zrd m_ 1 v3 48 fun x4 =>
zrd m_ 1 ((v3 + k2) - 1) 48 fun x5 =>
zjn (fun (s76_0 : Int) =>
zrd m_ 12 v3 49 fun x6 =>
zrd m_ 12 (v3 + 1) 49 fun x7 =>
zjn (fun (s116_0 : Int) =>
zjn (fun (s136_0 : Int) =>
zrd m_ 12 v3 49 fun x8 =>
zwr m_ 14 v3 x8 48 fun m9 =>
zwr m9 12 v3 s136_0 49 fun m10 =>
rec (v3 + 1) m10) fun j136 =>
if zI s76_0 = zI 0 then (
j136 s116_0) else (
zrd m_ 14 (v3 + 1) 48 fun x11 =>
j136 x11)) fun j116 =>
if zI x6 < zI x7 then (
zrd m_ 12 v3 49 fun x14 =>
j116 (x14 + 1)) else (
zrd m_ 12 (v3 + 1) 49 fun x13 =>
j116 (x13 + 1))) fun j76 =>
if zI x4 = zI x5 then (
j76 1) else (
j76 0))
def FX6_fill_L42 (k2 : Int) (k : Int → zM → Option (Int × zM)) : Nat → Int → zM → Option (Int × zM) := zlp (FX6_fill_L42_B k2 k) (fun _ _ => none)
def FX6_fill_L32_B  (k : Int → zM → Option (Int × zM)) (rec : Int → zM → Option (Int × zM)) (v2 : Int) (m_ : zM) : Option (Int × zM) :=
if zI (m_ 0 0) < zI v2 then (
k v2 m_) else (
FX6_fill_L42 v2 (fun y42_3 m42_ =>
rec (v2 + 1) m42_) zfu 0 m_)
def FX6_fill_L32  (k : Int → zM → Option (Int × zM)) : Nat → Int → zM → Option (Int × zM) := zlp (FX6_fill_L32_B  k) (fun _ _ => none)
def FX6_fill  (m : zM) : Option (Int × zM) :=
FX6_fill_L2  (fun y2_1 m2_ =>
FX6_fill_L32  (fun y32_2 m32_ =>
if zI (m32_ 0 0) = zI 0 then (
some (0, m32_)) else (
zrd m32_ 12 0 49 fun x19 =>
some (x19, m32_))) zfu 2 m2_) zfu 0 m
def FX6_isTaped_L28_B (a1 : Int)  (m : zM) (k : Int → Int → Option (Int)) (rec : Int → Int → Option (Int)) (v2 : Int) (v3 : Int) : Option (Int) :=
if zI v3 < zI (m 0 6) then (
if zI v2 = zI 0 then (
k v2 v3) else (
zrd m 5 v3 48 fun x1 =>
zrd m 1 (a1 + v3) 48 fun x2 =>
if zI x1 = zI (97 + x2) then (
rec 1 (v3 + 1)) else (
rec 0 (v3 + 1)))) else (
k v2 v3)
def FX6_isTaped_L28 (a1 : Int)  (m : zM) (k : Int → Int → Option (Int)) : Nat → Int → Int → Option (Int) := zlp (FX6_isTaped_L28_B a1 m k) (fun _ _ => none)
def FX6_isTaped (a1 : Int) (m : zM) : Option (Int) :=
zjn (fun (s25_0 : Int) =>
FX6_isTaped_L28 a1 m (fun y28_2 y28_3 =>
zgd (y28_2 = 0 ∨ y28_2 = 1) <|
some y28_2) zfu s25_0 0) fun j25 =>
if zI 0 < zI (m 0 6) then (
if zI (m 0 0) < zI (a1 + (m 0 6)) then (
j25 0) else (
j25 1)) else (
j25 0)
def FX6_find_L9_B (mc : zM) (k : Int → Int → Option (Int × zM)) (rec : Int → Int → Option (Int × zM)) (v1 : Int) (v2 : Int) : Option (Int × zM) :=
if zI v2 < zI (mc 0 12) then (
zrd mc 11 v2 48 fun x2 =>
if zI x2 = zI (mc 0 6) then (
zrd mc 10 v2 48 fun x3 =>
zcl (FX6_isTaped x3 mc) fun r4 =>
if zI r4 = zI 0 then (
rec v1 (v2 + 1)) else (
rec v2 (v2 + 1))) else (
rec v1 (v2 + 1))) else (
k v1 v2)
def FX6_find_L9 (mc : zM) (k : Int → Int → Option (Int × zM)) : Nat → Int → Int → Option (Int × zM) := zlp (FX6_find_L9_B mc k) (fun _ _ => none)
def FX6_find  (m : zM) : Option (Int × zM) :=
zcl (FX6_lay m) fun m1 =>
FX6_find_L9 m1 (fun y9_1 y9_2 =>
some (y9_1, m1)) zfu (-4) 0
def FX6_nodeOf_L2_B (a1 : Int) (a2 : Int)  (m : zM) (k : Int → Option (Int)) (rec : Int → Option (Int)) (v3 : Int) : Option (Int) :=
zrd m 11 v3 48 fun x1 =>
if zI x1 = zI a2 then (
zrd m 10 v3 48 fun x2 =>
zcl (FX6_isSame x2 a1 a2 m) fun r3 =>
if zI r3 = zI 0 then (
rec (v3 + 1)) else (
k v3)) else (
rec (v3 + 1))
def FX6_nodeOf_L2 (a1 : Int) (a2 : Int)  (m : zM) (k : Int → Option (Int)) : Nat → Int → Option (Int) := zlp (FX6_nodeOf_L2_B a1 a2 m k) (fun _ => none)
def FX6_nodeOf (a1 : Int) (a2 : Int) (m : zM) : Option (Int) :=
FX6_nodeOf_L2 a1 a2 m (fun y2_3 =>
some y2_3) zfu 0
def FX6_link (a1 : Int) (m : zM) : Option (Int) :=
zrd m 10 a1 48 fun x1 =>
zrd m 11 a1 48 fun x2 =>
zrd m 11 a1 48 fun x3 =>
zcl (FX6_endsBelow ((x1 + x2) - 1) x3 m) fun r4 =>
if zI r4 = zI 0 then (
some (-4)) else (
zcl (FX6_nodeOf ((((x1 + x2) - 1) + 1) - r4) r4 m) fun r5 =>
some r5)
def FX6_less (a1 : Int) (m : zM) : Option (Int) :=
zcl (FX6_link a1 m) fun r1 =>
if zI r1 = zI (-4) then (
zrd m 11 a1 48 fun x4 =>
some x4) else (
zrd m 11 a1 48 fun x2 =>
zrd m 11 r1 48 fun x3 =>
some (x2 - x3))
def FX6_series_L12_B (a1 : Int) (k2 : Int) (m : zM) (k : Int → Option (Int)) (rec : Int → Option (Int)) (v3 : Int) : Option (Int) :=
if zI v3 = zI (-4) then (
k v3) else (
zcl (FX6_less v3 m) fun r3 =>
if zI r3 = zI k2 then (
zcl (FX6_link v3 m) fun r4 =>
rec r4) else (
k v3))
def FX6_series_L12 (a1 : Int) (k2 : Int) (m : zM) (k : Int → Option (Int)) : Nat → Int → Option (Int) := zlp (FX6_series_L12_B a1 k2 m k) (fun _ => none)
def FX6_series (a1 : Int) (m : zM) : Option (Int) :=
zcl (FX6_less a1 m) fun r1 =>
zcl (FX6_link a1 m) fun r2 =>
FX6_series_L12 a1 r1 m (fun y12_3 =>
some y12_3) zfu r2
def FX6_groups_L44_B (a1 : Int)  (mc : zM) (k : Int → Int → Option (Int × zM)) (rec : Int → Int → Option (Int × zM)) (v3 : Int) (v4 : Int) : Option (Int × zM) :=
if zI v3 = zI (-4) then (
k v3 v4) else (
zcl (FX6_series v3 mc) fun r7 =>
rec r7 (v4 + 1))
def FX6_groups_L44 (a1 : Int)  (mc : zM) (k : Int → Int → Option (Int × zM)) : Nat → Int → Int → Option (Int × zM) := zlp (FX6_groups_L44_B a1 mc k) (fun _ _ => none)
def FX6_groups (a1 : Int) (m : zM) : Option (Int × zM) :=
zgd (zR a1) <|
zgd (zR ((m 0 0) - 1)) <|
zcl (FX6_within a1 0 ((m 0 0) - 1)) fun r3 =>
if zI r3 = zI 0 then (
some ((-1), m)) else (
zcl (FX6_lay m) fun m4 =>
zcl (FX6_endsBelow a1 49 m4) fun r5 =>
zcl (FX6_nodeOf ((a1 + 1) - r5) r5 m4) fun r6 =>
FX6_groups_L44 a1 m4 (fun y44_3 y44_4 =>
some (y44_4, m4)) zfu r6 0)
def FX6_power_L4_B (a0 : Int) (k : Int → Int → Option (Int)) (rec : Int → Int → Option (Int)) (v1 : Int) (v2 : Int) : Option (Int) :=
if zI v2 < zI a0 then (
rec (v1 * 6) (v2 + 1)) else (
k v1 v2)
def FX6_power_L4 (a0 : Int) (k : Int → Int → Option (Int)) : Nat → Int → Int → Option (Int) := zlp (FX6_power_L4_B a0 k) (fun _ _ => none)
def FX6_power (a0 : Int)  : Option (Int) :=
FX6_power_L4 a0 (fun y4_1 y4_2 =>
some y4_1) zfu 1 0
def FX6_push (a1 : Int) (m : zM) : Option (zM) :=
zwr m 1 (m 0 0) a1 48 fun m1 =>
zpf m1 0 0 ((m1 0 0) + 1) fun m2 =>
some m2
def FX6_more_L11_B (a1 : Int) (a2 : Int) (k3 : Int) (k : Int → Int → zM → Option (Int × zM)) (rec : Int → Int → zM → Option (Int × zM)) (v4 : Int) (v5 : Int) (m_ : zM) : Option (Int × zM) :=
if zI v5 < zI a1 then (
zcl (FX6_power ((a1 - 1) - v5)) fun r1 =>
zgd (zdg a2 r1) <|
zgd (zdg (a2 / r1) 6) <|
zcl (FX6_push ((a2 / r1) % 6) m_) fun m4 =>
zcl (FX6_isNew ((m4 0 0) - 1) m4) fun r5 =>
if zI r5 = zI 0 then (
rec (v4 + 0) (v5 + 1) m4) else (
rec (v4 + 1) (v5 + 1) m4)) else (
k v4 v5 m_)
def FX6_more_L11 (a1 : Int) (a2 : Int) (k3 : Int) (k : Int → Int → zM → Option (Int × zM)) : Nat → Int → Int → zM → Option (Int × zM) := zlp (FX6_more_L11_B a1 a2 k3 k) (fun _ _ _ => none)
def FX6_more (a1 : Int) (a2 : Int) (m : zM) : Option (Int × zM) :=
FX6_more_L11 a1 a2 (m 0 0) (fun y11_4 y11_5 m11_ =>
zpf m11_ 0 0 (m 0 0) fun m8 =>
some (y11_4, m8)) zfu 0 0 m
def FX6_grow_L41_B (a1 : Int) (a2 : Int) (k : Int → Int → Int → zM → Option (Int × zM)) (rec : Int → Int → Int → zM → Option (Int × zM)) (v3 : Int) (v4 : Int) (v5 : Int) (m_ : zM) : Option (Int × zM) :=
zcl (FX6_power a1) fun r3 =>
if zI v5 < zI r3 then (
zcl2 (FX6_more a1 v5 m_) fun r4 m4 =>
zjn (fun (s72_0 : Int) =>
if zI v3 < zI r4 then (
rec r4 s72_0 (v5 + 1) m4) else (
rec v3 s72_0 (v5 + 1) m4)) fun j72 =>
if zI v3 < zI r4 then (
j72 v5) else (
j72 v4)) else (
k v3 v4 v5 m_)
def FX6_grow_L41 (a1 : Int) (a2 : Int) (k : Int → Int → Int → zM → Option (Int × zM)) : Nat → Int → Int → Int → zM → Option (Int × zM) := zlp (FX6_grow_L41_B a1 a2 k) (fun _ _ _ _ => none)
def FX6_grow (a1 : Int) (a2 : Int) (m : zM) : Option (Int × zM) :=
zgd (zR a1) <|
zcl (FX6_within a1 0 3) fun r2 =>
if zI r2 = zI 0 then (
some ((-1), m)) else (
if zI a2 < zI (-1) then (
some ((-1), m)) else (
if zI 48 < zI ((m 0 0) + a1) then (
some ((-3), m)) else (
FX6_grow_L41 a1 a2 (fun y41_3 y41_4 y41_5 m41_ =>
zcl (FX6_lay m41_) fun m8 =>
if zI a2 = zI (-1) then (
some (((m8 0 12) + y41_3), m8)) else (
if zI a2 < zI a1 then (
zcl (FX6_power ((a1 - 1) - a2)) fun r9 =>
zgd (zdg y41_4 r9) <|
zgd (zdg (y41_4 / r9) 6) <|
some ((97 + ((y41_4 / r9) % 6)), m8)) else (
some ((-4), m8)))) zfu (-1) 0 0 m)))
def FX6_unlike_L36_B (a1 : Int) (a2 : Int) (k3 : Int) (k4 : Int) (k5 : Int) (m : zM) (k : Int → Int → Option (Int)) (rec : Int → Int → Option (Int)) (v6 : Int) (v7 : Int) : Option (Int) :=
if zI v7 < zI k4 then (
if zI v6 = zI 0 then (
k v6 v7) else (
zcl (FX6_isSame v7 k4 k5 m) fun r2 =>
if zI r2 = zI 0 then (
rec 1 (v7 + 1)) else (
rec 0 (v7 + 1)))) else (
k v6 v7)
def FX6_unlike_L36 (a1 : Int) (a2 : Int) (k3 : Int) (k4 : Int) (k5 : Int) (m : zM) (k : Int → Int → Option (Int)) : Nat → Int → Int → Option (Int) := zlp (FX6_unlike_L36_B a1 a2 k3 k4 k5 m k) (fun _ _ => none)
def FX6_unlike_L14_B (a1 : Int) (a2 : Int) (k4 : Int) (m : zM) (k : Int → Int → Option (Int)) (rec : Int → Int → Option (Int)) (v3 : Int) (v5 : Int) : Option (Int) :=
if zI a2 < zI (k4 + v5) then (
k v3 v5) else (
zcl (FX6_isMirror k4 v5 m) fun r1 =>
FX6_unlike_L36 a1 a2 v3 k4 v5 m (fun y36_6 y36_7 =>
if zI y36_6 = zI 0 then (
rec (v3 + 0) (v5 + 1)) else (
rec (v3 + 1) (v5 + 1))) zfu r1 a1)
def FX6_unlike_L14 (a1 : Int) (a2 : Int) (k4 : Int) (m : zM) (k : Int → Int → Option (Int)) : Nat → Int → Int → Option (Int) := zlp (FX6_unlike_L14_B a1 a2 k4 m k) (fun _ _ => none)
def FX6_unlike_L5_B (a1 : Int) (a2 : Int)  (m : zM) (k : Int → Int → Option (Int)) (rec : Int → Int → Option (Int)) (v3 : Int) (v4 : Int) : Option (Int) :=
if zI v4 < zI a2 then (
FX6_unlike_L14 a1 a2 v4 m (fun y14_3 y14_5 =>
rec y14_3 (v4 + 1)) zfu v3 1) else (
k v3 v4)
def FX6_unlike_L5 (a1 : Int) (a2 : Int)  (m : zM) (k : Int → Int → Option (Int)) : Nat → Int → Int → Option (Int) := zlp (FX6_unlike_L5_B a1 a2 m k) (fun _ _ => none)
def FX6_unlike (a1 : Int) (a2 : Int) (m : zM) : Option (Int) :=
FX6_unlike_L5 a1 a2 m (fun y5_3 y5_4 =>
some y5_3) zfu 0 a1
def FX6_in_L56_B (a1 : Int) (a2 : Int) (a3 : Int) (k4 : Int) (m : zM) (k : Int → Option (Int)) (rec : Int → Option (Int)) (v5 : Int) : Option (Int) :=
if zI a2 < zI (v5 + k4) then (
k v5) else (
zcl (FX6_isMirror v5 k4 m) fun r3 =>
if zI r3 = zI 0 then (
rec (v5 + 1)) else (
if zI a3 = zI 0 then (
some k4) else (
some v5)))
def FX6_in_L56 (a1 : Int) (a2 : Int) (a3 : Int) (k4 : Int) (m : zM) (k : Int → Option (Int)) : Nat → Int → Option (Int) := zlp (FX6_in_L56_B a1 a2 a3 k4 m k) (fun _ => none)
def FX6_in_L48_B (a1 : Int) (a2 : Int) (a3 : Int)  (m : zM) (k : Int → Option (Int)) (rec : Int → Option (Int)) (v4 : Int) : Option (Int) :=
if zI 0 < zI v4 then (
FX6_in_L56 a1 a2 a3 v4 m (fun y56_5 =>
rec (v4 + -1)) zfu a1) else (
k v4)
def FX6_in_L48 (a1 : Int) (a2 : Int) (a3 : Int)  (m : zM) (k : Int → Option (Int)) : Nat → Int → Option (Int) := zlp (FX6_in_L48_B a1 a2 a3 m k) (fun _ => none)
def FX6_in (a1 : Int) (a2 : Int) (a3 : Int) (m : zM) : Option (Int) :=
if zI a1 < zI 0 then (
some (-1)) else (
if zI a2 < zI a1 then (
some (-1)) else (
if zI (m 0 0) < zI a2 then (
some (-1)) else (
zgd (zR a3) <|
zcl (FX6_within a3 0 2) fun r2 =>
if zI r2 = zI 0 then (
some (-1)) else (
if zI a3 = zI 2 then (
zcl (FX6_unlike a1 a2 m) fun r9 =>
some r9) else (
FX6_in_L48 a1 a2 a3 m (fun y48_4 =>
if zI a3 = zI 0 then (
some 0) else (
some (-4))) zfu (a2 - a1))))))
def FX6_isTurned_L4_B (a1 : Int)  (m : zM) (k : Int → Int → Option (Int)) (rec : Int → Int → Option (Int)) (v2 : Int) (v3 : Int) : Option (Int) :=
zgd (zdg (m 0 0) 2) <|
if zI v3 < zI ((m 0 0) / 2) then (
if zI v2 = zI 0 then (
k v2 v3) else (
zgd (zdg (a1 + v3) (m 0 0)) <|
zrd m 1 ((a1 + v3) % (m 0 0)) 48 fun x3 =>
zgd (zdg (((a1 + (m 0 0)) - 1) - v3) (m 0 0)) <|
zrd m 1 ((((a1 + (m 0 0)) - 1) - v3) % (m 0 0)) 48 fun x5 =>
if zI x3 = zI x5 then (
rec 1 (v3 + 1)) else (
rec 0 (v3 + 1)))) else (
k v2 v3)
def FX6_isTurned_L4 (a1 : Int)  (m : zM) (k : Int → Int → Option (Int)) : Nat → Int → Int → Option (Int) := zlp (FX6_isTurned_L4_B a1 m k) (fun _ _ => none)
def FX6_isTurned (a1 : Int) (m : zM) : Option (Int) :=
FX6_isTurned_L4 a1 m (fun y4_2 y4_3 =>
zgd (y4_2 = 0 ∨ y4_2 = 1) <|
some y4_2) zfu 1 0
def FX6_item (a1 : Int) (a2 : Int) (a3 : Int) (a4 : Int) (m : zM) : Option (Int × zM) :=
zcl (FX6_isSheet a1) fun r1 =>
if zI r1 = zI 0 then (
some ((-1), m)) else (
zgd (zR a2) <|
zcl (FX6_within a2 0 3) fun r3 =>
if zI r3 = zI 0 then (
some ((-1), m)) else (
zcl (FX6_whyNot a1 a2 a3 1 m) fun r4 =>
if zI r4 = zI 0 then (
zcl (FX6_cut a2 a4) fun r5 =>
zwr m 8 ((48 * a1) + a3) r5 192 fun m6 =>
zrd m6 8 ((48 * a1) + a3) 192 fun x7 =>
some (x7, m6)) else (
zgd (zR r4) <|
some (r4, m))))
def FX6_keep (a1 : Int) (m : zM) : Option (Int × zM) :=
zgd (zR a1) <|
zcl (FX6_within a1 0 1) fun r2 =>
if zI r2 = zI 0 then (
some ((-1), m)) else (
zcl (FX6_bring 1 48 0 3 96 (48 * a1) (m 0 0) m) fun m3 =>
zwr m3 4 a1 (m3 0 0) 2 fun m4 =>
some ((m4 0 0), m4))
def FX6_letter (a1 : Int) (m : zM) : Option (Int) :=
zgd (zR a1) <|
zgd (zR ((m 0 0) - 1)) <|
zcl (FX6_within a1 0 ((m 0 0) - 1)) fun r3 =>
if zI r3 = zI 0 then (
some (-1)) else (
zrd m 1 a1 48 fun x4 =>
some (97 + x4))
def FX6_mend_L16_B (a1 : Int)  (m : zM) (k : Int → Int → Option (Int × zM)) (rec : Int → Int → Option (Int × zM)) (v2 : Int) (v3 : Int) : Option (Int × zM) :=
zgd (zdg (m 0 0) 2) <|
if zI v3 < zI ((m 0 0) / 2) then (
zrd m 1 v3 48 fun x4 =>
zrd m 1 (((m 0 0) - 1) - v3) 48 fun x5 =>
if zI x4 = zI x5 then (
rec (v2 + 0) (v3 + 1)) else (
rec (v2 + 1) (v3 + 1))) else (
k v2 v3)
def FX6_mend_L16 (a1 : Int)  (m : zM) (k : Int → Int → Option (Int × zM)) : Nat → Int → Int → Option (Int × zM) := zlp (FX6_mend_L16_B a1 m k) (fun _ _ => none)
def FX6_mend (a1 : Int) (m : zM) : Option (Int × zM) :=
zgd (zR a1) <|
zcl (FX6_within a1 0 1) fun r2 =>
if zI r2 = zI 0 then (
some ((-1), m)) else (
FX6_mend_L16 a1 m (fun y16_2 y16_3 =>
if zI a1 = zI 0 then (
some (y16_2, m)) else (
zcl2 (FX6_fill m) fun r8 m8 =>
some (r8, m8))) zfu 0 0)
def FX6_next (a1 : Int) (a2 : Int) (m : zM) : Option (Int × zM) :=
zcl (FX6_isLetter a1) fun r1 =>
if zI r1 = zI 0 then (
some ((-1), m)) else (
zgd (zR a2) <|
zcl (FX6_within a2 0 1) fun r3 =>
if zI r3 = zI 0 then (
some ((-1), m)) else (
if zI (m 0 0) = zI 48 then (
some ((-3), m)) else (
zcl (FX6_push (a1 - 97) m) fun m4 =>
zjn (fun (s76_0 : Int) =>
zpf m4 0 0 ((m4 0 0) - 1) fun m5 =>
some (s76_0, m5)) fun j76 =>
if zI a2 = zI 0 then (
zcl (FX6_endsBelow ((m4 0 0) - 1) 49 m4) fun r8 =>
j76 r8) else (
zcl (FX6_isNew ((m4 0 0) - 1) m4) fun r6 =>
if zI r6 = zI 0 then (
j76 0) else (
j76 1)))))
def FX6_node (a1 : Int) (a2 : Int) (m : zM) : Option (Int × zM) :=
zcl (FX6_lay m) fun m1 =>
zgd (zR a1) <|
zgd (zR ((m1 0 12) - 1)) <|
zcl (FX6_within a1 0 ((m1 0 12) - 1)) fun r4 =>
if zI r4 = zI 0 then (
some ((-1), m1)) else (
zgd (zR a2) <|
zcl (FX6_within a2 0 7) fun r6 =>
if zI r6 = zI 0 then (
some ((-1), m1)) else (
zrd m1 10 a1 48 fun x7 =>
zrd m1 11 a1 48 fun x8 =>
if zI a2 = zI 0 then (
some (x8, m1)) else (
if zI a2 = zI 1 then (
some (x7, m1)) else (
if zI a2 = zI 2 then (
zcl (FX6_stands x7 x8 a2 m1) fun r10 =>
some (r10, m1)) else (
if zI a2 = zI 3 then (
zcl (FX6_stands x7 x8 a2 m1) fun r11 =>
some (r11, m1)) else (
if zI a2 = zI 4 then (
zcl (FX6_link a1 m1) fun r12 =>
some (r12, m1)) else (
if zI a2 = zI 5 then (
zcl (FX6_less a1 m1) fun r13 =>
some (r13, m1)) else (
if zI a2 = zI 6 then (
zcl (FX6_series a1 m1) fun r14 =>
some (r14, m1)) else (
if zI x8 < zI 3 then (
some ((-4), m1)) else (
zcl (FX6_nodeOf (x7 + 1) (x8 - 2) m1) fun r15 =>
some (r15, m1)))))))))))
def FX6_odds_L62_B (a1 : Int) (a2 : Int) (a3 : Int) (k5 : Int) (k : Int → Int → zM → Option (Int × zM)) (rec : Int → Int → zM → Option (Int × zM)) (v4 : Int) (v6 : Int) (m_ : zM) : Option (Int × zM) :=
if zI v6 < zI k5 then (
zcl2 (FX6_more a1 v6 m_) fun r8 m8 =>
if zI r8 < zI a2 then (
rec (v4 + 0) (v6 + 1) m8) else (
rec (v4 + 1) (v6 + 1) m8)) else (
k v4 v6 m_)
def FX6_odds_L62 (a1 : Int) (a2 : Int) (a3 : Int) (k5 : Int) (k : Int → Int → zM → Option (Int × zM)) : Nat → Int → Int → zM → Option (Int × zM) := zlp (FX6_odds_L62_B a1 a2 a3 k5 k) (fun _ _ _ => none)
def FX6_odds_L104_B (a1 : Int) (a2 : Int) (a3 : Int) (k4 : Int) (k5 : Int) (mc : zM) (k : Int → Int → Option (Int × zM)) (rec : Int → Int → Option (Int × zM)) (v6 : Int) (v7 : Int) : Option (Int × zM) :=
if zI 0 < zI v7 then (
zgd (zdg v6 v7) <|
rec v7 (v6 % v7)) else (
k v6 v7)
def FX6_odds_L104 (a1 : Int) (a2 : Int) (a3 : Int) (k4 : Int) (k5 : Int) (mc : zM) (k : Int → Int → Option (Int × zM)) : Nat → Int → Int → Option (Int × zM) := zlp (FX6_odds_L104_B a1 a2 a3 k4 k5 mc k) (fun _ _ => none)
def FX6_odds (a1 : Int) (a2 : Int) (a3 : Int) (m : zM) : Option (Int × zM) :=
zgd (zR a1) <|
zcl (FX6_within a1 0 4) fun r2 =>
if zI r2 = zI 0 then (
some ((-1), m)) else (
zgd (zR a2) <|
zcl (FX6_within a2 0 9) fun r4 =>
if zI r4 = zI 0 then (
some ((-1), m)) else (
zgd (zR a3) <|
zcl (FX6_within a3 0 1) fun r6 =>
if zI r6 = zI 0 then (
some ((-1), m)) else (
if zI 48 < zI ((m 0 0) + a1) then (
some ((-3), m)) else (
zcl (FX6_power a1) fun r7 =>
FX6_odds_L62 a1 a2 a3 r7 (fun y62_4 y62_6 m62_ =>
FX6_odds_L104 a1 a2 a3 y62_4 r7 m62_ (fun y104_6 y104_7 =>
if zI a3 = zI 0 then (
zgd (zdg y62_4 y104_6) <|
some ((y62_4 / y104_6), m62_)) else (
zgd (zdg r7 y104_6) <|
some ((r7 / y104_6), m62_))) zfu y62_4 r7) zfu 0 0 m))))
def FX6_pop  (m : zM) : Option (Int × zM) :=
if zI (m 0 0) = zI 0 then (
some ((-2), m)) else (
zpf m 0 0 ((m 0 0) - 1) fun m1 =>
zrd m1 1 (m1 0 0) 48 fun x2 =>
zcl (FX6_note (1 + x2) m1) fun m3 =>
zrd m3 1 (m3 0 0) 48 fun x4 =>
some ((97 + x4), m3))
def FX6_put (a1 : Int) (m : zM) : Option (Int × zM) :=
zcl (FX6_isLetter a1) fun r1 =>
if zI r1 = zI 0 then (
some ((-1), m)) else (
if zI (m 0 0) = zI 48 then (
some ((-3), m)) else (
zcl (FX6_note 0 m) fun m2 =>
zcl (FX6_push (a1 - 97) m2) fun m3 =>
zcl (FX6_endsBelow ((m3 0 0) - 1) 49 m3) fun r4 =>
some (r4, m3)))
def FX6_read_L56_B (a1 : Int) (a2 : Int) (a3 : Int) (a4 : Int)  (m : zM) (k : Int → Option (Int × zM)) (rec : Int → Option (Int × zM)) (v6 : Int) : Option (Int × zM) :=
if zI v6 < zI a4 then (
zrd m 8 (((48 * a1) + a3) + v6) 192 fun x7 =>
zcl (FX6_within x7 0 255) fun r8 =>
if zI r8 = zI 0 then (
some ((-2), m)) else (
rec (v6 + 1))) else (
k v6)
def FX6_read_L56 (a1 : Int) (a2 : Int) (a3 : Int) (a4 : Int)  (m : zM) (k : Int → Option (Int × zM)) : Nat → Int → Option (Int × zM) := zlp (FX6_read_L56_B a1 a2 a3 a4 m k) (fun _ => none)
def FX6_read_L114_B (a1 : Int) (a2 : Int) (a3 : Int) (a4 : Int) (k : Int → zM → Option (Int × zM)) (rec : Int → zM → Option (Int × zM)) (v6 : Int) (m_ : zM) : Option (Int × zM) :=
if zI v6 < zI a4 then (
zrd m_ 8 (((48 * a1) + a3) + v6) 192 fun x11 =>
zwr m_ 5 (m_ 0 6) (zw x11) 48 fun m12 =>
zpf m12 0 6 ((m12 0 6) + 1) fun m13 =>
rec (v6 + 1) m13) else (
k v6 m_)
def FX6_read_L114 (a1 : Int) (a2 : Int) (a3 : Int) (a4 : Int) (k : Int → zM → Option (Int × zM)) : Nat → Int → zM → Option (Int × zM) := zlp (FX6_read_L114_B a1 a2 a3 a4 k) (fun _ _ => none)
def FX6_read (a1 : Int) (a2 : Int) (a3 : Int) (a4 : Int) (m : zM) : Option (Int × zM) :=
zcl (FX6_isSheet a1) fun r1 =>
if zI r1 = zI 0 then (
some ((-1), m)) else (
zgd (zR a2) <|
zcl (FX6_within a2 0 3) fun r3 =>
if zI r3 = zI 0 then (
some ((-1), m)) else (
zgd (zR a4) <|
zcl (FX6_within a4 0 48) fun r5 =>
if zI r5 = zI 0 then (
some ((-1), m)) else (
zcl (FX6_whyNot a1 a2 a3 a4 m) fun r6 =>
if zI r6 = zI 0 then (
FX6_read_L56 a1 a2 a3 a4 m (fun y56_6 =>
if zI 48 < zI ((m 0 6) + a4) then (
some ((-3), m)) else (
FX6_read_L114 a1 a2 a3 a4 (fun y114_6 m114_ =>
some ((m114_ 0 6), m114_)) zfu 0 m)) zfu 0) else (
some (r6, m)))))
def FX6_sheet_L51_B (a1 : Int) (a2 : Int) (a3 : Int) (k : Int → zM → Option (Int × zM)) (rec : Int → zM → Option (Int × zM)) (v4 : Int) (m_ : zM) : Option (Int × zM) :=
if zI v4 < zI 48 then (
zwr m_ 8 ((48 * a1) + v4) 0 192 fun m6 =>
rec (v4 + 1) m6) else (
k v4 m_)
def FX6_sheet_L51 (a1 : Int) (a2 : Int) (a3 : Int) (k : Int → zM → Option (Int × zM)) : Nat → Int → zM → Option (Int × zM) := zlp (FX6_sheet_L51_B a1 a2 a3 k) (fun _ _ => none)
def FX6_sheet (a1 : Int) (a2 : Int) (a3 : Int) (m : zM) : Option (Int × zM) :=
zcl (FX6_isSheet a1) fun r1 =>
if zI r1 = zI 0 then (
some ((-1), m)) else (
zgd (zR a2) <|
zcl (FX6_within a2 0 3) fun r3 =>
if zI r3 = zI 0 then (
some ((-1), m)) else (
if zI 48 < zI a3 then (
some ((-1), m)) else (
if zI a3 < zI 0 then (
some ((-14), m)) else (
zwr m 6 a1 a2 4 fun m4 =>
zwr m4 7 a1 a3 4 fun m5 =>
FX6_sheet_L51 a1 a2 a3 (fun y51_4 m51_ =>
some (a3, m51_)) zfu 0 m5))))
def FX6_spell_L72_B (a1 : Int) (a2 : Int) (a3 : Int) (a4 : Int) (k5 : Int) (k : Int → zM → Option (Int × zM)) (rec : Int → zM → Option (Int × zM)) (v7 : Int) (m_ : zM) : Option (Int × zM) :=
if zI v7 < zI k5 then (
zrd m_ 10 a1 48 fun x10 =>
zrd m_ 1 (x10 + v7) 48 fun x11 =>
zgd (zR (97 + x11)) <|
zwr m_ 8 (((48 * a2) + a4) + v7) (97 + x11) 192 fun m13 =>
rec (v7 + 1) m13) else (
k v7 m_)
def FX6_spell_L72 (a1 : Int) (a2 : Int) (a3 : Int) (a4 : Int) (k5 : Int) (k : Int → zM → Option (Int × zM)) : Nat → Int → zM → Option (Int × zM) := zlp (FX6_spell_L72_B a1 a2 a3 a4 k5 k) (fun _ _ => none)
def FX6_spell (a1 : Int) (a2 : Int) (a3 : Int) (a4 : Int) (m : zM) : Option (Int × zM) :=
zcl (FX6_lay m) fun m1 =>
zgd (zR a1) <|
zgd (zR ((m1 0 12) - 1)) <|
zcl (FX6_within a1 0 ((m1 0 12) - 1)) fun r4 =>
if zI r4 = zI 0 then (
some ((-1), m1)) else (
zcl (FX6_isSheet a2) fun r5 =>
if zI r5 = zI 0 then (
some ((-1), m1)) else (
zgd (zR a3) <|
zcl (FX6_within a3 0 3) fun r7 =>
if zI r7 = zI 0 then (
some ((-1), m1)) else (
zrd m1 11 a1 48 fun x8 =>
zcl (FX6_whyNot a2 a3 a4 x8 m1) fun r9 =>
if zI r9 = zI 0 then (
FX6_spell_L72 a1 a2 a3 a4 x8 (fun y72_7 m72_ =>
some (x8, m72_)) zfu 0 m1) else (
some (r9, m1)))))
def FX6_times_L4_B (m : zM) (k : Int → Int → Option (Int)) (rec : Int → Int → Option (Int)) (v1 : Int) (v2 : Int) : Option (Int) :=
if zI v2 < zI (m 0 0) then (
zcl (FX6_isTaped v2 m) fun r1 =>
if zI r1 = zI 0 then (
rec (v1 + 0) (v2 + 1)) else (
rec (v1 + 1) (v2 + 1))) else (
k v1 v2)
def FX6_times_L4 (m : zM) (k : Int → Int → Option (Int)) : Nat → Int → Int → Option (Int) := zlp (FX6_times_L4_B m k) (fun _ _ => none)
def FX6_times  (m : zM) : Option (Int) :=
FX6_times_L4 m (fun y4_1 y4_2 =>
some y4_1) zfu 0 0
def FX6_turned_L25_B (a1 : Int)  (m : zM) (k : Int → Int → Int → Option (Int)) (rec : Int → Int → Int → Option (Int)) (v2 : Int) (v3 : Int) (v4 : Int) : Option (Int) :=
if zI v4 < zI 0 then (
k v2 v3 v4) else (
zcl (FX6_isTurned v4 m) fun r3 =>
zjn (fun (s45_0 : Int) =>
zcl (FX6_isTurned v4 m) fun r4 =>
if zI r4 = zI 0 then (
rec (v2 + s45_0) v3 (v4 + -1)) else (
rec (v2 + s45_0) v4 (v4 + -1))) fun j45 =>
if zI r3 = zI 0 then (
j45 0) else (
j45 1))
def FX6_turned_L25 (a1 : Int)  (m : zM) (k : Int → Int → Int → Option (Int)) : Nat → Int → Int → Int → Option (Int) := zlp (FX6_turned_L25_B a1 m k) (fun _ _ _ => none)
def FX6_turned (a1 : Int) (m : zM) : Option (Int) :=
zgd (zR a1) <|
zcl (FX6_within a1 0 1) fun r2 =>
if zI r2 = zI 0 then (
some (-1)) else (
FX6_turned_L25 a1 m (fun y25_2 y25_3 y25_4 =>
if zI a1 = zI 0 then (
some y25_2) else (
some y25_3)) zfu 0 (-4) ((m 0 0) - 1))
def FX6_undo  (m : zM) : Option (Int × zM) :=
if zI (m 0 2) = zI 0 then (
some ((-4), m)) else (
zpf m 0 2 ((m 0 2) - 1) fun m1 =>
zrd m1 2 (m1 0 2) 24 fun x2 =>
if zI x2 = zI 0 then (
zpf m1 0 0 ((m1 0 0) - 1) fun m8 =>
some ((m8 0 2), m8)) else (
if zI x2 < zI 100 then (
zcl (FX6_push (x2 - 1) m1) fun m6 =>
some ((m6 0 2), m6)) else (
zgd (zdg (x2 - 100) 10) <|
zgd (zdg x2 10) <|
zwr m1 1 ((x2 - 100) / 10) (x2 % 10) 48 fun m5 =>
some ((m5 0 2), m5))))
def FX6_walks_L64_B (a1 : Int) (a2 : Int) (a3 : Int) (k4 : Int) (k : Int → Int → zM → Option (Int × zM)) (rec : Int → Int → zM → Option (Int × zM)) (v5 : Int) (v7 : Int) (m_ : zM) : Option (Int × zM) :=
if zI v7 < zI a1 then (
zgd (zlg (16807 * v5) 2147483647) <|
zgd (zlg ((16807 * v5) % 2147483647) 64) <|
zgd (zlg (((16807 * v5) % 2147483647) / 64) 4) <|
zjn (zpf m_ 0 0 ((m_ 0 0) - 1) fun m12 =>
rec ((16807 * v5) % 2147483647) (v7 + 1) m12) fun j113 =>
zjn (if zI (m_ 0 0) = zI 48 then (
j113) else (
zgd (zlg ((16807 * v5) % 2147483647) 6) <|
zcl (FX6_push (zw (((16807 * v5) % 2147483647) % 6)) m_) fun m14 =>
rec ((16807 * v5) % 2147483647) (v7 + 1) m14)) fun j104 =>
if zJ ((((16807 * v5) % 2147483647) / 64) % 4) = zJ 0 then (
if zI 0 < zI (m_ 0 0) then (
j113) else (
j104)) else (
j104)) else (
k v5 v7 m_)
def FX6_walks_L64 (a1 : Int) (a2 : Int) (a3 : Int) (k4 : Int) (k : Int → Int → zM → Option (Int × zM)) : Nat → Int → Int → zM → Option (Int × zM) := zlp (FX6_walks_L64_B a1 a2 a3 k4 k) (fun _ _ _ => none)
def FX6_walks (a1 : Int) (a2 : Int) (a3 : Int) (m : zM) : Option (Int × zM) :=
zgd (zR a1) <|
zcl (FX6_within a1 0 60) fun r2 =>
if zI r2 = zI 0 then (
some ((-1), m)) else (
zgd (zR a2) <|
zcl (FX6_within a2 1 999999) fun r4 =>
if zI r4 = zI 0 then (
some ((-1), m)) else (
zgd (zR a3) <|
zcl (FX6_within a3 0 1) fun r6 =>
if zI r6 = zI 0 then (
some ((-1), m)) else (
zcl (FX6_bring 1 48 0 14 48 0 (m 0 0) m) fun m7 =>
zgd (zR a2) <|
FX6_walks_L64 a1 a2 a3 (m 0 0) (fun y64_5 y64_7 m64_ =>
zcl (FX6_lay m64_) fun m19 =>
zjn (fun (s162_0 : Int) =>
zpf m19 0 0 (m 0 0) fun m20 =>
zcl (FX6_bring 14 48 0 1 48 0 (m 0 0) m20) fun m21 =>
some (s162_0, m21)) fun j162 =>
if zI a3 = zI 0 then (
j162 (m19 0 12)) else (
j162 (m19 0 0))) zfu a2 0 m7)))
