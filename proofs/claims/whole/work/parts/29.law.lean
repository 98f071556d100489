def D_law (F : Nat) (n : Nat → Nat) (Ln : Nat) (xs : Nat → Int32) : Nat → HS → Int32 → Option Unit
  | 0, _, _ => none
  | k + 1, σv, xi =>
    (if ((nI Ln) - (7 : Int32)) < xi then
      some ()
    else
      grd (inb xi Ln) (
      (if ((xs (xi).toNatClampNeg) &&& (15 : Int32)) = (0 : Int32) then
        grd (inb (xi + (1 : Int32)) Ln) (
        grd (inb (xi + (2 : Int32)) Ln) (
        grd (inb (xi + (3 : Int32)) Ln) (
        (D_LW_feed_0_30 F n σv (xs ((xi + (1 : Int32))).toNatClampNeg) ((((xs ((xi + (2 : Int32))).toNatClampNeg)).toInt64 <<< (((32 : Int32)).toInt64 &&& 63)) ||| (((xs ((xi + (3 : Int32))).toNatClampNeg)).toInt64 &&& (4294967295 : Int64)))).bind (fun (qx7 : HS × Int32) => nm2 qx7 (fun (σ8 : HS) (x7 : Int32) =>
        grd (inb (xi + (1 : Int32)) Ln) (
        grd (inb (xi + (2 : Int32)) Ln) (
        grd (inb (xi + (3 : Int32)) Ln) (
        (D_MD_feed F n σ8 (xs ((xi + (1 : Int32))).toNatClampNeg) ((((xs ((xi + (2 : Int32))).toNatClampNeg)).toInt64 <<< (((32 : Int32)).toInt64 &&& 63)) ||| (((xs ((xi + (3 : Int32))).toNatClampNeg)).toInt64 &&& (4294967295 : Int64)))).bind (fun (qx12 : HS × Int32) => nm2 qx12 (fun (σ13 : HS) (x12 : Int32) =>
        (D_MD_thrown F n σ13 ).bind (fun (x14 : Int32) =>
        (if x14 = x7 then
          (if x7 = 0 then
            grd (inb (0 : Int32) (n 30)) (
            (if (lg_cmp (σ13.2 30 ((0 : Int32)).toNatClampNeg) (x12).toInt64) = 0 then
              nm (xi + (7 : Int32)) (fun x20 =>
              D_law F n Ln xs k σ13 x20)
            else
              none))
          else
            nm (xi + (7 : Int32)) (fun x17 =>
            D_law F n Ln xs k σ13 x17))
        else
          none))))))))))))
      else (if ((xs (xi).toNatClampNeg) &&& (15 : Int32)) = (1 : Int32) then
        grd (inb (xi + (1 : Int32)) Ln) (
        (D_LW_write_0_30 F n σv (xs ((xi + (1 : Int32))).toNatClampNeg)).bind (fun (qx23 : HS × Int32) => nm2 qx23 (fun (σ24 : HS) (x23 : Int32) =>
        grd (inb (xi + (1 : Int32)) Ln) (
        (D_MD_write F n σ24 (xs ((xi + (1 : Int32))).toNatClampNeg)).bind (fun (qx26 : HS × Int32) => nm2 qx26 (fun (σ27 : HS) (x26 : Int32) =>
        (D_MD_thrown F n σ27 ).bind (fun (x28 : Int32) =>
        (if x28 = x23 then
          (if x23 = 0 then
            grd (inb (0 : Int32) (n 30)) (
            (if x26 = 0 then
              (if (lg_cmp (σ27.2 30 ((0 : Int32)).toNatClampNeg) (0 : Int64)) = 0 then
                nm (xi + (7 : Int32)) (fun x35 =>
                D_law F n Ln xs k σ27 x35)
              else
                none)
            else
              (if (lg_cmp (σ27.2 30 ((0 : Int32)).toNatClampNeg) (1 : Int64)) = 0 then
                nm (xi + (7 : Int32)) (fun x37 =>
                D_law F n Ln xs k σ27 x37)
              else
                none)))
          else
            nm (xi + (7 : Int32)) (fun x31 =>
            D_law F n Ln xs k σ27 x31))
        else
          none))))))))
      else (if ((xs (xi).toNatClampNeg) &&& (15 : Int32)) = (2 : Int32) then
        grd (inb (xi + (1 : Int32)) Ln) (
        grd (inb (xi + (2 : Int32)) Ln) (
        (D_LW_read_0_30 F n σv (xs ((xi + (1 : Int32))).toNatClampNeg) (xs ((xi + (2 : Int32))).toNatClampNeg)).bind (fun (qx41 : HS × Int32) => nm2 qx41 (fun (σ42 : HS) (x41 : Int32) =>
        grd (inb (xi + (1 : Int32)) Ln) (
        grd (inb (xi + (2 : Int32)) Ln) (
        (D_MD_read F n σ42 (xs ((xi + (1 : Int32))).toNatClampNeg) (xs ((xi + (2 : Int32))).toNatClampNeg)).bind (fun (qx45 : HS × Int64) => nm2 qx45 (fun (σ46 : HS) (x45 : Int64) =>
        (D_MD_thrown F n σ46 ).bind (fun (x47 : Int32) =>
        (if x47 = x41 then
          (if x41 = 0 then
            grd (inb (0 : Int32) (n 30)) (
            (if (lg_cmp (σ46.2 30 ((0 : Int32)).toNatClampNeg) x45) = 0 then
              nm (xi + (7 : Int32)) (fun x53 =>
              D_law F n Ln xs k σ46 x53)
            else
              none))
          else
            nm (xi + (7 : Int32)) (fun x50 =>
            D_law F n Ln xs k σ46 x50))
        else
          none))))))))))
      else (if ((xs (xi).toNatClampNeg) &&& (15 : Int32)) = (3 : Int32) then
        grd (inb (xi + (1 : Int32)) Ln) (
        (D_LW_lose_0 F n σv (xs ((xi + (1 : Int32))).toNatClampNeg)).bind (fun (qx56 : HS × Int32) => nm2 qx56 (fun (σ57 : HS) (x56 : Int32) =>
        grd (inb (xi + (1 : Int32)) Ln) (
        (D_MD_lose F n σ57 (xs ((xi + (1 : Int32))).toNatClampNeg)).bind (fun (σ60 : HS) =>
        (D_MD_thrown F n σ60 ).bind (fun (x61 : Int32) =>
        (if x61 = x56 then
          nm (xi + (7 : Int32)) (fun x63 =>
          D_law F n Ln xs k σ60 x63)
        else
          none)))))))
      else (if ((xs (xi).toNatClampNeg) &&& (15 : Int32)) = (4 : Int32) then
        (D_LW_off_0 F n σv ).bind (fun (qx65 : HS × Int32) => nm2 qx65 (fun (σ66 : HS) (x65 : Int32) =>
        (D_MD_off F n σ66 ).bind (fun (σ68 : HS) =>
        (D_MD_thrown F n σ68 ).bind (fun (x69 : Int32) =>
        (if x69 = x65 then
          nm (xi + (7 : Int32)) (fun x71 =>
          D_law F n Ln xs k σ68 x71)
        else
          none)))))
      else (if ((xs (xi).toNatClampNeg) &&& (15 : Int32)) = (5 : Int32) then
        (D_LW_open_0_30 F n σv ).bind (fun (qx73 : HS × Int32) => nm2 qx73 (fun (σ74 : HS) (x73 : Int32) =>
        (D_MD_open F n σ74 ).bind (fun (qx75 : HS × Int32) => nm2 qx75 (fun (σ76 : HS) (x75 : Int32) =>
        (D_MD_thrown F n σ76 ).bind (fun (x77 : Int32) =>
        (if x77 = x73 then
          (if x73 = 0 then
            grd (inb (0 : Int32) (n 30)) (
            (if x75 = 0 then
              (if (lg_cmp (σ76.2 30 ((0 : Int32)).toNatClampNeg) (0 : Int64)) = 0 then
                nm (xi + (7 : Int32)) (fun x84 =>
                D_law F n Ln xs k σ76 x84)
              else
                none)
            else
              (if (lg_cmp (σ76.2 30 ((0 : Int32)).toNatClampNeg) (1 : Int64)) = 0 then
                nm (xi + (7 : Int32)) (fun x86 =>
                D_law F n Ln xs k σ76 x86)
              else
                none)))
          else
            nm (xi + (7 : Int32)) (fun x80 =>
            D_law F n Ln xs k σ76 x80))
        else
          none))))))
      else (if ((xs (xi).toNatClampNeg) &&& (15 : Int32)) = (6 : Int32) then
        grd (inb (xi + (1 : Int32)) Ln) (
        (D_LW_fail_0_30 F n σv (xs ((xi + (1 : Int32))).toNatClampNeg)).bind (fun (qx89 : HS × Int32) => nm2 qx89 (fun (σ90 : HS) (x89 : Int32) =>
        grd (inb (xi + (1 : Int32)) Ln) (
        (D_MD_fail F n σ90 (xs ((xi + (1 : Int32))).toNatClampNeg)).bind (fun (qx92 : HS × Int32) => nm2 qx92 (fun (σ93 : HS) (x92 : Int32) =>
        (D_MD_thrown F n σ93 ).bind (fun (x94 : Int32) =>
        (if x94 = x89 then
          (if x89 = 0 then
            grd (inb (0 : Int32) (n 30)) (
            (if x92 = 0 then
              (if (lg_cmp (σ93.2 30 ((0 : Int32)).toNatClampNeg) (0 : Int64)) = 0 then
                nm (xi + (7 : Int32)) (fun x101 =>
                D_law F n Ln xs k σ93 x101)
              else
                none)
            else
              (if (lg_cmp (σ93.2 30 ((0 : Int32)).toNatClampNeg) (1 : Int64)) = 0 then
                nm (xi + (7 : Int32)) (fun x103 =>
                D_law F n Ln xs k σ93 x103)
              else
                none)))
          else
            nm (xi + (7 : Int32)) (fun x97 =>
            D_law F n Ln xs k σ93 x97))
        else
          none))))))))
      else (if ((xs (xi).toNatClampNeg) &&& (15 : Int32)) = (7 : Int32) then
        grd (inb (xi + (1 : Int32)) Ln) (
        (D_LW_replace_0_30 F n σv (xs ((xi + (1 : Int32))).toNatClampNeg)).bind (fun (qx106 : HS × Int32) => nm2 qx106 (fun (σ107 : HS) (x106 : Int32) =>
        grd (inb (xi + (1 : Int32)) Ln) (
        (D_MD_replace F n σ107 (xs ((xi + (1 : Int32))).toNatClampNeg)).bind (fun (qx109 : HS × Int32) => nm2 qx109 (fun (σ110 : HS) (x109 : Int32) =>
        (D_MD_thrown F n σ110 ).bind (fun (x111 : Int32) =>
        (if x111 = x106 then
          (if x106 = 0 then
            grd (inb (0 : Int32) (n 30)) (
            (if x109 = 0 then
              (if (lg_cmp (σ110.2 30 ((0 : Int32)).toNatClampNeg) (0 : Int64)) = 0 then
                nm (xi + (7 : Int32)) (fun x118 =>
                D_law F n Ln xs k σ110 x118)
              else
                none)
            else
              (if (lg_cmp (σ110.2 30 ((0 : Int32)).toNatClampNeg) (1 : Int64)) = 0 then
                nm (xi + (7 : Int32)) (fun x120 =>
                D_law F n Ln xs k σ110 x120)
              else
                none)))
          else
            nm (xi + (7 : Int32)) (fun x114 =>
            D_law F n Ln xs k σ110 x114))
        else
          none))))))))
      else (if ((xs (xi).toNatClampNeg) &&& (15 : Int32)) = (8 : Int32) then
        grd (inb (xi + (1 : Int32)) Ln) (
        grd (inb (xi + (2 : Int32)) Ln) (
        grd (inb (xi + (3 : Int32)) Ln) (
        grd (inb (xi + (4 : Int32)) Ln) (
        grd (inb (xi + (5 : Int32)) Ln) (
        grd (inb (xi + (6 : Int32)) Ln) (
        (D_LW_spoil_0_30 F n σv (xs ((xi + (1 : Int32))).toNatClampNeg) (xs ((xi + (2 : Int32))).toNatClampNeg) (xs ((xi + (3 : Int32))).toNatClampNeg) (xs ((xi + (4 : Int32))).toNatClampNeg) ((((xs ((xi + (5 : Int32))).toNatClampNeg)).toInt64 <<< (((32 : Int32)).toInt64 &&& 63)) ||| (((xs ((xi + (6 : Int32))).toNatClampNeg)).toInt64 &&& (4294967295 : Int64)))).bind (fun (qx128 : HS × Int32) => nm2 qx128 (fun (σ129 : HS) (x128 : Int32) =>
        grd (inb (xi + (1 : Int32)) Ln) (
        grd (inb (xi + (2 : Int32)) Ln) (
        grd (inb (xi + (3 : Int32)) Ln) (
        grd (inb (xi + (4 : Int32)) Ln) (
        grd (inb (xi + (5 : Int32)) Ln) (
        grd (inb (xi + (6 : Int32)) Ln) (
        (D_MD_spoil F n σ129 (xs ((xi + (1 : Int32))).toNatClampNeg) (xs ((xi + (2 : Int32))).toNatClampNeg) (xs ((xi + (3 : Int32))).toNatClampNeg) (xs ((xi + (4 : Int32))).toNatClampNeg) ((((xs ((xi + (5 : Int32))).toNatClampNeg)).toInt64 <<< (((32 : Int32)).toInt64 &&& 63)) ||| (((xs ((xi + (6 : Int32))).toNatClampNeg)).toInt64 &&& (4294967295 : Int64)))).bind (fun (qx136 : HS × Int32) => nm2 qx136 (fun (σ137 : HS) (x136 : Int32) =>
        (D_MD_thrown F n σ137 ).bind (fun (x138 : Int32) =>
        (if x138 = x128 then
          (if x128 = 0 then
            grd (inb (0 : Int32) (n 30)) (
            (if x136 = 0 then
              (if (lg_cmp (σ137.2 30 ((0 : Int32)).toNatClampNeg) (0 : Int64)) = 0 then
                nm (xi + (7 : Int32)) (fun x145 =>
                D_law F n Ln xs k σ137 x145)
              else
                none)
            else
              (if (lg_cmp (σ137.2 30 ((0 : Int32)).toNatClampNeg) (1 : Int64)) = 0 then
                nm (xi + (7 : Int32)) (fun x147 =>
                D_law F n Ln xs k σ137 x147)
              else
                none)))
          else
            nm (xi + (7 : Int32)) (fun x141 =>
            D_law F n Ln xs k σ137 x141))
        else
          none))))))))))))))))))
      else (if ((xs (xi).toNatClampNeg) &&& (15 : Int32)) = (9 : Int32) then
        (D_LW_rebuild_0_30 F n σv ).bind (fun (qx149 : HS × Int32) => nm2 qx149 (fun (σ150 : HS) (x149 : Int32) =>
        (D_MD_rebuild F n σ150 ).bind (fun (qx151 : HS × Int32) => nm2 qx151 (fun (σ152 : HS) (x151 : Int32) =>
        (D_MD_thrown F n σ152 ).bind (fun (x153 : Int32) =>
        (if x153 = x149 then
          (if x149 = 0 then
            grd (inb (0 : Int32) (n 30)) (
            (if (lg_cmp (σ152.2 30 ((0 : Int32)).toNatClampNeg) (x151).toInt64) = 0 then
              nm (xi + (7 : Int32)) (fun x159 =>
              D_law F n Ln xs k σ152 x159)
            else
              none))
          else
            nm (xi + (7 : Int32)) (fun x156 =>
            D_law F n Ln xs k σ152 x156))
        else
          none))))))
      else (if ((xs (xi).toNatClampNeg) &&& (15 : Int32)) = (10 : Int32) then
        (D_LW_copyBack_0_30 F n σv ).bind (fun (qx161 : HS × Int32) => nm2 qx161 (fun (σ162 : HS) (x161 : Int32) =>
        (D_MD_copyBack F n σ162 ).bind (fun (qx163 : HS × Int32) => nm2 qx163 (fun (σ164 : HS) (x163 : Int32) =>
        (D_MD_thrown F n σ164 ).bind (fun (x165 : Int32) =>
        (if x165 = x161 then
          (if x161 = 0 then
            grd (inb (0 : Int32) (n 30)) (
            (if (lg_cmp (σ164.2 30 ((0 : Int32)).toNatClampNeg) (x163).toInt64) = 0 then
              nm (xi + (7 : Int32)) (fun x171 =>
              D_law F n Ln xs k σ164 x171)
            else
              none))
          else
            nm (xi + (7 : Int32)) (fun x168 =>
            D_law F n Ln xs k σ164 x168))
        else
          none))))))
      else (if ((xs (xi).toNatClampNeg) &&& (15 : Int32)) = (11 : Int32) then
        (D_LW_scrub_0_30 F n σv ).bind (fun (qx173 : HS × Int32) => nm2 qx173 (fun (σ174 : HS) (x173 : Int32) =>
        (D_MD_scrub F n σ174 ).bind (fun (qx175 : HS × Int32) => nm2 qx175 (fun (σ176 : HS) (x175 : Int32) =>
        (D_MD_thrown F n σ176 ).bind (fun (x177 : Int32) =>
        (if x177 = x173 then
          (if x173 = 0 then
            grd (inb (0 : Int32) (n 30)) (
            (if (lg_cmp (σ176.2 30 ((0 : Int32)).toNatClampNeg) (x175).toInt64) = 0 then
              nm (xi + (7 : Int32)) (fun x183 =>
              D_law F n Ln xs k σ176 x183)
            else
              none))
          else
            nm (xi + (7 : Int32)) (fun x180 =>
            D_law F n Ln xs k σ176 x180))
        else
          none))))))
      else (if ((xs (xi).toNatClampNeg) &&& (15 : Int32)) = (12 : Int32) then
        grd (inb (xi + (1 : Int32)) Ln) (
        (D_LW_look_0_30 F n σv (xs ((xi + (1 : Int32))).toNatClampNeg)).bind (fun (qx186 : HS × Int32) => nm2 qx186 (fun (σ187 : HS) (x186 : Int32) =>
        grd (inb (xi + (1 : Int32)) Ln) (
        (D_MD_look F n σ187 (xs ((xi + (1 : Int32))).toNatClampNeg)).bind (fun (qx189 : HS × Int32) => nm2 qx189 (fun (σ190 : HS) (x189 : Int32) =>
        (D_MD_thrown F n σ190 ).bind (fun (x191 : Int32) =>
        (if x191 = x186 then
          (if x186 = 0 then
            grd (inb (0 : Int32) (n 30)) (
            (if (lg_cmp (σ190.2 30 ((0 : Int32)).toNatClampNeg) (x189).toInt64) = 0 then
              nm (xi + (7 : Int32)) (fun x197 =>
              D_law F n Ln xs k σ190 x197)
            else
              none))
          else
            nm (xi + (7 : Int32)) (fun x194 =>
            D_law F n Ln xs k σ190 x194))
        else
          none))))))))
      else (if ((xs (xi).toNatClampNeg) &&& (15 : Int32)) = (13 : Int32) then
        grd (inb (xi + (1 : Int32)) Ln) (
        grd (inb (xi + (2 : Int32)) Ln) (
        (D_LW_place_0_30 F n σv (xs ((xi + (1 : Int32))).toNatClampNeg) (xs ((xi + (2 : Int32))).toNatClampNeg)).bind (fun (qx201 : HS × Int32) => nm2 qx201 (fun (σ202 : HS) (x201 : Int32) =>
        grd (inb (xi + (1 : Int32)) Ln) (
        grd (inb (xi + (2 : Int32)) Ln) (
        (D_MD_place F n σ202 (xs ((xi + (1 : Int32))).toNatClampNeg) (xs ((xi + (2 : Int32))).toNatClampNeg)).bind (fun (qx205 : HS × Int32) => nm2 qx205 (fun (σ206 : HS) (x205 : Int32) =>
        (D_MD_thrown F n σ206 ).bind (fun (x207 : Int32) =>
        (if x207 = x201 then
          (if x201 = 0 then
            grd (inb (0 : Int32) (n 30)) (
            (if (lg_cmp (σ206.2 30 ((0 : Int32)).toNatClampNeg) (x205).toInt64) = 0 then
              nm (xi + (7 : Int32)) (fun x213 =>
              D_law F n Ln xs k σ206 x213)
            else
              none))
          else
            nm (xi + (7 : Int32)) (fun x210 =>
            D_law F n Ln xs k σ206 x210))
        else
          none))))))))))
      else nm (xi + (7 : Int32)) (fun x214 =>
      D_law F n Ln xs k σv x214)))))))))))))))))
set_option maxRecDepth 100000 in
set_option maxHeartbeats 16000000 in
theorem law_lp {p : Program} {e : Env} {s : State} {m : MethodId} {below : List Frame} {meth : Method} {c : Code} (l : Launch) (hfl : l.stackTraces = false) {E : EV} {ad n : Nat → Nat} {L : List Nat} (hL : ∀ a ∈ ([0, 1, 2, 3, 4, 5, 6, 7, 8, 9, 10, 11, 12, 13, 14, 15, 16, 20, 21, 22, 23, 24, 25, 26, 27, 28, 29, 30] : List Nat), a ∈ L) {b Ln : Nat} {xs : Nat → Int32} (cx : Cx E p s m #[Value.ref b] meth c code "StripeFieldLaw" ret 8) (kt : Kt s) (sx : Sx (fun q : Nat => s.heap.size ≤ q) s s.heap) (hX : va_X b Ln xs s s.heap) (hbl : b < s.heap.size) (F : Nat) :
    ∀ (k : Nat) (σv : HS) (xi : Int32) (H : Heap) (locs : List Loc) (ls : Array Slot) (cells slots : Nat), D_law F n Ln xs k σv xi = some () → cells + k ≤ 601024 → slots + 6 * k ≤ 7293000 → Wo E (fun q : Nat => s.heap.size ≤ q) s.heap (wl E ad n L σv) H locs → lv_has ls 8 [(0, .ref b), (1, .ref (ad 0)), (2, .ref (ad 20)), (3, .ref (ad 30)), (4, .int xi)] → W p l e room_1 s m #[Value.ref b] below meth c H locs cells slots (lw_Z below #[Value.ref b] s) (F0 m 53 ls []) := by
  have hx := cx.1.1
  have hb := cx.1.2.1
  have hown := cx.1.2.2.2.1
  have hts := cx.1.2.2.2.2
  have hbA : ¬ (fun q : Nat => s.heap.size ≤ q) b := Nat.not_le.mpr hbl
  have m0 : 0 ∈ L := hL 0 (by decide)
  have m1 : 1 ∈ L := hL 1 (by decide)
  have m2 : 2 ∈ L := hL 2 (by decide)
  have m3 : 3 ∈ L := hL 3 (by decide)
  have m4 : 4 ∈ L := hL 4 (by decide)
  have m5 : 5 ∈ L := hL 5 (by decide)
  have m6 : 6 ∈ L := hL 6 (by decide)
  have m7 : 7 ∈ L := hL 7 (by decide)
  have m8 : 8 ∈ L := hL 8 (by decide)
  have m9 : 9 ∈ L := hL 9 (by decide)
  have m10 : 10 ∈ L := hL 10 (by decide)
  have m11 : 11 ∈ L := hL 11 (by decide)
  have m12 : 12 ∈ L := hL 12 (by decide)
  have m13 : 13 ∈ L := hL 13 (by decide)
  have m14 : 14 ∈ L := hL 14 (by decide)
  have m15 : 15 ∈ L := hL 15 (by decide)
  have m16 : 16 ∈ L := hL 16 (by decide)
  have m20 : 20 ∈ L := hL 20 (by decide)
  have m21 : 21 ∈ L := hL 21 (by decide)
  have m22 : 22 ∈ L := hL 22 (by decide)
  have m23 : 23 ∈ L := hL 23 (by decide)
  have m24 : 24 ∈ L := hL 24 (by decide)
  have m25 : 25 ∈ L := hL 25 (by decide)
  have m26 : 26 ∈ L := hL 26 (by decide)
  have m27 : 27 ∈ L := hL 27 (by decide)
  have m28 : 28 ∈ L := hL 28 (by decide)
  have m29 : 29 ∈ L := hL 29 (by decide)
  have m30 : 30 ∈ L := hL 30 (by decide)
  intro k
  induction k with
  | zero =>
    intro σv xi H locs ls cells slots hD
    rw [D_law.eq_1] at hD
    cases hD
  | succ k ih =>
    intro σv xi H locs ls cells slots hD hcc hss wo hl
    rw [D_law.eq_2] at hD
    refine lv_iload hx hb d_LW_law_53 (lv_at hl 4 rfl) ?_
    refine lv_aload_n hx hb d_LW_law_55 rfl (lv_at hl 0 rfl) ?_
    refine va_slen hx hb hX hbl hbA wo.2.2.1 d_LW_law_56 ?_
    refine W.eq (g2 := F0 m 57 ls [.int (nI Ln), .int xi]) rfl ?_
    refine lv_bipush (v := 7) hx hb d_LW_law_57 (by decide) ?_
    refine lv_isub hx hb d_LW_law_59 ?_
    refine lv_icmp_gt (tgt := 1014) hx hb d_LW_law_60 (by decide) (fun c1 => ?_) (fun c1 => ?_)
    · have hD := ite_p hD c1
      refine lv_iconst (v := 1) hx hb d_LW_law_1014 (by decide) ?_
      refine va_forget (fun q hq => wo.2.2.1.2.2 q hq) ?_
      refine W.widen (k := 601024) (n := 7293000) (by omega) (by omega) ?_
      exact lw_ret hx hb cx.2.1 cx.2.2.1 d_LW_law_1015
    · have hD := ite_n hD c1
      refine lv_aload_n hx hb d_LW_law_63 rfl (lv_at hl 0 rfl) ?_
      refine lv_iload hx hb d_LW_law_64 (lv_at hl 4 rfl) ?_
      obtain ⟨g2, hD⟩ := grd_s hD
      refine va_sld hx hb hX hbl hbA wo.2.2.1 (inb_in g2) d_LW_law_66 ?_
      refine lv_bipush (v := 15) hx hb d_LW_law_67 (by decide) ?_
      refine lv_iand hx hb d_LW_law_69 ?_
      by_cases c3 : ((xs (xi).toNatClampNeg) &&& (15 : Int32)) = (0 : Int32)
      · have hD := ite_p hD c3
        refine lv_tableIn (tgt := 140) hx hb d_LW_law_70 (by rw [c3]; decide) (by rw [c3]; decide) (off := 70) (by rw [c3]; decide) (by decide) ?_
        refine lv_aload_n hx hb d_LW_law_140 rfl (lv_at hl 1 rfl) ?_
        refine lv_aload_n hx hb d_LW_law_141 rfl (lv_at hl 0 rfl) ?_
        refine lv_iload hx hb d_LW_law_142 (lv_at hl 4 rfl) ?_
        refine lv_iconst (v := 1) hx hb d_LW_law_144 (by decide) ?_
        refine lv_iadd hx hb d_LW_law_145 ?_
        obtain ⟨g4, hD⟩ := grd_s hD
        refine va_sld hx hb hX hbl hbA wo.2.2.1 (inb_in g4) d_LW_law_146 ?_
        refine lv_aload_n hx hb d_LW_law_147 rfl (lv_at hl 0 rfl) ?_
        refine lv_iload hx hb d_LW_law_148 (lv_at hl 4 rfl) ?_
        refine lv_iconst (v := 2) hx hb d_LW_law_150 (by decide) ?_
        refine lv_iadd hx hb d_LW_law_151 ?_
        obtain ⟨g5, hD⟩ := grd_s hD
        refine va_sld hx hb hX hbl hbA wo.2.2.1 (inb_in g5) d_LW_law_152 ?_
        refine lv_i2l hx hb d_LW_law_153 rfl ?_
        refine lv_bipush (v := 32) hx hb d_LW_law_154 (by decide) ?_
        refine lv_lshl hx hb d_LW_law_156 rfl ?_
        refine lv_aload_n hx hb d_LW_law_157 rfl (lv_at hl 0 rfl) ?_
        refine lv_iload hx hb d_LW_law_158 (lv_at hl 4 rfl) ?_
        refine lv_iconst (v := 3) hx hb d_LW_law_160 (by decide) ?_
        refine lv_iadd hx hb d_LW_law_161 ?_
        obtain ⟨g6, hD⟩ := grd_s hD
        refine va_sld hx hb hX hbl hbA wo.2.2.1 (inb_in g6) d_LW_law_162 ?_
        refine lv_i2l hx hb d_LW_law_163 rfl ?_
        refine lv_ldc2 hx hb hown (hts _ wj_LW_76) d_LW_law_164 ?_
        refine lv_land hx hb d_LW_law_167 ?_
        refine lv_lor hx hb d_LW_law_168 ?_
        refine lv_aload_n hx hb d_LW_law_169 rfl (lv_at hl 3 rfl) ?_
        obtain ⟨⟨σ8, x7⟩, hcx7, hD⟩ := bd_s hD
        try dsimp only [nm2] at hD
        refine call_Wi cx kt sx wo (k_LW_feed_0_30 l hfl E ad n L (fun a h => hL a ((by decide : ∀ a ∈ ([0, 5, 30] : List Nat), a ∈ ([0, 1, 2, 3, 4, 5, 6, 7, 8, 9, 10, 11, 12, 13, 14, 15, 16, 20, 21, 22, 23, 24, 25, 26, 27, 28, 29, 30] : List Nat)) a h)) F σv σ8 (xs ((xi + (1 : Int32))).toNatClampNeg) ((((xs ((xi + (2 : Int32))).toNatClampNeg)).toInt64 <<< (((32 : Int32)).toInt64 &&& 63)) ||| (((xs ((xi + (3 : Int32))).toNatClampNeg)).toInt64 &&& (4294967295 : Int64))) x7 hcx7) mv_LW_feed wm_LW_78 ⟨by decide, by decide⟩ ⟨by dsimp only [room_1]; omega, by dsimp only [room_1]; omega⟩ hl.1 rfl (Nat.le_of_ble_eq_true rfl) d_LW_law_170 (fun H locs wo => ?_)
        refine lv_istore (lv' := [(5, .int x7), (0, .ref b), (1, .ref (ad 0)), (2, .ref (ad 20)), (3, .ref (ad 30)), (4, .int xi)]) hx hb d_LW_law_173 hl (by decide) rfl (fun ls hl => ?_)
        refine lv_aload_n hx hb d_LW_law_175 rfl (lv_at hl 3 rfl) ?_
        refine lv_aload_n hx hb d_LW_law_176 rfl (lv_at hl 1 rfl) ?_
        refine lv_iload hx hb d_LW_law_177 (lv_at hl 5 rfl) ?_
        refine lv_iconst (v := 1) hx hb d_LW_law_179 (by decide) ?_
        refine lv_iadd hx hb d_LW_law_180 ?_
        obtain ⟨g9, hD⟩ := grd_s hD
        refine va_sld hx hb hX hbl hbA wo.2.2.1 (inb_in g9) d_LW_law_181 ?_
        refine lv_aload_n hx hb d_LW_law_182 rfl (lv_at hl 1 rfl) ?_
        refine lv_iload hx hb d_LW_law_183 (lv_at hl 5 rfl) ?_
        refine lv_iconst (v := 2) hx hb d_LW_law_185 (by decide) ?_
        refine lv_iadd hx hb d_LW_law_186 ?_
        obtain ⟨g10, hD⟩ := grd_s hD
        refine va_sld hx hb hX hbl hbA wo.2.2.1 (inb_in g10) d_LW_law_187 ?_
        refine lv_i2l hx hb d_LW_law_188 rfl ?_
        refine lv_bipush (v := 32) hx hb d_LW_law_189 (by decide) ?_
        refine lv_lshl hx hb d_LW_law_191 rfl ?_
        refine lv_aload_n hx hb d_LW_law_192 rfl (lv_at hl 1 rfl) ?_
        refine lv_iload hx hb d_LW_law_193 (lv_at hl 5 rfl) ?_
        refine lv_iconst (v := 3) hx hb d_LW_law_195 (by decide) ?_
        refine lv_iadd hx hb d_LW_law_196 ?_
        obtain ⟨g11, hD⟩ := grd_s hD
        refine va_sld hx hb hX hbl hbA wo.2.2.1 (inb_in g11) d_LW_law_197 ?_
        refine lv_i2l hx hb d_LW_law_198 rfl ?_
        refine lv_ldc2 hx hb hown (hts _ wj_LW_76) d_LW_law_199 ?_
        refine lv_land hx hb d_LW_law_202 ?_
        refine lv_lor hx hb d_LW_law_203 ?_
        obtain ⟨⟨σ13, x12⟩, hcx12, hD⟩ := bd_s hD
        try dsimp only [nm2] at hD
        refine call_Vi cx wo (k_MD_feed l E ad n L (fun a h => hL a ((by decide : ∀ a ∈ ([20, 27] : List Nat), a ∈ ([0, 1, 2, 3, 4, 5, 6, 7, 8, 9, 10, 11, 12, 13, 14, 15, 16, 20, 21, 22, 23, 24, 25, 26, 27, 28, 29, 30] : List Nat)) a h)) F σ8 σ13 (xs ((xi + (1 : Int32))).toNatClampNeg) ((((xs ((xi + (2 : Int32))).toNatClampNeg)).toInt64 <<< (((32 : Int32)).toInt64 &&& 63)) ||| (((xs ((xi + (3 : Int32))).toNatClampNeg)).toInt64 &&& (4294967295 : Int64))) x12 hcx12) m20 (cel_20 E ad n σ8) rfl rfl mw_MD_feed wm_LW_81 ⟨by decide, by decide⟩ ⟨by dsimp only [room_1]; omega, by dsimp only [room_1]; omega⟩ hl.1 rfl (Nat.le_of_ble_eq_true rfl) d_LW_law_204 (fun H locs wo => ?_)
        refine lv_istore (lv' := [(6, .int x12), (5, .int x7), (0, .ref b), (1, .ref (ad 0)), (2, .ref (ad 20)), (3, .ref (ad 30)), (4, .int xi)]) hx hb d_LW_law_207 hl (by decide) rfl (fun ls hl => ?_)
        refine lv_aload_n hx hb d_LW_law_209 rfl (lv_at hl 4 rfl) ?_
        obtain ⟨x14, hcx14, hD⟩ := bd_s hD
        try dsimp only [nm2] at hD
        refine call_Vi cx wo (k_MD_thrown l E ad n L (fun a h => hL a ((by decide : ∀ a ∈ ([20] : List Nat), a ∈ ([0, 1, 2, 3, 4, 5, 6, 7, 8, 9, 10, 11, 12, 13, 14, 15, 16, 20, 21, 22, 23, 24, 25, 26, 27, 28, 29, 30] : List Nat)) a h)) F σ13   x14 hcx14) m20 (cel_20 E ad n σ13) rfl rfl mw_MD_thrown wm_LW_82 ⟨by decide, by decide⟩ ⟨by dsimp only [room_1]; omega, by dsimp only [room_1]; omega⟩ hl.1 rfl (Nat.le_of_ble_eq_true rfl) d_LW_law_210 (fun H locs wo => ?_)
        refine lv_iload hx hb d_LW_law_213 (lv_at hl 1 rfl) ?_
        refine lv_icmp_eq (tgt := 220) hx hb d_LW_law_215 (by decide) (fun c15 => ?_) (fun c15 => ?_)
        · have hD := ite_p hD c15
          refine lv_iload hx hb d_LW_law_220 (lv_at hl 1 rfl) ?_
          refine lv_if_ne (tgt := 237) hx hb d_LW_law_222 (by decide) (fun c16 => ?_) (fun c16 => ?_)
          · have hD := ite_n hD c16
            refine lv_goto (tgt := 1008) hx hb d_LW_law_237 (by decide) ?_
            obtain ⟨x17, ex17⟩ : ∃ y : Int32, y = xi + (7 : Int32) := ⟨_, rfl⟩
            have hD := nm_at hD ex17
            try dsimp only at hD
            refine lv_iinc (v := x17) (lv' := [(4, .int x17), (6, .int x12), (5, .int x7), (0, .ref b), (1, .ref (ad 0)), (2, .ref (ad 20)), (3, .ref (ad 30))]) hx hb d_LW_law_1008 hl (k := 6) rfl (by rw [ex17]; rfl) (by decide) rfl (fun ls hl => ?_)
            refine lv_goto (tgt := 53) hx hb d_LW_law_1011 (by decide) ?_
            refine W.widen (k := cells + 1) (n := slots + 6) (by (try dsimp only); omega) (by (try dsimp only); omega) ?_
            exact ih σ13 x17 _ _ _ _ _ hD (by omega) (by omega) wo (lv_sub hl [3, 4, 5, 6, 0] rfl)
          · have hD := ite_p hD c16
            refine lv_aload_n hx hb d_LW_law_225 rfl (lv_at hl 5 rfl) ?_
            refine lv_iconst (v := 0) hx hb d_LW_law_226 (by decide) ?_
            obtain ⟨g18, hD⟩ := grd_s hD
            refine g_lald cx wo m30 (cel_30 E ad n σ13) g18 d_LW_law_227 ?_
            refine lv_iload hx hb d_LW_law_228 (lv_at hl 0 rfl) ?_
            refine lv_i2l hx hb d_LW_law_230 rfl ?_
            refine W.lcmp hx hb d_LW_law_231 ?_
            refine lv_if_eq (tgt := 237) hx hb d_LW_law_232 (by decide) (fun c19 => ?_) (fun c19 => ?_)
            · have hD := ite_p hD c19
              refine lv_goto (tgt := 1008) hx hb d_LW_law_237 (by decide) ?_
              obtain ⟨x20, ex20⟩ : ∃ y : Int32, y = xi + (7 : Int32) := ⟨_, rfl⟩
              have hD := nm_at hD ex20
              try dsimp only at hD
              refine lv_iinc (v := x20) (lv' := [(4, .int x20), (6, .int x12), (5, .int x7), (0, .ref b), (1, .ref (ad 0)), (2, .ref (ad 20)), (3, .ref (ad 30))]) hx hb d_LW_law_1008 hl (k := 6) rfl (by rw [ex20]; rfl) (by decide) rfl (fun ls hl => ?_)
              refine lv_goto (tgt := 53) hx hb d_LW_law_1011 (by decide) ?_
              refine W.widen (k := cells + 1) (n := slots + 6) (by (try dsimp only); omega) (by (try dsimp only); omega) ?_
              exact ih σ13 x20 _ _ _ _ _ hD (by omega) (by omega) wo (lv_sub hl [3, 4, 5, 6, 0] rfl)
            · have hD := ite_n hD c19
              refine lv_iconst (v := 0) hx hb d_LW_law_235 (by decide) ?_
              cases hD
        · have hD := ite_n hD c15
          refine lv_iconst (v := 0) hx hb d_LW_law_218 (by decide) ?_
          cases hD
      have hD := ite_n hD c3
      by_cases c21 : ((xs (xi).toNatClampNeg) &&& (15 : Int32)) = (1 : Int32)
      · have hD := ite_p hD c21
        refine lv_tableIn (tgt := 240) hx hb d_LW_law_70 (by rw [c21]; decide) (by rw [c21]; decide) (off := 170) (by rw [c21]; decide) (by decide) ?_
        refine lv_aload_n hx hb d_LW_law_240 rfl (lv_at hl 1 rfl) ?_
        refine lv_aload_n hx hb d_LW_law_241 rfl (lv_at hl 0 rfl) ?_
        refine lv_iload hx hb d_LW_law_242 (lv_at hl 4 rfl) ?_
        refine lv_iconst (v := 1) hx hb d_LW_law_244 (by decide) ?_
        refine lv_iadd hx hb d_LW_law_245 ?_
        obtain ⟨g22, hD⟩ := grd_s hD
        refine va_sld hx hb hX hbl hbA wo.2.2.1 (inb_in g22) d_LW_law_246 ?_
        refine lv_aload_n hx hb d_LW_law_247 rfl (lv_at hl 3 rfl) ?_
        obtain ⟨⟨σ24, x23⟩, hcx23, hD⟩ := bd_s hD
        try dsimp only [nm2] at hD
        refine call_Wi cx kt sx wo (k_LW_write_0_30 l hfl E ad n L (fun a h => hL a ((by decide : ∀ a ∈ ([0, 1, 2, 3, 4, 5, 6, 7, 8, 11, 12, 13, 14, 15, 30] : List Nat), a ∈ ([0, 1, 2, 3, 4, 5, 6, 7, 8, 9, 10, 11, 12, 13, 14, 15, 16, 20, 21, 22, 23, 24, 25, 26, 27, 28, 29, 30] : List Nat)) a h)) F σv σ24 (xs ((xi + (1 : Int32))).toNatClampNeg) x23 hcx23) mv_LW_write wm_LW_85 ⟨by decide, by decide⟩ ⟨by dsimp only [room_1]; omega, by dsimp only [room_1]; omega⟩ hl.1 rfl (Nat.le_of_ble_eq_true rfl) d_LW_law_248 (fun H locs wo => ?_)
        refine lv_istore (lv' := [(5, .int x23), (0, .ref b), (1, .ref (ad 0)), (2, .ref (ad 20)), (3, .ref (ad 30)), (4, .int xi)]) hx hb d_LW_law_251 hl (by decide) rfl (fun ls hl => ?_)
        refine lv_aload_n hx hb d_LW_law_253 rfl (lv_at hl 3 rfl) ?_
        refine lv_aload_n hx hb d_LW_law_254 rfl (lv_at hl 1 rfl) ?_
        refine lv_iload hx hb d_LW_law_255 (lv_at hl 5 rfl) ?_
        refine lv_iconst (v := 1) hx hb d_LW_law_257 (by decide) ?_
        refine lv_iadd hx hb d_LW_law_258 ?_
        obtain ⟨g25, hD⟩ := grd_s hD
        refine va_sld hx hb hX hbl hbA wo.2.2.1 (inb_in g25) d_LW_law_259 ?_
        obtain ⟨⟨σ27, x26⟩, hcx26, hD⟩ := bd_s hD
        try dsimp only [nm2] at hD
        refine call_Vi cx wo (k_MD_write l E ad n L (fun a h => hL a ((by decide : ∀ a ∈ ([20, 21, 22, 23, 24, 25, 26, 27, 28, 29] : List Nat), a ∈ ([0, 1, 2, 3, 4, 5, 6, 7, 8, 9, 10, 11, 12, 13, 14, 15, 16, 20, 21, 22, 23, 24, 25, 26, 27, 28, 29, 30] : List Nat)) a h)) F σ24 σ27 (xs ((xi + (1 : Int32))).toNatClampNeg) x26 hcx26) m20 (cel_20 E ad n σ24) rfl rfl mw_MD_write wm_LW_88 ⟨by decide, by decide⟩ ⟨by dsimp only [room_1]; omega, by dsimp only [room_1]; omega⟩ hl.1 rfl (Nat.le_of_ble_eq_true rfl) d_LW_law_260 (fun H locs wo => ?_)
        refine lv_istore (lv' := [(6, .int x26), (5, .int x23), (0, .ref b), (1, .ref (ad 0)), (2, .ref (ad 20)), (3, .ref (ad 30)), (4, .int xi)]) hx hb d_LW_law_263 hl (by decide) rfl (fun ls hl => ?_)
        refine lv_aload_n hx hb d_LW_law_265 rfl (lv_at hl 4 rfl) ?_
        obtain ⟨x28, hcx28, hD⟩ := bd_s hD
        try dsimp only [nm2] at hD
        refine call_Vi cx wo (k_MD_thrown l E ad n L (fun a h => hL a ((by decide : ∀ a ∈ ([20] : List Nat), a ∈ ([0, 1, 2, 3, 4, 5, 6, 7, 8, 9, 10, 11, 12, 13, 14, 15, 16, 20, 21, 22, 23, 24, 25, 26, 27, 28, 29, 30] : List Nat)) a h)) F σ27   x28 hcx28) m20 (cel_20 E ad n σ27) rfl rfl mw_MD_thrown wm_LW_82 ⟨by decide, by decide⟩ ⟨by dsimp only [room_1]; omega, by dsimp only [room_1]; omega⟩ hl.1 rfl (Nat.le_of_ble_eq_true rfl) d_LW_law_266 (fun H locs wo => ?_)
        refine lv_iload hx hb d_LW_law_269 (lv_at hl 1 rfl) ?_
        refine lv_icmp_eq (tgt := 276) hx hb d_LW_law_271 (by decide) (fun c29 => ?_) (fun c29 => ?_)
        · have hD := ite_p hD c29
          refine lv_iload hx hb d_LW_law_276 (lv_at hl 1 rfl) ?_
          refine lv_if_ne (tgt := 300) hx hb d_LW_law_278 (by decide) (fun c30 => ?_) (fun c30 => ?_)
          · have hD := ite_n hD c30
            refine lv_goto (tgt := 1008) hx hb d_LW_law_300 (by decide) ?_
            obtain ⟨x31, ex31⟩ : ∃ y : Int32, y = xi + (7 : Int32) := ⟨_, rfl⟩
            have hD := nm_at hD ex31
            try dsimp only at hD
            refine lv_iinc (v := x31) (lv' := [(4, .int x31), (6, .int x26), (5, .int x23), (0, .ref b), (1, .ref (ad 0)), (2, .ref (ad 20)), (3, .ref (ad 30))]) hx hb d_LW_law_1008 hl (k := 6) rfl (by rw [ex31]; rfl) (by decide) rfl (fun ls hl => ?_)
            refine lv_goto (tgt := 53) hx hb d_LW_law_1011 (by decide) ?_
            refine W.widen (k := cells + 1) (n := slots + 6) (by (try dsimp only); omega) (by (try dsimp only); omega) ?_
            exact ih σ27 x31 _ _ _ _ _ hD (by omega) (by omega) wo (lv_sub hl [3, 4, 5, 6, 0] rfl)
          · have hD := ite_p hD c30
            refine lv_aload_n hx hb d_LW_law_281 rfl (lv_at hl 5 rfl) ?_
            refine lv_iconst (v := 0) hx hb d_LW_law_282 (by decide) ?_
            obtain ⟨g32, hD⟩ := grd_s hD
            refine g_lald cx wo m30 (cel_30 E ad n σ27) g32 d_LW_law_283 ?_
            refine lv_iload hx hb d_LW_law_284 (lv_at hl 0 rfl) ?_
            refine lv_if_eq (tgt := 293) hx hb d_LW_law_286 (by decide) (fun c33 => ?_) (fun c33 => ?_)
            · have hD := ite_p hD c33
              refine lv_lconst (v := 0) hx hb d_LW_law_293 (by decide) ?_
              refine W.lcmp hx hb d_LW_law_294 ?_
              refine lv_if_eq (tgt := 300) hx hb d_LW_law_295 (by decide) (fun c34 => ?_) (fun c34 => ?_)
              · have hD := ite_p hD c34
                refine lv_goto (tgt := 1008) hx hb d_LW_law_300 (by decide) ?_
                obtain ⟨x35, ex35⟩ : ∃ y : Int32, y = xi + (7 : Int32) := ⟨_, rfl⟩
                have hD := nm_at hD ex35
                try dsimp only at hD
                refine lv_iinc (v := x35) (lv' := [(4, .int x35), (6, .int x26), (5, .int x23), (0, .ref b), (1, .ref (ad 0)), (2, .ref (ad 20)), (3, .ref (ad 30))]) hx hb d_LW_law_1008 hl (k := 6) rfl (by rw [ex35]; rfl) (by decide) rfl (fun ls hl => ?_)
                refine lv_goto (tgt := 53) hx hb d_LW_law_1011 (by decide) ?_
                refine W.widen (k := cells + 1) (n := slots + 6) (by (try dsimp only); omega) (by (try dsimp only); omega) ?_
                exact ih σ27 x35 _ _ _ _ _ hD (by omega) (by omega) wo (lv_sub hl [3, 4, 5, 6, 0] rfl)
              · have hD := ite_n hD c34
                refine lv_iconst (v := 0) hx hb d_LW_law_298 (by decide) ?_
                cases hD
            · have hD := ite_n hD c33
              refine lv_lconst (v := 1) hx hb d_LW_law_289 (by decide) ?_
              refine lv_goto (tgt := 294) hx hb d_LW_law_290 (by decide) ?_
              refine W.lcmp hx hb d_LW_law_294 ?_
              refine lv_if_eq (tgt := 300) hx hb d_LW_law_295 (by decide) (fun c36 => ?_) (fun c36 => ?_)
              · have hD := ite_p hD c36
                refine lv_goto (tgt := 1008) hx hb d_LW_law_300 (by decide) ?_
                obtain ⟨x37, ex37⟩ : ∃ y : Int32, y = xi + (7 : Int32) := ⟨_, rfl⟩
                have hD := nm_at hD ex37
                try dsimp only at hD
                refine lv_iinc (v := x37) (lv' := [(4, .int x37), (6, .int x26), (5, .int x23), (0, .ref b), (1, .ref (ad 0)), (2, .ref (ad 20)), (3, .ref (ad 30))]) hx hb d_LW_law_1008 hl (k := 6) rfl (by rw [ex37]; rfl) (by decide) rfl (fun ls hl => ?_)
                refine lv_goto (tgt := 53) hx hb d_LW_law_1011 (by decide) ?_
                refine W.widen (k := cells + 1) (n := slots + 6) (by (try dsimp only); omega) (by (try dsimp only); omega) ?_
                exact ih σ27 x37 _ _ _ _ _ hD (by omega) (by omega) wo (lv_sub hl [3, 4, 5, 6, 0] rfl)
              · have hD := ite_n hD c36
                refine lv_iconst (v := 0) hx hb d_LW_law_298 (by decide) ?_
                cases hD
        · have hD := ite_n hD c29
          refine lv_iconst (v := 0) hx hb d_LW_law_274 (by decide) ?_
          cases hD
      have hD := ite_n hD c21
      by_cases c38 : ((xs (xi).toNatClampNeg) &&& (15 : Int32)) = (2 : Int32)
      · have hD := ite_p hD c38
        refine lv_tableIn (tgt := 303) hx hb d_LW_law_70 (by rw [c38]; decide) (by rw [c38]; decide) (off := 233) (by rw [c38]; decide) (by decide) ?_
        refine lv_aload_n hx hb d_LW_law_303 rfl (lv_at hl 1 rfl) ?_
        refine lv_aload_n hx hb d_LW_law_304 rfl (lv_at hl 0 rfl) ?_
        refine lv_iload hx hb d_LW_law_305 (lv_at hl 4 rfl) ?_
        refine lv_iconst (v := 1) hx hb d_LW_law_307 (by decide) ?_
        refine lv_iadd hx hb d_LW_law_308 ?_
        obtain ⟨g39, hD⟩ := grd_s hD
        refine va_sld hx hb hX hbl hbA wo.2.2.1 (inb_in g39) d_LW_law_309 ?_
        refine lv_aload_n hx hb d_LW_law_310 rfl (lv_at hl 0 rfl) ?_
        refine lv_iload hx hb d_LW_law_311 (lv_at hl 4 rfl) ?_
        refine lv_iconst (v := 2) hx hb d_LW_law_313 (by decide) ?_
        refine lv_iadd hx hb d_LW_law_314 ?_
        obtain ⟨g40, hD⟩ := grd_s hD
        refine va_sld hx hb hX hbl hbA wo.2.2.1 (inb_in g40) d_LW_law_315 ?_
        refine lv_aload_n hx hb d_LW_law_316 rfl (lv_at hl 3 rfl) ?_
        obtain ⟨⟨σ42, x41⟩, hcx41, hD⟩ := bd_s hD
        try dsimp only [nm2] at hD
        refine call_Wi cx kt sx wo (k_LW_read_0_30 l hfl E ad n L (fun a h => hL a ((by decide : ∀ a ∈ ([0, 1, 2, 3, 4, 7, 11, 14, 15, 30] : List Nat), a ∈ ([0, 1, 2, 3, 4, 5, 6, 7, 8, 9, 10, 11, 12, 13, 14, 15, 16, 20, 21, 22, 23, 24, 25, 26, 27, 28, 29, 30] : List Nat)) a h)) F σv σ42 (xs ((xi + (1 : Int32))).toNatClampNeg) (xs ((xi + (2 : Int32))).toNatClampNeg) x41 hcx41) mv_LW_read wm_LW_89 ⟨by decide, by decide⟩ ⟨by dsimp only [room_1]; omega, by dsimp only [room_1]; omega⟩ hl.1 rfl (Nat.le_of_ble_eq_true rfl) d_LW_law_317 (fun H locs wo => ?_)
        refine lv_istore (lv' := [(5, .int x41), (0, .ref b), (1, .ref (ad 0)), (2, .ref (ad 20)), (3, .ref (ad 30)), (4, .int xi)]) hx hb d_LW_law_320 hl (by decide) rfl (fun ls hl => ?_)
        refine lv_aload_n hx hb d_LW_law_322 rfl (lv_at hl 3 rfl) ?_
        refine lv_aload_n hx hb d_LW_law_323 rfl (lv_at hl 1 rfl) ?_
        refine lv_iload hx hb d_LW_law_324 (lv_at hl 5 rfl) ?_
        refine lv_iconst (v := 1) hx hb d_LW_law_326 (by decide) ?_
        refine lv_iadd hx hb d_LW_law_327 ?_
        obtain ⟨g43, hD⟩ := grd_s hD
        refine va_sld hx hb hX hbl hbA wo.2.2.1 (inb_in g43) d_LW_law_328 ?_
        refine lv_aload_n hx hb d_LW_law_329 rfl (lv_at hl 1 rfl) ?_
        refine lv_iload hx hb d_LW_law_330 (lv_at hl 5 rfl) ?_
        refine lv_iconst (v := 2) hx hb d_LW_law_332 (by decide) ?_
        refine lv_iadd hx hb d_LW_law_333 ?_
        obtain ⟨g44, hD⟩ := grd_s hD
        refine va_sld hx hb hX hbl hbA wo.2.2.1 (inb_in g44) d_LW_law_334 ?_
        obtain ⟨⟨σ46, x45⟩, hcx45, hD⟩ := bd_s hD
        try dsimp only [nm2] at hD
        refine call_Vl cx wo (k_MD_read l E ad n L (fun a h => hL a ((by decide : ∀ a ∈ ([20, 28] : List Nat), a ∈ ([0, 1, 2, 3, 4, 5, 6, 7, 8, 9, 10, 11, 12, 13, 14, 15, 16, 20, 21, 22, 23, 24, 25, 26, 27, 28, 29, 30] : List Nat)) a h)) F σ42 σ46 (xs ((xi + (1 : Int32))).toNatClampNeg) (xs ((xi + (2 : Int32))).toNatClampNeg) x45 hcx45) m20 (cel_20 E ad n σ42) rfl rfl mw_MD_read wm_LW_92 ⟨by decide, by decide⟩ ⟨by dsimp only [room_1]; omega, by dsimp only [room_1]; omega⟩ hl.1 rfl (Nat.le_of_ble_eq_true rfl) d_LW_law_335 (fun H locs wo => ?_)
        refine lv_lstore (lv' := [(6, .long x45), (5, .int x41), (0, .ref b), (1, .ref (ad 0)), (2, .ref (ad 20)), (3, .ref (ad 30)), (4, .int xi)]) hx hb d_LW_law_338 hl (by decide) rfl (fun ls hl => ?_)
        refine lv_aload_n hx hb d_LW_law_340 rfl (lv_at hl 4 rfl) ?_
        obtain ⟨x47, hcx47, hD⟩ := bd_s hD
        try dsimp only [nm2] at hD
        refine call_Vi cx wo (k_MD_thrown l E ad n L (fun a h => hL a ((by decide : ∀ a ∈ ([20] : List Nat), a ∈ ([0, 1, 2, 3, 4, 5, 6, 7, 8, 9, 10, 11, 12, 13, 14, 15, 16, 20, 21, 22, 23, 24, 25, 26, 27, 28, 29, 30] : List Nat)) a h)) F σ46   x47 hcx47) m20 (cel_20 E ad n σ46) rfl rfl mw_MD_thrown wm_LW_82 ⟨by decide, by decide⟩ ⟨by dsimp only [room_1]; omega, by dsimp only [room_1]; omega⟩ hl.1 rfl (Nat.le_of_ble_eq_true rfl) d_LW_law_341 (fun H locs wo => ?_)
        refine lv_iload hx hb d_LW_law_344 (lv_at hl 1 rfl) ?_
        refine lv_icmp_eq (tgt := 351) hx hb d_LW_law_346 (by decide) (fun c48 => ?_) (fun c48 => ?_)
        · have hD := ite_p hD c48
          refine lv_iload hx hb d_LW_law_351 (lv_at hl 1 rfl) ?_
          refine lv_if_ne (tgt := 367) hx hb d_LW_law_353 (by decide) (fun c49 => ?_) (fun c49 => ?_)
          · have hD := ite_n hD c49
            refine lv_goto (tgt := 1008) hx hb d_LW_law_367 (by decide) ?_
            obtain ⟨x50, ex50⟩ : ∃ y : Int32, y = xi + (7 : Int32) := ⟨_, rfl⟩
            have hD := nm_at hD ex50
            try dsimp only at hD
            refine lv_iinc (v := x50) (lv' := [(4, .int x50), (6, .long x45), (5, .int x41), (0, .ref b), (1, .ref (ad 0)), (2, .ref (ad 20)), (3, .ref (ad 30))]) hx hb d_LW_law_1008 hl (k := 6) rfl (by rw [ex50]; rfl) (by decide) rfl (fun ls hl => ?_)
            refine lv_goto (tgt := 53) hx hb d_LW_law_1011 (by decide) ?_
            refine W.widen (k := cells + 1) (n := slots + 6) (by (try dsimp only); omega) (by (try dsimp only); omega) ?_
            exact ih σ46 x50 _ _ _ _ _ hD (by omega) (by omega) wo (lv_sub hl [3, 4, 5, 6, 0] rfl)
          · have hD := ite_p hD c49
            refine lv_aload_n hx hb d_LW_law_356 rfl (lv_at hl 5 rfl) ?_
            refine lv_iconst (v := 0) hx hb d_LW_law_357 (by decide) ?_
            obtain ⟨g51, hD⟩ := grd_s hD
            refine g_lald cx wo m30 (cel_30 E ad n σ46) g51 d_LW_law_358 ?_
            refine lv_lload hx hb d_LW_law_359 (lv_at hl 0 rfl) ?_
            refine W.lcmp hx hb d_LW_law_361 ?_
            refine lv_if_eq (tgt := 367) hx hb d_LW_law_362 (by decide) (fun c52 => ?_) (fun c52 => ?_)
            · have hD := ite_p hD c52
              refine lv_goto (tgt := 1008) hx hb d_LW_law_367 (by decide) ?_
              obtain ⟨x53, ex53⟩ : ∃ y : Int32, y = xi + (7 : Int32) := ⟨_, rfl⟩
              have hD := nm_at hD ex53
              try dsimp only at hD
              refine lv_iinc (v := x53) (lv' := [(4, .int x53), (6, .long x45), (5, .int x41), (0, .ref b), (1, .ref (ad 0)), (2, .ref (ad 20)), (3, .ref (ad 30))]) hx hb d_LW_law_1008 hl (k := 6) rfl (by rw [ex53]; rfl) (by decide) rfl (fun ls hl => ?_)
              refine lv_goto (tgt := 53) hx hb d_LW_law_1011 (by decide) ?_
              refine W.widen (k := cells + 1) (n := slots + 6) (by (try dsimp only); omega) (by (try dsimp only); omega) ?_
              exact ih σ46 x53 _ _ _ _ _ hD (by omega) (by omega) wo (lv_sub hl [3, 4, 5, 6, 0] rfl)
            · have hD := ite_n hD c52
              refine lv_iconst (v := 0) hx hb d_LW_law_365 (by decide) ?_
              cases hD
        · have hD := ite_n hD c48
          refine lv_iconst (v := 0) hx hb d_LW_law_349 (by decide) ?_
          cases hD
      have hD := ite_n hD c38
      by_cases c54 : ((xs (xi).toNatClampNeg) &&& (15 : Int32)) = (3 : Int32)
      · have hD := ite_p hD c54
        refine lv_tableIn (tgt := 370) hx hb d_LW_law_70 (by rw [c54]; decide) (by rw [c54]; decide) (off := 300) (by rw [c54]; decide) (by decide) ?_
        refine lv_aload_n hx hb d_LW_law_370 rfl (lv_at hl 1 rfl) ?_
        refine lv_aload_n hx hb d_LW_law_371 rfl (lv_at hl 0 rfl) ?_
        refine lv_iload hx hb d_LW_law_372 (lv_at hl 4 rfl) ?_
        refine lv_iconst (v := 1) hx hb d_LW_law_374 (by decide) ?_
        refine lv_iadd hx hb d_LW_law_375 ?_
        obtain ⟨g55, hD⟩ := grd_s hD
        refine va_sld hx hb hX hbl hbA wo.2.2.1 (inb_in g55) d_LW_law_376 ?_
        obtain ⟨⟨σ57, x56⟩, hcx56, hD⟩ := bd_s hD
        try dsimp only [nm2] at hD
        refine call_Wi cx kt sx wo (k_LW_lose_0 l hfl E ad n L (fun a h => hL a ((by decide : ∀ a ∈ ([0, 4] : List Nat), a ∈ ([0, 1, 2, 3, 4, 5, 6, 7, 8, 9, 10, 11, 12, 13, 14, 15, 16, 20, 21, 22, 23, 24, 25, 26, 27, 28, 29, 30] : List Nat)) a h)) F σv σ57 (xs ((xi + (1 : Int32))).toNatClampNeg) x56 hcx56) mv_LW_lose wm_LW_93 ⟨by decide, by decide⟩ ⟨by dsimp only [room_1]; omega, by dsimp only [room_1]; omega⟩ hl.1 rfl (Nat.le_of_ble_eq_true rfl) d_LW_law_377 (fun H locs wo => ?_)
        refine lv_istore (lv' := [(5, .int x56), (0, .ref b), (1, .ref (ad 0)), (2, .ref (ad 20)), (3, .ref (ad 30)), (4, .int xi)]) hx hb d_LW_law_380 hl (by decide) rfl (fun ls hl => ?_)
        refine lv_aload_n hx hb d_LW_law_382 rfl (lv_at hl 3 rfl) ?_
        refine lv_aload_n hx hb d_LW_law_383 rfl (lv_at hl 1 rfl) ?_
        refine lv_iload hx hb d_LW_law_384 (lv_at hl 5 rfl) ?_
        refine lv_iconst (v := 1) hx hb d_LW_law_386 (by decide) ?_
        refine lv_iadd hx hb d_LW_law_387 ?_
        obtain ⟨g58, hD⟩ := grd_s hD
        refine va_sld hx hb hX hbl hbA wo.2.2.1 (inb_in g58) d_LW_law_388 ?_
        obtain ⟨σ60, hcx59, hD⟩ := bd_s hD
        try dsimp only [nm2] at hD
        refine call_Vv cx wo (k_MD_lose l E ad n L (fun a h => hL a ((by decide : ∀ a ∈ ([20] : List Nat), a ∈ ([0, 1, 2, 3, 4, 5, 6, 7, 8, 9, 10, 11, 12, 13, 14, 15, 16, 20, 21, 22, 23, 24, 25, 26, 27, 28, 29, 30] : List Nat)) a h)) F σ57 σ60 (xs ((xi + (1 : Int32))).toNatClampNeg) hcx59) m20 (cel_20 E ad n σ57) rfl rfl mw_MD_lose wm_LW_96 ⟨by decide, by decide⟩ ⟨by dsimp only [room_1]; omega, by dsimp only [room_1]; omega⟩ hl.1 rfl (Nat.le_of_ble_eq_true rfl) d_LW_law_389 (fun H locs wo => ?_)
        refine lv_aload_n hx hb d_LW_law_392 rfl (lv_at hl 3 rfl) ?_
        obtain ⟨x61, hcx61, hD⟩ := bd_s hD
        try dsimp only [nm2] at hD
        refine call_Vi cx wo (k_MD_thrown l E ad n L (fun a h => hL a ((by decide : ∀ a ∈ ([20] : List Nat), a ∈ ([0, 1, 2, 3, 4, 5, 6, 7, 8, 9, 10, 11, 12, 13, 14, 15, 16, 20, 21, 22, 23, 24, 25, 26, 27, 28, 29, 30] : List Nat)) a h)) F σ60   x61 hcx61) m20 (cel_20 E ad n σ60) rfl rfl mw_MD_thrown wm_LW_82 ⟨by decide, by decide⟩ ⟨by dsimp only [room_1]; omega, by dsimp only [room_1]; omega⟩ hl.1 rfl (Nat.le_of_ble_eq_true rfl) d_LW_law_393 (fun H locs wo => ?_)
        refine lv_iload hx hb d_LW_law_396 (lv_at hl 0 rfl) ?_
        refine lv_icmp_eq (tgt := 403) hx hb d_LW_law_398 (by decide) (fun c62 => ?_) (fun c62 => ?_)
        · have hD := ite_p hD c62
          refine lv_goto (tgt := 1008) hx hb d_LW_law_403 (by decide) ?_
          obtain ⟨x63, ex63⟩ : ∃ y : Int32, y = xi + (7 : Int32) := ⟨_, rfl⟩
          have hD := nm_at hD ex63
          try dsimp only at hD
          refine lv_iinc (v := x63) (lv' := [(4, .int x63), (5, .int x56), (0, .ref b), (1, .ref (ad 0)), (2, .ref (ad 20)), (3, .ref (ad 30))]) hx hb d_LW_law_1008 hl (k := 5) rfl (by rw [ex63]; rfl) (by decide) rfl (fun ls hl => ?_)
          refine lv_goto (tgt := 53) hx hb d_LW_law_1011 (by decide) ?_
          refine W.widen (k := cells + 1) (n := slots + 6) (by (try dsimp only); omega) (by (try dsimp only); omega) ?_
          exact ih σ60 x63 _ _ _ _ _ hD (by omega) (by omega) wo (lv_sub hl [2, 3, 4, 5, 0] rfl)
        · have hD := ite_n hD c62
          refine lv_iconst (v := 0) hx hb d_LW_law_401 (by decide) ?_
          cases hD
      have hD := ite_n hD c54
      by_cases c64 : ((xs (xi).toNatClampNeg) &&& (15 : Int32)) = (4 : Int32)
      · have hD := ite_p hD c64
        refine lv_tableIn (tgt := 406) hx hb d_LW_law_70 (by rw [c64]; decide) (by rw [c64]; decide) (off := 336) (by rw [c64]; decide) (by decide) ?_
        refine lv_aload_n hx hb d_LW_law_406 rfl (lv_at hl 1 rfl) ?_
        obtain ⟨⟨σ66, x65⟩, hcx65, hD⟩ := bd_s hD
        try dsimp only [nm2] at hD
        refine call_Wi cx kt sx wo (k_LW_off_0 l hfl E ad n L (fun a h => hL a ((by decide : ∀ a ∈ ([0, 4] : List Nat), a ∈ ([0, 1, 2, 3, 4, 5, 6, 7, 8, 9, 10, 11, 12, 13, 14, 15, 16, 20, 21, 22, 23, 24, 25, 26, 27, 28, 29, 30] : List Nat)) a h)) F σv σ66  x65 hcx65) mv_LW_off wm_LW_97 ⟨by decide, by decide⟩ ⟨by dsimp only [room_1]; omega, by dsimp only [room_1]; omega⟩ hl.1 rfl (Nat.le_of_ble_eq_true rfl) d_LW_law_407 (fun H locs wo => ?_)
        refine lv_istore (lv' := [(5, .int x65), (0, .ref b), (1, .ref (ad 0)), (2, .ref (ad 20)), (3, .ref (ad 30)), (4, .int xi)]) hx hb d_LW_law_410 hl (by decide) rfl (fun ls hl => ?_)
        refine lv_aload_n hx hb d_LW_law_412 rfl (lv_at hl 3 rfl) ?_
        obtain ⟨σ68, hcx67, hD⟩ := bd_s hD
        try dsimp only [nm2] at hD
        refine call_Vv cx wo (k_MD_off l E ad n L (fun a h => hL a ((by decide : ∀ a ∈ ([20] : List Nat), a ∈ ([0, 1, 2, 3, 4, 5, 6, 7, 8, 9, 10, 11, 12, 13, 14, 15, 16, 20, 21, 22, 23, 24, 25, 26, 27, 28, 29, 30] : List Nat)) a h)) F σ66 σ68  hcx67) m20 (cel_20 E ad n σ66) rfl rfl mw_MD_off wm_LW_100 ⟨by decide, by decide⟩ ⟨by dsimp only [room_1]; omega, by dsimp only [room_1]; omega⟩ hl.1 rfl (Nat.le_of_ble_eq_true rfl) d_LW_law_413 (fun H locs wo => ?_)
        refine lv_aload_n hx hb d_LW_law_416 rfl (lv_at hl 3 rfl) ?_
        obtain ⟨x69, hcx69, hD⟩ := bd_s hD
        try dsimp only [nm2] at hD
        refine call_Vi cx wo (k_MD_thrown l E ad n L (fun a h => hL a ((by decide : ∀ a ∈ ([20] : List Nat), a ∈ ([0, 1, 2, 3, 4, 5, 6, 7, 8, 9, 10, 11, 12, 13, 14, 15, 16, 20, 21, 22, 23, 24, 25, 26, 27, 28, 29, 30] : List Nat)) a h)) F σ68   x69 hcx69) m20 (cel_20 E ad n σ68) rfl rfl mw_MD_thrown wm_LW_82 ⟨by decide, by decide⟩ ⟨by dsimp only [room_1]; omega, by dsimp only [room_1]; omega⟩ hl.1 rfl (Nat.le_of_ble_eq_true rfl) d_LW_law_417 (fun H locs wo => ?_)
        refine lv_iload hx hb d_LW_law_420 (lv_at hl 0 rfl) ?_
        refine lv_icmp_eq (tgt := 427) hx hb d_LW_law_422 (by decide) (fun c70 => ?_) (fun c70 => ?_)
        · have hD := ite_p hD c70
          refine lv_goto (tgt := 1008) hx hb d_LW_law_427 (by decide) ?_
          obtain ⟨x71, ex71⟩ : ∃ y : Int32, y = xi + (7 : Int32) := ⟨_, rfl⟩
          have hD := nm_at hD ex71
          try dsimp only at hD
          refine lv_iinc (v := x71) (lv' := [(4, .int x71), (5, .int x65), (0, .ref b), (1, .ref (ad 0)), (2, .ref (ad 20)), (3, .ref (ad 30))]) hx hb d_LW_law_1008 hl (k := 5) rfl (by rw [ex71]; rfl) (by decide) rfl (fun ls hl => ?_)
          refine lv_goto (tgt := 53) hx hb d_LW_law_1011 (by decide) ?_
          refine W.widen (k := cells + 1) (n := slots + 6) (by (try dsimp only); omega) (by (try dsimp only); omega) ?_
          exact ih σ68 x71 _ _ _ _ _ hD (by omega) (by omega) wo (lv_sub hl [2, 3, 4, 5, 0] rfl)
        · have hD := ite_n hD c70
          refine lv_iconst (v := 0) hx hb d_LW_law_425 (by decide) ?_
          cases hD
      have hD := ite_n hD c64
      by_cases c72 : ((xs (xi).toNatClampNeg) &&& (15 : Int32)) = (5 : Int32)
      · have hD := ite_p hD c72
        refine lv_tableIn (tgt := 430) hx hb d_LW_law_70 (by rw [c72]; decide) (by rw [c72]; decide) (off := 360) (by rw [c72]; decide) (by decide) ?_
        refine lv_aload_n hx hb d_LW_law_430 rfl (lv_at hl 1 rfl) ?_
        refine lv_aload_n hx hb d_LW_law_431 rfl (lv_at hl 3 rfl) ?_
        obtain ⟨⟨σ74, x73⟩, hcx73, hD⟩ := bd_s hD
        try dsimp only [nm2] at hD
        refine call_Wi cx kt sx wo (k_LW_open_0_30 l hfl E ad n L (fun a h => hL a ((by decide : ∀ a ∈ ([0, 1, 2, 3, 4, 7, 8, 9, 11, 12, 13, 14, 15, 16, 30] : List Nat), a ∈ ([0, 1, 2, 3, 4, 5, 6, 7, 8, 9, 10, 11, 12, 13, 14, 15, 16, 20, 21, 22, 23, 24, 25, 26, 27, 28, 29, 30] : List Nat)) a h)) F σv σ74  x73 hcx73) mv_LW_open wm_LW_101 ⟨by decide, by decide⟩ ⟨by dsimp only [room_1]; omega, by dsimp only [room_1]; omega⟩ hl.1 rfl (Nat.le_of_ble_eq_true rfl) d_LW_law_432 (fun H locs wo => ?_)
        refine lv_istore (lv' := [(5, .int x73), (0, .ref b), (1, .ref (ad 0)), (2, .ref (ad 20)), (3, .ref (ad 30)), (4, .int xi)]) hx hb d_LW_law_435 hl (by decide) rfl (fun ls hl => ?_)
        refine lv_aload_n hx hb d_LW_law_437 rfl (lv_at hl 3 rfl) ?_
        obtain ⟨⟨σ76, x75⟩, hcx75, hD⟩ := bd_s hD
        try dsimp only [nm2] at hD
        refine call_Vi cx wo (k_MD_open l E ad n L (fun a h => hL a ((by decide : ∀ a ∈ ([20, 21, 22, 23, 24, 25, 26] : List Nat), a ∈ ([0, 1, 2, 3, 4, 5, 6, 7, 8, 9, 10, 11, 12, 13, 14, 15, 16, 20, 21, 22, 23, 24, 25, 26, 27, 28, 29, 30] : List Nat)) a h)) F σ74 σ76  x75 hcx75) m20 (cel_20 E ad n σ74) rfl rfl mw_MD_open wm_LW_104 ⟨by decide, by decide⟩ ⟨by dsimp only [room_1]; omega, by dsimp only [room_1]; omega⟩ hl.1 rfl (Nat.le_of_ble_eq_true rfl) d_LW_law_438 (fun H locs wo => ?_)
        refine lv_istore (lv' := [(6, .int x75), (5, .int x73), (0, .ref b), (1, .ref (ad 0)), (2, .ref (ad 20)), (3, .ref (ad 30)), (4, .int xi)]) hx hb d_LW_law_441 hl (by decide) rfl (fun ls hl => ?_)
        refine lv_aload_n hx hb d_LW_law_443 rfl (lv_at hl 4 rfl) ?_
        obtain ⟨x77, hcx77, hD⟩ := bd_s hD
        try dsimp only [nm2] at hD
        refine call_Vi cx wo (k_MD_thrown l E ad n L (fun a h => hL a ((by decide : ∀ a ∈ ([20] : List Nat), a ∈ ([0, 1, 2, 3, 4, 5, 6, 7, 8, 9, 10, 11, 12, 13, 14, 15, 16, 20, 21, 22, 23, 24, 25, 26, 27, 28, 29, 30] : List Nat)) a h)) F σ76   x77 hcx77) m20 (cel_20 E ad n σ76) rfl rfl mw_MD_thrown wm_LW_82 ⟨by decide, by decide⟩ ⟨by dsimp only [room_1]; omega, by dsimp only [room_1]; omega⟩ hl.1 rfl (Nat.le_of_ble_eq_true rfl) d_LW_law_444 (fun H locs wo => ?_)
        refine lv_iload hx hb d_LW_law_447 (lv_at hl 1 rfl) ?_
        refine lv_icmp_eq (tgt := 454) hx hb d_LW_law_449 (by decide) (fun c78 => ?_) (fun c78 => ?_)
        · have hD := ite_p hD c78
          refine lv_iload hx hb d_LW_law_454 (lv_at hl 1 rfl) ?_
          refine lv_if_ne (tgt := 478) hx hb d_LW_law_456 (by decide) (fun c79 => ?_) (fun c79 => ?_)
          · have hD := ite_n hD c79
            refine lv_goto (tgt := 1008) hx hb d_LW_law_478 (by decide) ?_
            obtain ⟨x80, ex80⟩ : ∃ y : Int32, y = xi + (7 : Int32) := ⟨_, rfl⟩
            have hD := nm_at hD ex80
            try dsimp only at hD
            refine lv_iinc (v := x80) (lv' := [(4, .int x80), (6, .int x75), (5, .int x73), (0, .ref b), (1, .ref (ad 0)), (2, .ref (ad 20)), (3, .ref (ad 30))]) hx hb d_LW_law_1008 hl (k := 6) rfl (by rw [ex80]; rfl) (by decide) rfl (fun ls hl => ?_)
            refine lv_goto (tgt := 53) hx hb d_LW_law_1011 (by decide) ?_
            refine W.widen (k := cells + 1) (n := slots + 6) (by (try dsimp only); omega) (by (try dsimp only); omega) ?_
            exact ih σ76 x80 _ _ _ _ _ hD (by omega) (by omega) wo (lv_sub hl [3, 4, 5, 6, 0] rfl)
          · have hD := ite_p hD c79
            refine lv_aload_n hx hb d_LW_law_459 rfl (lv_at hl 5 rfl) ?_
            refine lv_iconst (v := 0) hx hb d_LW_law_460 (by decide) ?_
            obtain ⟨g81, hD⟩ := grd_s hD
            refine g_lald cx wo m30 (cel_30 E ad n σ76) g81 d_LW_law_461 ?_
            refine lv_iload hx hb d_LW_law_462 (lv_at hl 0 rfl) ?_
            refine lv_if_eq (tgt := 471) hx hb d_LW_law_464 (by decide) (fun c82 => ?_) (fun c82 => ?_)
            · have hD := ite_p hD c82
              refine lv_lconst (v := 0) hx hb d_LW_law_471 (by decide) ?_
              refine W.lcmp hx hb d_LW_law_472 ?_
              refine lv_if_eq (tgt := 478) hx hb d_LW_law_473 (by decide) (fun c83 => ?_) (fun c83 => ?_)
              · have hD := ite_p hD c83
                refine lv_goto (tgt := 1008) hx hb d_LW_law_478 (by decide) ?_
                obtain ⟨x84, ex84⟩ : ∃ y : Int32, y = xi + (7 : Int32) := ⟨_, rfl⟩
                have hD := nm_at hD ex84
                try dsimp only at hD
                refine lv_iinc (v := x84) (lv' := [(4, .int x84), (6, .int x75), (5, .int x73), (0, .ref b), (1, .ref (ad 0)), (2, .ref (ad 20)), (3, .ref (ad 30))]) hx hb d_LW_law_1008 hl (k := 6) rfl (by rw [ex84]; rfl) (by decide) rfl (fun ls hl => ?_)
                refine lv_goto (tgt := 53) hx hb d_LW_law_1011 (by decide) ?_
                refine W.widen (k := cells + 1) (n := slots + 6) (by (try dsimp only); omega) (by (try dsimp only); omega) ?_
                exact ih σ76 x84 _ _ _ _ _ hD (by omega) (by omega) wo (lv_sub hl [3, 4, 5, 6, 0] rfl)
              · have hD := ite_n hD c83
                refine lv_iconst (v := 0) hx hb d_LW_law_476 (by decide) ?_
                cases hD
            · have hD := ite_n hD c82
              refine lv_lconst (v := 1) hx hb d_LW_law_467 (by decide) ?_
              refine lv_goto (tgt := 472) hx hb d_LW_law_468 (by decide) ?_
              refine W.lcmp hx hb d_LW_law_472 ?_
              refine lv_if_eq (tgt := 478) hx hb d_LW_law_473 (by decide) (fun c85 => ?_) (fun c85 => ?_)
              · have hD := ite_p hD c85
                refine lv_goto (tgt := 1008) hx hb d_LW_law_478 (by decide) ?_
                obtain ⟨x86, ex86⟩ : ∃ y : Int32, y = xi + (7 : Int32) := ⟨_, rfl⟩
                have hD := nm_at hD ex86
                try dsimp only at hD
                refine lv_iinc (v := x86) (lv' := [(4, .int x86), (6, .int x75), (5, .int x73), (0, .ref b), (1, .ref (ad 0)), (2, .ref (ad 20)), (3, .ref (ad 30))]) hx hb d_LW_law_1008 hl (k := 6) rfl (by rw [ex86]; rfl) (by decide) rfl (fun ls hl => ?_)
                refine lv_goto (tgt := 53) hx hb d_LW_law_1011 (by decide) ?_
                refine W.widen (k := cells + 1) (n := slots + 6) (by (try dsimp only); omega) (by (try dsimp only); omega) ?_
                exact ih σ76 x86 _ _ _ _ _ hD (by omega) (by omega) wo (lv_sub hl [3, 4, 5, 6, 0] rfl)
              · have hD := ite_n hD c85
                refine lv_iconst (v := 0) hx hb d_LW_law_476 (by decide) ?_
                cases hD
        · have hD := ite_n hD c78
          refine lv_iconst (v := 0) hx hb d_LW_law_452 (by decide) ?_
          cases hD
      have hD := ite_n hD c72
      by_cases c87 : ((xs (xi).toNatClampNeg) &&& (15 : Int32)) = (6 : Int32)
      · have hD := ite_p hD c87
        refine lv_tableIn (tgt := 481) hx hb d_LW_law_70 (by rw [c87]; decide) (by rw [c87]; decide) (off := 411) (by rw [c87]; decide) (by decide) ?_
        refine lv_aload_n hx hb d_LW_law_481 rfl (lv_at hl 1 rfl) ?_
        refine lv_aload_n hx hb d_LW_law_482 rfl (lv_at hl 0 rfl) ?_
        refine lv_iload hx hb d_LW_law_483 (lv_at hl 4 rfl) ?_
        refine lv_iconst (v := 1) hx hb d_LW_law_485 (by decide) ?_
        refine lv_iadd hx hb d_LW_law_486 ?_
        obtain ⟨g88, hD⟩ := grd_s hD
        refine va_sld hx hb hX hbl hbA wo.2.2.1 (inb_in g88) d_LW_law_487 ?_
        refine lv_aload_n hx hb d_LW_law_488 rfl (lv_at hl 3 rfl) ?_
        obtain ⟨⟨σ90, x89⟩, hcx89, hD⟩ := bd_s hD
        try dsimp only [nm2] at hD
        refine call_Wi cx kt sx wo (k_LW_fail_0_30 l hfl E ad n L (fun a h => hL a ((by decide : ∀ a ∈ ([0, 1, 2, 3, 4, 9, 10, 11, 13, 14, 15, 16, 30] : List Nat), a ∈ ([0, 1, 2, 3, 4, 5, 6, 7, 8, 9, 10, 11, 12, 13, 14, 15, 16, 20, 21, 22, 23, 24, 25, 26, 27, 28, 29, 30] : List Nat)) a h)) F σv σ90 (xs ((xi + (1 : Int32))).toNatClampNeg) x89 hcx89) mv_LW_fail wm_LW_105 ⟨by decide, by decide⟩ ⟨by dsimp only [room_1]; omega, by dsimp only [room_1]; omega⟩ hl.1 rfl (Nat.le_of_ble_eq_true rfl) d_LW_law_489 (fun H locs wo => ?_)
        refine lv_istore (lv' := [(5, .int x89), (0, .ref b), (1, .ref (ad 0)), (2, .ref (ad 20)), (3, .ref (ad 30)), (4, .int xi)]) hx hb d_LW_law_492 hl (by decide) rfl (fun ls hl => ?_)
        refine lv_aload_n hx hb d_LW_law_494 rfl (lv_at hl 3 rfl) ?_
        refine lv_aload_n hx hb d_LW_law_495 rfl (lv_at hl 1 rfl) ?_
        refine lv_iload hx hb d_LW_law_496 (lv_at hl 5 rfl) ?_
        refine lv_iconst (v := 1) hx hb d_LW_law_498 (by decide) ?_
        refine lv_iadd hx hb d_LW_law_499 ?_
        obtain ⟨g91, hD⟩ := grd_s hD
        refine va_sld hx hb hX hbl hbA wo.2.2.1 (inb_in g91) d_LW_law_500 ?_
        obtain ⟨⟨σ93, x92⟩, hcx92, hD⟩ := bd_s hD
        try dsimp only [nm2] at hD
        refine call_Vi cx wo (k_MD_fail l E ad n L (fun a h => hL a ((by decide : ∀ a ∈ ([20, 21, 22, 23, 24, 25, 26, 28, 29] : List Nat), a ∈ ([0, 1, 2, 3, 4, 5, 6, 7, 8, 9, 10, 11, 12, 13, 14, 15, 16, 20, 21, 22, 23, 24, 25, 26, 27, 28, 29, 30] : List Nat)) a h)) F σ90 σ93 (xs ((xi + (1 : Int32))).toNatClampNeg) x92 hcx92) m20 (cel_20 E ad n σ90) rfl rfl mw_MD_fail wm_LW_107 ⟨by decide, by decide⟩ ⟨by dsimp only [room_1]; omega, by dsimp only [room_1]; omega⟩ hl.1 rfl (Nat.le_of_ble_eq_true rfl) d_LW_law_501 (fun H locs wo => ?_)
        refine lv_istore (lv' := [(6, .int x92), (5, .int x89), (0, .ref b), (1, .ref (ad 0)), (2, .ref (ad 20)), (3, .ref (ad 30)), (4, .int xi)]) hx hb d_LW_law_504 hl (by decide) rfl (fun ls hl => ?_)
        refine lv_aload_n hx hb d_LW_law_506 rfl (lv_at hl 4 rfl) ?_
        obtain ⟨x94, hcx94, hD⟩ := bd_s hD
        try dsimp only [nm2] at hD
        refine call_Vi cx wo (k_MD_thrown l E ad n L (fun a h => hL a ((by decide : ∀ a ∈ ([20] : List Nat), a ∈ ([0, 1, 2, 3, 4, 5, 6, 7, 8, 9, 10, 11, 12, 13, 14, 15, 16, 20, 21, 22, 23, 24, 25, 26, 27, 28, 29, 30] : List Nat)) a h)) F σ93   x94 hcx94) m20 (cel_20 E ad n σ93) rfl rfl mw_MD_thrown wm_LW_82 ⟨by decide, by decide⟩ ⟨by dsimp only [room_1]; omega, by dsimp only [room_1]; omega⟩ hl.1 rfl (Nat.le_of_ble_eq_true rfl) d_LW_law_507 (fun H locs wo => ?_)
        refine lv_iload hx hb d_LW_law_510 (lv_at hl 1 rfl) ?_
        refine lv_icmp_eq (tgt := 517) hx hb d_LW_law_512 (by decide) (fun c95 => ?_) (fun c95 => ?_)
        · have hD := ite_p hD c95
          refine lv_iload hx hb d_LW_law_517 (lv_at hl 1 rfl) ?_
          refine lv_if_ne (tgt := 541) hx hb d_LW_law_519 (by decide) (fun c96 => ?_) (fun c96 => ?_)
          · have hD := ite_n hD c96
            refine lv_goto (tgt := 1008) hx hb d_LW_law_541 (by decide) ?_
            obtain ⟨x97, ex97⟩ : ∃ y : Int32, y = xi + (7 : Int32) := ⟨_, rfl⟩
            have hD := nm_at hD ex97
            try dsimp only at hD
            refine lv_iinc (v := x97) (lv' := [(4, .int x97), (6, .int x92), (5, .int x89), (0, .ref b), (1, .ref (ad 0)), (2, .ref (ad 20)), (3, .ref (ad 30))]) hx hb d_LW_law_1008 hl (k := 6) rfl (by rw [ex97]; rfl) (by decide) rfl (fun ls hl => ?_)
            refine lv_goto (tgt := 53) hx hb d_LW_law_1011 (by decide) ?_
            refine W.widen (k := cells + 1) (n := slots + 6) (by (try dsimp only); omega) (by (try dsimp only); omega) ?_
            exact ih σ93 x97 _ _ _ _ _ hD (by omega) (by omega) wo (lv_sub hl [3, 4, 5, 6, 0] rfl)
          · have hD := ite_p hD c96
            refine lv_aload_n hx hb d_LW_law_522 rfl (lv_at hl 5 rfl) ?_
            refine lv_iconst (v := 0) hx hb d_LW_law_523 (by decide) ?_
            obtain ⟨g98, hD⟩ := grd_s hD
            refine g_lald cx wo m30 (cel_30 E ad n σ93) g98 d_LW_law_524 ?_
            refine lv_iload hx hb d_LW_law_525 (lv_at hl 0 rfl) ?_
            refine lv_if_eq (tgt := 534) hx hb d_LW_law_527 (by decide) (fun c99 => ?_) (fun c99 => ?_)
            · have hD := ite_p hD c99
              refine lv_lconst (v := 0) hx hb d_LW_law_534 (by decide) ?_
              refine W.lcmp hx hb d_LW_law_535 ?_
              refine lv_if_eq (tgt := 541) hx hb d_LW_law_536 (by decide) (fun c100 => ?_) (fun c100 => ?_)
              · have hD := ite_p hD c100
                refine lv_goto (tgt := 1008) hx hb d_LW_law_541 (by decide) ?_
                obtain ⟨x101, ex101⟩ : ∃ y : Int32, y = xi + (7 : Int32) := ⟨_, rfl⟩
                have hD := nm_at hD ex101
                try dsimp only at hD
                refine lv_iinc (v := x101) (lv' := [(4, .int x101), (6, .int x92), (5, .int x89), (0, .ref b), (1, .ref (ad 0)), (2, .ref (ad 20)), (3, .ref (ad 30))]) hx hb d_LW_law_1008 hl (k := 6) rfl (by rw [ex101]; rfl) (by decide) rfl (fun ls hl => ?_)
                refine lv_goto (tgt := 53) hx hb d_LW_law_1011 (by decide) ?_
                refine W.widen (k := cells + 1) (n := slots + 6) (by (try dsimp only); omega) (by (try dsimp only); omega) ?_
                exact ih σ93 x101 _ _ _ _ _ hD (by omega) (by omega) wo (lv_sub hl [3, 4, 5, 6, 0] rfl)
              · have hD := ite_n hD c100
                refine lv_iconst (v := 0) hx hb d_LW_law_539 (by decide) ?_
                cases hD
            · have hD := ite_n hD c99
              refine lv_lconst (v := 1) hx hb d_LW_law_530 (by decide) ?_
              refine lv_goto (tgt := 535) hx hb d_LW_law_531 (by decide) ?_
              refine W.lcmp hx hb d_LW_law_535 ?_
              refine lv_if_eq (tgt := 541) hx hb d_LW_law_536 (by decide) (fun c102 => ?_) (fun c102 => ?_)
              · have hD := ite_p hD c102
                refine lv_goto (tgt := 1008) hx hb d_LW_law_541 (by decide) ?_
                obtain ⟨x103, ex103⟩ : ∃ y : Int32, y = xi + (7 : Int32) := ⟨_, rfl⟩
                have hD := nm_at hD ex103
                try dsimp only at hD
                refine lv_iinc (v := x103) (lv' := [(4, .int x103), (6, .int x92), (5, .int x89), (0, .ref b), (1, .ref (ad 0)), (2, .ref (ad 20)), (3, .ref (ad 30))]) hx hb d_LW_law_1008 hl (k := 6) rfl (by rw [ex103]; rfl) (by decide) rfl (fun ls hl => ?_)
                refine lv_goto (tgt := 53) hx hb d_LW_law_1011 (by decide) ?_
                refine W.widen (k := cells + 1) (n := slots + 6) (by (try dsimp only); omega) (by (try dsimp only); omega) ?_
                exact ih σ93 x103 _ _ _ _ _ hD (by omega) (by omega) wo (lv_sub hl [3, 4, 5, 6, 0] rfl)
              · have hD := ite_n hD c102
                refine lv_iconst (v := 0) hx hb d_LW_law_539 (by decide) ?_
                cases hD
        · have hD := ite_n hD c95
          refine lv_iconst (v := 0) hx hb d_LW_law_515 (by decide) ?_
          cases hD
      have hD := ite_n hD c87
      by_cases c104 : ((xs (xi).toNatClampNeg) &&& (15 : Int32)) = (7 : Int32)
      · have hD := ite_p hD c104
        refine lv_tableIn (tgt := 544) hx hb d_LW_law_70 (by rw [c104]; decide) (by rw [c104]; decide) (off := 474) (by rw [c104]; decide) (by decide) ?_
        refine lv_aload_n hx hb d_LW_law_544 rfl (lv_at hl 1 rfl) ?_
        refine lv_aload_n hx hb d_LW_law_545 rfl (lv_at hl 0 rfl) ?_
        refine lv_iload hx hb d_LW_law_546 (lv_at hl 4 rfl) ?_
        refine lv_iconst (v := 1) hx hb d_LW_law_548 (by decide) ?_
        refine lv_iadd hx hb d_LW_law_549 ?_
        obtain ⟨g105, hD⟩ := grd_s hD
        refine va_sld hx hb hX hbl hbA wo.2.2.1 (inb_in g105) d_LW_law_550 ?_
        refine lv_aload_n hx hb d_LW_law_551 rfl (lv_at hl 3 rfl) ?_
        obtain ⟨⟨σ107, x106⟩, hcx106, hD⟩ := bd_s hD
        try dsimp only [nm2] at hD
        refine call_Wi cx kt sx wo (k_LW_replace_0_30 l hfl E ad n L (fun a h => hL a ((by decide : ∀ a ∈ ([0, 1, 2, 10, 30] : List Nat), a ∈ ([0, 1, 2, 3, 4, 5, 6, 7, 8, 9, 10, 11, 12, 13, 14, 15, 16, 20, 21, 22, 23, 24, 25, 26, 27, 28, 29, 30] : List Nat)) a h)) F σv σ107 (xs ((xi + (1 : Int32))).toNatClampNeg) x106 hcx106) mv_LW_replace wm_LW_108 ⟨by decide, by decide⟩ ⟨by dsimp only [room_1]; omega, by dsimp only [room_1]; omega⟩ hl.1 rfl (Nat.le_of_ble_eq_true rfl) d_LW_law_552 (fun H locs wo => ?_)
        refine lv_istore (lv' := [(5, .int x106), (0, .ref b), (1, .ref (ad 0)), (2, .ref (ad 20)), (3, .ref (ad 30)), (4, .int xi)]) hx hb d_LW_law_555 hl (by decide) rfl (fun ls hl => ?_)
        refine lv_aload_n hx hb d_LW_law_557 rfl (lv_at hl 3 rfl) ?_
        refine lv_aload_n hx hb d_LW_law_558 rfl (lv_at hl 1 rfl) ?_
        refine lv_iload hx hb d_LW_law_559 (lv_at hl 5 rfl) ?_
        refine lv_iconst (v := 1) hx hb d_LW_law_561 (by decide) ?_
        refine lv_iadd hx hb d_LW_law_562 ?_
        obtain ⟨g108, hD⟩ := grd_s hD
        refine va_sld hx hb hX hbl hbA wo.2.2.1 (inb_in g108) d_LW_law_563 ?_
        obtain ⟨⟨σ110, x109⟩, hcx109, hD⟩ := bd_s hD
        try dsimp only [nm2] at hD
        refine call_Vi cx wo (k_MD_replace l E ad n L (fun a h => hL a ((by decide : ∀ a ∈ ([20, 22, 23, 24, 25] : List Nat), a ∈ ([0, 1, 2, 3, 4, 5, 6, 7, 8, 9, 10, 11, 12, 13, 14, 15, 16, 20, 21, 22, 23, 24, 25, 26, 27, 28, 29, 30] : List Nat)) a h)) F σ107 σ110 (xs ((xi + (1 : Int32))).toNatClampNeg) x109 hcx109) m20 (cel_20 E ad n σ107) rfl rfl mw_MD_replace wm_LW_110 ⟨by decide, by decide⟩ ⟨by dsimp only [room_1]; omega, by dsimp only [room_1]; omega⟩ hl.1 rfl (Nat.le_of_ble_eq_true rfl) d_LW_law_564 (fun H locs wo => ?_)
        refine lv_istore (lv' := [(6, .int x109), (5, .int x106), (0, .ref b), (1, .ref (ad 0)), (2, .ref (ad 20)), (3, .ref (ad 30)), (4, .int xi)]) hx hb d_LW_law_567 hl (by decide) rfl (fun ls hl => ?_)
        refine lv_aload_n hx hb d_LW_law_569 rfl (lv_at hl 4 rfl) ?_
        obtain ⟨x111, hcx111, hD⟩ := bd_s hD
        try dsimp only [nm2] at hD
        refine call_Vi cx wo (k_MD_thrown l E ad n L (fun a h => hL a ((by decide : ∀ a ∈ ([20] : List Nat), a ∈ ([0, 1, 2, 3, 4, 5, 6, 7, 8, 9, 10, 11, 12, 13, 14, 15, 16, 20, 21, 22, 23, 24, 25, 26, 27, 28, 29, 30] : List Nat)) a h)) F σ110   x111 hcx111) m20 (cel_20 E ad n σ110) rfl rfl mw_MD_thrown wm_LW_82 ⟨by decide, by decide⟩ ⟨by dsimp only [room_1]; omega, by dsimp only [room_1]; omega⟩ hl.1 rfl (Nat.le_of_ble_eq_true rfl) d_LW_law_570 (fun H locs wo => ?_)
        refine lv_iload hx hb d_LW_law_573 (lv_at hl 1 rfl) ?_
        refine lv_icmp_eq (tgt := 580) hx hb d_LW_law_575 (by decide) (fun c112 => ?_) (fun c112 => ?_)
        · have hD := ite_p hD c112
          refine lv_iload hx hb d_LW_law_580 (lv_at hl 1 rfl) ?_
          refine lv_if_ne (tgt := 604) hx hb d_LW_law_582 (by decide) (fun c113 => ?_) (fun c113 => ?_)
          · have hD := ite_n hD c113
            refine lv_goto (tgt := 1008) hx hb d_LW_law_604 (by decide) ?_
            obtain ⟨x114, ex114⟩ : ∃ y : Int32, y = xi + (7 : Int32) := ⟨_, rfl⟩
            have hD := nm_at hD ex114
            try dsimp only at hD
            refine lv_iinc (v := x114) (lv' := [(4, .int x114), (6, .int x109), (5, .int x106), (0, .ref b), (1, .ref (ad 0)), (2, .ref (ad 20)), (3, .ref (ad 30))]) hx hb d_LW_law_1008 hl (k := 6) rfl (by rw [ex114]; rfl) (by decide) rfl (fun ls hl => ?_)
            refine lv_goto (tgt := 53) hx hb d_LW_law_1011 (by decide) ?_
            refine W.widen (k := cells + 1) (n := slots + 6) (by (try dsimp only); omega) (by (try dsimp only); omega) ?_
            exact ih σ110 x114 _ _ _ _ _ hD (by omega) (by omega) wo (lv_sub hl [3, 4, 5, 6, 0] rfl)
          · have hD := ite_p hD c113
            refine lv_aload_n hx hb d_LW_law_585 rfl (lv_at hl 5 rfl) ?_
            refine lv_iconst (v := 0) hx hb d_LW_law_586 (by decide) ?_
            obtain ⟨g115, hD⟩ := grd_s hD
            refine g_lald cx wo m30 (cel_30 E ad n σ110) g115 d_LW_law_587 ?_
            refine lv_iload hx hb d_LW_law_588 (lv_at hl 0 rfl) ?_
            refine lv_if_eq (tgt := 597) hx hb d_LW_law_590 (by decide) (fun c116 => ?_) (fun c116 => ?_)
            · have hD := ite_p hD c116
              refine lv_lconst (v := 0) hx hb d_LW_law_597 (by decide) ?_
              refine W.lcmp hx hb d_LW_law_598 ?_
              refine lv_if_eq (tgt := 604) hx hb d_LW_law_599 (by decide) (fun c117 => ?_) (fun c117 => ?_)
              · have hD := ite_p hD c117
                refine lv_goto (tgt := 1008) hx hb d_LW_law_604 (by decide) ?_
                obtain ⟨x118, ex118⟩ : ∃ y : Int32, y = xi + (7 : Int32) := ⟨_, rfl⟩
                have hD := nm_at hD ex118
                try dsimp only at hD
                refine lv_iinc (v := x118) (lv' := [(4, .int x118), (6, .int x109), (5, .int x106), (0, .ref b), (1, .ref (ad 0)), (2, .ref (ad 20)), (3, .ref (ad 30))]) hx hb d_LW_law_1008 hl (k := 6) rfl (by rw [ex118]; rfl) (by decide) rfl (fun ls hl => ?_)
                refine lv_goto (tgt := 53) hx hb d_LW_law_1011 (by decide) ?_
                refine W.widen (k := cells + 1) (n := slots + 6) (by (try dsimp only); omega) (by (try dsimp only); omega) ?_
                exact ih σ110 x118 _ _ _ _ _ hD (by omega) (by omega) wo (lv_sub hl [3, 4, 5, 6, 0] rfl)
              · have hD := ite_n hD c117
                refine lv_iconst (v := 0) hx hb d_LW_law_602 (by decide) ?_
                cases hD
            · have hD := ite_n hD c116
              refine lv_lconst (v := 1) hx hb d_LW_law_593 (by decide) ?_
              refine lv_goto (tgt := 598) hx hb d_LW_law_594 (by decide) ?_
              refine W.lcmp hx hb d_LW_law_598 ?_
              refine lv_if_eq (tgt := 604) hx hb d_LW_law_599 (by decide) (fun c119 => ?_) (fun c119 => ?_)
              · have hD := ite_p hD c119
                refine lv_goto (tgt := 1008) hx hb d_LW_law_604 (by decide) ?_
                obtain ⟨x120, ex120⟩ : ∃ y : Int32, y = xi + (7 : Int32) := ⟨_, rfl⟩
                have hD := nm_at hD ex120
                try dsimp only at hD
                refine lv_iinc (v := x120) (lv' := [(4, .int x120), (6, .int x109), (5, .int x106), (0, .ref b), (1, .ref (ad 0)), (2, .ref (ad 20)), (3, .ref (ad 30))]) hx hb d_LW_law_1008 hl (k := 6) rfl (by rw [ex120]; rfl) (by decide) rfl (fun ls hl => ?_)
                refine lv_goto (tgt := 53) hx hb d_LW_law_1011 (by decide) ?_
                refine W.widen (k := cells + 1) (n := slots + 6) (by (try dsimp only); omega) (by (try dsimp only); omega) ?_
                exact ih σ110 x120 _ _ _ _ _ hD (by omega) (by omega) wo (lv_sub hl [3, 4, 5, 6, 0] rfl)
              · have hD := ite_n hD c119
                refine lv_iconst (v := 0) hx hb d_LW_law_602 (by decide) ?_
                cases hD
        · have hD := ite_n hD c112
          refine lv_iconst (v := 0) hx hb d_LW_law_578 (by decide) ?_
          cases hD
      have hD := ite_n hD c104
      by_cases c121 : ((xs (xi).toNatClampNeg) &&& (15 : Int32)) = (8 : Int32)
      · have hD := ite_p hD c121
        refine lv_tableIn (tgt := 607) hx hb d_LW_law_70 (by rw [c121]; decide) (by rw [c121]; decide) (off := 537) (by rw [c121]; decide) (by decide) ?_
        refine lv_aload_n hx hb d_LW_law_607 rfl (lv_at hl 1 rfl) ?_
        refine lv_aload_n hx hb d_LW_law_608 rfl (lv_at hl 0 rfl) ?_
        refine lv_iload hx hb d_LW_law_609 (lv_at hl 4 rfl) ?_
        refine lv_iconst (v := 1) hx hb d_LW_law_611 (by decide) ?_
        refine lv_iadd hx hb d_LW_law_612 ?_
        obtain ⟨g122, hD⟩ := grd_s hD
        refine va_sld hx hb hX hbl hbA wo.2.2.1 (inb_in g122) d_LW_law_613 ?_
        refine lv_aload_n hx hb d_LW_law_614 rfl (lv_at hl 0 rfl) ?_
        refine lv_iload hx hb d_LW_law_615 (lv_at hl 4 rfl) ?_
        refine lv_iconst (v := 2) hx hb d_LW_law_617 (by decide) ?_
        refine lv_iadd hx hb d_LW_law_618 ?_
        obtain ⟨g123, hD⟩ := grd_s hD
        refine va_sld hx hb hX hbl hbA wo.2.2.1 (inb_in g123) d_LW_law_619 ?_
        refine lv_aload_n hx hb d_LW_law_620 rfl (lv_at hl 0 rfl) ?_
        refine lv_iload hx hb d_LW_law_621 (lv_at hl 4 rfl) ?_
        refine lv_iconst (v := 3) hx hb d_LW_law_623 (by decide) ?_
        refine lv_iadd hx hb d_LW_law_624 ?_
        obtain ⟨g124, hD⟩ := grd_s hD
        refine va_sld hx hb hX hbl hbA wo.2.2.1 (inb_in g124) d_LW_law_625 ?_
        refine lv_aload_n hx hb d_LW_law_626 rfl (lv_at hl 0 rfl) ?_
        refine lv_iload hx hb d_LW_law_627 (lv_at hl 4 rfl) ?_
        refine lv_iconst (v := 4) hx hb d_LW_law_629 (by decide) ?_
        refine lv_iadd hx hb d_LW_law_630 ?_
        obtain ⟨g125, hD⟩ := grd_s hD
        refine va_sld hx hb hX hbl hbA wo.2.2.1 (inb_in g125) d_LW_law_631 ?_
        refine lv_aload_n hx hb d_LW_law_632 rfl (lv_at hl 0 rfl) ?_
        refine lv_iload hx hb d_LW_law_633 (lv_at hl 4 rfl) ?_
        refine lv_iconst (v := 5) hx hb d_LW_law_635 (by decide) ?_
        refine lv_iadd hx hb d_LW_law_636 ?_
        obtain ⟨g126, hD⟩ := grd_s hD
        refine va_sld hx hb hX hbl hbA wo.2.2.1 (inb_in g126) d_LW_law_637 ?_
        refine lv_i2l hx hb d_LW_law_638 rfl ?_
        refine lv_bipush (v := 32) hx hb d_LW_law_639 (by decide) ?_
        refine lv_lshl hx hb d_LW_law_641 rfl ?_
        refine lv_aload_n hx hb d_LW_law_642 rfl (lv_at hl 0 rfl) ?_
        refine lv_iload hx hb d_LW_law_643 (lv_at hl 4 rfl) ?_
        refine lv_bipush (v := 6) hx hb d_LW_law_645 (by decide) ?_
        refine lv_iadd hx hb d_LW_law_647 ?_
        obtain ⟨g127, hD⟩ := grd_s hD
        refine va_sld hx hb hX hbl hbA wo.2.2.1 (inb_in g127) d_LW_law_648 ?_
        refine lv_i2l hx hb d_LW_law_649 rfl ?_
        refine lv_ldc2 hx hb hown (hts _ wj_LW_76) d_LW_law_650 ?_
        refine lv_land hx hb d_LW_law_653 ?_
        refine lv_lor hx hb d_LW_law_654 ?_
        refine lv_aload_n hx hb d_LW_law_655 rfl (lv_at hl 3 rfl) ?_
        obtain ⟨⟨σ129, x128⟩, hcx128, hD⟩ := bd_s hD
        try dsimp only [nm2] at hD
        refine call_Wi cx kt sx wo (k_LW_spoil_0_30 l hfl E ad n L (fun a h => hL a ((by decide : ∀ a ∈ ([0, 1, 2, 3, 4, 10, 11, 12, 14, 15, 16, 30] : List Nat), a ∈ ([0, 1, 2, 3, 4, 5, 6, 7, 8, 9, 10, 11, 12, 13, 14, 15, 16, 20, 21, 22, 23, 24, 25, 26, 27, 28, 29, 30] : List Nat)) a h)) F σv σ129 (xs ((xi + (1 : Int32))).toNatClampNeg) (xs ((xi + (2 : Int32))).toNatClampNeg) (xs ((xi + (3 : Int32))).toNatClampNeg) (xs ((xi + (4 : Int32))).toNatClampNeg) ((((xs ((xi + (5 : Int32))).toNatClampNeg)).toInt64 <<< (((32 : Int32)).toInt64 &&& 63)) ||| (((xs ((xi + (6 : Int32))).toNatClampNeg)).toInt64 &&& (4294967295 : Int64))) x128 hcx128) mv_LW_spoil wm_LW_111 ⟨by decide, by decide⟩ ⟨by dsimp only [room_1]; omega, by dsimp only [room_1]; omega⟩ hl.1 rfl (Nat.le_of_ble_eq_true rfl) d_LW_law_656 (fun H locs wo => ?_)
        refine lv_istore (lv' := [(5, .int x128), (0, .ref b), (1, .ref (ad 0)), (2, .ref (ad 20)), (3, .ref (ad 30)), (4, .int xi)]) hx hb d_LW_law_659 hl (by decide) rfl (fun ls hl => ?_)
        refine lv_aload_n hx hb d_LW_law_661 rfl (lv_at hl 3 rfl) ?_
        refine lv_aload_n hx hb d_LW_law_662 rfl (lv_at hl 1 rfl) ?_
        refine lv_iload hx hb d_LW_law_663 (lv_at hl 5 rfl) ?_
        refine lv_iconst (v := 1) hx hb d_LW_law_665 (by decide) ?_
        refine lv_iadd hx hb d_LW_law_666 ?_
        obtain ⟨g130, hD⟩ := grd_s hD
        refine va_sld hx hb hX hbl hbA wo.2.2.1 (inb_in g130) d_LW_law_667 ?_
        refine lv_aload_n hx hb d_LW_law_668 rfl (lv_at hl 1 rfl) ?_
        refine lv_iload hx hb d_LW_law_669 (lv_at hl 5 rfl) ?_
        refine lv_iconst (v := 2) hx hb d_LW_law_671 (by decide) ?_
        refine lv_iadd hx hb d_LW_law_672 ?_
        obtain ⟨g131, hD⟩ := grd_s hD
        refine va_sld hx hb hX hbl hbA wo.2.2.1 (inb_in g131) d_LW_law_673 ?_
        refine lv_aload_n hx hb d_LW_law_674 rfl (lv_at hl 1 rfl) ?_
        refine lv_iload hx hb d_LW_law_675 (lv_at hl 5 rfl) ?_
        refine lv_iconst (v := 3) hx hb d_LW_law_677 (by decide) ?_
        refine lv_iadd hx hb d_LW_law_678 ?_
        obtain ⟨g132, hD⟩ := grd_s hD
        refine va_sld hx hb hX hbl hbA wo.2.2.1 (inb_in g132) d_LW_law_679 ?_
        refine lv_aload_n hx hb d_LW_law_680 rfl (lv_at hl 1 rfl) ?_
        refine lv_iload hx hb d_LW_law_681 (lv_at hl 5 rfl) ?_
        refine lv_iconst (v := 4) hx hb d_LW_law_683 (by decide) ?_
        refine lv_iadd hx hb d_LW_law_684 ?_
        obtain ⟨g133, hD⟩ := grd_s hD
        refine va_sld hx hb hX hbl hbA wo.2.2.1 (inb_in g133) d_LW_law_685 ?_
        refine lv_aload_n hx hb d_LW_law_686 rfl (lv_at hl 1 rfl) ?_
        refine lv_iload hx hb d_LW_law_687 (lv_at hl 5 rfl) ?_
        refine lv_iconst (v := 5) hx hb d_LW_law_689 (by decide) ?_
        refine lv_iadd hx hb d_LW_law_690 ?_
        obtain ⟨g134, hD⟩ := grd_s hD
        refine va_sld hx hb hX hbl hbA wo.2.2.1 (inb_in g134) d_LW_law_691 ?_
        refine lv_i2l hx hb d_LW_law_692 rfl ?_
        refine lv_bipush (v := 32) hx hb d_LW_law_693 (by decide) ?_
        refine lv_lshl hx hb d_LW_law_695 rfl ?_
        refine lv_aload_n hx hb d_LW_law_696 rfl (lv_at hl 1 rfl) ?_
        refine lv_iload hx hb d_LW_law_697 (lv_at hl 5 rfl) ?_
        refine lv_bipush (v := 6) hx hb d_LW_law_699 (by decide) ?_
        refine lv_iadd hx hb d_LW_law_701 ?_
        obtain ⟨g135, hD⟩ := grd_s hD
        refine va_sld hx hb hX hbl hbA wo.2.2.1 (inb_in g135) d_LW_law_702 ?_
        refine lv_i2l hx hb d_LW_law_703 rfl ?_
        refine lv_ldc2 hx hb hown (hts _ wj_LW_76) d_LW_law_704 ?_
        refine lv_land hx hb d_LW_law_707 ?_
        refine lv_lor hx hb d_LW_law_708 ?_
        obtain ⟨⟨σ137, x136⟩, hcx136, hD⟩ := bd_s hD
        try dsimp only [nm2] at hD
        refine call_Vi cx wo (k_MD_spoil l E ad n L (fun a h => hL a ((by decide : ∀ a ∈ ([20, 21, 22, 23, 24, 25, 26] : List Nat), a ∈ ([0, 1, 2, 3, 4, 5, 6, 7, 8, 9, 10, 11, 12, 13, 14, 15, 16, 20, 21, 22, 23, 24, 25, 26, 27, 28, 29, 30] : List Nat)) a h)) F σ129 σ137 (xs ((xi + (1 : Int32))).toNatClampNeg) (xs ((xi + (2 : Int32))).toNatClampNeg) (xs ((xi + (3 : Int32))).toNatClampNeg) (xs ((xi + (4 : Int32))).toNatClampNeg) ((((xs ((xi + (5 : Int32))).toNatClampNeg)).toInt64 <<< (((32 : Int32)).toInt64 &&& 63)) ||| (((xs ((xi + (6 : Int32))).toNatClampNeg)).toInt64 &&& (4294967295 : Int64))) x136 hcx136) m20 (cel_20 E ad n σ129) rfl rfl mw_MD_spoil wm_LW_114 ⟨by decide, by decide⟩ ⟨by dsimp only [room_1]; omega, by dsimp only [room_1]; omega⟩ hl.1 rfl (Nat.le_of_ble_eq_true rfl) d_LW_law_709 (fun H locs wo => ?_)
        refine lv_istore (lv' := [(6, .int x136), (5, .int x128), (0, .ref b), (1, .ref (ad 0)), (2, .ref (ad 20)), (3, .ref (ad 30)), (4, .int xi)]) hx hb d_LW_law_712 hl (by decide) rfl (fun ls hl => ?_)
        refine lv_aload_n hx hb d_LW_law_714 rfl (lv_at hl 4 rfl) ?_
        obtain ⟨x138, hcx138, hD⟩ := bd_s hD
        try dsimp only [nm2] at hD
        refine call_Vi cx wo (k_MD_thrown l E ad n L (fun a h => hL a ((by decide : ∀ a ∈ ([20] : List Nat), a ∈ ([0, 1, 2, 3, 4, 5, 6, 7, 8, 9, 10, 11, 12, 13, 14, 15, 16, 20, 21, 22, 23, 24, 25, 26, 27, 28, 29, 30] : List Nat)) a h)) F σ137   x138 hcx138) m20 (cel_20 E ad n σ137) rfl rfl mw_MD_thrown wm_LW_82 ⟨by decide, by decide⟩ ⟨by dsimp only [room_1]; omega, by dsimp only [room_1]; omega⟩ hl.1 rfl (Nat.le_of_ble_eq_true rfl) d_LW_law_715 (fun H locs wo => ?_)
        refine lv_iload hx hb d_LW_law_718 (lv_at hl 1 rfl) ?_
        refine lv_icmp_eq (tgt := 725) hx hb d_LW_law_720 (by decide) (fun c139 => ?_) (fun c139 => ?_)
        · have hD := ite_p hD c139
          refine lv_iload hx hb d_LW_law_725 (lv_at hl 1 rfl) ?_
          refine lv_if_ne (tgt := 749) hx hb d_LW_law_727 (by decide) (fun c140 => ?_) (fun c140 => ?_)
          · have hD := ite_n hD c140
            refine lv_goto (tgt := 1008) hx hb d_LW_law_749 (by decide) ?_
            obtain ⟨x141, ex141⟩ : ∃ y : Int32, y = xi + (7 : Int32) := ⟨_, rfl⟩
            have hD := nm_at hD ex141
            try dsimp only at hD
            refine lv_iinc (v := x141) (lv' := [(4, .int x141), (6, .int x136), (5, .int x128), (0, .ref b), (1, .ref (ad 0)), (2, .ref (ad 20)), (3, .ref (ad 30))]) hx hb d_LW_law_1008 hl (k := 6) rfl (by rw [ex141]; rfl) (by decide) rfl (fun ls hl => ?_)
            refine lv_goto (tgt := 53) hx hb d_LW_law_1011 (by decide) ?_
            refine W.widen (k := cells + 1) (n := slots + 6) (by (try dsimp only); omega) (by (try dsimp only); omega) ?_
            exact ih σ137 x141 _ _ _ _ _ hD (by omega) (by omega) wo (lv_sub hl [3, 4, 5, 6, 0] rfl)
          · have hD := ite_p hD c140
            refine lv_aload_n hx hb d_LW_law_730 rfl (lv_at hl 5 rfl) ?_
            refine lv_iconst (v := 0) hx hb d_LW_law_731 (by decide) ?_
            obtain ⟨g142, hD⟩ := grd_s hD
            refine g_lald cx wo m30 (cel_30 E ad n σ137) g142 d_LW_law_732 ?_
            refine lv_iload hx hb d_LW_law_733 (lv_at hl 0 rfl) ?_
            refine lv_if_eq (tgt := 742) hx hb d_LW_law_735 (by decide) (fun c143 => ?_) (fun c143 => ?_)
            · have hD := ite_p hD c143
              refine lv_lconst (v := 0) hx hb d_LW_law_742 (by decide) ?_
              refine W.lcmp hx hb d_LW_law_743 ?_
              refine lv_if_eq (tgt := 749) hx hb d_LW_law_744 (by decide) (fun c144 => ?_) (fun c144 => ?_)
              · have hD := ite_p hD c144
                refine lv_goto (tgt := 1008) hx hb d_LW_law_749 (by decide) ?_
                obtain ⟨x145, ex145⟩ : ∃ y : Int32, y = xi + (7 : Int32) := ⟨_, rfl⟩
                have hD := nm_at hD ex145
                try dsimp only at hD
                refine lv_iinc (v := x145) (lv' := [(4, .int x145), (6, .int x136), (5, .int x128), (0, .ref b), (1, .ref (ad 0)), (2, .ref (ad 20)), (3, .ref (ad 30))]) hx hb d_LW_law_1008 hl (k := 6) rfl (by rw [ex145]; rfl) (by decide) rfl (fun ls hl => ?_)
                refine lv_goto (tgt := 53) hx hb d_LW_law_1011 (by decide) ?_
                refine W.widen (k := cells + 1) (n := slots + 6) (by (try dsimp only); omega) (by (try dsimp only); omega) ?_
                exact ih σ137 x145 _ _ _ _ _ hD (by omega) (by omega) wo (lv_sub hl [3, 4, 5, 6, 0] rfl)
              · have hD := ite_n hD c144
                refine lv_iconst (v := 0) hx hb d_LW_law_747 (by decide) ?_
                cases hD
            · have hD := ite_n hD c143
              refine lv_lconst (v := 1) hx hb d_LW_law_738 (by decide) ?_
              refine lv_goto (tgt := 743) hx hb d_LW_law_739 (by decide) ?_
              refine W.lcmp hx hb d_LW_law_743 ?_
              refine lv_if_eq (tgt := 749) hx hb d_LW_law_744 (by decide) (fun c146 => ?_) (fun c146 => ?_)
              · have hD := ite_p hD c146
                refine lv_goto (tgt := 1008) hx hb d_LW_law_749 (by decide) ?_
                obtain ⟨x147, ex147⟩ : ∃ y : Int32, y = xi + (7 : Int32) := ⟨_, rfl⟩
                have hD := nm_at hD ex147
                try dsimp only at hD
                refine lv_iinc (v := x147) (lv' := [(4, .int x147), (6, .int x136), (5, .int x128), (0, .ref b), (1, .ref (ad 0)), (2, .ref (ad 20)), (3, .ref (ad 30))]) hx hb d_LW_law_1008 hl (k := 6) rfl (by rw [ex147]; rfl) (by decide) rfl (fun ls hl => ?_)
                refine lv_goto (tgt := 53) hx hb d_LW_law_1011 (by decide) ?_
                refine W.widen (k := cells + 1) (n := slots + 6) (by (try dsimp only); omega) (by (try dsimp only); omega) ?_
                exact ih σ137 x147 _ _ _ _ _ hD (by omega) (by omega) wo (lv_sub hl [3, 4, 5, 6, 0] rfl)
              · have hD := ite_n hD c146
                refine lv_iconst (v := 0) hx hb d_LW_law_747 (by decide) ?_
                cases hD
        · have hD := ite_n hD c139
          refine lv_iconst (v := 0) hx hb d_LW_law_723 (by decide) ?_
          cases hD
      have hD := ite_n hD c121
      by_cases c148 : ((xs (xi).toNatClampNeg) &&& (15 : Int32)) = (9 : Int32)
      · have hD := ite_p hD c148
        refine lv_tableIn (tgt := 752) hx hb d_LW_law_70 (by rw [c148]; decide) (by rw [c148]; decide) (off := 682) (by rw [c148]; decide) (by decide) ?_
        refine lv_aload_n hx hb d_LW_law_752 rfl (lv_at hl 1 rfl) ?_
        refine lv_aload_n hx hb d_LW_law_753 rfl (lv_at hl 3 rfl) ?_
        obtain ⟨⟨σ150, x149⟩, hcx149, hD⟩ := bd_s hD
        try dsimp only [nm2] at hD
        refine call_Wi cx kt sx wo (k_LW_rebuild_0_30 l hfl E ad n L (fun a h => hL a ((by decide : ∀ a ∈ ([0, 1, 2, 3, 4, 7, 9, 10, 11, 12, 13, 14, 15, 16, 30] : List Nat), a ∈ ([0, 1, 2, 3, 4, 5, 6, 7, 8, 9, 10, 11, 12, 13, 14, 15, 16, 20, 21, 22, 23, 24, 25, 26, 27, 28, 29, 30] : List Nat)) a h)) F σv σ150  x149 hcx149) mv_LW_rebuild wm_LW_115 ⟨by decide, by decide⟩ ⟨by dsimp only [room_1]; omega, by dsimp only [room_1]; omega⟩ hl.1 rfl (Nat.le_of_ble_eq_true rfl) d_LW_law_754 (fun H locs wo => ?_)
        refine lv_istore (lv' := [(5, .int x149), (0, .ref b), (1, .ref (ad 0)), (2, .ref (ad 20)), (3, .ref (ad 30)), (4, .int xi)]) hx hb d_LW_law_757 hl (by decide) rfl (fun ls hl => ?_)
        refine lv_aload_n hx hb d_LW_law_759 rfl (lv_at hl 3 rfl) ?_
        obtain ⟨⟨σ152, x151⟩, hcx151, hD⟩ := bd_s hD
        try dsimp only [nm2] at hD
        refine call_Vi cx wo (k_MD_rebuild l E ad n L (fun a h => hL a ((by decide : ∀ a ∈ ([20, 21, 22, 23, 24, 25, 26] : List Nat), a ∈ ([0, 1, 2, 3, 4, 5, 6, 7, 8, 9, 10, 11, 12, 13, 14, 15, 16, 20, 21, 22, 23, 24, 25, 26, 27, 28, 29, 30] : List Nat)) a h)) F σ150 σ152  x151 hcx151) m20 (cel_20 E ad n σ150) rfl rfl mw_MD_rebuild wm_LW_117 ⟨by decide, by decide⟩ ⟨by dsimp only [room_1]; omega, by dsimp only [room_1]; omega⟩ hl.1 rfl (Nat.le_of_ble_eq_true rfl) d_LW_law_760 (fun H locs wo => ?_)
        refine lv_istore (lv' := [(6, .int x151), (5, .int x149), (0, .ref b), (1, .ref (ad 0)), (2, .ref (ad 20)), (3, .ref (ad 30)), (4, .int xi)]) hx hb d_LW_law_763 hl (by decide) rfl (fun ls hl => ?_)
        refine lv_aload_n hx hb d_LW_law_765 rfl (lv_at hl 4 rfl) ?_
        obtain ⟨x153, hcx153, hD⟩ := bd_s hD
        try dsimp only [nm2] at hD
        refine call_Vi cx wo (k_MD_thrown l E ad n L (fun a h => hL a ((by decide : ∀ a ∈ ([20] : List Nat), a ∈ ([0, 1, 2, 3, 4, 5, 6, 7, 8, 9, 10, 11, 12, 13, 14, 15, 16, 20, 21, 22, 23, 24, 25, 26, 27, 28, 29, 30] : List Nat)) a h)) F σ152   x153 hcx153) m20 (cel_20 E ad n σ152) rfl rfl mw_MD_thrown wm_LW_82 ⟨by decide, by decide⟩ ⟨by dsimp only [room_1]; omega, by dsimp only [room_1]; omega⟩ hl.1 rfl (Nat.le_of_ble_eq_true rfl) d_LW_law_766 (fun H locs wo => ?_)
        refine lv_iload hx hb d_LW_law_769 (lv_at hl 1 rfl) ?_
        refine lv_icmp_eq (tgt := 776) hx hb d_LW_law_771 (by decide) (fun c154 => ?_) (fun c154 => ?_)
        · have hD := ite_p hD c154
          refine lv_iload hx hb d_LW_law_776 (lv_at hl 1 rfl) ?_
          refine lv_if_ne (tgt := 793) hx hb d_LW_law_778 (by decide) (fun c155 => ?_) (fun c155 => ?_)
          · have hD := ite_n hD c155
            refine lv_goto (tgt := 1008) hx hb d_LW_law_793 (by decide) ?_
            obtain ⟨x156, ex156⟩ : ∃ y : Int32, y = xi + (7 : Int32) := ⟨_, rfl⟩
            have hD := nm_at hD ex156
            try dsimp only at hD
            refine lv_iinc (v := x156) (lv' := [(4, .int x156), (6, .int x151), (5, .int x149), (0, .ref b), (1, .ref (ad 0)), (2, .ref (ad 20)), (3, .ref (ad 30))]) hx hb d_LW_law_1008 hl (k := 6) rfl (by rw [ex156]; rfl) (by decide) rfl (fun ls hl => ?_)
            refine lv_goto (tgt := 53) hx hb d_LW_law_1011 (by decide) ?_
            refine W.widen (k := cells + 1) (n := slots + 6) (by (try dsimp only); omega) (by (try dsimp only); omega) ?_
            exact ih σ152 x156 _ _ _ _ _ hD (by omega) (by omega) wo (lv_sub hl [3, 4, 5, 6, 0] rfl)
          · have hD := ite_p hD c155
            refine lv_aload_n hx hb d_LW_law_781 rfl (lv_at hl 5 rfl) ?_
            refine lv_iconst (v := 0) hx hb d_LW_law_782 (by decide) ?_
            obtain ⟨g157, hD⟩ := grd_s hD
            refine g_lald cx wo m30 (cel_30 E ad n σ152) g157 d_LW_law_783 ?_
            refine lv_iload hx hb d_LW_law_784 (lv_at hl 0 rfl) ?_
            refine lv_i2l hx hb d_LW_law_786 rfl ?_
            refine W.lcmp hx hb d_LW_law_787 ?_
            refine lv_if_eq (tgt := 793) hx hb d_LW_law_788 (by decide) (fun c158 => ?_) (fun c158 => ?_)
            · have hD := ite_p hD c158
              refine lv_goto (tgt := 1008) hx hb d_LW_law_793 (by decide) ?_
              obtain ⟨x159, ex159⟩ : ∃ y : Int32, y = xi + (7 : Int32) := ⟨_, rfl⟩
              have hD := nm_at hD ex159
              try dsimp only at hD
              refine lv_iinc (v := x159) (lv' := [(4, .int x159), (6, .int x151), (5, .int x149), (0, .ref b), (1, .ref (ad 0)), (2, .ref (ad 20)), (3, .ref (ad 30))]) hx hb d_LW_law_1008 hl (k := 6) rfl (by rw [ex159]; rfl) (by decide) rfl (fun ls hl => ?_)
              refine lv_goto (tgt := 53) hx hb d_LW_law_1011 (by decide) ?_
              refine W.widen (k := cells + 1) (n := slots + 6) (by (try dsimp only); omega) (by (try dsimp only); omega) ?_
              exact ih σ152 x159 _ _ _ _ _ hD (by omega) (by omega) wo (lv_sub hl [3, 4, 5, 6, 0] rfl)
            · have hD := ite_n hD c158
              refine lv_iconst (v := 0) hx hb d_LW_law_791 (by decide) ?_
              cases hD
        · have hD := ite_n hD c154
          refine lv_iconst (v := 0) hx hb d_LW_law_774 (by decide) ?_
          cases hD
      have hD := ite_n hD c148
      by_cases c160 : ((xs (xi).toNatClampNeg) &&& (15 : Int32)) = (10 : Int32)
      · have hD := ite_p hD c160
        refine lv_tableIn (tgt := 796) hx hb d_LW_law_70 (by rw [c160]; decide) (by rw [c160]; decide) (off := 726) (by rw [c160]; decide) (by decide) ?_
        refine lv_aload_n hx hb d_LW_law_796 rfl (lv_at hl 1 rfl) ?_
        refine lv_aload_n hx hb d_LW_law_797 rfl (lv_at hl 3 rfl) ?_
        obtain ⟨⟨σ162, x161⟩, hcx161, hD⟩ := bd_s hD
        try dsimp only [nm2] at hD
        refine call_Wi cx kt sx wo (k_LW_copyBack_0_30 l hfl E ad n L (fun a h => hL a ((by decide : ∀ a ∈ ([0, 1, 2, 3, 4, 7, 8, 9, 10, 11, 12, 13, 14, 15, 16, 30] : List Nat), a ∈ ([0, 1, 2, 3, 4, 5, 6, 7, 8, 9, 10, 11, 12, 13, 14, 15, 16, 20, 21, 22, 23, 24, 25, 26, 27, 28, 29, 30] : List Nat)) a h)) F σv σ162  x161 hcx161) mv_LW_copyBack wm_LW_118 ⟨by decide, by decide⟩ ⟨by dsimp only [room_1]; omega, by dsimp only [room_1]; omega⟩ hl.1 rfl (Nat.le_of_ble_eq_true rfl) d_LW_law_798 (fun H locs wo => ?_)
        refine lv_istore (lv' := [(5, .int x161), (0, .ref b), (1, .ref (ad 0)), (2, .ref (ad 20)), (3, .ref (ad 30)), (4, .int xi)]) hx hb d_LW_law_801 hl (by decide) rfl (fun ls hl => ?_)
        refine lv_aload_n hx hb d_LW_law_803 rfl (lv_at hl 3 rfl) ?_
        obtain ⟨⟨σ164, x163⟩, hcx163, hD⟩ := bd_s hD
        try dsimp only [nm2] at hD
        refine call_Vi cx wo (k_MD_copyBack l E ad n L (fun a h => hL a ((by decide : ∀ a ∈ ([20, 21, 22, 23, 24, 25, 26] : List Nat), a ∈ ([0, 1, 2, 3, 4, 5, 6, 7, 8, 9, 10, 11, 12, 13, 14, 15, 16, 20, 21, 22, 23, 24, 25, 26, 27, 28, 29, 30] : List Nat)) a h)) F σ162 σ164  x163 hcx163) m20 (cel_20 E ad n σ162) rfl rfl mw_MD_copyBack wm_LW_120 ⟨by decide, by decide⟩ ⟨by dsimp only [room_1]; omega, by dsimp only [room_1]; omega⟩ hl.1 rfl (Nat.le_of_ble_eq_true rfl) d_LW_law_804 (fun H locs wo => ?_)
        refine lv_istore (lv' := [(6, .int x163), (5, .int x161), (0, .ref b), (1, .ref (ad 0)), (2, .ref (ad 20)), (3, .ref (ad 30)), (4, .int xi)]) hx hb d_LW_law_807 hl (by decide) rfl (fun ls hl => ?_)
        refine lv_aload_n hx hb d_LW_law_809 rfl (lv_at hl 4 rfl) ?_
        obtain ⟨x165, hcx165, hD⟩ := bd_s hD
        try dsimp only [nm2] at hD
        refine call_Vi cx wo (k_MD_thrown l E ad n L (fun a h => hL a ((by decide : ∀ a ∈ ([20] : List Nat), a ∈ ([0, 1, 2, 3, 4, 5, 6, 7, 8, 9, 10, 11, 12, 13, 14, 15, 16, 20, 21, 22, 23, 24, 25, 26, 27, 28, 29, 30] : List Nat)) a h)) F σ164   x165 hcx165) m20 (cel_20 E ad n σ164) rfl rfl mw_MD_thrown wm_LW_82 ⟨by decide, by decide⟩ ⟨by dsimp only [room_1]; omega, by dsimp only [room_1]; omega⟩ hl.1 rfl (Nat.le_of_ble_eq_true rfl) d_LW_law_810 (fun H locs wo => ?_)
        refine lv_iload hx hb d_LW_law_813 (lv_at hl 1 rfl) ?_
        refine lv_icmp_eq (tgt := 820) hx hb d_LW_law_815 (by decide) (fun c166 => ?_) (fun c166 => ?_)
        · have hD := ite_p hD c166
          refine lv_iload hx hb d_LW_law_820 (lv_at hl 1 rfl) ?_
          refine lv_if_ne (tgt := 837) hx hb d_LW_law_822 (by decide) (fun c167 => ?_) (fun c167 => ?_)
          · have hD := ite_n hD c167
            refine lv_goto (tgt := 1008) hx hb d_LW_law_837 (by decide) ?_
            obtain ⟨x168, ex168⟩ : ∃ y : Int32, y = xi + (7 : Int32) := ⟨_, rfl⟩
            have hD := nm_at hD ex168
            try dsimp only at hD
            refine lv_iinc (v := x168) (lv' := [(4, .int x168), (6, .int x163), (5, .int x161), (0, .ref b), (1, .ref (ad 0)), (2, .ref (ad 20)), (3, .ref (ad 30))]) hx hb d_LW_law_1008 hl (k := 6) rfl (by rw [ex168]; rfl) (by decide) rfl (fun ls hl => ?_)
            refine lv_goto (tgt := 53) hx hb d_LW_law_1011 (by decide) ?_
            refine W.widen (k := cells + 1) (n := slots + 6) (by (try dsimp only); omega) (by (try dsimp only); omega) ?_
            exact ih σ164 x168 _ _ _ _ _ hD (by omega) (by omega) wo (lv_sub hl [3, 4, 5, 6, 0] rfl)
          · have hD := ite_p hD c167
            refine lv_aload_n hx hb d_LW_law_825 rfl (lv_at hl 5 rfl) ?_
            refine lv_iconst (v := 0) hx hb d_LW_law_826 (by decide) ?_
            obtain ⟨g169, hD⟩ := grd_s hD
            refine g_lald cx wo m30 (cel_30 E ad n σ164) g169 d_LW_law_827 ?_
            refine lv_iload hx hb d_LW_law_828 (lv_at hl 0 rfl) ?_
            refine lv_i2l hx hb d_LW_law_830 rfl ?_
            refine W.lcmp hx hb d_LW_law_831 ?_
            refine lv_if_eq (tgt := 837) hx hb d_LW_law_832 (by decide) (fun c170 => ?_) (fun c170 => ?_)
            · have hD := ite_p hD c170
              refine lv_goto (tgt := 1008) hx hb d_LW_law_837 (by decide) ?_
              obtain ⟨x171, ex171⟩ : ∃ y : Int32, y = xi + (7 : Int32) := ⟨_, rfl⟩
              have hD := nm_at hD ex171
              try dsimp only at hD
              refine lv_iinc (v := x171) (lv' := [(4, .int x171), (6, .int x163), (5, .int x161), (0, .ref b), (1, .ref (ad 0)), (2, .ref (ad 20)), (3, .ref (ad 30))]) hx hb d_LW_law_1008 hl (k := 6) rfl (by rw [ex171]; rfl) (by decide) rfl (fun ls hl => ?_)
              refine lv_goto (tgt := 53) hx hb d_LW_law_1011 (by decide) ?_
              refine W.widen (k := cells + 1) (n := slots + 6) (by (try dsimp only); omega) (by (try dsimp only); omega) ?_
              exact ih σ164 x171 _ _ _ _ _ hD (by omega) (by omega) wo (lv_sub hl [3, 4, 5, 6, 0] rfl)
            · have hD := ite_n hD c170
              refine lv_iconst (v := 0) hx hb d_LW_law_835 (by decide) ?_
              cases hD
        · have hD := ite_n hD c166
          refine lv_iconst (v := 0) hx hb d_LW_law_818 (by decide) ?_
          cases hD
      have hD := ite_n hD c160
      by_cases c172 : ((xs (xi).toNatClampNeg) &&& (15 : Int32)) = (11 : Int32)
      · have hD := ite_p hD c172
        refine lv_tableIn (tgt := 840) hx hb d_LW_law_70 (by rw [c172]; decide) (by rw [c172]; decide) (off := 770) (by rw [c172]; decide) (by decide) ?_
        refine lv_aload_n hx hb d_LW_law_840 rfl (lv_at hl 1 rfl) ?_
        refine lv_aload_n hx hb d_LW_law_841 rfl (lv_at hl 3 rfl) ?_
        obtain ⟨⟨σ174, x173⟩, hcx173, hD⟩ := bd_s hD
        try dsimp only [nm2] at hD
        refine call_Wi cx kt sx wo (k_LW_scrub_0_30 l hfl E ad n L (fun a h => hL a ((by decide : ∀ a ∈ ([0, 1, 2, 3, 4, 7, 11, 12, 13, 14, 15, 30] : List Nat), a ∈ ([0, 1, 2, 3, 4, 5, 6, 7, 8, 9, 10, 11, 12, 13, 14, 15, 16, 20, 21, 22, 23, 24, 25, 26, 27, 28, 29, 30] : List Nat)) a h)) F σv σ174  x173 hcx173) mv_LW_scrub wm_LW_121 ⟨by decide, by decide⟩ ⟨by dsimp only [room_1]; omega, by dsimp only [room_1]; omega⟩ hl.1 rfl (Nat.le_of_ble_eq_true rfl) d_LW_law_842 (fun H locs wo => ?_)
        refine lv_istore (lv' := [(5, .int x173), (0, .ref b), (1, .ref (ad 0)), (2, .ref (ad 20)), (3, .ref (ad 30)), (4, .int xi)]) hx hb d_LW_law_845 hl (by decide) rfl (fun ls hl => ?_)
        refine lv_aload_n hx hb d_LW_law_847 rfl (lv_at hl 3 rfl) ?_
        obtain ⟨⟨σ176, x175⟩, hcx175, hD⟩ := bd_s hD
        try dsimp only [nm2] at hD
        refine call_Vi cx wo (k_MD_scrub l E ad n L (fun a h => hL a ((by decide : ∀ a ∈ ([20, 21, 22, 23, 24, 25, 26] : List Nat), a ∈ ([0, 1, 2, 3, 4, 5, 6, 7, 8, 9, 10, 11, 12, 13, 14, 15, 16, 20, 21, 22, 23, 24, 25, 26, 27, 28, 29, 30] : List Nat)) a h)) F σ174 σ176  x175 hcx175) m20 (cel_20 E ad n σ174) rfl rfl mw_MD_scrub wm_LW_123 ⟨by decide, by decide⟩ ⟨by dsimp only [room_1]; omega, by dsimp only [room_1]; omega⟩ hl.1 rfl (Nat.le_of_ble_eq_true rfl) d_LW_law_848 (fun H locs wo => ?_)
        refine lv_istore (lv' := [(6, .int x175), (5, .int x173), (0, .ref b), (1, .ref (ad 0)), (2, .ref (ad 20)), (3, .ref (ad 30)), (4, .int xi)]) hx hb d_LW_law_851 hl (by decide) rfl (fun ls hl => ?_)
        refine lv_aload_n hx hb d_LW_law_853 rfl (lv_at hl 4 rfl) ?_
        obtain ⟨x177, hcx177, hD⟩ := bd_s hD
        try dsimp only [nm2] at hD
        refine call_Vi cx wo (k_MD_thrown l E ad n L (fun a h => hL a ((by decide : ∀ a ∈ ([20] : List Nat), a ∈ ([0, 1, 2, 3, 4, 5, 6, 7, 8, 9, 10, 11, 12, 13, 14, 15, 16, 20, 21, 22, 23, 24, 25, 26, 27, 28, 29, 30] : List Nat)) a h)) F σ176   x177 hcx177) m20 (cel_20 E ad n σ176) rfl rfl mw_MD_thrown wm_LW_82 ⟨by decide, by decide⟩ ⟨by dsimp only [room_1]; omega, by dsimp only [room_1]; omega⟩ hl.1 rfl (Nat.le_of_ble_eq_true rfl) d_LW_law_854 (fun H locs wo => ?_)
        refine lv_iload hx hb d_LW_law_857 (lv_at hl 1 rfl) ?_
        refine lv_icmp_eq (tgt := 864) hx hb d_LW_law_859 (by decide) (fun c178 => ?_) (fun c178 => ?_)
        · have hD := ite_p hD c178
          refine lv_iload hx hb d_LW_law_864 (lv_at hl 1 rfl) ?_
          refine lv_if_ne (tgt := 881) hx hb d_LW_law_866 (by decide) (fun c179 => ?_) (fun c179 => ?_)
          · have hD := ite_n hD c179
            refine lv_goto (tgt := 1008) hx hb d_LW_law_881 (by decide) ?_
            obtain ⟨x180, ex180⟩ : ∃ y : Int32, y = xi + (7 : Int32) := ⟨_, rfl⟩
            have hD := nm_at hD ex180
            try dsimp only at hD
            refine lv_iinc (v := x180) (lv' := [(4, .int x180), (6, .int x175), (5, .int x173), (0, .ref b), (1, .ref (ad 0)), (2, .ref (ad 20)), (3, .ref (ad 30))]) hx hb d_LW_law_1008 hl (k := 6) rfl (by rw [ex180]; rfl) (by decide) rfl (fun ls hl => ?_)
            refine lv_goto (tgt := 53) hx hb d_LW_law_1011 (by decide) ?_
            refine W.widen (k := cells + 1) (n := slots + 6) (by (try dsimp only); omega) (by (try dsimp only); omega) ?_
            exact ih σ176 x180 _ _ _ _ _ hD (by omega) (by omega) wo (lv_sub hl [3, 4, 5, 6, 0] rfl)
          · have hD := ite_p hD c179
            refine lv_aload_n hx hb d_LW_law_869 rfl (lv_at hl 5 rfl) ?_
            refine lv_iconst (v := 0) hx hb d_LW_law_870 (by decide) ?_
            obtain ⟨g181, hD⟩ := grd_s hD
            refine g_lald cx wo m30 (cel_30 E ad n σ176) g181 d_LW_law_871 ?_
            refine lv_iload hx hb d_LW_law_872 (lv_at hl 0 rfl) ?_
            refine lv_i2l hx hb d_LW_law_874 rfl ?_
            refine W.lcmp hx hb d_LW_law_875 ?_
            refine lv_if_eq (tgt := 881) hx hb d_LW_law_876 (by decide) (fun c182 => ?_) (fun c182 => ?_)
            · have hD := ite_p hD c182
              refine lv_goto (tgt := 1008) hx hb d_LW_law_881 (by decide) ?_
              obtain ⟨x183, ex183⟩ : ∃ y : Int32, y = xi + (7 : Int32) := ⟨_, rfl⟩
              have hD := nm_at hD ex183
              try dsimp only at hD
              refine lv_iinc (v := x183) (lv' := [(4, .int x183), (6, .int x175), (5, .int x173), (0, .ref b), (1, .ref (ad 0)), (2, .ref (ad 20)), (3, .ref (ad 30))]) hx hb d_LW_law_1008 hl (k := 6) rfl (by rw [ex183]; rfl) (by decide) rfl (fun ls hl => ?_)
              refine lv_goto (tgt := 53) hx hb d_LW_law_1011 (by decide) ?_
              refine W.widen (k := cells + 1) (n := slots + 6) (by (try dsimp only); omega) (by (try dsimp only); omega) ?_
              exact ih σ176 x183 _ _ _ _ _ hD (by omega) (by omega) wo (lv_sub hl [3, 4, 5, 6, 0] rfl)
            · have hD := ite_n hD c182
              refine lv_iconst (v := 0) hx hb d_LW_law_879 (by decide) ?_
              cases hD
        · have hD := ite_n hD c178
          refine lv_iconst (v := 0) hx hb d_LW_law_862 (by decide) ?_
          cases hD
      have hD := ite_n hD c172
      by_cases c184 : ((xs (xi).toNatClampNeg) &&& (15 : Int32)) = (12 : Int32)
      · have hD := ite_p hD c184
        refine lv_tableIn (tgt := 884) hx hb d_LW_law_70 (by rw [c184]; decide) (by rw [c184]; decide) (off := 814) (by rw [c184]; decide) (by decide) ?_
        refine lv_aload_n hx hb d_LW_law_884 rfl (lv_at hl 1 rfl) ?_
        refine lv_aload_n hx hb d_LW_law_885 rfl (lv_at hl 0 rfl) ?_
        refine lv_iload hx hb d_LW_law_886 (lv_at hl 4 rfl) ?_
        refine lv_iconst (v := 1) hx hb d_LW_law_888 (by decide) ?_
        refine lv_iadd hx hb d_LW_law_889 ?_
        obtain ⟨g185, hD⟩ := grd_s hD
        refine va_sld hx hb hX hbl hbA wo.2.2.1 (inb_in g185) d_LW_law_890 ?_
        refine lv_aload_n hx hb d_LW_law_891 rfl (lv_at hl 3 rfl) ?_
        obtain ⟨⟨σ187, x186⟩, hcx186, hD⟩ := bd_s hD
        try dsimp only [nm2] at hD
        refine call_Wi cx kt sx wo (k_LW_look_0_30 l hfl E ad n L (fun a h => hL a ((by decide : ∀ a ∈ ([0, 1, 2, 3, 4, 9, 10, 11, 13, 14, 15, 16, 30] : List Nat), a ∈ ([0, 1, 2, 3, 4, 5, 6, 7, 8, 9, 10, 11, 12, 13, 14, 15, 16, 20, 21, 22, 23, 24, 25, 26, 27, 28, 29, 30] : List Nat)) a h)) F σv σ187 (xs ((xi + (1 : Int32))).toNatClampNeg) x186 hcx186) mv_LW_look wm_LW_124 ⟨by decide, by decide⟩ ⟨by dsimp only [room_1]; omega, by dsimp only [room_1]; omega⟩ hl.1 rfl (Nat.le_of_ble_eq_true rfl) d_LW_law_892 (fun H locs wo => ?_)
        refine lv_istore (lv' := [(5, .int x186), (0, .ref b), (1, .ref (ad 0)), (2, .ref (ad 20)), (3, .ref (ad 30)), (4, .int xi)]) hx hb d_LW_law_895 hl (by decide) rfl (fun ls hl => ?_)
        refine lv_aload_n hx hb d_LW_law_897 rfl (lv_at hl 3 rfl) ?_
        refine lv_aload_n hx hb d_LW_law_898 rfl (lv_at hl 1 rfl) ?_
        refine lv_iload hx hb d_LW_law_899 (lv_at hl 5 rfl) ?_
        refine lv_iconst (v := 1) hx hb d_LW_law_901 (by decide) ?_
        refine lv_iadd hx hb d_LW_law_902 ?_
        obtain ⟨g188, hD⟩ := grd_s hD
        refine va_sld hx hb hX hbl hbA wo.2.2.1 (inb_in g188) d_LW_law_903 ?_
        obtain ⟨⟨σ190, x189⟩, hcx189, hD⟩ := bd_s hD
        try dsimp only [nm2] at hD
        refine call_Vi cx wo (k_MD_look l E ad n L (fun a h => hL a ((by decide : ∀ a ∈ ([20, 21, 22, 23, 24, 25, 26] : List Nat), a ∈ ([0, 1, 2, 3, 4, 5, 6, 7, 8, 9, 10, 11, 12, 13, 14, 15, 16, 20, 21, 22, 23, 24, 25, 26, 27, 28, 29, 30] : List Nat)) a h)) F σ187 σ190 (xs ((xi + (1 : Int32))).toNatClampNeg) x189 hcx189) m20 (cel_20 E ad n σ187) rfl rfl mw_MD_look wm_LW_126 ⟨by decide, by decide⟩ ⟨by dsimp only [room_1]; omega, by dsimp only [room_1]; omega⟩ hl.1 rfl (Nat.le_of_ble_eq_true rfl) d_LW_law_904 (fun H locs wo => ?_)
        refine lv_istore (lv' := [(6, .int x189), (5, .int x186), (0, .ref b), (1, .ref (ad 0)), (2, .ref (ad 20)), (3, .ref (ad 30)), (4, .int xi)]) hx hb d_LW_law_907 hl (by decide) rfl (fun ls hl => ?_)
        refine lv_aload_n hx hb d_LW_law_909 rfl (lv_at hl 4 rfl) ?_
        obtain ⟨x191, hcx191, hD⟩ := bd_s hD
        try dsimp only [nm2] at hD
        refine call_Vi cx wo (k_MD_thrown l E ad n L (fun a h => hL a ((by decide : ∀ a ∈ ([20] : List Nat), a ∈ ([0, 1, 2, 3, 4, 5, 6, 7, 8, 9, 10, 11, 12, 13, 14, 15, 16, 20, 21, 22, 23, 24, 25, 26, 27, 28, 29, 30] : List Nat)) a h)) F σ190   x191 hcx191) m20 (cel_20 E ad n σ190) rfl rfl mw_MD_thrown wm_LW_82 ⟨by decide, by decide⟩ ⟨by dsimp only [room_1]; omega, by dsimp only [room_1]; omega⟩ hl.1 rfl (Nat.le_of_ble_eq_true rfl) d_LW_law_910 (fun H locs wo => ?_)
        refine lv_iload hx hb d_LW_law_913 (lv_at hl 1 rfl) ?_
        refine lv_icmp_eq (tgt := 920) hx hb d_LW_law_915 (by decide) (fun c192 => ?_) (fun c192 => ?_)
        · have hD := ite_p hD c192
          refine lv_iload hx hb d_LW_law_920 (lv_at hl 1 rfl) ?_
          refine lv_if_ne (tgt := 937) hx hb d_LW_law_922 (by decide) (fun c193 => ?_) (fun c193 => ?_)
          · have hD := ite_n hD c193
            refine lv_goto (tgt := 1008) hx hb d_LW_law_937 (by decide) ?_
            obtain ⟨x194, ex194⟩ : ∃ y : Int32, y = xi + (7 : Int32) := ⟨_, rfl⟩
            have hD := nm_at hD ex194
            try dsimp only at hD
            refine lv_iinc (v := x194) (lv' := [(4, .int x194), (6, .int x189), (5, .int x186), (0, .ref b), (1, .ref (ad 0)), (2, .ref (ad 20)), (3, .ref (ad 30))]) hx hb d_LW_law_1008 hl (k := 6) rfl (by rw [ex194]; rfl) (by decide) rfl (fun ls hl => ?_)
            refine lv_goto (tgt := 53) hx hb d_LW_law_1011 (by decide) ?_
            refine W.widen (k := cells + 1) (n := slots + 6) (by (try dsimp only); omega) (by (try dsimp only); omega) ?_
            exact ih σ190 x194 _ _ _ _ _ hD (by omega) (by omega) wo (lv_sub hl [3, 4, 5, 6, 0] rfl)
          · have hD := ite_p hD c193
            refine lv_aload_n hx hb d_LW_law_925 rfl (lv_at hl 5 rfl) ?_
            refine lv_iconst (v := 0) hx hb d_LW_law_926 (by decide) ?_
            obtain ⟨g195, hD⟩ := grd_s hD
            refine g_lald cx wo m30 (cel_30 E ad n σ190) g195 d_LW_law_927 ?_
            refine lv_iload hx hb d_LW_law_928 (lv_at hl 0 rfl) ?_
            refine lv_i2l hx hb d_LW_law_930 rfl ?_
            refine W.lcmp hx hb d_LW_law_931 ?_
            refine lv_if_eq (tgt := 937) hx hb d_LW_law_932 (by decide) (fun c196 => ?_) (fun c196 => ?_)
            · have hD := ite_p hD c196
              refine lv_goto (tgt := 1008) hx hb d_LW_law_937 (by decide) ?_
              obtain ⟨x197, ex197⟩ : ∃ y : Int32, y = xi + (7 : Int32) := ⟨_, rfl⟩
              have hD := nm_at hD ex197
              try dsimp only at hD
              refine lv_iinc (v := x197) (lv' := [(4, .int x197), (6, .int x189), (5, .int x186), (0, .ref b), (1, .ref (ad 0)), (2, .ref (ad 20)), (3, .ref (ad 30))]) hx hb d_LW_law_1008 hl (k := 6) rfl (by rw [ex197]; rfl) (by decide) rfl (fun ls hl => ?_)
              refine lv_goto (tgt := 53) hx hb d_LW_law_1011 (by decide) ?_
              refine W.widen (k := cells + 1) (n := slots + 6) (by (try dsimp only); omega) (by (try dsimp only); omega) ?_
              exact ih σ190 x197 _ _ _ _ _ hD (by omega) (by omega) wo (lv_sub hl [3, 4, 5, 6, 0] rfl)
            · have hD := ite_n hD c196
              refine lv_iconst (v := 0) hx hb d_LW_law_935 (by decide) ?_
              cases hD
        · have hD := ite_n hD c192
          refine lv_iconst (v := 0) hx hb d_LW_law_918 (by decide) ?_
          cases hD
      have hD := ite_n hD c184
      by_cases c198 : ((xs (xi).toNatClampNeg) &&& (15 : Int32)) = (13 : Int32)
      · have hD := ite_p hD c198
        refine lv_tableIn (tgt := 940) hx hb d_LW_law_70 (by rw [c198]; decide) (by rw [c198]; decide) (off := 870) (by rw [c198]; decide) (by decide) ?_
        refine lv_aload_n hx hb d_LW_law_940 rfl (lv_at hl 1 rfl) ?_
        refine lv_aload_n hx hb d_LW_law_941 rfl (lv_at hl 0 rfl) ?_
        refine lv_iload hx hb d_LW_law_942 (lv_at hl 4 rfl) ?_
        refine lv_iconst (v := 1) hx hb d_LW_law_944 (by decide) ?_
        refine lv_iadd hx hb d_LW_law_945 ?_
        obtain ⟨g199, hD⟩ := grd_s hD
        refine va_sld hx hb hX hbl hbA wo.2.2.1 (inb_in g199) d_LW_law_946 ?_
        refine lv_aload_n hx hb d_LW_law_947 rfl (lv_at hl 0 rfl) ?_
        refine lv_iload hx hb d_LW_law_948 (lv_at hl 4 rfl) ?_
        refine lv_iconst (v := 2) hx hb d_LW_law_950 (by decide) ?_
        refine lv_iadd hx hb d_LW_law_951 ?_
        obtain ⟨g200, hD⟩ := grd_s hD
        refine va_sld hx hb hX hbl hbA wo.2.2.1 (inb_in g200) d_LW_law_952 ?_
        refine lv_aload_n hx hb d_LW_law_953 rfl (lv_at hl 3 rfl) ?_
        obtain ⟨⟨σ202, x201⟩, hcx201, hD⟩ := bd_s hD
        try dsimp only [nm2] at hD
        refine call_Wi cx kt sx wo (k_LW_place_0_30 l hfl E ad n L (fun a h => hL a ((by decide : ∀ a ∈ ([0, 1, 2, 3, 4, 9, 11, 13, 14, 15, 16, 30] : List Nat), a ∈ ([0, 1, 2, 3, 4, 5, 6, 7, 8, 9, 10, 11, 12, 13, 14, 15, 16, 20, 21, 22, 23, 24, 25, 26, 27, 28, 29, 30] : List Nat)) a h)) F σv σ202 (xs ((xi + (1 : Int32))).toNatClampNeg) (xs ((xi + (2 : Int32))).toNatClampNeg) x201 hcx201) mv_LW_place wm_LW_127 ⟨by decide, by decide⟩ ⟨by dsimp only [room_1]; omega, by dsimp only [room_1]; omega⟩ hl.1 rfl (Nat.le_of_ble_eq_true rfl) d_LW_law_954 (fun H locs wo => ?_)
        refine lv_istore (lv' := [(5, .int x201), (0, .ref b), (1, .ref (ad 0)), (2, .ref (ad 20)), (3, .ref (ad 30)), (4, .int xi)]) hx hb d_LW_law_957 hl (by decide) rfl (fun ls hl => ?_)
        refine lv_aload_n hx hb d_LW_law_959 rfl (lv_at hl 3 rfl) ?_
        refine lv_aload_n hx hb d_LW_law_960 rfl (lv_at hl 1 rfl) ?_
        refine lv_iload hx hb d_LW_law_961 (lv_at hl 5 rfl) ?_
        refine lv_iconst (v := 1) hx hb d_LW_law_963 (by decide) ?_
        refine lv_iadd hx hb d_LW_law_964 ?_
        obtain ⟨g203, hD⟩ := grd_s hD
        refine va_sld hx hb hX hbl hbA wo.2.2.1 (inb_in g203) d_LW_law_965 ?_
        refine lv_aload_n hx hb d_LW_law_966 rfl (lv_at hl 1 rfl) ?_
        refine lv_iload hx hb d_LW_law_967 (lv_at hl 5 rfl) ?_
        refine lv_iconst (v := 2) hx hb d_LW_law_969 (by decide) ?_
        refine lv_iadd hx hb d_LW_law_970 ?_
        obtain ⟨g204, hD⟩ := grd_s hD
        refine va_sld hx hb hX hbl hbA wo.2.2.1 (inb_in g204) d_LW_law_971 ?_
        obtain ⟨⟨σ206, x205⟩, hcx205, hD⟩ := bd_s hD
        try dsimp only [nm2] at hD
        refine call_Vi cx wo (k_MD_place l E ad n L (fun a h => hL a ((by decide : ∀ a ∈ ([20, 21, 22, 23, 24, 25, 26] : List Nat), a ∈ ([0, 1, 2, 3, 4, 5, 6, 7, 8, 9, 10, 11, 12, 13, 14, 15, 16, 20, 21, 22, 23, 24, 25, 26, 27, 28, 29, 30] : List Nat)) a h)) F σ202 σ206 (xs ((xi + (1 : Int32))).toNatClampNeg) (xs ((xi + (2 : Int32))).toNatClampNeg) x205 hcx205) m20 (cel_20 E ad n σ202) rfl rfl mw_MD_place wm_LW_129 ⟨by decide, by decide⟩ ⟨by dsimp only [room_1]; omega, by dsimp only [room_1]; omega⟩ hl.1 rfl (Nat.le_of_ble_eq_true rfl) d_LW_law_972 (fun H locs wo => ?_)
        refine lv_istore (lv' := [(6, .int x205), (5, .int x201), (0, .ref b), (1, .ref (ad 0)), (2, .ref (ad 20)), (3, .ref (ad 30)), (4, .int xi)]) hx hb d_LW_law_975 hl (by decide) rfl (fun ls hl => ?_)
        refine lv_aload_n hx hb d_LW_law_977 rfl (lv_at hl 4 rfl) ?_
        obtain ⟨x207, hcx207, hD⟩ := bd_s hD
        try dsimp only [nm2] at hD
        refine call_Vi cx wo (k_MD_thrown l E ad n L (fun a h => hL a ((by decide : ∀ a ∈ ([20] : List Nat), a ∈ ([0, 1, 2, 3, 4, 5, 6, 7, 8, 9, 10, 11, 12, 13, 14, 15, 16, 20, 21, 22, 23, 24, 25, 26, 27, 28, 29, 30] : List Nat)) a h)) F σ206   x207 hcx207) m20 (cel_20 E ad n σ206) rfl rfl mw_MD_thrown wm_LW_82 ⟨by decide, by decide⟩ ⟨by dsimp only [room_1]; omega, by dsimp only [room_1]; omega⟩ hl.1 rfl (Nat.le_of_ble_eq_true rfl) d_LW_law_978 (fun H locs wo => ?_)
        refine lv_iload hx hb d_LW_law_981 (lv_at hl 1 rfl) ?_
        refine lv_icmp_eq (tgt := 988) hx hb d_LW_law_983 (by decide) (fun c208 => ?_) (fun c208 => ?_)
        · have hD := ite_p hD c208
          refine lv_iload hx hb d_LW_law_988 (lv_at hl 1 rfl) ?_
          refine lv_if_ne (tgt := 1005) hx hb d_LW_law_990 (by decide) (fun c209 => ?_) (fun c209 => ?_)
          · have hD := ite_n hD c209
            refine lv_goto (tgt := 1008) hx hb d_LW_law_1005 (by decide) ?_
            obtain ⟨x210, ex210⟩ : ∃ y : Int32, y = xi + (7 : Int32) := ⟨_, rfl⟩
            have hD := nm_at hD ex210
            try dsimp only at hD
            refine lv_iinc (v := x210) (lv' := [(4, .int x210), (6, .int x205), (5, .int x201), (0, .ref b), (1, .ref (ad 0)), (2, .ref (ad 20)), (3, .ref (ad 30))]) hx hb d_LW_law_1008 hl (k := 6) rfl (by rw [ex210]; rfl) (by decide) rfl (fun ls hl => ?_)
            refine lv_goto (tgt := 53) hx hb d_LW_law_1011 (by decide) ?_
            refine W.widen (k := cells + 1) (n := slots + 6) (by (try dsimp only); omega) (by (try dsimp only); omega) ?_
            exact ih σ206 x210 _ _ _ _ _ hD (by omega) (by omega) wo (lv_sub hl [3, 4, 5, 6, 0] rfl)
          · have hD := ite_p hD c209
            refine lv_aload_n hx hb d_LW_law_993 rfl (lv_at hl 5 rfl) ?_
            refine lv_iconst (v := 0) hx hb d_LW_law_994 (by decide) ?_
            obtain ⟨g211, hD⟩ := grd_s hD
            refine g_lald cx wo m30 (cel_30 E ad n σ206) g211 d_LW_law_995 ?_
            refine lv_iload hx hb d_LW_law_996 (lv_at hl 0 rfl) ?_
            refine lv_i2l hx hb d_LW_law_998 rfl ?_
            refine W.lcmp hx hb d_LW_law_999 ?_
            refine lv_if_eq (tgt := 1005) hx hb d_LW_law_1000 (by decide) (fun c212 => ?_) (fun c212 => ?_)
            · have hD := ite_p hD c212
              refine lv_goto (tgt := 1008) hx hb d_LW_law_1005 (by decide) ?_
              obtain ⟨x213, ex213⟩ : ∃ y : Int32, y = xi + (7 : Int32) := ⟨_, rfl⟩
              have hD := nm_at hD ex213
              try dsimp only at hD
              refine lv_iinc (v := x213) (lv' := [(4, .int x213), (6, .int x205), (5, .int x201), (0, .ref b), (1, .ref (ad 0)), (2, .ref (ad 20)), (3, .ref (ad 30))]) hx hb d_LW_law_1008 hl (k := 6) rfl (by rw [ex213]; rfl) (by decide) rfl (fun ls hl => ?_)
              refine lv_goto (tgt := 53) hx hb d_LW_law_1011 (by decide) ?_
              refine W.widen (k := cells + 1) (n := slots + 6) (by (try dsimp only); omega) (by (try dsimp only); omega) ?_
              exact ih σ206 x213 _ _ _ _ _ hD (by omega) (by omega) wo (lv_sub hl [3, 4, 5, 6, 0] rfl)
            · have hD := ite_n hD c212
              refine lv_iconst (v := 0) hx hb d_LW_law_1003 (by decide) ?_
              cases hD
        · have hD := ite_n hD c208
          refine lv_iconst (v := 0) hx hb d_LW_law_986 (by decide) ?_
          cases hD
      have hD := ite_n hD c198
      have c3 := lv_neT (a := 0) c3 (by decide)
      have c21 := lv_neT (a := 1) c21 (by decide)
      have c38 := lv_neT (a := 2) c38 (by decide)
      have c54 := lv_neT (a := 3) c54 (by decide)
      have c64 := lv_neT (a := 4) c64 (by decide)
      have c72 := lv_neT (a := 5) c72 (by decide)
      have c87 := lv_neT (a := 6) c87 (by decide)
      have c104 := lv_neT (a := 7) c104 (by decide)
      have c121 := lv_neT (a := 8) c121 (by decide)
      have c148 := lv_neT (a := 9) c148 (by decide)
      have c160 := lv_neT (a := 10) c160 (by decide)
      have c172 := lv_neT (a := 11) c172 (by decide)
      have c184 := lv_neT (a := 12) c184 (by decide)
      have c198 := lv_neT (a := 13) c198 (by decide)
      refine lv_tableOut (tgt := 1008) hx hb d_LW_law_70 (by omega) (by decide) ?_
      obtain ⟨x214, ex214⟩ : ∃ y : Int32, y = xi + (7 : Int32) := ⟨_, rfl⟩
      have hD := nm_at hD ex214
      try dsimp only at hD
      refine lv_iinc (v := x214) (lv' := [(4, .int x214), (0, .ref b), (1, .ref (ad 0)), (2, .ref (ad 20)), (3, .ref (ad 30))]) hx hb d_LW_law_1008 hl (k := 4) rfl (by rw [ex214]; rfl) (by decide) rfl (fun ls hl => ?_)
      refine lv_goto (tgt := 53) hx hb d_LW_law_1011 (by decide) ?_
      refine W.widen (k := cells + 1) (n := slots + 6) (by (try dsimp only); omega) (by (try dsimp only); omega) ?_
      exact ih σv x214 _ _ _ _ _ hD (by omega) (by omega) wo (lv_sub hl [1, 2, 3, 4, 0] rfl)
