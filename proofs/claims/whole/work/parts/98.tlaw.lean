section LAW
variable {D W R G : Nat} {hd : Nat → Nat → Nat} {F : Nat} {n : Nat → Nat} {σ τ υ : HS}
theorem fin_i (ln : Len D W R G n) {cont : Option Unit} {c r : Int32} (e3 : υ.1 20 0 = c) (e4 : c = 0 → υ.2 30 0 = r.toInt64) (hc : cont = some ()) : ((D_MD_thrown F n υ).bind (fun (x14 : Int32) => if x14 = c then (if c = 0 then grd (inb (0 : Int32) (n 30)) (if (lg_cmp (υ.2 30 ((0 : Int32)).toNatClampNeg) r.toInt64) = 0 then cont else none) else cont) else none)) = some () := by
  rw [D_MD_thrown, Option.bind_some, e3, if_pos rfl, in30 ln]
  by_cases h : c = 0
  · rw [if_pos h, show ((0 : Int32)).toNatClampNeg = 0 from rfl, e4 h, if_pos ((lcmp0 _ _).mpr rfl)]; exact hc
  · rw [if_neg h]; exact hc
theorem fin_l (ln : Len D W R G n) {cont : Option Unit} {c : Int32} {r : Int64} (e3 : υ.1 20 0 = c) (e4 : c = 0 → υ.2 30 0 = r) (hc : cont = some ()) : ((D_MD_thrown F n υ).bind (fun (x14 : Int32) => if x14 = c then (if c = 0 then grd (inb (0 : Int32) (n 30)) (if (lg_cmp (υ.2 30 ((0 : Int32)).toNatClampNeg) r) = 0 then cont else none) else cont) else none)) = some () := by
  rw [D_MD_thrown, Option.bind_some, e3, if_pos rfl, in30 ln]
  by_cases h : c = 0
  · rw [if_pos h, show ((0 : Int32)).toNatClampNeg = 0 from rfl, e4 h, if_pos ((lcmp0 _ _).mpr rfl)]; exact hc
  · rw [if_neg h]; exact hc
theorem fin_b (ln : Len D W R G n) {cont : Option Unit} {c r : Int32} (e3 : υ.1 20 0 = c) (e4 : c = 0 → (r = 0 → υ.2 30 0 = 0) ∧ (¬ r = 0 → υ.2 30 0 = 1)) (hc : cont = some ()) : ((D_MD_thrown F n υ).bind (fun (x14 : Int32) => if x14 = c then (if c = 0 then grd (inb (0 : Int32) (n 30)) (if r = 0 then (if (lg_cmp (υ.2 30 ((0 : Int32)).toNatClampNeg) (0 : Int64)) = 0 then cont else none) else (if (lg_cmp (υ.2 30 ((0 : Int32)).toNatClampNeg) (1 : Int64)) = 0 then cont else none)) else cont) else none)) = some () := by
  rw [D_MD_thrown, Option.bind_some, e3, if_pos rfl, in30 ln]
  by_cases h : c = 0
  · rw [if_pos h, show ((0 : Int32)).toNatClampNeg = 0 from rfl]
    by_cases h2 : r = 0
    · rw [if_pos h2, (e4 h).1 h2, if_pos ((lcmp0 _ _).mpr rfl)]; exact hc
    · rw [if_neg h2, (e4 h).2 h2, if_pos ((lcmp0 _ _).mpr rfl)]; exact hc
  · rw [if_neg h]; exact hc
theorem fin_v {cont : Option Unit} {c : Int32} (e3 : υ.1 20 0 = c) (hc : cont = some ()) : ((D_MD_thrown F n υ).bind (fun (x14 : Int32) => if x14 = c then cont else none)) = some () := by
  rw [D_MD_thrown, Option.bind_some, e3, if_pos rfl]; exact hc
set_option maxHeartbeats 4000000 in
theorem law_ok (cx : Ctx D W R G hd n F) {L : Nat} (hL : L ≤ 3587) (xs : Nat → Int32) : ∀ k i σ, JI D W R G hd σ → L < i + 7 * k → 1 ≤ k → i ≤ 3600 → D_law F n L xs k σ (nI i) = some () := by
  obtain ⟨ge, ln, hF⟩ := id cx
  intro k
  induction k with
  | zero => intro i σ _ _ h; omega
  | succ k ih =>
    intro i σ ji h1 _ hi
    have hcmp : (nI L - (7 : Int32) < nI i) ↔ L < i + 7 := by
      rw [Int32.lt_iff_toInt_lt, show (7 : Int32) = nI 7 from rfl, pk_sub_toInt (by omega) (by omega), nI_toInt (by omega)]
      omega
    rw [D_law]
    by_cases he : L < i + 7
    · rw [if_pos (hcmp.mpr he)]
    rw [if_neg (fun z => he (hcmp.mp z))]
    have HC : ∀ υ, JI D W R G hd υ → nm (nI i + (7 : Int32)) (fun x => D_law F n L xs k υ x) = some () := fun υ ju => by
      show D_law F n L xs k υ (nI i + 7) = some ()
      rw [show nI i + (7 : Int32) = nI (i + 7) from nI_add i 7]
      exact ih (i + 7) υ ju (by omega) (by omega) (by omega)
    have G0 : ∀ (q : Option Unit), grd (inb (nI i) L) q = q := fun q => grd_in (by omega) (by omega)
    have G1 : ∀ (q : Option Unit), grd (inb (nI i + (1 : Int32)) L) q = q := fun q => by rw [show nI i + (1 : Int32) = nI (i + 1) from nI_add i 1]; exact grd_in (by omega) (by omega)
    have G2 : ∀ (q : Option Unit), grd (inb (nI i + (2 : Int32)) L) q = q := fun q => by rw [show nI i + (2 : Int32) = nI (i + 2) from nI_add i 2]; exact grd_in (by omega) (by omega)
    have G3 : ∀ (q : Option Unit), grd (inb (nI i + (3 : Int32)) L) q = q := fun q => by rw [show nI i + (3 : Int32) = nI (i + 3) from nI_add i 3]; exact grd_in (by omega) (by omega)
    have G4 : ∀ (q : Option Unit), grd (inb (nI i + (4 : Int32)) L) q = q := fun q => by rw [show nI i + (4 : Int32) = nI (i + 4) from nI_add i 4]; exact grd_in (by omega) (by omega)
    have G5 : ∀ (q : Option Unit), grd (inb (nI i + (5 : Int32)) L) q = q := fun q => by rw [show nI i + (5 : Int32) = nI (i + 5) from nI_add i 5]; exact grd_in (by omega) (by omega)
    have G6 : ∀ (q : Option Unit), grd (inb (nI i + (6 : Int32)) L) q = q := fun q => by rw [show nI i + (6 : Int32) = nI (i + 6) from nI_add i 6]; exact grd_in (by omega) (by omega)
    rw [G0]
    by_cases c0 : (xs (nI i).toNatClampNeg &&& (15 : Int32)) = (0 : Int32)
    · rw [if_pos c0]
      simp only [G1, G2, G3, nm2_q]
      obtain ⟨τ, c, e1, υ, r, e2, e3, e4, ju⟩ := j_feed cx ji (xs (nI i + (1 : Int32)).toNatClampNeg) ((((xs ((nI i + (2 : Int32))).toNatClampNeg)).toInt64 <<< (((32 : Int32)).toInt64 &&& 63)) ||| (((xs ((nI i + (3 : Int32))).toNatClampNeg)).toInt64 &&& (4294967295 : Int64)))
      rw [e1, Option.bind_some, e2, Option.bind_some]
      exact fin_i ln e3 e4 (HC υ ju)
    rw [if_neg c0]
    by_cases c1 : (xs (nI i).toNatClampNeg &&& (15 : Int32)) = (1 : Int32)
    · rw [if_pos c1]
      simp only [G1, nm2_q]
      obtain ⟨τ, c, e1, υ, r, e2, e3, e4, ju⟩ := j_write cx ji (xs (nI i + (1 : Int32)).toNatClampNeg)
      rw [e1, Option.bind_some, e2, Option.bind_some]
      exact fin_b ln e3 e4 (HC υ ju)
    rw [if_neg c1]
    by_cases c2 : (xs (nI i).toNatClampNeg &&& (15 : Int32)) = (2 : Int32)
    · rw [if_pos c2]
      simp only [G1, G2, nm2_q]
      obtain ⟨τ, c, e1, υ, r, e2, e3, e4, ju⟩ := j_read cx ji (xs (nI i + (1 : Int32)).toNatClampNeg) (xs (nI i + (2 : Int32)).toNatClampNeg)
      rw [e1, Option.bind_some, e2, Option.bind_some]
      exact fin_l ln e3 e4 (HC υ ju)
    rw [if_neg c2]
    by_cases c3 : (xs (nI i).toNatClampNeg &&& (15 : Int32)) = (3 : Int32)
    · rw [if_pos c3]
      simp only [G1, nm2_q]
      obtain ⟨τ, c, e1, υ, e2, e3, ju⟩ := j_lose cx ji (xs (nI i + (1 : Int32)).toNatClampNeg)
      rw [e1, Option.bind_some, e2, Option.bind_some]
      exact fin_v e3 (HC υ ju)
    rw [if_neg c3]
    by_cases c4 : (xs (nI i).toNatClampNeg &&& (15 : Int32)) = (4 : Int32)
    · rw [if_pos c4]
      simp only [nm2_q]
      obtain ⟨τ, c, e1, υ, e2, e3, ju⟩ := j_off cx ji
      rw [e1, Option.bind_some, e2, Option.bind_some]
      exact fin_v e3 (HC υ ju)
    rw [if_neg c4]
    by_cases c5 : (xs (nI i).toNatClampNeg &&& (15 : Int32)) = (5 : Int32)
    · rw [if_pos c5]
      simp only [nm2_q]
      obtain ⟨τ, c, e1, υ, r, e2, e3, e4, ju⟩ := j_open cx ji
      rw [e1, Option.bind_some, e2, Option.bind_some]
      exact fin_b ln e3 e4 (HC υ ju)
    rw [if_neg c5]
    by_cases c6 : (xs (nI i).toNatClampNeg &&& (15 : Int32)) = (6 : Int32)
    · rw [if_pos c6]
      simp only [G1, nm2_q]
      obtain ⟨τ, c, e1, υ, r, e2, e3, e4, ju⟩ := j_fail cx ji (xs (nI i + (1 : Int32)).toNatClampNeg)
      rw [e1, Option.bind_some, e2, Option.bind_some]
      exact fin_b ln e3 e4 (HC υ ju)
    rw [if_neg c6]
    by_cases c7 : (xs (nI i).toNatClampNeg &&& (15 : Int32)) = (7 : Int32)
    · rw [if_pos c7]
      simp only [G1, nm2_q]
      obtain ⟨τ, c, e1, υ, r, e2, e3, e4, ju⟩ := j_replace cx ji (xs (nI i + (1 : Int32)).toNatClampNeg)
      rw [e1, Option.bind_some, e2, Option.bind_some]
      exact fin_b ln e3 e4 (HC υ ju)
    rw [if_neg c7]
    by_cases c8 : (xs (nI i).toNatClampNeg &&& (15 : Int32)) = (8 : Int32)
    · rw [if_pos c8]
      simp only [G1, G2, G3, G4, G5, G6, nm2_q]
      obtain ⟨τ, c, e1, υ, r, e2, e3, e4, ju⟩ := j_spoil cx ji (xs (nI i + (1 : Int32)).toNatClampNeg) (xs (nI i + (2 : Int32)).toNatClampNeg) (xs (nI i + (3 : Int32)).toNatClampNeg) (xs (nI i + (4 : Int32)).toNatClampNeg) ((((xs ((nI i + (5 : Int32))).toNatClampNeg)).toInt64 <<< (((32 : Int32)).toInt64 &&& 63)) ||| (((xs ((nI i + (6 : Int32))).toNatClampNeg)).toInt64 &&& (4294967295 : Int64)))
      rw [e1, Option.bind_some, e2, Option.bind_some]
      exact fin_b ln e3 e4 (HC υ ju)
    rw [if_neg c8]
    by_cases c9 : (xs (nI i).toNatClampNeg &&& (15 : Int32)) = (9 : Int32)
    · rw [if_pos c9]
      simp only [nm2_q]
      obtain ⟨τ, c, e1, υ, r, e2, e3, e4, ju⟩ := j_rebuild cx ji
      rw [e1, Option.bind_some, e2, Option.bind_some]
      exact fin_i ln e3 e4 (HC υ ju)
    rw [if_neg c9]
    by_cases c10 : (xs (nI i).toNatClampNeg &&& (15 : Int32)) = (10 : Int32)
    · rw [if_pos c10]
      simp only [nm2_q]
      obtain ⟨τ, c, e1, υ, r, e2, e3, e4, ju⟩ := j_copyBack cx ji
      rw [e1, Option.bind_some, e2, Option.bind_some]
      exact fin_i ln e3 e4 (HC υ ju)
    rw [if_neg c10]
    by_cases c11 : (xs (nI i).toNatClampNeg &&& (15 : Int32)) = (11 : Int32)
    · rw [if_pos c11]
      simp only [nm2_q]
      obtain ⟨τ, c, e1, υ, r, e2, e3, e4, ju⟩ := j_scrub cx ji
      rw [e1, Option.bind_some, e2, Option.bind_some]
      exact fin_i ln e3 e4 (HC υ ju)
    rw [if_neg c11]
    by_cases c12 : (xs (nI i).toNatClampNeg &&& (15 : Int32)) = (12 : Int32)
    · rw [if_pos c12]
      simp only [G1, nm2_q]
      obtain ⟨τ, c, e1, υ, r, e2, e3, e4, ju⟩ := j_look cx ji (xs (nI i + (1 : Int32)).toNatClampNeg)
      rw [e1, Option.bind_some, e2, Option.bind_some]
      exact fin_i ln e3 e4 (HC υ ju)
    rw [if_neg c12]
    by_cases c13 : (xs (nI i).toNatClampNeg &&& (15 : Int32)) = (13 : Int32)
    · rw [if_pos c13]
      simp only [G1, G2, nm2_q]
      obtain ⟨τ, c, e1, υ, r, e2, e3, e4, ju⟩ := j_place cx ji (xs (nI i + (1 : Int32)).toNatClampNeg) (xs (nI i + (2 : Int32)).toNatClampNeg)
      rw [e1, Option.bind_some, e2, Option.bind_some]
      exact fin_i ln e3 e4 (HC υ ju)
    rw [if_neg c13]
    exact HC σ ji
end LAW
