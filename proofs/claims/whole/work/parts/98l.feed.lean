def bt_z (z : Int32) : Nat := (z.toBitVec &&& 255#32).toNat
theorem bt_eq (z : Int32) : z &&& 255 = nI (bt_z z) ∧ bt_z z < 256 := by
  have hlt : bt_z z < 256 := by
    unfold bt_z
    rw [BitVec.toNat_and]
    exact Nat.lt_of_le_of_lt Nat.and_le_right (by decide)
  refine ⟨?_, hlt⟩
  apply Int32.toBitVec_inj.mp
  show z.toBitVec &&& 255#32 = (Int32.ofNat (bt_z z)).toBitVec
  unfold bt_z
  rw [show (Int32.ofNat (z.toBitVec &&& 255#32).toNat).toBitVec = BitVec.ofNat 32 (z.toBitVec &&& 255#32).toNat from rfl, BitVec.ofNat_toNat, BitVec.setWidth_eq]
def bl_of (e : Int64) : Nat → List Nat
  | 0 => []
  | m + 1 => bt_z (wo_lushr e (nI (8 * m))).toInt32 :: bl_of e m
def rw_of (raw : List Nat) (b o : Nat) : List Nat := if o = 0 then (if b = 10 ∧ raw = [] then [] else raw ++ [b]) else []
def rdc (v : cnT) (b : Nat) : cnT := (rw_of (c_raw v) b (rd_step (c_rd v) b).1, (rd_step (c_rd v) b).2, c_sh v, c_nh v, c_na v, c_out v, c_rv v, c_an v)
def rdx (v : cnT) (d : rdT) : cnT := (c_raw v, d, c_sh v, c_nh v, c_na v, c_out v, c_rv v, c_an v)
def fe_of (c b now : Nat) (S : hdT) : hdT := if (rd_step (c_rd (S.1 c)) b).1 = 0 then (cup S.1 c (rdc (S.1 c) b), S.2) else hd_of c (rd_step (c_rd (S.1 c)) b).1 (cup S.1 c (rdc (S.1 c) b)) S.2.1 S.2.2.1 S.2.2.2.1 S.2.2.2.2.1 S.2.2.2.2.2 now
def my_of (v : cnT) : Bool := mt_b (c_nh v) (c_na v) (c_out v) (c_sh v)
def fl_of (c now : Nat) : List Nat → hdT → Nat → hdT × Nat
  | [], S, n => (S, n)
  | b :: l, S, n => if b = 0 then fl_of c now l S n else if my_of (S.1 c) = true then fl_of c now l (fe_of c b now S) (n + 1) else (S, n)
def tc_of (c b : Nat) (S : hdT) : Nat := tk_c (c_rd (S.1 c)) b + (if (rd_step (c_rd (S.1 c)) b).1 = 0 then 0 else 90)
def ts_of (c b : Nat) (S : hdT) : Nat := tk_s (c_rd (S.1 c)) b + (if (rd_step (c_rd (S.1 c)) b).1 = 0 then 0 else 10300)
def fc_of (c now : Nat) : List Nat → hdT → Nat
  | [], _ => 0
  | b :: l, S => if b = 0 then fc_of c now l S else if my_of (S.1 c) = true then tc_of c b S + fc_of c now l (fe_of c b now S) else 0
def fs_of (c now : Nat) : List Nat → hdT → Nat
  | [], _ => 0
  | b :: l, S => if b = 0 then fs_of c now l S else if my_of (S.1 c) = true then ts_of c b S + fs_of c now l (fe_of c b now S) else 0
def ec_S (E : wo_E) (ow : Nat → Nat) (G : wo_W) (x ca : Nat) (cad : Nat → Nat) (raf : Nat → Nat → Nat) (og so sh sj wl : Nat) (S : hdT) (cap now : Nat) : Prop := ec_k E ow G x ca cad raf og so sh sj wl S.1 S.2.1 S.2.2.1 S.2.2.2.1 cap S.2.2.2.2.1 S.2.2.2.2.2 now
def fd_u (c b now : Nat) (S : hdT) : Prop := js_ok S.2.2.2.2.1 S.2.2.2.2.2 ∧ jn_ok S.1 S.2.2.2.2.1 S.2.2.2.2.2 ∧ rd_ok (c_rd (S.1 c)) ∧ (rd_step (c_rd (S.1 c)) b).1 < 1000 ∧
  ((rd_step (c_rd (S.1 c)) b).1 < 2 → (d_bo (rd_step (c_rd (S.1 c)) b).2).length ≤ 8) ∧
  ((rd_step (c_rd (S.1 c)) b).1 ≠ 0 → (c_out (S.1 c)).length + 80 * (c_nh (S.1 c) + 1 - c_na (S.1 c)) ≤ 640 ∧ (∀ t u, t < c_nh (S.1 c) → c_an (S.1 c) t = some u → u.length ≤ 80) ∧ S.2.1.length ≤ 6 ∧ S.2.2.1 + 1 < 2 ^ 31 ∧ S.2.2.2.2.1.length ≤ 8 ∧ S.2.2.2.1.length ≤ 20 ∧ now < 2 ^ 30 ∧ (∀ i, i < S.2.2.2.1.length → (S.2.2.2.1.getD i sd_0).2.2.2.1 ≤ now)) ∧
  ((rd_step (c_rd (S.1 c)) b).1 = 1 → (c = 2 → (hd_a (cup S.1 c (rdc (S.1 c) b)) c S.2.1 S.2.2.1).length ≤ 80 ∧ (hd_w (cup S.1 c (rdc (S.1 c) b)) c S.2.1 S.2.2.1).1 < 2 ^ 31 ∧ (hd_w (cup S.1 c (rdc (S.1 c) b)) c S.2.1 S.2.2.1).2.2.1 < 2 ^ 31) ∧
    (∀ i, hu_of (hd_q (cup S.1 c (rdc (S.1 c) b)) c) S.2.2.2.1 now = some i → (ha_of (hd_q (cup S.1 c (rdc (S.1 c) b)) c) (S.2.2.2.1.getD i sd_0) now).length ≤ 80) ∧
    (c ≠ 2 → js_ok (S.2.2.2.2.1 ++ [hd_j (cup S.1 c (rdc (S.1 c) b)) c S.2.2.2.1]) S.2.2.2.2.2))
section SP
variable {E : wo_E} {mc ms : Nat} {G G1 : wo_W} {x ca og so sh sj wl now c o cap tg t : Nat} {ow ow1 : Nat → Nat} {R : Nat → Prop} {raf raf' : Nat → Nat → Nat} {cad : Nat → Nat} {cn : Nat → cnT} {rs : List roT} {ss : List sdT} {wt : List jobT} {sn : Nat → Option jobT}
theorem cup_cup {v w : cnT} : cup (cup cn c v) c w = cup cn c w := by
  funext e
  unfold cup
  by_cases z : e = c
  · rw [if_pos z, if_pos z]
  · rw [if_neg z, if_neg z, if_neg z]
theorem hd_rx {v w : cnT} (ho : o ≠ 1) (e1 : c_nh v = c_nh w) (e2 : c_na v = c_na w) (e3 : c_out v = c_out w) (e4 : c_rv v = c_rv w) (e5 : c_an v = c_an w) : hd_of c o (cup cn c v) rs tg ss wt sn now = hd_of c o (cup cn c w) rs tg ss wt sn now := by
  unfold hd_of
  rw [if_neg ho, if_neg ho, cup_c, cup_c, cup_cup, cup_cup]
  unfold enr
  rw [e1, e2, e3, e4, e5]
theorem Rrd_c (hc : c < 3) {n : Nat} (hn : n ≤ 20) : ∀ r, Rrd (Bc c) (Qc c + n) r → Bc c ≤ r ∧ r ≤ Bc c + 6 ∨ Qc c ≤ r ∧ r ≤ Qc c + 20 := fun r z => by
  rcases z with z | z
  · left; omega
  · right; omega
set_option maxRecDepth 100000 in
theorem sp_fdStep {Post : Int32 → wo_W → Prop} {S : hdT} {b m n c2 s2 : Nat} {e : Int64} {sft : Int32} (cc : cx E ow G) (h : ec_S E ow G x ca cad raf og so sh sj wl S cap now) (hc : c < 3) (hb0 : 0 < b) (hb : b < 256) (hmy : my_of (S.1 c) = true) (hu : fd_u c b now S) (h1 : c2 + tc_of c b S ≤ mc) (h2 : s2 + ts_of c b S ≤ ms)
    (hp : ∀ c3 s3 raf' ow' G', c3 = c2 + tc_of c b S → s3 = s2 + ts_of c b S → xt E Rec ow G ow' G' → cx E ow' G' → ec_S E ow' G' x ca cad raf' og so sh sj wl (fe_of c b now S) cap now → pq_EC_feed_86 E mc ms Post (pq_EC_feed_24 E mc ms Post m) G' c3 s3 x (nI c) e (some (cad c)) (nI n + 1) sft) :
    ∃ a1 : Nat, some (cad c) = some a1 ∧ wo_ty G a1 = 7 ∧ ∃ mc3 ms4 : Nat, (c2 + mc3) ≤ mc ∧ (s2 + ms4) ≤ ms ∧ pq_Cn_mayTake E mc3 ms4 (fun v6 G5 => ((¬ v6 = (0 : Int32) → wo_ty G5 a1 = 7 ∧ ∀ r8 : Option Nat, r8 = wo_gr G5 384 a1 → ∃ a10 : Nat, r8 = some a10 ∧ wo_ty G5 a10 = 8 ∧ ∃ mc12 ms13 : Nat, ((c2 + mc3) + mc12) ≤ mc ∧ ((s2 + ms4) + ms13) ≤ ms ∧ pq_Rd_take E mc12 ms13 (fun v15 G14 => ((v15 = (0 : Int32) → pq_EC_feed_86 E mc ms Post (pq_EC_feed_24 E mc ms Post m) G14 ((c2 + mc3) + mc12) ((s2 + ms4) + ms13) x (nI c) e (some a1) (nI n + (1 : Int32)) sft) ∧ (¬ v15 = (0 : Int32) → wo_ty G14 x = 1 ∧ ∃ mc17 ms18 : Nat, (((c2 + mc3) + mc12) + mc17) ≤ mc ∧ (((s2 + ms4) + ms13) + ms18) ≤ ms ∧ pq_EC_handle E mc17 ms18 (fun G19 => pq_EC_feed_86 E mc ms Post (pq_EC_feed_24 E mc ms Post m) G19 (((c2 + mc3) + mc12) + mc17) (((s2 + ms4) + ms13) + ms18) x (nI c) e (some a1) (nI n + (1 : Int32)) sft) G14 x (nI c) v15))) G5 a10 (nI b)) ∧ (v6 = (0 : Int32) → pq_EC_feed_92 E mc ms Post G5 (c2 + mc3) (s2 + ms4) (nI n)))) G a1 := by
  obtain ⟨cn, rs, tg, ss, wt, sn⟩ := S
  obtain ⟨u1, u2, u3, u4, u5, u6, u7⟩ := hu
  simp only [] at u1 u2 u3 u4 u5 u6 u7 hmy
  have h' : ec_k E ow G x ca cad raf og so sh sj wl cn rs tg ss cap wt sn now := h
  have hbb := u1.b
  obtain ⟨xr, ar, au, n1, n2, n3⟩ := h'.2.2.1 c hc
  have my : mt_b (c_nh (cn c)) (c_na (cn c)) (c_out (cn c)) (c_sh (cn c)) = true := hmy
  have my2 := my
  unfold mt_b at my2
  simp only [Bool.and_eq_true, decide_eq_true_eq] at my2
  obtain ⟨⟨⟨m1, m2⟩, m3⟩, m4⟩ := my2
  have hsh : c_sh (cn c) = false := by
    cases hs : c_sh (cn c) with
    | false => rfl
    | true => rw [hs] at m1; cases m1
  have rd := n3 hsh
  have txr : wo_ty G xr = 8 := by obtain ⟨_, _, _, _, q⟩ := rd; generalize c_rd (cn c) = d at q; obtain ⟨pt, hd', ln, ch, lf, li, bo, m, pa, vs⟩ := d; exact q.1
  have hQ : 0 < Qc c + c_nh (cn c) ∧ Qc c + c_nh (cn c) < Bc c := by unfold Qc Bc; omega
  have R0 : ¬ Rrd (Bc c) (Qc c + c_nh (cn c)) 0 := Rrd0 hQ
  have RR := Rrd_c hc (n := c_nh (cn c)) (by omega)
  have etc : tc_of c b (cn, rs, tg, ss, wt, sn) = tk_c (c_rd (cn c)) b + (if (rd_step (c_rd (cn c)) b).1 = 0 then 0 else 90) := rfl
  have ets : ts_of c b (cn, rs, tg, ss, wt, sn) = tk_s (c_rd (cn c)) b + (if (rd_step (c_rd (cn c)) b).1 = 0 then 0 else 10300) := rfl
  rw [etc] at h1 hp
  rw [ets] at h2 hp
  refine ⟨cad c, rfl, n1.1.1, 0, 0, by omega, by omega, sp_mayTake n1 ?_⟩
  rw [my]
  refine ⟨fun _ => ⟨n1.1.1, fun r8 hr8 => ⟨xr, hr8.trans n1.1.2.2.2.1, txr, tk_c (c_rd (cn c)) b, tk_s (c_rd (cn c)) b, by omega, by omega, sp_take cc hQ rd u3 hb (Nat.le_refl _) (Nat.le_refl _) (fun ow1 G1 y1 r1 => ?_)⟩⟩, fun w => absurd w (by decide)⟩
  have c1 := cc.xt y1 R0
  have Rn : ∀ r, (r = Bc c ∨ r = Bc c + 5 ∨ r = Bc c + 6) → ¬ Rrd (Bc c) (Qc c + c_nh (cn c)) r := fun r hr z => by
    rcases z with z | z
    · omega
    · unfold Bc Qc at *; omega
  have n1' : ∀ d, rd_at E ow1 (Bc c) (Qc c + c_nh (cn c)) G1 xr d → ∀ w : cnT, c_sh w = c_sh (cn c) → c_nh w = c_nh (cn c) → c_na w = c_na (cn c) → c_out w = c_out (cn c) → c_an w = c_an (cn c) → c_rv w = c_rv (cn c) → c_rd w = d → cn_a E ow1 G1 c (cad c) (raf c) w := by
    intro d hd w e1 e2 e3 e4 e5 e6 e7
    refine ⟨xr, ar, au, ?_, ?_, fun _ => ?_⟩
    · rw [e1, e2, e3, e4]
      exact n1.xt y1 (Rn _ (Or.inl rfl)) (Rn _ (Or.inr (Or.inl rfl))) (Rn _ (Or.inr (Or.inr rfl)))
    · rw [e2, e5, e6]
      refine n2.xt y1 R0 (fun s hs z => ?_)
      rcases z with z | z
      · unfold Bc Qc at z; omega
      · omega
    · rw [e2, e7]; exact hd
  have mk : ∀ w : cnT, cn_a E ow1 G1 c (cad c) (raf c) w → ec_k E ow1 G1 x ca cad raf og so sh sj wl (cup cn c w) rs tg ss cap wt sn now := fun w hw => ec_cv h' cc hbb hc y1 RR u2 hw
  have y1' : xt E Rec ow G ow1 G1 := y1.mn (fun r z => Rc_e hc r (RR r z))
  refine ⟨fun w => ?_, fun w => ?_⟩
  · have q0 : (rd_step (c_rd (cn c)) b).1 = 0 := (nI_eq (b := 0) (by omega) (by decide)).mp w
    rw [q0] at hp
    have ra := r1.1 (by omega)
    have cv := n1' _ ra (rdc (cn c) b) rfl rfl rfl rfl rfl rfl rfl
    have ef : fe_of c b now (cn, rs, tg, ss, wt, sn) = (cup cn c (rdc (cn c) b), rs, tg, ss, wt, sn) := by
      unfold fe_of
      simp only []
      rw [if_pos q0]
    exact hp _ _ raf ow1 G1 rfl rfl y1' c1 (by rw [ef]; exact mk _ cv)
  · have q0 : ¬ (rd_step (c_rd (cn c)) b).1 = 0 := fun z => w (by rw [z]; rfl)
    rw [if_neg q0] at h1 h2
    rw [if_neg q0, if_neg q0] at hp
    obtain ⟨a1, a2, a3, a4, a5, a6, a7, a8⟩ := u6 q0
    have ef : fe_of c b now (cn, rs, tg, ss, wt, sn) = hd_of c (rd_step (c_rd (cn c)) b).1 (cup cn c (rdc (cn c) b)) rs tg ss wt sn now := by
      unfold fe_of
      simp only []
      rw [if_neg q0]
    have jnw : ∀ w : cnT, c_nh w = c_nh (cn c) → jn_ok (cup cn c w) wt sn := by
      intro w hw
      have key : ∀ e, c_nh (cup cn c w e) = c_nh (cn e) := by
        intro e
        by_cases z : e = c
        · rw [z, cup_c]; exact hw
        · rw [cup_n z]
      exact ⟨fun j hj => by rw [key]; exact u2.1 j hj, fun u j hu hj => by rw [key]; exact u2.2 u j hu hj⟩
    by_cases q1 : (rd_step (c_rd (cn c)) b).1 = 1
    · have ra := r1.1 (by omega)
      have cv := n1' _ ra (rdc (cn c) b) rfl rfl rfl rfl rfl rfl rfl
      have k1 := mk _ cv
      obtain ⟨b1, b2, b3⟩ := u7 q1
      refine ⟨k1.1.1, 90, 10300, by omega, by omega, ?_⟩
      refine sp_handle c1 k1 u1 hc (by rw [cup_c]; exact hsh) (by rw [cup_c]; exact m2) (by rw [cup_c]; exact u5 (by omega)) (jnw _ rfl) (by omega) (by rw [cup_c]; exact a1) (by rw [cup_c]; exact a2) a3 a4 (fun z _ => b1 z) (fun i _ z => b2 i z) (fun z _ => b3 z) a5 a6 a7 a8 (by omega) (by omega) (fun raf' ow' G' y2 c2' k2 => ?_)
      exact hp _ _ raf' ow' G' (by omega) (by omega) (y1'.tr y2) c2' (by rw [ef]; exact k2)
    · obtain ⟨d, rd', bo8⟩ := r1.2
      have cv := n1' d rd' (rdx (cn c) d) rfl rfl rfl rfl rfl rfl rfl
      have k1 := mk _ cv
      refine ⟨k1.1.1, 90, 10300, by omega, by omega, ?_⟩
      refine sp_handle c1 k1 u1 hc (by rw [cup_c]; exact hsh) (by rw [cup_c]; exact m2) (by rw [cup_c]; exact bo8) (jnw _ rfl) u4 (by rw [cup_c]; exact a1) (by rw [cup_c]; exact a2) a3 a4 (fun _ z => absurd z q1) (fun i z => absurd z q1) (fun _ z => absurd z q1) a5 a6 a7 a8 (by omega) (by omega) (fun raf' ow' G' y2 c2' k2 => ?_)
      refine hp _ _ raf' ow' G' (by omega) (by omega) (y1'.tr y2) c2' ?_
      rw [ef, hd_rx (v := rdc (cn c) b) (w := rdx (cn c) d) q1 rfl rfl rfl rfl rfl]
      exact k2
set_option maxRecDepth 100000 in
theorem sp_fdLoop {Post : Int32 → wo_W → Prop} {I : Nat → hdT → Prop} {e : Int64} (hc : c < 3) (hst : ∀ m S b, I (m + 1) S → 0 < b → b < 256 → my_of (S.1 c) = true → I m (fe_of c b now S)) (hmn : ∀ m S, I (m + 1) S → I m S) (hus : ∀ m S b, I (m + 1) S → 0 < b → b < 256 → my_of (S.1 c) = true → fd_u c b now S) : ∀ (m n : Nat) (S : hdT) (raf : Nat → Nat → Nat) (ow : Nat → Nat) (G : wo_W) (c2 s2 : Nat), m ≤ 8 → I m S → cx E ow G → ec_S E ow G x ca cad raf og so sh sj wl S cap now → c2 + fc_of c now (bl_of e m) S ≤ mc → s2 + fs_of c now (bl_of e m) S ≤ ms →
    (∀ raf' ow' G', xt E Rec ow G ow' G' → cx E ow' G' → ec_S E ow' G' x ca cad raf' og so sh sj wl (fl_of c now (bl_of e m) S n).1 cap now → Post (nI (fl_of c now (bl_of e m) S n).2) G') → pq_EC_feed_24 E mc ms Post (m + 1) G c2 s2 x (nI c) e (some (cad c)) (nI n) (nI (8 * m) - 8) := by
  intro m
  induction m with
  | zero =>
    intro n S raf ow G c2 s2 hm hI cc h hc2 hs2 hp
    unfold pq_EC_feed_24 pq_EC_feed_92
    exact ⟨fun _ => hp raf ow G (xt.rf cc.2) cc h, fun w => absurd (by decide) w⟩
  | succ m ih =>
    intro n S raf ow G c2 s2 hm hI cc h hc2 hs2 hp
    obtain ⟨bz, bl⟩ := bt_eq (wo_lushr e (nI (8 * m))).toInt32
    have sh8 : nI (8 * (m + 1)) - 8 = nI (8 * m) := by
      rw [show (8 : Int32) = nI 8 from rfl, pk_sub (by omega)]
      congr 1
    have dn : ∀ y : Int32, y = nI (8 * (m + 1)) - 8 → y + (-8) = nI (8 * m) - 8 := by
      intro y hy
      rw [hy, sh8, Int32.sub_eq_add_neg]
    have eb : bl_of e (m + 1) = bt_z (wo_lushr e (nI (8 * m))).toInt32 :: bl_of e m := rfl
    rw [eb] at hc2 hs2 hp
    unfold fc_of at hc2
    unfold fs_of at hs2
    unfold fl_of at hp
    unfold pq_EC_feed_24
    rw [show wo_lushr e (nI (8 * (m + 1)) - 8) = wo_lushr e (nI (8 * m)) by rw [sh8], bz]
    refine ⟨fun w => absurd w (by rw [sh8]; exact nI_pos (by omega)), fun _ => ⟨fun w => ?_, fun w => ?_⟩⟩
    · have b0 : ¬ bt_z (wo_lushr e (nI (8 * m))).toInt32 = 0 := fun z => w (by rw [z]; rfl)
      rw [if_neg b0] at hc2 hs2
      simp only [if_neg b0] at hp
      cases hmy : my_of (S.1 c) with
      | true =>
        rw [if_pos hmy] at hc2 hs2
        simp only [if_pos hmy] at hp
        have hu := hus m S _ hI (by omega) bl hmy
        have kk : ∀ c3 s3 raf' ow' G', c3 = c2 + tc_of c (bt_z (wo_lushr e (nI (8 * m))).toInt32) S → s3 = s2 + ts_of c (bt_z (wo_lushr e (nI (8 * m))).toInt32) S → xt E Rec ow G ow' G' → cx E ow' G' → ec_S E ow' G' x ca cad raf' og so sh sj wl (fe_of c (bt_z (wo_lushr e (nI (8 * m))).toInt32) now S) cap now → pq_EC_feed_86 E mc ms Post (pq_EC_feed_24 E mc ms Post (m + 1)) G' c3 s3 x (nI c) e (some (cad c)) (nI n + 1) (nI (8 * (m + 1)) - 8) := by
          intro c3 s3 raf' ow' G' hc3 hs3 y1 c1 k1
          unfold pq_EC_feed_86
          rw [dn _ rfl, nI_1]
          exact ih (n + 1) _ raf' ow' G' _ _ (by omega) (hst m S _ hI (by omega) bl hmy) c1 k1 (by omega) (by omega) (fun raf2 ow2 G2 y2 c2' k2 => hp raf2 ow2 G2 (y1.tr y2) c2' k2)
        exact sp_fdStep (Post := Post) (n := n) (e := e) (sft := nI (8 * (m + 1)) - 8) cc h hc (by omega) bl hmy hu (by omega) (by omega) kk
      | false =>
        simp only [if_neg (show ¬ my_of (S.1 c) = true by rw [hmy]; decide)] at hp
        obtain ⟨xr, ar, au, n1, n2, n3⟩ := (show ec_k E ow G x ca cad raf og so sh sj wl S.1 S.2.1 S.2.2.1 S.2.2.2.1 cap S.2.2.2.2.1 S.2.2.2.2.2 now from h).2.2.1 c hc
        refine ⟨cad c, rfl, n1.1.1, 0, 0, by omega, by omega, sp_mayTake n1 ?_⟩
        rw [show mt_b (c_nh (S.1 c)) (c_na (S.1 c)) (c_out (S.1 c)) (c_sh (S.1 c)) = false from hmy]
        refine ⟨fun w => absurd rfl w, fun _ => ?_⟩
        unfold pq_EC_feed_92
        exact hp raf ow G (xt.rf cc.2) cc h
    · have b0 : bt_z (wo_lushr e (nI (8 * m))).toInt32 = 0 := (nI_eq (b := 0) (by omega) (by decide)).mp w
      rw [if_pos b0] at hc2 hs2
      simp only [if_pos b0] at hp
      unfold pq_EC_feed_86
      rw [dn _ rfl]
      exact ih n S raf ow G c2 s2 (by omega) (hmn m S hI) cc h hc2 hs2 hp
theorem sp_feed {Post : Int32 → wo_W → Prop} {I : Nat → Nat → hdT → Prop} {S : hdT} {i : Int32} {e : Int64} (cc : cx E ow G) (h : ec_S E ow G x ca cad raf og so sh sj wl S cap now) (hI : ∀ c, c < 3 → I c 8 S) (hst : ∀ c m S b, c < 3 → I c (m + 1) S → 0 < b → b < 256 → my_of (S.1 c) = true → I c m (fe_of c b now S)) (hmn : ∀ c m S, c < 3 → I c (m + 1) S → I c m S) (hus : ∀ c m S b, c < 3 → I c (m + 1) S → 0 < b → b < 256 → my_of (S.1 c) = true → fd_u c b now S)
    (h1 : ∀ c, ci_of i 3 = some c → fc_of c now (bl_of e 8) S ≤ mc) (h2 : ∀ c, ci_of i 3 = some c → fs_of c now (bl_of e 8) S ≤ ms) (hn : ci_of i 3 = none → Post 0 G)
    (hp : ∀ c, ci_of i 3 = some c → ∀ raf' ow' G', xt E Rec ow G ow' G' → cx E ow' G' → ec_S E ow' G' x ca cad raf' og so sh sj wl (fl_of c now (bl_of e 8) S 0).1 cap now → Post (nI (fl_of c now (bl_of e 8) S 0).2) G') : pq_EC_feed E mc ms Post G x i e := by
  unfold pq_EC_feed pq_EC_feed_0
  refine ⟨0, 0, Nat.zero_le _, Nat.zero_le _, sp_isConn (fun e => ⟨fun w => absurd rfl w, fun _ => hn e⟩) (fun c ec => ⟨fun _ => ?_, fun w => absurd w (by decide)⟩)⟩
  obtain ⟨ei, hc⟩ := ci_some ec
  have h' : ec_k E ow G x ca cad raf og so sh sj wl S.1 S.2.1 S.2.2.1 S.2.2.2.1 cap S.2.2.2.2.1 S.2.2.2.2.2 now := h
  obtain ⟨g1, g2, g3, g4, g5, g6⟩ := ec_o3 (v := S.1 c) h' hc
  rw [ei]
  refine ⟨g1, fun r hr => ⟨ca, g2 r hr, g3, g4, fun r2 hr2 => ⟨9, ?_⟩⟩⟩
  rw [g5 r2 hr2, show (0 : Int32) = nI 0 from rfl, show (56 : Int32) = nI (8 * 8) - 8 by decide]
  have := h1 c ec
  have := h2 c ec
  exact sp_fdLoop (I := I c) hc (fun m S b => hst c m S b hc) (fun m S => hmn c m S hc) (fun m S b => hus c m S b hc) 8 0 S raf ow G _ _ (by decide) (hI c hc) cc h (by omega) (by omega) (hp c ec)
end SP
