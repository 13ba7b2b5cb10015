def f_X0_init (g : Nat → Nat) (x0 : Option Nat) (x1 : Int32) (h : AH) (K : AH → Prop) : Prop :=
  nn x0 (pI h x0 0 0 x1 fun h1 => K h1)
theorem m_X0_init_e {Z : zT} {X : zX} (hC : Cx Z X RX0 cX0_init 2 1 0 0 20) (hr : X.2.2.2.2.2.2.2.2.1.sig.returnType = none) (hin : X.2.2.2.2.2.2.2.2.1.name = "<init>") {x0 : Option Nat} {x1 : Int32} {h : AH} {K : AH → Prop} {cells slots : Nat} (hc : cells + 0 ≤ 0) (hs : slots + 0 ≤ 0) (hf : f_X0_init Z.2.2 x0 x1 h K) : V Z X (zE Z X (zQv Z K) 0 0) 2 h [(0, va_rf x0), (1, .int x1)] cells slots 0 [] := by
  unfold f_X0_init at hf
  exact (z_aload_n (q := 1) hC dX0_init_0 rfl 0 rfl (z_oinit (q := 4) hC q_0 zq_oi1 zq_oi2 dX0_init_1 rfl (by decide) (Nat.le_of_ble_eq_true rfl) (Nat.le_of_ble_eq_true rfl) hf fun hf => (z_aload_n (q := 5) hC dX0_init_4 rfl 0 rfl (z_iload_n (q := 6) hC dX0_init_5 rfl 1 rfl (z_fI (q := 9) hC hin pf_X0_7 dX0_init_6 rfl rfl hf fun h1 hf => (z_vret hC hr (by omega) (by omega) dX0_init_9 hf))))))
theorem m_X0_init (Z : zT) (l : Launch) (htr : l.stackTraces = false) (x0 : Option Nat) (x1 : Int32) : zMv Z l yX0_init cX0_init 2 (none) 1 0 0 20 [va_rf x0, .int x1] (f_X0_init Z.2.2 x0 x1) := by
  intro h K
  refine Met.ofW (cc := cX0_init) (maxL := 2) (ret := none) (by decide) rfl ?_
  intro p e s m args below meth c s₁ B hml hv
  obtain ⟨rfl, hw, hf⟩ := hv
  have hin : meth.name = "<init>" := (name_of_methodNamed B.named B.method).1
  exact V.entry (X := (p, l, e, _, s, m, _, below, meth, c)) (m_X0_init_e (z_cx B hml htr hw) B.returns hin (Nat.le_of_ble_eq_true rfl) (Nat.le_of_ble_eq_true rfl) hf) hw.2.2.1 (by simp [lv_args, va_rf_cat, z_ci, z_cj, z_cf, z_cd]) (by simp [lg_sl, va_rf_cat, z_ci, z_cj, z_cf, z_cd])
def f_X0_isFree (g : Nat → Nat) (x0 : Option Nat) (h : AH) (K : Int32 → AH → Prop) : Prop :=
  gA h x0 0 1 fun v1 => nNull v1 (gI h x0 0 2 fun v2 => if v2 = 0 then (okZ 1 (K 1 h)) else (okZ 0 (K 0 h))) (okZ 0 (K 0 h))
theorem m_X0_isFree_e {Z : zT} {X : zX} (hC : Cx Z X RX0 cX0_isFree 1 0 0 0 0) (hr : X.2.2.2.2.2.2.2.2.1.sig.returnType = some .boolean) {x0 : Option Nat} {h : AH} {K : Int32 → AH → Prop} {cells slots : Nat} (hc : cells + 0 ≤ 0) (hs : slots + 0 ≤ 0) (hf : f_X0_isFree Z.2.2 x0 h K) : V Z X (zE Z X (zQi Z K) 0 0) 1 h [(0, va_rf x0)] cells slots 0 [] := by
  unfold f_X0_isFree at hf
  exact (z_aload_n (q := 1) hC dX0_isFree_0 rfl 0 rfl (z_gA (q := 4) hC fb_X0_13 dX0_isFree_1 rfl rfl hf fun v1 hf => (z_ifnonnull (tgt := 18) (q := 7) hC dX0_isFree_4 rfl rfl hf (fun _ _ hf => (z_iconst (q := 19) (v := 0) hC dX0_isFree_18 rfl ic_0 (z_iret hC hr (fits_Z hf.1).1 (by omega) (by omega) dX0_isFree_19 hf.2))) (fun _ hf => (z_aload_n (q := 8) hC dX0_isFree_7 rfl 0 rfl (z_gI (q := 11) hC fb_X0_17 dX0_isFree_8 rfl rfl hf fun v2 hf => (z_if_ne (tgt := 18) (q := 14) hC dX0_isFree_11 rfl rfl hf (fun _ hf => (z_iconst (q := 19) (v := 0) hC dX0_isFree_18 rfl ic_0 (z_iret hC hr (fits_Z hf.1).1 (by omega) (by omega) dX0_isFree_19 hf.2))) (fun _ hf => (z_iconst (q := 15) (v := 1) hC dX0_isFree_14 rfl ic_1 (z_goto (tgt := 19) hC dX0_isFree_15 rfl (z_iret hC hr (fits_Z hf.1).1 (by omega) (by omega) dX0_isFree_19 hf.2)))))))))))
theorem m_X0_isFree (Z : zT) (l : Launch) (htr : l.stackTraces = false) (x0 : Option Nat) : zMi Z l yX0_isFree cX0_isFree 1 (some .boolean) 0 0 0 0 [va_rf x0] (f_X0_isFree Z.2.2 x0) := by
  intro h K
  refine Met.ofW (cc := cX0_isFree) (maxL := 1) (ret := some .boolean) (by decide) rfl ?_
  intro p e s m args below meth c s₁ B hml hv
  obtain ⟨rfl, hw, hf⟩ := hv
  exact V.entry (X := (p, l, e, _, s, m, _, below, meth, c)) (m_X0_isFree_e (z_cx B hml htr hw) B.returns (Nat.le_of_ble_eq_true rfl) (Nat.le_of_ble_eq_true rfl) hf) hw.2.2.1 (by simp [lv_args, va_rf_cat, z_ci, z_cj, z_cf, z_cd]) (by simp [lg_sl, va_rf_cat, z_ci, z_cj, z_cf, z_cd])
def f_X0_isSoundEnd_B39 (g : Nat → Nat) (h : AH) (K : Int32 → AH → Prop) : Prop :=
  okZ 1 (K 1 h)
def f_X0_isSoundEnd (g : Nat → Nat) (x0 : Option Nat) (h : AH) (K : Int32 → AH → Prop) : Prop :=
  gA h x0 0 1 fun v1 => nNull v1 (f_X0_isSoundEnd_B39 g h K) (gA h x0 0 1 fun v2 => gA h v2 0 1 fun v3 => if v3 = x0 then (gA h x0 0 1 fun v4 => gI h v4 0 0 fun v5 => gI h x0 0 0 fun v6 => if v5 = v6 then (okZ 0 (K 0 h)) else (gI h x0 0 2 fun v7 => if v7 = 0 then (f_X0_isSoundEnd_B39 g h K) else (okZ 0 (K 0 h)))) else (okZ 0 (K 0 h)))
theorem m_X0_isSoundEnd_B39 {Z : zT} {X : zX} (hC : Cx Z X RX0 cX0_isSoundEnd 1 0 0 0 0) (hr : X.2.2.2.2.2.2.2.2.1.sig.returnType = some .boolean)  {h : AH} {K : Int32 → AH → Prop} {cells slots : Nat} (hc : cells + 0 ≤ 0) (hs : slots + 0 ≤ 0) (hf : f_X0_isSoundEnd_B39 Z.2.2 h K) : V Z X (zE Z X (zQi Z K) 0 0) 1 h [] cells slots 39 [] := by
  unfold f_X0_isSoundEnd_B39 at hf
  exact (z_iconst (q := 40) (v := 1) hC dX0_isSoundEnd_39 rfl ic_1 (z_goto (tgt := 44) hC dX0_isSoundEnd_40 rfl (z_iret hC hr (fits_Z hf.1).1 (by omega) (by omega) dX0_isSoundEnd_44 hf.2)))
theorem m_X0_isSoundEnd_e {Z : zT} {X : zX} (hC : Cx Z X RX0 cX0_isSoundEnd 1 0 0 0 0) (hr : X.2.2.2.2.2.2.2.2.1.sig.returnType = some .boolean) {x0 : Option Nat} {h : AH} {K : Int32 → AH → Prop} {cells slots : Nat} (hc : cells + 0 ≤ 0) (hs : slots + 0 ≤ 0) (hf : f_X0_isSoundEnd Z.2.2 x0 h K) : V Z X (zE Z X (zQi Z K) 0 0) 1 h [(0, va_rf x0)] cells slots 0 [] := by
  unfold f_X0_isSoundEnd at hf
  exact (z_aload_n (q := 1) hC dX0_isSoundEnd_0 rfl 0 rfl (z_gA (q := 4) hC fb_X0_13 dX0_isSoundEnd_1 rfl rfl hf fun v1 hf => (z_ifnull (tgt := 39) (q := 7) hC dX0_isSoundEnd_4 rfl rfl hf (fun _ hf => (V.sub [] rfl (m_X0_isSoundEnd_B39 hC hr (by omega) (by omega) hf))) (fun _ _ hf => (z_aload_n (q := 8) hC dX0_isSoundEnd_7 rfl 0 rfl (z_gA (q := 11) hC fb_X0_13 dX0_isSoundEnd_8 rfl rfl hf fun v2 hf => (z_gA (q := 14) hC fb_X0_13 dX0_isSoundEnd_11 rfl rfl hf fun v3 hf => (z_aload_n (q := 15) hC dX0_isSoundEnd_14 rfl 0 rfl (z_acmp_ne (tgt := 43) (q := 18) hC dX0_isSoundEnd_15 rfl rfl hf (fun _ hf => (z_iconst (q := 44) (v := 0) hC dX0_isSoundEnd_43 rfl ic_0 (z_iret hC hr (fits_Z hf.1).1 (by omega) (by omega) dX0_isSoundEnd_44 hf.2))) (fun _ hf => (z_aload_n (q := 19) hC dX0_isSoundEnd_18 rfl 0 rfl (z_gA (q := 22) hC fb_X0_13 dX0_isSoundEnd_19 rfl rfl hf fun v4 hf => (z_gI (q := 25) hC fb_X0_7 dX0_isSoundEnd_22 rfl rfl hf fun v5 hf => (z_aload_n (q := 26) hC dX0_isSoundEnd_25 rfl 0 rfl (z_gI (q := 29) hC fb_X0_7 dX0_isSoundEnd_26 rfl rfl hf fun v6 hf => (z_icmp_eq (tgt := 43) (q := 32) hC dX0_isSoundEnd_29 rfl rfl hf (fun _ hf => (z_iconst (q := 44) (v := 0) hC dX0_isSoundEnd_43 rfl ic_0 (z_iret hC hr (fits_Z hf.1).1 (by omega) (by omega) dX0_isSoundEnd_44 hf.2))) (fun _ hf => (z_aload_n (q := 33) hC dX0_isSoundEnd_32 rfl 0 rfl (z_gI (q := 36) hC fb_X0_17 dX0_isSoundEnd_33 rfl rfl hf fun v7 hf => (z_if_ne (tgt := 43) (q := 39) hC dX0_isSoundEnd_36 rfl rfl hf (fun _ hf => (z_iconst (q := 44) (v := 0) hC dX0_isSoundEnd_43 rfl ic_0 (z_iret hC hr (fits_Z hf.1).1 (by omega) (by omega) dX0_isSoundEnd_44 hf.2))) (fun _ hf => (V.sub [] rfl (m_X0_isSoundEnd_B39 hC hr (by omega) (by omega) hf)))))))))))))))))))))))
theorem m_X0_isSoundEnd (Z : zT) (l : Launch) (htr : l.stackTraces = false) (x0 : Option Nat) : zMi Z l yX0_isSoundEnd cX0_isSoundEnd 1 (some .boolean) 0 0 0 0 [va_rf x0] (f_X0_isSoundEnd Z.2.2 x0) := by
  intro h K
  refine Met.ofW (cc := cX0_isSoundEnd) (maxL := 1) (ret := some .boolean) (by decide) rfl ?_
  intro p e s m args below meth c s₁ B hml hv
  obtain ⟨rfl, hw, hf⟩ := hv
  exact V.entry (X := (p, l, e, _, s, m, _, below, meth, c)) (m_X0_isSoundEnd_e (z_cx B hml htr hw) B.returns (Nat.le_of_ble_eq_true rfl) (Nat.le_of_ble_eq_true rfl) hf) hw.2.2.1 (by simp [lv_args, va_rf_cat, z_ci, z_cj, z_cf, z_cd]) (by simp [lg_sl, va_rf_cat, z_ci, z_cj, z_cf, z_cd])
def f_X1_init (g : Nat → Nat) (x0 : Option Nat) (x1 : Int32) (h : AH) (K : AH → Prop) : Prop :=
  nn x0 (pI h x0 1 16 x1 fun h1 => K h1)
theorem m_X1_init_e {Z : zT} {X : zX} (hC : Cx Z X RX1 cX1_init 2 1 0 0 20) (hr : X.2.2.2.2.2.2.2.2.1.sig.returnType = none) (hin : X.2.2.2.2.2.2.2.2.1.name = "<init>") {x0 : Option Nat} {x1 : Int32} {h : AH} {K : AH → Prop} {cells slots : Nat} (hc : cells + 0 ≤ 0) (hs : slots + 0 ≤ 0) (hf : f_X1_init Z.2.2 x0 x1 h K) : V Z X (zE Z X (zQv Z K) 0 0) 2 h [(0, va_rf x0), (1, .int x1)] cells slots 0 [] := by
  unfold f_X1_init at hf
  exact (z_aload_n (q := 1) hC dX1_init_0 rfl 0 rfl (z_oinit (q := 4) hC q_1 zq_oi1 zq_oi2 dX1_init_1 rfl (by decide) (Nat.le_of_ble_eq_true rfl) (Nat.le_of_ble_eq_true rfl) hf fun hf => (z_aload_n (q := 5) hC dX1_init_4 rfl 0 rfl (z_iload_n (q := 6) hC dX1_init_5 rfl 1 rfl (z_fI (q := 9) hC hin pf_X1_7 dX1_init_6 rfl rfl hf fun h1 hf => (z_vret hC hr (by omega) (by omega) dX1_init_9 hf))))))
theorem m_X1_init (Z : zT) (l : Launch) (htr : l.stackTraces = false) (x0 : Option Nat) (x1 : Int32) : zMv Z l yX1_init cX1_init 2 (none) 1 0 0 20 [va_rf x0, .int x1] (f_X1_init Z.2.2 x0 x1) := by
  intro h K
  refine Met.ofW (cc := cX1_init) (maxL := 2) (ret := none) (by decide) rfl ?_
  intro p e s m args below meth c s₁ B hml hv
  obtain ⟨rfl, hw, hf⟩ := hv
  have hin : meth.name = "<init>" := (name_of_methodNamed B.named B.method).1
  exact V.entry (X := (p, l, e, _, s, m, _, below, meth, c)) (m_X1_init_e (z_cx B hml htr hw) B.returns hin (Nat.le_of_ble_eq_true rfl) (Nat.le_of_ble_eq_true rfl) hf) hw.2.2.1 (by simp [lv_args, va_rf_cat, z_ci, z_cj, z_cf, z_cd]) (by simp [lg_sl, va_rf_cat, z_ci, z_cj, z_cf, z_cd])
def f_X1_putPaper (g : Nat → Nat) (x0 : Option Nat) (x1 : Int32) (h : AH) (K : Int32 → AH → Prop) : Prop :=
  gI h x0 1 20 fun v1 => okZ x1 (pI h x0 1 20 x1 fun h2 => okZ v1 (K v1 h2))
theorem m_X1_putPaper_e {Z : zT} {X : zX} (hC : Cx Z X RX1 cX1_putPaper 3 0 0 0 0) (hr : X.2.2.2.2.2.2.2.2.1.sig.returnType = some .boolean) {x0 : Option Nat} {x1 : Int32} {h : AH} {K : Int32 → AH → Prop} {cells slots : Nat} (hc : cells + 0 ≤ 0) (hs : slots + 0 ≤ 0) (hf : f_X1_putPaper Z.2.2 x0 x1 h K) : V Z X (zE Z X (zQi Z K) 0 0) 3 h [(0, va_rf x0), (1, .int x1)] cells slots 0 [] := by
  unfold f_X1_putPaper at hf
  exact (z_aload_n (q := 1) hC dX1_putPaper_0 rfl 0 rfl (z_gI (q := 4) hC fb_X1_13 dX1_putPaper_1 rfl rfl hf fun v1 hf => (z_istore_n (q := 5) (L' := [(2, .int v1), (0, va_rf x0), (1, .int x1)]) hC dX1_putPaper_4 rfl rfl (Nat.le_of_ble_eq_true rfl) rfl (z_aload_n (q := 6) hC dX1_putPaper_5 rfl 1 rfl (z_iload_n (q := 7) hC dX1_putPaper_6 rfl 2 rfl (z_pZ (q := 10) hC pb_X1_13 dX1_putPaper_7 rfl rfl hf fun h2 hf => (z_iload_n (q := 11) hC dX1_putPaper_10 rfl 0 rfl (z_iret hC hr (fits_Z hf.1).1 (by omega) (by omega) dX1_putPaper_11 hf.2))))))))
theorem m_X1_putPaper (Z : zT) (l : Launch) (htr : l.stackTraces = false) (x0 : Option Nat) (x1 : Int32) : zMi Z l yX1_putPaper cX1_putPaper 3 (some .boolean) 0 0 0 0 [va_rf x0, .int x1] (f_X1_putPaper Z.2.2 x0 x1) := by
  intro h K
  refine Met.ofW (cc := cX1_putPaper) (maxL := 3) (ret := some .boolean) (by decide) rfl ?_
  intro p e s m args below meth c s₁ B hml hv
  obtain ⟨rfl, hw, hf⟩ := hv
  exact V.entry (X := (p, l, e, _, s, m, _, below, meth, c)) (m_X1_putPaper_e (z_cx B hml htr hw) B.returns (Nat.le_of_ble_eq_true rfl) (Nat.le_of_ble_eq_true rfl) hf) hw.2.2.1 (by simp [lv_args, va_rf_cat, z_ci, z_cj, z_cf, z_cd]) (by simp [lg_sl, va_rf_cat, z_ci, z_cj, z_cf, z_cd])
def f_X1_canServe (g : Nat → Nat) (x0 : Option Nat) (x1 : Int32) (x2 : Int32) (h : AH) (K : Int32 → AH → Prop) : Prop :=
  gI h x0 1 17 fun v1 => if v1 = x2 then (gI h x0 1 20 fun v2 => if v2 = 0 then (okZ 0 (K 0 h)) else (gI h x0 1 19 fun v3 => if v3 < x1 then (okZ 0 (K 0 h)) else (okZ 1 (K 1 h)))) else (okZ 0 (K 0 h))
theorem m_X1_canServe_e {Z : zT} {X : zX} (hC : Cx Z X RX1 cX1_canServe 3 0 0 0 0) (hr : X.2.2.2.2.2.2.2.2.1.sig.returnType = some .boolean) {x0 : Option Nat} {x1 : Int32} {x2 : Int32} {h : AH} {K : Int32 → AH → Prop} {cells slots : Nat} (hc : cells + 0 ≤ 0) (hs : slots + 0 ≤ 0) (hf : f_X1_canServe Z.2.2 x0 x1 x2 h K) : V Z X (zE Z X (zQi Z K) 0 0) 3 h [(0, va_rf x0), (1, .int x1), (2, .int x2)] cells slots 0 [] := by
  unfold f_X1_canServe at hf
  exact (z_aload_n (q := 1) hC dX1_canServe_0 rfl 0 rfl (z_gI (q := 4) hC fb_X1_17 dX1_canServe_1 rfl rfl hf fun v1 hf => (z_iload_n (q := 5) hC dX1_canServe_4 rfl 2 rfl (z_icmp_ne (tgt := 27) (q := 8) hC dX1_canServe_5 rfl rfl hf (fun _ hf => (z_iconst (q := 28) (v := 0) hC dX1_canServe_27 rfl ic_0 (z_iret hC hr (fits_Z hf.1).1 (by omega) (by omega) dX1_canServe_28 hf.2))) (fun _ hf => (z_aload_n (q := 9) hC dX1_canServe_8 rfl 0 rfl (z_gI (q := 12) hC fb_X1_13 dX1_canServe_9 rfl rfl hf fun v2 hf => (z_if_eq (tgt := 27) (q := 15) hC dX1_canServe_12 rfl rfl hf (fun _ hf => (z_iconst (q := 28) (v := 0) hC dX1_canServe_27 rfl ic_0 (z_iret hC hr (fits_Z hf.1).1 (by omega) (by omega) dX1_canServe_28 hf.2))) (fun _ hf => (z_aload_n (q := 16) hC dX1_canServe_15 rfl 0 rfl (z_gI (q := 19) hC fb_X1_20 dX1_canServe_16 rfl rfl hf fun v3 hf => (z_iload_n (q := 20) hC dX1_canServe_19 rfl 1 rfl (z_icmp_lt (tgt := 27) (q := 23) hC dX1_canServe_20 rfl rfl hf (fun _ hf => (z_iconst (q := 28) (v := 0) hC dX1_canServe_27 rfl ic_0 (z_iret hC hr (fits_Z hf.1).1 (by omega) (by omega) dX1_canServe_28 hf.2))) (fun _ hf => (z_iconst (q := 24) (v := 1) hC dX1_canServe_23 rfl ic_1 (z_goto (tgt := 28) hC dX1_canServe_24 rfl (z_iret hC hr (fits_Z hf.1).1 (by omega) (by omega) dX1_canServe_28 hf.2)))))))))))))))))
theorem m_X1_canServe (Z : zT) (l : Launch) (htr : l.stackTraces = false) (x0 : Option Nat) (x1 : Int32) (x2 : Int32) : zMi Z l yX1_canServe cX1_canServe 3 (some .boolean) 0 0 0 0 [va_rf x0, .int x1, .int x2] (f_X1_canServe Z.2.2 x0 x1 x2) := by
  intro h K
  refine Met.ofW (cc := cX1_canServe) (maxL := 3) (ret := some .boolean) (by decide) rfl ?_
  intro p e s m args below meth c s₁ B hml hv
  obtain ⟨rfl, hw, hf⟩ := hv
  exact V.entry (X := (p, l, e, _, s, m, _, below, meth, c)) (m_X1_canServe_e (z_cx B hml htr hw) B.returns (Nat.le_of_ble_eq_true rfl) (Nat.le_of_ble_eq_true rfl) hf) hw.2.2.1 (by simp [lv_args, va_rf_cat, z_ci, z_cj, z_cf, z_cd]) (by simp [lg_sl, va_rf_cat, z_ci, z_cj, z_cf, z_cd])
def f_X2_init (g : Nat → Nat) (x0 : Option Nat) (h : AH) (K : AH → Prop) : Prop :=
  nn x0 (okC 110 (pI h x0 2 32 110 fun h1 => K h1))
theorem m_X2_init_e {Z : zT} {X : zX} (hC : Cx Z X RX2 cX2_init 1 1 0 0 20) (hr : X.2.2.2.2.2.2.2.2.1.sig.returnType = none) (hin : X.2.2.2.2.2.2.2.2.1.name = "<init>") {x0 : Option Nat} {h : AH} {K : AH → Prop} {cells slots : Nat} (hc : cells + 0 ≤ 0) (hs : slots + 0 ≤ 0) (hf : f_X2_init Z.2.2 x0 h K) : V Z X (zE Z X (zQv Z K) 0 0) 1 h [(0, va_rf x0)] cells slots 0 [] := by
  unfold f_X2_init at hf
  exact (z_aload_n (q := 1) hC dX2_init_0 rfl 0 rfl (z_oinit (q := 4) hC q_2 zq_oi1 zq_oi2 dX2_init_1 rfl (by decide) (Nat.le_of_ble_eq_true rfl) (Nat.le_of_ble_eq_true rfl) hf fun hf => (z_aload_n (q := 5) hC dX2_init_4 rfl 0 rfl (z_bipush (q := 7) (v := 110) hC dX2_init_5 rfl bp_110 (z_pC (q := 10) hC pb_X2_9 dX2_init_7 rfl rfl hf fun h1 hf => (z_vret hC hr (by omega) (by omega) dX2_init_10 hf))))))
theorem m_X2_init (Z : zT) (l : Launch) (htr : l.stackTraces = false) (x0 : Option Nat) : zMv Z l yX2_init cX2_init 1 (none) 1 0 0 20 [va_rf x0] (f_X2_init Z.2.2 x0) := by
  intro h K
  refine Met.ofW (cc := cX2_init) (maxL := 1) (ret := none) (by decide) rfl ?_
  intro p e s m args below meth c s₁ B hml hv
  obtain ⟨rfl, hw, hf⟩ := hv
  have hin : meth.name = "<init>" := (name_of_methodNamed B.named B.method).1
  exact V.entry (X := (p, l, e, _, s, m, _, below, meth, c)) (m_X2_init_e (z_cx B hml htr hw) B.returns hin (Nat.le_of_ble_eq_true rfl) (Nat.le_of_ble_eq_true rfl) hf) hw.2.2.1 (by simp [lv_args, va_rf_cat, z_ci, z_cj, z_cf, z_cd]) (by simp [lg_sl, va_rf_cat, z_ci, z_cj, z_cf, z_cd])
def f_X2_fuse (g : Nat → Nat) (x0 : Option Nat) (x1 : Option Nat) (h : AH) (K : AH → Prop) : Prop :=
  okC 119 (pI h x0 2 32 119 fun h1 => pA h1 x0 2 34 x1 fun h2 => K h2)
theorem m_X2_fuse_e {Z : zT} {X : zX} (hC : Cx Z X RX2 cX2_fuse 2 0 0 0 0) (hr : X.2.2.2.2.2.2.2.2.1.sig.returnType = none) {x0 : Option Nat} {x1 : Option Nat} {h : AH} {K : AH → Prop} {cells slots : Nat} (hc : cells + 0 ≤ 0) (hs : slots + 0 ≤ 0) (hf : f_X2_fuse Z.2.2 x0 x1 h K) : V Z X (zE Z X (zQv Z K) 0 0) 2 h [(0, va_rf x0), (1, va_rf x1)] cells slots 0 [] := by
  unfold f_X2_fuse at hf
  exact (z_aload_n (q := 1) hC dX2_fuse_0 rfl 0 rfl (z_bipush (q := 3) (v := 119) hC dX2_fuse_1 rfl bp_119 (z_pC (q := 6) hC pb_X2_9 dX2_fuse_3 rfl rfl hf fun h1 hf => (z_aload_n (q := 7) hC dX2_fuse_6 rfl 0 rfl (z_aload_n (q := 8) hC dX2_fuse_7 rfl 1 rfl (z_pA (q := 11) hC pb_X2_15 (Or.inl ⟨_, rfl⟩) dX2_fuse_8 rfl rfl hf fun h2 hf => (z_vret hC hr (by omega) (by omega) dX2_fuse_11 hf)))))))
theorem m_X2_fuse (Z : zT) (l : Launch) (htr : l.stackTraces = false) (x0 : Option Nat) (x1 : Option Nat) : zMv Z l yX2_fuse cX2_fuse 2 (none) 0 0 0 0 [va_rf x0, va_rf x1] (f_X2_fuse Z.2.2 x0 x1) := by
  intro h K
  refine Met.ofW (cc := cX2_fuse) (maxL := 2) (ret := none) (by decide) rfl ?_
  intro p e s m args below meth c s₁ B hml hv
  obtain ⟨rfl, hw, hf⟩ := hv
  exact V.entry (X := (p, l, e, _, s, m, _, below, meth, c)) (m_X2_fuse_e (z_cx B hml htr hw) B.returns (Nat.le_of_ble_eq_true rfl) (Nat.le_of_ble_eq_true rfl) hf) hw.2.2.1 (by simp [lv_args, va_rf_cat, z_ci, z_cj, z_cf, z_cd]) (by simp [lg_sl, va_rf_cat, z_ci, z_cj, z_cf, z_cd])
def f_X2_renew (g : Nat → Nat) (x0 : Option Nat) (h : AH) (K : AH → Prop) : Prop :=
  okC 110 (pI h x0 2 32 110 fun h1 => pI h1 x0 2 33 0 fun h2 => pA h2 x0 2 34 none fun h3 => K h3)
theorem m_X2_renew_e {Z : zT} {X : zX} (hC : Cx Z X RX2 cX2_renew 1 0 0 0 0) (hr : X.2.2.2.2.2.2.2.2.1.sig.returnType = none) {x0 : Option Nat} {h : AH} {K : AH → Prop} {cells slots : Nat} (hc : cells + 0 ≤ 0) (hs : slots + 0 ≤ 0) (hf : f_X2_renew Z.2.2 x0 h K) : V Z X (zE Z X (zQv Z K) 0 0) 1 h [(0, va_rf x0)] cells slots 0 [] := by
  unfold f_X2_renew at hf
  exact (z_aload_n (q := 1) hC dX2_renew_0 rfl 0 rfl (z_bipush (q := 3) (v := 110) hC dX2_renew_1 rfl bp_110 (z_pC (q := 6) hC pb_X2_9 dX2_renew_3 rfl rfl hf fun h1 hf => (z_aload_n (q := 7) hC dX2_renew_6 rfl 0 rfl (z_iconst (q := 8) (v := 0) hC dX2_renew_7 rfl ic_0 (z_pI (q := 11) hC pb_X2_19 dX2_renew_8 rfl rfl hf fun h2 hf => (z_aload_n (q := 12) hC dX2_renew_11 rfl 0 rfl (z_null (q := 13) hC dX2_renew_12 rfl (z_pA (q := 16) hC pb_X2_15 (Or.inl ⟨_, rfl⟩) dX2_renew_13 rfl rfl hf fun h3 hf => (z_vret hC hr (by omega) (by omega) dX2_renew_16 hf))))))))))
theorem m_X2_renew (Z : zT) (l : Launch) (htr : l.stackTraces = false) (x0 : Option Nat) : zMv Z l yX2_renew cX2_renew 1 (none) 0 0 0 0 [va_rf x0] (f_X2_renew Z.2.2 x0) := by
  intro h K
  refine Met.ofW (cc := cX2_renew) (maxL := 1) (ret := none) (by decide) rfl ?_
  intro p e s m args below meth c s₁ B hml hv
  obtain ⟨rfl, hw, hf⟩ := hv
  exact V.entry (X := (p, l, e, _, s, m, _, below, meth, c)) (m_X2_renew_e (z_cx B hml htr hw) B.returns (Nat.le_of_ble_eq_true rfl) (Nat.le_of_ble_eq_true rfl) hf) hw.2.2.1 (by simp [lv_args, va_rf_cat, z_ci, z_cj, z_cf, z_cd]) (by simp [lg_sl, va_rf_cat, z_ci, z_cj, z_cf, z_cd])
def f_X2_isLookedAt_B18 (g : Nat → Nat) (h : AH) (K : Int32 → AH → Prop) : Prop :=
  okZ 1 (K 1 h)
def f_X2_isLookedAt (g : Nat → Nat) (x0 : Option Nat) (h : AH) (K : Int32 → AH → Prop) : Prop :=
  gI h x0 2 32 fun v1 => if v1 = 103 then (f_X2_isLookedAt_B18 g h K) else (gI h x0 2 32 fun v2 => if v2 = 98 then (f_X2_isLookedAt_B18 g h K) else (okZ 0 (K 0 h)))
theorem m_X2_isLookedAt_B18 {Z : zT} {X : zX} (hC : Cx Z X RX2 cX2_isLookedAt 1 0 0 0 0) (hr : X.2.2.2.2.2.2.2.2.1.sig.returnType = some .boolean)  {h : AH} {K : Int32 → AH → Prop} {cells slots : Nat} (hc : cells + 0 ≤ 0) (hs : slots + 0 ≤ 0) (hf : f_X2_isLookedAt_B18 Z.2.2 h K) : V Z X (zE Z X (zQi Z K) 0 0) 1 h [] cells slots 18 [] := by
  unfold f_X2_isLookedAt_B18 at hf
  exact (z_iconst (q := 19) (v := 1) hC dX2_isLookedAt_18 rfl ic_1 (z_goto (tgt := 23) hC dX2_isLookedAt_19 rfl (z_iret hC hr (fits_Z hf.1).1 (by omega) (by omega) dX2_isLookedAt_23 hf.2)))
theorem m_X2_isLookedAt_e {Z : zT} {X : zX} (hC : Cx Z X RX2 cX2_isLookedAt 1 0 0 0 0) (hr : X.2.2.2.2.2.2.2.2.1.sig.returnType = some .boolean) {x0 : Option Nat} {h : AH} {K : Int32 → AH → Prop} {cells slots : Nat} (hc : cells + 0 ≤ 0) (hs : slots + 0 ≤ 0) (hf : f_X2_isLookedAt Z.2.2 x0 h K) : V Z X (zE Z X (zQi Z K) 0 0) 1 h [(0, va_rf x0)] cells slots 0 [] := by
  unfold f_X2_isLookedAt at hf
  exact (z_aload_n (q := 1) hC dX2_isLookedAt_0 rfl 0 rfl (z_gI (q := 4) hC fb_X2_9 dX2_isLookedAt_1 rfl rfl hf fun v1 hf => (z_bipush (q := 6) (v := 103) hC dX2_isLookedAt_4 rfl bp_103 (z_icmp_eq (tgt := 18) (q := 9) hC dX2_isLookedAt_6 rfl rfl hf (fun _ hf => (V.sub [] rfl (m_X2_isLookedAt_B18 hC hr (by omega) (by omega) hf))) (fun _ hf => (z_aload_n (q := 10) hC dX2_isLookedAt_9 rfl 0 rfl (z_gI (q := 13) hC fb_X2_9 dX2_isLookedAt_10 rfl rfl hf fun v2 hf => (z_bipush (q := 15) (v := 98) hC dX2_isLookedAt_13 rfl bp_98 (z_icmp_ne (tgt := 22) (q := 18) hC dX2_isLookedAt_15 rfl rfl hf (fun _ hf => (z_iconst (q := 23) (v := 0) hC dX2_isLookedAt_22 rfl ic_0 (z_iret hC hr (fits_Z hf.1).1 (by omega) (by omega) dX2_isLookedAt_23 hf.2))) (fun _ hf => (V.sub [] rfl (m_X2_isLookedAt_B18 hC hr (by omega) (by omega) hf))))))))))))
theorem m_X2_isLookedAt (Z : zT) (l : Launch) (htr : l.stackTraces = false) (x0 : Option Nat) : zMi Z l yX2_isLookedAt cX2_isLookedAt 1 (some .boolean) 0 0 0 0 [va_rf x0] (f_X2_isLookedAt Z.2.2 x0) := by
  intro h K
  refine Met.ofW (cc := cX2_isLookedAt) (maxL := 1) (ret := some .boolean) (by decide) rfl ?_
  intro p e s m args below meth c s₁ B hml hv
  obtain ⟨rfl, hw, hf⟩ := hv
  exact V.entry (X := (p, l, e, _, s, m, _, below, meth, c)) (m_X2_isLookedAt_e (z_cx B hml htr hw) B.returns (Nat.le_of_ble_eq_true rfl) (Nat.le_of_ble_eq_true rfl) hf) hw.2.2.1 (by simp [lv_args, va_rf_cat, z_ci, z_cj, z_cf, z_cd]) (by simp [lg_sl, va_rf_cat, z_ci, z_cj, z_cf, z_cd])
def f_X4_init (g : Nat → Nat) (x0 : Option Nat) (h : AH) (K : AH → Prop) : Prop :=
  nn x0 (K h)
theorem m_X4_init_e {Z : zT} {X : zX} (hC : Cx Z X RX4 cX4_init 1 1 0 0 20) (hr : X.2.2.2.2.2.2.2.2.1.sig.returnType = none) (hin : X.2.2.2.2.2.2.2.2.1.name = "<init>") {x0 : Option Nat} {h : AH} {K : AH → Prop} {cells slots : Nat} (hc : cells + 0 ≤ 0) (hs : slots + 0 ≤ 0) (hf : f_X4_init Z.2.2 x0 h K) : V Z X (zE Z X (zQv Z K) 0 0) 1 h [(0, va_rf x0)] cells slots 0 [] := by
  unfold f_X4_init at hf
  exact (z_aload_n (q := 1) hC dX4_init_0 rfl 0 rfl (z_oinit (q := 4) hC q_16 zq_oi1 zq_oi2 dX4_init_1 rfl (by decide) (Nat.le_of_ble_eq_true rfl) (Nat.le_of_ble_eq_true rfl) hf fun hf => (z_vret hC hr (by omega) (by omega) dX4_init_4 hf)))
theorem m_X4_init (Z : zT) (l : Launch) (htr : l.stackTraces = false) (x0 : Option Nat) : zMv Z l yX4_init cX4_init 1 (none) 1 0 0 20 [va_rf x0] (f_X4_init Z.2.2 x0) := by
  intro h K
  refine Met.ofW (cc := cX4_init) (maxL := 1) (ret := none) (by decide) rfl ?_
  intro p e s m args below meth c s₁ B hml hv
  obtain ⟨rfl, hw, hf⟩ := hv
  have hin : meth.name = "<init>" := (name_of_methodNamed B.named B.method).1
  exact V.entry (X := (p, l, e, _, s, m, _, below, meth, c)) (m_X4_init_e (z_cx B hml htr hw) B.returns hin (Nat.le_of_ble_eq_true rfl) (Nat.le_of_ble_eq_true rfl) hf) hw.2.2.1 (by simp [lv_args, va_rf_cat, z_ci, z_cj, z_cf, z_cd]) (by simp [lg_sl, va_rf_cat, z_ci, z_cj, z_cf, z_cd])
def f_X3_init_L51b (g : Nat → Nat) (rec51 : Option Nat → Int32 → Int32 → AH → Prop) (x0 : Option Nat) (x1 : Int32) (x2 : Int32) (h : AH) (K : AH → Prop) : Prop :=
  if 9 ≤ x2 then (nnew h 0 fun o1 h2 => nn o1 (f_X0_init g o1 x1 h2 (fun h3 => pA h3 x0 3 50 o1 fun h4 => nnew h4 0 fun o5 h6 => nn o5 (f_X0_init g o5 x1 h6 (fun h7 => pA h7 x0 3 51 o5 fun h8 => K h8))))) else (gA h x0 3 49 fun v9 => nnew h 2 fun o10 h11 => nn o10 (f_X2_init g o10 h11 (fun h12 => stA h12 v9 10 x2 o10 2 fun h13 => rec51 x0 x1 (x2 + 1) h13)))
def f_X3_init_L51 (g : Nat → Nat) (K : AH → Prop) : Nat → Option Nat → Int32 → Int32 → AH → Prop
  | 0, _, _, _, _ => False
  | n + 1, x0, x1, x2, h => f_X3_init_L51b g (fun x0 x1 x2 h => f_X3_init_L51 g K n x0 x1 x2 h) x0 x1 x2 h K
def f_X3_init_L24b (g : Nat → Nat) (rec24 : Option Nat → Int32 → Int32 → AH → Prop) (x0 : Option Nat) (x1 : Int32) (x2 : Int32) (h : AH) (K : AH → Prop) : Prop :=
  if 10 ≤ x2 then (f_X3_init_L51 g K 12 x0 x1 0 h) else (gA h x0 3 48 fun v14 => nnew h 4 fun o15 h16 => nn o15 (f_X4_init g o15 h16 (fun h17 => stA h17 v14 9 x2 o15 4 fun h18 => rec24 x0 x1 (x2 + 1) h18)))
def f_X3_init_L24 (g : Nat → Nat) (K : AH → Prop) : Nat → Option Nat → Int32 → Int32 → AH → Prop
  | 0, _, _, _, _ => False
  | n + 1, x0, x1, x2, h => f_X3_init_L24b g (fun x0 x1 x2 h => f_X3_init_L24 g K n x0 x1 x2 h) x0 x1 x2 h K
def f_X3_init (g : Nat → Nat) (x0 : Option Nat) (x1 : Int32) (h : AH) (K : AH → Prop) : Prop :=
  nn x0 (nrow h 9 10 fun o19 h20 => pA h20 x0 3 48 o19 fun h21 => nrow h21 10 9 fun o22 h23 => pA h23 x0 3 49 o22 fun h24 => f_X3_init_L24 g K 12 x0 x1 0 h24)
theorem m_X3_init_L51b {Z : zT} {X : zX} (hC : Cx Z X RX3 cX3_init 3 2 28 97 41) (hr : X.2.2.2.2.2.2.2.2.1.sig.returnType = none) (hin : X.2.2.2.2.2.2.2.2.1.name = "<init>")  {K : AH → Prop} {rec51 : Option Nat → Int32 → Int32 → AH → Prop} {R51 S51 : Nat} (hR51 : 2 ≤ R51) (hS51 : 6 ≤ S51) (hrec51 : ∀ {x0 : Option Nat} {x1 : Int32} {x2 : Int32} {h : AH} {cells slots : Nat}, cells + R51 ≤ 28 → slots + S51 ≤ 97 → rec51 x0 x1 x2 h → V Z X (zE Z X (zQv Z K) 28 97) 3 h [(0, va_rf x0), (1, .int x1), (2, .int x2)] cells slots 51 []) {x0 : Option Nat} {x1 : Int32} {x2 : Int32} {h : AH} {cells slots : Nat} (hc : cells + 1 + R51 ≤ 28) (hs : slots + 3 + S51 ≤ 97) (hf : f_X3_init_L51b Z.2.2 rec51 x0 x1 x2 h K) : V Z X (zE Z X (zQv Z K) 28 97) 3 h [(0, va_rf x0), (1, .int x1), (2, .int x2)] cells slots 51 [] := by
  unfold f_X3_init_L51b at hf
  exact (z_iload_n (q := 52) hC dX3_init_51 rfl 2 rfl (z_bipush (q := 54) (v := 9) hC dX3_init_52 rfl bp_9 (z_icmp_ge (tgt := 76) (q := 57) hC dX3_init_54 rfl rfl hf (fun _ hf => (z_aload_n (q := 77) hC dX3_init_76 rfl 0 rfl (z_new (q := 80) hC zct_0 q_3 q_4 q_5 dX3_init_77 rfl (by omega) (by omega) hf fun o1 h2 hf => (z_dup (q := 81) hC dX3_init_80 rfl (va_rf_cat _) (z_iload_n (q := 82) hC dX3_init_81 rfl 1 rfl (z_callIv (q := 85) (As := [.int x1]) hC mi_X0_init rfl q_6 q_7 (F := f_X0_init Z.2.2 o1 x1) (m_X0_init Z X.2.1 hC.2.2.2.2.2.2.2.2.2.1 o1 x1) (Nat.le_of_ble_eq_true rfl) (Nat.le_of_ble_eq_true rfl) rfl (by simp [va_rf_cat, z_ci, z_cj, z_cf, z_cd]) (by omega) (by omega) dX3_init_82 rfl hf rfl (fun h3 hf => (z_fA (q := 88) hC hin pf_X3_30 (Or.inl ⟨_, rfl⟩) dX3_init_85 rfl rfl hf fun h4 hf => (z_aload_n (q := 89) hC dX3_init_88 rfl 0 rfl (z_new (q := 92) hC zct_0 q_3 q_4 q_5 dX3_init_89 rfl (by omega) (by omega) hf fun o5 h6 hf => (z_dup (q := 93) hC dX3_init_92 rfl (va_rf_cat _) (z_iload_n (q := 94) hC dX3_init_93 rfl 1 rfl (z_callIv (q := 97) (As := [.int x1]) hC mi_X0_init rfl q_6 q_7 (F := f_X0_init Z.2.2 o5 x1) (m_X0_init Z X.2.1 hC.2.2.2.2.2.2.2.2.2.1 o5 x1) (Nat.le_of_ble_eq_true rfl) (Nat.le_of_ble_eq_true rfl) rfl (by simp [va_rf_cat, z_ci, z_cj, z_cf, z_cd]) (by omega) (by omega) dX3_init_94 rfl hf rfl (fun h7 hf => (z_fA (q := 100) hC hin pf_X3_34 (Or.inl ⟨_, rfl⟩) dX3_init_97 rfl rfl hf fun h8 hf => (z_vret hC hr (by omega) (by omega) dX3_init_100 hf)))))))))))))))) (fun _ hf => (z_aload_n (q := 58) hC dX3_init_57 rfl 0 rfl (z_gA (q := 61) hC fb_X3_19 dX3_init_58 rfl rfl hf fun v9 hf => (z_iload_n (q := 62) hC dX3_init_61 rfl 2 rfl (z_new (q := 65) hC zct_2 q_8 q_9 q_10 dX3_init_62 rfl (by omega) (by omega) hf fun o10 h11 hf => (z_dup (q := 66) hC dX3_init_65 rfl (va_rf_cat _) (z_callINv (q := 69) (As := []) hC mi_X2_init rfl q_11 q_12 (F := f_X2_init Z.2.2 o10) (m_X2_init Z X.2.1 hC.2.2.2.2.2.2.2.2.2.1 o10) (Nat.le_of_ble_eq_true rfl) (Nat.le_of_ble_eq_true rfl) rfl (by simp [va_rf_cat, z_ci, z_cj, z_cf, z_cd]) (by omega) (by omega) dX3_init_66 rfl hf rfl (fun h12 hf => (z_aast (q := 70) hC zct_2 ⟨Nat.le_of_ble_eq_true rfl, Nat.le_of_ble_eq_true rfl⟩ rfl (Or.inl rfl) dX3_init_69 rfl hf fun h13 hf => (z_iinc (q := 73) (v := 1) (L' := [(2, .int (x2 + 1)), (0, va_rf x0), (1, .int x1)]) hC dX3_init_70 rfl 2 rfl ic_1 (Nat.le_of_ble_eq_true rfl) rfl (z_goto (tgt := 51) hC dX3_init_73 rfl (V.sub [1, 2, 0] rfl (hrec51 (by omega) (by omega) hf))))))))))))))))
theorem m_X3_init_L51 {Z : zT} {X : zX} (hC : Cx Z X RX3 cX3_init 3 2 28 97 41) (hr : X.2.2.2.2.2.2.2.2.1.sig.returnType = none) (hin : X.2.2.2.2.2.2.2.2.1.name = "<init>")  {K : AH → Prop} : ∀ (n : Nat) {x0 : Option Nat} {x1 : Int32} {x2 : Int32} {h : AH} {cells slots : Nat}, cells + n * 1 + 2 ≤ 28 → slots + n * 3 + 6 ≤ 97 → f_X3_init_L51 Z.2.2 K n x0 x1 x2 h → V Z X (zE Z X (zQv Z K) 28 97) 3 h [(0, va_rf x0), (1, .int x1), (2, .int x2)] cells slots 51 [] := by
  intro n
  induction n with
  | zero => intros; exact False.elim (by assumption)
  | succ n ih =>
    intro x0 x1 x2 h cells slots hc hs hf
    exact m_X3_init_L51b hC hr hin (R51 := n * 1 + 2) (S51 := n * 3 + 6) (rec51 := fun x0 x1 x2 h => f_X3_init_L51 Z.2.2 K n x0 x1 x2 h) (by omega) (by omega) (fun hc hs hf => ih (by omega) (by omega) hf) (by omega) (by omega) hf
theorem m_X3_init_L24b {Z : zT} {X : zX} (hC : Cx Z X RX3 cX3_init 3 2 28 97 41) (hr : X.2.2.2.2.2.2.2.2.1.sig.returnType = none) (hin : X.2.2.2.2.2.2.2.2.1.name = "<init>")  {K : AH → Prop} {rec24 : Option Nat → Int32 → Int32 → AH → Prop} {R24 S24 : Nat} (hR24 : 14 ≤ R24) (hS24 : 42 ≤ S24) (hrec24 : ∀ {x0 : Option Nat} {x1 : Int32} {x2 : Int32} {h : AH} {cells slots : Nat}, cells + R24 ≤ 28 → slots + S24 ≤ 97 → rec24 x0 x1 x2 h → V Z X (zE Z X (zQv Z K) 28 97) 3 h [(0, va_rf x0), (1, .int x1), (2, .int x2)] cells slots 24 []) {x0 : Option Nat} {x1 : Int32} {x2 : Int32} {h : AH} {cells slots : Nat} (hc : cells + 1 + R24 ≤ 28) (hs : slots + 3 + S24 ≤ 97) (hf : f_X3_init_L24b Z.2.2 rec24 x0 x1 x2 h K) : V Z X (zE Z X (zQv Z K) 28 97) 3 h [(0, va_rf x0), (1, .int x1), (2, .int x2)] cells slots 24 [] := by
  unfold f_X3_init_L24b at hf
  exact (z_iload_n (q := 25) hC dX3_init_24 rfl 2 rfl (z_bipush (q := 27) (v := 10) hC dX3_init_25 rfl bp_10 (z_icmp_ge (tgt := 49) (q := 30) hC dX3_init_27 rfl rfl hf (fun _ hf => (z_iconst (q := 50) (v := 0) hC dX3_init_49 rfl ic_0 (z_istore_n (q := 51) (L' := [(2, .int 0), (0, va_rf x0), (1, .int x1)]) hC dX3_init_50 rfl rfl (Nat.le_of_ble_eq_true rfl) rfl (V.sub [1, 2, 0] rfl (m_X3_init_L51 hC hr hin 12 (by omega) (by omega) hf))))) (fun _ hf => (z_aload_n (q := 31) hC dX3_init_30 rfl 0 rfl (z_gA (q := 34) hC fb_X3_11 dX3_init_31 rfl rfl hf fun v14 hf => (z_iload_n (q := 35) hC dX3_init_34 rfl 2 rfl (z_new (q := 38) hC zct_4 q_13 q_14 q_15 dX3_init_35 rfl (by omega) (by omega) hf fun o15 h16 hf => (z_dup (q := 39) hC dX3_init_38 rfl (va_rf_cat _) (z_callINv (q := 42) (As := []) hC mi_X4_init rfl q_17 q_18 (F := f_X4_init Z.2.2 o15) (m_X4_init Z X.2.1 hC.2.2.2.2.2.2.2.2.2.1 o15) (Nat.le_of_ble_eq_true rfl) (Nat.le_of_ble_eq_true rfl) rfl (by simp [va_rf_cat, z_ci, z_cj, z_cf, z_cd]) (by omega) (by omega) dX3_init_39 rfl hf rfl (fun h17 hf => (z_aast (q := 43) hC zct_4 ⟨Nat.le_of_ble_eq_true rfl, Nat.le_of_ble_eq_true rfl⟩ rfl (Or.inl rfl) dX3_init_42 rfl hf fun h18 hf => (z_iinc (q := 46) (v := 1) (L' := [(2, .int (x2 + 1)), (0, va_rf x0), (1, .int x1)]) hC dX3_init_43 rfl 2 rfl ic_1 (Nat.le_of_ble_eq_true rfl) rfl (z_goto (tgt := 24) hC dX3_init_46 rfl (V.sub [1, 2, 0] rfl (hrec24 (by omega) (by omega) hf))))))))))))))))
theorem m_X3_init_L24 {Z : zT} {X : zX} (hC : Cx Z X RX3 cX3_init 3 2 28 97 41) (hr : X.2.2.2.2.2.2.2.2.1.sig.returnType = none) (hin : X.2.2.2.2.2.2.2.2.1.name = "<init>")  {K : AH → Prop} : ∀ (n : Nat) {x0 : Option Nat} {x1 : Int32} {x2 : Int32} {h : AH} {cells slots : Nat}, cells + n * 1 + 14 ≤ 28 → slots + n * 3 + 42 ≤ 97 → f_X3_init_L24 Z.2.2 K n x0 x1 x2 h → V Z X (zE Z X (zQv Z K) 28 97) 3 h [(0, va_rf x0), (1, .int x1), (2, .int x2)] cells slots 24 [] := by
  intro n
  induction n with
  | zero => intros; exact False.elim (by assumption)
  | succ n ih =>
    intro x0 x1 x2 h cells slots hc hs hf
    exact m_X3_init_L24b hC hr hin (R24 := n * 1 + 14) (S24 := n * 3 + 42) (rec24 := fun x0 x1 x2 h => f_X3_init_L24 Z.2.2 K n x0 x1 x2 h) (by omega) (by omega) (fun hc hs hf => ih (by omega) (by omega) hf) (by omega) (by omega) hf
theorem m_X3_init_e {Z : zT} {X : zX} (hC : Cx Z X RX3 cX3_init 3 2 28 97 41) (hr : X.2.2.2.2.2.2.2.2.1.sig.returnType = none) (hin : X.2.2.2.2.2.2.2.2.1.name = "<init>") {x0 : Option Nat} {x1 : Int32} {h : AH} {K : AH → Prop} {cells slots : Nat} (hc : cells + 28 ≤ 28) (hs : slots + 97 ≤ 97) (hf : f_X3_init Z.2.2 x0 x1 h K) : V Z X (zE Z X (zQv Z K) 28 97) 3 h [(0, va_rf x0), (1, .int x1)] cells slots 0 [] := by
  unfold f_X3_init at hf
  exact (z_aload_n (q := 1) hC dX3_init_0 rfl 0 rfl (z_oinit (q := 4) hC q_21 zq_oi1 zq_oi2 dX3_init_1 rfl (by decide) (Nat.le_of_ble_eq_true rfl) (Nat.le_of_ble_eq_true rfl) hf fun hf => (z_aload_n (q := 5) hC dX3_init_4 rfl 0 rfl (z_bipush (q := 7) (v := 10) hC dX3_init_5 rfl bp_10 (z_newq (q := 10) (N := 10) hC 9 ⟨Nat.le_of_ble_eq_true rfl, Nat.le_of_ble_eq_true rfl⟩ rfl q_13 q_19 (by decide) (by decide) (Nat.le_of_ble_eq_true rfl) dX3_init_7 rfl (by omega) (by omega) hf fun o19 h20 hf => (z_fA (q := 13) hC hin pf_X3_11 (Or.inr ⟨_, rfl⟩) dX3_init_10 rfl rfl hf fun h21 hf => (z_aload_n (q := 14) hC dX3_init_13 rfl 0 rfl (z_bipush (q := 16) (v := 9) hC dX3_init_14 rfl bp_9 (z_newq (q := 19) (N := 9) hC 10 ⟨Nat.le_of_ble_eq_true rfl, Nat.le_of_ble_eq_true rfl⟩ rfl q_8 q_20 (by decide) (by decide) (Nat.le_of_ble_eq_true rfl) dX3_init_16 rfl (by omega) (by omega) hf fun o22 h23 hf => (z_fA (q := 22) hC hin pf_X3_19 (Or.inr ⟨_, rfl⟩) dX3_init_19 rfl rfl hf fun h24 hf => (z_iconst (q := 23) (v := 0) hC dX3_init_22 rfl ic_0 (z_istore_n (q := 24) (L' := [(2, .int 0), (0, va_rf x0), (1, .int x1)]) hC dX3_init_23 rfl rfl (Nat.le_of_ble_eq_true rfl) rfl (V.sub [1, 2, 0] rfl (m_X3_init_L24 hC hr hin 12 (by omega) (by omega) hf))))))))))))))
theorem m_X3_init (Z : zT) (l : Launch) (htr : l.stackTraces = false) (x0 : Option Nat) (x1 : Int32) : zMv Z l yX3_init cX3_init 3 (none) 2 28 97 41 [va_rf x0, .int x1] (f_X3_init Z.2.2 x0 x1) := by
  intro h K
  refine Met.ofW (cc := cX3_init) (maxL := 3) (ret := none) (by decide) rfl ?_
  intro p e s m args below meth c s₁ B hml hv
  obtain ⟨rfl, hw, hf⟩ := hv
  have hin : meth.name = "<init>" := (name_of_methodNamed B.named B.method).1
  exact V.entry (X := (p, l, e, _, s, m, _, below, meth, c)) (m_X3_init_e (z_cx B hml htr hw) B.returns hin (Nat.le_of_ble_eq_true rfl) (Nat.le_of_ble_eq_true rfl) hf) hw.2.2.1 (by simp [lv_args, va_rf_cat, z_ci, z_cj, z_cf, z_cd]) (by simp [lg_sl, va_rf_cat, z_ci, z_cj, z_cf, z_cd])
