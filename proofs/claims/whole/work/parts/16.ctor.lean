set_option maxRecDepth 100000 in
def fX11_init (sh : Sh) (G : Hp) (l0 : Nat) : Option (Sh × Hp) := bd (List.length sh) fun n1 => bd (sh ++ [(2, 2000)]) fun sh => bd (zr G n1) fun G2 => bd (sR G2 l0 1 (some n1)) fun G3 => bd (List.length sh) fun n4 => bd (sh ++ [(2, 2000)]) fun sh => bd (zr G3 n4) fun G5 => bd (sR G5 l0 3 (some n4)) fun G6 => bd (List.length sh) fun n7 => bd (sh ++ [(1, 403)]) fun sh => bd (zr G6 n7) fun G8 => bd (sR G8 l0 5 (some n7)) fun G9 => bd (List.length sh) fun n10 => bd (sh ++ [(1, 403)]) fun sh => bd (zr G9 n10) fun G11 => bd (sR G11 l0 6 (some n10)) fun G12 => bd (List.length sh) fun n13 => bd (sh ++ [(1, 403)]) fun sh => bd (zr G12 n13) fun G14 => bd (sR G14 l0 7 (some n13)) fun G15 => bd (List.length sh) fun n16 => bd (sh ++ [(4, 403)]) fun sh => bd (zr G15 n16) fun G17 => bd (sR G17 l0 8 (some n16)) fun G18 => bd (List.length sh) fun n19 => bd (sh ++ [(4, 26)]) fun sh => bd (zr G18 n19) fun G20 => bd (sR G20 l0 9 (some n19)) fun G21 => bd (sI G21 l0 17 (-1)) fun G22 => bd (List.length sh) fun n23 => bd (sh ++ [(4, 23)]) fun sh => bd (zr G22 n23) fun G24 => bd (sR G24 l0 21 (some n23)) fun G25 => bd (List.length sh) fun n26 => bd (sh ++ [(1, 23)]) fun sh => bd (zr G25 n26) fun G27 => bd (sR G27 l0 22 (some n26)) fun G28 => bd (List.length sh) fun n29 => bd (sh ++ [(1, 2)]) fun sh => bd (zr G28 n29) fun G30 => bd (sR G30 l0 23 (some n29)) fun G31 => bd (List.length sh) fun n32 => bd (sh ++ [(1, 2)]) fun sh => bd (zr G31 n32) fun G33 => bd (sR G33 l0 24 (some n32)) fun G34 => bd (List.length sh) fun n35 => bd (sh ++ [(1, 14)]) fun sh => bd (zr G34 n35) fun G36 => bd (sR G36 l0 25 (some n35)) fun G37 => bd (List.length sh) fun n38 => bd (sh ++ [(1, 14)]) fun sh => bd (zr G37 n38) fun G39 => bd (sR G39 l0 26 (some n38)) fun G40 => bd (List.length sh) fun n41 => bd (sh ++ [(1, 2)]) fun sh => bd (zr G40 n41) fun G42 => bd (sR G42 l0 27 (some n41)) fun G43 => bd (List.length sh) fun n44 => bd (sh ++ [(1, 8)]) fun sh => bd (zr G43 n44) fun G45 => bd (sR G45 l0 28 (some n44)) fun G46 => bd (List.length sh) fun n47 => bd (sh ++ [(1, 8)]) fun sh => bd (zr G46 n47) fun G48 => bd (sR G48 l0 29 (some n47)) fun G49 => bd (List.length sh) fun n50 => bd (sh ++ [(1, 8)]) fun sh => bd (zr G49 n50) fun G51 => bd (sR G51 l0 30 (some n50)) fun G52 => bd (List.length sh) fun n53 => bd (sh ++ [(1, 2)]) fun sh => bd (zr G52 n53) fun G54 => bd (sR G54 l0 31 (some n53)) fun G55 => bd (List.length sh) fun n56 => bd (sh ++ [(1, 8)]) fun sh => bd (zr G55 n56) fun G57 => bd (sR G57 l0 32 (some n56)) fun G58 => bd (List.length sh) fun n59 => bd (sh ++ [(1, 8)]) fun sh => bd (zr G58 n59) fun G60 => bd (sR G60 l0 33 (some n59)) fun G61 => bd (List.length sh) fun n62 => bd (sh ++ [(1, 8)]) fun sh => bd (zr G61 n62) fun G63 => bd (sR G63 l0 34 (some n62)) fun G64 => bd (List.length sh) fun n65 => bd (sh ++ [(1, 8)]) fun sh => bd (zr G64 n65) fun G66 => bd (sR G66 l0 35 (some n65)) fun G67 => bd (List.length sh) fun n68 => bd (sh ++ [(1, 840)]) fun sh => bd (zr G67 n68) fun G69 => bd (sR G69 l0 37 (some n68)) fun G70 => bd (List.length sh) fun n71 => bd (sh ++ [(1, 2)]) fun sh => bd (zr G70 n71) fun G72 => bd (sR G72 l0 38 (some n71)) fun G73 => bd (List.length sh) fun n74 => bd (sh ++ [(1, 2)]) fun sh => bd (zr G73 n74) fun G75 => bd (sR G75 l0 39 (some n74)) fun G76 => bd (List.length sh) fun n77 => bd (sh ++ [(1, 6)]) fun sh => bd (zr G76 n77) fun G78 => bd (sR G78 l0 40 (some n77)) fun G79 => bd (List.length sh) fun n80 => bd (sh ++ [(1, 6)]) fun sh => bd (zr G79 n80) fun G81 => bd (sR G81 l0 41 (some n80)) fun G82 => bd (List.length sh) fun n83 => bd (sh ++ [(3, 260)]) fun sh => bd (zr G82 n83) fun G84 => bd (sR G84 l0 43 (some n83)) fun G85 => bd (List.length sh) fun n86 => bd (sh ++ [(1, 260)]) fun sh => bd (zr G85 n86) fun G87 => bd (sR G87 l0 44 (some n86)) fun G88 => bd (List.length sh) fun n89 => bd (sh ++ [(1, 260)]) fun sh => bd (zr G88 n89) fun G90 => bd (sR G90 l0 45 (some n89)) fun G91 => bd (List.length sh) fun n92 => bd (sh ++ [(1, 260)]) fun sh => bd (zr G91 n92) fun G93 => bd (sR G93 l0 46 (some n92)) fun G94 => bd (List.length sh) fun n95 => bd (sh ++ [(1, 260)]) fun sh => bd (zr G94 n95) fun G96 => bd (sR G96 l0 47 (some n95)) fun G97 => bd (List.length sh) fun n98 => bd (sh ++ [(1, 840)]) fun sh => bd (zr G97 n98) fun G99 => bd (sR G99 l0 49 (some n98)) fun G100 => bd (List.length sh) fun n101 => bd (sh ++ [(1, 840)]) fun sh => bd (zr G100 n101) fun G102 => bd (sR G102 l0 50 (some n101)) fun G103 => bd (List.length sh) fun n104 => bd (sh ++ [(1, 80)]) fun sh => bd (zr G103 n104) fun G105 => bd (sR G105 l0 51 (some n104)) fun G106 => bd (List.length sh) fun n107 => bd (sh ++ [(1, 64)]) fun sh => bd (zr G106 n107) fun G108 => bd (sR G108 l0 53 (some n107)) fun G109 => bd (List.length sh) fun n110 => bd (sh ++ [(1, 9)]) fun sh => bd (zr G109 n110) fun G111 => bd (sR G111 l0 55 (some n110)) fun G112 => bd (List.length sh) fun n113 => bd (sh ++ [(1, 400)]) fun sh => bd (zr G112 n113) fun G114 => bd (sR G114 l0 56 (some n113)) fun G115 => bd (List.length sh) fun n116 => bd (sh ++ [(1, 26)]) fun sh => bd (zr G115 n116) fun G117 => bd (sR G117 l0 58 (some n116)) fun G118 => bd (List.length sh) fun n119 => bd (sh ++ [(1, 26)]) fun sh => bd (zr G118 n119) fun G120 => bd (sR G120 l0 59 (some n119)) fun G121 => bd (List.length sh) fun n122 => bd (sh ++ [(3, 60)]) fun sh => bd (zr G121 n122) fun G123 => bd (sR G123 l0 62 (some n122)) fun G124 => bd (List.length sh) fun n125 => bd (sh ++ [(1, 4)]) fun sh => bd (zr G124 n125) fun G126 => bd (sR G126 l0 63 (some n125)) fun G127 => bd (List.length sh) fun n128 => bd (sh ++ [(1, 1040)]) fun sh => bd (zr G127 n128) fun G129 => bd (sR G129 l0 65 (some n128)) fun G130 => bd (List.length sh) fun n131 => bd (sh ++ [(1, 35)]) fun sh => bd (zr G130 n131) fun G132 => bd (sR G132 l0 66 (some n131)) fun G133 => bd (List.length sh) fun n134 => bd (sh ++ [(1, 4)]) fun sh => bd (zr G133 n134) fun G135 => bd (sR G135 l0 68 (some n134)) fun G136 => bd (List.length sh) fun n137 => bd (sh ++ [(1, 4)]) fun sh => bd (zr G136 n137) fun G138 => bd (sR G138 l0 70 (some n137)) fun G139 => bd (List.length sh) fun n140 => bd (sh ++ [(1, 4)]) fun sh => bd (zr G139 n140) fun G141 => bd (sR G141 l0 71 (some n140)) fun G142 => bd (List.length sh) fun n143 => bd (sh ++ [(1, 4)]) fun sh => bd (zr G142 n143) fun G144 => bd (sR G144 l0 72 (some n143)) fun G145 => bd (List.length sh) fun n146 => bd (sh ++ [(1, 20)]) fun sh => bd (zr G145 n146) fun G147 => bd (sR G147 l0 75 (some n146)) fun G148 => bd (List.length sh) fun n149 => bd (sh ++ [(3, 20)]) fun sh => bd (zr G148 n149) fun G150 => bd (sR G150 l0 76 (some n149)) fun G151 => bd (List.length sh) fun n152 => bd (sh ++ [(3, 3)]) fun sh => bd (zr G151 n152) fun G153 => bd (sR G153 l0 77 (some n152)) fun G154 => bd (List.length sh) fun n155 => bd (sh ++ [(1, 78)]) fun sh => bd (zr G154 n155) fun G156 => bd (sR G156 l0 78 (some n155)) fun G157 => (fX11_plain sh G157 l0 0).bind fun G159 => (ldA sh G159 l0 9 4).bind fun a160 => (fX11_word 116 114 97 105 116 0 0).bind fun r161 => (asJ sh G159 a160 0 r161).bind fun G162 => (ldA sh G162 l0 9 4).bind fun a163 => (fX11_word 98 101 105 110 103 0 0).bind fun r164 => (asJ sh G162 a163 1 r164).bind fun G165 => (ldA sh G165 l0 9 4).bind fun a166 => (fX11_word 119 97 121 0 0 0 0).bind fun r167 => (asJ sh G165 a166 2 r167).bind fun G168 => (ldA sh G168 l0 9 4).bind fun a169 => (fX11_word 98 114 105 100 103 101 0).bind fun r170 => (asJ sh G168 a169 3 r170).bind fun G171 => (ldA sh G171 l0 9 4).bind fun a172 => (fX11_word 103 105 118 101 115 0 0).bind fun r173 => (asJ sh G171 a172 4 r173).bind fun G174 => (ldA sh G174 l0 9 4).bind fun a175 => (fX11_word 100 114 111 112 115 0 0).bind fun r176 => (asJ sh G174 a175 5 r176).bind fun G177 => (ldA sh G177 l0 9 4).bind fun a178 => (fX11_word 111 114 0 0 0 0 0).bind fun r179 => (asJ sh G177 a178 6 r179).bind fun G180 => (ldA sh G180 l0 9 4).bind fun a181 => (fX11_word 97 110 100 0 0 0 0).bind fun r182 => (asJ sh G180 a181 7 r182).bind fun G183 => (ldA sh G183 l0 9 4).bind fun a184 => (fX11_word 110 111 116 0 0 0 0).bind fun r185 => (asJ sh G183 a184 8 r185).bind fun G186 => (ldA sh G186 l0 9 4).bind fun a187 => (fX11_word 119 101 97 114 115 0 0).bind fun r188 => (asJ sh G186 a187 9 r188).bind fun G189 => (ldA sh G189 l0 9 4).bind fun a190 => (fX11_word 109 101 110 100 115 0 0).bind fun r191 => (asJ sh G189 a190 10 r191).bind fun G192 => (ldA sh G192 l0 9 4).bind fun a193 => (fX11_word 97 115 107 115 0 0 0).bind fun r194 => (asJ sh G192 a193 11 r194).bind fun G195 => (ldA sh G195 l0 9 4).bind fun a196 => (fX11_word 115 116 111 114 109 0 0).bind fun r197 => (asJ sh G195 a196 12 r197).bind fun G198 => (ldA sh G198 l0 9 4).bind fun a199 => (fX11_word 115 101 101 100 0 0 0).bind fun r200 => (asJ sh G198 a199 13 r200).bind fun G201 => (ldA sh G201 l0 9 4).bind fun a202 => (fX11_word 105 102 0 0 0 0 0).bind fun r203 => (asJ sh G201 a202 14 r203).bind fun G204 => (ldA sh G204 l0 9 4).bind fun a205 => (fX11_word 116 104 101 110 0 0 0).bind fun r206 => (asJ sh G204 a205 15 r206).bind fun G207 => (ldA sh G207 l0 9 4).bind fun a208 => (fX11_word 101 108 115 101 0 0 0).bind fun r209 => (asJ sh G207 a208 16 r209).bind fun G210 => (ldA sh G210 l0 9 4).bind fun a211 => (fX11_word 115 116 111 110 101 115 0).bind fun r212 => (asJ sh G210 a211 17 r212).bind fun G213 => (ldA sh G213 l0 9 4).bind fun a214 => (fX11_word 108 111 97 100 0 0 0).bind fun r215 => (asJ sh G213 a214 18 r215).bind fun G216 => (ldA sh G216 l0 9 4).bind fun a217 => (fX11_word 121 101 97 114 0 0 0).bind fun r218 => (asJ sh G216 a217 19 r218).bind fun G219 => (ldA sh G219 l0 9 4).bind fun a220 => (fX11_word 115 116 111 111 100 0 0).bind fun r221 => (asJ sh G219 a220 20 r221).bind fun G222 => (ldA sh G222 l0 9 4).bind fun a223 => (fX11_word 119 104 105 99 104 0 0).bind fun r224 => (asJ sh G222 a223 21 r224).bind fun G225 => (ldA sh G225 l0 9 4).bind fun a226 => (fX11_word 108 111 115 115 0 0 0).bind fun r227 => (asJ sh G225 a226 22 r227).bind fun G228 => (ldA sh G228 l0 9 4).bind fun a229 => (fX11_word 109 97 110 121 0 0 0).bind fun r230 => (asJ sh G228 a229 23 r230).bind fun G231 => (ldA sh G231 l0 9 4).bind fun a232 => (fX11_word 111 112 101 110 0 0 0).bind fun r233 => (asJ sh G231 a232 24 r233).bind fun G234 => (ldA sh G234 l0 9 4).bind fun a235 => (fX11_word 108 101 97 114 110 116 0).bind fun r236 => (asJ sh G234 a235 25 r236).bind fun G237 => (fX11_begins sh G237 l0).bind fun G239 => (fX11_keepsRow sh G239 l0).bind fun G241 => some (sh, G241)
set_option maxHeartbeats 40000000 in
set_option maxRecDepth 100000 in
theorem tX11_init {E : EX} {ad0 : Nat → Nat} {sh0 : Sh} {G : Hp} {l0 : Nat} {z : Sh × Hp} (C : Cx E RX11 cX11_init 1 none 3 52 11493) (hin : (xM E).name = "<init>") (hC : Cl sh0 G) (h_l0 : sh0[l0]? = some (0, 11)) (hf : fX11_init sh0 G l0 = some z) (kr : RCc E cX11_init ad0 sh0 z 52 11493) : VV E 0 0 (wq (xT E) ad0 G sh0) 0 [(0, .ref (ad0 l0))] [] := by
  unfold fX11_init at hf
  obtain ⟨sh, esh⟩ : ∃ x, x = sh0 := ⟨_, rfl⟩
  obtain ⟨ad, ead⟩ : ∃ x, x = ad0 := ⟨_, rfl⟩
  have hag : ∀ k, k < sh0.length → ad k = ad0 k := fun k _ => by rw [ead]
  have hle : sh0.length ≤ sh.length := by rw [esh]; exact Nat.le_refl _
  rw [← ead]
  rw [← esh] at hf hC h_l0
  have hw : wq (xT E) ad G sh0 = wq (xT E) ad G sh := by rw [esh]
  rw [hw]
  clear ead esh hw
  refine v_aload_n C 0 dX11_init_0 rfl rfl ?_
  refine v_objInit C oi_X11_7 (by decide) (Nat.le_of_ble_eq_true rfl) dX11_init_1 ?_
  refine v_aload_n C 0 dX11_init_4 rfl rfl ?_
  refine v_sipush (v := 2000) C dX11_init_5 (by decide) ?_
  refine w_newB (N := 2000) C zkw_a_byte hC (by decide) (by decide) (by decide) (by decide) (by decide) dX11_init_8 (fun ad n1 G2 sh en esh eG had hC => ?_)
  have hf := bd_at hf en
  have hf := bd_at hf esh
  have hf := bd_at hf eG
  rw [← had l0 (lt_o h_l0)]
  have hag := ag_step had hag hle
  have hle := le_app esh hle
  have h_l0 := sh_app esh h_l0
  have h_n1 := tg_new esh en
  clear had esh eG en
  refine v_putF C hin h_l0 pf_X11_13 rfl rfl h_n1.choose_spec hC dX11_init_10 (fun G3 eG hC => ?_)
  have hf := bd_at hf eG
  clear eG
  refine v_aload_n C 0 dX11_init_13 rfl rfl ?_
  refine v_sipush (v := 2000) C dX11_init_14 (by decide) ?_
  refine w_newB (N := 2000) C zkw_a_byte hC (by decide) (by decide) (by decide) (by decide) (by decide) dX11_init_17 (fun ad n4 G5 sh en esh eG had hC => ?_)
  have hf := bd_at hf en
  have hf := bd_at hf esh
  have hf := bd_at hf eG
  rw [← had l0 (lt_o h_l0)]
  have hag := ag_step had hag hle
  have hle := le_app esh hle
  have h_l0 := sh_app esh h_l0
  have h_n4 := tg_new esh en
  clear had esh eG en
  refine v_putF C hin h_l0 pf_X11_17 rfl rfl h_n4.choose_spec hC dX11_init_19 (fun G6 eG hC => ?_)
  have hf := bd_at hf eG
  clear eG
  refine v_aload_n C 0 dX11_init_22 rfl rfl ?_
  refine v_sipush (v := 403) C dX11_init_23 (by decide) ?_
  refine w_newI (N := 403) C zkw_a_int hC (by decide) (by decide) (by decide) (by decide) (by decide) dX11_init_26 (fun ad n7 G8 sh en esh eG had hC => ?_)
  have hf := bd_at hf en
  have hf := bd_at hf esh
  have hf := bd_at hf eG
  rw [← had l0 (lt_o h_l0)]
  have hag := ag_step had hag hle
  have hle := le_app esh hle
  have h_l0 := sh_app esh h_l0
  have h_n7 := tg_new esh en
  clear had esh eG en
  refine v_putF C hin h_l0 pf_X11_20 rfl rfl h_n7.choose_spec hC dX11_init_28 (fun G9 eG hC => ?_)
  have hf := bd_at hf eG
  clear eG
  refine v_aload_n C 0 dX11_init_31 rfl rfl ?_
  refine v_sipush (v := 403) C dX11_init_32 (by decide) ?_
  refine w_newI (N := 403) C zkw_a_int hC (by decide) (by decide) (by decide) (by decide) (by decide) dX11_init_35 (fun ad n10 G11 sh en esh eG had hC => ?_)
  have hf := bd_at hf en
  have hf := bd_at hf esh
  have hf := bd_at hf eG
  rw [← had l0 (lt_o h_l0)]
  have hag := ag_step had hag hle
  have hle := le_app esh hle
  have h_l0 := sh_app esh h_l0
  have h_n10 := tg_new esh en
  clear had esh eG en
  refine v_putF C hin h_l0 pf_X11_24 rfl rfl h_n10.choose_spec hC dX11_init_37 (fun G12 eG hC => ?_)
  have hf := bd_at hf eG
  clear eG
  refine v_aload_n C 0 dX11_init_40 rfl rfl ?_
  refine v_sipush (v := 403) C dX11_init_41 (by decide) ?_
  refine w_newI (N := 403) C zkw_a_int hC (by decide) (by decide) (by decide) (by decide) (by decide) dX11_init_44 (fun ad n13 G14 sh en esh eG had hC => ?_)
  have hf := bd_at hf en
  have hf := bd_at hf esh
  have hf := bd_at hf eG
  rw [← had l0 (lt_o h_l0)]
  have hag := ag_step had hag hle
  have hle := le_app esh hle
  have h_l0 := sh_app esh h_l0
  have h_n13 := tg_new esh en
  clear had esh eG en
  refine v_putF C hin h_l0 pf_X11_27 rfl rfl h_n13.choose_spec hC dX11_init_46 (fun G15 eG hC => ?_)
  have hf := bd_at hf eG
  clear eG
  refine v_aload_n C 0 dX11_init_49 rfl rfl ?_
  refine v_sipush (v := 403) C dX11_init_50 (by decide) ?_
  refine w_newJ (N := 403) C zkw_a_long hC (by decide) (by decide) (by decide) (by decide) (by decide) dX11_init_53 (fun ad n16 G17 sh en esh eG had hC => ?_)
  have hf := bd_at hf en
  have hf := bd_at hf esh
  have hf := bd_at hf eG
  rw [← had l0 (lt_o h_l0)]
  have hag := ag_step had hag hle
  have hle := le_app esh hle
  have h_l0 := sh_app esh h_l0
  have h_n16 := tg_new esh en
  clear had esh eG en
  refine v_putF C hin h_l0 pf_X11_30 rfl rfl h_n16.choose_spec hC dX11_init_55 (fun G18 eG hC => ?_)
  have hf := bd_at hf eG
  clear eG
  refine v_aload_n C 0 dX11_init_58 rfl rfl ?_
  refine v_bipush (v := 26) C dX11_init_59 (by decide) ?_
  refine w_newJ (N := 26) C zkw_a_long hC (by decide) (by decide) (by decide) (by decide) (by decide) dX11_init_61 (fun ad n19 G20 sh en esh eG had hC => ?_)
  have hf := bd_at hf en
  have hf := bd_at hf esh
  have hf := bd_at hf eG
  rw [← had l0 (lt_o h_l0)]
  have hag := ag_step had hag hle
  have hle := le_app esh hle
  have h_l0 := sh_app esh h_l0
  have h_n19 := tg_new esh en
  clear had esh eG en
  refine v_putF C hin h_l0 pf_X11_34 rfl rfl h_n19.choose_spec hC dX11_init_63 (fun G21 eG hC => ?_)
  have hf := bd_at hf eG
  clear eG
  refine v_aload_n C 0 dX11_init_66 rfl rfl ?_
  refine v_iconst (v := (-1)) C dX11_init_67 (by decide) ?_
  refine v_putI C h_l0 zfp_X11_37 dX11_init_68 (fun G22 eG22 => ?_)
  have hf := bd_at hf eG22
  have hC : Cl sh G22 := by rw [eG22]; exact hC
  refine v_aload_n C 0 dX11_init_71 rfl rfl ?_
  refine v_bipush (v := 23) C dX11_init_72 (by decide) ?_
  refine w_newJ (N := 23) C zkw_a_long hC (by decide) (by decide) (by decide) (by decide) (by decide) dX11_init_74 (fun ad n23 G24 sh en esh eG had hC => ?_)
  have hf := bd_at hf en
  have hf := bd_at hf esh
  have hf := bd_at hf eG
  rw [← had l0 (lt_o h_l0)]
  have hag := ag_step had hag hle
  have hle := le_app esh hle
  have h_l0 := sh_app esh h_l0
  have h_n23 := tg_new esh en
  clear had esh eG en
  refine v_putF C hin h_l0 pf_X11_40 rfl rfl h_n23.choose_spec hC dX11_init_76 (fun G25 eG hC => ?_)
  have hf := bd_at hf eG
  clear eG
  refine v_aload_n C 0 dX11_init_79 rfl rfl ?_
  refine v_bipush (v := 23) C dX11_init_80 (by decide) ?_
  refine w_newI (N := 23) C zkw_a_int hC (by decide) (by decide) (by decide) (by decide) (by decide) dX11_init_82 (fun ad n26 G27 sh en esh eG had hC => ?_)
  have hf := bd_at hf en
  have hf := bd_at hf esh
  have hf := bd_at hf eG
  rw [← had l0 (lt_o h_l0)]
  have hag := ag_step had hag hle
  have hle := le_app esh hle
  have h_l0 := sh_app esh h_l0
  have h_n26 := tg_new esh en
  clear had esh eG en
  refine v_putF C hin h_l0 pf_X11_43 rfl rfl h_n26.choose_spec hC dX11_init_84 (fun G28 eG hC => ?_)
  have hf := bd_at hf eG
  clear eG
  refine v_aload_n C 0 dX11_init_87 rfl rfl ?_
  refine v_iconst (v := 2) C dX11_init_88 (by decide) ?_
  refine w_newI (N := 2) C zkw_a_int hC (by decide) (by decide) (by decide) (by decide) (by decide) dX11_init_89 (fun ad n29 G30 sh en esh eG had hC => ?_)
  have hf := bd_at hf en
  have hf := bd_at hf esh
  have hf := bd_at hf eG
  rw [← had l0 (lt_o h_l0)]
  have hag := ag_step had hag hle
  have hle := le_app esh hle
  have h_l0 := sh_app esh h_l0
  have h_n29 := tg_new esh en
  clear had esh eG en
  refine v_putF C hin h_l0 pf_X11_46 rfl rfl h_n29.choose_spec hC dX11_init_91 (fun G31 eG hC => ?_)
  have hf := bd_at hf eG
  clear eG
  refine v_aload_n C 0 dX11_init_94 rfl rfl ?_
  refine v_iconst (v := 2) C dX11_init_95 (by decide) ?_
  refine w_newI (N := 2) C zkw_a_int hC (by decide) (by decide) (by decide) (by decide) (by decide) dX11_init_96 (fun ad n32 G33 sh en esh eG had hC => ?_)
  have hf := bd_at hf en
  have hf := bd_at hf esh
  have hf := bd_at hf eG
  rw [← had l0 (lt_o h_l0)]
  have hag := ag_step had hag hle
  have hle := le_app esh hle
  have h_l0 := sh_app esh h_l0
  have h_n32 := tg_new esh en
  clear had esh eG en
  refine v_putF C hin h_l0 pf_X11_49 rfl rfl h_n32.choose_spec hC dX11_init_98 (fun G34 eG hC => ?_)
  have hf := bd_at hf eG
  clear eG
  refine v_aload_n C 0 dX11_init_101 rfl rfl ?_
  refine v_bipush (v := 14) C dX11_init_102 (by decide) ?_
  refine w_newI (N := 14) C zkw_a_int hC (by decide) (by decide) (by decide) (by decide) (by decide) dX11_init_104 (fun ad n35 G36 sh en esh eG had hC => ?_)
  have hf := bd_at hf en
  have hf := bd_at hf esh
  have hf := bd_at hf eG
  rw [← had l0 (lt_o h_l0)]
  have hag := ag_step had hag hle
  have hle := le_app esh hle
  have h_l0 := sh_app esh h_l0
  have h_n35 := tg_new esh en
  clear had esh eG en
  refine v_putF C hin h_l0 pf_X11_52 rfl rfl h_n35.choose_spec hC dX11_init_106 (fun G37 eG hC => ?_)
  have hf := bd_at hf eG
  clear eG
  refine v_aload_n C 0 dX11_init_109 rfl rfl ?_
  refine v_bipush (v := 14) C dX11_init_110 (by decide) ?_
  refine w_newI (N := 14) C zkw_a_int hC (by decide) (by decide) (by decide) (by decide) (by decide) dX11_init_112 (fun ad n38 G39 sh en esh eG had hC => ?_)
  have hf := bd_at hf en
  have hf := bd_at hf esh
  have hf := bd_at hf eG
  rw [← had l0 (lt_o h_l0)]
  have hag := ag_step had hag hle
  have hle := le_app esh hle
  have h_l0 := sh_app esh h_l0
  have h_n38 := tg_new esh en
  clear had esh eG en
  refine v_putF C hin h_l0 pf_X11_55 rfl rfl h_n38.choose_spec hC dX11_init_114 (fun G40 eG hC => ?_)
  have hf := bd_at hf eG
  clear eG
  refine v_aload_n C 0 dX11_init_117 rfl rfl ?_
  refine v_iconst (v := 2) C dX11_init_118 (by decide) ?_
  refine w_newI (N := 2) C zkw_a_int hC (by decide) (by decide) (by decide) (by decide) (by decide) dX11_init_119 (fun ad n41 G42 sh en esh eG had hC => ?_)
  have hf := bd_at hf en
  have hf := bd_at hf esh
  have hf := bd_at hf eG
  rw [← had l0 (lt_o h_l0)]
  have hag := ag_step had hag hle
  have hle := le_app esh hle
  have h_l0 := sh_app esh h_l0
  have h_n41 := tg_new esh en
  clear had esh eG en
  refine v_putF C hin h_l0 pf_X11_58 rfl rfl h_n41.choose_spec hC dX11_init_121 (fun G43 eG hC => ?_)
  have hf := bd_at hf eG
  clear eG
  refine v_aload_n C 0 dX11_init_124 rfl rfl ?_
  refine v_bipush (v := 8) C dX11_init_125 (by decide) ?_
  refine w_newI (N := 8) C zkw_a_int hC (by decide) (by decide) (by decide) (by decide) (by decide) dX11_init_127 (fun ad n44 G45 sh en esh eG had hC => ?_)
  have hf := bd_at hf en
  have hf := bd_at hf esh
  have hf := bd_at hf eG
  rw [← had l0 (lt_o h_l0)]
  have hag := ag_step had hag hle
  have hle := le_app esh hle
  have h_l0 := sh_app esh h_l0
  have h_n44 := tg_new esh en
  clear had esh eG en
  refine v_putF C hin h_l0 pf_X11_61 rfl rfl h_n44.choose_spec hC dX11_init_129 (fun G46 eG hC => ?_)
  have hf := bd_at hf eG
  clear eG
  refine v_aload_n C 0 dX11_init_132 rfl rfl ?_
  refine v_bipush (v := 8) C dX11_init_133 (by decide) ?_
  refine w_newI (N := 8) C zkw_a_int hC (by decide) (by decide) (by decide) (by decide) (by decide) dX11_init_135 (fun ad n47 G48 sh en esh eG had hC => ?_)
  have hf := bd_at hf en
  have hf := bd_at hf esh
  have hf := bd_at hf eG
  rw [← had l0 (lt_o h_l0)]
  have hag := ag_step had hag hle
  have hle := le_app esh hle
  have h_l0 := sh_app esh h_l0
  have h_n47 := tg_new esh en
  clear had esh eG en
  refine v_putF C hin h_l0 pf_X11_64 rfl rfl h_n47.choose_spec hC dX11_init_137 (fun G49 eG hC => ?_)
  have hf := bd_at hf eG
  clear eG
  refine v_aload_n C 0 dX11_init_140 rfl rfl ?_
  refine v_bipush (v := 8) C dX11_init_141 (by decide) ?_
  refine w_newI (N := 8) C zkw_a_int hC (by decide) (by decide) (by decide) (by decide) (by decide) dX11_init_143 (fun ad n50 G51 sh en esh eG had hC => ?_)
  have hf := bd_at hf en
  have hf := bd_at hf esh
  have hf := bd_at hf eG
  rw [← had l0 (lt_o h_l0)]
  have hag := ag_step had hag hle
  have hle := le_app esh hle
  have h_l0 := sh_app esh h_l0
  have h_n50 := tg_new esh en
  clear had esh eG en
  refine v_putF C hin h_l0 pf_X11_67 rfl rfl h_n50.choose_spec hC dX11_init_145 (fun G52 eG hC => ?_)
  have hf := bd_at hf eG
  clear eG
  refine v_aload_n C 0 dX11_init_148 rfl rfl ?_
  refine v_iconst (v := 2) C dX11_init_149 (by decide) ?_
  refine w_newI (N := 2) C zkw_a_int hC (by decide) (by decide) (by decide) (by decide) (by decide) dX11_init_150 (fun ad n53 G54 sh en esh eG had hC => ?_)
  have hf := bd_at hf en
  have hf := bd_at hf esh
  have hf := bd_at hf eG
  rw [← had l0 (lt_o h_l0)]
  have hag := ag_step had hag hle
  have hle := le_app esh hle
  have h_l0 := sh_app esh h_l0
  have h_n53 := tg_new esh en
  clear had esh eG en
  refine v_putF C hin h_l0 pf_X11_70 rfl rfl h_n53.choose_spec hC dX11_init_152 (fun G55 eG hC => ?_)
  have hf := bd_at hf eG
  clear eG
  refine v_aload_n C 0 dX11_init_155 rfl rfl ?_
  refine v_bipush (v := 8) C dX11_init_156 (by decide) ?_
  refine w_newI (N := 8) C zkw_a_int hC (by decide) (by decide) (by decide) (by decide) (by decide) dX11_init_158 (fun ad n56 G57 sh en esh eG had hC => ?_)
  have hf := bd_at hf en
  have hf := bd_at hf esh
  have hf := bd_at hf eG
  rw [← had l0 (lt_o h_l0)]
  have hag := ag_step had hag hle
  have hle := le_app esh hle
  have h_l0 := sh_app esh h_l0
  have h_n56 := tg_new esh en
  clear had esh eG en
  refine v_putF C hin h_l0 pf_X11_73 rfl rfl h_n56.choose_spec hC dX11_init_160 (fun G58 eG hC => ?_)
  have hf := bd_at hf eG
  clear eG
  refine v_aload_n C 0 dX11_init_163 rfl rfl ?_
  refine v_bipush (v := 8) C dX11_init_164 (by decide) ?_
  refine w_newI (N := 8) C zkw_a_int hC (by decide) (by decide) (by decide) (by decide) (by decide) dX11_init_166 (fun ad n59 G60 sh en esh eG had hC => ?_)
  have hf := bd_at hf en
  have hf := bd_at hf esh
  have hf := bd_at hf eG
  rw [← had l0 (lt_o h_l0)]
  have hag := ag_step had hag hle
  have hle := le_app esh hle
  have h_l0 := sh_app esh h_l0
  have h_n59 := tg_new esh en
  clear had esh eG en
  refine v_putF C hin h_l0 pf_X11_76 rfl rfl h_n59.choose_spec hC dX11_init_168 (fun G61 eG hC => ?_)
  have hf := bd_at hf eG
  clear eG
  refine v_aload_n C 0 dX11_init_171 rfl rfl ?_
  refine v_bipush (v := 8) C dX11_init_172 (by decide) ?_
  refine w_newI (N := 8) C zkw_a_int hC (by decide) (by decide) (by decide) (by decide) (by decide) dX11_init_174 (fun ad n62 G63 sh en esh eG had hC => ?_)
  have hf := bd_at hf en
  have hf := bd_at hf esh
  have hf := bd_at hf eG
  rw [← had l0 (lt_o h_l0)]
  have hag := ag_step had hag hle
  have hle := le_app esh hle
  have h_l0 := sh_app esh h_l0
  have h_n62 := tg_new esh en
  clear had esh eG en
  refine v_putF C hin h_l0 pf_X11_79 rfl rfl h_n62.choose_spec hC dX11_init_176 (fun G64 eG hC => ?_)
  have hf := bd_at hf eG
  clear eG
  refine v_aload_n C 0 dX11_init_179 rfl rfl ?_
  refine v_bipush (v := 8) C dX11_init_180 (by decide) ?_
  refine w_newI (N := 8) C zkw_a_int hC (by decide) (by decide) (by decide) (by decide) (by decide) dX11_init_182 (fun ad n65 G66 sh en esh eG had hC => ?_)
  have hf := bd_at hf en
  have hf := bd_at hf esh
  have hf := bd_at hf eG
  rw [← had l0 (lt_o h_l0)]
  have hag := ag_step had hag hle
  have hle := le_app esh hle
  have h_l0 := sh_app esh h_l0
  have h_n65 := tg_new esh en
  clear had esh eG en
  refine v_putF C hin h_l0 pf_X11_82 rfl rfl h_n65.choose_spec hC dX11_init_184 (fun G67 eG hC => ?_)
  have hf := bd_at hf eG
  clear eG
  refine v_aload_n C 0 dX11_init_187 rfl rfl ?_
  refine v_sipush (v := 840) C dX11_init_188 (by decide) ?_
  refine w_newI (N := 840) C zkw_a_int hC (by decide) (by decide) (by decide) (by decide) (by decide) dX11_init_191 (fun ad n68 G69 sh en esh eG had hC => ?_)
  have hf := bd_at hf en
  have hf := bd_at hf esh
  have hf := bd_at hf eG
  rw [← had l0 (lt_o h_l0)]
  have hag := ag_step had hag hle
  have hle := le_app esh hle
  have h_l0 := sh_app esh h_l0
  have h_n68 := tg_new esh en
  clear had esh eG en
  refine v_putF C hin h_l0 pf_X11_85 rfl rfl h_n68.choose_spec hC dX11_init_193 (fun G70 eG hC => ?_)
  have hf := bd_at hf eG
  clear eG
  refine v_aload_n C 0 dX11_init_196 rfl rfl ?_
  refine v_iconst (v := 2) C dX11_init_197 (by decide) ?_
  refine w_newI (N := 2) C zkw_a_int hC (by decide) (by decide) (by decide) (by decide) (by decide) dX11_init_198 (fun ad n71 G72 sh en esh eG had hC => ?_)
  have hf := bd_at hf en
  have hf := bd_at hf esh
  have hf := bd_at hf eG
  rw [← had l0 (lt_o h_l0)]
  have hag := ag_step had hag hle
  have hle := le_app esh hle
  have h_l0 := sh_app esh h_l0
  have h_n71 := tg_new esh en
  clear had esh eG en
  refine v_putF C hin h_l0 pf_X11_88 rfl rfl h_n71.choose_spec hC dX11_init_200 (fun G73 eG hC => ?_)
  have hf := bd_at hf eG
  clear eG
  refine v_aload_n C 0 dX11_init_203 rfl rfl ?_
  refine v_iconst (v := 2) C dX11_init_204 (by decide) ?_
  refine w_newI (N := 2) C zkw_a_int hC (by decide) (by decide) (by decide) (by decide) (by decide) dX11_init_205 (fun ad n74 G75 sh en esh eG had hC => ?_)
  have hf := bd_at hf en
  have hf := bd_at hf esh
  have hf := bd_at hf eG
  rw [← had l0 (lt_o h_l0)]
  have hag := ag_step had hag hle
  have hle := le_app esh hle
  have h_l0 := sh_app esh h_l0
  have h_n74 := tg_new esh en
  clear had esh eG en
  refine v_putF C hin h_l0 pf_X11_91 rfl rfl h_n74.choose_spec hC dX11_init_207 (fun G76 eG hC => ?_)
  have hf := bd_at hf eG
  clear eG
  refine v_aload_n C 0 dX11_init_210 rfl rfl ?_
  refine v_bipush (v := 6) C dX11_init_211 (by decide) ?_
  refine w_newI (N := 6) C zkw_a_int hC (by decide) (by decide) (by decide) (by decide) (by decide) dX11_init_213 (fun ad n77 G78 sh en esh eG had hC => ?_)
  have hf := bd_at hf en
  have hf := bd_at hf esh
  have hf := bd_at hf eG
  rw [← had l0 (lt_o h_l0)]
  have hag := ag_step had hag hle
  have hle := le_app esh hle
  have h_l0 := sh_app esh h_l0
  have h_n77 := tg_new esh en
  clear had esh eG en
  refine v_putF C hin h_l0 pf_X11_94 rfl rfl h_n77.choose_spec hC dX11_init_215 (fun G79 eG hC => ?_)
  have hf := bd_at hf eG
  clear eG
  refine v_aload_n C 0 dX11_init_218 rfl rfl ?_
  refine v_bipush (v := 6) C dX11_init_219 (by decide) ?_
  refine w_newI (N := 6) C zkw_a_int hC (by decide) (by decide) (by decide) (by decide) (by decide) dX11_init_221 (fun ad n80 G81 sh en esh eG had hC => ?_)
  have hf := bd_at hf en
  have hf := bd_at hf esh
  have hf := bd_at hf eG
  rw [← had l0 (lt_o h_l0)]
  have hag := ag_step had hag hle
  have hle := le_app esh hle
  have h_l0 := sh_app esh h_l0
  have h_n80 := tg_new esh en
  clear had esh eG en
  refine v_putF C hin h_l0 pf_X11_97 rfl rfl h_n80.choose_spec hC dX11_init_223 (fun G82 eG hC => ?_)
  have hf := bd_at hf eG
  clear eG
  refine v_aload_n C 0 dX11_init_226 rfl rfl ?_
  refine v_sipush (v := 260) C dX11_init_227 (by decide) ?_
  refine w_newZ (N := 260) C zkw_a_boolean hC (by decide) (by decide) (by decide) (by decide) (by decide) dX11_init_230 (fun ad n83 G84 sh en esh eG had hC => ?_)
  have hf := bd_at hf en
  have hf := bd_at hf esh
  have hf := bd_at hf eG
  rw [← had l0 (lt_o h_l0)]
  have hag := ag_step had hag hle
  have hle := le_app esh hle
  have h_l0 := sh_app esh h_l0
  have h_n83 := tg_new esh en
  clear had esh eG en
  refine v_putF C hin h_l0 pf_X11_100 rfl rfl h_n83.choose_spec hC dX11_init_232 (fun G85 eG hC => ?_)
  have hf := bd_at hf eG
  clear eG
  refine v_aload_n C 0 dX11_init_235 rfl rfl ?_
  refine v_sipush (v := 260) C dX11_init_236 (by decide) ?_
  refine w_newI (N := 260) C zkw_a_int hC (by decide) (by decide) (by decide) (by decide) (by decide) dX11_init_239 (fun ad n86 G87 sh en esh eG had hC => ?_)
  have hf := bd_at hf en
  have hf := bd_at hf esh
  have hf := bd_at hf eG
  rw [← had l0 (lt_o h_l0)]
  have hag := ag_step had hag hle
  have hle := le_app esh hle
  have h_l0 := sh_app esh h_l0
  have h_n86 := tg_new esh en
  clear had esh eG en
  refine v_putF C hin h_l0 pf_X11_104 rfl rfl h_n86.choose_spec hC dX11_init_241 (fun G88 eG hC => ?_)
  have hf := bd_at hf eG
  clear eG
  refine v_aload_n C 0 dX11_init_244 rfl rfl ?_
  refine v_sipush (v := 260) C dX11_init_245 (by decide) ?_
  refine w_newI (N := 260) C zkw_a_int hC (by decide) (by decide) (by decide) (by decide) (by decide) dX11_init_248 (fun ad n89 G90 sh en esh eG had hC => ?_)
  have hf := bd_at hf en
  have hf := bd_at hf esh
  have hf := bd_at hf eG
  rw [← had l0 (lt_o h_l0)]
  have hag := ag_step had hag hle
  have hle := le_app esh hle
  have h_l0 := sh_app esh h_l0
  have h_n89 := tg_new esh en
  clear had esh eG en
  refine v_putF C hin h_l0 pf_X11_107 rfl rfl h_n89.choose_spec hC dX11_init_250 (fun G91 eG hC => ?_)
  have hf := bd_at hf eG
  clear eG
  refine v_aload_n C 0 dX11_init_253 rfl rfl ?_
  refine v_sipush (v := 260) C dX11_init_254 (by decide) ?_
  refine w_newI (N := 260) C zkw_a_int hC (by decide) (by decide) (by decide) (by decide) (by decide) dX11_init_257 (fun ad n92 G93 sh en esh eG had hC => ?_)
  have hf := bd_at hf en
  have hf := bd_at hf esh
  have hf := bd_at hf eG
  rw [← had l0 (lt_o h_l0)]
  have hag := ag_step had hag hle
  have hle := le_app esh hle
  have h_l0 := sh_app esh h_l0
  have h_n92 := tg_new esh en
  clear had esh eG en
  refine v_putF C hin h_l0 pf_X11_110 rfl rfl h_n92.choose_spec hC dX11_init_259 (fun G94 eG hC => ?_)
  have hf := bd_at hf eG
  clear eG
  refine v_aload_n C 0 dX11_init_262 rfl rfl ?_
  refine v_sipush (v := 260) C dX11_init_263 (by decide) ?_
  refine w_newI (N := 260) C zkw_a_int hC (by decide) (by decide) (by decide) (by decide) (by decide) dX11_init_266 (fun ad n95 G96 sh en esh eG had hC => ?_)
  have hf := bd_at hf en
  have hf := bd_at hf esh
  have hf := bd_at hf eG
  rw [← had l0 (lt_o h_l0)]
  have hag := ag_step had hag hle
  have hle := le_app esh hle
  have h_l0 := sh_app esh h_l0
  have h_n95 := tg_new esh en
  clear had esh eG en
  refine v_putF C hin h_l0 pf_X11_113 rfl rfl h_n95.choose_spec hC dX11_init_268 (fun G97 eG hC => ?_)
  have hf := bd_at hf eG
  clear eG
  refine v_aload_n C 0 dX11_init_271 rfl rfl ?_
  refine v_sipush (v := 840) C dX11_init_272 (by decide) ?_
  refine w_newI (N := 840) C zkw_a_int hC (by decide) (by decide) (by decide) (by decide) (by decide) dX11_init_275 (fun ad n98 G99 sh en esh eG had hC => ?_)
  have hf := bd_at hf en
  have hf := bd_at hf esh
  have hf := bd_at hf eG
  rw [← had l0 (lt_o h_l0)]
  have hag := ag_step had hag hle
  have hle := le_app esh hle
  have h_l0 := sh_app esh h_l0
  have h_n98 := tg_new esh en
  clear had esh eG en
  refine v_putF C hin h_l0 pf_X11_116 rfl rfl h_n98.choose_spec hC dX11_init_277 (fun G100 eG hC => ?_)
  have hf := bd_at hf eG
  clear eG
  refine v_aload_n C 0 dX11_init_280 rfl rfl ?_
  refine v_sipush (v := 840) C dX11_init_281 (by decide) ?_
  refine w_newI (N := 840) C zkw_a_int hC (by decide) (by decide) (by decide) (by decide) (by decide) dX11_init_284 (fun ad n101 G102 sh en esh eG had hC => ?_)
  have hf := bd_at hf en
  have hf := bd_at hf esh
  have hf := bd_at hf eG
  rw [← had l0 (lt_o h_l0)]
  have hag := ag_step had hag hle
  have hle := le_app esh hle
  have h_l0 := sh_app esh h_l0
  have h_n101 := tg_new esh en
  clear had esh eG en
  refine v_putF C hin h_l0 pf_X11_119 rfl rfl h_n101.choose_spec hC dX11_init_286 (fun G103 eG hC => ?_)
  have hf := bd_at hf eG
  clear eG
  refine v_aload_n C 0 dX11_init_289 rfl rfl ?_
  refine v_bipush (v := 80) C dX11_init_290 (by decide) ?_
  refine w_newI (N := 80) C zkw_a_int hC (by decide) (by decide) (by decide) (by decide) (by decide) dX11_init_292 (fun ad n104 G105 sh en esh eG had hC => ?_)
  have hf := bd_at hf en
  have hf := bd_at hf esh
  have hf := bd_at hf eG
  rw [← had l0 (lt_o h_l0)]
  have hag := ag_step had hag hle
  have hle := le_app esh hle
  have h_l0 := sh_app esh h_l0
  have h_n104 := tg_new esh en
  clear had esh eG en
  refine v_putF C hin h_l0 pf_X11_122 rfl rfl h_n104.choose_spec hC dX11_init_294 (fun G106 eG hC => ?_)
  have hf := bd_at hf eG
  clear eG
  refine v_aload_n C 0 dX11_init_297 rfl rfl ?_
  refine v_bipush (v := 64) C dX11_init_298 (by decide) ?_
  refine w_newI (N := 64) C zkw_a_int hC (by decide) (by decide) (by decide) (by decide) (by decide) dX11_init_300 (fun ad n107 G108 sh en esh eG had hC => ?_)
  have hf := bd_at hf en
  have hf := bd_at hf esh
  have hf := bd_at hf eG
  rw [← had l0 (lt_o h_l0)]
  have hag := ag_step had hag hle
  have hle := le_app esh hle
  have h_l0 := sh_app esh h_l0
  have h_n107 := tg_new esh en
  clear had esh eG en
  refine v_putF C hin h_l0 pf_X11_125 rfl rfl h_n107.choose_spec hC dX11_init_302 (fun G109 eG hC => ?_)
  have hf := bd_at hf eG
  clear eG
  refine v_aload_n C 0 dX11_init_305 rfl rfl ?_
  refine v_bipush (v := 9) C dX11_init_306 (by decide) ?_
  refine w_newI (N := 9) C zkw_a_int hC (by decide) (by decide) (by decide) (by decide) (by decide) dX11_init_308 (fun ad n110 G111 sh en esh eG had hC => ?_)
  have hf := bd_at hf en
  have hf := bd_at hf esh
  have hf := bd_at hf eG
  rw [← had l0 (lt_o h_l0)]
  have hag := ag_step had hag hle
  have hle := le_app esh hle
  have h_l0 := sh_app esh h_l0
  have h_n110 := tg_new esh en
  clear had esh eG en
  refine v_putF C hin h_l0 pf_X11_128 rfl rfl h_n110.choose_spec hC dX11_init_310 (fun G112 eG hC => ?_)
  have hf := bd_at hf eG
  clear eG
  refine v_aload_n C 0 dX11_init_313 rfl rfl ?_
  refine v_sipush (v := 400) C dX11_init_314 (by decide) ?_
  refine w_newI (N := 400) C zkw_a_int hC (by decide) (by decide) (by decide) (by decide) (by decide) dX11_init_317 (fun ad n113 G114 sh en esh eG had hC => ?_)
  have hf := bd_at hf en
  have hf := bd_at hf esh
  have hf := bd_at hf eG
  rw [← had l0 (lt_o h_l0)]
  have hag := ag_step had hag hle
  have hle := le_app esh hle
  have h_l0 := sh_app esh h_l0
  have h_n113 := tg_new esh en
  clear had esh eG en
  refine v_putF C hin h_l0 pf_X11_131 rfl rfl h_n113.choose_spec hC dX11_init_319 (fun G115 eG hC => ?_)
  have hf := bd_at hf eG
  clear eG
  refine v_aload_n C 0 dX11_init_322 rfl rfl ?_
  refine v_bipush (v := 26) C dX11_init_323 (by decide) ?_
  refine w_newI (N := 26) C zkw_a_int hC (by decide) (by decide) (by decide) (by decide) (by decide) dX11_init_325 (fun ad n116 G117 sh en esh eG had hC => ?_)
  have hf := bd_at hf en
  have hf := bd_at hf esh
  have hf := bd_at hf eG
  rw [← had l0 (lt_o h_l0)]
  have hag := ag_step had hag hle
  have hle := le_app esh hle
  have h_l0 := sh_app esh h_l0
  have h_n116 := tg_new esh en
  clear had esh eG en
  refine v_putF C hin h_l0 pf_X11_134 rfl rfl h_n116.choose_spec hC dX11_init_327 (fun G118 eG hC => ?_)
  have hf := bd_at hf eG
  clear eG
  refine v_aload_n C 0 dX11_init_330 rfl rfl ?_
  refine v_bipush (v := 26) C dX11_init_331 (by decide) ?_
  refine w_newI (N := 26) C zkw_a_int hC (by decide) (by decide) (by decide) (by decide) (by decide) dX11_init_333 (fun ad n119 G120 sh en esh eG had hC => ?_)
  have hf := bd_at hf en
  have hf := bd_at hf esh
  have hf := bd_at hf eG
  rw [← had l0 (lt_o h_l0)]
  have hag := ag_step had hag hle
  have hle := le_app esh hle
  have h_l0 := sh_app esh h_l0
  have h_n119 := tg_new esh en
  clear had esh eG en
  refine v_putF C hin h_l0 pf_X11_137 rfl rfl h_n119.choose_spec hC dX11_init_335 (fun G121 eG hC => ?_)
  have hf := bd_at hf eG
  clear eG
  refine v_aload_n C 0 dX11_init_338 rfl rfl ?_
  refine v_bipush (v := 60) C dX11_init_339 (by decide) ?_
  refine w_newZ (N := 60) C zkw_a_boolean hC (by decide) (by decide) (by decide) (by decide) (by decide) dX11_init_341 (fun ad n122 G123 sh en esh eG had hC => ?_)
  have hf := bd_at hf en
  have hf := bd_at hf esh
  have hf := bd_at hf eG
  rw [← had l0 (lt_o h_l0)]
  have hag := ag_step had hag hle
  have hle := le_app esh hle
  have h_l0 := sh_app esh h_l0
  have h_n122 := tg_new esh en
  clear had esh eG en
  refine v_putF C hin h_l0 pf_X11_140 rfl rfl h_n122.choose_spec hC dX11_init_343 (fun G124 eG hC => ?_)
  have hf := bd_at hf eG
  clear eG
  refine v_aload_n C 0 dX11_init_346 rfl rfl ?_
  refine v_iconst (v := 4) C dX11_init_347 (by decide) ?_
  refine w_newI (N := 4) C zkw_a_int hC (by decide) (by decide) (by decide) (by decide) (by decide) dX11_init_348 (fun ad n125 G126 sh en esh eG had hC => ?_)
  have hf := bd_at hf en
  have hf := bd_at hf esh
  have hf := bd_at hf eG
  rw [← had l0 (lt_o h_l0)]
  have hag := ag_step had hag hle
  have hle := le_app esh hle
  have h_l0 := sh_app esh h_l0
  have h_n125 := tg_new esh en
  clear had esh eG en
  refine v_putF C hin h_l0 pf_X11_143 rfl rfl h_n125.choose_spec hC dX11_init_350 (fun G127 eG hC => ?_)
  have hf := bd_at hf eG
  clear eG
  refine v_aload_n C 0 dX11_init_353 rfl rfl ?_
  refine v_sipush (v := 1040) C dX11_init_354 (by decide) ?_
  refine w_newI (N := 1040) C zkw_a_int hC (by decide) (by decide) (by decide) (by decide) (by decide) dX11_init_357 (fun ad n128 G129 sh en esh eG had hC => ?_)
  have hf := bd_at hf en
  have hf := bd_at hf esh
  have hf := bd_at hf eG
  rw [← had l0 (lt_o h_l0)]
  have hag := ag_step had hag hle
  have hle := le_app esh hle
  have h_l0 := sh_app esh h_l0
  have h_n128 := tg_new esh en
  clear had esh eG en
  refine v_putF C hin h_l0 pf_X11_146 rfl rfl h_n128.choose_spec hC dX11_init_359 (fun G130 eG hC => ?_)
  have hf := bd_at hf eG
  clear eG
  refine v_aload_n C 0 dX11_init_362 rfl rfl ?_
  refine v_bipush (v := 35) C dX11_init_363 (by decide) ?_
  refine w_newI (N := 35) C zkw_a_int hC (by decide) (by decide) (by decide) (by decide) (by decide) dX11_init_365 (fun ad n131 G132 sh en esh eG had hC => ?_)
  have hf := bd_at hf en
  have hf := bd_at hf esh
  have hf := bd_at hf eG
  rw [← had l0 (lt_o h_l0)]
  have hag := ag_step had hag hle
  have hle := le_app esh hle
  have h_l0 := sh_app esh h_l0
  have h_n131 := tg_new esh en
  clear had esh eG en
  refine v_putF C hin h_l0 pf_X11_149 rfl rfl h_n131.choose_spec hC dX11_init_367 (fun G133 eG hC => ?_)
  have hf := bd_at hf eG
  clear eG
  refine v_aload_n C 0 dX11_init_370 rfl rfl ?_
  refine v_iconst (v := 4) C dX11_init_371 (by decide) ?_
  refine w_newI (N := 4) C zkw_a_int hC (by decide) (by decide) (by decide) (by decide) (by decide) dX11_init_372 (fun ad n134 G135 sh en esh eG had hC => ?_)
  have hf := bd_at hf en
  have hf := bd_at hf esh
  have hf := bd_at hf eG
  rw [← had l0 (lt_o h_l0)]
  have hag := ag_step had hag hle
  have hle := le_app esh hle
  have h_l0 := sh_app esh h_l0
  have h_n134 := tg_new esh en
  clear had esh eG en
  refine v_putF C hin h_l0 pf_X11_152 rfl rfl h_n134.choose_spec hC dX11_init_374 (fun G136 eG hC => ?_)
  have hf := bd_at hf eG
  clear eG
  refine v_aload_n C 0 dX11_init_377 rfl rfl ?_
  refine v_iconst (v := 4) C dX11_init_378 (by decide) ?_
  refine w_newI (N := 4) C zkw_a_int hC (by decide) (by decide) (by decide) (by decide) (by decide) dX11_init_379 (fun ad n137 G138 sh en esh eG had hC => ?_)
  have hf := bd_at hf en
  have hf := bd_at hf esh
  have hf := bd_at hf eG
  rw [← had l0 (lt_o h_l0)]
  have hag := ag_step had hag hle
  have hle := le_app esh hle
  have h_l0 := sh_app esh h_l0
  have h_n137 := tg_new esh en
  clear had esh eG en
  refine v_putF C hin h_l0 pf_X11_155 rfl rfl h_n137.choose_spec hC dX11_init_381 (fun G139 eG hC => ?_)
  have hf := bd_at hf eG
  clear eG
  refine v_aload_n C 0 dX11_init_384 rfl rfl ?_
  refine v_iconst (v := 4) C dX11_init_385 (by decide) ?_
  refine w_newI (N := 4) C zkw_a_int hC (by decide) (by decide) (by decide) (by decide) (by decide) dX11_init_386 (fun ad n140 G141 sh en esh eG had hC => ?_)
  have hf := bd_at hf en
  have hf := bd_at hf esh
  have hf := bd_at hf eG
  rw [← had l0 (lt_o h_l0)]
  have hag := ag_step had hag hle
  have hle := le_app esh hle
  have h_l0 := sh_app esh h_l0
  have h_n140 := tg_new esh en
  clear had esh eG en
  refine v_putF C hin h_l0 pf_X11_158 rfl rfl h_n140.choose_spec hC dX11_init_388 (fun G142 eG hC => ?_)
  have hf := bd_at hf eG
  clear eG
  refine v_aload_n C 0 dX11_init_391 rfl rfl ?_
  refine v_iconst (v := 4) C dX11_init_392 (by decide) ?_
  refine w_newI (N := 4) C zkw_a_int hC (by decide) (by decide) (by decide) (by decide) (by decide) dX11_init_393 (fun ad n143 G144 sh en esh eG had hC => ?_)
  have hf := bd_at hf en
  have hf := bd_at hf esh
  have hf := bd_at hf eG
  rw [← had l0 (lt_o h_l0)]
  have hag := ag_step had hag hle
  have hle := le_app esh hle
  have h_l0 := sh_app esh h_l0
  have h_n143 := tg_new esh en
  clear had esh eG en
  refine v_putF C hin h_l0 pf_X11_161 rfl rfl h_n143.choose_spec hC dX11_init_395 (fun G145 eG hC => ?_)
  have hf := bd_at hf eG
  clear eG
  refine v_aload_n C 0 dX11_init_398 rfl rfl ?_
  refine v_bipush (v := 20) C dX11_init_399 (by decide) ?_
  refine w_newI (N := 20) C zkw_a_int hC (by decide) (by decide) (by decide) (by decide) (by decide) dX11_init_401 (fun ad n146 G147 sh en esh eG had hC => ?_)
  have hf := bd_at hf en
  have hf := bd_at hf esh
  have hf := bd_at hf eG
  rw [← had l0 (lt_o h_l0)]
  have hag := ag_step had hag hle
  have hle := le_app esh hle
  have h_l0 := sh_app esh h_l0
  have h_n146 := tg_new esh en
  clear had esh eG en
  refine v_putF C hin h_l0 pf_X11_164 rfl rfl h_n146.choose_spec hC dX11_init_403 (fun G148 eG hC => ?_)
  have hf := bd_at hf eG
  clear eG
  refine v_aload_n C 0 dX11_init_406 rfl rfl ?_
  refine v_bipush (v := 20) C dX11_init_407 (by decide) ?_
  refine w_newZ (N := 20) C zkw_a_boolean hC (by decide) (by decide) (by decide) (by decide) (by decide) dX11_init_409 (fun ad n149 G150 sh en esh eG had hC => ?_)
  have hf := bd_at hf en
  have hf := bd_at hf esh
  have hf := bd_at hf eG
  rw [← had l0 (lt_o h_l0)]
  have hag := ag_step had hag hle
  have hle := le_app esh hle
  have h_l0 := sh_app esh h_l0
  have h_n149 := tg_new esh en
  clear had esh eG en
  refine v_putF C hin h_l0 pf_X11_167 rfl rfl h_n149.choose_spec hC dX11_init_411 (fun G151 eG hC => ?_)
  have hf := bd_at hf eG
  clear eG
  refine v_aload_n C 0 dX11_init_414 rfl rfl ?_
  refine v_iconst (v := 3) C dX11_init_415 (by decide) ?_
  refine w_newZ (N := 3) C zkw_a_boolean hC (by decide) (by decide) (by decide) (by decide) (by decide) dX11_init_416 (fun ad n152 G153 sh en esh eG had hC => ?_)
  have hf := bd_at hf en
  have hf := bd_at hf esh
  have hf := bd_at hf eG
  rw [← had l0 (lt_o h_l0)]
  have hag := ag_step had hag hle
  have hle := le_app esh hle
  have h_l0 := sh_app esh h_l0
  have h_n152 := tg_new esh en
  clear had esh eG en
  refine v_putF C hin h_l0 pf_X11_170 rfl rfl h_n152.choose_spec hC dX11_init_418 (fun G154 eG hC => ?_)
  have hf := bd_at hf eG
  clear eG
  refine v_aload_n C 0 dX11_init_421 rfl rfl ?_
  refine v_bipush (v := 78) C dX11_init_422 (by decide) ?_
  refine w_newI (N := 78) C zkw_a_int hC (by decide) (by decide) (by decide) (by decide) (by decide) dX11_init_424 (fun ad n155 G156 sh en esh eG had hC => ?_)
  have hf := bd_at hf en
  have hf := bd_at hf esh
  have hf := bd_at hf eG
  rw [← had l0 (lt_o h_l0)]
  have hag := ag_step had hag hle
  have hle := le_app esh hle
  have h_l0 := sh_app esh h_l0
  have h_n155 := tg_new esh en
  clear had esh eG en
  refine v_putF C hin h_l0 pf_X11_173 rfl rfl h_n155.choose_spec hC dX11_init_426 (fun G157 eG hC => ?_)
  have hf := bd_at hf eG
  clear eG
  refine v_aload_n C 0 dX11_init_429 rfl rfl ?_
  refine v_iconst (v := 0) C dX11_init_430 (by decide) ?_
  obtain ⟨G159, qr158, hf⟩ := bn hf
  refine v_callVv (As := [.int 0]) (rest := []) C (sX11_plain h_l0 qr158) zcs_X11_176 (by decide) h_l0 rfl hC rfl rfl rfl (Nat.le_of_ble_eq_true rfl) ⟨by decide, by decide⟩ dX11_init_431 (fun hC => ?_)
  refine v_aload_n C 0 dX11_init_434 rfl rfl ?_
  obtain ⟨a160, qa160, hf⟩ := bn hf
  refine v_getA C h_l0 zfl_X11_34 qa160 dX11_init_435 (fun h_a160 => ?_)
  refine v_iconst (v := 0) C dX11_init_438 (by decide) ?_
  refine v_bipush (v := 116) C dX11_init_439 (by decide) ?_
  refine v_bipush (v := 114) C dX11_init_441 (by decide) ?_
  refine v_bipush (v := 97) C dX11_init_443 (by decide) ?_
  refine v_bipush (v := 105) C dX11_init_445 (by decide) ?_
  refine v_bipush (v := 116) C dX11_init_447 (by decide) ?_
  refine v_iconst (v := 0) C dX11_init_449 (by decide) ?_
  refine v_iconst (v := 0) C dX11_init_450 (by decide) ?_
  obtain ⟨r161, qr161, hf⟩ := bn hf
  refine v_callSl (As := [.int 116, .int 114, .int 97, .int 105, .int 116, .int 0, .int 0]) (rest := [.int 0, .ref (ad a160)]) C (sX11_word  qr161) zcs_X11_180 (by decide) hC rfl rfl rfl (Nat.le_of_ble_eq_true rfl) ⟨by decide, by decide⟩ dX11_init_451 (fun hC => ?_)
  obtain ⟨G162, qG162, hf⟩ := bn hf
  refine v_last C h_a160 qG162 hC dX11_init_454 (fun hC => ?_)
  refine v_aload_n C 0 dX11_init_455 rfl rfl ?_
  obtain ⟨a163, qa163, hf⟩ := bn hf
  refine v_getA C h_l0 zfl_X11_34 qa163 dX11_init_456 (fun h_a163 => ?_)
  refine v_iconst (v := 1) C dX11_init_459 (by decide) ?_
  refine v_bipush (v := 98) C dX11_init_460 (by decide) ?_
  refine v_bipush (v := 101) C dX11_init_462 (by decide) ?_
  refine v_bipush (v := 105) C dX11_init_464 (by decide) ?_
  refine v_bipush (v := 110) C dX11_init_466 (by decide) ?_
  refine v_bipush (v := 103) C dX11_init_468 (by decide) ?_
  refine v_iconst (v := 0) C dX11_init_470 (by decide) ?_
  refine v_iconst (v := 0) C dX11_init_471 (by decide) ?_
  obtain ⟨r164, qr164, hf⟩ := bn hf
  refine v_callSl (As := [.int 98, .int 101, .int 105, .int 110, .int 103, .int 0, .int 0]) (rest := [.int 1, .ref (ad a163)]) C (sX11_word  qr164) zcs_X11_180 (by decide) hC rfl rfl rfl (Nat.le_of_ble_eq_true rfl) ⟨by decide, by decide⟩ dX11_init_472 (fun hC => ?_)
  obtain ⟨G165, qG165, hf⟩ := bn hf
  refine v_last C h_a163 qG165 hC dX11_init_475 (fun hC => ?_)
  refine v_aload_n C 0 dX11_init_476 rfl rfl ?_
  obtain ⟨a166, qa166, hf⟩ := bn hf
  refine v_getA C h_l0 zfl_X11_34 qa166 dX11_init_477 (fun h_a166 => ?_)
  refine v_iconst (v := 2) C dX11_init_480 (by decide) ?_
  refine v_bipush (v := 119) C dX11_init_481 (by decide) ?_
  refine v_bipush (v := 97) C dX11_init_483 (by decide) ?_
  refine v_bipush (v := 121) C dX11_init_485 (by decide) ?_
  refine v_iconst (v := 0) C dX11_init_487 (by decide) ?_
  refine v_iconst (v := 0) C dX11_init_488 (by decide) ?_
  refine v_iconst (v := 0) C dX11_init_489 (by decide) ?_
  refine v_iconst (v := 0) C dX11_init_490 (by decide) ?_
  obtain ⟨r167, qr167, hf⟩ := bn hf
  refine v_callSl (As := [.int 119, .int 97, .int 121, .int 0, .int 0, .int 0, .int 0]) (rest := [.int 2, .ref (ad a166)]) C (sX11_word  qr167) zcs_X11_180 (by decide) hC rfl rfl rfl (Nat.le_of_ble_eq_true rfl) ⟨by decide, by decide⟩ dX11_init_491 (fun hC => ?_)
  obtain ⟨G168, qG168, hf⟩ := bn hf
  refine v_last C h_a166 qG168 hC dX11_init_494 (fun hC => ?_)
  refine v_aload_n C 0 dX11_init_495 rfl rfl ?_
  obtain ⟨a169, qa169, hf⟩ := bn hf
  refine v_getA C h_l0 zfl_X11_34 qa169 dX11_init_496 (fun h_a169 => ?_)
  refine v_iconst (v := 3) C dX11_init_499 (by decide) ?_
  refine v_bipush (v := 98) C dX11_init_500 (by decide) ?_
  refine v_bipush (v := 114) C dX11_init_502 (by decide) ?_
  refine v_bipush (v := 105) C dX11_init_504 (by decide) ?_
  refine v_bipush (v := 100) C dX11_init_506 (by decide) ?_
  refine v_bipush (v := 103) C dX11_init_508 (by decide) ?_
  refine v_bipush (v := 101) C dX11_init_510 (by decide) ?_
  refine v_iconst (v := 0) C dX11_init_512 (by decide) ?_
  obtain ⟨r170, qr170, hf⟩ := bn hf
  refine v_callSl (As := [.int 98, .int 114, .int 105, .int 100, .int 103, .int 101, .int 0]) (rest := [.int 3, .ref (ad a169)]) C (sX11_word  qr170) zcs_X11_180 (by decide) hC rfl rfl rfl (Nat.le_of_ble_eq_true rfl) ⟨by decide, by decide⟩ dX11_init_513 (fun hC => ?_)
  obtain ⟨G171, qG171, hf⟩ := bn hf
  refine v_last C h_a169 qG171 hC dX11_init_516 (fun hC => ?_)
  refine v_aload_n C 0 dX11_init_517 rfl rfl ?_
  obtain ⟨a172, qa172, hf⟩ := bn hf
  refine v_getA C h_l0 zfl_X11_34 qa172 dX11_init_518 (fun h_a172 => ?_)
  refine v_iconst (v := 4) C dX11_init_521 (by decide) ?_
  refine v_bipush (v := 103) C dX11_init_522 (by decide) ?_
  refine v_bipush (v := 105) C dX11_init_524 (by decide) ?_
  refine v_bipush (v := 118) C dX11_init_526 (by decide) ?_
  refine v_bipush (v := 101) C dX11_init_528 (by decide) ?_
  refine v_bipush (v := 115) C dX11_init_530 (by decide) ?_
  refine v_iconst (v := 0) C dX11_init_532 (by decide) ?_
  refine v_iconst (v := 0) C dX11_init_533 (by decide) ?_
  obtain ⟨r173, qr173, hf⟩ := bn hf
  refine v_callSl (As := [.int 103, .int 105, .int 118, .int 101, .int 115, .int 0, .int 0]) (rest := [.int 4, .ref (ad a172)]) C (sX11_word  qr173) zcs_X11_180 (by decide) hC rfl rfl rfl (Nat.le_of_ble_eq_true rfl) ⟨by decide, by decide⟩ dX11_init_534 (fun hC => ?_)
  obtain ⟨G174, qG174, hf⟩ := bn hf
  refine v_last C h_a172 qG174 hC dX11_init_537 (fun hC => ?_)
  refine v_aload_n C 0 dX11_init_538 rfl rfl ?_
  obtain ⟨a175, qa175, hf⟩ := bn hf
  refine v_getA C h_l0 zfl_X11_34 qa175 dX11_init_539 (fun h_a175 => ?_)
  refine v_iconst (v := 5) C dX11_init_542 (by decide) ?_
  refine v_bipush (v := 100) C dX11_init_543 (by decide) ?_
  refine v_bipush (v := 114) C dX11_init_545 (by decide) ?_
  refine v_bipush (v := 111) C dX11_init_547 (by decide) ?_
  refine v_bipush (v := 112) C dX11_init_549 (by decide) ?_
  refine v_bipush (v := 115) C dX11_init_551 (by decide) ?_
  refine v_iconst (v := 0) C dX11_init_553 (by decide) ?_
  refine v_iconst (v := 0) C dX11_init_554 (by decide) ?_
  obtain ⟨r176, qr176, hf⟩ := bn hf
  refine v_callSl (As := [.int 100, .int 114, .int 111, .int 112, .int 115, .int 0, .int 0]) (rest := [.int 5, .ref (ad a175)]) C (sX11_word  qr176) zcs_X11_180 (by decide) hC rfl rfl rfl (Nat.le_of_ble_eq_true rfl) ⟨by decide, by decide⟩ dX11_init_555 (fun hC => ?_)
  obtain ⟨G177, qG177, hf⟩ := bn hf
  refine v_last C h_a175 qG177 hC dX11_init_558 (fun hC => ?_)
  refine v_aload_n C 0 dX11_init_559 rfl rfl ?_
  obtain ⟨a178, qa178, hf⟩ := bn hf
  refine v_getA C h_l0 zfl_X11_34 qa178 dX11_init_560 (fun h_a178 => ?_)
  refine v_bipush (v := 6) C dX11_init_563 (by decide) ?_
  refine v_bipush (v := 111) C dX11_init_565 (by decide) ?_
  refine v_bipush (v := 114) C dX11_init_567 (by decide) ?_
  refine v_iconst (v := 0) C dX11_init_569 (by decide) ?_
  refine v_iconst (v := 0) C dX11_init_570 (by decide) ?_
  refine v_iconst (v := 0) C dX11_init_571 (by decide) ?_
  refine v_iconst (v := 0) C dX11_init_572 (by decide) ?_
  refine v_iconst (v := 0) C dX11_init_573 (by decide) ?_
  obtain ⟨r179, qr179, hf⟩ := bn hf
  refine v_callSl (As := [.int 111, .int 114, .int 0, .int 0, .int 0, .int 0, .int 0]) (rest := [.int 6, .ref (ad a178)]) C (sX11_word  qr179) zcs_X11_180 (by decide) hC rfl rfl rfl (Nat.le_of_ble_eq_true rfl) ⟨by decide, by decide⟩ dX11_init_574 (fun hC => ?_)
  obtain ⟨G180, qG180, hf⟩ := bn hf
  refine v_last C h_a178 qG180 hC dX11_init_577 (fun hC => ?_)
  refine v_aload_n C 0 dX11_init_578 rfl rfl ?_
  obtain ⟨a181, qa181, hf⟩ := bn hf
  refine v_getA C h_l0 zfl_X11_34 qa181 dX11_init_579 (fun h_a181 => ?_)
  refine v_bipush (v := 7) C dX11_init_582 (by decide) ?_
  refine v_bipush (v := 97) C dX11_init_584 (by decide) ?_
  refine v_bipush (v := 110) C dX11_init_586 (by decide) ?_
  refine v_bipush (v := 100) C dX11_init_588 (by decide) ?_
  refine v_iconst (v := 0) C dX11_init_590 (by decide) ?_
  refine v_iconst (v := 0) C dX11_init_591 (by decide) ?_
  refine v_iconst (v := 0) C dX11_init_592 (by decide) ?_
  refine v_iconst (v := 0) C dX11_init_593 (by decide) ?_
  obtain ⟨r182, qr182, hf⟩ := bn hf
  refine v_callSl (As := [.int 97, .int 110, .int 100, .int 0, .int 0, .int 0, .int 0]) (rest := [.int 7, .ref (ad a181)]) C (sX11_word  qr182) zcs_X11_180 (by decide) hC rfl rfl rfl (Nat.le_of_ble_eq_true rfl) ⟨by decide, by decide⟩ dX11_init_594 (fun hC => ?_)
  obtain ⟨G183, qG183, hf⟩ := bn hf
  refine v_last C h_a181 qG183 hC dX11_init_597 (fun hC => ?_)
  refine v_aload_n C 0 dX11_init_598 rfl rfl ?_
  obtain ⟨a184, qa184, hf⟩ := bn hf
  refine v_getA C h_l0 zfl_X11_34 qa184 dX11_init_599 (fun h_a184 => ?_)
  refine v_bipush (v := 8) C dX11_init_602 (by decide) ?_
  refine v_bipush (v := 110) C dX11_init_604 (by decide) ?_
  refine v_bipush (v := 111) C dX11_init_606 (by decide) ?_
  refine v_bipush (v := 116) C dX11_init_608 (by decide) ?_
  refine v_iconst (v := 0) C dX11_init_610 (by decide) ?_
  refine v_iconst (v := 0) C dX11_init_611 (by decide) ?_
  refine v_iconst (v := 0) C dX11_init_612 (by decide) ?_
  refine v_iconst (v := 0) C dX11_init_613 (by decide) ?_
  obtain ⟨r185, qr185, hf⟩ := bn hf
  refine v_callSl (As := [.int 110, .int 111, .int 116, .int 0, .int 0, .int 0, .int 0]) (rest := [.int 8, .ref (ad a184)]) C (sX11_word  qr185) zcs_X11_180 (by decide) hC rfl rfl rfl (Nat.le_of_ble_eq_true rfl) ⟨by decide, by decide⟩ dX11_init_614 (fun hC => ?_)
  obtain ⟨G186, qG186, hf⟩ := bn hf
  refine v_last C h_a184 qG186 hC dX11_init_617 (fun hC => ?_)
  refine v_aload_n C 0 dX11_init_618 rfl rfl ?_
  obtain ⟨a187, qa187, hf⟩ := bn hf
  refine v_getA C h_l0 zfl_X11_34 qa187 dX11_init_619 (fun h_a187 => ?_)
  refine v_bipush (v := 9) C dX11_init_622 (by decide) ?_
  refine v_bipush (v := 119) C dX11_init_624 (by decide) ?_
  refine v_bipush (v := 101) C dX11_init_626 (by decide) ?_
  refine v_bipush (v := 97) C dX11_init_628 (by decide) ?_
  refine v_bipush (v := 114) C dX11_init_630 (by decide) ?_
  refine v_bipush (v := 115) C dX11_init_632 (by decide) ?_
  refine v_iconst (v := 0) C dX11_init_634 (by decide) ?_
  refine v_iconst (v := 0) C dX11_init_635 (by decide) ?_
  obtain ⟨r188, qr188, hf⟩ := bn hf
  refine v_callSl (As := [.int 119, .int 101, .int 97, .int 114, .int 115, .int 0, .int 0]) (rest := [.int 9, .ref (ad a187)]) C (sX11_word  qr188) zcs_X11_180 (by decide) hC rfl rfl rfl (Nat.le_of_ble_eq_true rfl) ⟨by decide, by decide⟩ dX11_init_636 (fun hC => ?_)
  obtain ⟨G189, qG189, hf⟩ := bn hf
  refine v_last C h_a187 qG189 hC dX11_init_639 (fun hC => ?_)
  refine v_aload_n C 0 dX11_init_640 rfl rfl ?_
  obtain ⟨a190, qa190, hf⟩ := bn hf
  refine v_getA C h_l0 zfl_X11_34 qa190 dX11_init_641 (fun h_a190 => ?_)
  refine v_bipush (v := 10) C dX11_init_644 (by decide) ?_
  refine v_bipush (v := 109) C dX11_init_646 (by decide) ?_
  refine v_bipush (v := 101) C dX11_init_648 (by decide) ?_
  refine v_bipush (v := 110) C dX11_init_650 (by decide) ?_
  refine v_bipush (v := 100) C dX11_init_652 (by decide) ?_
  refine v_bipush (v := 115) C dX11_init_654 (by decide) ?_
  refine v_iconst (v := 0) C dX11_init_656 (by decide) ?_
  refine v_iconst (v := 0) C dX11_init_657 (by decide) ?_
  obtain ⟨r191, qr191, hf⟩ := bn hf
  refine v_callSl (As := [.int 109, .int 101, .int 110, .int 100, .int 115, .int 0, .int 0]) (rest := [.int 10, .ref (ad a190)]) C (sX11_word  qr191) zcs_X11_180 (by decide) hC rfl rfl rfl (Nat.le_of_ble_eq_true rfl) ⟨by decide, by decide⟩ dX11_init_658 (fun hC => ?_)
  obtain ⟨G192, qG192, hf⟩ := bn hf
  refine v_last C h_a190 qG192 hC dX11_init_661 (fun hC => ?_)
  refine v_aload_n C 0 dX11_init_662 rfl rfl ?_
  obtain ⟨a193, qa193, hf⟩ := bn hf
  refine v_getA C h_l0 zfl_X11_34 qa193 dX11_init_663 (fun h_a193 => ?_)
  refine v_bipush (v := 11) C dX11_init_666 (by decide) ?_
  refine v_bipush (v := 97) C dX11_init_668 (by decide) ?_
  refine v_bipush (v := 115) C dX11_init_670 (by decide) ?_
  refine v_bipush (v := 107) C dX11_init_672 (by decide) ?_
  refine v_bipush (v := 115) C dX11_init_674 (by decide) ?_
  refine v_iconst (v := 0) C dX11_init_676 (by decide) ?_
  refine v_iconst (v := 0) C dX11_init_677 (by decide) ?_
  refine v_iconst (v := 0) C dX11_init_678 (by decide) ?_
  obtain ⟨r194, qr194, hf⟩ := bn hf
  refine v_callSl (As := [.int 97, .int 115, .int 107, .int 115, .int 0, .int 0, .int 0]) (rest := [.int 11, .ref (ad a193)]) C (sX11_word  qr194) zcs_X11_180 (by decide) hC rfl rfl rfl (Nat.le_of_ble_eq_true rfl) ⟨by decide, by decide⟩ dX11_init_679 (fun hC => ?_)
  obtain ⟨G195, qG195, hf⟩ := bn hf
  refine v_last C h_a193 qG195 hC dX11_init_682 (fun hC => ?_)
  refine v_aload_n C 0 dX11_init_683 rfl rfl ?_
  obtain ⟨a196, qa196, hf⟩ := bn hf
  refine v_getA C h_l0 zfl_X11_34 qa196 dX11_init_684 (fun h_a196 => ?_)
  refine v_bipush (v := 12) C dX11_init_687 (by decide) ?_
  refine v_bipush (v := 115) C dX11_init_689 (by decide) ?_
  refine v_bipush (v := 116) C dX11_init_691 (by decide) ?_
  refine v_bipush (v := 111) C dX11_init_693 (by decide) ?_
  refine v_bipush (v := 114) C dX11_init_695 (by decide) ?_
  refine v_bipush (v := 109) C dX11_init_697 (by decide) ?_
  refine v_iconst (v := 0) C dX11_init_699 (by decide) ?_
  refine v_iconst (v := 0) C dX11_init_700 (by decide) ?_
  obtain ⟨r197, qr197, hf⟩ := bn hf
  refine v_callSl (As := [.int 115, .int 116, .int 111, .int 114, .int 109, .int 0, .int 0]) (rest := [.int 12, .ref (ad a196)]) C (sX11_word  qr197) zcs_X11_180 (by decide) hC rfl rfl rfl (Nat.le_of_ble_eq_true rfl) ⟨by decide, by decide⟩ dX11_init_701 (fun hC => ?_)
  obtain ⟨G198, qG198, hf⟩ := bn hf
  refine v_last C h_a196 qG198 hC dX11_init_704 (fun hC => ?_)
  refine v_aload_n C 0 dX11_init_705 rfl rfl ?_
  obtain ⟨a199, qa199, hf⟩ := bn hf
  refine v_getA C h_l0 zfl_X11_34 qa199 dX11_init_706 (fun h_a199 => ?_)
  refine v_bipush (v := 13) C dX11_init_709 (by decide) ?_
  refine v_bipush (v := 115) C dX11_init_711 (by decide) ?_
  refine v_bipush (v := 101) C dX11_init_713 (by decide) ?_
  refine v_bipush (v := 101) C dX11_init_715 (by decide) ?_
  refine v_bipush (v := 100) C dX11_init_717 (by decide) ?_
  refine v_iconst (v := 0) C dX11_init_719 (by decide) ?_
  refine v_iconst (v := 0) C dX11_init_720 (by decide) ?_
  refine v_iconst (v := 0) C dX11_init_721 (by decide) ?_
  obtain ⟨r200, qr200, hf⟩ := bn hf
  refine v_callSl (As := [.int 115, .int 101, .int 101, .int 100, .int 0, .int 0, .int 0]) (rest := [.int 13, .ref (ad a199)]) C (sX11_word  qr200) zcs_X11_180 (by decide) hC rfl rfl rfl (Nat.le_of_ble_eq_true rfl) ⟨by decide, by decide⟩ dX11_init_722 (fun hC => ?_)
  obtain ⟨G201, qG201, hf⟩ := bn hf
  refine v_last C h_a199 qG201 hC dX11_init_725 (fun hC => ?_)
  refine v_aload_n C 0 dX11_init_726 rfl rfl ?_
  obtain ⟨a202, qa202, hf⟩ := bn hf
  refine v_getA C h_l0 zfl_X11_34 qa202 dX11_init_727 (fun h_a202 => ?_)
  refine v_bipush (v := 14) C dX11_init_730 (by decide) ?_
  refine v_bipush (v := 105) C dX11_init_732 (by decide) ?_
  refine v_bipush (v := 102) C dX11_init_734 (by decide) ?_
  refine v_iconst (v := 0) C dX11_init_736 (by decide) ?_
  refine v_iconst (v := 0) C dX11_init_737 (by decide) ?_
  refine v_iconst (v := 0) C dX11_init_738 (by decide) ?_
  refine v_iconst (v := 0) C dX11_init_739 (by decide) ?_
  refine v_iconst (v := 0) C dX11_init_740 (by decide) ?_
  obtain ⟨r203, qr203, hf⟩ := bn hf
  refine v_callSl (As := [.int 105, .int 102, .int 0, .int 0, .int 0, .int 0, .int 0]) (rest := [.int 14, .ref (ad a202)]) C (sX11_word  qr203) zcs_X11_180 (by decide) hC rfl rfl rfl (Nat.le_of_ble_eq_true rfl) ⟨by decide, by decide⟩ dX11_init_741 (fun hC => ?_)
  obtain ⟨G204, qG204, hf⟩ := bn hf
  refine v_last C h_a202 qG204 hC dX11_init_744 (fun hC => ?_)
  refine v_aload_n C 0 dX11_init_745 rfl rfl ?_
  obtain ⟨a205, qa205, hf⟩ := bn hf
  refine v_getA C h_l0 zfl_X11_34 qa205 dX11_init_746 (fun h_a205 => ?_)
  refine v_bipush (v := 15) C dX11_init_749 (by decide) ?_
  refine v_bipush (v := 116) C dX11_init_751 (by decide) ?_
  refine v_bipush (v := 104) C dX11_init_753 (by decide) ?_
  refine v_bipush (v := 101) C dX11_init_755 (by decide) ?_
  refine v_bipush (v := 110) C dX11_init_757 (by decide) ?_
  refine v_iconst (v := 0) C dX11_init_759 (by decide) ?_
  refine v_iconst (v := 0) C dX11_init_760 (by decide) ?_
  refine v_iconst (v := 0) C dX11_init_761 (by decide) ?_
  obtain ⟨r206, qr206, hf⟩ := bn hf
  refine v_callSl (As := [.int 116, .int 104, .int 101, .int 110, .int 0, .int 0, .int 0]) (rest := [.int 15, .ref (ad a205)]) C (sX11_word  qr206) zcs_X11_180 (by decide) hC rfl rfl rfl (Nat.le_of_ble_eq_true rfl) ⟨by decide, by decide⟩ dX11_init_762 (fun hC => ?_)
  obtain ⟨G207, qG207, hf⟩ := bn hf
  refine v_last C h_a205 qG207 hC dX11_init_765 (fun hC => ?_)
  refine v_aload_n C 0 dX11_init_766 rfl rfl ?_
  obtain ⟨a208, qa208, hf⟩ := bn hf
  refine v_getA C h_l0 zfl_X11_34 qa208 dX11_init_767 (fun h_a208 => ?_)
  refine v_bipush (v := 16) C dX11_init_770 (by decide) ?_
  refine v_bipush (v := 101) C dX11_init_772 (by decide) ?_
  refine v_bipush (v := 108) C dX11_init_774 (by decide) ?_
  refine v_bipush (v := 115) C dX11_init_776 (by decide) ?_
  refine v_bipush (v := 101) C dX11_init_778 (by decide) ?_
  refine v_iconst (v := 0) C dX11_init_780 (by decide) ?_
  refine v_iconst (v := 0) C dX11_init_781 (by decide) ?_
  refine v_iconst (v := 0) C dX11_init_782 (by decide) ?_
  obtain ⟨r209, qr209, hf⟩ := bn hf
  refine v_callSl (As := [.int 101, .int 108, .int 115, .int 101, .int 0, .int 0, .int 0]) (rest := [.int 16, .ref (ad a208)]) C (sX11_word  qr209) zcs_X11_180 (by decide) hC rfl rfl rfl (Nat.le_of_ble_eq_true rfl) ⟨by decide, by decide⟩ dX11_init_783 (fun hC => ?_)
  obtain ⟨G210, qG210, hf⟩ := bn hf
  refine v_last C h_a208 qG210 hC dX11_init_786 (fun hC => ?_)
  refine v_aload_n C 0 dX11_init_787 rfl rfl ?_
  obtain ⟨a211, qa211, hf⟩ := bn hf
  refine v_getA C h_l0 zfl_X11_34 qa211 dX11_init_788 (fun h_a211 => ?_)
  refine v_bipush (v := 17) C dX11_init_791 (by decide) ?_
  refine v_bipush (v := 115) C dX11_init_793 (by decide) ?_
  refine v_bipush (v := 116) C dX11_init_795 (by decide) ?_
  refine v_bipush (v := 111) C dX11_init_797 (by decide) ?_
  refine v_bipush (v := 110) C dX11_init_799 (by decide) ?_
  refine v_bipush (v := 101) C dX11_init_801 (by decide) ?_
  refine v_bipush (v := 115) C dX11_init_803 (by decide) ?_
  refine v_iconst (v := 0) C dX11_init_805 (by decide) ?_
  obtain ⟨r212, qr212, hf⟩ := bn hf
  refine v_callSl (As := [.int 115, .int 116, .int 111, .int 110, .int 101, .int 115, .int 0]) (rest := [.int 17, .ref (ad a211)]) C (sX11_word  qr212) zcs_X11_180 (by decide) hC rfl rfl rfl (Nat.le_of_ble_eq_true rfl) ⟨by decide, by decide⟩ dX11_init_806 (fun hC => ?_)
  obtain ⟨G213, qG213, hf⟩ := bn hf
  refine v_last C h_a211 qG213 hC dX11_init_809 (fun hC => ?_)
  refine v_aload_n C 0 dX11_init_810 rfl rfl ?_
  obtain ⟨a214, qa214, hf⟩ := bn hf
  refine v_getA C h_l0 zfl_X11_34 qa214 dX11_init_811 (fun h_a214 => ?_)
  refine v_bipush (v := 18) C dX11_init_814 (by decide) ?_
  refine v_bipush (v := 108) C dX11_init_816 (by decide) ?_
  refine v_bipush (v := 111) C dX11_init_818 (by decide) ?_
  refine v_bipush (v := 97) C dX11_init_820 (by decide) ?_
  refine v_bipush (v := 100) C dX11_init_822 (by decide) ?_
  refine v_iconst (v := 0) C dX11_init_824 (by decide) ?_
  refine v_iconst (v := 0) C dX11_init_825 (by decide) ?_
  refine v_iconst (v := 0) C dX11_init_826 (by decide) ?_
  obtain ⟨r215, qr215, hf⟩ := bn hf
  refine v_callSl (As := [.int 108, .int 111, .int 97, .int 100, .int 0, .int 0, .int 0]) (rest := [.int 18, .ref (ad a214)]) C (sX11_word  qr215) zcs_X11_180 (by decide) hC rfl rfl rfl (Nat.le_of_ble_eq_true rfl) ⟨by decide, by decide⟩ dX11_init_827 (fun hC => ?_)
  obtain ⟨G216, qG216, hf⟩ := bn hf
  refine v_last C h_a214 qG216 hC dX11_init_830 (fun hC => ?_)
  refine v_aload_n C 0 dX11_init_831 rfl rfl ?_
  obtain ⟨a217, qa217, hf⟩ := bn hf
  refine v_getA C h_l0 zfl_X11_34 qa217 dX11_init_832 (fun h_a217 => ?_)
  refine v_bipush (v := 19) C dX11_init_835 (by decide) ?_
  refine v_bipush (v := 121) C dX11_init_837 (by decide) ?_
  refine v_bipush (v := 101) C dX11_init_839 (by decide) ?_
  refine v_bipush (v := 97) C dX11_init_841 (by decide) ?_
  refine v_bipush (v := 114) C dX11_init_843 (by decide) ?_
  refine v_iconst (v := 0) C dX11_init_845 (by decide) ?_
  refine v_iconst (v := 0) C dX11_init_846 (by decide) ?_
  refine v_iconst (v := 0) C dX11_init_847 (by decide) ?_
  obtain ⟨r218, qr218, hf⟩ := bn hf
  refine v_callSl (As := [.int 121, .int 101, .int 97, .int 114, .int 0, .int 0, .int 0]) (rest := [.int 19, .ref (ad a217)]) C (sX11_word  qr218) zcs_X11_180 (by decide) hC rfl rfl rfl (Nat.le_of_ble_eq_true rfl) ⟨by decide, by decide⟩ dX11_init_848 (fun hC => ?_)
  obtain ⟨G219, qG219, hf⟩ := bn hf
  refine v_last C h_a217 qG219 hC dX11_init_851 (fun hC => ?_)
  refine v_aload_n C 0 dX11_init_852 rfl rfl ?_
  obtain ⟨a220, qa220, hf⟩ := bn hf
  refine v_getA C h_l0 zfl_X11_34 qa220 dX11_init_853 (fun h_a220 => ?_)
  refine v_bipush (v := 20) C dX11_init_856 (by decide) ?_
  refine v_bipush (v := 115) C dX11_init_858 (by decide) ?_
  refine v_bipush (v := 116) C dX11_init_860 (by decide) ?_
  refine v_bipush (v := 111) C dX11_init_862 (by decide) ?_
  refine v_bipush (v := 111) C dX11_init_864 (by decide) ?_
  refine v_bipush (v := 100) C dX11_init_866 (by decide) ?_
  refine v_iconst (v := 0) C dX11_init_868 (by decide) ?_
  refine v_iconst (v := 0) C dX11_init_869 (by decide) ?_
  obtain ⟨r221, qr221, hf⟩ := bn hf
  refine v_callSl (As := [.int 115, .int 116, .int 111, .int 111, .int 100, .int 0, .int 0]) (rest := [.int 20, .ref (ad a220)]) C (sX11_word  qr221) zcs_X11_180 (by decide) hC rfl rfl rfl (Nat.le_of_ble_eq_true rfl) ⟨by decide, by decide⟩ dX11_init_870 (fun hC => ?_)
  obtain ⟨G222, qG222, hf⟩ := bn hf
  refine v_last C h_a220 qG222 hC dX11_init_873 (fun hC => ?_)
  refine v_aload_n C 0 dX11_init_874 rfl rfl ?_
  obtain ⟨a223, qa223, hf⟩ := bn hf
  refine v_getA C h_l0 zfl_X11_34 qa223 dX11_init_875 (fun h_a223 => ?_)
  refine v_bipush (v := 21) C dX11_init_878 (by decide) ?_
  refine v_bipush (v := 119) C dX11_init_880 (by decide) ?_
  refine v_bipush (v := 104) C dX11_init_882 (by decide) ?_
  refine v_bipush (v := 105) C dX11_init_884 (by decide) ?_
  refine v_bipush (v := 99) C dX11_init_886 (by decide) ?_
  refine v_bipush (v := 104) C dX11_init_888 (by decide) ?_
  refine v_iconst (v := 0) C dX11_init_890 (by decide) ?_
  refine v_iconst (v := 0) C dX11_init_891 (by decide) ?_
  obtain ⟨r224, qr224, hf⟩ := bn hf
  refine v_callSl (As := [.int 119, .int 104, .int 105, .int 99, .int 104, .int 0, .int 0]) (rest := [.int 21, .ref (ad a223)]) C (sX11_word  qr224) zcs_X11_180 (by decide) hC rfl rfl rfl (Nat.le_of_ble_eq_true rfl) ⟨by decide, by decide⟩ dX11_init_892 (fun hC => ?_)
  obtain ⟨G225, qG225, hf⟩ := bn hf
  refine v_last C h_a223 qG225 hC dX11_init_895 (fun hC => ?_)
  refine v_aload_n C 0 dX11_init_896 rfl rfl ?_
  obtain ⟨a226, qa226, hf⟩ := bn hf
  refine v_getA C h_l0 zfl_X11_34 qa226 dX11_init_897 (fun h_a226 => ?_)
  refine v_bipush (v := 22) C dX11_init_900 (by decide) ?_
  refine v_bipush (v := 108) C dX11_init_902 (by decide) ?_
  refine v_bipush (v := 111) C dX11_init_904 (by decide) ?_
  refine v_bipush (v := 115) C dX11_init_906 (by decide) ?_
  refine v_bipush (v := 115) C dX11_init_908 (by decide) ?_
  refine v_iconst (v := 0) C dX11_init_910 (by decide) ?_
  refine v_iconst (v := 0) C dX11_init_911 (by decide) ?_
  refine v_iconst (v := 0) C dX11_init_912 (by decide) ?_
  obtain ⟨r227, qr227, hf⟩ := bn hf
  refine v_callSl (As := [.int 108, .int 111, .int 115, .int 115, .int 0, .int 0, .int 0]) (rest := [.int 22, .ref (ad a226)]) C (sX11_word  qr227) zcs_X11_180 (by decide) hC rfl rfl rfl (Nat.le_of_ble_eq_true rfl) ⟨by decide, by decide⟩ dX11_init_913 (fun hC => ?_)
  obtain ⟨G228, qG228, hf⟩ := bn hf
  refine v_last C h_a226 qG228 hC dX11_init_916 (fun hC => ?_)
  refine v_aload_n C 0 dX11_init_917 rfl rfl ?_
  obtain ⟨a229, qa229, hf⟩ := bn hf
  refine v_getA C h_l0 zfl_X11_34 qa229 dX11_init_918 (fun h_a229 => ?_)
  refine v_bipush (v := 23) C dX11_init_921 (by decide) ?_
  refine v_bipush (v := 109) C dX11_init_923 (by decide) ?_
  refine v_bipush (v := 97) C dX11_init_925 (by decide) ?_
  refine v_bipush (v := 110) C dX11_init_927 (by decide) ?_
  refine v_bipush (v := 121) C dX11_init_929 (by decide) ?_
  refine v_iconst (v := 0) C dX11_init_931 (by decide) ?_
  refine v_iconst (v := 0) C dX11_init_932 (by decide) ?_
  refine v_iconst (v := 0) C dX11_init_933 (by decide) ?_
  obtain ⟨r230, qr230, hf⟩ := bn hf
  refine v_callSl (As := [.int 109, .int 97, .int 110, .int 121, .int 0, .int 0, .int 0]) (rest := [.int 23, .ref (ad a229)]) C (sX11_word  qr230) zcs_X11_180 (by decide) hC rfl rfl rfl (Nat.le_of_ble_eq_true rfl) ⟨by decide, by decide⟩ dX11_init_934 (fun hC => ?_)
  obtain ⟨G231, qG231, hf⟩ := bn hf
  refine v_last C h_a229 qG231 hC dX11_init_937 (fun hC => ?_)
  refine v_aload_n C 0 dX11_init_938 rfl rfl ?_
  obtain ⟨a232, qa232, hf⟩ := bn hf
  refine v_getA C h_l0 zfl_X11_34 qa232 dX11_init_939 (fun h_a232 => ?_)
  refine v_bipush (v := 24) C dX11_init_942 (by decide) ?_
  refine v_bipush (v := 111) C dX11_init_944 (by decide) ?_
  refine v_bipush (v := 112) C dX11_init_946 (by decide) ?_
  refine v_bipush (v := 101) C dX11_init_948 (by decide) ?_
  refine v_bipush (v := 110) C dX11_init_950 (by decide) ?_
  refine v_iconst (v := 0) C dX11_init_952 (by decide) ?_
  refine v_iconst (v := 0) C dX11_init_953 (by decide) ?_
  refine v_iconst (v := 0) C dX11_init_954 (by decide) ?_
  obtain ⟨r233, qr233, hf⟩ := bn hf
  refine v_callSl (As := [.int 111, .int 112, .int 101, .int 110, .int 0, .int 0, .int 0]) (rest := [.int 24, .ref (ad a232)]) C (sX11_word  qr233) zcs_X11_180 (by decide) hC rfl rfl rfl (Nat.le_of_ble_eq_true rfl) ⟨by decide, by decide⟩ dX11_init_955 (fun hC => ?_)
  obtain ⟨G234, qG234, hf⟩ := bn hf
  refine v_last C h_a232 qG234 hC dX11_init_958 (fun hC => ?_)
  refine v_aload_n C 0 dX11_init_959 rfl rfl ?_
  obtain ⟨a235, qa235, hf⟩ := bn hf
  refine v_getA C h_l0 zfl_X11_34 qa235 dX11_init_960 (fun h_a235 => ?_)
  refine v_bipush (v := 25) C dX11_init_963 (by decide) ?_
  refine v_bipush (v := 108) C dX11_init_965 (by decide) ?_
  refine v_bipush (v := 101) C dX11_init_967 (by decide) ?_
  refine v_bipush (v := 97) C dX11_init_969 (by decide) ?_
  refine v_bipush (v := 114) C dX11_init_971 (by decide) ?_
  refine v_bipush (v := 110) C dX11_init_973 (by decide) ?_
  refine v_bipush (v := 116) C dX11_init_975 (by decide) ?_
  refine v_iconst (v := 0) C dX11_init_977 (by decide) ?_
  obtain ⟨r236, qr236, hf⟩ := bn hf
  refine v_callSl (As := [.int 108, .int 101, .int 97, .int 114, .int 110, .int 116, .int 0]) (rest := [.int 25, .ref (ad a235)]) C (sX11_word  qr236) zcs_X11_180 (by decide) hC rfl rfl rfl (Nat.le_of_ble_eq_true rfl) ⟨by decide, by decide⟩ dX11_init_978 (fun hC => ?_)
  obtain ⟨G237, qG237, hf⟩ := bn hf
  refine v_last C h_a235 qG237 hC dX11_init_981 (fun hC => ?_)
  refine v_aload_n C 0 dX11_init_982 rfl rfl ?_
  obtain ⟨G239, qr238, hf⟩ := bn hf
  refine v_callVv (As := []) (rest := []) C (sX11_begins h_l0 qr238) zcs_X11_184 (by decide) h_l0 rfl hC rfl rfl rfl (Nat.le_of_ble_eq_true rfl) ⟨by decide, by decide⟩ dX11_init_983 (fun hC => ?_)
  refine v_aload_n C 0 dX11_init_986 rfl rfl ?_
  obtain ⟨G241, qr240, hf⟩ := bn hf
  refine v_callVv (As := []) (rest := []) C (sX11_keepsRow h_l0 qr240) zcs_X11_187 (by decide) h_l0 rfl hC rfl rfl rfl (Nat.le_of_ble_eq_true rfl) ⟨by decide, by decide⟩ dX11_init_987 (fun hC => ?_)
  cases hf
  refine v_widen (c2 := 52) (s2 := 11493) (by decide) (by decide) ?_
  exact kr _ _ _ hag hC dX11_init_990
theorem sX11_init {l : Launch} {sh : Sh} {G : Hp} {l0 : Nat} {z : Sh × Hp} (h_l0 : sh[l0]? = some (0, 11)) (hf : fX11_init sh G l0 = some z) : MC l yX11_init cX11_init 1 none 3 52 11493 sh z.1 G z.2 (fun ad => [.ref (ad l0)]) (fun _ => none) := by
  refine MC_of rfl rfl (fun _ => Nat.le_of_ble_eq_true rfl) (fun E ad C hl hnm hC hQ => ?_)
  exact tX11_init C hnm hC h_l0 hf (fun pc lv ad2 had hC2 hd => v_vret C hQ had hC2 rfl hd)
