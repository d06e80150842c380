/-! CHECKS OF THE CODE of a long method, in pieces. By program (wip/p63/gen4.py). -/
set_option maxRecDepth 100000 in
theorem pk_158_000001 : pAll 5 (pLeaf 158) 32 64 pI_158.1.1.1.1.1.2 = true := by decide +kernel
set_option maxRecDepth 100000 in
theorem pk_158_000101 : pAll 5 (pLeaf 158) 40 64 pI_158.1.1.1.2.1.2 = true := by decide +kernel
set_option maxRecDepth 100000 in
theorem pk_158_001001 : pAll 5 (pLeaf 158) 36 64 pI_158.1.1.2.1.1.2 = true := by decide +kernel
set_option maxRecDepth 100000 in
theorem pk_158_001101 : pAll 5 (pLeaf 158) 44 64 pI_158.1.1.2.2.1.2 = true := by decide +kernel
set_option maxRecDepth 100000 in
theorem pk_158_010001 : pAll 5 (pLeaf 158) 34 64 pI_158.1.2.1.1.1.2 = true := by decide +kernel
set_option maxRecDepth 100000 in
theorem pk_158_010101 : pAll 5 (pLeaf 158) 42 64 pI_158.1.2.1.2.1.2 = true := by decide +kernel
set_option maxRecDepth 100000 in
theorem pk_158_011001 : pAll 5 (pLeaf 158) 38 64 pI_158.1.2.2.1.1.2 = true := by decide +kernel
set_option maxRecDepth 100000 in
theorem pk_158_011101 : pAll 5 (pLeaf 158) 46 64 pI_158.1.2.2.2.1.2 = true := by decide +kernel
set_option maxRecDepth 100000 in
theorem pk_158_100001 : pAll 5 (pLeaf 158) 33 64 pI_158.2.1.1.1.1.2 = true := by decide +kernel
set_option maxRecDepth 100000 in
theorem pk_158_100101 : pAll 5 (pLeaf 158) 41 64 pI_158.2.1.1.2.1.2 = true := by decide +kernel
set_option maxRecDepth 100000 in
theorem pk_158_101001 : pAll 5 (pLeaf 158) 37 64 pI_158.2.1.2.1.1.2 = true := by decide +kernel
set_option maxRecDepth 100000 in
theorem pk_158_101101 : pAll 5 (pLeaf 158) 45 64 pI_158.2.1.2.2.1.2 = true := by decide +kernel
set_option maxRecDepth 100000 in
theorem pk_158_110001 : pAll 5 (pLeaf 158) 35 64 pI_158.2.2.1.1.1.2 = true := by decide +kernel
set_option maxRecDepth 100000 in
theorem pk_158_110101 : pAll 5 (pLeaf 158) 43 64 pI_158.2.2.1.2.1.2 = true := by decide +kernel
set_option maxRecDepth 100000 in
theorem pk_158_111001 : pAll 5 (pLeaf 158) 39 64 pI_158.2.2.2.1.1.2 = true := by decide +kernel
set_option maxRecDepth 100000 in
theorem pk_158_111101 : pAll 5 (pLeaf 158) 47 64 pI_158.2.2.2.2.1.2 = true := by decide +kernel
